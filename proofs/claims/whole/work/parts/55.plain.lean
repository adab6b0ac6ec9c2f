/-! PURE: plain -/
theorem RelN_C {n k d w : Nat} {u v : S4} (h : RelN n k d w u v) : RelC n k d u v := ⟨h.1, h.2.1, h.2.2.1, h.2.2.2.1, h.2.2.2.2.1, h.2.2.2.2.2.1, h.2.2.2.2.2.2.1, h.2.2.2.2.2.2.2.1⟩
theorem relC_glue {n k d : Nat} {u u' v v' : S4} (h1 : RelC n k d u' v) (h0 : RelC n k d u v) (h2 : RelC n k d u v') : RelC n k d u' v' := by
  obtain ⟨⟨a1, a2, a3, a4, a5⟩, ⟨a6, a7⟩, ⟨a8, a9, a10, a11, a12, a13, a14, a15⟩, ⟨a16, a17, a18, a19⟩, ⟨a20, a21, a22⟩, a23, ⟨a24, a25, a26, a27, a28⟩, ⟨a29, a30, a31, a32, a33⟩⟩ := h1
  obtain ⟨⟨b1, b2, b3, b4, b5⟩, ⟨b6, b7⟩, ⟨b8, b9, b10, b11, b12, b13, b14, b15⟩, ⟨b16, b17, b18, b19⟩, ⟨b20, b21, b22⟩, b23, ⟨b24, b25, b26, b27, b28⟩, ⟨b29, b30, b31, b32, b33⟩⟩ := h0
  obtain ⟨⟨c1, c2, c3, c4, c5⟩, ⟨c6, c7⟩, ⟨c8, c9, c10, c11, c12, c13, c14, c15⟩, ⟨c16, c17, c18, c19⟩, ⟨c20, c21, c22⟩, c23, ⟨c24, c25, c26, c27, c28⟩, ⟨c29, c30, c31, c32, c33⟩⟩ := h2
  refine ⟨⟨a1, a2, c3, fun j => ⟨?_, ?_⟩, c5⟩, ⟨a6.trans (b6.symm.trans c6), c7⟩, ⟨a8, a9, c10, a11.trans (b11.symm.trans c11), a12.trans (b12.symm.trans c12), a13.trans (b13.symm.trans c13), a14.trans (b14.symm.trans c14), c15⟩, ⟨a16.trans (b16.symm.trans c16), a17.trans (b17.symm.trans c17), c18, c19⟩, ⟨a20.trans (b20.symm.trans c20), a21.trans (b21.symm.trans c21), fun j hj => ⟨(a22 j hj).1.trans ((b22 j hj).1.symm.trans (c22 j hj).1), (a22 j hj).2.trans ((b22 j hj).2.symm.trans (c22 j hj).2)⟩⟩, fun j y hj hy => ?_, ⟨a24.trans (b24.symm.trans c24), a25.trans (b25.symm.trans c25), c26, c27, c28⟩, ⟨a29, a30, c31, a32.trans (b32.symm.trans c32), c33⟩⟩
  · exact (a4 j).1.trans ((b4 j).1.symm.trans (c4 j).1)
  · exact (a4 j).2.trans ((b4 j).2.symm.trans (c4 j).2)
  · have p01 : ¬ (0 : Int32) = 1 := by decide
    rcases a23 j y hj hy with ⟨x1, x2⟩ | ⟨x1, x2⟩ <;> rcases b23 j y hj hy with ⟨y1, y2⟩ | ⟨y1, y2⟩ <;> rcases c23 j y hj hy with ⟨z1, z2⟩ | ⟨z1, z2⟩
    · exact Or.inl ⟨z1, x2⟩
    · rw [y2] at z2; cases z2
    · rw [x1] at y1; exact absurd y1 p01
    · rw [x1] at y1; exact absurd y1 p01
    · rw [y1] at x1; exact absurd x1 p01
    · rw [y1] at x1; exact absurd x1 p01
    · rw [y2] at z2; cases z2
    · exact Or.inr ⟨z1, x2⟩
theorem relN_glue {n k d w : Nat} {u u' v v' : S4} (h1 : RelN n k d w u' v) (h0 : RelN n k d w u v) (h2 : RelN n k d w u v') : Rel u' v' := by
  obtain ⟨g1, g2, g3, g4, g5, g6, g7, g8⟩ := relC_glue (RelN_C h1) (RelN_C h0) (RelN_C h2)
  obtain ⟨a1, a2, a3, a4⟩ := h1.2.2.2.2.2.2.2.2
  obtain ⟨b1, b2, b3, b4⟩ := h0.2.2.2.2.2.2.2.2
  obtain ⟨c1, c2, c3, c4⟩ := h2.2.2.2.2.2.2.2.2
  exact ⟨n, k, d, w, g1, g2, g3, g4, g5, g6, g7, g8, a1, a2, c3, fun j hj => ⟨(a4 j hj).1.trans ((b4 j hj).1.symm.trans (c4 j hj).1), (a4 j hj).2.trans ((b4 j hj).2.symm.trans (c4 j hj).2)⟩⟩
def gG (v : S4) (a b : Nat) : Bool := decide (¬ mp_M_goesInto v (nI a) (nI b) = 0)
theorem gX {n k d : Nat} {u v : S4} (h : RelC n k d u v) {a b : Nat} (ha : a < 2 * k) (hb : b < 2 * k) : xq_Net_goesOn u (nI a) (nI b) ∧ (xp_Net_goesOn u (nI a) (nI b) = 0 ↔ gG v a b = false) := by
  obtain ⟨g1, g2, g3, g4⟩ := go_eq h ha hb
  refine ⟨g1, ?_⟩
  rw [g3]
  unfold gG
  simp
theorem gM {n k d : Nat} {u v v' : S4} (h0 : RelC n k d u v) (h : RelC n k d u v') {a b : Nat} (ha : a < 2 * k) (hb : b < 2 * k) : mq_M_goesInto v' (nI a) (nI b) ∧ (mp_M_goesInto v' (nI a) (nI b) = 0 ↔ gG v a b = false) := by
  obtain ⟨g1, g2, g3, g4⟩ := go_eq h ha hb
  refine ⟨g2, ?_⟩
  rw [← g3]
  exact (gX h0 ha hb).2
theorem sides_n {x : Int32} {k : Nat} (iu : x = nI k) : (2 : Int32) * x = nI (2 * k) := by rw [iu, show (2 : Int32) = nI 2 from rfl, pk_mul]
def lvI (o : Option Nat) : Int32 := match o with
  | none => -1
  | some t => nI t
theorem lvI_m1 {o : Option Nat} (h : ∀ x, o = some x → x < 2 ^ 31) : lvI o = -1 ↔ o = none := by
  cases o with
  | none => exact ⟨fun _ => rfl, fun _ => rfl⟩
  | some t =>
    have := nI_ne_m1 (h t rfl)
    constructor
    · intro q; exact absurd q this
    · intro q; cases q
theorem lvI_neg {o : Option Nat} (h : ∀ x, o = some x → x < 2 ^ 31) : ¬ 0 ≤ lvI o ↔ o = none := by
  cases o with
  | none => exact ⟨fun _ => rfl, fun _ => by decide⟩
  | some t =>
    have := nI_pos' (h t rfl)
    constructor
    · intro q; exact absurd this q
    · intro q; cases q
theorem lvI_some {o : Option Nat} {t : Nat} (h : ∀ x, o = some x → x < 2 ^ 31) (ht : t < 2 ^ 31) : lvI o = nI t ↔ o = some t := by
  cases o with
  | none =>
    constructor
    · intro q; exact absurd q.symm (nI_ne_m1 ht)
    · intro q; cases q
  | some x =>
    show nI x = nI t ↔ _
    rw [nI_eq (h x rfl) ht]
    exact ⟨fun q => by rw [q], fun q => Option.some.inj q⟩
def lvA (N A : Nat) (u : S4) (h : Nat → Option Nat) : Prop := ∀ q, q < N → s4_a u A q = lvI (h q)
theorem lvA_set {N A : Nat} {u : S4} {h : Nat → Option Nat} (hA : lvA N A u h) {i x : Nat} (hi : i < 2 ^ 31) : lvA N A (s4_wa u A (nI i) (nI x)) (va_up h i (some x)) := by
  intro q hq
  rw [s4_wa_n hi]
  show va_up u.2.2.1 A (upd (s4_a u A) i (nI x)) A q = _
  unfold va_up
  rw [if_pos rfl]
  unfold upd
  by_cases hqi : q = i
  · rw [if_pos hqi, if_pos hqi]; rfl
  · rw [if_neg hqi, if_neg hqi]; exact hA q hq
theorem bf_small {N : Nat} {go : Nat → Nat → Bool} {t : Nat} {f h : Nat → Option Nat} {a b : Nat} (hI : bg_I N t f) (hP : bf_P N go t f a b h) (ht : t < 64) : ∀ q x, h q = some x → x < 2 ^ 31 := by
  intro q x hq
  by_cases hc : bf_c N go t f a b q
  · rw [(hP q).1 hc] at hq
    have := Option.some.inj hq
    omega
  · rw [(hP q).2 hc] at hq
    have := (hI q x hq).2.1
    omega
section PX
variable {n k d w : Nat} {v : S4} {t : Nat} {f : Nat → Option Nat}
theorem px_step {a : Nat} (ha : a < 2 * k) (hfa : f a = some t) (hI : bg_I (2 * k) t f) (ht : t < 64) : ∀ (m i : Nat) (u : S4) (h : Nat → Option Nat), i ≤ 2 * k → 2 * k < i + m → RelN n k d w u v → lvA (2 * k) 14 u h → bf_P (2 * k) (gG v) t f a i h →
    ∃ (u' : S4) (h' : Nat → Option Nat), RelN n k d w u' v ∧ lvA (2 * k) 14 u' h' ∧ bf_P (2 * k) (gG v) t f a (2 * k) h' ∧ xL_Search_stepOnFrom_2 m u (nI a) (nI i) = u' ∧ xLq_Search_stepOnFrom_2 m u (nI a) (nI i) := by
  intro m
  induction m with
  | zero => intro i u h h1 h2; omega
  | succ m ih =>
    intro i u h h1 h2 hR hA hP
    have k12 := hR.2.2.1.1
    have iu := hR.2.2.1.2.1
    have hs : xp_Streets_sides u = nI (2 * k) := sides_n iu
    show ∃ (u' : S4) (h' : Nat → Option Nat), RelN n k d w u' v ∧ lvA (2 * k) 14 u' h' ∧ bf_P (2 * k) (gG v) t f a (2 * k) h' ∧ xB_Search_stepOnFrom_2 (xL_Search_stepOnFrom_2 m) u (nI a) (nI i) = u' ∧ xBq_Search_stepOnFrom_2 (xLq_Search_stepOnFrom_2 m) u (nI a) (nI i)
    unfold xB_Search_stepOnFrom_2 xBq_Search_stepOnFrom_2
    simp only [hs, nI_1, s4_ra_n (show i < 2 ^ 31 by omega)]
    by_cases hie : i = 2 * k
    · subst hie
      have hle : nI (2 * k) ≤ nI (2 * k) := nI_le (Nat.le_refl _) (by omega)
      simp only [hle, if_true, not_true_eq_false, false_implies]
      exact ⟨u, h, hR, hA, hP, rfl, trivial⟩
    · have hi : i < 2 * k := by omega
      have hle : ¬ nI (2 * k) ≤ nI i := nI_ge hi (by omega)
      have hin : vp_in (nI i) 24 := vp_in_nI (by omega) (by decide)
      have hina : vp_in (nI a) 24 := vp_in_nI (by omega) (by decide)
      simp only [hle, if_false, not_false_eq_true, true_implies, hA i hi, lvI_m1 (bf_small hI hP ht i), hin, hina, true_and]
      by_cases hn : h i = none
      · simp only [hn, if_true, not_true_eq_false, false_implies, and_true, true_implies]
        obtain ⟨g1, g2⟩ := gX (RelN_C hR) ha hi
        simp only [g2, g1, true_and]
        by_cases hg : gG v a i = false
        · simp only [hg, if_true, not_true_eq_false, false_implies, and_true, true_implies]
          exact ih (i + 1) u h (by omega) (by omega) hR hA (bf_not hP (fun q => by rw [hg] at q; exact Bool.noConfusion q.2.2))
        · have hg' : gG v a i = true := by cases hh : gG v a i with
            | true => rfl
            | false => exact absurd hh hg
          simp only [hg', Bool.true_eq_false, if_false, not_false_eq_true, false_implies, true_and, true_implies]
          have hra : s4_ra u 14 (nI a) = nI t := by rw [s4_ra_n (by omega), hA a ha, (bf_at hP).mpr hfa]; rfl
          rw [hra, nI_1]
          exact ih (i + 1) (s4_wa u 14 (nI i) (nI (t + 1))) (va_up h i (some (t + 1))) (by omega) (by omega) hR (lvA_set hA (by omega)) (bf_set hP ha hi hfa hn hg')
      · simp only [hn, if_false, not_false_eq_true, false_implies, true_and, true_implies]
        exact ih (i + 1) u h (by omega) (by omega) hR hA (bf_not hP (fun q => hn q.2.1))
theorem px_row (hI : bg_I (2 * k) t f) (ht : t < 64) {g : Nat} : ∀ (m a : Nat) (u : S4) (h : Nat → Option Nat), a ≤ 2 * k → 2 * k < a + m → RelN n k d w u v → lvA (2 * k) 14 u h → bf_P (2 * k) (gG v) t f a 0 h →
    ∃ (u' : S4) (h' : Nat → Option Nat), RelN n k d w u' v ∧ lvA (2 * k) 14 u' h' ∧ bf_P (2 * k) (gG v) t f (2 * k) 0 h' ∧ (∀ K, xL_Search_fewestSides_63 K m u (nI g) (nI (2 * k)) (nI t) (nI a) = K u' (nI g) (nI (2 * k)) (nI (t + 1))) ∧ (∀ Q : S4 → Int32 → Int32 → Int32 → Prop, Q u' (nI g) (nI (2 * k)) (nI (t + 1)) → xLq_Search_fewestSides_63 Q m u (nI g) (nI (2 * k)) (nI t) (nI a)) := by
  intro m
  induction m with
  | zero => intro a u h h1 h2; omega
  | succ m ih =>
    intro a u h h1 h2 hR hA hP
    have k12 := hR.2.2.1.1
    by_cases hae : a = 2 * k
    · subst hae
      have hle : nI (2 * k) ≤ nI (2 * k) := nI_le (Nat.le_refl _) (by omega)
      refine ⟨u, h, hR, hA, hP, fun K => ?_, fun Q hQ => ?_⟩
      · show xB_Search_fewestSides_63 K _ u _ _ _ _ = _
        unfold xB_Search_fewestSides_63
        simp only [hle, if_true, nI_1]
      · show xBq_Search_fewestSides_63 Q _ u _ _ _ _
        unfold xBq_Search_fewestSides_63
        simp only [hle, not_true_eq_false, false_implies, and_true, true_implies, nI_1]
        exact hQ
    · have ha : a < 2 * k := by omega
      have hle : ¬ nI (2 * k) ≤ nI a := nI_ge ha (by omega)
      have hin : vp_in (nI a) 24 := vp_in_nI (by omega) (by decide)
      have hra : s4_ra u 14 (nI a) = lvI (h a) := by rw [s4_ra_n (by omega), hA a ha]
      have hiff : lvI (h a) = nI t ↔ h a = some t := lvI_some (bf_small hI hP ht a) (by omega)
      by_cases hs : h a = some t
      · obtain ⟨u1, h3, q1, q2, q3, q4, q5⟩ := px_step (n := n) (d := d) (w := w) (v := v) ha ((bf_at hP).mp hs) hI ht 64 0 u h (by omega) (by omega) hR hA hP
        obtain ⟨u', h', r1, r2, r3, r4, r5⟩ := ih (a + 1) u1 h3 (by omega) (by omega) q1 q2 (bf_row q3)
        have e1 : xp_Search_stepOnFrom u (nI a) = u1 := q4
        have e2 : xq_Search_stepOnFrom u (nI a) := q5
        have hlv : s4_ra u 14 (nI a) = nI t := by rw [hra]; exact hiff.mpr hs
        refine ⟨u', h', r1, r2, r3, fun K => ?_, fun Q hQ => ?_⟩
        · show xB_Search_fewestSides_63 K _ u _ _ _ _ = _
          unfold xB_Search_fewestSides_63
          simp only [hle, if_false, hlv, if_true, nI_1, e1]
          exact r4 K
        · show xBq_Search_fewestSides_63 Q _ u _ _ _ _
          unfold xBq_Search_fewestSides_63
          simp only [hle, hlv, nI_1, e1, e2, hin, not_false_eq_true, not_true_eq_false, true_implies, false_implies, true_and, and_true]
          exact r5 Q hQ
      · obtain ⟨u', h', r1, r2, r3, r4, r5⟩ := ih (a + 1) u h (by omega) (by omega) hR hA (bf_skip hP (fun q => hs ((bf_at hP).mpr q)))
        refine ⟨u', h', r1, r2, r3, fun K => ?_, fun Q hQ => ?_⟩
        · show xB_Search_fewestSides_63 K _ u _ _ _ _ = _
          unfold xB_Search_fewestSides_63
          simp only [hle, if_false, hra, hiff, hs, nI_1]
          exact r4 K
        · show xBq_Search_fewestSides_63 Q _ u _ _ _ _
          unfold xBq_Search_fewestSides_63
          simp only [hle, hra, hiff, hs, nI_1, hin, not_false_eq_true, true_implies, false_implies, true_and, and_true]
          exact r5 Q hQ
end PX
/-- the levels after t turns, from s -/
noncomputable def bf_F (N : Nat) (go : Nat → Nat → Bool) (s : Nat) : Nat → Nat → Option Nat
  | 0 => fun m => if m = s then some 0 else none
  | t + 1 => fun m => @ite _ (bf_c N go t (bf_F N go s t) N 0 m) (Classical.propDecidable _) (some (t + 1)) (bf_F N go s t m)
theorem bf_FP (N : Nat) (go : Nat → Nat → Bool) (s t : Nat) : bf_P N go t (bf_F N go s t) N 0 (bf_F N go s (t + 1)) := fun m => by
  exact ⟨fun h => if_pos h, fun h => if_neg h⟩
theorem bf_FI {N : Nat} {go : Nat → Nat → Bool} {s : Nat} (hs : s < N) : ∀ t, bg_I N t (bf_F N go s t) := by
  intro t
  induction t with
  | zero =>
    intro k v hk
    change (if k = s then some 0 else none) = some v at hk
    by_cases h : k = s
    · rw [if_pos h] at hk
      have := Option.some.inj hk
      subst this
      refine ⟨by omega, Nat.le_refl _, fun w hw => ⟨s, hs, ?_⟩⟩
      have : w = 0 := by omega
      subst this
      show (if s = s then some 0 else none) = some 0
      rw [if_pos rfl]
    · rw [if_neg h] at hk; cases hk
  | succ t ih => exact bg_next ih (bf_FP N go s t)
theorem bf_Fkeep {N : Nat} {go : Nat → Nat → Bool} {s m x : Nat} : ∀ {t : Nat} (e : Nat), bf_F N go s t m = some x → bf_F N go s (t + e) m = some x := by
  intro t e
  induction e with
  | zero => intro h; exact h
  | succ e ih => intro h; exact bg_keep (bf_FP N go s (t + e)) (ih h)
theorem bf_Fend {N : Nat} {go : Nat → Nat → Bool} {s : Nat} (hs : s < N) : ∀ e, bf_F N go s (N + e) = bf_F N go s N := by
  intro e
  induction e with
  | zero => rfl
  | succ e ih => exact (bg_stop (bf_FI hs (N + e)) (by omega) (bf_FP N go s (N + e))).trans ih
section PY
variable {n k d w : Nat} {v : S4}
theorem px_turns {s g : Nat} (hs : s < 2 * k) (hg : g < 2 * k) : ∀ (m t : Nat) (u : S4), t ≤ 2 * k → 2 * k < t + m → RelN n k d w u v → lvA (2 * k) 14 u (bf_F (2 * k) (gG v) s t) →
    ∃ u' : S4, RelN n k d w u' v ∧ xL_Search_fewestSides_43 m u (nI g) (nI (2 * k)) (nI t) = (lvI (bf_F (2 * k) (gG v) s 24 g), u') ∧ xLq_Search_fewestSides_43 m u (nI g) (nI (2 * k)) (nI t) := by
  intro m
  induction m with
  | zero => intro t u h1 h2; omega
  | succ m ih =>
    intro t u h1 h2 hR hA
    have k12 := hR.2.2.1.1
    have hin : vp_in (nI g) 24 := vp_in_nI (by omega) (by decide)
    have hra : s4_ra u 14 (nI g) = lvI (bf_F (2 * k) (gG v) s t g) := by rw [s4_ra_n (by omega), hA g hg]
    have hI := bf_FI (N := 2 * k) (go := gG v) hs t
    have hsm : ∀ x, bf_F (2 * k) (gG v) s t g = some x → x < 2 ^ 31 := fun x hx => by have := (hI g x hx).2.1; omega
    show ∃ u' : S4, RelN n k d w u' v ∧ xB_Search_fewestSides_43 (xL_Search_fewestSides_43 m) u (nI g) (nI (2 * k)) (nI t) = (lvI (bf_F (2 * k) (gG v) s 24 g), u') ∧ xBq_Search_fewestSides_43 (xLq_Search_fewestSides_43 m) u (nI g) (nI (2 * k)) (nI t)
    unfold xB_Search_fewestSides_43 xBq_Search_fewestSides_43
    simp only [hra, lvI_m1 hsm, hin, implies_true, true_and, and_true]
    by_cases hte : t = 2 * k
    · subst hte
      have hle : nI (2 * k) ≤ nI (2 * k) := nI_le (Nat.le_refl _) (by omega)
      simp only [hle, if_true, not_true_eq_false, false_implies]
      have e := bf_Fend (N := 2 * k) (go := gG v) hs (24 - 2 * k)
      rw [show 2 * k + (24 - 2 * k) = 24 by omega] at e
      exact ⟨u, hR, by rw [e], trivial⟩
    · have hlt : t < 2 * k := by omega
      have hle : ¬ nI (2 * k) ≤ nI t := nI_ge hlt (by omega)
      simp only [hle, if_false, not_false_eq_true, true_implies]
      by_cases hn : bf_F (2 * k) (gG v) s t g = none
      · simp only [hn, if_true, true_implies]
        obtain ⟨u1, h3, q1, q2, q3, q4, q5⟩ := px_row (n := n) (d := d) (w := w) (v := v) hI (by omega) (g := g) 64 0 u _ (by omega) (by omega) hR hA bf_P0
        have e3 : h3 = bf_F (2 * k) (gG v) s (t + 1) := bf_det q3 (bf_FP _ _ _ _)
        rw [e3] at q2
        obtain ⟨u', r1, r2, r3⟩ := ih (t + 1) u1 (by omega) (by omega) q1 q2
        refine ⟨u', r1, ?_, q5 _ r3⟩
        have := q4 (xL_Search_fewestSides_43 m)
        rw [nI_0] at this
        rw [this]
        exact r2
      · obtain ⟨x, hx⟩ : ∃ x, bf_F (2 * k) (gG v) s t g = some x := by
          cases hh : bf_F (2 * k) (gG v) s t g with
          | none => exact absurd hh hn
          | some x => exact ⟨x, rfl⟩
        simp only [hn, if_false, false_implies]
        have e := bf_Fkeep (24 - t) hx
        rw [show t + (24 - t) = 24 by omega] at e
        exact ⟨u, hR, by rw [hx, e], trivial⟩
theorem px_init {s g : Nat} (hs : s < 2 * k) (hg : g < 2 * k) : ∀ (m i : Nat) (u : S4), i ≤ 2 * k → 2 * k < i + m → RelN n k d w u v → (∀ q, q < i → s4_a u 14 q = -1) →
    ∃ u' : S4, RelN n k d w u' v ∧ xL_Search_fewestSides_12 m u (nI s) (nI g) (nI (2 * k)) (nI i) = (lvI (bf_F (2 * k) (gG v) s 24 g), u') ∧ xLq_Search_fewestSides_12 m u (nI s) (nI g) (nI (2 * k)) (nI i) := by
  intro m
  induction m with
  | zero => intro i u h1 h2; omega
  | succ m ih =>
    intro i u h1 h2 hR hA
    have k12 := hR.2.2.1.1
    have hins : vp_in (nI s) 24 := vp_in_nI (by omega) (by decide)
    show ∃ u' : S4, RelN n k d w u' v ∧ xB_Search_fewestSides_12 (xL_Search_fewestSides_12 m) u (nI s) (nI g) (nI (2 * k)) (nI i) = (lvI (bf_F (2 * k) (gG v) s 24 g), u') ∧ xBq_Search_fewestSides_12 (xLq_Search_fewestSides_12 m) u (nI s) (nI g) (nI (2 * k)) (nI i)
    unfold xB_Search_fewestSides_12 xBq_Search_fewestSides_12
    by_cases hie : i = 2 * k
    · subst hie
      have hle : nI (2 * k) ≤ nI (2 * k) := nI_le (Nat.le_refl _) (by omega)
      simp only [hle, if_true, not_true_eq_false, false_implies, true_implies, and_true, hins, true_and]
      refine px_turns hs hg 64 0 (s4_wa u 14 (nI s) 0) (by omega) (by omega) hR ?_
      have h0 : lvA (2 * k) 14 u (fun _ => none) := fun q hq => hA q hq
      have h2 := lvA_set (i := s) (x := 0) h0 (by omega)
      exact h2
    · have hi : i < 2 * k := by omega
      have hle : ¬ nI (2 * k) ≤ nI i := nI_ge hi (by omega)
      have hin : vp_in (nI i) 24 := vp_in_nI (by omega) (by decide)
      simp only [hle, if_false, not_false_eq_true, false_implies, true_implies, true_and, hin, nI_1]
      refine ih (i + 1) (s4_wa u 14 (nI i) (-1)) (by omega) (by omega) hR (fun q hq => ?_)
      rw [s4_wa_n (by omega)]
      show upd (s4_a u 14) i (-1) q = -1
      unfold upd
      by_cases hqi : q = i
      · rw [if_pos hqi]
      · rw [if_neg hqi]; exact hA q (by omega)
end PY
section PM
variable {n k d w : Nat} {u v : S4}
theorem pm_row {t : Nat} {f : Nat → Option Nat} (h0 : RelN n k d w u v) (hI : bg_I (2 * k) t f) (ht : t < 64) {g a : Nat} (ha : a < 2 * k) : ∀ (m i : Nat) (v' : S4) (h : Nat → Option Nat), i ≤ 2 * k → 2 * k < i + m → RelN n k d w u v' → lvA (2 * k) 18 v' h → bf_P (2 * k) (gG v) t f a i h →
    ∃ (v2 : S4) (h' : Nat → Option Nat), RelN n k d w u v2 ∧ lvA (2 * k) 18 v2 h' ∧ bf_P (2 * k) (gG v) t f a (2 * k) h' ∧ (∀ K1 K2, mL_M_plain_73 K1 K2 m v' (nI g) (nI t) (nI a) (nI i) = K2 v2 (nI g) (nI t) (nI (a + 1))) ∧ (∀ (Q1 : S4 → Int32 → Int32 → Prop) (Q2 : S4 → Int32 → Int32 → Int32 → Prop), Q2 v2 (nI g) (nI t) (nI (a + 1)) → mLq_M_plain_73 Q1 Q2 m v' (nI g) (nI t) (nI a) (nI i)) := by
  intro m
  induction m with
  | zero => intro i v' h h1 h2; omega
  | succ m ih =>
    intro i v' h h1 h2 hR hA hP
    have k12 := hR.2.2.1.1
    have iv := hR.2.2.1.2.2.1
    have hs := sides_n iv
    by_cases hie : i = 2 * k
    · subst hie
      have hle : nI (2 * k) ≤ nI (2 * k) := nI_le (Nat.le_refl _) (by omega)
      refine ⟨v', h, hR, hA, hP, fun K1 K2 => ?_, fun Q1 Q2 hQ => ?_⟩
      · show mB_M_plain_73 K1 K2 _ v' _ _ _ _ = _
        unfold mB_M_plain_73
        simp only [hs, hle, if_true, nI_1]
      · show mBq_M_plain_73 Q1 Q2 _ v' _ _ _ _
        unfold mBq_M_plain_73
        simp only [hs, hle, not_true_eq_false, false_implies, and_true, true_implies, nI_1]
        exact hQ
    · have hi : i < 2 * k := by omega
      have hle : ¬ nI (2 * k) ≤ nI i := nI_ge hi (by omega)
      have hin : vp_in (nI i) 24 := vp_in_nI (by omega) (by decide)
      have hina : vp_in (nI a) 24 := vp_in_nI (by omega) (by decide)
      have hsm := bf_small hI hP ht
      have hra : s4_ra v' 18 (nI a) = nI t ↔ f a = some t := by
        rw [s4_ra_n (by omega), hA a ha, lvI_some (hsm a) (by omega)]
        exact bf_at hP
      have hri : (0 ≤ s4_ra v' 18 (nI i)) ↔ ¬ h i = none := by
        rw [s4_ra_n (by omega), hA i hi, ← lvI_neg (hsm i)]
        exact Decidable.not_not.symm
      obtain ⟨g1, g2⟩ := gM (RelN_C h0) (RelN_C hR) ha hi
      have skip : ¬ (f a = some t ∧ h i = none ∧ gG v a i = true) → ∃ (v2 : S4) (h' : Nat → Option Nat), RelN n k d w u v2 ∧ lvA (2 * k) 18 v2 h' ∧ bf_P (2 * k) (gG v) t f a (2 * k) h' ∧ (∀ K1 K2, mL_M_plain_73 K1 K2 m v' (nI g) (nI t) (nI a) (nI (i + 1)) = K2 v2 (nI g) (nI t) (nI (a + 1))) ∧ (∀ (Q1 : S4 → Int32 → Int32 → Prop) (Q2 : S4 → Int32 → Int32 → Int32 → Prop), Q2 v2 (nI g) (nI t) (nI (a + 1)) → mLq_M_plain_73 Q1 Q2 m v' (nI g) (nI t) (nI a) (nI (i + 1))) :=
        fun z => ih (i + 1) v' h (by omega) (by omega) hR hA (bf_not hP z)
      by_cases c1 : f a = some t
      · have c1' := hra.mpr c1
        by_cases c2 : h i = none
        · have c2' : ¬ 0 ≤ s4_ra v' 18 (nI i) := fun q => hri.mp q c2
          by_cases c3 : gG v a i = false
          · have c3' := g2.mpr c3
            obtain ⟨v2, h', r1, r2, r3, r4, r5⟩ := skip (fun z => by rw [c3] at z; exact Bool.noConfusion z.2.2)
            refine ⟨v2, h', r1, r2, r3, fun K1 K2 => ?_, fun Q1 Q2 hQ => ?_⟩
            · show mB_M_plain_73 K1 K2 _ v' _ _ _ _ = _
              unfold mB_M_plain_73
              simp only [hs, hle, if_false, c1', c2', c3', if_true, nI_1]
              exact r4 K1 K2
            · show mBq_M_plain_73 Q1 Q2 _ v' _ _ _ _
              unfold mBq_M_plain_73
              simp only [hs, hle, c1', c2', c3', g1, hin, hina, nI_1, not_false_eq_true, not_true_eq_false, true_implies, false_implies, true_and, and_true]
              exact r5 Q1 Q2 hQ
          · have c3' : ¬ mp_M_goesInto v' (nI a) (nI i) = 0 := fun q => c3 (g2.mp q)
            have c3'' : gG v a i = true := by cases hh : gG v a i with
              | true => rfl
              | false => exact absurd hh c3
            obtain ⟨v2, h', r1, r2, r3, r4, r5⟩ := ih (i + 1) (s4_wa v' 18 (nI i) (nI (t + 1))) (va_up h i (some (t + 1))) (by omega) (by omega) hR (lvA_set hA (by omega)) (bf_set hP ha hi c1 c2 c3'')
            refine ⟨v2, h', r1, r2, r3, fun K1 K2 => ?_, fun Q1 Q2 hQ => ?_⟩
            · show mB_M_plain_73 K1 K2 _ v' _ _ _ _ = _
              unfold mB_M_plain_73
              simp only [hs, hle, if_false, c1', c2', c3', if_true, nI_1]
              exact r4 K1 K2
            · show mBq_M_plain_73 Q1 Q2 _ v' _ _ _ _
              unfold mBq_M_plain_73
              simp only [hs, hle, c1', c2', c3', g1, hin, hina, nI_1, not_false_eq_true, not_true_eq_false, true_implies, false_implies, true_and, and_true]
              exact r5 Q1 Q2 hQ
        · have c2' : 0 ≤ s4_ra v' 18 (nI i) := hri.mpr c2
          obtain ⟨v2, h', r1, r2, r3, r4, r5⟩ := skip (fun z => c2 z.2.1)
          refine ⟨v2, h', r1, r2, r3, fun K1 K2 => ?_, fun Q1 Q2 hQ => ?_⟩
          · show mB_M_plain_73 K1 K2 _ v' _ _ _ _ = _
            unfold mB_M_plain_73
            simp only [hs, hle, if_false, c1', c2', if_true, nI_1]
            exact r4 K1 K2
          · show mBq_M_plain_73 Q1 Q2 _ v' _ _ _ _
            unfold mBq_M_plain_73
            simp only [hs, hle, c1', c2', hin, hina, nI_1, not_false_eq_true, not_true_eq_false, true_implies, false_implies, true_and, and_true]
            exact r5 Q1 Q2 hQ
      · have c1' : ¬ s4_ra v' 18 (nI a) = nI t := fun q => c1 (hra.mp q)
        obtain ⟨v2, h', r1, r2, r3, r4, r5⟩ := skip (fun z => c1 z.1)
        refine ⟨v2, h', r1, r2, r3, fun K1 K2 => ?_, fun Q1 Q2 hQ => ?_⟩
        · show mB_M_plain_73 K1 K2 _ v' _ _ _ _ = _
          unfold mB_M_plain_73
          simp only [hs, hle, if_false, c1', nI_1]
          exact r4 K1 K2
        · show mBq_M_plain_73 Q1 Q2 _ v' _ _ _ _
          unfold mBq_M_plain_73
          simp only [hs, hle, c1', hin, hina, nI_1, not_false_eq_true, true_implies, false_implies, true_and, and_true]
          exact r5 Q1 Q2 hQ
theorem pm_turn {t : Nat} {f : Nat → Option Nat} (h0 : RelN n k d w u v) (hI : bg_I (2 * k) t f) (ht : t < 64) {g : Nat} : ∀ (m a : Nat) (v' : S4) (h : Nat → Option Nat), a ≤ 2 * k → 2 * k < a + m → RelN n k d w u v' → lvA (2 * k) 18 v' h → bf_P (2 * k) (gG v) t f a 0 h →
    ∃ (v2 : S4) (h' : Nat → Option Nat), RelN n k d w u v2 ∧ lvA (2 * k) 18 v2 h' ∧ bf_P (2 * k) (gG v) t f (2 * k) 0 h' ∧ (∀ K, mL_M_plain_59 K m v' (nI g) (nI t) (nI a) = K v2 (nI g) (nI (t + 1))) ∧ (∀ Q : S4 → Int32 → Int32 → Prop, Q v2 (nI g) (nI (t + 1)) → mLq_M_plain_59 Q m v' (nI g) (nI t) (nI a)) := by
  intro m
  induction m with
  | zero => intro a v' h h1 h2; omega
  | succ m ih =>
    intro a v' h h1 h2 hR hA hP
    have k12 := hR.2.2.1.1
    have hs := sides_n hR.2.2.1.2.2.1
    by_cases hae : a = 2 * k
    · subst hae
      have hle : nI (2 * k) ≤ nI (2 * k) := nI_le (Nat.le_refl _) (by omega)
      refine ⟨v', h, hR, hA, hP, fun K => ?_, fun Q hQ => ?_⟩
      · show mB_M_plain_59 K _ v' _ _ _ = _
        unfold mB_M_plain_59
        simp only [hs, hle, if_true, nI_1]
      · show mBq_M_plain_59 Q _ v' _ _ _
        unfold mBq_M_plain_59
        simp only [hs, hle, not_true_eq_false, false_implies, and_true, true_implies, nI_1]
        exact hQ
    · have ha : a < 2 * k := by omega
      have hle : ¬ nI (2 * k) ≤ nI a := nI_ge ha (by omega)
      obtain ⟨v1, h3, q1, q2, q3, q4, q5⟩ := pm_row h0 hI ht (g := g) ha 64 0 v' h (by omega) (by omega) hR hA hP
      obtain ⟨v2, h', r1, r2, r3, r4, r5⟩ := ih (a + 1) v1 h3 (by omega) (by omega) q1 q2 (bf_row q3)
      refine ⟨v2, h', r1, r2, r3, fun K => ?_, fun Q hQ => ?_⟩
      · show mB_M_plain_59 K _ v' _ _ _ = _
        unfold mB_M_plain_59
        simp only [hs, hle, if_false]
        exact (q4 K (mL_M_plain_59 K m)).trans (r4 K)
      · show mBq_M_plain_59 Q _ v' _ _ _
        unfold mBq_M_plain_59
        simp only [hs, hle, not_false_eq_true, true_implies, false_implies, true_and]
        exact q5 Q _ (r5 Q hQ)
theorem pm_turns (h0 : RelN n k d w u v) {s g : Nat} (hs : s < 2 * k) (hg : 2 * g < 2 * k) : ∀ (m t : Nat) (v' : S4), t ≤ 24 → 24 < t + m → RelN n k d w u v' → lvA (2 * k) 18 v' (bf_F (2 * k) (gG v) s t) →
    ∃ v2 : S4, RelN n k d w u v2 ∧ mL_M_plain_50 m v' (nI g) (nI t) = (lvI (bf_F (2 * k) (gG v) s 24 (2 * g)), v2) ∧ mLq_M_plain_50 m v' (nI g) (nI t) := by
  intro m
  induction m with
  | zero => intro t v' h1 h2; omega
  | succ m ih =>
    intro t v' h1 h2 hR hA
    have k12 := hR.2.2.1.1
    have e2 : (2 : Int32) * nI g = nI (2 * g) := sides_n rfl
    have hin : vp_in (nI (2 * g)) 24 := vp_in_nI (by omega) (by decide)
    show ∃ v2 : S4, RelN n k d w u v2 ∧ mB_M_plain_50 (mL_M_plain_50 m) v' (nI g) (nI t) = (lvI (bf_F (2 * k) (gG v) s 24 (2 * g)), v2) ∧ mBq_M_plain_50 (mLq_M_plain_50 m) v' (nI g) (nI t)
    unfold mB_M_plain_50 mBq_M_plain_50
    simp only [e2, hin, implies_true, true_and]
    by_cases hte : t = 24
    · subst hte
      have hle : (24 : Int32) ≤ nI 24 := nI_le (a := 24) (Nat.le_refl _) (by decide)
      simp only [hle, if_true, not_true_eq_false, false_implies]
      exact ⟨v', hR, by rw [s4_ra_n (by omega), hA _ hg], trivial⟩
    · have hle : ¬ (24 : Int32) ≤ nI t := nI_ge (b := 24) (by omega) (by decide)
      simp only [hle, if_false, not_false_eq_true, true_implies]
      obtain ⟨v1, h3, q1, q2, q3, q4, q5⟩ := pm_turn h0 (bf_FI (N := 2 * k) (go := gG v) hs t) (by omega) (g := g) 64 0 v' _ (by omega) (by omega) hR hA bf_P0
      have e3 : h3 = bf_F (2 * k) (gG v) s (t + 1) := bf_det q3 (bf_FP _ _ _ _)
      rw [e3] at q2
      obtain ⟨v2, r1, r2, r3⟩ := ih (t + 1) v1 (by omega) (by omega) q1 q2
      refine ⟨v2, r1, ?_, q5 _ r3⟩
      have := q4 (mL_M_plain_50 m)
      rw [nI_0] at this
      rw [this]
      exact r2
theorem pm_init (h0 : RelN n k d w u v) {s g : Nat} (hs : 2 * s < 2 * k) (hg : 2 * g < 2 * k) : ∀ (m i : Nat) (v' : S4), i ≤ 24 → 24 < i + m → RelN n k d w u v' → (∀ q, q < i → s4_a v' 18 q = -1) →
    ∃ v2 : S4, RelN n k d w u v2 ∧ mL_M_plain_20 m v' (nI s) (nI g) (nI i) = (lvI (bf_F (2 * k) (gG v) (2 * s) 24 (2 * g)), v2) ∧ mLq_M_plain_20 m v' (nI s) (nI g) (nI i) := by
  intro m
  induction m with
  | zero => intro i v' h1 h2; omega
  | succ m ih =>
    intro i v' h1 h2 hR hA
    have k12 := hR.2.2.1.1
    have e2 : (2 : Int32) * nI s = nI (2 * s) := sides_n rfl
    have hins : vp_in (nI (2 * s)) 24 := vp_in_nI (by omega) (by decide)
    show ∃ v2 : S4, RelN n k d w u v2 ∧ mB_M_plain_20 (mL_M_plain_20 m) v' (nI s) (nI g) (nI i) = (lvI (bf_F (2 * k) (gG v) (2 * s) 24 (2 * g)), v2) ∧ mBq_M_plain_20 (mLq_M_plain_20 m) v' (nI s) (nI g) (nI i)
    unfold mB_M_plain_20 mBq_M_plain_20
    by_cases hie : i = 24
    · subst hie
      have hle : (24 : Int32) ≤ nI 24 := nI_le (a := 24) (Nat.le_refl _) (by decide)
      simp only [hle, if_true, not_true_eq_false, false_implies, true_implies, and_true, e2, hins, true_and]
      refine pm_turns h0 hs hg 64 0 (s4_wa v' 18 (nI (2 * s)) 0) (by omega) (by omega) hR ?_
      have h1 : lvA (2 * k) 18 v' (fun _ => none) := fun q hq => hA q (by omega)
      have h2 := lvA_set (i := 2 * s) (x := 0) h1 (by omega)
      exact h2
    · have hle : ¬ (24 : Int32) ≤ nI i := nI_ge (b := 24) (by omega) (by decide)
      have hin : vp_in (nI i) 24 := vp_in_nI (by omega) (by decide)
      simp only [hle, if_false, not_false_eq_true, false_implies, true_implies, true_and, hin, nI_1]
      refine ih (i + 1) (s4_wa v' 18 (nI i) (-1)) (by omega) (by omega) hR (fun q hq => ?_)
      rw [s4_wa_n (by omega)]
      show upd (s4_a v' 18) i (-1) q = -1
      unfold upd
      by_cases hqi : q = i
      · rw [if_pos hqi]
      · rw [if_neg hqi]; exact hA q (by omega)
end PM
theorem op_plain {u v : S4} (h : Rel u v) (x1 : Int32) (x2 : Int32) : (xq_O_plain u x1 x2) ∧ (mq_M_plain v x1 x2) ∧ (xp_O_plain u x1 x2).1 = (mp_M_plain v x1 x2).1 ∧ Rel (xp_O_plain u x1 x2).2 (mp_M_plain v x1 x2).2 := by
  obtain ⟨n, k, d, w, hR⟩ := id h
  have k12 := hR.2.2.1.1
  have iu := hR.2.2.1.2.1
  have iv := hR.2.2.1.2.2.1
  rcases isStreet_or iv (by omega) x1 with g0 | ⟨g1, a, ha, rfl⟩
  · exact op_mk (r := -1) (U := u) (V := v) (by simp [xq_O_plain, sh_eq iu iv, g0]) (by simp [mq_M_plain, g0]) (by simp [xp_O_plain, sh_eq iu iv, g0]) (by simp [mp_M_plain, g0]) h
  · have g1' : ¬ mp_M_isStreet v (nI a) = 0 := by rw [g1]; exact one_ne
    rcases isStreet_or iv (by omega) x2 with f0 | ⟨f1, b, hb, rfl⟩
    · exact op_mk (r := -1) (U := u) (V := v) (by simp [xq_O_plain, sh_eq iu iv, g1', f0]) (by simp [mq_M_plain, g1', f0]) (by simp [xp_O_plain, sh_eq iu iv, g1', f0]) (by simp [mp_M_plain, g1', f0]) h
    · have f1' : ¬ mp_M_isStreet v (nI b) = 0 := by rw [f1]; exact one_ne
      have ea : (2 : Int32) * nI a + 0 = nI (2 * a) := by rw [sides_n (x := nI a) rfl, show (0 : Int32) = nI 0 from rfl, nI_add, Nat.add_zero]
      have eb : (2 : Int32) * nI b + 0 = nI (2 * b) := by rw [sides_n (x := nI b) rfl, show (0 : Int32) = nI 0 from rfl, nI_add, Nat.add_zero]
      obtain ⟨u', p1, p2, p3⟩ := px_init (n := n) (d := d) (w := w) (v := v) (k := k) (s := 2 * a) (g := 2 * b) (by omega) (by omega) 64 0 u (by omega) (by omega) hR (fun q hq => absurd hq (Nat.not_lt_zero _))
      obtain ⟨v', q1, q2, q3⟩ := pm_init hR (s := a) (g := b) (by omega) (by omega) 64 0 v (by omega) (by omega) hR (fun q hq => absurd hq (Nat.not_lt_zero _))
      have hsd : xp_Streets_sides u = nI (2 * k) := sides_n iu
      refine op_mk (r := lvI (bf_F (2 * k) (gG v) (2 * a) 24 (2 * b))) (U := u') (V := v') ?_ ?_ ?_ ?_ (relN_glue p1 hR q1)
      · simp only [xq_O_plain, sh_eq iu iv, g1', f1', xp_O_numberOf, ea, eb, xq_Search_fewestSides, hsd, not_false_eq_true, true_implies]
        exact p3
      · simp only [mq_M_plain, g1', f1', not_false_eq_true, true_implies]
        exact q3
      · simp only [xp_O_plain, sh_eq iu iv, g1', f1', xp_O_numberOf, ea, eb, xp_Search_fewestSides, hsd, if_false]
        exact p2
      · simp only [mp_M_plain, g1', f1', if_false]
        exact q2
