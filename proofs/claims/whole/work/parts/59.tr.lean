/-! PURE: the way, step by step -/
def wF (v : S4) (k : Nat) (e : Nat → Nat) (g a b : Nat) : Prop := b < 2 * k ∧ ld (2 * k) (EV v k) e g b ∧ EV v k a b (e a) = some (e b) ∧ ∀ j, j < b → ¬ (ld (2 * k) (EV v k) e g j ∧ EV v k a j (e a) = some (e j))
def wC (v : S4) (k : Nat) (e : Nat → Nat) (g : Nat) (c : Nat → Nat) (i : Nat) : Prop := ∀ j, j < i → c j ≠ g ∧ wF v k e g (c j) (c (j + 1))
theorem wF_fun {v : S4} {k : Nat} {e : Nat → Nat} {g a b b' : Nat} (h : wF v k e g a b) (h' : wF v k e g a b') : b = b' := by
  rcases Nat.lt_trichotomy b b' with z | z | z
  · exact absurd ⟨h.2.1, h.2.2.1⟩ (h'.2.2.2 b z)
  · exact z
  · exact absurd ⟨h'.2.1, h'.2.2.1⟩ (h.2.2.2 b' z)
theorem wC_fun {v : S4} {k : Nat} {e : Nat → Nat} {g : Nat} {c c' : Nat → Nat} {h h' : Nat} (h0 : c 0 = c' 0) (hc : wC v k e g c h) (hc' : wC v k e g c' h') (hg : c h = g) (hg' : c' h' = g) : h = h' ∧ ∀ i, i ≤ h → c i = c' i := by
  have key : ∀ i, i ≤ h → i ≤ h' → c i = c' i := by
    intro i
    induction i with
    | zero => intro _ _; exact h0
    | succ i ih =>
      intro h1 h2
      have e1 := ih (by omega) (by omega)
      have f1 := (hc i (by omega)).2
      have f2 := (hc' i (by omega)).2
      rw [e1] at f1
      exact wF_fun f1 f2
  have heq : h = h' := by
    rcases Nat.lt_trichotomy h h' with z | z | z
    · have := key h (Nat.le_refl _) (by omega)
      exact absurd (this.symm.trans hg) (hc' h z).1
    · exact z
    · have := key h' (by omega) (Nat.le_refl _)
      exact absurd (this.trans hg') (hc h' z).1
  exact ⟨heq, fun i hi => key i hi (by omega)⟩
section WX
variable {n k d : Nat} {u v : S4}
def wA (u : S4) (I A B : Nat) (v : S4) (e : Nat → Nat) (c : Nat → Nat) (i : Nat) : Prop := s4_i u I = nI i ∧ ∀ j, j < i → s4_a u A j = nI (c (j + 1)) ∧ s4_a u B j = nI (e (c (j + 1)) - secN v (c (j + 1)))
theorem ld_all {st t0 : Nat} {x : dj_X} {g : Nat} (hE : dj_good 63244800 (EV v k)) (hI : dj_I (2 * k) 63244800 st t0 x) (hn : dj_st (2 * k) 63244800 (EV v k) x = none) (hg : g < 2 * k) (hgz : x.1 g < 63244800) {y : Nat} (hy : y < 2 * k) : ld_i (2 * k) (EV v k) x.1 g x.2.2.1 x.2.2.2 0 y ↔ ld (2 * k) (EV v k) x.1 g y :=
  ⟨fun h => ld_i_ld h, fun h => by
    obtain ⟨i, h1, h2⟩ := ld_in hE hI hn hg hgz hy h
    exact Or.inr ⟨i, Nat.zero_le _, h1, h2, h⟩⟩
/-- one more step: a later place of the order -/
theorem w_next {st t0 : Nat} {x : dj_X} {g : Nat} (hE : dj_good 63244800 (EV v k)) (hI : dj_I (2 * k) 63244800 st t0 x) (hn : dj_st (2 * k) 63244800 (EV v k) x = none) {p b : Nat} (hp : p < x.2.2.2) (h : wF v k x.1 g (x.2.2.1 p) b) : ∃ p', p < p' ∧ p' < x.2.2.2 ∧ x.2.2.1 p' = b := ld_ix hE hI hn hp h.1 h.2.2.1
theorem sec_le (h : RelC n k d u v) {a b t r : Nat} (hb : EV v k a b t = some r) : secN v b ≤ r ∧ t + secN v b ≤ r ∧ r < 63244800 ∧ 1 ≤ secN v b := by
  unfold EV at hb
  by_cases hc : a < 2 * k ∧ b < 2 * k ∧ t < 63244800 ∧ gG v a b = true
  · rw [if_pos hc] at hb
    obtain ⟨o, -, b2, b3, -, -, b6, b7, -⟩ := beg_eq h hc.1 hc.2.1 (show t < 90000000 by have := hc.2.2.1; omega)
    rw [bgO_eq b2 (fun x hx => by have := b3 x hx; omega)] at hb
    cases o with
    | none => cases hb
    | some x =>
      have hx := b3 x rfl
      have : x + secN v b = r := Option.some.inj hb
      omega
  · rw [if_neg hc] at hb; cases hb
theorem fx_trace {st t0 : Nat} {x : dj_X} {g : Nat} (hE : dj_good 63244800 (EV v k)) (hI : dj_I (2 * k) 63244800 st t0 x) (hn : dj_st (2 * k) 63244800 (EV v k) x = none) (hg : g < 2 * k) (hgz : x.1 g < 63244800) : ∀ (m i : Nat) (u : S4) (c : Nat → Nat) (p : Nat), 24 < i + m → i ≤ p → p < x.2.2.2 → x.2.2.1 p = c i → ld (2 * k) (EV v k) x.1 g (c i) → wC v k x.1 g c i → RelC n k d u v → (∀ q, q < 24 → s4_a u 10 q = nI (x.1 q)) → LA (2 * k) u 12 (ld (2 * k) (EV v k) x.1 g) → wA u 3 15 16 v x.1 c i →
    ∃ (u' : S4) (h : Nat) (c' : Nat → Nat), h < 24 ∧ c' 0 = c 0 ∧ c' h = g ∧ wC v k x.1 g c' h ∧ RelC n k d u' v ∧ (∀ q, q < 24 → s4_a u' 10 q = nI (x.1 q)) ∧ wA u' 3 15 16 v x.1 c' h ∧ xL_Search_trace_6 m u (nI g) (nI (c i)) (nI i) = u' ∧ xLq_Search_trace_6 m u (nI g) (nI (c i)) (nI i) := by
  intro m
  induction m with
  | zero =>
    intro i u c p h1 h2 h3 h4 h5 h6 hR
    have k12 := hR.2.2.1.1
    have := dj_cnt hI
    omega
  | succ m ih =>
    intro i u c p h1 h2 h3 h4 h5 h6 hR he hL hw
    have k12 := hR.2.2.1.1
    have hcN := dj_cnt hI
    have hset := hI.2.1 _ (hI.2.2.2.1 p h3)
    rw [h4] at hset
    show ∃ (u' : S4) (h : Nat) (c' : Nat → Nat), h < 24 ∧ c' 0 = c 0 ∧ c' h = g ∧ wC v k x.1 g c' h ∧ RelC n k d u' v ∧ (∀ q, q < 24 → s4_a u' 10 q = nI (x.1 q)) ∧ wA u' 3 15 16 v x.1 c' h ∧ xB_Search_trace_6 (xL_Search_trace_6 m) u (nI g) (nI (c i)) (nI i) = u' ∧ xBq_Search_trace_6 (xLq_Search_trace_6 m) u (nI g) (nI (c i)) (nI i)
    unfold xB_Search_trace_6 xBq_Search_trace_6
    have hle : ¬ (24 : Int32) ≤ nI i := nI_ge (b := 24) (by omega) (by decide)
    have heqg : nI (c i) = nI g ↔ c i = g := nI_eq (by omega) (by omega)
    simp only [hle, if_false, not_false_eq_true, true_implies, heqg]
    by_cases hcg : c i = g
    · simp only [hcg, if_true, not_true_eq_false, false_implies]
      exact ⟨u, i, c, by omega, rfl, hcg, h6, hR, he, hw, rfl, trivial⟩
    · simp only [hcg, if_false, not_false_eq_true, true_implies]
      obtain ⟨f1, f2⟩ := fx_first hR he hI.1 hL (a := c i) hset.1 hset.2 64 0 (by omega) (by omega) (fun j hj => absurd hj (Nat.not_lt_zero _))
      have e2 : xq_Search_firstLeading u (nI (c i)) := f1
      rcases f2 with ⟨f3, f4⟩ | ⟨b, b1, b2, b3, b4, b5⟩
      · rcases ld_or h5 with z | ⟨b, z1, z2, z3⟩
        · exact absurd z hcg
        · exact absurd ⟨z3, z2⟩ (f4 b z1)
      · have e1 : xp_Search_firstLeading u (nI (c i)) = nI b := b2
        have hne : ¬ nI b = -1 := nI_ne_m1 (by omega)
        have hF : wF v k x.1 g (c i) b := ⟨b1, b3, b4, b5⟩
        obtain ⟨p', q1, q2, q3⟩ := w_next hE hI hn h3 (by rw [h4]; exact hF)
        obtain ⟨s1, s2, s3, s4⟩ := sec_le hR b4
        obtain ⟨o, -, -, -, -, -, -, -, -, g1, g2⟩ := beg_eq hR b1 b1 (t := 0) (by omega)
        have hinb : vp_in (nI b) 24 := vp_in_nI (by omega) (by decide)
        have hini : vp_in (nI i) 24 := vp_in_nI (by omega) (by decide)
        have hrb : s4_ra u 10 (nI b) = nI (x.1 b) := by rw [s4_ra_n (by omega), he b (by omega)]
        have hsub : nI (x.1 b) - nI (secN v b) = nI (x.1 b - secN v b) := pk_sub s1
        have hlt : nI i < (24 : Int32) := nI_lt (b := 24) (by omega) (by decide)
        have h31 := hw.1
        have happ : xp_HeldWay_append u (nI b) (nI (x.1 b - secN v b)) = s4_si (s4_wa (s4_wa u 15 (nI i) (nI b)) 16 (nI i) (nI (x.1 b - secN v b))) 3 (nI (i + 1)) := by
          unfold xp_HeldWay_append
          rw [h31, if_pos hlt]
          show s4_si (s4_wa (s4_wa u 15 (nI i) (nI b)) 16 (s4_i u 3) (nI (x.1 b - secN v b))) 3 (s4_i u 3 + 1) = _
          rw [h31, nI_1]
        have hqapp : xq_HeldWay_append u (nI b) (nI (x.1 b - secN v b)) := by
          unfold xq_HeldWay_append
          intro _
          refine ⟨by rw [h31]; exact hini, ?_⟩
          show vp_in (s4_i u 3) 24
          rw [h31]; exact hini
        simp only [e1, e2, hne, if_false, not_false_eq_true, true_implies, g1, g2, hrb, hsub, happ, hqapp, hinb, true_and, nI_1]
        let c1 : Nat → Nat := va_up c (i + 1) b
        have hc1i : ∀ j, j ≤ i → c1 j = c j := fun j hj => by show va_up c (i + 1) b j = c j; unfold va_up; rw [if_neg (by omega)]
        have hc1b : c1 (i + 1) = b := by show va_up c (i + 1) b (i + 1) = b; unfold va_up; rw [if_pos rfl]
        obtain ⟨u', h, c', r1, r2, r3, r4, r5, r6, r7, r8, r9⟩ := ih (i + 1) (s4_si (s4_wa (s4_wa u 15 (nI i) (nI b)) 16 (nI i) (nI (x.1 b - secN v b))) 3 (nI (i + 1))) c1 p' (by omega) (by omega) q2 (by rw [hc1b]; exact q3) (by rw [hc1b]; exact b3) (fun j hj => by
            by_cases hji : j = i
            · subst hji
              rw [hc1i j (Nat.le_refl _), hc1b]
              exact ⟨hcg, hF⟩
            · rw [hc1i j (by omega), hc1i (j + 1) (by omega)]
              exact h6 j (by omega)) hR he hL ⟨rfl, fun j hj => by
            rw [s4_wa_n (show i < 2 ^ 31 by omega), s4_wa_n (show i < 2 ^ 31 by omega)]
            show upd (s4_a u 15) i (nI b) j = nI (c1 (j + 1)) ∧ upd (s4_a u 16) i (nI (x.1 b - secN v b)) j = nI (x.1 (c1 (j + 1)) - secN v (c1 (j + 1)))
            unfold upd
            by_cases hji : j = i
            · subst hji
              rw [if_pos rfl, if_pos rfl, hc1b]
              exact ⟨rfl, rfl⟩
            · rw [if_neg hji, if_neg hji, hc1i (j + 1) (by omega)]
              exact hw.2 j (by omega)⟩
        rw [hc1b] at r8 r9
        exact ⟨u', h, c', r1, r2.trans (hc1i 0 (Nat.zero_le _)), r3, r4, r5, r6, r7, r8, r9⟩
end WX
