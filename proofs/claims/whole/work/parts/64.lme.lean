/-! PURE: the start leads to every side that is reached -/
section DP
variable {N Z : Nat} {E : Nat → Nat → Nat → Option Nat}
def dj_P (N Z : Nat) (E : Nat → Nat → Nat → Option Nat) (st : Nat) (x : dj_X) : Prop := ∀ b, b < N → b ≠ st → x.1 b < Z → ∃ a, x.2.1 a = true ∧ E a b (x.1 a) = some (x.1 b)
theorem dj_v_cs {e : Nat → Nat} {a b : Nat} : dj_v E e a b = e b ∨ E a b (e a) = some (dj_v E e a b) := by
  unfold dj_v
  cases hr : E a b (e a) with
  | none => exact Or.inl rfl
  | some r =>
    dsimp only
    by_cases h : r < e b
    · rw [if_pos h]; exact Or.inr rfl
    · rw [if_neg h]; exact Or.inl rfl
theorem dj_rk_cs {e : Nat → Nat} {a b k : Nat} : dj_rk E e a k b = e b ∨ E a b (e a) = some (dj_rk E e a k b) := by
  unfold dj_rk
  by_cases h : b < k
  · simp only [h, if_true]; exact dj_v_cs
  · left; simp [h]
theorem dj_P_step (hE : dj_good Z E) {st t0 : Nat} {x y : dj_X} (hI : dj_I N Z st t0 x) (hP : dj_P N Z E st x) (hs : dj_st N Z E x = some y) : dj_P N Z E st y := by
  obtain ⟨e, s, o, c⟩ := x
  unfold dj_st at hs
  dsimp only at hs
  cases hp : dj_pk Z e s N with
  | none => rw [hp] at hs; cases hs
  | some a =>
    rw [hp] at hs
    dsimp only at hs
    cases hs
    have i3 := hI.2.2.1
    dsimp only at i3
    obtain ⟨p1, p2, p3, p4⟩ := dj_pk_some hp
    intro b hb hne hz
    dsimp only at hz ⊢
    have hoa : dj_rk E e a N a = e a := dj_rk_old hE (Nat.le_refl _)
    rcases dj_rk_cs (E := E) (e := e) (a := a) (b := b) (k := N) with h | h
    · rw [h] at hz ⊢
      obtain ⟨q, q1, q2⟩ := hP b hb hne hz
      dsimp only at q1 q2
      refine ⟨q, ?_, ?_⟩
      · unfold va_up
        by_cases hqa : q = a
        · rw [if_pos hqa]
        · rw [if_neg hqa]; exact q1
      · rw [dj_rk_old hE (i3 q a q1 p2 p1)]; exact q2
    · refine ⟨a, ?_, ?_⟩
      · unfold va_up; rw [if_pos rfl]
      · rw [hoa]; exact h
theorem dj_P_it (hE : dj_good Z E) {st t0 : Nat} : ∀ (r : Nat) {x : dj_X}, dj_I N Z st t0 x → dj_P N Z E st x → dj_P N Z E st (dj_it N Z E r x) := by
  intro r
  induction r with
  | zero => intro x _ h; exact h
  | succ r ih =>
    intro x hI h
    unfold dj_it
    cases hs : dj_st N Z E x with
    | none => exact h
    | some y => exact ih (dj_step hE hI hs) (dj_P_step hE hI h hs)
theorem dj_P0 {st t0 : Nat} : dj_P N Z E st (dj_x0 Z st t0) := by
  intro b _ hne hz
  exfalso
  have : va_up (fun _ => Z) st t0 b < Z := hz
  unfold va_up at this
  rw [if_neg hne] at this
  exact absurd this (Nat.lt_irrefl _)
theorem ld_st (hE : dj_good Z E) {st t0 g : Nat} {x : dj_X} (hI : dj_I N Z st t0 x) (hP : dj_P N Z E st x) : ∀ (m b : Nat), x.1 b < m → b < N → x.1 b < Z → ld N E x.1 g b → ld N E x.1 g st := by
  intro m
  induction m with
  | zero => intro b h; omega
  | succ m ih =>
    intro b h hb hz hl
    by_cases hbs : b = st
    · rw [← hbs]; exact hl
    · obtain ⟨a, a1, a2⟩ := hP b hb hbs hz
      have ha := hI.2.1 a a1
      have := hE _ _ _ _ a2
      exact ih a (by omega) ha.1 ha.2 (ld_on hb a2 hl)
end DP
/-! PURE: the reference's way -/
section MW
variable {n k d : Nat} {u v : S4}
def wW (v' v : S4) (e : Nat → Nat) (h b : Nat) : S4 := s4_si (s4_wa (s4_wa v' 16 (nI h) (nI b)) 17 (nI h) (nI (e b - secN v b))) 3 (nI (h + 1))
theorem fm_scan (h0 : RelC n k d u v) {st t0 : Nat} {x : dj_X} (hI : dj_I (2 * k) 63244800 st t0 x) {g : Nat} {v' : S4} (hR : RelC n k d u v') (hA : MA0 v v' st x.1) (hL : LA (2 * k) v' 15 (ld (2 * k) (EV v k) x.1 g)) {a : Nat} (ha : a < 2 * k) {h : Nat} (hh : h < 24) (h3 : s4_i v' 3 = nI h) (hex : ∃ b, b < 2 * k ∧ ld (2 * k) (EV v k) x.1 g b ∧ EV v k a b (x.1 a) = some (x.1 b)) {y5 y7 : Int32} : ∀ (m i : Nat), i ≤ 2 * k → 2 * k < i + m → (∀ j, j < i → ¬ (ld (2 * k) (EV v k) x.1 g j ∧ EV v k a j (x.1 a) = some (x.1 j))) →
    ∃ b, wF v k x.1 g a b ∧ (∀ K, mL_M_least_236 K m v' y5 y7 (nI a) (nI i) = K (wW v' v x.1 h b) y5 y7 (nI b)) ∧ (∀ Q : S4 → Int32 → Int32 → Int32 → Prop, Q (wW v' v x.1 h b) y5 y7 (nI b) → mLq_M_least_236 Q m v' y5 y7 (nI a) (nI i)) := by
  have hE := EV_good h0
  intro m
  induction m with
  | zero => intro i h1 h2; omega
  | succ m ih =>
    intro i h1 h2 hno
    have k12 := hR.2.2.1.1
    by_cases hie : i = 2 * k
    · obtain ⟨b, b1, b2, b3⟩ := hex
      exact absurd ⟨b2, b3⟩ (hno b (by omega))
    · have hi : i < 2 * k := by omega
      have hin : vp_in (nI i) 24 := vp_in_nI (by omega) (by decide)
      have hinh : vp_in (nI h) 24 := vp_in_nI hh (by decide)
      have hri : s4_ra v' 15 (nI i) = 0 ↔ ¬ ld (2 * k) (EV v k) x.1 g i := by rw [s4_ra_n (by omega)]; exact LA_0 hL hi
      obtain ⟨t1, t2⟩ := is_step h0 hR hI hA ha hi
      have next : ¬ (ld (2 * k) (EV v k) x.1 g i ∧ EV v k a i (x.1 a) = some (x.1 i)) → ∀ j, j < i + 1 → ¬ (ld (2 * k) (EV v k) x.1 g j ∧ EV v k a j (x.1 a) = some (x.1 j)) := fun z j hj => by
        by_cases hji : j = i
        · rw [hji]; exact z
        · exact hno j (by omega)
      by_cases c1 : ld (2 * k) (EV v k) x.1 g i
      · have c1' : ¬ s4_ra v' 15 (nI i) = 0 := fun z => hri.mp z c1
        by_cases c2 : EV v k a i (x.1 a) = some (x.1 i)
        · have c2' : ¬ mp_M_isStep v' (nI a) (nI i) = 0 := fun z => t2.mp z c2
          have hgt := hE _ _ _ _ c2
          have hne : ¬ (i = st ∨ x.1 i = 63244800) := fun z => by
            obtain ⟨-, -, -, -, -, -, -, -, -, h2, h3⟩ := hI
            rcases z with z | z
            · by_cases has : a = st
              · rw [has, z] at hgt; omega
              · have := h3 a has
                rw [z] at hgt
                omega
            · omega
          have hrg : s4_ra (s4_wa v' 16 (nI h) (nI i)) 14 (nI i) = nI (x.1 i - secN v i) := by
            show s4_ra v' 14 (nI i) = _
            rw [s4_ra_n (by omega), (hA i (by omega)).2.1, if_neg hne]
          have h31 : s4_i (s4_wa v' 16 (nI h) (nI i)) 3 = nI h := h3
          have h32 : s4_i (s4_wa (s4_wa v' 16 (nI h) (nI i)) 17 (nI h) (nI (x.1 i - secN v i))) 3 = nI h := h3
          refine ⟨i, ⟨hi, c1, c2, hno⟩, fun K => ?_, fun Q hQ => ?_⟩
          · show mB_M_least_236 K _ v' _ _ _ _ = _
            unfold mB_M_least_236
            simp only [c1', c2', if_false, h3, h31, hrg, h32, nI_1]
            rfl
          · show mBq_M_least_236 Q _ v' _ _ _ _
            unfold mBq_M_least_236
            simp only [c1', c2', t1, hin, hinh, h3, h31, hrg, h32, nI_1, not_false_eq_true, true_implies, false_implies, true_and]
            exact hQ
        · have c2' := t2.mpr c2
          obtain ⟨b, b1, b2, b3⟩ := ih (i + 1) (by omega) (by omega) (next (fun z => c2 z.2))
          refine ⟨b, b1, fun K => ?_, fun Q hQ => ?_⟩
          · show mB_M_least_236 K _ v' _ _ _ _ = _
            unfold mB_M_least_236
            simp only [c1', c2', if_false, if_true, nI_1]
            exact b2 K
          · show mBq_M_least_236 Q _ v' _ _ _ _
            unfold mBq_M_least_236
            simp only [c1', c2', t1, hin, nI_1, not_false_eq_true, not_true_eq_false, true_implies, false_implies, true_and, and_true]
            exact b3 Q hQ
      · have c1' := hri.mpr c1
        obtain ⟨b, b1, b2, b3⟩ := ih (i + 1) (by omega) (by omega) (next (fun z => c1 z.1))
        refine ⟨b, b1, fun K => ?_, fun Q hQ => ?_⟩
        · show mB_M_least_236 K _ v' _ _ _ _ = _
          unfold mB_M_least_236
          simp only [c1', if_true, nI_1]
          exact b2 K
        · show mBq_M_least_236 Q _ v' _ _ _ _
          unfold mBq_M_least_236
          simp only [c1', hin, nI_1, not_false_eq_true, not_true_eq_false, true_implies, false_implies, true_and, and_true]
          exact b3 Q hQ
theorem fm_trace (h0 : RelC n k d u v) {st t0 : Nat} {x : dj_X} {g : Nat} (hI : dj_I (2 * k) 63244800 st t0 x) (hn : dj_st (2 * k) 63244800 (EV v k) x = none) (hg : g < 2 * k) (hgz : x.1 g < 63244800) {y5 : Int32} : ∀ (m i : Nat) (v' : S4) (c : Nat → Nat) (p : Nat), 24 < i + m → i ≤ p → p < x.2.2.2 → x.2.2.1 p = c i → ld (2 * k) (EV v k) x.1 g (c i) → wC v k x.1 g c i → RelC n k d u v' → MA0 v v' st x.1 → LA (2 * k) v' 15 (ld (2 * k) (EV v k) x.1 g) → wA v' 3 16 17 v x.1 c i →
    ∃ (v2 : S4) (h : Nat) (c' : Nat → Nat), h < 24 ∧ c' 0 = c 0 ∧ c' h = g ∧ wC v k x.1 g c' h ∧ RelC n k d u v2 ∧ wA v2 3 16 17 v x.1 c' h ∧ mL_M_least_226 m v' y5 (nI g) (nI (c i)) = (nI (x.1 g) - y5, v2) ∧ mLq_M_least_226 m v' y5 (nI g) (nI (c i)) := by
  have hE := EV_good h0
  intro m
  induction m with
  | zero =>
    intro i v' c p h1 h2 h3 h4 h5 h6 hR
    have k12 := hR.2.2.1.1
    have := dj_cnt hI
    omega
  | succ m ih =>
    intro i v' c p h1 h2 h3 h4 h5 h6 hR hA hL hw
    have k12 := hR.2.2.1.1
    have hcN := dj_cnt hI
    have hset := hI.2.1 _ (hI.2.2.2.1 p h3)
    rw [h4] at hset
    show ∃ (v2 : S4) (h : Nat) (c' : Nat → Nat), h < 24 ∧ c' 0 = c 0 ∧ c' h = g ∧ wC v k x.1 g c' h ∧ RelC n k d u v2 ∧ wA v2 3 16 17 v x.1 c' h ∧ mB_M_least_226 (mL_M_least_226 m) v' y5 (nI g) (nI (c i)) = (nI (x.1 g) - y5, v2) ∧ mBq_M_least_226 (mLq_M_least_226 m) v' y5 (nI g) (nI (c i))
    unfold mB_M_least_226 mBq_M_least_226
    have heqg : nI (c i) = nI g ↔ c i = g := nI_eq (by omega) (by omega)
    have hing : vp_in (nI g) 24 := vp_in_nI (by omega) (by decide)
    simp only [heqg]
    by_cases hcg : c i = g
    · have hrg : s4_ra v' 13 (nI g) = nI (x.1 g) := by rw [s4_ra_n (by omega), (hA g (by omega)).1, eI_pos (by omega)]
      simp only [hcg, if_true, not_true_eq_false, false_implies, true_implies, and_true, hrg]
      exact ⟨v', i, c, by omega, rfl, hcg, h6, hR, hw, rfl, hing⟩
    · simp only [hcg, if_false, not_false_eq_true, true_implies, false_implies, true_and]
      have hex : ∃ b, b < 2 * k ∧ ld (2 * k) (EV v k) x.1 g b ∧ EV v k (c i) b (x.1 (c i)) = some (x.1 b) := by
        rcases ld_or h5 with z | ⟨b, z1, z2, z3⟩
        · exact absurd z hcg
        · exact ⟨b, z1, z3, z2⟩
      obtain ⟨b, hF, b2, b3⟩ := fm_scan h0 hI hR hA hL hset.1 (show i < 24 by omega) hw.1 hex (y5 := y5) (y7 := nI g) 64 0 (by omega) (by omega) (fun j hj => absurd hj (Nat.not_lt_zero _))
      obtain ⟨p', q1, q2, q3⟩ := w_next hE hI hn h3 (by rw [h4]; exact hF)
      let c1 : Nat → Nat := va_up c (i + 1) b
      have hc1i : ∀ j, j ≤ i → c1 j = c j := fun j hj => by show va_up c (i + 1) b j = c j; unfold va_up; rw [if_neg (by omega)]
      have hc1b : c1 (i + 1) = b := by show va_up c (i + 1) b (i + 1) = b; unfold va_up; rw [if_pos rfl]
      obtain ⟨v2, h, c', r1, r2, r3, r4, r5, r6, r7, r8⟩ := ih (i + 1) (wW v' v x.1 i b) c1 p' (by omega) (by omega) q2 (by rw [hc1b]; exact q3) (by rw [hc1b]; exact hF.2.1) (fun j hj => by
          by_cases hji : j = i
          · subst hji
            rw [hc1i j (Nat.le_refl _), hc1b]
            exact ⟨hcg, hF⟩
          · rw [hc1i j (by omega), hc1i (j + 1) (by omega)]
            exact h6 j (by omega)) hR hA hL ⟨rfl, fun j hj => by
          unfold wW
          rw [s4_wa_n (show i < 2 ^ 31 by omega), s4_wa_n (show i < 2 ^ 31 by omega)]
          show upd (s4_a v' 16) i (nI b) j = nI (c1 (j + 1)) ∧ upd (s4_a v' 17) i (nI (x.1 b - secN v b)) j = nI (x.1 (c1 (j + 1)) - secN v (c1 (j + 1)))
          unfold upd
          by_cases hji : j = i
          · subst hji
            rw [if_pos rfl, if_pos rfl, hc1b]
            exact ⟨rfl, rfl⟩
          · rw [if_neg hji, if_neg hji, hc1i (j + 1) (by omega)]
            exact hw.2 j (by omega)⟩
      rw [hc1b] at r7 r8
      refine ⟨v2, h, c', r1, r2.trans (hc1i 0 (Nat.zero_le _)), r3, r4, r5, r6, ?_, b3 _ r8⟩
      have e1 := b2 (mL_M_least_226 m)
      rw [nI_0] at e1
      rw [e1]
      exact r7
end MW
