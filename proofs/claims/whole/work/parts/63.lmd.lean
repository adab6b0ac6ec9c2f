theorem LA_same {N : Nat} {u : S4} {A : Nat} {L : Nat → Prop} (h : LA N u A L) {i : Nat} (hi : i < 2 ^ 31) {z : Int32} (hz : z = 0 ∨ z = 1) (hv : s4_a u A i = z) : LA N (s4_wz u A (nI i) z) A L := by
  intro q hq
  rw [s4_wz_n hi hz]
  show (va_up u.2.2.1 A (upd (s4_a u A) i z) A q = 1 ∧ _) ∨ (va_up u.2.2.1 A (upd (s4_a u A) i z) A q = 0 ∧ _)
  unfold va_up
  rw [if_pos rfl]
  unfold upd
  by_cases hqi : q = i
  · rw [if_pos hqi, ← hv, ← hqi]; exact h q hq
  · rw [if_neg hqi]; exact h q hq
section MS4
variable {n k d w : Nat} {u v : S4}
theorem fm_in (h0 : RelN n k d w u v) {st t0 : Nat} {x : dj_X} (hI : dj_I (2 * k) 63244800 st t0 x) {g a : Nat} (ha : a < 2 * k) {y5 y6 y7 y8 : Int32} : ∀ (m i : Nat) (v' : S4) (L : Nat → Prop), i ≤ 2 * k → 2 * k < i + m → RelN n k d w u v' → MA v v' st x.1 → LA (2 * k) v' 15 L → (∀ q, q < 2 * k → L q → ld (2 * k) (EV v k) x.1 g q) →
    ∃ (v2 : S4) (L' : Nat → Prop), RelN n k d w u v2 ∧ MA v v2 st x.1 ∧ LA (2 * k) v2 15 L' ∧ (∀ q, q < 2 * k → L' q → ld (2 * k) (EV v k) x.1 g q) ∧ (∀ q, L q → L' q) ∧ ((∃ j, i ≤ j ∧ j < 2 * k ∧ L j ∧ EV v k a j (x.1 a) = some (x.1 j)) → L' a) ∧ (∀ K1 K2, mL_M_least_150 K1 K2 m v' y5 y6 y7 y8 (nI a) (nI i) = K2 v2 y5 y6 y7 y8 (nI (a + 1))) ∧ (∀ (Q1 : S4 → Int32 → Int32 → Int32 → Int32 → Prop) (Q2 : S4 → Int32 → Int32 → Int32 → Int32 → Int32 → Prop), Q2 v2 y5 y6 y7 y8 (nI (a + 1)) → mLq_M_least_150 Q1 Q2 m v' y5 y6 y7 y8 (nI a) (nI i)) := by
  intro m
  induction m with
  | zero => intro i v' L h1 h2; omega
  | succ m ih =>
    intro i v' L h1 h2 hR hA hL hS
    have k12 := hR.2.2.1.1
    have hs := sides_n hR.2.2.1.2.2.1
    by_cases hie : i = 2 * k
    · subst hie
      have hle : nI (2 * k) ≤ nI (2 * k) := nI_le (Nat.le_refl _) (by omega)
      refine ⟨v', L, hR, hA, hL, hS, fun _ z => z, fun ⟨j, j1, j2, _⟩ => by omega, fun K1 K2 => ?_, fun Q1 Q2 hQ => ?_⟩
      · show mB_M_least_150 K1 K2 _ v' _ _ _ _ _ _ = _
        unfold mB_M_least_150
        simp only [hs, hle, if_true, nI_1]
      · show mBq_M_least_150 Q1 Q2 _ v' _ _ _ _ _ _
        unfold mBq_M_least_150
        simp only [hs, hle, not_true_eq_false, false_implies, and_true, true_implies, nI_1]
        exact hQ
    · have hi : i < 2 * k := by omega
      have hle : ¬ nI (2 * k) ≤ nI i := nI_ge hi (by omega)
      have hin : vp_in (nI i) 24 := vp_in_nI (by omega) (by decide)
      have hina : vp_in (nI a) 24 := vp_in_nI (by omega) (by decide)
      have hra : s4_ra v' 15 (nI a) = 0 ↔ ¬ L a := by rw [s4_ra_n (by omega)]; exact LA_0 hL ha
      have hri : s4_ra v' 15 (nI i) = 0 ↔ ¬ L i := by rw [s4_ra_n (by omega)]; exact LA_0 hL hi
      obtain ⟨t1, t2⟩ := is_step (RelN_C h0) (RelN_C hR) hI hA.1 ha hi
      by_cases c1 : L a
      · have c1' : ¬ s4_ra v' 15 (nI a) = 0 := fun z => hra.mp z c1
        have hva : s4_a v' 15 a = 1 := by
          rcases hL a ha with ⟨z, -⟩ | ⟨-, z⟩
          · exact z
          · exact absurd c1 z
        obtain ⟨v2, L', r1, r2, r3, r4, r5, r6, r7, r8⟩ := ih (i + 1) (s4_wz v' 15 (nI a) 1) L (by omega) (by omega) hR hA (LA_same hL (by omega) (Or.inr rfl) hva) hS
        refine ⟨v2, L', r1, r2, r3, r4, r5, fun _ => r5 a c1, fun K1 K2 => ?_, fun Q1 Q2 hQ => ?_⟩
        · show mB_M_least_150 K1 K2 _ v' _ _ _ _ _ _ = _
          unfold mB_M_least_150
          simp only [hs, hle, if_false, c1', nI_1]
          exact r7 K1 K2
        · show mBq_M_least_150 Q1 Q2 _ v' _ _ _ _ _ _
          unfold mBq_M_least_150
          simp only [hs, hle, c1', hin, hina, nI_1, not_false_eq_true, not_true_eq_false, true_implies, false_implies, true_and, and_true]
          exact r8 Q1 Q2 hQ
      · have c1' := hra.mpr c1
        have hva : s4_a v' 15 a = 0 := (LA_0 hL ha).mpr c1
        by_cases c2 : L i
        · have c2' : ¬ s4_ra v' 15 (nI i) = 0 := fun z => hri.mp z c2
          by_cases c3 : EV v k a i (x.1 a) = some (x.1 i)
          · have c3' : ¬ mp_M_isStep v' (nI a) (nI i) = 0 := fun z => t2.mp z c3
            obtain ⟨v2, L', r1, r2, r3, r4, r5, r6, r7, r8⟩ := ih (i + 1) (s4_wz v' 15 (nI a) 1) (fun q => q = a ∨ L q) (by omega) (by omega) hR hA (LA_set hL (by omega)) (fun q hq z => by
              rcases z with z | z
              · rw [z]; exact ld_on hi c3 (hS i hi c2)
              · exact hS q hq z)
            refine ⟨v2, L', r1, r2, r3, r4, fun q z => r5 q (Or.inr z), fun _ => r5 a (Or.inl rfl), fun K1 K2 => ?_, fun Q1 Q2 hQ => ?_⟩
            · show mB_M_least_150 K1 K2 _ v' _ _ _ _ _ _ = _
              unfold mB_M_least_150
              simp only [hs, hle, if_false, c1', c2', c3', if_true, nI_1]
              exact r7 K1 K2
            · show mBq_M_least_150 Q1 Q2 _ v' _ _ _ _ _ _
              unfold mBq_M_least_150
              simp only [hs, hle, c1', c2', c3', t1, hin, hina, nI_1, not_false_eq_true, not_true_eq_false, true_implies, false_implies, true_and, and_true]
              exact r8 Q1 Q2 hQ
          · have c3' := t2.mpr c3
            obtain ⟨v2, L', r1, r2, r3, r4, r5, r6, r7, r8⟩ := ih (i + 1) (s4_wz v' 15 (nI a) 0) L (by omega) (by omega) hR hA (LA_same hL (by omega) (Or.inl rfl) hva) hS
            refine ⟨v2, L', r1, r2, r3, r4, r5, fun ⟨j, j1, j2, j3, j4⟩ => ?_, fun K1 K2 => ?_, fun Q1 Q2 hQ => ?_⟩
            · by_cases hji : j = i
              · rw [hji] at j4; exact absurd j4 c3
              · exact r6 ⟨j, by omega, j2, j3, j4⟩
            · show mB_M_least_150 K1 K2 _ v' _ _ _ _ _ _ = _
              unfold mB_M_least_150
              simp only [hs, hle, if_false, c1', c2', c3', if_true, nI_1]
              exact r7 K1 K2
            · show mBq_M_least_150 Q1 Q2 _ v' _ _ _ _ _ _
              unfold mBq_M_least_150
              simp only [hs, hle, c1', c2', c3', t1, hin, hina, nI_1, not_false_eq_true, not_true_eq_false, true_implies, false_implies, true_and, and_true]
              exact r8 Q1 Q2 hQ
        · have c2' := hri.mpr c2
          obtain ⟨v2, L', r1, r2, r3, r4, r5, r6, r7, r8⟩ := ih (i + 1) (s4_wz v' 15 (nI a) 0) L (by omega) (by omega) hR hA (LA_same hL (by omega) (Or.inl rfl) hva) hS
          refine ⟨v2, L', r1, r2, r3, r4, r5, fun ⟨j, j1, j2, j3, j4⟩ => ?_, fun K1 K2 => ?_, fun Q1 Q2 hQ => ?_⟩
          · by_cases hji : j = i
            · rw [hji] at j3; exact absurd j3 c2
            · exact r6 ⟨j, by omega, j2, j3, j4⟩
          · show mB_M_least_150 K1 K2 _ v' _ _ _ _ _ _ = _
            unfold mB_M_least_150
            simp only [hs, hle, if_false, c1', c2', if_true, nI_1]
            exact r7 K1 K2
          · show mBq_M_least_150 Q1 Q2 _ v' _ _ _ _ _ _
            unfold mBq_M_least_150
            simp only [hs, hle, c1', c2', hin, hina, nI_1, not_false_eq_true, not_true_eq_false, true_implies, false_implies, true_and, and_true]
            exact r8 Q1 Q2 hQ
theorem fm_row (h0 : RelN n k d w u v) {st t0 : Nat} {x : dj_X} (hI : dj_I (2 * k) 63244800 st t0 x) {g : Nat} {y5 y6 y7 : Int32} {t : Nat} : ∀ (m a : Nat) (v' : S4) (L : Nat → Prop), a ≤ 2 * k → 2 * k < a + m → RelN n k d w u v' → MA v v' st x.1 → LA (2 * k) v' 15 L → (∀ q, q < 2 * k → L q → ld (2 * k) (EV v k) x.1 g q) →
    ∃ (v2 : S4) (L' : Nat → Prop), RelN n k d w u v2 ∧ MA v v2 st x.1 ∧ LA (2 * k) v2 15 L' ∧ (∀ q, q < 2 * k → L' q → ld (2 * k) (EV v k) x.1 g q) ∧ (∀ q, L q → L' q) ∧ (∀ b, a ≤ b → b < 2 * k → (∃ j, j < 2 * k ∧ L j ∧ EV v k b j (x.1 b) = some (x.1 j)) → L' b) ∧ (∀ K, mL_M_least_136 K m v' y5 y6 y7 (nI t) (nI a) = K v2 y5 y6 y7 (nI (t + 1))) ∧ (∀ Q : S4 → Int32 → Int32 → Int32 → Int32 → Prop, Q v2 y5 y6 y7 (nI (t + 1)) → mLq_M_least_136 Q m v' y5 y6 y7 (nI t) (nI a)) := by
  intro m
  induction m with
  | zero => intro a v' L h1 h2; omega
  | succ m ih =>
    intro a v' L h1 h2 hR hA hL hS
    have k12 := hR.2.2.1.1
    have hs := sides_n hR.2.2.1.2.2.1
    by_cases hae : a = 2 * k
    · subst hae
      have hle : nI (2 * k) ≤ nI (2 * k) := nI_le (Nat.le_refl _) (by omega)
      refine ⟨v', L, hR, hA, hL, hS, fun _ z => z, fun b b1 b2 => by omega, fun K => ?_, fun Q hQ => ?_⟩
      · show mB_M_least_136 K _ v' _ _ _ _ _ = _
        unfold mB_M_least_136
        simp only [hs, hle, if_true, nI_1]
      · show mBq_M_least_136 Q _ v' _ _ _ _ _
        unfold mBq_M_least_136
        simp only [hs, hle, not_true_eq_false, false_implies, and_true, true_implies, nI_1]
        exact hQ
    · have ha : a < 2 * k := by omega
      have hle : ¬ nI (2 * k) ≤ nI a := nI_ge ha (by omega)
      obtain ⟨v1, L1, q1, q2, q3, q4, q5, q6, q7, q8⟩ := fm_in h0 hI (g := g) ha (y5 := y5) (y6 := y6) (y7 := y7) (y8 := nI t) 64 0 v' L (by omega) (by omega) hR hA hL hS
      obtain ⟨v2, L', r1, r2, r3, r4, r5, r6, r7, r8⟩ := ih (a + 1) v1 L1 (by omega) (by omega) q1 q2 q3 q4
      refine ⟨v2, L', r1, r2, r3, r4, fun q z => r5 q (q5 q z), fun b b1 b2 ⟨j, j1, j2, j3⟩ => ?_, fun K => ?_, fun Q hQ => ?_⟩
      · by_cases hba : b = a
        · subst hba
          exact r5 b (q6 ⟨j, Nat.zero_le _, j1, j2, j3⟩)
        · exact r6 b (by omega) b2 ⟨j, j1, q5 j j2, j3⟩
      · show mB_M_least_136 K _ v' _ _ _ _ _ = _
        unfold mB_M_least_136
        simp only [hs, hle, if_false]
        exact (q7 K (mL_M_least_136 K m)).trans (r7 K)
      · show mBq_M_least_136 Q _ v' _ _ _ _ _
        unfold mBq_M_least_136
        simp only [hs, hle, not_false_eq_true, true_implies, false_implies, true_and]
        exact q8 Q _ (r8 Q hQ)
theorem fm_turns (h0 : RelN n k d w u v) {st t0 : Nat} {x : dj_X} (hI : dj_I (2 * k) 63244800 st t0 x) (hn : dj_st (2 * k) 63244800 (EV v k) x = none) {g : Nat} (hg : g < 2 * k) (hgz : x.1 g < 63244800) {y5 y6 y7 : Int32} : ∀ (m t : Nat) (v' : S4) (L : Nat → Prop), t ≤ 24 → 24 < t + m → RelN n k d w u v' → MA v v' st x.1 → LA (2 * k) v' 15 L → (∀ q, q < 2 * k → L q → ld (2 * k) (EV v k) x.1 g q) → L g → (∀ i, i < x.2.2.2 → x.2.2.2 ≤ i + t → ld (2 * k) (EV v k) x.1 g (x.2.2.1 i) → L (x.2.2.1 i)) →
    ∃ v2 : S4, RelN n k d w u v2 ∧ MA v v2 st x.1 ∧ LA (2 * k) v2 15 (ld (2 * k) (EV v k) x.1 g) ∧ mL_M_least_126 m v' y5 y6 y7 (nI t) = mL_M_least_226 64 v2 y5 y7 y6 ∧ (mLq_M_least_226 64 v2 y5 y7 y6 → mLq_M_least_126 m v' y5 y6 y7 (nI t)) := by
  have hE := EV_good (RelN_C h0)
  intro m
  induction m with
  | zero => intro t v' L h1 h2; omega
  | succ m ih =>
    intro t v' L h1 h2 hR hA hL hS hLg hC
    have k12 := hR.2.2.1.1
    have hcN := dj_cnt hI
    show ∃ v2 : S4, RelN n k d w u v2 ∧ MA v v2 st x.1 ∧ LA (2 * k) v2 15 (ld (2 * k) (EV v k) x.1 g) ∧ mB_M_least_126 (mL_M_least_126 m) v' y5 y6 y7 (nI t) = mL_M_least_226 64 v2 y5 y7 y6 ∧ (mLq_M_least_226 64 v2 y5 y7 y6 → mBq_M_least_126 (mLq_M_least_126 m) v' y5 y6 y7 (nI t))
    unfold mB_M_least_126 mBq_M_least_126
    by_cases hte : t = 24
    · subst hte
      have hle : (24 : Int32) ≤ nI 24 := nI_le (a := 24) (Nat.le_refl _) (by decide)
      simp only [hle, if_true, not_true_eq_false, false_implies, and_true, true_implies]
      refine ⟨v', hR, hA, fun q hq => ?_, rfl, id⟩
      have hiff : L q ↔ ld (2 * k) (EV v k) x.1 g q := ⟨fun z => hS q hq z, fun z => by
        obtain ⟨i, i1, i2⟩ := ld_in hE hI hn hg hgz hq z
        rw [← i2]
        exact hC i i1 (by omega) (by rw [i2]; exact z)⟩
      rw [← hiff]
      exact hL q hq
    · have hle : ¬ (24 : Int32) ≤ nI t := nI_ge (b := 24) (by omega) (by decide)
      simp only [hle, if_false, not_false_eq_true, true_implies, false_implies, true_and]
      obtain ⟨v1, L1, q1, q2, q3, q4, q5, q6, q7, q8⟩ := fm_row h0 hI (g := g) (y5 := y5) (y6 := y6) (y7 := y7) (t := t) 64 0 v' L (by omega) (by omega) hR hA hL hS
      obtain ⟨v2, r1, r2, r3, r4, r5⟩ := ih (t + 1) v1 L1 (by omega) (by omega) q1 q2 q3 q4 (q5 g hLg) (fun i i1 i2 i3 => by
        rcases ld_or i3 with z | ⟨b, z1, z2, z3⟩
        · rw [z]; exact q5 g hLg
        · obtain ⟨j, j1, j2, j3⟩ := ld_ix hE hI hn i1 z1 z2
          have hlb : L b := by rw [← j3]; exact hC j j2 (by omega) (by rw [j3]; exact z3)
          exact q6 _ (Nat.zero_le _) (hI.2.1 _ (hI.2.2.2.1 i i1)).1 ⟨b, z1, hlb, z2⟩)
      refine ⟨v2, r1, r2, r3, ?_, fun z => q8 _ (r5 z)⟩
      have e1 := q7 (mL_M_least_126 m)
      rw [nI_0] at e1
      rw [e1]
      exact r4
theorem fm_leads (h0 : RelN n k d w u v) {st t0 : Nat} {x : dj_X} (hI : dj_I (2 * k) 63244800 st t0 x) (hn : dj_st (2 * k) 63244800 (EV v k) x = none) {g : Nat} (hg : g < 2 * k) (hgz : x.1 g < 63244800) {y5 y6 : Int32} : ∀ (m i : Nat) (v' : S4), i ≤ 24 → 24 < i + m → RelN n k d w u v' → MA v v' st x.1 → (∀ q, q < i → s4_a v' 15 q = if q = g then 1 else 0) →
    ∃ v2 : S4, RelN n k d w u v2 ∧ MA v v2 st x.1 ∧ LA (2 * k) v2 15 (ld (2 * k) (EV v k) x.1 g) ∧ mL_M_least_91 m v' y5 y6 (nI g) (nI i) = mL_M_least_226 64 v2 y5 (nI g) y6 ∧ (mLq_M_least_226 64 v2 y5 (nI g) y6 → mLq_M_least_91 m v' y5 y6 (nI g) (nI i)) := by
  intro m
  induction m with
  | zero => intro i v' h1 h2; omega
  | succ m ih =>
    intro i v' h1 h2 hR hA hL
    have k12 := hR.2.2.1.1
    show ∃ v2 : S4, RelN n k d w u v2 ∧ MA v v2 st x.1 ∧ LA (2 * k) v2 15 (ld (2 * k) (EV v k) x.1 g) ∧ mB_M_least_91 (mL_M_least_91 m) v' y5 y6 (nI g) (nI i) = mL_M_least_226 64 v2 y5 (nI g) y6 ∧ (mLq_M_least_226 64 v2 y5 (nI g) y6 → mBq_M_least_91 (mLq_M_least_91 m) v' y5 y6 (nI g) (nI i))
    unfold mB_M_least_91 mBq_M_least_91
    by_cases hie : i = 24
    · subst hie
      have hle : (24 : Int32) ≤ nI 24 := nI_le (a := 24) (Nat.le_refl _) (by decide)
      simp only [hle, if_true, not_true_eq_false, false_implies, and_true, true_implies]
      exact fm_turns h0 hI hn hg hgz 64 0 v' (fun q => q = g) (by omega) (by omega) hR hA (fun q hq => by
        rw [hL q (by omega)]
        by_cases hqg : q = g
        · rw [if_pos hqg]; exact Or.inl ⟨rfl, hqg⟩
        · rw [if_neg hqg]; exact Or.inr ⟨rfl, hqg⟩) (fun q _ z => by rw [z]; exact ld_g) rfl (fun i i1 i2 => by omega)
    · have hle : ¬ (24 : Int32) ≤ nI i := nI_ge (b := 24) (by omega) (by decide)
      have hin : vp_in (nI i) 24 := vp_in_nI (by omega) (by decide)
      have hig : nI i = nI g ↔ i = g := nI_eq (by omega) (by omega)
      simp only [hle, if_false, not_false_eq_true, false_implies, true_implies, true_and, hin, nI_1, hig]
      have next : ∀ z : Int32, (z = if i = g then 1 else 0) → ∀ q, q < i + 1 → s4_a (s4_wz v' 15 (nI i) z) 15 q = if q = g then 1 else 0 := fun z hz q hq => by
        have h01 : z = 0 ∨ z = 1 := by
          by_cases c : i = g
          · rw [if_pos c] at hz; exact Or.inr hz
          · rw [if_neg c] at hz; exact Or.inl hz
        rw [s4_wz_n (by omega) h01]
        show upd (s4_a v' 15) i z q = _
        unfold upd
        by_cases hqi : q = i
        · rw [if_pos hqi, hz, hqi]
        · rw [if_neg hqi]; exact hL q (by omega)
      by_cases c : i = g
      · simp only [c, if_true, not_true_eq_false, false_implies, and_true, true_implies]
        rw [c] at next
        exact ih (g + 1) (s4_wz v' 15 (nI g) 1) (by omega) (by omega) hR hA (next 1 (by rw [if_pos rfl]))
      · simp only [c, if_false, not_false_eq_true, false_implies, true_and, true_implies]
        exact ih (i + 1) (s4_wz v' 15 (nI i) 0) (by omega) (by omega) hR hA (next 0 (by rw [if_neg c]))
end MS4
