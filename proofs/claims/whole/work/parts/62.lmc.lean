section MS3
variable {n k d : Nat} {u v : S4}
theorem is_step (h0 : RelC n k d u v) {v' : S4} (hR : RelC n k d u v') {st t0 : Nat} {x : dj_X} (hI : dj_I (2 * k) 63244800 st t0 x) (hA : MA0 v v' st x.1) {a b : Nat} (ha : a < 2 * k) (hb : b < 2 * k) : mq_M_isStep v' (nI a) (nI b) ∧ (mp_M_isStep v' (nI a) (nI b) = 0 ↔ ¬ EV v k a b (x.1 a) = some (x.1 b)) := by
  have k12 := hR.2.2.1.1
  have hE := EV_good h0
  have hina : vp_in (nI a) 24 := vp_in_nI (by omega) (by decide)
  have hinb : vp_in (nI b) 24 := vp_in_nI (by omega) (by decide)
  have hra : s4_ra v' 13 (nI a) = eI (x.1 a) := by rw [s4_ra_n (by omega), (hA a (by omega)).1]
  have hrb : s4_ra v' 13 (nI b) = eI (x.1 b) := by rw [s4_ra_n (by omega), (hA b (by omega)).1]
  have hrg : s4_ra v' 14 (nI b) = (if b = st ∨ x.1 b = 63244800 then -1 else nI (x.1 b - secN v b)) := by rw [s4_ra_n (by omega), (hA b (by omega)).2.1]
  have hza := hI.1 a
  have hzb := hI.1 b
  unfold mq_M_isStep mp_M_isStep
  simp only [hra, hrb, hina, hinb, true_and]
  by_cases c1 : x.1 a = 63244800
  · have c1' : eI (x.1 a) < 0 := (eI_neg hza).mpr c1
    simp only [c1', if_true, not_true_eq_false, false_implies, true_and, true_iff]
    intro z
    have := hE _ _ _ _ z
    omega
  · have c1' : ¬ eI (x.1 a) < 0 := fun z => c1 ((eI_neg hza).mp z)
    simp only [c1', if_false, not_false_eq_true, true_implies]
    by_cases c2 : x.1 b = 63244800
    · have c2' : eI (x.1 b) < 0 := (eI_neg hzb).mpr c2
      simp only [c2', if_true, not_true_eq_false, false_implies, true_and, true_iff]
      intro z
      have := hE _ _ _ _ z
      omega
    · have c2' : ¬ eI (x.1 b) < 0 := fun z => c2 ((eI_neg hzb).mp z)
      obtain ⟨m1, m2, m3, m4, m5, m6, m7⟩ := mE h0 hR ha hb (show x.1 a < 63244800 by omega)
      simp only [c2', if_false, not_false_eq_true, true_implies, m1, true_and]
      cases hg : gG v a b with
      | false =>
        have c3 := m2.mpr hg
        simp only [c3, if_true, not_true_eq_false, false_implies, true_and, true_iff]
        intro z
        unfold EV at z
        rw [if_neg (fun y => by rw [hg] at y; exact Bool.noConfusion y.2.2.2)] at z
        cases z
      | true =>
        have c3 : ¬ mp_M_goesInto v' (nI a) (nI b) = 0 := fun z => by have := m2.mp z; rw [hg] at this; cases this
        simp only [c3, if_false, not_false_eq_true, true_implies, hrg]
        by_cases c4 : b = st
        · have hneg : (-1 : Int32) < 0 := by decide
          simp only [c4, true_or, if_true, hneg, not_true_eq_false, false_implies, true_and, true_iff]
          intro z
          have h1 := hE _ _ _ _ z
          obtain ⟨-, -, -, -, -, -, -, -, -, h2, h3⟩ := hI
          by_cases has : a = st
          · rw [has] at h1; omega
          · have := h3 a has
            omega
        · have hor : ¬ (b = st ∨ x.1 b = 63244800) := fun z => z.elim c4 c2
          have hpos : ¬ nI (x.1 b - secN v b) < 0 := nI_pos (by omega)
          have hsec : secN v b ≤ x.1 b := by
            rcases (hA b (by omega)).2.2 with z | z | z
            · exact absurd z c4
            · exact absurd z c2
            · exact z
          simp only [hor, if_false, hpos, not_false_eq_true, true_implies, eI_pos c1, m3, true_and]
          have hsm : ∀ y, bgO v a b (x.1 a) = some y → y < 2 ^ 31 := fun y hy => by have := m6 y hy; omega
          have hiff : mp_M_begun3 v' (nI a) (nI (x.1 a)) (nI b) = nI (x.1 b - secN v b) ↔ EV v k a b (x.1 a) = some (x.1 b) := by
            rw [m4 hg, lvI_some hsm (by omega)]
            unfold EV
            rw [if_pos ⟨ha, hb, by omega, hg⟩]
            cases bgO v a b (x.1 a) with
            | none => exact ⟨fun z => (by cases z), fun z => (by cases z)⟩
            | some y =>
              show some y = some (x.1 b - secN v b) ↔ some (y + secN v b) = some (x.1 b)
              constructor
              · intro z; have := Option.some.inj z; congr 1; omega
              · intro z; have := Option.some.inj z; congr 1; omega
          by_cases c5 : EV v k a b (x.1 a) = some (x.1 b)
          · simp only [hiff.mpr c5, if_true, one_ne, c5, not_true_eq_false]
          · have c5' : ¬ mp_M_begun3 v' (nI a) (nI (x.1 a)) (nI b) = nI (x.1 b - secN v b) := fun z => c5 (hiff.mp z)
            simp only [c5', if_false, c5, not_false_eq_true]
end MS3
