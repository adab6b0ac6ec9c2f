/-! PURE: pieces -/
def eA (v : S4) (s : Nat) : Nat := (s4_a v 3 s).toNatClampNeg
def eB (v : S4) (s : Nat) : Nat := (s4_a v 4 s).toNatClampNeg
def eW (v : S4) (s : Nat) : Bool := decide (¬ s4_a v 6 s = 3)
theorem e_at {n k d w : Nat} {u v : S4} (h : RelN n k d w u v) {s : Nat} (hs : s < k) : eA v s < n ∧ eB v s < n ∧ s4_a v 3 s = nI (eA v s) ∧ s4_a v 4 s = nI (eB v s) ∧ ∃ q, q ≤ 3 ∧ s4_a v 6 s = nI q := by
  have n8 := h.1.1
  obtain ⟨a, b, t, q, a1, b1, ab, t1, t2, q1, f3, f4, f5, f6⟩ := h.2.2.1.2.2.2.2.2.2.2 s hs
  have ea : eA v s = a := by unfold eA; rw [f3]; exact nI_clamp (by omega)
  have eb : eB v s = b := by unfold eB; rw [f4]; exact nI_clamp (by omega)
  rw [ea, eb]
  exact ⟨a1, b1, f3, f4, q, q1, f6⟩
def lab (n A : Nat) (u : S4) (p : Nat → Nat) : Prop := ∀ q, q < n → s4_a u A q = nI (p q)
theorem lab_set {n A : Nat} {u : S4} {p : Nat → Nat} (h : lab n A u p) {i x : Nat} (hi : i < 2 ^ 31) : lab n A (s4_wa u A (nI i) (nI x)) (va_up p i x) := by
  intro q hq
  rw [s4_wa_n hi]
  show va_up u.2.2.1 A (upd (s4_a u A) i (nI x)) A q = _
  unfold va_up
  rw [if_pos rfl]
  unfold upd
  by_cases hqi : q = i
  · rw [if_pos hqi, if_pos hqi]
  · rw [if_neg hqi, if_neg hqi]; exact h q hq
section CX
variable {n k d w : Nat} {v : S4}
def mgP (p : Nat → Nat) (o1 o2 i : Nat) : Nat → Nat := fun q => if q < i ∧ p q = o2 then o1 else p q
theorem cx_merge {p : Nat → Nat} {o1 o2 : Nat} (hp : ∀ x, x < n → p x < n) (ho2 : o2 < 2 ^ 31) : ∀ (m i : Nat) (u : S4), i ≤ n → n < i + m → RelN n k d w u v → lab n 0 u (mgP p o1 o2 i) →
    ∃ u' : S4, RelN n k d w u' v ∧ lab n 0 u' (mgP p o1 o2 n) ∧ xL_Net_merge_2 m u (nI o1) (nI o2) (nI i) = u' ∧ xLq_Net_merge_2 m u (nI o1) (nI o2) (nI i) := by
  intro m
  induction m with
  | zero => intro i u h1 h2; omega
  | succ m ih =>
    intro i u h1 h2 hR hl
    have n8 := hR.1.1
    have iu := hR.1.2.1
    have hs : xp_Nodes_size u = nI n := iu
    show ∃ u' : S4, RelN n k d w u' v ∧ lab n 0 u' (mgP p o1 o2 n) ∧ xB_Net_merge_2 (xL_Net_merge_2 m) u (nI o1) (nI o2) (nI i) = u' ∧ xBq_Net_merge_2 (xLq_Net_merge_2 m) u (nI o1) (nI o2) (nI i)
    unfold xB_Net_merge_2 xBq_Net_merge_2
    simp only [hs, nI_1]
    by_cases hie : i = n
    · subst hie
      have hle : nI i ≤ nI i := nI_le (Nat.le_refl _) (by omega)
      simp only [hle, if_true, not_true_eq_false, false_implies]
      exact ⟨u, hR, hl, rfl, trivial⟩
    · have hi : i < n := by omega
      have hle : ¬ nI n ≤ nI i := nI_ge hi (by omega)
      have hin : vp_in (nI i) 8 := vp_in_nI (by omega) (by decide)
      have hmi : mgP p o1 o2 i i = p i := by unfold mgP; rw [if_neg (by omega)]
      have hpi := hp i hi
      have hra : s4_ra u 0 (nI i) = nI o2 ↔ p i = o2 := by
        rw [s4_ra_n (by omega), hl i hi, hmi]
        exact nI_eq (by omega) ho2
      simp only [hle, if_false, not_false_eq_true, true_implies, hra, hin, true_and]
      by_cases hc : p i = o2
      · simp only [hc, if_true, not_true_eq_false, false_implies, and_true, true_implies]
        refine ih (i + 1) (s4_wa u 0 (nI i) (nI o1)) (by omega) (by omega) hR ?_
        have h3 := lab_set (i := i) (x := o1) hl (by omega)
        intro q hq
        rw [h3 q hq]
        unfold va_up mgP
        by_cases hqi : q = i
        · subst hqi; rw [if_pos rfl, if_pos ⟨by omega, hc⟩]
        · rw [if_neg hqi]
          by_cases hz : q < i ∧ p q = o2
          · rw [if_pos hz, if_pos ⟨by omega, hz.2⟩]
          · rw [if_neg hz, if_neg (fun y => hz ⟨by omega, y.2⟩)]
      · simp only [hc, if_false, not_false_eq_true, false_implies, true_and, true_implies]
        refine ih (i + 1) u (by omega) (by omega) hR ?_
        intro q hq
        rw [hl q hq]
        unfold mgP
        by_cases hqi : q = i
        · subst hqi; rw [if_neg (by omega), if_neg (fun y => hc y.2)]
        · by_cases hz : q < i ∧ p q = o2
          · rw [if_pos hz, if_pos ⟨by omega, hz.2⟩]
          · rw [if_neg hz, if_neg (fun y => hz ⟨by omega, y.2⟩)]
theorem cx_streets : ∀ (m s : Nat) (u : S4) (p : Nat → Nat), s ≤ k → k < s + m → RelN n k d w u v → lab n 0 u p → pc_X n (eA v) (eB v) (eW v) s p →
    ∃ (u' : S4) (p' : Nat → Nat), RelN n k d w u' v ∧ pc_X n (eA v) (eB v) (eW v) k p' ∧ xL_Net_countPieces_36 m u (nI (cnt (fun x => decide (p x = x)) n)) (nI s) = (nI (cnt (fun x => decide (p' x = x)) n), u') ∧ xLq_Net_countPieces_36 m u (nI (cnt (fun x => decide (p x = x)) n)) (nI s) := by
  intro m
  induction m with
  | zero => intro s u p h1 h2; omega
  | succ m ih =>
    intro s u p h1 h2 hR hl hX
    have n8 := hR.1.1
    have k12 := hR.2.2.1.1
    have hsz : xp_Streets_size u = nI k := hR.2.2.1.2.1
    show ∃ (u' : S4) (p' : Nat → Nat), RelN n k d w u' v ∧ pc_X n (eA v) (eB v) (eW v) k p' ∧ xB_Net_countPieces_36 (xL_Net_countPieces_36 m) u (nI (cnt (fun x => decide (p x = x)) n)) (nI s) = (nI (cnt (fun x => decide (p' x = x)) n), u') ∧ xBq_Net_countPieces_36 (xLq_Net_countPieces_36 m) u (nI (cnt (fun x => decide (p x = x)) n)) (nI s)
    unfold xB_Net_countPieces_36 xBq_Net_countPieces_36
    simp only [hsz, nI_1]
    by_cases hse : s = k
    · subst hse
      have hle : nI s ≤ nI s := nI_le (Nat.le_refl _) (by omega)
      simp only [hle, if_true, not_true_eq_false, false_implies]
      exact ⟨u, p, hR, hX, rfl, trivial⟩
    · have hs : s < k := by omega
      have hle : ¬ nI k ≤ nI s := nI_ge hs (by omega)
      obtain ⟨a1, b1, fa, fb, q, q1, fq⟩ := e_at hR hs
      have e2 := hR.2.2.1.2.2.2.1
      have e3 := hR.2.2.1.2.2.2.2.1
      have e5 := hR.2.2.1.2.2.2.2.2.2.1
      have hin : vp_in (nI s) 12 := vp_in_nI (by omega) (by decide)
      have hina : vp_in (nI (eA v s)) 8 := vp_in_nI (by omega) (by decide)
      have hinb : vp_in (nI (eB v s)) 8 := vp_in_nI (by omega) (by decide)
      have ra : xp_Streets_nodeAOf u (nI s) = nI (eA v s) := by unfold xp_Streets_nodeAOf; rw [s4_ra_n (by omega), e2, fa]
      have rb : xp_Streets_nodeBOf u (nI s) = nI (eB v s) := by unfold xp_Streets_nodeBOf; rw [s4_ra_n (by omega), e3, fb]
      have pa := hX.2.2 _ a1
      have pb := hX.2.2 _ b1
      have va : s4_ra u 0 (nI (eA v s)) = nI (p (eA v s)) := by rw [s4_ra_n (by omega), hl _ a1]
      have vb : s4_ra u 0 (nI (eB v s)) = nI (p (eB v s)) := by rw [s4_ra_n (by omega), hl _ b1]
      have hw : xp_Streets_hasAnyWay u (nI s) = 0 ↔ eW v s = false := by
        unfold xp_Streets_hasAnyWay eW
        rw [s4_ra_n (by omega), e5]
        by_cases hc : s4_a v 6 s = 3
        · simp [hc]
        · simp [hc]
      have hpe : nI (p (eA v s)) = nI (p (eB v s)) ↔ p (eA v s) = p (eB v s) := nI_eq (by omega) (by omega)
      simp only [hle, if_false, not_false_eq_true, true_implies, xq_Streets_nodeAOf, xq_Streets_nodeBOf, xq_Streets_hasAnyWay, ra, rb, va, vb, hw, hpe, hin, hina, hinb, true_and]
      by_cases cw : eW v s = false
      · simp only [cw, if_true, not_true_eq_false, false_implies, and_true, true_implies]
        exact ih (s + 1) u p (by omega) (by omega) hR hl (pc_skip hX (fun z => by rw [cw] at z; exact Bool.noConfusion z))
      · have cw' : eW v s = true := by cases hh : eW v s with
          | true => rfl
          | false => exact absurd hh cw
        simp only [cw', Bool.true_eq_false, if_false, not_false_eq_true, false_implies, true_and, true_implies]
        by_cases ce : p (eA v s) = p (eB v s)
        · simp only [ce, if_true, not_true_eq_false, false_implies, and_true, true_implies]
          exact ih (s + 1) u p (by omega) (by omega) hR hl (pc_skip hX (fun _ => ce))
        · simp only [ce, if_false, not_false_eq_true, false_implies, true_and, true_implies]
          obtain ⟨u1, q1, q2, q3, q4⟩ := cx_merge (n := n) (k := k) (d := d) (w := w) (v := v) (p := p) (o1 := p (eA v s)) (o2 := p (eB v s)) hX.2.2 (by omega) 64 0 u (by omega) (by omega) hR (fun q hq => by rw [hl q hq]; unfold mgP; rw [if_neg (by omega)])
          have em : ∀ x, x < n → mgP p (p (eA v s)) (p (eB v s)) n x = if p x = p (eB v s) then p (eA v s) else p x := fun x hx => by
            unfold mgP
            by_cases hz : p x = p (eB v s)
            · rw [if_pos ⟨hx, hz⟩, if_pos hz]
            · rw [if_neg (fun y => hz y.2), if_neg hz]
          have hX' := pc_merge hX (fun j hj => by obtain ⟨z1, z2, -⟩ := e_at hR (s := j) (by omega); exact ⟨z1, z2⟩) cw' em
          have hcnt := pc_count hX ⟨a1, b1⟩ ce em
          have hm1 : nI (cnt (fun x => decide (p x = x)) n) + -1 = nI (cnt (fun x => decide (mgP p (p (eA v s)) (p (eB v s)) n x = x)) n) := by
            rw [← hcnt]
            exact pk_m1 _
          have e4 : xp_Net_merge u (nI (p (eA v s))) (nI (p (eB v s))) = u1 := q3
          have e6 : xq_Net_merge u (nI (p (eA v s))) (nI (p (eB v s))) := q4
          simp only [e4, e6, hm1, true_and]
          exact ih (s + 1) u1 _ (by omega) (by omega) q1 q2 hX'
theorem cx_init : ∀ (m i : Nat) (u : S4), i ≤ n → n < i + m → RelN n k d w u v → lab i 0 u (fun x => x) →
    ∃ (u' : S4) (p' : Nat → Nat), RelN n k d w u' v ∧ pc_X n (eA v) (eB v) (eW v) k p' ∧ xL_Net_countPieces_10 m u (nI n) (nI i) = (nI (cnt (fun x => decide (p' x = x)) n), u') ∧ xLq_Net_countPieces_10 m u (nI n) (nI i) := by
  intro m
  induction m with
  | zero => intro i u h1 h2; omega
  | succ m ih =>
    intro i u h1 h2 hR hl
    have n8 := hR.1.1
    have k12 := hR.2.2.1.1
    have hs : xp_Nodes_size u = nI n := hR.1.2.1
    show ∃ (u' : S4) (p' : Nat → Nat), RelN n k d w u' v ∧ pc_X n (eA v) (eB v) (eW v) k p' ∧ xB_Net_countPieces_10 (xL_Net_countPieces_10 m) u (nI n) (nI i) = (nI (cnt (fun x => decide (p' x = x)) n), u') ∧ xBq_Net_countPieces_10 (xLq_Net_countPieces_10 m) u (nI n) (nI i)
    unfold xB_Net_countPieces_10 xBq_Net_countPieces_10
    simp only [hs, nI_1]
    by_cases hie : i = n
    · subst hie
      have hle : nI i ≤ nI i := nI_le (Nat.le_refl _) (by omega)
      simp only [hle, if_true, not_true_eq_false, false_implies, and_true, true_implies]
      have hc : cnt (fun x => decide ((fun x : Nat => x) x = x)) i = i := by
        refine (cnt_congr (Q := fun _ => true) i (fun x _ => ?_)).trans (cnt_all i)
        simp
      have := cx_streets (n := i) (k := k) (d := d) (w := w) (v := v) 64 0 u (fun x => x) (by omega) (by omega) hR hl (pc_X0 (fun x _ => rfl))
      rw [hc] at this
      exact this
    · have hi : i < n := by omega
      have hle : ¬ nI n ≤ nI i := nI_ge hi (by omega)
      have hin : vp_in (nI i) 8 := vp_in_nI (by omega) (by decide)
      simp only [hle, if_false, not_false_eq_true, false_implies, true_implies, true_and, hin]
      refine ih (i + 1) (s4_wa u 0 (nI i) (nI i)) (by omega) (by omega) hR ?_
      intro q hq
      rw [s4_wa_n (by omega)]
      show upd (s4_a u 0) i (nI i) q = nI q
      unfold upd
      by_cases hqi : q = i
      · rw [if_pos hqi, hqi]
      · rw [if_neg hqi]; exact hl q (by omega)
end CX
section CM
variable {n k d w : Nat} {u v : S4}
theorem cm_same (h0 : RelN n k d w u v) {v' : S4} (h : RelN n k d w u v') : s4_a v' 3 = s4_a v 3 ∧ s4_a v' 4 = s4_a v 4 ∧ s4_a v' 6 = s4_a v 6 :=
  ⟨h.2.2.1.2.2.2.1.symm.trans h0.2.2.1.2.2.2.1, h.2.2.1.2.2.2.2.1.symm.trans h0.2.2.1.2.2.2.2.1, h.2.2.1.2.2.2.2.2.2.1.symm.trans h0.2.2.1.2.2.2.2.2.2.1⟩
theorem cm_round (h0 : RelN n k d w u v) {q : Nat → Nat} (hM : pc_M n (eA v) (eB v) (eW v) k q) {t : Nat} : ∀ (m s : Nat) (v' : S4), s ≤ k → k < s + m → RelN n k d w u v' → lab n 19 v' (pc_r (eA v) (eB v) (eW v) q s) →
    ∃ v2 : S4, RelN n k d w u v2 ∧ lab n 19 v2 (pc_r (eA v) (eB v) (eW v) q k) ∧ (∀ K, mL_M_pieces_35 K m v' (nI t) (nI s) = K v2 (nI (t + 1))) ∧ (∀ Q : S4 → Int32 → Prop, Q v2 (nI (t + 1)) → mLq_M_pieces_35 Q m v' (nI t) (nI s)) := by
  have hA : ∀ s, s < k → eA v s < n ∧ eB v s < n := fun s hs => by obtain ⟨z1, z2, -⟩ := e_at h0 hs; exact ⟨z1, z2⟩
  intro m
  induction m with
  | zero => intro s v' h1 h2; omega
  | succ m ih =>
    intro s v' h1 h2 hR hl
    have n8 := hR.1.1
    have k12 := hR.2.2.1.1
    have iv := hR.2.2.1.2.2.1
    by_cases hse : s = k
    · subst hse
      have hle : nI s ≤ nI s := nI_le (Nat.le_refl _) (by omega)
      refine ⟨v', hR, hl, fun K => ?_, fun Q hQ => ?_⟩
      · show mB_M_pieces_35 K _ v' _ _ = _
        unfold mB_M_pieces_35
        simp only [iv, hle, if_true, nI_1]
      · show mBq_M_pieces_35 Q _ v' _ _
        unfold mBq_M_pieces_35
        simp only [iv, hle, not_true_eq_false, false_implies, and_true, true_implies, nI_1]
        exact hQ
    · have hs : s < k := by omega
      have hle : ¬ nI k ≤ nI s := nI_ge hs (by omega)
      obtain ⟨a1, b1, fa, fb, kq, q1, fq⟩ := e_at h0 hs
      obtain ⟨c3, c4, c6⟩ := cm_same h0 hR
      have hMs := (pc_r_M hA hM s (by omega)).1
      have la := hMs.2 _ a1
      have lb := hMs.2 _ b1
      have hin : vp_in (nI s) 12 := vp_in_nI (by omega) (by decide)
      have hina : vp_in (nI (eA v s)) 8 := vp_in_nI (by omega) (by decide)
      have hinb : vp_in (nI (eB v s)) 8 := vp_in_nI (by omega) (by decide)
      have ra : s4_ra v' 3 (nI s) = nI (eA v s) := by rw [s4_ra_n (by omega), c3, fa]
      have rb : s4_ra v' 4 (nI s) = nI (eB v s) := by rw [s4_ra_n (by omega), c4, fb]
      have rk : s4_ra v' 6 (nI s) = nI kq := by rw [s4_ra_n (by omega), c6, fq]
      have va : s4_ra v' 19 (nI (eA v s)) = nI (pc_r (eA v) (eB v) (eW v) q s (eA v s)) := by rw [s4_ra_n (by omega), hl _ a1]
      have vb : s4_ra v' 19 (nI (eB v s)) = nI (pc_r (eA v) (eB v) (eW v) q s (eB v s)) := by rw [s4_ra_n (by omega), hl _ b1]
      have hcmp : nI (pc_r (eA v) (eB v) (eW v) q s (eB v s)) ≤ nI (pc_r (eA v) (eB v) (eW v) q s (eA v s)) ↔ ¬ pc_r (eA v) (eB v) (eW v) q s (eA v s) < pc_r (eA v) (eB v) (eW v) q s (eB v s) := by
        rw [nI_leI (by omega) (by omega)]; omega
      have hk3 : (3 : Int32) ≤ nI kq ↔ eW v s = false := by
        have e1 : (3 : Int32) ≤ nI kq ↔ 3 ≤ kq := nI_leI (a := 3) (by decide) (by omega)
        have e2 : (nI kq = 3) ↔ kq = 3 := nI_eq (b := 3) (by omega) (by decide)
        rw [e1]
        unfold eW
        rw [fq]
        by_cases hz : kq = 3
        · have := e2.mpr hz
          simp [this]; omega
        · have : ¬ nI kq = 3 := fun y => hz (e2.mp y)
          simp [this]; omega
      by_cases cw : eW v s = false
      · have hn : pc_r (eA v) (eB v) (eW v) q (s + 1) = pc_r (eA v) (eB v) (eW v) q s := by
          show pc_e _ _ _ _ s = _
          unfold pc_e
          rw [cw]
          simp
        obtain ⟨v2, r1, r2, r3, r4⟩ := ih (s + 1) v' (by omega) (by omega) hR (by rw [hn]; exact hl)
        refine ⟨v2, r1, r2, fun K => ?_, fun Q hQ => ?_⟩
        · show mB_M_pieces_35 K _ v' _ _ = _
          unfold mB_M_pieces_35
          simp only [iv, hle, if_false, ra, rb, rk, hk3, cw, if_true, nI_1, ite_self]
          exact r3 K
        · show mBq_M_pieces_35 Q _ v' _ _
          unfold mBq_M_pieces_35
          have hq := r4 Q hQ
          simp only [iv, hle, ra, rb, rk, hk3, cw, hin, hina, hinb, nI_1, not_false_eq_true, not_true_eq_false, true_implies, false_implies, true_and, and_true]
          exact ⟨fun _ => hq, fun _ => hq⟩
      · have cw' : eW v s = true := by cases hh : eW v s with
          | true => rfl
          | false => exact absurd hh cw
        have step : ∀ l : Nat, l = (if pc_r (eA v) (eB v) (eW v) q s (eA v s) < pc_r (eA v) (eB v) (eW v) q s (eB v s) then pc_r (eA v) (eB v) (eW v) q s (eA v s) else pc_r (eA v) (eB v) (eW v) q s (eB v s)) → lab n 19 (s4_wa (s4_wa v' 19 (nI (eA v s)) (nI l)) 19 (nI (eB v s)) (nI l)) (pc_r (eA v) (eB v) (eW v) q (s + 1)) := by
          intro l hl2
          have h3 := lab_set (i := eB v s) (x := l) (lab_set (i := eA v s) (x := l) hl (by omega)) (by omega)
          have e : pc_r (eA v) (eB v) (eW v) q (s + 1) = va_up (va_up (pc_r (eA v) (eB v) (eW v) q s) (eA v s) l) (eB v s) l := by
            show pc_e _ _ _ _ s = _
            unfold pc_e
            rw [if_pos cw', hl2]
          rw [e]
          exact h3
        by_cases cc : pc_r (eA v) (eB v) (eW v) q s (eA v s) < pc_r (eA v) (eB v) (eW v) q s (eB v s)
        · have hc' : ¬ nI (pc_r (eA v) (eB v) (eW v) q s (eB v s)) ≤ nI (pc_r (eA v) (eB v) (eW v) q s (eA v s)) := fun z => hcmp.mp z cc
          obtain ⟨v2, r1, r2, r3, r4⟩ := ih (s + 1) (s4_wa (s4_wa v' 19 (nI (eA v s)) (nI (pc_r (eA v) (eB v) (eW v) q s (eA v s)))) 19 (nI (eB v s)) (nI (pc_r (eA v) (eB v) (eW v) q s (eA v s)))) (by omega) (by omega) hR (step _ (by rw [if_pos cc]))
          have rb2 : s4_ra (s4_wa v' 19 (nI (eA v s)) (nI (pc_r (eA v) (eB v) (eW v) q s (eA v s)))) 4 (nI s) = nI (eB v s) := rb
          refine ⟨v2, r1, r2, fun K => ?_, fun Q hQ => ?_⟩
          · show mB_M_pieces_35 K _ v' _ _ = _
            unfold mB_M_pieces_35
            simp only [iv, hle, if_false, ra, rb, rk, va, vb, hc', hk3, cw', Bool.true_eq_false, nI_1, rb2]
            exact r3 K
          · show mBq_M_pieces_35 Q _ v' _ _
            unfold mBq_M_pieces_35
            simp only [iv, hle, ra, rb, rk, va, vb, hc', hk3, cw', Bool.true_eq_false, rb2, hin, hina, hinb, nI_1, not_false_eq_true, not_true_eq_false, true_implies, false_implies, true_and, and_true]
            exact r4 Q hQ
        · have hc' := hcmp.mpr cc
          obtain ⟨v2, r1, r2, r3, r4⟩ := ih (s + 1) (s4_wa (s4_wa v' 19 (nI (eA v s)) (nI (pc_r (eA v) (eB v) (eW v) q s (eB v s)))) 19 (nI (eB v s)) (nI (pc_r (eA v) (eB v) (eW v) q s (eB v s)))) (by omega) (by omega) hR (step _ (by rw [if_neg cc]))
          have rb2 : s4_ra (s4_wa v' 19 (nI (eA v s)) (nI (pc_r (eA v) (eB v) (eW v) q s (eB v s)))) 4 (nI s) = nI (eB v s) := rb
          refine ⟨v2, r1, r2, fun K => ?_, fun Q hQ => ?_⟩
          · show mB_M_pieces_35 K _ v' _ _ = _
            unfold mB_M_pieces_35
            simp only [iv, hle, if_false, ra, rb, rk, va, vb, hc', hk3, cw', Bool.true_eq_false, nI_1, rb2, if_true]
            exact r3 K
          · show mBq_M_pieces_35 Q _ v' _ _
            unfold mBq_M_pieces_35
            simp only [iv, hle, ra, rb, rk, va, vb, hc', hk3, cw', Bool.true_eq_false, rb2, hin, hina, hinb, nI_1, not_false_eq_true, not_true_eq_false, true_implies, false_implies, true_and, and_true]
            exact r4 Q hQ
theorem cm_count {q : Nat → Nat} (hq : ∀ x, x < n → q x ≤ x) : ∀ (m i : Nat) (v' : S4), i ≤ n → n < i + m → RelN n k d w u v' → lab n 19 v' q →
    mL_M_pieces_144 m v' (nI (cnt (fun x => decide (q x = x)) i)) (nI i) = (nI (cnt (fun x => decide (q x = x)) n), v') ∧ mLq_M_pieces_144 m v' (nI (cnt (fun x => decide (q x = x)) i)) (nI i) := by
  intro m
  induction m with
  | zero => intro i v' h1 h2; omega
  | succ m ih =>
    intro i v' h1 h2 hR hl
    have n8 := hR.1.1
    have iv := hR.1.2.2.1
    show mB_M_pieces_144 (mL_M_pieces_144 m) v' _ _ = _ ∧ mBq_M_pieces_144 (mLq_M_pieces_144 m) v' _ _
    unfold mB_M_pieces_144 mBq_M_pieces_144
    simp only [iv, nI_1]
    by_cases hie : i = n
    · subst hie
      have hle : nI i ≤ nI i := nI_le (Nat.le_refl _) (by omega)
      simp only [hle, if_true, not_true_eq_false, false_implies, and_true]
    · have hi : i < n := by omega
      have hle : ¬ nI n ≤ nI i := nI_ge hi (by omega)
      have hin : vp_in (nI i) 8 := vp_in_nI (by omega) (by decide)
      have hqi := hq i hi
      have hra : s4_ra v' 19 (nI i) = nI i ↔ q i = i := by
        rw [s4_ra_n (by omega), hl i hi]
        exact nI_eq (by omega) (by omega)
      have hu : cnt (fun x => decide (q x = x)) (i + 1) = cnt (fun x => decide (q x = x)) i + (if decide (q i = i) = true then 1 else 0) := rfl
      have := ih (i + 1) v' (by omega) (by omega) hR hl
      simp only [hle, if_false, not_false_eq_true, true_implies, hra, hin, true_and]
      by_cases hc : q i = i
      · simp only [hc, if_true, not_true_eq_false, false_implies, and_true, true_implies]
        rw [hu] at this
        simpa [hc] using this
      · simp only [hc, if_false, not_false_eq_true, false_implies, true_and, true_implies]
        rw [hu] at this
        simpa [hc] using this
theorem cm_rounds (h0 : RelN n k d w u v) {q : Nat → Nat} (hM : pc_M n (eA v) (eB v) (eW v) k q) : ∀ (m t : Nat) (v' : S4), t ≤ n → n < t + m → RelN n k d w u v' → lab n 19 v' (pc_rs (eA v) (eB v) (eW v) k q t) →
    ∃ v2 : S4, RelN n k d w u v2 ∧ mL_M_pieces_25 m v' (nI t) = (nI (cnt (fun x => decide (pc_rs (eA v) (eB v) (eW v) k q n x = x)) n), v2) ∧ mLq_M_pieces_25 m v' (nI t) := by
  have hA : ∀ s, s < k → eA v s < n ∧ eB v s < n := fun s hs => by obtain ⟨z1, z2, -⟩ := e_at h0 hs; exact ⟨z1, z2⟩
  intro m
  induction m with
  | zero => intro t v' h1 h2; omega
  | succ m ih =>
    intro t v' h1 h2 hR hl
    have n8 := hR.1.1
    have k12 := hR.2.2.1.1
    have iv := hR.1.2.2.1
    show ∃ v2 : S4, RelN n k d w u v2 ∧ mB_M_pieces_25 (mL_M_pieces_25 m) v' (nI t) = (nI (cnt (fun x => decide (pc_rs (eA v) (eB v) (eW v) k q n x = x)) n), v2) ∧ mBq_M_pieces_25 (mLq_M_pieces_25 m) v' (nI t)
    unfold mB_M_pieces_25 mBq_M_pieces_25
    simp only [iv]
    by_cases hte : t = n
    · subst hte
      have hle : nI t ≤ nI t := nI_le (Nat.le_refl _) (by omega)
      simp only [hle, if_true, not_true_eq_false, false_implies, and_true, true_implies]
      have := cm_count (u := u) (n := t) (k := k) (d := d) (w := w) (pc_rs_M hA hM t).2 64 0 v' (by omega) (by omega) hR hl
      exact ⟨v', hR, this⟩
    · have ht : t < n := by omega
      have hle : ¬ nI n ≤ nI t := nI_ge ht (by omega)
      simp only [hle, if_false, not_false_eq_true, false_implies, true_and, true_implies]
      obtain ⟨v1, q1, q2, q3, q4⟩ := cm_round h0 (pc_rs_M hA hM t) (t := t) 64 0 v' (by omega) (by omega) hR hl
      obtain ⟨v2, r1, r2, r3⟩ := ih (t + 1) v1 (by omega) (by omega) q1 q2
      exact ⟨v2, r1, (q3 _).trans r2, q4 _ r3⟩
theorem cm_init (h0 : RelN n k d w u v) : ∀ (m i : Nat) (v' : S4), i ≤ n → n < i + m → RelN n k d w u v' → lab i 19 v' (fun x => x) →
    ∃ v2 : S4, RelN n k d w u v2 ∧ mL_M_pieces_2 m v' (nI i) = (nI (cnt (fun x => decide (pc_rs (eA v) (eB v) (eW v) k (fun x => x) n x = x)) n), v2) ∧ mLq_M_pieces_2 m v' (nI i) := by
  intro m
  induction m with
  | zero => intro i v' h1 h2; omega
  | succ m ih =>
    intro i v' h1 h2 hR hl
    have n8 := hR.1.1
    have iv := hR.1.2.2.1
    show ∃ v2 : S4, RelN n k d w u v2 ∧ mB_M_pieces_2 (mL_M_pieces_2 m) v' (nI i) = (nI (cnt (fun x => decide (pc_rs (eA v) (eB v) (eW v) k (fun x => x) n x = x)) n), v2) ∧ mBq_M_pieces_2 (mLq_M_pieces_2 m) v' (nI i)
    unfold mB_M_pieces_2 mBq_M_pieces_2
    simp only [iv, nI_1]
    by_cases hie : i = n
    · subst hie
      have hle : nI i ≤ nI i := nI_le (Nat.le_refl _) (by omega)
      simp only [hle, if_true, not_true_eq_false, false_implies, and_true, true_implies]
      exact cm_rounds h0 ⟨fun r _ x _ => rfl, fun x _ => Nat.le_refl _⟩ 64 0 v' (by omega) (by omega) hR hl
    · have hi : i < n := by omega
      have hle : ¬ nI n ≤ nI i := nI_ge hi (by omega)
      have hin : vp_in (nI i) 8 := vp_in_nI (by omega) (by decide)
      simp only [hle, if_false, not_false_eq_true, false_implies, true_implies, true_and, hin]
      refine ih (i + 1) (s4_wa v' 19 (nI i) (nI i)) (by omega) (by omega) hR ?_
      intro q hq
      rw [s4_wa_n (by omega)]
      show upd (s4_a v' 19) i (nI i) q = nI q
      unfold upd
      by_cases hqi : q = i
      · rw [if_pos hqi, hqi]
      · rw [if_neg hqi]; exact hl q (by omega)
end CM
theorem op_pieces {u v : S4} (h : Rel u v) : (xq_O_pieces u) ∧ (mq_M_pieces v) ∧ (xp_O_pieces u).1 = (mp_M_pieces v).1 ∧ Rel (xp_O_pieces u).2 (mp_M_pieces v).2 := by
  obtain ⟨n, k, d, w, hR⟩ := id h
  have n8 := hR.1.1
  obtain ⟨u', p', p1, p2, p3, p4⟩ := cx_init (n := n) (k := k) (d := d) (w := w) (v := v) 64 0 u (by omega) (by omega) hR (fun q hq => absurd hq (Nat.not_lt_zero _))
  obtain ⟨v', q1, q2, q3⟩ := cm_init hR 64 0 v (by omega) (by omega) hR (fun q hq => absurd hq (Nat.not_lt_zero _))
  have hA : ∀ s, s < k → eA v s < n ∧ eB v s < n := fun s hs => by obtain ⟨z1, z2, -⟩ := e_at hR hs; exact ⟨z1, z2⟩
  have hM : pc_M n (eA v) (eB v) (eW v) k (fun x => x) := ⟨fun r _ x _ => rfl, fun x _ => Nat.le_refl _⟩
  have heq := pc_same p2 (pc_rs_M hA hM n) (pc_conv hA p2 hM)
  have hs : xp_Nodes_size u = nI n := hR.1.2.1
  refine op_mk (r := nI (cnt (fun x => decide (p' x = x)) n)) (U := u') (V := v') ?_ ?_ ?_ ?_ (relN_glue p1 hR q1)
  · simp only [xq_O_pieces, xq_Net_countPieces, hs]
    exact p4
  · exact q3
  · simp only [xp_O_pieces, xp_Net_countPieces, hs]
    exact p3
  · rw [heq]; exact q2
