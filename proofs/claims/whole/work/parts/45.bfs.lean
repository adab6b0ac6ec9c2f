/-! PURE: fewest sides, a level a turn -/
section BF
variable (N : Nat) (go : Nat → Nat → Bool) (t : Nat) (f : Nat → Option Nat)
/-- side m is newly reached in turn t, as far as the turn has looked (all of the sides before a, and of a into those before b) -/
def bf_c (a b m : Nat) : Prop := m < N ∧ f m = none ∧ ∃ k, (k < a ∨ (k = a ∧ m < b)) ∧ k < N ∧ f k = some t ∧ go k m = true
def bf_P (a b : Nat) (h : Nat → Option Nat) : Prop := ∀ m, (bf_c N go t f a b m → h m = some (t + 1)) ∧ (¬ bf_c N go t f a b m → h m = f m)
variable {N go t f}
theorem bf_P0 : bf_P N go t f 0 0 f := fun m => ⟨fun h => by
  obtain ⟨_, _, k, hk, _⟩ := h
  omega, fun _ => rfl⟩
theorem bf_at {a b k : Nat} {h : Nat → Option Nat} (hP : bf_P N go t f a b h) : h k = some t ↔ f k = some t := by
  by_cases hc : bf_c N go t f a b k
  · have h1 := (hP k).1 hc
    rw [h1, hc.2.1]
    constructor
    · intro q; have := Option.some.inj q; omega
    · intro q; cases q
  · rw [(hP k).2 hc]
theorem bf_none {a b m : Nat} {h : Nat → Option Nat} (hP : bf_P N go t f a b h) : h m = none ↔ f m = none ∧ ¬ bf_c N go t f a b m := by
  by_cases hc : bf_c N go t f a b m
  · rw [(hP m).1 hc]
    constructor
    · intro q; cases q
    · intro q; exact absurd hc q.2
  · rw [(hP m).2 hc]
    exact ⟨fun q => ⟨q, hc⟩, fun q => q.1⟩
theorem bf_set {a b : Nat} {h : Nat → Option Nat} (hP : bf_P N go t f a b h) (ha : a < N) (hb : b < N) (h1 : f a = some t) (h2 : h b = none) (h3 : go a b = true) : bf_P N go t f a (b + 1) (va_up h b (some (t + 1))) := by
  have hb0 := (bf_none hP).mp h2
  intro m
  by_cases hm : m = b
  · subst hm
    refine ⟨fun _ => by unfold va_up; rw [if_pos rfl], fun q => absurd ⟨hb, hb0.1, a, Or.inr ⟨rfl, by omega⟩, ha, h1, h3⟩ q⟩
  · have hiff : bf_c N go t f a (b + 1) m ↔ bf_c N go t f a b m := by
      constructor
      · rintro ⟨c1, c2, k, c3, c4⟩
        exact ⟨c1, c2, k, by omega, c4⟩
      · rintro ⟨c1, c2, k, c3, c4⟩
        exact ⟨c1, c2, k, by omega, c4⟩
    have hu : va_up h b (some (t + 1)) m = h m := by unfold va_up; rw [if_neg hm]
    rw [hiff, hu]
    exact hP m
theorem bf_not {a b : Nat} {h : Nat → Option Nat} (hP : bf_P N go t f a b h) (hn : ¬ (f a = some t ∧ h b = none ∧ go a b = true)) : bf_P N go t f a (b + 1) h := by
  intro m
  by_cases hm : m = b
  · subst hm
    by_cases hc : bf_c N go t f a m m
    · have h1 := (hP m).1 hc
      refine ⟨fun _ => h1, fun q => ?_⟩
      obtain ⟨c1, c2, k, c3, c4⟩ := hc
      exact absurd ⟨c1, c2, k, by omega, c4⟩ q
    · have h1 := (hP m).2 hc
      refine ⟨fun q => ?_, fun _ => h1⟩
      obtain ⟨c1, c2, k, c3, c4, c5, c6⟩ := q
      by_cases hk : k < a
      · exact absurd ⟨c1, c2, k, Or.inl hk, c4, c5, c6⟩ hc
      · have hka : k = a := by omega
        subst hka
        exact absurd ⟨c5, by rw [h1]; exact c2, c6⟩ hn
  · have hiff : bf_c N go t f a (b + 1) m ↔ bf_c N go t f a b m := by
      constructor
      · rintro ⟨c1, c2, k, c3, c4⟩
        exact ⟨c1, c2, k, by omega, c4⟩
      · rintro ⟨c1, c2, k, c3, c4⟩
        exact ⟨c1, c2, k, by omega, c4⟩
    rw [hiff]
    exact hP m
theorem bf_row {a : Nat} {h : Nat → Option Nat} (hP : bf_P N go t f a N h) : bf_P N go t f (a + 1) 0 h := by
  intro m
  have hiff : bf_c N go t f (a + 1) 0 m ↔ bf_c N go t f a N m := by
    constructor
    · rintro ⟨c1, c2, k, c3, c4⟩
      exact ⟨c1, c2, k, by omega, c4⟩
    · rintro ⟨c1, c2, k, c3, c4⟩
      exact ⟨c1, c2, k, by omega, c4⟩
  rw [hiff]
  exact hP m
theorem bf_skip {a : Nat} {h : Nat → Option Nat} (hP : bf_P N go t f a 0 h) (hn : f a ≠ some t) : bf_P N go t f (a + 1) 0 h := by
  intro m
  have hiff : bf_c N go t f (a + 1) 0 m ↔ bf_c N go t f a 0 m := by
    constructor
    · rintro ⟨c1, c2, k, c3, c4, c5, c6⟩
      refine ⟨c1, c2, k, ?_, c4, c5, c6⟩
      by_cases hk : k = a
      · subst hk; exact absurd c5 hn
      · omega
    · rintro ⟨c1, c2, k, c3, c4⟩
      exact ⟨c1, c2, k, by omega, c4⟩
  rw [hiff]
  exact hP m
theorem bf_det {a b : Nat} {h h' : Nat → Option Nat} (h1 : bf_P N go t f a b h) (h2 : bf_P N go t f a b h') : h = h' := by
  funext m
  by_cases hc : bf_c N go t f a b m
  · rw [(h1 m).1 hc, (h2 m).1 hc]
  · rw [(h1 m).2 hc, (h2 m).2 hc]
end BF
section BG
variable {N : Nat} {go : Nat → Nat → Bool}
/-- the levels that are there are all those up to the greatest -/
def bg_I (N t : Nat) (f : Nat → Option Nat) : Prop := ∀ k v, f k = some v → k < N ∧ v ≤ t ∧ ∀ w, w ≤ v → ∃ q, q < N ∧ f q = some w
theorem bg_lt {t : Nat} {f : Nat → Option Nat} (h : bg_I N t f) {k v : Nat} (hk : f k = some v) : v < N := by
  have hall := (h k v hk).2.2
  have hch : ∃ o : Nat → Nat, ∀ w, w ≤ v → o w < N ∧ f (o w) = some w := by
    refine ⟨fun w => if hw : w ≤ v then Classical.choose (hall w hw) else 0, fun w hw => ?_⟩
    simp only [hw, dif_pos]
    exact Classical.choose_spec (hall w hw)
  obtain ⟨o, ho⟩ := hch
  have := pj_php N (v + 1) o (fun i hi => (ho i (by omega)).1) (fun i j hi hj hij => by
    have h1 := (ho i (by omega)).2
    have h2 := (ho j (by omega)).2
    rw [hij, h2] at h1
    exact (Option.some.inj h1).symm)
  omega
theorem bg_next {t : Nat} {f h : Nat → Option Nat} (hI : bg_I N t f) (hP : bf_P N go t f N 0 h) : bg_I N (t + 1) h := by
  have keep : ∀ k v, f k = some v → h k = some v := fun k v hk => by
    by_cases hc : bf_c N go t f N 0 k
    · rw [hc.2.1] at hk; cases hk
    · rw [(hP k).2 hc]; exact hk
  intro k v hk
  by_cases hc : bf_c N go t f N 0 k
  · have h1 := (hP k).1 hc
    rw [h1] at hk
    have hv : t + 1 = v := Option.some.inj hk
    subst hv
    refine ⟨hc.1, Nat.le_refl _, fun w hw => ?_⟩
    obtain ⟨c1, c2, q, c3, c4, c5, c6⟩ := hc
    by_cases hwt : w = t + 1
    · subst hwt; exact ⟨k, c1, h1⟩
    · obtain ⟨q2, d1, d2⟩ := (hI q t c5).2.2 w (by omega)
      exact ⟨q2, d1, keep q2 w d2⟩
  · rw [(hP k).2 hc] at hk
    obtain ⟨d1, d2, d3⟩ := hI k v hk
    refine ⟨d1, by omega, fun w hw => ?_⟩
    obtain ⟨q2, d4, d5⟩ := d3 w hw
    exact ⟨q2, d4, keep q2 w d5⟩
theorem bg_stop {t : Nat} {f h : Nat → Option Nat} (hI : bg_I N t f) (ht : N ≤ t) (hP : bf_P N go t f N 0 h) : h = f := by
  funext m
  by_cases hc : bf_c N go t f N 0 m
  · obtain ⟨c1, c2, q, c3, c4, c5, c6⟩ := hc
    have := bg_lt hI c5
    omega
  · exact (hP m).2 hc
theorem bg_keep {t : Nat} {f h : Nat → Option Nat} (hP : bf_P N go t f N 0 h) {k v : Nat} (hk : f k = some v) : h k = some v := by
  by_cases hc : bf_c N go t f N 0 k
  · rw [hc.2.1] at hk; cases hk
  · rw [(hP k).2 hc]; exact hk
end BG
