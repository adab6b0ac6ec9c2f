/-! PURE: counting; pieces by merging, and by least labels -/
def cnt (P : Nat → Bool) : Nat → Nat
  | 0 => 0
  | n + 1 => cnt P n + (if P n = true then 1 else 0)
theorem cnt_le (P : Nat → Bool) : ∀ n, cnt P n ≤ n := by
  intro n
  induction n with
  | zero => exact Nat.le_refl _
  | succ n ih =>
    unfold cnt
    by_cases h : P n = true
    · rw [if_pos h]; omega
    · rw [if_neg h]; omega
theorem cnt_mono {P Q : Nat → Bool} : ∀ n, (∀ x, x < n → P x = true → Q x = true) → cnt P n ≤ cnt Q n := by
  intro n
  induction n with
  | zero => intro _; exact Nat.le_refl _
  | succ n ih =>
    intro h
    have h1 := ih (fun x hx => h x (by omega))
    unfold cnt
    by_cases hp : P n = true
    · rw [if_pos hp, if_pos (h n (by omega) hp)]; omega
    · rw [if_neg hp]; omega
theorem cnt_lt {P Q : Nat → Bool} : ∀ n, (∀ x, x < n → P x = true → Q x = true) → ∀ y, y < n → Q y = true → P y = false → cnt P n + 1 ≤ cnt Q n := by
  intro n
  induction n with
  | zero => intro _ y hy; omega
  | succ n ih =>
    intro h y hy hq hp
    unfold cnt
    by_cases hyn : y = n
    · subst hyn
      have h1 := cnt_mono y (fun x hx => h x (by omega))
      rw [if_pos hq, hp]
      simp
      exact h1
    · have h1 := ih (fun x hx => h x (by omega)) y (by omega) hq hp
      by_cases hpn : P n = true
      · rw [if_pos hpn, if_pos (h n (by omega) hpn)]; omega
      · rw [if_neg hpn]; omega
theorem cnt_congr {P Q : Nat → Bool} (n : Nat) (h : ∀ x, x < n → P x = Q x) : cnt P n = cnt Q n := by
  have h1 := cnt_mono (P := P) (Q := Q) n (fun x hx q => by rw [← h x hx]; exact q)
  have h2 := cnt_mono (P := Q) (Q := P) n (fun x hx q => by rw [h x hx]; exact q)
  omega
theorem cnt_drop {P Q : Nat → Bool} {y : Nat} : ∀ n, y < n → P y = true → (∀ x, x < n → Q x = (P x && decide (x ≠ y))) → cnt Q n + 1 = cnt P n := by
  intro n
  induction n with
  | zero => intro hy; omega
  | succ n ih =>
    intro hy hp h
    unfold cnt
    by_cases hyn : y = n
    · subst hyn
      have h1 : cnt Q y = cnt P y := cnt_congr y (fun x hx => by
        rw [h x (by omega)]
        have : x ≠ y := by omega
        simp [this])
      have h2 : Q y = false := by rw [h y (by omega)]; simp
      rw [h1, h2, hp]
      simp
    · have h1 := ih (by omega) hp (fun x hx => h x (by omega))
      have h2 : Q n = P n := by
        rw [h n (by omega)]
        have : n ≠ y := fun q => hyn q.symm
        simp [this]
      rw [h2]
      omega
theorem cnt_all : ∀ n, cnt (fun _ => true) n = n := by
  intro n
  induction n with
  | zero => rfl
  | succ n ih => unfold cnt; rw [ih]; simp
theorem cnt_step {P : Nat → Bool} {x y : Nat} (h : P x = true) (hxy : x < y) : cnt P x < cnt P y := by
  induction y with
  | zero => omega
  | succ y ih =>
    by_cases hx : x = y
    · subst hx
      show cnt P x < cnt P x + (if P x = true then 1 else 0)
      rw [if_pos h]; omega
    · have := ih (by omega)
      show cnt P x < cnt P y + (if P y = true then 1 else 0)
      omega
theorem cnt_find {P : Nat → Bool} : ∀ n i, i < cnt P n → ∃ x, x < n ∧ P x = true ∧ cnt P x = i := by
  intro n
  induction n with
  | zero => intro i hi; simp [cnt] at hi
  | succ n ih =>
    intro i hi
    have hu : cnt P (n + 1) = cnt P n + (if P n = true then 1 else 0) := rfl
    rcases Nat.lt_or_ge i (cnt P n) with h | h
    · obtain ⟨x, h1, h2⟩ := ih i h
      exact ⟨x, by omega, h2⟩
    · by_cases hp : P n = true
      · rw [hu, if_pos hp] at hi
        exact ⟨n, by omega, hp, by omega⟩
      · rw [hu, if_neg hp] at hi
        omega
theorem cnt_inj {P Q : Nat → Bool} {n : Nat} (f : Nat → Nat) (hf : ∀ x, x < n → P x = true → f x < n ∧ Q (f x) = true) (hi : ∀ x y, x < n → y < n → P x = true → P y = true → f x = f y → x = y) : cnt P n ≤ cnt Q n := by
  have hch : ∃ o : Nat → Nat, ∀ i, i < cnt P n → o i < n ∧ P (o i) = true ∧ cnt P (o i) = i := by
    refine ⟨fun i => if h : i < cnt P n then Classical.choose (cnt_find n i h) else 0, fun i h => ?_⟩
    simp only [h, dif_pos]
    exact Classical.choose_spec (cnt_find n i h)
  obtain ⟨o, ho⟩ := hch
  refine pj_php (cnt Q n) (cnt P n) (fun i => cnt Q (f (o i))) (fun i h => ?_) (fun i j h1 h2 h3 => ?_)
  · obtain ⟨a1, a2, -⟩ := ho i h
    obtain ⟨b1, b2⟩ := hf _ a1 a2
    exact cnt_step b2 b1
  · obtain ⟨a1, a2, a3⟩ := ho i h1
    obtain ⟨c1, c2, c3⟩ := ho j h2
    obtain ⟨b1, b2⟩ := hf _ a1 a2
    obtain ⟨d1, d2⟩ := hf _ c1 c2
    have he : f (o i) = f (o j) := by
      rcases Nat.lt_trichotomy (f (o i)) (f (o j)) with h | h | h
      · have := cnt_step b2 h; omega
      · exact h
      · have := cnt_step d2 h; omega
    have := hi _ _ a1 c1 a2 c2 he
    rw [← a3, ← c3, this]
/-! n nodes, the edges s below k where w s, between A s and B s -/
def pc_ok (A B : Nat → Nat) (w : Nat → Bool) (k : Nat) (r : Nat → Nat) : Prop := ∀ s, s < k → w s = true → r (A s) = r (B s)
/-- labels by merging: those of an edge that was looked at are the same; a label is of its own class; they are nodes -/
def pc_X (n : Nat) (A B : Nat → Nat) (w : Nat → Bool) (k : Nat) (p : Nat → Nat) : Prop := pc_ok A B w k p ∧ (∀ r, pc_ok A B w k r → ∀ x, x < n → r (p x) = r x) ∧ (∀ x, x < n → p x < n)
theorem pc_idem {n : Nat} {A B : Nat → Nat} {w : Nat → Bool} {k : Nat} {p : Nat → Nat} (h : pc_X n A B w k p) {x : Nat} (hx : x < n) : p (p x) = p x := h.2.1 p h.1 x hx
theorem pc_X0 {n : Nat} {A B : Nat → Nat} {w : Nat → Bool} {p : Nat → Nat} (hp : ∀ x, x < n → p x = x) : pc_X n A B w 0 p :=
  ⟨fun s hs => absurd hs (Nat.not_lt_zero _), fun r _ x hx => by rw [hp x hx], fun x hx => by rw [hp x hx]; exact hx⟩
theorem pc_skip {n : Nat} {A B : Nat → Nat} {w : Nat → Bool} {k : Nat} {p : Nat → Nat} (h : pc_X n A B w k p) (hk : w k = true → p (A k) = p (B k)) : pc_X n A B w (k + 1) p := by
  refine ⟨fun s hs hw => ?_, fun r hr => h.2.1 r (fun s hs => hr s (by omega)), h.2.2⟩
  by_cases hsk : s = k
  · subst hsk; exact hk hw
  · exact h.1 s (by omega) hw
theorem pc_merge {n : Nat} {A B : Nat → Nat} {w : Nat → Bool} {k : Nat} {p p' : Nat → Nat} (h : pc_X n A B w k p) (hA : ∀ s, s ≤ k → A s < n ∧ B s < n) (hw : w k = true) (hp : ∀ x, x < n → p' x = if p x = p (B k) then p (A k) else p x) : pc_X n A B w (k + 1) p' := by
  have hAk := hA k (Nat.le_refl _)
  refine ⟨fun s hs hws => ?_, fun r hr x hx => ?_, fun x hx => ?_⟩
  · have hAs := hA s (by omega)
    rw [hp _ hAs.1, hp _ hAs.2]
    by_cases hsk : s = k
    · subst hsk
      rw [if_pos rfl]
      by_cases hc : p (A s) = p (B s)
      · rw [if_pos hc]
      · rw [if_neg hc]
    · rw [h.1 s (by omega) hws]
  · have hr0 : pc_ok A B w k r := fun s hs => hr s (by omega)
    rw [hp x hx]
    by_cases hc : p x = p (B k)
    · rw [if_pos hc, h.2.1 r hr0 _ hAk.1, hr k (by omega) hw, ← h.2.1 r hr0 _ hAk.2, ← hc]
      exact h.2.1 r hr0 x hx
    · rw [if_neg hc]; exact h.2.1 r hr0 x hx
  · rw [hp x hx]
    by_cases hc : p x = p (B k)
    · rw [if_pos hc]; exact h.2.2 _ hAk.1
    · rw [if_neg hc]; exact h.2.2 x hx
theorem pc_count {n : Nat} {A B : Nat → Nat} {w : Nat → Bool} {k : Nat} {p p' : Nat → Nat} (h : pc_X n A B w k p) (hA : A k < n ∧ B k < n) (hne : p (A k) ≠ p (B k)) (hp : ∀ x, x < n → p' x = if p x = p (B k) then p (A k) else p x) : cnt (fun x => decide (p' x = x)) n + 1 = cnt (fun x => decide (p x = x)) n := by
  have i1 := pc_idem h hA.1
  have i2 := pc_idem h hA.2
  refine cnt_drop (y := p (B k)) n (h.2.2 _ hA.2) (by simp [i2]) (fun x hx => ?_)
  rw [hp x hx]
  by_cases hc : p x = p (B k)
  · rw [if_pos hc]
    have h1 : p (A k) ≠ x := fun q => hne (by rw [← q, i1] at hc; exact hc)
    by_cases hx2 : p x = x
    · have : x = p (B k) := by rw [← hc]; exact hx2.symm
      simp [this, hne]
    · simp [h1, hx2]
  · rw [if_neg hc]
    by_cases hx2 : p x = x
    · have : x ≠ p (B k) := fun q => hc (by rw [hx2]; exact q)
      simp [hx2, this]
    · simp [hx2]
/-- labels that fall: of their own class, at most the node -/
def pc_M (n : Nat) (A B : Nat → Nat) (w : Nat → Bool) (k : Nat) (q : Nat → Nat) : Prop := (∀ r, pc_ok A B w k r → ∀ x, x < n → r (q x) = r x) ∧ ∀ x, x < n → q x ≤ x
theorem pc_same {n : Nat} {A B : Nat → Nat} {w : Nat → Bool} {k : Nat} {p q : Nat → Nat} (hp : pc_X n A B w k p) (hq : pc_M n A B w k q) (hq1 : pc_ok A B w k q) : cnt (fun x => decide (p x = x)) n = cnt (fun x => decide (q x = x)) n := by
  have qn : ∀ x, x < n → q x < n := fun x hx => Nat.lt_of_le_of_lt (hq.2 x hx) hx
  have pq : ∀ x, x < n → p (q x) = p x := fun x hx => hq.1 p hp.1 x hx
  have qp : ∀ x, x < n → q (p x) = q x := fun x hx => hp.2.1 q hq1 x hx
  have qq : ∀ x, x < n → q (q x) = q x := fun x hx => hq.1 q hq1 x hx
  refine Nat.le_antisymm (cnt_inj q (fun x hx h => ⟨qn x hx, by simpa using qq x hx⟩) (fun x y hx hy h1 h2 h3 => ?_)) (cnt_inj p (fun x hx h => ⟨hp.2.2 x hx, by simpa using pc_idem hp hx⟩) (fun x y hx hy h1 h2 h3 => ?_))
  · have e1 : p x = x := by simpa using h1
    have e2 : p y = y := by simpa using h2
    have := pq x hx
    rw [h3, pq y hy, e1, e2] at this
    exact this.symm
  · have e1 : q x = x := by simpa using h1
    have e2 : q y = y := by simpa using h2
    have := qp x hx
    rw [h3, qp y hy, e1, e2] at this
    exact this.symm
def pc_e (A B : Nat → Nat) (w : Nat → Bool) (q : Nat → Nat) (s : Nat) : Nat → Nat :=
  if w s = true then va_up (va_up q (A s) (if q (A s) < q (B s) then q (A s) else q (B s))) (B s) (if q (A s) < q (B s) then q (A s) else q (B s)) else q
def pc_r (A B : Nat → Nat) (w : Nat → Bool) (q : Nat → Nat) : Nat → Nat → Nat
  | 0 => q
  | s + 1 => pc_e A B w (pc_r A B w q s) s
def pc_rs (A B : Nat → Nat) (w : Nat → Bool) (k : Nat) (q : Nat → Nat) : Nat → Nat → Nat
  | 0 => q
  | t + 1 => pc_r A B w (pc_rs A B w k q t) k
section PC
variable {n k : Nat} {A B : Nat → Nat} {w : Nat → Bool}
theorem pc_e_at {q : Nat → Nat} {s x : Nat} : pc_e A B w q s x = q x ∨ (w s = true ∧ (x = A s ∨ x = B s) ∧ pc_e A B w q s x = (if q (A s) < q (B s) then q (A s) else q (B s))) := by
  unfold pc_e
  by_cases hw : w s = true
  · rw [if_pos hw]
    unfold va_up
    by_cases h1 : x = B s
    · rw [if_pos h1]; exact Or.inr ⟨hw, Or.inr h1, rfl⟩
    · rw [if_neg h1]
      by_cases h2 : x = A s
      · rw [if_pos h2]; exact Or.inr ⟨hw, Or.inl h2, rfl⟩
      · rw [if_neg h2]; exact Or.inl rfl
  · rw [if_neg hw]; exact Or.inl rfl
theorem pc_e_M {q : Nat → Nat} {s : Nat} (hs : s < k) (hA : ∀ s, s < k → A s < n ∧ B s < n) (h : pc_M n A B w k q) : pc_M n A B w k (pc_e A B w q s) ∧ ∀ x, x < n → pc_e A B w q s x ≤ q x := by
  have hAs := hA s hs
  have key : ∀ x, x < n → (∀ r, pc_ok A B w k r → r (pc_e A B w q s x) = r x) ∧ pc_e A B w q s x ≤ q x := by
    intro x hx
    rcases pc_e_at (A := A) (B := B) (w := w) (q := q) (s := s) (x := x) with e | ⟨e1, e2, e3⟩
    · rw [e]; exact ⟨fun r hr => h.1 r hr x hx, Nat.le_refl _⟩
    · rw [e3]
      refine ⟨fun r hr => ?_, ?_⟩
      · have h1 := hr s hs e1
        have h2 := h.1 r hr _ hAs.1
        have h3 := h.1 r hr _ hAs.2
        by_cases hc : q (A s) < q (B s)
        · rw [if_pos hc, h2]
          rcases e2 with e2 | e2
          · rw [e2]
          · rw [e2]; exact h1
        · rw [if_neg hc, h3]
          rcases e2 with e2 | e2
          · rw [e2]; exact h1.symm
          · rw [e2]
      · by_cases hc : q (A s) < q (B s)
        · rw [if_pos hc]
          rcases e2 with e2 | e2
          · rw [e2]; exact Nat.le_refl _
          · rw [e2]; omega
        · rw [if_neg hc]
          rcases e2 with e2 | e2
          · rw [e2]; omega
          · rw [e2]; exact Nat.le_refl _
  exact ⟨⟨fun r hr x hx => (key x hx).1 r hr, fun x hx => Nat.le_trans (key x hx).2 (h.2 x hx)⟩, fun x hx => (key x hx).2⟩
theorem pc_r_M {q : Nat → Nat} (hA : ∀ s, s < k → A s < n ∧ B s < n) (h : pc_M n A B w k q) : ∀ s, s ≤ k → pc_M n A B w k (pc_r A B w q s) ∧ ∀ x, x < n → pc_r A B w q s x ≤ q x := by
  intro s
  induction s with
  | zero => intro _; exact ⟨h, fun x _ => Nat.le_refl _⟩
  | succ s ih =>
    intro hs
    obtain ⟨h1, h2⟩ := ih (by omega)
    obtain ⟨h3, h4⟩ := pc_e_M (s := s) (by omega) hA h1
    exact ⟨h3, fun x hx => Nat.le_trans (h4 x hx) (h2 x hx)⟩
theorem pc_r_mono {q : Nat → Nat} (hA : ∀ s, s < k → A s < n ∧ B s < n) (h : pc_M n A B w k q) {s : Nat} : ∀ d, s + d ≤ k → ∀ x, x < n → pc_r A B w q (s + d) x ≤ pc_r A B w q s x := by
  intro d
  induction d with
  | zero => intro _ x _; exact Nat.le_refl _
  | succ d ih =>
    intro hd x hx
    have h1 := ih (by omega) x hx
    obtain ⟨h3, h4⟩ := pc_e_M (s := s + d) (by omega) hA (pc_r_M hA h (s + d) (by omega)).1
    exact Nat.le_trans (h4 x hx) h1
theorem pc_rs_M {q : Nat → Nat} (hA : ∀ s, s < k → A s < n ∧ B s < n) (h : pc_M n A B w k q) : ∀ t, pc_M n A B w k (pc_rs A B w k q t) := by
  intro t
  induction t with
  | zero => exact h
  | succ t ih => exact (pc_r_M hA ih k (Nat.le_refl _)).1
variable {p : Nat → Nat}
theorem pc_low (hp : pc_X n A B w k p) {q : Nat → Nat} (h : pc_M n A B w k q) {m x : Nat} (hmin : ∀ y, y < n → p y = p m → m ≤ y) (hx : x < n) (hxm : p x = p m) : m ≤ q x :=
  hmin _ (Nat.lt_of_le_of_lt (h.2 x hx) hx) ((h.1 p hp.1 x hx).trans hxm)
theorem pc_grow (hA : ∀ s, s < k → A s < n ∧ B s < n) (hp : pc_X n A B w k p) {q : Nat → Nat} (h : pc_M n A B w k q) {m : Nat} (hm : m < n) (hmin : ∀ y, y < n → p y = p m → m ≤ y) {x : Nat} (hx : x < n) (hxm : p x = p m) (hqx : q x ≠ m) : cnt (fun y => decide (q y = m)) n + 1 ≤ cnt (fun y => decide (pc_r A B w q k y = m)) n := by
  have hin : ∀ {q : Nat → Nat}, pc_M n A B w k q → ∀ y, y < n → q y = m → p y = p m := fun {q} hq y hy e => by
    have := hq.1 p hp.1 y hy
    rw [e] at this
    exact this.symm
  have hqm : q m = m := Nat.le_antisymm (h.2 m hm) (pc_low hp h hmin hm rfl)
  have hstay : ∀ s, s ≤ k → ∀ y, y < n → q y = m → pc_r A B w q s y = m := fun s hs y hy e => by
    have h1 := (pc_r_M hA h s hs).2 y hy
    have h2 := pc_low hp (pc_r_M hA h s hs).1 hmin hy (hin h y hy e)
    omega
  have hex : ∃ s, s < k ∧ w s = true ∧ ¬ ((q (A s) = m) ↔ (q (B s) = m)) := by
    refine Classical.byContradiction fun hno => ?_
    have hok : pc_ok A B w k (fun y => if q y = m then 1 else 0) := fun s hs hws => by
      have hiff : (q (A s) = m) ↔ (q (B s) = m) := Classical.byContradiction fun z => hno ⟨s, hs, hws, z⟩
      by_cases hc : q (A s) = m
      · simp [hc, hiff.mp hc]
      · have : ¬ q (B s) = m := fun z => hc (hiff.mpr z)
        simp [hc, this]
    have h1 := hp.2.1 _ hok x hx
    have h2 := hp.2.1 _ hok m hm
    rw [hxm, h2] at h1
    simp [hqm, hqx] at h1
  obtain ⟨s, hs, hws, hne⟩ := hex
  have hAs := hA s hs
  have hpp : p (A s) = p (B s) := hp.1 s hs hws
  have hM := pc_r_M hA h s (by omega)
  have hnew : ∀ y, (y = A s ∨ y = B s) → y < n → pc_r A B w q (s + 1) y = m → pc_r A B w q k y = m := fun y _ hy e => by
    have h1 := pc_r_mono hA h (s := s + 1) (k - (s + 1)) (by omega) y hy
    rw [show s + 1 + (k - (s + 1)) = k by omega, e] at h1
    have h2 := pc_low hp (pc_r_M hA h k (Nat.le_refl _)).1 hmin hy (hin (pc_r_M hA h (s + 1) (by omega)).1 y hy e)
    omega
  have hval : ∀ y, (y = A s ∨ y = B s) → (pc_r A B w q s (A s) = m ∨ pc_r A B w q s (B s) = m) → m ≤ pc_r A B w q s (A s) → m ≤ pc_r A B w q s (B s) → pc_r A B w q (s + 1) y = m := fun y hy h1 h2 h3 => by
    show pc_e A B w (pc_r A B w q s) s y = m
    unfold pc_e
    rw [if_pos hws]
    have e : (if pc_r A B w q s (A s) < pc_r A B w q s (B s) then pc_r A B w q s (A s) else pc_r A B w q s (B s)) = m := by
      by_cases hc : pc_r A B w q s (A s) < pc_r A B w q s (B s)
      · rw [if_pos hc]; omega
      · rw [if_neg hc]; omega
    rw [e]
    unfold va_up
    by_cases h4 : y = B s
    · rw [if_pos h4]
    · rw [if_neg h4]
      rcases hy with hy | hy
      · rw [if_pos hy]
      · exact absurd hy h4
  have hmono : ∀ y, y < n → (decide (q y = m)) = true → (decide (pc_r A B w q k y = m)) = true := fun y hy e => by
    have : q y = m := by simpa using e
    simpa using hstay k (Nat.le_refl _) y hy this
  by_cases hc : q (A s) = m
  · have hB : ¬ q (B s) = m := fun z => hne ⟨fun _ => z, fun _ => hc⟩
    have e1 := hstay s (by omega) _ hAs.1 hc
    have c1 := hin h _ hAs.1 hc
    have l2 := pc_low hp hM.1 hmin hAs.2 (hpp.symm.trans c1)
    have e2 := hnew _ (Or.inr rfl) hAs.2 (hval _ (Or.inr rfl) (Or.inl e1) (by omega) l2)
    exact cnt_lt n hmono (B s) hAs.2 (by simpa using e2) (by simpa using hB)
  · have hB : q (B s) = m := Classical.byContradiction fun z => hne ⟨fun y => absurd y hc, fun y => absurd y z⟩
    have e1 := hstay s (by omega) _ hAs.2 hB
    have c1 := hin h _ hAs.2 hB
    have l2 := pc_low hp hM.1 hmin hAs.1 (hpp.trans c1)
    have e2 := hnew _ (Or.inl rfl) hAs.1 (hval _ (Or.inl rfl) (Or.inr e1) l2 (by omega))
    exact cnt_lt n hmono (A s) hAs.1 (by simpa using e2) (by simpa using hc)
theorem pc_conv (hA : ∀ s, s < k → A s < n ∧ B s < n) (hp : pc_X n A B w k p) {q : Nat → Nat} (h : pc_M n A B w k q) : pc_ok A B w k (pc_rs A B w k q n) := by
  have full : ∀ m, m < n → (∀ y, y < n → p y = p m → m ≤ y) → ∀ x, x < n → p x = p m → pc_rs A B w k q n x = m := by
    intro m hm hmin
    have hgo : ∀ t, (∀ x, x < n → p x = p m → pc_rs A B w k q t x = m) ∨ t + 1 ≤ cnt (fun y => decide (pc_rs A B w k q t y = m)) n := by
      intro t
      induction t with
      | zero =>
        refine Or.inr ?_
        have hqm : q m = m := Nat.le_antisymm (h.2 m hm) (pc_low hp h hmin hm rfl)
        have := cnt_lt (P := fun _ => false) (Q := fun y => decide (q y = m)) n (fun x _ z => by cases z) m hm (by simpa using hqm) rfl
        show 0 + 1 ≤ cnt (fun y => decide (q y = m)) n
        omega
      | succ t ih =>
        have hMt := pc_rs_M hA h t
        by_cases hall : ∀ x, x < n → p x = p m → pc_rs A B w k q t x = m
        · refine Or.inl fun x hx hxm => ?_
          have h1 := (pc_r_M hA hMt k (Nat.le_refl _)).2 x hx
          have h2 := pc_low hp (pc_rs_M hA h (t + 1)) hmin hx hxm
          have h3 := hall x hx hxm
          have h4 : pc_rs A B w k q (t + 1) x ≤ pc_rs A B w k q t x := h1
          omega
        · rcases ih with ih | ih
          · exact absurd ih hall
          · have hex : ∃ x, x < n ∧ p x = p m ∧ pc_rs A B w k q t x ≠ m := by
              refine Classical.byContradiction fun hno => hall fun x hx hxm => ?_
              exact Classical.byContradiction fun z => hno ⟨x, hx, hxm, z⟩
            obtain ⟨x, hx, hxm, hne⟩ := hex
            have := pc_grow hA hp hMt hm hmin hx hxm hne
            refine Or.inr ?_
            show t + 1 + 1 ≤ cnt (fun y => decide (pc_r A B w (pc_rs A B w k q t) k y = m)) n
            omega
    rcases hgo n with h1 | h1
    · exact h1
    · have := cnt_le (fun y => decide (pc_rs A B w k q n y = m)) n
      omega
  intro s hs hws
  have hAs := hA s hs
  obtain ⟨m, hm, hleast⟩ := pk_least (fun y => y < n ∧ p y = p (A s)) ⟨A s, hAs.1, rfl⟩
  have hmin : ∀ y, y < n → p y = p m → m ≤ y := fun y hy e => by
    rcases Nat.lt_or_ge y m with z | z
    · exact absurd ⟨hy, e.trans hm.2⟩ (hleast y z)
    · exact z
  rw [full m hm.1 hmin _ hAs.1 hm.2.symm, full m hm.1 hmin _ hAs.2 ((hp.1 s hs hws).symm.trans hm.2.symm)]
end PC
