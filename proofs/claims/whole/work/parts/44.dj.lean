/-! PURE: pigeons; earliest ends by picking the soonest; what leads to a goal; the way. N sides, Z is 'never', E a b t: when b ends if gone into from a's end at t. -/
theorem pj_php : ∀ (N c : Nat) (o : Nat → Nat), (∀ i, i < c → o i < N) → (∀ i j, i < c → j < c → o i = o j → i = j) → c ≤ N := by
  intro N
  induction N with
  | zero =>
    intro c o h _
    rcases Nat.eq_zero_or_pos c with h0 | h0
    · omega
    · exact absurd (h 0 h0) (Nat.not_lt_zero _)
  | succ N ih =>
    intro c o h hi
    by_cases hx : ∃ i, i < c ∧ o i = N
    · obtain ⟨i0, hi0, e0⟩ := hx
      have key := ih (c - 1) (fun j => if j < i0 then o j else o (j + 1)) ?_ ?_
      · omega
      · intro j hj
        by_cases hji : j < i0
        · simp only [hji, if_true]
          have h1 := h j (by omega)
          have h2 : o j ≠ N := fun q => by have := hi j i0 (by omega) hi0 (q.trans e0.symm); omega
          omega
        · simp only [hji, if_false]
          have h1 := h (j + 1) (by omega)
          have h2 : o (j + 1) ≠ N := fun q => by have := hi (j + 1) i0 (by omega) hi0 (q.trans e0.symm); omega
          omega
      · intro a b ha hb hab
        by_cases h1 : a < i0 <;> by_cases h2 : b < i0
        · simp only [h1, h2, if_true] at hab
          exact hi a b (by omega) (by omega) hab
        · simp only [h1, h2, if_true, if_false] at hab
          have := hi a (b + 1) (by omega) (by omega) hab
          omega
        · simp only [h1, h2, if_true, if_false] at hab
          have := hi (a + 1) b (by omega) (by omega) hab
          omega
        · simp only [h1, h2, if_false] at hab
          have := hi (a + 1) (b + 1) (by omega) (by omega) hab
          omega
    · have := ih c o (fun i hic => by
        have h1 := h i hic
        have h2 : o i ≠ N := fun q => hx ⟨i, hic, q⟩
        omega) hi
      omega
section DJ
variable (N Z : Nat) (E : Nat → Nat → Nat → Option Nat)
abbrev dj_X : Type := (Nat → Nat) × (Nat → Bool) × (Nat → Nat) × Nat
def dj_v (e : Nat → Nat) (a b : Nat) : Nat := match E a b (e a) with
  | some r => if r < e b then r else e b
  | none => e b
def dj_rk (e : Nat → Nat) (a k : Nat) : Nat → Nat := fun b => if b < k then dj_v E e a b else e b
def dj_pk (e : Nat → Nat) (s : Nat → Bool) : Nat → Option Nat
  | 0 => none
  | k + 1 => match dj_pk e s k with
    | none => if s k = false ∧ e k < Z then some k else none
    | some j => if s k = false ∧ e k < e j then some k else some j
def dj_st (x : dj_X) : Option dj_X := match dj_pk Z x.1 x.2.1 N with
  | none => none
  | some a => some (dj_rk E x.1 a N, va_up x.2.1 a true, va_up x.2.2.1 x.2.2.2 a, x.2.2.2 + 1)
def dj_it : Nat → dj_X → dj_X
  | 0, x => x
  | r + 1, x => match dj_st N Z E x with
    | none => x
    | some y => dj_it r y
def dj_good : Prop := ∀ a b t r, E a b t = some r → t < r ∧ r < Z
def dj_I (st t0 : Nat) (x : dj_X) : Prop :=
  (∀ k, x.1 k ≤ Z) ∧ (∀ k, x.2.1 k = true → k < N ∧ x.1 k < Z) ∧ (∀ j k, x.2.1 j = true → x.2.1 k = false → k < N → x.1 j ≤ x.1 k) ∧
  (∀ i, i < x.2.2.2 → x.2.1 (x.2.2.1 i) = true) ∧ (∀ k, x.2.1 k = true → ∃ i, i < x.2.2.2 ∧ x.2.2.1 i = k) ∧
  (∀ i j, i < j → j < x.2.2.2 → x.1 (x.2.2.1 i) ≤ x.1 (x.2.2.1 j)) ∧ (∀ i j, i < x.2.2.2 → j < x.2.2.2 → x.2.2.1 i = x.2.2.1 j → i = j) ∧
  (st < N ∧ t0 < Z ∧ x.1 st = t0 ∧ ∀ k, k ≠ st → t0 < x.1 k)
variable {N Z E}
theorem dj_pk_none {e : Nat → Nat} {s : Nat → Bool} : ∀ {k : Nat}, dj_pk Z e s k = none → ∀ j, j < k → s j = false → Z ≤ e j := by
  intro k
  induction k with
  | zero => intro _ j hj; omega
  | succ k ih =>
    intro h j hj hs
    unfold dj_pk at h
    cases hp : dj_pk Z e s k with
    | none =>
      rw [hp] at h
      dsimp only at h
      by_cases hc : s k = false ∧ e k < Z
      · rw [if_pos hc] at h; cases h
      · by_cases hjk : j = k
        · subst hjk
          rcases Nat.lt_or_ge (e j) Z with q | q
          · exact absurd ⟨hs, q⟩ hc
          · exact q
        · exact ih hp j (by omega) hs
    | some i =>
      rw [hp] at h
      dsimp only at h
      by_cases hc : s k = false ∧ e k < e i
      · rw [if_pos hc] at h; cases h
      · rw [if_neg hc] at h; cases h
theorem dj_pk_some {e : Nat → Nat} {s : Nat → Bool} : ∀ {k a : Nat}, dj_pk Z e s k = some a → a < k ∧ s a = false ∧ e a < Z ∧ ∀ j, j < k → s j = false → e a ≤ e j := by
  intro k
  induction k with
  | zero => intro a h; simp [dj_pk] at h
  | succ k ih =>
    intro a h
    unfold dj_pk at h
    cases hp : dj_pk Z e s k with
    | none =>
      rw [hp] at h
      dsimp only at h
      by_cases hc : s k = false ∧ e k < Z
      · rw [if_pos hc] at h
        cases h
        refine ⟨by omega, hc.1, hc.2, fun j hj hs => ?_⟩
        by_cases hjk : j = k
        · subst hjk; exact Nat.le_refl _
        · have := dj_pk_none hp j (by omega) hs; omega
      · rw [if_neg hc] at h; cases h
    | some i =>
      rw [hp] at h
      dsimp only at h
      obtain ⟨h1, h2, h3, h4⟩ := ih hp
      by_cases hc : s k = false ∧ e k < e i
      · rw [if_pos hc] at h
        cases h
        refine ⟨by omega, hc.1, by omega, fun j hj hs => ?_⟩
        by_cases hjk : j = k
        · subst hjk; exact Nat.le_refl _
        · have := h4 j (by omega) hs; omega
      · rw [if_neg hc] at h
        cases h
        refine ⟨by omega, h2, h3, fun j hj hs => ?_⟩
        by_cases hjk : j = k
        · subst hjk
          rcases Nat.lt_or_ge (e j) (e a) with q | q
          · exact absurd ⟨hs, q⟩ hc
          · exact q
        · exact h4 j (by omega) hs
theorem dj_v_le {e : Nat → Nat} {a b : Nat} : dj_v E e a b ≤ e b := by
  unfold dj_v
  cases E a b (e a) with
  | none => exact Nat.le_refl _
  | some r =>
    dsimp only
    by_cases h : r < e b
    · rw [if_pos h]; omega
    · rw [if_neg h]; exact Nat.le_refl _
theorem dj_v_old (hE : dj_good Z E) {e : Nat → Nat} {a b : Nat} (h : e b ≤ e a) : dj_v E e a b = e b := by
  unfold dj_v
  cases hr : E a b (e a) with
  | none => rfl
  | some r =>
    dsimp only
    have := (hE _ _ _ _ hr).1
    rw [if_neg (by omega)]
theorem dj_v_or (hE : dj_good Z E) {e : Nat → Nat} {a b : Nat} : dj_v E e a b = e b ∨ e a < dj_v E e a b := by
  unfold dj_v
  cases hr : E a b (e a) with
  | none => exact Or.inl rfl
  | some r =>
    dsimp only
    have := (hE _ _ _ _ hr).1
    by_cases h : r < e b
    · rw [if_pos h]; exact Or.inr this
    · rw [if_neg h]; exact Or.inl rfl
theorem dj_rk_or (hE : dj_good Z E) {e : Nat → Nat} {a b k : Nat} : dj_rk E e a k b = e b ∨ e a < dj_rk E e a k b := by
  unfold dj_rk
  by_cases h : b < k
  · simp only [h, if_true]; exact dj_v_or hE
  · left; simp [h]
theorem dj_rk_le {e : Nat → Nat} {a b k : Nat} : dj_rk E e a k b ≤ e b := by
  unfold dj_rk
  by_cases h : b < k
  · simp only [h, if_true]; exact dj_v_le
  · simp only [h, if_false]; exact Nat.le_refl _
theorem dj_rk_old (hE : dj_good Z E) {e : Nat → Nat} {a b k : Nat} (h : e b ≤ e a) : dj_rk E e a k b = e b := by
  unfold dj_rk
  by_cases hb : b < k
  · simp only [hb, if_true]; exact dj_v_old hE h
  · simp only [hb, if_false]
theorem dj_step (hE : dj_good Z E) {st t0 : Nat} {x y : dj_X} (hI : dj_I N Z st t0 x) (hs : dj_st N Z E x = some y) : dj_I N Z st t0 y := by
  obtain ⟨e, s, o, c⟩ := x
  unfold dj_st at hs
  dsimp only at hs
  cases hp : dj_pk Z e s N with
  | none => rw [hp] at hs; cases hs
  | some a =>
    rw [hp] at hs
    dsimp only at hs
    cases hs
    obtain ⟨i1, i2, i3, i4, i5, i6, i7, i8, i9, i10, i11⟩ := hI
    dsimp only at i1 i2 i3 i4 i5 i6 i7 i8 i9 i10 i11
    obtain ⟨p1, p2, p3, p4⟩ := dj_pk_some hp
    have hold : ∀ j, s j = true → dj_rk E e a N j = e j := fun j hj => dj_rk_old hE (i3 j a hj p2 p1)
    have hoa : dj_rk E e a N a = e a := dj_rk_old hE (Nat.le_refl _)
    have hta : t0 ≤ e a := by
      by_cases h : a = st
      · subst h; omega
      · have := i11 a h; omega
    have hset : ∀ j, va_up s a true j = true → s j = true ∨ j = a := fun j hj => by
      unfold va_up at hj
      by_cases h : j = a
      · exact Or.inr h
      · rw [if_neg h] at hj; exact Or.inl hj
    have hkeep : ∀ j, va_up s a true j = true → dj_rk E e a N j = e j := fun j hj => by
      rcases hset j hj with h | h
      · exact hold j h
      · subst h; exact hoa
    have hle : ∀ j, va_up s a true j = true → e j ≤ e a := fun j hj => by
      rcases hset j hj with h | h
      · exact i3 j a h p2 p1
      · subst h; exact Nat.le_refl _
    refine ⟨fun k => Nat.le_trans dj_rk_le (i1 k), fun k hk => ?_, fun j k hj hk hkN => ?_, fun i hi => ?_, fun k hk => ?_, fun i j hij hj => ?_, fun i j hi hj hij => ?_, i8, i9, ?_, fun k hk => ?_⟩
    · dsimp only at hk ⊢
      rw [hkeep k hk]
      rcases hset k hk with h | h
      · exact i2 k h
      · subst h; exact ⟨p1, p3⟩
    · dsimp only at hj hk hkN ⊢
      rw [hkeep j hj]
      have hks : s k = false := by
        unfold va_up at hk
        by_cases h : k = a
        · rw [if_pos h] at hk; cases hk
        · rw [if_neg h] at hk; exact hk
      have h1 := hle j hj
      rcases dj_rk_or (k := N) hE (e := e) (a := a) (b := k) with h | h
      · rw [h]
        have := p4 k hkN hks
        omega
      · omega
    · dsimp only at hi ⊢
      unfold va_up
      by_cases h : i = c
      · subst h; simp
      · rw [if_neg h]
        have := i4 i (by omega)
        by_cases h2 : o i = a
        · rw [if_pos h2]
        · rw [if_neg h2]; exact this
    · dsimp only at hk ⊢
      rcases hset k hk with h | h
      · obtain ⟨i, h1, h2⟩ := i5 k h
        refine ⟨i, by omega, ?_⟩
        unfold va_up
        rw [if_neg (by omega)]
        exact h2
      · refine ⟨c, by omega, ?_⟩
        unfold va_up
        rw [if_pos rfl, h]
    · dsimp only at hj ⊢
      have hi' : va_up o c a i = o i := by unfold va_up; rw [if_neg (by omega)]
      rw [hi', hold (o i) (i4 i (by omega))]
      by_cases h : j = c
      · subst h
        have hj' : va_up o j a j = a := by unfold va_up; rw [if_pos rfl]
        rw [hj', hoa]
        exact i3 _ a (i4 i (by omega)) p2 p1
      · have hj' : va_up o c a j = o j := by unfold va_up; rw [if_neg h]
        rw [hj', hold (o j) (i4 j (by omega))]
        exact i6 i j hij (by omega)
    · dsimp only at hi hj hij
      unfold va_up at hij
      have hno : ∀ q, q < c → o q ≠ a := fun q hq h => by
        have := i4 q hq
        rw [h, p2] at this
        cases this
      by_cases h1 : i = c <;> by_cases h2 : j = c
      · omega
      · rw [if_pos h1, if_neg h2] at hij
        exact absurd hij.symm (hno j (by omega))
      · rw [if_neg h1, if_pos h2] at hij
        exact absurd hij (hno i (by omega))
      · rw [if_neg h1, if_neg h2] at hij
        exact i7 i j (by omega) (by omega) hij
    · dsimp only
      rw [dj_rk_old hE (by omega)]
      exact i10
    · dsimp only
      have := i11 k hk
      rcases dj_rk_or (k := N) hE (e := e) (a := a) (b := k) with h | h
      · rw [h]; exact this
      · omega
theorem dj_cnt {st t0 : Nat} {x : dj_X} (hI : dj_I N Z st t0 x) : x.2.2.2 ≤ N :=
  pj_php N x.2.2.2 x.2.2.1 (fun i hi => (hI.2.1 _ (hI.2.2.2.1 i hi)).1) hI.2.2.2.2.2.2.1
theorem dj_it_I (hE : dj_good Z E) {st t0 : Nat} : ∀ (r : Nat) {x : dj_X}, dj_I N Z st t0 x → dj_I N Z st t0 (dj_it N Z E r x) := by
  intro r
  induction r with
  | zero => intro x h; exact h
  | succ r ih =>
    intro x h
    unfold dj_it
    cases hs : dj_st N Z E x with
    | none => exact h
    | some y => exact ih (dj_step hE h hs)
theorem dj_c1 {x y : dj_X} (hs : dj_st N Z E x = some y) : y.2.2.2 = x.2.2.2 + 1 := by
  unfold dj_st at hs
  cases hp : dj_pk Z x.1 x.2.1 N with
  | none => rw [hp] at hs; cases hs
  | some a => rw [hp] at hs; cases hs; rfl
theorem dj_end (hE : dj_good Z E) {st t0 : Nat} : ∀ (r : Nat) {x : dj_X}, dj_I N Z st t0 x → N ≤ x.2.2.2 + r → dj_st N Z E (dj_it N Z E r x) = none := by
  intro r
  induction r with
  | zero =>
    intro x h hr
    unfold dj_it
    cases hs : dj_st N Z E x with
    | none => rfl
    | some y =>
      have h1 := dj_cnt (dj_step hE h hs)
      have h2 := dj_c1 hs
      omega
  | succ r ih =>
    intro x h hr
    unfold dj_it
    cases hs : dj_st N Z E x with
    | none => exact hs
    | some y =>
      have h2 := dj_c1 hs
      exact ih (dj_step hE h hs) (by omega)
theorem dj_more (hE : dj_good Z E) {st t0 : Nat} : ∀ (r : Nat) {x : dj_X}, dj_I N Z st t0 x → N ≤ x.2.2.2 + r → ∀ q, dj_it N Z E (r + q) x = dj_it N Z E r x := by
  intro r
  induction r with
  | zero =>
    intro x h hr q
    have hn : dj_st N Z E x = none := dj_end hE 0 h hr
    cases q with
    | zero => rfl
    | succ q =>
      show dj_it N Z E (0 + (q + 1)) x = _
      rw [Nat.zero_add]
      unfold dj_it
      rw [hn]
  | succ r ih =>
    intro x h hr q
    rw [show r + 1 + q = (r + q) + 1 by omega]
    unfold dj_it
    cases hs : dj_st N Z E x with
    | none => rfl
    | some y =>
      have h2 := dj_c1 hs
      exact ih (dj_step hE h hs) (by omega) q
/-- at the end all that is reached is settled -/
theorem dj_all {x : dj_X} (hn : dj_st N Z E x = none) {k : Nat} (hk : k < N) (he : x.1 k < Z) : x.2.1 k = true := by
  cases hs : x.2.1 k with
  | true => rfl
  | false =>
    unfold dj_st at hn
    cases hp : dj_pk Z x.1 x.2.1 N with
    | none => have := dj_pk_none hp k hk hs; omega
    | some a => rw [hp] at hn; cases hn
def dj_x0 (Z st t0 : Nat) : dj_X := (va_up (fun _ => Z) st t0, fun _ => false, fun _ => 0, 0)
theorem dj_I0 {st t0 : Nat} (h1 : st < N) (h2 : t0 < Z) : dj_I N Z st t0 (dj_x0 Z st t0) := by
  refine ⟨fun k => ?_, fun k hk => ?_, fun j k hj => ?_, fun i hi => ?_, fun k hk => ?_, fun i j hij hj => ?_, fun i j hi => ?_, h1, h2, ?_, fun k hk => ?_⟩
  · show va_up (fun _ => Z) st t0 k ≤ Z
    unfold va_up
    by_cases h : k = st
    · rw [if_pos h]; omega
    · rw [if_neg h]; exact Nat.le_refl _
  · cases hk
  · cases hj
  · exact absurd hi (Nat.not_lt_zero _)
  · cases hk
  · exact absurd hj (Nat.not_lt_zero _)
  · exact absurd hi (Nat.not_lt_zero _)
  · show va_up (fun _ => Z) st t0 st = t0
    unfold va_up
    rw [if_pos rfl]
  · show t0 < va_up (fun _ => Z) st t0 k
    unfold va_up
    rw [if_neg hk]; exact h2
end DJ
section LD
variable (N : Nat) (E : Nat → Nat → Nat → Option Nat) (e : Nat → Nat) (g : Nat)
def ld_n : Nat → Nat → Prop
  | 0, k => k = g
  | n + 1, k => k = g ∨ ∃ b, b < N ∧ E k b (e k) = some (e b) ∧ ld_n n b
def ld (k : Nat) : Prop := ∃ n, ld_n N E e g n k
/-- marked when the order's places from i on have been looked at -/
def ld_i (o : Nat → Nat) (c i y : Nat) : Prop := y = g ∨ ∃ j, i ≤ j ∧ j < c ∧ o j = y ∧ ld N E e g y
variable {N E e g}
theorem ld_g : ld N E e g g := ⟨0, rfl⟩
theorem ld_on {a b : Nat} (hb : b < N) (hs : E a b (e a) = some (e b)) (h : ld N E e g b) : ld N E e g a := by
  obtain ⟨n, hn⟩ := h
  exact ⟨n + 1, Or.inr ⟨b, hb, hs, hn⟩⟩
theorem ld_or {a : Nat} (h : ld N E e g a) : a = g ∨ ∃ b, b < N ∧ E a b (e a) = some (e b) ∧ ld N E e g b := by
  obtain ⟨n, hn⟩ := h
  cases n with
  | zero => exact Or.inl hn
  | succ n =>
    rcases hn with h | ⟨b, h1, h2, h3⟩
    · exact Or.inl h
    · exact Or.inr ⟨b, h1, h2, n, h3⟩
variable {Z st t0 : Nat} {x : dj_X}
/-- a step goes to a later place of the order -/
theorem ld_ix (hE : dj_good Z E) (hI : dj_I N Z st t0 x) (hn : dj_st N Z E x = none) {i b : Nat} (hi : i < x.2.2.2) (hb : b < N) (hs : E (x.2.2.1 i) b (x.1 (x.2.2.1 i)) = some (x.1 b)) : ∃ j, i < j ∧ j < x.2.2.2 ∧ x.2.2.1 j = b := by
  have h1 := hE _ _ _ _ hs
  obtain ⟨j, hj, ej⟩ := hI.2.2.2.2.1 b (dj_all hn hb h1.2)
  refine ⟨j, ?_, hj, ej⟩
  rcases Nat.lt_trichotomy i j with h | h | h
  · exact h
  · subst h; rw [ej] at h1; omega
  · have := hI.2.2.2.2.2.1 j i h hi
    rw [ej] at this
    omega
theorem ld_i_ld {o : Nat → Nat} {c i y : Nat} (h : ld_i N E e g o c i y) : ld N E e g y := by
  rcases h with h | ⟨_, _, _, _, h⟩
  · subst h; exact ld_g
  · exact h
theorem ld_i_up (hE : dj_good Z E) (hI : dj_I N Z st t0 x) (hn : dj_st N Z E x = none) {i : Nat} (hi : i < x.2.2.2) (h : ld N E x.1 g (x.2.2.1 i)) : x.2.2.1 i = g ∨ ∃ b, b < N ∧ ld_i N E x.1 g x.2.2.1 x.2.2.2 (i + 1) b ∧ E (x.2.2.1 i) b (x.1 (x.2.2.1 i)) = some (x.1 b) := by
  rcases ld_or h with h | ⟨b, h1, h2, h3⟩
  · exact Or.inl h
  · obtain ⟨j, j1, j2, j3⟩ := ld_ix hE hI hn hi h1 h2
    exact Or.inr ⟨b, h1, Or.inr ⟨j, j1, j2, j3, h3⟩, h2⟩
theorem ld_i_pos {o : Nat → Nat} {c i : Nat} (hi : i < c) (h : ld N E e g (o i)) (y : Nat) : ld_i N E e g o c i y ↔ (y = o i ∨ ld_i N E e g o c (i + 1) y) := by
  constructor
  · rintro (h1 | ⟨j, j1, j2, j3, j4⟩)
    · exact Or.inr (Or.inl h1)
    · by_cases hj : j = i
      · subst hj; exact Or.inl j3.symm
      · exact Or.inr (Or.inr ⟨j, by omega, j2, j3, j4⟩)
  · rintro (h1 | h1 | ⟨j, j1, j2, j3, j4⟩)
    · exact Or.inr ⟨i, Nat.le_refl _, hi, h1.symm, by rw [h1]; exact h⟩
    · exact Or.inl h1
    · exact Or.inr ⟨j, by omega, j2, j3, j4⟩
theorem ld_i_neg {o : Nat → Nat} {c i : Nat} (h : ¬ ld N E e g (o i)) (y : Nat) : ld_i N E e g o c i y ↔ ld_i N E e g o c (i + 1) y := by
  constructor
  · rintro (h1 | ⟨j, j1, j2, j3, j4⟩)
    · exact Or.inl h1
    · by_cases hj : j = i
      · subst hj; rw [← j3] at j4; exact absurd j4 h
      · exact Or.inr ⟨j, by omega, j2, j3, j4⟩
  · rintro (h1 | ⟨j, j1, j2, j3, j4⟩)
    · exact Or.inl h1
    · exact Or.inr ⟨j, by omega, j2, j3, j4⟩
/-- all that leads is in the order, if the goal is -/
theorem ld_in (hE : dj_good Z E) (hI : dj_I N Z st t0 x) (hn : dj_st N Z E x = none) (hg : g < N) (hgz : x.1 g < Z) {y : Nat} (hy : y < N) (h : ld N E x.1 g y) : ∃ i, i < x.2.2.2 ∧ x.2.2.1 i = y := by
  refine hI.2.2.2.2.1 y (dj_all hn hy ?_)
  rcases ld_or h with h | ⟨b, h1, h2, h3⟩
  · subst h; exact hgz
  · have := hE _ _ _ _ h2; omega
end LD
