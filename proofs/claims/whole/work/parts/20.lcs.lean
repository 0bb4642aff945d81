/-! The greatest number of words in common: the plain table, its steps by bits. -/
/-- a row of the table out of the row above it -/
def lrs (w : Int32) (y : Nat → Int32) (r : Nat → Nat) : Nat → Nat
  | 0 => 0
  | k + 1 => if w = y k then r k + 1 else max (r (k + 1)) (lrs w y r k)
def lrw (x y : Nat → Int32) : Nat → Nat → Nat
  | 0 => fun _ => 0
  | i + 1 => lrs (x i) y (lrw x y i)
theorem lrw_0 (x y : Nat → Int32) (k : Nat) : lrw x y 0 k = 0 := rfl
theorem lrw_i0 (x y : Nat → Int32) (i : Nat) : lrw x y i 0 = 0 := by cases i <;> rfl
theorem lrw_s (x y : Nat → Int32) (i k : Nat) : lrw x y (i + 1) (k + 1) = if x i = y k then lrw x y i k + 1 else max (lrw x y i (k + 1)) (lrw x y (i + 1) k) := rfl
theorem lrw_step (x y : Nat → Int32) (i : Nat) : (∀ k, lrw x y i k ≤ lrw x y i (k + 1) ∧ lrw x y i (k + 1) ≤ lrw x y i k + 1) ∧ ∀ k, lrw x y i k ≤ lrw x y (i + 1) k ∧ lrw x y (i + 1) k ≤ lrw x y i k + 1 := by
  have key : ∀ i, (∀ k, lrw x y i k ≤ lrw x y i (k + 1) ∧ lrw x y i (k + 1) ≤ lrw x y i k + 1) → ∀ k, (lrw x y i k ≤ lrw x y (i + 1) k ∧ lrw x y (i + 1) k ≤ lrw x y i k + 1) ∧ (lrw x y (i + 1) k ≤ lrw x y (i + 1) (k + 1) ∧ lrw x y (i + 1) (k + 1) ≤ lrw x y (i + 1) k + 1) := by
    intro i h k
    induction k with
    | zero =>
      have h0 := h 0
      rw [lrw_i0] at h0
      rw [lrw_i0, lrw_i0, lrw_s, lrw_i0, lrw_i0]
      split <;> omega
    | succ k ih =>
      have h1 := h k
      have h2 := h (k + 1)
      have e1 := lrw_s x y i k
      have e2 := lrw_s x y i (k + 1)
      refine ⟨?_, ?_⟩
      · rw [e1]
        split <;> omega
      · rw [e2]
        have : lrw x y (i + 1) (k + 1) ≤ lrw x y i (k + 1) + 1 ∧ lrw x y i (k + 1) ≤ lrw x y (i + 1) (k + 1) := by
          rw [e1]
          split <;> omega
        split <;> omega
  have rows : ∀ i k, lrw x y i k ≤ lrw x y i (k + 1) ∧ lrw x y i (k + 1) ≤ lrw x y i k + 1 := by
    intro i
    induction i with
    | zero => intro k; simp [lrw_0]
    | succ i ih => intro k; exact (key i ih k).2
  exact ⟨rows i, fun k => (key i (rows i) k).1⟩
theorem lrw_le (x y : Nat → Int32) : ∀ i k, lrw x y i k ≤ i
  | 0, _ => Nat.le_refl _
  | i + 1, k => by
    have := ((lrw_step x y i).2 k).2
    have := lrw_le x y i k
    omega
/-- only the words that are there count -/
theorem lrw_cong {x x' y y' : Nat → Int32} {n m : Nat} (hx : ∀ i, i < n → x i = x' i) (hy : ∀ k, k < m → y k = y' k) : ∀ i k, i ≤ n → k ≤ m → lrw x y i k = lrw x' y' i k := by
  intro i
  induction i with
  | zero => intro k _ _; rfl
  | succ i ih =>
    intro k hi hk
    induction k with
    | zero => rw [lrw_i0, lrw_i0]
    | succ k ihk => rw [lrw_s, lrw_s, hx i (by omega), hy k (by omega), ih k (by omega) (by omega), ih (k + 1) (by omega) hk, ihk (by omega)]
/-- words that are in no booth's speech add nothing -/
theorem lrw_pad {x y : Nat → Int32} {n m : Nat} (h : ∀ i, n ≤ i → ∀ k, k < m → x i ≠ y k) : ∀ d k, k ≤ m → lrw x y (n + d) k = lrw x y n k := by
  intro d
  induction d with
  | zero => intro k _; rfl
  | succ d ih =>
    intro k hk
    induction k with
    | zero => rw [lrw_i0, lrw_i0]
    | succ k ihk =>
      have e := lrw_s x y (n + d) k
      have h1 := h (n + d) (by omega) k (by omega)
      rw [if_neg h1, ih (k + 1) hk] at e
      have e3 : lrw x y (n + d + 1) k = lrw x y n k := ihk (by omega)
      rw [e3] at e
      have := ((lrw_step x y n).1 k).1
      show lrw x y (n + d + 1) (k + 1) = _
      rw [e]
      omega
/-- the rise along the floor's words, at a word p, behind j words of the booth -/
def lrD (x y : Nat → Int32) (p j : Nat) : Bool := decide (lrw x y (p + 1) j = lrw x y p j + 1)
/-- the rise along the booth's words -/
def lrH (x y : Nat → Int32) (p j : Nat) : Bool := decide (lrw x y p (j + 1) = lrw x y p j + 1)
theorem lrH_0 (x y : Nat → Int32) (j : Nat) : lrH x y 0 j = false := by simp [lrH, lrw_0]
theorem lrD_0 (x y : Nat → Int32) (p : Nat) : lrD x y p 0 = false := by simp [lrD, lrw_i0]
/-- one place of the sum: v the open bit, e whether the words meet, h what is carried in -/
theorem lr_full (x y : Nat → Int32) (p j : Nat) : lrH x y (p + 1) j = ((!lrD x y p j && (!lrD x y p j && decide (x p = y j))) || (!lrD x y p j && lrH x y p j) || ((!lrD x y p j && decide (x p = y j)) && lrH x y p j)) ∧ (!lrD x y p (j + 1)) = (((!lrD x y p j) ^^ ((!lrD x y p j && decide (x p = y j)) ^^ lrH x y p j)) || (!lrD x y p j && !decide (x p = y j))) := by
  have a := (lrw_step x y p).1 j
  have b := (lrw_step x y p).2 j
  have c := (lrw_step x y p).2 (j + 1)
  have d := (lrw_step x y (p + 1)).1 j
  have e := lrw_s x y p j
  unfold lrH lrD
  generalize lrw x y (p + 1) (j + 1) = g11 at *
  generalize lrw x y (p + 1) j = g10 at *
  generalize lrw x y p (j + 1) = g01 at *
  generalize lrw x y p j = g00 at *
  by_cases hxy : x p = y j
  · rw [if_pos hxy] at e
    simp only [hxy, decide_true]
    rcases Nat.eq_or_lt_of_le b.1 with q | q <;> rcases Nat.eq_or_lt_of_le a.1 with r | r
    · have : g11 = g00 + 1 := e
      have e1 : g10 = g00 := q.symm
      have e2 : g01 = g00 := r.symm
      subst e1 e2; subst this
      simp
    · have e1 : g10 = g00 := q.symm
      have e2 : g01 = g00 + 1 := by omega
      subst e1 e2; subst e
      simp
    · have e1 : g10 = g00 + 1 := by omega
      have e2 : g01 = g00 := r.symm
      subst e1 e2; subst e
      simp
    · have e1 : g10 = g00 + 1 := by omega
      have e2 : g01 = g00 + 1 := by omega
      subst e1 e2; subst e
      simp
  · rw [if_neg hxy] at e
    simp only [hxy, decide_false]
    rcases Nat.eq_or_lt_of_le b.1 with q | q <;> rcases Nat.eq_or_lt_of_le a.1 with r | r
    · have e1 : g10 = g00 := q.symm
      have e2 : g01 = g00 := r.symm
      have e3 : g11 = g00 := by omega
      subst e1 e2; subst e3
      simp
    · have e1 : g10 = g00 := q.symm
      have e2 : g01 = g00 + 1 := by omega
      have e3 : g11 = g00 + 1 := by omega
      subst e1 e2; subst e3
      simp
    · have e1 : g10 = g00 + 1 := by omega
      have e2 : g01 = g00 := r.symm
      have e3 : g11 = g00 + 1 := by omega
      subst e1 e2; subst e3
      simp
    · have e1 : g10 = g00 + 1 := by omega
      have e2 : g01 = g00 + 1 := by omega
      have e3 : g11 = g00 + 1 := by omega
      subst e1 e2; subst e3
      simp
/-- the rises of a piece of the floor's words -/
theorem lr_rise (x y : Nat → Int32) (j a : Nat) : ∀ n, lrw x y (a + n) j = lrw x y a j + fb_ct (fun k => lrD x y (a + k) j) n := by
  intro n
  induction n with
  | zero => rfl
  | succ n ih =>
    rw [fb_ct_succ]
    have b := (lrw_step x y (a + n)).2 j
    show lrw x y (a + n + 1) j = _
    by_cases h : lrw x y (a + n + 1) j = lrw x y (a + n) j + 1
    · have : lrD x y (a + n) j = true := by unfold lrD; simp [h]
      rw [if_pos this]
      omega
    · have : lrD x y (a + n) j = false := by unfold lrD; simp [h]
      rw [if_neg (by rw [this]; decide)]
      omega
