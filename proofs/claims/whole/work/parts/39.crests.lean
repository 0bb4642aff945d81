/-! The class: who sits nowhere rests. -/
theorem seat_lt {sit : Nat → Option Nat} {i : Nat} : ∀ n s, seatOf sit i n = some s → s < n
  | 0, s, h => by cases h
  | n + 1, s, h => by
    unfold seatOf at h
    by_cases e : sit n = some i
    · rw [if_pos e] at h
      cases h
      exact Nat.lt_succ_self _
    · rw [if_neg e] at h
      exact Nat.lt_succ_of_lt (seat_lt n s h)
theorem rest_y {A : AS} {i : Nat} (e : seatOf (a_sit A) i (a_nb A) = none) : restA A i = tireA A i 2 := if_pos e
theorem rest_n {A : AS} {i : Nat} (e : ¬ seatOf (a_sit A) i (a_nb A) = none) : restA A i = A := if_neg e
theorem enc_none {x : Option Nat} {n : Nat} (h : ∀ s, x = some s → s < n) (hn : n ≤ 100) : encO x = -1 ↔ x = none := by
  cases x with
  | none => exact ⟨fun _ => rfl, fun _ => rfl⟩
  | some s =>
    have := h s rfl
    exact ⟨fun e => absurd e (wNum_ne ⟨s, by omega, rfl⟩), fun e => absurd e (some_ne s)⟩
theorem c_rests {o NB NI j : Nat} {ρ : MM} {A : AS} (ho : isO o) (hI : Inv j A) (hj : j ≠ 0) (ht : a_t A < 400) (h1 : a_nb A ≤ NB) (h2 : NB ≤ 6) (h3 : a_ni A ≤ NI) (h4 : NI ≤ 8) : ∀ k i f μ, i + k = a_ni A → k < f → Cl o NB NI ρ μ (itA restA i A) → ∃ μ', X5_letOthersRecover_L2 o f (nI i) μ = some μ' ∧ Cl o NB NI ρ μ' (itA restA (a_ni A) A) := by
  intro k
  induction k with
  | zero =>
    intro i f μ hi hf hc
    obtain ⟨g, rfl⟩ : ∃ g, f = g + 1 := ⟨f - 1, by omega⟩
    have e : i = a_ni A := by omega
    subst e
    rw [X5_letOthersRecover_L2_s, rd3 hc.1, (fix_it fix_rest _ A).2.1, if_pos (nI_le (Nat.le_refl _) (by have := hI.1.2.1; omega))]
    exact ⟨μ, rfl, hc⟩
  | succ k ih =>
    intro i f μ hi hf hc
    obtain ⟨g, rfl⟩ : ∃ g, f = g + 1 := ⟨f - 1, by omega⟩
    have fx := fix_it fix_rest i A
    have hI2 : Inv j (itA restA i A) := hI.rests i
    have hi8 := hI.1.2.1
    have hb6 := hI.1.1
    have hB : Bds NB NI (itA restA i A) := hI2.bds (by rw [if_neg hj, fx.2.2.1]; omega) (by rw [fx.1]; exact h1) h2 (by rw [fx.2.1]; exact h3) h4
    have hen := enc_none (fun s => seat_lt (sit := a_sit (itA restA i A)) (i := i) (a_nb (itA restA i A)) s) (by rw [fx.1]; omega)
    rw [X5_letOthersRecover_L2_s, rd3 hc.1, fx.2.1, if_neg (nI_ge (by omega) (by omega)), if_pos (in_ints ho (by omega)), int_at ho (by omega), rd26 hc.1 hB (by omega)]
    by_cases e : seatOf (a_sit (itA restA i A)) i (a_nb (itA restA i A)) = none
    · rw [if_pos (hen.mpr e), if_pos (in_ints ho (by omega))]
      simp only [bV_eq]
      rw [nI_1]
      have c2 : Cl o NB NI ρ (X2_recover (o + (56 + i)) 2 μ) (itA restA (i + 1) A) := by
        show Cl o NB NI ρ _ (restA (itA restA i A) i)
        rw [rest_y e]
        exact c_tire 2 hc hB (by omega)
      exact ih (i + 1) g _ (by omega) (by omega) c2
    · rw [if_neg (fun z => e (hen.mp z))]
      simp only [bV_eq]
      rw [nI_1]
      have c2 : Cl o NB NI ρ μ (itA restA (i + 1) A) := by
        show Cl o NB NI ρ μ (restA (itA restA i A) i)
        rw [rest_n e]
        exact hc
      exact ih (i + 1) g μ (by omega) (by omega) c2
