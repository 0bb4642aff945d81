/-! The class: booths hear. -/
theorem place_lt {A : AS} {b : Nat} (hs : Seats A) (hb : b < a_nb A) : placeOf (a_src A b) < a_nb A + 1 := by
  cases hx : a_src A b with
  | none => exact Nat.succ_pos _
  | some s => exact Nat.succ_lt_succ (hs.1 b hb s hx)
theorem c_now {o NB NI p : Nat} {ρ μ : MM} {A : AS} (ho : isO o) (h : Cl o NB NI ρ μ A) (hB : Bds NB NI A) (hp : p < NB + 1) : X4_wordOfTick (o + spC p) (nI (a_t A)) μ = some (if nowA A p = true then a_sw A p (a_mn A p - 1) else -1) := by
  have hN := hB.1.2
  have hp7 : p < 7 := by omega
  have hm := hB.2.2.2.2.2 p hp
  have hmn : rI μ (o + spC p) 2 = nI (a_mn A p) := rd23 h.1 hB hp
  rw [X4_now_ok hmn (by rw [oS0 ho hp7, oSa0 ho hp7]; exact hm) (by rw [oS1 ho hp7, oSa1 ho hp7]; exact hm) (by rw [oS0 ho hp7, oSa0 ho hp7]; decide) (by rw [oS1 ho hp7, oSa1 ho hp7]; decide), oS0 ho hp7, oS1 ho hp7]
  unfold nowA
  by_cases e : a_mn A p = 0
  · rw [if_neg (fun z => z.1 e), show decide (a_mn A p ≠ 0) = false from decide_eq_false (fun z => z e), Bool.false_and, if_neg (by decide)]
  · rw [rd25 h.1 hB hp (by omega), rd24 h.1 hB hp (by omega), show decide (a_mn A p ≠ 0) = true from decide_eq_true e, Bool.true_and]
    by_cases e2 : a_st A p (a_mn A p - 1) = nI (a_t A)
    · rw [if_pos ⟨e, e2⟩, if_pos (decide_eq_true e2)]
    · rw [if_neg (fun z => e2 z.2), if_neg (fun z => e2 (of_decide_eq_true z))]
theorem hear_y {A : AS} {b : Nat} (e : nowA A (placeOf (a_src A b)) = true) : hearA A b = takeA A b (a_sw A (placeOf (a_src A b)) (a_mn A (placeOf (a_src A b)) - 1)) := if_pos e
theorem hear_n {A : AS} {b : Nat} (e : ¬ nowA A (placeOf (a_src A b)) = true) : hearA A b = A := if_neg e
theorem c_hears {o NB NI j : Nat} {ρ : MM} {A : AS} (ho : isO o) (hI : Inv j A) (hj : j ≠ 0) (ht : a_t A < 400) (h1 : a_nb A ≤ NB) (h2 : NB ≤ 6) (h3 : a_ni A ≤ NI) (h4 : NI ≤ 8) : ∀ k i f μ, i + k = a_nb A → k < f → Cl o NB NI ρ μ (itA hearA i A) → ∃ μ', X5_letBoothsHear_L2 o f (nI i) μ = some μ' ∧ Cl o NB NI ρ μ' (itA hearA (a_nb A) A) := by
  intro k
  induction k with
  | zero =>
    intro i f μ hi hf hc
    obtain ⟨g, rfl⟩ : ∃ g, f = g + 1 := ⟨f - 1, by omega⟩
    have e : i = a_nb A := by omega
    subst e
    rw [X5_letBoothsHear_L2_s, rd4 hc.1, (fix_it fix_hear _ A).1, if_pos (nI_le (Nat.le_refl _) (by have := hI.1.1; omega))]
    exact ⟨μ, rfl, hc⟩
  | succ k ih =>
    intro i f μ hi hf hc
    obtain ⟨g, rfl⟩ : ∃ g, f = g + 1 := ⟨f - 1, by omega⟩
    have fx := fix_it fix_hear i A
    have hI2 : Inv j (itA hearA i A) := hI.hears i (by omega)
    have hb6 := hI.1.1
    have hB : Bds NB NI (itA hearA i A) := hI2.bds (by rw [if_neg hj, fx.2.2.1]; omega) (by rw [fx.1]; exact h1) h2 (by rw [fx.2.1]; exact h3) h4
    have hib : i < a_nb (itA hearA i A) := by rw [fx.1]; omega
    have hp := place_lt hI2.2.1 hib
    have hp2 : placeOf (a_src (itA hearA i A) i) < NB + 1 := by have := hB.1.1; omega
    rw [X5_letBoothsHear_L2_s, rd4 hc.1, fx.1, if_neg (nI_ge (by omega) (by omega)), if_pos (in_booths ho (by omega)), booth_at ho (by omega), rd15 hc.1 hB (by omega), speech_ok (hI2.2.1.1 i hib) ho hc.1 hB]
    simp only [bO1_s]
    rw [rd0 hc.1, c_now ho hc hB hp2]
    simp only [bO1_s, bV_eq]
    by_cases e : nowA (itA hearA i A) (placeOf (a_src (itA hearA i A) i)) = true
    · rw [if_pos e]
      have hw : wNum (a_sw (itA hearA i A) (placeOf (a_src (itA hearA i A) i)) (a_mn (itA hearA i A) (placeOf (a_src (itA hearA i A) i)) - 1)) := ((hI2.2.2.2.2.2 _).2 _ (by have := now_pos e; omega)).1
      rw [if_neg (wNum_ne hw), if_pos (in_booths (b := i) ho (by omega))]
      obtain ⟨μ1, x1, c1⟩ := c_hear (b := i) (a_sw (itA hearA i A) (placeOf (a_src (itA hearA i A) i)) (a_mn (itA hearA i A) (placeOf (a_src (itA hearA i A) i)) - 1)) ho hc hB (by omega) (hI2.2.2.1 i hib).1
      rw [x1]
      simp only [bO1_s]
      rw [nI_1]
      have c2 : Cl o NB NI ρ μ1 (itA hearA (i + 1) A) := by
        show Cl o NB NI ρ μ1 (hearA (itA hearA i A) i)
        rw [hear_y e]
        exact c1
      exact ih (i + 1) g μ1 (by omega) (by omega) c2
    · rw [if_neg e, if_pos rfl, nI_1]
      have c2 : Cl o NB NI ρ μ (itA hearA (i + 1) A) := by
        show Cl o NB NI ρ μ (hearA (itA hearA i A) i)
        rw [hear_n e]
        exact hc
      exact ih (i + 1) g μ (by omega) (by omega) c2
