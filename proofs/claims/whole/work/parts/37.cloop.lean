/-! The class's loops over its booths and its interpreters. -/
/-- how many of k booths from i talk -/
def talkF (A : AS) : Nat → Nat → Nat
  | _, 0 => 0
  | i, k + 1 => (if talkA (itA boothA i A) i = true then 1 else 0) + talkF A (i + 1) k
theorem c_L16 {o NB NI : Nat} {ρ : MM} {A : AS} (ho : isO o) (hI : Inv 1 A) (ht : a_t A < 400) (h1 : a_nb A ≤ NB) (h2 : NB ≤ 6) (h3 : a_ni A ≤ NI) (h4 : NI ≤ 8) (b1 b3 : Int32) : ∀ k i f c μ, i + k = a_nb A → k < f → Cl o NB NI ρ μ (itA boothA i A) → ∃ μ', X5_goOn_L16 o b1 b3 f (nI c) (nI i) μ = some (nI (c + talkF A i k), μ') ∧ Cl o NB NI ρ μ' (itA boothA (a_nb A) A) := by
  intro k
  induction k with
  | zero =>
    intro i f c μ hi hf hc
    obtain ⟨g, rfl⟩ : ∃ g, f = g + 1 := ⟨f - 1, by omega⟩
    have e : i = a_nb A := by omega
    subst e
    rw [X5_goOn_L16_s, rd4 hc.1, (fix_it fix_booth _ A).1, if_pos (nI_le (Nat.le_refl _) (by have := hI.1.1; omega))]
    exact ⟨μ, rfl, hc⟩
  | succ k ih =>
    intro i f c μ hi hf hc
    obtain ⟨g, rfl⟩ : ∃ g, f = g + 1 := ⟨f - 1, by omega⟩
    have fx := fix_it fix_booth i A
    have hI2 : Inv (i + 1) (itA boothA i A) := hI.booths i (by omega)
    have hb6 := hI.1.1
    rw [X5_goOn_L16_s, rd4 hc.1, fx.1, if_neg (nI_ge (by omega) (by omega))]
    have hB : Bds NB NI (itA boothA i A) := hI2.bds (by rw [if_neg (by omega), fx.2.2.1]; omega) (by rw [fx.1]; exact h1) h2 (by rw [fx.2.1]; exact h3) h4
    have hm : a_mn (itA boothA i A) (i + 1) < 400 := by
      have := (hI2.2.2.2.2.2 (i + 1)).1
      rw [if_neg (by omega), fx.2.2.1] at this
      omega
    obtain ⟨μ1, x1, c1⟩ := c_work (b := i) ho hc hB (by rw [fx.1]; omega) hI2.2.1 (hI2.2.2.1 i (by rw [fx.1]; omega)).2 hm
    rw [x1]
    simp only [bO2_s, bV_eq]
    have e1 : nI c + (if talkA (itA boothA i A) i = true then (1 : Int32) else 0) = nI (c + (if talkA (itA boothA i A) i = true then 1 else 0)) := by
      split
      · exact nI_1 c
      · exact Int32.add_zero _
    rw [e1, nI_1]
    obtain ⟨μ2, x2, c2⟩ := ih (i + 1) g (c + (if talkA (itA boothA i A) i = true then 1 else 0)) μ1 (by omega) (by omega) c1
    refine ⟨μ2, ?_, c2⟩
    rw [x2]
    show _ = some (nI (c + ((if talkA (itA boothA i A) i = true then 1 else 0) + talkF A (i + 1) k)), μ2)
    rw [Nat.add_assoc]
