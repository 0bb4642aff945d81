/-! The class: a word uttered; a booth where nobody is able. -/
theorem up2_id {α : Type} (f : Nat → Nat → α) (i k : Nat) : up2 f i k (f i k) = f := by
  funext a b
  unfold up2
  by_cases e : a = i ∧ b = k
  · rw [if_pos e, e.1, e.2]
  · rw [if_neg e]
/-- the interpreter after a word -/
def utA (A : AS) (i : Nat) (w : Int32) : AS := s_iv A (up2 (up2 (up2 (a_iv A) i 4 (a_iv A i 4 + (if badA A i w = true then 1 else 0))) i 3 (a_iv A i 3 + 1)) i 2 (a_iv A i 2 + 1))
theorem sayA_eq (A : AS) (b i : Nat) (w : Int32) : sayA A b i w = keepA (utA A i w) (b + 1) (saysA A i w) := rfl
theorem utA_no {A : AS} {i : Nat} {w : Int32} (h : badA A i w = false) : utA A i w = s_iv A (up2 (up2 (a_iv A) i 3 (a_iv A i 3 + 1)) i 2 (a_iv A i 2 + 1)) := by
  unfold utA
  rw [h, if_neg (by decide), Int32.add_zero, up2_id]
section CU
variable {o NB NI : Nat} {ρ μ : MM} {A : AS}
theorem c_two {i : Nat} (h : Cl o NB NI ρ μ A) (hN : NI ≤ 8) (hi : i < NI) : Cl o NB NI ρ (wI (wI μ (o + (56 + i)) 4 (a_iv A i 3 + 1)) (o + (56 + i)) 3 (a_iv A i 2 + 1)) (s_iv A (up2 (up2 (a_iv A) i 3 (a_iv A i 3 + 1)) i 2 (a_iv A i 2 + 1))) :=
  c_iv2 (A := s_iv A (up2 (a_iv A) i 3 (a_iv A i 3 + 1))) _ (c_iv3 _ h hi hN) hi hN
theorem c_utter {i : Nat} (w : Int32) (h : Cl o NB NI ρ μ A) (hB : Bds NB NI A) (hi : i < NI) : ∃ μ', X2_utter (o + (56 + i)) w μ = (saysA A i w, μ') ∧ Cl o NB NI ρ μ' (utA A i w) := by
  have hN := hB.2.1.2
  have r2 := rd8 h.1 hB hi
  have r3 := rd9 h.1 hB hi
  have r4 := rd10 h.1 hB hi
  unfold X2_utter
  simp only [bV_eq]
  rw [r2]
  by_cases e1 : a_iv A i 2 < 20
  · rw [if_pos e1, r3, rI_ne _ (fun y => absurd y.2 (by decide)), r2]
    have hbad : badA A i w = false := by
      unfold badA
      rw [show decide (20 ≤ a_iv A i 2) = false from decide_eq_false (Int32.not_le.mpr e1)]; rfl
    refine ⟨_, ?_, by rw [utA_no hbad]; exact c_two h hN hi⟩
    unfold saysA
    rw [hbad, if_neg (by decide)]
  · rw [if_neg e1, r3]
    by_cases e2 : a_iv A i 3 - a_iv A i 3 / 3 * 3 = 0
    · rw [if_pos e2]
      by_cases e3 : (80 : Int32) ≤ w
      · rw [if_pos e3, rI_ne _ (fun y => absurd y.2 (by decide)), r2]
        have hbad : badA A i w = false := by
          unfold badA
          rw [show decide (w < 80) = false from decide_eq_false (Int32.not_lt.mpr e3), Bool.and_false]
        refine ⟨_, ?_, by rw [utA_no hbad]; exact c_two h hN hi⟩
        unfold saysA
        rw [hbad, if_neg (by decide)]
      · rw [if_neg e3]
        have hbad : badA A i w = true := by
          unfold badA
          rw [show decide (w < 80) = true from decide_eq_true (Int32.not_le.mp e3), show decide (20 ≤ a_iv A i 2) = true from decide_eq_true (Int32.not_lt.mp e1), show decide (a_iv A i 3 - a_iv A i 3 / 3 * 3 = 0) = true from decide_eq_true e2]; rfl
        have c1 := c_iv4 (a_iv A i 4 + 1) h hi hN
        have c1b := c_iv3 (A := s_iv A (up2 (a_iv A) i 4 (a_iv A i 4 + 1))) (a_iv A i 3 + 1) c1 hi hN
        have c2 := c_iv2 (A := s_iv A (up2 (up2 (a_iv A) i 4 (a_iv A i 4 + 1)) i 3 (a_iv A i 3 + 1))) (a_iv A i 2 + 1) c1b hi hN
        have hu : utA A i w = s_iv A (up2 (up2 (up2 (a_iv A) i 4 (a_iv A i 4 + 1)) i 3 (a_iv A i 3 + 1)) i 2 (a_iv A i 2 + 1)) := by
          unfold utA
          rw [hbad, if_pos rfl]
        rw [hu]
        unfold saysA
        rw [hbad, if_pos rfl]
        have q3 : rI (wI μ (o + (56 + i)) 5 (a_iv A i 4 + 1)) (o + (56 + i)) 4 = a_iv A i 3 := by rw [rI_ne _ (fun y => absurd y.2 (by decide)), r3]
        have q2 : ∀ v, rI (wI (wI μ (o + (56 + i)) 5 (a_iv A i 4 + 1)) (o + (56 + i)) 4 v) (o + (56 + i)) 3 = a_iv A i 2 := by
          intro v
          rw [rI_ne _ (fun y => absurd y.2 (by decide)), rI_ne _ (fun y => absurd y.2 (by decide)), r2]
        by_cases e4 : w = 79
        · rw [if_pos e4, if_pos e4, r4, q3, q2]
          exact ⟨_, rfl, c2⟩
        · rw [if_neg e4, if_neg e4, r4, q3, q2]
          exact ⟨_, rfl, c2⟩
    · rw [if_neg e2, rI_ne _ (fun y => absurd y.2 (by decide)), r2]
      have hbad : badA A i w = false := by
        unfold badA
        rw [show decide (a_iv A i 3 - a_iv A i 3 / 3 * 3 = 0) = false from decide_eq_false e2, Bool.and_false, Bool.false_and]
      refine ⟨_, ?_, by rw [utA_no hbad]; exact c_two h hN hi⟩
      unfold saysA
      rw [hbad, if_neg (by decide)]
end CU
