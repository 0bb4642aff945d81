/-! The reference: say. -/
theorem say_alt (A : AS) (b i : Nat) (w : Int32) : sayA A b i w = s_iv (s_iv (s_iv (keepA A (b + 1) (saysA A i w)) (up2 (a_iv A) i 4 (a_iv A i 4 + (if badA A i w = true then 1 else 0)))) (up2 (up2 (a_iv A) i 4 (a_iv A i 4 + (if badA A i w = true then 1 else 0))) i 3 (a_iv A i 3 + 1))) (up2 (up2 (up2 (a_iv A) i 4 (a_iv A i 4 + (if badA A i w = true then 1 else 0))) i 3 (a_iv A i 3 + 1)) i 2 (a_iv A i 2 + 1)) := rfl
theorem next80 {w : Int32} (h : wNum w) (h80 : ¬ 80 ≤ w) : w + 1 - (w + 1) / 80 * 80 = if w = 79 then 0 else w + 1 := by
  obtain ⟨n, hn, rfl⟩ := h
  exact (by decide +kernel : ∀ n, n < 100 → ¬ (80 : Int32) ≤ nI n → nI n + 1 - (nI n + 1) / 80 * 80 = if nI n = 79 then 0 else nI n + 1) n hn h80
section MS
variable {p : Nat} {ρ μ : MM} {A : AS}
theorem m_say {b : Nat} {w : Int32} (hp : isP p) (h : Ml p ρ μ A) (hs : Seats A) (hb : b < a_nb A) (hn : a_nb A ≤ 6) (hni : a_ni A ≤ 8) (hw : wNum w) (hm : a_mn A (b + 1) < 400) : ∃ μ', X7_say p (nI b) w μ = some μ' ∧ Ml p ρ μ' (outA A b w) := by
  have cb : (nI b).toNatClampNeg = b := nI_clamp (by omega)
  have i6 : inb (nI b) 6 = True := inb_T (by omega) (by decide)
  unfold X7_say outA
  rw [m_able hp h hs hb hn hni]
  simp only [bO1_s]
  cases hx : a_sit A b with
  | none =>
    have ea : ableA A b = false := by unfold ableA; rw [hx]
    simp only [ea, Bool.false_eq_true, if_false, if_true, bV_eq, pR17 hp, pA17 hp, i6, cb, rq17 h (show b < 6 by omega)]
    exact ⟨_, rfl, m_bv3 _ (by omega) h⟩
  | some i =>
    have hil := hs.2 b hb i hx
    have hi : i < 8 := by omega
    by_cases ea : ableA A b = true
    · have ei : (encO (some i)).toNatClampNeg = i := nI_clamp (by omega)
      have i8 : inb (encO (some i)) 8 = True := inb_T (by omega) (by decide)
      have e16 : rI μ (p + 12) b = encO (some i) := by rw [rq16 h (by omega) hb, hx]
      have e8 : rI μ (p + 4) i = a_iv A i 2 := rq8 h hi
      have e9 : rI μ (p + 5) i = a_iv A i 3 := rq9 h hi
      simp only [ea, if_true, one_ne, if_false, bV_eq, pR16 hp, pA16 hp, i6, cb, e16, pR7 hp, pA7 hp, pR8 hp, pA8 hp, pR9 hp, pA9 hp, i8, ei, e8, e9, nI_1, show nI b + 1 = nI (b + 1) from nI_1 b]
      have fin : ∀ (x : Int32) (μ9 : MM), Ml p ρ μ9 (keepA A (b + 1) (saysA A i w)) → x = (if badA A i w = true then 1 else 0) → ∃ μ', some (wI (wI (wI μ9 (p + 6) i (rI μ9 (p + 6) i + x)) (p + 5) i (rI (wI μ9 (p + 6) i (rI μ9 (p + 6) i + x)) (p + 5) i + 1)) (p + 4) i (rI (wI (wI μ9 (p + 6) i (rI μ9 (p + 6) i + x)) (p + 5) i (rI (wI μ9 (p + 6) i (rI μ9 (p + 6) i + x)) (p + 5) i + 1)) (p + 4) i + 1)) = some μ' ∧ Ml p ρ μ' (sayA A b i w) := by
        intro x μ9 h9 ex
        refine ⟨_, rfl, ?_⟩
        rw [rI_o _ (by omega), rI_o _ (by omega), rI_o _ (by omega), rq10 h9 hi, rq9 h9 hi, rq8 h9 hi, say_alt, ← ex]
        exact m_iv2 _ hi (m_iv3 _ hi (m_iv4 _ hi h9))
      obtain ⟨μ1, x1, c1⟩ := m_X7keep (a := b + 1) w hp (by omega) hm h
      by_cases f1 : a_iv A i 2 < 20
      · have hb1 : badA A i w = false := by
          unfold badA
          rw [show decide ((20 : Int32) ≤ a_iv A i 2) = false from decide_eq_false (Int32.not_le.mpr f1), Bool.false_and, Bool.false_and]
        have hs1 : saysA A i w = w := by unfold saysA; rw [hb1]; rfl
        rw [if_pos f1, x1]
        simp only [bO1_s]
        exact fin 0 μ1 (by rw [hs1]; exact c1) (by rw [hb1]; rfl)
      · rw [if_neg f1]
        have d1 : decide ((20 : Int32) ≤ a_iv A i 2) = true := decide_eq_true (Int32.not_lt.mp f1)
        by_cases f2 : a_iv A i 3 - a_iv A i 3 / 3 * 3 = 0
        · rw [if_pos f2]
          have d2 : decide (a_iv A i 3 - a_iv A i 3 / 3 * 3 = 0) = true := decide_eq_true f2
          by_cases f3 : (80 : Int32) ≤ w
          · have hb1 : badA A i w = false := by
              unfold badA
              rw [show decide (w < 80) = false from decide_eq_false (Int32.not_lt.mpr f3), Bool.and_false]
            have hs1 : saysA A i w = w := by unfold saysA; rw [hb1]; rfl
            rw [if_pos f3, x1]
            simp only [bO1_s]
            exact fin 0 μ1 (by rw [hs1]; exact c1) (by rw [hb1]; rfl)
          · have hb1 : badA A i w = true := by
              unfold badA
              rw [d1, d2, show decide (w < 80) = true from decide_eq_true (Int32.not_le.mp f3)]
              rfl
            have hs1 : saysA A i w = if w = 79 then 0 else w + 1 := by unfold saysA; rw [hb1]; rfl
            rw [if_neg f3, next80 hw f3, ← hs1]
            obtain ⟨μ2, x2, c2⟩ := m_X7keep (a := b + 1) (saysA A i w) hp (by omega) hm h
            rw [x2]
            simp only [bO1_s]
            exact fin 1 μ2 c2 (by rw [hb1]; rfl)
        · rw [if_neg f2]
          have hb1 : badA A i w = false := by
            unfold badA
            rw [show decide (a_iv A i 3 - a_iv A i 3 / 3 * 3 = 0) = false from decide_eq_false f2, Bool.and_false, Bool.false_and]
          have hs1 : saysA A i w = w := by unfold saysA; rw [hb1]; rfl
          rw [x1]
          simp only [bO1_s]
          exact fin 0 μ1 (by rw [hs1]; exact c1) (by rw [hb1]; rfl)
    · have ea : ableA A b = false := by
        cases hh : ableA A b with
        | true => exact absurd hh ea
        | false => rfl
      simp only [ea, Bool.false_eq_true, if_false, if_true, bV_eq, pR17 hp, pA17 hp, i6, cb, rq17 h (show b < 6 by omega)]
      exact ⟨_, rfl, m_bv3 _ (by omega) h⟩
end MS
