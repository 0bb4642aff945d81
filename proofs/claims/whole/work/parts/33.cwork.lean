/-! The class: a booth's turn. -/
theorem wNum_ne {w : Int32} (h : wNum w) : w ≠ -1 := by
  obtain ⟨n, hn, rfl⟩ := h
  exact (by decide +kernel : ∀ n, n < 100 → nI n ≠ -1) n hn
theorem wNum_odd {w : Int32} (h : wNum w) (h80 : 80 ≤ w) : wNum ((w - 80) * 4) ∧ wNum ((w - 80) * 4 + 1) := by
  obtain ⟨n, hn, rfl⟩ := h
  have e := (by decide +kernel : ∀ n, n < 100 → (80 : Int32) ≤ nI n → (nI n - 80) * 4 = nI ((n - 80) * 4) ∧ (nI n - 80) * 4 + 1 = nI ((n - 80) * 4 + 1)) n hn h80
  exact ⟨⟨(n - 80) * 4, by omega, e.1⟩, ⟨(n - 80) * 4 + 1, by omega, e.2⟩⟩
theorem odd_80 {A : AS} {i : Nat} {w : Int32} (h : oddA A i w = true) : 80 ≤ w := by
  unfold oddA at h
  rw [Bool.and_eq_true] at h
  exact of_decide_eq_true h.1
/-- the words that a booth can say are words -/
def WB (A : AS) (b : Nat) : Prop := (∀ k, k < a_hd A b → wNum (a_hw A b k)) ∧ (a_bv A b 4 = -1 ∨ wNum (a_bv A b 4))
section CK
variable {o NB NI : Nat} {ρ μ : MM} {A : AS}
theorem c_odd {i : Nat} (w : Int32) (h : CR o NB NI μ A) (hB : Bds NB NI A) (hi : i < NI) : X2_isLostFor (o + (56 + i)) w μ = if oddA A i w = true then 1 else 0 := by
  unfold X2_isLostFor oddA
  rw [rd7 h hB hi]
  by_cases e : w < 80
  · rw [if_pos e, show decide ((80 : Int32) ≤ w) = false from decide_eq_false (Int32.not_le.mpr e), Bool.false_and, if_neg (by decide)]
  · rw [if_neg e, show decide ((80 : Int32) ≤ w) = true from decide_eq_true (Int32.not_lt.mp e), Bool.true_and]
    by_cases e2 : a_iv A i 1 >>> (w - 80 &&& 31) &&& 1 = 0
    · rw [if_pos e2, if_pos (decide_eq_true e2)]
    · rw [if_neg e2, if_neg (fun z => e2 (of_decide_eq_true z))]
theorem c_say {b i : Nat} (w : Int32) (ho : isO o) (h : Cl o NB NI ρ μ A) (hB : Bds NB NI A) (hb : b < NB) (hi : i < NI) (hm : a_mn A (b + 1) < 400) : ∃ μ', bP (X2_utter (o + (56 + i)) w μ) (fun r10 μ11 => bO1 (X4_add (o + (13 + 8 * b)) r10 (rI μ11 o 8) μ11) (fun μ13 => some ((1 : Int32), μ13))) = some (1, μ') ∧ Cl o NB NI ρ μ' (sayA A b i w) := by
  obtain ⟨μ1, x1, c1⟩ := c_utter w h hB hi
  rw [x1]
  show ∃ μ', bO1 (X4_add (o + (13 + 8 * b)) (saysA A i w) (rI μ1 o 8) μ1) (fun μ13 => some ((1 : Int32), μ13)) = some (1, μ') ∧ _
  have e8 : rI μ1 o 8 = nI (a_t (utA A i w)) := rd0 c1.1
  obtain ⟨μ2, x2, c2⟩ := c_keep (A := utA A i w) (a := b + 1) (saysA A i w) ho c1 hB.1.2 (by omega) hm
  rw [spC_b] at x2
  rw [e8, x2]
  exact ⟨_, rfl, c2⟩
theorem c_work {b : Nat} (ho : isO o) (h : Cl o NB NI ρ μ A) (hB : Bds NB NI A) (hb : b < a_nb A) (hs : Seats A) (hw : WB A b) (hm : a_mn A (b + 1) < 400) : ∃ μ', X5_work o (nI b) μ = some (if talkA A b = true then 1 else 0, μ') ∧ Cl o NB NI ρ μ' (boothA A b) := by
  have hn := hB.1
  have hni := hB.2.1
  have hbN : b < NB := by omega
  have hb6 : b < 6 := by omega
  unfold X5_work
  rw [if_pos (in_booths ho hb6), able_ok hb hs ho h.1 hB, booth_at ho hb6, oB2 ho hb6]
  simp only [bO1_s]
  unfold boothA talkA
  by_cases ea : ableA A b = true
  · rw [if_pos ea, if_neg one_ne]
    rw [rd16 h.1 hB hbN]
    cases hx : a_sit A b with
    | none =>
      unfold ableA at ea
      rw [hx] at ea
      exact (Bool.false_ne_true ea).elim
    | some i =>
      have hi := hs.2 b hb i hx
      have hiN : i < NI := by omega
      rw [show encO (some i) = nI i from rfl, if_pos (in_ints ho (by omega)), int_at ho (by omega)]
      simp only []
      rw [if_pos ea, ea, Bool.true_and]
      unfold X5_nextWord
      rw [rd18 h.1 hB hbN]
      by_cases e4 : a_bv A b 4 = -1
      · rw [if_pos e4, if_pos e4, rd0 h.1, c_due ho h.1 hB hbN, show decide (a_bv A b 4 ≠ -1) = false from decide_eq_false (fun z => z e4), Bool.false_or]
        simp only [bO1_s]
        by_cases ed : dueA A b = true
        · rw [if_pos ed, if_pos ed, if_neg one_ne]
          obtain ⟨μ1, x1, c1⟩ := c_first ho h hB hbN (due_pos ed)
          rw [x1]
          simp only [bO2_s]
          have hB1 : Bds NB NI (popA A b) := hB.pop
          have hw0 := hw.1 0 (due_pos ed)
          rw [c_odd (A := popA A b) _ c1.1 hB1 hiN]
          unfold wordA
          by_cases eo : oddA A i (a_hw A b 0) = true
          · rw [if_pos eo, if_neg (show ¬ ((if oddA (popA A b) i (a_hw A b 0) = true then (1 : Int32) else 0) = 0) from by rw [if_pos (show oddA (popA A b) i (a_hw A b 0) = true from eo)]; exact one_ne)]
            simp only [bV_eq, bO2_s]
            have ho1 := wNum_odd hw0 (odd_80 eo)
            rw [if_neg (wNum_ne ho1.1)]
            have c2 := c_bv4 (A := popA A b) ((a_hw A b 0 - 80) * 4 + 1) c1 hbN hn.2
            have hB2 : Bds NB NI (s_bv (popA A b) (up2 (a_bv A) b 4 ((a_hw A b 0 - 80) * 4 + 1))) := hB1.of rfl rfl rfl rfl rfl rfl
            have c3 := c_iv5 (A := s_bv (popA A b) (up2 (a_bv A) b 4 ((a_hw A b 0 - 80) * 4 + 1))) (a_iv A i 5 + 1) c2 hiN hni.2
            have r6 : rI (wI μ1 (o + (8 + 8 * b)) 8 ((a_hw A b 0 - 80) * 4 + 1)) (o + (56 + i)) 6 = a_iv A i 5 := rd11 c2.1 hB2 hiN
            rw [r6]
            exact c_say (A := s_iv (s_bv (popA A b) (up2 (a_bv A) b 4 ((a_hw A b 0 - 80) * 4 + 1))) (up2 (a_iv A) i 5 (a_iv A i 5 + 1))) _ ho c3 (hB2.of rfl rfl rfl rfl rfl rfl) hbN hiN hm
          · rw [if_neg eo, if_pos (show (if oddA (popA A b) i (a_hw A b 0) = true then (1 : Int32) else 0) = 0 from if_neg eo)]
            simp only [bO2_s]
            rw [if_neg (wNum_ne hw0)]
            exact c_say (A := popA A b) _ ho c1 hB1 hbN hiN hm
        · rw [if_neg ed, if_neg ed, if_pos rfl]
          simp only [bO2_s]
          rw [if_pos trivial]
          exact ⟨_, rfl, c_tire 1 h hB hiN⟩
      · rw [if_neg e4, if_neg e4, show decide (a_bv A b 4 ≠ -1) = true from decide_eq_true e4, Bool.true_or, if_pos rfl]
        simp only [bV_eq, bO2_s]
        rw [if_neg e4]
        have c1 := c_bv4 (-1) h hbN hn.2
        exact c_say (A := s_bv A (up2 (a_bv A) b 4 (-1))) _ ho c1 (hB.of rfl rfl rfl rfl rfl rfl) hbN hiN hm
  · have eaf : ableA A b = false := by
      cases hh : ableA A b with
      | true => exact absurd hh ea
      | false => rfl
    rw [if_neg ea, if_pos rfl, eaf, Bool.false_and, if_neg (by decide)]
    obtain ⟨μ1, x1, c1⟩ := c_unable ho h hB hb hs
    rw [x1]
    simp only [bO1_s]
    refine ⟨_, rfl, ?_⟩
    unfold restB at c1
    rw [dumb_sit] at c1
    cases hx : a_sit A b with
    | none =>
      rw [hx] at c1
      exact c1
    | some i =>
      rw [hx] at c1
      simp only []
      rw [if_neg (by decide)]
      exact c1
end CK
