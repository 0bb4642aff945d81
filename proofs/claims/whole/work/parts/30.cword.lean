/-! The class: the floor's word, what is due, a first word taken, a word uttered. -/
section CWD
variable {o NB NI : Nat} {ρ μ : MM} {A : AS}
theorem c_due {b : Nat} (ho : isO o) (h : CR o NB NI μ A) (hB : Bds NB NI A) (hb : b < NB) : X0_isFirstWordDue (o + (8 + 8 * b)) (nI (a_t A)) μ = some (if dueA A b = true then 1 else 0) := by
  have hN := hB.1.2
  have hb6 : b < 6 := by omega
  have h12 := hB.2.2.2.2.1 b hb
  unfold X0_isFirstWordDue dueA
  rw [oB0 ho hb6, oB1 ho hb6, rd19 h hB hb]
  by_cases e : a_hd A b = 0
  · rw [e, if_pos (by decide), if_neg (by simp)]
  · rw [if_neg (nI_nle (by omega) (by omega))]
    obtain ⟨n, hn⟩ : ∃ n, a_hd A b = n + 1 := ⟨a_hd A b - 1, by omega⟩
    have a0 : RF (o + (11 + 8 * b)) 0 = o + (12 + 8 * b) := oA0 ho hb6
    rw [X3_first_ok (n := n) (by rw [rd20 h hB hb, hn]) (by rw [a0, oAal ho hb6]; omega) (by rw [a0, oAal ho hb6]; decide), a0]
    simp only [bO1_s]
    rw [rd22 h hB hb (by omega), rd13 h hB hb]
    by_cases e2 : nI (a_t A) - a_hs A b 0 < a_bv A b 1
    · rw [if_pos e2, if_neg (by simp [e2])]
    · rw [if_neg e2, if_pos (by simp [e, e2])]
theorem c_first {b : Nat} (ho : isO o) (h : Cl o NB NI ρ μ A) (hB : Bds NB NI A) (hb : b < NB) (hp : 0 < a_hd A b) : ∃ μ', X0_takeFirstWord (o + (8 + 8 * b)) μ = some (a_hw A b 0, μ') ∧ Cl o NB NI ρ μ' (popA A b) := by
  have hN := hB.1.2
  have hb6 : b < 6 := by omega
  have h12 := hB.2.2.2.2.1 b hb
  obtain ⟨n, hn⟩ : ∃ n, a_hd A b = n + 1 := ⟨a_hd A b - 1, by omega⟩
  have a0 : RF (o + (11 + 8 * b)) 0 = o + (12 + 8 * b) := oA0 ho hb6
  have w0 : RF (o + (9 + 8 * b)) 0 = o + (10 + 8 * b) := oW0 ho hb6
  unfold X0_takeFirstWord
  rw [oB0 ho hb6, oB1 ho hb6]
  have x1 := X3_take_ok (n := n) (q := o + (11 + 8 * b)) (μ := μ) (by rw [rd20 h.1 hB hb, hn]) (by rw [a0, oAal ho hb6]; omega) (by rw [a0, oAal ho hb6]; decide)
  rw [a0] at x1
  rw [x1]
  simp only [bO2_s]
  have k : ∀ s, rI (wC (wI μ (o + (11 + 8 * b)) 1 (nI n)) (o + (12 + 8 * b)) 1 (o + (12 + 8 * b)) 0 n) (o + (9 + 8 * b)) s = rI μ (o + (9 + 8 * b)) s := by
    intro s
    rw [rI_wC, if_neg (by omega), rI_ne _ (fun y => by have := y.1; omega)]
  have k2 : ∀ s, rI (wC (wI μ (o + (11 + 8 * b)) 1 (nI n)) (o + (12 + 8 * b)) 1 (o + (12 + 8 * b)) 0 n) (o + (10 + 8 * b)) s = rI μ (o + (10 + 8 * b)) s := by
    intro s
    rw [rI_wC, if_neg (by omega), rI_ne _ (fun y => by have := y.1; omega)]
  have x2 := X3_take_ok (n := n) (q := o + (9 + 8 * b)) (μ := wC (wI μ (o + (11 + 8 * b)) 1 (nI n)) (o + (12 + 8 * b)) 1 (o + (12 + 8 * b)) 0 n) (by rw [k, rd19 h.1 hB hb, hn]) (by rw [w0, oWal ho hb6]; omega) (by rw [w0, oWal ho hb6]; decide)
  rw [w0, k2, rd21 h.1 hB hb hp] at x2
  rw [x2]
  simp only [bO2_s]
  exact ⟨_, rfl, c_pop h hN hb hn h12⟩
theorem c_floor (ho : isO o) (h : Cl o NB NI ρ μ A) (hB : Bds NB NI A) (hm : a_mn A 0 < 400) : ∃ μ', X5_letFloorSpeak o μ = some μ' ∧ Cl o NB NI ρ μ' (floorA A) := by
  have hN := hB.1.2
  have h120 := hB.2.2.1
  unfold X5_letFloorSpeak floorA
  rw [oR1 ho, oR2 ho]
  by_cases e : a_lf A = 0
  · rw [X3_take_0 (by rw [rd2 h.1, e]), if_pos e]
    simp only [bO2_s]
    rw [if_pos trivial]
    exact ⟨_, rfl, h⟩
  · rw [if_neg e]
    obtain ⟨n, hn⟩ : ∃ n, a_lf A = n + 1 := ⟨a_lf A - 1, by omega⟩
    have x1 := X3_take_ok (n := n) (q := o + 1) (μ := μ) (by rw [rd2 h.1, hn]) (by rw [oT0 ho, oTal ho]; omega) (by rw [oT0 ho, oTal ho]; decide)
    rw [oT0 ho, rd5 h.1 hB (by omega)] at x1
    rw [x1]
    simp only [bO2_s]
    have c1 := c_shift h hn h120
    by_cases e2 : a_tx A 0 = -1
    · rw [if_pos e2, if_pos e2]
      exact ⟨_, rfl, c1⟩
    · rw [if_neg e2, if_neg e2, show rI (wC (wI μ (o + 1) 1 (nI n)) (o + 2) 1 (o + 2) 0 n) o 8 = nI (a_t (shiftA A)) from rd0 c1.1]
      obtain ⟨μ', x2, c2⟩ := c_keep (a := 0) (a_tx A 0) ho c1 hN (by omega) hm
      have x3 : X4_add (o + 3) (a_tx A 0) (nI (a_t (shiftA A))) (wC (wI μ (o + 1) 1 (nI n)) (o + 2) 1 (o + 2) 0 n) = some μ' := x2
      rw [x3]
      simp only [bO1_s]
      exact ⟨_, rfl, c2⟩
theorem c_tire {i : Nat} (v : Int32) (h : Cl o NB NI ρ μ A) (hB : Bds NB NI A) (hi : i < NI) : Cl o NB NI ρ (X2_recover (o + (56 + i)) v μ) (tireA A i v) := by
  unfold X2_recover tireA max0
  rw [rd8 h.1 hB hi]
  exact c_iv2 _ h hi hB.2.1.2
end CWD
