/-! The class: a booth where nobody is able. -/
/-- who sits in the booth rests -/
def restB (A : AS) (b : Nat) : AS := match a_sit A b with
  | none => A
  | some i => tireA A i 1
theorem Bds.of {NB NI : Nat} {A A' : AS} (hB : Bds NB NI A) (h1 : a_nb A' = a_nb A) (h2 : a_ni A' = a_ni A) (h3 : a_lf A' = a_lf A) (h4 : a_t A' = a_t A) (h5 : a_hd A' = a_hd A) (h6 : a_mn A' = a_mn A) : Bds NB NI A' := by
  unfold Bds at hB ⊢
  rw [h1, h2, h3, h4, h5, h6]
  exact hB
theorem Bds.pop {NB NI b : Nat} {A : AS} (hB : Bds NB NI A) : Bds NB NI (popA A b) := by
  refine ⟨hB.1, hB.2.1, hB.2.2.1, hB.2.2.2.1, ?_, hB.2.2.2.2.2⟩
  intro c hc
  have h1 := hB.2.2.2.2.1 c hc
  show up1 (a_hd A) b (a_hd A b - 1) c ≤ 12
  by_cases e : c = b
  · rw [e, up1_s]; rw [e] at h1; omega
  · rw [up1_n _ _ e]; exact h1
theorem due_pos {A : AS} {b : Nat} (h : dueA A b = true) : 0 < a_hd A b := by
  unfold dueA at h
  rw [Bool.and_eq_true] at h
  have := of_decide_eq_true h.1
  omega
section CN
variable {o NB NI : Nat} {ρ μ : MM} {A : AS}
theorem c_rest {b : Nat} (ho : isO o) (h : Cl o NB NI ρ μ A) (hB : Bds NB NI A) (hb : b < a_nb A) (hs : Seats A) : ∃ μ', (if X5_hasInterpreter o (rI μ (o + (8 + 8 * b)) 7) μ = 0 then some μ else if inb (rI μ (o + (8 + 8 * b)) 7) (al (RF o 4)) then bV (X2_recover (RF (RF o 4) (rI μ (o + (8 + 8 * b)) 7).toNatClampNeg) (1 : Int32) μ) (fun μ9 => some μ9) else none) = some μ' ∧ Cl o NB NI ρ μ' (restB A b) := by
  have hn := hB.1
  have hm := hB.2.1
  rw [rd16 h.1 hB (by omega), hasI_O (hs.2 b hb) h.1 hB]
  unfold restB
  cases hx : a_sit A b with
  | none =>
    rw [if_pos rfl, if_pos rfl]
    exact ⟨_, rfl, h⟩
  | some i =>
    have hi := hs.2 b hb i hx
    rw [if_neg (some_ne i), if_neg one_ne]
    show ∃ μ', (if inb (nI i) (al (RF o 4)) then bV (X2_recover (RF (RF o 4) (nI i).toNatClampNeg) (1 : Int32) μ) (fun μ9 => some μ9) else none) = some μ' ∧ Cl o NB NI ρ μ' (tireA A i 1)
    rw [if_pos (in_ints ho (by omega)), int_at ho (by omega)]
    simp only [bV_eq]
    exact ⟨_, rfl, c_tire 1 h hB (by omega)⟩
theorem c_lost {b : Nat} (h : Cl o NB NI ρ μ A) (hB : Bds NB NI A) (hb : b < NB) : Cl o NB NI ρ (wI μ (o + (8 + 8 * b)) 9 (rI μ (o + (8 + 8 * b)) 9 + 1)) (lostA A b) := by
  rw [rd17 h.1 hB hb]
  exact c_bv3 _ h hb hB.1.2
theorem c_unable {b : Nat} (ho : isO o) (h : Cl o NB NI ρ μ A) (hB : Bds NB NI A) (hb : b < a_nb A) (hs : Seats A) : ∃ μ', X5_workUnable o (o + (8 + 8 * b)) μ = some μ' ∧ Cl o NB NI ρ μ' (restB (dumbA A b) b) := by
  have hn := hB.1
  have hbN : b < NB := by omega
  unfold X5_workUnable dumbA
  rw [rd18 h.1 hB hbN]
  by_cases e1 : a_bv A b 4 = -1
  · rw [if_pos e1, if_pos e1, rd0 h.1, c_due ho h.1 hB hbN]
    simp only [bO1_s]
    by_cases e2 : dueA A b = true
    · rw [if_pos e2, if_pos e2, if_neg one_ne]
      obtain ⟨μ1, x1, c1⟩ := c_first ho h hB hbN (due_pos e2)
      rw [x1]
      simp only [bO2_s, bV_eq]
      have hB1 : Bds NB NI (popA A b) := hB.pop
      have c2 := c_lost c1 hB1 hbN
      exact c_rest (A := lostA (popA A b) b) ho c2 (hB1.of rfl rfl rfl rfl rfl rfl) hb hs
    · rw [if_neg e2, if_neg e2, if_pos rfl]
      exact c_rest ho h hB hb hs
  · rw [if_neg e1, if_neg e1]
    simp only [bV_eq]
    have c1 := c_bv4 (-1) h hbN hn.2
    have hB1 : Bds NB NI (s_bv A (up2 (a_bv A) b 4 (-1))) := hB.of rfl rfl rfl rfl rfl rfl
    have c2 := c_lost c1 hB1 hbN
    exact c_rest (A := lostA (s_bv A (up2 (a_bv A) b 4 (-1))) b) ho c2 (hB1.of rfl rfl rfl rfl rfl rfl) hb hs
theorem dumb_sit (A : AS) (b : Nat) : a_sit (dumbA A b) = a_sit A := by
  unfold dumbA
  split
  · split <;> rfl
  · rfl
end CN
