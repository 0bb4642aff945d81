/-! count; what a booth tells. -/
def sumI (f : Nat → Int32) : Nat → Int32
  | 0 => 0
  | n + 1 => sumI f n + f n
theorem sumI_n (f : Nat → Nat) : ∀ n, sumI (fun b => nI (f b)) n = nI (sumN f n)
  | 0 => rfl
  | n + 1 => by
    show sumI (fun b => nI (f b)) n + nI (f n) = nI (sumN f n + f n)
    rw [sumI_n f n, nI_add']
/-- what the counts 6 .. 9 add up -/
def cntF (A : AS) (j : Nat) (b : Nat) : Int32 := if j = 6 then nI (a_mn A (b + 1)) else if j = 7 then a_bv A b 3 else if j = 8 then nI (a_hd A b) else if ableA A b = true then 1 else 0
def cntA (A : AS) : Nat → Int32
  | 0 => nI (a_t A)
  | 1 => a_lang A
  | 2 => nI (a_lf A)
  | 3 => nI (a_mn A 0)
  | 4 => nI (a_nb A)
  | 5 => nI (a_ni A)
  | j + 6 => sumI (cntF A (j + 6)) (a_nb A)
section CT
variable {o : Nat} {ρ μ : MM} {A : AS}
theorem oSp {b : Nat} (ho : isO o) (hb : b < 6) : RF (o + (8 + 8 * b)) 2 = o + spC (b + 1) := by
  rw [oB2 ho hb, spC_b]
theorem c_sum (ho : isO o) (h : CR o 6 8 μ A) (hB : Bds 6 8 A) (hs : Seats A) {j : Nat} (hj6 : 6 ≤ j) (hj : j < 10) : ∀ k c f, c + k = a_nb A → k < f → X5_sumOverBooths_L4 o (nI j) μ f (sumI (cntF A j) c) (nI c) = some (sumI (cntF A j) (a_nb A)) := by
  have h6 := hB.1
  intro k
  induction k with
  | zero =>
    intro c f hc hf
    obtain ⟨g, rfl⟩ : ∃ g, f = g + 1 := ⟨f - 1, by omega⟩
    have e : c = a_nb A := by omega
    subst e
    rw [X5_sumOverBooths_L4_s, rd4 h, if_pos (nI_le (Nat.le_refl _) (by omega))]
  | succ k ih =>
    intro c f hc hf
    obtain ⟨g, rfl⟩ : ∃ g, f = g + 1 := ⟨f - 1, by omega⟩
    have hcn : c < 6 := by omega
    have h2 := ih (c + 1) g (by omega) (by omega)
    rw [X5_sumOverBooths_L4_s, rd4 h, if_neg (nI_ge (by omega) (by omega)), able_ok (A := A) (by omega) hs ho h hB]
    simp only [bO1_s, bV_eq]
    rw [if_pos (in_booths ho hcn), if_pos (in_booths ho hcn), if_pos (in_booths ho hcn), booth_at ho hcn, oSp ho hcn, oB0 ho hcn, rd17 h hB hcn, rd19 h hB hcn, show rI μ (o + spC (c + 1)) 2 = nI (a_mn A (c + 1)) from rd23 h hB (by omega), nI_1]
    have hne : ∀ m : Nat, m < 10 → (nI j = nI m ↔ j = m) := fun m hm => ⟨fun z => nI_inj' (by omega) (by omega) z, fun z => by rw [z]⟩
    have e6 : nI j = 6 ↔ j = 6 := hne 6 (by omega)
    have e7 : nI j = 7 ↔ j = 7 := hne 7 (by omega)
    have e8 : nI j = 8 ↔ j = 8 := hne 8 (by omega)
    have hstep : sumI (cntF A j) (c + 1) = sumI (cntF A j) c + cntF A j c := rfl
    rw [hstep] at h2
    unfold cntF at h2 ⊢
    by_cases d6 : j = 6
    · rw [if_pos (e6.mpr d6)]
      simp only [if_pos d6] at h2 ⊢
      exact h2
    · rw [if_neg (fun z => d6 (e6.mp z))]
      by_cases d7 : j = 7
      · rw [if_pos (e7.mpr d7)]
        simp only [if_neg d6, if_pos d7] at h2 ⊢
        exact h2
      · rw [if_neg (fun z => d7 (e7.mp z))]
        by_cases d8 : j = 8
        · rw [if_pos (e8.mpr d8)]
          simp only [if_neg d6, if_neg d7, if_pos d8] at h2 ⊢
          exact h2
        · rw [if_neg (fun z => d8 (e8.mp z))]
          simp only [if_neg d6, if_neg d7, if_neg d8] at h2 ⊢
          by_cases ea : ableA A c = true
          · rw [if_pos ea, if_neg one_ne]
            rw [if_pos ea] at h2
            exact h2
          · rw [if_neg ea, if_pos rfl]
            rw [if_neg ea] at h2
            exact h2
theorem c_count (ho : isO o) (h : CR o 6 8 μ A) (hB : Bds 6 8 A) (hs : Seats A) : ∀ j, j < 10 → X5_tellCount o (nI j) μ = some (cntA A j) := by
  intro j hj
  unfold X5_tellCount
  rw [rd0 h, rd1 h, oR1 ho, rd2 h, oR2 ho, show rI μ (o + 3) 2 = nI (a_mn A 0) from rd23 (a := 0) h hB (by omega), rd4 h, rd3 h]
  match j, hj with
  | 0, _ => rfl
  | 1, _ => rfl
  | 2, _ => rfl
  | 3, _ => rfl
  | 4, _ => rfl
  | 5, _ => rfl
  | j + 6, hj =>
    have hne : ∀ m : Nat, m < 6 → ¬ (nI (j + 6) = nI m) := fun m hm z => by have := nI_inj' (a := j + 6) (b := m) (by omega) (by omega) z; omega
    rw [if_neg (show ¬ nI (j + 6) = 0 from hne 0 (by omega)), if_neg (show ¬ nI (j + 6) = 1 from hne 1 (by omega)), if_neg (show ¬ nI (j + 6) = 2 from hne 2 (by omega)), if_neg (show ¬ nI (j + 6) = 3 from hne 3 (by omega)), if_neg (show ¬ nI (j + 6) = 4 from hne 4 (by omega)), if_neg (show ¬ nI (j + 6) = 5 from hne 5 (by omega))]
    unfold X5_sumOverBooths
    have := c_sum ho h hB hs (j := j + 6) (by omega) hj (a_nb A) 0 1000 (by omega) (by have := hB.1; omega)
    rw [show X5_sumOverBooths_L4 o (nI (j + 6)) μ 1000 0 0 = _ from this]
    rfl
theorem m_counted_L (h : Ml 133 ρ μ A) (hs : Seats A) (h6 : a_nb A ≤ 6) (h8 : a_ni A ≤ 8) (b1 : Int32) : ∀ k c f, c + k = a_nb A → k < f → X8_counted_L10 132 b1 μ f (sumI (cntF A 7) c) (sumI (cntF A 8) c) (sumI (cntF A 9) c) (nI c) = some (sumI (cntF A 7) (a_nb A), sumI (cntF A 8) (a_nb A), sumI (cntF A 9) (a_nb A)) := by
  intro k
  induction k with
  | zero =>
    intro c f hc hf
    obtain ⟨g, rfl⟩ : ∃ g, f = g + 1 := ⟨f - 1, by omega⟩
    have e : c = a_nb A := by omega
    subst e
    rw [X8_counted_L10_s, RF01.2.1, rq4 h, if_pos (nI_le (Nat.le_refl _) (by omega))]
  | succ k ih =>
    intro c f hc hf
    obtain ⟨g, rfl⟩ : ∃ g, f = g + 1 := ⟨f - 1, by omega⟩
    have hcn : c < 6 := by omega
    have cc : (nI c).toNatClampNeg = c := nI_clamp (by omega)
    have j6 : inb (nI c) 6 = True := inb_T hcn (by decide)
    have h2 : X8_counted_L10 132 b1 μ g (sumI (cntF A 7) c + cntF A 7 c) (sumI (cntF A 8) c + cntF A 8 c) (sumI (cntF A 9) c + cntF A 9 c) (nI (c + 1)) = _ := ih (c + 1) g (by omega) (by omega)
    rw [X8_counted_L10_s, RF01.2.1, rq4 h, if_neg (nI_ge (by omega) (by omega)), m_able isP133 h hs (by omega) h6 h8]
    simp only [pR17 isP133, pA17 isP133, pR19 isP133, pA19 isP133, j6, cc, if_true, bV_eq, bO1_s, rq17 h hcn, rq19 h hcn, nI_1]
    rw [show cntF A 7 c = a_bv A c 3 from rfl, show cntF A 8 c = nI (a_hd A c) from rfl, show cntF A 9 c = if ableA A c = true then 1 else 0 from rfl] at h2
    by_cases ea : ableA A c = true
    · rw [if_pos ea, if_neg one_ne]
      rw [if_pos ea] at h2
      exact h2
    · rw [if_neg ea, if_pos rfl]
      rw [if_neg ea] at h2
      exact h2
theorem m_counted (h : Ml 133 ρ μ A) (hs : Seats A) (h6 : a_nb A ≤ 6) (h8 : a_ni A ≤ 8) : ∀ j, j < 10 → X8_counted 132 (nI j) μ = some (cntA A j) := by
  intro j hj
  have j10 : inb (nI j) 10 = True := inb_T hj (by decide)
  have j7 : inb (0 : Int32) 7 = True := eq_true (inb_0 (by decide) (by decide))
  have hc := m_counted_L h hs h6 h8 (nI j) (a_nb A) 0 1000 (by omega) (by omega)
  unfold X8_counted
  rw [show X8_counted_L10 132 (nI j) μ 1000 0 0 0 0 = _ from hc]
  simp only [bO3_s]
  rw [RF01.2.1, m_all isP133 h h6]
  simp only [bO1_s, pR22 isP133, pA22 isP133, j7, j10, if_true, rq0 h, rq1 h, rq2 h, rq3 h, rq4 h, nI_tn0, rq23 h (show 0 < 7 by omega)]
  have h6' : nI (allA A) = sumI (cntF A 6) (a_nb A) := (sumI_n _ _).symm
  have cj : (nI j).toNatClampNeg = j := nI_clamp (by omega)
  rw [h6', cj]
  simp only [show (1 : Int32).toNatClampNeg = 1 from rfl, show (2 : Int32).toNatClampNeg = 2 from rfl, show (3 : Int32).toNatClampNeg = 3 from rfl, show (4 : Int32).toNatClampNeg = 4 from rfl, show (5 : Int32).toNatClampNeg = 5 from rfl, show (6 : Int32).toNatClampNeg = 6 from rfl, show (7 : Int32).toNatClampNeg = 7 from rfl, show (8 : Int32).toNatClampNeg = 8 from rfl, show (9 : Int32).toNatClampNeg = 9 from rfl, show (10 : Int32).toNatClampNeg = 10 from rfl]
  refine congrArg some ?_
  clear h6' cj hc j10 j7
  match j, hj with
  | 0, _ => rfl
  | 1, _ => rfl
  | 2, _ => rfl
  | 3, _ => rfl
  | 4, _ => rfl
  | 5, _ => rfl
  | 6, _ => rfl
  | 7, _ => rfl
  | 8, _ => rfl
  | 9, _ => rfl
theorem s_count (hr : Rel μ A) (x : Int32) : ∃ A', Good A' ∧ Step A A' μ (L_count 0 x 177 μ) (fun μ2 => X8_count 132 x μ2) := by
  have hG := hr.2.2
  have hI := hG.1
  have hB := hG.bds
  refine ⟨A, hG, ?_⟩
  unfold L_count X6_count X8_count
  rw [RF01.1]
  simp only [bV_eq]
  by_cases h2 : (0 : Int32) ≤ x ∧ x ≤ 9
  · obtain ⟨j, rfl, _, hj⟩ := nI_in' (a := 0) (b := 9) rfl rfl (by omega) (by omega) h2
    rw [X6_in h2.1 h2.2, if_neg one_ne, c_count isO4 hr.1 hB hI.2.1 j (by omega)]
    simp only [bO1_s, bO2_s]
    rw [if_pos trivial, if_pos in177]
    refine step_yes (v := cntA A j) rfl (CO.of hr.cl) (fun μ2 hm2 => ?_)
    have c0 := m_begin hm2
    rw [isIn_in h2.1 h2.2, if_neg one_ne, m_counted c0 hI.2.1 hI.1.1 hI.1.2.1 j (by omega)]
    exact ⟨_, rfl, c0⟩
  · refine step_no hr 1 ?_ one_ne (fun μ2 hm => ?_)
    · rw [X6_out h2, if_pos rfl]
      rfl
    · rw [isIn_out h2, if_pos rfl]
      rfl
/-- what a booth tells, but for the last -/
def tellB (A : AS) (b : Nat) : Nat → Int32
  | 0 => a_bv A b 0
  | 1 => a_bv A b 1
  | 2 => a_bv A b 2
  | 3 => encO (a_src A b)
  | 4 => encO (a_sit A b)
  | 5 => nI (a_hd A b)
  | 6 => nI (a_mn A (b + 1))
  | 7 => a_bv A b 3
  | 8 => nI (dpt (a_src A) 6 (some b))
  | 9 => if a_bv A b 4 = -1 then 0 else 1
  | _ => if ableA A b = true then 1 else 0
theorem c_tellB {r : Nat → Nat} (ho : isO o) (h : CR o 6 8 μ A) (hB : Bds 6 8 A) (hs : Seats A) (hk : Rk A r) {b : Nat} (hb : b < a_nb A) : ∀ j, j < 11 → X5_tellBooth o (nI b) (nI j) μ = some (tellB A b j, μ) := by
  intro j hj
  have h6 := hB.1
  have hb6 : b < 6 := by omega
  have hd := c_depth_L ho h hB hk hs 6 (some b) 0 1000 (fun s h => by cases h; exact ⟨hb, hk.2 b hb⟩) (by omega) (by omega)
  rw [Nat.zero_add] at hd
  unfold X5_tellBooth X5_chainLength
  rw [if_pos (in_booths ho hb6), booth_at ho hb6, oB0 ho hb6, oSp ho hb6, able_ok hb hs ho h hB, show X5_chainLength_L4 o μ 1000 0 (nI b) = _ from hd, rd12 h hB hb6, rd13 h hB hb6, rd14 h hB hb6, rd15 h hB hb6, rd16 h hB hb6, rd17 h hB hb6, rd18 h hB hb6, rd19 h hB hb6, show rI μ (o + spC (b + 1)) 2 = nI (a_mn A (b + 1)) from rd23 h hB (by omega)]
  match j, hj with
  | 0, _ => rfl
  | 1, _ => rfl
  | 2, _ => rfl
  | 3, _ => rfl
  | 4, _ => rfl
  | 5, _ => rfl
  | 6, _ => rfl
  | 7, _ => rfl
  | 8, _ => rfl
  | 9, _ =>
    show (if a_bv A b 4 = -1 then some ((0 : Int32), μ) else some ((1 : Int32), μ)) = some (if a_bv A b 4 = -1 then 0 else 1, μ)
    split <;> rfl
  | 10, _ =>
    show (if (if ableA A b = true then (1 : Int32) else 0) = 0 then some ((0 : Int32), μ) else some ((1 : Int32), μ)) = some (if ableA A b = true then 1 else 0, μ)
    by_cases ea : ableA A b = true
    · rw [if_pos ea, if_neg one_ne]
    · rw [if_neg ea, if_pos rfl]
theorem m_tellB {r : Nat → Nat} (h : Ml 133 ρ μ A) (hs : Seats A) (h6 : a_nb A ≤ 6) (h8 : a_ni A ≤ 8) (hk : Rk A r) {b : Nat} (hb : b < a_nb A) : ∀ j, j < 11 → X8_boothTold 132 (nI b) (nI j) μ = some (tellB A b j, μ) := by
  intro j hj
  have hb6 : b < 6 := by omega
  have cb : (nI b).toNatClampNeg = b := nI_clamp (by omega)
  have cb1 : (nI (b + 1)).toNatClampNeg = b + 1 := nI_clamp (by omega)
  have i6 : inb (nI b) 6 = True := inb_T hb6 (by decide)
  have i7 : inb (nI (b + 1)) 7 = True := inb_T (by omega) (by decide)
  have j11 : inb (nI j) 11 = True := inb_T hj (by decide)
  have hd := m_depth_L h h6 hk hs 6 (some b) 0 1000 (fun s h => by cases h; exact ⟨hb, hk.2 b hb⟩) (by omega)
  rw [Nat.zero_add] at hd
  have hdep : X8_depth 132 (nI b) μ = some (nI (dpt (a_src A) 6 (some b))) := by
    unfold X8_depth
    rw [show X8_depth_L4 132 μ 1000 0 (nI b) = _ from hd]
    rfl
  unfold X8_boothTold
  rw [if_neg (show ¬ nI j = 11 from fun z => by have := nI_inj' (a := j) (b := 11) (by omega) (by omega) z; omega), RF01.2.1, hdep, m_able isP133 h hs hb h6 h8]
  simp only [bO1_s, nI_1, pR12 isP133, pA12 isP133, pR13 isP133, pA13 isP133, pR14 isP133, pA14 isP133, pR15 isP133, pA15 isP133, pR16 isP133, pA16 isP133, pR17 isP133, pA17 isP133, pR18 isP133, pA18 isP133, pR19 isP133, pA19 isP133, pR22 isP133, pA22 isP133, i6, i7, j11, cb, cb1, if_true, rq12 h hb6, rq13 h hb6, rq14 h hb6, rq15 h hb6 hb, rq16 h hb6 hb, rq17 h hb6, rq18 h hb6 hb, rq19 h hb6, rq23 h (show b + 1 < 7 by omega)]
  have cj : (nI j).toNatClampNeg = j := nI_clamp (by omega)
  rw [cj]
  simp only [nI_tn0, show (1 : Int32).toNatClampNeg = 1 from rfl, show (2 : Int32).toNatClampNeg = 2 from rfl, show (3 : Int32).toNatClampNeg = 3 from rfl, show (4 : Int32).toNatClampNeg = 4 from rfl, show (5 : Int32).toNatClampNeg = 5 from rfl, show (6 : Int32).toNatClampNeg = 6 from rfl, show (7 : Int32).toNatClampNeg = 7 from rfl, show (8 : Int32).toNatClampNeg = 8 from rfl, show (9 : Int32).toNatClampNeg = 9 from rfl, show (10 : Int32).toNatClampNeg = 10 from rfl]
  clear hd hdep j11 cj
  have e9 : tellB A b 9 = if a_bv A b 4 = -1 then 0 else 1 := rfl
  have e10 : tellB A b 10 = if ableA A b = true then 1 else 0 := rfl
  by_cases e4 : a_bv A b 4 = -1
  · rw [if_pos e4] at e9
    rw [if_pos e4]
    by_cases ea : ableA A b = true
    · rw [if_pos ea] at e10
      rw [if_pos ea, if_neg one_ne]
      refine congrArg (fun v => some (v, μ)) ?_
      match j, hj with
      | 0, _ => rfl
      | 1, _ => rfl
      | 2, _ => rfl
      | 3, _ => rfl
      | 4, _ => rfl
      | 5, _ => rfl
      | 6, _ => rfl
      | 7, _ => rfl
      | 8, _ => rfl
      | 9, _ => exact e9.symm
      | 10, _ => exact e10.symm
    · rw [if_neg ea] at e10
      rw [if_neg ea, if_pos rfl]
      refine congrArg (fun v => some (v, μ)) ?_
      match j, hj with
      | 0, _ => rfl
      | 1, _ => rfl
      | 2, _ => rfl
      | 3, _ => rfl
      | 4, _ => rfl
      | 5, _ => rfl
      | 6, _ => rfl
      | 7, _ => rfl
      | 8, _ => rfl
      | 9, _ => exact e9.symm
      | 10, _ => exact e10.symm
  · rw [if_neg e4] at e9
    rw [if_neg e4]
    by_cases ea : ableA A b = true
    · rw [if_pos ea] at e10
      rw [if_pos ea, if_neg one_ne]
      refine congrArg (fun v => some (v, μ)) ?_
      match j, hj with
      | 0, _ => rfl
      | 1, _ => rfl
      | 2, _ => rfl
      | 3, _ => rfl
      | 4, _ => rfl
      | 5, _ => rfl
      | 6, _ => rfl
      | 7, _ => rfl
      | 8, _ => rfl
      | 9, _ => exact e9.symm
      | 10, _ => exact e10.symm
    · rw [if_neg ea] at e10
      rw [if_neg ea, if_pos rfl]
      refine congrArg (fun v => some (v, μ)) ?_
      match j, hj with
      | 0, _ => rfl
      | 1, _ => rfl
      | 2, _ => rfl
      | 3, _ => rfl
      | 4, _ => rfl
      | 5, _ => rfl
      | 6, _ => rfl
      | 7, _ => rfl
      | 8, _ => rfl
      | 9, _ => exact e9.symm
      | 10, _ => exact e10.symm
end CT
