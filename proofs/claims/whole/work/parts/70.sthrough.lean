/-! through. -/
def sumL (A : AS) : Nat → Nat
  | 0 => 0
  | b + 1 => sumL A b + lcsA A b
theorem lcsA_le {A : AS} (b : Nat) : lcsA A b ≤ a_mn A 0 := lrw_le _ _ _ _
theorem sumL_le {A : AS} : ∀ n, sumL A n ≤ n * a_mn A 0
  | 0 => Nat.zero_le _
  | n + 1 => by
    have h1 := sumL_le (A := A) n
    have h2 := lcsA_le (A := A) n
    show sumL A n + lcsA A n ≤ (n + 1) * a_mn A 0
    rw [Nat.add_mul, Nat.one_mul]
    omega
theorem l2d_i2d {n : Nat} (h : n < 2 ^ 31) : FP.l2d (lN n) = FP.i2d (nI n) := by
  show FP.Core.l2d (lN n) = FP.Core.i2d (nI n)
  unfold FP.Core.l2d FP.Core.i2d
  rw [lN_toInt h, nI_toInt h]
section TH
variable {ρ μ μ2 : MM} {A : AS}
theorem c_thr (hG : Good A) (b1 : Int32) : ∀ d b f μ, b + d = a_nb A → d < f → CR 4 6 8 μ A → ∃ μ', X6_through_L29 0 b1 f (nI (sumL A b)) (nI b) μ = some (nI (sumL A (a_nb A)), μ') ∧ μ'.1 = μ.1 := by
  have h6 := hG.1.1.1
  intro d
  induction d with
  | zero =>
    intro b f μ hb hf h
    obtain ⟨g, rfl⟩ : ∃ g, f = g + 1 := ⟨f - 1, by omega⟩
    have e : b = a_nb A := by omega
    subst e
    rw [X6_through_L29_s, RF01.1, rd4 h, if_pos (nI_le (Nat.le_refl _) (by omega))]
    exact ⟨μ, rfl, rfl⟩
  | succ d ih =>
    intro b f μ hb hf h
    obtain ⟨g, rfl⟩ : ∃ g, f = g + 1 := ⟨f - 1, by omega⟩
    obtain ⟨μ1, x1, e1⟩ := c_came isO4 h hG.bds (hG.words 0).2 (b := b) (by omega) (hG.words (b + 1)).2
    rw [X6_through_L29_s, RF01.1, rd4 h, if_neg (nI_ge (by omega) (by omega)), x1]
    simp only [bO2_s, bV_eq]
    rw [nI_1, nI_add']
    obtain ⟨μ2, x2, e2⟩ := ih (b + 1) g μ1 (by omega) (by omega) (h.l e1)
    exact ⟨μ2, x2, e2.trans e1⟩
theorem m_thr (hG : Good A) : ∀ d b f μ, b + d = a_nb A → d < f → Ml 133 ρ μ A → ∃ μ', X8_through_L9 132 f (lN (sumL A b)) (nI b) μ = some (lN (sumL A (a_nb A)), μ') ∧ Ml 133 ρ μ' A := by
  have h6 := hG.1.1.1
  intro d
  induction d with
  | zero =>
    intro b f μ hb hf h
    obtain ⟨g, rfl⟩ : ∃ g, f = g + 1 := ⟨f - 1, by omega⟩
    have e : b = a_nb A := by omega
    subst e
    rw [X8_through_L9_s, RF01.2.1, rq4 h, if_pos (nI_le (Nat.le_refl _) (by omega))]
    exact ⟨μ, rfl, h⟩
  | succ d ih =>
    intro b f μ hb hf h
    obtain ⟨g, rfl⟩ : ∃ g, f = g + 1 := ⟨f - 1, by omega⟩
    obtain ⟨μ1, x1, c1⟩ := m_through (b := b) isP133 h (by omega) (hG.words 0).1 (hG.words (b + 1)).1
    have hl : (nI (lcsA A b)).toInt64 = lN (lcsA A b) := nI_l (by have := lcsA_le (A := A) b; have := (hG.words 0).1; omega)
    rw [X8_through_L9_s, RF01.2.1, rq4 h, if_neg (nI_ge (by omega) (by omega)), x1]
    simp only [bO2_s, bV_eq]
    rw [hl, lN_add, nI_1]
    exact ih (b + 1) g μ1 (by omega) (by omega) c1
/-- what through answers -/
def thrA (A : AS) : UInt64 := if a_nb A * a_mn A 0 = 0 then FP.dconst0 else FP.ddiv (FP.i2d (nI (sumL A (a_nb A)))) (FP.i2d (nI (a_nb A * a_mn A 0)))
theorem c_throughD (h : CR 4 6 8 μ A) (hG : Good A) : ∃ μ', X6_through 0 μ = some (thrA A, μ') ∧ μ'.1 = μ.1 := by
  have h6 := hG.1.1.1
  have hm := (hG.words 0).1
  have hp : a_nb A * a_mn A 0 ≤ 6 * 400 := Nat.mul_le_mul h6 hm
  unfold X6_through thrA
  simp only [bV_eq]
  rw [RF01.1, oR2 isO4, rd4 h, show rI μ (4 + 3) 2 = nI (a_mn A 0) from rd23 (a := 0) h hG.bds (by omega), nI_mul']
  by_cases e : a_nb A * a_mn A 0 = 0
  · rw [e, if_pos (show nI 0 = 0 from rfl), if_pos rfl]
    exact ⟨μ, rfl, rfl⟩
  · rw [if_neg (show ¬ nI (a_nb A * a_mn A 0) = 0 from fun z => e (nI_inj' (by omega) (by decide) z)), if_neg e]
    obtain ⟨μ1, x1, e1⟩ := c_thr hG (nI (a_nb A * a_mn A 0)) (a_nb A) 0 1000 μ (by omega) (by omega) h
    rw [show X6_through_L29 0 (nI (a_nb A * a_mn A 0)) 1000 0 0 μ = _ from x1]
    exact ⟨μ1, rfl, e1⟩
theorem m_throughD (hm2 : MR 133 μ A) (hG : Good A) : ∃ μ', X8_through 132 μ = some (thrA A, μ') ∧ RO μ μ' A 0 := by
  have h6 := hG.1.1.1
  have hm := (hG.words 0).1
  have hp : a_nb A * a_mn A 0 ≤ 6 * 400 := Nat.mul_le_mul h6 hm
  have hs := sumL_le (A := A) (a_nb A)
  have h := m_begin hm2
  have j7 : inb (0 : Int32) 7 = True := eq_true (inb_0 (by decide) (by decide))
  obtain ⟨μ1, x1, c1⟩ := m_thr hG (a_nb A) 0 1000 _ (by omega) (by omega) h
  refine ⟨μ1, ?_, RO.of c1⟩
  unfold X8_through thrA
  simp only [bV_eq]
  rw [show X8_through_L9 132 1000 0 0 (wI μ 132 0 0) = _ from x1]
  simp only [bO2_s]
  rw [RF01.2.1, rq4 c1]
  simp only [pR22 isP133, pA22 isP133, j7, if_true, nI_tn0, rq23 c1 (show 0 < 7 by omega)]
  by_cases e1 : a_nb A = 0
  · rw [e1, if_pos (show nI 0 = 0 from rfl), Nat.zero_mul, if_pos rfl]
  · rw [if_neg (show ¬ nI (a_nb A) = 0 from fun z => e1 (nI_inj' (by omega) (by decide) z))]
    by_cases e2 : a_mn A 0 = 0
    · rw [e2, if_pos (show nI 0 = 0 from rfl), Nat.mul_zero, if_pos rfl]
    · rw [if_neg (show ¬ nI (a_mn A 0) = 0 from fun z => e2 (nI_inj' (by omega) (by decide) z)), if_neg (fun z => by rcases Nat.mul_eq_zero.mp z with y | y; exact e1 y; exact e2 y), nI_mul', l2d_i2d (by omega)]
end TH
