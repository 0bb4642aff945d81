/-! The law's loop: on every script it comes to its end. -/
theorem bP_bO2 {α β γ : Type} (x : α × β) (f : α → β → Option γ) : bP x f = bO2 (some x) f := rfl
/-- a new summit -/
def A0 : AS := mkA 0 0 0 0 0 (fun _ => 0) (fun _ _ => 0) (fun _ k => if k = 4 then -1 else 0) (fun _ => none) (fun _ => none) (fun _ => 0) (fun _ _ => 0) (fun _ _ => 0) (fun _ => 0) (fun _ _ => 0) (fun _ _ => 0)
theorem good0 : Good A0 := by
  refine ⟨⟨⟨Nat.zero_le _, Nat.zero_le _, Nat.zero_le _, Nat.zero_le _⟩, ⟨fun b hb => absurd hb (Nat.not_lt_zero _), fun b hb => absurd hb (Nat.not_lt_zero _)⟩, fun b hb => absurd hb (Nat.not_lt_zero _), fun k hk => absurd hk (Nat.not_lt_zero _), fun b => Nat.zero_le _, fun a => ⟨Nat.zero_le _, fun k hk => absurd hk (Nat.not_lt_zero _)⟩⟩, fun b c i hb => absurd hb (Nat.not_lt_zero _), ⟨fun _ => 0, fun b s hb => absurd hb (Nat.not_lt_zero _)⟩, fun b _ => ⟨rfl, rfl, rfl, rfl⟩⟩
theorem ini_b : ∀ b, b < 6 → ini (4 + (8 + 8 * b)) 3 = 0 ∧ ini (4 + (8 + 8 * b)) 4 = 0 ∧ ini (4 + (8 + 8 * b)) 5 = 0 ∧ ini (4 + (8 + 8 * b)) 6 = -1 ∧ ini (4 + (8 + 8 * b)) 7 = -1 ∧ ini (4 + (8 + 8 * b)) 8 = -1 ∧ ini (4 + (8 + 8 * b)) 9 = 0 ∧ ini (4 + (9 + 8 * b)) 1 = 0 ∧ ini (4 + (11 + 8 * b)) 1 = 0 := by decide +kernel
theorem ini_i : ∀ i, i < 8 → ini (4 + (56 + i)) 0 = 0 ∧ ini (4 + (56 + i)) 1 = 0 ∧ ini (4 + (56 + i)) 2 = -1 ∧ ini (4 + (56 + i)) 3 = 0 ∧ ini (4 + (56 + i)) 4 = 0 ∧ ini (4 + (56 + i)) 5 = 0 ∧ ini (4 + (56 + i)) 6 = 0 := by decide +kernel
theorem ini_s : ∀ a, a < 7 → ini (4 + (if a = 0 then 3 else 5 + 8 * a)) 2 = 0 := by decide +kernel
theorem ini_o : ini 4 8 = 0 ∧ ini 4 5 = 0 ∧ ini 5 1 = 0 ∧ ini 4 7 = 0 ∧ ini 4 6 = 0 := by decide +kernel
theorem ini_m : ∀ c, c < 21 → ∀ k, k < 8 → (c = 0 → k = 0 ∨ k = 1 ∨ k = 3 ∨ k = 4) → ini (133 + c) k = 0 := by decide +kernel
theorem ini_m11 : ini 133 11 = 0 := by decide +kernel
theorem cr0 : CR 4 6 8 μ0 A0 := by
  intro f b k z
  refine ⟨z.1, ?_⟩
  show ini (4 + cC f b) (cK f k) = av A0 f b k
  obtain ⟨o1, o2, o3, o4, o5⟩ := ini_o
  match f, z with
  | 0, _ => exact o1
  | 1, _ => exact o2
  | 2, _ => exact o3
  | 3, _ => exact o4
  | 4, _ => exact o5
  | 5, z => exact absurd z.2 (Nat.not_lt_zero _)
  | 6, z => exact (ini_i b z.1.1).1
  | 7, z => exact (ini_i b z.1.1).2.1
  | 8, z => exact (ini_i b z.1.1).2.2.2.1
  | 9, z => exact (ini_i b z.1.1).2.2.2.2.1
  | 10, z => exact (ini_i b z.1.1).2.2.2.2.2.1
  | 11, z => exact (ini_i b z.1.1).2.2.2.2.2.2
  | 12, z => exact (ini_b b z.1.1).1
  | 13, z => exact (ini_b b z.1.1).2.1
  | 14, z => exact (ini_b b z.1.1).2.2.1
  | 15, z => exact (ini_b b z.1.1).2.2.2.1
  | 16, z => exact (ini_b b z.1.1).2.2.2.2.1
  | 17, z => exact (ini_b b z.1.1).2.2.2.2.2.2.1
  | 18, z => exact (ini_b b z.1.1).2.2.2.2.2.1
  | 19, z => exact (ini_b b z.1.1).2.2.2.2.2.2.2.1
  | 20, z => exact (ini_b b z.1.1).2.2.2.2.2.2.2.2
  | 21, z => exact absurd z.2.2 (Nat.not_lt_zero _)
  | 22, z => exact absurd z.2.2 (Nat.not_lt_zero _)
  | 23, z => exact ini_s b z.1.1
  | 24, z => exact absurd z.2.2 (Nat.not_lt_zero _)
  | 25, z => exact absurd z.2.2 (Nat.not_lt_zero _)
  | 26, z => exact (ini_i b z.1.1).2.2.1
  | f + 27, z => exact z.1.elim
theorem mr0 : MR 133 μ0 A0 := by
  intro f b k z
  refine ⟨z.1.1, ?_⟩
  show ini (133 + mC f) (mK f b k) = av A0 f b k
  obtain ⟨⟨zd, z2⟩, ⟨z20, z26⟩, zn⟩ := z
  match f, zd, z2, z20, z26, zn with
  | 0, _, _, _, _, _ => exact ini_m 0 (by decide) 0 (by decide) (fun _ => by decide)
  | 1, _, _, _, _, _ => exact ini_m 0 (by decide) 1 (by decide) (fun _ => by decide)
  | 2, _, _, _, _, _ => exact ini_m 0 (by decide) 3 (by decide) (fun _ => by decide)
  | 3, _, _, _, _, _ => exact ini_m 0 (by decide) 4 (by decide) (fun _ => by decide)
  | 4, _, _, _, _, _ => exact ini_m11
  | 5, _, z2, _, _, _ => exact absurd z2 (Nat.not_lt_zero _)
  | 6, zd, _, _, _, _ => exact ini_m 2 (by decide) b (by have := zd.1; omega) (fun y => absurd y (by decide))
  | 7, zd, _, _, _, _ => exact ini_m 3 (by decide) b (by have := zd.1; omega) (fun y => absurd y (by decide))
  | 8, zd, _, _, _, _ => exact ini_m 4 (by decide) b (by have := zd.1; omega) (fun y => absurd y (by decide))
  | 9, zd, _, _, _, _ => exact ini_m 5 (by decide) b (by have := zd.1; omega) (fun y => absurd y (by decide))
  | 10, zd, _, _, _, _ => exact ini_m 6 (by decide) b (by have := zd.1; omega) (fun y => absurd y (by decide))
  | 11, zd, _, _, _, _ => exact ini_m 7 (by decide) b (by have := zd.1; omega) (fun y => absurd y (by decide))
  | 12, zd, _, _, _, _ => exact ini_m 8 (by decide) b (by have := zd.1; omega) (fun y => absurd y (by decide))
  | 13, zd, _, _, _, _ => exact ini_m 9 (by decide) b (by have := zd.1; omega) (fun y => absurd y (by decide))
  | 14, zd, _, _, _, _ => exact ini_m 10 (by decide) b (by have := zd.1; omega) (fun y => absurd y (by decide))
  | 17, zd, _, _, _, _ => exact ini_m 13 (by decide) b (by have := zd.1; omega) (fun y => absurd y (by decide))
  | 19, zd, _, _, _, _ => exact ini_m 15 (by decide) b (by have := zd.1; omega) (fun y => absurd y (by decide))
  | 23, zd, _, _, _, _ => exact ini_m 18 (by decide) b (by have := zd.1; omega) (fun y => absurd y (by decide))
  | 15, _, _, _, _, zn => exact absurd (zn (by decide)) (Nat.not_lt_zero _)
  | 16, _, _, _, _, zn => exact absurd (zn (by decide)) (Nat.not_lt_zero _)
  | 18, _, _, _, _, zn => exact absurd (zn (by decide)) (Nat.not_lt_zero _)
  | 21, _, z2, _, _, _ => exact absurd z2.2 (Nat.not_lt_zero _)
  | 22, _, z2, _, _, _ => exact absurd z2.2 (Nat.not_lt_zero _)
  | 24, _, z2, _, _, _ => exact absurd z2.2 (Nat.not_lt_zero _)
  | 25, _, z2, _, _, _ => exact absurd z2.2 (Nat.not_lt_zero _)
  | 20, _, _, z20, _, _ => exact absurd rfl z20
  | 26, _, _, _, z26, _ => exact absurd rfl z26
  | f + 27, zd, _, _, _, _ => exact zd.elim
theorem rel0 : Rel μ0 A0 := ⟨cr0, mr0, good0⟩
theorem law_goes {L : Nat} (hL : L ≤ 2048) (xs : Nat → Int32) : ∀ n t μ A, Rel μ A → 4 * t ≤ L + 3 → L + 4 ≤ 4 * (t + n) → ∃ μ', L_law_L xs L n (nI (4 * t)) μ = some μ' := by
  intro n
  induction n with
  | zero =>
    intro t μ A _ h1 h2
    omega
  | succ n ih =>
    intro t μ A hr h1 h2
    rw [L_law_L_s]
    by_cases hs : 4 * t + 4 ≤ L
    · have e4 : nI (4 * t) + 4 = nI (4 * (t + 1)) := nI_add' (4 * t) 4
      have ce : Int32.ofNat L - 4 = nI (L - 4) := by
        show nI L - nI 4 = _
        rw [show L = 4 + (L - 4) by omega, nI_diff, show 4 + (L - 4) - 4 = L - 4 by omega]
      have i0 : inb (nI (4 * t)) L := inb_nI (by omega) (by omega)
      have i1 : inb (nI (4 * t) + 1) L = True := by
        rw [show nI (4 * t) + 1 = nI (4 * t + 1) from nI_1 _]
        exact inb_T (by omega) (by omega)
      have i2 : inb (nI (4 * t) + 2) L = True := by
        rw [show nI (4 * t) + 2 = nI (4 * t + 2) from nI_add' (4 * t) 2]
        exact inb_T (by omega) (by omega)
      have i3 : inb (nI (4 * t) + 3) L = True := by
        rw [show nI (4 * t) + 3 = nI (4 * t + 3) from nI_add' (4 * t) 3]
        exact inb_T (by omega) (by omega)
      have go : ∀ A' μ3, Rel μ3 A' → ∃ μ', L_law_L xs L n (nI (4 * t) + 4) μ3 = some μ' := by
        intro A' μ3 h3
        rw [e4]
        exact ih (t + 1) μ3 A' h3 (by omega) (by omega)
      rw [ce, if_neg (nI_nlt (by omega) (by omega)), if_pos i0]
      by_cases w0 : (xs (nI (4 * t)).toNatClampNeg &&& 31) = 0
      · rw [if_pos w0]
        simp only [bV_eq, i1, if_true, bP_bO2]
        obtain ⟨A', hg, hst⟩ := s_setFloor hr (xs (nI (4 * t) + 1).toNatClampNeg)
        exact step_on hr hg hst (go A')
      rw [if_neg w0]
      by_cases w1 : (xs (nI (4 * t)).toNatClampNeg &&& 31) = 1
      · rw [if_pos w1]
        simp only [bV_eq, i1, i2, i3, if_true]
        obtain ⟨A', hg, hst⟩ := s_speak hr (xs (nI (4 * t) + 1).toNatClampNeg) (xs (nI (4 * t) + 2).toNatClampNeg) (xs (nI (4 * t) + 3).toNatClampNeg)
        exact step_on hr hg hst (go A')
      rw [if_neg w1]
      by_cases w2 : (xs (nI (4 * t)).toNatClampNeg &&& 31) = 2
      · rw [if_pos w2]
        simp only [bV_eq, i1, if_true]
        obtain ⟨A', hg, hst⟩ := s_rest hr (xs (nI (4 * t) + 1).toNatClampNeg)
        exact step_on hr hg hst (go A')
      rw [if_neg w2]
      by_cases w3 : (xs (nI (4 * t)).toNatClampNeg &&& 31) = 3
      · rw [if_pos w3]
        simp only [bV_eq, i1, i2, if_true]
        obtain ⟨A', hg, hst⟩ := s_addInterpreter hr (xs (nI (4 * t) + 1).toNatClampNeg) (xs (nI (4 * t) + 2).toNatClampNeg)
        exact step_on hr hg hst (go A')
      rw [if_neg w3]
      by_cases w4 : (xs (nI (4 * t)).toNatClampNeg &&& 31) = 4
      · rw [if_pos w4]
        simp only [bV_eq, i1, i2, i3, if_true]
        obtain ⟨A', hg, hst⟩ := s_addBooth hr (xs (nI (4 * t) + 1).toNatClampNeg) (xs (nI (4 * t) + 2).toNatClampNeg) (xs (nI (4 * t) + 3).toNatClampNeg)
        exact step_on hr hg hst (go A')
      rw [if_neg w4]
      by_cases w5 : (xs (nI (4 * t)).toNatClampNeg &&& 31) = 5
      · rw [if_pos w5]
        simp only [bV_eq, i1, i2, if_true]
        obtain ⟨A', hg, hst⟩ := s_tune hr (xs (nI (4 * t) + 1).toNatClampNeg) (xs (nI (4 * t) + 2).toNatClampNeg)
        exact step_on hr hg hst (go A')
      rw [if_neg w5]
      by_cases w6 : (xs (nI (4 * t)).toNatClampNeg &&& 31) = 6
      · rw [if_pos w6]
        simp only [bV_eq, i1, i2, if_true]
        obtain ⟨A', hg, hst⟩ := t_sit hr (xs (nI (4 * t) + 1).toNatClampNeg) (xs (nI (4 * t) + 2).toNatClampNeg)
        exact step_on hr hg hst (go A')
      rw [if_neg w6]
      by_cases w7 : (xs (nI (4 * t)).toNatClampNeg &&& 31) = 7
      · rw [if_pos w7]
        simp only [bV_eq, i1, i2, if_true]
        obtain ⟨A', hg, hst⟩ := s_swap hr (xs (nI (4 * t) + 1).toNatClampNeg) (xs (nI (4 * t) + 2).toNatClampNeg)
        exact step_on hr hg hst (go A')
      rw [if_neg w7]
      by_cases w8 : (xs (nI (4 * t)).toNatClampNeg &&& 31) = 8
      · rw [if_pos w8]
        simp only [bV_eq, i1, i2, if_true]
        obtain ⟨A', hg, hst⟩ := s_booth hr (xs (nI (4 * t) + 1).toNatClampNeg) (xs (nI (4 * t) + 2).toNatClampNeg)
        exact step_on hr hg hst (go A')
      rw [if_neg w8]
      by_cases w9 : (xs (nI (4 * t)).toNatClampNeg &&& 31) = 9
      · rw [if_pos w9]
        simp only [bV_eq, i1, i2, if_true]
        obtain ⟨A', hg, hst⟩ := s_interpreter hr (xs (nI (4 * t) + 1).toNatClampNeg) (xs (nI (4 * t) + 2).toNatClampNeg)
        exact step_on hr hg hst (go A')
      rw [if_neg w9]
      by_cases w10 : (xs (nI (4 * t)).toNatClampNeg &&& 31) = 10
      · rw [if_pos w10]
        simp only [bV_eq, i1, if_true]
        obtain ⟨A', hg, hst⟩ := s_pass hr (xs (nI (4 * t) + 1).toNatClampNeg)
        exact step_on hr hg hst (go A')
      rw [if_neg w10]
      by_cases w11 : (xs (nI (4 * t)).toNatClampNeg &&& 31) = 11
      · rw [if_pos w11]
        by_cases z : xs (nI (4 * t) + 3).toNatClampNeg = 0
        · simp only [bV_eq, i1, i2, i3, if_true, z]
          obtain ⟨A', hg, hst⟩ := s_said hr (xs (nI (4 * t) + 1).toNatClampNeg) (xs (nI (4 * t) + 2).toNatClampNeg) 0
          exact step_on hr hg hst (go A')
        · simp only [bV_eq, i1, i2, i3, if_true, z, if_false]
          obtain ⟨A', hg, hst⟩ := s_said hr (xs (nI (4 * t) + 1).toNatClampNeg) (xs (nI (4 * t) + 2).toNatClampNeg) 1
          exact step_on hr hg hst (go A')
      rw [if_neg w11]
      by_cases w12 : (xs (nI (4 * t)).toNatClampNeg &&& 31) = 12
      · rw [if_pos w12]
        simp only [bV_eq, i1, if_true]
        obtain ⟨A', hg, hst⟩ := s_count hr (xs (nI (4 * t) + 1).toNatClampNeg)
        exact step_on hr hg hst (go A')
      rw [if_neg w12]
      by_cases w13 : (xs (nI (4 * t)).toNatClampNeg &&& 31) = 13
      · rw [if_pos w13]
        simp only [bV_eq, i1, i2, i3, if_true]
        obtain ⟨A', hg, hst⟩ := s_foresee hr (xs (nI (4 * t) + 1).toNatClampNeg) (xs (nI (4 * t) + 2).toNatClampNeg) (xs (nI (4 * t) + 3).toNatClampNeg)
        exact step_on hr hg hst (go A')
      rw [if_neg w13]
      by_cases w14 : (xs (nI (4 * t)).toNatClampNeg &&& 31) = 14
      · rw [if_pos w14]
        simp only [bV_eq, i1, i2, if_true]
        obtain ⟨A', hg, hst⟩ := s_advise hr (xs (nI (4 * t) + 1).toNatClampNeg) (xs (nI (4 * t) + 2).toNatClampNeg)
        exact step_on hr hg hst (go A')
      rw [if_neg w14]
      have hG := hr.2.2
      by_cases w15 : (xs (nI (4 * t)).toNatClampNeg &&& 31) = 15
      · rw [if_pos w15]
        obtain ⟨μ1, x1, e1⟩ := c_throughD hr.1 hG
        obtain ⟨μ3, x3, c3⟩ := m_throughD (MR.eq hr.2.1 (fun q s _ _ => congrFun (congrFun e1 q) s)) hG
        rw [x1]
        simp only [bO2_s]
        rw [x3]
        simp only [bO2_s]
        rw [if_pos trivial]
        exact go A μ3 ⟨CR.eq (hr.1.l e1) (fun q s _ hq => c3.2.1 q s (by omega)), c3.1, hG⟩
      rw [if_neg w15]
      by_cases w16 : (xs (nI (4 * t)).toNatClampNeg &&& 31) = 16
      · rw [if_pos w16]
        obtain ⟨μ1, x1, e1⟩ := c_digest hr.1 hG
        obtain ⟨μ3, x3, c3⟩ := m_digest (MR.eq hr.2.1 (fun q s _ _ => congrFun (congrFun e1 q) s)) hG
        rw [x1]
        simp only [bO2_s]
        rw [x3]
        simp only [bO2_s]
        rw [if_pos ((lg_cmp_eq _ _).mpr rfl)]
        exact go A μ3 ⟨CR.eq (hr.1.l e1) (fun q s _ hq => c3.2.1 q s (by omega)), c3.1, hG⟩
      rw [if_neg w16]
      exact go A μ hr
    · have hl : Int32.ofNat L - 4 < nI (4 * t) := by
        rw [fa_lt]
        show (nI L - nI 4).toInt < _
        rw [fb_subI (by rw [nI_toInt (by omega), nI_toInt (by omega)]; omega) (by rw [nI_toInt (by omega), nI_toInt (by omega)]; omega), nI_toInt (by omega), nI_toInt (by omega), nI_toInt (by omega)]
        omega
      rw [if_pos hl]
      exact ⟨μ, rfl⟩
theorem pure_all {L : Nat} (hL : L ≤ 2048) (xs : Nat → Int32) : ∃ μ', L_law_L xs L 600 0 μ0 = some μ' := law_goes hL xs 600 0 μ0 A0 rel0 (by omega) (by omega)
