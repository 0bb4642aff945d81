/-! The reference: a state becomes another. -/
/-- places of the reference's cells -/
def szM (c : Nat) : Nat := al (133 + c)
theorem szM_eq : ∀ c, c < 21 → 0 < c → al (155 + c) = al (133 + c) ∧ al (133 + c) < 3000 := by decide +kernel
/-- cells copied so far -/
def JB (S T : List Nat) (μ0 μ : MM) : Prop := (∀ q s, (q < 155 ∨ 177 ≤ q) → rI μ q s = rI μ0 q s) ∧ (∀ c, c ∈ S → ∀ s, s < al (133 + c) → rI μ (155 + c) s = rI μ0 (133 + c) s) ∧ (∀ s, s ∈ T → rI μ 155 s = rI μ0 133 s) ∧ μ.2 = μ0.2
theorem jb_nil (μ : MM) : JB [] [] μ μ := ⟨fun _ _ _ => rfl, fun c hc => absurd hc List.not_mem_nil, fun c hc => absurd hc List.not_mem_nil, rfl⟩
theorem jb_w {T : List Nat} {μ0 μ : MM} (s : Nat) (h : JB [] T μ0 μ) : JB [] (s :: T) μ0 (wI μ 155 s (rI μ 133 s)) := by
  refine ⟨fun q k hq => ?_, fun c hc => absurd hc List.not_mem_nil, fun k hk => ?_, h.2.2.2⟩
  · rw [rI_o _ (by omega)]
    exact h.1 q k hq
  · by_cases e : k = s
    · rw [e, rI_at]
      exact h.1 133 s (Or.inl (by omega))
    · rw [rI_ne _ (fun z => e z.2)]
      rcases List.mem_cons.mp hk with y | y
      · exact absurd y e
      · exact h.2.2.1 k y
theorem jb_cp {S T : List Nat} {μ0 μ : MM} (c : Nat) (h : JB S T μ0 μ) (h1 : 0 < c) (h2 : c < 21) : ∃ μ', X7_copy (133 + c) (155 + c) μ = some μ' ∧ JB (c :: S) T μ0 μ' := by
  have hs := szM_eq c h2 h1
  have cn : (Int32.ofNat (al (133 + c))).toNatClampNeg = al (133 + c) := nI_clamp (by omega)
  unfold X7_copy
  rw [if_pos ⟨⟨by decide, by decide, nI_pos (by omega)⟩, by rw [cn, nI_tn0]; omega, by rw [cn, nI_tn0]; omega⟩, cn, nI_tn0]
  refine ⟨_, rfl, fun q s hq => ?_, fun d hd s hsd => ?_, fun s hsd => ?_, h.2.2.2⟩
  · rw [rI_wC, if_neg (by omega)]
    exact h.1 q s hq
  · rw [rI_wC]
    by_cases e : d = c
    · subst e
      rw [if_pos rfl, if_pos ⟨Nat.zero_le _, by omega⟩, Nat.sub_zero, Nat.zero_add]
      exact h.1 _ _ (Or.inl (by omega))
    · rw [if_neg (by omega)]
      rcases List.mem_cons.mp hd with y | y
      · exact absurd y e
      · exact h.2.1 d y s hsd
  · rw [rI_wC, if_neg (by omega)]
    exact h.2.2.1 s hsd
theorem jb_all (μ : MM) : ∃ μ', X7_become 155 133 μ = some μ' ∧ JB [20, 19, 18, 17, 16, 15, 14, 13, 12, 11, 10, 9, 8, 7, 6, 5, 4, 3, 2, 1] [11, 4, 3, 1, 0] μ μ' := by
  have q : isP 155 := Or.inr rfl
  unfold X7_become
  rw [pR2 isP133, pR2 q, pR5 isP133, pR5 q, pR6 isP133, pR6 q, pR7 isP133, pR7 q, pR8 isP133, pR8 q, pR9 isP133, pR9 q, pR10 isP133, pR10 q, pR12 isP133, pR12 q, pR13 isP133, pR13 q, pR14 isP133, pR14 q, pR15 isP133, pR15 q, pR16 isP133, pR16 q, pR17 isP133, pR17 q, pR18 isP133, pR18 q, pR19 isP133, pR19 q, pR20 isP133, pR20 q, pR21 isP133, pR21 q, pR22 isP133, pR22 q, pR23 isP133, pR23 q, pR24 isP133, pR24 q]
  repeat rw [bV_eq]
  have c0 := jb_w 11 (jb_w 4 (jb_w 3 (jb_w 1 (jb_w 0 (jb_nil μ)))))
  obtain ⟨μ1, x1, c1⟩ := jb_cp 1 c0 (by decide) (by decide)
  rw [x1, bO1_s]
  obtain ⟨μ2, x2, c2⟩ := jb_cp 2 c1 (by decide) (by decide)
  rw [x2, bO1_s]
  obtain ⟨μ3, x3, c3⟩ := jb_cp 3 c2 (by decide) (by decide)
  rw [x3, bO1_s]
  obtain ⟨μ4, x4, c4⟩ := jb_cp 4 c3 (by decide) (by decide)
  rw [x4, bO1_s]
  obtain ⟨μ5, x5, c5⟩ := jb_cp 5 c4 (by decide) (by decide)
  rw [x5, bO1_s]
  obtain ⟨μ6, x6, c6⟩ := jb_cp 6 c5 (by decide) (by decide)
  rw [x6, bO1_s]
  obtain ⟨μ7, x7, c7⟩ := jb_cp 7 c6 (by decide) (by decide)
  rw [x7, bO1_s]
  obtain ⟨μ8, x8, c8⟩ := jb_cp 8 c7 (by decide) (by decide)
  rw [x8, bO1_s]
  obtain ⟨μ9, x9, c9⟩ := jb_cp 9 c8 (by decide) (by decide)
  rw [x9, bO1_s]
  obtain ⟨μ10, x10, c10⟩ := jb_cp 10 c9 (by decide) (by decide)
  rw [x10, bO1_s]
  obtain ⟨μ11, x11, c11⟩ := jb_cp 11 c10 (by decide) (by decide)
  rw [x11, bO1_s]
  obtain ⟨μ12, x12, c12⟩ := jb_cp 12 c11 (by decide) (by decide)
  rw [x12, bO1_s]
  obtain ⟨μ13, x13, c13⟩ := jb_cp 13 c12 (by decide) (by decide)
  rw [x13, bO1_s]
  obtain ⟨μ14, x14, c14⟩ := jb_cp 14 c13 (by decide) (by decide)
  rw [x14, bO1_s]
  obtain ⟨μ15, x15, c15⟩ := jb_cp 15 c14 (by decide) (by decide)
  rw [x15, bO1_s]
  obtain ⟨μ16, x16, c16⟩ := jb_cp 16 c15 (by decide) (by decide)
  rw [x16, bO1_s]
  obtain ⟨μ17, x17, c17⟩ := jb_cp 17 c16 (by decide) (by decide)
  rw [x17, bO1_s]
  obtain ⟨μ18, x18, c18⟩ := jb_cp 18 c17 (by decide) (by decide)
  rw [x18, bO1_s]
  obtain ⟨μ19, x19, c19⟩ := jb_cp 19 c18 (by decide) (by decide)
  rw [x19, bO1_s]
  obtain ⟨μ20, x20, c20⟩ := jb_cp 20 c19 (by decide) (by decide)
  rw [x20, bO1_s]
  exact ⟨μ20, rfl, c20⟩
theorem szs : al 134 = 120 ∧ al 135 = 8 ∧ al 136 = 8 ∧ al 137 = 8 ∧ al 138 = 8 ∧ al 139 = 8 ∧ al 140 = 8 ∧ al 141 = 6 ∧ al 142 = 6 ∧ al 143 = 6 ∧ al 144 = 6 ∧ al 145 = 6 ∧ al 146 = 6 ∧ al 147 = 6 ∧ al 148 = 6 ∧ al 149 = 72 ∧ al 150 = 72 ∧ al 151 = 7 ∧ al 152 = 2800 ∧ al 153 = 2800 := by decide +kernel
theorem m_become {ρ μ : MM} {A : AS} (h : Ml 133 ρ μ A) : ∃ μ', X7_become 155 133 μ = some μ' ∧ Ml 155 μ μ' A := by
  obtain ⟨μ', x, c⟩ := jb_all μ
  refine ⟨μ', x, fun f b k z => ⟨z.1.1, ?_⟩, fun q s hq => c.1 q s (by omega), c.2.2.2⟩
  have hv := (h.1 f b k z).2
  refine Eq.trans ?_ hv
  have hd := z.1.1
  have h20 := z.2.1
  show rI μ' (155 + mC f) (mK f b k) = rI μ (133 + mC f) (mK f b k)
  have cp : ∀ d, d ∈ [20, 19, 18, 17, 16, 15, 14, 13, 12, 11, 10, 9, 8, 7, 6, 5, 4, 3, 2, 1] → ∀ s, s < al (133 + d) → rI μ' (155 + d) s = rI μ (133 + d) s := c.2.1
  have cs : ∀ s, s ∈ [11, 4, 3, 1, 0] → rI μ' 155 s = rI μ 133 s := c.2.2.1
  clear c hv z h x
  obtain ⟨s1, s2, s3, s4, s5, s6, s7, s8, s9, s10, s11, s12, s13, s14, s15, s16, s17, s18, s19, s20⟩ := szs
  match f, hd, h20 with
  | 0, hd, _ => exact cs 0 (by decide)
  | 1, hd, _ => exact cs 1 (by decide)
  | 2, hd, _ => exact cs 3 (by decide)
  | 3, hd, _ => exact cs 4 (by decide)
  | 4, hd, _ => exact cs 11 (by decide)
  | 5, hd, _ => exact cp 1 (by decide) k (Nat.lt_of_lt_of_eq hd.2 s1.symm)
  | 6, hd, _ => exact cp 2 (by decide) b (Nat.lt_of_lt_of_eq hd.1 s2.symm)
  | 7, hd, _ => exact cp 3 (by decide) b (Nat.lt_of_lt_of_eq hd.1 s3.symm)
  | 8, hd, _ => exact cp 4 (by decide) b (Nat.lt_of_lt_of_eq hd.1 s4.symm)
  | 9, hd, _ => exact cp 5 (by decide) b (Nat.lt_of_lt_of_eq hd.1 s5.symm)
  | 10, hd, _ => exact cp 6 (by decide) b (Nat.lt_of_lt_of_eq hd.1 s6.symm)
  | 11, hd, _ => exact cp 7 (by decide) b (Nat.lt_of_lt_of_eq hd.1 s7.symm)
  | 12, hd, _ => exact cp 8 (by decide) b (Nat.lt_of_lt_of_eq hd.1 s8.symm)
  | 13, hd, _ => exact cp 9 (by decide) b (Nat.lt_of_lt_of_eq hd.1 s9.symm)
  | 14, hd, _ => exact cp 10 (by decide) b (Nat.lt_of_lt_of_eq hd.1 s10.symm)
  | 15, hd, _ => exact cp 11 (by decide) b (Nat.lt_of_lt_of_eq hd.1 s11.symm)
  | 16, hd, _ => exact cp 12 (by decide) b (Nat.lt_of_lt_of_eq hd.1 s12.symm)
  | 17, hd, _ => exact cp 13 (by decide) b (Nat.lt_of_lt_of_eq hd.1 s13.symm)
  | 18, hd, _ => exact cp 14 (by decide) b (Nat.lt_of_lt_of_eq hd.1 s14.symm)
  | 19, hd, _ => exact cp 15 (by decide) b (Nat.lt_of_lt_of_eq hd.1 s15.symm)
  | 20, _, h20 => exact absurd rfl h20.1
  | 21, hd, _ => exact cp 16 (by decide) (12 * b + k) (Nat.lt_of_lt_of_eq (show 12 * b + k < 72 by have := hd.1; have := hd.2; omega) s16.symm)
  | 22, hd, _ => exact cp 17 (by decide) (12 * b + k) (Nat.lt_of_lt_of_eq (show 12 * b + k < 72 by have := hd.1; have := hd.2; omega) s17.symm)
  | 23, hd, _ => exact cp 18 (by decide) b (Nat.lt_of_lt_of_eq hd.1 s18.symm)
  | 24, hd, _ => exact cp 19 (by decide) (400 * b + k) (Nat.lt_of_lt_of_eq (show 400 * b + k < 2800 by have := hd.1; have := hd.2; omega) s19.symm)
  | 25, hd, _ => exact cp 20 (by decide) (400 * b + k) (Nat.lt_of_lt_of_eq (show 400 * b + k < 2800 by have := hd.1; have := hd.2; omega) s20.symm)
  | 26, _, h20 => exact absurd rfl h20.2
  | f + 27, hd, _ => exact hd.elim
