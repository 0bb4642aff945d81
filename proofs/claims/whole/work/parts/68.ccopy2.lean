/-! The class: copying a summit. -/
section TC2
variable {D : Nat → Nat → Nat → Prop} {L : List (Nat × Nat × Nat)} {μ0 μ : MM} {A : AS}
theorem tc_X4 (h : TC D L μ0 μ A) (h0 : CR 4 6 8 μ0 A) (hB : Bds 6 8 A) {a : Nat} (ha : a < 7) : ∃ μ', X4_copyFrom (68 + spC a) (4 + spC a) μ = some μ' ∧ TC D ((25, a, a_mn A a) :: (24, a, a_mn A a) :: (23, a, 1) :: L) μ0 μ' A := by
  have hm := hB.2.2.2.2.2 a ha
  have c4 := cC_lt 24 a 0 ⟨ha, by decide⟩
  have c5 := cC_lt 25 a 0 ⟨ha, by decide⟩
  have c3 : spC a < 64 := cC_lt 23 a 0 ⟨ha, rfl⟩
  have hne : RF (68 + spC a) 0 ≠ 68 + spC a := by
    rw [oS0 isO68 ha]
    show 68 + (if a = 0 then 4 else 6 + 8 * a) ≠ 68 + (if a = 0 then 3 else 5 + 8 * a)
    split <;> omega
  refine ⟨_, X4_copy_ok (n := a_mn A a) (oSk isO68 ha) hne (by rw [h.2 _ 2 (Or.inl (by omega))]; exact rd23 h0 hB ha) hm (by rw [oS0 isO4 ha, oSa0 isO4 ha]) (by rw [oS1 isO4 ha, oSa1 isO4 ha]) (by rw [oS0 isO68 ha, oSa0 isO68 ha]) (by rw [oS1 isO68 ha, oSa1 isO68 ha]), ?_⟩
  rw [oS0 isO4 ha, oS1 isO4 ha, oS0 isO68 ha, oS1 isO68 ha]
  have h1 : TC D ((23, a, 1) :: L) μ0 (wI μ (68 + spC a) 2 (nI (a_mn A a))) A := TC.w h 23 a ⟨ha, rfl⟩ (by decide) rfl rfl rfl
  have h2 := TC.c h1 24 a (a_mn A a) (q0 := 4 + cC 24 a) (q1 := 68 + cC 24 a) (by decide) ⟨ha, by decide⟩ (fun k hk => ⟨ha, by omega⟩) rfl (fun k hk => by
    rw [h1.2 _ k (Or.inl (by omega))]
    exact rd24 h0 hB ha hk)
  exact TC.c h2 25 a (a_mn A a) (q0 := 4 + cC 25 a) (q1 := 68 + cC 25 a) (by decide) ⟨ha, by decide⟩ (fun k hk => ⟨ha, by omega⟩) rfl (fun k hk => by
    rw [h2.2 _ k (Or.inl (by omega))]
    exact rd25 h0 hB ha hk)
def LB (A : AS) (b : Nat) : List (Nat × Nat × Nat) := [(17, b, 1), (18, b, 1), (16, b, 1), (15, b, 1), (14, b, 1), (13, b, 1), (12, b, 1), (25, b + 1, a_mn A (b + 1)), (24, b + 1, a_mn A (b + 1)), (23, b + 1, 1), (22, b, a_hd A b), (20, b, 1), (21, b, a_hd A b), (19, b, 1)]
theorem tc_booth (h : TC D [] μ0 μ A) (h0 : CR 4 6 8 μ0 A) (hB : Bds 6 8 A) {b : Nat} (hb : b < 6) : ∃ μ', X0_copyFrom (68 + (8 + 8 * b)) (4 + (8 + 8 * b)) μ = some μ' ∧ TC D (LB A b) μ0 μ' A := by
  have h12 := hB.2.2.2.2.1 b hb
  unfold X0_copyFrom
  rw [oB0 isO68 hb, oB1 isO68 hb, oSp isO68 hb, oB0 isO4 hb, oB1 isO4 hb, oSp isO4 hb]
  obtain ⟨μ1, x1, c1⟩ := tc_X3 (f := 21) (g := 19) (b := b) (n := a_hd A b) (q := 68 + (9 + 8 * b)) (q2 := 4 + (9 + 8 * b)) h h0 (oWk isO68 hb) (oWk isO4 hb) (oW0 isO68 hb) (oW0 isO4 hb) (by rw [oWal isO68 hb, oWal isO4 hb]) (by rw [oWal isO68 hb]; decide) (by rw [oWal isO4 hb]; exact h12) rfl (by omega) rfl (by omega) rfl (by decide) ⟨hb, rfl⟩ (by decide) ⟨hb, by decide⟩ (fun k hk => ⟨hb, by omega⟩) (rd19 h0 hB hb) rfl (fun k hk => rd21 h0 hB hb hk)
  rw [x1, bO1_s]
  obtain ⟨μ2, x2, c2⟩ := tc_X3 (f := 22) (g := 20) (b := b) (n := a_hd A b) (q := 68 + (11 + 8 * b)) (q2 := 4 + (11 + 8 * b)) c1 h0 (oAk isO68 hb) (oAk isO4 hb) (oA0 isO68 hb) (oA0 isO4 hb) (by rw [oAal isO68 hb, oAal isO4 hb]) (by rw [oAal isO68 hb]; decide) (by rw [oAal isO4 hb]; exact h12) rfl (by omega) rfl (by omega) rfl (by decide) ⟨hb, rfl⟩ (by decide) ⟨hb, by decide⟩ (fun k hk => ⟨hb, by omega⟩) (rd20 h0 hB hb) rfl (fun k hk => rd22 h0 hB hb hk)
  rw [x2, bO1_s]
  obtain ⟨μ3, x3, c3⟩ := tc_X4 c2 h0 hB (a := b + 1) (by omega)
  rw [x3, bO1_s]
  simp only [bV_eq]
  have d1 := TC.w c3 12 b (q := 68 + (8 + 8 * b)) (s := 3) (v := rI μ3 (4 + (8 + 8 * b)) 3) ⟨hb, rfl⟩ (by decide) rfl rfl (rd12 (c3.src h0) hB hb)
  have d2 := TC.w d1 13 b (q := 68 + (8 + 8 * b)) (s := 4) (v := _) ⟨hb, rfl⟩ (by decide) rfl rfl (rd13 (d1.src h0) hB hb)
  have d3 := TC.w d2 14 b (q := 68 + (8 + 8 * b)) (s := 5) (v := _) ⟨hb, rfl⟩ (by decide) rfl rfl (rd14 (d2.src h0) hB hb)
  have d4 := TC.w d3 15 b (q := 68 + (8 + 8 * b)) (s := 6) (v := _) ⟨hb, rfl⟩ (by decide) rfl rfl (rd15 (d3.src h0) hB hb)
  have d5 := TC.w d4 16 b (q := 68 + (8 + 8 * b)) (s := 7) (v := _) ⟨hb, rfl⟩ (by decide) rfl rfl (rd16 (d4.src h0) hB hb)
  have d6 := TC.w d5 18 b (q := 68 + (8 + 8 * b)) (s := 8) (v := _) ⟨hb, rfl⟩ (by decide) rfl rfl (rd18 (d5.src h0) hB hb)
  have d7 := TC.w d6 17 b (q := 68 + (8 + 8 * b)) (s := 9) (v := _) ⟨hb, rfl⟩ (by decide) rfl rfl (rd17 (d6.src h0) hB hb)
  exact ⟨_, rfl, d7⟩
def LI (i : Nat) : List (Nat × Nat × Nat) := [(11, i, 1), (10, i, 1), (9, i, 1), (8, i, 1), (26, i, 1), (7, i, 1), (6, i, 1)]
theorem tc_oneI (h : TC D [] μ0 μ A) (h0 : CR 4 6 8 μ0 A) (hB : Bds 6 8 A) {i : Nat} (hi : i < 8) : TC D (LI i) μ0 (X2_copyFrom (68 + (56 + i)) (4 + (56 + i)) μ) A := by
  unfold X2_copyFrom
  simp only [bV_eq]
  have d1 := TC.w h 6 i (q := 68 + (56 + i)) (s := 0) (v := rI μ (4 + (56 + i)) 0) ⟨hi, rfl⟩ (by decide) rfl rfl (rd6 (h.src h0) hB hi)
  have d2 := TC.w d1 7 i (q := 68 + (56 + i)) (s := 1) (v := _) ⟨hi, rfl⟩ (by decide) rfl rfl (rd7 (d1.src h0) hB hi)
  have d3 := TC.w d2 26 i (q := 68 + (56 + i)) (s := 2) (v := _) ⟨hi, rfl⟩ (by decide) rfl rfl (rd26 (d2.src h0) hB hi)
  have d4 := TC.w d3 8 i (q := 68 + (56 + i)) (s := 3) (v := _) ⟨hi, rfl⟩ (by decide) rfl rfl (rd8 (d3.src h0) hB hi)
  have d5 := TC.w d4 9 i (q := 68 + (56 + i)) (s := 4) (v := _) ⟨hi, rfl⟩ (by decide) rfl rfl (rd9 (d4.src h0) hB hi)
  have d6 := TC.w d5 10 i (q := 68 + (56 + i)) (s := 5) (v := _) ⟨hi, rfl⟩ (by decide) rfl rfl (rd10 (d5.src h0) hB hi)
  exact TC.w d6 11 i (q := 68 + (56 + i)) (s := 6) (v := _) ⟨hi, rfl⟩ (by decide) rfl rfl (rd11 (d6.src h0) hB hi)
theorem vd_booth {n f b k : Nat} (z : vd (n + 1) 0 A f b k) : vd n 0 A f b k ∨ InL (LB A n) f b k := by
  have one : ∀ {g : Nat}, k = 0 → b = n → (g, n, 1) ∈ LB A n → InL (LB A n) g b k := fun hk hb hm => ⟨_, hm, rfl, hb, by show k < 1; omega⟩
  match f, z with
  | 0, z => exact Or.inl z
  | 1, z => exact Or.inl z
  | 2, z => exact Or.inl z
  | 3, z => exact Or.inl z
  | 4, z => exact Or.inl z
  | 5, z => exact Or.inl z
  | 6, z => exact Or.inl z
  | 7, z => exact Or.inl z
  | 8, z => exact Or.inl z
  | 9, z => exact Or.inl z
  | 10, z => exact Or.inl z
  | 11, z => exact Or.inl z
  | 26, z => exact Or.inl z
  | 12, ⟨z1, z2⟩ =>
    by_cases e : b = n
    · exact Or.inr (one z1.2 e (by simp [LB]))
    · exact Or.inl ⟨z1, by have z3 : b < n + 1 := z2; show b < n; omega⟩
  | 13, ⟨z1, z2⟩ =>
    by_cases e : b = n
    · exact Or.inr (one z1.2 e (by simp [LB]))
    · exact Or.inl ⟨z1, by have z3 : b < n + 1 := z2; show b < n; omega⟩
  | 14, ⟨z1, z2⟩ =>
    by_cases e : b = n
    · exact Or.inr (one z1.2 e (by simp [LB]))
    · exact Or.inl ⟨z1, by have z3 : b < n + 1 := z2; show b < n; omega⟩
  | 15, ⟨z1, z2⟩ =>
    by_cases e : b = n
    · exact Or.inr (one z1.2 e (by simp [LB]))
    · exact Or.inl ⟨z1, by have z3 : b < n + 1 := z2; show b < n; omega⟩
  | 16, ⟨z1, z2⟩ =>
    by_cases e : b = n
    · exact Or.inr (one z1.2 e (by simp [LB]))
    · exact Or.inl ⟨z1, by have z3 : b < n + 1 := z2; show b < n; omega⟩
  | 17, ⟨z1, z2⟩ =>
    by_cases e : b = n
    · exact Or.inr (one z1.2 e (by simp [LB]))
    · exact Or.inl ⟨z1, by have z3 : b < n + 1 := z2; show b < n; omega⟩
  | 18, ⟨z1, z2⟩ =>
    by_cases e : b = n
    · exact Or.inr (one z1.2 e (by simp [LB]))
    · exact Or.inl ⟨z1, by have z3 : b < n + 1 := z2; show b < n; omega⟩
  | 19, ⟨z1, z2⟩ =>
    by_cases e : b = n
    · exact Or.inr (one z1.2 e (by simp [LB]))
    · exact Or.inl ⟨z1, by have z3 : b < n + 1 := z2; show b < n; omega⟩
  | 20, ⟨z1, z2⟩ =>
    by_cases e : b = n
    · exact Or.inr (one z1.2 e (by simp [LB]))
    · exact Or.inl ⟨z1, by have z3 : b < n + 1 := z2; show b < n; omega⟩
  | 21, ⟨z1, z2, z3⟩ =>
    by_cases e : b = n
    · exact Or.inr ⟨(21, n, a_hd A n), by simp [LB], rfl, e, by rw [← e]; exact z3⟩
    · exact Or.inl ⟨z1, by have z4 : b < n + 1 := z2; show b < n; omega, z3⟩
  | 22, ⟨z1, z2, z3⟩ =>
    by_cases e : b = n
    · exact Or.inr ⟨(22, n, a_hd A n), by simp [LB], rfl, e, by rw [← e]; exact z3⟩
    · exact Or.inl ⟨z1, by have z4 : b < n + 1 := z2; show b < n; omega, z3⟩
  | 23, ⟨z1, z2⟩ =>
    by_cases e : b = n + 1
    · exact Or.inr ⟨(23, n + 1, 1), by simp [LB], rfl, e, by have := z1.2; show k < 1; omega⟩
    · exact Or.inl ⟨z1, by have z3 : b < n + 1 + 1 := z2; show b < n + 1; omega⟩
  | 24, ⟨z1, z2, z3⟩ =>
    by_cases e : b = n + 1
    · exact Or.inr ⟨(24, n + 1, a_mn A (n + 1)), by simp [LB], rfl, e, by rw [← e]; exact z3⟩
    · exact Or.inl ⟨z1, by have z4 : b < n + 1 + 1 := z2; show b < n + 1; omega, z3⟩
  | 25, ⟨z1, z2, z3⟩ =>
    by_cases e : b = n + 1
    · exact Or.inr ⟨(25, n + 1, a_mn A (n + 1)), by simp [LB], rfl, e, by rw [← e]; exact z3⟩
    · exact Or.inl ⟨z1, by have z4 : b < n + 1 + 1 := z2; show b < n + 1; omega, z3⟩
  | f + 27, z => exact z.1.elim
theorem vd_int {nb n f b k : Nat} (z : vd nb (n + 1) A f b k) : vd nb n A f b k ∨ InL (LI n) f b k := by
  have one : ∀ {g : Nat}, k = 0 → b = n → (g, n, 1) ∈ LI n → InL (LI n) g b k := fun hk hb hm => ⟨_, hm, rfl, hb, by show k < 1; omega⟩
  match f, z with
  | 0, z => exact Or.inl z
  | 1, z => exact Or.inl z
  | 2, z => exact Or.inl z
  | 3, z => exact Or.inl z
  | 4, z => exact Or.inl z
  | 5, z => exact Or.inl z
  | 12, z => exact Or.inl z
  | 13, z => exact Or.inl z
  | 14, z => exact Or.inl z
  | 15, z => exact Or.inl z
  | 16, z => exact Or.inl z
  | 17, z => exact Or.inl z
  | 18, z => exact Or.inl z
  | 19, z => exact Or.inl z
  | 20, z => exact Or.inl z
  | 21, z => exact Or.inl z
  | 22, z => exact Or.inl z
  | 23, z => exact Or.inl z
  | 24, z => exact Or.inl z
  | 25, z => exact Or.inl z
  | 6, ⟨z1, z2⟩ =>
    by_cases e : b = n
    · exact Or.inr (one z1.2 e (by simp [LI]))
    · exact Or.inl ⟨z1, by have z3 : b < n + 1 := z2; show b < n; omega⟩
  | 7, ⟨z1, z2⟩ =>
    by_cases e : b = n
    · exact Or.inr (one z1.2 e (by simp [LI]))
    · exact Or.inl ⟨z1, by have z3 : b < n + 1 := z2; show b < n; omega⟩
  | 8, ⟨z1, z2⟩ =>
    by_cases e : b = n
    · exact Or.inr (one z1.2 e (by simp [LI]))
    · exact Or.inl ⟨z1, by have z3 : b < n + 1 := z2; show b < n; omega⟩
  | 9, ⟨z1, z2⟩ =>
    by_cases e : b = n
    · exact Or.inr (one z1.2 e (by simp [LI]))
    · exact Or.inl ⟨z1, by have z3 : b < n + 1 := z2; show b < n; omega⟩
  | 10, ⟨z1, z2⟩ =>
    by_cases e : b = n
    · exact Or.inr (one z1.2 e (by simp [LI]))
    · exact Or.inl ⟨z1, by have z3 : b < n + 1 := z2; show b < n; omega⟩
  | 11, ⟨z1, z2⟩ =>
    by_cases e : b = n
    · exact Or.inr (one z1.2 e (by simp [LI]))
    · exact Or.inl ⟨z1, by have z3 : b < n + 1 := z2; show b < n; omega⟩
  | 26, ⟨z1, z2⟩ =>
    by_cases e : b = n
    · exact Or.inr (one z1.2 e (by simp [LI]))
    · exact Or.inl ⟨z1, by have z3 : b < n + 1 := z2; show b < n; omega⟩
  | f + 27, z => exact z.1.elim
def L0 (A : AS) : List (Nat × Nat × Nat) := [(0, 0, 1), (3, 0, 1), (4, 0, 1), (1, 0, 1), (25, 0, a_mn A 0), (24, 0, a_mn A 0), (23, 0, 1), (5, 0, a_lf A), (2, 0, 1)]
theorem vd_base {f b k : Nat} (z : vd 0 0 A f b k) : False ∨ InL (L0 A) f b k := by
  have one : ∀ {g : Nat}, k = 0 → b = 0 → (g, 0, 1) ∈ L0 A → InL (L0 A) g b k := fun hk hb hm => ⟨_, hm, rfl, hb, by show k < 1; omega⟩
  match f, z with
  | 0, z => exact Or.inr (one z.1.2 z.1.1 (by simp [L0]))
  | 1, z => exact Or.inr (one z.1.2 z.1.1 (by simp [L0]))
  | 2, z => exact Or.inr (one z.1.2 z.1.1 (by simp [L0]))
  | 3, z => exact Or.inr (one z.1.2 z.1.1 (by simp [L0]))
  | 4, z => exact Or.inr (one z.1.2 z.1.1 (by simp [L0]))
  | 5, z => exact Or.inr ⟨(5, 0, a_lf A), by simp [L0], rfl, z.1.1, z.2⟩
  | 6, z => exact absurd z.2 (Nat.not_lt_zero _)
  | 7, z => exact absurd z.2 (Nat.not_lt_zero _)
  | 8, z => exact absurd z.2 (Nat.not_lt_zero _)
  | 9, z => exact absurd z.2 (Nat.not_lt_zero _)
  | 10, z => exact absurd z.2 (Nat.not_lt_zero _)
  | 11, z => exact absurd z.2 (Nat.not_lt_zero _)
  | 12, z => exact absurd z.2 (Nat.not_lt_zero _)
  | 13, z => exact absurd z.2 (Nat.not_lt_zero _)
  | 14, z => exact absurd z.2 (Nat.not_lt_zero _)
  | 15, z => exact absurd z.2 (Nat.not_lt_zero _)
  | 16, z => exact absurd z.2 (Nat.not_lt_zero _)
  | 17, z => exact absurd z.2 (Nat.not_lt_zero _)
  | 18, z => exact absurd z.2 (Nat.not_lt_zero _)
  | 19, z => exact absurd z.2 (Nat.not_lt_zero _)
  | 20, z => exact absurd z.2 (Nat.not_lt_zero _)
  | 21, z => exact absurd z.2.1 (Nat.not_lt_zero _)
  | 22, z => exact absurd z.2.1 (Nat.not_lt_zero _)
  | 23, z =>
    have z3 : b < 0 + 1 := z.2
    exact Or.inr (one z.1.2 (by omega) (by simp [L0]))
  | 24, z =>
    have z3 : b < 0 + 1 := z.2.1
    have e : b = 0 := by omega
    exact Or.inr ⟨(24, 0, a_mn A 0), by simp [L0], rfl, e, by rw [← e]; exact z.2.2⟩
  | 25, z =>
    have z3 : b < 0 + 1 := z.2.1
    have e : b = 0 := by omega
    exact Or.inr ⟨(25, 0, a_mn A 0), by simp [L0], rfl, e, by rw [← e]; exact z.2.2⟩
  | 26, z => exact absurd z.2 (Nat.not_lt_zero _)
  | f + 27, z => exact z.1.elim
theorem TC.cr {NB NI : Nat} (h : TC (vd NB NI A) [] μ0 μ A) : CR 68 NB NI μ A := RepD.to h.1 (fun f b k z => ⟨Or.inl z, rfl⟩)
theorem copy_booths (h0 : CR 4 6 8 μ0 A) (hB : Bds 6 8 A) : ∀ d n f μ, n + d = a_nb A → d < f → TC (vd n 0 A) [] μ0 μ A → ∃ μ', X5_copyFrom_L56 68 4 f (nI n) μ = some μ' ∧ TC (vd (a_nb A) 0 A) [] μ0 μ' A := by
  have h6 := hB.1
  intro d
  induction d with
  | zero =>
    intro n f μ hn hf h
    obtain ⟨g, rfl⟩ : ∃ g, f = g + 1 := ⟨f - 1, by omega⟩
    have e : n = a_nb A := by omega
    subst e
    rw [X5_copyFrom_L56_s, rd4 h.cr, if_pos (nI_le (Nat.le_refl _) (by omega))]
    exact ⟨μ, rfl, h⟩
  | succ d ih =>
    intro n f μ hn hf h
    obtain ⟨g, rfl⟩ : ∃ g, f = g + 1 := ⟨f - 1, by omega⟩
    obtain ⟨μ1, x1, c1⟩ := tc_booth h h0 hB (b := n) (by omega)
    rw [X5_copyFrom_L56_s, rd4 h.cr, if_neg (nI_ge (by omega) (by omega)), if_pos (in_booths isO68 (by omega)), if_pos (in_booths isO4 (by omega)), booth_at isO68 (by omega), booth_at isO4 (by omega), x1]
    simp only [bO1_s, bV_eq]
    rw [nI_1]
    exact ih (n + 1) g μ1 (by omega) (by omega) (c1.to (fun f b k z => vd_booth z))
theorem copy_ints (h0 : CR 4 6 8 μ0 A) (hB : Bds 6 8 A) : ∀ d n f μ, n + d = a_ni A → d < f → TC (vd (a_nb A) n A) [] μ0 μ A → ∃ μ', X5_copyFrom_L87 68 4 f (nI n) μ = some μ' ∧ TC (vd (a_nb A) (a_ni A) A) [] μ0 μ' A := by
  have h8 := hB.2.1
  intro d
  induction d with
  | zero =>
    intro n f μ hn hf h
    obtain ⟨g, rfl⟩ : ∃ g, f = g + 1 := ⟨f - 1, by omega⟩
    have e : n = a_ni A := by omega
    subst e
    rw [X5_copyFrom_L87_s, rd3 h.cr, if_pos (nI_le (Nat.le_refl _) (by omega))]
    exact ⟨μ, rfl, h⟩
  | succ d ih =>
    intro n f μ hn hf h
    obtain ⟨g, rfl⟩ : ∃ g, f = g + 1 := ⟨f - 1, by omega⟩
    have c1 := tc_oneI h h0 hB (i := n) (by omega)
    rw [X5_copyFrom_L87_s, rd3 h.cr, if_neg (nI_ge (by omega) (by omega)), if_pos (in_ints isO68 (by omega)), if_pos (in_ints isO4 (by omega)), int_at isO68 (by omega), int_at isO4 (by omega)]
    simp only [bV_eq]
    rw [nI_1]
    exact ih (n + 1) g _ (by omega) (by omega) (c1.to (fun f b k z => vd_int z))
theorem c_copy (h0 : CR 4 6 8 μ A) (hB : Bds 6 8 A) : ∃ μ', X5_copyFrom 68 4 μ = some μ' ∧ Cl 68 (a_nb A) (a_ni A) μ μ' A := by
  have h120 := hB.2.2.1
  have h6 := hB.1
  have h8 := hB.2.1
  have t0 : TC (fun _ _ _ => False) [] μ μ A := ⟨fun f b k z => by rcases z with z | ⟨x, hx, _⟩; exact z.elim; exact absurd hx List.not_mem_nil, fun _ _ _ => rfl⟩
  unfold X5_copyFrom
  rw [oR1 isO68, oR1 isO4, oR2 isO68, oR2 isO4]
  obtain ⟨μ1, x1, c1⟩ := tc_X3 (f := 5) (g := 2) (b := 0) (n := a_lf A) (q := 68 + 1) (q2 := 4 + 1) t0 h0 (oTk isO68) (oTk isO4) (oT0 isO68) (oT0 isO4) (by rw [oTal isO68, oTal isO4]) (by rw [oTal isO68]; decide) (by rw [oTal isO4]; exact h120) rfl (by omega) rfl (by omega) rfl (by decide) ⟨rfl, rfl⟩ (by decide) ⟨rfl, by decide⟩ (fun k hk => ⟨rfl, by omega⟩) (rd2 h0) rfl (fun k hk => rd5 h0 hB hk)
  rw [x1, bO1_s]
  obtain ⟨μ2, x2, c2⟩ := tc_X4 c1 h0 hB (a := 0) (by omega)
  rw [show X4_copyFrom (68 + 3) (4 + 3) μ1 = some μ2 from x2, bO1_s]
  repeat rw [bV_eq]
  have d1 := TC.w c2 1 0 (q := 68) (s := 5) (v := rI μ2 4 5) ⟨rfl, rfl⟩ (by decide) rfl rfl (rd1 (c2.src h0))
  have d2 := TC.w d1 4 0 (q := 68) (s := 6) (v := _) ⟨rfl, rfl⟩ (by decide) rfl rfl (rd4 (d1.src h0))
  have d3 := TC.w d2 3 0 (q := 68) (s := 7) (v := _) ⟨rfl, rfl⟩ (by decide) rfl rfl (rd3 (d2.src h0))
  have d4 := TC.w d3 0 0 (q := 68) (s := 8) (v := _) ⟨rfl, rfl⟩ (by decide) rfl rfl (rd0 (d3.src h0))
  have d5 := d4.to (D' := vd 0 0 A) (fun f b k z => vd_base z)
  obtain ⟨μ3, x3, c3⟩ := copy_booths h0 hB (a_nb A) 0 1000 _ (by omega) (by omega) d5
  rw [← nI0] at x3
  rw [x3, bO1_s]
  obtain ⟨μ4, x4, c4⟩ := copy_ints h0 hB (a_ni A) 0 1000 μ3 (by omega) (by omega) c3
  rw [← nI0] at x4
  rw [x4]
  exact ⟨μ4, rfl, c4.cr, fun q s hq => c4.2 q s (by omega)⟩
end TC2
