/-! The class: a trial summit becomes the summit. -/
theorem X4_copy_ok {q q2 n : Nat} {μ : MM} (hq : kc q = 4) (hne0 : RF q 0 ≠ q) (h : rI μ q2 2 = nI n) (hn : n ≤ 400) (h0 : al (RF q2 0) = 400) (h1 : al (RF q2 1) = 400) (g0 : al (RF q 0) = 400) (g1 : al (RF q 1) = 400) : X4_copyFrom q q2 μ = some (wC (wC (wI μ q 2 (nI n)) (RF q2 0) 0 (RF q 0) 0 n) (RF q2 1) 0 (RF q 1) 0 n) := by
  unfold X4_copyFrom
  have e1 : (if (400 : Int32) < rI μ q2 2 then (400 : Int32) else rI μ q2 2) = nI n := by
    rw [h, if_neg (show ¬ (400 : Int32) < nI n from nI_nlt (a := 400) hn (by omega))]
  have hc : (nI n).toNatClampNeg = n := nI_clamp (by omega)
  rw [e1]
  simp only [bV_eq]
  have ok : ∀ a b, a = 400 → b = 400 → cpyOk a b (0 : Int32) (0 : Int32) (nI n) := by
    intro a b ha hb
    refine ⟨⟨by decide, by decide, nI_pos (by omega)⟩, ?_, ?_⟩
    · rw [hc, nI_tn0]; omega
    · rw [hc, nI_tn0]; omega
  rw [rI_at, if_pos (ok _ _ h0 g0), hc]
  have e3 : rI (wC (wI μ q 2 (nI n)) (RF q2 0) (0 : Int32).toNatClampNeg (RF q 0) (0 : Int32).toNatClampNeg n) q 2 = nI n := by
    rw [rI_wC, if_neg (fun z : q = RF q 0 => hne0 z.symm), rI_at]
  rw [e3, if_pos (ok _ _ h1 g1), hc]
  rfl
theorem rowC {f0 b0 : Nat} (hf : f0 = 5 ∨ f0 = 21 ∨ f0 = 22 ∨ f0 = 24 ∨ f0 = 25) (hd0 : dom f0 b0 0) : ∀ s, ∃ s2, cDec (cC f0 b0) s = (f0, b0, s2) := by
  intro s
  rcases hf with rfl | rfl | rfl | rfl | rfl
  · obtain ⟨rfl, -⟩ := hd0
    exact ⟨s, rfl⟩
  · obtain ⟨h1, -⟩ := hd0
    refine ⟨s, ?_⟩
    show cDec (10 + 8 * b0) s = _
    unfold cDec
    rw [if_neg (by omega), if_neg (by omega), if_neg (by omega), if_neg (by omega), if_neg (by omega), if_neg (by omega), if_pos (by omega), if_neg (by omega), if_neg (by omega), if_pos (by omega)]
    simp only [Prod.mk.injEq, true_and, and_true]; omega
  · obtain ⟨h1, -⟩ := hd0
    refine ⟨s, ?_⟩
    show cDec (12 + 8 * b0) s = _
    unfold cDec
    rw [if_neg (by omega), if_neg (by omega), if_neg (by omega), if_neg (by omega), if_neg (by omega), if_neg (by omega), if_pos (by omega), if_neg (by omega), if_neg (by omega), if_neg (by omega), if_neg (by omega), if_pos (by omega)]
    simp only [Prod.mk.injEq, true_and, and_true]; omega
  · obtain ⟨h1, -⟩ := hd0
    refine ⟨s, ?_⟩
    show cDec (if b0 = 0 then 4 else 6 + 8 * b0) s = _
    by_cases hb : b0 = 0
    · subst hb; rfl
    · rw [if_neg hb]
      unfold cDec
      rw [if_neg (by omega), if_neg (by omega), if_neg (by omega), if_neg (by omega), if_neg (by omega), if_neg (by omega), if_pos (by omega), if_neg (by omega), if_neg (by omega), if_neg (by omega), if_neg (by omega), if_neg (by omega), if_neg (by omega), if_pos (by omega)]
      simp only [Prod.mk.injEq, true_and, and_true]; omega
  · obtain ⟨h1, -⟩ := hd0
    refine ⟨s, ?_⟩
    show cDec (if b0 = 0 then 5 else 7 + 8 * b0) s = _
    by_cases hb : b0 = 0
    · subst hb; rfl
    · rw [if_neg hb]
      unfold cDec
      rw [if_neg (by omega), if_neg (by omega), if_neg (by omega), if_neg (by omega), if_neg (by omega), if_neg (by omega), if_pos (by omega), if_neg (by omega), if_neg (by omega), if_neg (by omega), if_neg (by omega), if_neg (by omega), if_neg (by omega), if_neg (by omega)]
      simp only [Prod.mk.injEq, true_and, and_true]; omega
theorem rowCell {f b k f0 b0 : Nat} (hf : f0 = 5 ∨ f0 = 21 ∨ f0 = 22 ∨ f0 = 24 ∨ f0 = 25) (hd0 : dom f0 b0 0) (h : dom f b k) (e : cC f b = cC f0 b0) : f = f0 ∧ b = b0 := by
  have a := cDec_of f b k h
  rw [e] at a
  obtain ⟨s2, hc⟩ := rowC hf hd0 (cK f k)
  rw [hc] at a
  cases a
  exact ⟨rfl, rfl⟩
def InL (L : List (Nat × Nat × Nat)) (f b k : Nat) : Prop := ∃ x, x ∈ L ∧ f = x.1 ∧ b = x.2.1 ∧ k < x.2.2
/-- the trial summit holds A at some places -/
def TC (D : Nat → Nat → Nat → Prop) (L : List (Nat × Nat × Nat)) (μ0 μ : MM) (A : AS) : Prop := RepD (cAd 68) cSl (fun f b k => D f b k ∨ InL L f b k) (av A) μ ∧ ∀ q s, (q < 68 ∨ 132 ≤ q) → rI μ q s = rI μ0 q s
section TCS
variable {D : Nat → Nat → Nat → Prop} {L : List (Nat × Nat × Nat)} {μ0 μ : MM} {A : AS}
theorem TC.w (h : TC D L μ0 μ A) (f b : Nat) {q s : Nat} {v : Int32} (hd : dom f b 0) (hf : f ≠ 5 ∧ f ≠ 21 ∧ f ≠ 22 ∧ f ≠ 24 ∧ f ≠ 25) (hq : q = 68 + cC f b) (hs : s = cK f 0) (hv : v = av A f b 0) : TC D ((f, b, 1) :: L) μ0 (wI μ q s v) A := by
  refine ⟨RepD.to (RepD.w (cInj 68) h.1 f b 0 hd v hq hs) (fun f' b' k' z => ⟨?_, ?_⟩), fun q' s' hz => ?_⟩
  · rcases z with z | ⟨x, hx, h1, h2, h3⟩
    · exact Or.inl (Or.inl z)
    · rcases List.mem_cons.mp hx with y | y
      · subst y
        have h3' : k' < 1 := h3
        exact Or.inr ⟨h1, h2, by omega⟩
      · exact Or.inl (Or.inr ⟨x, y, h1, h2, h3⟩)
  · by_cases e : f' = f ∧ b' = b ∧ k' = 0
    · rw [if_pos e, e.1, e.2.1, e.2.2]
      exact hv
    · rw [if_neg e]
  · have := cC_lt f b 0 hd
    rw [rI_o _ (by omega)]
    exact h.2 q' s' hz
theorem TC.c (h : TC D L μ0 μ A) (f b n : Nat) {q0 q1 : Nat} (hf : f = 5 ∨ f = 21 ∨ f = 22 ∨ f = 24 ∨ f = 25) (hd0 : dom f b 0) (hd : ∀ k, k < n → dom f b k) (hq1 : q1 = 68 + cC f b) (hsrc : ∀ k, k < n → rI μ q0 k = av A f b k) : TC D ((f, b, n) :: L) μ0 (wC μ q0 0 q1 0 n) A := by
  have hK : ∀ k, cK f k = k := by
    rcases hf with rfl | rfl | rfl | rfl | rfl <;> exact fun k => rfl
  refine ⟨fun f' b' k' z => ?_, fun q' s' hz => ?_⟩
  · show dom f' b' k' ∧ rI (wC μ q0 0 q1 0 n) (68 + cC f' b') (cK f' k') = _
    rw [rI_wC]
    by_cases e : f' = f ∧ b' = b ∧ k' < n
    · obtain ⟨rfl, rfl, hn⟩ := e
      refine ⟨hd k' hn, ?_⟩
      rw [if_pos hq1.symm, hK, if_pos ⟨Nat.zero_le _, by omega⟩, Nat.sub_zero, Nat.zero_add]
      exact hsrc k' hn
    · have z' : D f' b' k' ∨ InL L f' b' k' := by
        rcases z with z | ⟨x, hx, h1, h2, h3⟩
        · exact Or.inl z
        · rcases List.mem_cons.mp hx with y | y
          · subst y
            exact absurd ⟨h1, h2, h3⟩ e
          · exact Or.inr ⟨x, y, h1, h2, h3⟩
      have ho := h.1 f' b' k' z'
      refine ⟨ho.1, ?_⟩
      by_cases ec : 68 + cC f' b' = q1
      · have e2 := rowCell hf hd0 ho.1 (show cC f' b' = cC f b by omega)
        have hk : ¬ k' < n := fun y => e ⟨e2.1, e2.2, y⟩
        have hkk : cK f' k' = k' := by
          rw [e2.1]
          exact hK k'
        rw [if_pos ec, if_neg (by rw [hkk]; omega), ← ec]
        exact ho.2
      · rw [if_neg ec]
        exact ho.2
  · have := cC_lt f b 0 hd0
    rw [rI_wC, if_neg (by omega)]
    exact h.2 q' s' hz
theorem TC.src (h : TC D L μ0 μ A) (h0 : CR 4 6 8 μ0 A) : CR 4 6 8 μ A := CR.eq h0 (fun q s _ hq => h.2 q s (Or.inl (by omega)))
theorem TC.to {D' : Nat → Nat → Nat → Prop} (h : TC D L μ0 μ A) (hs : ∀ f b k, D' f b k → D f b k ∨ InL L f b k) : TC D' [] μ0 μ A := by
  refine ⟨RepD.to h.1 (fun f b k z => ⟨?_, rfl⟩), h.2⟩
  rcases z with z | ⟨x, hx, _⟩
  · exact hs f b k z
  · exact absurd hx List.not_mem_nil
theorem isO68 : isO 68 := Or.inr rfl
/-- a row of words and its length -/
theorem tc_X3 (h : TC D L μ0 μ A) (h0 : CR 4 6 8 μ0 A) {f g b n q q2 r r2 : Nat} (hk : kc q = 3) (hk2 : kc q2 = 3) (hr : RF q 0 = r) (hr2 : RF q2 0 = r2) (ha : al r2 = al r) (hl : al r < 2 ^ 31) (hn : n ≤ al r2) (hq : q = 68 + cC g b) (hq2 : q2 < 68) (hr1 : r = 68 + cC f b) (hr2b : r2 < 68) (hs : 1 = cK g 0) (hg : g ≠ 5 ∧ g ≠ 21 ∧ g ≠ 22 ∧ g ≠ 24 ∧ g ≠ 25) (hgd : dom g b 0) (hf : f = 5 ∨ f = 21 ∨ f = 22 ∨ f = 24 ∨ f = 25) (hd0 : dom f b 0) (hd : ∀ k, k < n → dom f b k) (hlen : rI μ0 q2 1 = nI n) (hv : nI n = av A g b 0) (hsrc : ∀ k, k < n → rI μ0 r2 k = av A f b k) : ∃ μ', X3_copyFrom q q2 μ = some μ' ∧ TC D ((f, b, n) :: (g, b, 1) :: L) μ0 μ' A := by
  refine ⟨_, X3_copy_ok hk hk2 (by omega) (by rw [hr, hr2]; omega) (by rw [h.2 q2 1 (Or.inl hq2)]; exact hlen) (by rw [hr2]; exact hn) (by rw [hr, hr2]; exact ha) (by rw [hr]; exact hl), ?_⟩
  rw [hr, hr2]
  refine TC.c (TC.w h g b hgd hg hq hs hv) f b n hf hd0 hd hr1 (fun k hk' => ?_)
  rw [rI_o _ (by omega), h.2 r2 k (Or.inl hr2b)]
  exact hsrc k hk'
end TCS
