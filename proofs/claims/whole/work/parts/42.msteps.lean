/-! The reference's cells under one change. -/
theorem mC_lt : ∀ f, f < 27 → f ≠ 20 → f ≠ 26 → mC f < 22 := by decide
theorem dom_lt : ∀ f b k, dom f b k → f < 27 := by
  intro f b k h
  rcases Nat.lt_or_ge f 27 with y | y
  · exact y
  · obtain ⟨g, rfl⟩ : ∃ g, f = g + 27 := ⟨f - 27, by omega⟩
    exact h.elim
/-- the reference's state holds A, and the rest is as in ρ -/
def Ml (p : Nat) (ρ μ : MM) (A : AS) : Prop := MR p μ A ∧ (∀ q s, (q < p ∨ p + 22 ≤ q) → rI μ q s = rI ρ q s) ∧ μ.2 = ρ.2
theorem Ml.out {p : Nat} {ρ μ : MM} {A : AS} (h : Ml p ρ μ A) {f b k q s : Nat} {v : Int32} (hd : dom f b k) (hf : f ≠ 20 ∧ f ≠ 26) (hq : q = mAd p f b) : ∀ q' s', (q' < p ∨ p + 22 ≤ q') → rI (wI μ q s v) q' s' = rI ρ q' s' := by
  intro q' s' hz
  have := mC_lt f (dom_lt f b k hd) hf.1 hf.2
  have e : q = p + mC f := hq
  rw [rI_ne v (fun z => by have := z.1; omega)]
  exact h.2.1 q' s' hz
theorem Ml.w {p : Nat} {ρ μ : MM} {A A' : AS} (h : Ml p ρ μ A) (f0 b0 k0 : Nat) (hd : dom f0 b0 k0) (hf : f0 ≠ 20 ∧ f0 ≠ 26) {q s : Nat} {v : Int32} (hV : ∀ f b k, vm A' f b k → av A' f b k = if f = f0 ∧ b = b0 ∧ k = k0 then v else av A f b k) (hvd : ∀ f b k, vm A' f b k → vm A f b k ∨ (f = f0 ∧ b = b0 ∧ k = k0)) (hq : q = mAd p f0 b0) (hs : s = mK f0 b0 k0) : Ml p ρ (wI μ q s v) A' :=
  ⟨RepD.to (RepD.w (mInj p) h.1 f0 b0 k0 hd v hq hs) (fun f b k z => ⟨hvd f b k z, (hV f b k z).symm⟩), Ml.out h hd hf hq, h.2.2⟩
