/-! What stays true of the mathematical state. -/
/-- how far the places' speeches go: those below j may have spoken in this tick -/
def mnOk (A : AS) (j a : Nat) : Prop := a_mn A a ≤ a_t A + (if a < j then 1 else 0) ∧ ∀ k, k < a_mn A a → wNum (a_sw A a k) ∧ ∃ n, a_st A a k = nI n ∧ n < a_t A + (if a < j then 1 else 0)
def Inv (j : Nat) (A : AS) : Prop := (a_nb A ≤ 6 ∧ a_ni A ≤ 8 ∧ a_lf A ≤ 120 ∧ a_t A ≤ 400) ∧ Seats A ∧ (∀ b, b < a_nb A → MemB A b ∧ WB A b) ∧ (∀ k, k < a_lf A → a_tx A k = -1 ∨ wNum (a_tx A k)) ∧ (∀ b, a_hd A b ≤ 12) ∧ ∀ a, mnOk A j a
theorem Inv.bds {j NB NI : Nat} {A : AS} (h : Inv j A) (ht : a_t A + (if j = 0 then 0 else 1) ≤ 400) (h1 : a_nb A ≤ NB) (h2 : NB ≤ 6) (h3 : a_ni A ≤ NI) (h4 : NI ≤ 8) : Bds NB NI A := by
  refine ⟨⟨h1, h2⟩, ⟨h3, h4⟩, h.1.2.2.1, h.1.2.2.2, fun b _ => h.2.2.2.2.1 b, fun a _ => ?_⟩
  have := (h.2.2.2.2.2 a).1
  by_cases e : j = 0
  · subst e
    rw [if_neg (by omega)] at this
    rw [if_pos rfl] at ht
    omega
  · rw [if_neg e] at ht
    split at this <;> omega
theorem mnOk.up {A : AS} {j a : Nat} (h : mnOk A j a) : mnOk A (j + 1) a := by
  unfold mnOk at h ⊢
  have e : (if a < j then 1 else 0) ≤ (if a < j + 1 then 1 else 0) := by split <;> split <;> omega
  refine ⟨by omega, fun k hk => ⟨(h.2 k hk).1, ?_⟩⟩
  obtain ⟨n, h1, h2⟩ := (h.2 k hk).2
  exact ⟨n, h1, by omega⟩
theorem Inv.up {j : Nat} {A : AS} (h : Inv j A) : Inv (j + 1) A := ⟨h.1, h.2.1, h.2.2.1, h.2.2.2.1, h.2.2.2.2.1, fun a => (h.2.2.2.2.2 a).up⟩
theorem Inv.iv {j : Nat} {A : AS} (v : Nat → Nat → Int32) (h : Inv j A) : Inv j (s_iv A v) := h
theorem Inv.keep {j : Nat} {A : AS} {w : Int32} (h : Inv j A) (hw : wNum w) : Inv (j + 1) (keepA A j w) := by
  refine ⟨h.1, h.2.1, h.2.2.1, h.2.2.2.1, h.2.2.2.2.1, fun a => ?_⟩
  have hm := h.2.2.2.2.2 a
  by_cases e : a = j
  · subst e
    unfold mnOk at hm
    rw [if_neg (by omega)] at hm
    have e1 : a_mn (keepA A a w) a = a_mn A a + 1 := up1_s _ _ _
    unfold mnOk
    rw [if_pos (by omega), e1]
    refine ⟨by show a_mn A a + 1 ≤ a_t A + 1; omega, ?_⟩
    intro k hk
    by_cases ek : k = a_mn A a
    · subst ek
      have e2 : a_sw (keepA A a w) a (a_mn A a) = w := up2_s _ _ _ _
      have e3 : a_st (keepA A a w) a (a_mn A a) = nI (a_t A) := up2_s _ _ _ _
      rw [e2, e3]
      exact ⟨hw, a_t A, rfl, by show a_t A < a_t A + 1; omega⟩
    · have e2 : a_sw (keepA A a w) a k = a_sw A a k := up2_n _ _ (fun z => ek z.2)
      have e3 : a_st (keepA A a w) a k = a_st A a k := up2_n _ _ (fun z => ek z.2)
      rw [e2, e3]
      obtain ⟨h1, n, h2, h3⟩ := hm.2 k (by omega)
      exact ⟨h1, n, h2, by show n < a_t A + 1; omega⟩
  · have h2 := hm.up
    have e1 : a_mn (keepA A j w) a = a_mn A a := up1_n _ _ e
    unfold mnOk at h2 ⊢
    rw [e1]
    refine ⟨h2.1, fun k hk => ?_⟩
    have e2 : a_sw (keepA A j w) a k = a_sw A a k := up2_n _ _ (fun z => e z.1)
    have e3 : a_st (keepA A j w) a k = a_st A a k := up2_n _ _ (fun z => e z.1)
    rw [e2, e3]
    exact h2.2 k hk
theorem Inv.pop {j b : Nat} {A : AS} (h : Inv j A) : Inv j (popA A b) := by
  have hd : ∀ c, a_hd (popA A b) c ≤ a_hd A c := by
    intro c
    show up1 (a_hd A) b (a_hd A b - 1) c ≤ _
    by_cases e : c = b
    · rw [e, up1_s]; omega
    · rw [up1_n _ _ e]; exact Nat.le_refl _
  refine ⟨h.1, h.2.1, ?_, h.2.2.2.1, fun c => Nat.le_trans (hd c) (h.2.2.2.2.1 c), h.2.2.2.2.2⟩
  intro c hc
  obtain ⟨⟨m, m1, m2, m3⟩, w1, w2⟩ := h.2.2.1 c hc
  refine ⟨⟨m, m1, Nat.le_trans (hd c) m2, m3⟩, ?_, w2⟩
  intro k hk
  show wNum (if c = b then a_hw A b (k + 1) else a_hw A c k)
  by_cases e : c = b
  · subst e
    have e1 : a_hd (popA A c) c = a_hd A c - 1 := up1_s _ _ _
    rw [if_pos rfl]
    exact w1 _ (by omega)
  · rw [if_neg e]
    exact w1 k (Nat.lt_of_lt_of_le hk (hd c))
theorem Inv.bv {j b i : Nat} {A : AS} {v : Int32} (h : Inv j A) (hi : i ≠ 2) (hv : i = 4 → v = -1 ∨ wNum v) : Inv j (s_bv A (up2 (a_bv A) b i v)) := by
  refine ⟨h.1, h.2.1, ?_, h.2.2.2.1, h.2.2.2.2.1, h.2.2.2.2.2⟩
  intro c hc
  obtain ⟨⟨m, m1, m2, m3⟩, w1, w2⟩ := h.2.2.1 c hc
  refine ⟨⟨m, Eq.trans (up2_n _ _ (fun z => hi z.2.symm)) m1, m2, m3⟩, w1, ?_⟩
  show up2 (a_bv A) b i v c 4 = -1 ∨ wNum (up2 (a_bv A) b i v c 4)
  by_cases e : c = b ∧ 4 = i
  · rw [e.1, ← e.2, up2_s]
    exact hv e.2.symm
  · rw [up2_n _ _ e]
    exact w2
