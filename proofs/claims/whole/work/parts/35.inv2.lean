/-! What stays true through a booth's turn, and what a turn leaves alone. -/
theorem says_wNum {A : AS} {i : Nat} {w : Int32} (h : wNum w) : wNum (saysA A i w) := by
  unfold saysA
  by_cases e : badA A i w = true
  · rw [if_pos e]
    by_cases e2 : w = 79
    · rw [if_pos e2]
      exact ⟨0, by decide, rfl⟩
    · rw [if_neg e2]
      unfold badA at e
      rw [Bool.and_eq_true] at e
      have h80 := of_decide_eq_true e.2
      obtain ⟨n, hn, rfl⟩ := h
      have h3 := (by decide +kernel : ∀ n, n < 100 → nI n < (80 : Int32) → n < 80) n hn h80
      exact ⟨n + 1, by omega, nI_1 n⟩
  · rw [if_neg e]
    exact h
theorem Inv.say {b i : Nat} {A : AS} {w : Int32} (h : Inv (b + 1) A) (hw : wNum w) : Inv (b + 2) (sayA A b i w) := by
  rw [sayA_eq]
  exact Inv.keep (A := utA A i w) (h.iv _) (says_wNum hw)
theorem Inv.lost {j b : Nat} {A : AS} (h : Inv j A) : Inv j (lostA A b) := h.bv (by decide) (fun z => absurd z (by decide))
theorem Inv.tire {j i : Nat} {v : Int32} {A : AS} (h : Inv j A) : Inv j (tireA A i v) := h.iv _
theorem Inv.dumb {j b : Nat} {A : AS} (h : Inv j A) : Inv j (dumbA A b) := by
  unfold dumbA
  split
  · split
    · exact h.pop.lost
    · exact h
  · exact (h.bv (v := -1) (by decide) (fun _ => Or.inl rfl)).lost
theorem Inv.booth {b : Nat} {A : AS} (h : Inv (b + 1) A) (hb : b < a_nb A) : Inv (b + 2) (boothA A b) := by
  have hw := (h.2.2.1 b hb).2
  unfold boothA
  split
  · exact h.dumb.up
  · split
    · split
      · split
        · rename_i i _ _ _ ed
          have hw0 := hw.1 0 (due_pos ed)
          unfold wordA
          split
          · rename_i eo
            have ho := wNum_odd hw0 (odd_80 eo)
            exact Inv.say (A := s_iv (s_bv (popA A b) (up2 (a_bv A) b 4 ((a_hw A b 0 - 80) * 4 + 1))) (up2 (a_iv A) i 5 (a_iv A i 5 + 1))) ((h.pop.bv (A := popA A b) (b := b) (i := 4) (by decide) (fun _ => Or.inr ho.2)).iv _) ho.1
          · exact Inv.say (A := popA A b) h.pop hw0
        · exact h.tire.up
      · rename_i e4
        exact Inv.say (A := s_bv A (up2 (a_bv A) b 4 (-1))) (h.bv (by decide) (fun _ => Or.inl rfl)) (hw.2.resolve_left e4)
    · exact h.dumb.tire.up
/-- what the pass leaves alone -/
def Fix (A A' : AS) : Prop := a_nb A' = a_nb A ∧ a_ni A' = a_ni A ∧ a_t A' = a_t A ∧ a_src A' = a_src A ∧ a_sit A' = a_sit A ∧ a_lang A' = a_lang A
theorem Fix.r (A : AS) : Fix A A := ⟨rfl, rfl, rfl, rfl, rfl, rfl⟩
theorem Fix.t {A B C : AS} (h : Fix A B) (g : Fix B C) : Fix A C := ⟨g.1.trans h.1, g.2.1.trans h.2.1, g.2.2.1.trans h.2.2.1, g.2.2.2.1.trans h.2.2.2.1, g.2.2.2.2.1.trans h.2.2.2.2.1, g.2.2.2.2.2.trans h.2.2.2.2.2⟩
theorem fix_dumb (A : AS) (b : Nat) : Fix A (dumbA A b) := by
  unfold dumbA
  split
  · split <;> exact ⟨rfl, rfl, rfl, rfl, rfl, rfl⟩
  · exact ⟨rfl, rfl, rfl, rfl, rfl, rfl⟩
theorem fix_booth (A : AS) (b : Nat) : Fix A (boothA A b) := by
  unfold boothA
  split
  · exact fix_dumb A b
  · split
    · split
      · split
        · unfold wordA
          split <;> exact ⟨rfl, rfl, rfl, rfl, rfl, rfl⟩
        · exact ⟨rfl, rfl, rfl, rfl, rfl, rfl⟩
      · exact ⟨rfl, rfl, rfl, rfl, rfl, rfl⟩
    · exact fix_dumb A b
theorem fix_floor (A : AS) : Fix A (floorA A) := by
  unfold floorA
  split
  · exact Fix.r A
  · split <;> exact ⟨rfl, rfl, rfl, rfl, rfl, rfl⟩
theorem fix_hear (A : AS) (b : Nat) : Fix A (hearA A b) := by
  unfold hearA
  split
  · unfold takeA
    split <;> exact ⟨rfl, rfl, rfl, rfl, rfl, rfl⟩
  · exact Fix.r A
theorem fix_rest (A : AS) (i : Nat) : Fix A (restA A i) := by
  unfold restA
  split
  · exact ⟨rfl, rfl, rfl, rfl, rfl, rfl⟩
  · exact Fix.r A
theorem fix_it {f : AS → Nat → AS} (hf : ∀ A i, Fix A (f A i)) : ∀ n A, Fix A (itA f n A)
  | 0, A => Fix.r A
  | n + 1, A => (fix_it hf n A).t (hf _ n)
