/-! One field changed: what the places hold (printed by gen/values.py). -/
theorem V0 (A : AS) (v : Nat) : ∀ f b k, dom f b k → av (s_t A v) f b k = if f = 0 ∧ b = 0 ∧ k = 0 then nI v else av A f b k := by
  intro f b k h
  by_cases e : f = 0 ∧ b = 0 ∧ k = 0
  · rw [if_pos e]; obtain ⟨rfl, rfl, rfl⟩ := e
    rfl
  · rw [if_neg e]
    match f, h, e with
    | 0, h, e => exact (e ⟨rfl, h⟩).elim
    | 1, _, _ => rfl
    | 2, _, _ => rfl
    | 3, _, _ => rfl
    | 4, _, _ => rfl
    | 5, _, _ => rfl
    | 6, _, _ => rfl
    | 7, _, _ => rfl
    | 8, _, _ => rfl
    | 9, _, _ => rfl
    | 10, _, _ => rfl
    | 11, _, _ => rfl
    | 12, _, _ => rfl
    | 13, _, _ => rfl
    | 14, _, _ => rfl
    | 15, _, _ => rfl
    | 16, _, _ => rfl
    | 17, _, _ => rfl
    | 18, _, _ => rfl
    | 19, _, _ => rfl
    | 20, _, _ => rfl
    | 21, _, _ => rfl
    | 22, _, _ => rfl
    | 23, _, _ => rfl
    | 24, _, _ => rfl
    | 25, _, _ => rfl
    | 26, _, _ => rfl
    | f + 27, h, _ => exact h.elim
theorem V1 (A : AS) (v : Int32) : ∀ f b k, dom f b k → av (s_lang A v) f b k = if f = 1 ∧ b = 0 ∧ k = 0 then v else av A f b k := by
  intro f b k h
  by_cases e : f = 1 ∧ b = 0 ∧ k = 0
  · rw [if_pos e]; obtain ⟨rfl, rfl, rfl⟩ := e
    rfl
  · rw [if_neg e]
    match f, h, e with
    | 0, _, _ => rfl
    | 1, h, e => exact (e ⟨rfl, h⟩).elim
    | 2, _, _ => rfl
    | 3, _, _ => rfl
    | 4, _, _ => rfl
    | 5, _, _ => rfl
    | 6, _, _ => rfl
    | 7, _, _ => rfl
    | 8, _, _ => rfl
    | 9, _, _ => rfl
    | 10, _, _ => rfl
    | 11, _, _ => rfl
    | 12, _, _ => rfl
    | 13, _, _ => rfl
    | 14, _, _ => rfl
    | 15, _, _ => rfl
    | 16, _, _ => rfl
    | 17, _, _ => rfl
    | 18, _, _ => rfl
    | 19, _, _ => rfl
    | 20, _, _ => rfl
    | 21, _, _ => rfl
    | 22, _, _ => rfl
    | 23, _, _ => rfl
    | 24, _, _ => rfl
    | 25, _, _ => rfl
    | 26, _, _ => rfl
    | f + 27, h, _ => exact h.elim
theorem V2 (A : AS) (v : Nat) : ∀ f b k, dom f b k → av (s_lf A v) f b k = if f = 2 ∧ b = 0 ∧ k = 0 then nI v else av A f b k := by
  intro f b k h
  by_cases e : f = 2 ∧ b = 0 ∧ k = 0
  · rw [if_pos e]; obtain ⟨rfl, rfl, rfl⟩ := e
    rfl
  · rw [if_neg e]
    match f, h, e with
    | 0, _, _ => rfl
    | 1, _, _ => rfl
    | 2, h, e => exact (e ⟨rfl, h⟩).elim
    | 3, _, _ => rfl
    | 4, _, _ => rfl
    | 5, _, _ => rfl
    | 6, _, _ => rfl
    | 7, _, _ => rfl
    | 8, _, _ => rfl
    | 9, _, _ => rfl
    | 10, _, _ => rfl
    | 11, _, _ => rfl
    | 12, _, _ => rfl
    | 13, _, _ => rfl
    | 14, _, _ => rfl
    | 15, _, _ => rfl
    | 16, _, _ => rfl
    | 17, _, _ => rfl
    | 18, _, _ => rfl
    | 19, _, _ => rfl
    | 20, _, _ => rfl
    | 21, _, _ => rfl
    | 22, _, _ => rfl
    | 23, _, _ => rfl
    | 24, _, _ => rfl
    | 25, _, _ => rfl
    | 26, _, _ => rfl
    | f + 27, h, _ => exact h.elim
theorem V3 (A : AS) (v : Nat) : ∀ f b k, dom f b k → av (s_ni A v) f b k = if f = 3 ∧ b = 0 ∧ k = 0 then nI v else av A f b k := by
  intro f b k h
  by_cases e : f = 3 ∧ b = 0 ∧ k = 0
  · rw [if_pos e]; obtain ⟨rfl, rfl, rfl⟩ := e
    rfl
  · rw [if_neg e]
    match f, h, e with
    | 0, _, _ => rfl
    | 1, _, _ => rfl
    | 2, _, _ => rfl
    | 3, h, e => exact (e ⟨rfl, h⟩).elim
    | 4, _, _ => rfl
    | 5, _, _ => rfl
    | 6, _, _ => rfl
    | 7, _, _ => rfl
    | 8, _, _ => rfl
    | 9, _, _ => rfl
    | 10, _, _ => rfl
    | 11, _, _ => rfl
    | 12, _, _ => rfl
    | 13, _, _ => rfl
    | 14, _, _ => rfl
    | 15, _, _ => rfl
    | 16, _, _ => rfl
    | 17, _, _ => rfl
    | 18, _, _ => rfl
    | 19, _, _ => rfl
    | 20, _, _ => rfl
    | 21, _, _ => rfl
    | 22, _, _ => rfl
    | 23, _, _ => rfl
    | 24, _, _ => rfl
    | 25, _, _ => rfl
    | 26, _, _ => rfl
    | f + 27, h, _ => exact h.elim
theorem V4 (A : AS) (v : Nat) : ∀ f b k, dom f b k → f ≠ 26 → av (s_nb A v) f b k = if f = 4 ∧ b = 0 ∧ k = 0 then nI v else av A f b k := by
  intro f b k h h26
  by_cases e : f = 4 ∧ b = 0 ∧ k = 0
  · rw [if_pos e]; obtain ⟨rfl, rfl, rfl⟩ := e
    rfl
  · rw [if_neg e]
    match f, h, e, h26 with
    | 0, _, _, _ => rfl
    | 1, _, _, _ => rfl
    | 2, _, _, _ => rfl
    | 3, _, _, _ => rfl
    | 4, h, e, _ => exact (e ⟨rfl, h⟩).elim
    | 5, _, _, _ => rfl
    | 6, _, _, _ => rfl
    | 7, _, _, _ => rfl
    | 8, _, _, _ => rfl
    | 9, _, _, _ => rfl
    | 10, _, _, _ => rfl
    | 11, _, _, _ => rfl
    | 12, _, _, _ => rfl
    | 13, _, _, _ => rfl
    | 14, _, _, _ => rfl
    | 15, _, _, _ => rfl
    | 16, _, _, _ => rfl
    | 17, _, _, _ => rfl
    | 18, _, _, _ => rfl
    | 19, _, _, _ => rfl
    | 20, _, _, _ => rfl
    | 21, _, _, _ => rfl
    | 22, _, _, _ => rfl
    | 23, _, _, _ => rfl
    | 24, _, _, _ => rfl
    | 25, _, _, _ => rfl
    | 26, _, _, h26 => exact (h26 rfl).elim
    | f + 27, h, _, _ => exact h.elim
theorem V5 (A : AS) (k0 : Nat) (v : Int32) : ∀ f b k, dom f b k → av (s_tx A (up1 (a_tx A) k0 v)) f b k = if f = 5 ∧ b = 0 ∧ k = k0 then v else av A f b k := by
  intro f b k h
  by_cases e : f = 5 ∧ b = 0 ∧ k = k0
  · rw [if_pos e]; obtain ⟨rfl, rfl, rfl⟩ := e
    exact up1_s _ _ _
  · rw [if_neg e]
    match f, h, e with
    | 0, _, _ => rfl
    | 1, _, _ => rfl
    | 2, _, _ => rfl
    | 3, _, _ => rfl
    | 4, _, _ => rfl
    | 5, h, e => exact up1_n _ _ (fun z => e ⟨rfl, h.1, z⟩)
    | 6, _, _ => rfl
    | 7, _, _ => rfl
    | 8, _, _ => rfl
    | 9, _, _ => rfl
    | 10, _, _ => rfl
    | 11, _, _ => rfl
    | 12, _, _ => rfl
    | 13, _, _ => rfl
    | 14, _, _ => rfl
    | 15, _, _ => rfl
    | 16, _, _ => rfl
    | 17, _, _ => rfl
    | 18, _, _ => rfl
    | 19, _, _ => rfl
    | 20, _, _ => rfl
    | 21, _, _ => rfl
    | 22, _, _ => rfl
    | 23, _, _ => rfl
    | 24, _, _ => rfl
    | 25, _, _ => rfl
    | 26, _, _ => rfl
    | f + 27, h, _ => exact h.elim
theorem V6 (A : AS) (b0 : Nat) (v : Int32) : ∀ f b k, dom f b k → av (s_iv A (up2 (a_iv A) b0 0 v)) f b k = if f = 6 ∧ b = b0 ∧ k = 0 then v else av A f b k := by
  intro f b k h
  by_cases e : f = 6 ∧ b = b0 ∧ k = 0
  · rw [if_pos e]; obtain ⟨rfl, rfl, rfl⟩ := e
    exact up2_s _ _ _ _
  · rw [if_neg e]
    match f, h, e with
    | 0, _, _ => rfl
    | 1, _, _ => rfl
    | 2, _, _ => rfl
    | 3, _, _ => rfl
    | 4, _, _ => rfl
    | 5, _, _ => rfl
    | 6, h, e => exact up2_n _ _ (fun z => e ⟨rfl, z.1, h.2⟩)
    | 7, h, e => exact up2_n _ _ (fun z => absurd z.2 (by decide))
    | 8, h, e => exact up2_n _ _ (fun z => absurd z.2 (by decide))
    | 9, h, e => exact up2_n _ _ (fun z => absurd z.2 (by decide))
    | 10, h, e => exact up2_n _ _ (fun z => absurd z.2 (by decide))
    | 11, h, e => exact up2_n _ _ (fun z => absurd z.2 (by decide))
    | 12, _, _ => rfl
    | 13, _, _ => rfl
    | 14, _, _ => rfl
    | 15, _, _ => rfl
    | 16, _, _ => rfl
    | 17, _, _ => rfl
    | 18, _, _ => rfl
    | 19, _, _ => rfl
    | 20, _, _ => rfl
    | 21, _, _ => rfl
    | 22, _, _ => rfl
    | 23, _, _ => rfl
    | 24, _, _ => rfl
    | 25, _, _ => rfl
    | 26, _, _ => rfl
    | f + 27, h, _ => exact h.elim
theorem V7 (A : AS) (b0 : Nat) (v : Int32) : ∀ f b k, dom f b k → av (s_iv A (up2 (a_iv A) b0 1 v)) f b k = if f = 7 ∧ b = b0 ∧ k = 0 then v else av A f b k := by
  intro f b k h
  by_cases e : f = 7 ∧ b = b0 ∧ k = 0
  · rw [if_pos e]; obtain ⟨rfl, rfl, rfl⟩ := e
    exact up2_s _ _ _ _
  · rw [if_neg e]
    match f, h, e with
    | 0, _, _ => rfl
    | 1, _, _ => rfl
    | 2, _, _ => rfl
    | 3, _, _ => rfl
    | 4, _, _ => rfl
    | 5, _, _ => rfl
    | 6, h, e => exact up2_n _ _ (fun z => absurd z.2 (by decide))
    | 7, h, e => exact up2_n _ _ (fun z => e ⟨rfl, z.1, h.2⟩)
    | 8, h, e => exact up2_n _ _ (fun z => absurd z.2 (by decide))
    | 9, h, e => exact up2_n _ _ (fun z => absurd z.2 (by decide))
    | 10, h, e => exact up2_n _ _ (fun z => absurd z.2 (by decide))
    | 11, h, e => exact up2_n _ _ (fun z => absurd z.2 (by decide))
    | 12, _, _ => rfl
    | 13, _, _ => rfl
    | 14, _, _ => rfl
    | 15, _, _ => rfl
    | 16, _, _ => rfl
    | 17, _, _ => rfl
    | 18, _, _ => rfl
    | 19, _, _ => rfl
    | 20, _, _ => rfl
    | 21, _, _ => rfl
    | 22, _, _ => rfl
    | 23, _, _ => rfl
    | 24, _, _ => rfl
    | 25, _, _ => rfl
    | 26, _, _ => rfl
    | f + 27, h, _ => exact h.elim
theorem V8 (A : AS) (b0 : Nat) (v : Int32) : ∀ f b k, dom f b k → av (s_iv A (up2 (a_iv A) b0 2 v)) f b k = if f = 8 ∧ b = b0 ∧ k = 0 then v else av A f b k := by
  intro f b k h
  by_cases e : f = 8 ∧ b = b0 ∧ k = 0
  · rw [if_pos e]; obtain ⟨rfl, rfl, rfl⟩ := e
    exact up2_s _ _ _ _
  · rw [if_neg e]
    match f, h, e with
    | 0, _, _ => rfl
    | 1, _, _ => rfl
    | 2, _, _ => rfl
    | 3, _, _ => rfl
    | 4, _, _ => rfl
    | 5, _, _ => rfl
    | 6, h, e => exact up2_n _ _ (fun z => absurd z.2 (by decide))
    | 7, h, e => exact up2_n _ _ (fun z => absurd z.2 (by decide))
    | 8, h, e => exact up2_n _ _ (fun z => e ⟨rfl, z.1, h.2⟩)
    | 9, h, e => exact up2_n _ _ (fun z => absurd z.2 (by decide))
    | 10, h, e => exact up2_n _ _ (fun z => absurd z.2 (by decide))
    | 11, h, e => exact up2_n _ _ (fun z => absurd z.2 (by decide))
    | 12, _, _ => rfl
    | 13, _, _ => rfl
    | 14, _, _ => rfl
    | 15, _, _ => rfl
    | 16, _, _ => rfl
    | 17, _, _ => rfl
    | 18, _, _ => rfl
    | 19, _, _ => rfl
    | 20, _, _ => rfl
    | 21, _, _ => rfl
    | 22, _, _ => rfl
    | 23, _, _ => rfl
    | 24, _, _ => rfl
    | 25, _, _ => rfl
    | 26, _, _ => rfl
    | f + 27, h, _ => exact h.elim
theorem V9 (A : AS) (b0 : Nat) (v : Int32) : ∀ f b k, dom f b k → av (s_iv A (up2 (a_iv A) b0 3 v)) f b k = if f = 9 ∧ b = b0 ∧ k = 0 then v else av A f b k := by
  intro f b k h
  by_cases e : f = 9 ∧ b = b0 ∧ k = 0
  · rw [if_pos e]; obtain ⟨rfl, rfl, rfl⟩ := e
    exact up2_s _ _ _ _
  · rw [if_neg e]
    match f, h, e with
    | 0, _, _ => rfl
    | 1, _, _ => rfl
    | 2, _, _ => rfl
    | 3, _, _ => rfl
    | 4, _, _ => rfl
    | 5, _, _ => rfl
    | 6, h, e => exact up2_n _ _ (fun z => absurd z.2 (by decide))
    | 7, h, e => exact up2_n _ _ (fun z => absurd z.2 (by decide))
    | 8, h, e => exact up2_n _ _ (fun z => absurd z.2 (by decide))
    | 9, h, e => exact up2_n _ _ (fun z => e ⟨rfl, z.1, h.2⟩)
    | 10, h, e => exact up2_n _ _ (fun z => absurd z.2 (by decide))
    | 11, h, e => exact up2_n _ _ (fun z => absurd z.2 (by decide))
    | 12, _, _ => rfl
    | 13, _, _ => rfl
    | 14, _, _ => rfl
    | 15, _, _ => rfl
    | 16, _, _ => rfl
    | 17, _, _ => rfl
    | 18, _, _ => rfl
    | 19, _, _ => rfl
    | 20, _, _ => rfl
    | 21, _, _ => rfl
    | 22, _, _ => rfl
    | 23, _, _ => rfl
    | 24, _, _ => rfl
    | 25, _, _ => rfl
    | 26, _, _ => rfl
    | f + 27, h, _ => exact h.elim
theorem V10 (A : AS) (b0 : Nat) (v : Int32) : ∀ f b k, dom f b k → av (s_iv A (up2 (a_iv A) b0 4 v)) f b k = if f = 10 ∧ b = b0 ∧ k = 0 then v else av A f b k := by
  intro f b k h
  by_cases e : f = 10 ∧ b = b0 ∧ k = 0
  · rw [if_pos e]; obtain ⟨rfl, rfl, rfl⟩ := e
    exact up2_s _ _ _ _
  · rw [if_neg e]
    match f, h, e with
    | 0, _, _ => rfl
    | 1, _, _ => rfl
    | 2, _, _ => rfl
    | 3, _, _ => rfl
    | 4, _, _ => rfl
    | 5, _, _ => rfl
    | 6, h, e => exact up2_n _ _ (fun z => absurd z.2 (by decide))
    | 7, h, e => exact up2_n _ _ (fun z => absurd z.2 (by decide))
    | 8, h, e => exact up2_n _ _ (fun z => absurd z.2 (by decide))
    | 9, h, e => exact up2_n _ _ (fun z => absurd z.2 (by decide))
    | 10, h, e => exact up2_n _ _ (fun z => e ⟨rfl, z.1, h.2⟩)
    | 11, h, e => exact up2_n _ _ (fun z => absurd z.2 (by decide))
    | 12, _, _ => rfl
    | 13, _, _ => rfl
    | 14, _, _ => rfl
    | 15, _, _ => rfl
    | 16, _, _ => rfl
    | 17, _, _ => rfl
    | 18, _, _ => rfl
    | 19, _, _ => rfl
    | 20, _, _ => rfl
    | 21, _, _ => rfl
    | 22, _, _ => rfl
    | 23, _, _ => rfl
    | 24, _, _ => rfl
    | 25, _, _ => rfl
    | 26, _, _ => rfl
    | f + 27, h, _ => exact h.elim
theorem V11 (A : AS) (b0 : Nat) (v : Int32) : ∀ f b k, dom f b k → av (s_iv A (up2 (a_iv A) b0 5 v)) f b k = if f = 11 ∧ b = b0 ∧ k = 0 then v else av A f b k := by
  intro f b k h
  by_cases e : f = 11 ∧ b = b0 ∧ k = 0
  · rw [if_pos e]; obtain ⟨rfl, rfl, rfl⟩ := e
    exact up2_s _ _ _ _
  · rw [if_neg e]
    match f, h, e with
    | 0, _, _ => rfl
    | 1, _, _ => rfl
    | 2, _, _ => rfl
    | 3, _, _ => rfl
    | 4, _, _ => rfl
    | 5, _, _ => rfl
    | 6, h, e => exact up2_n _ _ (fun z => absurd z.2 (by decide))
    | 7, h, e => exact up2_n _ _ (fun z => absurd z.2 (by decide))
    | 8, h, e => exact up2_n _ _ (fun z => absurd z.2 (by decide))
    | 9, h, e => exact up2_n _ _ (fun z => absurd z.2 (by decide))
    | 10, h, e => exact up2_n _ _ (fun z => absurd z.2 (by decide))
    | 11, h, e => exact up2_n _ _ (fun z => e ⟨rfl, z.1, h.2⟩)
    | 12, _, _ => rfl
    | 13, _, _ => rfl
    | 14, _, _ => rfl
    | 15, _, _ => rfl
    | 16, _, _ => rfl
    | 17, _, _ => rfl
    | 18, _, _ => rfl
    | 19, _, _ => rfl
    | 20, _, _ => rfl
    | 21, _, _ => rfl
    | 22, _, _ => rfl
    | 23, _, _ => rfl
    | 24, _, _ => rfl
    | 25, _, _ => rfl
    | 26, _, _ => rfl
    | f + 27, h, _ => exact h.elim
theorem V12 (A : AS) (b0 : Nat) (v : Int32) : ∀ f b k, dom f b k → av (s_bv A (up2 (a_bv A) b0 0 v)) f b k = if f = 12 ∧ b = b0 ∧ k = 0 then v else av A f b k := by
  intro f b k h
  by_cases e : f = 12 ∧ b = b0 ∧ k = 0
  · rw [if_pos e]; obtain ⟨rfl, rfl, rfl⟩ := e
    exact up2_s _ _ _ _
  · rw [if_neg e]
    match f, h, e with
    | 0, _, _ => rfl
    | 1, _, _ => rfl
    | 2, _, _ => rfl
    | 3, _, _ => rfl
    | 4, _, _ => rfl
    | 5, _, _ => rfl
    | 6, _, _ => rfl
    | 7, _, _ => rfl
    | 8, _, _ => rfl
    | 9, _, _ => rfl
    | 10, _, _ => rfl
    | 11, _, _ => rfl
    | 12, h, e => exact up2_n _ _ (fun z => e ⟨rfl, z.1, h.2⟩)
    | 13, h, e => exact up2_n _ _ (fun z => absurd z.2 (by decide))
    | 14, h, e => exact up2_n _ _ (fun z => absurd z.2 (by decide))
    | 15, _, _ => rfl
    | 16, _, _ => rfl
    | 17, h, e => exact up2_n _ _ (fun z => absurd z.2 (by decide))
    | 18, h, e => exact up2_n _ _ (fun z => absurd z.2 (by decide))
    | 19, _, _ => rfl
    | 20, _, _ => rfl
    | 21, _, _ => rfl
    | 22, _, _ => rfl
    | 23, _, _ => rfl
    | 24, _, _ => rfl
    | 25, _, _ => rfl
    | 26, _, _ => rfl
    | f + 27, h, _ => exact h.elim
theorem V13 (A : AS) (b0 : Nat) (v : Int32) : ∀ f b k, dom f b k → av (s_bv A (up2 (a_bv A) b0 1 v)) f b k = if f = 13 ∧ b = b0 ∧ k = 0 then v else av A f b k := by
  intro f b k h
  by_cases e : f = 13 ∧ b = b0 ∧ k = 0
  · rw [if_pos e]; obtain ⟨rfl, rfl, rfl⟩ := e
    exact up2_s _ _ _ _
  · rw [if_neg e]
    match f, h, e with
    | 0, _, _ => rfl
    | 1, _, _ => rfl
    | 2, _, _ => rfl
    | 3, _, _ => rfl
    | 4, _, _ => rfl
    | 5, _, _ => rfl
    | 6, _, _ => rfl
    | 7, _, _ => rfl
    | 8, _, _ => rfl
    | 9, _, _ => rfl
    | 10, _, _ => rfl
    | 11, _, _ => rfl
    | 12, h, e => exact up2_n _ _ (fun z => absurd z.2 (by decide))
    | 13, h, e => exact up2_n _ _ (fun z => e ⟨rfl, z.1, h.2⟩)
    | 14, h, e => exact up2_n _ _ (fun z => absurd z.2 (by decide))
    | 15, _, _ => rfl
    | 16, _, _ => rfl
    | 17, h, e => exact up2_n _ _ (fun z => absurd z.2 (by decide))
    | 18, h, e => exact up2_n _ _ (fun z => absurd z.2 (by decide))
    | 19, _, _ => rfl
    | 20, _, _ => rfl
    | 21, _, _ => rfl
    | 22, _, _ => rfl
    | 23, _, _ => rfl
    | 24, _, _ => rfl
    | 25, _, _ => rfl
    | 26, _, _ => rfl
    | f + 27, h, _ => exact h.elim
theorem V14 (A : AS) (b0 : Nat) (v : Int32) : ∀ f b k, dom f b k → av (s_bv A (up2 (a_bv A) b0 2 v)) f b k = if f = 14 ∧ b = b0 ∧ k = 0 then v else av A f b k := by
  intro f b k h
  by_cases e : f = 14 ∧ b = b0 ∧ k = 0
  · rw [if_pos e]; obtain ⟨rfl, rfl, rfl⟩ := e
    exact up2_s _ _ _ _
  · rw [if_neg e]
    match f, h, e with
    | 0, _, _ => rfl
    | 1, _, _ => rfl
    | 2, _, _ => rfl
    | 3, _, _ => rfl
    | 4, _, _ => rfl
    | 5, _, _ => rfl
    | 6, _, _ => rfl
    | 7, _, _ => rfl
    | 8, _, _ => rfl
    | 9, _, _ => rfl
    | 10, _, _ => rfl
    | 11, _, _ => rfl
    | 12, h, e => exact up2_n _ _ (fun z => absurd z.2 (by decide))
    | 13, h, e => exact up2_n _ _ (fun z => absurd z.2 (by decide))
    | 14, h, e => exact up2_n _ _ (fun z => e ⟨rfl, z.1, h.2⟩)
    | 15, _, _ => rfl
    | 16, _, _ => rfl
    | 17, h, e => exact up2_n _ _ (fun z => absurd z.2 (by decide))
    | 18, h, e => exact up2_n _ _ (fun z => absurd z.2 (by decide))
    | 19, _, _ => rfl
    | 20, _, _ => rfl
    | 21, _, _ => rfl
    | 22, _, _ => rfl
    | 23, _, _ => rfl
    | 24, _, _ => rfl
    | 25, _, _ => rfl
    | 26, _, _ => rfl
    | f + 27, h, _ => exact h.elim
theorem V15 (A : AS) (b0 : Nat) (v : Option Nat) : ∀ f b k, dom f b k → av (s_src A (up1 (a_src A) b0 v)) f b k = if f = 15 ∧ b = b0 ∧ k = 0 then encO v else av A f b k := by
  intro f b k h
  by_cases e : f = 15 ∧ b = b0 ∧ k = 0
  · rw [if_pos e]; obtain ⟨rfl, rfl, rfl⟩ := e
    exact congrArg encO (up1_s _ _ _)
  · rw [if_neg e]
    match f, h, e with
    | 0, _, _ => rfl
    | 1, _, _ => rfl
    | 2, _, _ => rfl
    | 3, _, _ => rfl
    | 4, _, _ => rfl
    | 5, _, _ => rfl
    | 6, _, _ => rfl
    | 7, _, _ => rfl
    | 8, _, _ => rfl
    | 9, _, _ => rfl
    | 10, _, _ => rfl
    | 11, _, _ => rfl
    | 12, _, _ => rfl
    | 13, _, _ => rfl
    | 14, _, _ => rfl
    | 15, h, e => exact congrArg encO (up1_n _ _ (fun z => e ⟨rfl, z, h.2⟩))
    | 16, _, _ => rfl
    | 17, _, _ => rfl
    | 18, _, _ => rfl
    | 19, _, _ => rfl
    | 20, _, _ => rfl
    | 21, _, _ => rfl
    | 22, _, _ => rfl
    | 23, _, _ => rfl
    | 24, _, _ => rfl
    | 25, _, _ => rfl
    | 26, _, _ => rfl
    | f + 27, h, _ => exact h.elim
theorem V16 (A : AS) (b0 : Nat) (v : Option Nat) : ∀ f b k, dom f b k → f ≠ 26 → av (s_sit A (up1 (a_sit A) b0 v)) f b k = if f = 16 ∧ b = b0 ∧ k = 0 then encO v else av A f b k := by
  intro f b k h h26
  by_cases e : f = 16 ∧ b = b0 ∧ k = 0
  · rw [if_pos e]; obtain ⟨rfl, rfl, rfl⟩ := e
    exact congrArg encO (up1_s _ _ _)
  · rw [if_neg e]
    match f, h, e, h26 with
    | 0, _, _, _ => rfl
    | 1, _, _, _ => rfl
    | 2, _, _, _ => rfl
    | 3, _, _, _ => rfl
    | 4, _, _, _ => rfl
    | 5, _, _, _ => rfl
    | 6, _, _, _ => rfl
    | 7, _, _, _ => rfl
    | 8, _, _, _ => rfl
    | 9, _, _, _ => rfl
    | 10, _, _, _ => rfl
    | 11, _, _, _ => rfl
    | 12, _, _, _ => rfl
    | 13, _, _, _ => rfl
    | 14, _, _, _ => rfl
    | 15, _, _, _ => rfl
    | 16, h, e, _ => exact congrArg encO (up1_n _ _ (fun z => e ⟨rfl, z, h.2⟩))
    | 17, _, _, _ => rfl
    | 18, _, _, _ => rfl
    | 19, _, _, _ => rfl
    | 20, _, _, _ => rfl
    | 21, _, _, _ => rfl
    | 22, _, _, _ => rfl
    | 23, _, _, _ => rfl
    | 24, _, _, _ => rfl
    | 25, _, _, _ => rfl
    | 26, _, _, h26 => exact (h26 rfl).elim
    | f + 27, h, _, _ => exact h.elim
theorem V17 (A : AS) (b0 : Nat) (v : Int32) : ∀ f b k, dom f b k → av (s_bv A (up2 (a_bv A) b0 3 v)) f b k = if f = 17 ∧ b = b0 ∧ k = 0 then v else av A f b k := by
  intro f b k h
  by_cases e : f = 17 ∧ b = b0 ∧ k = 0
  · rw [if_pos e]; obtain ⟨rfl, rfl, rfl⟩ := e
    exact up2_s _ _ _ _
  · rw [if_neg e]
    match f, h, e with
    | 0, _, _ => rfl
    | 1, _, _ => rfl
    | 2, _, _ => rfl
    | 3, _, _ => rfl
    | 4, _, _ => rfl
    | 5, _, _ => rfl
    | 6, _, _ => rfl
    | 7, _, _ => rfl
    | 8, _, _ => rfl
    | 9, _, _ => rfl
    | 10, _, _ => rfl
    | 11, _, _ => rfl
    | 12, h, e => exact up2_n _ _ (fun z => absurd z.2 (by decide))
    | 13, h, e => exact up2_n _ _ (fun z => absurd z.2 (by decide))
    | 14, h, e => exact up2_n _ _ (fun z => absurd z.2 (by decide))
    | 15, _, _ => rfl
    | 16, _, _ => rfl
    | 17, h, e => exact up2_n _ _ (fun z => e ⟨rfl, z.1, h.2⟩)
    | 18, h, e => exact up2_n _ _ (fun z => absurd z.2 (by decide))
    | 19, _, _ => rfl
    | 20, _, _ => rfl
    | 21, _, _ => rfl
    | 22, _, _ => rfl
    | 23, _, _ => rfl
    | 24, _, _ => rfl
    | 25, _, _ => rfl
    | 26, _, _ => rfl
    | f + 27, h, _ => exact h.elim
theorem V18 (A : AS) (b0 : Nat) (v : Int32) : ∀ f b k, dom f b k → av (s_bv A (up2 (a_bv A) b0 4 v)) f b k = if f = 18 ∧ b = b0 ∧ k = 0 then v else av A f b k := by
  intro f b k h
  by_cases e : f = 18 ∧ b = b0 ∧ k = 0
  · rw [if_pos e]; obtain ⟨rfl, rfl, rfl⟩ := e
    exact up2_s _ _ _ _
  · rw [if_neg e]
    match f, h, e with
    | 0, _, _ => rfl
    | 1, _, _ => rfl
    | 2, _, _ => rfl
    | 3, _, _ => rfl
    | 4, _, _ => rfl
    | 5, _, _ => rfl
    | 6, _, _ => rfl
    | 7, _, _ => rfl
    | 8, _, _ => rfl
    | 9, _, _ => rfl
    | 10, _, _ => rfl
    | 11, _, _ => rfl
    | 12, h, e => exact up2_n _ _ (fun z => absurd z.2 (by decide))
    | 13, h, e => exact up2_n _ _ (fun z => absurd z.2 (by decide))
    | 14, h, e => exact up2_n _ _ (fun z => absurd z.2 (by decide))
    | 15, _, _ => rfl
    | 16, _, _ => rfl
    | 17, h, e => exact up2_n _ _ (fun z => absurd z.2 (by decide))
    | 18, h, e => exact up2_n _ _ (fun z => e ⟨rfl, z.1, h.2⟩)
    | 19, _, _ => rfl
    | 20, _, _ => rfl
    | 21, _, _ => rfl
    | 22, _, _ => rfl
    | 23, _, _ => rfl
    | 24, _, _ => rfl
    | 25, _, _ => rfl
    | 26, _, _ => rfl
    | f + 27, h, _ => exact h.elim
theorem V21 (A : AS) (b0 k0 : Nat) (v : Int32) : ∀ f b k, dom f b k → av (s_hw A (up2 (a_hw A) b0 k0 v)) f b k = if f = 21 ∧ b = b0 ∧ k = k0 then v else av A f b k := by
  intro f b k h
  by_cases e : f = 21 ∧ b = b0 ∧ k = k0
  · rw [if_pos e]; obtain ⟨rfl, rfl, rfl⟩ := e
    exact up2_s _ _ _ _
  · rw [if_neg e]
    match f, h, e with
    | 0, _, _ => rfl
    | 1, _, _ => rfl
    | 2, _, _ => rfl
    | 3, _, _ => rfl
    | 4, _, _ => rfl
    | 5, _, _ => rfl
    | 6, _, _ => rfl
    | 7, _, _ => rfl
    | 8, _, _ => rfl
    | 9, _, _ => rfl
    | 10, _, _ => rfl
    | 11, _, _ => rfl
    | 12, _, _ => rfl
    | 13, _, _ => rfl
    | 14, _, _ => rfl
    | 15, _, _ => rfl
    | 16, _, _ => rfl
    | 17, _, _ => rfl
    | 18, _, _ => rfl
    | 19, _, _ => rfl
    | 20, _, _ => rfl
    | 21, h, e => exact up2_n _ _ (fun z => e ⟨rfl, z.1, z.2⟩)
    | 22, _, _ => rfl
    | 23, _, _ => rfl
    | 24, _, _ => rfl
    | 25, _, _ => rfl
    | 26, _, _ => rfl
    | f + 27, h, _ => exact h.elim
theorem V22 (A : AS) (b0 k0 : Nat) (v : Int32) : ∀ f b k, dom f b k → av (s_hs A (up2 (a_hs A) b0 k0 v)) f b k = if f = 22 ∧ b = b0 ∧ k = k0 then v else av A f b k := by
  intro f b k h
  by_cases e : f = 22 ∧ b = b0 ∧ k = k0
  · rw [if_pos e]; obtain ⟨rfl, rfl, rfl⟩ := e
    exact up2_s _ _ _ _
  · rw [if_neg e]
    match f, h, e with
    | 0, _, _ => rfl
    | 1, _, _ => rfl
    | 2, _, _ => rfl
    | 3, _, _ => rfl
    | 4, _, _ => rfl
    | 5, _, _ => rfl
    | 6, _, _ => rfl
    | 7, _, _ => rfl
    | 8, _, _ => rfl
    | 9, _, _ => rfl
    | 10, _, _ => rfl
    | 11, _, _ => rfl
    | 12, _, _ => rfl
    | 13, _, _ => rfl
    | 14, _, _ => rfl
    | 15, _, _ => rfl
    | 16, _, _ => rfl
    | 17, _, _ => rfl
    | 18, _, _ => rfl
    | 19, _, _ => rfl
    | 20, _, _ => rfl
    | 21, _, _ => rfl
    | 22, h, e => exact up2_n _ _ (fun z => e ⟨rfl, z.1, z.2⟩)
    | 23, _, _ => rfl
    | 24, _, _ => rfl
    | 25, _, _ => rfl
    | 26, _, _ => rfl
    | f + 27, h, _ => exact h.elim
theorem V23 (A : AS) (b0 : Nat) (v : Nat) : ∀ f b k, dom f b k → av (s_mn A (up1 (a_mn A) b0 v)) f b k = if f = 23 ∧ b = b0 ∧ k = 0 then nI v else av A f b k := by
  intro f b k h
  by_cases e : f = 23 ∧ b = b0 ∧ k = 0
  · rw [if_pos e]; obtain ⟨rfl, rfl, rfl⟩ := e
    exact congrArg nI (up1_s _ _ _)
  · rw [if_neg e]
    match f, h, e with
    | 0, _, _ => rfl
    | 1, _, _ => rfl
    | 2, _, _ => rfl
    | 3, _, _ => rfl
    | 4, _, _ => rfl
    | 5, _, _ => rfl
    | 6, _, _ => rfl
    | 7, _, _ => rfl
    | 8, _, _ => rfl
    | 9, _, _ => rfl
    | 10, _, _ => rfl
    | 11, _, _ => rfl
    | 12, _, _ => rfl
    | 13, _, _ => rfl
    | 14, _, _ => rfl
    | 15, _, _ => rfl
    | 16, _, _ => rfl
    | 17, _, _ => rfl
    | 18, _, _ => rfl
    | 19, _, _ => rfl
    | 20, _, _ => rfl
    | 21, _, _ => rfl
    | 22, _, _ => rfl
    | 23, h, e => exact congrArg nI (up1_n _ _ (fun z => e ⟨rfl, z, h.2⟩))
    | 24, _, _ => rfl
    | 25, _, _ => rfl
    | 26, _, _ => rfl
    | f + 27, h, _ => exact h.elim
theorem V24 (A : AS) (b0 k0 : Nat) (v : Int32) : ∀ f b k, dom f b k → av (s_sw A (up2 (a_sw A) b0 k0 v)) f b k = if f = 24 ∧ b = b0 ∧ k = k0 then v else av A f b k := by
  intro f b k h
  by_cases e : f = 24 ∧ b = b0 ∧ k = k0
  · rw [if_pos e]; obtain ⟨rfl, rfl, rfl⟩ := e
    exact up2_s _ _ _ _
  · rw [if_neg e]
    match f, h, e with
    | 0, _, _ => rfl
    | 1, _, _ => rfl
    | 2, _, _ => rfl
    | 3, _, _ => rfl
    | 4, _, _ => rfl
    | 5, _, _ => rfl
    | 6, _, _ => rfl
    | 7, _, _ => rfl
    | 8, _, _ => rfl
    | 9, _, _ => rfl
    | 10, _, _ => rfl
    | 11, _, _ => rfl
    | 12, _, _ => rfl
    | 13, _, _ => rfl
    | 14, _, _ => rfl
    | 15, _, _ => rfl
    | 16, _, _ => rfl
    | 17, _, _ => rfl
    | 18, _, _ => rfl
    | 19, _, _ => rfl
    | 20, _, _ => rfl
    | 21, _, _ => rfl
    | 22, _, _ => rfl
    | 23, _, _ => rfl
    | 24, h, e => exact up2_n _ _ (fun z => e ⟨rfl, z.1, z.2⟩)
    | 25, _, _ => rfl
    | 26, _, _ => rfl
    | f + 27, h, _ => exact h.elim
theorem V25 (A : AS) (b0 k0 : Nat) (v : Int32) : ∀ f b k, dom f b k → av (s_st A (up2 (a_st A) b0 k0 v)) f b k = if f = 25 ∧ b = b0 ∧ k = k0 then v else av A f b k := by
  intro f b k h
  by_cases e : f = 25 ∧ b = b0 ∧ k = k0
  · rw [if_pos e]; obtain ⟨rfl, rfl, rfl⟩ := e
    exact up2_s _ _ _ _
  · rw [if_neg e]
    match f, h, e with
    | 0, _, _ => rfl
    | 1, _, _ => rfl
    | 2, _, _ => rfl
    | 3, _, _ => rfl
    | 4, _, _ => rfl
    | 5, _, _ => rfl
    | 6, _, _ => rfl
    | 7, _, _ => rfl
    | 8, _, _ => rfl
    | 9, _, _ => rfl
    | 10, _, _ => rfl
    | 11, _, _ => rfl
    | 12, _, _ => rfl
    | 13, _, _ => rfl
    | 14, _, _ => rfl
    | 15, _, _ => rfl
    | 16, _, _ => rfl
    | 17, _, _ => rfl
    | 18, _, _ => rfl
    | 19, _, _ => rfl
    | 20, _, _ => rfl
    | 21, _, _ => rfl
    | 22, _, _ => rfl
    | 23, _, _ => rfl
    | 24, _, _ => rfl
    | 25, h, e => exact up2_n _ _ (fun z => e ⟨rfl, z.1, z.2⟩)
    | 26, _, _ => rfl
    | f + 27, h, _ => exact h.elim
theorem V19 (A : AS) (b0 v : Nat) : ∀ f b k, dom f b k → av (s_hd A (up1 (a_hd A) b0 v)) f b k = if f = 19 ∧ b = b0 ∧ k = 0 then nI v else if f = 20 ∧ b = b0 ∧ k = 0 then nI v else av A f b k := by
  intro f b k h
  by_cases e : f = 19 ∧ b = b0 ∧ k = 0
  · rw [if_pos e]; obtain ⟨rfl, rfl, rfl⟩ := e
    exact congrArg nI (up1_s _ _ _)
  · rw [if_neg e]
    by_cases e2 : f = 20 ∧ b = b0 ∧ k = 0
    · rw [if_pos e2]; obtain ⟨rfl, rfl, rfl⟩ := e2
      exact congrArg nI (up1_s _ _ _)
    · rw [if_neg e2]
      match f, h, e, e2 with
      | 0, _, _, _ => rfl
      | 1, _, _, _ => rfl
      | 2, _, _, _ => rfl
      | 3, _, _, _ => rfl
      | 4, _, _, _ => rfl
      | 5, _, _, _ => rfl
      | 6, _, _, _ => rfl
      | 7, _, _, _ => rfl
      | 8, _, _, _ => rfl
      | 9, _, _, _ => rfl
      | 10, _, _, _ => rfl
      | 11, _, _, _ => rfl
      | 12, _, _, _ => rfl
      | 13, _, _, _ => rfl
      | 14, _, _, _ => rfl
      | 15, _, _, _ => rfl
      | 16, _, _, _ => rfl
      | 17, _, _, _ => rfl
      | 18, _, _, _ => rfl
      | 19, h, e, _ => exact congrArg nI (up1_n _ _ (fun z => e ⟨rfl, z, h.2⟩))
      | 20, h, _, e => exact congrArg nI (up1_n _ _ (fun z => e ⟨rfl, z, h.2⟩))
      | 21, _, _, _ => rfl
      | 22, _, _, _ => rfl
      | 23, _, _, _ => rfl
      | 24, _, _, _ => rfl
      | 25, _, _, _ => rfl
      | 26, _, _, _ => rfl
      | f + 27, h, _, _ => exact h.elim
