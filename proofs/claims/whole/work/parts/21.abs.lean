/-! The mathematical state, and what it is for cells to hold it. -/
/-- tick, text left, interpreters, booths; floor's language; text; interpreters' fields; booths' fields; sources; sitters; held; words held; since; many said; said; when -/
abbrev AS : Type := (Nat × Nat × Nat × Nat) × Int32 × (Nat → Int32) × (Nat → Nat → Int32) × (Nat → Nat → Int32) × (Nat → Option Nat) × (Nat → Option Nat) × (Nat → Nat) × (Nat → Nat → Int32) × (Nat → Nat → Int32) × (Nat → Nat) × (Nat → Nat → Int32) × (Nat → Nat → Int32)
abbrev a_t (A : AS) : Nat := A.1.1
abbrev a_lf (A : AS) : Nat := A.1.2.1
abbrev a_ni (A : AS) : Nat := A.1.2.2.1
abbrev a_nb (A : AS) : Nat := A.1.2.2.2
abbrev a_lang (A : AS) : Int32 := A.2.1
abbrev a_tx (A : AS) : Nat → Int32 := A.2.2.1
abbrev a_iv (A : AS) : Nat → Nat → Int32 := A.2.2.2.1
abbrev a_bv (A : AS) : Nat → Nat → Int32 := A.2.2.2.2.1
abbrev a_src (A : AS) : Nat → Option Nat := A.2.2.2.2.2.1
abbrev a_sit (A : AS) : Nat → Option Nat := A.2.2.2.2.2.2.1
abbrev a_hd (A : AS) : Nat → Nat := A.2.2.2.2.2.2.2.1
abbrev a_hw (A : AS) : Nat → Nat → Int32 := A.2.2.2.2.2.2.2.2.1
abbrev a_hs (A : AS) : Nat → Nat → Int32 := A.2.2.2.2.2.2.2.2.2.1
abbrev a_mn (A : AS) : Nat → Nat := A.2.2.2.2.2.2.2.2.2.2.1
abbrev a_sw (A : AS) : Nat → Nat → Int32 := A.2.2.2.2.2.2.2.2.2.2.2.1
abbrev a_st (A : AS) : Nat → Nat → Int32 := A.2.2.2.2.2.2.2.2.2.2.2.2
abbrev mkA (t lf ni nb : Nat) (lang : Int32) (tx : Nat → Int32) (iv bv : Nat → Nat → Int32) (src sit : Nat → Option Nat) (hd : Nat → Nat) (hw hs : Nat → Nat → Int32) (mn : Nat → Nat) (sw st : Nat → Nat → Int32) : AS := ((t, lf, ni, nb), lang, tx, iv, bv, src, sit, hd, hw, hs, mn, sw, st)
/-- one place changed -/
def up1 {α : Type} (f : Nat → α) (k : Nat) (v : α) : Nat → α := fun j => if j = k then v else f j
def up2 {α : Type} (f : Nat → Nat → α) (i k : Nat) (v : α) : Nat → Nat → α := fun a b => if a = i ∧ b = k then v else f a b
theorem up1_s {α : Type} (f : Nat → α) (k : Nat) (v : α) : up1 f k v k = v := if_pos rfl
theorem up1_n {α : Type} (f : Nat → α) {k j : Nat} (v : α) (h : j ≠ k) : up1 f k v j = f j := if_neg h
theorem up2_s {α : Type} (f : Nat → Nat → α) (i k : Nat) (v : α) : up2 f i k v i k = v := if_pos ⟨rfl, rfl⟩
theorem up2_n {α : Type} (f : Nat → Nat → α) {i k a b : Nat} (v : α) (h : ¬ (a = i ∧ b = k)) : up2 f i k v a b = f a b := if_neg h
def encO (x : Option Nat) : Int32 := match x with
  | none => -1
  | some k => nI k
/-- the booth where an interpreter sits: the greatest one, as the reference looks for it -/
def seatOf (sit : Nat → Option Nat) (i : Nat) : Nat → Option Nat
  | 0 => none
  | n + 1 => if sit n = some i then some n else seatOf sit i n
/-- the value of a place: field, booth or interpreter, place in a row -/
def av (A : AS) (f b k : Nat) : Int32 := match f with
  | 0 => nI (a_t A)
  | 1 => a_lang A
  | 2 => nI (a_lf A)
  | 3 => nI (a_ni A)
  | 4 => nI (a_nb A)
  | 5 => a_tx A k
  | 6 => a_iv A b 0
  | 7 => a_iv A b 1
  | 8 => a_iv A b 2
  | 9 => a_iv A b 3
  | 10 => a_iv A b 4
  | 11 => a_iv A b 5
  | 12 => a_bv A b 0
  | 13 => a_bv A b 1
  | 14 => a_bv A b 2
  | 15 => encO (a_src A b)
  | 16 => encO (a_sit A b)
  | 17 => a_bv A b 3
  | 18 => a_bv A b 4
  | 19 => nI (a_hd A b)
  | 20 => nI (a_hd A b)
  | 21 => a_hw A b k
  | 22 => a_hs A b k
  | 23 => nI (a_mn A b)
  | 24 => a_sw A b k
  | 25 => a_st A b k
  | _ => encO (seatOf (a_sit A) b (a_nb A))
/-- the places that there can be -/
def dom (f b k : Nat) : Prop := match f with
  | 0 => b = 0 ∧ k = 0
  | 1 => b = 0 ∧ k = 0
  | 2 => b = 0 ∧ k = 0
  | 3 => b = 0 ∧ k = 0
  | 4 => b = 0 ∧ k = 0
  | 5 => b = 0 ∧ k < 120
  | 6 => b < 8 ∧ k = 0
  | 7 => b < 8 ∧ k = 0
  | 8 => b < 8 ∧ k = 0
  | 9 => b < 8 ∧ k = 0
  | 10 => b < 8 ∧ k = 0
  | 11 => b < 8 ∧ k = 0
  | 12 => b < 6 ∧ k = 0
  | 13 => b < 6 ∧ k = 0
  | 14 => b < 6 ∧ k = 0
  | 15 => b < 6 ∧ k = 0
  | 16 => b < 6 ∧ k = 0
  | 17 => b < 6 ∧ k = 0
  | 18 => b < 6 ∧ k = 0
  | 19 => b < 6 ∧ k = 0
  | 20 => b < 6 ∧ k = 0
  | 21 => b < 6 ∧ k < 12
  | 22 => b < 6 ∧ k < 12
  | 23 => b < 7 ∧ k = 0
  | 24 => b < 7 ∧ k < 400
  | 25 => b < 7 ∧ k < 400
  | 26 => b < 8 ∧ k = 0
  | _ => False
/-- the places that count: NB booths and NI interpreters -/
def vd (NB NI : Nat) (A : AS) (f b k : Nat) : Prop := dom f b k ∧ match f with
  | 5 => k < a_lf A
  | 6 => b < NI
  | 7 => b < NI
  | 8 => b < NI
  | 9 => b < NI
  | 10 => b < NI
  | 11 => b < NI
  | 12 => b < NB
  | 13 => b < NB
  | 14 => b < NB
  | 15 => b < NB
  | 16 => b < NB
  | 17 => b < NB
  | 18 => b < NB
  | 19 => b < NB
  | 20 => b < NB
  | 21 => b < NB ∧ k < a_hd A b
  | 22 => b < NB ∧ k < a_hd A b
  | 23 => b < NB + 1
  | 24 => b < NB + 1 ∧ k < a_mn A b
  | 25 => b < NB + 1 ∧ k < a_mn A b
  | 26 => b < NI
  | _ => True
/-- the class's cell of a place, behind the summit's own -/
def cC (f b : Nat) : Nat := match f with
  | 0 => 0
  | 1 => 0
  | 2 => 1
  | 3 => 0
  | 4 => 0
  | 5 => 2
  | 6 => 56 + b
  | 7 => 56 + b
  | 8 => 56 + b
  | 9 => 56 + b
  | 10 => 56 + b
  | 11 => 56 + b
  | 12 => 8 + 8 * b
  | 13 => 8 + 8 * b
  | 14 => 8 + 8 * b
  | 15 => 8 + 8 * b
  | 16 => 8 + 8 * b
  | 17 => 8 + 8 * b
  | 18 => 8 + 8 * b
  | 19 => 9 + 8 * b
  | 20 => 11 + 8 * b
  | 21 => 10 + 8 * b
  | 22 => 12 + 8 * b
  | 23 => if b = 0 then 3 else 5 + 8 * b
  | 24 => if b = 0 then 4 else 6 + 8 * b
  | 25 => if b = 0 then 5 else 7 + 8 * b
  | _ => 56 + b
/-- the class's slot of a place -/
def cK (f k : Nat) : Nat := match f with
  | 0 => 8
  | 1 => 5
  | 2 => 1
  | 3 => 7
  | 4 => 6
  | 5 => k
  | 6 => 0
  | 7 => 1
  | 8 => 3
  | 9 => 4
  | 10 => 5
  | 11 => 6
  | 12 => 3
  | 13 => 4
  | 14 => 5
  | 15 => 6
  | 16 => 7
  | 17 => 9
  | 18 => 8
  | 19 => 1
  | 20 => 1
  | 21 => k
  | 22 => k
  | 23 => 2
  | 24 => k
  | 25 => k
  | _ => 2
/-- the reference's cell of a place, behind the state's own -/
def mC (f : Nat) : Nat := match f with
  | 0 => 0
  | 1 => 0
  | 2 => 0
  | 3 => 0
  | 4 => 0
  | 5 => 1
  | 6 => 2
  | 7 => 3
  | 8 => 4
  | 9 => 5
  | 10 => 6
  | 11 => 7
  | 12 => 8
  | 13 => 9
  | 14 => 10
  | 15 => 11
  | 16 => 12
  | 17 => 13
  | 18 => 14
  | 19 => 15
  | 20 => 90
  | 21 => 16
  | 22 => 17
  | 23 => 18
  | 24 => 19
  | 25 => 20
  | _ => 91
def mK (f b k : Nat) : Nat := match f with
  | 0 => 0
  | 1 => 1
  | 2 => 3
  | 3 => 4
  | 4 => 11
  | 5 => k
  | 21 => 12 * b + k
  | 22 => 12 * b + k
  | 24 => 400 * b + k
  | 25 => 400 * b + k
  | _ => b
/-- a place of the class by its cell and slot -/
def cDec (c s : Nat) : Nat × Nat × Nat :=
  if c = 0 then (if s = 8 then (0, 0, 0) else if s = 5 then (1, 0, 0) else if s = 7 then (3, 0, 0) else (4, 0, 0))
  else if c = 1 then (2, 0, 0) else if c = 2 then (5, 0, s) else if c = 3 then (23, 0, 0) else if c = 4 then (24, 0, s) else if c = 5 then (25, 0, s)
  else if c < 56 then
    (if c % 8 = 0 then ((if s = 3 then 12 else if s = 4 then 13 else if s = 5 then 14 else if s = 6 then 15 else if s = 7 then 16 else if s = 9 then 17 else 18), c / 8 - 1, 0)
     else if c % 8 = 1 then (19, c / 8 - 1, 0) else if c % 8 = 2 then (21, c / 8 - 1, s) else if c % 8 = 3 then (20, c / 8 - 1, 0) else if c % 8 = 4 then (22, c / 8 - 1, s)
     else if c % 8 = 5 then (23, c / 8, 0) else if c % 8 = 6 then (24, c / 8, s) else (25, c / 8, s))
  else ((if s = 0 then 6 else if s = 1 then 7 else if s = 3 then 8 else if s = 4 then 9 else if s = 5 then 10 else if s = 6 then 11 else 26), c - 56, 0)
def mDec (c s : Nat) : Nat × Nat × Nat :=
  if c = 0 then (if s = 0 then (0, 0, 0) else if s = 1 then (1, 0, 0) else if s = 3 then (2, 0, 0) else if s = 4 then (3, 0, 0) else (4, 0, 0))
  else if c = 1 then (5, 0, s) else if c = 16 then (21, s / 12, s % 12) else if c = 17 then (22, s / 12, s % 12) else if c = 19 then (24, s / 400, s % 400) else if c = 20 then (25, s / 400, s % 400)
  else if c = 18 then (23, s, 0) else if c = 90 then (20, s, 0) else if c = 91 then (26, s, 0) else if c ≤ 15 then (c + 4, s, 0) else (27, 0, 0)
theorem cDec_of : ∀ f b k, dom f b k → cDec (cC f b) (cK f k) = (f, b, k) := by
  intro f b k h
  match f, h with
  | 0, h => obtain ⟨rfl, rfl⟩ := h; rfl
  | 1, h => obtain ⟨rfl, rfl⟩ := h; rfl
  | 2, h => obtain ⟨rfl, rfl⟩ := h; rfl
  | 3, h => obtain ⟨rfl, rfl⟩ := h; rfl
  | 4, h => obtain ⟨rfl, rfl⟩ := h; rfl
  | 5, h => obtain ⟨rfl, h⟩ := h; rfl
  | 6, h =>
    obtain ⟨h, rfl⟩ := h
    show cDec (56 + b) 0 = _
    unfold cDec
    rw [if_neg (by omega), if_neg (by omega), if_neg (by omega), if_neg (by omega), if_neg (by omega), if_neg (by omega), if_neg (by omega)]
    simp only [Prod.mk.injEq, and_true]
    exact ⟨rfl, by omega⟩
  | 7, h =>
    obtain ⟨h, rfl⟩ := h
    show cDec (56 + b) 1 = _
    unfold cDec
    rw [if_neg (by omega), if_neg (by omega), if_neg (by omega), if_neg (by omega), if_neg (by omega), if_neg (by omega), if_neg (by omega)]
    simp only [Prod.mk.injEq, and_true]
    exact ⟨rfl, by omega⟩
  | 8, h =>
    obtain ⟨h, rfl⟩ := h
    show cDec (56 + b) 3 = _
    unfold cDec
    rw [if_neg (by omega), if_neg (by omega), if_neg (by omega), if_neg (by omega), if_neg (by omega), if_neg (by omega), if_neg (by omega)]
    simp only [Prod.mk.injEq, and_true]
    exact ⟨rfl, by omega⟩
  | 9, h =>
    obtain ⟨h, rfl⟩ := h
    show cDec (56 + b) 4 = _
    unfold cDec
    rw [if_neg (by omega), if_neg (by omega), if_neg (by omega), if_neg (by omega), if_neg (by omega), if_neg (by omega), if_neg (by omega)]
    simp only [Prod.mk.injEq, and_true]
    exact ⟨rfl, by omega⟩
  | 10, h =>
    obtain ⟨h, rfl⟩ := h
    show cDec (56 + b) 5 = _
    unfold cDec
    rw [if_neg (by omega), if_neg (by omega), if_neg (by omega), if_neg (by omega), if_neg (by omega), if_neg (by omega), if_neg (by omega)]
    simp only [Prod.mk.injEq, and_true]
    exact ⟨rfl, by omega⟩
  | 11, h =>
    obtain ⟨h, rfl⟩ := h
    show cDec (56 + b) 6 = _
    unfold cDec
    rw [if_neg (by omega), if_neg (by omega), if_neg (by omega), if_neg (by omega), if_neg (by omega), if_neg (by omega), if_neg (by omega)]
    simp only [Prod.mk.injEq, and_true]
    exact ⟨rfl, by omega⟩
  | 26, h =>
    obtain ⟨h, rfl⟩ := h
    show cDec (56 + b) 2 = _
    unfold cDec
    rw [if_neg (by omega), if_neg (by omega), if_neg (by omega), if_neg (by omega), if_neg (by omega), if_neg (by omega), if_neg (by omega)]
    simp only [Prod.mk.injEq, and_true]
    exact ⟨rfl, by omega⟩
  | 12, h =>
    obtain ⟨h, rfl⟩ := h
    show cDec (8 + 8 * b) 3 = _
    unfold cDec
    rw [if_neg (by omega), if_neg (by omega), if_neg (by omega), if_neg (by omega), if_neg (by omega), if_neg (by omega), if_pos (by omega), if_pos (by omega)]
    simp only [Prod.mk.injEq, and_true]
    exact ⟨rfl, by omega⟩
  | 13, h =>
    obtain ⟨h, rfl⟩ := h
    show cDec (8 + 8 * b) 4 = _
    unfold cDec
    rw [if_neg (by omega), if_neg (by omega), if_neg (by omega), if_neg (by omega), if_neg (by omega), if_neg (by omega), if_pos (by omega), if_pos (by omega)]
    simp only [Prod.mk.injEq, and_true]
    exact ⟨rfl, by omega⟩
  | 14, h =>
    obtain ⟨h, rfl⟩ := h
    show cDec (8 + 8 * b) 5 = _
    unfold cDec
    rw [if_neg (by omega), if_neg (by omega), if_neg (by omega), if_neg (by omega), if_neg (by omega), if_neg (by omega), if_pos (by omega), if_pos (by omega)]
    simp only [Prod.mk.injEq, and_true]
    exact ⟨rfl, by omega⟩
  | 15, h =>
    obtain ⟨h, rfl⟩ := h
    show cDec (8 + 8 * b) 6 = _
    unfold cDec
    rw [if_neg (by omega), if_neg (by omega), if_neg (by omega), if_neg (by omega), if_neg (by omega), if_neg (by omega), if_pos (by omega), if_pos (by omega)]
    simp only [Prod.mk.injEq, and_true]
    exact ⟨rfl, by omega⟩
  | 16, h =>
    obtain ⟨h, rfl⟩ := h
    show cDec (8 + 8 * b) 7 = _
    unfold cDec
    rw [if_neg (by omega), if_neg (by omega), if_neg (by omega), if_neg (by omega), if_neg (by omega), if_neg (by omega), if_pos (by omega), if_pos (by omega)]
    simp only [Prod.mk.injEq, and_true]
    exact ⟨rfl, by omega⟩
  | 17, h =>
    obtain ⟨h, rfl⟩ := h
    show cDec (8 + 8 * b) 9 = _
    unfold cDec
    rw [if_neg (by omega), if_neg (by omega), if_neg (by omega), if_neg (by omega), if_neg (by omega), if_neg (by omega), if_pos (by omega), if_pos (by omega)]
    simp only [Prod.mk.injEq, and_true]
    exact ⟨rfl, by omega⟩
  | 18, h =>
    obtain ⟨h, rfl⟩ := h
    show cDec (8 + 8 * b) 8 = _
    unfold cDec
    rw [if_neg (by omega), if_neg (by omega), if_neg (by omega), if_neg (by omega), if_neg (by omega), if_neg (by omega), if_pos (by omega), if_pos (by omega)]
    simp only [Prod.mk.injEq, and_true]
    exact ⟨rfl, by omega⟩
  | 19, h =>
    obtain ⟨h, rfl⟩ := h
    show cDec (9 + 8 * b) 1 = _
    unfold cDec
    rw [if_neg (by omega), if_neg (by omega), if_neg (by omega), if_neg (by omega), if_neg (by omega), if_neg (by omega), if_pos (by omega), if_neg (by omega), if_pos (by omega)]
    simp only [Prod.mk.injEq, true_and, and_true]; omega
  | 20, h =>
    obtain ⟨h, rfl⟩ := h
    show cDec (11 + 8 * b) 1 = _
    unfold cDec
    rw [if_neg (by omega), if_neg (by omega), if_neg (by omega), if_neg (by omega), if_neg (by omega), if_neg (by omega), if_pos (by omega), if_neg (by omega), if_neg (by omega), if_neg (by omega), if_pos (by omega)]
    simp only [Prod.mk.injEq, true_and, and_true]; omega
  | 21, h =>
    obtain ⟨h, h2⟩ := h
    show cDec (10 + 8 * b) k = _
    unfold cDec
    rw [if_neg (by omega), if_neg (by omega), if_neg (by omega), if_neg (by omega), if_neg (by omega), if_neg (by omega), if_pos (by omega), if_neg (by omega), if_neg (by omega), if_pos (by omega)]
    simp only [Prod.mk.injEq, true_and, and_true]; omega
  | 22, h =>
    obtain ⟨h, h2⟩ := h
    show cDec (12 + 8 * b) k = _
    unfold cDec
    rw [if_neg (by omega), if_neg (by omega), if_neg (by omega), if_neg (by omega), if_neg (by omega), if_neg (by omega), if_pos (by omega), if_neg (by omega), if_neg (by omega), if_neg (by omega), if_neg (by omega), if_pos (by omega)]
    simp only [Prod.mk.injEq, true_and, and_true]; omega
  | 23, h =>
    obtain ⟨h, rfl⟩ := h
    show cDec (if b = 0 then 3 else 5 + 8 * b) 2 = _
    by_cases hb : b = 0
    · subst hb; rfl
    · rw [if_neg hb]
      unfold cDec
      rw [if_neg (by omega), if_neg (by omega), if_neg (by omega), if_neg (by omega), if_neg (by omega), if_neg (by omega), if_pos (by omega), if_neg (by omega), if_neg (by omega), if_neg (by omega), if_neg (by omega), if_neg (by omega), if_pos (by omega)]
      simp only [Prod.mk.injEq, true_and, and_true]; omega
  | 24, h =>
    obtain ⟨h, h2⟩ := h
    show cDec (if b = 0 then 4 else 6 + 8 * b) k = _
    by_cases hb : b = 0
    · subst hb; rfl
    · rw [if_neg hb]
      unfold cDec
      rw [if_neg (by omega), if_neg (by omega), if_neg (by omega), if_neg (by omega), if_neg (by omega), if_neg (by omega), if_pos (by omega), if_neg (by omega), if_neg (by omega), if_neg (by omega), if_neg (by omega), if_neg (by omega), if_neg (by omega), if_pos (by omega)]
      simp only [Prod.mk.injEq, true_and, and_true]; omega
  | 25, h =>
    obtain ⟨h, h2⟩ := h
    show cDec (if b = 0 then 5 else 7 + 8 * b) k = _
    by_cases hb : b = 0
    · subst hb; rfl
    · rw [if_neg hb]
      unfold cDec
      rw [if_neg (by omega), if_neg (by omega), if_neg (by omega), if_neg (by omega), if_neg (by omega), if_neg (by omega), if_pos (by omega), if_neg (by omega), if_neg (by omega), if_neg (by omega), if_neg (by omega), if_neg (by omega), if_neg (by omega), if_neg (by omega)]
      simp only [Prod.mk.injEq, true_and, and_true]; omega
  | f + 27, h => exact h.elim
theorem mDec_of : ∀ f b k, dom f b k → mDec (mC f) (mK f b k) = (f, b, k) := by
  intro f b k h
  match f, h with
  | 0, h => obtain ⟨rfl, rfl⟩ := h; rfl
  | 1, h => obtain ⟨rfl, rfl⟩ := h; rfl
  | 2, h => obtain ⟨rfl, rfl⟩ := h; rfl
  | 3, h => obtain ⟨rfl, rfl⟩ := h; rfl
  | 4, h => obtain ⟨rfl, rfl⟩ := h; rfl
  | 5, h => obtain ⟨rfl, h⟩ := h; rfl
  | 6, h => obtain ⟨h, rfl⟩ := h; rfl
  | 7, h => obtain ⟨h, rfl⟩ := h; rfl
  | 8, h => obtain ⟨h, rfl⟩ := h; rfl
  | 9, h => obtain ⟨h, rfl⟩ := h; rfl
  | 10, h => obtain ⟨h, rfl⟩ := h; rfl
  | 11, h => obtain ⟨h, rfl⟩ := h; rfl
  | 12, h => obtain ⟨h, rfl⟩ := h; rfl
  | 13, h => obtain ⟨h, rfl⟩ := h; rfl
  | 14, h => obtain ⟨h, rfl⟩ := h; rfl
  | 15, h => obtain ⟨h, rfl⟩ := h; rfl
  | 16, h => obtain ⟨h, rfl⟩ := h; rfl
  | 17, h => obtain ⟨h, rfl⟩ := h; rfl
  | 18, h => obtain ⟨h, rfl⟩ := h; rfl
  | 19, h => obtain ⟨h, rfl⟩ := h; rfl
  | 20, h => obtain ⟨h, rfl⟩ := h; rfl
  | 23, h => obtain ⟨h, rfl⟩ := h; rfl
  | 26, h => obtain ⟨h, rfl⟩ := h; rfl
  | 21, h =>
    obtain ⟨h, h2⟩ := h
    show (21, (12 * b + k) / 12, (12 * b + k) % 12) = _
    simp only [Prod.mk.injEq, true_and]; omega
  | 22, h =>
    obtain ⟨h, h2⟩ := h
    show (22, (12 * b + k) / 12, (12 * b + k) % 12) = _
    simp only [Prod.mk.injEq, true_and]; omega
  | 24, h =>
    obtain ⟨h, h2⟩ := h
    show (24, (400 * b + k) / 400, (400 * b + k) % 400) = _
    simp only [Prod.mk.injEq, true_and]; omega
  | 25, h =>
    obtain ⟨h, h2⟩ := h
    show (25, (400 * b + k) / 400, (400 * b + k) % 400) = _
    simp only [Prod.mk.injEq, true_and]; omega
  | f + 27, h => exact h.elim
/-- cells hold numbers: by a map of places to cells; at the places of D the numbers a -/
def RepD (aC : Nat → Nat → Nat) (aK : Nat → Nat → Nat → Nat) (D : Nat → Nat → Nat → Prop) (a : Nat → Nat → Nat → Int32) (μ : MM) : Prop := ∀ f b k, D f b k → dom f b k ∧ rI μ (aC f b) (aK f b k) = a f b k
def Inj3 (aC : Nat → Nat → Nat) (aK : Nat → Nat → Nat → Nat) : Prop := ∀ f b k f' b' k', dom f b k → dom f' b' k' → aC f b = aC f' b' → aK f b k = aK f' b' k' → f = f' ∧ b = b' ∧ k = k'
abbrev cAd (o : Nat) : Nat → Nat → Nat := fun f b => o + cC f b
abbrev cSl : Nat → Nat → Nat → Nat := fun f _ k => cK f k
abbrev mAd (p : Nat) : Nat → Nat → Nat := fun f _ => p + mC f
theorem cInj (o : Nat) : Inj3 (cAd o) cSl := by
  intro f b k f' b' k' h h' e1 e2
  have a := cDec_of f b k h
  have c := cDec_of f' b' k' h'
  rw [Nat.add_left_cancel e1, show cK f k = cK f' k' from e2, c] at a
  cases a
  exact ⟨rfl, rfl, rfl⟩
theorem mInj (p : Nat) : Inj3 (mAd p) mK := by
  intro f b k f' b' k' h h' e1 e2
  have a := mDec_of f b k h
  have c := mDec_of f' b' k' h'
  rw [Nat.add_left_cancel e1, e2, c] at a
  cases a
  exact ⟨rfl, rfl, rfl⟩
section RD
variable {aC : Nat → Nat → Nat} {aK : Nat → Nat → Nat → Nat} {D : Nat → Nat → Nat → Prop} {a : Nat → Nat → Nat → Int32} {μ : MM}
theorem RepD.w (inj : Inj3 aC aK) (h : RepD aC aK D a μ) (f0 b0 k0 : Nat) (hd : dom f0 b0 k0) {q s : Nat} (v : Int32) (hq : q = aC f0 b0) (hs : s = aK f0 b0 k0) : RepD aC aK (fun f b k => D f b k ∨ (f = f0 ∧ b = b0 ∧ k = k0)) (fun f b k => if f = f0 ∧ b = b0 ∧ k = k0 then v else a f b k) (wI μ q s v) := by
  intro f b k hD
  subst hq; subst hs
  by_cases e : f = f0 ∧ b = b0 ∧ k = k0
  · obtain ⟨rfl, rfl, rfl⟩ := e
    refine ⟨hd, ?_⟩
    show _ = if _ then _ else _
    rw [rI_wI, if_pos ⟨rfl, rfl⟩, if_pos ⟨rfl, rfl, rfl⟩]
  · have h1 := h f b k (hD.resolve_right e)
    refine ⟨h1.1, ?_⟩
    show _ = if _ then _ else _
    rw [rI_wI, if_neg (fun z => e (inj _ _ _ _ _ _ h1.1 hd z.1 z.2)), if_neg e]
    exact h1.2
/-- a row moved down by one -/
theorem RepD.c (h : RepD aC aK D a μ) (f0 b0 n : Nat) {q : Nat} (hq : q = aC f0 b0) (hcell : ∀ f b k, dom f b k → aC f b = aC f0 b0 → f = f0 ∧ b = b0) (hk : ∀ k, aK f0 b0 k = k) : RepD aC aK (fun f b k => dom f b k ∧ if f = f0 ∧ b = b0 ∧ k < n then D f b (k + 1) else D f b k) (fun f b k => if f = f0 ∧ b = b0 ∧ k < n then a f b (k + 1) else a f b k) (wC μ q 1 q 0 n) := by
  intro f b k hD
  subst hq
  refine ⟨hD.1, ?_⟩
  show _ = if _ then _ else _
  rw [rI_wC]
  by_cases e : f = f0 ∧ b = b0 ∧ k < n
  · have h2 := hD.2
    rw [if_pos e] at h2
    rw [if_pos e]
    obtain ⟨rfl, rfl, hn⟩ := e
    rw [if_pos rfl, hk, if_pos ⟨Nat.zero_le _, by omega⟩]
    have h3 := (h f b (k + 1) h2).2
    rw [hk] at h3
    rw [← h3, show 1 + (k - 0) = k + 1 by omega]
  · have h2 := hD.2
    rw [if_neg e] at h2
    rw [if_neg e]
    have h3 := (h f b k h2)
    by_cases e2 : aC f b = aC f0 b0
    · obtain ⟨rfl, rfl⟩ := hcell f b k hD.1 e2
      rw [if_pos rfl, hk, if_neg (fun z => e ⟨rfl, rfl, by omega⟩)]
      rw [← h3.2, hk]
    · rw [if_neg e2]
      exact h3.2
/-- fewer places, the same numbers there -/
theorem RepD.to {D' : Nat → Nat → Nat → Prop} {a' : Nat → Nat → Nat → Int32} (h : RepD aC aK D a μ) (hs : ∀ f b k, D' f b k → D f b k ∧ a f b k = a' f b k) : RepD aC aK D' a' μ := by
  intro f b k hD
  have h1 := hs f b k hD
  exact ⟨(h f b k h1.1).1, by rw [(h f b k h1.1).2, h1.2]⟩
theorem RepD.of_eq {μ' : MM} (h : RepD aC aK D a μ) (he : ∀ f b k, dom f b k → rI μ' (aC f b) (aK f b k) = rI μ (aC f b) (aK f b k)) : RepD aC aK D a μ' := by
  intro f b k hD
  have h1 := h f b k hD
  exact ⟨h1.1, by rw [he f b k h1.1, h1.2]⟩
theorem RepD.r (h : RepD aC aK D a μ) (f b k : Nat) (hD : D f b k) {q s : Nat} (hq : q = aC f b) (hs : s = aK f b k) : rI μ q s = a f b k := by
  subst hq; subst hs
  exact (h f b k hD).2
end RD
/-- the class's summit at o holds A, with NB booths and NI interpreters -/
def CR (o NB NI : Nat) (μ : MM) (A : AS) : Prop := RepD (cAd o) cSl (vd NB NI A) (av A) μ
/-- the reference's state at p holds A; a booth that isn't there has no source, sitter, second part -/
def vm (A : AS) (f b k : Nat) : Prop := vd 6 8 A f b k ∧ (f ≠ 20 ∧ f ≠ 26) ∧ (f = 15 ∨ f = 16 ∨ f = 18 → b < a_nb A)
def MR (p : Nat) (μ : MM) (A : AS) : Prop := RepD (mAd p) mK (vm A) (av A) μ
theorem cCell {o f b k f0 b0 : Nat} (hf : f0 = 5 ∨ f0 = 21 ∨ f0 = 22) (hd0 : dom f0 b0 0) (h : dom f b k) (e : cAd o f b = cAd o f0 b0) : f = f0 ∧ b = b0 := by
  have a := cDec_of f b k h
  rw [Nat.add_left_cancel e] at a
  have c : ∀ s, ∃ s2, cDec (cC f0 b0) s = (f0, b0, s2) := by
    intro s
    rcases hf with rfl | rfl | rfl
    · obtain ⟨rfl, -⟩ := hd0
      exact ⟨s, rfl⟩
    · obtain ⟨h1, -⟩ := hd0
      refine ⟨s, ?_⟩
      show cDec (10 + 8 * b0) s = _
      unfold cDec
      rw [if_neg (by omega), if_neg (by omega), if_neg (by omega), if_neg (by omega), if_neg (by omega), if_neg (by omega), if_pos (by omega), if_neg (by omega), if_neg (by omega), if_pos (by omega)]
      simp only [Prod.mk.injEq, true_and, and_true]; omega
    · obtain ⟨h1, -⟩ := hd0
      refine ⟨s, ?_⟩
      show cDec (12 + 8 * b0) s = _
      unfold cDec
      rw [if_neg (by omega), if_neg (by omega), if_neg (by omega), if_neg (by omega), if_neg (by omega), if_neg (by omega), if_pos (by omega), if_neg (by omega), if_neg (by omega), if_neg (by omega), if_neg (by omega), if_pos (by omega)]
      simp only [Prod.mk.injEq, true_and, and_true]; omega
  obtain ⟨s2, hc⟩ := c (cK f k)
  rw [hc] at a
  cases a
  exact ⟨rfl, rfl⟩
theorem if_f {α : Type} {f f0 : Nat} {P : Prop} [Decidable P] {v x : α} (h : f ≠ f0) : (if f = f0 ∧ P then v else x) = x := if_neg (fun z => h z.1)
