abbrev inb (i : Int32) (n : Nat) : Prop := ¬ (i < 0 ∨ n ≤ i.toNatClampNeg)
def bV {α β : Type} (x : α) (f : α → β) : β := f x
def bP {α β γ : Type} (x : α × β) (f : α → β → γ) : γ := f x.1 x.2
def bO1 {α β : Type} (x : Option α) (f : α → Option β) : Option β := match x with
  | none => none
  | some a => f a
def bO2 {α β γ : Type} (x : Option (α × β)) (f : α → β → Option γ) : Option γ := match x with
  | none => none
  | some a => f a.1 a.2
def bO3 {α β γ δ : Type} (x : Option (α × β × γ)) (f : α → β → γ → Option δ) : Option δ := match x with
  | none => none
  | some a => f a.1 a.2.1 a.2.2
def bO4 {α β γ δ ε : Type} (x : Option (α × β × γ × δ)) (f : α → β → γ → δ → Option ε) : Option ε := match x with
  | none => none
  | some a => f a.1 a.2.1 a.2.2.1 a.2.2.2
theorem bV_eq {α β : Type} (x : α) (f : α → β) : bV x f = f x := rfl
theorem bP_eq {α β γ : Type} (a : α) (b : β) (f : α → β → γ) : bP (a, b) f = f a b := rfl
theorem bO1_s {α β : Type} (a : α) (f : α → Option β) : bO1 (some a) f = f a := rfl
theorem bO2_s {α β γ : Type} (a : α) (b : β) (f : α → β → Option γ) : bO2 (some (a, b)) f = f a b := rfl
theorem bO3_s {α β γ δ : Type} (a : α) (b : β) (c : γ) (f : α → β → γ → Option δ) : bO3 (some (a, b, c)) f = f a b c := rfl
theorem bO4_s {α β γ δ ε : Type} (a : α) (b : β) (c : γ) (d : δ) (f : α → β → γ → δ → Option ε) : bO4 (some (a, b, c, d)) f = f a b c d := rfl
theorem bV_of {α β : Type} {x y : α} {f : α → β} {r : β} (h : bV x f = r) (e : y = x) : f y = r := by subst e; exact h
theorem bP_of {α β γ : Type} {x : α × β} {a : α} {b : β} {f : α → β → γ} {r : γ} (h : bP x f = r) (e : x = (a, b)) : f a b = r := by subst e; exact h
theorem bO1_inv {α β : Type} {x : Option α} {f : α → Option β} {r : β} (h : bO1 x f = some r) : ∃ a, x = some a ∧ f a = some r := by
  cases x with
  | none => cases h
  | some a => exact ⟨a, rfl, h⟩
theorem bO2_inv {α β γ : Type} {x : Option (α × β)} {f : α → β → Option γ} {r : γ} (h : bO2 x f = some r) : ∃ a b, x = some (a, b) ∧ f a b = some r := by
  cases x with
  | none => cases h
  | some a => exact ⟨a.1, a.2, rfl, h⟩
theorem bO3_inv {α β γ δ : Type} {x : Option (α × β × γ)} {f : α → β → γ → Option δ} {r : δ} (h : bO3 x f = some r) : ∃ a b c, x = some (a, b, c) ∧ f a b c = some r := by
  cases x with
  | none => cases h
  | some a => exact ⟨a.1, a.2.1, a.2.2, rfl, h⟩
theorem bO4_inv {α β γ δ ε : Type} {x : Option (α × β × γ × δ)} {f : α → β → γ → δ → Option ε} {r : ε} (h : bO4 x f = some r) : ∃ a b c d, x = some (a, b, c, d) ∧ f a b c d = some r := by
  cases x with
  | none => cases h
  | some a => exact ⟨a.1, a.2.1, a.2.2.1, a.2.2.2, rfl, h⟩
theorem gd_inv {P : Prop} [Decidable P] {α : Type} {b : Option α} {r : α} (h : (if P then b else none) = some r) : P ∧ b = some r := by
  by_cases hp : P
  · rw [if_pos hp] at h; exact ⟨hp, h⟩
  · rw [if_neg hp] at h; cases h
theorem inb_lt {i : Int32} {n : Nat} (h : inb i n) : i.toNatClampNeg < n := by
  rcases Nat.lt_or_ge i.toNatClampNeg n with q | q
  · exact q
  · exact absurd (Or.inr q) h
theorem tPost_of {D : va_G} {cA : Nat → ClassId} {base : Nat} {μ : MM} {H : Heap} {t : State} (hP : va_P D vwCl (tw base cA μ []) H) (ht : t.heap = H) : tPost D cA base μ t := by
  unfold tPost
  rw [ht]
  exact hP
theorem nar_b {v : Int32} (h : v = 0 ∨ v = 1) : narrow .boolean (.int v) = .int v := by
  rcases h with rfl | rfl <;> rfl
theorem fr0_0 {q : Nat} (h : kc q = 0) : fld q 0 = some (RF q 0) := (by decide +kernel : ∀ q, q < 178 → kc q = 0 → fld q 0 = some (RF q 0)) q (kc_in h (by decide)) h
theorem kr0_0 {q : Nat} (h : kc q = 0) : kc (RF q 0) = 3 := (by decide +kernel : ∀ q, q < 178 → kc q = 0 → kc (RF q 0) = 3) q (kc_in h (by decide)) h
theorem fr0_1 {q : Nat} (h : kc q = 0) : fld q 1 = some (RF q 1) := (by decide +kernel : ∀ q, q < 178 → kc q = 0 → fld q 1 = some (RF q 1)) q (kc_in h (by decide)) h
theorem kr0_1 {q : Nat} (h : kc q = 0) : kc (RF q 1) = 3 := (by decide +kernel : ∀ q, q < 178 → kc q = 0 → kc (RF q 1) = 3) q (kc_in h (by decide)) h
theorem fr0_2 {q : Nat} (h : kc q = 0) : fld q 2 = some (RF q 2) := (by decide +kernel : ∀ q, q < 178 → kc q = 0 → fld q 2 = some (RF q 2)) q (kc_in h (by decide)) h
theorem kr0_2 {q : Nat} (h : kc q = 0) : kc (RF q 2) = 4 := (by decide +kernel : ∀ q, q < 178 → kc q = 0 → kc (RF q 2) = 4) q (kc_in h (by decide)) h
theorem fk0_3 {q : Nat} (h : kc q = 0) : fld q 3 = none := (by decide +kernel : ∀ q, q < 178 → kc q = 0 → fld q 3 = none) q (kc_in h (by decide)) h
theorem fk0_4 {q : Nat} (h : kc q = 0) : fld q 4 = none := (by decide +kernel : ∀ q, q < 178 → kc q = 0 → fld q 4 = none) q (kc_in h (by decide)) h
theorem fk0_5 {q : Nat} (h : kc q = 0) : fld q 5 = none := (by decide +kernel : ∀ q, q < 178 → kc q = 0 → fld q 5 = none) q (kc_in h (by decide)) h
theorem fk0_6 {q : Nat} (h : kc q = 0) : fld q 6 = none := (by decide +kernel : ∀ q, q < 178 → kc q = 0 → fld q 6 = none) q (kc_in h (by decide)) h
theorem fk0_7 {q : Nat} (h : kc q = 0) : fld q 7 = none := (by decide +kernel : ∀ q, q < 178 → kc q = 0 → fld q 7 = none) q (kc_in h (by decide)) h
theorem fk0_8 {q : Nat} (h : kc q = 0) : fld q 8 = none := (by decide +kernel : ∀ q, q < 178 → kc q = 0 → fld q 8 = none) q (kc_in h (by decide)) h
theorem fk0_9 {q : Nat} (h : kc q = 0) : fld q 9 = none := (by decide +kernel : ∀ q, q < 178 → kc q = 0 → fld q 9 = none) q (kc_in h (by decide)) h
theorem fr1_0 {q : Nat} (h : kc q = 1) : fld q 0 = some (RF q 0) := (by decide +kernel : ∀ q, q < 178 → kc q = 1 → fld q 0 = some (RF q 0)) q (kc_in h (by decide)) h
theorem kr1_0 {q : Nat} (h : kc q = 1) : kc (RF q 0) = 101 := (by decide +kernel : ∀ q, q < 178 → kc q = 1 → kc (RF q 0) = 101) q (kc_in h (by decide)) h
theorem fr1_1 {q : Nat} (h : kc q = 1) : fld q 1 = some (RF q 1) := (by decide +kernel : ∀ q, q < 178 → kc q = 1 → fld q 1 = some (RF q 1)) q (kc_in h (by decide)) h
theorem kr1_1 {q : Nat} (h : kc q = 1) : kc (RF q 1) = 101 := (by decide +kernel : ∀ q, q < 178 → kc q = 1 → kc (RF q 1) = 101) q (kc_in h (by decide)) h
theorem fk2_0 {q : Nat} (h : kc q = 2) : fld q 0 = none := (by decide +kernel : ∀ q, q < 178 → kc q = 2 → fld q 0 = none) q (kc_in h (by decide)) h
theorem fk2_1 {q : Nat} (h : kc q = 2) : fld q 1 = none := (by decide +kernel : ∀ q, q < 178 → kc q = 2 → fld q 1 = none) q (kc_in h (by decide)) h
theorem fk2_2 {q : Nat} (h : kc q = 2) : fld q 2 = none := (by decide +kernel : ∀ q, q < 178 → kc q = 2 → fld q 2 = none) q (kc_in h (by decide)) h
theorem fk2_3 {q : Nat} (h : kc q = 2) : fld q 3 = none := (by decide +kernel : ∀ q, q < 178 → kc q = 2 → fld q 3 = none) q (kc_in h (by decide)) h
theorem fk2_4 {q : Nat} (h : kc q = 2) : fld q 4 = none := (by decide +kernel : ∀ q, q < 178 → kc q = 2 → fld q 4 = none) q (kc_in h (by decide)) h
theorem fk2_5 {q : Nat} (h : kc q = 2) : fld q 5 = none := (by decide +kernel : ∀ q, q < 178 → kc q = 2 → fld q 5 = none) q (kc_in h (by decide)) h
theorem fk2_6 {q : Nat} (h : kc q = 2) : fld q 6 = none := (by decide +kernel : ∀ q, q < 178 → kc q = 2 → fld q 6 = none) q (kc_in h (by decide)) h
theorem fr3_0 {q : Nat} (h : kc q = 3) : fld q 0 = some (RF q 0) := (by decide +kernel : ∀ q, q < 178 → kc q = 3 → fld q 0 = some (RF q 0)) q (kc_in h (by decide)) h
theorem kr3_0 {q : Nat} (h : kc q = 3) : kc (RF q 0) = 100 := (by decide +kernel : ∀ q, q < 178 → kc q = 3 → kc (RF q 0) = 100) q (kc_in h (by decide)) h
theorem fk3_1 {q : Nat} (h : kc q = 3) : fld q 1 = none := (by decide +kernel : ∀ q, q < 178 → kc q = 3 → fld q 1 = none) q (kc_in h (by decide)) h
theorem fr4_0 {q : Nat} (h : kc q = 4) : fld q 0 = some (RF q 0) := (by decide +kernel : ∀ q, q < 178 → kc q = 4 → fld q 0 = some (RF q 0)) q (kc_in h (by decide)) h
theorem kr4_0 {q : Nat} (h : kc q = 4) : kc (RF q 0) = 100 := (by decide +kernel : ∀ q, q < 178 → kc q = 4 → kc (RF q 0) = 100) q (kc_in h (by decide)) h
theorem fr4_1 {q : Nat} (h : kc q = 4) : fld q 1 = some (RF q 1) := (by decide +kernel : ∀ q, q < 178 → kc q = 4 → fld q 1 = some (RF q 1)) q (kc_in h (by decide)) h
theorem kr4_1 {q : Nat} (h : kc q = 4) : kc (RF q 1) = 100 := (by decide +kernel : ∀ q, q < 178 → kc q = 4 → kc (RF q 1) = 100) q (kc_in h (by decide)) h
theorem fk4_2 {q : Nat} (h : kc q = 4) : fld q 2 = none := (by decide +kernel : ∀ q, q < 178 → kc q = 4 → fld q 2 = none) q (kc_in h (by decide)) h
theorem fr5_0 {q : Nat} (h : kc q = 5) : fld q 0 = some (RF q 0) := (by decide +kernel : ∀ q, q < 178 → kc q = 5 → fld q 0 = some (RF q 0)) q (kc_in h (by decide)) h
theorem kr5_0 {q : Nat} (h : kc q = 5) : kc (RF q 0) = 1 := (by decide +kernel : ∀ q, q < 178 → kc q = 5 → kc (RF q 0) = 1) q (kc_in h (by decide)) h
theorem fr5_1 {q : Nat} (h : kc q = 5) : fld q 1 = some (RF q 1) := (by decide +kernel : ∀ q, q < 178 → kc q = 5 → fld q 1 = some (RF q 1)) q (kc_in h (by decide)) h
theorem kr5_1 {q : Nat} (h : kc q = 5) : kc (RF q 1) = 3 := (by decide +kernel : ∀ q, q < 178 → kc q = 5 → kc (RF q 1) = 3) q (kc_in h (by decide)) h
theorem fr5_2 {q : Nat} (h : kc q = 5) : fld q 2 = some (RF q 2) := (by decide +kernel : ∀ q, q < 178 → kc q = 5 → fld q 2 = some (RF q 2)) q (kc_in h (by decide)) h
theorem kr5_2 {q : Nat} (h : kc q = 5) : kc (RF q 2) = 4 := (by decide +kernel : ∀ q, q < 178 → kc q = 5 → kc (RF q 2) = 4) q (kc_in h (by decide)) h
theorem fr5_3 {q : Nat} (h : kc q = 5) : fld q 3 = some (RF q 3) := (by decide +kernel : ∀ q, q < 178 → kc q = 5 → fld q 3 = some (RF q 3)) q (kc_in h (by decide)) h
theorem kr5_3 {q : Nat} (h : kc q = 5) : kc (RF q 3) = 102 := (by decide +kernel : ∀ q, q < 178 → kc q = 5 → kc (RF q 3) = 102) q (kc_in h (by decide)) h
theorem fr5_4 {q : Nat} (h : kc q = 5) : fld q 4 = some (RF q 4) := (by decide +kernel : ∀ q, q < 178 → kc q = 5 → fld q 4 = some (RF q 4)) q (kc_in h (by decide)) h
theorem kr5_4 {q : Nat} (h : kc q = 5) : kc (RF q 4) = 103 := (by decide +kernel : ∀ q, q < 178 → kc q = 5 → kc (RF q 4) = 103) q (kc_in h (by decide)) h
theorem fk5_5 {q : Nat} (h : kc q = 5) : fld q 5 = none := (by decide +kernel : ∀ q, q < 178 → kc q = 5 → fld q 5 = none) q (kc_in h (by decide)) h
theorem fk5_6 {q : Nat} (h : kc q = 5) : fld q 6 = none := (by decide +kernel : ∀ q, q < 178 → kc q = 5 → fld q 6 = none) q (kc_in h (by decide)) h
theorem fk5_7 {q : Nat} (h : kc q = 5) : fld q 7 = none := (by decide +kernel : ∀ q, q < 178 → kc q = 5 → fld q 7 = none) q (kc_in h (by decide)) h
theorem fk5_8 {q : Nat} (h : kc q = 5) : fld q 8 = none := (by decide +kernel : ∀ q, q < 178 → kc q = 5 → fld q 8 = none) q (kc_in h (by decide)) h
theorem fr6_0 {q : Nat} (h : kc q = 6) : fld q 0 = some (RF q 0) := (by decide +kernel : ∀ q, q < 178 → kc q = 6 → fld q 0 = some (RF q 0)) q (kc_in h (by decide)) h
theorem kr6_0 {q : Nat} (h : kc q = 6) : kc (RF q 0) = 5 := (by decide +kernel : ∀ q, q < 178 → kc q = 6 → kc (RF q 0) = 5) q (kc_in h (by decide)) h
theorem fr6_1 {q : Nat} (h : kc q = 6) : fld q 1 = some (RF q 1) := (by decide +kernel : ∀ q, q < 178 → kc q = 6 → fld q 1 = some (RF q 1)) q (kc_in h (by decide)) h
theorem kr6_1 {q : Nat} (h : kc q = 6) : kc (RF q 1) = 5 := (by decide +kernel : ∀ q, q < 178 → kc q = 6 → kc (RF q 1) = 5) q (kc_in h (by decide)) h
theorem fk7_0 {q : Nat} (h : kc q = 7) : fld q 0 = none := (by decide +kernel : ∀ q, q < 178 → kc q = 7 → fld q 0 = none) q (kc_in h (by decide)) h
theorem fk7_1 {q : Nat} (h : kc q = 7) : fld q 1 = none := (by decide +kernel : ∀ q, q < 178 → kc q = 7 → fld q 1 = none) q (kc_in h (by decide)) h
theorem fr7_2 {q : Nat} (h : kc q = 7) : fld q 2 = some (RF q 2) := (by decide +kernel : ∀ q, q < 178 → kc q = 7 → fld q 2 = some (RF q 2)) q (kc_in h (by decide)) h
theorem kr7_2 {q : Nat} (h : kc q = 7) : kc (RF q 2) = 100 := (by decide +kernel : ∀ q, q < 178 → kc q = 7 → kc (RF q 2) = 100) q (kc_in h (by decide)) h
theorem fk7_3 {q : Nat} (h : kc q = 7) : fld q 3 = none := (by decide +kernel : ∀ q, q < 178 → kc q = 7 → fld q 3 = none) q (kc_in h (by decide)) h
theorem fk7_4 {q : Nat} (h : kc q = 7) : fld q 4 = none := (by decide +kernel : ∀ q, q < 178 → kc q = 7 → fld q 4 = none) q (kc_in h (by decide)) h
theorem fr7_5 {q : Nat} (h : kc q = 7) : fld q 5 = some (RF q 5) := (by decide +kernel : ∀ q, q < 178 → kc q = 7 → fld q 5 = some (RF q 5)) q (kc_in h (by decide)) h
theorem kr7_5 {q : Nat} (h : kc q = 7) : kc (RF q 5) = 100 := (by decide +kernel : ∀ q, q < 178 → kc q = 7 → kc (RF q 5) = 100) q (kc_in h (by decide)) h
theorem fr7_6 {q : Nat} (h : kc q = 7) : fld q 6 = some (RF q 6) := (by decide +kernel : ∀ q, q < 178 → kc q = 7 → fld q 6 = some (RF q 6)) q (kc_in h (by decide)) h
theorem kr7_6 {q : Nat} (h : kc q = 7) : kc (RF q 6) = 100 := (by decide +kernel : ∀ q, q < 178 → kc q = 7 → kc (RF q 6) = 100) q (kc_in h (by decide)) h
theorem fr7_7 {q : Nat} (h : kc q = 7) : fld q 7 = some (RF q 7) := (by decide +kernel : ∀ q, q < 178 → kc q = 7 → fld q 7 = some (RF q 7)) q (kc_in h (by decide)) h
theorem kr7_7 {q : Nat} (h : kc q = 7) : kc (RF q 7) = 100 := (by decide +kernel : ∀ q, q < 178 → kc q = 7 → kc (RF q 7) = 100) q (kc_in h (by decide)) h
theorem fr7_8 {q : Nat} (h : kc q = 7) : fld q 8 = some (RF q 8) := (by decide +kernel : ∀ q, q < 178 → kc q = 7 → fld q 8 = some (RF q 8)) q (kc_in h (by decide)) h
theorem kr7_8 {q : Nat} (h : kc q = 7) : kc (RF q 8) = 100 := (by decide +kernel : ∀ q, q < 178 → kc q = 7 → kc (RF q 8) = 100) q (kc_in h (by decide)) h
theorem fr7_9 {q : Nat} (h : kc q = 7) : fld q 9 = some (RF q 9) := (by decide +kernel : ∀ q, q < 178 → kc q = 7 → fld q 9 = some (RF q 9)) q (kc_in h (by decide)) h
theorem kr7_9 {q : Nat} (h : kc q = 7) : kc (RF q 9) = 100 := (by decide +kernel : ∀ q, q < 178 → kc q = 7 → kc (RF q 9) = 100) q (kc_in h (by decide)) h
theorem fr7_10 {q : Nat} (h : kc q = 7) : fld q 10 = some (RF q 10) := (by decide +kernel : ∀ q, q < 178 → kc q = 7 → fld q 10 = some (RF q 10)) q (kc_in h (by decide)) h
theorem kr7_10 {q : Nat} (h : kc q = 7) : kc (RF q 10) = 100 := (by decide +kernel : ∀ q, q < 178 → kc q = 7 → kc (RF q 10) = 100) q (kc_in h (by decide)) h
theorem fk7_11 {q : Nat} (h : kc q = 7) : fld q 11 = none := (by decide +kernel : ∀ q, q < 178 → kc q = 7 → fld q 11 = none) q (kc_in h (by decide)) h
theorem fr7_12 {q : Nat} (h : kc q = 7) : fld q 12 = some (RF q 12) := (by decide +kernel : ∀ q, q < 178 → kc q = 7 → fld q 12 = some (RF q 12)) q (kc_in h (by decide)) h
theorem kr7_12 {q : Nat} (h : kc q = 7) : kc (RF q 12) = 100 := (by decide +kernel : ∀ q, q < 178 → kc q = 7 → kc (RF q 12) = 100) q (kc_in h (by decide)) h
theorem fr7_13 {q : Nat} (h : kc q = 7) : fld q 13 = some (RF q 13) := (by decide +kernel : ∀ q, q < 178 → kc q = 7 → fld q 13 = some (RF q 13)) q (kc_in h (by decide)) h
theorem kr7_13 {q : Nat} (h : kc q = 7) : kc (RF q 13) = 100 := (by decide +kernel : ∀ q, q < 178 → kc q = 7 → kc (RF q 13) = 100) q (kc_in h (by decide)) h
theorem fr7_14 {q : Nat} (h : kc q = 7) : fld q 14 = some (RF q 14) := (by decide +kernel : ∀ q, q < 178 → kc q = 7 → fld q 14 = some (RF q 14)) q (kc_in h (by decide)) h
theorem kr7_14 {q : Nat} (h : kc q = 7) : kc (RF q 14) = 100 := (by decide +kernel : ∀ q, q < 178 → kc q = 7 → kc (RF q 14) = 100) q (kc_in h (by decide)) h
theorem fr7_15 {q : Nat} (h : kc q = 7) : fld q 15 = some (RF q 15) := (by decide +kernel : ∀ q, q < 178 → kc q = 7 → fld q 15 = some (RF q 15)) q (kc_in h (by decide)) h
theorem kr7_15 {q : Nat} (h : kc q = 7) : kc (RF q 15) = 100 := (by decide +kernel : ∀ q, q < 178 → kc q = 7 → kc (RF q 15) = 100) q (kc_in h (by decide)) h
theorem fr7_16 {q : Nat} (h : kc q = 7) : fld q 16 = some (RF q 16) := (by decide +kernel : ∀ q, q < 178 → kc q = 7 → fld q 16 = some (RF q 16)) q (kc_in h (by decide)) h
theorem kr7_16 {q : Nat} (h : kc q = 7) : kc (RF q 16) = 100 := (by decide +kernel : ∀ q, q < 178 → kc q = 7 → kc (RF q 16) = 100) q (kc_in h (by decide)) h
theorem fr7_17 {q : Nat} (h : kc q = 7) : fld q 17 = some (RF q 17) := (by decide +kernel : ∀ q, q < 178 → kc q = 7 → fld q 17 = some (RF q 17)) q (kc_in h (by decide)) h
theorem kr7_17 {q : Nat} (h : kc q = 7) : kc (RF q 17) = 100 := (by decide +kernel : ∀ q, q < 178 → kc q = 7 → kc (RF q 17) = 100) q (kc_in h (by decide)) h
theorem fr7_18 {q : Nat} (h : kc q = 7) : fld q 18 = some (RF q 18) := (by decide +kernel : ∀ q, q < 178 → kc q = 7 → fld q 18 = some (RF q 18)) q (kc_in h (by decide)) h
theorem kr7_18 {q : Nat} (h : kc q = 7) : kc (RF q 18) = 100 := (by decide +kernel : ∀ q, q < 178 → kc q = 7 → kc (RF q 18) = 100) q (kc_in h (by decide)) h
theorem fr7_19 {q : Nat} (h : kc q = 7) : fld q 19 = some (RF q 19) := (by decide +kernel : ∀ q, q < 178 → kc q = 7 → fld q 19 = some (RF q 19)) q (kc_in h (by decide)) h
theorem kr7_19 {q : Nat} (h : kc q = 7) : kc (RF q 19) = 100 := (by decide +kernel : ∀ q, q < 178 → kc q = 7 → kc (RF q 19) = 100) q (kc_in h (by decide)) h
theorem fr7_20 {q : Nat} (h : kc q = 7) : fld q 20 = some (RF q 20) := (by decide +kernel : ∀ q, q < 178 → kc q = 7 → fld q 20 = some (RF q 20)) q (kc_in h (by decide)) h
theorem kr7_20 {q : Nat} (h : kc q = 7) : kc (RF q 20) = 100 := (by decide +kernel : ∀ q, q < 178 → kc q = 7 → kc (RF q 20) = 100) q (kc_in h (by decide)) h
theorem fr7_21 {q : Nat} (h : kc q = 7) : fld q 21 = some (RF q 21) := (by decide +kernel : ∀ q, q < 178 → kc q = 7 → fld q 21 = some (RF q 21)) q (kc_in h (by decide)) h
theorem kr7_21 {q : Nat} (h : kc q = 7) : kc (RF q 21) = 100 := (by decide +kernel : ∀ q, q < 178 → kc q = 7 → kc (RF q 21) = 100) q (kc_in h (by decide)) h
theorem fr7_22 {q : Nat} (h : kc q = 7) : fld q 22 = some (RF q 22) := (by decide +kernel : ∀ q, q < 178 → kc q = 7 → fld q 22 = some (RF q 22)) q (kc_in h (by decide)) h
theorem kr7_22 {q : Nat} (h : kc q = 7) : kc (RF q 22) = 100 := (by decide +kernel : ∀ q, q < 178 → kc q = 7 → kc (RF q 22) = 100) q (kc_in h (by decide)) h
theorem fr7_23 {q : Nat} (h : kc q = 7) : fld q 23 = some (RF q 23) := (by decide +kernel : ∀ q, q < 178 → kc q = 7 → fld q 23 = some (RF q 23)) q (kc_in h (by decide)) h
theorem kr7_23 {q : Nat} (h : kc q = 7) : kc (RF q 23) = 100 := (by decide +kernel : ∀ q, q < 178 → kc q = 7 → kc (RF q 23) = 100) q (kc_in h (by decide)) h
theorem fr7_24 {q : Nat} (h : kc q = 7) : fld q 24 = some (RF q 24) := (by decide +kernel : ∀ q, q < 178 → kc q = 7 → fld q 24 = some (RF q 24)) q (kc_in h (by decide)) h
theorem kr7_24 {q : Nat} (h : kc q = 7) : kc (RF q 24) = 100 := (by decide +kernel : ∀ q, q < 178 → kc q = 7 → kc (RF q 24) = 100) q (kc_in h (by decide)) h
theorem fr7_25 {q : Nat} (h : kc q = 7) : fld q 25 = some (RF q 25) := (by decide +kernel : ∀ q, q < 178 → kc q = 7 → fld q 25 = some (RF q 25)) q (kc_in h (by decide)) h
theorem kr7_25 {q : Nat} (h : kc q = 7) : kc (RF q 25) = 100 := (by decide +kernel : ∀ q, q < 178 → kc q = 7 → kc (RF q 25) = 100) q (kc_in h (by decide)) h
theorem fk8_0 {q : Nat} (h : kc q = 8) : fld q 0 = none := (by decide +kernel : ∀ q, q < 178 → kc q = 8 → fld q 0 = none) q (kc_in h (by decide)) h
theorem fr8_1 {q : Nat} (h : kc q = 8) : fld q 1 = some (RF q 1) := (by decide +kernel : ∀ q, q < 178 → kc q = 8 → fld q 1 = some (RF q 1)) q (kc_in h (by decide)) h
theorem kr8_1 {q : Nat} (h : kc q = 8) : kc (RF q 1) = 7 := (by decide +kernel : ∀ q, q < 178 → kc q = 8 → kc (RF q 1) = 7) q (kc_in h (by decide)) h
theorem fr8_2 {q : Nat} (h : kc q = 8) : fld q 2 = some (RF q 2) := (by decide +kernel : ∀ q, q < 178 → kc q = 8 → fld q 2 = some (RF q 2)) q (kc_in h (by decide)) h
theorem kr8_2 {q : Nat} (h : kc q = 8) : kc (RF q 2) = 7 := (by decide +kernel : ∀ q, q < 178 → kc q = 8 → kc (RF q 2) = 7) q (kc_in h (by decide)) h
theorem ka102 {q : Nat} (h : kc q = 102) {i : Int32} (hi : inb i (al q)) : kc (RF q i.toNatClampNeg) = 0 := (by decide +kernel : ∀ q, q < 178 → kc q = 102 → ∀ i, i < al q → kc (RF q i) = 0) q (kc_in h (by decide)) h _ (inb_lt hi)
theorem ka103 {q : Nat} (h : kc q = 103) {i : Int32} (hi : inb i (al q)) : kc (RF q i.toNatClampNeg) = 2 := (by decide +kernel : ∀ q, q < 178 → kc q = 103 → ∀ i, i < al q → kc (RF q i) = 2) q (kc_in h (by decide)) h _ (inb_lt hi)
