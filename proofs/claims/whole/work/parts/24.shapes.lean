/-! Where things lie: a summit at 4 or 68, a state at 133 or 155. -/
def isO (o : Nat) : Prop := o = 4 ∨ o = 68
def isP (p : Nat) : Prop := p = 133 ∨ p = 155
theorem oK {o : Nat} (h : isO o) : kc o = 5 := by rcases h with rfl | rfl <;> decide +kernel
theorem oR0 {o : Nat} (h : isO o) : RF o 0 = 1 := by rcases h with rfl | rfl <;> decide +kernel
theorem oR1 {o : Nat} (h : isO o) : RF o 1 = o + 1 := by rcases h with rfl | rfl <;> decide +kernel
theorem oR2 {o : Nat} (h : isO o) : RF o 2 = o + 3 := by rcases h with rfl | rfl <;> decide +kernel
theorem oR3 {o : Nat} (h : isO o) : RF o 3 = o + 6 := by rcases h with rfl | rfl <;> decide +kernel
theorem oR4 {o : Nat} (h : isO o) : RF o 4 = o + 7 := by rcases h with rfl | rfl <;> decide +kernel
theorem oT0 {o : Nat} (h : isO o) : RF (o + 1) 0 = o + 2 := by rcases h with rfl | rfl <;> decide +kernel
theorem oTal {o : Nat} (h : isO o) : al (o + 2) = 120 := by rcases h with rfl | rfl <;> decide +kernel
theorem oTk {o : Nat} (h : isO o) : kc (o + 1) = 3 := by rcases h with rfl | rfl <;> decide +kernel
theorem oTk2 {o : Nat} (h : isO o) : kc (o + 2) = 100 := by rcases h with rfl | rfl <;> decide +kernel
theorem oBal {o : Nat} (h : isO o) : al (o + 6) = 6 := by rcases h with rfl | rfl <;> decide +kernel
theorem oNal {o : Nat} (h : isO o) : al (o + 7) = 8 := by rcases h with rfl | rfl <;> decide +kernel
theorem oB {o b : Nat} (h : isO o) (hb : b < 6) : RF (o + 6) b = o + (8 + 8 * b) := by
  rcases h with rfl | rfl
  · exact (by decide +kernel : ∀ b, b < 6 → RF (4 + 6) b = 4 + (8 + 8 * b)) b hb
  · exact (by decide +kernel : ∀ b, b < 6 → RF (68 + 6) b = 68 + (8 + 8 * b)) b hb
theorem oBk {o b : Nat} (h : isO o) (hb : b < 6) : kc (o + (8 + 8 * b)) = 0 := by
  rcases h with rfl | rfl
  · exact (by decide +kernel : ∀ b, b < 6 → kc (4 + (8 + 8 * b)) = 0) b hb
  · exact (by decide +kernel : ∀ b, b < 6 → kc (68 + (8 + 8 * b)) = 0) b hb
theorem oB0 {o b : Nat} (h : isO o) (hb : b < 6) : RF (o + (8 + 8 * b)) 0 = o + (9 + 8 * b) := by
  rcases h with rfl | rfl
  · exact (by decide +kernel : ∀ b, b < 6 → RF (4 + (8 + 8 * b)) 0 = 4 + (9 + 8 * b)) b hb
  · exact (by decide +kernel : ∀ b, b < 6 → RF (68 + (8 + 8 * b)) 0 = 68 + (9 + 8 * b)) b hb
theorem oB1 {o b : Nat} (h : isO o) (hb : b < 6) : RF (o + (8 + 8 * b)) 1 = o + (11 + 8 * b) := by
  rcases h with rfl | rfl
  · exact (by decide +kernel : ∀ b, b < 6 → RF (4 + (8 + 8 * b)) 1 = 4 + (11 + 8 * b)) b hb
  · exact (by decide +kernel : ∀ b, b < 6 → RF (68 + (8 + 8 * b)) 1 = 68 + (11 + 8 * b)) b hb
theorem oB2 {o b : Nat} (h : isO o) (hb : b < 6) : RF (o + (8 + 8 * b)) 2 = o + (13 + 8 * b) := by
  rcases h with rfl | rfl
  · exact (by decide +kernel : ∀ b, b < 6 → RF (4 + (8 + 8 * b)) 2 = 4 + (13 + 8 * b)) b hb
  · exact (by decide +kernel : ∀ b, b < 6 → RF (68 + (8 + 8 * b)) 2 = 68 + (13 + 8 * b)) b hb
theorem oW0 {o b : Nat} (h : isO o) (hb : b < 6) : RF (o + (9 + 8 * b)) 0 = o + (10 + 8 * b) := by
  rcases h with rfl | rfl
  · exact (by decide +kernel : ∀ b, b < 6 → RF (4 + (9 + 8 * b)) 0 = 4 + (10 + 8 * b)) b hb
  · exact (by decide +kernel : ∀ b, b < 6 → RF (68 + (9 + 8 * b)) 0 = 68 + (10 + 8 * b)) b hb
theorem oWk {o b : Nat} (h : isO o) (hb : b < 6) : kc (o + (9 + 8 * b)) = 3 := by
  rcases h with rfl | rfl
  · exact (by decide +kernel : ∀ b, b < 6 → kc (4 + (9 + 8 * b)) = 3) b hb
  · exact (by decide +kernel : ∀ b, b < 6 → kc (68 + (9 + 8 * b)) = 3) b hb
theorem oWal {o b : Nat} (h : isO o) (hb : b < 6) : al (o + (10 + 8 * b)) = 12 := by
  rcases h with rfl | rfl
  · exact (by decide +kernel : ∀ b, b < 6 → al (4 + (10 + 8 * b)) = 12) b hb
  · exact (by decide +kernel : ∀ b, b < 6 → al (68 + (10 + 8 * b)) = 12) b hb
theorem oA0 {o b : Nat} (h : isO o) (hb : b < 6) : RF (o + (11 + 8 * b)) 0 = o + (12 + 8 * b) := by
  rcases h with rfl | rfl
  · exact (by decide +kernel : ∀ b, b < 6 → RF (4 + (11 + 8 * b)) 0 = 4 + (12 + 8 * b)) b hb
  · exact (by decide +kernel : ∀ b, b < 6 → RF (68 + (11 + 8 * b)) 0 = 68 + (12 + 8 * b)) b hb
theorem oAk {o b : Nat} (h : isO o) (hb : b < 6) : kc (o + (11 + 8 * b)) = 3 := by
  rcases h with rfl | rfl
  · exact (by decide +kernel : ∀ b, b < 6 → kc (4 + (11 + 8 * b)) = 3) b hb
  · exact (by decide +kernel : ∀ b, b < 6 → kc (68 + (11 + 8 * b)) = 3) b hb
theorem oAal {o b : Nat} (h : isO o) (hb : b < 6) : al (o + (12 + 8 * b)) = 12 := by
  rcases h with rfl | rfl
  · exact (by decide +kernel : ∀ b, b < 6 → al (4 + (12 + 8 * b)) = 12) b hb
  · exact (by decide +kernel : ∀ b, b < 6 → al (68 + (12 + 8 * b)) = 12) b hb
theorem oN {o i : Nat} (h : isO o) (hb : i < 8) : RF (o + 7) i = o + (56 + i) := by
  rcases h with rfl | rfl
  · exact (by decide +kernel : ∀ i, i < 8 → RF (4 + 7) i = 4 + (56 + i)) i hb
  · exact (by decide +kernel : ∀ i, i < 8 → RF (68 + 7) i = 68 + (56 + i)) i hb
theorem oNk {o i : Nat} (h : isO o) (hb : i < 8) : kc (o + (56 + i)) = 2 := by
  rcases h with rfl | rfl
  · exact (by decide +kernel : ∀ i, i < 8 → kc (4 + (56 + i)) = 2) i hb
  · exact (by decide +kernel : ∀ i, i < 8 → kc (68 + (56 + i)) = 2) i hb
/-- the speech of a place -/
def spC (a : Nat) : Nat := if a = 0 then 3 else 5 + 8 * a
theorem oS0 {o a : Nat} (h : isO o) (hb : a < 7) : RF (o + spC a) 0 = o + cC 24 a := by
  rcases h with rfl | rfl
  · exact (by decide +kernel : ∀ a, a < 7 → RF (4 + spC a) 0 = 4 + cC 24 a) a hb
  · exact (by decide +kernel : ∀ a, a < 7 → RF (68 + spC a) 0 = 68 + cC 24 a) a hb
theorem oS1 {o a : Nat} (h : isO o) (hb : a < 7) : RF (o + spC a) 1 = o + cC 25 a := by
  rcases h with rfl | rfl
  · exact (by decide +kernel : ∀ a, a < 7 → RF (4 + spC a) 1 = 4 + cC 25 a) a hb
  · exact (by decide +kernel : ∀ a, a < 7 → RF (68 + spC a) 1 = 68 + cC 25 a) a hb
theorem oSk {o a : Nat} (h : isO o) (hb : a < 7) : kc (o + spC a) = 4 := by
  rcases h with rfl | rfl
  · exact (by decide +kernel : ∀ a, a < 7 → kc (4 + spC a) = 4) a hb
  · exact (by decide +kernel : ∀ a, a < 7 → kc (68 + spC a) = 4) a hb
theorem oSa0 {o a : Nat} (h : isO o) (hb : a < 7) : al (o + cC 24 a) = 400 := by
  rcases h with rfl | rfl
  · exact (by decide +kernel : ∀ a, a < 7 → al (4 + cC 24 a) = 400) a hb
  · exact (by decide +kernel : ∀ a, a < 7 → al (68 + cC 24 a) = 400) a hb
theorem oSa1 {o a : Nat} (h : isO o) (hb : a < 7) : al (o + cC 25 a) = 400 := by
  rcases h with rfl | rfl
  · exact (by decide +kernel : ∀ a, a < 7 → al (4 + cC 25 a) = 400) a hb
  · exact (by decide +kernel : ∀ a, a < 7 → al (68 + cC 25 a) = 400) a hb
theorem spC_b (b : Nat) : spC (b + 1) = 13 + 8 * b := by unfold spC; rw [if_neg (by omega)]; omega
theorem spC_0 : spC 0 = 3 := rfl
theorem pK {p : Nat} (h : isP p) : kc p = 7 := by
  rcases h with rfl | rfl
  · exact (by decide +kernel : kc 133 = 7)
  · exact (by decide +kernel : kc 155 = 7)
theorem pR2 {p : Nat} (h : isP p) : RF p 2 = p + 1 := by
  rcases h with rfl | rfl
  · exact (by decide +kernel : RF 133 2 = 133 + 1)
  · exact (by decide +kernel : RF 155 2 = 155 + 1)
theorem pA2 {p : Nat} (h : isP p) : al (p + 1) = 120 := by
  rcases h with rfl | rfl
  · exact (by decide +kernel : al (133 + 1) = 120)
  · exact (by decide +kernel : al (155 + 1) = 120)
theorem pR5 {p : Nat} (h : isP p) : RF p 5 = p + 2 := by
  rcases h with rfl | rfl
  · exact (by decide +kernel : RF 133 5 = 133 + 2)
  · exact (by decide +kernel : RF 155 5 = 155 + 2)
theorem pA5 {p : Nat} (h : isP p) : al (p + 2) = 8 := by
  rcases h with rfl | rfl
  · exact (by decide +kernel : al (133 + 2) = 8)
  · exact (by decide +kernel : al (155 + 2) = 8)
theorem pR6 {p : Nat} (h : isP p) : RF p 6 = p + 3 := by
  rcases h with rfl | rfl
  · exact (by decide +kernel : RF 133 6 = 133 + 3)
  · exact (by decide +kernel : RF 155 6 = 155 + 3)
theorem pA6 {p : Nat} (h : isP p) : al (p + 3) = 8 := by
  rcases h with rfl | rfl
  · exact (by decide +kernel : al (133 + 3) = 8)
  · exact (by decide +kernel : al (155 + 3) = 8)
theorem pR7 {p : Nat} (h : isP p) : RF p 7 = p + 4 := by
  rcases h with rfl | rfl
  · exact (by decide +kernel : RF 133 7 = 133 + 4)
  · exact (by decide +kernel : RF 155 7 = 155 + 4)
theorem pA7 {p : Nat} (h : isP p) : al (p + 4) = 8 := by
  rcases h with rfl | rfl
  · exact (by decide +kernel : al (133 + 4) = 8)
  · exact (by decide +kernel : al (155 + 4) = 8)
theorem pR8 {p : Nat} (h : isP p) : RF p 8 = p + 5 := by
  rcases h with rfl | rfl
  · exact (by decide +kernel : RF 133 8 = 133 + 5)
  · exact (by decide +kernel : RF 155 8 = 155 + 5)
theorem pA8 {p : Nat} (h : isP p) : al (p + 5) = 8 := by
  rcases h with rfl | rfl
  · exact (by decide +kernel : al (133 + 5) = 8)
  · exact (by decide +kernel : al (155 + 5) = 8)
theorem pR9 {p : Nat} (h : isP p) : RF p 9 = p + 6 := by
  rcases h with rfl | rfl
  · exact (by decide +kernel : RF 133 9 = 133 + 6)
  · exact (by decide +kernel : RF 155 9 = 155 + 6)
theorem pA9 {p : Nat} (h : isP p) : al (p + 6) = 8 := by
  rcases h with rfl | rfl
  · exact (by decide +kernel : al (133 + 6) = 8)
  · exact (by decide +kernel : al (155 + 6) = 8)
theorem pR10 {p : Nat} (h : isP p) : RF p 10 = p + 7 := by
  rcases h with rfl | rfl
  · exact (by decide +kernel : RF 133 10 = 133 + 7)
  · exact (by decide +kernel : RF 155 10 = 155 + 7)
theorem pA10 {p : Nat} (h : isP p) : al (p + 7) = 8 := by
  rcases h with rfl | rfl
  · exact (by decide +kernel : al (133 + 7) = 8)
  · exact (by decide +kernel : al (155 + 7) = 8)
theorem pR12 {p : Nat} (h : isP p) : RF p 12 = p + 8 := by
  rcases h with rfl | rfl
  · exact (by decide +kernel : RF 133 12 = 133 + 8)
  · exact (by decide +kernel : RF 155 12 = 155 + 8)
theorem pA12 {p : Nat} (h : isP p) : al (p + 8) = 6 := by
  rcases h with rfl | rfl
  · exact (by decide +kernel : al (133 + 8) = 6)
  · exact (by decide +kernel : al (155 + 8) = 6)
theorem pR13 {p : Nat} (h : isP p) : RF p 13 = p + 9 := by
  rcases h with rfl | rfl
  · exact (by decide +kernel : RF 133 13 = 133 + 9)
  · exact (by decide +kernel : RF 155 13 = 155 + 9)
theorem pA13 {p : Nat} (h : isP p) : al (p + 9) = 6 := by
  rcases h with rfl | rfl
  · exact (by decide +kernel : al (133 + 9) = 6)
  · exact (by decide +kernel : al (155 + 9) = 6)
theorem pR14 {p : Nat} (h : isP p) : RF p 14 = p + 10 := by
  rcases h with rfl | rfl
  · exact (by decide +kernel : RF 133 14 = 133 + 10)
  · exact (by decide +kernel : RF 155 14 = 155 + 10)
theorem pA14 {p : Nat} (h : isP p) : al (p + 10) = 6 := by
  rcases h with rfl | rfl
  · exact (by decide +kernel : al (133 + 10) = 6)
  · exact (by decide +kernel : al (155 + 10) = 6)
theorem pR15 {p : Nat} (h : isP p) : RF p 15 = p + 11 := by
  rcases h with rfl | rfl
  · exact (by decide +kernel : RF 133 15 = 133 + 11)
  · exact (by decide +kernel : RF 155 15 = 155 + 11)
theorem pA15 {p : Nat} (h : isP p) : al (p + 11) = 6 := by
  rcases h with rfl | rfl
  · exact (by decide +kernel : al (133 + 11) = 6)
  · exact (by decide +kernel : al (155 + 11) = 6)
theorem pR16 {p : Nat} (h : isP p) : RF p 16 = p + 12 := by
  rcases h with rfl | rfl
  · exact (by decide +kernel : RF 133 16 = 133 + 12)
  · exact (by decide +kernel : RF 155 16 = 155 + 12)
theorem pA16 {p : Nat} (h : isP p) : al (p + 12) = 6 := by
  rcases h with rfl | rfl
  · exact (by decide +kernel : al (133 + 12) = 6)
  · exact (by decide +kernel : al (155 + 12) = 6)
theorem pR17 {p : Nat} (h : isP p) : RF p 17 = p + 13 := by
  rcases h with rfl | rfl
  · exact (by decide +kernel : RF 133 17 = 133 + 13)
  · exact (by decide +kernel : RF 155 17 = 155 + 13)
theorem pA17 {p : Nat} (h : isP p) : al (p + 13) = 6 := by
  rcases h with rfl | rfl
  · exact (by decide +kernel : al (133 + 13) = 6)
  · exact (by decide +kernel : al (155 + 13) = 6)
theorem pR18 {p : Nat} (h : isP p) : RF p 18 = p + 14 := by
  rcases h with rfl | rfl
  · exact (by decide +kernel : RF 133 18 = 133 + 14)
  · exact (by decide +kernel : RF 155 18 = 155 + 14)
theorem pA18 {p : Nat} (h : isP p) : al (p + 14) = 6 := by
  rcases h with rfl | rfl
  · exact (by decide +kernel : al (133 + 14) = 6)
  · exact (by decide +kernel : al (155 + 14) = 6)
theorem pR19 {p : Nat} (h : isP p) : RF p 19 = p + 15 := by
  rcases h with rfl | rfl
  · exact (by decide +kernel : RF 133 19 = 133 + 15)
  · exact (by decide +kernel : RF 155 19 = 155 + 15)
theorem pA19 {p : Nat} (h : isP p) : al (p + 15) = 6 := by
  rcases h with rfl | rfl
  · exact (by decide +kernel : al (133 + 15) = 6)
  · exact (by decide +kernel : al (155 + 15) = 6)
theorem pR20 {p : Nat} (h : isP p) : RF p 20 = p + 16 := by
  rcases h with rfl | rfl
  · exact (by decide +kernel : RF 133 20 = 133 + 16)
  · exact (by decide +kernel : RF 155 20 = 155 + 16)
theorem pA20 {p : Nat} (h : isP p) : al (p + 16) = 72 := by
  rcases h with rfl | rfl
  · exact (by decide +kernel : al (133 + 16) = 72)
  · exact (by decide +kernel : al (155 + 16) = 72)
theorem pR21 {p : Nat} (h : isP p) : RF p 21 = p + 17 := by
  rcases h with rfl | rfl
  · exact (by decide +kernel : RF 133 21 = 133 + 17)
  · exact (by decide +kernel : RF 155 21 = 155 + 17)
theorem pA21 {p : Nat} (h : isP p) : al (p + 17) = 72 := by
  rcases h with rfl | rfl
  · exact (by decide +kernel : al (133 + 17) = 72)
  · exact (by decide +kernel : al (155 + 17) = 72)
theorem pR22 {p : Nat} (h : isP p) : RF p 22 = p + 18 := by
  rcases h with rfl | rfl
  · exact (by decide +kernel : RF 133 22 = 133 + 18)
  · exact (by decide +kernel : RF 155 22 = 155 + 18)
theorem pA22 {p : Nat} (h : isP p) : al (p + 18) = 7 := by
  rcases h with rfl | rfl
  · exact (by decide +kernel : al (133 + 18) = 7)
  · exact (by decide +kernel : al (155 + 18) = 7)
theorem pR23 {p : Nat} (h : isP p) : RF p 23 = p + 19 := by
  rcases h with rfl | rfl
  · exact (by decide +kernel : RF 133 23 = 133 + 19)
  · exact (by decide +kernel : RF 155 23 = 155 + 19)
theorem pA23 {p : Nat} (h : isP p) : al (p + 19) = 2800 := by
  rcases h with rfl | rfl
  · exact (by decide +kernel : al (133 + 19) = 2800)
  · exact (by decide +kernel : al (155 + 19) = 2800)
theorem pR24 {p : Nat} (h : isP p) : RF p 24 = p + 20 := by
  rcases h with rfl | rfl
  · exact (by decide +kernel : RF 133 24 = 133 + 20)
  · exact (by decide +kernel : RF 155 24 = 155 + 20)
theorem pA24 {p : Nat} (h : isP p) : al (p + 20) = 2800 := by
  rcases h with rfl | rfl
  · exact (by decide +kernel : al (133 + 20) = 2800)
  · exact (by decide +kernel : al (155 + 20) = 2800)
theorem pR25 {p : Nat} (h : isP p) : RF p 25 = p + 21 := by
  rcases h with rfl | rfl
  · exact (by decide +kernel : RF 133 25 = 133 + 21)
  · exact (by decide +kernel : RF 155 25 = 155 + 21)
theorem pA25 {p : Nat} (h : isP p) : al (p + 21) = 401 := by
  rcases h with rfl | rfl
  · exact (by decide +kernel : al (133 + 21) = 401)
  · exact (by decide +kernel : al (155 + 21) = 401)
