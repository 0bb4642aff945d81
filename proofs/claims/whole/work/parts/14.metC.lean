theorem rq0_0 {q : Nat} (h : kc q = 0) : RF q 0 = q + 1 := (by decide +kernel : ∀ q, q < 178 → kc q = 0 → RF q 0 = q + 1) q (kc_in h (by decide)) h
theorem rq0_1 {q : Nat} (h : kc q = 0) : RF q 1 = q + 3 := (by decide +kernel : ∀ q, q < 178 → kc q = 0 → RF q 1 = q + 3) q (kc_in h (by decide)) h
theorem rq0_2 {q : Nat} (h : kc q = 0) : RF q 2 = q + 5 := (by decide +kernel : ∀ q, q < 178 → kc q = 0 → RF q 2 = q + 5) q (kc_in h (by decide)) h
theorem own0 {base : Nat} {cA : Nat → ClassId} {q : Nat} (hq : kc q = 0) : tc base cA μ0 q = .inr (0, [.ref (base + (q + 1)), .ref (base + (q + 3)), .ref (base + (q + 5)), .int 0, .int 0, .int 0, .int (-1), .int (-1), .int (-1), .int 0]) := by
  have e0 : tv base μ0 q 0 = .ref (base + (q + 1)) := by rw [tv_ref (fr0_0 hq), rq0_0 hq]
  have e1 : tv base μ0 q 1 = .ref (base + (q + 3)) := by rw [tv_ref (fr0_1 hq), rq0_1 hq]
  have e2 : tv base μ0 q 2 = .ref (base + (q + 5)) := by rw [tv_ref (fr0_2 hq), rq0_2 hq]
  have e3 : tv base μ0 q 3 = .int (0) := by rw [tv_int (fk0_3 hq), rI_0]; unfold ini; rw [hq]; rfl
  have e4 : tv base μ0 q 4 = .int (0) := by rw [tv_int (fk0_4 hq), rI_0]; unfold ini; rw [hq]; rfl
  have e5 : tv base μ0 q 5 = .int (0) := by rw [tv_int (fk0_5 hq), rI_0]; unfold ini; rw [hq]; rfl
  have e6 : tv base μ0 q 6 = .int (-1) := by rw [tv_int (fk0_6 hq), rI_0]; unfold ini; rw [hq]; rfl
  have e7 : tv base μ0 q 7 = .int (-1) := by rw [tv_int (fk0_7 hq), rI_0]; unfold ini; rw [hq]; rfl
  have e8 : tv base μ0 q 8 = .int (-1) := by rw [tv_int (fk0_8 hq), rI_0]; unfold ini; rw [hq]; rfl
  have e9 : tv base μ0 q 9 = .int (0) := by rw [tv_int (fk0_9 hq), rI_0]; unfold ini; rw [hq]; rfl
  rw [tc_obj hq (by decide)]
  show (.inr (0, [tv base μ0 q 0, tv base μ0 q 1, tv base μ0 q 2, tv base μ0 q 3, tv base μ0 q 4, tv base μ0 q 5, tv base μ0 q 6, tv base μ0 q 7, tv base μ0 q 8, tv base μ0 q 9]) : va_E) = _
  rw [e0, e1, e2, e3, e4, e5, e6, e7, e8, e9]
theorem rq1_0 {q : Nat} (h : kc q = 1) : RF q 0 = q + 1 := (by decide +kernel : ∀ q, q < 178 → kc q = 1 → RF q 0 = q + 1) q (kc_in h (by decide)) h
theorem rq1_1 {q : Nat} (h : kc q = 1) : RF q 1 = q + 2 := (by decide +kernel : ∀ q, q < 178 → kc q = 1 → RF q 1 = q + 2) q (kc_in h (by decide)) h
theorem own1 {base : Nat} {cA : Nat → ClassId} {q : Nat} (hq : kc q = 1) : tc base cA μ0 q = .inr (1, [.ref (base + (q + 1)), .ref (base + (q + 2))]) := by
  have e0 : tv base μ0 q 0 = .ref (base + (q + 1)) := by rw [tv_ref (fr1_0 hq), rq1_0 hq]
  have e1 : tv base μ0 q 1 = .ref (base + (q + 2)) := by rw [tv_ref (fr1_1 hq), rq1_1 hq]
  rw [tc_obj hq (by decide)]
  show (.inr (1, [tv base μ0 q 0, tv base μ0 q 1]) : va_E) = _
  rw [e0, e1]
theorem own2 {base : Nat} {cA : Nat → ClassId} {q : Nat} (hq : kc q = 2) : tc base cA μ0 q = .inr (2, [.int 0, .int 0, .int (-1), .int 0, .int 0, .int 0, .int 0]) := by
  have e0 : tv base μ0 q 0 = .int (0) := by rw [tv_int (fk2_0 hq), rI_0]; unfold ini; rw [hq]; rfl
  have e1 : tv base μ0 q 1 = .int (0) := by rw [tv_int (fk2_1 hq), rI_0]; unfold ini; rw [hq]; rfl
  have e2 : tv base μ0 q 2 = .int (-1) := by rw [tv_int (fk2_2 hq), rI_0]; unfold ini; rw [hq]; rfl
  have e3 : tv base μ0 q 3 = .int (0) := by rw [tv_int (fk2_3 hq), rI_0]; unfold ini; rw [hq]; rfl
  have e4 : tv base μ0 q 4 = .int (0) := by rw [tv_int (fk2_4 hq), rI_0]; unfold ini; rw [hq]; rfl
  have e5 : tv base μ0 q 5 = .int (0) := by rw [tv_int (fk2_5 hq), rI_0]; unfold ini; rw [hq]; rfl
  have e6 : tv base μ0 q 6 = .int (0) := by rw [tv_int (fk2_6 hq), rI_0]; unfold ini; rw [hq]; rfl
  rw [tc_obj hq (by decide)]
  show (.inr (2, [tv base μ0 q 0, tv base μ0 q 1, tv base μ0 q 2, tv base μ0 q 3, tv base μ0 q 4, tv base μ0 q 5, tv base μ0 q 6]) : va_E) = _
  rw [e0, e1, e2, e3, e4, e5, e6]
theorem rq3_0 {q : Nat} (h : kc q = 3) : RF q 0 = q + 1 := (by decide +kernel : ∀ q, q < 178 → kc q = 3 → RF q 0 = q + 1) q (kc_in h (by decide)) h
theorem own3 {base : Nat} {cA : Nat → ClassId} {q : Nat} (hq : kc q = 3) : tc base cA μ0 q = .inr (3, [.ref (base + (q + 1)), .int 0]) := by
  have e0 : tv base μ0 q 0 = .ref (base + (q + 1)) := by rw [tv_ref (fr3_0 hq), rq3_0 hq]
  have e1 : tv base μ0 q 1 = .int (0) := by rw [tv_int (fk3_1 hq), rI_0]; unfold ini; rw [hq]; rfl
  rw [tc_obj hq (by decide)]
  show (.inr (3, [tv base μ0 q 0, tv base μ0 q 1]) : va_E) = _
  rw [e0, e1]
theorem rq4_0 {q : Nat} (h : kc q = 4) : RF q 0 = q + 1 := (by decide +kernel : ∀ q, q < 178 → kc q = 4 → RF q 0 = q + 1) q (kc_in h (by decide)) h
theorem rq4_1 {q : Nat} (h : kc q = 4) : RF q 1 = q + 2 := (by decide +kernel : ∀ q, q < 178 → kc q = 4 → RF q 1 = q + 2) q (kc_in h (by decide)) h
theorem own4 {base : Nat} {cA : Nat → ClassId} {q : Nat} (hq : kc q = 4) : tc base cA μ0 q = .inr (4, [.ref (base + (q + 1)), .ref (base + (q + 2)), .int 0]) := by
  have e0 : tv base μ0 q 0 = .ref (base + (q + 1)) := by rw [tv_ref (fr4_0 hq), rq4_0 hq]
  have e1 : tv base μ0 q 1 = .ref (base + (q + 2)) := by rw [tv_ref (fr4_1 hq), rq4_1 hq]
  have e2 : tv base μ0 q 2 = .int (0) := by rw [tv_int (fk4_2 hq), rI_0]; unfold ini; rw [hq]; rfl
  rw [tc_obj hq (by decide)]
  show (.inr (4, [tv base μ0 q 0, tv base μ0 q 1, tv base μ0 q 2]) : va_E) = _
  rw [e0, e1, e2]
theorem rq5_0 {q : Nat} (h : kc q = 5) : RF q 0 = 1 := (by decide +kernel : ∀ q, q < 178 → kc q = 5 → RF q 0 = 1) q (kc_in h (by decide)) h
theorem rq5_1 {q : Nat} (h : kc q = 5) : RF q 1 = q + 1 := (by decide +kernel : ∀ q, q < 178 → kc q = 5 → RF q 1 = q + 1) q (kc_in h (by decide)) h
theorem rq5_2 {q : Nat} (h : kc q = 5) : RF q 2 = q + 3 := (by decide +kernel : ∀ q, q < 178 → kc q = 5 → RF q 2 = q + 3) q (kc_in h (by decide)) h
theorem rq5_3 {q : Nat} (h : kc q = 5) : RF q 3 = q + 6 := (by decide +kernel : ∀ q, q < 178 → kc q = 5 → RF q 3 = q + 6) q (kc_in h (by decide)) h
theorem rq5_4 {q : Nat} (h : kc q = 5) : RF q 4 = q + 7 := (by decide +kernel : ∀ q, q < 178 → kc q = 5 → RF q 4 = q + 7) q (kc_in h (by decide)) h
theorem own5 {base : Nat} {cA : Nat → ClassId} {q : Nat} (hq : kc q = 5) : tc base cA μ0 q = .inr (5, [.ref (base + (1)), .ref (base + (q + 1)), .ref (base + (q + 3)), .ref (base + (q + 6)), .ref (base + (q + 7)), .int 0, .int 0, .int 0, .int 0]) := by
  have e0 : tv base μ0 q 0 = .ref (base + (1)) := by rw [tv_ref (fr5_0 hq), rq5_0 hq]
  have e1 : tv base μ0 q 1 = .ref (base + (q + 1)) := by rw [tv_ref (fr5_1 hq), rq5_1 hq]
  have e2 : tv base μ0 q 2 = .ref (base + (q + 3)) := by rw [tv_ref (fr5_2 hq), rq5_2 hq]
  have e3 : tv base μ0 q 3 = .ref (base + (q + 6)) := by rw [tv_ref (fr5_3 hq), rq5_3 hq]
  have e4 : tv base μ0 q 4 = .ref (base + (q + 7)) := by rw [tv_ref (fr5_4 hq), rq5_4 hq]
  have e5 : tv base μ0 q 5 = .int (0) := by rw [tv_int (fk5_5 hq), rI_0]; unfold ini; rw [hq]; rfl
  have e6 : tv base μ0 q 6 = .int (0) := by rw [tv_int (fk5_6 hq), rI_0]; unfold ini; rw [hq]; rfl
  have e7 : tv base μ0 q 7 = .int (0) := by rw [tv_int (fk5_7 hq), rI_0]; unfold ini; rw [hq]; rfl
  have e8 : tv base μ0 q 8 = .int (0) := by rw [tv_int (fk5_8 hq), rI_0]; unfold ini; rw [hq]; rfl
  rw [tc_obj hq (by decide)]
  show (.inr (5, [tv base μ0 q 0, tv base μ0 q 1, tv base μ0 q 2, tv base μ0 q 3, tv base μ0 q 4, tv base μ0 q 5, tv base μ0 q 6, tv base μ0 q 7, tv base μ0 q 8]) : va_E) = _
  rw [e0, e1, e2, e3, e4, e5, e6, e7, e8]
theorem rq6_0 {q : Nat} (h : kc q = 6) : RF q 0 = 4 := (by decide +kernel : ∀ q, q < 178 → kc q = 6 → RF q 0 = 4) q (kc_in h (by decide)) h
theorem rq6_1 {q : Nat} (h : kc q = 6) : RF q 1 = 68 := (by decide +kernel : ∀ q, q < 178 → kc q = 6 → RF q 1 = 68) q (kc_in h (by decide)) h
theorem own6 {base : Nat} {cA : Nat → ClassId} {q : Nat} (hq : kc q = 6) : tc base cA μ0 q = .inr (6, [.ref (base + (4)), .ref (base + (68))]) := by
  have e0 : tv base μ0 q 0 = .ref (base + (4)) := by rw [tv_ref (fr6_0 hq), rq6_0 hq]
  have e1 : tv base μ0 q 1 = .ref (base + (68)) := by rw [tv_ref (fr6_1 hq), rq6_1 hq]
  rw [tc_obj hq (by decide)]
  show (.inr (6, [tv base μ0 q 0, tv base μ0 q 1]) : va_E) = _
  rw [e0, e1]
theorem rq7_2 {q : Nat} (h : kc q = 7) : RF q 2 = q + 1 := (by decide +kernel : ∀ q, q < 178 → kc q = 7 → RF q 2 = q + 1) q (kc_in h (by decide)) h
theorem rq7_5 {q : Nat} (h : kc q = 7) : RF q 5 = q + 2 := (by decide +kernel : ∀ q, q < 178 → kc q = 7 → RF q 5 = q + 2) q (kc_in h (by decide)) h
theorem rq7_6 {q : Nat} (h : kc q = 7) : RF q 6 = q + 3 := (by decide +kernel : ∀ q, q < 178 → kc q = 7 → RF q 6 = q + 3) q (kc_in h (by decide)) h
theorem rq7_7 {q : Nat} (h : kc q = 7) : RF q 7 = q + 4 := (by decide +kernel : ∀ q, q < 178 → kc q = 7 → RF q 7 = q + 4) q (kc_in h (by decide)) h
theorem rq7_8 {q : Nat} (h : kc q = 7) : RF q 8 = q + 5 := (by decide +kernel : ∀ q, q < 178 → kc q = 7 → RF q 8 = q + 5) q (kc_in h (by decide)) h
theorem rq7_9 {q : Nat} (h : kc q = 7) : RF q 9 = q + 6 := (by decide +kernel : ∀ q, q < 178 → kc q = 7 → RF q 9 = q + 6) q (kc_in h (by decide)) h
theorem rq7_10 {q : Nat} (h : kc q = 7) : RF q 10 = q + 7 := (by decide +kernel : ∀ q, q < 178 → kc q = 7 → RF q 10 = q + 7) q (kc_in h (by decide)) h
theorem rq7_12 {q : Nat} (h : kc q = 7) : RF q 12 = q + 8 := (by decide +kernel : ∀ q, q < 178 → kc q = 7 → RF q 12 = q + 8) q (kc_in h (by decide)) h
theorem rq7_13 {q : Nat} (h : kc q = 7) : RF q 13 = q + 9 := (by decide +kernel : ∀ q, q < 178 → kc q = 7 → RF q 13 = q + 9) q (kc_in h (by decide)) h
theorem rq7_14 {q : Nat} (h : kc q = 7) : RF q 14 = q + 10 := (by decide +kernel : ∀ q, q < 178 → kc q = 7 → RF q 14 = q + 10) q (kc_in h (by decide)) h
theorem rq7_15 {q : Nat} (h : kc q = 7) : RF q 15 = q + 11 := (by decide +kernel : ∀ q, q < 178 → kc q = 7 → RF q 15 = q + 11) q (kc_in h (by decide)) h
theorem rq7_16 {q : Nat} (h : kc q = 7) : RF q 16 = q + 12 := (by decide +kernel : ∀ q, q < 178 → kc q = 7 → RF q 16 = q + 12) q (kc_in h (by decide)) h
theorem rq7_17 {q : Nat} (h : kc q = 7) : RF q 17 = q + 13 := (by decide +kernel : ∀ q, q < 178 → kc q = 7 → RF q 17 = q + 13) q (kc_in h (by decide)) h
theorem rq7_18 {q : Nat} (h : kc q = 7) : RF q 18 = q + 14 := (by decide +kernel : ∀ q, q < 178 → kc q = 7 → RF q 18 = q + 14) q (kc_in h (by decide)) h
theorem rq7_19 {q : Nat} (h : kc q = 7) : RF q 19 = q + 15 := (by decide +kernel : ∀ q, q < 178 → kc q = 7 → RF q 19 = q + 15) q (kc_in h (by decide)) h
theorem rq7_20 {q : Nat} (h : kc q = 7) : RF q 20 = q + 16 := (by decide +kernel : ∀ q, q < 178 → kc q = 7 → RF q 20 = q + 16) q (kc_in h (by decide)) h
theorem rq7_21 {q : Nat} (h : kc q = 7) : RF q 21 = q + 17 := (by decide +kernel : ∀ q, q < 178 → kc q = 7 → RF q 21 = q + 17) q (kc_in h (by decide)) h
theorem rq7_22 {q : Nat} (h : kc q = 7) : RF q 22 = q + 18 := (by decide +kernel : ∀ q, q < 178 → kc q = 7 → RF q 22 = q + 18) q (kc_in h (by decide)) h
theorem rq7_23 {q : Nat} (h : kc q = 7) : RF q 23 = q + 19 := (by decide +kernel : ∀ q, q < 178 → kc q = 7 → RF q 23 = q + 19) q (kc_in h (by decide)) h
theorem rq7_24 {q : Nat} (h : kc q = 7) : RF q 24 = q + 20 := (by decide +kernel : ∀ q, q < 178 → kc q = 7 → RF q 24 = q + 20) q (kc_in h (by decide)) h
theorem rq7_25 {q : Nat} (h : kc q = 7) : RF q 25 = q + 21 := (by decide +kernel : ∀ q, q < 178 → kc q = 7 → RF q 25 = q + 21) q (kc_in h (by decide)) h
theorem own7 {base : Nat} {cA : Nat → ClassId} {q : Nat} (hq : kc q = 7) : tc base cA μ0 q = .inr (7, [.int 0, .int 0, .ref (base + (q + 1)), .int 0, .int 0, .ref (base + (q + 2)), .ref (base + (q + 3)), .ref (base + (q + 4)), .ref (base + (q + 5)), .ref (base + (q + 6)), .ref (base + (q + 7)), .int 0, .ref (base + (q + 8)), .ref (base + (q + 9)), .ref (base + (q + 10)), .ref (base + (q + 11)), .ref (base + (q + 12)), .ref (base + (q + 13)), .ref (base + (q + 14)), .ref (base + (q + 15)), .ref (base + (q + 16)), .ref (base + (q + 17)), .ref (base + (q + 18)), .ref (base + (q + 19)), .ref (base + (q + 20)), .ref (base + (q + 21))]) := by
  have e0 : tv base μ0 q 0 = .int (0) := by rw [tv_int (fk7_0 hq), rI_0]; unfold ini; rw [hq]; rfl
  have e1 : tv base μ0 q 1 = .int (0) := by rw [tv_int (fk7_1 hq), rI_0]; unfold ini; rw [hq]; rfl
  have e2 : tv base μ0 q 2 = .ref (base + (q + 1)) := by rw [tv_ref (fr7_2 hq), rq7_2 hq]
  have e3 : tv base μ0 q 3 = .int (0) := by rw [tv_int (fk7_3 hq), rI_0]; unfold ini; rw [hq]; rfl
  have e4 : tv base μ0 q 4 = .int (0) := by rw [tv_int (fk7_4 hq), rI_0]; unfold ini; rw [hq]; rfl
  have e5 : tv base μ0 q 5 = .ref (base + (q + 2)) := by rw [tv_ref (fr7_5 hq), rq7_5 hq]
  have e6 : tv base μ0 q 6 = .ref (base + (q + 3)) := by rw [tv_ref (fr7_6 hq), rq7_6 hq]
  have e7 : tv base μ0 q 7 = .ref (base + (q + 4)) := by rw [tv_ref (fr7_7 hq), rq7_7 hq]
  have e8 : tv base μ0 q 8 = .ref (base + (q + 5)) := by rw [tv_ref (fr7_8 hq), rq7_8 hq]
  have e9 : tv base μ0 q 9 = .ref (base + (q + 6)) := by rw [tv_ref (fr7_9 hq), rq7_9 hq]
  have e10 : tv base μ0 q 10 = .ref (base + (q + 7)) := by rw [tv_ref (fr7_10 hq), rq7_10 hq]
  have e11 : tv base μ0 q 11 = .int (0) := by rw [tv_int (fk7_11 hq), rI_0]; unfold ini; rw [hq]; rfl
  have e12 : tv base μ0 q 12 = .ref (base + (q + 8)) := by rw [tv_ref (fr7_12 hq), rq7_12 hq]
  have e13 : tv base μ0 q 13 = .ref (base + (q + 9)) := by rw [tv_ref (fr7_13 hq), rq7_13 hq]
  have e14 : tv base μ0 q 14 = .ref (base + (q + 10)) := by rw [tv_ref (fr7_14 hq), rq7_14 hq]
  have e15 : tv base μ0 q 15 = .ref (base + (q + 11)) := by rw [tv_ref (fr7_15 hq), rq7_15 hq]
  have e16 : tv base μ0 q 16 = .ref (base + (q + 12)) := by rw [tv_ref (fr7_16 hq), rq7_16 hq]
  have e17 : tv base μ0 q 17 = .ref (base + (q + 13)) := by rw [tv_ref (fr7_17 hq), rq7_17 hq]
  have e18 : tv base μ0 q 18 = .ref (base + (q + 14)) := by rw [tv_ref (fr7_18 hq), rq7_18 hq]
  have e19 : tv base μ0 q 19 = .ref (base + (q + 15)) := by rw [tv_ref (fr7_19 hq), rq7_19 hq]
  have e20 : tv base μ0 q 20 = .ref (base + (q + 16)) := by rw [tv_ref (fr7_20 hq), rq7_20 hq]
  have e21 : tv base μ0 q 21 = .ref (base + (q + 17)) := by rw [tv_ref (fr7_21 hq), rq7_21 hq]
  have e22 : tv base μ0 q 22 = .ref (base + (q + 18)) := by rw [tv_ref (fr7_22 hq), rq7_22 hq]
  have e23 : tv base μ0 q 23 = .ref (base + (q + 19)) := by rw [tv_ref (fr7_23 hq), rq7_23 hq]
  have e24 : tv base μ0 q 24 = .ref (base + (q + 20)) := by rw [tv_ref (fr7_24 hq), rq7_24 hq]
  have e25 : tv base μ0 q 25 = .ref (base + (q + 21)) := by rw [tv_ref (fr7_25 hq), rq7_25 hq]
  rw [tc_obj hq (by decide)]
  show (.inr (7, [tv base μ0 q 0, tv base μ0 q 1, tv base μ0 q 2, tv base μ0 q 3, tv base μ0 q 4, tv base μ0 q 5, tv base μ0 q 6, tv base μ0 q 7, tv base μ0 q 8, tv base μ0 q 9, tv base μ0 q 10, tv base μ0 q 11, tv base μ0 q 12, tv base μ0 q 13, tv base μ0 q 14, tv base μ0 q 15, tv base μ0 q 16, tv base μ0 q 17, tv base μ0 q 18, tv base μ0 q 19, tv base μ0 q 20, tv base μ0 q 21, tv base μ0 q 22, tv base μ0 q 23, tv base μ0 q 24, tv base μ0 q 25]) : va_E) = _
  rw [e0, e1, e2, e3, e4, e5, e6, e7, e8, e9, e10, e11, e12, e13, e14, e15, e16, e17, e18, e19, e20, e21, e22, e23, e24, e25]
theorem rq8_1 {q : Nat} (h : kc q = 8) : RF q 1 = q + 1 := (by decide +kernel : ∀ q, q < 178 → kc q = 8 → RF q 1 = q + 1) q (kc_in h (by decide)) h
theorem rq8_2 {q : Nat} (h : kc q = 8) : RF q 2 = q + 23 := (by decide +kernel : ∀ q, q < 178 → kc q = 8 → RF q 2 = q + 23) q (kc_in h (by decide)) h
theorem own8 {base : Nat} {cA : Nat → ClassId} {q : Nat} (hq : kc q = 8) : tc base cA μ0 q = .inr (8, [.int 0, .ref (base + (q + 1)), .ref (base + (q + 23))]) := by
  have e0 : tv base μ0 q 0 = .int (0) := by rw [tv_int (fk8_0 hq), rI_0]; unfold ini; rw [hq]; rfl
  have e1 : tv base μ0 q 1 = .ref (base + (q + 1)) := by rw [tv_ref (fr8_1 hq), rq8_1 hq]
  have e2 : tv base μ0 q 2 = .ref (base + (q + 23)) := by rw [tv_ref (fr8_2 hq), rq8_2 hq]
  rw [tc_obj hq (by decide)]
  show (.inr (8, [tv base μ0 q 0, tv base μ0 q 1, tv base μ0 q 2]) : va_E) = _
  rw [e0, e1, e2]
theorem bk3_0 {q : Nat} (h : kc q = 3) : kc (q + 1 + 0) = 100 := (by decide +kernel : ∀ q, q < 178 → kc q = 3 → kc (q + 1 + 0) = 100) q (kc_in h (by decide)) h
theorem bk4_0 {q : Nat} (h : kc q = 4) : kc (q + 1 + 0) = 100 := (by decide +kernel : ∀ q, q < 178 → kc q = 4 → kc (q + 1 + 0) = 100) q (kc_in h (by decide)) h
theorem bk4_0a {q : Nat} (h : kc q = 4) : al (q + 1 + 0) = 400 := (by decide +kernel : ∀ q, q < 178 → kc q = 4 → al (q + 1 + 0) = 400) q (kc_in h (by decide)) h
theorem bk4_1 {q : Nat} (h : kc q = 4) : kc (q + 1 + 1) = 100 := (by decide +kernel : ∀ q, q < 178 → kc q = 4 → kc (q + 1 + 1) = 100) q (kc_in h (by decide)) h
theorem bk4_1a {q : Nat} (h : kc q = 4) : al (q + 1 + 1) = 400 := (by decide +kernel : ∀ q, q < 178 → kc q = 4 → al (q + 1 + 1) = 400) q (kc_in h (by decide)) h
theorem bk1_0 {q : Nat} (h : kc q = 1) : kc (q + 1 + 0) = 101 := (by decide +kernel : ∀ q, q < 178 → kc q = 1 → kc (q + 1 + 0) = 101) q (kc_in h (by decide)) h
theorem bk1_0a {q : Nat} (h : kc q = 1) : al (q + 1 + 0) = 100 := (by decide +kernel : ∀ q, q < 178 → kc q = 1 → al (q + 1 + 0) = 100) q (kc_in h (by decide)) h
theorem bk1_1 {q : Nat} (h : kc q = 1) : kc (q + 1 + 1) = 101 := (by decide +kernel : ∀ q, q < 178 → kc q = 1 → kc (q + 1 + 1) = 101) q (kc_in h (by decide)) h
theorem bk1_1a {q : Nat} (h : kc q = 1) : al (q + 1 + 1) = 400 := (by decide +kernel : ∀ q, q < 178 → kc q = 1 → al (q + 1 + 1) = 400) q (kc_in h (by decide)) h
theorem bk0_0 {q : Nat} (h : kc q = 0) : kc (q + 1 + 0) = 3 := (by decide +kernel : ∀ q, q < 178 → kc q = 0 → kc (q + 1 + 0) = 3) q (kc_in h (by decide)) h
theorem bk0_1 {q : Nat} (h : kc q = 0) : kc (q + 1 + 1) = 100 := (by decide +kernel : ∀ q, q < 178 → kc q = 0 → kc (q + 1 + 1) = 100) q (kc_in h (by decide)) h
theorem bk0_1a {q : Nat} (h : kc q = 0) : al (q + 1 + 1) = 12 := (by decide +kernel : ∀ q, q < 178 → kc q = 0 → al (q + 1 + 1) = 12) q (kc_in h (by decide)) h
theorem bk0_2 {q : Nat} (h : kc q = 0) : kc (q + 1 + 2) = 3 := (by decide +kernel : ∀ q, q < 178 → kc q = 0 → kc (q + 1 + 2) = 3) q (kc_in h (by decide)) h
theorem bk0_3 {q : Nat} (h : kc q = 0) : kc (q + 1 + 3) = 100 := (by decide +kernel : ∀ q, q < 178 → kc q = 0 → kc (q + 1 + 3) = 100) q (kc_in h (by decide)) h
theorem bk0_3a {q : Nat} (h : kc q = 0) : al (q + 1 + 3) = 12 := (by decide +kernel : ∀ q, q < 178 → kc q = 0 → al (q + 1 + 3) = 12) q (kc_in h (by decide)) h
theorem bk0_4 {q : Nat} (h : kc q = 0) : kc (q + 1 + 4) = 4 := (by decide +kernel : ∀ q, q < 178 → kc q = 0 → kc (q + 1 + 4) = 4) q (kc_in h (by decide)) h
theorem bk5_0 {q : Nat} (h : kc q = 5) : kc (q + 1 + 0) = 3 := (by decide +kernel : ∀ q, q < 178 → kc q = 5 → kc (q + 1 + 0) = 3) q (kc_in h (by decide)) h
theorem bk5_1 {q : Nat} (h : kc q = 5) : kc (q + 1 + 1) = 100 := (by decide +kernel : ∀ q, q < 178 → kc q = 5 → kc (q + 1 + 1) = 100) q (kc_in h (by decide)) h
theorem bk5_1a {q : Nat} (h : kc q = 5) : al (q + 1 + 1) = 120 := (by decide +kernel : ∀ q, q < 178 → kc q = 5 → al (q + 1 + 1) = 120) q (kc_in h (by decide)) h
theorem bk5_2 {q : Nat} (h : kc q = 5) : kc (q + 1 + 2) = 4 := (by decide +kernel : ∀ q, q < 178 → kc q = 5 → kc (q + 1 + 2) = 4) q (kc_in h (by decide)) h
theorem bk7_0 {q : Nat} (h : kc q = 7) : kc (q + 1 + 0) = 100 := (by decide +kernel : ∀ q, q < 178 → kc q = 7 → kc (q + 1 + 0) = 100) q (kc_in h (by decide)) h
theorem bk7_0a {q : Nat} (h : kc q = 7) : al (q + 1 + 0) = 120 := (by decide +kernel : ∀ q, q < 178 → kc q = 7 → al (q + 1 + 0) = 120) q (kc_in h (by decide)) h
theorem bk7_1 {q : Nat} (h : kc q = 7) : kc (q + 1 + 1) = 100 := (by decide +kernel : ∀ q, q < 178 → kc q = 7 → kc (q + 1 + 1) = 100) q (kc_in h (by decide)) h
theorem bk7_1a {q : Nat} (h : kc q = 7) : al (q + 1 + 1) = 8 := (by decide +kernel : ∀ q, q < 178 → kc q = 7 → al (q + 1 + 1) = 8) q (kc_in h (by decide)) h
theorem bk7_2 {q : Nat} (h : kc q = 7) : kc (q + 1 + 2) = 100 := (by decide +kernel : ∀ q, q < 178 → kc q = 7 → kc (q + 1 + 2) = 100) q (kc_in h (by decide)) h
theorem bk7_2a {q : Nat} (h : kc q = 7) : al (q + 1 + 2) = 8 := (by decide +kernel : ∀ q, q < 178 → kc q = 7 → al (q + 1 + 2) = 8) q (kc_in h (by decide)) h
theorem bk7_3 {q : Nat} (h : kc q = 7) : kc (q + 1 + 3) = 100 := (by decide +kernel : ∀ q, q < 178 → kc q = 7 → kc (q + 1 + 3) = 100) q (kc_in h (by decide)) h
theorem bk7_3a {q : Nat} (h : kc q = 7) : al (q + 1 + 3) = 8 := (by decide +kernel : ∀ q, q < 178 → kc q = 7 → al (q + 1 + 3) = 8) q (kc_in h (by decide)) h
theorem bk7_4 {q : Nat} (h : kc q = 7) : kc (q + 1 + 4) = 100 := (by decide +kernel : ∀ q, q < 178 → kc q = 7 → kc (q + 1 + 4) = 100) q (kc_in h (by decide)) h
theorem bk7_4a {q : Nat} (h : kc q = 7) : al (q + 1 + 4) = 8 := (by decide +kernel : ∀ q, q < 178 → kc q = 7 → al (q + 1 + 4) = 8) q (kc_in h (by decide)) h
theorem bk7_5 {q : Nat} (h : kc q = 7) : kc (q + 1 + 5) = 100 := (by decide +kernel : ∀ q, q < 178 → kc q = 7 → kc (q + 1 + 5) = 100) q (kc_in h (by decide)) h
theorem bk7_5a {q : Nat} (h : kc q = 7) : al (q + 1 + 5) = 8 := (by decide +kernel : ∀ q, q < 178 → kc q = 7 → al (q + 1 + 5) = 8) q (kc_in h (by decide)) h
theorem bk7_6 {q : Nat} (h : kc q = 7) : kc (q + 1 + 6) = 100 := (by decide +kernel : ∀ q, q < 178 → kc q = 7 → kc (q + 1 + 6) = 100) q (kc_in h (by decide)) h
theorem bk7_6a {q : Nat} (h : kc q = 7) : al (q + 1 + 6) = 8 := (by decide +kernel : ∀ q, q < 178 → kc q = 7 → al (q + 1 + 6) = 8) q (kc_in h (by decide)) h
theorem bk7_7 {q : Nat} (h : kc q = 7) : kc (q + 1 + 7) = 100 := (by decide +kernel : ∀ q, q < 178 → kc q = 7 → kc (q + 1 + 7) = 100) q (kc_in h (by decide)) h
theorem bk7_7a {q : Nat} (h : kc q = 7) : al (q + 1 + 7) = 6 := (by decide +kernel : ∀ q, q < 178 → kc q = 7 → al (q + 1 + 7) = 6) q (kc_in h (by decide)) h
theorem bk7_8 {q : Nat} (h : kc q = 7) : kc (q + 1 + 8) = 100 := (by decide +kernel : ∀ q, q < 178 → kc q = 7 → kc (q + 1 + 8) = 100) q (kc_in h (by decide)) h
theorem bk7_8a {q : Nat} (h : kc q = 7) : al (q + 1 + 8) = 6 := (by decide +kernel : ∀ q, q < 178 → kc q = 7 → al (q + 1 + 8) = 6) q (kc_in h (by decide)) h
theorem bk7_9 {q : Nat} (h : kc q = 7) : kc (q + 1 + 9) = 100 := (by decide +kernel : ∀ q, q < 178 → kc q = 7 → kc (q + 1 + 9) = 100) q (kc_in h (by decide)) h
theorem bk7_9a {q : Nat} (h : kc q = 7) : al (q + 1 + 9) = 6 := (by decide +kernel : ∀ q, q < 178 → kc q = 7 → al (q + 1 + 9) = 6) q (kc_in h (by decide)) h
theorem bk7_10 {q : Nat} (h : kc q = 7) : kc (q + 1 + 10) = 100 := (by decide +kernel : ∀ q, q < 178 → kc q = 7 → kc (q + 1 + 10) = 100) q (kc_in h (by decide)) h
theorem bk7_10a {q : Nat} (h : kc q = 7) : al (q + 1 + 10) = 6 := (by decide +kernel : ∀ q, q < 178 → kc q = 7 → al (q + 1 + 10) = 6) q (kc_in h (by decide)) h
theorem bk7_11 {q : Nat} (h : kc q = 7) : kc (q + 1 + 11) = 100 := (by decide +kernel : ∀ q, q < 178 → kc q = 7 → kc (q + 1 + 11) = 100) q (kc_in h (by decide)) h
theorem bk7_11a {q : Nat} (h : kc q = 7) : al (q + 1 + 11) = 6 := (by decide +kernel : ∀ q, q < 178 → kc q = 7 → al (q + 1 + 11) = 6) q (kc_in h (by decide)) h
theorem bk7_12 {q : Nat} (h : kc q = 7) : kc (q + 1 + 12) = 100 := (by decide +kernel : ∀ q, q < 178 → kc q = 7 → kc (q + 1 + 12) = 100) q (kc_in h (by decide)) h
theorem bk7_12a {q : Nat} (h : kc q = 7) : al (q + 1 + 12) = 6 := (by decide +kernel : ∀ q, q < 178 → kc q = 7 → al (q + 1 + 12) = 6) q (kc_in h (by decide)) h
theorem bk7_13 {q : Nat} (h : kc q = 7) : kc (q + 1 + 13) = 100 := (by decide +kernel : ∀ q, q < 178 → kc q = 7 → kc (q + 1 + 13) = 100) q (kc_in h (by decide)) h
theorem bk7_13a {q : Nat} (h : kc q = 7) : al (q + 1 + 13) = 6 := (by decide +kernel : ∀ q, q < 178 → kc q = 7 → al (q + 1 + 13) = 6) q (kc_in h (by decide)) h
theorem bk7_14 {q : Nat} (h : kc q = 7) : kc (q + 1 + 14) = 100 := (by decide +kernel : ∀ q, q < 178 → kc q = 7 → kc (q + 1 + 14) = 100) q (kc_in h (by decide)) h
theorem bk7_14a {q : Nat} (h : kc q = 7) : al (q + 1 + 14) = 6 := (by decide +kernel : ∀ q, q < 178 → kc q = 7 → al (q + 1 + 14) = 6) q (kc_in h (by decide)) h
theorem bk7_15 {q : Nat} (h : kc q = 7) : kc (q + 1 + 15) = 100 := (by decide +kernel : ∀ q, q < 178 → kc q = 7 → kc (q + 1 + 15) = 100) q (kc_in h (by decide)) h
theorem bk7_15a {q : Nat} (h : kc q = 7) : al (q + 1 + 15) = 72 := (by decide +kernel : ∀ q, q < 178 → kc q = 7 → al (q + 1 + 15) = 72) q (kc_in h (by decide)) h
theorem bk7_16 {q : Nat} (h : kc q = 7) : kc (q + 1 + 16) = 100 := (by decide +kernel : ∀ q, q < 178 → kc q = 7 → kc (q + 1 + 16) = 100) q (kc_in h (by decide)) h
theorem bk7_16a {q : Nat} (h : kc q = 7) : al (q + 1 + 16) = 72 := (by decide +kernel : ∀ q, q < 178 → kc q = 7 → al (q + 1 + 16) = 72) q (kc_in h (by decide)) h
theorem bk7_17 {q : Nat} (h : kc q = 7) : kc (q + 1 + 17) = 100 := (by decide +kernel : ∀ q, q < 178 → kc q = 7 → kc (q + 1 + 17) = 100) q (kc_in h (by decide)) h
theorem bk7_17a {q : Nat} (h : kc q = 7) : al (q + 1 + 17) = 7 := (by decide +kernel : ∀ q, q < 178 → kc q = 7 → al (q + 1 + 17) = 7) q (kc_in h (by decide)) h
theorem bk7_18 {q : Nat} (h : kc q = 7) : kc (q + 1 + 18) = 100 := (by decide +kernel : ∀ q, q < 178 → kc q = 7 → kc (q + 1 + 18) = 100) q (kc_in h (by decide)) h
theorem bk7_18a {q : Nat} (h : kc q = 7) : al (q + 1 + 18) = 2800 := (by decide +kernel : ∀ q, q < 178 → kc q = 7 → al (q + 1 + 18) = 2800) q (kc_in h (by decide)) h
theorem bk7_19 {q : Nat} (h : kc q = 7) : kc (q + 1 + 19) = 100 := (by decide +kernel : ∀ q, q < 178 → kc q = 7 → kc (q + 1 + 19) = 100) q (kc_in h (by decide)) h
theorem bk7_19a {q : Nat} (h : kc q = 7) : al (q + 1 + 19) = 2800 := (by decide +kernel : ∀ q, q < 178 → kc q = 7 → al (q + 1 + 19) = 2800) q (kc_in h (by decide)) h
theorem bk7_20 {q : Nat} (h : kc q = 7) : kc (q + 1 + 20) = 100 := (by decide +kernel : ∀ q, q < 178 → kc q = 7 → kc (q + 1 + 20) = 100) q (kc_in h (by decide)) h
theorem bk7_20a {q : Nat} (h : kc q = 7) : al (q + 1 + 20) = 401 := (by decide +kernel : ∀ q, q < 178 → kc q = 7 → al (q + 1 + 20) = 401) q (kc_in h (by decide)) h
theorem bk8_0 {q : Nat} (h : kc q = 8) : kc (q + 1 + 0) = 7 := (by decide +kernel : ∀ q, q < 178 → kc q = 8 → kc (q + 1 + 0) = 7) q (kc_in h (by decide)) h
theorem bk8_22 {q : Nat} (h : kc q = 8) : kc (q + 1 + 22) = 7 := (by decide +kernel : ∀ q, q < 178 → kc q = 8 → kc (q + 1 + 22) = 7) q (kc_in h (by decide)) h
theorem bk6_0 {q : Nat} (h : kc q = 6) : kc (q + 1 + 0) = 1 := (by decide +kernel : ∀ q, q < 178 → kc q = 6 → kc (q + 1 + 0) = 1) q (kc_in h (by decide)) h
theorem bk6_3 {q : Nat} (h : kc q = 6) : kc (q + 1 + 3) = 5 := (by decide +kernel : ∀ q, q < 178 → kc q = 6 → kc (q + 1 + 3) = 5) q (kc_in h (by decide)) h
theorem bk6_67 {q : Nat} (h : kc q = 6) : kc (q + 1 + 67) = 5 := (by decide +kernel : ∀ q, q < 178 → kc q = 6 → kc (q + 1 + 67) = 5) q (kc_in h (by decide)) h
theorem cw1 {D : va_G} {x : Nat × va_E} {H : Heap} {sz : Nat} (h : va_at D vwCl x H) (hz : H.size = sz) : CW D x.1 [x] H sz := by
  refine ⟨fun k y hy => ?_, ⟨fun i j y z hy hz _ => ?_, fun k y hy => ?_⟩, hz⟩
  · have hz : k < 1 := (List.getElem?_eq_some_iff.mp hy).1
    rw [show k = 0 by omega] at hy
    cases hy
    exact h
  · have h1 : i < 1 := (List.getElem?_eq_some_iff.mp hy).1
    have h2 : j < 1 := (List.getElem?_eq_some_iff.mp hz).1
    omega
  · have hz : k < 1 := (List.getElem?_eq_some_iff.mp hy).1
    rw [show k = 0 by omega] at hy
    cases hy
    exact Nat.le_refl _
theorem cw_merge {D : va_G} {cA : Nat → ClassId} {base lo i n L : Nat} {x : Nat × va_E} {H : Heap} (h : CW D lo ((x :: sg base cA i n) ++ sg base cA (i + n) L) H (base + (i + n + L))) : CW D lo (x :: sg base cA i (n + L)) H (base + (i + (n + L))) := by
  rw [List.cons_append, sg_app, Nat.add_assoc] at h
  exact h
theorem cw_end {D : va_G} {cA : Nat → ClassId} {base lo q n : Nat} {e : va_E} {H : Heap} {t : State} (h : CW D lo ((base + q, e) :: sg base cA (q + 1) n) H (base + (q + 1 + n))) (he : tc base cA μ0 q = e) (ht : t.heap = H) : cPost D cA base q (n + 1) t := by
  subst he
  rw [sg_cons] at h
  refine ⟨?_, by rw [ht]; exact h.1⟩
  rw [ht, h.2.2]
  omega
abbrev rmX3_init (N : Nat) : Room := { frames := 1, cells := 1, slots := N, locals := 12 }
set_option maxHeartbeats 4000000 in
set_option maxRecDepth 100000 in
theorem mX3_init (l : Launch) (D : va_G) (cA : Nat → ClassId) (base : Nat) {q N : Nat} {n : Int32} (hq : kc q = 3) (hn0 : ¬ n < 0) (hnN : n.toNatClampNeg = N) (hnb : N * componentBytes .int ≤ 536870912) (hal : al (q + 1 + 0) = N) : Met l yX3_init wsX3_init (rmX3_init N) (va_Pc [.ref (base + q), .int n] (cPre D cA base q 3 [.null, .int 0])) (va_Qv (fun _ : Unit => True) (fun _ => cPost D cA base q 2) (fun x => base + q ≤ x)) 1 N (fun x => base + q ≤ x) := by
  refine Met.ofW (cc := cX3_init) (maxL := 2) (ret := none) (by decide) rfl ?_
  intro p e s m args below meth c s₁ B hml hv
  obtain ⟨rfl, hsz, hE, hK, hN, hQ⟩ := hv
  have hx := B.exec
  have hb := B.bytes
  have hr := B.returns
  have hts := atoms_spec (ws := wsX3_init) B.pre
  have hown : s.vm.findClass RX3 = some m.cls := findClass_of_methodNamed B.named
  have hlocks := B.notSynchronized
  have hin : meth.name = "<init>" := (name_of_methodNamed B.named B.method).1
  have hin3 : ∀ w ∈ wsX30, w ∈ wsX3_init := by decide +kernel
  have hS : va_S (fun x => base + q ≤ x) s.heap s.heap [] := va_S.rf
  have hW : CW D (base + q) ((base + q, .inr (3, [.null, .int 0])) :: sg base cA (q + 1) 0) s.heap (base + (q + 1 + 0)) := cw1 hE hsz
  have hl := lv_entry ([.ref (base + q), .int n]) (n := 2) (Nat.le_of_ble_eq_true rfl)
  rw [lg_entry_eq]
  generalize (lg_sl ([.ref (base + q), .int n]) ++ List.replicate (2 - (lg_sl ([.ref (base + q), .int n])).length) Slot.unset).toArray = ls at hl ⊢
  have hl : lv_has ls 2 [(0, .ref (base + q)), (1, .int n)] := hl
  refine lv_aload_n hx hb dX3_init_0 rfl (lv_at hl 0 rfl) ?_
  refine W.objInit hx hb hown (hts _ (List.mem_of_getElem? (i := 1) rfl)) (hts _ (List.mem_of_getElem? (i := 2) rfl)) (hts (.code objectInit ⟨#[0xb1]⟩ 1 none) (List.mem_of_getElem? (i := 3) rfl)) rfl (by rw [hml]; exact hl.1) rfl dX3_init_1 (Nat.le_of_ble_eq_true rfl) (Nat.le_of_ble_eq_true rfl) ?_
  refine W.eq (g2 := F0 m 4 ls []) rfl ?_
  refine lv_aload_n hx hb dX3_init_4 rfl (lv_at hl 0 rfl) ?_
  refine lv_iload_n hx hb dX3_init_5 rfl (lv_at hl 1 rfl) ?_
  refine lv_if_ge (tgt := 13) hx hb dX3_init_6 (by decide) (fun c1 => ?_) (fun c1 => absurd (fa_of_nlt hn0) c1)
  refine lv_iload_n hx hb dX3_init_13 rfl (lv_at hl 1 rfl) ?_
  refine c_newI (i := (q + 1 + 0)) (N := N) hx hb (hts _ (List.mem_of_getElem? (i := 4) rfl)) hK hW (by omega) (bk3_0 hq) hal hS hn0 hnN hnb (Nat.le_of_ble_eq_true rfl) (Nat.le_of_eq (Nat.zero_add N)) dX3_init_14 (fun H hW hS => ?_)
  have hW : CW D (base + q) ((base + q, .inr (3, [.null, .int 0])) :: sg base cA (q + 1) 1) H (base + (q + 1 + 1)) := cw_merge hW
  refine c_putF (ci := 3) (v := .ref (base + (q + 1 + 0))) (C := RX3) (T := TX3) (N := 2) hx hb hts hin3 tyX3 tyX3_ok nmX3 hown hK hW hS (fun _ h => h) 0 rfl rfl 0 (by decide) (hts _ (List.mem_of_getElem? (i := 5) rfl)) rfl hin rfl (tyX3_ok 0 (by decide)) rfl rfl (Nat.le_of_ble_eq_true rfl) dX3_init_16 (fun H locs hW hS => ?_)
  have hW : CW D (base + q) ((base + q, .inr (3, [.ref (base + (q + 1 + 0)), .int 0])) :: sg base cA (q + 1) 1) H (base + (q + 1 + 1)) := hW
  refine W.widen (k := 1) (n := N) (Nat.le_refl _) (Nat.le_of_eq (Nat.zero_add N)) ?_
  exact W.vret hx hb hr (fun t ht hW9 => ⟨⟨(), rfl, trivial, cw_end hW (own3 hq) ht⟩, hS.F ht⟩) hS.2.2 dX3_init_19
abbrev rmX4_init : Room := { frames := 1, cells := 2, slots := 800, locals := 12 }
set_option maxHeartbeats 4000000 in
set_option maxRecDepth 100000 in
theorem mX4_init (l : Launch) (D : va_G) (cA : Nat → ClassId) (base : Nat) {q : Nat} (hq : kc q = 4) : Met l yX4_init wsX4_init rmX4_init (va_Pc [.ref (base + q)] (cPre D cA base q 4 [.null, .null, .int 0])) (va_Qv (fun _ : Unit => True) (fun _ => cPost D cA base q 3) (fun x => base + q ≤ x)) 2 800 (fun x => base + q ≤ x) := by
  refine Met.ofW (cc := cX4_init) (maxL := 1) (ret := none) (by decide) rfl ?_
  intro p e s m args below meth c s₁ B hml hv
  obtain ⟨rfl, hsz, hE, hK, hN, hQ⟩ := hv
  have hx := B.exec
  have hb := B.bytes
  have hr := B.returns
  have hts := atoms_spec (ws := wsX4_init) B.pre
  have hown : s.vm.findClass RX4 = some m.cls := findClass_of_methodNamed B.named
  have hlocks := B.notSynchronized
  have hin : meth.name = "<init>" := (name_of_methodNamed B.named B.method).1
  have hin4 : ∀ w ∈ wsX40, w ∈ wsX4_init := by decide +kernel
  have hS : va_S (fun x => base + q ≤ x) s.heap s.heap [] := va_S.rf
  have hW : CW D (base + q) ((base + q, .inr (4, [.null, .null, .int 0])) :: sg base cA (q + 1) 0) s.heap (base + (q + 1 + 0)) := cw1 hE hsz
  have hl := lv_entry ([.ref (base + q)]) (n := 1) (Nat.le_of_ble_eq_true rfl)
  rw [lg_entry_eq]
  generalize (lg_sl ([.ref (base + q)]) ++ List.replicate (1 - (lg_sl ([.ref (base + q)])).length) Slot.unset).toArray = ls at hl ⊢
  have hl : lv_has ls 1 [(0, .ref (base + q))] := hl
  refine lv_aload_n hx hb dX4_init_0 rfl (lv_at hl 0 rfl) ?_
  refine W.objInit hx hb hown (hts _ (List.mem_of_getElem? (i := 1) rfl)) (hts _ (List.mem_of_getElem? (i := 2) rfl)) (hts (.code objectInit ⟨#[0xb1]⟩ 1 none) (List.mem_of_getElem? (i := 3) rfl)) rfl (by rw [hml]; exact hl.1) rfl dX4_init_1 (Nat.le_of_ble_eq_true rfl) (Nat.le_of_ble_eq_true rfl) ?_
  refine W.eq (g2 := F0 m 4 ls []) rfl ?_
  refine lv_aload_n hx hb dX4_init_4 rfl (lv_at hl 0 rfl) ?_
  refine lv_sipush (v := (400 : Int32)) hx hb dX4_init_5 (by decide) ?_
  refine c_newI (i := (q + 1 + 0)) (N := 400) hx hb (hts _ (List.mem_of_getElem? (i := 4) rfl)) hK hW (by omega) (bk4_0 hq) (bk4_0a hq) hS (by decide) (by decide) (by decide) (Nat.le_of_ble_eq_true rfl) (Nat.le_of_ble_eq_true rfl) dX4_init_8 (fun H hW hS => ?_)
  have hW : CW D (base + q) ((base + q, .inr (4, [.null, .null, .int 0])) :: sg base cA (q + 1) 1) H (base + (q + 1 + 1)) := cw_merge hW
  refine c_putF (ci := 4) (v := .ref (base + (q + 1 + 0))) (C := RX4) (T := TX4) (N := 3) hx hb hts hin4 tyX4 tyX4_ok nmX4 hown hK hW hS (fun _ h => h) 0 rfl rfl 0 (by decide) (hts _ (List.mem_of_getElem? (i := 5) rfl)) rfl hin rfl (tyX4_ok 0 (by decide)) rfl rfl (Nat.le_of_ble_eq_true rfl) dX4_init_10 (fun H locs hW hS => ?_)
  have hW : CW D (base + q) ((base + q, .inr (4, [.ref (base + (q + 1 + 0)), .null, .int 0])) :: sg base cA (q + 1) 1) H (base + (q + 1 + 1)) := hW
  refine lv_aload_n hx hb dX4_init_13 rfl (lv_at hl 0 rfl) ?_
  refine lv_sipush (v := (400 : Int32)) hx hb dX4_init_14 (by decide) ?_
  refine c_newI (i := (q + 1 + 1)) (N := 400) hx hb (hts _ (List.mem_of_getElem? (i := 4) rfl)) hK hW (by omega) (bk4_1 hq) (bk4_1a hq) hS (by decide) (by decide) (by decide) (Nat.le_of_ble_eq_true rfl) (Nat.le_of_ble_eq_true rfl) dX4_init_17 (fun H hW hS => ?_)
  have hW : CW D (base + q) ((base + q, .inr (4, [.ref (base + (q + 1 + 0)), .null, .int 0])) :: sg base cA (q + 1) 2) H (base + (q + 1 + 2)) := cw_merge hW
  refine c_putF (ci := 4) (v := .ref (base + (q + 1 + 1))) (C := RX4) (T := TX4) (N := 3) hx hb hts hin4 tyX4 tyX4_ok nmX4 hown hK hW hS (fun _ h => h) 0 rfl rfl 1 (by decide) (hts _ (List.mem_of_getElem? (i := 6) rfl)) rfl hin rfl (tyX4_ok 1 (by decide)) rfl rfl (Nat.le_of_ble_eq_true rfl) dX4_init_19 (fun H locs hW hS => ?_)
  have hW : CW D (base + q) ((base + q, .inr (4, [.ref (base + (q + 1 + 0)), .ref (base + (q + 1 + 1)), .int 0])) :: sg base cA (q + 1) 2) H (base + (q + 1 + 2)) := hW
  exact W.vret hx hb hr (fun t ht hW9 => ⟨⟨(), rfl, trivial, cw_end hW (own4 hq) ht⟩, hS.F ht⟩) hS.2.2 dX4_init_22
abbrev rmX2_init : Room := { frames := 1, cells := 0, slots := 0, locals := 12 }
set_option maxHeartbeats 4000000 in
set_option maxRecDepth 100000 in
theorem mX2_init (l : Launch) (D : va_G) (cA : Nat → ClassId) (base : Nat) {q : Nat} (hq : kc q = 2) : Met l yX2_init wsX2_init rmX2_init (va_Pc [.ref (base + q)] (cPre D cA base q 2 [.int 0, .int 0, .int 0, .int 0, .int 0, .int 0, .int 0])) (va_Qv (fun _ : Unit => True) (fun _ => cPost D cA base q 1) (fun x => base + q ≤ x)) 0 0 (fun x => base + q ≤ x) := by
  refine Met.ofW (cc := cX2_init) (maxL := 1) (ret := none) (by decide) rfl ?_
  intro p e s m args below meth c s₁ B hml hv
  obtain ⟨rfl, hsz, hE, hK, hN, hQ⟩ := hv
  have hx := B.exec
  have hb := B.bytes
  have hr := B.returns
  have hts := atoms_spec (ws := wsX2_init) B.pre
  have hown : s.vm.findClass RX2 = some m.cls := findClass_of_methodNamed B.named
  have hlocks := B.notSynchronized
  have hin : meth.name = "<init>" := (name_of_methodNamed B.named B.method).1
  have hin2 : ∀ w ∈ wsX20, w ∈ wsX2_init := by decide +kernel
  have hS : va_S (fun x => base + q ≤ x) s.heap s.heap [] := va_S.rf
  have hW : CW D (base + q) ((base + q, .inr (2, [.int 0, .int 0, .int 0, .int 0, .int 0, .int 0, .int 0])) :: sg base cA (q + 1) 0) s.heap (base + (q + 1 + 0)) := cw1 hE hsz
  have hl := lv_entry ([.ref (base + q)]) (n := 1) (Nat.le_of_ble_eq_true rfl)
  rw [lg_entry_eq]
  generalize (lg_sl ([.ref (base + q)]) ++ List.replicate (1 - (lg_sl ([.ref (base + q)])).length) Slot.unset).toArray = ls at hl ⊢
  have hl : lv_has ls 1 [(0, .ref (base + q))] := hl
  refine lv_aload_n hx hb dX2_init_0 rfl (lv_at hl 0 rfl) ?_
  refine W.objInit hx hb hown (hts _ (List.mem_of_getElem? (i := 1) rfl)) (hts _ (List.mem_of_getElem? (i := 2) rfl)) (hts (.code objectInit ⟨#[0xb1]⟩ 1 none) (List.mem_of_getElem? (i := 3) rfl)) rfl (by rw [hml]; exact hl.1) rfl dX2_init_1 (Nat.le_of_ble_eq_true rfl) (Nat.le_of_ble_eq_true rfl) ?_
  refine W.eq (g2 := F0 m 4 ls []) rfl ?_
  refine lv_aload_n hx hb dX2_init_4 rfl (lv_at hl 0 rfl) ?_
  refine lv_iconst (v := (-1 : Int32)) hx hb dX2_init_5 (by decide) ?_
  refine c_put (ci := 2) (v := .int (-1 : Int32)) (C := RX2) (T := TX2) (N := 7) hx hb hts hin2 tyX2 tyX2_ok nmX2 hown hK hW hS (fun _ h => h) 0 rfl rfl 2 (by decide) (hts _ (List.mem_of_getElem? (i := 4) rfl)) rfl (tyX2_ok 2 (by decide)) rfl rfl (Nat.le_of_ble_eq_true rfl) dX2_init_6 (fun H locs hW hS => ?_)
  have hW : CW D (base + q) ((base + q, .inr (2, [.int 0, .int 0, .int (-1 : Int32), .int 0, .int 0, .int 0, .int 0])) :: sg base cA (q + 1) 0) H (base + (q + 1 + 0)) := hW
  exact W.vret hx hb hr (fun t ht hW9 => ⟨⟨(), rfl, trivial, cw_end hW (own2 hq) ht⟩, hS.F ht⟩) hS.2.2 dX2_init_9
abbrev rmX1_init : Room := { frames := 1, cells := 2, slots := 500, locals := 12 }
set_option maxHeartbeats 4000000 in
set_option maxRecDepth 100000 in
theorem mX1_init (l : Launch) (D : va_G) (cA : Nat → ClassId) (base : Nat) {q : Nat} (hq : kc q = 1) : Met l yX1_init wsX1_init rmX1_init (va_Pc [.ref (base + q)] (cPre D cA base q 1 [.null, .null])) (va_Qv (fun _ : Unit => True) (fun _ => cPost D cA base q 3) (fun x => base + q ≤ x)) 2 500 (fun x => base + q ≤ x) := by
  refine Met.ofW (cc := cX1_init) (maxL := 1) (ret := none) (by decide) rfl ?_
  intro p e s m args below meth c s₁ B hml hv
  obtain ⟨rfl, hsz, hE, hK, hN, hQ⟩ := hv
  have hx := B.exec
  have hb := B.bytes
  have hr := B.returns
  have hts := atoms_spec (ws := wsX1_init) B.pre
  have hown : s.vm.findClass RX1 = some m.cls := findClass_of_methodNamed B.named
  have hlocks := B.notSynchronized
  have hin : meth.name = "<init>" := (name_of_methodNamed B.named B.method).1
  have hin1 : ∀ w ∈ wsX10, w ∈ wsX1_init := by decide +kernel
  have hS : va_S (fun x => base + q ≤ x) s.heap s.heap [] := va_S.rf
  have hW : CW D (base + q) ((base + q, .inr (1, [.null, .null])) :: sg base cA (q + 1) 0) s.heap (base + (q + 1 + 0)) := cw1 hE hsz
  have hl := lv_entry ([.ref (base + q)]) (n := 1) (Nat.le_of_ble_eq_true rfl)
  rw [lg_entry_eq]
  generalize (lg_sl ([.ref (base + q)]) ++ List.replicate (1 - (lg_sl ([.ref (base + q)])).length) Slot.unset).toArray = ls at hl ⊢
  have hl : lv_has ls 1 [(0, .ref (base + q))] := hl
  refine lv_aload_n hx hb dX1_init_0 rfl (lv_at hl 0 rfl) ?_
  refine W.objInit hx hb hown (hts _ (List.mem_of_getElem? (i := 1) rfl)) (hts _ (List.mem_of_getElem? (i := 2) rfl)) (hts (.code objectInit ⟨#[0xb1]⟩ 1 none) (List.mem_of_getElem? (i := 3) rfl)) rfl (by rw [hml]; exact hl.1) rfl dX1_init_1 (Nat.le_of_ble_eq_true rfl) (Nat.le_of_ble_eq_true rfl) ?_
  refine W.eq (g2 := F0 m 4 ls []) rfl ?_
  refine lv_aload_n hx hb dX1_init_4 rfl (lv_at hl 0 rfl) ?_
  refine lv_bipush (v := (100 : Int32)) hx hb dX1_init_5 (by decide) ?_
  refine c_newJ (i := (q + 1 + 0)) (N := 100) hx hb (hts _ (List.mem_of_getElem? (i := 4) rfl)) hK hW (by omega) (bk1_0 hq) (bk1_0a hq) hS (by decide) (by decide) (by decide) (Nat.le_of_ble_eq_true rfl) (Nat.le_of_ble_eq_true rfl) dX1_init_7 (fun H hW hS => ?_)
  have hW : CW D (base + q) ((base + q, .inr (1, [.null, .null])) :: sg base cA (q + 1) 1) H (base + (q + 1 + 1)) := cw_merge hW
  refine c_putF (ci := 1) (v := .ref (base + (q + 1 + 0))) (C := RX1) (T := TX1) (N := 2) hx hb hts hin1 tyX1 tyX1_ok nmX1 hown hK hW hS (fun _ h => h) 0 rfl rfl 0 (by decide) (hts _ (List.mem_of_getElem? (i := 5) rfl)) rfl hin rfl (tyX1_ok 0 (by decide)) rfl rfl (Nat.le_of_ble_eq_true rfl) dX1_init_9 (fun H locs hW hS => ?_)
  have hW : CW D (base + q) ((base + q, .inr (1, [.ref (base + (q + 1 + 0)), .null])) :: sg base cA (q + 1) 1) H (base + (q + 1 + 1)) := hW
  refine lv_aload_n hx hb dX1_init_12 rfl (lv_at hl 0 rfl) ?_
  refine lv_sipush (v := (400 : Int32)) hx hb dX1_init_13 (by decide) ?_
  refine c_newJ (i := (q + 1 + 1)) (N := 400) hx hb (hts _ (List.mem_of_getElem? (i := 4) rfl)) hK hW (by omega) (bk1_1 hq) (bk1_1a hq) hS (by decide) (by decide) (by decide) (Nat.le_of_ble_eq_true rfl) (Nat.le_of_ble_eq_true rfl) dX1_init_16 (fun H hW hS => ?_)
  have hW : CW D (base + q) ((base + q, .inr (1, [.ref (base + (q + 1 + 0)), .null])) :: sg base cA (q + 1) 2) H (base + (q + 1 + 2)) := cw_merge hW
  refine c_putF (ci := 1) (v := .ref (base + (q + 1 + 1))) (C := RX1) (T := TX1) (N := 2) hx hb hts hin1 tyX1 tyX1_ok nmX1 hown hK hW hS (fun _ h => h) 0 rfl rfl 1 (by decide) (hts _ (List.mem_of_getElem? (i := 6) rfl)) rfl hin rfl (tyX1_ok 1 (by decide)) rfl rfl (Nat.le_of_ble_eq_true rfl) dX1_init_18 (fun H locs hW hS => ?_)
  have hW : CW D (base + q) ((base + q, .inr (1, [.ref (base + (q + 1 + 0)), .ref (base + (q + 1 + 1))])) :: sg base cA (q + 1) 2) H (base + (q + 1 + 2)) := hW
  exact W.vret hx hb hr (fun t ht hW9 => ⟨⟨(), rfl, trivial, cw_end hW (own1 hq) ht⟩, hS.F ht⟩) hS.2.2 dX1_init_21
abbrev rmX0_init : Room := { frames := 2, cells := 7, slots := 831, locals := 33 }
set_option maxHeartbeats 4000000 in
set_option maxRecDepth 100000 in
theorem mX0_init (l : Launch) (D : va_G) (cA : Nat → ClassId) (base : Nat) {q : Nat} (hq : kc q = 0) : Met l yX0_init wsX0_init rmX0_init (va_Pc [.ref (base + q)] (cPre D cA base q 0 [.null, .null, .null, .int 0, .int 0, .int 0, .int 0, .int 0, .int 0, .int 0])) (va_Qv (fun _ : Unit => True) (fun _ => cPost D cA base q 8) (fun x => base + q ≤ x)) 7 831 (fun x => base + q ≤ x) := by
  refine Met.ofW (cc := cX0_init) (maxL := 1) (ret := none) (by decide) rfl ?_
  intro p e s m args below meth c s₁ B hml hv
  obtain ⟨rfl, hsz, hE, hK, hN, hQ⟩ := hv
  have hx := B.exec
  have hb := B.bytes
  have hr := B.returns
  have hts := atoms_spec (ws := wsX0_init) B.pre
  have hown : s.vm.findClass RX0 = some m.cls := findClass_of_methodNamed B.named
  have hlocks := B.notSynchronized
  have hin : meth.name = "<init>" := (name_of_methodNamed B.named B.method).1
  have hin0 : ∀ w ∈ wsX00, w ∈ wsX0_init := by decide +kernel
  have hin3 : ∀ w ∈ wsX30, w ∈ wsX0_init := by decide +kernel
  have hin4 : ∀ w ∈ wsX40, w ∈ wsX0_init := by decide +kernel
  have hS : va_S (fun x => base + q ≤ x) s.heap s.heap [] := va_S.rf
  have hW : CW D (base + q) ((base + q, .inr (0, [.null, .null, .null, .int 0, .int 0, .int 0, .int 0, .int 0, .int 0, .int 0])) :: sg base cA (q + 1) 0) s.heap (base + (q + 1 + 0)) := cw1 hE hsz
  have hl := lv_entry ([.ref (base + q)]) (n := 1) (Nat.le_of_ble_eq_true rfl)
  rw [lg_entry_eq]
  generalize (lg_sl ([.ref (base + q)]) ++ List.replicate (1 - (lg_sl ([.ref (base + q)])).length) Slot.unset).toArray = ls at hl ⊢
  have hl : lv_has ls 1 [(0, .ref (base + q))] := hl
  refine lv_aload_n hx hb dX0_init_0 rfl (lv_at hl 0 rfl) ?_
  refine W.objInit hx hb hown (hts _ (List.mem_of_getElem? (i := 1) rfl)) (hts _ (List.mem_of_getElem? (i := 2) rfl)) (hts (.code objectInit ⟨#[0xb1]⟩ 1 none) (List.mem_of_getElem? (i := 3) rfl)) rfl (by rw [hml]; exact hl.1) rfl dX0_init_1 (Nat.le_of_ble_eq_true rfl) (Nat.le_of_ble_eq_true rfl) ?_
  refine W.eq (g2 := F0 m 4 ls []) rfl ?_
  refine lv_aload_n hx hb dX0_init_4 rfl (lv_at hl 0 rfl) ?_
  refine c_new (ci := 3) (fs := [.null, .int 0]) (C := RX3) (T := TX3) (N := 2) hx hb hts hin3 tyX3 tyX3_ok hown (hts _ (List.mem_of_getElem? (i := 4) rfl)) (hts _ (List.mem_of_getElem? (i := 5) rfl)) (hts _ (List.mem_of_getElem? (i := 6) rfl)) hK hW hS rfl (fun j hj => by rcases (show j = 0 ∨ j = 1 by omega) with rfl | rfl <;> rfl) (Nat.le_of_ble_eq_true rfl) (Nat.le_of_ble_eq_true rfl) dX0_init_5 (fun H hW hE hlt hS => ?_)
  refine lv_dup hx hb dX0_init_8 rfl ?_
  refine lv_bipush (v := (12 : Int32)) hx hb dX0_init_9 (by decide) ?_
  refine c_call (q := (q + 1 + 0)) (L := 2) (As := [.int (12 : Int32)]) (rest := [.ref (base + (q + 1 + 0)), .ref (base + q)]) ⟨hx, hb, hml, hown, hts⟩ (mX3_init l D cA base (q := (q + 1 + 0)) (N := 12) (n := (12 : Int32)) (bk0_0 hq) (by decide) (by decide) (by decide) (bk0_1a hq)) (cwI 1 hts gX0_init_X3_init rfl rfl rfl (hts _ (List.mem_of_getElem? (i := 6) rfl)) (hts _ (List.mem_of_getElem? (i := 16) rfl)) (hts _ (List.mem_of_getElem? (i := 17) rfl)) rfl (by decide +kernel) ⟨Nat.le_of_ble_eq_true rfl, Nat.le_of_ble_eq_true rfl⟩) hK hN hQ hW (by omega) hE hlt hS (fun x h => by show base + q ≤ x; omega) rfl hl.1 (Nat.le_of_ble_eq_true rfl) dX0_init_11 ⟨Nat.le_of_ble_eq_true rfl, Nat.le_of_ble_eq_true rfl⟩ rfl (fun H locs hW hS => ?_)
  have hW : CW D (base + q) ((base + q, .inr (0, [.null, .null, .null, .int 0, .int 0, .int 0, .int 0, .int 0, .int 0, .int 0])) :: sg base cA (q + 1) 2) H (base + (q + 1 + 2)) := cw_merge hW
  refine c_putF (ci := 0) (v := .ref (base + (q + 1 + 0))) (C := RX0) (T := TX0) (N := 10) hx hb hts hin0 tyX0 tyX0_ok nmX0 hown hK hW hS (fun _ h => h) 0 rfl rfl 0 (by decide) (hts _ (List.mem_of_getElem? (i := 7) rfl)) rfl hin rfl (tyX0_ok 0 (by decide)) rfl rfl (Nat.le_of_ble_eq_true rfl) dX0_init_14 (fun H locs hW hS => ?_)
  have hW : CW D (base + q) ((base + q, .inr (0, [.ref (base + (q + 1 + 0)), .null, .null, .int 0, .int 0, .int 0, .int 0, .int 0, .int 0, .int 0])) :: sg base cA (q + 1) 2) H (base + (q + 1 + 2)) := hW
  refine lv_aload_n hx hb dX0_init_17 rfl (lv_at hl 0 rfl) ?_
  refine c_new (ci := 3) (fs := [.null, .int 0]) (C := RX3) (T := TX3) (N := 2) hx hb hts hin3 tyX3 tyX3_ok hown (hts _ (List.mem_of_getElem? (i := 4) rfl)) (hts _ (List.mem_of_getElem? (i := 5) rfl)) (hts _ (List.mem_of_getElem? (i := 6) rfl)) hK hW hS rfl (fun j hj => by rcases (show j = 0 ∨ j = 1 by omega) with rfl | rfl <;> rfl) (Nat.le_of_ble_eq_true rfl) (Nat.le_of_ble_eq_true rfl) dX0_init_18 (fun H hW hE hlt hS => ?_)
  refine lv_dup hx hb dX0_init_21 rfl ?_
  refine lv_bipush (v := (12 : Int32)) hx hb dX0_init_22 (by decide) ?_
  refine c_call (q := (q + 1 + 2)) (L := 2) (As := [.int (12 : Int32)]) (rest := [.ref (base + (q + 1 + 2)), .ref (base + q)]) ⟨hx, hb, hml, hown, hts⟩ (mX3_init l D cA base (q := (q + 1 + 2)) (N := 12) (n := (12 : Int32)) (bk0_2 hq) (by decide) (by decide) (by decide) (bk0_3a hq)) (cwI 1 hts gX0_init_X3_init rfl rfl rfl (hts _ (List.mem_of_getElem? (i := 6) rfl)) (hts _ (List.mem_of_getElem? (i := 16) rfl)) (hts _ (List.mem_of_getElem? (i := 17) rfl)) rfl (by decide +kernel) ⟨Nat.le_of_ble_eq_true rfl, Nat.le_of_ble_eq_true rfl⟩) hK hN hQ hW (by omega) hE hlt hS (fun x h => by show base + q ≤ x; omega) rfl hl.1 (Nat.le_of_ble_eq_true rfl) dX0_init_24 ⟨Nat.le_of_ble_eq_true rfl, Nat.le_of_ble_eq_true rfl⟩ rfl (fun H locs hW hS => ?_)
  have hW : CW D (base + q) ((base + q, .inr (0, [.ref (base + (q + 1 + 0)), .null, .null, .int 0, .int 0, .int 0, .int 0, .int 0, .int 0, .int 0])) :: sg base cA (q + 1) 4) H (base + (q + 1 + 4)) := cw_merge hW
  refine c_putF (ci := 0) (v := .ref (base + (q + 1 + 2))) (C := RX0) (T := TX0) (N := 10) hx hb hts hin0 tyX0 tyX0_ok nmX0 hown hK hW hS (fun _ h => h) 0 rfl rfl 1 (by decide) (hts _ (List.mem_of_getElem? (i := 8) rfl)) rfl hin rfl (tyX0_ok 1 (by decide)) rfl rfl (Nat.le_of_ble_eq_true rfl) dX0_init_27 (fun H locs hW hS => ?_)
  have hW : CW D (base + q) ((base + q, .inr (0, [.ref (base + (q + 1 + 0)), .ref (base + (q + 1 + 2)), .null, .int 0, .int 0, .int 0, .int 0, .int 0, .int 0, .int 0])) :: sg base cA (q + 1) 4) H (base + (q + 1 + 4)) := hW
  refine lv_aload_n hx hb dX0_init_30 rfl (lv_at hl 0 rfl) ?_
  refine c_new (ci := 4) (fs := [.null, .null, .int 0]) (C := RX4) (T := TX4) (N := 3) hx hb hts hin4 tyX4 tyX4_ok hown (hts _ (List.mem_of_getElem? (i := 9) rfl)) (hts _ (List.mem_of_getElem? (i := 10) rfl)) (hts _ (List.mem_of_getElem? (i := 11) rfl)) hK hW hS rfl (fun j hj => by rcases (show j = 0 ∨ j = 1 ∨ j = 2 by omega) with rfl | rfl | rfl <;> rfl) (Nat.le_of_ble_eq_true rfl) (Nat.le_of_ble_eq_true rfl) dX0_init_31 (fun H hW hE hlt hS => ?_)
  refine lv_dup hx hb dX0_init_34 rfl ?_
  refine c_callN (q := (q + 1 + 4)) (L := 3) (As := []) (rest := [.ref (base + (q + 1 + 4)), .ref (base + q)]) ⟨hx, hb, hml, hown, hts⟩ (mX4_init l D cA base (q := (q + 1 + 4)) (bk0_4 hq)) ⟨va_cnB (host := "RelayBooths") 0 hts gX0_init_X4_init_n25 rfl rfl rfl (hN.2 _ (List.mem_of_getElem? (i := 1) rfl)) (hts _ (List.mem_of_getElem? (i := 11) rfl)) (by decide +kernel) ⟨Nat.le_of_ble_eq_true rfl, Nat.le_of_ble_eq_true rfl⟩, rfl, (hts _ (List.mem_of_getElem? (i := 22) rfl))⟩ hK hN hQ hW (by omega) hE hlt hS (fun x h => by show base + q ≤ x; omega) rfl hl.1 (Nat.le_of_ble_eq_true rfl) dX0_init_35 ⟨Nat.le_of_ble_eq_true rfl, Nat.le_of_ble_eq_true rfl⟩ rfl (fun H locs hW hS => ?_)
  have hW : CW D (base + q) ((base + q, .inr (0, [.ref (base + (q + 1 + 0)), .ref (base + (q + 1 + 2)), .null, .int 0, .int 0, .int 0, .int 0, .int 0, .int 0, .int 0])) :: sg base cA (q + 1) 7) H (base + (q + 1 + 7)) := cw_merge hW
  refine c_putF (ci := 0) (v := .ref (base + (q + 1 + 4))) (C := RX0) (T := TX0) (N := 10) hx hb hts hin0 tyX0 tyX0_ok nmX0 hown hK hW hS (fun _ h => h) 0 rfl rfl 2 (by decide) (hts _ (List.mem_of_getElem? (i := 12) rfl)) rfl hin rfl (tyX0_ok 2 (by decide)) rfl rfl (Nat.le_of_ble_eq_true rfl) dX0_init_38 (fun H locs hW hS => ?_)
  have hW : CW D (base + q) ((base + q, .inr (0, [.ref (base + (q + 1 + 0)), .ref (base + (q + 1 + 2)), .ref (base + (q + 1 + 4)), .int 0, .int 0, .int 0, .int 0, .int 0, .int 0, .int 0])) :: sg base cA (q + 1) 7) H (base + (q + 1 + 7)) := hW
  refine lv_aload_n hx hb dX0_init_41 rfl (lv_at hl 0 rfl) ?_
  refine lv_iconst (v := (-1 : Int32)) hx hb dX0_init_42 (by decide) ?_
  refine c_put (ci := 0) (v := .int (-1 : Int32)) (C := RX0) (T := TX0) (N := 10) hx hb hts hin0 tyX0 tyX0_ok nmX0 hown hK hW hS (fun _ h => h) 0 rfl rfl 6 (by decide) (hts _ (List.mem_of_getElem? (i := 13) rfl)) rfl (tyX0_ok 6 (by decide)) rfl rfl (Nat.le_of_ble_eq_true rfl) dX0_init_43 (fun H locs hW hS => ?_)
  have hW : CW D (base + q) ((base + q, .inr (0, [.ref (base + (q + 1 + 0)), .ref (base + (q + 1 + 2)), .ref (base + (q + 1 + 4)), .int 0, .int 0, .int 0, .int (-1 : Int32), .int 0, .int 0, .int 0])) :: sg base cA (q + 1) 7) H (base + (q + 1 + 7)) := hW
  refine lv_aload_n hx hb dX0_init_46 rfl (lv_at hl 0 rfl) ?_
  refine lv_iconst (v := (-1 : Int32)) hx hb dX0_init_47 (by decide) ?_
  refine c_put (ci := 0) (v := .int (-1 : Int32)) (C := RX0) (T := TX0) (N := 10) hx hb hts hin0 tyX0 tyX0_ok nmX0 hown hK hW hS (fun _ h => h) 0 rfl rfl 7 (by decide) (hts _ (List.mem_of_getElem? (i := 14) rfl)) rfl (tyX0_ok 7 (by decide)) rfl rfl (Nat.le_of_ble_eq_true rfl) dX0_init_48 (fun H locs hW hS => ?_)
  have hW : CW D (base + q) ((base + q, .inr (0, [.ref (base + (q + 1 + 0)), .ref (base + (q + 1 + 2)), .ref (base + (q + 1 + 4)), .int 0, .int 0, .int 0, .int (-1 : Int32), .int (-1 : Int32), .int 0, .int 0])) :: sg base cA (q + 1) 7) H (base + (q + 1 + 7)) := hW
  refine lv_aload_n hx hb dX0_init_51 rfl (lv_at hl 0 rfl) ?_
  refine lv_iconst (v := (-1 : Int32)) hx hb dX0_init_52 (by decide) ?_
  refine c_put (ci := 0) (v := .int (-1 : Int32)) (C := RX0) (T := TX0) (N := 10) hx hb hts hin0 tyX0 tyX0_ok nmX0 hown hK hW hS (fun _ h => h) 0 rfl rfl 8 (by decide) (hts _ (List.mem_of_getElem? (i := 15) rfl)) rfl (tyX0_ok 8 (by decide)) rfl rfl (Nat.le_of_ble_eq_true rfl) dX0_init_53 (fun H locs hW hS => ?_)
  have hW : CW D (base + q) ((base + q, .inr (0, [.ref (base + (q + 1 + 0)), .ref (base + (q + 1 + 2)), .ref (base + (q + 1 + 4)), .int 0, .int 0, .int 0, .int (-1 : Int32), .int (-1 : Int32), .int (-1 : Int32), .int 0])) :: sg base cA (q + 1) 7) H (base + (q + 1 + 7)) := hW
  exact W.vret hx hb hr (fun t ht hW9 => ⟨⟨(), rfl, trivial, cw_end hW (own0 hq) ht⟩, hS.F ht⟩) hS.2.2 dX0_init_56
abbrev rmX7_init : Room := { frames := 1, cells := 21, slots := 6368, locals := 12 }
set_option maxHeartbeats 4000000 in
set_option maxRecDepth 100000 in
theorem mX7_init (l : Launch) (D : va_G) (cA : Nat → ClassId) (base : Nat) {q : Nat} (hq : kc q = 7) : Met l yX7_init wsX7_init rmX7_init (va_Pc [.ref (base + q)] (cPre D cA base q 7 [.int 0, .int 0, .null, .int 0, .int 0, .null, .null, .null, .null, .null, .null, .int 0, .null, .null, .null, .null, .null, .null, .null, .null, .null, .null, .null, .null, .null, .null])) (va_Qv (fun _ : Unit => True) (fun _ => cPost D cA base q 22) (fun x => base + q ≤ x)) 21 6368 (fun x => base + q ≤ x) := by
  refine Met.ofW (cc := cX7_init) (maxL := 1) (ret := none) (by decide) rfl ?_
  intro p e s m args below meth c s₁ B hml hv
  obtain ⟨rfl, hsz, hE, hK, hN, hQ⟩ := hv
  have hx := B.exec
  have hb := B.bytes
  have hr := B.returns
  have hts := atoms_spec (ws := wsX7_init) B.pre
  have hown : s.vm.findClass RX7 = some m.cls := findClass_of_methodNamed B.named
  have hlocks := B.notSynchronized
  have hin : meth.name = "<init>" := (name_of_methodNamed B.named B.method).1
  have hin7 : ∀ w ∈ wsX70, w ∈ wsX7_init := by decide +kernel
  have hS : va_S (fun x => base + q ≤ x) s.heap s.heap [] := va_S.rf
  have hW : CW D (base + q) ((base + q, .inr (7, [.int 0, .int 0, .null, .int 0, .int 0, .null, .null, .null, .null, .null, .null, .int 0, .null, .null, .null, .null, .null, .null, .null, .null, .null, .null, .null, .null, .null, .null])) :: sg base cA (q + 1) 0) s.heap (base + (q + 1 + 0)) := cw1 hE hsz
  have hl := lv_entry ([.ref (base + q)]) (n := 1) (Nat.le_of_ble_eq_true rfl)
  rw [lg_entry_eq]
  generalize (lg_sl ([.ref (base + q)]) ++ List.replicate (1 - (lg_sl ([.ref (base + q)])).length) Slot.unset).toArray = ls at hl ⊢
  have hl : lv_has ls 1 [(0, .ref (base + q))] := hl
  refine lv_aload_n hx hb dX7_init_0 rfl (lv_at hl 0 rfl) ?_
  refine W.objInit hx hb hown (hts _ (List.mem_of_getElem? (i := 1) rfl)) (hts _ (List.mem_of_getElem? (i := 2) rfl)) (hts (.code objectInit ⟨#[0xb1]⟩ 1 none) (List.mem_of_getElem? (i := 3) rfl)) rfl (by rw [hml]; exact hl.1) rfl dX7_init_1 (Nat.le_of_ble_eq_true rfl) (Nat.le_of_ble_eq_true rfl) ?_
  refine W.eq (g2 := F0 m 4 ls []) rfl ?_
  refine lv_aload_n hx hb dX7_init_4 rfl (lv_at hl 0 rfl) ?_
  refine lv_bipush (v := (120 : Int32)) hx hb dX7_init_5 (by decide) ?_
  refine c_newI (i := (q + 1 + 0)) (N := 120) hx hb (hts _ (List.mem_of_getElem? (i := 4) rfl)) hK hW (by omega) (bk7_0 hq) (bk7_0a hq) hS (by decide) (by decide) (by decide) (Nat.le_of_ble_eq_true rfl) (Nat.le_of_ble_eq_true rfl) dX7_init_7 (fun H hW hS => ?_)
  have hW : CW D (base + q) ((base + q, .inr (7, [.int 0, .int 0, .null, .int 0, .int 0, .null, .null, .null, .null, .null, .null, .int 0, .null, .null, .null, .null, .null, .null, .null, .null, .null, .null, .null, .null, .null, .null])) :: sg base cA (q + 1) 1) H (base + (q + 1 + 1)) := cw_merge hW
  refine c_putF (ci := 7) (v := .ref (base + (q + 1 + 0))) (C := RX7) (T := TX7) (N := 26) hx hb hts hin7 tyX7 tyX7_ok nmX7 hown hK hW hS (fun _ h => h) 0 rfl rfl 2 (by decide) (hts _ (List.mem_of_getElem? (i := 5) rfl)) rfl hin rfl (tyX7_ok 2 (by decide)) rfl rfl (Nat.le_of_ble_eq_true rfl) dX7_init_9 (fun H locs hW hS => ?_)
  have hW : CW D (base + q) ((base + q, .inr (7, [.int 0, .int 0, .ref (base + (q + 1 + 0)), .int 0, .int 0, .null, .null, .null, .null, .null, .null, .int 0, .null, .null, .null, .null, .null, .null, .null, .null, .null, .null, .null, .null, .null, .null])) :: sg base cA (q + 1) 1) H (base + (q + 1 + 1)) := hW
  refine lv_aload_n hx hb dX7_init_12 rfl (lv_at hl 0 rfl) ?_
  refine lv_bipush (v := (8 : Int32)) hx hb dX7_init_13 (by decide) ?_
  refine c_newI (i := (q + 1 + 1)) (N := 8) hx hb (hts _ (List.mem_of_getElem? (i := 4) rfl)) hK hW (by omega) (bk7_1 hq) (bk7_1a hq) hS (by decide) (by decide) (by decide) (Nat.le_of_ble_eq_true rfl) (Nat.le_of_ble_eq_true rfl) dX7_init_15 (fun H hW hS => ?_)
  have hW : CW D (base + q) ((base + q, .inr (7, [.int 0, .int 0, .ref (base + (q + 1 + 0)), .int 0, .int 0, .null, .null, .null, .null, .null, .null, .int 0, .null, .null, .null, .null, .null, .null, .null, .null, .null, .null, .null, .null, .null, .null])) :: sg base cA (q + 1) 2) H (base + (q + 1 + 2)) := cw_merge hW
  refine c_putF (ci := 7) (v := .ref (base + (q + 1 + 1))) (C := RX7) (T := TX7) (N := 26) hx hb hts hin7 tyX7 tyX7_ok nmX7 hown hK hW hS (fun _ h => h) 0 rfl rfl 5 (by decide) (hts _ (List.mem_of_getElem? (i := 6) rfl)) rfl hin rfl (tyX7_ok 5 (by decide)) rfl rfl (Nat.le_of_ble_eq_true rfl) dX7_init_17 (fun H locs hW hS => ?_)
  have hW : CW D (base + q) ((base + q, .inr (7, [.int 0, .int 0, .ref (base + (q + 1 + 0)), .int 0, .int 0, .ref (base + (q + 1 + 1)), .null, .null, .null, .null, .null, .int 0, .null, .null, .null, .null, .null, .null, .null, .null, .null, .null, .null, .null, .null, .null])) :: sg base cA (q + 1) 2) H (base + (q + 1 + 2)) := hW
  refine lv_aload_n hx hb dX7_init_20 rfl (lv_at hl 0 rfl) ?_
  refine lv_bipush (v := (8 : Int32)) hx hb dX7_init_21 (by decide) ?_
  refine c_newI (i := (q + 1 + 2)) (N := 8) hx hb (hts _ (List.mem_of_getElem? (i := 4) rfl)) hK hW (by omega) (bk7_2 hq) (bk7_2a hq) hS (by decide) (by decide) (by decide) (Nat.le_of_ble_eq_true rfl) (Nat.le_of_ble_eq_true rfl) dX7_init_23 (fun H hW hS => ?_)
  have hW : CW D (base + q) ((base + q, .inr (7, [.int 0, .int 0, .ref (base + (q + 1 + 0)), .int 0, .int 0, .ref (base + (q + 1 + 1)), .null, .null, .null, .null, .null, .int 0, .null, .null, .null, .null, .null, .null, .null, .null, .null, .null, .null, .null, .null, .null])) :: sg base cA (q + 1) 3) H (base + (q + 1 + 3)) := cw_merge hW
  refine c_putF (ci := 7) (v := .ref (base + (q + 1 + 2))) (C := RX7) (T := TX7) (N := 26) hx hb hts hin7 tyX7 tyX7_ok nmX7 hown hK hW hS (fun _ h => h) 0 rfl rfl 6 (by decide) (hts _ (List.mem_of_getElem? (i := 7) rfl)) rfl hin rfl (tyX7_ok 6 (by decide)) rfl rfl (Nat.le_of_ble_eq_true rfl) dX7_init_25 (fun H locs hW hS => ?_)
  have hW : CW D (base + q) ((base + q, .inr (7, [.int 0, .int 0, .ref (base + (q + 1 + 0)), .int 0, .int 0, .ref (base + (q + 1 + 1)), .ref (base + (q + 1 + 2)), .null, .null, .null, .null, .int 0, .null, .null, .null, .null, .null, .null, .null, .null, .null, .null, .null, .null, .null, .null])) :: sg base cA (q + 1) 3) H (base + (q + 1 + 3)) := hW
  refine lv_aload_n hx hb dX7_init_28 rfl (lv_at hl 0 rfl) ?_
  refine lv_bipush (v := (8 : Int32)) hx hb dX7_init_29 (by decide) ?_
  refine c_newI (i := (q + 1 + 3)) (N := 8) hx hb (hts _ (List.mem_of_getElem? (i := 4) rfl)) hK hW (by omega) (bk7_3 hq) (bk7_3a hq) hS (by decide) (by decide) (by decide) (Nat.le_of_ble_eq_true rfl) (Nat.le_of_ble_eq_true rfl) dX7_init_31 (fun H hW hS => ?_)
  have hW : CW D (base + q) ((base + q, .inr (7, [.int 0, .int 0, .ref (base + (q + 1 + 0)), .int 0, .int 0, .ref (base + (q + 1 + 1)), .ref (base + (q + 1 + 2)), .null, .null, .null, .null, .int 0, .null, .null, .null, .null, .null, .null, .null, .null, .null, .null, .null, .null, .null, .null])) :: sg base cA (q + 1) 4) H (base + (q + 1 + 4)) := cw_merge hW
  refine c_putF (ci := 7) (v := .ref (base + (q + 1 + 3))) (C := RX7) (T := TX7) (N := 26) hx hb hts hin7 tyX7 tyX7_ok nmX7 hown hK hW hS (fun _ h => h) 0 rfl rfl 7 (by decide) (hts _ (List.mem_of_getElem? (i := 8) rfl)) rfl hin rfl (tyX7_ok 7 (by decide)) rfl rfl (Nat.le_of_ble_eq_true rfl) dX7_init_33 (fun H locs hW hS => ?_)
  have hW : CW D (base + q) ((base + q, .inr (7, [.int 0, .int 0, .ref (base + (q + 1 + 0)), .int 0, .int 0, .ref (base + (q + 1 + 1)), .ref (base + (q + 1 + 2)), .ref (base + (q + 1 + 3)), .null, .null, .null, .int 0, .null, .null, .null, .null, .null, .null, .null, .null, .null, .null, .null, .null, .null, .null])) :: sg base cA (q + 1) 4) H (base + (q + 1 + 4)) := hW
  refine lv_aload_n hx hb dX7_init_36 rfl (lv_at hl 0 rfl) ?_
  refine lv_bipush (v := (8 : Int32)) hx hb dX7_init_37 (by decide) ?_
  refine c_newI (i := (q + 1 + 4)) (N := 8) hx hb (hts _ (List.mem_of_getElem? (i := 4) rfl)) hK hW (by omega) (bk7_4 hq) (bk7_4a hq) hS (by decide) (by decide) (by decide) (Nat.le_of_ble_eq_true rfl) (Nat.le_of_ble_eq_true rfl) dX7_init_39 (fun H hW hS => ?_)
  have hW : CW D (base + q) ((base + q, .inr (7, [.int 0, .int 0, .ref (base + (q + 1 + 0)), .int 0, .int 0, .ref (base + (q + 1 + 1)), .ref (base + (q + 1 + 2)), .ref (base + (q + 1 + 3)), .null, .null, .null, .int 0, .null, .null, .null, .null, .null, .null, .null, .null, .null, .null, .null, .null, .null, .null])) :: sg base cA (q + 1) 5) H (base + (q + 1 + 5)) := cw_merge hW
  refine c_putF (ci := 7) (v := .ref (base + (q + 1 + 4))) (C := RX7) (T := TX7) (N := 26) hx hb hts hin7 tyX7 tyX7_ok nmX7 hown hK hW hS (fun _ h => h) 0 rfl rfl 8 (by decide) (hts _ (List.mem_of_getElem? (i := 9) rfl)) rfl hin rfl (tyX7_ok 8 (by decide)) rfl rfl (Nat.le_of_ble_eq_true rfl) dX7_init_41 (fun H locs hW hS => ?_)
  have hW : CW D (base + q) ((base + q, .inr (7, [.int 0, .int 0, .ref (base + (q + 1 + 0)), .int 0, .int 0, .ref (base + (q + 1 + 1)), .ref (base + (q + 1 + 2)), .ref (base + (q + 1 + 3)), .ref (base + (q + 1 + 4)), .null, .null, .int 0, .null, .null, .null, .null, .null, .null, .null, .null, .null, .null, .null, .null, .null, .null])) :: sg base cA (q + 1) 5) H (base + (q + 1 + 5)) := hW
  refine lv_aload_n hx hb dX7_init_44 rfl (lv_at hl 0 rfl) ?_
  refine lv_bipush (v := (8 : Int32)) hx hb dX7_init_45 (by decide) ?_
  refine c_newI (i := (q + 1 + 5)) (N := 8) hx hb (hts _ (List.mem_of_getElem? (i := 4) rfl)) hK hW (by omega) (bk7_5 hq) (bk7_5a hq) hS (by decide) (by decide) (by decide) (Nat.le_of_ble_eq_true rfl) (Nat.le_of_ble_eq_true rfl) dX7_init_47 (fun H hW hS => ?_)
  have hW : CW D (base + q) ((base + q, .inr (7, [.int 0, .int 0, .ref (base + (q + 1 + 0)), .int 0, .int 0, .ref (base + (q + 1 + 1)), .ref (base + (q + 1 + 2)), .ref (base + (q + 1 + 3)), .ref (base + (q + 1 + 4)), .null, .null, .int 0, .null, .null, .null, .null, .null, .null, .null, .null, .null, .null, .null, .null, .null, .null])) :: sg base cA (q + 1) 6) H (base + (q + 1 + 6)) := cw_merge hW
  refine c_putF (ci := 7) (v := .ref (base + (q + 1 + 5))) (C := RX7) (T := TX7) (N := 26) hx hb hts hin7 tyX7 tyX7_ok nmX7 hown hK hW hS (fun _ h => h) 0 rfl rfl 9 (by decide) (hts _ (List.mem_of_getElem? (i := 10) rfl)) rfl hin rfl (tyX7_ok 9 (by decide)) rfl rfl (Nat.le_of_ble_eq_true rfl) dX7_init_49 (fun H locs hW hS => ?_)
  have hW : CW D (base + q) ((base + q, .inr (7, [.int 0, .int 0, .ref (base + (q + 1 + 0)), .int 0, .int 0, .ref (base + (q + 1 + 1)), .ref (base + (q + 1 + 2)), .ref (base + (q + 1 + 3)), .ref (base + (q + 1 + 4)), .ref (base + (q + 1 + 5)), .null, .int 0, .null, .null, .null, .null, .null, .null, .null, .null, .null, .null, .null, .null, .null, .null])) :: sg base cA (q + 1) 6) H (base + (q + 1 + 6)) := hW
  refine lv_aload_n hx hb dX7_init_52 rfl (lv_at hl 0 rfl) ?_
  refine lv_bipush (v := (8 : Int32)) hx hb dX7_init_53 (by decide) ?_
  refine c_newI (i := (q + 1 + 6)) (N := 8) hx hb (hts _ (List.mem_of_getElem? (i := 4) rfl)) hK hW (by omega) (bk7_6 hq) (bk7_6a hq) hS (by decide) (by decide) (by decide) (Nat.le_of_ble_eq_true rfl) (Nat.le_of_ble_eq_true rfl) dX7_init_55 (fun H hW hS => ?_)
  have hW : CW D (base + q) ((base + q, .inr (7, [.int 0, .int 0, .ref (base + (q + 1 + 0)), .int 0, .int 0, .ref (base + (q + 1 + 1)), .ref (base + (q + 1 + 2)), .ref (base + (q + 1 + 3)), .ref (base + (q + 1 + 4)), .ref (base + (q + 1 + 5)), .null, .int 0, .null, .null, .null, .null, .null, .null, .null, .null, .null, .null, .null, .null, .null, .null])) :: sg base cA (q + 1) 7) H (base + (q + 1 + 7)) := cw_merge hW
  refine c_putF (ci := 7) (v := .ref (base + (q + 1 + 6))) (C := RX7) (T := TX7) (N := 26) hx hb hts hin7 tyX7 tyX7_ok nmX7 hown hK hW hS (fun _ h => h) 0 rfl rfl 10 (by decide) (hts _ (List.mem_of_getElem? (i := 11) rfl)) rfl hin rfl (tyX7_ok 10 (by decide)) rfl rfl (Nat.le_of_ble_eq_true rfl) dX7_init_57 (fun H locs hW hS => ?_)
  have hW : CW D (base + q) ((base + q, .inr (7, [.int 0, .int 0, .ref (base + (q + 1 + 0)), .int 0, .int 0, .ref (base + (q + 1 + 1)), .ref (base + (q + 1 + 2)), .ref (base + (q + 1 + 3)), .ref (base + (q + 1 + 4)), .ref (base + (q + 1 + 5)), .ref (base + (q + 1 + 6)), .int 0, .null, .null, .null, .null, .null, .null, .null, .null, .null, .null, .null, .null, .null, .null])) :: sg base cA (q + 1) 7) H (base + (q + 1 + 7)) := hW
  refine lv_aload_n hx hb dX7_init_60 rfl (lv_at hl 0 rfl) ?_
  refine lv_bipush (v := (6 : Int32)) hx hb dX7_init_61 (by decide) ?_
  refine c_newI (i := (q + 1 + 7)) (N := 6) hx hb (hts _ (List.mem_of_getElem? (i := 4) rfl)) hK hW (by omega) (bk7_7 hq) (bk7_7a hq) hS (by decide) (by decide) (by decide) (Nat.le_of_ble_eq_true rfl) (Nat.le_of_ble_eq_true rfl) dX7_init_63 (fun H hW hS => ?_)
  have hW : CW D (base + q) ((base + q, .inr (7, [.int 0, .int 0, .ref (base + (q + 1 + 0)), .int 0, .int 0, .ref (base + (q + 1 + 1)), .ref (base + (q + 1 + 2)), .ref (base + (q + 1 + 3)), .ref (base + (q + 1 + 4)), .ref (base + (q + 1 + 5)), .ref (base + (q + 1 + 6)), .int 0, .null, .null, .null, .null, .null, .null, .null, .null, .null, .null, .null, .null, .null, .null])) :: sg base cA (q + 1) 8) H (base + (q + 1 + 8)) := cw_merge hW
  refine c_putF (ci := 7) (v := .ref (base + (q + 1 + 7))) (C := RX7) (T := TX7) (N := 26) hx hb hts hin7 tyX7 tyX7_ok nmX7 hown hK hW hS (fun _ h => h) 0 rfl rfl 12 (by decide) (hts _ (List.mem_of_getElem? (i := 12) rfl)) rfl hin rfl (tyX7_ok 12 (by decide)) rfl rfl (Nat.le_of_ble_eq_true rfl) dX7_init_65 (fun H locs hW hS => ?_)
  have hW : CW D (base + q) ((base + q, .inr (7, [.int 0, .int 0, .ref (base + (q + 1 + 0)), .int 0, .int 0, .ref (base + (q + 1 + 1)), .ref (base + (q + 1 + 2)), .ref (base + (q + 1 + 3)), .ref (base + (q + 1 + 4)), .ref (base + (q + 1 + 5)), .ref (base + (q + 1 + 6)), .int 0, .ref (base + (q + 1 + 7)), .null, .null, .null, .null, .null, .null, .null, .null, .null, .null, .null, .null, .null])) :: sg base cA (q + 1) 8) H (base + (q + 1 + 8)) := hW
  refine lv_aload_n hx hb dX7_init_68 rfl (lv_at hl 0 rfl) ?_
  refine lv_bipush (v := (6 : Int32)) hx hb dX7_init_69 (by decide) ?_
  refine c_newI (i := (q + 1 + 8)) (N := 6) hx hb (hts _ (List.mem_of_getElem? (i := 4) rfl)) hK hW (by omega) (bk7_8 hq) (bk7_8a hq) hS (by decide) (by decide) (by decide) (Nat.le_of_ble_eq_true rfl) (Nat.le_of_ble_eq_true rfl) dX7_init_71 (fun H hW hS => ?_)
  have hW : CW D (base + q) ((base + q, .inr (7, [.int 0, .int 0, .ref (base + (q + 1 + 0)), .int 0, .int 0, .ref (base + (q + 1 + 1)), .ref (base + (q + 1 + 2)), .ref (base + (q + 1 + 3)), .ref (base + (q + 1 + 4)), .ref (base + (q + 1 + 5)), .ref (base + (q + 1 + 6)), .int 0, .ref (base + (q + 1 + 7)), .null, .null, .null, .null, .null, .null, .null, .null, .null, .null, .null, .null, .null])) :: sg base cA (q + 1) 9) H (base + (q + 1 + 9)) := cw_merge hW
  refine c_putF (ci := 7) (v := .ref (base + (q + 1 + 8))) (C := RX7) (T := TX7) (N := 26) hx hb hts hin7 tyX7 tyX7_ok nmX7 hown hK hW hS (fun _ h => h) 0 rfl rfl 13 (by decide) (hts _ (List.mem_of_getElem? (i := 13) rfl)) rfl hin rfl (tyX7_ok 13 (by decide)) rfl rfl (Nat.le_of_ble_eq_true rfl) dX7_init_73 (fun H locs hW hS => ?_)
  have hW : CW D (base + q) ((base + q, .inr (7, [.int 0, .int 0, .ref (base + (q + 1 + 0)), .int 0, .int 0, .ref (base + (q + 1 + 1)), .ref (base + (q + 1 + 2)), .ref (base + (q + 1 + 3)), .ref (base + (q + 1 + 4)), .ref (base + (q + 1 + 5)), .ref (base + (q + 1 + 6)), .int 0, .ref (base + (q + 1 + 7)), .ref (base + (q + 1 + 8)), .null, .null, .null, .null, .null, .null, .null, .null, .null, .null, .null, .null])) :: sg base cA (q + 1) 9) H (base + (q + 1 + 9)) := hW
  refine lv_aload_n hx hb dX7_init_76 rfl (lv_at hl 0 rfl) ?_
  refine lv_bipush (v := (6 : Int32)) hx hb dX7_init_77 (by decide) ?_
  refine c_newI (i := (q + 1 + 9)) (N := 6) hx hb (hts _ (List.mem_of_getElem? (i := 4) rfl)) hK hW (by omega) (bk7_9 hq) (bk7_9a hq) hS (by decide) (by decide) (by decide) (Nat.le_of_ble_eq_true rfl) (Nat.le_of_ble_eq_true rfl) dX7_init_79 (fun H hW hS => ?_)
  have hW : CW D (base + q) ((base + q, .inr (7, [.int 0, .int 0, .ref (base + (q + 1 + 0)), .int 0, .int 0, .ref (base + (q + 1 + 1)), .ref (base + (q + 1 + 2)), .ref (base + (q + 1 + 3)), .ref (base + (q + 1 + 4)), .ref (base + (q + 1 + 5)), .ref (base + (q + 1 + 6)), .int 0, .ref (base + (q + 1 + 7)), .ref (base + (q + 1 + 8)), .null, .null, .null, .null, .null, .null, .null, .null, .null, .null, .null, .null])) :: sg base cA (q + 1) 10) H (base + (q + 1 + 10)) := cw_merge hW
  refine c_putF (ci := 7) (v := .ref (base + (q + 1 + 9))) (C := RX7) (T := TX7) (N := 26) hx hb hts hin7 tyX7 tyX7_ok nmX7 hown hK hW hS (fun _ h => h) 0 rfl rfl 14 (by decide) (hts _ (List.mem_of_getElem? (i := 14) rfl)) rfl hin rfl (tyX7_ok 14 (by decide)) rfl rfl (Nat.le_of_ble_eq_true rfl) dX7_init_81 (fun H locs hW hS => ?_)
  have hW : CW D (base + q) ((base + q, .inr (7, [.int 0, .int 0, .ref (base + (q + 1 + 0)), .int 0, .int 0, .ref (base + (q + 1 + 1)), .ref (base + (q + 1 + 2)), .ref (base + (q + 1 + 3)), .ref (base + (q + 1 + 4)), .ref (base + (q + 1 + 5)), .ref (base + (q + 1 + 6)), .int 0, .ref (base + (q + 1 + 7)), .ref (base + (q + 1 + 8)), .ref (base + (q + 1 + 9)), .null, .null, .null, .null, .null, .null, .null, .null, .null, .null, .null])) :: sg base cA (q + 1) 10) H (base + (q + 1 + 10)) := hW
  refine lv_aload_n hx hb dX7_init_84 rfl (lv_at hl 0 rfl) ?_
  refine lv_bipush (v := (6 : Int32)) hx hb dX7_init_85 (by decide) ?_
  refine c_newI (i := (q + 1 + 10)) (N := 6) hx hb (hts _ (List.mem_of_getElem? (i := 4) rfl)) hK hW (by omega) (bk7_10 hq) (bk7_10a hq) hS (by decide) (by decide) (by decide) (Nat.le_of_ble_eq_true rfl) (Nat.le_of_ble_eq_true rfl) dX7_init_87 (fun H hW hS => ?_)
  have hW : CW D (base + q) ((base + q, .inr (7, [.int 0, .int 0, .ref (base + (q + 1 + 0)), .int 0, .int 0, .ref (base + (q + 1 + 1)), .ref (base + (q + 1 + 2)), .ref (base + (q + 1 + 3)), .ref (base + (q + 1 + 4)), .ref (base + (q + 1 + 5)), .ref (base + (q + 1 + 6)), .int 0, .ref (base + (q + 1 + 7)), .ref (base + (q + 1 + 8)), .ref (base + (q + 1 + 9)), .null, .null, .null, .null, .null, .null, .null, .null, .null, .null, .null])) :: sg base cA (q + 1) 11) H (base + (q + 1 + 11)) := cw_merge hW
  refine c_putF (ci := 7) (v := .ref (base + (q + 1 + 10))) (C := RX7) (T := TX7) (N := 26) hx hb hts hin7 tyX7 tyX7_ok nmX7 hown hK hW hS (fun _ h => h) 0 rfl rfl 15 (by decide) (hts _ (List.mem_of_getElem? (i := 15) rfl)) rfl hin rfl (tyX7_ok 15 (by decide)) rfl rfl (Nat.le_of_ble_eq_true rfl) dX7_init_89 (fun H locs hW hS => ?_)
  have hW : CW D (base + q) ((base + q, .inr (7, [.int 0, .int 0, .ref (base + (q + 1 + 0)), .int 0, .int 0, .ref (base + (q + 1 + 1)), .ref (base + (q + 1 + 2)), .ref (base + (q + 1 + 3)), .ref (base + (q + 1 + 4)), .ref (base + (q + 1 + 5)), .ref (base + (q + 1 + 6)), .int 0, .ref (base + (q + 1 + 7)), .ref (base + (q + 1 + 8)), .ref (base + (q + 1 + 9)), .ref (base + (q + 1 + 10)), .null, .null, .null, .null, .null, .null, .null, .null, .null, .null])) :: sg base cA (q + 1) 11) H (base + (q + 1 + 11)) := hW
  refine lv_aload_n hx hb dX7_init_92 rfl (lv_at hl 0 rfl) ?_
  refine lv_bipush (v := (6 : Int32)) hx hb dX7_init_93 (by decide) ?_
  refine c_newI (i := (q + 1 + 11)) (N := 6) hx hb (hts _ (List.mem_of_getElem? (i := 4) rfl)) hK hW (by omega) (bk7_11 hq) (bk7_11a hq) hS (by decide) (by decide) (by decide) (Nat.le_of_ble_eq_true rfl) (Nat.le_of_ble_eq_true rfl) dX7_init_95 (fun H hW hS => ?_)
  have hW : CW D (base + q) ((base + q, .inr (7, [.int 0, .int 0, .ref (base + (q + 1 + 0)), .int 0, .int 0, .ref (base + (q + 1 + 1)), .ref (base + (q + 1 + 2)), .ref (base + (q + 1 + 3)), .ref (base + (q + 1 + 4)), .ref (base + (q + 1 + 5)), .ref (base + (q + 1 + 6)), .int 0, .ref (base + (q + 1 + 7)), .ref (base + (q + 1 + 8)), .ref (base + (q + 1 + 9)), .ref (base + (q + 1 + 10)), .null, .null, .null, .null, .null, .null, .null, .null, .null, .null])) :: sg base cA (q + 1) 12) H (base + (q + 1 + 12)) := cw_merge hW
  refine c_putF (ci := 7) (v := .ref (base + (q + 1 + 11))) (C := RX7) (T := TX7) (N := 26) hx hb hts hin7 tyX7 tyX7_ok nmX7 hown hK hW hS (fun _ h => h) 0 rfl rfl 16 (by decide) (hts _ (List.mem_of_getElem? (i := 16) rfl)) rfl hin rfl (tyX7_ok 16 (by decide)) rfl rfl (Nat.le_of_ble_eq_true rfl) dX7_init_97 (fun H locs hW hS => ?_)
  have hW : CW D (base + q) ((base + q, .inr (7, [.int 0, .int 0, .ref (base + (q + 1 + 0)), .int 0, .int 0, .ref (base + (q + 1 + 1)), .ref (base + (q + 1 + 2)), .ref (base + (q + 1 + 3)), .ref (base + (q + 1 + 4)), .ref (base + (q + 1 + 5)), .ref (base + (q + 1 + 6)), .int 0, .ref (base + (q + 1 + 7)), .ref (base + (q + 1 + 8)), .ref (base + (q + 1 + 9)), .ref (base + (q + 1 + 10)), .ref (base + (q + 1 + 11)), .null, .null, .null, .null, .null, .null, .null, .null, .null])) :: sg base cA (q + 1) 12) H (base + (q + 1 + 12)) := hW
  refine lv_aload_n hx hb dX7_init_100 rfl (lv_at hl 0 rfl) ?_
  refine lv_bipush (v := (6 : Int32)) hx hb dX7_init_101 (by decide) ?_
  refine c_newI (i := (q + 1 + 12)) (N := 6) hx hb (hts _ (List.mem_of_getElem? (i := 4) rfl)) hK hW (by omega) (bk7_12 hq) (bk7_12a hq) hS (by decide) (by decide) (by decide) (Nat.le_of_ble_eq_true rfl) (Nat.le_of_ble_eq_true rfl) dX7_init_103 (fun H hW hS => ?_)
  have hW : CW D (base + q) ((base + q, .inr (7, [.int 0, .int 0, .ref (base + (q + 1 + 0)), .int 0, .int 0, .ref (base + (q + 1 + 1)), .ref (base + (q + 1 + 2)), .ref (base + (q + 1 + 3)), .ref (base + (q + 1 + 4)), .ref (base + (q + 1 + 5)), .ref (base + (q + 1 + 6)), .int 0, .ref (base + (q + 1 + 7)), .ref (base + (q + 1 + 8)), .ref (base + (q + 1 + 9)), .ref (base + (q + 1 + 10)), .ref (base + (q + 1 + 11)), .null, .null, .null, .null, .null, .null, .null, .null, .null])) :: sg base cA (q + 1) 13) H (base + (q + 1 + 13)) := cw_merge hW
  refine c_putF (ci := 7) (v := .ref (base + (q + 1 + 12))) (C := RX7) (T := TX7) (N := 26) hx hb hts hin7 tyX7 tyX7_ok nmX7 hown hK hW hS (fun _ h => h) 0 rfl rfl 17 (by decide) (hts _ (List.mem_of_getElem? (i := 17) rfl)) rfl hin rfl (tyX7_ok 17 (by decide)) rfl rfl (Nat.le_of_ble_eq_true rfl) dX7_init_105 (fun H locs hW hS => ?_)
  have hW : CW D (base + q) ((base + q, .inr (7, [.int 0, .int 0, .ref (base + (q + 1 + 0)), .int 0, .int 0, .ref (base + (q + 1 + 1)), .ref (base + (q + 1 + 2)), .ref (base + (q + 1 + 3)), .ref (base + (q + 1 + 4)), .ref (base + (q + 1 + 5)), .ref (base + (q + 1 + 6)), .int 0, .ref (base + (q + 1 + 7)), .ref (base + (q + 1 + 8)), .ref (base + (q + 1 + 9)), .ref (base + (q + 1 + 10)), .ref (base + (q + 1 + 11)), .ref (base + (q + 1 + 12)), .null, .null, .null, .null, .null, .null, .null, .null])) :: sg base cA (q + 1) 13) H (base + (q + 1 + 13)) := hW
  refine lv_aload_n hx hb dX7_init_108 rfl (lv_at hl 0 rfl) ?_
  refine lv_bipush (v := (6 : Int32)) hx hb dX7_init_109 (by decide) ?_
  refine c_newI (i := (q + 1 + 13)) (N := 6) hx hb (hts _ (List.mem_of_getElem? (i := 4) rfl)) hK hW (by omega) (bk7_13 hq) (bk7_13a hq) hS (by decide) (by decide) (by decide) (Nat.le_of_ble_eq_true rfl) (Nat.le_of_ble_eq_true rfl) dX7_init_111 (fun H hW hS => ?_)
  have hW : CW D (base + q) ((base + q, .inr (7, [.int 0, .int 0, .ref (base + (q + 1 + 0)), .int 0, .int 0, .ref (base + (q + 1 + 1)), .ref (base + (q + 1 + 2)), .ref (base + (q + 1 + 3)), .ref (base + (q + 1 + 4)), .ref (base + (q + 1 + 5)), .ref (base + (q + 1 + 6)), .int 0, .ref (base + (q + 1 + 7)), .ref (base + (q + 1 + 8)), .ref (base + (q + 1 + 9)), .ref (base + (q + 1 + 10)), .ref (base + (q + 1 + 11)), .ref (base + (q + 1 + 12)), .null, .null, .null, .null, .null, .null, .null, .null])) :: sg base cA (q + 1) 14) H (base + (q + 1 + 14)) := cw_merge hW
  refine c_putF (ci := 7) (v := .ref (base + (q + 1 + 13))) (C := RX7) (T := TX7) (N := 26) hx hb hts hin7 tyX7 tyX7_ok nmX7 hown hK hW hS (fun _ h => h) 0 rfl rfl 18 (by decide) (hts _ (List.mem_of_getElem? (i := 18) rfl)) rfl hin rfl (tyX7_ok 18 (by decide)) rfl rfl (Nat.le_of_ble_eq_true rfl) dX7_init_113 (fun H locs hW hS => ?_)
  have hW : CW D (base + q) ((base + q, .inr (7, [.int 0, .int 0, .ref (base + (q + 1 + 0)), .int 0, .int 0, .ref (base + (q + 1 + 1)), .ref (base + (q + 1 + 2)), .ref (base + (q + 1 + 3)), .ref (base + (q + 1 + 4)), .ref (base + (q + 1 + 5)), .ref (base + (q + 1 + 6)), .int 0, .ref (base + (q + 1 + 7)), .ref (base + (q + 1 + 8)), .ref (base + (q + 1 + 9)), .ref (base + (q + 1 + 10)), .ref (base + (q + 1 + 11)), .ref (base + (q + 1 + 12)), .ref (base + (q + 1 + 13)), .null, .null, .null, .null, .null, .null, .null])) :: sg base cA (q + 1) 14) H (base + (q + 1 + 14)) := hW
  refine lv_aload_n hx hb dX7_init_116 rfl (lv_at hl 0 rfl) ?_
  refine lv_bipush (v := (6 : Int32)) hx hb dX7_init_117 (by decide) ?_
  refine c_newI (i := (q + 1 + 14)) (N := 6) hx hb (hts _ (List.mem_of_getElem? (i := 4) rfl)) hK hW (by omega) (bk7_14 hq) (bk7_14a hq) hS (by decide) (by decide) (by decide) (Nat.le_of_ble_eq_true rfl) (Nat.le_of_ble_eq_true rfl) dX7_init_119 (fun H hW hS => ?_)
  have hW : CW D (base + q) ((base + q, .inr (7, [.int 0, .int 0, .ref (base + (q + 1 + 0)), .int 0, .int 0, .ref (base + (q + 1 + 1)), .ref (base + (q + 1 + 2)), .ref (base + (q + 1 + 3)), .ref (base + (q + 1 + 4)), .ref (base + (q + 1 + 5)), .ref (base + (q + 1 + 6)), .int 0, .ref (base + (q + 1 + 7)), .ref (base + (q + 1 + 8)), .ref (base + (q + 1 + 9)), .ref (base + (q + 1 + 10)), .ref (base + (q + 1 + 11)), .ref (base + (q + 1 + 12)), .ref (base + (q + 1 + 13)), .null, .null, .null, .null, .null, .null, .null])) :: sg base cA (q + 1) 15) H (base + (q + 1 + 15)) := cw_merge hW
  refine c_putF (ci := 7) (v := .ref (base + (q + 1 + 14))) (C := RX7) (T := TX7) (N := 26) hx hb hts hin7 tyX7 tyX7_ok nmX7 hown hK hW hS (fun _ h => h) 0 rfl rfl 19 (by decide) (hts _ (List.mem_of_getElem? (i := 19) rfl)) rfl hin rfl (tyX7_ok 19 (by decide)) rfl rfl (Nat.le_of_ble_eq_true rfl) dX7_init_121 (fun H locs hW hS => ?_)
  have hW : CW D (base + q) ((base + q, .inr (7, [.int 0, .int 0, .ref (base + (q + 1 + 0)), .int 0, .int 0, .ref (base + (q + 1 + 1)), .ref (base + (q + 1 + 2)), .ref (base + (q + 1 + 3)), .ref (base + (q + 1 + 4)), .ref (base + (q + 1 + 5)), .ref (base + (q + 1 + 6)), .int 0, .ref (base + (q + 1 + 7)), .ref (base + (q + 1 + 8)), .ref (base + (q + 1 + 9)), .ref (base + (q + 1 + 10)), .ref (base + (q + 1 + 11)), .ref (base + (q + 1 + 12)), .ref (base + (q + 1 + 13)), .ref (base + (q + 1 + 14)), .null, .null, .null, .null, .null, .null])) :: sg base cA (q + 1) 15) H (base + (q + 1 + 15)) := hW
  refine lv_aload_n hx hb dX7_init_124 rfl (lv_at hl 0 rfl) ?_
  refine lv_bipush (v := (72 : Int32)) hx hb dX7_init_125 (by decide) ?_
  refine c_newI (i := (q + 1 + 15)) (N := 72) hx hb (hts _ (List.mem_of_getElem? (i := 4) rfl)) hK hW (by omega) (bk7_15 hq) (bk7_15a hq) hS (by decide) (by decide) (by decide) (Nat.le_of_ble_eq_true rfl) (Nat.le_of_ble_eq_true rfl) dX7_init_127 (fun H hW hS => ?_)
  have hW : CW D (base + q) ((base + q, .inr (7, [.int 0, .int 0, .ref (base + (q + 1 + 0)), .int 0, .int 0, .ref (base + (q + 1 + 1)), .ref (base + (q + 1 + 2)), .ref (base + (q + 1 + 3)), .ref (base + (q + 1 + 4)), .ref (base + (q + 1 + 5)), .ref (base + (q + 1 + 6)), .int 0, .ref (base + (q + 1 + 7)), .ref (base + (q + 1 + 8)), .ref (base + (q + 1 + 9)), .ref (base + (q + 1 + 10)), .ref (base + (q + 1 + 11)), .ref (base + (q + 1 + 12)), .ref (base + (q + 1 + 13)), .ref (base + (q + 1 + 14)), .null, .null, .null, .null, .null, .null])) :: sg base cA (q + 1) 16) H (base + (q + 1 + 16)) := cw_merge hW
  refine c_putF (ci := 7) (v := .ref (base + (q + 1 + 15))) (C := RX7) (T := TX7) (N := 26) hx hb hts hin7 tyX7 tyX7_ok nmX7 hown hK hW hS (fun _ h => h) 0 rfl rfl 20 (by decide) (hts _ (List.mem_of_getElem? (i := 20) rfl)) rfl hin rfl (tyX7_ok 20 (by decide)) rfl rfl (Nat.le_of_ble_eq_true rfl) dX7_init_129 (fun H locs hW hS => ?_)
  have hW : CW D (base + q) ((base + q, .inr (7, [.int 0, .int 0, .ref (base + (q + 1 + 0)), .int 0, .int 0, .ref (base + (q + 1 + 1)), .ref (base + (q + 1 + 2)), .ref (base + (q + 1 + 3)), .ref (base + (q + 1 + 4)), .ref (base + (q + 1 + 5)), .ref (base + (q + 1 + 6)), .int 0, .ref (base + (q + 1 + 7)), .ref (base + (q + 1 + 8)), .ref (base + (q + 1 + 9)), .ref (base + (q + 1 + 10)), .ref (base + (q + 1 + 11)), .ref (base + (q + 1 + 12)), .ref (base + (q + 1 + 13)), .ref (base + (q + 1 + 14)), .ref (base + (q + 1 + 15)), .null, .null, .null, .null, .null])) :: sg base cA (q + 1) 16) H (base + (q + 1 + 16)) := hW
  refine lv_aload_n hx hb dX7_init_132 rfl (lv_at hl 0 rfl) ?_
  refine lv_bipush (v := (72 : Int32)) hx hb dX7_init_133 (by decide) ?_
  refine c_newI (i := (q + 1 + 16)) (N := 72) hx hb (hts _ (List.mem_of_getElem? (i := 4) rfl)) hK hW (by omega) (bk7_16 hq) (bk7_16a hq) hS (by decide) (by decide) (by decide) (Nat.le_of_ble_eq_true rfl) (Nat.le_of_ble_eq_true rfl) dX7_init_135 (fun H hW hS => ?_)
  have hW : CW D (base + q) ((base + q, .inr (7, [.int 0, .int 0, .ref (base + (q + 1 + 0)), .int 0, .int 0, .ref (base + (q + 1 + 1)), .ref (base + (q + 1 + 2)), .ref (base + (q + 1 + 3)), .ref (base + (q + 1 + 4)), .ref (base + (q + 1 + 5)), .ref (base + (q + 1 + 6)), .int 0, .ref (base + (q + 1 + 7)), .ref (base + (q + 1 + 8)), .ref (base + (q + 1 + 9)), .ref (base + (q + 1 + 10)), .ref (base + (q + 1 + 11)), .ref (base + (q + 1 + 12)), .ref (base + (q + 1 + 13)), .ref (base + (q + 1 + 14)), .ref (base + (q + 1 + 15)), .null, .null, .null, .null, .null])) :: sg base cA (q + 1) 17) H (base + (q + 1 + 17)) := cw_merge hW
  refine c_putF (ci := 7) (v := .ref (base + (q + 1 + 16))) (C := RX7) (T := TX7) (N := 26) hx hb hts hin7 tyX7 tyX7_ok nmX7 hown hK hW hS (fun _ h => h) 0 rfl rfl 21 (by decide) (hts _ (List.mem_of_getElem? (i := 21) rfl)) rfl hin rfl (tyX7_ok 21 (by decide)) rfl rfl (Nat.le_of_ble_eq_true rfl) dX7_init_137 (fun H locs hW hS => ?_)
  have hW : CW D (base + q) ((base + q, .inr (7, [.int 0, .int 0, .ref (base + (q + 1 + 0)), .int 0, .int 0, .ref (base + (q + 1 + 1)), .ref (base + (q + 1 + 2)), .ref (base + (q + 1 + 3)), .ref (base + (q + 1 + 4)), .ref (base + (q + 1 + 5)), .ref (base + (q + 1 + 6)), .int 0, .ref (base + (q + 1 + 7)), .ref (base + (q + 1 + 8)), .ref (base + (q + 1 + 9)), .ref (base + (q + 1 + 10)), .ref (base + (q + 1 + 11)), .ref (base + (q + 1 + 12)), .ref (base + (q + 1 + 13)), .ref (base + (q + 1 + 14)), .ref (base + (q + 1 + 15)), .ref (base + (q + 1 + 16)), .null, .null, .null, .null])) :: sg base cA (q + 1) 17) H (base + (q + 1 + 17)) := hW
  refine lv_aload_n hx hb dX7_init_140 rfl (lv_at hl 0 rfl) ?_
  refine lv_bipush (v := (7 : Int32)) hx hb dX7_init_141 (by decide) ?_
  refine c_newI (i := (q + 1 + 17)) (N := 7) hx hb (hts _ (List.mem_of_getElem? (i := 4) rfl)) hK hW (by omega) (bk7_17 hq) (bk7_17a hq) hS (by decide) (by decide) (by decide) (Nat.le_of_ble_eq_true rfl) (Nat.le_of_ble_eq_true rfl) dX7_init_143 (fun H hW hS => ?_)
  have hW : CW D (base + q) ((base + q, .inr (7, [.int 0, .int 0, .ref (base + (q + 1 + 0)), .int 0, .int 0, .ref (base + (q + 1 + 1)), .ref (base + (q + 1 + 2)), .ref (base + (q + 1 + 3)), .ref (base + (q + 1 + 4)), .ref (base + (q + 1 + 5)), .ref (base + (q + 1 + 6)), .int 0, .ref (base + (q + 1 + 7)), .ref (base + (q + 1 + 8)), .ref (base + (q + 1 + 9)), .ref (base + (q + 1 + 10)), .ref (base + (q + 1 + 11)), .ref (base + (q + 1 + 12)), .ref (base + (q + 1 + 13)), .ref (base + (q + 1 + 14)), .ref (base + (q + 1 + 15)), .ref (base + (q + 1 + 16)), .null, .null, .null, .null])) :: sg base cA (q + 1) 18) H (base + (q + 1 + 18)) := cw_merge hW
  refine c_putF (ci := 7) (v := .ref (base + (q + 1 + 17))) (C := RX7) (T := TX7) (N := 26) hx hb hts hin7 tyX7 tyX7_ok nmX7 hown hK hW hS (fun _ h => h) 0 rfl rfl 22 (by decide) (hts _ (List.mem_of_getElem? (i := 22) rfl)) rfl hin rfl (tyX7_ok 22 (by decide)) rfl rfl (Nat.le_of_ble_eq_true rfl) dX7_init_145 (fun H locs hW hS => ?_)
  have hW : CW D (base + q) ((base + q, .inr (7, [.int 0, .int 0, .ref (base + (q + 1 + 0)), .int 0, .int 0, .ref (base + (q + 1 + 1)), .ref (base + (q + 1 + 2)), .ref (base + (q + 1 + 3)), .ref (base + (q + 1 + 4)), .ref (base + (q + 1 + 5)), .ref (base + (q + 1 + 6)), .int 0, .ref (base + (q + 1 + 7)), .ref (base + (q + 1 + 8)), .ref (base + (q + 1 + 9)), .ref (base + (q + 1 + 10)), .ref (base + (q + 1 + 11)), .ref (base + (q + 1 + 12)), .ref (base + (q + 1 + 13)), .ref (base + (q + 1 + 14)), .ref (base + (q + 1 + 15)), .ref (base + (q + 1 + 16)), .ref (base + (q + 1 + 17)), .null, .null, .null])) :: sg base cA (q + 1) 18) H (base + (q + 1 + 18)) := hW
  refine lv_aload_n hx hb dX7_init_148 rfl (lv_at hl 0 rfl) ?_
  refine lv_sipush (v := (2800 : Int32)) hx hb dX7_init_149 (by decide) ?_
  refine c_newI (i := (q + 1 + 18)) (N := 2800) hx hb (hts _ (List.mem_of_getElem? (i := 4) rfl)) hK hW (by omega) (bk7_18 hq) (bk7_18a hq) hS (by decide) (by decide) (by decide) (Nat.le_of_ble_eq_true rfl) (Nat.le_of_ble_eq_true rfl) dX7_init_152 (fun H hW hS => ?_)
  have hW : CW D (base + q) ((base + q, .inr (7, [.int 0, .int 0, .ref (base + (q + 1 + 0)), .int 0, .int 0, .ref (base + (q + 1 + 1)), .ref (base + (q + 1 + 2)), .ref (base + (q + 1 + 3)), .ref (base + (q + 1 + 4)), .ref (base + (q + 1 + 5)), .ref (base + (q + 1 + 6)), .int 0, .ref (base + (q + 1 + 7)), .ref (base + (q + 1 + 8)), .ref (base + (q + 1 + 9)), .ref (base + (q + 1 + 10)), .ref (base + (q + 1 + 11)), .ref (base + (q + 1 + 12)), .ref (base + (q + 1 + 13)), .ref (base + (q + 1 + 14)), .ref (base + (q + 1 + 15)), .ref (base + (q + 1 + 16)), .ref (base + (q + 1 + 17)), .null, .null, .null])) :: sg base cA (q + 1) 19) H (base + (q + 1 + 19)) := cw_merge hW
  refine c_putF (ci := 7) (v := .ref (base + (q + 1 + 18))) (C := RX7) (T := TX7) (N := 26) hx hb hts hin7 tyX7 tyX7_ok nmX7 hown hK hW hS (fun _ h => h) 0 rfl rfl 23 (by decide) (hts _ (List.mem_of_getElem? (i := 23) rfl)) rfl hin rfl (tyX7_ok 23 (by decide)) rfl rfl (Nat.le_of_ble_eq_true rfl) dX7_init_154 (fun H locs hW hS => ?_)
  have hW : CW D (base + q) ((base + q, .inr (7, [.int 0, .int 0, .ref (base + (q + 1 + 0)), .int 0, .int 0, .ref (base + (q + 1 + 1)), .ref (base + (q + 1 + 2)), .ref (base + (q + 1 + 3)), .ref (base + (q + 1 + 4)), .ref (base + (q + 1 + 5)), .ref (base + (q + 1 + 6)), .int 0, .ref (base + (q + 1 + 7)), .ref (base + (q + 1 + 8)), .ref (base + (q + 1 + 9)), .ref (base + (q + 1 + 10)), .ref (base + (q + 1 + 11)), .ref (base + (q + 1 + 12)), .ref (base + (q + 1 + 13)), .ref (base + (q + 1 + 14)), .ref (base + (q + 1 + 15)), .ref (base + (q + 1 + 16)), .ref (base + (q + 1 + 17)), .ref (base + (q + 1 + 18)), .null, .null])) :: sg base cA (q + 1) 19) H (base + (q + 1 + 19)) := hW
  refine lv_aload_n hx hb dX7_init_157 rfl (lv_at hl 0 rfl) ?_
  refine lv_sipush (v := (2800 : Int32)) hx hb dX7_init_158 (by decide) ?_
  refine c_newI (i := (q + 1 + 19)) (N := 2800) hx hb (hts _ (List.mem_of_getElem? (i := 4) rfl)) hK hW (by omega) (bk7_19 hq) (bk7_19a hq) hS (by decide) (by decide) (by decide) (Nat.le_of_ble_eq_true rfl) (Nat.le_of_ble_eq_true rfl) dX7_init_161 (fun H hW hS => ?_)
  have hW : CW D (base + q) ((base + q, .inr (7, [.int 0, .int 0, .ref (base + (q + 1 + 0)), .int 0, .int 0, .ref (base + (q + 1 + 1)), .ref (base + (q + 1 + 2)), .ref (base + (q + 1 + 3)), .ref (base + (q + 1 + 4)), .ref (base + (q + 1 + 5)), .ref (base + (q + 1 + 6)), .int 0, .ref (base + (q + 1 + 7)), .ref (base + (q + 1 + 8)), .ref (base + (q + 1 + 9)), .ref (base + (q + 1 + 10)), .ref (base + (q + 1 + 11)), .ref (base + (q + 1 + 12)), .ref (base + (q + 1 + 13)), .ref (base + (q + 1 + 14)), .ref (base + (q + 1 + 15)), .ref (base + (q + 1 + 16)), .ref (base + (q + 1 + 17)), .ref (base + (q + 1 + 18)), .null, .null])) :: sg base cA (q + 1) 20) H (base + (q + 1 + 20)) := cw_merge hW
  refine c_putF (ci := 7) (v := .ref (base + (q + 1 + 19))) (C := RX7) (T := TX7) (N := 26) hx hb hts hin7 tyX7 tyX7_ok nmX7 hown hK hW hS (fun _ h => h) 0 rfl rfl 24 (by decide) (hts _ (List.mem_of_getElem? (i := 24) rfl)) rfl hin rfl (tyX7_ok 24 (by decide)) rfl rfl (Nat.le_of_ble_eq_true rfl) dX7_init_163 (fun H locs hW hS => ?_)
  have hW : CW D (base + q) ((base + q, .inr (7, [.int 0, .int 0, .ref (base + (q + 1 + 0)), .int 0, .int 0, .ref (base + (q + 1 + 1)), .ref (base + (q + 1 + 2)), .ref (base + (q + 1 + 3)), .ref (base + (q + 1 + 4)), .ref (base + (q + 1 + 5)), .ref (base + (q + 1 + 6)), .int 0, .ref (base + (q + 1 + 7)), .ref (base + (q + 1 + 8)), .ref (base + (q + 1 + 9)), .ref (base + (q + 1 + 10)), .ref (base + (q + 1 + 11)), .ref (base + (q + 1 + 12)), .ref (base + (q + 1 + 13)), .ref (base + (q + 1 + 14)), .ref (base + (q + 1 + 15)), .ref (base + (q + 1 + 16)), .ref (base + (q + 1 + 17)), .ref (base + (q + 1 + 18)), .ref (base + (q + 1 + 19)), .null])) :: sg base cA (q + 1) 20) H (base + (q + 1 + 20)) := hW
  refine lv_aload_n hx hb dX7_init_166 rfl (lv_at hl 0 rfl) ?_
  refine lv_sipush (v := (401 : Int32)) hx hb dX7_init_167 (by decide) ?_
  refine c_newI (i := (q + 1 + 20)) (N := 401) hx hb (hts _ (List.mem_of_getElem? (i := 4) rfl)) hK hW (by omega) (bk7_20 hq) (bk7_20a hq) hS (by decide) (by decide) (by decide) (Nat.le_of_ble_eq_true rfl) (Nat.le_of_ble_eq_true rfl) dX7_init_170 (fun H hW hS => ?_)
  have hW : CW D (base + q) ((base + q, .inr (7, [.int 0, .int 0, .ref (base + (q + 1 + 0)), .int 0, .int 0, .ref (base + (q + 1 + 1)), .ref (base + (q + 1 + 2)), .ref (base + (q + 1 + 3)), .ref (base + (q + 1 + 4)), .ref (base + (q + 1 + 5)), .ref (base + (q + 1 + 6)), .int 0, .ref (base + (q + 1 + 7)), .ref (base + (q + 1 + 8)), .ref (base + (q + 1 + 9)), .ref (base + (q + 1 + 10)), .ref (base + (q + 1 + 11)), .ref (base + (q + 1 + 12)), .ref (base + (q + 1 + 13)), .ref (base + (q + 1 + 14)), .ref (base + (q + 1 + 15)), .ref (base + (q + 1 + 16)), .ref (base + (q + 1 + 17)), .ref (base + (q + 1 + 18)), .ref (base + (q + 1 + 19)), .null])) :: sg base cA (q + 1) 21) H (base + (q + 1 + 21)) := cw_merge hW
  refine c_putF (ci := 7) (v := .ref (base + (q + 1 + 20))) (C := RX7) (T := TX7) (N := 26) hx hb hts hin7 tyX7 tyX7_ok nmX7 hown hK hW hS (fun _ h => h) 0 rfl rfl 25 (by decide) (hts _ (List.mem_of_getElem? (i := 25) rfl)) rfl hin rfl (tyX7_ok 25 (by decide)) rfl rfl (Nat.le_of_ble_eq_true rfl) dX7_init_172 (fun H locs hW hS => ?_)
  have hW : CW D (base + q) ((base + q, .inr (7, [.int 0, .int 0, .ref (base + (q + 1 + 0)), .int 0, .int 0, .ref (base + (q + 1 + 1)), .ref (base + (q + 1 + 2)), .ref (base + (q + 1 + 3)), .ref (base + (q + 1 + 4)), .ref (base + (q + 1 + 5)), .ref (base + (q + 1 + 6)), .int 0, .ref (base + (q + 1 + 7)), .ref (base + (q + 1 + 8)), .ref (base + (q + 1 + 9)), .ref (base + (q + 1 + 10)), .ref (base + (q + 1 + 11)), .ref (base + (q + 1 + 12)), .ref (base + (q + 1 + 13)), .ref (base + (q + 1 + 14)), .ref (base + (q + 1 + 15)), .ref (base + (q + 1 + 16)), .ref (base + (q + 1 + 17)), .ref (base + (q + 1 + 18)), .ref (base + (q + 1 + 19)), .ref (base + (q + 1 + 20))])) :: sg base cA (q + 1) 21) H (base + (q + 1 + 21)) := hW
  exact W.vret hx hb hr (fun t ht hW9 => ⟨⟨(), rfl, trivial, cw_end hW (own7 hq) ht⟩, hS.F ht⟩) hS.2.2 dX7_init_175
