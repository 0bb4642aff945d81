/-! The reference: keep, saysNow, isAble. -/
theorem nI_mul' (a b : Nat) : nI a * nI b = nI (a * b) := (Int32.ofNat_mul a b).symm
theorem nI_add' (a b : Nat) : nI a + nI b = nI (a + b) := (Int32.ofNat_add a b).symm
theorem ix400 (a k : Nat) : (400 : Int32) * nI a + nI k = nI (400 * a + k) := by
  rw [nI400, nI_mul', nI_add']
theorem ix12 (a k : Nat) : (12 : Int32) * nI a + nI k = nI (12 * a + k) := by
  rw [show (12 : Int32) = nI 12 from rfl, nI_mul', nI_add']
theorem ix12_0 (a : Nat) : (12 : Int32) * nI a = nI (12 * a) := by
  rw [show (12 : Int32) = nI 12 from rfl, nI_mul']
theorem inb_T {n N : Nat} (h : n < N) (hN : N < 2 ^ 31) : inb (nI n) N = True := eq_true (inb_nI h hN)
theorem rI_o {μ : MM} {q q' k k' : Nat} (v : Int32) (h : ¬ (q = q')) : rI (wI μ q' k' v) q k = rI μ q k := rI_ne v (fun z => h z.1)
theorem pne (p k : Nat) : (p = p + (k + 1)) = False := eq_false (by omega)
theorem pne' (p k : Nat) : (p + (k + 1) = p) = False := eq_false (by omega)
theorem enc_ne {s : Nat} (h : s < 100) : encO (some s) ≠ -1 := wNum_ne ⟨s, h, rfl⟩
section MK
variable {p : Nat} {ρ μ : MM} {A : AS}
theorem m_X7keep {a : Nat} (w : Int32) (hp : isP p) (ha : a < 7) (hm : a_mn A a < 400) (h : Ml p ρ μ A) : ∃ μ', X7_keep p (nI a) w μ = some μ' ∧ Ml p ρ μ' (keepA A a w) := by
  have e23 := rq23 h ha
  have e0 := rq0 h
  have ca : (nI a).toNatClampNeg = a := nI_clamp (by omega)
  have ck : (nI (400 * a + a_mn A a)).toNatClampNeg = 400 * a + a_mn A a := nI_clamp (by omega)
  have i7 : inb (nI a) 7 = True := inb_T ha (by decide)
  have iN : inb (nI (400 * a + a_mn A a)) 2800 = True := inb_T (by omega) (by decide)
  unfold X7_keep
  simp only [bV_eq, pR22 hp, pA22 hp, pR23 hp, pA23 hp, pR24 hp, pA24 hp, ca, ck, e23, e0, i7, iN, ix400, if_true, rI_o, Nat.reduceEqDiff, Nat.add_left_cancel_iff, pne, pne', not_false_eq_true, nI_1]
  exact ⟨_, rfl, m_keep w ha hm h⟩
theorem m_now {a : Nat} (hp : isP p) (ha : a < 7) (hm : a_mn A a ≤ 400) (h : Ml p ρ μ A) : X7_saysNow p (nI a) μ = some (if nowA A a = true then 1 else 0) := by
  have e23 := rq23 h ha
  have e0 := rq0 h
  have ca : (nI a).toNatClampNeg = a := nI_clamp (by omega)
  have i7 : inb (nI a) 7 = True := inb_T ha (by decide)
  unfold X7_saysNow nowA
  simp only [pR22 hp, pA22 hp, pR24 hp, pA24 hp, ca, e23, e0, i7, ix400, if_true]
  by_cases e : a_mn A a = 0
  · rw [e, if_pos (by decide), show decide ((0 : Nat) ≠ 0) = false from rfl, Bool.false_and, if_neg (by decide)]
  · have ck : (nI (400 * a + (a_mn A a - 1))).toNatClampNeg = 400 * a + (a_mn A a - 1) := nI_clamp (by omega)
    have iN : inb (nI (400 * a + (a_mn A a - 1))) 2800 = True := inb_T (by omega) (by decide)
    rw [if_neg (nI_nle (by omega) (by omega)), nI_pred' (by omega), show 400 * a + a_mn A a - 1 = 400 * a + (a_mn A a - 1) by omega]
    simp only [ck, iN, if_true]
    rw [rq25 h ha (by omega) hm, show decide (a_mn A a ≠ 0) = true from decide_eq_true e, Bool.true_and]
    by_cases e2 : a_st A a (a_mn A a - 1) = nI (a_t A)
    · rw [if_pos e2, if_pos (decide_eq_true e2)]
    · rw [if_neg e2, if_neg (fun z => e2 (of_decide_eq_true z))]
theorem m_able {b : Nat} (hp : isP p) (h : Ml p ρ μ A) (hs : Seats A) (hb : b < a_nb A) (hn : a_nb A ≤ 6) (hi : a_ni A ≤ 8) : X7_isAble p (nI b) μ = some (if ableA A b = true then 1 else 0) := by
  have cb : (nI b).toNatClampNeg = b := nI_clamp (by omega)
  have i6 : inb (nI b) 6 = True := inb_T (by omega) (by decide)
  have e1 := rq1 h
  have e12 : rI μ (p + 8) b = a_bv A b 0 := rq12 h (by omega)
  have e15 := rq15 h (by omega) hb
  have e16 := rq16 h (by omega) hb
  unfold X7_isAble ableA langO spk
  simp only [bV_eq, pR16 hp, pA16 hp, pR15 hp, pA15 hp, pR12 hp, pA12 hp, pR5 hp, pA5 hp, cb, i6, e1, e12, e15, e16, if_true]
  cases hx : a_sit A b with
  | none =>
    cases hy : a_src A b with
    | none => rfl
    | some s =>
      have hsl := hs.1 b hb s hy
      have es : (encO (some s)).toNatClampNeg = s := nI_clamp (by omega)
      have i6s : inb (encO (some s)) 6 = True := inb_T (by omega) (by decide)
      simp only [es, i6s, if_true, show (encO (some s) = -1) = False from eq_false (enc_ne (by omega)), if_false]
      rfl
  | some i =>
    have hil := hs.2 b hb i hx
    have ei : (encO (some i)).toNatClampNeg = i := nI_clamp (by omega)
    have i8 : inb (encO (some i)) 8 = True := inb_T (by omega) (by decide)
    have e6 : rI μ (p + 2) i = a_iv A i 0 := rq6 h (by omega)
    simp only [ei, i8, e6, if_true, show (encO (some i) = -1) = False from eq_false (enc_ne (by omega)), if_false]
    cases hy : a_src A b with
    | none =>
      simp only [show (encO none = -1) = True from eq_true rfl, if_true]
      by_cases c1 : a_iv A i 0 >>> (a_bv A b 0 &&& 31) &&& 1 = 1
      · by_cases c2 : a_iv A i 0 >>> (a_lang A &&& 31) &&& 1 = 1
        · simp only [c1, c2, if_true, decide_true, Bool.and_self]
        · simp only [c1, c2, if_true, if_false, decide_true, decide_false, Bool.and_false, Bool.false_eq_true]
      · simp only [c1, if_false, decide_false, Bool.false_and, Bool.false_eq_true]
    | some s =>
      have hsl := hs.1 b hb s hy
      have es : (encO (some s)).toNatClampNeg = s := nI_clamp (by omega)
      have i6s : inb (encO (some s)) 6 = True := inb_T (by omega) (by decide)
      have e12s : rI μ (p + 8) s = a_bv A s 0 := rq12 h (by omega)
      simp only [es, i6s, e12s, if_true, show (encO (some s) = -1) = False from eq_false (enc_ne (by omega)), if_false]
      by_cases c1 : a_iv A i 0 >>> (a_bv A b 0 &&& 31) &&& 1 = 1
      · by_cases c2 : a_iv A i 0 >>> (a_bv A s 0 &&& 31) &&& 1 = 1
        · simp only [c1, c2, if_true, decide_true, Bool.and_self]
        · simp only [c1, c2, if_true, if_false, decide_true, decide_false, Bool.and_false, Bool.false_eq_true]
      · simp only [c1, if_false, decide_false, Bool.false_and, Bool.false_eq_true]
end MK
