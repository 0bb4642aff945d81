/-! Numbers by their bits; the count of ones. -/
def bN (P : Nat → Bool) : Nat → Nat
  | 0 => 0
  | n + 1 => bN P n + if P n = true then 2 ^ n else 0
theorem bN_lt (P : Nat → Bool) : ∀ n, bN P n < 2 ^ n
  | 0 => Nat.one_pos
  | n + 1 => by
    have := bN_lt P n
    show bN P n + (if P n = true then 2 ^ n else 0) < 2 ^ (n + 1)
    rw [Nat.pow_succ]
    split <;> omega
theorem bN_tb (P : Nat → Bool) : ∀ n k, (bN P n).testBit k = (decide (k < n) && P k)
  | 0, k => by
    show (0 : Nat).testBit k = _
    rw [Nat.zero_testBit]
    simp
  | n + 1, k => by
    show (bN P n + (if P n = true then 2 ^ n else 0)).testBit k = _
    by_cases h : P n = true
    · rw [if_pos h, show bN P n + 2 ^ n = 2 ^ n * 1 + bN P n by omega, Nat.testBit_two_pow_mul_add _ (bN_lt P n), bN_tb P n k]
      by_cases e : k < n
      · rw [if_pos e, decide_eq_true e, decide_eq_true (show k < n + 1 by omega)]
      · rw [if_neg e]
        by_cases e2 : k = n
        · subst e2
          rw [Nat.sub_self, decide_eq_true (Nat.lt_succ_self k), h]
          rfl
        · rw [decide_eq_false (show ¬ k < n + 1 by omega), Bool.false_and]
          obtain ⟨d, hd⟩ : ∃ d, k - n = d + 1 := ⟨k - n - 1, by omega⟩
          rw [hd, Nat.testBit_succ]
          exact Nat.zero_testBit d
    · rw [if_neg h, Nat.add_zero, bN_tb P n k]
      by_cases e : k < n
      · rw [decide_eq_true e, decide_eq_true (show k < n + 1 by omega)]
      · rw [decide_eq_false e]
        by_cases e2 : k = n
        · subst e2
          rw [bool_f h, Bool.false_and, Bool.and_false]
        · rw [decide_eq_false (show ¬ k < n + 1 by omega)]
theorem bN_cong {P Q : Nat → Bool} : ∀ {n}, (∀ k, k < n → P k = Q k) → bN P n = bN Q n
  | 0, _ => rfl
  | n + 1, h => by
    show bN P n + (if P n = true then 2 ^ n else 0) = bN Q n + (if Q n = true then 2 ^ n else 0)
    rw [bN_cong (fun k hk => h k (by omega)), h n (by omega)]
theorem bN_split (P : Nat → Bool) (m : Nat) : ∀ n, bN P (m + n) = bN P m + 2 ^ m * bN (fun k => P (m + k)) n
  | 0 => by
    show bN P m = bN P m + 2 ^ m * 0
    omega
  | n + 1 => by
    show bN P (m + n) + (if P (m + n) = true then 2 ^ (m + n) else 0) = bN P m + 2 ^ m * (bN (fun k => P (m + k)) n + if P (m + n) = true then 2 ^ n else 0)
    rw [bN_split P m n, Nat.mul_add, Nat.pow_add]
    split <;> omega
theorem bN_add {V E H S : Nat → Bool} (hH : ∀ k, H (k + 1) = (V k && E k || V k && H k || E k && H k)) (hS : ∀ k, S k = (V k ^^ (E k ^^ H k))) : ∀ n, bN V n + bN E n + (if H 0 = true then 1 else 0) = bN S n + if H n = true then 2 ^ n else 0
  | 0 => by
    show 0 + 0 + (if H 0 = true then 1 else 0) = 0 + if H 0 = true then 2 ^ 0 else 0
    rw [Nat.pow_zero]
  | n + 1 => by
    have ih := bN_add hH hS n
    show bN V n + (if V n = true then 2 ^ n else 0) + (bN E n + (if E n = true then 2 ^ n else 0)) + (if H 0 = true then 1 else 0) = bN S n + (if S n = true then 2 ^ n else 0) + (if H (n + 1) = true then 2 ^ (n + 1) else 0)
    rw [hH n, hS n, Nat.pow_succ]
    generalize 2 ^ n = t at *
    generalize bN V n = v at *
    generalize bN E n = e at *
    generalize bN S n = s at *
    generalize (if H 0 = true then 1 else 0) = h0 at *
    cases V n <;> cases E n <;> cases hh : H n <;> rw [hh] at ih <;> simp at ih ⊢ <;> omega
theorem bN_and (P Q : Nat → Bool) (n : Nat) : bN P n &&& bN Q n = bN (fun k => P k && Q k) n := by
  refine Nat.eq_of_testBit_eq (fun k => ?_)
  rw [Nat.testBit_and, bN_tb, bN_tb, bN_tb]
  cases decide (k < n) <;> simp
theorem bN_or (P Q : Nat → Bool) (n : Nat) : bN P n ||| bN Q n = bN (fun k => P k || Q k) n := by
  refine Nat.eq_of_testBit_eq (fun k => ?_)
  rw [Nat.testBit_or, bN_tb, bN_tb, bN_tb]
  cases decide (k < n) <;> simp
theorem bN_all (n : Nat) : bN (fun _ => true) n = 2 ^ n - 1 := by
  induction n with
  | zero => rfl
  | succ n ih =>
    show bN (fun _ => true) n + 2 ^ n = _
    rw [ih, Nat.pow_succ]
    have := Nat.two_pow_pos n
    omega
theorem bN_none {P : Nat → Bool} : ∀ {n}, (∀ k, k < n → P k = false) → bN P n = 0
  | 0, _ => rfl
  | n + 1, h => by
    show bN P n + (if P n = true then 2 ^ n else 0) = 0
    rw [bN_none (fun k hk => h k (by omega)), h n (by omega)]
    rfl
/-- what is left of a when b is taken out -/
theorem lN_out {a b : Nat} (h : a &&& b = b) : lN a &&& (lN b ^^^ (-1)) = lN (a ^^^ b) := by
  refine Int64.toBitVec_inj.mp ?_
  show BitVec.ofNat 64 a &&& (BitVec.ofNat 64 b ^^^ (-1 : Int64).toBitVec) = BitVec.ofNat 64 (a ^^^ b)
  refine BitVec.eq_of_getLsbD_eq (fun i hi => ?_)
  have hm : (-1 : Int64).toBitVec.getLsbD i = true := by
    have : (-1 : Int64).toBitVec = BitVec.allOnes 64 := by decide
    rw [this, BitVec.getLsbD_allOnes]
    exact decide_eq_true hi
  rw [BitVec.getLsbD_and, BitVec.getLsbD_xor, hm, BitVec.getLsbD_ofNat, BitVec.getLsbD_ofNat, BitVec.getLsbD_ofNat, Nat.testBit_xor, decide_eq_true hi]
  have hb : (a &&& b).testBit i = b.testBit i := by rw [h]
  rw [Nat.testBit_and] at hb
  cases ha : a.testBit i <;> cases hb2 : b.testBit i <;> simp [ha, hb2] at hb ⊢
theorem bN_out (V E : Nat → Bool) (hE : ∀ k, E k = true → V k = true) (n : Nat) : lN (bN V n) &&& (lN (bN E n) ^^^ (-1)) = lN (bN (fun k => V k && !E k) n) := by
  have h : bN V n &&& bN E n = bN E n := by
    rw [bN_and]
    refine bN_cong (fun k _ => ?_)
    cases he : E k with
    | true => rw [hE k he]; rfl
    | false => rw [Bool.and_false]
  rw [lN_out h]
  congr 1
  refine Nat.eq_of_testBit_eq (fun k => ?_)
  rw [Nat.testBit_xor, bN_tb, bN_tb, bN_tb]
  cases hk : decide (k < n) <;> cases he : E k <;> simp
  cases hv : V k <;> simp
  exact absurd (hE k he) (by rw [hv]; decide)
/-! bytes -/
def dg (f : Nat → Nat) : Nat → Nat
  | 0 => 0
  | n + 1 => dg f n + 2 ^ (8 * n) * f n
theorem dg_lt {f : Nat → Nat} (h : ∀ i, f i < 256) : ∀ n, dg f n < 2 ^ (8 * n)
  | 0 => Nat.one_pos
  | n + 1 => by
    have := dg_lt h n
    have h2 := h n
    show dg f n + 2 ^ (8 * n) * f n < 2 ^ (8 * (n + 1))
    rw [show 8 * (n + 1) = 8 * n + 8 by omega, Nat.pow_add]
    have h3 : 2 ^ (8 * n) * f n + 2 ^ (8 * n) ≤ 2 ^ (8 * n) * 2 ^ 8 := by
      have : f n + 1 ≤ 2 ^ 8 := h2
      calc 2 ^ (8 * n) * f n + 2 ^ (8 * n) = 2 ^ (8 * n) * (f n + 1) := by rw [Nat.mul_add, Nat.mul_one]
        _ ≤ _ := Nat.mul_le_mul_left _ this
    omega
theorem dg_tb {f : Nat → Nat} (h : ∀ i, f i < 256) : ∀ n k, (dg f n).testBit k = (decide (k < 8 * n) && (f (k / 8)).testBit (k % 8))
  | 0, k => by
    show (0 : Nat).testBit k = _
    rw [Nat.zero_testBit]
    simp
  | n + 1, k => by
    show (dg f n + 2 ^ (8 * n) * f n).testBit k = _
    rw [Nat.add_comm, Nat.testBit_two_pow_mul_add _ (dg_lt h n), dg_tb h n k]
    by_cases e : k < 8 * n
    · rw [if_pos e, decide_eq_true e, decide_eq_true (show k < 8 * (n + 1) by omega)]
    · rw [if_neg e]
      by_cases e2 : k < 8 * (n + 1)
      · rw [decide_eq_true e2, Bool.true_and, show k / 8 = n by omega, show k % 8 = k - 8 * n by omega]
      · rw [decide_eq_false e2, Bool.false_and]
        refine Nat.testBit_lt_two_pow (Nat.lt_of_lt_of_le (h n) ?_)
        exact Nat.pow_le_pow_right (n := 2) (by decide) (show 8 ≤ k - 8 * n by omega)
theorem dg_and {f g : Nat → Nat} (hf : ∀ i, f i < 256) (hg : ∀ i, g i < 256) (n : Nat) : dg f n &&& dg g n = dg (fun i => f i &&& g i) n := by
  refine Nat.eq_of_testBit_eq (fun k => ?_)
  rw [Nat.testBit_and, dg_tb hf, dg_tb hg, dg_tb (fun i => Nat.lt_of_le_of_lt Nat.and_le_left (hf i)), Nat.testBit_and]
  cases decide (k < 8 * n) <;> simp
/-- shifted by s within the bytes -/
theorem dg_sh {f g : Nat → Nat} {s : Nat} (hf : ∀ i, f i < 256) (hs : s < 8) (hg : ∀ i, g i < 2 ^ (8 - s)) (n : Nat) : (dg f n / 2 ^ s) &&& dg g n = dg (fun i => (f i / 2 ^ s) &&& g i) n := by
  have hg8 : ∀ i, g i < 256 := fun i => Nat.lt_of_lt_of_le (hg i) (show 2 ^ (8 - s) ≤ 2 ^ 8 from Nat.pow_le_pow_right (by decide) (by omega))
  refine Nat.eq_of_testBit_eq (fun k => ?_)
  rw [Nat.testBit_and, Nat.testBit_div_two_pow, dg_tb hf, dg_tb hg8, dg_tb (fun i => Nat.lt_of_le_of_lt Nat.and_le_right (hg8 i)), Nat.testBit_and, Nat.testBit_div_two_pow]
  by_cases e : k % 8 < 8 - s
  · rw [show (k + s) / 8 = k / 8 by omega, show (k + s) % 8 = k % 8 + s by omega]
    by_cases e2 : k < 8 * n
    · rw [decide_eq_true e2, decide_eq_true (show k + s < 8 * n by omega)]
      simp
    · rw [decide_eq_false e2]
      simp
  · have : (g (k / 8)).testBit (k % 8) = false := Nat.testBit_lt_two_pow (Nat.lt_of_lt_of_le (hg _) (Nat.pow_le_pow_right (n := 2) (by decide) (by omega)))
    rw [this]
    simp
theorem dg_add (f g : Nat → Nat) : ∀ n, dg f n + dg g n = dg (fun i => f i + g i) n
  | 0 => rfl
  | n + 1 => by
    show dg f n + 2 ^ (8 * n) * f n + (dg g n + 2 ^ (8 * n) * g n) = dg (fun i => f i + g i) n + 2 ^ (8 * n) * (f n + g n)
    rw [← dg_add f g n, Nat.mul_add]
    omega
theorem dg_le {f g : Nat → Nat} (h : ∀ i, g i ≤ f i) : ∀ n, dg g n ≤ dg f n
  | 0 => Nat.le_refl _
  | n + 1 => Nat.add_le_add (dg_le h n) (Nat.mul_le_mul_left _ (h n))
theorem dg_sub {f g : Nat → Nat} (h : ∀ i, g i ≤ f i) (n : Nat) : dg f n - dg g n = dg (fun i => f i - g i) n := by
  have h1 := dg_add g (fun i => f i - g i) n
  have h2 : dg (fun i => g i + (f i - g i)) n = dg f n := congrArg (fun F => dg F n) (funext fun i => by have := h i; omega)
  omega
theorem dg_cong {f g : Nat → Nat} : ∀ n, (∀ i, i < n → f i = g i) → dg f n = dg g n
  | 0, _ => rfl
  | n + 1, h => by
    show dg f n + 2 ^ (8 * n) * f n = dg g n + 2 ^ (8 * n) * g n
    rw [dg_cong n (fun i hi => h i (by omega)), h n (by omega)]
theorem dg_8 (f : Nat → Nat) : dg f 8 = f 0 + 256 * f 1 + 65536 * f 2 + 16777216 * f 3 + 4294967296 * f 4 + 1099511627776 * f 5 + 281474976710656 * f 6 + 72057594037927936 * f 7 := by
  show 0 + 2 ^ 0 * f 0 + 2 ^ 8 * f 1 + 2 ^ 16 * f 2 + 2 ^ 24 * f 3 + 2 ^ 32 * f 4 + 2 ^ 40 * f 5 + 2 ^ 48 * f 6 + 2 ^ 56 * f 7 = _
  omega
/-- the ones of a byte, as the sum by halves has it -/
def by1 (v : Nat) : Nat := v - (v / 2 &&& 85)
def by2 (v : Nat) : Nat := (by1 v &&& 51) + (by1 v / 4 &&& 51)
def by3 (v : Nat) : Nat := (by2 v + by2 v / 16) % 16
theorem by_ok : ∀ v, v < 256 → (v / 2 &&& 85) ≤ v ∧ by1 v < 256 ∧ by2 v % 16 ≤ 4 ∧ by2 v ≤ 68 ∧ by3 v ≤ 8 := by decide +kernel
theorem by_ct : ∀ b0 b1 b2 b3 b4 b5 b6 b7 : Bool, by3 (0 + (if b0 = true then 1 else 0) + (if b1 = true then 2 else 0) + (if b2 = true then 4 else 0) + (if b3 = true then 8 else 0) + (if b4 = true then 16 else 0) + (if b5 = true then 32 else 0) + (if b6 = true then 64 else 0) + (if b7 = true then 128 else 0)) = 0 + (if b0 = true then 1 else 0) + (if b1 = true then 1 else 0) + (if b2 = true then 1 else 0) + (if b3 = true then 1 else 0) + (if b4 = true then 1 else 0) + (if b5 = true then 1 else 0) + (if b6 = true then 1 else 0) + (if b7 = true then 1 else 0) := by decide +kernel
theorem by_fb (Q : Nat → Bool) : by3 (bN Q 8) = fb_ct Q 8 := by_ct (Q 0) (Q 1) (Q 2) (Q 3) (Q 4) (Q 5) (Q 6) (Q 7)
