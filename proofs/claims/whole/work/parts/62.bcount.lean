/-! The class's count of ones. -/
theorem bN_dg (P : Nat → Bool) : ∀ n, bN P (8 * n) = dg (fun i => bN (fun r => P (8 * i + r)) 8) n
  | 0 => rfl
  | n + 1 => by
    show bN P (8 * n + 8) = dg (fun i => bN (fun r => P (8 * i + r)) 8) n + 2 ^ (8 * n) * bN (fun r => P (8 * n + r)) 8
    rw [bN_split P (8 * n) 8, bN_dg P n]
theorem swar3 {y : Nat → Nat} (hy : ∀ i, y i ≤ 68) (h16 : ∀ i, y i % 16 ≤ 4) : (dg y 8 + dg y 8 / 16) &&& dg (fun _ => 15) 8 = dg (fun i => (y i + y i / 16) % 16) 8 := by
  have hz : dg y 8 + dg y 8 / 16 = dg (fun i => y i + y i / 16 + (if i < 7 then 16 * (y (i + 1) % 16) else 0)) 8 := by
    rw [dg_8, dg_8]
    simp only [show (0 : Nat) < 7 from by decide, show (1 : Nat) < 7 from by decide, show (2 : Nat) < 7 from by decide, show (3 : Nat) < 7 from by decide, show (4 : Nat) < 7 from by decide, show (5 : Nat) < 7 from by decide, show (6 : Nat) < 7 from by decide, show ¬ (7 : Nat) < 7 from by decide, if_true, if_false]
    have e : (y 0 + 256 * y 1 + 65536 * y 2 + 16777216 * y 3 + 4294967296 * y 4 + 1099511627776 * y 5 + 281474976710656 * y 6 + 72057594037927936 * y 7) / 16 = y 0 / 16 + 16 * (y 1 + 256 * y 2 + 65536 * y 3 + 16777216 * y 4 + 4294967296 * y 5 + 1099511627776 * y 6 + 281474976710656 * y 7) := by
      rw [show y 0 + 256 * y 1 + 65536 * y 2 + 16777216 * y 3 + 4294967296 * y 4 + 1099511627776 * y 5 + 281474976710656 * y 6 + 72057594037927936 * y 7 = y 0 + 16 * (16 * (y 1 + 256 * y 2 + 65536 * y 3 + 16777216 * y 4 + 4294967296 * y 5 + 1099511627776 * y 6 + 281474976710656 * y 7)) by omega, Nat.add_mul_div_left _ _ (by decide)]
    rw [e]
    have d : ∀ i, y i = 16 * (y i / 16) + y i % 16 := fun i => (Nat.div_add_mod (y i) 16).symm
    have d1 := d 1
    have d2 := d 2
    have d3 := d 3
    have d4 := d 4
    have d5 := d 5
    have d6 := d 6
    have d7 := d 7
    generalize y 1 / 16 = u1 at *
    generalize y 1 % 16 = v1 at *
    generalize y 2 / 16 = u2 at *
    generalize y 2 % 16 = v2 at *
    generalize y 3 / 16 = u3 at *
    generalize y 3 % 16 = v3 at *
    generalize y 4 / 16 = u4 at *
    generalize y 4 % 16 = v4 at *
    generalize y 5 / 16 = u5 at *
    generalize y 5 % 16 = v5 at *
    generalize y 6 / 16 = u6 at *
    generalize y 6 % 16 = v6 at *
    generalize y 7 / 16 = u7 at *
    generalize y 7 % 16 = v7 at *
    generalize y 0 / 16 = u0 at *
    show _ = y 0 + u0 + 16 * v1 + 256 * (y 1 + u1 + 16 * v2) + 65536 * (y 2 + u2 + 16 * v3) + 16777216 * (y 3 + u3 + 16 * v4) + 4294967296 * (y 4 + u4 + 16 * v5) + 1099511627776 * (y 5 + u5 + 16 * v6) + 281474976710656 * (y 6 + u6 + 16 * v7) + 72057594037927936 * (y 7 + u7 + 0)
    clear d e hy h16
    omega
  have hz2 : ∀ i, y i + y i / 16 + (if i < 7 then 16 * (y (i + 1) % 16) else 0) < 256 := by
    intro i
    have h1 := hy i
    have h2 := h16 (i + 1)
    split <;> omega
  rw [hz, dg_and hz2 (fun _ => by decide)]
  refine dg_cong 8 (fun i _ => ?_)
  show (y i + y i / 16 + (if i < 7 then 16 * (y (i + 1) % 16) else 0)) &&& (2 ^ 4 - 1) = _
  rw [Nat.and_two_pow_sub_one_eq_mod]
  split <;> omega
theorem swar6 {h : Nat → Nat} (hh : ∀ i, h i ≤ 8) : (dg h 8 + dg h 8 / 256 + (dg h 8 + dg h 8 / 256) / 65536 + (dg h 8 + dg h 8 / 256 + (dg h 8 + dg h 8 / 256) / 65536) / 4294967296) % 128 = h 0 + h 1 + h 2 + h 3 + h 4 + h 5 + h 6 + h 7 := by
  have a0 := hh 0
  have a1 := hh 1
  have a2 := hh 2
  have a3 := hh 3
  have a4 := hh 4
  have a5 := hh 5
  have a6 := hh 6
  have a7 := hh 7
  rw [dg_8]
  generalize h 0 = x0 at *
  generalize h 1 = x1 at *
  generalize h 2 = x2 at *
  generalize h 3 = x3 at *
  generalize h 4 = x4 at *
  generalize h 5 = x5 at *
  generalize h 6 = x6 at *
  generalize h 7 = x7 at *
  have e1 : (x0 + 256 * x1 + 65536 * x2 + 16777216 * x3 + 4294967296 * x4 + 1099511627776 * x5 + 281474976710656 * x6 + 72057594037927936 * x7) / 256 = x1 + 256 * x2 + 65536 * x3 + 16777216 * x4 + 4294967296 * x5 + 1099511627776 * x6 + 281474976710656 * x7 := by
    rw [show x0 + 256 * x1 + 65536 * x2 + 16777216 * x3 + 4294967296 * x4 + 1099511627776 * x5 + 281474976710656 * x6 + 72057594037927936 * x7 = x0 + 256 * (x1 + 256 * x2 + 65536 * x3 + 16777216 * x4 + 4294967296 * x5 + 1099511627776 * x6 + 281474976710656 * x7) by omega, Nat.add_mul_div_left _ _ (by decide), Nat.div_eq_of_lt (by omega), Nat.zero_add]
  rw [e1]
  have e2 : (x0 + 256 * x1 + 65536 * x2 + 16777216 * x3 + 4294967296 * x4 + 1099511627776 * x5 + 281474976710656 * x6 + 72057594037927936 * x7 + (x1 + 256 * x2 + 65536 * x3 + 16777216 * x4 + 4294967296 * x5 + 1099511627776 * x6 + 281474976710656 * x7)) / 65536 = (x2 + x3) + 256 * (x3 + x4) + 65536 * (x4 + x5) + 16777216 * (x5 + x6) + 4294967296 * (x6 + x7) + 1099511627776 * x7 := by
    rw [show x0 + 256 * x1 + 65536 * x2 + 16777216 * x3 + 4294967296 * x4 + 1099511627776 * x5 + 281474976710656 * x6 + 72057594037927936 * x7 + (x1 + 256 * x2 + 65536 * x3 + 16777216 * x4 + 4294967296 * x5 + 1099511627776 * x6 + 281474976710656 * x7) = (x0 + x1 + 256 * (x1 + x2)) + 65536 * ((x2 + x3) + 256 * (x3 + x4) + 65536 * (x4 + x5) + 16777216 * (x5 + x6) + 4294967296 * (x6 + x7) + 1099511627776 * x7) by omega, Nat.add_mul_div_left _ _ (by decide), Nat.div_eq_of_lt (by omega), Nat.zero_add]
  rw [e2]
  have e3 : (x0 + 256 * x1 + 65536 * x2 + 16777216 * x3 + 4294967296 * x4 + 1099511627776 * x5 + 281474976710656 * x6 + 72057594037927936 * x7 + (x1 + 256 * x2 + 65536 * x3 + 16777216 * x4 + 4294967296 * x5 + 1099511627776 * x6 + 281474976710656 * x7) + ((x2 + x3) + 256 * (x3 + x4) + 65536 * (x4 + x5) + 16777216 * (x5 + x6) + 4294967296 * (x6 + x7) + 1099511627776 * x7)) / 4294967296 = (x4 + x5 + x6 + x7) + 256 * (x5 + x6 + x7) + 65536 * (x6 + x7) + 16777216 * x7 := by
    rw [show x0 + 256 * x1 + 65536 * x2 + 16777216 * x3 + 4294967296 * x4 + 1099511627776 * x5 + 281474976710656 * x6 + 72057594037927936 * x7 + (x1 + 256 * x2 + 65536 * x3 + 16777216 * x4 + 4294967296 * x5 + 1099511627776 * x6 + 281474976710656 * x7) + ((x2 + x3) + 256 * (x3 + x4) + 65536 * (x4 + x5) + 16777216 * (x5 + x6) + 4294967296 * (x6 + x7) + 1099511627776 * x7) = (x0 + x1 + x2 + x3 + 256 * (x1 + x2 + x3 + x4) + 65536 * (x2 + x3 + x4 + x5) + 16777216 * (x3 + x4 + x5 + x6)) + 4294967296 * ((x4 + x5 + x6 + x7) + 256 * (x5 + x6 + x7) + 65536 * (x6 + x7) + 16777216 * x7) by omega, Nat.add_mul_div_left _ _ (by decide), Nat.div_eq_of_lt (by omega), Nat.zero_add]
  rw [e3]
  clear e1 e2 e3
  rw [show x0 + 256 * x1 + 65536 * x2 + 16777216 * x3 + 4294967296 * x4 + 1099511627776 * x5 + 281474976710656 * x6 + 72057594037927936 * x7 + (x1 + 256 * x2 + 65536 * x3 + 16777216 * x4 + 4294967296 * x5 + 1099511627776 * x6 + 281474976710656 * x7) + ((x2 + x3) + 256 * (x3 + x4) + 65536 * (x4 + x5) + 16777216 * (x5 + x6) + 4294967296 * (x6 + x7) + 1099511627776 * x7) + ((x4 + x5 + x6 + x7) + 256 * (x5 + x6 + x7) + 65536 * (x6 + x7) + 16777216 * x7) = (x0 + x1 + x2 + x3 + x4 + x5 + x6 + x7) + 128 * (2 * (x1 + x2 + x3 + x4 + x5 + x6 + x7) + 512 * (x2 + x3 + x4 + x5 + x6 + x7) + 131072 * (x3 + x4 + x5 + x6 + x7) + 33554432 * (x4 + x5 + x6 + x7) + 8589934592 * (x5 + x6 + x7) + 2199023255552 * (x6 + x7) + 562949953421312 * x7) by omega, Nat.add_mul_mod_self_left, Nat.mod_eq_of_lt (by omega)]
theorem bc_masks : dg (fun _ => 85) 8 = 6148914691236517205 ∧ dg (fun _ => 51) 8 = 3689348814741910323 ∧ dg (fun _ => 15) 8 = 1085102592571150095 := by decide +kernel
theorem bit_count {f : Nat → Nat} (hf : ∀ i, f i < 256) : J13_bitCount_95d88 (lN (dg f 8)) = nI (by3 (f 0) + by3 (f 1) + by3 (f 2) + by3 (f 3) + by3 (f 4) + by3 (f 5) + by3 (f 6) + by3 (f 7)) := by
  have b := fun i => by_ok (f i) (hf i)
  have l0 : dg f 8 < 2 ^ 64 := dg_lt hf 8
  unfold J13_bitCount_95d88
  simp only [bV_eq]
  have m85 : (6148914691236517205 : Int64) = lN (dg (fun _ => 85) 8) := by rw [bc_masks.1]; rfl
  have m51 : (3689348814741910323 : Int64) = lN (dg (fun _ => 51) 8) := by rw [bc_masks.2.1]; rfl
  have m15 : (1085102592571150095 : Int64) = lN (dg (fun _ => 15) 8) := by rw [bc_masks.2.2]; rfl
  have s85 : dg (fun _ => 85) 8 < 2 ^ 64 := by rw [bc_masks.1]; decide
  have s51 : dg (fun _ => 51) 8 < 2 ^ 64 := by rw [bc_masks.2.1]; decide
  have s15 : dg (fun _ => 15) 8 < 2 ^ 64 := by rw [bc_masks.2.2]; decide
  have h1 : ∀ n, n < 2 ^ 64 → ((lN n).toUInt64 >>> ((1 : Int32).toInt64.toUInt64 &&& Int64.toUInt64 63)).toInt64 = lN (n / 2 ^ 1) := fun n hn => wb_shr (k := 1) hn (by decide)
  have h2 : ∀ n, n < 2 ^ 64 → ((lN n).toUInt64 >>> ((2 : Int32).toInt64.toUInt64 &&& Int64.toUInt64 63)).toInt64 = lN (n / 2 ^ 2) := fun n hn => wb_shr (k := 2) hn (by decide)
  have h4 : ∀ n, n < 2 ^ 64 → ((lN n).toUInt64 >>> ((4 : Int32).toInt64.toUInt64 &&& Int64.toUInt64 63)).toInt64 = lN (n / 2 ^ 4) := fun n hn => wb_shr (k := 4) hn (by decide)
  have h8 : ∀ n, n < 2 ^ 64 → ((lN n).toUInt64 >>> ((8 : Int32).toInt64.toUInt64 &&& Int64.toUInt64 63)).toInt64 = lN (n / 2 ^ 8) := fun n hn => wb_shr (k := 8) hn (by decide)
  have h16 : ∀ n, n < 2 ^ 64 → ((lN n).toUInt64 >>> ((16 : Int32).toInt64.toUInt64 &&& Int64.toUInt64 63)).toInt64 = lN (n / 2 ^ 16) := fun n hn => wb_shr (k := 16) hn (by decide)
  have h32 : ∀ n, n < 2 ^ 64 → ((lN n).toUInt64 >>> ((32 : Int32).toInt64.toUInt64 &&& Int64.toUInt64 63)).toInt64 = lN (n / 2 ^ 32) := fun n hn => wb_shr (k := 32) hn (by decide)
  have dv : ∀ n k, n < 2 ^ 64 → n / 2 ^ k < 2 ^ 64 := fun n k hn => Nat.lt_of_le_of_lt (Nat.div_le_self _ _) hn
  have x1 : lN (dg f 8) - (((lN (dg f 8)).toUInt64 >>> ((1 : Int32).toInt64.toUInt64 &&& Int64.toUInt64 63)).toInt64 &&& (6148914691236517205 : Int64)) = lN (dg (fun i => by1 (f i)) 8) := by
    rw [h1 _ l0, m85, wb_and (dv _ 1 l0) s85, dg_sh (s := 1) hf (by decide) (fun _ => by decide), lN_sub (dg_le (fun i => (b i).1) 8), dg_sub (fun i => (b i).1)]
    rfl
  rw [x1]
  have f1 : ∀ i, by1 (f i) < 256 := fun i => (b i).2.1
  have l1 : dg (fun i => by1 (f i)) 8 < 2 ^ 64 := dg_lt f1 8
  have x2 : (lN (dg (fun i => by1 (f i)) 8) &&& (3689348814741910323 : Int64)) + (((lN (dg (fun i => by1 (f i)) 8)).toUInt64 >>> ((2 : Int32).toInt64.toUInt64 &&& Int64.toUInt64 63)).toInt64 &&& (3689348814741910323 : Int64)) = lN (dg (fun i => by2 (f i)) 8) := by
    rw [h2 _ l1, m51, wb_and l1 s51, wb_and (dv _ 2 l1) s51, dg_sh (s := 2) f1 (by decide) (fun _ => by decide), dg_and f1 (fun _ => by decide), lN_add, dg_add]
    rfl
  rw [x2]
  have y2 : ∀ i, by2 (f i) ≤ 68 := fun i => (b i).2.2.2.1
  have l2 : dg (fun i => by2 (f i)) 8 < 2 ^ 64 := dg_lt (fun i => Nat.lt_of_le_of_lt (y2 i) (by decide)) 8
  have q2 : dg (fun i => by2 (f i)) 8 + dg (fun i => by2 (f i)) 8 / 16 < 2 ^ 64 := by
    rw [dg_8]
    have a0 := y2 0
    have a1 := y2 1
    have a2 := y2 2
    have a3 := y2 3
    have a4 := y2 4
    have a5 := y2 5
    have a6 := y2 6
    have a7 := y2 7
    omega
  have x3 : (lN (dg (fun i => by2 (f i)) 8) + ((lN (dg (fun i => by2 (f i)) 8)).toUInt64 >>> ((4 : Int32).toInt64.toUInt64 &&& Int64.toUInt64 63)).toInt64) &&& (1085102592571150095 : Int64) = lN (dg (fun i => by3 (f i)) 8) := by
    rw [h4 _ l2, lN_add, m15, wb_and q2 s15, swar3 y2 (fun i => (b i).2.2.1)]
    rfl
  rw [x3]
  have y3 : ∀ i, by3 (f i) ≤ 8 := fun i => (b i).2.2.2.2
  have l3 : dg (fun i => by3 (f i)) 8 < 2 ^ 60 := by
    rw [dg_8]
    have a0 := y3 0
    have a1 := y3 1
    have a2 := y3 2
    have a3 := y3 3
    have a4 := y3 4
    have a5 := y3 5
    have a6 := y3 6
    have a7 := y3 7
    omega
  have s6 := swar6 y3
  generalize dg (fun i => by3 (f i)) 8 = X at *
  rw [h8 X (by omega), lN_add, show (2 : Nat) ^ 8 = 256 from rfl, h16 (X + X / 256) (by omega), lN_add, show (2 : Nat) ^ 16 = 65536 from rfl, h32 (X + X / 256 + (X + X / 256) / 65536) (by omega), lN_add, show (2 : Nat) ^ 32 = 4294967296 from rfl, lN_i, show (127 : Int32) = nI 127 from rfl, nx_and, show (127 : Nat) = 2 ^ 7 - 1 from rfl, Nat.and_two_pow_sub_one_eq_mod, show (2 : Nat) ^ 7 = 128 from rfl, s6]
theorem fb_ct_none {P : Nat → Bool} {n : Nat} (h : ∀ k, k < n → P k = false) : fb_ct P n = 0 := fb_ct_zero.mpr h
theorem bit_count60 (P : Nat → Bool) : J13_bitCount_95d88 (lN (bN P 60)) = nI (fb_ct P 60) := by
  have e1 : bN P 60 = bN (fun k => decide (k < 60) && P k) 64 := by
    rw [show (64 : Nat) = 60 + 4 from rfl, bN_split _ 60 4, bN_none (n := 4) (fun k _ => by rw [decide_eq_false (by omega), Bool.false_and]), Nat.mul_zero, Nat.add_zero]
    exact bN_cong (fun k hk => by rw [decide_eq_true hk, Bool.true_and])
  have e2 : fb_ct P 60 = fb_ct (fun k => decide (k < 60) && P k) 64 := by
    rw [show (64 : Nat) = 60 + 4 from rfl, fb_ct_split _ 60 4, fb_ct_none (n := 4) (fun k _ => by rw [decide_eq_false (by omega), Bool.false_and]), Nat.add_zero]
    exact fb_ct_cong (fun k hk => by rw [decide_eq_true hk, Bool.true_and])
  rw [e1, e2]
  generalize (fun k => decide (k < 60) && P k) = Q
  rw [show (64 : Nat) = 8 * 8 from rfl, bN_dg, bit_count (fun i => bN_lt _ 8)]
  congr 1
  rw [by_fb, by_fb, by_fb, by_fb, by_fb, by_fb, by_fb, by_fb]
  have h := fun m => fb_ct_split Q (8 * m) 8
  have h0 := h 0
  have h1 := h 1
  have h2 := h 2
  have h3 := h 3
  have h4 := h 4
  have h5 := h 5
  have h6 := h 6
  have h7 := h 7
  rw [show 8 * 0 + 8 = 8 * 1 from rfl] at h0
  rw [show 8 * 1 + 8 = 8 * 2 from rfl] at h1
  rw [show 8 * 2 + 8 = 8 * 3 from rfl] at h2
  rw [show 8 * 3 + 8 = 8 * 4 from rfl] at h3
  rw [show 8 * 4 + 8 = 8 * 5 from rfl] at h4
  rw [show 8 * 5 + 8 = 8 * 6 from rfl] at h5
  rw [show 8 * 6 + 8 = 8 * 7 from rfl] at h6
  rw [show 8 * 7 + 8 = 8 * 8 from rfl] at h7
  have hz : fb_ct Q (8 * 0) = 0 := rfl
  omega
