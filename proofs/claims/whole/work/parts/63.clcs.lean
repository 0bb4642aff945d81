/-! The class: the greatest number of words in common, by bits. -/
theorem oQ {o : Nat} (h : isO o) : RF o 0 = 1 := by rcases h with rfl | rfl <;> decide +kernel
theorem q1 : RF 1 0 = 2 ∧ RF 1 1 = 3 ∧ al 2 = 100 ∧ al 3 = 400 := by decide +kernel
theorem CR.l {o NB NI : Nat} {μ μ' : MM} {A : AS} (h : CR o NB NI μ A) (e : μ'.1 = μ.1) : CR o NB NI μ' A := CR.eq h (fun q s _ _ => congrFun (congrFun e q) s)
theorem in100 {n : Nat} (h : n < 100) : inb (nI n) (al (RF 1 0)) := by rw [q1.1, q1.2.2.1]; exact inb_nI h (by decide)
theorem in400 {n : Nat} (h : n < 400) : inb (nI n) (al (RF 1 1)) := by rw [q1.2.1, q1.2.2.2]; exact inb_nI h (by decide)
theorem lzero (o1 o2 : Nat) : ∀ d k f μ, k + d = 400 → d < f → ∃ μ', X1_mostInCommon_L2 1 o1 o2 f (nI k) μ = some μ' ∧ μ'.1 = μ.1 ∧ (∀ j, j < 400 → k ≤ j → rL μ' 3 j = 0) ∧ ∀ j, j < k → rL μ' 3 j = rL μ 3 j := by
  intro d
  induction d with
  | zero =>
    intro k f μ hk hf
    obtain ⟨g, rfl⟩ : ∃ g, f = g + 1 := ⟨f - 1, by omega⟩
    rw [X1_mostInCommon_L2_s, if_pos (show (400 : Int32) ≤ nI k from nI_le (a := 400) (by omega) (by omega))]
    exact ⟨μ, rfl, rfl, fun j h1 h2 => by omega, fun j _ => rfl⟩
  | succ d ih =>
    intro k f μ hk hf
    obtain ⟨g, rfl⟩ : ∃ g, f = g + 1 := ⟨f - 1, by omega⟩
    have ck : (nI k).toNatClampNeg = k := nI_clamp (by omega)
    rw [X1_mostInCommon_L2_s, if_neg (show ¬ (400 : Int32) ≤ nI k from nI_ge (b := 400) (by omega) (by omega)), if_pos (in400 (by omega)), q1.2.1, ck]
    simp only [bV_eq]
    rw [nI_1]
    obtain ⟨μ', x, e, z1, z2⟩ := ih (k + 1) g (wL μ 3 k 0) (by omega) (by omega)
    refine ⟨μ', x, e, fun j h1 h2 => ?_, fun j hj => ?_⟩
    · by_cases ej : j = k
      · rw [z2 j (by omega), rL_wL, if_pos ⟨rfl, ej⟩]
      · exact z1 j h1 (by omega)
    · rw [z2 j (by omega), rL_wL, if_neg (fun z => by have := z.2; omega)]
theorem mzero (o1 : Nat) (b2 : Int32) : ∀ d k f μ, k + d = 100 → d < f → ∃ μ', X1_markPlaces_L2 1 o1 b2 f (nI k) μ = some μ' ∧ μ'.1 = μ.1 ∧ (∀ j, j < 100 → k ≤ j → rL μ' 2 j = 0) ∧ (∀ j, j < k → rL μ' 2 j = rL μ 2 j) ∧ ∀ q s, q ≠ 2 → rL μ' q s = rL μ q s := by
  intro d
  induction d with
  | zero =>
    intro k f μ hk hf
    obtain ⟨g, rfl⟩ : ∃ g, f = g + 1 := ⟨f - 1, by omega⟩
    rw [X1_markPlaces_L2_s, if_pos (show (100 : Int32) ≤ nI k from nI_le (a := 100) (by omega) (by omega))]
    exact ⟨μ, rfl, rfl, fun j h1 h2 => by omega, fun j _ => rfl, fun _ _ _ => rfl⟩
  | succ d ih =>
    intro k f μ hk hf
    obtain ⟨g, rfl⟩ : ∃ g, f = g + 1 := ⟨f - 1, by omega⟩
    have ck : (nI k).toNatClampNeg = k := nI_clamp (by omega)
    rw [X1_markPlaces_L2_s, if_neg (show ¬ (100 : Int32) ≤ nI k from nI_ge (b := 100) (by omega) (by omega)), if_pos (in100 (by omega)), q1.1, ck]
    simp only [bV_eq]
    rw [nI_1]
    obtain ⟨μ', x, e, z1, z2, z3⟩ := ih (k + 1) g (wL μ 2 k 0) (by omega) (by omega)
    refine ⟨μ', x, e, fun j h1 h2 => ?_, fun j hj => ?_, fun q s hq => ?_⟩
    · by_cases ej : j = k
      · rw [z2 j (by omega), rL_wL, if_pos ⟨rfl, ej⟩]
      · exact z1 j h1 (by omega)
    · rw [z2 j (by omega), rL_wL, if_neg (fun z => by have := z.2; omega)]
    · rw [z3 q s hq, rL_wL, if_neg (fun z => hq z.1)]
section LC
variable {o NB NI : Nat} {A : AS}
/-- the floor's words, and nothing behind them -/
def flW (A : AS) (i : Nat) : Int32 := if i < a_mn A 0 then a_sw A 0 i else -1
/-- where a word stands in the block from B -/
def mkP (A : AS) (B w k : Nat) : Bool := decide (B + k < a_mn A 0) && decide (a_sw A 0 (B + k) = nI w)
theorem marks (ho : isO o) (hB : Bds NB NI A) (hw : ∀ k, k < a_mn A 0 → wNum (a_sw A 0 k)) {B : Nat} (hB4 : B ≤ 400) : ∀ d k f μ, k + d = 60 → d < f → CR o NB NI μ A → (∀ w, w < 100 → rL μ 2 w = lN (bN (mkP A B w) k)) → ∃ μ', X1_markPlaces_L23 1 (o + 3) (nI B) f (nI k) μ = some μ' ∧ μ'.1 = μ.1 ∧ (∀ w, w < 100 → rL μ' 2 w = lN (bN (mkP A B w) 60)) ∧ ∀ q s, q ≠ 2 → rL μ' q s = rL μ q s := by
  intro d
  induction d with
  | zero =>
    intro k f μ hk hf hc hm
    obtain ⟨g, rfl⟩ : ∃ g, f = g + 1 := ⟨f - 1, by omega⟩
    have e : k = 60 := by omega
    subst e
    rw [X1_markPlaces_L23_s, if_pos (show (60 : Int32) ≤ nI 60 from by decide)]
    exact ⟨μ, rfl, rfl, hm, fun _ _ _ => rfl⟩
  | succ d ih =>
    intro k f μ hk hf hc hm
    obtain ⟨g, rfl⟩ : ∃ g, f = g + 1 := ⟨f - 1, by omega⟩
    have r2 : rI μ (o + 3) 2 = nI (a_mn A 0) := rd23 (a := 0) hc hB (by omega)
    have hm4 := hB.2.2.2.2.2 0 (by omega)
    rw [X1_markPlaces_L23_s, if_neg (show ¬ (60 : Int32) ≤ nI k from nI_ge (b := 60) (by omega) (by omega)), r2, nI_add']
    by_cases e : a_mn A 0 ≤ B + k
    · rw [if_pos (nI_le e (by omega))]
      refine ⟨μ, rfl, rfl, fun w hw2 => ?_, fun _ _ _ => rfl⟩
      rw [hm w hw2, show (60 : Nat) = k + (60 - k) by omega, bN_split _ k, bN_none (n := 60 - k) (fun j _ => by unfold mkP; rw [decide_eq_false (by omega), Bool.false_and]), Nat.mul_zero, Nat.add_zero]
    · have s0 := oS0 ho (a := 0) (by omega)
      have x := X4_word_ok (q := o + 3) (k := B + k) r2 (by omega) (by rw [show o + 3 = o + spC 0 from rfl, s0, oSa0 ho (by omega)]; exact hm4) (by rw [show o + 3 = o + spC 0 from rfl, s0, oSa0 ho (by omega)]; decide)
      rw [show o + 3 = o + spC 0 from rfl, s0, rd24 hc hB (by omega) (show B + k < a_mn A 0 by omega)] at x
      rw [if_neg (nI_ge (by omega) (by omega)), show o + 3 = o + spC 0 from rfl, x]
      simp only [bO1_s]
      obtain ⟨w0, hw0, ew⟩ := hw (B + k) (by omega)
      have cw : (nI w0).toNatClampNeg = w0 := nI_clamp (by omega)
      have hin : (0 : Int32) ≤ nI w0 ∧ nI w0 ≤ 99 := ⟨nI_le (a := 0) (Nat.zero_le _) (by omega), nI_le (b := 99) (by omega) (by omega)⟩
      rw [ew, X6_in hin.1 hin.2, if_neg one_ne, if_pos (in100 hw0), if_pos (in100 hw0), q1.1, cw]
      simp only [bV_eq]
      rw [nI_1, hm w0 hw0, show (1 : Int64) = lN 1 from rfl, wb_shl 1 (show k < 64 by omega), Nat.one_mul]
      have hbk : bN (mkP A B w0) k < 2 ^ k := bN_lt _ _
      have hk64 : 2 ^ k < 2 ^ 64 := Nat.pow_lt_pow_right (by decide) (by omega)
      have hor : bN (mkP A B w0) k ||| 2 ^ k = bN (mkP A B w0) k + 2 ^ k := by
        have := Nat.two_pow_add_eq_or_of_lt hbk 1
        rw [Nat.mul_one, Nat.or_comm] at this
        rw [← this]
        omega
      rw [wb_or (by omega) hk64, hor]
      have pt : mkP A B w0 k = true := by
        unfold mkP
        rw [decide_eq_true (show B + k < a_mn A 0 by omega), ew, decide_eq_true rfl]
        rfl
      obtain ⟨μ', x2, e2, z1, z2⟩ := ih (k + 1) g (wL μ 2 w0 (lN (bN (mkP A B w0) k + 2 ^ k))) (by omega) (by omega) (hc.l rfl) (fun w hw2 => by
        rw [rL_wL]
        show _ = lN (bN (mkP A B w) k + if mkP A B w k = true then 2 ^ k else 0)
        by_cases ew2 : w = w0
        · rw [if_pos ⟨rfl, ew2⟩, ew2, if_pos pt]
        · have pf : mkP A B w k = false := by
            unfold mkP
            rw [ew, show decide (nI w0 = nI w) = false from decide_eq_false (fun z => ew2 (nI_inj' (by omega) (by omega) z.symm)), Bool.and_false]
          rw [if_neg (fun z => ew2 z.2), pf, if_neg (by decide), Nat.add_zero, hm w hw2])
      refine ⟨μ', x2, e2, z1, fun q s hq => ?_⟩
      rw [z2 q s hq, rL_wL, if_neg (fun z => hq z.1)]
theorem mark_all (ho : isO o) (hB : Bds NB NI A) (hw : ∀ k, k < a_mn A 0 → wNum (a_sw A 0 k)) {B : Nat} (hB4 : B ≤ 400) {μ : MM} (hc : CR o NB NI μ A) : ∃ μ', X1_markPlaces 1 (o + 3) (nI B) μ = some μ' ∧ μ'.1 = μ.1 ∧ (∀ w, w < 100 → rL μ' 2 w = lN (bN (mkP A B w) 60)) ∧ ∀ q s, q ≠ 2 → rL μ' q s = rL μ q s := by
  obtain ⟨μ1, x1, e1, z1, _, z3⟩ := mzero (o + 3) (nI B) 100 0 1000 μ (by omega) (by omega)
  obtain ⟨μ2, x2, e2, y1, y2⟩ := marks ho hB hw hB4 60 0 1000 μ1 (by omega) (by omega) (hc.l e1) (fun w hw2 => by rw [z1 w hw2 (by omega)]; rfl)
  unfold X1_markPlaces
  rw [show X1_markPlaces_L2 1 (o + 3) (nI B) 1000 0 μ = some μ1 from x1]
  simp only [bO1_s]
  rw [show X1_markPlaces_L23 1 (o + 3) (nI B) 1000 0 μ1 = some μ2 from x2]
  exact ⟨μ2, rfl, e2.trans e1, y1, fun q s hq => by rw [y2 q s hq, z3 q s hq]⟩
def b01 (b : Bool) : Int64 := lN (if b = true then 1 else 0)
theorem block (ho : isO o) (hB : Bds NB NI A) {b : Nat} (hb : b < NB) (hw : ∀ k, k < a_mn A (b + 1) → wNum (a_sw A (b + 1) k)) {B : Nat} : ∀ d j f μ, j + d = a_mn A (b + 1) → d < f → CR o NB NI μ A → (∀ w, w < 100 → rL μ 2 w = lN (bN (mkP A B w) 60)) → (∀ i, i < a_mn A (b + 1) → j ≤ i → rL μ 3 i = b01 (lrH (flW A) (a_sw A (b + 1)) B i)) → ∃ μ', X1_closedInBlock_L7 1 (o + spC (b + 1)) f (lN (bN (fun k => !lrD (flW A) (a_sw A (b + 1)) (B + k) j) 60)) (nI j) μ = some (lN (bN (fun k => !lrD (flW A) (a_sw A (b + 1)) (B + k) (a_mn A (b + 1))) 60), μ') ∧ μ'.1 = μ.1 ∧ (∀ i, i < a_mn A (b + 1) → j ≤ i → rL μ' 3 i = b01 (lrH (flW A) (a_sw A (b + 1)) (B + 60) i)) ∧ ∀ i, i < j → rL μ' 3 i = rL μ 3 i := by
  intro d
  have hm4 := hB.2.2.2.2.2 (b + 1) (by omega)
  have hn6 := hB.1
  induction d with
  | zero =>
    intro j f μ hj hf hc hp hq
    obtain ⟨g, rfl⟩ : ∃ g, f = g + 1 := ⟨f - 1, by omega⟩
    have e : j = a_mn A (b + 1) := by omega
    subst e
    have r2 : rI μ (o + spC (b + 1)) 2 = nI (a_mn A (b + 1)) := rd23 hc hB (by omega)
    rw [X1_closedInBlock_L7_s, r2, if_pos (nI_le (Nat.le_refl _) (by omega))]
    exact ⟨μ, rfl, rfl, fun i h1 h2 => by omega, fun _ _ => rfl⟩
  | succ d ih =>
    intro j f μ hj hf hc hp hq
    obtain ⟨g, rfl⟩ : ∃ g, f = g + 1 := ⟨f - 1, by omega⟩
    have r2 : rI μ (o + spC (b + 1)) 2 = nI (a_mn A (b + 1)) := rd23 hc hB (by omega)
    have s0 := oS0 ho (a := b + 1) (by omega)
    have x := X4_word_ok (q := o + spC (b + 1)) (k := j) r2 (by omega) (by rw [s0, oSa0 ho (by omega)]; exact hm4) (by rw [s0, oSa0 ho (by omega)]; decide)
    rw [s0, rd24 hc hB (show b + 1 < NB + 1 by omega) (show j < a_mn A (b + 1) by omega)] at x
    obtain ⟨w0, hw0, ew⟩ := hw j (by omega)
    have cw : (nI w0).toNatClampNeg = w0 := nI_clamp (by omega)
    have cj : (nI j).toNatClampNeg = j := nI_clamp (by omega)
    have hin : (0 : Int32) ≤ nI w0 ∧ nI w0 ≤ 99 := ⟨nI_le (a := 0) (Nat.zero_le _) (by omega), nI_le (b := 99) (by omega) (by omega)⟩
    rw [X1_closedInBlock_L7_s, r2, if_neg (nI_ge (by omega) (by omega)), if_neg (show ¬ (400 : Int32) ≤ nI j from nI_ge (b := 400) (by omega) (by omega)), x]
    simp only [bO1_s]
    rw [ew, X6_in hin.1 hin.2, if_neg one_ne, if_pos (in100 hw0)]
    simp only [bV_eq]
    rw [if_pos (in400 (by omega)), if_pos (in400 (by omega)), q1.1, q1.2.1, cw, cj, nI_1, hp w0 hw0, hq j (by omega) (Nat.le_refl _)]
    have hE : ∀ k, mkP A B w0 k = decide (flW A (B + k) = a_sw A (b + 1) j) := by
      intro k
      unfold mkP flW
      rw [ew]
      by_cases e : B + k < a_mn A 0
      · rw [decide_eq_true e, if_pos e, Bool.true_and]
      · rw [decide_eq_false e, if_neg e, Bool.false_and]
        exact (decide_eq_false (fun z => wNum_ne ⟨w0, hw0, rfl⟩ z.symm)).symm
    have hl := fun k => lr_full (flW A) (a_sw A (b + 1)) (B + k) j
    generalize hV : (fun k => !lrD (flW A) (a_sw A (b + 1)) (B + k) j) = V
    generalize hM : mkP A B w0 = M at hE
    have eV : ∀ k, V k = !lrD (flW A) (a_sw A (b + 1)) (B + k) j := fun k => by rw [← hV]
    have v60 : ∀ P : Nat → Bool, bN P 60 < 2 ^ 60 := fun P => bN_lt P 60
    have w60 := v60 V
    have u60 := v60 M
    rw [wb_and (by omega) (by omega), bN_and]
    have hadd := bN_add (V := V) (E := fun k => V k && M k) (H := fun k => lrH (flW A) (a_sw A (b + 1)) (B + k) j) (S := fun k => (V k ^^ ((V k && M k) ^^ lrH (flW A) (a_sw A (b + 1)) (B + k) j))) (fun k => by
      show lrH (flW A) (a_sw A (b + 1)) (B + k + 1) j = _
      rw [(hl k).1, eV k, hE k]) (fun k => rfl) 60
    have t60 := v60 (fun k => (V k ^^ ((V k && M k) ^^ lrH (flW A) (a_sw A (b + 1)) (B + k) j)))
    unfold b01
    rw [lN_add, lN_add, show B = B + 0 from rfl, hadd]
    have hsum : bN (fun k => (V k ^^ ((V k && M k) ^^ lrH (flW A) (a_sw A (b + 1)) (B + 0 + k) j))) 60 = bN (fun k => (V k ^^ ((V k && M k) ^^ lrH (flW A) (a_sw A (b + 1)) (B + k) j))) 60 := rfl
    have hsh : ∀ N, N < 2 ^ 64 → ((lN N).toUInt64 >>> ((60 : Int32).toInt64.toUInt64 &&& Int64.toUInt64 63)).toInt64 = lN (N / 2 ^ 60) := fun N hN => wb_shr (k := 60) hN (by decide)
    have hN : bN (fun k => (V k ^^ ((V k && M k) ^^ lrH (flW A) (a_sw A (b + 1)) (B + k) j))) 60 + (if lrH (flW A) (a_sw A (b + 1)) (B + 60) j = true then 2 ^ 60 else 0) < 2 ^ 64 := by
      split <;> omega
    have hdv : (bN (fun k => (V k ^^ ((V k && M k) ^^ lrH (flW A) (a_sw A (b + 1)) (B + k) j))) 60 + (if lrH (flW A) (a_sw A (b + 1)) (B + 60) j = true then 2 ^ 60 else 0)) / 2 ^ 60 = if lrH (flW A) (a_sw A (b + 1)) (B + 60) j = true then 1 else 0 := by
      split <;> omega
    rw [hsh _ hN, hdv, bN_out V (fun k => V k && M k) (fun k hk => by rw [Bool.and_eq_true] at hk; exact hk.1) 60, show (1152921504606846975 : Int64) = lN (2 ^ 60 - 1) from rfl]
    have hQ := v60 (fun k => V k && !(V k && M k))
    rw [wb_or hN (by omega)]
    have h61 : bN (fun k => (V k ^^ ((V k && M k) ^^ lrH (flW A) (a_sw A (b + 1)) (B + k) j))) 60 + (if lrH (flW A) (a_sw A (b + 1)) (B + 60) j = true then 2 ^ 60 else 0) = bN (fun k => if k = 60 then lrH (flW A) (a_sw A (b + 1)) (B + 60) j else (V k ^^ ((V k && M k) ^^ lrH (flW A) (a_sw A (b + 1)) (B + k) j))) 61 := by
      show _ = bN _ 60 + (if (if 60 = 60 then lrH (flW A) (a_sw A (b + 1)) (B + 60) j else _) = true then 2 ^ 60 else 0)
      rw [if_pos (rfl : (60 : Nat) = 60)]
      refine congrArg (fun t => t + if lrH (flW A) (a_sw A (b + 1)) (B + 60) j = true then 2 ^ 60 else 0) ?_
      exact bN_cong (fun k hk => (if_neg (by omega)).symm)
    have q61 : bN (fun k => V k && !(V k && M k)) 60 = bN (fun k => if k = 60 then false else (V k && !(V k && M k))) 61 := by
      show _ = bN _ 60 + (if (if 60 = 60 then false else _) = true then 2 ^ 60 else 0)
      rw [if_pos (rfl : (60 : Nat) = 60), if_neg (by decide), Nat.add_zero]
      exact bN_cong (fun k hk => (if_neg (by omega)).symm)
    rw [h61, q61, bN_or]
    have o61 := bN_lt (fun k => (if k = 60 then lrH (flW A) (a_sw A (b + 1)) (B + 60) j else (V k ^^ ((V k && M k) ^^ lrH (flW A) (a_sw A (b + 1)) (B + k) j))) || (if k = 60 then false else (V k && !(V k && M k)))) 61
    rw [wb_mask (k := 60) (Nat.lt_trans o61 (by decide)) (by decide)]
    have m61 : bN (fun k => (if k = 60 then lrH (flW A) (a_sw A (b + 1)) (B + 60) j else (V k ^^ ((V k && M k) ^^ lrH (flW A) (a_sw A (b + 1)) (B + k) j))) || (if k = 60 then false else (V k && !(V k && M k)))) 61 % 2 ^ 60 = bN (fun k => !lrD (flW A) (a_sw A (b + 1)) (B + k) (j + 1)) 60 := by
      have e2 : bN (fun k => (if k = 60 then lrH (flW A) (a_sw A (b + 1)) (B + 60) j else (V k ^^ ((V k && M k) ^^ lrH (flW A) (a_sw A (b + 1)) (B + k) j))) || (if k = 60 then false else (V k && !(V k && M k)))) 60 = bN (fun k => !lrD (flW A) (a_sw A (b + 1)) (B + k) (j + 1)) 60 := by
        refine bN_cong (fun k hk => ?_)
        rw [if_neg (by omega), if_neg (by omega), (hl k).2, ← hE k, ← eV k]
        cases V k <;> cases M k <;> rfl
      rw [← e2]
      have := v60 (fun k => (if k = 60 then lrH (flW A) (a_sw A (b + 1)) (B + 60) j else (V k ^^ ((V k && M k) ^^ lrH (flW A) (a_sw A (b + 1)) (B + k) j))) || (if k = 60 then false else (V k && !(V k && M k))))
      show (bN _ 60 + (if _ then 2 ^ 60 else 0)) % 2 ^ 60 = _
      split
      · rw [Nat.add_mod_right]
        exact Nat.mod_eq_of_lt this
      · exact Nat.mod_eq_of_lt this
    rw [m61]
    obtain ⟨μ', x2, e2, z1, z2⟩ := ih (j + 1) g (wL μ 3 j (lN (if lrH (flW A) (a_sw A (b + 1)) (B + 60) j = true then 1 else 0))) (by omega) (by omega) (hc.l rfl) (fun w hw2 => by rw [rL_wL, if_neg (fun z => by have := z.1; omega)]; exact hp w hw2) (fun i h1 h2 => by rw [rL_wL, if_neg (fun z => by have := z.2; omega)]; exact hq i h1 (by omega))
    refine ⟨μ', x2, e2, fun i h1 h2 => ?_, fun i hi => ?_⟩
    · by_cases ei : i = j
      · rw [z2 i (by omega), rL_wL, if_pos ⟨rfl, ei⟩, ei]
      · exact z1 i h1 (by omega)
    · rw [z2 i (by omega), rL_wL, if_neg (fun z => by have := z.2; omega)]
end LC
