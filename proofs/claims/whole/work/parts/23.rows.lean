/-! Rows and speeches: what the class's small methods do to the cells. -/
theorem nI0 : (0 : Int32) = nI 0 := rfl
theorem nI1 : (1 : Int32) = nI 1 := rfl
theorem ofN (n : Nat) : Int32.ofNat n = nI n := rfl
theorem nI400 : (400 : Int32) = nI 400 := rfl
theorem rI_ne {μ : MM} {q k q' k' : Nat} (v : Int32) (h : ¬ (q = q' ∧ k = k')) : rI (wI μ q' k' v) q k = rI μ q k := by rw [rI_wI, if_neg h]
theorem rI_at (μ : MM) (q k : Nat) (v : Int32) : rI (wI μ q k v) q k = v := by rw [rI_wI, if_pos ⟨rfl, rfl⟩]
theorem nI_tn0 : (0 : Int32).toNatClampNeg = 0 := rfl
theorem nI_tn1 : (1 : Int32).toNatClampNeg = 1 := rfl
theorem inb_nI {n N : Nat} (h : n < N) (hN : N < 2 ^ 31) : inb (nI n) N := vp_in_nI h hN
theorem inb_0 {N : Nat} (h : 0 < N) (hN : N < 2 ^ 31) : inb (0 : Int32) N := inb_nI h hN
theorem RF_ne {q k c c' : Nat} (h : kc q = c) (h' : kc (RF q k) = c') (hn : c ≠ c') : RF q k ≠ q := by
  intro e
  rw [e, h] at h'
  exact hn h'
theorem X3_first_ok {q n : Nat} {μ : MM} (h : rI μ q 1 = nI (n + 1)) (hn : n + 1 ≤ al (RF q 0)) (hl : al (RF q 0) < 2 ^ 31) : X3_first q μ = some (rI μ (RF q 0) 0) := by
  unfold X3_first
  rw [ofN, h, if_neg (nI_nle (by omega) (by omega)), if_neg (nI_nlt (by omega) (by omega)), if_pos (inb_0 (by omega) hl)]
  rfl
theorem X3_take_ok {q n : Nat} {μ : MM} (h : rI μ q 1 = nI (n + 1)) (hn : n + 1 ≤ al (RF q 0)) (hl : al (RF q 0) < 2 ^ 31) : X3_takeFirst q μ = some (rI μ (RF q 0) 0, wC (wI μ q 1 (nI n)) (RF q 0) 1 (RF q 0) 0 n) := by
  unfold X3_takeFirst
  rw [ofN, h, if_neg (nI_nle (by omega) (by omega)), if_pos (nI_le (by omega) (by omega)), if_pos (inb_0 (by omega) hl)]
  simp only [bV_eq]
  have e : nI (n + 1) - 1 = nI n := nI_pred n
  rw [e]
  have e2 : rI (wI μ q 1 (nI n)) q 1 = nI n := by rw [rI_wI, if_pos ⟨rfl, rfl⟩]
  rw [e2]
  have hc : (nI n).toNatClampNeg = n := nI_clamp (by omega)
  rw [if_pos, hc]
  · rfl
  · refine ⟨⟨by decide, by decide, nI_pos (by omega)⟩, ?_, ?_⟩
    · rw [hc, nI_tn1]; omega
    · rw [hc, nI_tn0]; omega
theorem X3_take_0 {q : Nat} {μ : MM} (h : rI μ q 1 = nI 0) : X3_takeFirst q μ = some (-1, μ) := by
  unfold X3_takeFirst
  rw [h, if_pos (by decide)]
theorem X3_add_ok {q n : Nat} {v : Int32} {μ : MM} (hq : kc q = 3) (h : rI μ q 1 = nI n) (hn : n < al (RF q 0)) (hl : al (RF q 0) < 2 ^ 31) : X3_add q v μ = some (wI (wI μ (RF q 0) n v) q 1 (nI (n + 1))) := by
  unfold X3_add
  have hne : RF q 0 ≠ q := RF_ne hq (kr3_0 hq) (by decide)
  rw [ofN, h, if_neg (nI_ge hn hl), if_pos (inb_nI hn hl), nI_clamp (by omega)]
  simp only [bV_eq]
  rw [rI_wI, if_neg (fun z => hne z.1.symm), h, nI_1]
theorem X3_copy_ok {q q2 n : Nat} {μ : MM} (hq : kc q = 3) (hq2 : kc q2 = 3) (hne : q ≠ q2) (hne2 : RF q 0 ≠ RF q2 0) (h : rI μ q2 1 = nI n) (hn : n ≤ al (RF q2 0)) (hal : al (RF q2 0) = al (RF q 0)) (hl : al (RF q 0) < 2 ^ 31) : X3_copyFrom q q2 μ = some (wC (wI μ q 1 (nI n)) (RF q2 0) 0 (RF q 0) 0 n) := by
  unfold X3_copyFrom
  have e1 : (if Int32.ofNat (al (RF q 0)) < rI μ q2 1 then Int32.ofNat (al (RF q 0)) else rI μ q2 1) = nI n := by
    rw [ofN, h, if_neg (nI_nlt (by omega) (by omega))]
  rw [e1]
  simp only [bV_eq]
  have e2 : rI (wI μ q 1 (nI n)) q 1 = nI n := by rw [rI_wI, if_pos ⟨rfl, rfl⟩]
  rw [e2]
  have hc : (nI n).toNatClampNeg = n := nI_clamp (by omega)
  rw [if_pos, hc]
  · rfl
  · refine ⟨⟨by decide, by decide, nI_pos (by omega)⟩, ?_, ?_⟩
    · rw [hc, nI_tn0]; omega
    · rw [hc, nI_tn0]; omega
theorem X6_in {x lo hi : Int32} (h1 : lo ≤ x) (h2 : x ≤ hi) : X6_isWithin x lo hi = 1 := by
  unfold X6_isWithin
  rw [if_neg (by intro h; exact absurd (Int32.lt_iff_toInt_lt.mp h) (by have := Int32.le_iff_toInt_le.mp h1; omega)), if_neg (by intro h; exact absurd (Int32.lt_iff_toInt_lt.mp h) (by have := Int32.le_iff_toInt_le.mp h2; omega))]
theorem X6_out {x lo hi : Int32} (h : ¬ (lo ≤ x ∧ x ≤ hi)) : X6_isWithin x lo hi = 0 := by
  unfold X6_isWithin
  by_cases h1 : x < lo
  · rw [if_pos h1]
  · rw [if_neg h1]
    by_cases h2 : hi < x
    · rw [if_pos h2]
    · exact absurd ⟨by rw [Int32.le_iff_toInt_le]; rw [Int32.lt_iff_toInt_lt] at h1; omega, by rw [Int32.le_iff_toInt_le]; rw [Int32.lt_iff_toInt_lt] at h2; omega⟩ h
theorem nI_pred' {n : Nat} (h : 0 < n) : nI n - 1 = nI (n - 1) := by
  obtain ⟨m, rfl⟩ : ∃ m, n = m + 1 := ⟨n - 1, by omega⟩
  exact nI_pred m
theorem X4_word_ok {q n k : Nat} {μ : MM} (h : rI μ q 2 = nI n) (hk : k < n) (hn : n ≤ al (RF q 0)) (hl : al (RF q 0) < 2 ^ 31) : X4_wordAt q (nI k) μ = some (rI μ (RF q 0) k) := by
  unfold X4_wordAt
  rw [h, nI_pred' (by omega), X6_in (nI_pos' (by omega)) (nI_le (by omega) (by omega)), if_neg (by decide), if_pos (inb_nI (by omega) hl), nI_clamp (by omega)]
theorem X4_tick_ok {q n k : Nat} {μ : MM} (h : rI μ q 2 = nI n) (hk : k < n) (hn : n ≤ al (RF q 1)) (hl : al (RF q 1) < 2 ^ 31) : X4_tickAt q (nI k) μ = some (rI μ (RF q 1) k) := by
  unfold X4_tickAt
  rw [h, nI_pred' (by omega), X6_in (nI_pos' (by omega)) (nI_le (by omega) (by omega)), if_neg (by decide), if_pos (inb_nI (by omega) hl), nI_clamp (by omega)]
theorem X4_now_ok {q n : Nat} {t : Int32} {μ : MM} (h : rI μ q 2 = nI n) (hn : n ≤ al (RF q 0)) (hn1 : n ≤ al (RF q 1)) (hl : al (RF q 0) < 2 ^ 31) (hl1 : al (RF q 1) < 2 ^ 31) : X4_wordOfTick q t μ = some (if n ≠ 0 ∧ rI μ (RF q 1) (n - 1) = t then rI μ (RF q 0) (n - 1) else -1) := by
  unfold X4_wordOfTick
  rw [h]
  rcases Nat.eq_zero_or_pos n with rfl | hp
  · rw [if_pos (by decide), if_neg (fun z => z.1 rfl)]
  · rw [if_neg (nI_nle hp (by omega)), nI_pred' hp, X4_tick_ok h (by omega) hn1 hl1]
    simp only [bO1_s]
    by_cases e : rI μ (RF q 1) (n - 1) = t
    · rw [if_pos e, X4_word_ok h (by omega) hn hl, if_pos ⟨by omega, e⟩]
      rfl
    · rw [if_neg e, if_neg (fun z => e z.2)]
theorem X4_add_ok {q n : Nat} {w t : Int32} {μ : MM} (hq : kc q = 4) (h : rI μ q 2 = nI n) (hn : n < 400) (h0 : al (RF q 0) = 400) (h1 : al (RF q 1) = 400) : X4_add q w t μ = some (wI (wI (wI μ (RF q 0) n w) (RF q 1) n t) q 2 (nI (n + 1))) := by
  unfold X4_add
  have n0 : RF q 0 ≠ q := RF_ne hq (kr4_0 hq) (by decide)
  have n1 : RF q 1 ≠ q := RF_ne hq (kr4_1 hq) (by decide)
  rw [nI400, h, if_neg (nI_ge (a := n) (b := 400) hn (by decide)), if_pos (inb_nI (by omega) (by omega)), nI_clamp (by omega)]
  simp only [bV_eq]
  rw [rI_ne w (fun z => n0 z.1.symm), h, if_pos (inb_nI (by omega) (by omega)), nI_clamp (by omega)]
  rw [rI_ne t (fun z => n1 z.1.symm), rI_ne w (fun z => n0 z.1.symm), h, nI_1]
