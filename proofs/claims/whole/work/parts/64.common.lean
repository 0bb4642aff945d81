/-! The greatest number of words in common: both. -/
theorem spC3 (o : Nat) : o + 3 = o + spC 0 := rfl
section CM
variable {o NB NI : Nat} {A : AS}
theorem fl_lcs {b : Nat} (hw : ∀ k, k < a_mn A (b + 1) → wNum (a_sw A (b + 1) k)) {B : Nat} (h : a_mn A 0 ≤ B) : lrw (flW A) (a_sw A (b + 1)) B (a_mn A (b + 1)) = lcsA A b := by
  have h1 := lrw_pad (x := flW A) (y := a_sw A (b + 1)) (n := a_mn A 0) (m := a_mn A (b + 1)) (fun i hi k hk => by
    unfold flW
    rw [if_neg (by omega)]
    exact fun z => wNum_ne (hw k hk) z.symm) (B - a_mn A 0) (a_mn A (b + 1)) (Nat.le_refl _)
  rw [show a_mn A 0 + (B - a_mn A 0) = B by omega] at h1
  rw [h1]
  exact lrw_cong (n := a_mn A 0) (m := a_mn A (b + 1)) (fun i hi => if_pos hi) (fun k _ => rfl) _ _ (Nat.le_refl _) (Nat.le_refl _)
theorem common_L (ho : isO o) (hB : Bds NB NI A) (hw0 : ∀ k, k < a_mn A 0 → wNum (a_sw A 0 k)) {b : Nat} (hb : b < NB) (hw : ∀ k, k < a_mn A (b + 1) → wNum (a_sw A (b + 1) k)) : ∀ d B f μ, a_mn A 0 ≤ B + 60 * d → B ≤ 500 → d < f → CR o NB NI μ A → (∀ i, i < a_mn A (b + 1) → rL μ 3 i = b01 (lrH (flW A) (a_sw A (b + 1)) B i)) → ∃ μ', X1_mostInCommon_L27 1 (o + 3) (o + spC (b + 1)) f (nI (lrw (flW A) (a_sw A (b + 1)) B (a_mn A (b + 1)))) (nI B) μ = some (nI (lcsA A b), μ') ∧ μ'.1 = μ.1 := by
  have hm4 := hB.2.2.2.2.2 0 (by omega)
  have stop : ∀ B f μ, a_mn A 0 ≤ B → B ≤ 500 → CR o NB NI μ A → X1_mostInCommon_L27 1 (o + 3) (o + spC (b + 1)) (f + 1) (nI (lrw (flW A) (a_sw A (b + 1)) B (a_mn A (b + 1)))) (nI B) μ = some (nI (lcsA A b), μ) := by
    intro B f μ h h5 hc
    have r2 : rI μ (o + 3) 2 = nI (a_mn A 0) := rd23 (a := 0) hc hB (by omega)
    rw [X1_mostInCommon_L27_s, r2, if_pos (nI_le h (by omega)), fl_lcs hw h]
  intro d
  induction d with
  | zero =>
    intro B f μ hd h5 hf hc hq
    obtain ⟨g, rfl⟩ : ∃ g, f = g + 1 := ⟨f - 1, by omega⟩
    exact ⟨μ, stop B g μ (by omega) h5 hc, rfl⟩
  | succ d ih =>
    intro B f μ hd h5 hf hc hq
    obtain ⟨g, rfl⟩ : ∃ g, f = g + 1 := ⟨f - 1, by omega⟩
    by_cases e : a_mn A 0 ≤ B
    · exact ⟨μ, stop B g μ e h5 hc, rfl⟩
    · have r2 : rI μ (o + 3) 2 = nI (a_mn A 0) := rd23 (a := 0) hc hB (by omega)
      obtain ⟨μ1, x1, e1, y1, y2⟩ := mark_all ho hB hw0 (B := B) (by omega) hc
      rw [X1_mostInCommon_L27_s, r2, if_neg (nI_ge (by omega) (by omega)), x1]
      simp only [bO1_s]
      obtain ⟨μ2, x2, e2, z1, _⟩ := block ho hB hb hw (B := B) (a_mn A (b + 1)) 0 1000 μ1 (by omega) (by have := hB.2.2.2.2.2 (b + 1) (by omega); omega) (hc.l e1) y1 (fun i hi _ => by rw [y2 3 i (by decide)]; exact hq i hi)
      have hall : bN (fun k => !lrD (flW A) (a_sw A (b + 1)) (B + k) 0) 60 = 2 ^ 60 - 1 := by
        rw [← bN_all 60]
        exact bN_cong (fun k _ => by rw [lrD_0]; rfl)
      rw [hall] at x2
      unfold X1_closedInBlock
      simp only [bV_eq]
      rw [show X1_closedInBlock_L7 1 (o + spC (b + 1)) 1000 1152921504606846975 0 μ1 = _ from x2]
      simp only [bO2_s]
      rw [bit_count60]
      have hn := fb_ct_not (fun k => lrD (flW A) (a_sw A (b + 1)) (B + k) (a_mn A (b + 1))) 60
      have hs : (60 : Int32) - nI (fb_ct (fun k => !lrD (flW A) (a_sw A (b + 1)) (B + k) (a_mn A (b + 1))) 60) = nI (fb_ct (fun k => lrD (flW A) (a_sw A (b + 1)) (B + k) (a_mn A (b + 1))) 60) := by
        have h60 : (60 : Int32) = nI (fb_ct (fun k => !lrD (flW A) (a_sw A (b + 1)) (B + k) (a_mn A (b + 1))) 60 + fb_ct (fun k => lrD (flW A) (a_sw A (b + 1)) (B + k) (a_mn A (b + 1))) 60) := by
          rw [Nat.add_comm, hn]
          rfl
        rw [h60, nI_diff]
      rw [hs, nI_add', ← lr_rise, show nI B + 60 = nI (B + 60) from nI_add' B 60]
      obtain ⟨μ3, x3, e3⟩ := ih (B + 60) g μ2 (by omega) (by omega) (by omega) (hc.l (e2.trans e1)) (fun i hi => z1 i hi (Nat.zero_le _))
      exact ⟨μ3, x3, e3.trans (e2.trans e1)⟩
theorem c_came {μ : MM} (ho : isO o) (h : CR o NB NI μ A) (hB : Bds NB NI A) (hw0 : ∀ k, k < a_mn A 0 → wNum (a_sw A 0 k)) {b : Nat} (hb : b < NB) (hw : ∀ k, k < a_mn A (b + 1) → wNum (a_sw A (b + 1) k)) : ∃ μ', X5_cameThroughAt o (nI b) μ = some (nI (lcsA A b), μ') ∧ μ'.1 = μ.1 := by
  obtain ⟨μ1, x1, e1, z1, _⟩ := lzero (o + 3) (o + spC (b + 1)) 400 0 1000 μ (by omega) (by omega)
  have hm4 := hB.2.2.2.2.2 0 (by omega)
  have hm5 := hB.2.2.2.2.2 (b + 1) (by omega)
  obtain ⟨μ2, x2, e2⟩ := common_L ho hB hw0 hb hw 7 0 1000 μ1 (by omega) (by omega) (by omega) (h.l e1) (fun i hi => by rw [z1 i (by omega) (by omega), lrH_0]; rfl)
  refine ⟨μ2, ?_, e2.trans e1⟩
  unfold X5_cameThroughAt
  have hn6 := hB.1
  rw [if_pos (in_booths ho (by omega)), booth_at ho (by omega), oSp ho (by omega), oQ ho, oR2 ho]
  unfold X1_mostInCommon
  rw [show X1_mostInCommon_L2 1 (o + 3) (o + spC (b + 1)) 1000 0 μ = some μ1 from x1]
  simp only [bO1_s]
  rw [show X1_mostInCommon_L27 1 (o + 3) (o + spC (b + 1)) 1000 0 0 μ1 = _ from x2]
  rfl
theorem c_common {μ : MM} (ho : isO o) (h : CR o NB NI μ A) (hB : Bds NB NI A) (hw0 : ∀ k, k < a_mn A 0 → wNum (a_sw A 0 k)) {b : Nat} (hb : b < NB) (hw : ∀ k, k < a_mn A (b + 1) → wNum (a_sw A (b + 1) k)) : ∃ μ', X5_tellBooth o (nI b) 11 μ = some (nI (lcsA A b), μ') ∧ μ'.1 = μ.1 := by
  have hn6 := hB.1
  obtain ⟨μ', x, e⟩ := c_came ho h hB hw0 hb hw
  refine ⟨μ', ?_, e⟩
  unfold X5_tellBooth
  rw [if_pos (in_booths ho (by omega)), if_neg (show ¬ (11 : Int32) = 0 by decide), if_neg (show ¬ (11 : Int32) = 1 by decide), if_neg (show ¬ (11 : Int32) = 2 by decide), if_neg (show ¬ (11 : Int32) = 3 by decide), if_neg (show ¬ (11 : Int32) = 4 by decide), if_neg (show ¬ (11 : Int32) = 5 by decide), if_neg (show ¬ (11 : Int32) = 6 by decide), if_neg (show ¬ (11 : Int32) = 7 by decide), if_neg (show ¬ (11 : Int32) = 8 by decide), if_neg (show ¬ (11 : Int32) = 9 by decide), if_neg (show ¬ (11 : Int32) = 10 by decide)]
  rw [x]
  rfl
end CM
theorem mC_21 : ∀ f, f < 27 → (f = 20 ∨ f = 26) ∨ mC f ≠ 21 := by decide
section RT
variable {p : Nat} {ρ μ : MM} {A : AS}
theorem Ml.scr (h : Ml p ρ μ A) (k : Nat) (v : Int32) : Ml p ρ (wI μ (p + 21) k v) A := by
  refine ⟨fun f b k' z => ⟨z.1.1, ?_⟩, fun q s hz => ?_, h.2.2⟩
  · have hc := (mC_21 f (dom_lt f b k' z.1.1)).resolve_left (fun y => y.elim z.2.1.1 z.2.1.2)
    show rI (wI μ (p + 21) k v) (p + mC f) (mK f b k') = _
    rw [rI_o _ (by omega)]
    exact (h.1 f b k' z).2
  · rw [rI_o _ (by omega)]
    exact h.2.1 q s hz
theorem t_zero {m : Nat} (hp : isP p) (hm : m ≤ 400) (b1 : Int32) : ∀ d k f μ, k + d = m + 1 → d < f → Ml p ρ μ A → ∃ μ', X7_through_L11 p b1 (nI m) f (nI k) μ = some μ' ∧ Ml p ρ μ' A ∧ (∀ j, k ≤ j → j ≤ m → rI μ' (p + 21) j = 0) ∧ ∀ j, j < k → rI μ' (p + 21) j = rI μ (p + 21) j := by
  intro d
  induction d with
  | zero =>
    intro k f μ hk hf h
    obtain ⟨g, rfl⟩ : ∃ g, f = g + 1 := ⟨f - 1, by omega⟩
    rw [X7_through_L11_s, if_pos (nI_lt (by omega) (by omega))]
    exact ⟨μ, rfl, h, fun j h1 h2 => by omega, fun _ _ => rfl⟩
  | succ d ih =>
    intro k f μ hk hf h
    obtain ⟨g, rfl⟩ : ∃ g, f = g + 1 := ⟨f - 1, by omega⟩
    have ck : (nI k).toNatClampNeg = k := nI_clamp (by omega)
    have j4 : inb (nI k) 401 = True := inb_T (by omega) (by decide)
    rw [X7_through_L11_s, if_neg (nI_nlt (by omega) (by omega))]
    simp only [pR25 hp, pA25 hp, j4, ck, if_true, bV_eq, nI_1]
    obtain ⟨μ', x, c, z1, z2⟩ := ih (k + 1) g (wI μ (p + 21) k 0) (by omega) (by omega) (h.scr k 0)
    refine ⟨μ', x, c, fun j h1 h2 => ?_, fun j hj => ?_⟩
    · by_cases e : j = k
      · rw [z2 j (by omega), e, rI_at]
      · exact z1 j (by omega) h2
    · rw [z2 j (by omega), rI_ne _ (fun z => by have := z.2; omega)]
theorem t_row {b i : Nat} (hp : isP p) (hb : b < 6) (hi : i < a_mn A 0) (hm0 : a_mn A 0 ≤ 400) (hm : a_mn A (b + 1) ≤ 400) : ∀ d k f μ, k + d = a_mn A (b + 1) → d < f → Ml p ρ μ A → (∀ j, j ≤ k → rI μ (p + 21) j = nI (lrw (a_sw A 0) (a_sw A (b + 1)) (i + 1) j)) → (∀ j, k < j → j ≤ a_mn A (b + 1) → rI μ (p + 21) j = nI (lrw (a_sw A 0) (a_sw A (b + 1)) i j)) → ∃ μ', X7_through_L47 p (nI b) (nI (a_mn A (b + 1))) (nI i) f (nI (lrw (a_sw A 0) (a_sw A (b + 1)) i k)) (nI (k + 1)) μ = some μ' ∧ Ml p ρ μ' A ∧ ∀ j, j ≤ a_mn A (b + 1) → rI μ' (p + 21) j = nI (lrw (a_sw A 0) (a_sw A (b + 1)) (i + 1) j) := by
  have lb : ∀ i j, i ≤ 401 → lrw (a_sw A 0) (a_sw A (b + 1)) i j ≤ 401 := fun i j h => Nat.le_trans (lrw_le _ _ i j) h
  intro d
  induction d with
  | zero =>
    intro k f μ hk hf h h1 h2
    obtain ⟨g, rfl⟩ : ∃ g, f = g + 1 := ⟨f - 1, by omega⟩
    rw [X7_through_L47_s, if_pos (nI_lt (by omega) (by omega))]
    exact ⟨μ, rfl, h, fun j hj => h1 j (by omega)⟩
  | succ d ih =>
    intro k f μ hk hf h h1 h2
    obtain ⟨g, rfl⟩ : ∃ g, f = g + 1 := ⟨f - 1, by omega⟩
    have ck : (nI (k + 1)).toNatClampNeg = k + 1 := nI_clamp (by omega)
    have ck0 : (nI k).toNatClampNeg = k := nI_clamp (by omega)
    have ci : (nI i).toNatClampNeg = i := nI_clamp (by omega)
    have j4 : inb (nI (k + 1)) 401 = True := inb_T (by omega) (by decide)
    have j40 : inb (nI k) 401 = True := inb_T (by omega) (by decide)
    have ji : inb (nI i) 2800 = True := inb_T (by omega) (by decide)
    have cy : (nI (400 * (b + 1) + k)).toNatClampNeg = 400 * (b + 1) + k := nI_clamp (by omega)
    have jy : inb (nI (400 * (b + 1) + k)) 2800 = True := inb_T (by omega) (by decide)
    have epr : nI (400 * (b + 1) + (k + 1)) - 1 = nI (400 * (b + 1) + k) := nI_pred _
    have epk : nI (k + 1) - 1 = nI k := nI_pred _
    have rx : rI μ (p + 19) i = a_sw A 0 i := by
      have := rq24 h (a := 0) (by omega) hi hm0
      rwa [Nat.mul_zero, Nat.zero_add] at this
    have ry : rI μ (p + 19) (400 * (b + 1) + k) = a_sw A (b + 1) k := rq24 h (a := b + 1) (by omega) (by omega) hm
    have es := lrw_s (a_sw A 0) (a_sw A (b + 1)) i k
    rw [X7_through_L47_s, if_neg (nI_nlt (by omega) (by omega))]
    simp only [pR25 hp, pA25 hp, pR23 hp, pA23 hp, j4, j40, ji, jy, ck, ck0, ci, cy, if_true, bV_eq, nI_1, ix400, epr, epk, rx, ry, h1 k (Nat.le_refl _), h2 (k + 1) (by omega) (by omega)]
    have go : ∀ v, v = nI (lrw (a_sw A 0) (a_sw A (b + 1)) (i + 1) (k + 1)) → ∃ μ', X7_through_L47 p (nI b) (nI (a_mn A (b + 1))) (nI i) g (nI (lrw (a_sw A 0) (a_sw A (b + 1)) i (k + 1))) (nI (k + 1 + 1)) (wI μ (p + 21) (k + 1) v) = some μ' ∧ Ml p ρ μ' A ∧ ∀ j, j ≤ a_mn A (b + 1) → rI μ' (p + 21) j = nI (lrw (a_sw A 0) (a_sw A (b + 1)) (i + 1) j) := by
      intro v hv
      refine ih (k + 1) g _ (by omega) (by omega) (h.scr _ _) (fun j hj => ?_) (fun j hj hj2 => ?_)
      · by_cases e : j = k + 1
        · rw [e, rI_at, hv]
        · rw [rI_ne _ (fun z => e z.2)]
          exact h1 j (by omega)
      · rw [rI_ne _ (fun z => by have := z.2; omega)]
        exact h2 j (by omega) hj2
    by_cases e : a_sw A 0 i = a_sw A (b + 1) k
    · rw [if_pos e]
      rw [if_pos e] at es
      exact go _ (by rw [es])
    · rw [if_neg e]
      rw [if_neg e] at es
      refine go _ ?_
      have l1 := lb i (k + 1) (by omega)
      have l2 := lb (i + 1) k (by omega)
      rw [es]
      by_cases e2 : lrw (a_sw A 0) (a_sw A (b + 1)) i (k + 1) < lrw (a_sw A 0) (a_sw A (b + 1)) (i + 1) k
      · rw [if_pos (nI_lt e2 (by omega)), Nat.max_eq_right (by omega)]
      · rw [if_neg (nI_nlt (by omega) (by omega)), Nat.max_eq_left (by omega)]
theorem t_rows {b : Nat} (hp : isP p) (hb : b < 6) (hm0 : a_mn A 0 ≤ 400) (hm : a_mn A (b + 1) ≤ 400) : ∀ d i f μ, i + d = a_mn A 0 → d < f → Ml p ρ μ A → (∀ j, j ≤ a_mn A (b + 1) → rI μ (p + 21) j = nI (lrw (a_sw A 0) (a_sw A (b + 1)) i j)) → ∃ μ', X7_through_L31 p (nI b) (nI (a_mn A (b + 1))) f (nI i) μ = some μ' ∧ Ml p ρ μ' A ∧ ∀ j, j ≤ a_mn A (b + 1) → rI μ' (p + 21) j = nI (lrw (a_sw A 0) (a_sw A (b + 1)) (a_mn A 0) j) := by
  intro d
  induction d with
  | zero =>
    intro i f μ hi hf h h1
    obtain ⟨g, rfl⟩ : ∃ g, f = g + 1 := ⟨f - 1, by omega⟩
    have e : i = a_mn A 0 := by omega
    subst e
    have j7 : inb (0 : Int32) 7 = True := eq_true (inb_0 (by decide) (by decide))
    rw [X7_through_L31_s]
    simp only [pR22 hp, pA22 hp, j7, if_true, nI_tn0, rq23 h (show 0 < 7 by omega)]
    rw [if_pos (nI_le (Nat.le_refl _) (by omega))]
    exact ⟨μ, rfl, h, h1⟩
  | succ d ih =>
    intro i f μ hi hf h h1
    obtain ⟨g, rfl⟩ : ∃ g, f = g + 1 := ⟨f - 1, by omega⟩
    have j7 : inb (0 : Int32) 7 = True := eq_true (inb_0 (by decide) (by decide))
    rw [X7_through_L31_s]
    simp only [pR22 hp, pA22 hp, j7, if_true, nI_tn0, rq23 h (show 0 < 7 by omega)]
    rw [if_neg (nI_ge (by omega) (by omega))]
    obtain ⟨μ1, x1, c1, y1⟩ := t_row (b := b) (i := i) hp hb (by omega) hm0 hm (a_mn A (b + 1)) 0 1000 μ (by omega) (by omega) h (fun j hj => by
      have e : j = 0 := by omega
      rw [e, h1 0 (by omega), lrw_i0, lrw_i0]) (fun j _ hj => h1 j hj)
    rw [lrw_i0] at x1
    rw [show X7_through_L47 p (nI b) (nI (a_mn A (b + 1))) (nI i) 1000 0 1 μ = some μ1 from x1]
    simp only [bO1_s, bV_eq, nI_1]
    exact ih (i + 1) g μ1 (by omega) (by omega) c1 y1
theorem m_through {b : Nat} (hp : isP p) (h : Ml p ρ μ A) (hb : b < 6) (hm0 : a_mn A 0 ≤ 400) (hm : a_mn A (b + 1) ≤ 400) : ∃ μ', X7_through p (nI b) μ = some (nI (lcsA A b), μ') ∧ Ml p ρ μ' A := by
  have cb : (nI (b + 1)).toNatClampNeg = b + 1 := nI_clamp (by omega)
  have j7 : inb (nI (b + 1)) 7 = True := inb_T (by omega) (by decide)
  have cm : (nI (a_mn A (b + 1))).toNatClampNeg = a_mn A (b + 1) := nI_clamp (by omega)
  have jm : inb (nI (a_mn A (b + 1))) 401 = True := inb_T (by omega) (by decide)
  obtain ⟨μ1, x1, c1, z1, _⟩ := t_zero (m := a_mn A (b + 1)) hp hm (nI b) (a_mn A (b + 1) + 1) 0 1000 μ (by omega) (by omega) h
  obtain ⟨μ2, x2, c2, z2⟩ := t_rows (b := b) hp hb hm0 hm (a_mn A 0) 0 1000 μ1 (by omega) (by omega) c1 (fun j hj => by rw [z1 j (by omega) hj, lrw_0]; rfl)
  refine ⟨μ2, ?_, c2⟩
  unfold X7_through
  simp only [nI_1, pR22 hp, pA22 hp, pR25 hp, pA25 hp, j7, jm, cb, cm, if_true, bV_eq, rq23 h (show b + 1 < 7 by omega)]
  rw [show X7_through_L11 p (nI b) (nI (a_mn A (b + 1))) 1000 0 μ = some μ1 from x1]
  simp only [bO1_s]
  rw [show X7_through_L31 p (nI b) (nI (a_mn A (b + 1))) 1000 0 μ1 = some μ2 from x2]
  simp only [bO1_s]
  rw [z2 _ (Nat.le_refl _)]
  rfl
end RT
