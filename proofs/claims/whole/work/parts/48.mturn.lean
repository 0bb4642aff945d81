/-! The reference: a booth's turn is the same as the class's. -/
theorem now_keep (K : AS) (a : Nat) (w : Int32) : nowA (keepA K a w) a = true := by
  unfold nowA
  have e1 : a_mn (keepA K a w) a = a_mn K a + 1 := up1_s _ _ _
  have e2 : a_st (keepA K a w) a (a_mn K a) = nI (a_t K) := up2_s _ _ _ _
  rw [e1, show a_mn K a + 1 - 1 = a_mn K a by omega, e2, show decide (a_mn K a + 1 ≠ 0) = true from decide_eq_true (by omega), Bool.true_and]
  exact decide_eq_true rfl
theorem now_say (A : AS) (b i : Nat) (w : Int32) : nowA (sayA A b i w) (b + 1) = true := by
  rw [sayA_eq]
  exact now_keep _ _ _
theorem now_false {A : AS} {a : Nat} (h : ∀ k, k < a_mn A a → ∃ n, a_st A a k = nI n ∧ n < a_t A) (ht : a_t A < 2 ^ 31) : nowA A a = false := by
  unfold nowA
  by_cases e : a_mn A a = 0
  · rw [e]; rfl
  · obtain ⟨n, h1, h2⟩ := h (a_mn A a - 1) (by omega)
    rw [h1, show decide (nI n = nI (a_t A)) = false from decide_eq_false (fun z => by have := nI_inj' (by omega) ht z; omega), Bool.and_false]
theorem bool_f {b : Bool} (h : ¬ b = true) : b = false := by
  cases b with
  | true => exact absurd rfl h
  | false => rfl
theorem restB_fix (A : AS) (b : Nat) : a_nb (restB A b) = a_nb A ∧ a_ni (restB A b) = a_ni A ∧ a_mn (restB A b) = a_mn A ∧ a_sit (restB A b) = a_sit A ∧ a_t (restB A b) = a_t A := by
  unfold restB
  split <;> exact ⟨rfl, rfl, rfl, rfl, rfl⟩
theorem act_cases {A : AS} {b : Nat} (hnf : nowA A (b + 1) = false) : (nowA (actA A b) (b + 1) = true ∧ boothA A b = actA A b) ∨ (nowA (actA A b) (b + 1) = false ∧ boothA A b = restB (actA A b) b) := by
  by_cases ea : ableA A b = true
  · obtain ⟨i, hx⟩ := able_y ea
    by_cases e4 : a_bv A b 4 = -1
    · by_cases ed : dueA A b = true
      · left
        have h1 : actA A b = wordA A b i := by
          unfold actA
          rw [if_pos e4, if_pos ed, if_pos ea, hx]
        have h2 : boothA A b = wordA A b i := by
          unfold boothA
          rw [hx]
          simp only []
          rw [if_pos ea, if_pos e4, if_pos ed]
        rw [h1, h2]
        refine ⟨?_, rfl⟩
        unfold wordA
        split <;> exact now_say _ _ _ _
      · right
        have h1 : actA A b = A := by
          unfold actA
          rw [if_pos e4, if_neg ed]
        have h2 : boothA A b = restB A b := by
          unfold boothA restB
          rw [hx]
          simp only []
          rw [if_pos ea, if_pos e4, if_neg ed]
        rw [h1, h2]
        exact ⟨hnf, rfl⟩
    · left
      have h1 : actA A b = sayA (s_bv A (up2 (a_bv A) b 4 (-1))) b i (a_bv A b 4) := by
        unfold actA
        rw [if_neg e4]
        refine out_y ?_ hx
        exact Eq.trans (able_same (A := A) rfl rfl rfl (fun j => rfl) (fun c => up2_n _ _ (fun z => absurd z.2 (by decide)))) ea
      have h2 : boothA A b = sayA (s_bv A (up2 (a_bv A) b 4 (-1))) b i (a_bv A b 4) := by
        unfold boothA
        rw [hx]
        simp only []
        rw [if_pos ea, if_neg e4]
      rw [h1, h2]
      exact ⟨now_say _ _ _ _, rfl⟩
  · have eaf := bool_f ea
    have h1 : actA A b = dumbA A b := by
      unfold actA dumbA
      by_cases e4 : a_bv A b 4 = -1
      · rw [if_pos e4, if_pos e4, if_neg ea]
      · rw [if_neg e4, if_neg e4]
        refine out_n ?_
        exact Eq.trans (able_same (A := A) rfl rfl rfl (fun j => rfl) (fun c => up2_n _ _ (fun z => absurd z.2 (by decide)))) eaf
    right
    have hd : nowA (dumbA A b) (b + 1) = nowA A (b + 1) := by
      unfold dumbA
      split
      · split <;> rfl
      · rfl
    rw [h1, hd]
    refine ⟨hnf, ?_⟩
    unfold boothA restB
    rw [dumb_sit]
    cases hx : a_sit A b with
    | none => rfl
    | some i =>
      simp only []
      rw [if_neg ea]
/-! The reference's loops of a pass. -/
section MT
variable {p : Nat} {ρ μ : MM} {A : AS}
theorem m_tire {i : Nat} (v : Int32) (hi : i < 8) (h : Ml p ρ μ A) : Ml p ρ (wI μ (p + 4) i (if (0 : Int32) < (rI μ (p + 4) i - v) then (rI μ (p + 4) i - v) else (0 : Int32))) (tireA A i v) := by
  rw [rq8 h hi]
  exact m_iv2 _ hi h
theorem m_booths (hp : isP p) (hI : Inv 1 A) (ht : a_t A < 400) (b1 : Int32) : ∀ k i f μ, i + k = a_nb A → k < f → Ml p ρ μ (itA boothA i A) → ∃ μ', X7_pass_L62 p b1 f (nI i) μ = some μ' ∧ Ml p ρ μ' (itA boothA (a_nb A) A) := by
  intro k
  induction k with
  | zero =>
    intro i f μ hi hf hc
    obtain ⟨g, rfl⟩ : ∃ g, f = g + 1 := ⟨f - 1, by omega⟩
    have e : i = a_nb A := by omega
    subst e
    rw [X7_pass_L62_s, rq4 hc, (fix_it fix_booth _ A).1, if_pos (nI_le (Nat.le_refl _) (by have := hI.1.1; omega))]
    exact ⟨μ, rfl, hc⟩
  | succ k ih =>
    intro i f μ hi hf hc
    obtain ⟨g, rfl⟩ : ∃ g, f = g + 1 := ⟨f - 1, by omega⟩
    have fx := fix_it fix_booth i A
    have hI2 : Inv (i + 1) (itA boothA i A) := hI.booths i (by omega)
    have hb6 := hI.1.1
    have hi8 := hI.1.2.1
    have hib : i < a_nb (itA boothA i A) := by rw [fx.1]; omega
    have hI3 : Inv (i + 2) (itA boothA (i + 1) A) := hI.booths (i + 1) (by omega)
    have fx3 := fix_it fix_booth (i + 1) A
    rw [X7_pass_L62_s, rq4 hc, fx.1, if_neg (nI_ge (by omega) (by omega))]
    have hmi := hI2.2.2.2.2.2 (i + 1)
    unfold mnOk at hmi
    rw [if_neg (by omega), fx.2.2.1] at hmi
    have hnf : nowA (itA boothA i A) (i + 1) = false := now_false (fun k hk => by
      obtain ⟨n, n1, n2⟩ := (hmi.2 k hk).2
      exact ⟨n, n1, by rw [fx.2.2.1]; omega⟩) (by rw [fx.2.2.1]; omega)
    obtain ⟨μ1, x1, c1⟩ := m_act (b := i) hp hc hI2.2.1 hib (by rw [fx.1]; exact hb6) (by rw [fx.2.1]; exact hi8) (hI2.2.2.1 i hib).2 (hI2.2.2.2.2.1 i) (by omega)
    rw [x1]
    simp only [bO1_s, bV_eq]
    have hm3 := (hI3.2.2.2.2.2 (i + 1)).1
    rw [fx3.2.2.1, show itA boothA (i + 1) A = boothA (itA boothA i A) i from rfl] at hm3
    have hle : (if i + 1 < i + 2 then 1 else 0) = 1 := if_pos (by omega)
    rw [hle] at hm3
    have ci : (nI i).toNatClampNeg = i := nI_clamp (by omega)
    have i6 : inb (nI i) 6 = True := inb_T (by omega) (by decide)
    rcases act_cases hnf with ⟨n1, n2⟩ | ⟨n1, n2⟩
    · rw [n2] at hm3
      rw [nI_1, m_now (A := actA (itA boothA i A) i) hp (by omega) (by omega) c1, n1, if_pos rfl]
      simp only [bO1_s]
      rw [if_neg one_ne]
      refine ih (i + 1) g μ1 (by omega) (by omega) ?_
      show Ml p ρ μ1 (boothA (itA boothA i A) i)
      rw [n2]
      exact c1
    · have rf := restB_fix (actA (itA boothA i A) i) i
      rw [n2, rf.2.2.1] at hm3
      have hnb : a_nb (actA (itA boothA i A) i) = a_nb A := by rw [← rf.1, ← n2]; exact (fix_booth _ i).1.trans fx.1
      have hni : a_ni (actA (itA boothA i A) i) = a_ni A := by rw [← rf.2.1, ← n2]; exact (fix_booth _ i).2.1.trans fx.2.1
      have hsi : a_sit (actA (itA boothA i A) i) = a_sit (itA boothA i A) := by rw [← rf.2.2.2.1, ← n2]; exact (fix_booth _ i).2.2.2.2.1
      have e16 : rI μ1 (p + 12) i = encO (a_sit (itA boothA i A) i) := by rw [rq16 c1 (by omega) (by rw [hnb]; omega), hsi]
      rw [nI_1, m_now (A := actA (itA boothA i A) i) hp (by omega) (by omega) c1, n1, if_neg (by decide)]
      simp only [bO1_s, if_true, pR16 hp, pA16 hp, pR7 hp, pA7 hp, i6, ci, e16]
      cases hx : a_sit (itA boothA i A) i with
      | none =>
        rw [if_pos (show encO none = -1 from rfl)]
        refine ih (i + 1) g μ1 (by omega) (by omega) ?_
        show Ml p ρ μ1 (boothA (itA boothA i A) i)
        rw [n2]
        unfold restB
        rw [hsi, hx]
        exact c1
      | some j =>
        have hj := hI2.2.1.2 i hib j hx
        rw [fx.2.1] at hj
        have ej : (encO (some j)).toNatClampNeg = j := nI_clamp (by omega)
        have i8 : inb (encO (some j)) 8 = True := inb_T (by omega) (by decide)
        rw [if_neg (enc_ne (s := j) (by omega))]
        simp only [ej, i8, if_true]
        refine ih (i + 1) g _ (by omega) (by omega) ?_
        show Ml p ρ _ (boothA (itA boothA i A) i)
        rw [n2]
        unfold restB
        rw [hsi, hx]
        exact m_tire 1 (by omega) c1
end MT
