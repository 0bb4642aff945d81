/-! The reference: a first word taken, a booth's act. -/
section MP
variable {p : Nat} {ρ μ : MM} {A : AS}
theorem m_shift {b n : Nat} (w : Int32) (hp : isP p) (hb : b < 6) (hn : n ≤ 11) : ∀ d k f μ, k + d = n → d < f → rI μ (p + 15) b = nI n → ∃ μ', X7_act_L89 p (nI b) w f (nI (12 * b + k)) μ = some μ' ∧ (∀ q s, rI μ' q s = if (q = p + 16 ∨ q = p + 17) ∧ 12 * b + k ≤ s ∧ s < 12 * b + n then rI μ q (s + 1) else rI μ q s) ∧ μ'.2 = μ.2 := by
  have cb : (nI b).toNatClampNeg = b := nI_clamp (by omega)
  have i6 : inb (nI b) 6 = True := inb_T (by omega) (by decide)
  intro d
  induction d with
  | zero =>
    intro k f μ hk hf h15
    obtain ⟨g, rfl⟩ : ∃ g, f = g + 1 := ⟨f - 1, by omega⟩
    have e : k = n := by omega
    subst e
    rw [X7_act_L89_s]
    simp only [pR19 hp, pA19 hp, i6, cb, h15, ix12, if_true]
    rw [if_pos (nI_le (Nat.le_refl _) (by omega))]
    refine ⟨μ, rfl, fun q s => ?_, rfl⟩
    rw [if_neg (fun z => by have := z.2; omega)]
  | succ d ih =>
    intro k f μ hk hf h15
    obtain ⟨g, rfl⟩ : ∃ g, f = g + 1 := ⟨f - 1, by omega⟩
    have ck : (nI (12 * b + k)).toNatClampNeg = 12 * b + k := nI_clamp (by omega)
    have ck1 : (nI (12 * b + k + 1)).toNatClampNeg = 12 * b + k + 1 := nI_clamp (by omega)
    have j1 : inb (nI (12 * b + k)) 72 = True := inb_T (by omega) (by decide)
    have j2 : inb (nI (12 * b + k + 1)) 72 = True := inb_T (by omega) (by decide)
    rw [X7_act_L89_s]
    simp only [pR19 hp, pA19 hp, pR20 hp, pA20 hp, pR21 hp, pA21 hp, i6, cb, h15, ix12, if_true, nI_1, j1, j2, ck, ck1, bV_eq]
    rw [if_neg (nI_ge (by omega) (by omega)), rI_o _ (by omega)]
    obtain ⟨μ2, x2, s2, r2⟩ := ih (k + 1) g (wI (wI μ (p + 16) (12 * b + k) (rI μ (p + 16) (12 * b + k + 1))) (p + 17) (12 * b + k) (rI μ (p + 17) (12 * b + k + 1))) (by omega) (by omega) (by rw [rI_o _ (by omega), rI_o _ (by omega)]; exact h15)
    refine ⟨μ2, x2, fun q s => ?_, r2⟩
    rw [s2 q s]
    by_cases e1 : (q = p + 16 ∨ q = p + 17) ∧ 12 * b + k ≤ s ∧ s < 12 * b + n
    · rw [if_pos e1]
      by_cases e2 : s = 12 * b + k
      · subst e2
        rw [if_neg (fun z => by have := z.2; omega)]
        rcases e1.1 with e3 | e3
        · rw [rI_o _ (by omega), e3, rI_at]
        · rw [e3, rI_at]
      · rw [if_pos ⟨e1.1, by omega, by omega⟩, rI_ne _ (fun z => by have := z.2; omega), rI_ne _ (fun z => by have := z.2; omega)]
    · rw [if_neg e1, if_neg (fun z => e1 ⟨z.1, by omega, by omega⟩)]
      rw [rI_ne _ (fun z => e1 ⟨Or.inr z.1, by omega, by omega⟩), rI_ne _ (fun z => e1 ⟨Or.inl z.1, by omega, by omega⟩)]
theorem mC_16' : ∀ f, f < 27 → (f = 20 ∨ f = 26 ∨ f = 21 ∨ f = 22) ∨ (mC f ≠ 16 ∧ mC f ≠ 17) := by decide
theorem mC_16 (f : Nat) (h : f < 27) (h1 : f ≠ 20) (h2 : f ≠ 26) (h3 : f ≠ 21) (h4 : f ≠ 22) : mC f ≠ 16 ∧ mC f ≠ 17 := (mC_16' f h).resolve_left (fun z => by omega)
theorem m_pop {b n : Nat} {μ' : MM} (h : Ml p ρ μ A) (hb : b < 6) (hl : a_hd A b = n + 1) (h12 : a_hd A b ≤ 12) (hsp : ∀ q s, rI μ' q s = if (q = p + 16 ∨ q = p + 17) ∧ 12 * b ≤ s ∧ s < 12 * b + n then rI (wI μ (p + 15) b (nI n)) q (s + 1) else rI (wI μ (p + 15) b (nI n)) q s) (hr : μ'.2 = μ.2) : Ml p ρ μ' (popA A b) := by
  have hsb : a_hd (popA A b) b = n := by
    show up1 (a_hd A) b (a_hd A b - 1) b = n
    rw [up1_s, hl]; rfl
  have hsn : ∀ c, c ≠ b → a_hd (popA A b) c = a_hd A c := fun c hc => up1_n _ _ hc
  refine ⟨?_, ?_, hr.trans h.2.2⟩
  · intro f c k z
    refine ⟨z.1.1, ?_⟩
    show rI μ' (p + mC f) (mK f c k) = _
    rw [hsp]
    by_cases e21 : f = 21
    · subst e21
      obtain ⟨⟨z1, z2, z3⟩, -⟩ := z
      have z4 : k < a_hd (popA A b) c := z3
      have z5 : k < 12 := z1.2
      show (if _ then _ else _) = (if c = b then a_hw A b (k + 1) else a_hw A c k)
      by_cases ec : c = b
      · subst ec
        rw [hsb] at z4
        refine Eq.trans (if_pos ⟨Or.inl rfl, by show 12 * c ≤ 12 * c + k; omega, by show 12 * c + k < 12 * c + n; omega⟩) (Eq.trans (rI_o _ (by show ¬ (p + 16 = p + 15); omega)) (Eq.trans ?_ (if_pos rfl).symm))
        exact rq21 (k := k + 1) h hb (by omega) h12
      · rw [hsn c ec] at z4
        have : a_hd A c ≤ 12 ∨ True := Or.inr trivial
        refine Eq.trans (if_neg (fun y => by have y2 : 12 * b ≤ 12 * c + k ∧ 12 * c + k < 12 * b + n := y.2; omega)) (Eq.trans (rI_o _ (by show ¬ (p + 16 = p + 15); omega)) (Eq.trans ?_ (if_neg ec).symm))
        exact (h.1 21 c k ⟨⟨z1, z2, z4⟩, ⟨by decide, by decide⟩, fun z => absurd z (by decide)⟩).2
    · by_cases e22 : f = 22
      · subst e22
        obtain ⟨⟨z1, z2, z3⟩, -⟩ := z
        have z4 : k < a_hd (popA A b) c := z3
        have z5 : k < 12 := z1.2
        show (if _ then _ else _) = (if c = b then a_hs A b (k + 1) else a_hs A c k)
        by_cases ec : c = b
        · subst ec
          rw [hsb] at z4
          refine Eq.trans (if_pos ⟨Or.inr rfl, by show 12 * c ≤ 12 * c + k; omega, by show 12 * c + k < 12 * c + n; omega⟩) (Eq.trans (rI_o _ (by show ¬ (p + 17 = p + 15); omega)) (Eq.trans ?_ (if_pos rfl).symm))
          exact rq22 (k := k + 1) h hb (by omega) h12
        · rw [hsn c ec] at z4
          refine Eq.trans (if_neg (fun y => by have y2 : 12 * b ≤ 12 * c + k ∧ 12 * c + k < 12 * b + n := y.2; omega)) (Eq.trans (rI_o _ (by show ¬ (p + 17 = p + 15); omega)) (Eq.trans ?_ (if_neg ec).symm))
          exact (h.1 22 c k ⟨⟨z1, z2, z4⟩, ⟨by decide, by decide⟩, fun z => absurd z (by decide)⟩).2
      · have hc := mC_16 f (dom_lt f c k z.1.1) z.2.1.1 z.2.1.2 e21 e22
        rw [if_neg (fun y => by have := y.1; omega)]
        have h0 := RepD.w (mInj p) h.1 19 b 0 ⟨hb, rfl⟩ (q := p + 15) (s := b) (nI n) rfl rfl
        refine Eq.trans (h0 f c k (Or.inl ⟨D_hd (A := A) f c k z.1 e21 e22 rfl rfl, z.2⟩)).2 ?_
        refine Eq.symm (Eq.trans (V19 _ b (a_hd A b - 1) f c k z.1.1) ?_)
        rw [V21n _ _ f c k z.1.1 e21, V22n _ _ f c k z.1.1 e22, show a_hd A b - 1 = n by omega, if_neg (fun y : f = 20 ∧ _ => z.2.1.1 y.1)]
  · intro q s hz
    rw [hsp, if_neg (fun y => by have := y.1; omega), rI_o _ (by omega)]
    exact h.2.1 q s hz
/-- what the reference does in a booth's turn, but for the rest -/
def actA (A : AS) (b : Nat) : AS := if a_bv A b 4 = -1 then (if dueA A b = true then (if ableA A b = true then (match a_sit A b with
  | none => A
  | some i => wordA A b i) else lostA (popA A b) b) else A) else outA (s_bv A (up2 (a_bv A) b 4 (-1))) b (a_bv A b 4)
theorem out_n {A : AS} {b : Nat} {w : Int32} (h : ableA A b = false) : outA A b w = lostA A b := by
  unfold outA
  cases hx : a_sit A b with
  | none => rfl
  | some i =>
    simp only [h, Bool.false_eq_true, if_false]
theorem out_y {A : AS} {b i : Nat} {w : Int32} (h : ableA A b = true) (hx : a_sit A b = some i) : outA A b w = sayA A b i w := by
  unfold outA
  rw [hx]
  simp only [h, if_true]
theorem able_y {A : AS} {b : Nat} (h : ableA A b = true) : ∃ i, a_sit A b = some i := by
  cases hx : a_sit A b with
  | none => unfold ableA at h; rw [hx] at h; exact (Bool.false_ne_true h).elim
  | some i => exact ⟨i, rfl⟩
theorem able_same {A A' : AS} {b : Nat} (h1 : a_sit A' = a_sit A) (h2 : a_src A' = a_src A) (h3 : a_lang A' = a_lang A) (h4 : ∀ i, a_iv A' i 0 = a_iv A i 0) (h5 : ∀ c, a_bv A' c 0 = a_bv A c 0) : ableA A' b = ableA A b := by
  unfold ableA langO
  rw [h1, h2]
  simp only [h3, h4, h5]
theorem m_act {b : Nat} (hp : isP p) (h : Ml p ρ μ A) (hs : Seats A) (hb : b < a_nb A) (hn : a_nb A ≤ 6) (hni : a_ni A ≤ 8) (hW : WB A b) (h12 : a_hd A b ≤ 12) (hm : a_mn A (b + 1) < 400) : ∃ μ', X7_act p (nI b) μ = some μ' ∧ Ml p ρ μ' (actA A b) := by
  have cb : (nI b).toNatClampNeg = b := nI_clamp (by omega)
  have i6 : inb (nI b) 6 = True := inb_T (by omega) (by decide)
  have hb6 : b < 6 := by omega
  unfold X7_act actA
  simp only [pR18 hp, pA18 hp, i6, cb, if_true, rq18 h hb6 hb, bV_eq]
  by_cases e4 : a_bv A b 4 = -1
  · rw [if_pos e4, if_pos e4]
    simp only [pR19 hp, pA19 hp, i6, cb, if_true, rq19 h hb6]
    unfold dueA
    by_cases e0 : a_hd A b = 0
    · rw [e0, if_pos (show nI 0 = 0 from rfl)]
      rw [show decide ((0 : Nat) ≠ 0) = false from rfl, Bool.false_and, if_neg (by decide)]
      exact ⟨_, rfl, h⟩
    · obtain ⟨n, hl⟩ : ∃ n, a_hd A b = n + 1 := ⟨a_hd A b - 1, by omega⟩
      rw [show decide (a_hd A b ≠ 0) = true from decide_eq_true e0, Bool.true_and]
      have hne : nI (a_hd A b) ≠ 0 := fun z => e0 (nI_inj' (by omega) (by decide) z)
      have c12 : (nI (12 * b)).toNatClampNeg = 12 * b := nI_clamp (by omega)
      have j12 : inb (nI (12 * b)) 72 = True := inb_T (by omega) (by decide)
      have e21 : rI μ (p + 16) (12 * b) = a_hw A b 0 := rq21 (k := 0) h hb6 (by omega) h12
      have e22 : rI μ (p + 17) (12 * b) = a_hs A b 0 := rq22 (k := 0) h hb6 (by omega) h12
      rw [if_neg hne]
      simp only [ix12_0, pR21 hp, pA21 hp, pR20 hp, pA20 hp, pR13 hp, pA13 hp, i6, j12, cb, c12, if_true, e21, e22, rq13 h hb6, rq0 h]
      by_cases ed : nI (a_t A) - a_hs A b 0 < a_bv A b 1
      · rw [if_neg (Int32.not_le.mpr ed), show decide (¬ nI (a_t A) - a_hs A b 0 < a_bv A b 1) = false from decide_eq_false (fun z => z ed), if_neg (by decide)]
        exact ⟨_, rfl, h⟩
      · rw [if_pos (Int32.not_lt.mp ed), show decide (¬ nI (a_t A) - a_hs A b 0 < a_bv A b 1) = true from decide_eq_true ed, if_pos rfl, nI_pred' (by omega), show a_hd A b - 1 = n by omega]
        obtain ⟨μ1, x1, s1, r1⟩ := m_shift (p := p) (b := b) (n := n) (a_hw A b 0) hp hb6 (by omega) n 0 1000 (wI μ (p + 15) b (nI n)) (by omega) (by omega) (rI_at _ _ _ _)
        rw [Nat.add_zero] at x1
        rw [x1]
        have c1 : Ml p ρ μ1 (popA A b) := m_pop h hb6 hl h12 s1 r1
        have hab : ableA (popA A b) b = ableA A b := rfl
        simp only [bO1_s]
        rw [m_able (A := popA A b) hp c1 hs hb hn hni, hab]
        simp only [bO1_s]
        have hw0 := hW.1 0 (by omega)
        by_cases ea : ableA A b = true
        · rw [if_pos ea, if_pos ea, if_neg one_ne]
          obtain ⟨i, hx⟩ := able_y ea
          have hil := hs.2 b hb i hx
          have hi : i < 8 := by omega
          rw [hx]
          show ∃ μ', _ ∧ Ml p ρ μ' (wordA A b i)
          unfold wordA
          have ei : (encO (some i)).toNatClampNeg = i := nI_clamp (by omega)
          have i8 : inb (encO (some i)) 8 = True := inb_T (by omega) (by decide)
          have e16 : rI μ1 (p + 12) b = encO (some i) := by
            rw [rq16 (A := popA A b) c1 hb6 hb]
            show encO (a_sit A b) = _
            rw [hx]
          have e7 : rI μ1 (p + 3) i = a_iv A i 1 := rq7 (A := popA A b) c1 hi
          have e11 : rI μ1 (p + 7) i = a_iv A i 5 := rq11 (A := popA A b) c1 hi
          simp only [pR16 hp, pA16 hp, pR6 hp, pA6 hp, pR10 hp, pA10 hp, pR18 hp, pA18 hp, i6, i8, cb, ei, e16, e7, e11, if_true]
          obtain ⟨μ2, x2, c2⟩ := m_say (w := a_hw A b 0) hp c1 hs hb hn hni hw0 hm
          have c2' : Ml p ρ μ2 (sayA (popA A b) b i (a_hw A b 0)) := by
            rw [out_y (i := i) (show ableA (popA A b) b = true from ea) hx] at c2
            exact c2
          by_cases w80 : a_hw A b 0 < 80
          · rw [if_pos w80, x2]
            simp only [bO1_s]
            have ho : oddA A i (a_hw A b 0) = false := by
              unfold oddA
              rw [show decide ((80 : Int32) ≤ a_hw A b 0) = false from decide_eq_false (Int32.not_le.mpr w80), Bool.false_and]
            rw [ho, if_neg (by decide)]
            exact ⟨_, rfl, c2'⟩
          · rw [if_neg w80]
            have w80' := Int32.not_lt.mp w80
            by_cases eo : (a_iv A i 1 >>> ((a_hw A b 0 - 80) &&& 31)) &&& 1 = 0
            · have ho : oddA A i (a_hw A b 0) = true := by
                unfold oddA
                rw [show decide ((80 : Int32) ≤ a_hw A b 0) = true from decide_eq_true w80', Bool.true_and]
                exact decide_eq_true eo
              rw [if_pos eo, ho, if_pos rfl, Int32.mul_comm 4]
              have ho1 := wNum_odd hw0 w80'
              have c3 := m_iv5 (A := popA A b) (a_iv A i 5 + 1) hi c1
              have c4 := m_bv4 (A := s_iv (popA A b) (up2 (a_iv A) i 5 (a_iv A i 5 + 1))) ((a_hw A b 0 - 80) * 4 + 1) hb6 c3
              obtain ⟨μ3, x3, c5⟩ := m_say (A := s_bv (s_iv (popA A b) (up2 (a_iv A) i 5 (a_iv A i 5 + 1))) (up2 (a_bv A) b 4 ((a_hw A b 0 - 80) * 4 + 1))) hp c4 hs hb hn hni ho1.1 hm
              rw [x3]
              simp only [bO1_s]
              rw [out_y (i := i) (show ableA (s_bv (s_iv (popA A b) (up2 (a_iv A) i 5 (a_iv A i 5 + 1))) (up2 (a_bv A) b 4 ((a_hw A b 0 - 80) * 4 + 1))) b = true from ?_) hx] at c5
              · exact ⟨_, rfl, c5⟩
              · exact Eq.trans (able_same (A := A) rfl rfl rfl (fun j => up2_n _ _ (fun z => absurd z.2 (by decide))) (fun c => up2_n _ _ (fun z => absurd z.2 (by decide)))) ea
            · have ho : oddA A i (a_hw A b 0) = false := by
                unfold oddA
                rw [show decide ((a_iv A i 1 >>> ((a_hw A b 0 - 80) &&& 31)) &&& 1 = 0) = false from decide_eq_false eo, Bool.and_false]
              rw [if_neg eo, x2]
              simp only [bO1_s]
              rw [ho, if_neg (by decide)]
              exact ⟨_, rfl, c2'⟩
        · have ea' : ableA A b = false := by
            cases hh : ableA A b with
            | true => exact absurd hh ea
            | false => rfl
          rw [if_neg ea, if_neg ea, if_pos rfl]
          obtain ⟨μ2, x2, c2⟩ := m_say (w := a_hw A b 0) hp c1 hs hb hn hni hw0 hm
          rw [x2]
          simp only [bO1_s]
          rw [out_n (show ableA (popA A b) b = false from ea')] at c2
          exact ⟨_, rfl, c2⟩
  · rw [if_neg e4, if_neg e4]
    have c1 := m_bv4 (-1) hb6 h
    have hw : wNum (a_bv A b 4) := hW.2.resolve_left e4
    obtain ⟨μ2, x2, c2⟩ := m_say (A := s_bv A (up2 (a_bv A) b 4 (-1))) hp c1 hs hb hn hni hw hm
    rw [x2]
    simp only [bO1_s]
    exact ⟨_, rfl, c2⟩
end MP
