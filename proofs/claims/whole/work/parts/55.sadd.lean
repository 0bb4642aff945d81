/-! addInterpreter and addBooth. -/
theorem Good.bds {A : AS} (h : Good A) : Bds 6 8 A := h.1.bds (by rw [if_pos rfl]; have := h.1.1.2.2.2; omega) h.1.1.1 (by omega) h.1.1.2.1 (by omega)
def enrA (A : AS) (a b : Int32) : AS := s_ni (s_iv A (up2 (up2 (a_iv A) (a_ni A) 0 a) (a_ni A) 1 b)) (a_ni A + 1)
def bldA (A : AS) (l d m : Int32) : AS := s_nb (s_bv A (up2 (up2 (up2 (a_bv A) (a_nb A) 0 l) (a_nb A) 1 d) (a_nb A) 2 m)) (a_nb A + 1)
theorem Good.enr {A : AS} (h : Good A) (hn : a_ni A < 8) (a b : Int32) : Good (enrA A a b) := by
  obtain ⟨hI, h2, h3, h4⟩ := h
  refine ⟨⟨⟨hI.1.1, hn, hI.1.2.2.1, hI.1.2.2.2⟩, ⟨hI.2.1.1, fun c hc i hi => ?_⟩, hI.2.2⟩, h2, h3, h4⟩
  have := hI.2.1.2 c hc i hi
  show i < a_ni A + 1
  omega
theorem Good.bld {A : AS} (h : Good A) (hn : a_nb A < 6) (l d : Int32) {m : Nat} (hm0 : 1 ≤ m) (hm : m ≤ 12) : Good (bldA A l d (nI m)) := by
  obtain ⟨hI, h2, h3, h4⟩ := h
  have hd := h4 (a_nb A) (Nat.le_refl _)
  have lt : ∀ {c}, c < a_nb A + 1 → c ≠ a_nb A → c < a_nb A := fun h1 h2 => by omega
  refine ⟨⟨⟨hn, hI.1.2.1, hI.1.2.2.1, hI.1.2.2.2⟩, ⟨?_, ?_⟩, ?_, hI.2.2.2⟩, ?_, ?_, ?_⟩
  · intro c hc s hs
    have hc' : c < a_nb A + 1 := hc
    have hs' : a_src A c = some s := hs
    show s < a_nb A + 1
    by_cases e : c = a_nb A
    · subst e
      rw [hd.1] at hs'
      cases hs'
    · have := hI.2.1.1 c (lt hc' e) s hs
      omega
  · intro c hc i hi
    have hc' : c < a_nb A + 1 := hc
    have hi' : a_sit A c = some i := hi
    show i < a_ni A
    by_cases e : c = a_nb A
    · subst e
      rw [hd.2.1] at hi'
      cases hi'
    · exact hI.2.1.2 c (lt hc' e) i hi
  · intro c hc
    have hc' : c < a_nb A + 1 := hc
    by_cases e : c = a_nb A
    · subst e
      refine ⟨⟨m, up2_s _ _ _ _, ?_, hm0, hm⟩, ?_, ?_⟩
      · show a_hd A (a_nb A) ≤ m
        rw [hd.2.2.2]
        omega
      · intro k hk
        have hk' : k < a_hd A (a_nb A) := hk
        rw [hd.2.2.2] at hk'
        omega
      · left
        exact Eq.trans (up2_n _ _ (fun z => absurd z.2 (by decide))) (Eq.trans (up2_n _ _ (fun z => absurd z.2 (by decide))) (Eq.trans (up2_n _ _ (fun z => absurd z.2 (by decide))) hd.2.2.1))
    · obtain ⟨⟨m', m1, m2, m3, m4⟩, w1, w2⟩ := hI.2.2.1 c (lt hc' e)
      have hb : ∀ i, a_bv (bldA A l d (nI m)) c i = a_bv A c i := fun i => Eq.trans (up2_n _ _ (fun z => e z.1)) (Eq.trans (up2_n _ _ (fun z => e z.1)) (up2_n _ _ (fun z => e z.1)))
      exact ⟨⟨m', (hb 2).trans m1, m2, m3, m4⟩, w1, by rw [hb 4]; exact w2⟩
  · intro b c i hb hc h1 h1'
    have hb' : b < a_nb A + 1 := hb
    have hc' : c < a_nb A + 1 := hc
    have s1 : a_sit A b = some i := h1
    have s2 : a_sit A c = some i := h1'
    by_cases e : b = a_nb A
    · rw [e, hd.2.1] at s1
      cases s1
    · by_cases e2 : c = a_nb A
      · rw [e2, hd.2.1] at s2
        cases s2
      · exact h2 b c i (lt hb' e) (lt hc' e2) s1 s2
  · obtain ⟨r, hr⟩ := h3
    refine ⟨r, fun b s hb hs => ?_⟩
    have hb' : b < a_nb A + 1 := hb
    have s1 : a_src A b = some s := hs
    by_cases e : b = a_nb A
    · rw [e, hd.1] at s1
      cases s1
    · exact hr b s (lt hb' e) s1
  · intro b hb
    have hb' : a_nb A + 1 ≤ b := hb
    have := h4 b (by omega)
    refine ⟨this.1, this.2.1, ?_, this.2.2.2⟩
    exact Eq.trans (up2_n _ _ (fun z => absurd z.2 (by decide))) (Eq.trans (up2_n _ _ (fun z => absurd z.2 (by decide))) (Eq.trans (up2_n _ _ (fun z => absurd z.2 (by decide))) this.2.2.1))
theorem V4s (A : AS) (h : a_sit A (a_nb A) = none) : ∀ f b k, dom f b k → av (s_nb A (a_nb A + 1)) f b k = if f = 4 ∧ b = 0 ∧ k = 0 then nI (a_nb A + 1) else av A f b k := by
  intro f b k hd
  by_cases e : f = 26
  · subst e
    rw [if_neg (fun y => absurd y.1 (by decide))]
    show encO (if a_sit A (a_nb A) = some b then some (a_nb A) else seatOf (a_sit A) b (a_nb A)) = encO (seatOf (a_sit A) b (a_nb A))
    rw [h, if_neg (fun y => some_ne b y.symm)]
  · exact V4 A (a_nb A + 1) f b k hd e
section AD
variable {o NB NI p : Nat} {ρ μ : MM} {A : AS}
theorem c_nb (h : Cl o NB NI ρ μ A) (hs : a_sit A (a_nb A) = none) : Cl o NB NI ρ (wI μ o 6 (nI (a_nb A + 1))) (s_nb A (a_nb A + 1)) := Cl.w h 4 0 0 ⟨rfl, rfl⟩ (fun f c k z => V4s A hs f c k z.1) (fun f c k z => Or.inl (D_same (A := A) f c k z rfl rfl rfl)) rfl rfl
theorem m_nb (h : Ml p ρ μ A) (hn : a_nb A < 6) (hd : a_src A (a_nb A) = none ∧ a_sit A (a_nb A) = none ∧ a_bv A (a_nb A) 4 = -1) : Ml p ρ (wI (wI (wI (wI μ (p + 11) (a_nb A) (-1)) (p + 12) (a_nb A) (-1)) (p + 14) (a_nb A) (-1)) p 11 (nI (a_nb A + 1))) (s_nb A (a_nb A + 1)) := by
  refine ⟨?_, ?_, h.2.2⟩
  · have h1 := RepD.w (mInj p) h.1 15 (a_nb A) 0 ⟨hn, rfl⟩ (q := p + 11) (s := a_nb A) (-1) rfl rfl
    have h2 := RepD.w (mInj p) h1 16 (a_nb A) 0 ⟨hn, rfl⟩ (q := p + 12) (s := a_nb A) (-1) rfl rfl
    have h3 := RepD.w (mInj p) h2 18 (a_nb A) 0 ⟨hn, rfl⟩ (q := p + 14) (s := a_nb A) (-1) rfl rfl
    have h4 := RepD.w (mInj p) h3 4 0 0 ⟨rfl, rfl⟩ (q := p) (s := 11) (nI (a_nb A + 1)) rfl rfl
    refine RepD.to h4 (fun f b k z => ⟨?_, ?_⟩)
    · have zv : vd 6 8 A f b k := D_same (A := A) f b k z.1 rfl rfl rfl
      have zb : f = 15 ∨ f = 16 ∨ f = 18 → b < a_nb A + 1 := z.2.2
      by_cases e : b = a_nb A
      · by_cases e15 : f = 15
        · subst e15
          have hk : k = 0 := z.1.1.2
          exact Or.inl (Or.inl (Or.inl (Or.inr ⟨rfl, e, hk⟩)))
        · by_cases e16 : f = 16
          · subst e16
            have hk : k = 0 := z.1.1.2
            exact Or.inl (Or.inl (Or.inr ⟨rfl, e, hk⟩))
          · by_cases e18 : f = 18
            · subst e18
              have hk : k = 0 := z.1.1.2
              exact Or.inl (Or.inr ⟨rfl, e, hk⟩)
            · exact Or.inl (Or.inl (Or.inl (Or.inl ⟨zv, z.2.1, fun y => by omega⟩)))
      · exact Or.inl (Or.inl (Or.inl (Or.inl ⟨zv, z.2.1, fun y => by have := zb y; omega⟩)))
    · refine Eq.trans ?_ (V4s A hd.2.1 f b k z.1.1).symm
      by_cases e4 : f = 4 ∧ b = 0 ∧ k = 0
      · rw [if_pos e4, if_pos e4]
      · rw [if_neg e4, if_neg e4]
        by_cases e18 : f = 18 ∧ b = a_nb A ∧ k = 0
        · rw [if_pos e18, e18.1, e18.2.1]
          exact hd.2.2.symm
        · rw [if_neg e18]
          by_cases e16 : f = 16 ∧ b = a_nb A ∧ k = 0
          · rw [if_pos e16, e16.1, e16.2.1]
            show -1 = encO (a_sit A (a_nb A))
            rw [hd.2.1]
            rfl
          · rw [if_neg e16]
            by_cases e15 : f = 15 ∧ b = a_nb A ∧ k = 0
            · rw [if_pos e15, e15.1, e15.2.1]
              show -1 = encO (a_src A (a_nb A))
              rw [hd.1]
              rfl
            · rw [if_neg e15]
  · intro q s hz
    rw [rI_ne _ (fun y => by have := y.1; omega), rI_ne _ (fun y => by have := y.1; omega), rI_ne _ (fun y => by have := y.1; omega), rI_ne _ (fun y => by have := y.1; omega)]
    exact h.2.1 q s hz
end AD
theorem s_addInterpreter {μ : MM} {A : AS} (hr : Rel μ A) (x y : Int32) : ∃ A', Good A' ∧ Step A A' μ (L_addInterpreter 0 x y 177 μ) (fun μ2 => X8_addInterpreter 132 x y μ2) := by
  have hI := hr.2.2.1
  have h8 := hI.1.2.1
  unfold L_addInterpreter X6_addInterpreter
  by_cases h1 : (0 : Int32) ≤ x ∧ x ≤ 255
  · by_cases h2 : (0 : Int32) ≤ y ∧ y ≤ 1048575
    · rw [X6_in h1.1 h1.2, if_neg one_ne, X6_in h2.1 h2.2, if_neg one_ne, RF01.1, rd3 hr.1]
      by_cases el : a_ni A < 8
      · refine ⟨enrA A x y, hr.2.2.enr el x y, ?_⟩
        have j8 : inb (nI (a_ni A)) 8 = True := inb_T el (by decide)
        have ci : (nI (a_ni A)).toNatClampNeg = a_ni A := nI_clamp (by omega)
        rw [if_neg (show ¬ (8 : Int32) ≤ nI (a_ni A) from nI_ge (b := 8) el (by omega))]
        unfold X5_enrol
        rw [rd3 hr.1, if_pos (show nI (a_ni A) < 8 from nI_lt (b := 8) el (by omega)), if_pos (in_ints isO4 el), int_at isO4 el]
        simp only [bV_eq]
        have c1 := c_iv0 (i := a_ni A) x hr.cl el (by omega)
        rw [rd3 c1.1, if_pos (in_ints isO4 el), int_at isO4 el]
        have c2 := c_iv1 (i := a_ni A) y c1 el (by omega)
        rw [rd3 c2.1, rI_at]
        show Step A _ μ (bO3 (bO2 (some (nI (a_ni A) + 1 - 1, wI (wI (wI μ (4 + (56 + a_ni A)) 0 x) (4 + (56 + a_ni A)) 1 y) 4 7 (nI (a_ni A) + 1))) _) _) _
        rw [nI_1, nI_pred]
        simp only [bO2_s, bO3_s]
        rw [if_pos trivial, if_pos in177]
        refine step_yes (v := nI (a_ni A)) rfl (CO.of (c_ni (a_ni A + 1) c2)) (fun μ2 hm => ?_)
        have c0 := m_begin hm
        have d1 := m_iv0 (i := a_ni A) x el c0
        have d2 := m_iv1 (i := a_ni A) y el d1
        have d3 := m_ni (a_ni A + 1) d2
        simp only [X8_addInterpreter, bV_eq]
        rw [isIn_in h1.1 h1.2, if_neg one_ne, isIn_in h2.1 h2.2, if_neg one_ne, RF01.2.1, rq3 c0, if_neg (fun z => by have := nI_inj' (a := a_ni A) (b := 8) (by omega) (by omega) z; omega)]
        simp only [pR5 isP133, pA5 isP133, pR6 isP133, pA6 isP133, j8, ci, if_true]
        rw [rq3 d1]
        simp only [j8, ci, if_true]
        rw [rq3 d2, rI_at]
        show ∃ μ3, some (nI (a_ni A) + 1 - 1, wI (wI (wI (wI μ2 132 0 0) (133 + 2) (a_ni A) x) (133 + 3) (a_ni A) y) 133 4 (nI (a_ni A) + 1)) = _ ∧ _
        rw [nI_1, nI_pred]
        exact ⟨_, rfl, d3⟩
      · have e8 : a_ni A = 8 := by omega
        refine ⟨A, hr.2.2, step_no hr 2 ?_ two_ne (fun μ2 hm => ?_)⟩
        · rw [e8, if_pos (by decide)]
          rfl
        · have c0 := m_begin hm
          simp only [X8_addInterpreter, bV_eq]
          rw [isIn_in h1.1 h1.2, if_neg one_ne, isIn_in h2.1 h2.2, if_neg one_ne, RF01.2.1, rq3 c0, e8, if_pos (by decide)]
          rfl
    · refine ⟨A, hr.2.2, step_no hr 1 ?_ one_ne (fun μ2 _ => ?_)⟩
      · rw [X6_in h1.1 h1.2, if_neg one_ne, X6_out h2, if_pos rfl]
        rfl
      · simp only [X8_addInterpreter, bV_eq]
        rw [isIn_in h1.1 h1.2, if_neg one_ne, isIn_out h2, if_pos rfl]
        rfl
  · refine ⟨A, hr.2.2, step_no hr 1 ?_ one_ne (fun μ2 _ => ?_)⟩
    · rw [X6_out h1, if_pos rfl]
      rfl
    · simp only [X8_addInterpreter, bV_eq]
      rw [isIn_out h1, if_pos rfl]
      rfl
theorem s_addBooth {μ : MM} {A : AS} (hr : Rel μ A) (x y z : Int32) : ∃ A', Good A' ∧ Step A A' μ (L_addBooth 0 x y z 177 μ) (fun μ2 => X8_addBooth 132 x y z μ2) := by
  have hI := hr.2.2.1
  have h6 := hI.1.1
  unfold L_addBooth X6_addBooth
  by_cases h1 : (0 : Int32) ≤ x ∧ x ≤ 7
  · by_cases h2 : (1 : Int32) ≤ y ∧ y ≤ 9
    · by_cases h3 : (1 : Int32) ≤ z ∧ z ≤ 12
      · rw [X6_in h1.1 h1.2, if_neg one_ne, X6_in h2.1 h2.2, if_neg one_ne, X6_in h3.1 h3.2, if_neg one_ne, RF01.1, rd4 hr.1]
        by_cases el : a_nb A < 6
        · obtain ⟨m, rfl, hm0, hm⟩ := nI_in' (a := 1) (b := 12) rfl rfl (by omega) (by omega) h3
          refine ⟨bldA A x y (nI m), hr.2.2.bld el x y hm0 hm, ?_⟩
          have hd := hr.2.2.2.2.2 (a_nb A) (Nat.le_refl _)
          have j6 : inb (nI (a_nb A)) 6 = True := inb_T el (by decide)
          have cb : (nI (a_nb A)).toNatClampNeg = a_nb A := nI_clamp (by omega)
          rw [if_neg (show ¬ (6 : Int32) ≤ nI (a_nb A) from nI_ge (b := 6) el (by omega))]
          unfold X5_build
          rw [rd4 hr.1, if_pos (show nI (a_nb A) < 6 from nI_lt (b := 6) el (by omega)), if_pos (in_booths isO4 el), booth_at isO4 el]
          simp only [bV_eq]
          have c1 := c_bv0 (b := a_nb A) x hr.cl el (by omega)
          rw [rd4 c1.1, if_pos (in_booths isO4 el), booth_at isO4 el]
          have c2 := c_bv1 (b := a_nb A) y c1 el (by omega)
          rw [rd4 c2.1, if_pos (in_booths isO4 el), booth_at isO4 el]
          have c3 := c_bv2 (b := a_nb A) (nI m) c2 el (by omega)
          have c4 := c_nb c3 hd.2.1
          rw [rd4 c3.1, rI_at]
          show Step A _ μ (bO3 (bO2 (some (nI (a_nb A) + 1 - 1, wI (wI (wI (wI μ (4 + (8 + 8 * a_nb A)) 3 x) (4 + (8 + 8 * a_nb A)) 4 y) (4 + (8 + 8 * a_nb A)) 5 (nI m)) 4 6 (nI (a_nb A) + 1))) _) _) _
          rw [nI_1, nI_pred]
          simp only [bO2_s, bO3_s]
          rw [if_pos trivial, if_pos in177]
          refine step_yes (v := nI (a_nb A)) rfl (CO.of c4) (fun μ2 hm => ?_)
          have c0 := m_begin hm
          have d1 := m_bv0 (b := a_nb A) x el c0
          have d2 := m_bv1 (b := a_nb A) y el d1
          have d3 := m_bv2 (b := a_nb A) (nI m) el d2
          have d4 := m_nb d3 el ⟨hd.1, hd.2.1, Eq.trans (up2_n _ _ (fun z => absurd z.2 (by decide))) (Eq.trans (up2_n _ _ (fun z => absurd z.2 (by decide))) (Eq.trans (up2_n _ _ (fun z => absurd z.2 (by decide))) hd.2.2.1))⟩
          simp only [X8_addBooth, bV_eq]
          rw [isIn_in h1.1 h1.2, if_neg one_ne, isIn_in h2.1 h2.2, if_neg one_ne, isIn_in h3.1 h3.2, if_neg one_ne, RF01.2.1, rq4 c0, if_neg (fun z => by have := nI_inj' (a := a_nb A) (b := 6) (by omega) (by omega) z; omega)]
          simp only [pR12 isP133, pA12 isP133, pR13 isP133, pA13 isP133, pR14 isP133, pA14 isP133, pR15 isP133, pA15 isP133, pR16 isP133, pA16 isP133, pR18 isP133, pA18 isP133, j6, cb, if_true]
          rw [rI_o _ (by omega), rI_o _ (by omega), rI_o _ (by omega), rq4 d3]
          show ∃ μ3, some (nI (a_nb A), wI _ 133 11 (nI (a_nb A) + 1)) = _ ∧ _
          rw [nI_1]
          exact ⟨_, rfl, d4⟩
        · have e6 : a_nb A = 6 := by omega
          refine ⟨A, hr.2.2, step_no hr 2 ?_ two_ne (fun μ2 hm => ?_)⟩
          · rw [e6, if_pos (by decide)]
            rfl
          · have c0 := m_begin hm
            simp only [X8_addBooth, bV_eq]
            rw [isIn_in h1.1 h1.2, if_neg one_ne, isIn_in h2.1 h2.2, if_neg one_ne, isIn_in h3.1 h3.2, if_neg one_ne, RF01.2.1, rq4 c0, e6, if_pos (by decide)]
            rfl
      · refine ⟨A, hr.2.2, step_no hr 1 ?_ one_ne (fun μ2 _ => ?_)⟩
        · rw [X6_in h1.1 h1.2, if_neg one_ne, X6_in h2.1 h2.2, if_neg one_ne, X6_out h3, if_pos rfl]
          rfl
        · simp only [X8_addBooth, bV_eq]
          rw [isIn_in h1.1 h1.2, if_neg one_ne, isIn_in h2.1 h2.2, if_neg one_ne, isIn_out h3, if_pos rfl]
          rfl
    · refine ⟨A, hr.2.2, step_no hr 1 ?_ one_ne (fun μ2 _ => ?_)⟩
      · rw [X6_in h1.1 h1.2, if_neg one_ne, X6_out h2, if_pos rfl]
        rfl
      · simp only [X8_addBooth, bV_eq]
        rw [isIn_in h1.1 h1.2, if_neg one_ne, isIn_out h2, if_pos rfl]
        rfl
  · refine ⟨A, hr.2.2, step_no hr 1 ?_ one_ne (fun μ2 _ => ?_)⟩
    · rw [X6_out h1, if_pos rfl]
      rfl
    · simp only [X8_addBooth, bV_eq]
      rw [isIn_out h1, if_pos rfl]
      rfl
