/-! foresee and advise. -/
theorem isP155 : isP 155 := Or.inr rfl
theorem step_ro {A A' : AS} {μ μ1 : MM} {lf : Option (Int32 × MM)} {xf : MM → Option (Int32 × MM)} {v : Int32} (hl : lf = some (0, wL μ1 177 0 v.toInt64)) (hc : CO μ μ1 A') (hx : ∀ μ2, MR 133 μ2 A → ∃ μ3, xf μ2 = some (v, μ3) ∧ RO μ2 μ3 A' 0) : Step A A' μ lf xf := by
  refine ⟨0, v, _, hl, hc.out _, fun _ => by rw [rL_wL, if_pos ⟨rfl, rfl⟩], fun μ2 hm => ?_⟩
  obtain ⟨μ3, h1, h2⟩ := hx μ2 hm
  exact ⟨v, μ3, h1, h2, fun _ => rfl⟩
section FS
variable {μ μ' μ'' μ2 : MM} {A B : AS}
theorem co68 {NB NI : Nat} (h : CR 4 6 8 μ A) (c : Cl 68 NB NI μ μ' B) (e : μ''.1 = μ'.1) : CO μ μ'' A := by
  have e' : ∀ q s, rI μ'' q s = rI μ' q s := fun q s => congrFun (congrFun e q) s
  exact ⟨CR.eq h (fun q s _ hq => by rw [e', c.2 q s (Or.inl (by omega))]), fun q s hq => by rw [e', c.2 q s (Or.inr (by omega))]⟩
theorem CO.t (h : CO μ μ' A) (g : CO μ' μ'' B) : CO μ μ'' B := ⟨g.1, fun q s hq => by rw [g.2 q s hq, h.2 q s hq]⟩
theorem RO.n (h : RO μ2 μ' A 0) (c : Ml 155 μ' μ'' B) : RO μ2 μ'' A 0 := by
  refine ⟨MR.eq h.1 (fun q s _ hq => c.2.1 q s (Or.inl (by omega))), fun q s hq => ?_, c.2.2.trans h.2.2.1, ?_⟩
  · rw [c.2.1 q s (Or.inl (by omega)), h.2.1 q s hq]
  · rw [c.2.1 132 0 (Or.inl (by omega))]
    exact h.2.2.2
theorem RO.b (h : MR 133 μ A) : RO μ (wI μ 132 0 0) A 0 := RO.of (m_begin h)
theorem MR.ml (h : MR 133 μ A) : Ml 133 μ μ A := ⟨h, fun _ _ _ => rfl, rfl⟩
theorem Good.bdn (h : Good A) {NB NI : Nat} (h1 : a_nb A = NB) (h2 : a_ni A = NI) : Bds NB NI A := h.1.bds (by rw [if_pos rfl]; have := h.1.1.2.2.2; omega) (by omega) (by have := h.1.1.1; omega) (by omega) (by have := h.1.1.2.1; omega)
/-- what foresee answers -/
def forV (A : AS) (b n z : Nat) : Int32 := if z = 0 then nI (lcsA (passA n A) b) else if z = 1 then a_bv (passA n A) b 3 else nI (a_mn (passA n A) (b + 1))
theorem s_foresee (hr : Rel μ A) (x y z : Int32) : ∃ A', Good A' ∧ Step A A' μ (L_foresee 0 x y z 177 μ) (fun μ2 => X8_foresee 132 x y z μ2) := by
  have hG := hr.2.2
  have hI := hG.1
  have h6 := hI.1.1
  have h8 := hI.1.2.1
  have ht4 := hI.1.2.2.2
  have hB := hG.bds
  refine ⟨A, hG, ?_⟩
  unfold L_foresee X6_foresee X8_foresee
  rw [RF01.1, RF01.2.2.2]
  simp only [bV_eq]
  by_cases h1 : ∃ b, b < a_nb A ∧ x = nI b
  · obtain ⟨b, hb, rfl⟩ := h1
    rw [hasB_yes hb hr.1 hB, if_neg one_ne]
    by_cases h2 : (0 : Int32) ≤ z ∧ z ≤ 2
    · obtain ⟨j, rfl, _, hj⟩ := nI_in' (a := 0) (b := 2) rfl rfl (by omega) (by omega) h2
      rw [X6_in h2.1 h2.2, if_neg one_ne]
      by_cases h3 : (1 : Int32) ≤ y ∧ y ≤ 100
      · obtain ⟨n, rfl, hn1, hn2⟩ := nI_in' (a := 1) (b := 100) rfl rfl (by omega) (by omega) h3
        rw [X6_in h3.1 h3.2, if_neg one_ne, rd0 hr.1, nI_add']
        by_cases e : a_t A + n ≤ 400
        · rw [if_neg (show ¬ (400 : Int32) < nI (a_t A + n) from nI_nlt (a := 400) (b := a_t A + n) e (by omega))]
          have gp := hG.pass e
          have fx := passA_fix A n
          obtain ⟨μ1, x1, c1⟩ := c_copy hr.1 hB
          obtain ⟨μ3, x3, c3⟩ := c_goOn isO68 hI e (Nat.le_refl _) h6 (Nat.le_refl _) h8 c1
          have hB3 : Bds (a_nb A) (a_ni A) (passA n A) := gp.bdn fx.1 fx.2.1
          rw [x1]
          simp only [bO1_s]
          rw [x3]
          simp only [bO2_s]
          have ref : ∀ μ2, MR 133 μ2 A → ∃ μ4, Ml 155 (wI μ2 132 0 0) μ4 (passA n A) ∧ ∀ k, (if X8_isBooth 132 (nI b) (wI μ2 132 0 0) = 0 then bP (X8_no 132 1 (wI μ2 132 0 0)) fun r5 μ6 => some (r5, μ6) else if X8_isIn (nI j) 0 2 = 0 then bP (X8_no 132 1 (wI μ2 132 0 0)) fun r33 μ34 => some (r33, μ34) else if X8_isIn (nI n) 1 100 = 0 then bP (X8_no 132 2 (wI μ2 132 0 0)) fun r30 μ31 => some (r30, μ31) else if rI (wI μ2 132 0 0) (RF 132 1) 0 + nI n ≤ 400 then bO1 (X7_become (RF 132 2) (RF 132 1) (wI μ2 132 0 0)) fun μ15 => bO2 (X8_pass (RF 132 2) (nI n) μ15) k else bP (X8_no 132 3 (wI μ2 132 0 0)) fun r27 μ28 => some (r27, μ28)) = k (nI (talkP A 0 n)) μ4 := by
            intro μ2 hm
            have c0 := m_begin hm
            obtain ⟨μ5, x5, c5⟩ := m_become c0
            obtain ⟨μ6, x6, c6⟩ := m_goOn isP155 hI e c5
            refine ⟨μ6, c6, fun k => ?_⟩
            rw [isB_y c0 h6 hb, if_neg one_ne, isIn_in h2.1 h2.2, if_neg one_ne, isIn_in h3.1 h3.2, if_neg one_ne, RF01.2.1, RF01.2.2.1, rq0 c0, nI_add', if_pos (show nI (a_t A + n) ≤ 400 from nI_le (b := 400) e (by omega)), x5]
            simp only [bO1_s]
            rw [x6]
            rfl
          have cb : (nI b).toNatClampNeg = b := nI_clamp (by omega)
          have cb1 : (nI (b + 1)).toNatClampNeg = b + 1 := nI_clamp (by omega)
          have i6 : inb (nI b) 6 = True := inb_T (by omega) (by decide)
          have i7 : inb (nI (b + 1)) 7 = True := inb_T (by omega) (by decide)
          by_cases j0 : j = 0
          · subst j0
            obtain ⟨μ4, x4, e4⟩ := c_came isO68 c3.1 hB3 (gp.words 0).2 hb (gp.words (b + 1)).2
            rw [if_pos (show nI 0 = 0 from rfl), x4]
            simp only [bO2_s, bO3_s]
            rw [if_pos trivial, if_pos in177]
            refine step_ro (v := nI (lcsA (passA n A) b)) rfl (co68 hr.1 c3 e4) (fun μ2 hm => ?_)
            obtain ⟨μ5, c5, hk⟩ := ref μ2 hm
            obtain ⟨μ6, x6, c6⟩ := m_through (b := b) isP155 c5 (by omega) (gp.words 0).1 (gp.words (b + 1)).1
            refine ⟨μ6, Eq.trans (hk _) ?_, (RO.b hm).n c6⟩
            show (if nI 0 = 0 then bO2 (X7_through (RF 132 2) (nI b) μ5) _ else _) = _
            rw [if_pos (show nI 0 = 0 from rfl), RF01.2.2.1, x6]
            rfl
          · have jn : ¬ nI j = 0 := fun y => j0 (nI_inj' (by omega) (by decide) y)
            rw [if_neg jn]
            by_cases j1 : j = 1
            · subst j1
              rw [if_pos (show nI 1 = 1 from rfl), if_pos (in_booths isO68 (by omega)), booth_at isO68 (by omega), rd17 c3.1 hB3 hb]
              simp only [bO3_s]
              rw [if_pos trivial, if_pos in177]
              refine step_ro (v := a_bv (passA n A) b 3) rfl (co68 hr.1 c3 rfl) (fun μ2 hm => ?_)
              obtain ⟨μ5, c5, hk⟩ := ref μ2 hm
              refine ⟨μ5, Eq.trans (hk _) ?_, (RO.b hm).n c5⟩
              show (if nI 1 = 0 then _ else if nI 1 = 1 then (if inb (nI b) (al (RF (RF 132 2) 17)) then some (rI μ5 (RF (RF 132 2) 17) (nI b).toNatClampNeg, μ5) else none) else _) = _
              rw [if_neg jn, if_pos (show nI 1 = 1 from rfl), RF01.2.2.1]
              simp only [pR17 isP155, pA17 isP155, i6, cb, if_true, rq17 c5 (show b < 6 by omega)]
            · have jn1 : ¬ nI j = 1 := fun y => j1 (nI_inj' (a := j) (b := 1) (by omega) (by decide) y)
              rw [if_neg jn1, if_pos (in_booths isO68 (by omega)), booth_at isO68 (by omega), oSp isO68 (by omega), show rI μ3 (68 + spC (b + 1)) 2 = nI (a_mn (passA n A) (b + 1)) from rd23 c3.1 hB3 (by omega)]
              simp only [bO3_s]
              rw [if_pos trivial, if_pos in177]
              refine step_ro (v := nI (a_mn (passA n A) (b + 1))) rfl (co68 hr.1 c3 rfl) (fun μ2 hm => ?_)
              obtain ⟨μ5, c5, hk⟩ := ref μ2 hm
              refine ⟨μ5, Eq.trans (hk _) ?_, (RO.b hm).n c5⟩
              show (if nI j = 0 then _ else if nI j = 1 then _ else (if inb (nI b + 1) (al (RF (RF 132 2) 22)) then some (rI μ5 (RF (RF 132 2) 22) (nI b + 1).toNatClampNeg, μ5) else none)) = _
              rw [if_neg jn, if_neg jn1, RF01.2.2.1]
              simp only [nI_1, pR22 isP155, pA22 isP155, i7, cb1, if_true, rq23 c5 (show b + 1 < 7 by omega)]
        · refine step_no hr 3 ?_ (by decide) (fun μ2 hm => ?_)
          · rw [if_pos (show (400 : Int32) < nI (a_t A + n) from nI_lt (a := 400) (by omega) (by omega))]
            rfl
          · have c0 := m_begin hm
            rw [isB_y c0 h6 hb, if_neg one_ne, isIn_in h2.1 h2.2, if_neg one_ne, isIn_in h3.1 h3.2, if_neg one_ne, RF01.2.1, rq0 c0, nI_add', if_neg (show ¬ nI (a_t A + n) ≤ 400 from nI_ge (a := 400) (by omega) (by omega))]
            rfl
      · refine step_no hr 2 ?_ two_ne (fun μ2 hm => ?_)
        · rw [X6_out h3, if_pos rfl]
          rfl
        · have c0 := m_begin hm
          rw [isB_y c0 h6 hb, if_neg one_ne, isIn_in h2.1 h2.2, if_neg one_ne, isIn_out h3, if_pos rfl]
          rfl
    · refine step_no hr 1 ?_ one_ne (fun μ2 hm => ?_)
      · rw [X6_out h2, if_pos rfl]
        rfl
      · have c0 := m_begin hm
        rw [isB_y c0 h6 hb, if_neg one_ne, isIn_out h2, if_pos rfl]
        rfl
  · refine step_no hr 1 ?_ one_ne (fun μ2 hm => ?_)
    · rw [hasB_n hr.1 h6 h1, if_pos rfl]
      rfl
    · have c0 := m_begin hm
      rw [isB_n c0 h6 h1, if_pos rfl]
      rfl
/-! advise -/
/-- the words that come through when i sits at b -/
def tryV (A : AS) (b n i : Nat) : Int32 := nI (lcsA (passA n (seatA A b (some i))) b)
def advS (A : AS) (b n i : Nat) (v : Int32 × Int32) : Int32 × Int32 := if seatOf (a_sit A) i (a_nb A) = none ∨ seatOf (a_sit A) i (a_nb A) = some b then (if v.2 < tryV A b n i then (nI i, tryV A b n i) else v) else v
def advF (A : AS) (b n : Nat) : Nat → Int32 × Int32
  | 0 => (-1, -1)
  | i + 1 => advS A b n i (advF A b n i)
theorem c_try (h : CR 4 6 8 μ A) (hG : Good A) {b n i : Nat} (hb : b < a_nb A) (hi : i < a_ni A) (e : a_t A + n ≤ 400) : ∃ μ', X6_tryOut 0 (nI b) (nI i) (nI n) μ = some (tryV A b n i, μ') ∧ CO μ μ' A := by
  have h6 := hG.1.1.1
  have h8 := hG.1.1.2.1
  have hgs : Good (seatA A b (some i)) := hG.seat hb (fun j hj => by cases hj; exact hi)
  have gp : Good (passA n (seatA A b (some i))) := hgs.pass e
  have fx := passA_fix (seatA A b (some i)) n
  obtain ⟨μ1, x1, c1⟩ := c_copy h hG.bds
  obtain ⟨μ2, x2, c2⟩ := c_seat (x := some i) isO68 c1 (hG.bdn rfl rfl) hG hb (fun j hj => by cases hj; exact hi)
  obtain ⟨μ3, x3, c3⟩ := c_goOn (A := seatA A b (some i)) isO68 hgs.1 e (Nat.le_refl _) h6 (Nat.le_refl _) h8 c2
  have hB3 : Bds (a_nb A) (a_ni A) (passA n (seatA A b (some i))) := gp.bdn fx.1 fx.2.1
  obtain ⟨μ4, x4, e4⟩ := c_came isO68 c3.1 hB3 (gp.words 0).2 hb (gp.words (b + 1)).2
  refine ⟨μ4, ?_, co68 h c3 e4⟩
  unfold X6_tryOut
  rw [RF01.1, RF01.2.2.2, x1]
  simp only [bO1_s]
  rw [show X5_seat 68 (nI b) (nI i) μ1 = _ from x2]
  simp only [bO2_s]
  rw [x3]
  simp only [bO2_s]
  rw [x4]
  rfl
theorem m_try {b n i : Nat} (h : RO μ2 μ A 0) (hG : Good A) (hb : b < a_nb A) (hi : i < a_ni A) (e : a_t A + n ≤ 400) : ∃ μ', RO μ2 μ' A 0 ∧ ∀ k : Int32 → MM → Option (Int32 × MM), bO1 (X7_become (RF 132 2) (RF 132 1) μ) (fun μ13 => bO1 (X7_sit (RF 132 2) (nI b) (nI i) μ13) (fun μ15 => bO2 (X8_pass (RF 132 2) (nI n) μ15) (fun r17 μ18 => bO2 (X7_through (RF 132 2) (nI b) μ18) k))) = k (tryV A b n i) μ' := by
  have h6 := hG.1.1.1
  have hgs : Good (seatA A b (some i)) := hG.seat hb (fun j hj => by cases hj; exact hi)
  have gp : Good (passA n (seatA A b (some i))) := hgs.pass e
  obtain ⟨μ1, x1, c1⟩ := m_become h.1.ml
  obtain ⟨μ3, x3, c3⟩ := m_seat (x := some i) isP155 c1 hG hb (fun j hj => by cases hj; exact hi)
  obtain ⟨μ4, x4, c4⟩ := m_goOn (A := seatA A b (some i)) isP155 hgs.1 e c3
  obtain ⟨μ5, x5, c5⟩ := m_through (b := b) isP155 c4 (by omega) (gp.words 0).1 (gp.words (b + 1)).1
  refine ⟨μ5, h.n c5, fun k => ?_⟩
  rw [RF01.2.1, RF01.2.2.1, x1]
  simp only [bO1_s]
  rw [show X7_sit 155 (nI b) (nI i) μ1 = some μ3 from x3]
  simp only [bO1_s]
  rw [x4]
  simp only [bO2_s]
  rw [x5]
  rfl
theorem c_adv (hG : Good A) {b n : Nat} (hb : b < a_nb A) (e : a_t A + n ≤ 400) : ∀ d i f μ', i + d = a_ni A → d < f → CO μ μ' A → ∃ μ'', X6_advise_L52 0 (nI b) (nI n) f (advF A b n i).1 (advF A b n i).2 (nI i) μ' = some ((advF A b n (a_ni A)).1, μ'') ∧ CO μ μ'' A := by
  have h6 := hG.1.1.1
  have h8 := hG.1.1.2.1
  have hB := hG.bds
  intro d
  induction d with
  | zero =>
    intro i f μ' hi hf h
    obtain ⟨g, rfl⟩ : ∃ g, f = g + 1 := ⟨f - 1, by omega⟩
    have ei : i = a_ni A := by omega
    subst ei
    rw [X6_advise_L52_s, RF01.1, rd3 h.1, if_pos (nI_le (Nat.le_refl _) (by omega))]
    exact ⟨μ', rfl, h⟩
  | succ d ih =>
    intro i f μ' hi hf h
    obtain ⟨g, rfl⟩ : ∃ g, f = g + 1 := ⟨f - 1, by omega⟩
    have hib : i < a_ni A := by omega
    have hsl : ∀ s, seatOf (a_sit A) i (a_nb A) = some s → s < 100 := fun s hs => by have := seat_lt _ s hs; omega
    have en1 := enc_none (x := seatOf (a_sit A) i (a_nb A)) (n := 100) hsl (by omega)
    have en2 := enc_nI (x := seatOf (a_sit A) i (a_nb A)) (i := b) hsl (by omega)
    rw [X6_advise_L52_s, RF01.1, rd3 h.1, if_neg (nI_ge (by omega) (by omega)), if_pos (in_ints isO4 (by omega)), int_at isO4 (by omega), rd26 h.1 hB (by omega)]
    simp only [bV_eq]
    obtain ⟨μ1, x1, c1⟩ := c_try h.1 hG hb hib e
    have hco : CO μ μ1 A := h.t c1
    have eF : advF A b n (i + 1) = advS A b n i (advF A b n i) := rfl
    have yes : seatOf (a_sit A) i (a_nb A) = none ∨ seatOf (a_sit A) i (a_nb A) = some b → ∃ μ'', bO2 (X6_tryOut 0 (nI b) (nI i) (nI n) μ') (fun r14 μ15 => if r14 ≤ (advF A b n i).2 then X6_advise_L52 0 (nI b) (nI n) g (advF A b n i).1 (advF A b n i).2 (nI i + 1) μ15 else X6_advise_L52 0 (nI b) (nI n) g (nI i) r14 (nI i + 1) μ15) = some ((advF A b n (a_ni A)).1, μ'') ∧ CO μ μ'' A := by
      intro hy
      have eS : advS A b n i (advF A b n i) = if (advF A b n i).2 < tryV A b n i then (nI i, tryV A b n i) else advF A b n i := if_pos hy
      rw [x1]
      simp only [bO2_s]
      rw [nI_1]
      by_cases el : tryV A b n i ≤ (advF A b n i).2
      · rw [if_pos el]
        rw [if_neg (Int32.not_lt.mpr el)] at eS
        have := ih (i + 1) g μ1 (by omega) (by omega) hco
        rw [eF, eS] at this
        exact this
      · rw [if_neg el]
        rw [if_pos (Int32.not_le.mp el)] at eS
        have := ih (i + 1) g μ1 (by omega) (by omega) hco
        rw [eF, eS] at this
        exact this
    by_cases e1 : seatOf (a_sit A) i (a_nb A) = none
    · rw [if_pos (en1.mpr e1)]
      exact yes (Or.inl e1)
    · rw [if_neg (fun z => e1 (en1.mp z))]
      by_cases e2 : seatOf (a_sit A) i (a_nb A) = some b
      · rw [if_pos (en2.mpr e2)]
        exact yes (Or.inr e2)
      · rw [if_neg (fun z => e2 (en2.mp z)), nI_1]
        have eS : advS A b n i (advF A b n i) = advF A b n i := if_neg (fun z => z.elim e1 e2)
        have := ih (i + 1) g μ' (by omega) (by omega) h
        rw [eF, eS] at this
        exact this
theorem m_adv (hG : Good A) {b n : Nat} (hb : b < a_nb A) (e : a_t A + n ≤ 400) : ∀ d i f μ', i + d = a_ni A → d < f → RO μ2 μ' A 0 → ∃ μ'', X8_advise_L64 132 (nI b) (nI n) f (advF A b n i).1 (advF A b n i).2 (nI i) μ' = some ((advF A b n (a_ni A)).1, μ'') ∧ RO μ2 μ'' A 0 := by
  have h6 := hG.1.1.1
  have h8 := hG.1.1.2.1
  intro d
  induction d with
  | zero =>
    intro i f μ' hi hf h
    obtain ⟨g, rfl⟩ : ∃ g, f = g + 1 := ⟨f - 1, by omega⟩
    have ei : i = a_ni A := by omega
    subst ei
    rw [X8_advise_L64_s, RF01.2.1, rq3 h.1.ml, if_pos (nI_le (Nat.le_refl _) (by omega))]
    exact ⟨μ', rfl, h⟩
  | succ d ih =>
    intro i f μ' hi hf h
    obtain ⟨g, rfl⟩ : ∃ g, f = g + 1 := ⟨f - 1, by omega⟩
    have hib : i < a_ni A := by omega
    have hsl : ∀ s, seatOf (a_sit A) i (a_nb A) = some s → s < 100 := fun s hs => by have := seat_lt _ s hs; omega
    have en1 := enc_none (x := seatOf (a_sit A) i (a_nb A)) (n := 100) hsl (by omega)
    have en2 := enc_nI (x := seatOf (a_sit A) i (a_nb A)) (i := b) hsl (by omega)
    have hbo : X7_boothOf (RF 132 1) (nI i) μ' = some (encO (seatOf (a_sit A) i (a_nb A))) := by
      rw [RF01.2.1]
      exact m_boothOf isP133 h.1.ml hG.1.2.1 h6 h8 (i := i) (by omega)
    rw [X8_advise_L64_s]
    rw [show rI μ' (RF 132 1) 4 = nI (a_ni A) by rw [RF01.2.1]; exact rq3 h.1.ml, if_neg (nI_ge (by omega) (by omega)), hbo]
    simp only [bO1_s]
    obtain ⟨μ1, c1, hk⟩ := m_try h hG hb hib e
    have eF : advF A b n (i + 1) = advS A b n i (advF A b n i) := rfl
    have yes : seatOf (a_sit A) i (a_nb A) = none ∨ seatOf (a_sit A) i (a_nb A) = some b → ∃ μ'', (if (advF A b n i).2 < tryV A b n i then bV (nI i + 1) (fun x24 => X8_advise_L64 132 (nI b) (nI n) g (nI i) (tryV A b n i) x24 μ1) else bV (nI i + 1) (fun x25 => X8_advise_L64 132 (nI b) (nI n) g (advF A b n i).1 (advF A b n i).2 x25 μ1)) = some ((advF A b n (a_ni A)).1, μ'') ∧ RO μ2 μ'' A 0 := by
      intro hy
      have eS : advS A b n i (advF A b n i) = if (advF A b n i).2 < tryV A b n i then (nI i, tryV A b n i) else advF A b n i := if_pos hy
      simp only [bV_eq]
      rw [nI_1]
      by_cases el : (advF A b n i).2 < tryV A b n i
      · rw [if_pos el]
        rw [if_pos el] at eS
        have := ih (i + 1) g μ1 (by omega) (by omega) c1
        rw [eF, eS] at this
        exact this
      · rw [if_neg el]
        rw [if_neg el] at eS
        have := ih (i + 1) g μ1 (by omega) (by omega) c1
        rw [eF, eS] at this
        exact this
    by_cases e1 : seatOf (a_sit A) i (a_nb A) = none
    · rw [if_pos (en1.mpr e1), hk]
      exact yes (Or.inl e1)
    · rw [if_neg (fun z => e1 (en1.mp z))]
      by_cases e2 : seatOf (a_sit A) i (a_nb A) = some b
      · rw [if_pos (en2.mpr e2), hk]
        exact yes (Or.inr e2)
      · rw [if_neg (fun z => e2 (en2.mp z))]
        simp only [bV_eq]
        rw [nI_1]
        have eS : advS A b n i (advF A b n i) = advF A b n i := if_neg (fun z => z.elim e1 e2)
        have := ih (i + 1) g μ' (by omega) (by omega) h
        rw [eF, eS] at this
        exact this
theorem s_advise (hr : Rel μ A) (x y : Int32) : ∃ A', Good A' ∧ Step A A' μ (L_advise 0 x y 177 μ) (fun μ2 => X8_advise 132 x y μ2) := by
  have hG := hr.2.2
  have hI := hG.1
  have h6 := hI.1.1
  have h8 := hI.1.2.1
  have ht4 := hI.1.2.2.2
  have hB := hG.bds
  refine ⟨A, hG, ?_⟩
  unfold L_advise X6_advise X8_advise
  rw [RF01.1]
  simp only [bV_eq]
  by_cases h1 : ∃ b, b < a_nb A ∧ x = nI b
  · obtain ⟨b, hb, rfl⟩ := h1
    rw [hasB_yes hb hr.1 hB, if_neg one_ne]
    by_cases h3 : (1 : Int32) ≤ y ∧ y ≤ 40
    · obtain ⟨n, rfl, hn1, hn2⟩ := nI_in' (a := 1) (b := 40) rfl rfl (by omega) (by omega) h3
      rw [X6_in h3.1 h3.2, if_neg one_ne, rd0 hr.1, nI_add']
      by_cases e : a_t A + n ≤ 400
      · rw [if_neg (show ¬ (400 : Int32) < nI (a_t A + n) from nI_nlt (a := 400) (b := a_t A + n) e (by omega))]
        obtain ⟨μ1, x1, c1⟩ := c_adv (μ := μ) hG hb e (a_ni A) 0 1000 μ (by omega) (by omega) (CO.of hr.cl)
        rw [← nI0] at x1
        rw [show X6_advise_L52 0 (nI b) (nI n) 1000 (-1) (-1) 0 μ = _ from x1]
        simp only [bO2_s, bO3_s]
        rw [if_pos trivial, if_pos in177]
        refine step_ro (v := (advF A b n (a_ni A)).1) rfl c1 (fun μ2 hm => ?_)
        have c0 := m_begin hm
        obtain ⟨μ3, x3, c3⟩ := m_adv (μ2 := μ2) hG hb e (a_ni A) 0 1000 (wI μ2 132 0 0) (by omega) (by omega) (RO.b hm)
        rw [← nI0] at x3
        rw [isB_y c0 h6 hb, if_neg one_ne, isIn_in h3.1 h3.2, if_neg one_ne, RF01.2.1, rq0 c0, nI_add', if_pos (show nI (a_t A + n) ≤ 400 from nI_le (b := 400) e (by omega)), show X8_advise_L64 132 (nI b) (nI n) 1000 (-1) (-1) 0 (wI μ2 132 0 0) = _ from x3]
        exact ⟨_, rfl, c3⟩
      · refine step_no hr 3 ?_ (by decide) (fun μ2 hm => ?_)
        · rw [if_pos (show (400 : Int32) < nI (a_t A + n) from nI_lt (a := 400) (by omega) (by omega))]
          rfl
        · have c0 := m_begin hm
          rw [isB_y c0 h6 hb, if_neg one_ne, isIn_in h3.1 h3.2, if_neg one_ne, RF01.2.1, rq0 c0, nI_add', if_neg (show ¬ nI (a_t A + n) ≤ 400 from nI_ge (a := 400) (by omega) (by omega))]
          rfl
    · refine step_no hr 2 ?_ two_ne (fun μ2 hm => ?_)
      · rw [X6_out h3, if_pos rfl]
        rfl
      · have c0 := m_begin hm
        rw [isB_y c0 h6 hb, if_neg one_ne, isIn_out h3, if_pos rfl]
        rfl
  · refine step_no hr 1 ?_ one_ne (fun μ2 hm => ?_)
    · rw [hasB_n hr.1 h6 h1, if_pos rfl]
      rfl
    · have c0 := m_begin hm
      rw [isB_n c0 h6 h1, if_pos rfl]
      rfl
end FS
