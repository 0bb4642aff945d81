/-! said, interpreter, count. -/
theorem s_saidGo {μ : MM} {A : AS} (hr : Rel μ A) {xo : Option Nat} (hx : ∀ b, xo = some b → b < a_nb A) (y z : Int32) : Step A A μ (bO2 (bO1 (X5_speechOf 4 (encO xo) μ) (fun r3 =>
if (X6_isWithin y (0 : Int32) ((rI μ r3 2) - (1 : Int32))) = 0 then
some (3, (0 : Int32))
else
if z = 0 then
bO1 (X4_wordAt r3 y μ) (fun r9 =>
some (0, r9))
else
bO1 (X4_tickAt r3 y μ) (fun r11 =>
some (0, r11)))) (fun kd r1 =>
if kd = 0 then
if inb (0 : Int32) (al 177) then
bV (wL μ 177 (0 : Int32).toNatClampNeg r1.toInt64) (fun μ2 =>
some ((0 : Int32), μ2))
else none
else if kd = 3 then
some ((1 : Int32), μ)
else none)) (fun μ2 => if inb (encO xo + (1 : Int32)) (al (RF (RF 132 1) 22)) then
if (X8_isIn y (0 : Int32) ((rI (wI μ2 132 0 0) (RF (RF 132 1) 22) (encO xo + (1 : Int32)).toNatClampNeg) - (1 : Int32))) = 0 then
bP (X8_no 132 (1 : Int32) (wI μ2 132 0 0)) (fun r10 μ11 =>
some (r10, μ11))
else
if z = 0 then
if inb (((400 : Int32) * (encO xo + (1 : Int32))) + y) (al (RF (RF 132 1) 23)) then
some (rI (wI μ2 132 0 0) (RF (RF 132 1) 23) (((400 : Int32) * (encO xo + (1 : Int32))) + y).toNatClampNeg, (wI μ2 132 0 0))
else none
else
if inb (((400 : Int32) * (encO xo + (1 : Int32))) + y) (al (RF (RF 132 1) 24)) then
some (rI (wI μ2 132 0 0) (RF (RF 132 1) 24) (((400 : Int32) * (encO xo + (1 : Int32))) + y).toNatClampNeg, (wI μ2 132 0 0))
else none
else none) := by
  have hG := hr.2.2
  have hI := hG.1
  have h6 := hI.1.1
  have ht4 := hI.1.2.2.2
  have hB := hG.bds
  have ha : placeOf xo < 7 := by
    cases xo with
    | none => exact Nat.succ_pos _
    | some b => exact Nat.succ_lt_succ (Nat.lt_of_lt_of_le (hx b rfl) h6)
  have hm : a_mn A (placeOf xo) ≤ 400 := by
    have := (hI.2.2.2.2.2 (placeOf xo)).1
    rw [if_neg (by omega)] at this
    omega
  have r2 : rI μ (4 + spC (placeOf xo)) 2 = nI (a_mn A (placeOf xo)) := rd23 hr.1 hB ha
  rw [speech_ok hx isO4 hr.1 hB, enc1]
  simp only [bO1_s]
  rw [r2]
  have ca : (nI (placeOf xo)).toNatClampNeg = placeOf xo := nI_clamp (by omega)
  have j7 : inb (nI (placeOf xo)) 7 = True := inb_T ha (by decide)
  by_cases h1 : ∃ k, k < a_mn A (placeOf xo) ∧ y = nI k
  · obtain ⟨k, hk, rfl⟩ := h1
    have hin := bo_in hk (n := a_mn A (placeOf xo)) 
    have hin2 : (0 : Int32) ≤ nI k ∧ nI k ≤ nI (a_mn A (placeOf xo)) - 1 := by
      rw [nI_pred' (by omega)]
      exact ⟨nI_le (a := 0) (Nat.zero_le _) (by omega), nI_le (by omega) (by omega)⟩
    have ck : (nI (400 * placeOf xo + k)).toNatClampNeg = 400 * placeOf xo + k := nI_clamp (by omega)
    have jk : inb (nI (400 * placeOf xo + k)) 2800 = True := inb_T (by omega) (by decide)
    rw [X6_in hin2.1 hin2.2, if_neg one_ne]
    by_cases ez : z = 0
    · rw [if_pos ez, X4_word_ok r2 hk (by rw [oS0 isO4 ha, oSa0 isO4 ha]; exact hm) (by rw [oS0 isO4 ha, oSa0 isO4 ha]; decide), oS0 isO4 ha, rd24 hr.1 hB ha hk]
      simp only [bO1_s, bO2_s]
      rw [if_pos trivial, if_pos in177]
      refine step_yes (v := a_sw A (placeOf xo) k) rfl (CO.of hr.cl) (fun μ2 hm2 => ?_)
      have c0 := m_begin hm2
      rw [RF01.2.1]
      simp only [pR22 isP133, pA22 isP133, pR23 isP133, pA23 isP133, j7, ca, if_true, rq23 c0 ha, ix400, ck, jk, rq24 c0 ha hk hm]
      rw [isIn_in hin2.1 hin2.2, if_neg one_ne, if_pos ez]
      exact ⟨_, rfl, c0⟩
    · rw [if_neg ez, X4_tick_ok r2 hk (by rw [oS1 isO4 ha, oSa1 isO4 ha]; exact hm) (by rw [oS1 isO4 ha, oSa1 isO4 ha]; decide), oS1 isO4 ha, rd25 hr.1 hB ha hk]
      simp only [bO1_s, bO2_s]
      rw [if_pos trivial, if_pos in177]
      refine step_yes (v := a_st A (placeOf xo) k) rfl (CO.of hr.cl) (fun μ2 hm2 => ?_)
      have c0 := m_begin hm2
      rw [RF01.2.1]
      simp only [pR22 isP133, pA22 isP133, pR24 isP133, pA24 isP133, j7, ca, if_true, rq23 c0 ha, ix400, ck, jk, rq25 c0 ha hk hm]
      rw [isIn_in hin2.1 hin2.2, if_neg one_ne, if_neg ez]
      exact ⟨_, rfl, c0⟩
  · have hout : ¬ (0 ≤ y ∧ y ≤ nI (a_mn A (placeOf xo)) - 1) := by
      intro z
      rcases Nat.eq_zero_or_pos (a_mn A (placeOf xo)) with e | e
      · rw [e] at z
        have h2 := Int32.le_trans z.1 z.2
        exact absurd h2 (by decide)
      · rw [nI_pred' e] at z
        obtain ⟨b, hb, _, hb2⟩ := nI_in' (a := 0) (b := a_mn A (placeOf xo) - 1) rfl rfl (by omega) (by omega) z
        exact h1 ⟨b, by omega, hb⟩
    refine step_no hr 1 ?_ one_ne (fun μ2 hm2 => ?_)
    · rw [X6_out hout, if_pos rfl]
      rfl
    · have c0 := m_begin hm2
      rw [RF01.2.1]
      simp only [pR22 isP133, pA22 isP133, j7, ca, if_true, rq23 c0 ha]
      rw [isIn_out hout, if_pos rfl]
      rfl
theorem s_said {μ : MM} {A : AS} (hr : Rel μ A) (x y z : Int32) : ∃ A', Good A' ∧ Step A A' μ (L_said 0 x y z 177 μ) (fun μ2 => X8_said 132 x y z μ2) := by
  have hG := hr.2.2
  have hI := hG.1
  have h6 := hI.1.1
  have hB := hG.bds
  refine ⟨A, hG, ?_⟩
  unfold L_said X6_said X8_said
  rw [RF01.1]
  simp only [bV_eq]
  by_cases h2 : x = -1
  · subst h2
    obtain ⟨r, v, μ1, t1, t2, t3, t4⟩ := s_saidGo hr (xo := none) (fun s h => by cases h) y z
    refine ⟨r, v, μ1, ?_, t2, t3, fun μ2 hm => ?_⟩
    · rw [if_pos rfl]
      exact t1
    · obtain ⟨v2, μ3, u1, u2⟩ := t4 μ2 hm
      exact ⟨v2, μ3, Eq.trans (if_pos rfl) u1, u2⟩
  · rw [if_neg h2]
    by_cases h1 : ∃ b, b < a_nb A ∧ x = nI b
    · obtain ⟨b, hb, rfl⟩ := h1
      obtain ⟨r, v, μ1, t1, t2, t3, t4⟩ := s_saidGo hr (xo := some b) (fun s h => by cases h; exact hb) y z
      refine ⟨r, v, μ1, ?_, t2, t3, fun μ2 hm => ?_⟩
      · rw [hasB_yes hb hr.1 hB, if_neg one_ne]
        exact t1
      · have c0 := m_begin hm
        obtain ⟨v2, μ3, u1, u2⟩ := t4 μ2 hm
        refine ⟨v2, μ3, Eq.trans (if_neg h2) ?_, u2⟩
        rw [isB_y c0 h6 hb, if_neg one_ne]
        exact u1
    · refine step_no hr 1 ?_ one_ne (fun μ2 hm => ?_)
      · rw [hasB_n hr.1 h6 h1, if_pos rfl]
        rfl
      · have c0 := m_begin hm
        refine Eq.trans (if_neg h2) ?_
        rw [isB_n c0 h6 h1, if_pos rfl]
        rfl
def tellI (A : AS) (i : Nat) : Nat → Int32
  | 0 => a_iv A i 0
  | 1 => a_iv A i 1
  | 2 => encO (seatOf (a_sit A) i (a_nb A))
  | 3 => a_iv A i 2
  | 4 => a_iv A i 3
  | 5 => a_iv A i 4
  | _ => a_iv A i 5
theorem c_tellI {o : Nat} {μ : MM} {A : AS} {i : Nat} (h : CR o 6 8 μ A) (hB : Bds 6 8 A) (hi : i < 8) : ∀ j, j < 7 → X2_tell (o + (56 + i)) (nI j) μ = tellI A i j := by
  intro j hj
  unfold X2_tell
  rw [rd6 h hB hi, rd7 h hB hi, rd8 h hB hi, rd9 h hB hi, rd10 h hB hi, rd11 h hB hi, rd26 h hB hi]
  match j, hj with
  | 0, _ => rfl
  | 1, _ => rfl
  | 2, _ => rfl
  | 3, _ => rfl
  | 4, _ => rfl
  | 5, _ => rfl
  | 6, _ => rfl
theorem m_tellI {ρ μ : MM} {A : AS} {i : Nat} (h : Ml 133 ρ μ A) (hs : Seats A) (h6 : a_nb A ≤ 6) (h8 : a_ni A ≤ 8) (hi : i < 8) : ∀ j, j < 7 → X8_interpreterTold 132 (nI i) (nI j) μ = some (tellI A i j) := by
  intro j hj
  have ci : (nI i).toNatClampNeg = i := nI_clamp (by omega)
  have j8 : inb (nI i) 8 = True := inb_T hi (by decide)
  have j7 : inb (nI j) 7 = True := inb_T hj (by decide)
  unfold X8_interpreterTold
  rw [RF01.2.1, m_boothOf isP133 h hs h6 h8 hi]
  simp only [bO1_s, pR5 isP133, pA5 isP133, pR6 isP133, pA6 isP133, pR7 isP133, pA7 isP133, pR8 isP133, pA8 isP133, pR9 isP133, pA9 isP133, pR10 isP133, pA10 isP133, ci, j8, j7, if_true, rq6 h hi, rq7 h hi, rq8 h hi, rq9 h hi, rq10 h hi, rq11 h hi]
  congr 1
  match j, hj with
  | 0, _ => rfl
  | 1, _ => rfl
  | 2, _ => rfl
  | 3, _ => rfl
  | 4, _ => rfl
  | 5, _ => rfl
  | 6, _ => rfl
theorem s_interpreter {μ : MM} {A : AS} (hr : Rel μ A) (x y : Int32) : ∃ A', Good A' ∧ Step A A' μ (L_interpreter 0 x y 177 μ) (fun μ2 => X8_interpreter 132 x y μ2) := by
  have hG := hr.2.2
  have hI := hG.1
  have h6 := hI.1.1
  have h8 := hI.1.2.1
  have hB := hG.bds
  refine ⟨A, hG, ?_⟩
  unfold L_interpreter X6_interpreter X8_interpreter
  rw [RF01.1]
  simp only [bV_eq]
  by_cases h1 : ∃ b, b < a_ni A ∧ x = nI b
  · obtain ⟨i, hi, rfl⟩ := h1
    have e := hasI_O (o := 4) (x := some i) (fun s' h => by cases h; exact hi) hr.1 hB
    rw [if_neg (some_ne i)] at e
    rw [show X5_hasInterpreter 4 (nI i) μ = 1 from e, if_neg one_ne]
    by_cases h2 : (0 : Int32) ≤ y ∧ y ≤ 6
    · obtain ⟨j, rfl, _, hj⟩ := nI_in' (a := 0) (b := 6) rfl rfl (by omega) (by omega) h2
      rw [X6_in h2.1 h2.2, if_neg one_ne, if_pos (in_ints isO4 (by omega)), int_at isO4 (by omega), c_tellI hr.1 hB (by omega) j (by omega)]
      simp only [bO2_s]
      rw [if_pos trivial, if_pos in177]
      refine step_yes (v := tellI A i j) rfl (CO.of hr.cl) (fun μ2 hm2 => ?_)
      have c0 := m_begin hm2
      rw [isI_y c0 h8 hi, if_neg one_ne, isIn_in h2.1 h2.2, if_neg one_ne, m_tellI c0 hI.2.1 h6 h8 (by omega) j (by omega)]
      exact ⟨_, rfl, c0⟩
    · refine step_no hr 1 ?_ one_ne (fun μ2 hm => ?_)
      · rw [X6_out h2, if_pos rfl]
        rfl
      · have c0 := m_begin hm
        rw [isI_y c0 h8 hi, if_neg one_ne, isIn_out h2, if_pos rfl]
        rfl
  · refine step_no hr 1 ?_ one_ne (fun μ2 hm => ?_)
    · rw [hasI_n hr.1 h8 h1, if_pos rfl]
      rfl
    · have c0 := m_begin hm
      rw [isI_n c0 h8 h1, if_pos rfl]
      rfl
