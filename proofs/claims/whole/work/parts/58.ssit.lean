/-! sit and swap: the calls. -/
theorem s_sitGo {μ : MM} {A : AS} (hr : Rel μ A) {b : Nat} (hb : b < a_nb A) {x : Option Nat} (hx : ∀ i, x = some i → i < a_ni A) : Good (seatA A b x) ∧ Step A (seatA A b x) μ (bO3 (bO2 (X5_seat 4 (nI b) (encO x) μ) (fun r7 μ8 =>
some (0, r7, μ8))) (fun kd r1 μ1 =>
if kd = 0 then
if inb (0 : Int32) (al 177) then
bV (wL μ1 177 (0 : Int32).toNatClampNeg r1.toInt64) (fun μ2 =>
some ((0 : Int32), μ2))
else none
else if kd = 3 then
some ((1 : Int32), μ1)
else none)) (fun μ2 => if inb (nI b) (al (RF (RF 132 1) 16)) then
bV (rI (wI μ2 132 0 0) (RF (RF 132 1) 16) (nI b).toNatClampNeg) (fun x10 =>
bO1 (X7_sit (RF 132 1) (nI b) (encO x) (wI μ2 132 0 0)) (fun μ11 =>
some (x10, μ11)))
else none) := by
  have hG := hr.2.2
  have h6 := hG.1.1.1
  have cb : (nI b).toNatClampNeg = b := nI_clamp (by omega)
  have j6 : inb (nI b) 6 = True := inb_T (by omega) (by decide)
  refine ⟨hG.seat hb hx, ?_⟩
  obtain ⟨μ1, x1, c1⟩ := c_seat isO4 hr.cl hG.bds hG hb hx
  rw [x1]
  simp only [bO2_s, bO3_s]
  rw [if_pos trivial, if_pos in177]
  refine step_yes (v := encO (a_sit A b)) rfl (CO.of c1) (fun μ2 hm => ?_)
  have c0 := m_begin hm
  obtain ⟨μ3, x3, c3⟩ := m_seat isP133 c0 hG hb hx
  rw [RF01.2.1, x3]
  simp only [pR16 isP133, pA16 isP133, j6, cb, if_true, bV_eq, rq16 c0 (show b < 6 by omega) hb, bO1_s]
  exact ⟨_, rfl, c3⟩
theorem t_sit {μ : MM} {A : AS} (hr : Rel μ A) (x y : Int32) : ∃ A', Good A' ∧ Step A A' μ (L_sit 0 x y 177 μ) (fun μ2 => X8_sit 132 x y μ2) := by
  have hG := hr.2.2
  have hI := hG.1
  have h6 := hI.1.1
  have h8 := hI.1.2.1
  have hB := hG.bds
  unfold L_sit X6_sit X8_sit
  rw [RF01.1]
  simp only [bV_eq]
  by_cases h1 : ∃ b, b < a_nb A ∧ x = nI b
  · obtain ⟨b, hb, rfl⟩ := h1
    rw [hasB_yes hb hr.1 hB, if_neg one_ne]
    by_cases h2 : y = -1
    · subst h2
      obtain ⟨hg, r, v, μ1, t1, t2, t3, t4⟩ := s_sitGo hr hb (x := none) (fun s h => by cases h)
      refine ⟨_, hg, r, v, μ1, ?_, t2, t3, fun μ2 hm => ?_⟩
      · rw [if_pos rfl]
        exact t1
      · have c0 := m_begin hm
        obtain ⟨v2, μ3, u1, u2⟩ := t4 μ2 hm
        refine ⟨v2, μ3, ?_, u2⟩
        show (if X8_isBooth 132 (nI b) (wI μ2 132 0 0) = 0 then _ else _) = _
        rw [isB_y c0 h6 hb, if_neg one_ne, if_pos rfl]
        exact u1
    · rw [if_neg h2]
      by_cases h3 : ∃ s, s < a_ni A ∧ y = nI s
      · obtain ⟨s, hs, rfl⟩ := h3
        obtain ⟨hg, r, v, μ1, t1, t2, t3, t4⟩ := s_sitGo hr hb (x := some s) (fun s' h => by cases h; exact hs)
        refine ⟨_, hg, r, v, μ1, ?_, t2, t3, fun μ2 hm => ?_⟩
        · have e := hasI_O (o := 4) (x := some s) (fun s' h => by cases h; exact hs) hr.1 hB
          rw [if_neg (some_ne s)] at e
          rw [show X5_hasInterpreter 4 (nI s) μ = 1 from e, if_neg one_ne]
          exact t1
        · have c0 := m_begin hm
          obtain ⟨v2, μ3, u1, u2⟩ := t4 μ2 hm
          refine ⟨v2, μ3, ?_, u2⟩
          show (if X8_isBooth 132 (nI b) (wI μ2 132 0 0) = 0 then _ else _) = _
          rw [isB_y c0 h6 hb, if_neg one_ne, if_neg h2, isI_y c0 h8 hs, if_neg one_ne]
          exact u1
      · refine ⟨A, hG, step_no hr 1 ?_ one_ne (fun μ2 hm => ?_)⟩
        · rw [hasI_n hr.1 h8 h3, if_pos rfl]
          rfl
        · have c0 := m_begin hm
          show (if X8_isBooth 132 (nI b) (wI μ2 132 0 0) = 0 then _ else _) = _
          rw [isB_y c0 h6 hb, if_neg one_ne, if_neg h2, isI_n c0 h8 h3, if_pos rfl]
          rfl
  · refine ⟨A, hG, step_no hr 1 ?_ one_ne (fun μ2 hm => ?_)⟩
    · rw [hasB_n hr.1 h6 h1, if_pos rfl]
      rfl
    · have c0 := m_begin hm
      show (if X8_isBooth 132 x (wI μ2 132 0 0) = 0 then _ else _) = _
      rw [isB_n c0 h6 h1, if_pos rfl]
      rfl
/-- two booths change their sitters -/
def swapA (A : AS) (b c : Nat) : AS := s_sit A (up1 (up1 (a_sit A) b (a_sit A c)) c (a_sit A b))
theorem swap_eq {A : AS} (hu : Uniq A) {b c : Nat} (hb : b < a_nb A) (hc : c < a_nb A) (hne : b ≠ c) : seatA (seatA (seatA A b none) c (a_sit A b)) b (a_sit A c) = swapA A b c := by
  have f1 : ∀ d, d ≠ b → seatF A b none d = a_sit A d := by
    intro d hd
    by_cases e : d < a_nb A ∧ a_sit A d = none
    · rw [sF_o hd e.1 e.2, e.2]
    · rw [sF_n hd e]
  have f2b : seatF (seatA A b none) c (a_sit A b) b = none := by
    have e0 : a_sit (seatA A b none) b = none := sF_b A b none
    by_cases e : b < a_nb (seatA A b none) ∧ a_sit (seatA A b none) b = a_sit A b
    · rw [sF_o hne e.1 e.2]
    · rw [sF_n hne e, e0]
  have f2 : ∀ d, d ≠ b → d ≠ c → seatF (seatA A b none) c (a_sit A b) d = a_sit A d := by
    intro d hd hd2
    have e0 : a_sit (seatA A b none) d = a_sit A d := f1 d hd
    by_cases e : d < a_nb (seatA A b none) ∧ a_sit (seatA A b none) d = a_sit A b
    · rw [sF_o hd2 e.1 e.2]
      rw [e0] at e
      cases hx : a_sit A b with
      | none => rw [e.2, hx]
      | some i => exact absurd (hu d b i e.1 hb (e.2.trans hx) hx) hd
    · rw [sF_n hd2 e, e0]
  unfold swapA
  show s_sit A (seatF (seatA (seatA A b none) c (a_sit A b)) b (a_sit A c)) = _
  congr 1
  funext d
  by_cases e : d = b
  · rw [e, sF_b, up1_n _ _ hne, up1_s]
  · by_cases e2 : d = c
    · subst e2
      rw [up1_s]
      have e0 : a_sit (seatA (seatA A b none) d (a_sit A b)) d = a_sit A b := sF_b _ _ _
      by_cases e3 : d < a_nb (seatA (seatA A b none) d (a_sit A b)) ∧ a_sit (seatA (seatA A b none) d (a_sit A b)) d = a_sit A d
      · rw [sF_o e e3.1 e3.2]
        rw [e0] at e3
        cases hx : a_sit A b with
        | none => rfl
        | some i => exact absurd (hu b d i hb hc hx (e3.2.symm.trans hx)) hne
      · rw [sF_n e e3, e0]
    · rw [up1_n _ _ e2, up1_n _ _ e]
      have e0 : a_sit (seatA (seatA A b none) c (a_sit A b)) d = a_sit A d := f2 d e e2
      by_cases e3 : d < a_nb (seatA (seatA A b none) c (a_sit A b)) ∧ a_sit (seatA (seatA A b none) c (a_sit A b)) d = a_sit A c
      · rw [sF_o e e3.1 e3.2]
        rw [e0] at e3
        cases hx : a_sit A c with
        | none => rw [e3.2, hx]
        | some i => exact absurd (hu d c i e3.1 hc (e3.2.trans hx) hx) e2
      · rw [sF_n e e3, e0]
theorem s_swap {μ : MM} {A : AS} (hr : Rel μ A) (x y : Int32) : ∃ A', Good A' ∧ Step A A' μ (L_swap 0 x y 177 μ) (fun μ2 => X8_swap 132 x y μ2) := by
  have hG := hr.2.2
  have hI := hG.1
  have h6 := hI.1.1
  have h8 := hI.1.2.1
  have hs := hI.2.1
  have hB := hG.bds
  unfold L_swap X6_swap X8_swap
  rw [RF01.1]
  simp only [bV_eq]
  by_cases h1 : ∃ b, b < a_nb A ∧ x = nI b
  · obtain ⟨b, hb, rfl⟩ := h1
    rw [hasB_yes hb hr.1 hB, if_neg one_ne]
    by_cases h2 : ∃ c, c < a_nb A ∧ y = nI c
    · obtain ⟨c, hc, rfl⟩ := h2
      rw [hasB_yes hc hr.1 hB, if_neg one_ne]
      by_cases e : b = c
      · refine ⟨A, hG, step_no hr 2 ?_ two_ne (fun μ2 hm => ?_)⟩
        · rw [if_pos (by rw [e])]
          rfl
        · have c0 := m_begin hm
          rw [isB_y c0 h6 hb, if_neg one_ne, isB_y c0 h6 hc, if_neg one_ne, if_pos (by rw [e])]
          rfl
      · have ee : ¬ nI b = nI c := fun z => e (nI_inj' (by omega) (by omega) z)
        rw [if_neg ee]
        have g1 := hG.seat hb (x := none) (fun s h => by cases h)
        have g2 := g1.seat (b := c) hc (x := a_sit A b) (fun i h => hs.2 b hb i h)
        have g3 := g2.seat (b := b) hb (x := a_sit A c) (fun i h => hs.2 c hc i h)
        obtain ⟨μ1, x1, c1⟩ := c_seat isO4 hr.cl hB hG hb (x := none) (fun s h => by cases h)
        obtain ⟨μ2, x2, c2⟩ := c_seat isO4 c1 g1.bds g1 (b := c) hc (x := a_sit A b) (fun i h => hs.2 b hb i h)
        have sc : a_sit (seatA A b none) c = a_sit A c := by
          show seatF A b none c = _
          by_cases e2 : c < a_nb A ∧ a_sit A c = none
          · rw [sF_o (fun z => e z.symm) e2.1 e2.2, e2.2]
          · rw [sF_n (fun z => e z.symm) e2]
        rw [sc] at x2
        obtain ⟨μ3, x3, c3⟩ := c_seat isO4 c2 g2.bds g2 (b := b) hb (x := a_sit A c) (fun i h => hs.2 c hc i h)
        rw [swap_eq hG.2.1 hb hc e] at c3 g3
        refine ⟨swapA A b c, g3, ?_⟩
        rw [show X5_seat 4 (nI b) (-1) μ = _ from x1]
        simp only [bO2_s]
        rw [x2]
        simp only [bO2_s]
        rw [x3]
        simp only [bO2_s]
        have hs3 : Seats (swapA A b c) := g3.1.2.1
        have hB3 : Bds 6 8 (swapA A b c) := g3.bds
        rw [able_ok (A := swapA A b c) hb hs3 isO4 c3.1 hB3, able_ok (A := swapA A b c) hc hs3 isO4 c3.1 hB3]
        simp only [bO1_s]
        have fin : ∀ (v : Int32), Step A (swapA A b c) μ (some (0, wL μ3 177 0 v.toInt64)) (fun μ2 => some (v, wI (wI (wI μ2 132 0 0) (133 + 12) b (encO (a_sit A c))) (133 + 12) c (encO (a_sit A b)))) := fun v => step_yes rfl (CO.of c3) (fun μ2 hm => ⟨_, rfl, m_sit (A := s_sit A (up1 (a_sit A) b (a_sit A c))) (a_sit A b) (by omega) (m_sit (A := A) (a_sit A c) (by omega) (m_begin hm))⟩)
        have cb : (nI b).toNatClampNeg = b := nI_clamp (by omega)
        have j6 : inb (nI b) 6 = True := inb_T (by omega) (by decide)
        have cc : (nI c).toNatClampNeg = c := nI_clamp (by omega)
        have k6 : inb (nI c) 6 = True := inb_T (by omega) (by decide)
        have ref : ∀ μ2, MR 133 μ2 A → ∀ v, v = (if ableA (swapA A b c) b = true then (1 : Int32) else 0) + (if ableA (swapA A b c) c = true then 1 else 0) → (if X8_isBooth 132 (nI b) (wI μ2 132 0 0) = 0 then bP (X8_no 132 1 (wI μ2 132 0 0)) fun r5 μ6 => some (r5, μ6) else if X8_isBooth 132 (nI c) (wI μ2 132 0 0) = 0 then bP (X8_no 132 1 (wI μ2 132 0 0)) fun r31 μ32 => some (r31, μ32) else if nI b = nI c then bP (X8_no 132 2 (wI μ2 132 0 0)) fun r28 μ29 => some (r28, μ29) else if inb (nI b) (al (RF (RF 132 1) 16)) then if inb (nI c) (al (RF (RF 132 1) 16)) then if inb (nI b) (al (RF (RF 132 1) 16)) then if inb (nI c) (al (RF (RF 132 1) 16)) then bO1 (X7_isAble (RF 132 1) (nI b) (wI (wI (wI μ2 132 0 0) (RF (RF 132 1) 16) (nI b).toNatClampNeg (rI (wI μ2 132 0 0) (RF (RF 132 1) 16) (nI c).toNatClampNeg)) (RF (RF 132 1) 16) (nI c).toNatClampNeg (rI (wI μ2 132 0 0) (RF (RF 132 1) 16) (nI b).toNatClampNeg))) fun r19 => if r19 = 0 then bO1 (X7_isAble (RF 132 1) (nI c) (wI (wI (wI μ2 132 0 0) (RF (RF 132 1) 16) (nI b).toNatClampNeg (rI (wI μ2 132 0 0) (RF (RF 132 1) 16) (nI c).toNatClampNeg)) (RF (RF 132 1) 16) (nI c).toNatClampNeg (rI (wI μ2 132 0 0) (RF (RF 132 1) 16) (nI b).toNatClampNeg))) fun r22 => if r22 = 0 then some ((0 : Int32) + 0, (wI (wI (wI μ2 132 0 0) (RF (RF 132 1) 16) (nI b).toNatClampNeg (rI (wI μ2 132 0 0) (RF (RF 132 1) 16) (nI c).toNatClampNeg)) (RF (RF 132 1) 16) (nI c).toNatClampNeg (rI (wI μ2 132 0 0) (RF (RF 132 1) 16) (nI b).toNatClampNeg))) else some ((0 : Int32) + 1, (wI (wI (wI μ2 132 0 0) (RF (RF 132 1) 16) (nI b).toNatClampNeg (rI (wI μ2 132 0 0) (RF (RF 132 1) 16) (nI c).toNatClampNeg)) (RF (RF 132 1) 16) (nI c).toNatClampNeg (rI (wI μ2 132 0 0) (RF (RF 132 1) 16) (nI b).toNatClampNeg))) else bO1 (X7_isAble (RF 132 1) (nI c) (wI (wI (wI μ2 132 0 0) (RF (RF 132 1) 16) (nI b).toNatClampNeg (rI (wI μ2 132 0 0) (RF (RF 132 1) 16) (nI c).toNatClampNeg)) (RF (RF 132 1) 16) (nI c).toNatClampNeg (rI (wI μ2 132 0 0) (RF (RF 132 1) 16) (nI b).toNatClampNeg))) fun r25 => if r25 = 0 then some ((1 : Int32) + 0, (wI (wI (wI μ2 132 0 0) (RF (RF 132 1) 16) (nI b).toNatClampNeg (rI (wI μ2 132 0 0) (RF (RF 132 1) 16) (nI c).toNatClampNeg)) (RF (RF 132 1) 16) (nI c).toNatClampNeg (rI (wI μ2 132 0 0) (RF (RF 132 1) 16) (nI b).toNatClampNeg))) else some ((1 : Int32) + 1, (wI (wI (wI μ2 132 0 0) (RF (RF 132 1) 16) (nI b).toNatClampNeg (rI (wI μ2 132 0 0) (RF (RF 132 1) 16) (nI c).toNatClampNeg)) (RF (RF 132 1) 16) (nI c).toNatClampNeg (rI (wI μ2 132 0 0) (RF (RF 132 1) 16) (nI b).toNatClampNeg))) else none else none else none else none) = some (v, wI (wI (wI μ2 132 0 0) (133 + 12) b (encO (a_sit A c))) (133 + 12) c (encO (a_sit A b))) := by
          intro μ2 hm v hv
          have c0 := m_begin hm
          have c4 := m_sit (A := s_sit A (up1 (a_sit A) b (a_sit A c))) (b := c) (a_sit A b) (by omega) (m_sit (A := A) (b := b) (a_sit A c) (by omega) c0)
          rw [isB_y c0 h6 hb, if_neg one_ne, isB_y c0 h6 hc, if_neg one_ne, if_neg ee, RF01.2.1]
          simp only [pR16 isP133, pA16 isP133, j6, k6, cb, cc, if_true, rq16 c0 (show b < 6 by omega) hb, rq16 c0 (show c < 6 by omega) hc]
          rw [m_able (A := swapA A b c) isP133 c4 hs3 hb h6 h8, m_able (A := swapA A b c) isP133 c4 hs3 hc h6 h8]
          simp only [bO1_s]
          rw [hv]
          by_cases a1 : ableA (swapA A b c) b = true
          · rw [if_pos a1]
            by_cases a2 : ableA (swapA A b c) c = true
            · rw [if_pos a2, if_neg one_ne, if_neg one_ne]
            · rw [if_neg a2, if_neg one_ne, if_pos rfl]
          · rw [if_neg a1]
            by_cases a2 : ableA (swapA A b c) c = true
            · rw [if_pos a2, if_pos rfl, if_neg one_ne]
            · rw [if_neg a2, if_pos rfl, if_pos rfl]
        have f1 := fin ((if ableA (swapA A b c) b = true then (1 : Int32) else 0) + (if ableA (swapA A b c) c = true then 1 else 0))
        obtain ⟨r, v, μ4, t1, t2, t3, t4⟩ := f1
        refine ⟨r, v, μ4, ?_, t2, t3, fun μ5 hm => ?_⟩
        · rw [← t1]
          by_cases a1 : ableA (swapA A b c) b = true
          · rw [if_pos a1, if_neg one_ne]
            by_cases a2 : ableA (swapA A b c) c = true
            · rw [if_pos a2, if_neg one_ne]
              simp only [bO3_s]
              rw [if_pos trivial, if_pos in177]
              rfl
            · rw [if_neg a2, if_pos rfl]
              simp only [bO3_s]
              rw [if_pos trivial, if_pos in177]
              rfl
          · rw [if_neg a1, if_pos rfl]
            by_cases a2 : ableA (swapA A b c) c = true
            · rw [if_pos a2, if_neg one_ne]
              simp only [bO3_s]
              rw [if_pos trivial, if_pos in177]
              rfl
            · rw [if_neg a2, if_pos rfl]
              simp only [bO3_s]
              rw [if_pos trivial, if_pos in177]
              rfl
        · obtain ⟨v2, μ6, u1, u2⟩ := t4 μ5 hm
          exact ⟨v2, μ6, Eq.trans (ref μ5 hm _ rfl) u1, u2⟩
    · refine ⟨A, hG, step_no hr 1 ?_ one_ne (fun μ2 hm => ?_)⟩
      · rw [hasB_n hr.1 h6 h2, if_pos rfl]
        rfl
      · have c0 := m_begin hm
        rw [isB_y c0 h6 hb, if_neg one_ne, isB_n c0 h6 h2, if_pos rfl]
        rfl
  · refine ⟨A, hG, step_no hr 1 ?_ one_ne (fun μ2 hm => ?_)⟩
    · rw [hasB_n hr.1 h6 h1, if_pos rfl]
      rfl
    · have c0 := m_begin hm
      rw [isB_n c0 h6 h1, if_pos rfl]
      rfl
