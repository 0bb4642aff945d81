/-! speak and rest: the calls. -/
theorem nI_99 {x : Int32} (h : (-99 : Int32) ≤ x ∧ x ≤ 99) : ∃ e, e < 199 ∧ x = nI e - 99 := by
  have h1 : -99 ≤ x.toInt := (fa_le _ _).mp h.1
  have h2 : x.toInt ≤ 99 := (fa_le _ _).mp h.2
  refine ⟨(x.toInt + 99).toNat, by omega, ?_⟩
  refine Int32.toInt_inj.mp ?_
  rw [Int32.toInt_sub, nI_toInt (by omega), show (99 : Int32).toInt = 99 from rfl, Int.bmod_eq_of_le (by omega) (by omega)]
  omega
theorem wI_over (μ : MM) (q s q' s' : Nat) (a b v : Int32) : wI (wI (wI μ q s a) q' s' v) q s b = wI (wI μ q' s' v) q s b := by
  refine Prod.ext (funext fun x => funext fun y => ?_) rfl
  show (if _ then _ else if _ then _ else if _ then _ else _) = (if _ then _ else if _ then _ else _)
  by_cases e : x = q ∧ y = s
  · rw [if_pos e, if_pos e]
  · rw [if_neg e, if_neg e, if_neg e]
theorem wI_same (μ : MM) (q s : Nat) {a : Int32} (h : rI μ q s = a) : wI μ q s a = μ := by
  refine Prod.ext (funext fun x => funext fun y => ?_) rfl
  show (if _ then _ else _) = _
  by_cases e : x = q ∧ y = s
  · rw [if_pos e, e.1, e.2]
    exact h.symm
  · rw [if_neg e]
section SR
variable {μ : MM} {A : AS}
theorem c_restsT {n : Nat} {ρ : MM} (hn : n ≤ 40) (hl : a_lf A + n ≤ 120) : ∀ d k f μ, k + d = n → d < f → Cl 4 6 8 ρ μ (appA (fun _ => -1) k A) → ∃ μ', X6_rest_L37 0 (nI n) f (nI k) μ = some μ' ∧ Cl 4 6 8 ρ μ' (appA (fun _ => -1) n A) := by
  intro d
  induction d with
  | zero =>
    intro k f μ hk hf h
    obtain ⟨g, rfl⟩ : ∃ g, f = g + 1 := ⟨f - 1, by omega⟩
    have e : k = n := by omega
    subst e
    rw [X6_rest_L37_s, if_pos (nI_le (Nat.le_refl _) (by omega))]
    exact ⟨μ, rfl, h⟩
  | succ d ih =>
    intro k f μ hk hf h
    obtain ⟨g, rfl⟩ : ∃ g, f = g + 1 := ⟨f - 1, by omega⟩
    have hlk : a_lf (appA (fun _ => -1) k A) < 120 := by rw [app_lf]; omega
    rw [X6_rest_L37_s, if_neg (nI_ge (by omega) (by omega)), RF01.1, oR1 isO4, c_X3put _ isO4 h hlk]
    simp only [bO1_s, bV_eq]
    rw [nI_1]
    exact ih (k + 1) g _ (by omega) (by omega) (c_putA (-1) h hlk)
theorem m_restsT {n : Nat} {ρ : MM} (hn : n ≤ 40) (hl : a_lf A + n ≤ 120) : ∀ d k f μ, k + d = n → d < f → rI μ 133 3 = nI (a_lf A) → Ml 133 ρ (wI μ 133 3 (nI (a_lf A + k))) (appA (fun _ => -1) k A) → ∃ μ', X8_rest_L43 132 (nI n) f (nI k) μ = some μ' ∧ rI μ' 133 3 = nI (a_lf A) ∧ Ml 133 ρ (wI μ' 133 3 (nI (a_lf A + n))) (appA (fun _ => -1) n A) := by
  intro d
  induction d with
  | zero =>
    intro k f μ hk hf h3 h
    obtain ⟨g, rfl⟩ : ∃ g, f = g + 1 := ⟨f - 1, by omega⟩
    have e : k = n := by omega
    subst e
    rw [X8_rest_L43_s, if_pos (nI_le (Nat.le_refl _) (by omega))]
    exact ⟨μ, rfl, h3, h⟩
  | succ d ih =>
    intro k f μ hk hf h3 h
    obtain ⟨g, rfl⟩ : ∃ g, f = g + 1 := ⟨f - 1, by omega⟩
    have hlk : a_lf (appA (fun _ => -1) k A) < 120 := by rw [app_lf]; omega
    have ck : (nI (a_lf A + k)).toNatClampNeg = a_lf A + k := nI_clamp (by omega)
    have j : inb (nI (a_lf A + k)) 120 = True := inb_T (by omega) (by decide)
    have c1 := m_put (-1) h hlk
    rw [app_lf, wI_over] at c1
    rw [X8_rest_L43_s, if_neg (nI_ge (by omega) (by omega)), RF01.2.1]
    simp only [pR2 isP133, pA2 isP133, h3, nI_add', j, ck, if_true, bV_eq, nI_1]
    exact ih (k + 1) g _ (by omega) (by omega) (by rw [rI_o _ (by omega)]; exact h3) c1
end SR
theorem s_speak {μ : MM} {A : AS} (hr : Rel μ A) (x y z : Int32) : ∃ A', Good A' ∧ Step A A' μ (L_speak 0 x y z 177 μ) (fun μ2 => X8_speak 132 x y z μ2) := by
  have hI := hr.2.2.1
  have h120 := hI.1.2.2.1
  unfold L_speak X6_speak
  by_cases h1 : (0 : Int32) ≤ x ∧ x ≤ 99
  · by_cases h2 : (-99 : Int32) ≤ y ∧ y ≤ 99
    · by_cases h3 : (1 : Int32) ≤ z ∧ z ≤ 40
      · obtain ⟨w, rfl, hw0, hw⟩ := nI_in' (a := 0) (b := 99) rfl rfl (by omega) (by omega) h1
        obtain ⟨n, rfl, hn0, hn⟩ := nI_in' (a := 1) (b := 40) rfl rfl (by omega) (by omega) h3
        obtain ⟨e, he, rfl⟩ := nI_99 h2
        rw [X6_in h1.1 h1.2, if_neg one_ne, X6_in h2.1 h2.2, if_neg one_ne, X6_in h3.1 h3.2, if_neg one_ne, RF01.1, oR1 isO4, rd2 hr.1, nI_add']
        have sw0 : spW w e 0 = nI w := by
          unfold spW
          congr 1
          omega
        by_cases el : a_lf A + n ≤ 120
        · refine ⟨appA (spW w e) n A, Good.app (fun k => Or.inr (spW_num w e k)) n A hr.2.2 el, ?_⟩
          rw [if_neg (show ¬ (120 : Int32) < nI (a_lf A + n) from nI_nlt (a := 120) (b := a_lf A + n) el (by omega))]
          obtain ⟨μ1, x1, c1⟩ := c_speaks (A := A) (n := n) (w := w) (e := e) (by omega) he hn el n 0 1000 μ (by omega) (by omega) hr.cl
          rw [show X6_speak_L67 0 (nI w) (nI e - 99) (nI n) 1000 0 μ = some μ1 from x1]
          simp only [bO1_s, bO3_s]
          rw [rd2 c1.1, app_lf, if_pos trivial, if_pos in177]
          refine step_yes (v := nI (a_lf A + n)) rfl (CO.of c1) (fun μ2 hm => ?_)
          have c0 := m_begin hm
          simp only [X8_speak, bV_eq]
          rw [isIn_in h1.1 h1.2, if_neg one_ne, isIn_in h2.1 h2.2, if_neg one_ne, isIn_in h3.1 h3.2, if_neg one_ne, RF01.2.1, rq2 c0, nI_add', if_pos (show nI (a_lf A + n) ≤ 120 from nI_le (b := 120) el (by omega))]
          obtain ⟨μ3, x3, c3⟩ := m_speaks (A := A) (n := n) (w := w) (e := e) (by omega) he hn el n 0 1000 _ (by omega) (by omega) c0
          rw [sw0] at x3
          rw [show X8_speak_L68 132 (nI e - 99) (nI n) 1000 (nI w) 0 (wI μ2 132 0 0) = some μ3 from x3]
          simp only [bO1_s]
          rw [rq2 c3, app_lf]
          exact ⟨_, rfl, c3⟩
        · refine ⟨A, hr.2.2, step_no hr 2 ?_ two_ne (fun μ2 hm => ?_)⟩
          · rw [if_pos (show (120 : Int32) < nI (a_lf A + n) from nI_lt (a := 120) (by omega) (by omega))]
            rfl
          · have c0 := m_begin hm
            simp only [X8_speak, bV_eq]
            rw [isIn_in h1.1 h1.2, if_neg one_ne, isIn_in h2.1 h2.2, if_neg one_ne, isIn_in h3.1 h3.2, if_neg one_ne, RF01.2.1, rq2 c0, nI_add', if_neg (show ¬ nI (a_lf A + n) ≤ 120 from nI_ge (a := 120) (by omega) (by omega))]
            rfl
      · refine ⟨A, hr.2.2, step_no hr 1 ?_ one_ne (fun μ2 _ => ?_)⟩
        · rw [X6_in h1.1 h1.2, if_neg one_ne, X6_in h2.1 h2.2, if_neg one_ne, X6_out h3, if_pos rfl]
          rfl
        · simp only [X8_speak, bV_eq]
          rw [isIn_in h1.1 h1.2, if_neg one_ne, isIn_in h2.1 h2.2, if_neg one_ne, isIn_out h3, if_pos rfl]
          rfl
    · refine ⟨A, hr.2.2, step_no hr 1 ?_ one_ne (fun μ2 _ => ?_)⟩
      · rw [X6_in h1.1 h1.2, if_neg one_ne, X6_out h2, if_pos rfl]
        rfl
      · simp only [X8_speak, bV_eq]
        rw [isIn_in h1.1 h1.2, if_neg one_ne, isIn_out h2, if_pos rfl]
        rfl
  · refine ⟨A, hr.2.2, step_no hr 1 ?_ one_ne (fun μ2 _ => ?_)⟩
    · rw [X6_out h1, if_pos rfl]
      rfl
    · simp only [X8_speak, bV_eq]
      rw [isIn_out h1, if_pos rfl]
      rfl
theorem s_rest {μ : MM} {A : AS} (hr : Rel μ A) (z : Int32) : ∃ A', Good A' ∧ Step A A' μ (L_rest 0 z 177 μ) (fun μ2 => X8_rest 132 z μ2) := by
  have hI := hr.2.2.1
  have h120 := hI.1.2.2.1
  unfold L_rest X6_rest
  by_cases h3 : (1 : Int32) ≤ z ∧ z ≤ 40
  · obtain ⟨n, rfl, hn0, hn⟩ := nI_in' (a := 1) (b := 40) rfl rfl (by omega) (by omega) h3
    rw [X6_in h3.1 h3.2, if_neg one_ne, RF01.1, oR1 isO4, rd2 hr.1, nI_add']
    by_cases el : a_lf A + n ≤ 120
    · refine ⟨appA (fun _ => -1) n A, Good.app (fun k => Or.inl rfl) n A hr.2.2 el, ?_⟩
      rw [if_neg (show ¬ (120 : Int32) < nI (a_lf A + n) from nI_nlt (a := 120) (b := a_lf A + n) el (by omega))]
      obtain ⟨μ1, x1, c1⟩ := c_restsT (A := A) (n := n) hn el n 0 1000 μ (by omega) (by omega) hr.cl
      rw [show X6_rest_L37 0 (nI n) 1000 0 μ = some μ1 from x1]
      simp only [bO1_s, bO3_s]
      rw [rd2 c1.1, app_lf, if_pos trivial, if_pos in177]
      refine step_yes (v := nI (a_lf A + n)) rfl (CO.of c1) (fun μ2 hm => ?_)
      have c0 := m_begin hm
      simp only [X8_rest, bV_eq]
      rw [isIn_in h3.1 h3.2, if_neg one_ne, RF01.2.1, rq2 c0, nI_add', if_pos (show nI (a_lf A + n) ≤ 120 from nI_le (b := 120) el (by omega))]
      have c0' : Ml 133 (wI μ2 132 0 0) (wI (wI μ2 132 0 0) 133 3 (nI (a_lf A + 0))) (appA (fun _ => -1) 0 A) := by
        rw [Nat.add_zero, wI_same _ _ _ (rq2 c0)]
        exact c0
      obtain ⟨μ3, x3, y3, c3⟩ := m_restsT (A := A) (n := n) hn el n 0 1000 _ (by omega) (by omega) (rq2 c0) c0'
      rw [show X8_rest_L43 132 (nI n) 1000 0 (wI μ2 132 0 0) = some μ3 from x3]
      simp only [bO1_s]
      rw [y3, nI_add', rI_at]
      exact ⟨_, rfl, c3⟩
    · refine ⟨A, hr.2.2, step_no hr 2 ?_ two_ne (fun μ2 hm => ?_)⟩
      · rw [if_pos (show (120 : Int32) < nI (a_lf A + n) from nI_lt (a := 120) (by omega) (by omega))]
        rfl
      · have c0 := m_begin hm
        simp only [X8_rest, bV_eq]
        rw [isIn_in h3.1 h3.2, if_neg one_ne, RF01.2.1, rq2 c0, nI_add', if_neg (show ¬ nI (a_lf A + n) ≤ 120 from nI_ge (a := 120) (by omega) (by omega))]
        rfl
  · refine ⟨A, hr.2.2, step_no hr 1 ?_ one_ne (fun μ2 _ => ?_)⟩
    · rw [X6_out h3, if_pos rfl]
      rfl
    · simp only [X8_rest, bV_eq]
      rw [isIn_out h3, if_pos rfl]
      rfl
