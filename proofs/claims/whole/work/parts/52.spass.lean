/-! setFloor and pass. -/
theorem step_no {A : AS} {μ : MM} {lf : Option (Int32 × MM)} {xf : MM → Option (Int32 × MM)} (hr : Rel μ A) (c : Int32) (hl : lf = some (c, μ)) (hc : c ≠ 0) (hx : ∀ μ2, MR 133 μ2 A → xf μ2 = some (0, wI (wI μ2 132 0 0) 132 0 c)) : Step A A μ lf xf :=
  ⟨c, 0, μ, hl, CO.of hr.cl, fun e => absurd e hc, fun μ2 hm => ⟨0, _, hx μ2 hm, RO.no hm c, fun e => absurd e hc⟩⟩
theorem step_yes {A A' : AS} {μ μ1 : MM} {lf : Option (Int32 × MM)} {xf : MM → Option (Int32 × MM)} {v : Int32} (hl : lf = some (0, wL μ1 177 0 v.toInt64)) (hc : CO μ μ1 A') (hx : ∀ μ2, MR 133 μ2 A → ∃ μ3, xf μ2 = some (v, μ3) ∧ Ml 133 (wI μ2 132 0 0) μ3 A') : Step A A' μ lf xf := by
  refine ⟨0, v, _, hl, hc.out _, fun _ => by rw [rL_wL, if_pos ⟨rfl, rfl⟩], fun μ2 hm => ?_⟩
  obtain ⟨μ3, h1, h2⟩ := hx μ2 hm
  exact ⟨v, μ3, h1, RO.of h2, fun _ => rfl⟩
theorem isIn_in {x lo hi : Int32} (h1 : lo ≤ x) (h2 : x ≤ hi) : X8_isIn x lo hi = 1 := X6_in h1 h2
theorem isIn_out {x lo hi : Int32} (h : ¬ (lo ≤ x ∧ x ≤ hi)) : X8_isIn x lo hi = 0 := X6_out h
theorem two_ne : ¬ (2 : Int32) = 0 := by decide
theorem s_setFloor {μ : MM} {A : AS} (hr : Rel μ A) (x : Int32) : ∃ A', Good A' ∧ Step A A' μ (L_setFloor 0 x 177 μ) (fun μ2 => some (X8_setFloor 132 x μ2)) := by
  unfold L_setFloor X6_setFloor
  by_cases h : (0 : Int32) ≤ x ∧ x ≤ 7
  · refine ⟨s_lang A x, hr.2.2, ?_⟩
    rw [X6_in h.1 h.2, if_neg one_ne, RF01.1]
    simp only [bV_eq, bO3_s]
    rw [if_pos trivial, if_pos in177, rd1 hr.1]
    refine step_yes (v := a_lang A) rfl (CO.of (c_lang x hr.cl)) (fun μ2 hm => ?_)
    have c0 := m_begin hm
    simp only [X8_setFloor, bV_eq]
    rw [isIn_in h.1 h.2, if_neg one_ne, RF01.2.1, rq1 c0]
    exact ⟨_, rfl, m_lang x c0⟩
  · refine ⟨A, hr.2.2, step_no hr 1 ?_ one_ne (fun μ2 _ => ?_)⟩
    · rw [X6_out h, if_pos rfl]
      rfl
    · simp only [X8_setFloor, bV_eq]
      rw [isIn_out h, if_pos rfl]
      rfl
theorem passA_fix (A : AS) : ∀ n, a_nb (passA n A) = a_nb A ∧ a_ni (passA n A) = a_ni A ∧ a_src (passA n A) = a_src A ∧ a_sit (passA n A) = a_sit A ∧ a_lang (passA n A) = a_lang A
  | 0 => ⟨rfl, rfl, rfl, rfl, rfl⟩
  | n + 1 => ⟨(fix_lt _).1.trans (passA_fix A n).1, (fix_lt _).2.1.trans (passA_fix A n).2.1, (fix_lt _).2.2.2.1.trans (passA_fix A n).2.2.1, (fix_lt _).2.2.2.2.1.trans (passA_fix A n).2.2.2.1, (fix_lt _).2.2.2.2.2.trans (passA_fix A n).2.2.2.2⟩
theorem passA_in (A : AS) : ∀ n, passA n (tickA A) = tickA (passA n A)
  | 0 => rfl
  | n + 1 => by
    show tickA (passA n (tickA A)) = _
    rw [passA_in A n]
    rfl
theorem passA_succ (A : AS) (n : Nat) : passA (n + 1) A = passA n (tickA A) := (passA_in A n).symm
theorem talkP_succ (A : AS) : ∀ n i, talkP A (i + 1) n = talkP (tickA A) i n
  | 0, _ => rfl
  | n + 1, i => by
    show talkF (floorA (passA (i + 1) A)) 0 (a_nb A) + talkP A (i + 1 + 1) n = talkF (floorA (passA i (tickA A))) 0 (a_nb (tickA A)) + talkP (tickA A) (i + 1) n
    rw [passA_succ, (fix_lt A).1, talkP_succ A n (i + 1)]
theorem m_goOn_L {p n : Nat} {ρ : MM} (hp : isP p) : ∀ k i f c μ A, i + k = n → n ≤ 400 → k < f → Inv 0 A → a_t A + k ≤ 400 → Ml p ρ μ A → ∃ μ', X8_pass_L4 p (nI n) f (nI c) (nI i) μ = some (nI (c + talkP A 0 k), μ') ∧ Ml p ρ μ' (passA k A) := by
  intro k
  induction k with
  | zero =>
    intro i f c μ A hi hn hf hI ht h
    obtain ⟨g, rfl⟩ : ∃ g, f = g + 1 := ⟨f - 1, by omega⟩
    rw [X8_pass_L4_s, if_pos (nI_le (by omega) (by omega))]
    exact ⟨μ, rfl, h⟩
  | succ k ih =>
    intro i f c μ A hi hn hf hI ht h
    obtain ⟨g, rfl⟩ : ∃ g, f = g + 1 := ⟨f - 1, by omega⟩
    obtain ⟨μ1, x1, c1⟩ := m_pass1 hp hI (by omega) h
    rw [X8_pass_L4_s, if_neg (nI_ge (by omega) (by omega)), x1]
    simp only [bO2_s, bV_eq]
    rw [nI_1, nI_add']
    obtain ⟨μ2, x2, c2⟩ := ih (i + 1) g (c + talkF (floorA A) 0 (a_nb A)) μ1 (tickA A) (by omega) hn (by omega) (hI.tick (by omega)) (by rw [(fix_lt A).2.2.1]; omega) c1
    refine ⟨μ2, ?_, ?_⟩
    · rw [x2, Nat.add_assoc]
      show _ = some (nI (c + (talkF (floorA A) 0 (a_nb A) + talkP A 1 k)), μ2)
      rw [← talkP_succ A k 0]
    · rw [passA_succ]
      exact c2
theorem m_goOn {p n : Nat} {ρ μ : MM} {A : AS} (hp : isP p) (hI : Inv 0 A) (ht : a_t A + n ≤ 400) (h : Ml p ρ μ A) : ∃ μ', X8_pass p (nI n) μ = some (nI (talkP A 0 n), μ') ∧ Ml p ρ μ' (passA n A) := by
  obtain ⟨μ', x, c⟩ := m_goOn_L (n := n) hp n 0 1000 0 μ A (by omega) (by omega) (by omega) hI ht h
  refine ⟨μ', ?_, c⟩
  unfold X8_pass
  rw [show (0 : Int32) = nI 0 from rfl, x, Nat.zero_add]
  rfl
theorem dflt_it {f : AS → Nat → AS} (hf : ∀ A b, b < a_nb A → Dflt A → Dflt (f A b)) (hn : ∀ A b, a_nb (f A b) = a_nb A) : ∀ n A, n ≤ a_nb A → Dflt A → Dflt (itA f n A) ∧ a_nb (itA f n A) = a_nb A
  | 0, A, _, h => ⟨h, rfl⟩
  | n + 1, A, hnb, h => by
    have ih := dflt_it hf hn n A (by omega) h
    exact ⟨hf _ n (by rw [ih.2]; omega) ih.1, (hn _ n).trans ih.2⟩
/-- only the booth b's words and second part may change -/
def Only (b : Nat) (A A' : AS) : Prop := a_nb A' = a_nb A ∧ a_src A' = a_src A ∧ a_sit A' = a_sit A ∧ (∀ c, c ≠ b → a_bv A' c 4 = a_bv A c 4) ∧ ∀ c, c ≠ b → a_hd A' c = a_hd A c
theorem Only.d {b : Nat} {A A' : AS} (h : Only b A A') (hb : b < a_nb A) (hd : Dflt A) : Dflt A' := by
  intro c hc
  rw [h.1] at hc
  have := hd c hc
  rw [h.2.1, h.2.2.1, h.2.2.2.1 c (by omega), h.2.2.2.2 c (by omega)]
  exact this
theorem only_pop (A : AS) (b : Nat) : Only b A (popA A b) := ⟨rfl, rfl, rfl, fun _ _ => rfl, fun c hc => up1_n _ _ hc⟩
theorem only_bv (A : AS) (b i : Nat) (v : Int32) : Only b A (s_bv A (up2 (a_bv A) b i v)) := ⟨rfl, rfl, rfl, fun c hc => up2_n _ _ (fun z => hc z.1), fun _ _ => rfl⟩
theorem Only.t {b : Nat} {A B C : AS} (h : Only b A B) (g : Only b B C) : Only b A C := ⟨g.1.trans h.1, g.2.1.trans h.2.1, g.2.2.1.trans h.2.2.1, fun c hc => (g.2.2.2.1 c hc).trans (h.2.2.2.1 c hc), fun c hc => (g.2.2.2.2 c hc).trans (h.2.2.2.2 c hc)⟩
theorem Only.r (b : Nat) (A : AS) : Only b A A := ⟨rfl, rfl, rfl, fun _ _ => rfl, fun _ _ => rfl⟩
theorem only_lost (A : AS) (b : Nat) : Only b A (lostA A b) := only_bv A b 3 _
theorem only_dumb (A : AS) (b : Nat) : Only b A (dumbA A b) := by
  unfold dumbA
  split
  · split
    · exact (only_pop A b).t (only_lost _ b)
    · exact Only.r b A
  · exact (only_bv A b 4 _).t (only_lost _ b)
theorem only_say (A : AS) (b i : Nat) (w : Int32) : Only b A (sayA A b i w) := ⟨rfl, rfl, rfl, fun _ _ => rfl, fun _ _ => rfl⟩
theorem only_booth (A : AS) (b : Nat) : Only b A (boothA A b) := by
  unfold boothA
  split
  · exact only_dumb A b
  · split
    · split
      · split
        · unfold wordA
          split
          · exact (only_pop A b).t ((only_bv (popA A b) b 4 _).t ⟨rfl, rfl, rfl, fun _ _ => rfl, fun _ _ => rfl⟩)
          · exact (only_pop A b).t (only_say _ _ _ _)
        · exact ⟨rfl, rfl, rfl, fun _ _ => rfl, fun _ _ => rfl⟩
      · exact (only_bv A b 4 _).t (only_say _ _ _ _)
    · exact (only_dumb A b).t ⟨rfl, rfl, rfl, fun _ _ => rfl, fun _ _ => rfl⟩
theorem only_hear (A : AS) (b : Nat) : Only b A (hearA A b) := by
  unfold hearA
  split
  · unfold takeA
    split
    · exact only_lost A b
    · exact ⟨rfl, rfl, rfl, fun _ _ => rfl, fun c hc => up1_n _ _ hc⟩
  · exact Only.r b A
theorem dflt_rest (A : AS) (i : Nat) (h : Dflt A) : Dflt (restA A i) := by
  unfold restA
  split <;> exact h
theorem dflt_rests : ∀ n A, Dflt A → Dflt (itA restA n A)
  | 0, _, h => h
  | n + 1, A, h => dflt_rest _ n (dflt_rests n A h)
theorem dflt_tick {A : AS} (h : Dflt A) : Dflt (tickA A) := by
  have h1 : Dflt (floorA A) := by
    unfold floorA
    split
    · exact h
    · split <;> exact h
  have f1 := fix_floor A
  have h2 := dflt_it (f := boothA) (fun A b hb hd => (only_booth A b).d hb hd) (fun A b => (only_booth A b).1) (a_nb A) (floorA A) (by rw [f1.1]; exact Nat.le_refl _) h1
  have h3 := dflt_it (f := hearA) (fun A b hb hd => (only_hear A b).d hb hd) (fun A b => (only_hear A b).1) (a_nb A) _ (by rw [h2.2, f1.1]; exact Nat.le_refl _) h2.1
  exact dflt_rests (a_ni A) _ h3.1
theorem Good.pass {A : AS} {n : Nat} (h : Good A) (ht : a_t A + n ≤ 400) : Good (passA n A) := by
  have f := passA_fix A n
  refine ⟨(h.1.pass n ht).1, ?_, ?_, ?_⟩
  · unfold Uniq
    rw [f.1, f.2.2.2.1]
    exact h.2.1
  · unfold Acyc
    rw [f.1, f.2.2.1]
    exact h.2.2.1
  · clear f ht
    induction n with
    | zero => exact h.2.2.2
    | succ n ih => exact dflt_tick ih
theorem nI_in' {x lo hi : Int32} {a b : Nat} (hlo : lo = nI a) (hhi : hi = nI b) (ha : a < 2 ^ 31) (hb : b < 2 ^ 31) (h : lo ≤ x ∧ x ≤ hi) : ∃ n, x = nI n ∧ a ≤ n ∧ n ≤ b := by
  subst hlo; subst hhi
  obtain ⟨h1, h2⟩ := h
  have h3 : ¬ x < 0 := fun z => by
    have := nI_le (Nat.zero_le a) ha
    exact absurd (Int32.le_trans (Int32.le_trans this h1) (Int32.le_of_lt z)) (fun y => by
      have e : (0 : Int32) = x := Int32.le_antisymm (Int32.le_trans this h1) (Int32.le_of_lt z)
      rw [← e] at z
      exact absurd z (by decide))
  obtain ⟨j, hj, rfl⟩ := nI_of h3
  refine ⟨j, rfl, ?_, ?_⟩
  · rcases Nat.lt_or_ge j a with y | y
    · exact absurd h1 (nI_ge y ha)
    · exact y
  · rcases Nat.lt_or_ge b j with y | y
    · exact absurd h2 (nI_ge y hj)
    · exact y
theorem s_pass {μ : MM} {A : AS} (hr : Rel μ A) (x : Int32) : ∃ A', Good A' ∧ Step A A' μ (L_pass 0 x 177 μ) (fun μ2 => X8_pass_ 132 x μ2) := by
  have hI := hr.2.2.1
  have ht4 := hI.1.2.2.2
  unfold L_pass X6_pass
  by_cases h : (1 : Int32) ≤ x ∧ x ≤ 100
  · obtain ⟨n, rfl, hn1, hn2⟩ := nI_in' (a := 1) (b := 100) rfl rfl (by omega) (by omega) h
    rw [X6_in h.1 h.2, if_neg one_ne, RF01.1, rd0 hr.1, nI_add']
    by_cases e : a_t A + n ≤ 400
    · refine ⟨passA n A, hr.2.2.pass e, ?_⟩
      rw [if_neg (show ¬ (400 : Int32) < nI (a_t A + n) from nI_nlt (a := 400) (b := a_t A + n) e (by omega))]
      obtain ⟨μ1, x1, c1⟩ := c_goOn isO4 hI e hI.1.1 (by omega) hI.1.2.1 (by omega) hr.cl
      rw [x1]
      simp only [bO2_s, bO3_s]
      rw [if_pos trivial, if_pos in177]
      refine step_yes (v := nI (talkP A 0 n)) rfl (CO.of c1) (fun μ2 hm => ?_)
      have c0 := m_begin hm
      simp only [X8_pass_, bV_eq]
      rw [isIn_in h.1 h.2, if_neg one_ne, RF01.2.1, rq0 c0, nI_add', if_pos (show nI (a_t A + n) ≤ 400 from nI_le (b := 400) e (by omega))]
      obtain ⟨μ3, x3, c3⟩ := m_goOn isP133 hI e c0
      rw [x3]
      exact ⟨_, rfl, c3⟩
    · refine ⟨A, hr.2.2, step_no hr 2 ?_ two_ne (fun μ2 hm => ?_)⟩
      · rw [if_pos (show (400 : Int32) < nI (a_t A + n) from nI_lt (a := 400) (by omega) (by omega))]
        rfl
      · have c0 := m_begin hm
        simp only [X8_pass_, bV_eq]
        rw [isIn_in h.1 h.2, if_neg one_ne, RF01.2.1, rq0 c0, nI_add', if_neg (show ¬ nI (a_t A + n) ≤ 400 from nI_ge (a := 400) (by omega) (by omega))]
        rfl
  · refine ⟨A, hr.2.2, step_no hr 1 ?_ one_ne (fun μ2 _ => ?_)⟩
    · rw [X6_out h, if_pos rfl]
      rfl
    · simp only [X8_pass_, bV_eq]
      rw [isIn_out h, if_pos rfl]
      rfl
