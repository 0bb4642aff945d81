/-! The class: goOn. -/
def talkP (A : AS) : Nat → Nat → Nat
  | _, 0 => 0
  | i, k + 1 => talkF (floorA (passA i A)) 0 (a_nb A) + talkP A (i + 1) k
theorem c_tick {o NB NI : Nat} {ρ μ : MM} {A : AS} (ho : isO o) (hI : Inv 0 A) (ht : a_t A < 400) (h1 : a_nb A ≤ NB) (h2 : NB ≤ 6) (h3 : a_ni A ≤ NI) (h4 : NI ≤ 8) (h : Cl o NB NI ρ μ A) (b1 b3 : Int32) (c : Nat) : ∃ μ1 μ2 μ3 μ4, X5_letFloorSpeak o μ = some μ1 ∧ X5_goOn_L16 o b1 b3 1000 (nI c) 0 μ1 = some (nI (c + talkF (floorA A) 0 (a_nb A)), μ2) ∧ X5_letBoothsHear o μ2 = some μ3 ∧ X5_letOthersRecover o μ3 = some μ4 ∧ Cl o NB NI ρ (wI μ4 o 8 (rI μ4 o 8 + 1)) (tickA A) := by
  have hB : Bds NB NI A := hI.bds (by rw [if_pos rfl]; omega) h1 h2 h3 h4
  have hm0 : a_mn A 0 < 400 := by
    have := (hI.2.2.2.2.2 0).1
    rw [if_neg (by omega)] at this
    omega
  have f1 := fix_floor A
  have f2 := f1.t (fix_it fix_booth (a_nb A) (floorA A))
  have f3 := f2.t (fix_it fix_hear (a_nb A) (itA boothA (a_nb A) (floorA A)))
  have f4 := f3.t (fix_it fix_rest (a_ni A) (itA hearA (a_nb A) (itA boothA (a_nb A) (floorA A))))
  obtain ⟨μ1, x1, c1⟩ := c_floor ho h hB hm0
  have i0 := hI.floor
  have hb6 := hI.1.1
  have hi8 := hI.1.2.1
  obtain ⟨μ2, x2, c2⟩ := c_L16 (A := floorA A) ho i0 (by rw [f1.2.2.1]; exact ht) (by rw [f1.1]; exact h1) h2 (by rw [f1.2.1]; exact h3) h4 b1 b3 (a_nb A) 0 1000 c μ1 (by rw [f1.1]; omega) (by omega) c1
  rw [f1.1] at c2
  have i1 := i0.booths (a_nb A) (by rw [f1.1]; exact Nat.le_refl _)
  obtain ⟨μ3, x3, c3⟩ := c_hears (A := itA boothA (a_nb A) (floorA A)) ho i1 (by omega) (by rw [f2.2.2.1]; exact ht) (by rw [f2.1]; exact h1) h2 (by rw [f2.2.1]; exact h3) h4 (a_nb A) 0 1000 μ2 (by rw [f2.1]; omega) (by omega) c2
  rw [f2.1] at c3
  have i2 := i1.hears (a_nb A) (by rw [f2.1]; exact Nat.le_refl _)
  obtain ⟨μ4, x4, c4⟩ := c_rests (A := itA hearA (a_nb A) (itA boothA (a_nb A) (floorA A))) ho i2 (by omega) (by rw [f3.2.2.1]; exact ht) (by rw [f3.1]; exact h1) h2 (by rw [f3.2.1]; exact h3) h4 (a_ni A) 0 1000 μ3 (by rw [f3.2.1]; omega) (by omega) c3
  rw [f3.2.1] at c4
  refine ⟨μ1, μ2, μ3, μ4, x1, x2, ?_, ?_, ?_⟩
  · unfold X5_letBoothsHear
    rw [show (0 : Int32) = nI 0 from rfl, x3]
    rfl
  · unfold X5_letOthersRecover
    rw [show (0 : Int32) = nI 0 from rfl, x4]
    rfl
  · rw [rd0 c4.1, f4.2.2.1, nI_1]
    exact c_t _ c4
theorem c_L4 {o NB NI n : Nat} {ρ : MM} {A : AS} (ho : isO o) (hI : Inv 0 A) (ht : a_t A + n ≤ 400) (h1 : a_nb A ≤ NB) (h2 : NB ≤ 6) (h3 : a_ni A ≤ NI) (h4 : NI ≤ 8) : ∀ k i f c μ, i + k = n → k < f → Cl o NB NI ρ μ (passA i A) → ∃ μ', X5_goOn_L4 o (nI n) f (nI c) (nI i) μ = some (nI (c + talkP A i k), μ') ∧ Cl o NB NI ρ μ' (passA n A) := by
  have fx : ∀ i, a_nb (passA i A) = a_nb A ∧ a_ni (passA i A) = a_ni A := by
    intro i
    induction i with
    | zero => exact ⟨rfl, rfl⟩
    | succ i ih => exact ⟨(fix_lt _).1.trans ih.1, (fix_lt _).2.1.trans ih.2⟩
  intro k
  induction k with
  | zero =>
    intro i f c μ hi hf hc
    obtain ⟨g, rfl⟩ : ∃ g, f = g + 1 := ⟨f - 1, by omega⟩
    have e : i = n := by omega
    subst e
    rw [X5_goOn_L4_s, if_pos (nI_le (Nat.le_refl _) (by omega))]
    exact ⟨μ, rfl, hc⟩
  | succ k ih =>
    intro i f c μ hi hf hc
    obtain ⟨g, rfl⟩ : ∃ g, f = g + 1 := ⟨f - 1, by omega⟩
    have hp := hI.pass i (by omega)
    obtain ⟨μ1, μ2, μ3, μ4, x1, x2, x3, x4, c5⟩ := c_tick (A := passA i A) ho hp.1 (by rw [hp.2]; omega) (by rw [(fx i).1]; exact h1) h2 (by rw [(fx i).2]; exact h3) h4 hc (nI n) (nI i) c
    rw [X5_goOn_L4_s, if_neg (nI_ge (by omega) (by omega)), x1]
    simp only [bO1_s]
    rw [x2]
    simp only [bO2_s]
    rw [x3]
    simp only [bO1_s]
    rw [x4]
    simp only [bO1_s, bV_eq]
    rw [nI_1, (fx i).1]
    obtain ⟨μ5, x5, c6⟩ := ih (i + 1) g (c + talkF (floorA (passA i A)) 0 (a_nb A)) _ (by omega) (by omega) c5
    refine ⟨μ5, ?_, c6⟩
    rw [x5]
    show _ = some (nI (c + (talkF (floorA (passA i A)) 0 (a_nb A) + talkP A (i + 1) k)), μ5)
    rw [Nat.add_assoc]
theorem c_goOn {o NB NI n : Nat} {ρ μ : MM} {A : AS} (ho : isO o) (hI : Inv 0 A) (ht : a_t A + n ≤ 400) (h1 : a_nb A ≤ NB) (h2 : NB ≤ 6) (h3 : a_ni A ≤ NI) (h4 : NI ≤ 8) (h : Cl o NB NI ρ μ A) : ∃ μ', X5_goOn o (nI n) μ = some (nI (talkP A 0 n), μ') ∧ Cl o NB NI ρ μ' (passA n A) := by
  obtain ⟨μ', x, c⟩ := c_L4 ho hI ht h1 h2 h3 h4 n 0 1000 0 μ (by omega) (by omega) h
  refine ⟨μ', ?_, c⟩
  unfold X5_goOn
  rw [show (0 : Int32) = nI 0 from rfl, x]
  simp only [bO2_s]
  rw [Nat.zero_add]
