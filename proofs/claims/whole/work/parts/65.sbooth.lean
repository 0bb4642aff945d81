/-! booth and digest. -/
def tellX (A : AS) (b j : Nat) : Int32 := if j = 11 then nI (lcsA A b) else tellB A b j
theorem Good.words {A : AS} (h : Good A) (a : Nat) : a_mn A a ≤ 400 ∧ ∀ k, k < a_mn A a → wNum (a_sw A a k) := by
  have h1 := h.1.2.2.2.2.2 a
  have h2 := h.1.1.2.2.2
  refine ⟨?_, fun k hk => (h1.2 k hk).1⟩
  have := h1.1
  rw [if_neg (by omega)] at this
  omega
section BT
variable {o : Nat} {ρ μ : MM} {A : AS}
theorem c_tellX (ho : isO o) (h : CR o 6 8 μ A) (hG : Good A) {b : Nat} (hb : b < a_nb A) {j : Nat} (hj : j < 12) : ∃ μ', X5_tellBooth o (nI b) (nI j) μ = some (tellX A b j, μ') ∧ μ'.1 = μ.1 := by
  have h6 := hG.1.1.1
  obtain ⟨r, hk⟩ := hG.rk
  unfold tellX
  by_cases e : j = 11
  · rw [if_pos e, e]
    exact c_common ho h hG.bds (hG.words 0).2 (by omega) (hG.words (b + 1)).2
  · rw [if_neg e]
    exact ⟨μ, c_tellB ho h hG.bds hG.1.2.1 hk hb j (by omega), rfl⟩
theorem m_tellX (h : Ml 133 ρ μ A) (hG : Good A) {b : Nat} (hb : b < a_nb A) {j : Nat} (hj : j < 12) : ∃ μ', X8_boothTold 132 (nI b) (nI j) μ = some (tellX A b j, μ') ∧ Ml 133 ρ μ' A := by
  have h6 := hG.1.1.1
  have h8 := hG.1.1.2.1
  obtain ⟨r, hk⟩ := hG.rk
  unfold tellX
  by_cases e : j = 11
  · rw [if_pos e, e]
    obtain ⟨μ', x, c⟩ := m_through (b := b) isP133 h (by omega) (hG.words 0).1 (hG.words (b + 1)).1
    refine ⟨μ', ?_, c⟩
    unfold X8_boothTold
    rw [if_pos (show nI 11 = 11 from rfl), RF01.2.1, x]
    rfl
  · rw [if_neg e]
    exact ⟨μ, m_tellB h hG.1.2.1 h6 h8 hk hb j (by omega), h⟩
theorem CO.l {μ μ' : MM} (h : CR 4 6 8 μ A) (e : μ'.1 = μ.1) : CO μ μ' A := ⟨h.l e, fun q s _ => congrFun (congrFun e q) s⟩
theorem s_booth (hr : Rel μ A) (x y : Int32) : ∃ A', Good A' ∧ Step A A' μ (L_booth 0 x y 177 μ) (fun μ2 => X8_booth 132 x y μ2) := by
  have hG := hr.2.2
  have hI := hG.1
  have h6 := hI.1.1
  have hB := hG.bds
  refine ⟨A, hG, ?_⟩
  unfold L_booth X6_booth X8_booth
  rw [RF01.1]
  simp only [bV_eq]
  by_cases h1 : ∃ b, b < a_nb A ∧ x = nI b
  · obtain ⟨b, hb, rfl⟩ := h1
    rw [hasB_yes hb hr.1 hB, if_neg one_ne]
    by_cases h2 : (0 : Int32) ≤ y ∧ y ≤ 11
    · obtain ⟨j, rfl, _, hj⟩ := nI_in' (a := 0) (b := 11) rfl rfl (by omega) (by omega) h2
      obtain ⟨μ1, x1, e1⟩ := c_tellX isO4 hr.1 hG hb (show j < 12 by omega)
      rw [X6_in h2.1 h2.2, if_neg one_ne, x1]
      simp only [bO2_s, bO3_s]
      rw [if_pos trivial, if_pos in177]
      refine step_yes (v := tellX A b j) rfl (CO.l hr.1 e1) (fun μ2 hm2 => ?_)
      have c0 := m_begin hm2
      obtain ⟨μ3, x3, c3⟩ := m_tellX c0 hG hb (show j < 12 by omega)
      rw [isB_y c0 h6 hb, if_neg one_ne, isIn_in h2.1 h2.2, if_neg one_ne, x3]
      exact ⟨_, rfl, c3⟩
    · refine step_no hr 1 ?_ one_ne (fun μ2 hm => ?_)
      · rw [X6_out h2, if_pos rfl]
        rfl
      · have c0 := m_begin hm
        rw [isB_y c0 h6 hb, if_neg one_ne, isIn_out h2, if_pos rfl]
        rfl
  · refine step_no hr 1 ?_ one_ne (fun μ2 hm => ?_)
    · rw [hasB_n hr.1 h6 h1, if_pos rfl]
      rfl
    · have c0 := m_begin hm
      rw [isB_n c0 h6 h1, if_pos rfl]
      rfl
/-! the digest -/
def foldN (g : Nat → Int64 → Int64) : Nat → Int64 → Int64
  | 0, v => v
  | n + 1, v => g n (foldN g n v)
theorem foldN_0 (g : Nat → Int64 → Int64) (v : Int64) : foldN g 0 v = v := rfl
def dgC (A : AS) (i : Nat) (v : Int64) : Int64 := v * 31 + (cntA A i).toInt64
def dgI1 (A : AS) (i j : Nat) (v : Int64) : Int64 := v * 31 + (tellI A i j).toInt64
def dgI (A : AS) (i : Nat) (v : Int64) : Int64 := foldN (dgI1 A i) 7 v
def dgB1 (A : AS) (b j : Nat) (v : Int64) : Int64 := v * 31 + (tellX A b j).toInt64
def dgB (A : AS) (b : Nat) (v : Int64) : Int64 := foldN (dgB1 A b) 12 v
def dgS1 (A : AS) (a k : Nat) (v : Int64) : Int64 := (v * 31 + (a_sw A a k).toInt64) * 31 + (a_st A a k).toInt64
def dgS (A : AS) (a : Nat) (v : Int64) : Int64 := foldN (dgS1 A a) (a_mn A a) v
theorem foldN_s (g : Nat → Int64 → Int64) (n : Nat) (v : Int64) : g n (foldN g n v) = foldN g (n + 1) v := rfl
theorem dgI_d (A : AS) (i : Nat) (v : Int64) : foldN (dgI1 A i) 7 v = dgI A i v := rfl
theorem dgB_d (A : AS) (i : Nat) (v : Int64) : foldN (dgB1 A i) 12 v = dgB A i v := rfl
theorem dgS_d (A : AS) (i : Nat) (v : Int64) : foldN (dgS1 A i) (a_mn A i) v = dgS A i v := rfl
def dgA (A : AS) : Int64 := foldN (dgS A) (a_nb A + 1) (foldN (dgB A) (a_nb A) (foldN (dgI A) (a_ni A) (foldN (dgC A) 10 523)))
theorem d_c1 (h : CR 4 6 8 μ A) (hG : Good A) (v0 : Int64) : ∀ d i f, i + d = 10 → d < f → X6_digest_L6 0 μ f (foldN (dgC A) i v0) (nI i) = some (foldN (dgC A) 10 v0) := by
  intro d
  induction d with
  | zero =>
    intro i f hi hf
    obtain ⟨g, rfl⟩ : ∃ g, f = g + 1 := ⟨f - 1, by omega⟩
    have e : i = 10 := by omega
    subst e
    rw [X6_digest_L6_s, if_pos (show (10 : Int32) ≤ nI 10 from by decide)]
  | succ d ih =>
    intro i f hi hf
    obtain ⟨g, rfl⟩ : ∃ g, f = g + 1 := ⟨f - 1, by omega⟩
    rw [X6_digest_L6_s, if_neg (show ¬ (10 : Int32) ≤ nI i from nI_ge (b := 10) (by omega) (by omega)), RF01.1, c_count isO4 h hG.bds hG.1.2.1 i (by omega)]
    simp only [bO1_s, bV_eq]
    rw [nI_1]
    exact ih (i + 1) g (by omega) (by omega)
theorem d_m1 (h : Ml 133 ρ μ A) (hG : Good A) (v0 : Int64) : ∀ d i f, i + d = 10 → d < f → X8_digest_L11 132 μ f (foldN (dgC A) i v0) (nI i) = some (foldN (dgC A) 10 v0) := by
  intro d
  induction d with
  | zero =>
    intro i f hi hf
    obtain ⟨g, rfl⟩ : ∃ g, f = g + 1 := ⟨f - 1, by omega⟩
    have e : i = 10 := by omega
    subst e
    rw [X8_digest_L11_s, if_pos (show (10 : Int32) ≤ nI 10 from by decide)]
  | succ d ih =>
    intro i f hi hf
    obtain ⟨g, rfl⟩ : ∃ g, f = g + 1 := ⟨f - 1, by omega⟩
    rw [X8_digest_L11_s, if_neg (show ¬ (10 : Int32) ≤ nI i from nI_ge (b := 10) (by omega) (by omega)), m_counted h hG.1.2.1 hG.1.1.1 hG.1.1.2.1 i (by omega)]
    simp only [bO1_s, bV_eq]
    rw [nI_1]
    exact ih (i + 1) g (by omega) (by omega)
theorem d_c2i (h : CR 4 6 8 μ A) (hG : Good A) {i : Nat} (hi : i < 8) (v0 : Int64) : ∀ d j f, j + d = 7 → d < f → X6_digest_L50 0 (nI i) μ f (foldN (dgI1 A i) j v0) (nI j) = some (foldN (dgI1 A i) 7 v0) := by
  intro d
  induction d with
  | zero =>
    intro j f hj hf
    obtain ⟨g, rfl⟩ : ∃ g, f = g + 1 := ⟨f - 1, by omega⟩
    have e : j = 7 := by omega
    subst e
    rw [X6_digest_L50_s, if_pos (show (7 : Int32) ≤ nI 7 from by decide)]
  | succ d ih =>
    intro j f hj hf
    obtain ⟨g, rfl⟩ : ∃ g, f = g + 1 := ⟨f - 1, by omega⟩
    rw [X6_digest_L50_s, if_neg (show ¬ (7 : Int32) ≤ nI j from nI_ge (b := 7) (by omega) (by omega)), RF01.1, if_pos (in_ints isO4 hi), int_at isO4 hi, c_tellI h hG.bds hi j (by omega)]
    simp only [bV_eq]
    rw [nI_1]
    exact ih (j + 1) g (by omega) (by omega)
theorem d_c2 (h : CR 4 6 8 μ A) (hG : Good A) (v0 : Int64) : ∀ d i f, i + d = a_ni A → d < f → X6_digest_L36 0 μ f (foldN (dgI A) i v0) (nI i) = some (foldN (dgI A) (a_ni A) v0) := by
  have h8 := hG.1.1.2.1
  intro d
  induction d with
  | zero =>
    intro i f hi hf
    obtain ⟨g, rfl⟩ : ∃ g, f = g + 1 := ⟨f - 1, by omega⟩
    have e : i = a_ni A := by omega
    subst e
    rw [X6_digest_L36_s, RF01.1, rd3 h, if_pos (nI_le (Nat.le_refl _) (by omega))]
  | succ d ih =>
    intro i f hi hf
    obtain ⟨g, rfl⟩ : ∃ g, f = g + 1 := ⟨f - 1, by omega⟩
    rw [X6_digest_L36_s, RF01.1, rd3 h, if_neg (nI_ge (by omega) (by omega))]
    have xx1 := d_c2i h hG (i := i) (by omega) (foldN (dgI A) i v0) 7 0 1000 (by omega) (by omega)
    rw [foldN_0, ← nI0] at xx1
    rw [xx1]
    simp only [bO1_s, bV_eq]
    rw [nI_1, dgI_d, foldN_s (dgI A)]
    exact ih (i + 1) g (by omega) (by omega)
theorem d_m2i (h : Ml 133 ρ μ A) (hG : Good A) {i : Nat} (hi : i < 8) (v0 : Int64) : ∀ d j f, j + d = 7 → d < f → X8_digest_L52 132 (nI i) μ f (foldN (dgI1 A i) j v0) (nI j) = some (foldN (dgI1 A i) 7 v0) := by
  intro d
  induction d with
  | zero =>
    intro j f hj hf
    obtain ⟨g, rfl⟩ : ∃ g, f = g + 1 := ⟨f - 1, by omega⟩
    have e : j = 7 := by omega
    subst e
    rw [X8_digest_L52_s, if_pos (show (7 : Int32) ≤ nI 7 from by decide)]
  | succ d ih =>
    intro j f hj hf
    obtain ⟨g, rfl⟩ : ∃ g, f = g + 1 := ⟨f - 1, by omega⟩
    rw [X8_digest_L52_s, if_neg (show ¬ (7 : Int32) ≤ nI j from nI_ge (b := 7) (by omega) (by omega)), m_tellI h hG.1.2.1 hG.1.1.1 hG.1.1.2.1 hi j (by omega)]
    simp only [bO1_s, bV_eq]
    rw [nI_1]
    exact ih (j + 1) g (by omega) (by omega)
theorem d_m2 (h : Ml 133 ρ μ A) (hG : Good A) (v0 : Int64) : ∀ d i f, i + d = a_ni A → d < f → X8_digest_L38 132 μ f (foldN (dgI A) i v0) (nI i) = some (foldN (dgI A) (a_ni A) v0) := by
  have h8 := hG.1.1.2.1
  intro d
  induction d with
  | zero =>
    intro i f hi hf
    obtain ⟨g, rfl⟩ : ∃ g, f = g + 1 := ⟨f - 1, by omega⟩
    have e : i = a_ni A := by omega
    subst e
    rw [X8_digest_L38_s, RF01.2.1, rq3 h, if_pos (nI_le (Nat.le_refl _) (by omega))]
  | succ d ih =>
    intro i f hi hf
    obtain ⟨g, rfl⟩ : ∃ g, f = g + 1 := ⟨f - 1, by omega⟩
    rw [X8_digest_L38_s, RF01.2.1, rq3 h, if_neg (nI_ge (by omega) (by omega))]
    have xx2 := d_m2i h hG (i := i) (by omega) (foldN (dgI A) i v0) 7 0 8 (by omega) (by omega)
    rw [foldN_0, ← nI0] at xx2
    rw [xx2]
    simp only [bO1_s, bV_eq]
    rw [nI_1, dgI_d, foldN_s (dgI A)]
    exact ih (i + 1) g (by omega) (by omega)
theorem d_c3i (hG : Good A) {b : Nat} (hb : b < a_nb A) (v0 : Int64) : ∀ d j f μ, j + d = 12 → d < f → CR 4 6 8 μ A → ∃ μ', X6_digest_L107 0 (nI b) f (foldN (dgB1 A b) j v0) (nI j) μ = some (foldN (dgB1 A b) 12 v0, μ') ∧ μ'.1 = μ.1 := by
  intro d
  induction d with
  | zero =>
    intro j f μ hj hf h
    obtain ⟨g, rfl⟩ : ∃ g, f = g + 1 := ⟨f - 1, by omega⟩
    have e : j = 12 := by omega
    subst e
    rw [X6_digest_L107_s, if_pos (show (12 : Int32) ≤ nI 12 from by decide)]
    exact ⟨μ, rfl, rfl⟩
  | succ d ih =>
    intro j f μ hj hf h
    obtain ⟨g, rfl⟩ : ∃ g, f = g + 1 := ⟨f - 1, by omega⟩
    obtain ⟨μ1, x1, e1⟩ := c_tellX isO4 h hG hb (show j < 12 by omega)
    rw [X6_digest_L107_s, if_neg (show ¬ (12 : Int32) ≤ nI j from nI_ge (b := 12) (by omega) (by omega)), RF01.1, x1]
    simp only [bO2_s, bV_eq]
    rw [nI_1]
    obtain ⟨μ2, x2, e2⟩ := ih (j + 1) g μ1 (by omega) (by omega) (h.l e1)
    exact ⟨μ2, x2, e2.trans e1⟩
theorem d_c3 (hG : Good A) (v0 : Int64) : ∀ d b f μ, b + d = a_nb A → d < f → CR 4 6 8 μ A → ∃ μ', X6_digest_L93 0 f (foldN (dgB A) b v0) (nI b) μ = some (foldN (dgB A) (a_nb A) v0, μ') ∧ μ'.1 = μ.1 := by
  have h6 := hG.1.1.1
  intro d
  induction d with
  | zero =>
    intro b f μ hb hf h
    obtain ⟨g, rfl⟩ : ∃ g, f = g + 1 := ⟨f - 1, by omega⟩
    have e : b = a_nb A := by omega
    subst e
    rw [X6_digest_L93_s, RF01.1, rd4 h, if_pos (nI_le (Nat.le_refl _) (by omega))]
    exact ⟨μ, rfl, rfl⟩
  | succ d ih =>
    intro b f μ hb hf h
    obtain ⟨g, rfl⟩ : ∃ g, f = g + 1 := ⟨f - 1, by omega⟩
    rw [X6_digest_L93_s, RF01.1, rd4 h, if_neg (nI_ge (by omega) (by omega))]
    obtain ⟨μ1, x1, e1⟩ := d_c3i hG (b := b) (by omega) (foldN (dgB A) b v0) 12 0 1000 μ (by omega) (by omega) h
    rw [foldN_0, ← nI0] at x1
    rw [x1]
    simp only [bO2_s, bV_eq]
    rw [nI_1, dgB_d, foldN_s (dgB A)]
    obtain ⟨μ2, x2, e2⟩ := ih (b + 1) g μ1 (by omega) (by omega) (h.l e1)
    exact ⟨μ2, x2, e2.trans e1⟩
theorem d_m3i (hG : Good A) {b : Nat} (hb : b < a_nb A) (v0 : Int64) : ∀ d j f μ, j + d = 12 → d < f → Ml 133 ρ μ A → ∃ μ', X8_digest_L102 132 (nI b) f (foldN (dgB1 A b) j v0) (nI j) μ = some (foldN (dgB1 A b) 12 v0, μ') ∧ Ml 133 ρ μ' A := by
  intro d
  induction d with
  | zero =>
    intro j f μ hj hf h
    obtain ⟨g, rfl⟩ : ∃ g, f = g + 1 := ⟨f - 1, by omega⟩
    have e : j = 12 := by omega
    subst e
    rw [X8_digest_L102_s, if_pos (show (12 : Int32) ≤ nI 12 from by decide)]
    exact ⟨μ, rfl, h⟩
  | succ d ih =>
    intro j f μ hj hf h
    obtain ⟨g, rfl⟩ : ∃ g, f = g + 1 := ⟨f - 1, by omega⟩
    obtain ⟨μ1, x1, c1⟩ := m_tellX h hG hb (show j < 12 by omega)
    rw [X8_digest_L102_s, if_neg (show ¬ (12 : Int32) ≤ nI j from nI_ge (b := 12) (by omega) (by omega)), x1]
    simp only [bO2_s, bV_eq]
    rw [nI_1]
    exact ih (j + 1) g μ1 (by omega) (by omega) c1
theorem d_m3 (hG : Good A) (v0 : Int64) : ∀ d b f μ, b + d = a_nb A → d < f → Ml 133 ρ μ A → ∃ μ', X8_digest_L88 132 f (foldN (dgB A) b v0) (nI b) μ = some (foldN (dgB A) (a_nb A) v0, μ') ∧ Ml 133 ρ μ' A := by
  have h6 := hG.1.1.1
  intro d
  induction d with
  | zero =>
    intro b f μ hb hf h
    obtain ⟨g, rfl⟩ : ∃ g, f = g + 1 := ⟨f - 1, by omega⟩
    have e : b = a_nb A := by omega
    subst e
    rw [X8_digest_L88_s, RF01.2.1, rq4 h, if_pos (nI_le (Nat.le_refl _) (by omega))]
    exact ⟨μ, rfl, h⟩
  | succ d ih =>
    intro b f μ hb hf h
    obtain ⟨g, rfl⟩ : ∃ g, f = g + 1 := ⟨f - 1, by omega⟩
    rw [X8_digest_L88_s, RF01.2.1, rq4 h, if_neg (nI_ge (by omega) (by omega))]
    obtain ⟨μ1, x1, c1⟩ := d_m3i hG (b := b) (by omega) (foldN (dgB A) b v0) 12 0 13 μ (by omega) (by omega) h
    rw [foldN_0, ← nI0] at x1
    rw [x1]
    simp only [bO2_s, bV_eq]
    rw [nI_1, dgB_d, foldN_s (dgB A)]
    exact ih (b + 1) g μ1 (by omega) (by omega) c1
theorem d_c4i (h : CR 4 6 8 μ A) (hG : Good A) {a : Nat} (ha : a < 7) (v0 : Int64) : ∀ d k f, k + d = a_mn A a → d < f → X4_mixInto_L5 (4 + spC a) μ f (foldN (dgS1 A a) k v0) (nI k) = some (foldN (dgS1 A a) (a_mn A a) v0) := by
  have hB := hG.bds
  have hm := (hG.words a).1
  have r2 : rI μ (4 + spC a) 2 = nI (a_mn A a) := rd23 h hB ha
  intro d
  induction d with
  | zero =>
    intro k f hk hf
    obtain ⟨g, rfl⟩ : ∃ g, f = g + 1 := ⟨f - 1, by omega⟩
    have e : k = a_mn A a := by omega
    subst e
    rw [X4_mixInto_L5_s, r2, if_pos (nI_le (Nat.le_refl _) (by omega))]
  | succ d ih =>
    intro k f hk hf
    obtain ⟨g, rfl⟩ : ∃ g, f = g + 1 := ⟨f - 1, by omega⟩
    have hk2 : k < a_mn A a := by omega
    rw [X4_mixInto_L5_s, r2, if_neg (nI_ge (by omega) (by omega)), X4_word_ok r2 hk2 (by rw [oS0 isO4 ha, oSa0 isO4 ha]; exact hm) (by rw [oS0 isO4 ha, oSa0 isO4 ha]; decide), oS0 isO4 ha, rd24 h hB ha hk2, X4_tick_ok r2 hk2 (by rw [oS1 isO4 ha, oSa1 isO4 ha]; exact hm) (by rw [oS1 isO4 ha, oSa1 isO4 ha]; decide), oS1 isO4 ha, rd25 h hB ha hk2]
    simp only [bO1_s, bV_eq]
    rw [nI_1]
    exact ih (k + 1) g (by omega) (by omega)
theorem d_m4i (h : Ml 133 ρ μ A) (hG : Good A) {a : Nat} (ha : a < 7) (v0 : Int64) : ∀ d k f, k + d = a_mn A a → d < f → X8_digest_L156 132 (nI a) μ f (foldN (dgS1 A a) k v0) (nI (400 * a + k)) = some (foldN (dgS1 A a) (a_mn A a) v0) := by
  have hm := (hG.words a).1
  have ca : (nI a).toNatClampNeg = a := nI_clamp (by omega)
  have j7 : inb (nI a) 7 = True := inb_T ha (by decide)
  intro d
  induction d with
  | zero =>
    intro k f hk hf
    obtain ⟨g, rfl⟩ : ∃ g, f = g + 1 := ⟨f - 1, by omega⟩
    have e : k = a_mn A a := by omega
    subst e
    rw [X8_digest_L156_s, RF01.2.1]
    simp only [pR22 isP133, pA22 isP133, j7, ca, if_true, rq23 h ha, ix400]
    rw [if_pos (nI_le (Nat.le_refl _) (by omega))]
  | succ d ih =>
    intro k f hk hf
    obtain ⟨g, rfl⟩ : ∃ g, f = g + 1 := ⟨f - 1, by omega⟩
    have hk2 : k < a_mn A a := by omega
    have ck : (nI (400 * a + k)).toNatClampNeg = 400 * a + k := nI_clamp (by omega)
    have jk : inb (nI (400 * a + k)) 2800 = True := inb_T (by omega) (by decide)
    rw [X8_digest_L156_s, RF01.2.1]
    simp only [pR22 isP133, pA22 isP133, pR23 isP133, pA23 isP133, pR24 isP133, pA24 isP133, j7, ca, if_true, rq23 h ha, ix400, ck, jk, rq24 h ha hk2 hm, rq25 h ha hk2 hm, bV_eq, nI_1]
    rw [if_neg (nI_ge (by omega) (by omega))]
    exact ih (k + 1) g (by omega) (by omega)
/-- the place a, as the class counts it -/
def plO (a : Nat) : Option Nat := match a with
  | 0 => none
  | b + 1 => some b
theorem plO_p (a : Nat) : placeOf (plO a) = a := by cases a <;> rfl
theorem plO_e (a : Nat) : encO (plO (a + 1)) = nI a := rfl
theorem d_c4 (h : CR 4 6 8 μ A) (hG : Good A) (v0 : Int64) : ∀ d a f, a + d = a_nb A + 1 → d < f → X6_digest_L146 0 μ f (foldN (dgS A) a v0) (encO (plO a)) = some (foldN (dgS A) (a_nb A + 1) v0) := by
  have h6 := hG.1.1.1
  intro d
  induction d with
  | zero =>
    intro a f ha hf
    obtain ⟨g, rfl⟩ : ∃ g, f = g + 1 := ⟨f - 1, by omega⟩
    have e : a = a_nb A + 1 := by omega
    subst e
    rw [X6_digest_L146_s, RF01.1, rd4 h, plO_e, if_pos (nI_le (Nat.le_refl _) (by omega))]
  | succ d ih =>
    intro a f ha hf
    obtain ⟨g, rfl⟩ : ∃ g, f = g + 1 := ⟨f - 1, by omega⟩
    have hx : ∀ b, plO a = some b → b < a_nb A := by
      intro b hb
      cases a with
      | zero => cases hb
      | succ a =>
        cases hb
        omega
    have hlt : ¬ nI (a_nb A) ≤ encO (plO a) := by
      cases a with
      | zero =>
        intro z
        have := Int32.le_trans (nI_le (a := 0) (Nat.zero_le (a_nb A)) (by omega)) z
        exact absurd this (by decide)
      | succ a => exact nI_ge (by omega) (by omega)
    rw [X6_digest_L146_s, RF01.1, rd4 h, if_neg hlt, speech_ok hx isO4 h hG.bds, plO_p]
    simp only [bO1_s]
    unfold X4_mixInto
    have xx5 := d_c4i h hG (a := a) (by omega) (foldN (dgS A) a v0) (a_mn A a) 0 1000 (by omega) (by have := (hG.words a).1; omega)
    rw [foldN_0, ← nI0] at xx5
    rw [xx5]
    simp only [bO1_s, bV_eq]
    rw [enc1, plO_p, dgS_d, foldN_s (dgS A)]
    exact ih (a + 1) g (by omega) (by omega)
theorem d_m4 (h : Ml 133 ρ μ A) (hG : Good A) (v0 : Int64) : ∀ d a f, a + d = a_nb A + 1 → d < f → X8_digest_L138 132 μ f (foldN (dgS A) a v0) (nI a) = some (foldN (dgS A) (a_nb A + 1) v0) := by
  have h6 := hG.1.1.1
  intro d
  induction d with
  | zero =>
    intro a f ha hf
    obtain ⟨g, rfl⟩ : ∃ g, f = g + 1 := ⟨f - 1, by omega⟩
    have e : a = a_nb A + 1 := by omega
    subst e
    rw [X8_digest_L138_s, RF01.2.1, rq4 h, if_pos (nI_lt (by omega) (by omega))]
  | succ d ih =>
    intro a f ha hf
    obtain ⟨g, rfl⟩ : ∃ g, f = g + 1 := ⟨f - 1, by omega⟩
    rw [X8_digest_L138_s, RF01.2.1, rq4 h, if_neg (nI_nlt (by omega) (by omega))]
    simp only [bV_eq]
    have x := d_m4i h hG (a := a) (by omega) (foldN (dgS A) a v0) (a_mn A a) 0 1000 (by omega) (by have := (hG.words a).1; omega)
    rw [show (400 : Int32) * nI a = nI (400 * a + 0) by rw [nI400, nI_mul']; rfl]
    rw [foldN_0] at x
    rw [x]
    simp only [bO1_s]
    rw [nI_1, dgS_d, foldN_s (dgS A)]
    exact ih (a + 1) g (by omega) (by omega)
theorem c_digest (h : CR 4 6 8 μ A) (hG : Good A) : ∃ μ', X6_digest 0 μ = some (dgA A, μ') ∧ μ'.1 = μ.1 := by
  have h6 := hG.1.1.1
  have h8 := hG.1.1.2.1
  unfold X6_digest
  simp only [bV_eq]
  have xx7 := d_c1 h hG 523 10 0 1000 (by omega) (by omega)
  rw [foldN_0, ← nI0] at xx7
  rw [xx7]
  simp only [bO1_s]
  have xx8 := d_c2 h hG (foldN (dgC A) 10 523) (a_ni A) 0 1000 (by omega) (by omega)
  rw [foldN_0, ← nI0] at xx8
  rw [xx8]
  simp only [bO1_s]
  obtain ⟨μ1, x1, e1⟩ := d_c3 hG (foldN (dgI A) (a_ni A) (foldN (dgC A) 10 523)) (a_nb A) 0 1000 μ (by omega) (by omega) h
  rw [foldN_0, ← nI0] at x1
  rw [x1]
  simp only [bO2_s]
  have xx10 := d_c4 (h.l e1) hG (foldN (dgB A) (a_nb A) (foldN (dgI A) (a_ni A) (foldN (dgC A) 10 523))) (a_nb A + 1) 0 1000 (by omega) (by omega)
  rw [foldN_0, show encO (plO 0) = -1 from rfl] at xx10
  rw [xx10]
  exact ⟨μ1, rfl, e1⟩
theorem m_digest (hm : MR 133 μ A) (hG : Good A) : ∃ μ', X8_digest 132 μ = some (dgA A, μ') ∧ RO μ μ' A 0 := by
  have h6 := hG.1.1.1
  have h8 := hG.1.1.2.1
  have h := m_begin hm
  unfold X8_digest
  simp only [bV_eq]
  have xx11 := d_m1 h hG 523 10 0 11 (by omega) (by omega)
  rw [foldN_0, ← nI0] at xx11
  rw [xx11]
  simp only [bO1_s]
  have xx12 := d_m2 h hG (foldN (dgC A) 10 523) (a_ni A) 0 9 (by omega) (by omega)
  rw [foldN_0, ← nI0] at xx12
  rw [xx12]
  simp only [bO1_s]
  obtain ⟨μ1, x1, c1⟩ := d_m3 hG (foldN (dgI A) (a_ni A) (foldN (dgC A) 10 523)) (a_nb A) 0 7 _ (by omega) (by omega) h
  rw [foldN_0, ← nI0] at x1
  rw [x1]
  simp only [bO2_s]
  have xx14 := d_m4 c1 hG (foldN (dgB A) (a_nb A) (foldN (dgI A) (a_ni A) (foldN (dgC A) 10 523))) (a_nb A + 1) 0 1000 (by omega) (by omega)
  rw [foldN_0, ← nI0] at xx14
  rw [xx14]
  exact ⟨μ1, rfl, RO.of c1⟩
end BT
