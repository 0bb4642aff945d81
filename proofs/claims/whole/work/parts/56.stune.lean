/-! tune; chains of sources. -/
def cntN (P : Nat → Bool) : Nat → Nat
  | 0 => 0
  | n + 1 => cntN P n + if P n = true then 1 else 0
theorem cnt_le {P Q : Nat → Bool} : ∀ n, (∀ c, c < n → P c = true → Q c = true) → cntN P n ≤ cntN Q n
  | 0, _ => Nat.le_refl _
  | n + 1, h => by
    have ih := cnt_le n (fun c hc => h c (by omega))
    show cntN P n + (if P n = true then 1 else 0) ≤ cntN Q n + (if Q n = true then 1 else 0)
    by_cases e : P n = true
    · rw [if_pos e, if_pos (h n (by omega) e)]
      omega
    · rw [if_neg e]
      omega
theorem cnt_lt {P Q : Nat → Bool} {s : Nat} (hP : ¬ P s = true) (hQ : Q s = true) : ∀ n, s < n → (∀ c, c < n → P c = true → Q c = true) → cntN P n < cntN Q n
  | 0, h, _ => absurd h (Nat.not_lt_zero _)
  | n + 1, hs, h => by
    show cntN P n + (if P n = true then 1 else 0) < cntN Q n + (if Q n = true then 1 else 0)
    by_cases e : s = n
    · subst e
      have := cnt_le s (fun c hc => h c (by omega))
      rw [if_neg hP, if_pos hQ]
      omega
    · have ih := cnt_lt hP hQ n (by omega) (fun c hc => h c (by omega))
      by_cases e2 : P n = true
      · rw [if_pos e2, if_pos (h n (by omega) e2)]
        omega
      · rw [if_neg e2]
        omega
theorem cnt_n (P : Nat → Bool) : ∀ n, cntN P n ≤ n
  | 0 => Nat.le_refl _
  | n + 1 => by
    have := cnt_n P n
    show cntN P n + (if P n = true then 1 else 0) ≤ n + 1
    split <;> omega
theorem cnt_ltn {P : Nat → Bool} {s : Nat} (hP : ¬ P s = true) {n : Nat} (hs : s < n) : cntN P n < n := by
  have h1 := cnt_lt (Q := fun _ => true) hP rfl n hs (fun _ _ _ => rfl)
  have h2 := cnt_n (fun _ => true) n
  omega
/-- a rank below 6 -/
def Rk (A : AS) (r : Nat → Nat) : Prop := (∀ b s, b < a_nb A → a_src A b = some s → r s < r b) ∧ ∀ b, b < a_nb A → r b < 6
theorem Good.rk {A : AS} (h : Good A) : ∃ r, Rk A r := by
  obtain ⟨hI, h2, ⟨r, hr⟩, h4⟩ := h
  have h6 := hI.1.1
  refine ⟨fun b => cntN (fun c => decide (r c < r b)) (a_nb A), fun b s hb hs => ?_, fun b hb => ?_⟩
  · have h1 := hr b s hb hs
    have hs' := hI.2.1.1 b hb s hs
    exact cnt_lt (s := s) (by simp) (decide_eq_true h1) _ hs' (fun c _ hc => decide_eq_true (Nat.lt_trans (of_decide_eq_true hc) h1))
  · have := cnt_ltn (P := fun c => decide (r c < r b)) (s := b) (by simp) hb
    show cntN (fun c => decide (r c < r b)) (a_nb A) < 6
    omega
def rch (src : Nat → Option Nat) (b : Nat) : Nat → Option Nat → Bool
  | 0, _ => false
  | _ + 1, none => false
  | k + 1, some c => if c = b then true else rch src b k (src c)
def dpt (src : Nat → Option Nat) : Nat → Option Nat → Nat
  | 0, _ => 0
  | _ + 1, none => 0
  | k + 1, some c => dpt src k (src c) + 1
theorem rch_st {A : AS} {r : Nat → Nat} (h : Rk A r) (hs : Seats A) (b : Nat) : ∀ k c, c < a_nb A → r c < k → rch (a_src A) b (k + 1) (some c) = rch (a_src A) b k (some c)
  | 0, c, _, hk => absurd hk (Nat.not_lt_zero _)
  | k + 1, c, hc, hk => by
    show (if c = b then true else rch (a_src A) b (k + 1) (a_src A c)) = (if c = b then true else rch (a_src A) b k (a_src A c))
    cases hx : a_src A c with
    | none =>
      cases k <;> rfl
    | some d =>
      have h1 := h.1 c d hc hx
      rw [rch_st h hs b k d (hs.1 c hc d hx) (by omega)]
def tuneA (A : AS) (b : Nat) (x : Option Nat) : AS := s_src A (up1 (a_src A) b x)
theorem Good.tune {A : AS} (h : Good A) {b : Nat} (hb : b < a_nb A) {x : Option Nat} (hx : ∀ s, x = some s → s < a_nb A) (hn : rch (a_src A) b 6 x = false) : Good (tuneA A b x) := by
  obtain ⟨r, hk⟩ := h.rk
  obtain ⟨hI, h2, h3, h4⟩ := h
  have hs := hI.2.1
  refine ⟨⟨hI.1, ⟨fun c hc s hcs => ?_, hs.2⟩, hI.2.2⟩, h2, ?_, fun c hc => ?_⟩
  · have e1 : up1 (a_src A) b x c = some s := hcs
    by_cases e : c = b
    · rw [e, up1_s] at e1
      exact hx s e1
    · rw [up1_n _ _ e] at e1
      exact hs.1 c hc s e1
  · refine ⟨fun c => if rch (a_src A) b 6 (some c) = true then r c + 6 else r c, fun c s hc hcs => ?_⟩
    have e1 : up1 (a_src A) b x c = some s := hcs
    have hc' : c < a_nb A := hc
    show (if rch (a_src A) b 6 (some s) = true then r s + 6 else r s) < (if rch (a_src A) b 6 (some c) = true then r c + 6 else r c)
    by_cases e : c = b
    · rw [e, up1_s] at e1
      rw [e1] at hn
      have := hk.2 s (hx s e1)
      rw [hn, if_neg (by decide), if_pos (show rch (a_src A) b 6 (some c) = true from if_pos e)]
      omega
    · rw [up1_n _ _ e] at e1
      have h1 := hk.1 c s hc' e1
      have h2 := hk.2 c hc'
      have e2 : rch (a_src A) b 6 (some c) = rch (a_src A) b 5 (some s) := by
        show (if c = b then true else rch (a_src A) b 5 (a_src A c)) = _
        rw [if_neg e, e1]
      rw [e2, ← rch_st hk hs b 5 s (hs.1 c hc' s e1) (by omega)]
      split <;> omega
  · have := h4 c hc
    have hc' : a_nb A ≤ c := hc
    exact ⟨(up1_n _ _ (by omega)).trans this.1, this.2⟩
theorem bo_out {n : Nat} (hn : n ≤ 100) {x : Int32} (h : ¬ ∃ b, b < n ∧ x = nI b) : ¬ (0 ≤ x ∧ x ≤ nI n - 1) := by
  intro z
  rcases Nat.eq_zero_or_pos n with e | e
  · subst e
    have h1 := z.1
    have h2 := Int32.le_trans z.1 z.2
    exact absurd h2 (by decide)
  · rw [nI_pred' e] at z
    obtain ⟨b, hb, _, hb2⟩ := nI_in' (a := 0) (b := n - 1) rfl rfl (by omega) (by omega) z
    exact h ⟨b, by omega, hb⟩
theorem bo_in {n b : Nat} (hb : b < n) (hn : n ≤ 100) : (0 : Int32) ≤ nI b ∧ nI b ≤ nI n - 1 := by
  rw [nI_pred' (by omega)]
  exact ⟨nI_le (a := 0) (Nat.zero_le _) (by omega), nI_le (by omega) (by omega)⟩
theorem has_out {n : Nat} (hn : n ≤ 100) {x : Int32} (h : ¬ ∃ b, b < n ∧ x = nI b) : x < 0 ∨ nI n ≤ x := by
  by_cases e : x < 0
  · exact Or.inl e
  · right
    obtain ⟨j, hj, rfl⟩ := nI_of e
    rcases Nat.lt_or_ge j n with y | y
    · exact absurd ⟨j, y, rfl⟩ h
    · exact nI_le y hj
section TU
variable {o NB NI p : Nat} {ρ μ : MM} {A : AS}
theorem hasB_n (h : CR o NB NI μ A) (hn : a_nb A ≤ 6) {x : Int32} (hx : ¬ ∃ b, b < a_nb A ∧ x = nI b) : X5_hasBooth o x μ = 0 := by
  unfold X5_hasBooth
  rw [rd4 h]
  rcases has_out (n := a_nb A) (by omega) hx with e | e
  · rw [if_pos e]
  · by_cases e2 : x < 0
    · rw [if_pos e2]
    · rw [if_neg e2, if_pos e]
theorem hasI_n (h : CR o NB NI μ A) (hn : a_ni A ≤ 8) {x : Int32} (hx : ¬ ∃ b, b < a_ni A ∧ x = nI b) : X5_hasInterpreter o x μ = 0 := by
  unfold X5_hasInterpreter
  rw [rd3 h]
  rcases has_out (n := a_ni A) (by omega) hx with e | e
  · rw [if_pos e]
  · by_cases e2 : x < 0
    · rw [if_pos e2]
    · rw [if_neg e2, if_pos e]
theorem isB_y (h : Ml 133 ρ μ A) (hn : a_nb A ≤ 6) {b : Nat} (hb : b < a_nb A) : X8_isBooth 132 (nI b) μ = 1 := by
  unfold X8_isBooth
  rw [RF01.2.1, rq4 h]
  have := bo_in hb (by omega)
  exact isIn_in this.1 this.2
theorem isB_n (h : Ml 133 ρ μ A) (hn : a_nb A ≤ 6) {x : Int32} (hx : ¬ ∃ b, b < a_nb A ∧ x = nI b) : X8_isBooth 132 x μ = 0 := by
  unfold X8_isBooth
  rw [RF01.2.1, rq4 h]
  exact isIn_out (bo_out (by omega) hx)
theorem isI_y (h : Ml 133 ρ μ A) (hn : a_ni A ≤ 8) {b : Nat} (hb : b < a_ni A) : X8_isInterpreter 132 (nI b) μ = 1 := by
  unfold X8_isInterpreter
  rw [RF01.2.1, rq3 h]
  have := bo_in hb (by omega)
  exact isIn_in this.1 this.2
theorem isI_n (h : Ml 133 ρ μ A) (hn : a_ni A ≤ 8) {x : Int32} (hx : ¬ ∃ b, b < a_ni A ∧ x = nI b) : X8_isInterpreter 132 x μ = 0 := by
  unfold X8_isInterpreter
  rw [RF01.2.1, rq3 h]
  exact isIn_out (bo_out (by omega) hx)
theorem c_comes {r : Nat → Nat} (ho : isO o) (h : CR o NB NI μ A) (hB : Bds NB NI A) (hk : Rk A r) (hs : Seats A) {b : Nat} (hb : b < a_nb A) : ∀ k x c f, (∀ s, x = some s → s < a_nb A ∧ r s < k) → c + k ≤ 6 → k < f → X5_comesBy_L5 o (nI b) μ f (encO x) (nI c) = some (if rch (a_src A) b k x = true then 0 else 1) := by
  have hn := hB.1
  intro k
  induction k with
  | zero =>
    intro x c f hx hc hf
    obtain ⟨g, rfl⟩ : ∃ g, f = g + 1 := ⟨f - 1, by omega⟩
    have e : x = none := by
      cases x with
      | none => rfl
      | some s => exact absurd (hx s rfl).2 (Nat.not_lt_zero _)
    subst e
    rw [X5_comesBy_L5_s, hasB_O (x := none) (fun b hb => by cases hb) h hB, if_pos rfl, if_pos rfl]
    rfl
  | succ k ih =>
    intro x c f hx hc hf
    obtain ⟨g, rfl⟩ : ∃ g, f = g + 1 := ⟨f - 1, by omega⟩
    rw [X5_comesBy_L5_s, hasB_O (x := x) (fun b hb => (hx b hb).1) h hB]
    cases x with
    | none =>
      rw [if_pos rfl, if_pos rfl]
      rfl
    | some s =>
      have hs1 := hx s rfl
      rw [if_neg (some_ne s), if_neg one_ne, if_neg (show ¬ (6 : Int32) ≤ nI c from nI_ge (b := 6) (by omega) (by omega))]
      show (if nI s = nI b then some 0 else _) = some (if (if s = b then true else rch (a_src A) b k (a_src A s)) = true then 0 else 1)
      by_cases e : s = b
      · rw [if_pos e, if_pos (by rw [e]), if_pos rfl]
      · rw [if_neg e, if_neg (fun z => e (nI_inj' (by omega) (by omega) z))]
        show (if inb (nI s) (al (RF o 3)) then bV (rI μ (RF (RF o 3) (nI s).toNatClampNeg) 6) _ else none) = _
        rw [if_pos (in_booths ho (by omega)), booth_at ho (by omega), rd15 h hB (by omega)]
        simp only [bV_eq]
        rw [nI_1]
        exact ih (a_src A s) (c + 1) g (fun d hd => ⟨hs.1 s hs1.1 d hd, by have := hk.1 s d hs1.1 hd; omega⟩) (by omega) (by omega)
theorem m_comes {r : Nat → Nat} (h : Ml 133 ρ μ A) (hn : a_nb A ≤ 6) (hk : Rk A r) (hs : Seats A) {b : Nat} (hb : b < a_nb A) (a2 : Int32) : ∀ k x f, (∀ s, x = some s → s < a_nb A ∧ r s < k) → k < f → X8_tune_L34 132 (nI b) a2 μ f (encO x) = some (if rch (a_src A) b k x = true then 0 else 1) := by
  intro k
  induction k with
  | zero =>
    intro x f hx hf
    obtain ⟨g, rfl⟩ : ∃ g, f = g + 1 := ⟨f - 1, by omega⟩
    have e : x = none := by
      cases x with
      | none => rfl
      | some s => exact absurd (hx s rfl).2 (Nat.not_lt_zero _)
    subst e
    rw [X8_tune_L34_s, if_pos (show encO none = -1 from rfl)]
    rfl
  | succ k ih =>
    intro x f hx hf
    obtain ⟨g, rfl⟩ : ∃ g, f = g + 1 := ⟨f - 1, by omega⟩
    rw [X8_tune_L34_s]
    cases x with
    | none =>
      rw [if_pos (show encO none = -1 from rfl)]
      rfl
    | some s =>
      have hs1 := hx s rfl
      have cs : (nI s).toNatClampNeg = s := nI_clamp (by omega)
      have j6 : inb (nI s) 6 = True := inb_T (by omega) (by decide)
      rw [if_neg (enc_ne (s := s) (by omega))]
      show (if nI s = nI b then some 0 else _) = some (if (if s = b then true else rch (a_src A) b k (a_src A s)) = true then 0 else 1)
      by_cases e : s = b
      · rw [if_pos e, if_pos (by rw [e]), if_pos rfl]
      · rw [if_neg e, if_neg (fun z => e (nI_inj' (by omega) (by omega) z))]
        show (if inb (nI s) (al (RF (RF 132 1) 15)) then bV (rI μ (RF (RF 132 1) 15) (nI s).toNatClampNeg) _ else none) = _
        rw [RF01.2.1]
        simp only [pR15 isP133, pA15 isP133, j6, cs, if_true, bV_eq, rq15 h (show s < 6 by omega) hs1.1]
        exact ih (a_src A s) g (fun d hd => ⟨hs.1 s hs1.1 d hd, by have := hk.1 s d hs1.1 hd; omega⟩) (by omega)
/-- how long the chain is -/
theorem c_depth_L {r : Nat → Nat} (ho : isO o) (h : CR o NB NI μ A) (hB : Bds NB NI A) (hk : Rk A r) (hs : Seats A) : ∀ k x c f, (∀ s, x = some s → s < a_nb A ∧ r s < k) → c + k ≤ 6 → k < f → X5_chainLength_L4 o μ f (nI c) (encO x) = some (nI (c + dpt (a_src A) k x)) := by
  have hn := hB.1
  intro k
  induction k with
  | zero =>
    intro x c f hx hc hf
    obtain ⟨g, rfl⟩ : ∃ g, f = g + 1 := ⟨f - 1, by omega⟩
    have e : x = none := by
      cases x with
      | none => rfl
      | some s => exact absurd (hx s rfl).2 (Nat.not_lt_zero _)
    subst e
    rw [X5_chainLength_L4_s, hasB_O (x := none) (fun b hb => by cases hb) h hB, if_pos rfl, if_pos rfl]
    rfl
  | succ k ih =>
    intro x c f hx hc hf
    obtain ⟨g, rfl⟩ : ∃ g, f = g + 1 := ⟨f - 1, by omega⟩
    rw [X5_chainLength_L4_s, hasB_O (x := x) (fun b hb => (hx b hb).1) h hB]
    cases x with
    | none =>
      rw [if_pos rfl, if_pos rfl]
      rfl
    | some s =>
      have hs1 := hx s rfl
      rw [if_neg (some_ne s), if_neg one_ne, if_neg (show ¬ (6 : Int32) ≤ nI c from nI_ge (b := 6) (by omega) (by omega))]
      simp only [bV_eq]
      show (if inb (nI s) (al (RF o 3)) then X5_chainLength_L4 o μ g (nI c + 1) (rI μ (RF (RF o 3) (nI s).toNatClampNeg) 6) else none) = some (nI (c + (dpt (a_src A) k (a_src A s) + 1)))
      rw [if_pos (in_booths ho (by omega)), booth_at ho (by omega), rd15 h hB (by omega), nI_1, ih (a_src A s) (c + 1) g (fun d hd => ⟨hs.1 s hs1.1 d hd, by have := hk.1 s d hs1.1 hd; omega⟩) (by omega) (by omega)]
      congr 2
      omega
theorem m_depth_L {r : Nat → Nat} (h : Ml 133 ρ μ A) (hn : a_nb A ≤ 6) (hk : Rk A r) (hs : Seats A) : ∀ k x c f, (∀ s, x = some s → s < a_nb A ∧ r s < k) → k < f → X8_depth_L4 132 μ f (nI c) (encO x) = some (nI (c + dpt (a_src A) k x)) := by
  intro k
  induction k with
  | zero =>
    intro x c f hx hf
    obtain ⟨g, rfl⟩ : ∃ g, f = g + 1 := ⟨f - 1, by omega⟩
    have e : x = none := by
      cases x with
      | none => rfl
      | some s => exact absurd (hx s rfl).2 (Nat.not_lt_zero _)
    subst e
    rw [X8_depth_L4_s, if_pos (show encO none = -1 from rfl)]
    rfl
  | succ k ih =>
    intro x c f hx hf
    obtain ⟨g, rfl⟩ : ∃ g, f = g + 1 := ⟨f - 1, by omega⟩
    rw [X8_depth_L4_s]
    cases x with
    | none =>
      rw [if_pos (show encO none = -1 from rfl)]
      rfl
    | some s =>
      have hs1 := hx s rfl
      have cs : (nI s).toNatClampNeg = s := nI_clamp (by omega)
      have j6 : inb (nI s) 6 = True := inb_T (by omega) (by decide)
      rw [if_neg (enc_ne (s := s) (by omega))]
      simp only [bV_eq]
      show (if inb (nI s) (al (RF (RF 132 1) 15)) then X8_depth_L4 132 μ g (nI c + 1) (rI μ (RF (RF 132 1) 15) (nI s).toNatClampNeg) else none) = some (nI (c + (dpt (a_src A) k (a_src A s) + 1)))
      rw [RF01.2.1]
      simp only [pR15 isP133, pA15 isP133, j6, cs, if_true, rq15 h (show s < 6 by omega) hs1.1, nI_1]
      rw [ih (a_src A s) (c + 1) g (fun d hd => ⟨hs.1 s hs1.1 d hd, by have := hk.1 s d hs1.1 hd; omega⟩) (by omega)]
      congr 2
      omega
end TU
theorem s_tuneGo {μ : MM} {A : AS} (hr : Rel μ A) {b : Nat} (hb : b < a_nb A) {x : Option Nat} (hx : ∀ s, x = some s → s < a_nb A) : ∃ A', Good A' ∧ Step A A' μ (bO3 (bO1 (X5_comesBy 4 (encO x) (nI b) μ) (fun r7 =>
if r7 = 0 then
if inb (nI b) (al (RF 4 3)) then
bV (rI μ (RF (RF 4 3) (nI b).toNatClampNeg) 6) (fun x13 =>
if inb (nI b) (al (RF 4 3)) then
bV (wI μ (RF (RF 4 3) (nI b).toNatClampNeg) 6 (encO x)) (fun μ15 =>
some (0, x13, μ15))
else none)
else none
else
some (1, (0 : Int32), μ))) (fun kd r1 μ1 =>
if kd = 0 then
if inb (0 : Int32) (al 177) then
bV (wL μ1 177 (0 : Int32).toNatClampNeg r1.toInt64) (fun μ2 =>
some ((0 : Int32), μ2))
else none
else if kd = 3 then
some ((1 : Int32), μ1)
else if kd = 1 then
some ((2 : Int32), μ1)
else none)) (fun μ2 => bO1 (X8_tune_L34 132 (nI b) (encO x) (wI μ2 132 0 0) 1000 (encO x)) (fun tg13 =>
if tg13 = 0 then
bP (X8_no 132 (2 : Int32) (wI μ2 132 0 0)) (fun r15 μ16 =>
some (r15, μ16))
else
if inb (nI b) (al (RF (RF 132 1) 15)) then
bV (rI (wI μ2 132 0 0) (RF (RF 132 1) 15) (nI b).toNatClampNeg) (fun x19 =>
if inb (nI b) (al (RF (RF 132 1) 15)) then
bV (wI (wI μ2 132 0 0) (RF (RF 132 1) 15) (nI b).toNatClampNeg (encO x)) (fun μ21 =>
some (x19, μ21))
else none)
else none)) := by
  have hG := hr.2.2
  have hI := hG.1
  have h6 := hI.1.1
  have hs := hI.2.1
  have hB := hG.bds
  obtain ⟨r, hk⟩ := hG.rk
  have hx6 : ∀ s, x = some s → s < a_nb A ∧ r s < 6 := fun s h => ⟨hx s h, hk.2 s (hx s h)⟩
  have x1 := c_comes isO4 hr.1 hB hk hs hb 6 x 0 1000 hx6 (by omega) (by omega)
  have cb : (nI b).toNatClampNeg = b := nI_clamp (by omega)
  have j6 : inb (nI b) 6 = True := inb_T (by omega) (by decide)
  unfold X5_comesBy
  rw [show X5_comesBy_L5 4 (nI b) μ 1000 (encO x) 0 = _ from x1]
  simp only [bO1_s]
  by_cases e : rch (a_src A) b 6 x = true
  · refine ⟨A, hG, step_no hr 2 ?_ two_ne (fun μ2 hm => ?_)⟩
    · rw [if_pos e, if_pos rfl]
      rfl
    · have c0 := m_begin hm
      rw [m_comes c0 h6 hk hs hb _ 6 x 1000 hx6 (by omega), if_pos e]
      rfl
  · refine ⟨tuneA A b x, hG.tune hb hx (bool_f e), ?_⟩
    rw [if_neg e, if_neg (by decide)]
    simp only [bO1_s]
    rw [if_pos trivial, if_pos (in_booths isO4 (by omega)), booth_at isO4 (by omega), rd15 hr.1 hB (by omega)]
    simp only [bV_eq]
    rw [if_pos (in_booths isO4 (by omega))]
    simp only [bO3_s]
    rw [if_pos trivial, if_pos in177]
    refine step_yes (v := encO (a_src A b)) rfl (CO.of (c_src x hr.cl (by omega) (by omega))) (fun μ2 hm => ?_)
    have c0 := m_begin hm
    rw [m_comes c0 h6 hk hs hb _ 6 x 1000 hx6 (by omega), if_neg e]
    simp only [bO1_s]
    rw [if_neg (by decide), RF01.2.1]
    simp only [pR15 isP133, pA15 isP133, j6, cb, if_true, bV_eq, rq15 c0 (show b < 6 by omega) hb]
    exact ⟨_, rfl, m_src x (by omega) c0⟩
theorem s_tune {μ : MM} {A : AS} (hr : Rel μ A) (x y : Int32) : ∃ A', Good A' ∧ Step A A' μ (L_tune 0 x y 177 μ) (fun μ2 => X8_tune 132 x y μ2) := by
  have hG := hr.2.2
  have hI := hG.1
  have h6 := hI.1.1
  have hB := hG.bds
  unfold L_tune X6_tune X8_tune
  rw [RF01.1]
  simp only [bV_eq]
  by_cases h1 : ∃ b, b < a_nb A ∧ x = nI b
  · obtain ⟨b, hb, rfl⟩ := h1
    rw [hasB_yes hb hr.1 hB, if_neg one_ne]
    by_cases h2 : y = -1
    · subst h2
      obtain ⟨A', hg, r, v, μ1, t1, t2, t3, t4⟩ := s_tuneGo hr hb (x := none) (fun s h => by cases h)
      refine ⟨A', hg, r, v, μ1, ?_, t2, t3, fun μ2 hm => ?_⟩
      · rw [if_pos rfl]
        exact t1
      · have c0 := m_begin hm
        obtain ⟨v2, μ3, u1, u2⟩ := t4 μ2 hm
        refine ⟨v2, μ3, ?_, u2⟩
        show (if X8_isBooth 132 (nI b) (wI μ2 132 0 0) = 0 then _ else _) = _
        rw [isB_y c0 h6 hb, if_neg one_ne, if_pos rfl]
        exact u1
    · rw [if_neg h2]
      by_cases h3 : ∃ s, s < a_nb A ∧ y = nI s
      · obtain ⟨s, hs, rfl⟩ := h3
        obtain ⟨A', hg, r, v, μ1, t1, t2, t3, t4⟩ := s_tuneGo hr hb (x := some s) (fun s' h => by cases h; exact hs)
        refine ⟨A', hg, r, v, μ1, ?_, t2, t3, fun μ2 hm => ?_⟩
        · rw [hasB_yes hs hr.1 hB, if_neg one_ne]
          exact t1
        · have c0 := m_begin hm
          obtain ⟨v2, μ3, u1, u2⟩ := t4 μ2 hm
          refine ⟨v2, μ3, ?_, u2⟩
          show (if X8_isBooth 132 (nI b) (wI μ2 132 0 0) = 0 then _ else _) = _
          rw [isB_y c0 h6 hb, if_neg one_ne, if_neg h2, isB_y c0 h6 hs, if_neg one_ne]
          exact u1
      · refine ⟨A, hG, step_no hr 1 ?_ one_ne (fun μ2 hm => ?_)⟩
        · rw [hasB_n hr.1 h6 h3, if_pos rfl]
          rfl
        · have c0 := m_begin hm
          show (if X8_isBooth 132 (nI b) (wI μ2 132 0 0) = 0 then _ else _) = _
          rw [isB_y c0 h6 hb, if_neg one_ne, if_neg h2, isB_n c0 h6 h3, if_pos rfl]
          rfl
  · refine ⟨A, hG, step_no hr 1 ?_ one_ne (fun μ2 hm => ?_)⟩
    · rw [hasB_n hr.1 h6 h1, if_pos rfl]
      rfl
    · have c0 := m_begin hm
      show (if X8_isBooth 132 x (wI μ2 132 0 0) = 0 then _ else _) = _
      rw [isB_n c0 h6 h1, if_pos rfl]
      rfl
