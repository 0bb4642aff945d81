/-! The reference: booths hear, others rest, the floor speaks. -/
theorem enc1 (x : Option Nat) : encO x + 1 = nI (placeOf x) := by
  cases x with
  | none => rfl
  | some s => exact nI_1 s
theorem enc_nI {x : Option Nat} {i : Nat} (hx : ∀ s, x = some s → s < 100) (hi : i < 100) : encO x = nI i ↔ x = some i := by
  cases x with
  | none => exact ⟨fun z => absurd z.symm (wNum_ne ⟨i, hi, rfl⟩), fun z => (some_ne i z.symm).elim⟩
  | some s =>
    have := hx s rfl
    exact ⟨fun z => by rw [nI_inj' (a := s) (b := i) (by omega) (by omega) z], fun z => by rw [z]; rfl⟩
section MH
variable {p : Nat} {ρ μ : MM} {A : AS}
theorem m_got {b : Nat} (w : Int32) (h : Ml p ρ μ A) (hb6 : b < 6) (h12 : a_hd A b < 12) : Ml p ρ (wI (wI (wI μ (p + 16) (12 * b + a_hd A b) w) (p + 17) (12 * b + a_hd A b) (nI (a_t A))) (p + 15) b (nI (a_hd A b + 1))) (gotA A b w) := by
  refine ⟨?_, ?_, h.2.2⟩
  · have h1 := RepD.w (mInj p) h.1 21 b (a_hd A b) ⟨hb6, h12⟩ (q := p + 16) (s := 12 * b + a_hd A b) w rfl rfl
    have h2 := RepD.w (mInj p) h1 22 b (a_hd A b) ⟨hb6, h12⟩ (q := p + 17) (s := 12 * b + a_hd A b) (nI (a_t A)) rfl rfl
    have h3 := RepD.w (mInj p) h2 19 b 0 ⟨hb6, rfl⟩ (q := p + 15) (s := b) (nI (a_hd A b + 1)) rfl rfl
    refine RepD.to h3 ?_
    intro f c k z
    refine ⟨?_, ?_⟩
    · rcases D_got (NB := 6) (NI := 8) f c k z.1 with y | y | y
      · exact Or.inl (Or.inl (Or.inl ⟨y, z.2⟩))
      · exact Or.inl (Or.inl (Or.inr y))
      · exact Or.inl (Or.inr y)
    · refine Eq.trans ?_ (got_v rfl rfl f c k z.1.1)
      rw [if_neg (fun y : f = 20 ∧ _ => z.2.1.1 y.1)]
      by_cases e19 : f = 19 ∧ c = b ∧ k = 0
      · rw [if_pos e19, if_pos e19, if_neg (fun y => by have := y.1; have := e19.1; omega)]
      · rw [if_neg e19, if_neg e19]
  · intro q s hz
    rw [rI_o _ (by omega), rI_o _ (by omega), rI_o _ (by omega)]
    exact h.2.1 q s hz
theorem m_hear {b : Nat} (w : Int32) (hp : isP p) (h : Ml p ρ μ A) (hb : b < 6) (hm : MemB A b) : ∃ μ', X7_hear p (nI b) w μ = some μ' ∧ Ml p ρ μ' (takeA A b w) := by
  have cb : (nI b).toNatClampNeg = b := nI_clamp (by omega)
  have i6 : inb (nI b) 6 = True := inb_T (by omega) (by decide)
  obtain ⟨m, hm1, hm2, hm0, hm3⟩ := hm
  unfold X7_hear takeA
  simp only [pR19 hp, pA19 hp, pR14 hp, pA14 hp, pR17 hp, pA17 hp, pR20 hp, pA20 hp, pR21 hp, pA21 hp, i6, cb, if_true, rq19 h hb, rq14 h hb, rq17 h hb, bV_eq]
  by_cases e : nI (a_hd A b) = a_bv A b 2
  · rw [if_pos e, if_pos e]
    exact ⟨_, rfl, m_bv3 _ hb h⟩
  · rw [if_neg e, if_neg e]
    have hlt : a_hd A b < m := by
      rcases Nat.lt_or_ge (a_hd A b) m with y | y
      · exact y
      · exact absurd (by rw [hm1, show a_hd A b = m by omega]) e
    have ck : (nI (12 * b + a_hd A b)).toNatClampNeg = 12 * b + a_hd A b := nI_clamp (by omega)
    have j : inb (nI (12 * b + a_hd A b)) 72 = True := inb_T (by omega) (by decide)
    simp only [ix12, j, ck, if_true, rI_o, Nat.reduceEqDiff, Nat.add_left_cancel_iff, pne, pne', not_false_eq_true, rq19 h hb, rq0 h, nI_1]
    exact ⟨_, rfl, m_got w h hb (by omega)⟩
theorem m_hears {j : Nat} (hp : isP p) (hI : Inv j A) (hj : j ≠ 0) (ht : a_t A < 400) (b1 : Int32) : ∀ k i f μ, i + k = a_nb A → k < f → Ml p ρ μ (itA hearA i A) → ∃ μ', X7_pass_L131 p b1 f (nI i) μ = some μ' ∧ Ml p ρ μ' (itA hearA (a_nb A) A) := by
  intro k
  induction k with
  | zero =>
    intro i f μ hi hf hc
    obtain ⟨g, rfl⟩ : ∃ g, f = g + 1 := ⟨f - 1, by omega⟩
    have e : i = a_nb A := by omega
    subst e
    rw [X7_pass_L131_s, rq4 hc, (fix_it fix_hear _ A).1, if_pos (nI_le (Nat.le_refl _) (by have := hI.1.1; omega))]
    exact ⟨μ, rfl, hc⟩
  | succ k ih =>
    intro i f μ hi hf hc
    obtain ⟨g, rfl⟩ : ∃ g, f = g + 1 := ⟨f - 1, by omega⟩
    have fx := fix_it fix_hear i A
    have hI2 : Inv j (itA hearA i A) := hI.hears i (by omega)
    have hb6 := hI.1.1
    have hib : i < a_nb (itA hearA i A) := by rw [fx.1]; omega
    have hp7 := place_lt hI2.2.1 hib
    have hp7' : placeOf (a_src (itA hearA i A) i) < 7 := by rw [fx.1] at hp7; omega
    have hm4 := (hI2.2.2.2.2.2 (placeOf (a_src (itA hearA i A) i))).1
    have hm5 : a_mn (itA hearA i A) (placeOf (a_src (itA hearA i A) i)) ≤ 400 := by
      rw [fx.2.2.1] at hm4
      split at hm4 <;> omega
    have ci : (nI i).toNatClampNeg = i := nI_clamp (by omega)
    have i6 : inb (nI i) 6 = True := inb_T (by omega) (by decide)
    rw [X7_pass_L131_s, rq4 hc, fx.1, if_neg (nI_ge (by omega) (by omega))]
    simp only [pR15 hp, pA15 hp, i6, ci, if_true, rq15 hc (by omega) hib, enc1, m_now hp hp7' hm5 hc, bO1_s, bV_eq, nI_1]
    by_cases e : nowA (itA hearA i A) (placeOf (a_src (itA hearA i A) i)) = true
    · have cp : (nI (placeOf (a_src (itA hearA i A) i))).toNatClampNeg = placeOf (a_src (itA hearA i A) i) := nI_clamp (by omega)
      have j7 : inb (nI (placeOf (a_src (itA hearA i A) i))) 7 = True := inb_T (by omega) (by decide)
      have hpos := now_pos e
      have ck : (nI (400 * placeOf (a_src (itA hearA i A) i) + (a_mn (itA hearA i A) (placeOf (a_src (itA hearA i A) i)) - 1))).toNatClampNeg = 400 * placeOf (a_src (itA hearA i A) i) + (a_mn (itA hearA i A) (placeOf (a_src (itA hearA i A) i)) - 1) := nI_clamp (by omega)
      have jk : inb (nI (400 * placeOf (a_src (itA hearA i A) i) + (a_mn (itA hearA i A) (placeOf (a_src (itA hearA i A) i)) - 1))) 2800 = True := inb_T (by omega) (by decide)
      have epr : nI (400 * placeOf (a_src (itA hearA i A) i) + a_mn (itA hearA i A) (placeOf (a_src (itA hearA i A) i))) - 1 = nI (400 * placeOf (a_src (itA hearA i A) i) + (a_mn (itA hearA i A) (placeOf (a_src (itA hearA i A) i)) - 1)) := by
        rw [nI_pred' (by omega)]
        congr 1
        omega
      simp only [if_pos e, one_ne, if_false, pR22 hp, pA22 hp, pR23 hp, pA23 hp, cp, j7, if_true, rq23 hc hp7', ix400, epr, ck, jk, rq24 hc hp7' (show a_mn (itA hearA i A) (placeOf (a_src (itA hearA i A) i)) - 1 < a_mn (itA hearA i A) (placeOf (a_src (itA hearA i A) i)) by omega) hm5]
      obtain ⟨μ1, x1, c1⟩ := m_hear (b := i) (a_sw (itA hearA i A) (placeOf (a_src (itA hearA i A) i)) (a_mn (itA hearA i A) (placeOf (a_src (itA hearA i A) i)) - 1)) hp hc (by omega) (hI2.2.2.1 i hib).1
      rw [x1]
      simp only [bO1_s]
      refine ih (i + 1) g μ1 (by omega) (by omega) ?_
      show Ml p ρ μ1 (hearA (itA hearA i A) i)
      rw [hear_y e]
      exact c1
    · rw [if_neg e, if_pos rfl]
      refine ih (i + 1) g μ (by omega) (by omega) ?_
      show Ml p ρ μ (hearA (itA hearA i A) i)
      rw [hear_n e]
      exact hc
theorem m_boothOf_L {i : Nat} (hp : isP p) (h : Ml p ρ μ A) (hs : Seats A) (hn : a_nb A ≤ 6) (hni : a_ni A ≤ 8) (hi : i < 8) : ∀ k c f, c + k = a_nb A → k < f → X7_boothOf_L4 p (nI i) μ f (encO (seatOf (a_sit A) i c)) (nI c) = some (encO (seatOf (a_sit A) i (a_nb A))) := by
  intro k
  induction k with
  | zero =>
    intro c f hc hf
    obtain ⟨g, rfl⟩ : ∃ g, f = g + 1 := ⟨f - 1, by omega⟩
    have e : c = a_nb A := by omega
    subst e
    rw [X7_boothOf_L4_s, rq4 h, if_pos (nI_le (Nat.le_refl _) (by omega))]
  | succ k ih =>
    intro c f hc hf
    obtain ⟨g, rfl⟩ : ∃ g, f = g + 1 := ⟨f - 1, by omega⟩
    have cc : (nI c).toNatClampNeg = c := nI_clamp (by omega)
    have i6 : inb (nI c) 6 = True := inb_T (by omega) (by decide)
    rw [X7_boothOf_L4_s, rq4 h, if_neg (nI_ge (by omega) (by omega))]
    simp only [pR16 hp, pA16 hp, i6, cc, if_true, rq16 h (by omega) (show c < a_nb A by omega), bV_eq, nI_1]
    have he := enc_nI (x := a_sit A c) (i := i) (fun s hx => by have := hs.2 c (by omega) s hx; omega) (by omega)
    have h2 := ih (c + 1) g (by omega) (by omega)
    rw [show seatOf (a_sit A) i (c + 1) = if a_sit A c = some i then some c else seatOf (a_sit A) i c from rfl] at h2
    by_cases e : a_sit A c = some i
    · rw [if_pos (he.mpr e)]
      rw [if_pos e] at h2
      exact h2
    · rw [if_neg (fun z => e (he.mp z))]
      rw [if_neg e] at h2
      exact h2
theorem m_boothOf {i : Nat} (hp : isP p) (h : Ml p ρ μ A) (hs : Seats A) (hn : a_nb A ≤ 6) (hni : a_ni A ≤ 8) (hi : i < 8) : X7_boothOf p (nI i) μ = some (encO (seatOf (a_sit A) i (a_nb A))) := by
  unfold X7_boothOf
  have := m_boothOf_L hp h hs hn hni hi (a_nb A) 0 1000 (by omega) (by omega)
  rw [show (-1 : Int32) = encO (seatOf (a_sit A) i 0) from rfl, show (0 : Int32) = nI 0 from rfl, this]
  rfl
theorem m_rests {j : Nat} (hp : isP p) (hI : Inv j A) (b1 : Int32) : ∀ k i f μ, i + k = a_ni A → k < f → Ml p ρ μ (itA restA i A) → ∃ μ', X7_pass_L200 p b1 f (nI i) μ = some μ' ∧ Ml p ρ μ' (itA restA (a_ni A) A) := by
  intro k
  induction k with
  | zero =>
    intro i f μ hi hf hc
    obtain ⟨g, rfl⟩ : ∃ g, f = g + 1 := ⟨f - 1, by omega⟩
    have e : i = a_ni A := by omega
    subst e
    rw [X7_pass_L200_s, rq3 hc, (fix_it fix_rest _ A).2.1, if_pos (nI_le (Nat.le_refl _) (by have := hI.1.2.1; omega))]
    exact ⟨μ, rfl, hc⟩
  | succ k ih =>
    intro i f μ hi hf hc
    obtain ⟨g, rfl⟩ : ∃ g, f = g + 1 := ⟨f - 1, by omega⟩
    have fx := fix_it fix_rest i A
    have hI2 : Inv j (itA restA i A) := hI.rests i
    have hi8 := hI.1.2.1
    have hb6 := hI.1.1
    have ci : (nI i).toNatClampNeg = i := nI_clamp (by omega)
    have j8 : inb (nI i) 8 = True := inb_T (by omega) (by decide)
    have hen := enc_none (fun s => seat_lt (sit := a_sit (itA restA i A)) (i := i) (a_nb (itA restA i A)) s) (by rw [fx.1]; omega)
    rw [X7_pass_L200_s, rq3 hc, fx.2.1, if_neg (nI_ge (by omega) (by omega)), m_boothOf hp hc hI2.2.1 (by rw [fx.1]; exact hb6) (by rw [fx.2.1]; exact hi8) (by omega)]
    simp only [bO1_s, bV_eq, nI_1, pR7 hp, pA7 hp, ci, j8, if_true]
    by_cases e : seatOf (a_sit (itA restA i A)) i (a_nb (itA restA i A)) = none
    · rw [if_pos (hen.mpr e)]
      refine ih (i + 1) g _ (by omega) (by omega) ?_
      show Ml p ρ _ (restA (itA restA i A) i)
      rw [rest_y e]
      exact m_tire 2 (by omega) hc
    · rw [if_neg (fun z => e (hen.mp z))]
      refine ih (i + 1) g _ (by omega) (by omega) ?_
      show Ml p ρ μ (restA (itA restA i A) i)
      rw [rest_n e]
      exact hc
theorem mCell {f b k : Nat} (h : dom f b k) (e : mAd p f b = mAd p 5 0) : f = 5 ∧ b = 0 := by
  have a := mDec_of f b k h
  have e2 : mC f = 1 := Nat.add_left_cancel (show p + mC f = p + 1 from e)
  rw [e2, show mDec 1 (mK f b k) = (5, 0, mK f b k) from rfl] at a
  cases a
  exact ⟨rfl, rfl⟩
theorem m_shiftT {n : Nat} (h : Ml p ρ μ A) (hl : a_lf A = n + 1) (h120 : a_lf A ≤ 120) : Ml p ρ (wC (wI μ p 3 (nI n)) (p + 1) 1 (p + 1) 0 n) (shiftA A) := by
  refine ⟨?_, ?_, h.2.2⟩
  · have h1 := RepD.w (mInj p) h.1 2 0 0 ⟨rfl, rfl⟩ (q := p) (s := 3) (nI n) rfl rfl
    have h2 := RepD.c h1 5 0 n (q := p + 1) rfl (fun f b k hd e => mCell hd e) (fun k => rfl)
    refine RepD.to h2 ?_
    intro f b k z
    by_cases e5 : f = 5
    · subst e5
      obtain ⟨⟨⟨rfl, hk⟩, hk2⟩, -⟩ := z
      have hk3 : k < a_lf A - 1 := hk2
      have e : 5 = 5 ∧ 0 = 0 ∧ k < n := ⟨rfl, rfl, by omega⟩
      refine ⟨⟨⟨rfl, hk⟩, ?_⟩, ?_⟩
      · rw [if_pos e]
        exact Or.inl ⟨⟨⟨rfl, by omega⟩, by show k + 1 < a_lf A; omega⟩, ⟨by decide, by decide⟩, fun z => absurd z (by decide)⟩
      · show (if _ then _ else _) = _
        rw [if_pos e]
        exact if_f (by decide)
    · have hne : ¬ (f = 5 ∧ b = 0 ∧ k < n) := fun q => e5 q.1
      refine ⟨⟨z.1.1, ?_⟩, ?_⟩
      · rw [if_neg hne]
        exact Or.inl ⟨D_lf (A := A) f b k z.1 e5 rfl rfl, z.2⟩
      · show (if _ then _ else _) = _
        rw [if_neg hne]
        refine Eq.symm (Eq.trans (V5n (s_lf A (a_lf A - 1)) _ f b k z.1.1 e5) ?_)
        rw [V2 A (a_lf A - 1) f b k z.1.1, show a_lf A - 1 = n by omega]
  · intro q s hz
    rw [rI_wC, if_neg (by omega), rI_ne _ (fun y => by have := y.1; omega)]
    exact h.2.1 q s hz
end MH
