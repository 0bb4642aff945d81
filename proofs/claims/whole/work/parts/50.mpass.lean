/-! How many words the booths have said, before and after a tick. -/
theorem sumN_congr {f g : Nat → Nat} : ∀ n, (∀ k, k < n → f k = g k) → sumN f n = sumN g n
  | 0, _ => rfl
  | n + 1, h => by
    show sumN f n + f n = sumN g n + g n
    rw [sumN_congr n (fun k hk => h k (by omega)), h n (by omega)]
theorem sumN_bump {f g : Nat → Nat} {b d : Nat} (hb : f b = g b + d) (hn : ∀ k, k ≠ b → f k = g k) : ∀ n, sumN f n = sumN g n + if b < n then d else 0
  | 0 => by rw [if_neg (by omega)]; rfl
  | n + 1 => by
    show sumN f n + f n = sumN g n + g n + _
    rw [sumN_bump hb hn n]
    by_cases e : n = b
    · subst e
      rw [if_neg (by omega), if_pos (by omega), hb]
      omega
    · rw [hn n e]
      by_cases e2 : b < n
      · rw [if_pos e2, if_pos (by omega)]
        omega
      · rw [if_neg e2, if_neg (by omega)]
        omega
theorem mn_say (A : AS) (b i : Nat) (w : Int32) (c : Nat) : a_mn (sayA A b i w) c = a_mn A c + if c = b + 1 then 1 else 0 := by
  show up1 (a_mn A) (b + 1) (a_mn A (b + 1) + 1) c = _
  by_cases e : c = b + 1
  · rw [e, up1_s, if_pos rfl]
  · rw [up1_n _ _ e, if_neg e]
    rfl
theorem mn_dumb (A : AS) (b : Nat) : a_mn (dumbA A b) = a_mn A := by
  unfold dumbA
  split
  · split <;> rfl
  · rfl
theorem booth_mn (A : AS) (b c : Nat) : a_mn (boothA A b) c = a_mn A c + if c = b + 1 ∧ talkA A b = true then 1 else 0 := by
  by_cases ea : ableA A b = true
  · obtain ⟨i, hx⟩ := able_y ea
    unfold boothA talkA
    rw [hx]
    simp only []
    rw [if_pos ea, ea, Bool.true_and]
    by_cases e4 : a_bv A b 4 = -1
    · rw [if_pos e4, show decide (a_bv A b 4 ≠ -1) = false from decide_eq_false (fun z => z e4), Bool.false_or]
      by_cases ed : dueA A b = true
      · rw [if_pos ed, ed]
        have e : a_mn (wordA A b i) c = a_mn A c + if c = b + 1 then 1 else 0 := by
          unfold wordA
          split <;> exact mn_say _ _ _ _ _
        rw [e]
        by_cases ec : c = b + 1
        · rw [if_pos ec, if_pos ⟨ec, rfl⟩]
        · rw [if_neg ec, if_neg (fun z => ec z.1)]
      · rw [if_neg ed, if_neg (fun z => ed z.2)]
        rfl
    · rw [if_neg e4, show decide (a_bv A b 4 ≠ -1) = true from decide_eq_true e4, Bool.true_or, mn_say]
      by_cases ec : c = b + 1
      · rw [if_pos ec, if_pos ⟨ec, rfl⟩]
      · rw [if_neg ec, if_neg (fun z => ec z.1)]
  · have eaf := bool_f ea
    rw [if_neg (fun z => by have := z.2; unfold talkA at this; rw [eaf, Bool.false_and] at this; exact Bool.false_ne_true this)]
    unfold boothA
    cases hx : a_sit A b with
    | none =>
      simp only []
      rw [mn_dumb]
      rfl
    | some i =>
      simp only []
      rw [if_neg ea]
      show a_mn (dumbA A b) c = _
      rw [mn_dumb]
      rfl
theorem all_booth {A : AS} {b : Nat} (hb : b < a_nb A) : allA (boothA A b) = allA A + if talkA A b = true then 1 else 0 := by
  unfold allA
  rw [(fix_booth A b).1]
  have := sumN_bump (f := fun c => a_mn (boothA A b) (c + 1)) (g := fun c => a_mn A (c + 1)) (b := b) (d := if talkA A b = true then 1 else 0) (by
    show a_mn (boothA A b) (b + 1) = _
    rw [booth_mn]
    by_cases e : talkA A b = true
    · rw [if_pos ⟨rfl, e⟩, if_pos e]
    · rw [if_neg (fun z => e z.2), if_neg e]) (fun k hk => by
    show a_mn (boothA A b) (k + 1) = _
    rw [booth_mn, if_neg (fun z => hk (by have := z.1; omega))]
    rfl) (a_nb A)
  rw [this, if_pos hb]
theorem all_booths {A : AS} : ∀ k i, i + k ≤ a_nb A → allA (itA boothA (i + k) A) = allA (itA boothA i A) + talkF A i k := by
  intro k
  induction k with
  | zero => intro i _; rfl
  | succ k ih =>
    intro i hi
    have h1 := ih (i + 1) (by omega)
    rw [show i + (k + 1) = i + 1 + k by omega, h1]
    have h2 : allA (itA boothA (i + 1) A) = allA (itA boothA i A) + if talkA (itA boothA i A) i = true then 1 else 0 := all_booth (by rw [(fix_it fix_booth i A).1]; omega)
    rw [h2]
    show _ = allA (itA boothA i A) + ((if talkA (itA boothA i A) i = true then 1 else 0) + talkF A (i + 1) k)
    omega
theorem mn_it {f : AS → Nat → AS} (hf : ∀ A i, a_mn (f A i) = a_mn A) : ∀ n A, a_mn (itA f n A) = a_mn A
  | 0, A => rfl
  | n + 1, A => (hf _ n).trans (mn_it hf n A)
theorem mn_hear (A : AS) (b : Nat) : a_mn (hearA A b) = a_mn A := by
  unfold hearA
  split
  · unfold takeA
    split <;> rfl
  · rfl
theorem mn_rest (A : AS) (i : Nat) : a_mn (restA A i) = a_mn A := by
  unfold restA
  split <;> rfl
theorem all_floor (A : AS) : allA (floorA A) = allA A := by
  unfold allA
  rw [(fix_floor A).1]
  refine sumN_congr _ (fun k hk => ?_)
  show a_mn (floorA A) (k + 1) = a_mn A (k + 1)
  unfold floorA
  split
  · rfl
  · split
    · rfl
    · show up1 (a_mn A) 0 (a_mn A 0 + 1) (k + 1) = _
      exact up1_n _ _ (by omega)
theorem all_tick (A : AS) : allA (tickA A) = allA A + talkF (floorA A) 0 (a_nb A) := by
  have e1 : a_mn (tickA A) = a_mn (itA boothA (a_nb A) (floorA A)) := (mn_it mn_rest _ _).trans (mn_it mn_hear _ _)
  have e2 : allA (tickA A) = allA (itA boothA (a_nb A) (floorA A)) := by
    unfold allA
    rw [e1, (fix_lt A).1, (fix_it fix_booth (a_nb A) (floorA A)).1, (fix_floor A).1]
  have h := all_booths (A := floorA A) (a_nb A) 0 (by rw [(fix_floor A).1]; omega)
  rw [Nat.zero_add] at h
  rw [e2, h]
  show allA (floorA A) + _ = _
  rw [all_floor]
theorem nI_diff (a b : Nat) : nI (a + b) - nI a = nI b := by
  rw [← nI_add', Int32.add_comm, Int32.add_sub_cancel]
section MQ
variable {p : Nat} {ρ μ : MM} {A : AS}
theorem m_all_L (hp : isP p) (h : Ml p ρ μ A) (hn : a_nb A ≤ 6) : ∀ k c f, c + k = a_nb A → k < f → X7_all_L4 p μ f (nI (sumN (fun b => a_mn A (b + 1)) c)) (nI c) = some (nI (allA A)) := by
  intro k
  induction k with
  | zero =>
    intro c f hc hf
    obtain ⟨g, rfl⟩ : ∃ g, f = g + 1 := ⟨f - 1, by omega⟩
    have e : c = a_nb A := by omega
    subst e
    rw [X7_all_L4_s, rq4 h, if_pos (nI_le (Nat.le_refl _) (by omega))]
    rfl
  | succ k ih =>
    intro c f hc hf
    obtain ⟨g, rfl⟩ : ∃ g, f = g + 1 := ⟨f - 1, by omega⟩
    have cc : (nI (c + 1)).toNatClampNeg = c + 1 := nI_clamp (by omega)
    have i7 : inb (nI (c + 1)) 7 = True := inb_T (by omega) (by decide)
    rw [X7_all_L4_s, rq4 h, if_neg (nI_ge (by omega) (by omega))]
    simp only [nI_1, pR22 hp, pA22 hp, i7, cc, if_true, rq23 h (show c + 1 < 7 by omega), bV_eq, nI_add']
    exact ih (c + 1) g (by omega) (by omega)
theorem m_all (hp : isP p) (h : Ml p ρ μ A) (hn : a_nb A ≤ 6) : X7_all p μ = some (nI (allA A)) := by
  unfold X7_all
  have := m_all_L hp h hn (a_nb A) 0 1000 (by omega) (by omega)
  rw [show (0 : Int32) = nI (sumN (fun b => a_mn A (b + 1)) 0) from rfl]
  rw [show nI (sumN (fun b => a_mn A (b + 1)) 0) = nI 0 from rfl] at this ⊢
  rw [this]
  rfl
theorem m_tail (hp : isP p) (hI : Inv 0 A) (ht : a_t A < 400) (r : Int32) (h : Ml p ρ μ (floorA A)) : ∃ μ', bO1 (X7_pass_L62 p r 1000 (0 : Int32) μ) (fun μ20 =>
    bO1 (X7_pass_L131 p r 1000 (0 : Int32) μ20) (fun μ35 =>
    bO1 (X7_pass_L200 p r 1000 (0 : Int32) μ35) (fun μ46 =>
    bV (wI μ46 p 0 ((rI μ46 p 0) + (1 : Int32))) (fun μ48 =>
    bO1 (X7_all p μ48) (fun r49 =>
    some (r49 - r, μ48)))))) = some (nI (allA (tickA A)) - r, μ') ∧ Ml p ρ μ' (tickA A) := by
  have f1 := fix_floor A
  have f2 := f1.t (fix_it fix_booth (a_nb A) (floorA A))
  have f3 := f2.t (fix_it fix_hear (a_nb A) (itA boothA (a_nb A) (floorA A)))
  have f4 := f3.t (fix_it fix_rest (a_ni A) (itA hearA (a_nb A) (itA boothA (a_nb A) (floorA A))))
  have i0 := hI.floor
  have hb6 := hI.1.1
  have hi8 := hI.1.2.1
  have i1 := i0.booths (a_nb A) (by rw [f1.1]; exact Nat.le_refl _)
  have i2 := i1.hears (a_nb A) (by rw [f2.1]; exact Nat.le_refl _)
  obtain ⟨μ2, x2, c2⟩ := m_booths (A := floorA A) hp i0 (by rw [f1.2.2.1]; exact ht) r (a_nb A) 0 1000 μ (by rw [f1.1]; omega) (by omega) h
  rw [f1.1] at c2
  obtain ⟨μ3, x3, c3⟩ := m_hears (A := itA boothA (a_nb A) (floorA A)) hp i1 (by omega) (by rw [f2.2.2.1]; exact ht) r (a_nb A) 0 1000 μ2 (by rw [f2.1]; omega) (by omega) c2
  rw [f2.1] at c3
  obtain ⟨μ4, x4, c4⟩ := m_rests (A := itA hearA (a_nb A) (itA boothA (a_nb A) (floorA A))) hp i2 r (a_ni A) 0 1000 μ3 (by rw [f3.2.1]; omega) (by omega) c3
  rw [f3.2.1] at c4
  rw [show (0 : Int32) = nI 0 from rfl, x2]
  simp only [bO1_s]
  rw [x3]
  simp only [bO1_s]
  rw [x4]
  simp only [bO1_s, bV_eq]
  have c5 : Ml p ρ (wI μ4 p 0 (nI (a_t A + 1))) (tickA A) := m_t _ c4
  rw [rq0 c4, f4.2.2.1, nI_1, m_all hp c5 (by rw [(fix_lt A).1]; exact hb6)]
  exact ⟨_, rfl, c5⟩
theorem m_pass1 (hp : isP p) (hI : Inv 0 A) (ht : a_t A < 400) (h : Ml p ρ μ A) : ∃ μ', X7_pass p μ = some (nI (talkF (floorA A) 0 (a_nb A)), μ') ∧ Ml p ρ μ' (tickA A) := by
  have hb6 := hI.1.1
  have h120 := hI.1.2.2.1
  have hr : nI (allA (tickA A)) - nI (allA A) = nI (talkF (floorA A) 0 (a_nb A)) := by rw [all_tick, nI_diff]
  have hmn := (hI.2.2.2.2.2 0).1
  rw [if_neg (by omega)] at hmn
  have j0 : inb (0 : Int32) 120 = True := eq_true (inb_0 (by decide) (by decide))
  unfold X7_pass
  rw [m_all hp h hb6, rq2 h]
  simp only [bO1_s]
  by_cases e : a_lf A = 0
  · have ef : floorA A = A := by unfold floorA; rw [if_pos e]
    obtain ⟨μ', x, c⟩ := m_tail hp hI ht (nI (allA A)) (show Ml p ρ μ (floorA A) by rw [ef]; exact h)
    rw [hr] at x
    rw [e, if_pos (by decide)]
    exact ⟨μ', x, c⟩
  · obtain ⟨n, hn⟩ : ∃ n, a_lf A = n + 1 := ⟨a_lf A - 1, by omega⟩
    have et : rI μ (p + 1) 0 = a_tx A 0 := rq5 h (by omega) h120
    rw [if_neg (nI_nle (by omega) (by omega))]
    simp only [pR2 hp, pA2 hp, j0, nI_tn0, nI_tn1, et, if_true, bV_eq, rI_at]
    by_cases e1 : a_tx A 0 = -1
    · have ef : floorA A = shiftA A := by unfold floorA; rw [if_neg e, if_pos e1]
      rw [if_pos e1, hn, show nI (n + 1) - 1 = nI n by rw [nI_pred' (by omega)]; rfl, if_pos ⟨⟨by decide, by decide, nI_pos (by omega)⟩, by rw [nI_clamp (by omega)]; show 1 + n ≤ 120; omega, by rw [nI_clamp (by omega)]; show 0 + n ≤ 120; omega⟩, nI_clamp (by omega)]
      have c1 := m_shiftT h hn h120
      rw [← ef] at c1
      obtain ⟨μ', x, c⟩ := m_tail hp hI ht (nI (allA A)) c1
      rw [hr] at x
      exact ⟨μ', x, c⟩
    · have ef : floorA A = keepA (shiftA A) 0 (a_tx A 0) := by unfold floorA; rw [if_neg e, if_neg e1]
      rw [if_neg e1]
      obtain ⟨μ1, x1, c1⟩ := m_X7keep (a := 0) (a_tx A 0) hp (by omega) (by omega) h
      rw [show nI 0 = 0 from rfl] at x1
      rw [x1]
      simp only [bO1_s, bV_eq, rI_at]
      rw [show rI μ1 p 3 = nI (n + 1) by rw [rq2 c1]; exact congrArg nI hn, show nI (n + 1) - 1 = nI n by rw [nI_pred' (by omega)]; rfl, if_pos ⟨⟨by decide, by decide, nI_pos (by omega)⟩, by rw [nI_clamp (by omega)]; show 1 + n ≤ 120; omega, by rw [nI_clamp (by omega)]; show 0 + n ≤ 120; omega⟩, nI_clamp (by omega)]
      have c2 := m_shiftT (A := keepA A 0 (a_tx A 0)) c1 hn h120
      have c3 : Ml p ρ (wC (wI μ1 p 3 (nI n)) (p + 1) 1 (p + 1) 0 n) (floorA A) := by
        rw [ef]
        exact c2
      obtain ⟨μ', x, c⟩ := m_tail hp hI ht (nI (allA A)) c3
      rw [hr] at x
      exact ⟨μ', x, c⟩
end MQ
