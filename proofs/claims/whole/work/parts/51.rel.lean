/-! What both hold between two calls, and one call. -/
/-- nobody sits twice -/
def Uniq (A : AS) : Prop := ∀ b c i, b < a_nb A → c < a_nb A → a_sit A b = some i → a_sit A c = some i → b = c
/-- sources don't go round -/
def Acyc (A : AS) : Prop := ∃ r : Nat → Nat, ∀ b s, b < a_nb A → a_src A b = some s → r s < r b
/-- what a booth will find that isn't there yet -/
def Dflt (A : AS) : Prop := ∀ b, a_nb A ≤ b → a_src A b = none ∧ a_sit A b = none ∧ a_bv A b 4 = -1 ∧ a_hd A b = 0
def Good (A : AS) : Prop := Inv 0 A ∧ Uniq A ∧ Acyc A ∧ Dflt A
def CO (μ μ' : MM) (A' : AS) : Prop := CR 4 6 8 μ' A' ∧ ∀ q s, 132 ≤ q → rI μ' q s = rI μ q s
def RO (μ μ' : MM) (A' : AS) (th : Int32) : Prop := MR 133 μ' A' ∧ (∀ q s, q < 132 → rI μ' q s = rI μ q s) ∧ μ'.2 = μ.2 ∧ rI μ' 132 0 = th
def Rel (μ : MM) (A : AS) : Prop := CR 4 6 8 μ A ∧ MR 133 μ A ∧ Good A
theorem isO4 : isO 4 := Or.inl rfl
theorem isP133 : isP 133 := Or.inl rfl
theorem Rel.cl {μ : MM} {A : AS} (h : Rel μ A) : Cl 4 6 8 μ μ A := ⟨h.1, fun _ _ _ => rfl⟩
theorem CO.of {μ μ' : MM} {A : AS} (h : Cl 4 6 8 μ μ' A) : CO μ μ' A := ⟨h.1, fun q s hq => h.2 q s (Or.inr (by omega))⟩
theorem MR.eq {p : Nat} {μ μ' : MM} {A : AS} (h : MR p μ A) (he : ∀ q s, p ≤ q → q < p + 22 → rI μ' q s = rI μ q s) : MR p μ' A := by
  refine RepD.to (fun f b k (z : vm A f b k) => ⟨z.1.1, ?_⟩) (fun f b k z => ⟨z, rfl⟩)
  show rI μ' (p + mC f) (mK f b k) = _
  have hc := mC_lt f (dom_lt f b k z.1.1) z.2.1.1 z.2.1.2
  rw [he _ _ (by omega) (by omega)]
  exact (h f b k z).2
theorem CR.eq {o NB NI : Nat} {μ μ' : MM} {A : AS} (h : CR o NB NI μ A) (he : ∀ q s, o ≤ q → q < o + 64 → rI μ' q s = rI μ q s) : CR o NB NI μ' A := by
  intro f b k z
  refine ⟨z.1, ?_⟩
  show rI μ' (o + cC f b) (cK f k) = _
  have hc := cC_lt f b k z.1
  rw [he _ _ (by omega) (by omega)]
  exact (h f b k z).2
/-- the reference begins: no refusal yet -/
theorem m_begin {μ : MM} {A : AS} (h : MR 133 μ A) : Ml 133 (wI μ 132 0 0) (wI μ 132 0 0) A := ⟨MR.eq h (fun q s h1 _ => rI_ne _ (fun z => by have := z.1; omega)), fun _ _ _ => rfl, rfl⟩
theorem RO.of {μ μ' : MM} {A : AS} (h : Ml 133 (wI μ 132 0 0) μ' A) : RO μ μ' A 0 := by
  refine ⟨h.1, fun q s hq => ?_, h.2.2, ?_⟩
  · rw [h.2.1 q s (Or.inl (by omega)), rI_ne _ (fun z => by have := z.1; omega)]
  · rw [h.2.1 132 0 (Or.inl (by omega)), rI_at]
theorem RO.no {μ : MM} {A : AS} (h : MR 133 μ A) (c : Int32) : RO μ (wI (wI μ 132 0 0) 132 0 c) A c := by
  refine ⟨MR.eq h (fun q s h1 _ => ?_), fun q s hq => ?_, rfl, rI_at _ _ _ _⟩
  · rw [rI_ne _ (fun z => by have := z.1; omega), rI_ne _ (fun z => by have := z.1; omega)]
  · rw [rI_ne _ (fun z => by have := z.1; omega), rI_ne _ (fun z => by have := z.1; omega)]
/-- one call: what the law's wrapper of the class gives, and what the reference gives, from A to A' -/
def Step (A A' : AS) (μ : MM) (lf : Option (Int32 × MM)) (xf : MM → Option (Int32 × MM)) : Prop := ∃ r v μ1, lf = some (r, μ1) ∧ CO μ μ1 A' ∧ (r = 0 → rL μ1 177 0 = v.toInt64) ∧ ∀ μ2, MR 133 μ2 A → ∃ v2 μ3, xf μ2 = some (v2, μ3) ∧ RO μ2 μ3 A' r ∧ (r = 0 → v2 = v)
theorem al177 : al 177 = 1 := by decide +kernel
theorem in177 : inb (0 : Int32) (al 177) := by rw [al177]; exact inb_0 (by decide) (by decide)
theorem CO.out {μ μ1 : MM} {A : AS} (h : CO μ μ1 A) (v : Int64) : CO μ (wL μ1 177 0 v) A := ⟨CR.eq h.1 (fun _ _ _ _ => rfl), fun q s hq => h.2 q s hq⟩
theorem RF01 : RF 0 0 = 4 ∧ RF 132 1 = 133 ∧ RF 132 2 = 155 ∧ RF 0 1 = 68 := by decide +kernel
/-- the law goes on after a call -/
theorem step_on {A A' : AS} {μ : MM} {lf : Option (Int32 × MM)} {xf : MM → Option (Int32 × MM)} {k : MM → Option MM} (hr : Rel μ A) (hg : Good A') (h : Step A A' μ lf xf) (hk : ∀ μ3, Rel μ3 A' → ∃ μ', k μ3 = some μ') : ∃ μ', bO2 lf (fun r μ1 => bO2 (xf μ1) (fun v2 μ3 => if (X8_thrown 132 μ3) = r then (if r = 0 then (if inb (0 : Int32) (al 177) then (if (lg_cmp (rL μ3 177 (0 : Int32).toNatClampNeg) v2.toInt64) = 0 then k μ3 else none) else none) else k μ3) else none)) = some μ' := by
  obtain ⟨r, v, μ1, h1, h2, h3, h4⟩ := h
  obtain ⟨v2, μ3, h5, h6, h7⟩ := h4 μ1 (MR.eq hr.2.1 (fun q s hq _ => h2.2 q s (by omega)))
  have hR : Rel μ3 A' := ⟨CR.eq h2.1 (fun q s _ hq => h6.2.1 q s (by omega)), h6.1, hg⟩
  rw [h1]
  simp only [bO2_s]
  rw [h5]
  simp only [bO2_s]
  rw [if_pos (show X8_thrown 132 μ3 = r from h6.2.2.2)]
  by_cases e : r = 0
  · rw [if_pos e, if_pos in177, if_pos ?_]
    · exact hk μ3 hR
    · rw [h7 e, show rL μ3 177 (0 : Int32).toNatClampNeg = rL μ1 177 0 from congrFun (congrFun h6.2.2.1 177) 0, h3 e]
      exact (lg_cmp_eq _ _).mpr rfl
  · rw [if_neg e]
    exact hk μ3 hR
