/-! The class's rows: the text and what a booth holds (printed by gen/cstep.py). -/
theorem V5n (A : AS) (g : Nat → Int32) : ∀ f b k, dom f b k → f ≠ 5 → av (s_tx A g) f b k = av A f b k := by
  intro f b k h n
  match f, h, n with
  | 0, _, _ => rfl
  | 1, _, _ => rfl
  | 2, _, _ => rfl
  | 3, _, _ => rfl
  | 4, _, _ => rfl
  | 5, _, n => exact (n rfl).elim
  | 6, _, _ => rfl
  | 7, _, _ => rfl
  | 8, _, _ => rfl
  | 9, _, _ => rfl
  | 10, _, _ => rfl
  | 11, _, _ => rfl
  | 12, _, _ => rfl
  | 13, _, _ => rfl
  | 14, _, _ => rfl
  | 15, _, _ => rfl
  | 16, _, _ => rfl
  | 17, _, _ => rfl
  | 18, _, _ => rfl
  | 19, _, _ => rfl
  | 20, _, _ => rfl
  | 21, _, _ => rfl
  | 22, _, _ => rfl
  | 23, _, _ => rfl
  | 24, _, _ => rfl
  | 25, _, _ => rfl
  | 26, _, _ => rfl
  | f + 27, h, _ => exact h.elim
theorem V21n (A : AS) (g : Nat → Nat → Int32) : ∀ f b k, dom f b k → f ≠ 21 → av (s_hw A g) f b k = av A f b k := by
  intro f b k h n
  match f, h, n with
  | 0, _, _ => rfl
  | 1, _, _ => rfl
  | 2, _, _ => rfl
  | 3, _, _ => rfl
  | 4, _, _ => rfl
  | 5, _, _ => rfl
  | 6, _, _ => rfl
  | 7, _, _ => rfl
  | 8, _, _ => rfl
  | 9, _, _ => rfl
  | 10, _, _ => rfl
  | 11, _, _ => rfl
  | 12, _, _ => rfl
  | 13, _, _ => rfl
  | 14, _, _ => rfl
  | 15, _, _ => rfl
  | 16, _, _ => rfl
  | 17, _, _ => rfl
  | 18, _, _ => rfl
  | 19, _, _ => rfl
  | 20, _, _ => rfl
  | 21, _, n => exact (n rfl).elim
  | 22, _, _ => rfl
  | 23, _, _ => rfl
  | 24, _, _ => rfl
  | 25, _, _ => rfl
  | 26, _, _ => rfl
  | f + 27, h, _ => exact h.elim
theorem V22n (A : AS) (g : Nat → Nat → Int32) : ∀ f b k, dom f b k → f ≠ 22 → av (s_hs A g) f b k = av A f b k := by
  intro f b k h n
  match f, h, n with
  | 0, _, _ => rfl
  | 1, _, _ => rfl
  | 2, _, _ => rfl
  | 3, _, _ => rfl
  | 4, _, _ => rfl
  | 5, _, _ => rfl
  | 6, _, _ => rfl
  | 7, _, _ => rfl
  | 8, _, _ => rfl
  | 9, _, _ => rfl
  | 10, _, _ => rfl
  | 11, _, _ => rfl
  | 12, _, _ => rfl
  | 13, _, _ => rfl
  | 14, _, _ => rfl
  | 15, _, _ => rfl
  | 16, _, _ => rfl
  | 17, _, _ => rfl
  | 18, _, _ => rfl
  | 19, _, _ => rfl
  | 20, _, _ => rfl
  | 21, _, _ => rfl
  | 22, _, n => exact (n rfl).elim
  | 23, _, _ => rfl
  | 24, _, _ => rfl
  | 25, _, _ => rfl
  | 26, _, _ => rfl
  | f + 27, h, _ => exact h.elim
section CS
variable {o NB NI : Nat} {ρ μ : MM} {A : AS}
theorem c_shift {n : Nat} (h : Cl o NB NI ρ μ A) (hl : a_lf A = n + 1) (h120 : a_lf A ≤ 120) : Cl o NB NI ρ (wC (wI μ (o + 1) 1 (nI n)) (o + 2) 1 (o + 2) 0 n) (shiftA A) := by
  refine ⟨?_, ?_⟩
  · have h1 := RepD.w (cInj o) h.1 2 0 0 ⟨rfl, rfl⟩ (q := o + 1) (s := 1) (nI n) rfl rfl
    have h2 := RepD.c h1 5 0 n (q := o + 2) rfl (fun f b k hd e => cCell (Or.inl rfl) ⟨rfl, by decide⟩ hd e) (fun k => rfl)
    refine RepD.to h2 ?_
    intro f b k z
    by_cases e5 : f = 5
    · subst e5
      obtain ⟨⟨rfl, hk⟩, hk2⟩ := z
      have hk3 : k < a_lf A - 1 := hk2
      have e : 5 = 5 ∧ 0 = 0 ∧ k < n := ⟨rfl, rfl, by omega⟩
      refine ⟨⟨⟨rfl, hk⟩, ?_⟩, ?_⟩
      · rw [if_pos e]
        exact Or.inl ⟨⟨rfl, by omega⟩, by show k + 1 < a_lf A; omega⟩
      · show (if _ then _ else _) = _
        rw [if_pos e]
        exact if_f (by decide)
    · have hne : ¬ (f = 5 ∧ b = 0 ∧ k < n) := fun q => e5 q.1
      refine ⟨⟨z.1, ?_⟩, ?_⟩
      · rw [if_neg hne]
        exact Or.inl (D_lf (A := A) f b k z e5 rfl rfl)
      · show (if _ then _ else _) = _
        rw [if_neg hne]
        refine Eq.symm (Eq.trans (V5n (s_lf A (a_lf A - 1)) _ f b k z.1 e5) ?_)
        rw [V2 A (a_lf A - 1) f b k z.1, show a_lf A - 1 = n by omega]
  · intro q s hz
    rw [rI_wC, if_neg (by omega), rI_ne _ (fun y => by have := y.1; omega)]
    exact h.2 q s hz
/-- the cells after a booth's first word is gone -/
def popM (o b n : Nat) (μ : MM) : MM := wC (wI (wC (wI μ (o + (11 + 8 * b)) 1 (nI n)) (o + (12 + 8 * b)) 1 (o + (12 + 8 * b)) 0 n) (o + (9 + 8 * b)) 1 (nI n)) (o + (10 + 8 * b)) 1 (o + (10 + 8 * b)) 0 n
theorem c_pop {b n : Nat} (h : Cl o NB NI ρ μ A) (hN : NB ≤ 6) (hb : b < NB) (hl : a_hd A b = n + 1) (h12 : a_hd A b ≤ 12) : Cl o NB NI ρ (popM o b n μ) (popA A b) := by
  have hb6 : b < 6 := by omega
  refine ⟨?_, ?_⟩
  · have h1 := RepD.w (cInj o) h.1 20 b 0 ⟨hb6, rfl⟩ (q := o + (11 + 8 * b)) (s := 1) (nI n) rfl rfl
    have h2 := RepD.c h1 22 b n (q := o + (12 + 8 * b)) rfl (fun f b' k hd e => cCell (Or.inr (Or.inr rfl)) ⟨hb6, by decide⟩ hd e) (fun k => rfl)
    have h3 := RepD.w (cInj o) h2 19 b 0 ⟨hb6, rfl⟩ (q := o + (9 + 8 * b)) (s := 1) (nI n) rfl rfl
    have h4 := RepD.c h3 21 b n (q := o + (10 + 8 * b)) rfl (fun f b' k hd e => cCell (Or.inr (Or.inl rfl)) ⟨hb6, by decide⟩ hd e) (fun k => rfl)
    refine RepD.to h4 ?_
    intro f c k z
    have hs : a_hd (popA A b) b = n := by
      show up1 (a_hd A) b (a_hd A b - 1) b = n
      rw [up1_s, hl]; rfl
    have hn : ∀ c, c ≠ b → a_hd (popA A b) c = a_hd A c := fun c hc => up1_n _ _ hc
    by_cases e21 : f = 21
    · subst e21
      obtain ⟨z1, z2, z3⟩ := z
      have z4 : k < a_hd (popA A b) c := z3
      by_cases ec : c = b
      · subst ec
        rw [hs] at z4
        have e : 21 = 21 ∧ c = c ∧ k < n := ⟨rfl, rfl, z4⟩
        refine ⟨⟨z1, ?_⟩, ?_⟩
        · rw [if_pos e]
          refine Or.inl ⟨⟨hb6, by show k + 1 < 12; omega⟩, ?_⟩
          rw [if_neg (fun y => absurd y.1 (by decide))]
          exact Or.inl ⟨⟨hb6, by omega⟩, z2, by show k + 1 < a_hd A c; omega⟩
        · show (if _ then _ else _) = _
          rw [if_pos e]
          refine Eq.trans (if_f (by decide)) (Eq.trans (if_f (by decide)) (Eq.trans (if_f (by decide)) ?_))
          exact Eq.symm (if_pos rfl)
      · rw [hn c ec] at z4
        have e : ¬ (21 = 21 ∧ c = b ∧ k < n) := fun y => ec y.2.1
        refine ⟨⟨z1, ?_⟩, ?_⟩
        · rw [if_neg e]
          refine Or.inl ⟨z1, ?_⟩
          rw [if_neg (fun y => absurd y.1 (by decide))]
          exact Or.inl ⟨z1, z2, z4⟩
        · show (if _ then _ else _) = _
          rw [if_neg e]
          refine Eq.trans (if_f (by decide)) (Eq.trans (if_f (by decide)) (Eq.trans (if_f (by decide)) ?_))
          exact Eq.symm (if_neg ec)
    · by_cases e22 : f = 22
      · subst e22
        obtain ⟨z1, z2, z3⟩ := z
        have z4 : k < a_hd (popA A b) c := z3
        have e1 : ¬ (22 = 21 ∧ c = b ∧ k < n) := fun y => absurd y.1 (by decide)
        by_cases ec : c = b
        · subst ec
          rw [hs] at z4
          have e : 22 = 22 ∧ c = c ∧ k < n := ⟨rfl, rfl, z4⟩
          refine ⟨⟨z1, ?_⟩, ?_⟩
          · rw [if_neg e1]
            refine Or.inl ⟨z1, ?_⟩
            rw [if_pos e]
            exact Or.inl ⟨⟨hb6, by omega⟩, z2, by show k + 1 < a_hd A c; omega⟩
          · show (if _ then _ else _) = _
            rw [if_neg e1]
            refine Eq.trans (if_f (by decide)) (Eq.trans (if_pos e) (Eq.trans (if_f (by decide)) ?_))
            exact Eq.symm (if_pos rfl)
        · rw [hn c ec] at z4
          have e : ¬ (22 = 22 ∧ c = b ∧ k < n) := fun y => ec y.2.1
          refine ⟨⟨z1, ?_⟩, ?_⟩
          · rw [if_neg e1]
            refine Or.inl ⟨z1, ?_⟩
            rw [if_neg e]
            exact Or.inl ⟨z1, z2, z4⟩
          · show (if _ then _ else _) = _
            rw [if_neg e1]
            refine Eq.trans (if_f (by decide)) (Eq.trans (if_neg e) (Eq.trans (if_f (by decide)) ?_))
            exact Eq.symm (if_neg ec)
      · have e1 : ¬ (f = 21 ∧ c = b ∧ k < n) := fun y => e21 y.1
        have e2 : ¬ (f = 22 ∧ c = b ∧ k < n) := fun y => e22 y.1
        refine ⟨⟨z.1, ?_⟩, ?_⟩
        · rw [if_neg e1]
          refine Or.inl ⟨z.1, ?_⟩
          rw [if_neg e2]
          exact Or.inl (D_hd (A := A) f c k z e21 e22 rfl rfl)
        · show (if _ then _ else _) = _
          rw [if_neg e1, if_neg e2]
          refine Eq.symm (Eq.trans (V19 _ b (a_hd A b - 1) f c k z.1) ?_)
          rw [V21n _ _ f c k z.1 e21, V22n _ _ f c k z.1 e22, show a_hd A b - 1 = n by omega]
  · intro q s hz
    unfold popM
    rw [rI_wC, if_neg (by omega), rI_ne _ (fun y => by have := y.1; omega), rI_wC, if_neg (by omega), rI_ne _ (fun y => by have := y.1; omega)]
    exact h.2 q s hz
end CS
