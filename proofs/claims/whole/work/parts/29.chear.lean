/-! A booth hears a word; what is due; a first word taken. -/
section CH
variable {o NB NI : Nat} {ρ μ : MM} {A : AS}
/-- a word more in a booth's memory -/
def gotA (A : AS) (b : Nat) (w : Int32) : AS := s_hd (s_hw (s_hs A (up2 (a_hs A) b (a_hd A b) (nI (a_t A)))) (up2 (a_hw A) b (a_hd A b) w)) (up1 (a_hd A) b (a_hd A b + 1))
theorem D_got {b : Nat} {w : Int32} : ∀ f c k, vd NB NI (gotA A b w) f c k → vd NB NI A f c k ∨ (f = 21 ∧ c = b ∧ k = a_hd A b) ∨ (f = 22 ∧ c = b ∧ k = a_hd A b) := by
  intro f c k z
  by_cases h1 : f = 21
  · subst h1
    obtain ⟨z1, z2, z3⟩ := z
    by_cases hb : c = b
    · subst hb
      have e : a_hd (gotA A c w) c = a_hd A c + 1 := up1_s _ _ _
      have z4 : k < a_hd (gotA A c w) c := z3
      rw [e] at z4
      by_cases hk : k = a_hd A c
      · exact Or.inr (Or.inl ⟨rfl, rfl, hk⟩)
      · exact Or.inl ⟨z1, z2, by show k < a_hd A c; omega⟩
    · have e : a_hd (gotA A b w) c = a_hd A c := up1_n _ _ hb
      have z4 : k < a_hd (gotA A b w) c := z3
      rw [e] at z4
      exact Or.inl ⟨z1, z2, z4⟩
  · by_cases h2 : f = 22
    · subst h2
      obtain ⟨z1, z2, z3⟩ := z
      by_cases hb : c = b
      · subst hb
        have e : a_hd (gotA A c w) c = a_hd A c + 1 := up1_s _ _ _
        have z4 : k < a_hd (gotA A c w) c := z3
        rw [e] at z4
        by_cases hk : k = a_hd A c
        · exact Or.inr (Or.inr ⟨rfl, rfl, hk⟩)
        · exact Or.inl ⟨z1, z2, by show k < a_hd A c; omega⟩
      · have e : a_hd (gotA A b w) c = a_hd A c := up1_n _ _ hb
        have z4 : k < a_hd (gotA A b w) c := z3
        rw [e] at z4
        exact Or.inl ⟨z1, z2, z4⟩
    · exact Or.inl (D_hd (A := A) f c k z h1 h2 rfl rfl)
theorem got_v {b n : Nat} {w t : Int32} (hn : a_hd A b = n) (ht : nI (a_t A) = t) (f c k : Nat) (hd : dom f c k) : (if f = 20 ∧ c = b ∧ k = 0 then nI (n + 1) else if f = 22 ∧ c = b ∧ k = n then t else if f = 19 ∧ c = b ∧ k = 0 then nI (n + 1) else if f = 21 ∧ c = b ∧ k = n then w else av A f c k) = av (gotA A b w) f c k := by
  subst hn; subst ht
  refine Eq.symm (Eq.trans (V19 _ b (a_hd A b + 1) f c k hd) ?_)
  rw [V21 (s_hs A (up2 (a_hs A) b (a_hd A b) (nI (a_t A)))) b (a_hd A b) w f c k hd, V22 A b (a_hd A b) (nI (a_t A)) f c k hd]
  by_cases e20 : f = 20 ∧ c = b ∧ k = 0
  · rw [if_pos e20, if_pos e20, if_neg (fun y => by have := y.1; have := e20.1; omega)]
  · rw [if_neg e20, if_neg e20]
    by_cases e22 : f = 22 ∧ c = b ∧ k = a_hd A b
    · rw [if_pos e22, if_pos e22, if_neg (fun y => by have := y.1; have := e22.1; omega), if_neg (fun y => by have := y.1; have := e22.1; omega)]
    · rw [if_neg e22, if_neg e22]
/-- the cells after a booth has heard -/
def gotM (o b n : Nat) (w t : Int32) (μ : MM) : MM := wI (wI (wI (wI μ (o + (10 + 8 * b)) n w) (o + (9 + 8 * b)) 1 (nI (n + 1))) (o + (12 + 8 * b)) n t) (o + (11 + 8 * b)) 1 (nI (n + 1))
theorem c_got {b : Nat} (w : Int32) (h : Cl o NB NI ρ μ A) (hN : NB ≤ 6) (hb : b < NB) (h12 : a_hd A b < 12) : Cl o NB NI ρ (gotM o b (a_hd A b) w (nI (a_t A)) μ) (gotA A b w) := by
  have hb6 : b < 6 := by omega
  refine ⟨?_, ?_⟩
  · have h1 := RepD.w (cInj o) h.1 21 b (a_hd A b) ⟨hb6, h12⟩ (q := o + (10 + 8 * b)) (s := a_hd A b) w rfl rfl
    have h2 := RepD.w (cInj o) h1 19 b 0 ⟨hb6, rfl⟩ (q := o + (9 + 8 * b)) (s := 1) (nI (a_hd A b + 1)) rfl rfl
    have h3 := RepD.w (cInj o) h2 22 b (a_hd A b) ⟨hb6, h12⟩ (q := o + (12 + 8 * b)) (s := a_hd A b) (nI (a_t A)) rfl rfl
    have h4 := RepD.w (cInj o) h3 20 b 0 ⟨hb6, rfl⟩ (q := o + (11 + 8 * b)) (s := 1) (nI (a_hd A b + 1)) rfl rfl
    refine RepD.to h4 ?_
    intro f c k z
    refine ⟨?_, got_v rfl rfl f c k z.1⟩
    rcases D_got f c k z with y | y | y
    · exact Or.inl (Or.inl (Or.inl (Or.inl y)))
    · exact Or.inl (Or.inl (Or.inl (Or.inr y)))
    · exact Or.inl (Or.inr y)
  · intro q s hz
    unfold gotM
    rw [rI_ne _ (fun y => by have := y.1; omega), rI_ne _ (fun y => by have := y.1; omega), rI_ne _ (fun y => by have := y.1; omega), rI_ne _ (fun y => by have := y.1; omega)]
    exact h.2 q s hz
/-- a booth's memory, and that it holds no more -/
def MemB (A : AS) (b : Nat) : Prop := ∃ m, a_bv A b 2 = nI m ∧ a_hd A b ≤ m ∧ 0 < m ∧ m ≤ 12
theorem nI_inj' {a b : Nat} (ha : a < 2 ^ 31) (hb : b < 2 ^ 31) (h : nI a = nI b) : a = b := by
  have := congrArg Int32.toNatClampNeg h
  rwa [nI_clamp ha, nI_clamp hb] at this
theorem c_hear {b : Nat} (w : Int32) (ho : isO o) (h : Cl o NB NI ρ μ A) (hB : Bds NB NI A) (hb : b < NB) (hm : MemB A b) : ∃ μ', X0_hear (o + (8 + 8 * b)) w (nI (a_t A)) μ = some μ' ∧ Cl o NB NI ρ μ' (takeA A b w) := by
  have hN := hB.1.2
  have hb6 : b < 6 := by omega
  obtain ⟨m, hm1, hm2, hm0, hm3⟩ := hm
  unfold X0_hear takeA
  rw [oB0 ho hb6, oB1 ho hb6, rd19 h.1 hB hb, rd14 h.1 hB hb, hm1]
  by_cases e : a_hd A b = m
  · rw [if_neg (by rw [e]; exact Int32.lt_irrefl), if_pos (by rw [e]), rd17 h.1 hB hb]
    exact ⟨_, rfl, c_bv3 _ h hb hN⟩
  · have hlt : a_hd A b < m := by omega
    rw [if_pos (nI_lt hlt (by omega)), if_neg (fun z => e (nI_inj' (by omega) (by omega) z))]
    have k1 : kc (o + (9 + 8 * b)) = 3 := oWk ho hb6
    have k2 : kc (o + (11 + 8 * b)) = 3 := oAk ho hb6
    have w0 : RF (o + (9 + 8 * b)) 0 = o + (10 + 8 * b) := oW0 ho hb6
    have a0 : RF (o + (11 + 8 * b)) 0 = o + (12 + 8 * b) := oA0 ho hb6
    have x1 := X3_add_ok (v := w) k1 (rd19 h.1 hB hb) (by rw [w0, oWal ho hb6]; omega) (by rw [w0, oWal ho hb6]; decide)
    rw [w0] at x1
    rw [x1]
    simp only [bO1_s]
    have x2 := X3_add_ok (v := nI (a_t A)) (μ := wI (wI μ (o + (10 + 8 * b)) (a_hd A b) w) (o + (9 + 8 * b)) 1 (nI (a_hd A b + 1))) k2 (by rw [rI_ne _ (fun y => by have := y.1; omega), rI_ne _ (fun y => by have := y.1; omega)]; exact rd20 h.1 hB hb) (by rw [a0, oAal ho hb6]; omega) (by rw [a0, oAal ho hb6]; decide)
    rw [a0] at x2
    rw [x2]
    simp only [bO1_s]
    exact ⟨_, rfl, c_got w h hN hb (by omega)⟩
end CH
