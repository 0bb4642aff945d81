/-! One change of the class's cells (printed by gen/steps.py). -/
theorem cC_lt : ∀ f b k, dom f b k → cC f b < 64 := by
  intro f b k h
  match f, h with
  | 0, h => exact (by decide : 0 < 64)
  | 1, h => exact (by decide : 0 < 64)
  | 2, h => exact (by decide : 1 < 64)
  | 3, h => exact (by decide : 0 < 64)
  | 4, h => exact (by decide : 0 < 64)
  | 5, h => exact (by decide : 2 < 64)
  | 6, h => have := h.1; show 56 + b < 64; omega
  | 7, h => have := h.1; show 56 + b < 64; omega
  | 8, h => have := h.1; show 56 + b < 64; omega
  | 9, h => have := h.1; show 56 + b < 64; omega
  | 10, h => have := h.1; show 56 + b < 64; omega
  | 11, h => have := h.1; show 56 + b < 64; omega
  | 12, h => have := h.1; show 8 + 8 * b < 64; omega
  | 13, h => have := h.1; show 8 + 8 * b < 64; omega
  | 14, h => have := h.1; show 8 + 8 * b < 64; omega
  | 15, h => have := h.1; show 8 + 8 * b < 64; omega
  | 16, h => have := h.1; show 8 + 8 * b < 64; omega
  | 17, h => have := h.1; show 8 + 8 * b < 64; omega
  | 18, h => have := h.1; show 8 + 8 * b < 64; omega
  | 19, h => have := h.1; show 9 + 8 * b < 64; omega
  | 20, h => have := h.1; show 11 + 8 * b < 64; omega
  | 21, h => have := h.1; show 10 + 8 * b < 64; omega
  | 22, h => have := h.1; show 12 + 8 * b < 64; omega
  | 23, h => have := h.1; show (if b = 0 then 3 else 5 + 8 * b) < 64; split <;> omega
  | 24, h => have := h.1; show (if b = 0 then 4 else 6 + 8 * b) < 64; split <;> omega
  | 25, h => have := h.1; show (if b = 0 then 5 else 7 + 8 * b) < 64; split <;> omega
  | 26, h => have := h.1; show 56 + b < 64; omega
  | f + 27, h => exact h.elim
theorem D_gen {NB NI : Nat} {A A' : AS} : ∀ f b k, (f = 5 → a_lf A' = a_lf A) → (f = 21 ∨ f = 22 → a_hd A' = a_hd A) → (f = 24 ∨ f = 25 → a_mn A' = a_mn A) → vd NB NI A' f b k → vd NB NI A f b k := by
  intro f b k h5 h21 h24 z
  match f, h5, h21, h24, z with
  | 0, _, _, _, z => exact z
  | 1, _, _, _, z => exact z
  | 2, _, _, _, z => exact z
  | 3, _, _, _, z => exact z
  | 4, _, _, _, z => exact z
  | 5, h, _, _, z => exact ⟨z.1, by have y := z.2; change k < a_lf A' at y; rw [h rfl] at y; exact y⟩
  | 6, _, _, _, z => exact z
  | 7, _, _, _, z => exact z
  | 8, _, _, _, z => exact z
  | 9, _, _, _, z => exact z
  | 10, _, _, _, z => exact z
  | 11, _, _, _, z => exact z
  | 12, _, _, _, z => exact z
  | 13, _, _, _, z => exact z
  | 14, _, _, _, z => exact z
  | 15, _, _, _, z => exact z
  | 16, _, _, _, z => exact z
  | 17, _, _, _, z => exact z
  | 18, _, _, _, z => exact z
  | 19, _, _, _, z => exact z
  | 20, _, _, _, z => exact z
  | 21, _, h, _, z => exact ⟨z.1, z.2.1, by have y := z.2.2; change k < a_hd A' b at y; rw [h (by decide)] at y; exact y⟩
  | 22, _, h, _, z => exact ⟨z.1, z.2.1, by have y := z.2.2; change k < a_hd A' b at y; rw [h (by decide)] at y; exact y⟩
  | 23, _, _, _, z => exact z
  | 24, _, _, h, z => exact ⟨z.1, z.2.1, by have y := z.2.2; change k < a_mn A' b at y; rw [h (by decide)] at y; exact y⟩
  | 25, _, _, h, z => exact ⟨z.1, z.2.1, by have y := z.2.2; change k < a_mn A' b at y; rw [h (by decide)] at y; exact y⟩
  | 26, _, _, _, z => exact z
  | f + 27, _, _, _, z => exact z.1.elim
theorem D_same {NB NI : Nat} {A A' : AS} (f b k : Nat) (z : vd NB NI A' f b k) (h5 : a_lf A' = a_lf A) (h21 : a_hd A' = a_hd A) (h24 : a_mn A' = a_mn A) : vd NB NI A f b k := D_gen f b k (fun _ => h5) (fun _ => h21) (fun _ => h24) z
theorem D_lf {NB NI : Nat} {A A' : AS} (f b k : Nat) (z : vd NB NI A' f b k) (n : f ≠ 5) (h21 : a_hd A' = a_hd A) (h24 : a_mn A' = a_mn A) : vd NB NI A f b k := D_gen f b k (fun e => absurd e n) (fun _ => h21) (fun _ => h24) z
theorem D_hd {NB NI : Nat} {A A' : AS} (f b k : Nat) (z : vd NB NI A' f b k) (n : f ≠ 21) (m : f ≠ 22) (h5 : a_lf A' = a_lf A) (h24 : a_mn A' = a_mn A) : vd NB NI A f b k := D_gen f b k (fun _ => h5) (fun e => e.elim (fun e => absurd e n) (fun e => absurd e m)) (fun _ => h24) z
theorem D_mn {NB NI : Nat} {A A' : AS} (f b k : Nat) (z : vd NB NI A' f b k) (n : f ≠ 24) (m : f ≠ 25) (h5 : a_lf A' = a_lf A) (h21 : a_hd A' = a_hd A) : vd NB NI A f b k := D_gen f b k (fun _ => h5) (fun _ => h21) (fun e => e.elim (fun e => absurd e n) (fun e => absurd e m)) z
/-- the class's summit holds A, and the rest is as in ρ -/
def Cl (o NB NI : Nat) (ρ μ : MM) (A : AS) : Prop := CR o NB NI μ A ∧ ∀ q s, (q < o ∨ o + 64 ≤ q) → rI μ q s = rI ρ q s
theorem Cl.out {o NB NI : Nat} {ρ μ : MM} {A : AS} (h : Cl o NB NI ρ μ A) {f b k q s : Nat} {v : Int32} (hd : dom f b k) (hq : q = cAd o f b) : ∀ q' s', (q' < o ∨ o + 64 ≤ q') → rI (wI μ q s v) q' s' = rI ρ q' s' := by
  intro q' s' hz
  have := cC_lt f b k hd
  have e : q = o + cC f b := hq
  rw [rI_ne v (fun z => by have := z.1; omega)]
  exact h.2 q' s' hz
theorem Cl.w {o NB NI : Nat} {ρ μ : MM} {A A' : AS} (h : Cl o NB NI ρ μ A) (f0 b0 k0 : Nat) (hd : dom f0 b0 k0) {q s : Nat} {v : Int32} (hV : ∀ f b k, vd NB NI A' f b k → av A' f b k = if f = f0 ∧ b = b0 ∧ k = k0 then v else av A f b k) (hvd : ∀ f b k, vd NB NI A' f b k → vd NB NI A f b k ∨ (f = f0 ∧ b = b0 ∧ k = k0)) (hq : q = cAd o f0 b0) (hs : s = cSl f0 b0 k0) : Cl o NB NI ρ (wI μ q s v) A' :=
  ⟨RepD.to (RepD.w (cInj o) h.1 f0 b0 k0 hd v hq hs) (fun f b k z => ⟨hvd f b k z, (hV f b k z).symm⟩), Cl.out h hd hq⟩
section CW
variable {o NB NI : Nat} {ρ μ : MM} {A : AS}
theorem c_iv0 {i : Nat} (v : Int32) (h : Cl o NB NI ρ μ A) (hi : i < NI) (hN : NI ≤ 8) : Cl o NB NI ρ (wI μ (o + (56 + i)) 0 v) (s_iv A (up2 (a_iv A) i 0 v)) := Cl.w h 6 i 0 ⟨by omega, rfl⟩ (fun f b k z => V6 A i v f b k z.1) (fun f b k z => Or.inl (D_same (A := A) f b k z rfl rfl rfl)) rfl rfl
theorem c_iv1 {i : Nat} (v : Int32) (h : Cl o NB NI ρ μ A) (hi : i < NI) (hN : NI ≤ 8) : Cl o NB NI ρ (wI μ (o + (56 + i)) 1 v) (s_iv A (up2 (a_iv A) i 1 v)) := Cl.w h 7 i 0 ⟨by omega, rfl⟩ (fun f b k z => V7 A i v f b k z.1) (fun f b k z => Or.inl (D_same (A := A) f b k z rfl rfl rfl)) rfl rfl
theorem c_iv2 {i : Nat} (v : Int32) (h : Cl o NB NI ρ μ A) (hi : i < NI) (hN : NI ≤ 8) : Cl o NB NI ρ (wI μ (o + (56 + i)) 3 v) (s_iv A (up2 (a_iv A) i 2 v)) := Cl.w h 8 i 0 ⟨by omega, rfl⟩ (fun f b k z => V8 A i v f b k z.1) (fun f b k z => Or.inl (D_same (A := A) f b k z rfl rfl rfl)) rfl rfl
theorem c_iv3 {i : Nat} (v : Int32) (h : Cl o NB NI ρ μ A) (hi : i < NI) (hN : NI ≤ 8) : Cl o NB NI ρ (wI μ (o + (56 + i)) 4 v) (s_iv A (up2 (a_iv A) i 3 v)) := Cl.w h 9 i 0 ⟨by omega, rfl⟩ (fun f b k z => V9 A i v f b k z.1) (fun f b k z => Or.inl (D_same (A := A) f b k z rfl rfl rfl)) rfl rfl
theorem c_iv4 {i : Nat} (v : Int32) (h : Cl o NB NI ρ μ A) (hi : i < NI) (hN : NI ≤ 8) : Cl o NB NI ρ (wI μ (o + (56 + i)) 5 v) (s_iv A (up2 (a_iv A) i 4 v)) := Cl.w h 10 i 0 ⟨by omega, rfl⟩ (fun f b k z => V10 A i v f b k z.1) (fun f b k z => Or.inl (D_same (A := A) f b k z rfl rfl rfl)) rfl rfl
theorem c_iv5 {i : Nat} (v : Int32) (h : Cl o NB NI ρ μ A) (hi : i < NI) (hN : NI ≤ 8) : Cl o NB NI ρ (wI μ (o + (56 + i)) 6 v) (s_iv A (up2 (a_iv A) i 5 v)) := Cl.w h 11 i 0 ⟨by omega, rfl⟩ (fun f b k z => V11 A i v f b k z.1) (fun f b k z => Or.inl (D_same (A := A) f b k z rfl rfl rfl)) rfl rfl
theorem c_bv0 {b : Nat} (v : Int32) (h : Cl o NB NI ρ μ A) (hb : b < NB) (hN : NB ≤ 6) : Cl o NB NI ρ (wI μ (o + (8 + 8 * b)) 3 v) (s_bv A (up2 (a_bv A) b 0 v)) := Cl.w h 12 b 0 ⟨by omega, rfl⟩ (fun f c k z => V12 A b v f c k z.1) (fun f c k z => Or.inl (D_same (A := A) f c k z rfl rfl rfl)) rfl rfl
theorem c_bv1 {b : Nat} (v : Int32) (h : Cl o NB NI ρ μ A) (hb : b < NB) (hN : NB ≤ 6) : Cl o NB NI ρ (wI μ (o + (8 + 8 * b)) 4 v) (s_bv A (up2 (a_bv A) b 1 v)) := Cl.w h 13 b 0 ⟨by omega, rfl⟩ (fun f c k z => V13 A b v f c k z.1) (fun f c k z => Or.inl (D_same (A := A) f c k z rfl rfl rfl)) rfl rfl
theorem c_bv2 {b : Nat} (v : Int32) (h : Cl o NB NI ρ μ A) (hb : b < NB) (hN : NB ≤ 6) : Cl o NB NI ρ (wI μ (o + (8 + 8 * b)) 5 v) (s_bv A (up2 (a_bv A) b 2 v)) := Cl.w h 14 b 0 ⟨by omega, rfl⟩ (fun f c k z => V14 A b v f c k z.1) (fun f c k z => Or.inl (D_same (A := A) f c k z rfl rfl rfl)) rfl rfl
theorem c_bv3 {b : Nat} (v : Int32) (h : Cl o NB NI ρ μ A) (hb : b < NB) (hN : NB ≤ 6) : Cl o NB NI ρ (wI μ (o + (8 + 8 * b)) 9 v) (s_bv A (up2 (a_bv A) b 3 v)) := Cl.w h 17 b 0 ⟨by omega, rfl⟩ (fun f c k z => V17 A b v f c k z.1) (fun f c k z => Or.inl (D_same (A := A) f c k z rfl rfl rfl)) rfl rfl
theorem c_bv4 {b : Nat} (v : Int32) (h : Cl o NB NI ρ μ A) (hb : b < NB) (hN : NB ≤ 6) : Cl o NB NI ρ (wI μ (o + (8 + 8 * b)) 8 v) (s_bv A (up2 (a_bv A) b 4 v)) := Cl.w h 18 b 0 ⟨by omega, rfl⟩ (fun f c k z => V18 A b v f c k z.1) (fun f c k z => Or.inl (D_same (A := A) f c k z rfl rfl rfl)) rfl rfl
theorem c_t (v : Nat) (h : Cl o NB NI ρ μ A) : Cl o NB NI ρ (wI μ o 8 (nI v)) (s_t A v) := Cl.w h 0 0 0 ⟨rfl, rfl⟩ (fun f c k z => V0 A v f c k z.1) (fun f c k z => Or.inl (D_same (A := A) f c k z rfl rfl rfl)) rfl rfl
theorem c_lang (v : Int32) (h : Cl o NB NI ρ μ A) : Cl o NB NI ρ (wI μ o 5 v) (s_lang A v) := Cl.w h 1 0 0 ⟨rfl, rfl⟩ (fun f c k z => V1 A v f c k z.1) (fun f c k z => Or.inl (D_same (A := A) f c k z rfl rfl rfl)) rfl rfl
theorem c_ni (v : Nat) (h : Cl o NB NI ρ μ A) : Cl o NB NI ρ (wI μ o 7 (nI v)) (s_ni A v) := Cl.w h 3 0 0 ⟨rfl, rfl⟩ (fun f c k z => V3 A v f c k z.1) (fun f c k z => Or.inl (D_same (A := A) f c k z rfl rfl rfl)) rfl rfl
theorem c_src {b : Nat} (v : Option Nat) (h : Cl o NB NI ρ μ A) (hb : b < NB) (hN : NB ≤ 6) : Cl o NB NI ρ (wI μ (o + (8 + 8 * b)) 6 (encO v)) (s_src A (up1 (a_src A) b v)) := Cl.w h 15 b 0 ⟨by omega, rfl⟩ (fun f c k z => V15 A b v f c k z.1) (fun f c k z => Or.inl (D_same (A := A) f c k z rfl rfl rfl)) rfl rfl
/-- three writes: a place says a word -/
theorem RepD.keep {aC : Nat → Nat → Nat} {aK : Nat → Nat → Nat → Nat} {D : Nat → Nat → Nat → Prop} (inj : Inj3 aC aK) (h : RepD aC aK D (av A) μ) (a : Nat) (w : Int32) (ha : a < 7) (hm : a_mn A a < 400) {q0 q1 q2 s0 s1 s2 : Nat} (e0 : q0 = aC 24 a) (e1 : q1 = aC 25 a) (e2 : q2 = aC 23 a) (d0 : s0 = aK 24 a (a_mn A a)) (d1 : s1 = aK 25 a (a_mn A a)) (d2 : s2 = aK 23 a 0) (D' : Nat → Nat → Nat → Prop) (hD : ∀ f b k, D' f b k → D f b k ∨ (f = 24 ∧ b = a ∧ k = a_mn A a) ∨ (f = 25 ∧ b = a ∧ k = a_mn A a) ∨ (f = 23 ∧ b = a ∧ k = 0)) (hdom : ∀ f b k, D' f b k → dom f b k) : RepD aC aK D' (av (keepA A a w)) (wI (wI (wI μ q0 s0 w) q1 s1 (nI (a_t A))) q2 s2 (nI (a_mn A a + 1))) := by
  refine RepD.to (RepD.w inj (RepD.w inj (RepD.w inj h 24 a (a_mn A a) ⟨ha, hm⟩ w e0 d0) 25 a (a_mn A a) ⟨ha, hm⟩ (nI (a_t A)) e1 d1) 23 a 0 ⟨ha, rfl⟩ (nI (a_mn A a + 1)) e2 d2) ?_
  intro f b k z
  refine ⟨?_, ?_⟩
  · rcases hD f b k z with y | y | y | y
    · exact Or.inl (Or.inl (Or.inl y))
    · exact Or.inl (Or.inl (Or.inr y))
    · exact Or.inl (Or.inr y)
    · exact Or.inr y
  · have hd := hdom f b k z
    have v1 := V23 (s_st (s_sw A (up2 (a_sw A) a (a_mn A a) w)) (up2 (a_st A) a (a_mn A a) (nI (a_t A)))) a (a_mn A a + 1) f b k hd
    have v2 := V25 (s_sw A (up2 (a_sw A) a (a_mn A a) w)) a (a_mn A a) (nI (a_t A)) f b k hd
    have v3 := V24 A a (a_mn A a) w f b k hd
    refine Eq.symm (Eq.trans v1 ?_)
    rw [v2, v3]
theorem D_keep {NB NI a : Nat} {w : Int32} : ∀ f b k, vd NB NI (keepA A a w) f b k → vd NB NI A f b k ∨ (f = 24 ∧ b = a ∧ k = a_mn A a) ∨ (f = 25 ∧ b = a ∧ k = a_mn A a) ∨ (f = 23 ∧ b = a ∧ k = 0) := by
  intro f b k z
  by_cases h1 : f = 24
  · subst h1
    obtain ⟨z1, z2, z3⟩ := z
    by_cases hb : b = a
    · subst hb
      have e : a_mn (keepA A b w) b = a_mn A b + 1 := up1_s _ _ _
      rw [e] at z3
      by_cases hk : k = a_mn A b
      · exact Or.inr (Or.inl ⟨rfl, rfl, hk⟩)
      · exact Or.inl ⟨z1, z2, by show k < a_mn A b; omega⟩
    · have e : a_mn (keepA A a w) b = a_mn A b := up1_n _ _ hb
      rw [e] at z3
      exact Or.inl ⟨z1, z2, z3⟩
  · by_cases h2 : f = 25
    · subst h2
      obtain ⟨z1, z2, z3⟩ := z
      by_cases hb : b = a
      · subst hb
        have e : a_mn (keepA A b w) b = a_mn A b + 1 := up1_s _ _ _
        rw [e] at z3
        by_cases hk : k = a_mn A b
        · exact Or.inr (Or.inr (Or.inl ⟨rfl, rfl, hk⟩))
        · exact Or.inl ⟨z1, z2, by show k < a_mn A b; omega⟩
      · have e : a_mn (keepA A a w) b = a_mn A b := up1_n _ _ hb
        rw [e] at z3
        exact Or.inl ⟨z1, z2, z3⟩
    · exact Or.inl (D_mn (A := A) f b k z h1 h2 rfl rfl)
theorem c_keep {a : Nat} (w : Int32) (ho : isO o) (h : Cl o NB NI ρ μ A) (hN : NB ≤ 6) (ha : a < NB + 1) (hm : a_mn A a < 400) : ∃ μ', X4_add (o + spC a) w (nI (a_t A)) μ = some μ' ∧ Cl o NB NI ρ μ' (keepA A a w) := by
  have ha7 : a < 7 := by omega
  have hmn : rI μ (o + spC a) 2 = nI (a_mn A a) := RepD.r h.1 23 a 0 ⟨⟨ha7, rfl⟩, ha⟩ rfl rfl
  have hX := X4_add_ok (w := w) (t := nI (a_t A)) (oSk ho ha7) hmn hm (by rw [oS0 ho ha7]; exact oSa0 ho ha7) (by rw [oS1 ho ha7]; exact oSa1 ho ha7)
  rw [oS0 ho ha7, oS1 ho ha7] at hX
  refine ⟨_, hX, ?_, ?_⟩
  · exact RepD.keep (cInj o) h.1 a w ha7 hm rfl rfl rfl rfl rfl rfl _ D_keep (fun f b k z => z.1)
  · intro q s hz
    have l0 := cC_lt 24 a (a_mn A a) ⟨ha7, hm⟩
    have l1 := cC_lt 25 a (a_mn A a) ⟨ha7, hm⟩
    have l2 : spC a < 64 := cC_lt 23 a 0 ⟨ha7, rfl⟩
    rw [rI_ne _ (fun z => by have := z.1; omega), rI_ne _ (fun z => by have := z.1; omega), rI_ne _ (fun z => by have := z.1; omega)]
    exact h.2 q s hz
end CW
