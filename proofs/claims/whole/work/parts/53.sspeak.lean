/-! speak and rest. -/
/-- one word, or a silence, more on the floor's text -/
def putA (A : AS) (v : Int32) : AS := s_lf (s_tx A (up1 (a_tx A) (a_lf A) v)) (a_lf A + 1)
def appA (f : Nat → Int32) : Nat → AS → AS
  | 0, A => A
  | n + 1, A => putA (appA f n A) (f n)
theorem app_lf (f : Nat → Int32) : ∀ n A, a_lf (appA f n A) = a_lf A + n
  | 0, _ => rfl
  | n + 1, A => by
    show a_lf (appA f n A) + 1 = _
    rw [app_lf f n A, Nat.add_assoc]
theorem put_tx {A : AS} {v : Int32} {k : Nat} (hk : k ≠ a_lf A) : a_tx (putA A v) k = a_tx A k := up1_n _ _ hk
theorem Good.put {A : AS} {v : Int32} (h : Good A) (hl : a_lf A < 120) (hv : v = -1 ∨ wNum v) : Good (putA A v) := by
  obtain ⟨hI, h2, h3, h4⟩ := h
  refine ⟨⟨⟨hI.1.1, hI.1.2.1, hl, hI.1.2.2.2⟩, hI.2.1, hI.2.2.1, ?_, hI.2.2.2.2⟩, h2, h3, h4⟩
  intro k hk
  by_cases e : k = a_lf A
  · have e1 : a_tx (putA A v) k = v := by
      subst e
      exact up1_s _ _ _
    rw [e1]
    exact hv
  · rw [put_tx e]
    have hk2 : k < a_lf A + 1 := hk
    exact hI.2.2.2.1 k (by omega)
theorem Good.app {f : Nat → Int32} (hf : ∀ k, f k = -1 ∨ wNum (f k)) : ∀ n A, Good A → a_lf A + n ≤ 120 → Good (appA f n A)
  | 0, _, h, _ => h
  | n + 1, A, h, hl => (Good.app hf n A h (by omega)).put (by rw [app_lf]; omega) (hf n)
theorem D_put {NB NI : Nat} {A : AS} {v : Int32} {f b k : Nat} (z : vd NB NI (putA A v) f b k) : vd NB NI A f b k ∨ (f = 5 ∧ b = 0 ∧ k = a_lf A) := by
  by_cases e5 : f = 5
  · subst e5
    obtain ⟨⟨z1, z2⟩, z3⟩ := z
    have z4 : k < a_lf A + 1 := z3
    by_cases ek : k = a_lf A
    · exact Or.inr ⟨rfl, z1, ek⟩
    · exact Or.inl ⟨⟨z1, z2⟩, by show k < a_lf A; omega⟩
  · exact Or.inl (D_lf (A := A) f b k z e5 rfl rfl)
theorem put_v {A : AS} {v : Int32} {f b k : Nat} (hd : dom f b k) : (if f = 2 ∧ b = 0 ∧ k = 0 then nI (a_lf A + 1) else if f = 5 ∧ b = 0 ∧ k = a_lf A then v else av A f b k) = av (putA A v) f b k := by
  refine Eq.symm (Eq.trans (V2 (s_tx A (up1 (a_tx A) (a_lf A) v)) (a_lf A + 1) f b k hd) ?_)
  by_cases e2 : f = 2 ∧ b = 0 ∧ k = 0
  · rw [if_pos e2, if_pos e2]
  · rw [if_neg e2, if_neg e2]
    exact V5 A (a_lf A) v f b k hd
section SP
variable {o NB NI p : Nat} {ρ μ : MM} {A : AS}
theorem c_putA (v : Int32) (h : Cl o NB NI ρ μ A) (hl : a_lf A < 120) : Cl o NB NI ρ (wI (wI μ (o + 2) (a_lf A) v) (o + 1) 1 (nI (a_lf A + 1))) (putA A v) := by
  refine ⟨?_, ?_⟩
  · have h1 := RepD.w (cInj o) h.1 5 0 (a_lf A) ⟨rfl, hl⟩ (q := o + 2) (s := a_lf A) v rfl rfl
    have h2 := RepD.w (cInj o) h1 2 0 0 ⟨rfl, rfl⟩ (q := o + 1) (s := 1) (nI (a_lf A + 1)) rfl rfl
    refine RepD.to h2 (fun f b k z => ⟨Or.inl ?_, put_v z.1⟩)
    exact D_put z
  · intro q s hz
    rw [rI_ne _ (fun y => by have := y.1; omega), rI_ne _ (fun y => by have := y.1; omega)]
    exact h.2 q s hz
theorem c_X3put (v : Int32) (ho : isO o) (h : Cl o NB NI ρ μ A) (hl : a_lf A < 120) : X3_add (o + 1) v μ = some (wI (wI μ (o + 2) (a_lf A) v) (o + 1) 1 (nI (a_lf A + 1))) := by
  have x := X3_add_ok (q := o + 1) (v := v) (μ := μ) (oTk ho) (rd2 h.1) (by rw [oT0 ho, oTal ho]; exact hl) (by rw [oT0 ho, oTal ho]; decide)
  rw [oT0 ho] at x
  exact x
theorem m_put (v : Int32) (h : Ml p ρ μ A) (hl : a_lf A < 120) : Ml p ρ (wI (wI μ (p + 1) (a_lf A) v) p 3 (nI (a_lf A + 1))) (putA A v) := by
  refine ⟨?_, ?_, h.2.2⟩
  · have h1 := RepD.w (mInj p) h.1 5 0 (a_lf A) ⟨rfl, hl⟩ (q := p + 1) (s := a_lf A) v rfl rfl
    have h2 := RepD.w (mInj p) h1 2 0 0 ⟨rfl, rfl⟩ (q := p) (s := 3) (nI (a_lf A + 1)) rfl rfl
    refine RepD.to h2 (fun f b k z => ⟨Or.inl ?_, put_v z.1.1⟩)
    rcases D_put z.1 with y | y
    · exact Or.inl ⟨y, z.2⟩
    · exact Or.inr y
  · intro q s hz
    rw [rI_ne _ (fun y => by have := y.1; omega), rI_ne _ (fun y => by have := y.1; omega)]
    exact h.2.1 q s hz
end SP
/-- the k-th word of a talk from w by d - 99 -/
def spW (w e : Nat) (k : Nat) : Int32 := nI ((w + k * (e + 1)) % 100)
theorem spW_num (w e k : Nat) : wNum (spW w e k) := ⟨_, Nat.mod_lt _ (by decide), rfl⟩
theorem sp_ref : ∀ v, v < 100 → ∀ e, e < 199 → nI v + (nI e - 99) + 100 - (nI v + (nI e - 99) + 100) / 100 * 100 = nI ((v + (e + 1)) % 100) := by decide +kernel
theorem sp_mod1 : ∀ i, i < 61 → ∀ j, j < 200 → J9_floorMod_7cf53 (nI (200 * i + j) - nI 4000) 100 = some (nI ((200 * i + j) % 100)) := by decide +kernel
theorem sp_mod {n : Nat} (h : n < 12200) : J9_floorMod_7cf53 (nI n - nI 4000) 100 = some (nI (n % 100)) := by
  have := sp_mod1 (n / 200) (by omega) (n % 200) (by omega)
  rwa [show 200 * (n / 200) + n % 200 = n by omega] at this
theorem sp_mul : ∀ k, k < 40 → ∀ e, e < 199 → nI k * (nI e - 99) = nI (k * (e + 1) + (4000 - 100 * k)) - nI 4000 := by decide +kernel
theorem sp_cls {w e k : Nat} (hw : w < 100) (he : e < 199) (hk : k < 40) : J9_floorMod_7cf53 (nI w + nI k * (nI e - 99)) 100 = some (spW w e k) := by
  have h1 : nI w + nI k * (nI e - 99) = nI (w + (k * (e + 1) + (4000 - 100 * k))) - nI 4000 := by
    rw [sp_mul k hk e he, Int32.sub_eq_add_neg, Int32.sub_eq_add_neg, ← Int32.add_assoc, nI_add']
  have hb : k * (e + 1) ≤ 39 * 199 := Nat.mul_le_mul (by omega) (by omega)
  rw [h1, sp_mod (by omega)]
  unfold spW
  congr 2
  omega
theorem sp_step {w e k : Nat} (he : e < 199) : spW w e k + (nI e - 99) + 100 - (spW w e k + (nI e - 99) + 100) / 100 * 100 = spW w e (k + 1) := by
  unfold spW
  rw [sp_ref _ (Nat.mod_lt _ (by decide)) e he]
  congr 1
  rw [Nat.add_mul, Nat.one_mul]
  omega
section SQ
variable {μ : MM} {A : AS}
theorem c_speaks {w e n : Nat} {ρ : MM} (hw : w < 100) (he : e < 199) (hn : n ≤ 40) (hl : a_lf A + n ≤ 120) : ∀ d k f μ, k + d = n → d < f → Cl 4 6 8 ρ μ (appA (spW w e) k A) → ∃ μ', X6_speak_L67 0 (nI w) (nI e - 99) (nI n) f (nI k) μ = some μ' ∧ Cl 4 6 8 ρ μ' (appA (spW w e) n A) := by
  intro d
  induction d with
  | zero =>
    intro k f μ hk hf h
    obtain ⟨g, rfl⟩ : ∃ g, f = g + 1 := ⟨f - 1, by omega⟩
    have e : k = n := by omega
    subst e
    rw [X6_speak_L67_s, if_pos (nI_le (Nat.le_refl _) (by omega))]
    exact ⟨μ, rfl, h⟩
  | succ d ih =>
    intro k f μ hk hf h
    obtain ⟨g, rfl⟩ : ∃ g, f = g + 1 := ⟨f - 1, by omega⟩
    have hlk : a_lf (appA (spW w e) k A) < 120 := by rw [app_lf]; omega
    rw [X6_speak_L67_s, if_neg (nI_ge (by omega) (by omega)), sp_cls hw he (by omega)]
    simp only [bO1_s]
    rw [RF01.1, oR1 isO4, c_X3put _ isO4 h hlk]
    simp only [bO1_s, bV_eq]
    rw [nI_1]
    exact ih (k + 1) g _ (by omega) (by omega) (c_putA (spW w e k) h hlk)
theorem m_speaks {w e n : Nat} {ρ : MM} (hw : w < 100) (he : e < 199) (hn : n ≤ 40) (hl : a_lf A + n ≤ 120) : ∀ d k f μ, k + d = n → d < f → Ml 133 ρ μ (appA (spW w e) k A) → ∃ μ', X8_speak_L68 132 (nI e - 99) (nI n) f (spW w e k) (nI k) μ = some μ' ∧ Ml 133 ρ μ' (appA (spW w e) n A) := by
  intro d
  induction d with
  | zero =>
    intro k f μ hk hf h
    obtain ⟨g, rfl⟩ : ∃ g, f = g + 1 := ⟨f - 1, by omega⟩
    have e : k = n := by omega
    subst e
    rw [X8_speak_L68_s, if_pos (nI_le (Nat.le_refl _) (by omega))]
    exact ⟨μ, rfl, h⟩
  | succ d ih =>
    intro k f μ hk hf h
    obtain ⟨g, rfl⟩ : ∃ g, f = g + 1 := ⟨f - 1, by omega⟩
    have hlk : a_lf (appA (spW w e) k A) < 120 := by rw [app_lf]; omega
    have ck : (nI (a_lf (appA (spW w e) k A))).toNatClampNeg = a_lf (appA (spW w e) k A) := nI_clamp (by omega)
    have j : inb (nI (a_lf (appA (spW w e) k A))) 120 = True := inb_T hlk (by decide)
    rw [X8_speak_L68_s, if_neg (nI_ge (by omega) (by omega)), RF01.2.1]
    simp only [pR2 isP133, pA2 isP133, rq2 h, j, ck, if_true, bV_eq]
    rw [rI_o _ (by omega), rq2 h, nI_1, nI_1, sp_step he]
    exact ih (k + 1) g _ (by omega) (by omega) (m_put (spW w e k) h hlk)
end SQ
