/-! The reference: keep, saysNow, isAble. -/
theorem nI_add (a b : Nat) : nI a + nI b = nI (a + b) := (Int32.ofNat_add a b).symm
theorem nI_mul (a b : Nat) : nI a * nI b = nI (a * b) := (Int32.ofNat_mul a b).symm
theorem ix400 (a k : Nat) : (400 : Int32) * nI a + nI k = nI (400 * a + k) := by
  rw [nI400, nI_mul, nI_add]
theorem ix12 (a k : Nat) : (12 : Int32) * nI a + nI k = nI (12 * a + k) := by
  rw [show (12 : Int32) = nI 12 from rfl, nI_mul, nI_add]
section MK
variable {p : Nat} {ρ μ : MM} {A : AS}
theorem m_X7keep {a : Nat} (w : Int32) (hp : isP p) (ha : a < 7) (hm : a_mn A a < 400) (h : Ml p ρ μ A) : ∃ μ', X7_keep p (nI a) w μ = some μ' ∧ Ml p ρ μ' (keepA A a w) := by
  have e23 := rq23 h ha
  have e0 := rq0 h
  have ca : (nI a).toNatClampNeg = a := nI_clamp (by omega)
  have ck : (nI (400 * a + a_mn A a)).toNatClampNeg = 400 * a + a_mn A a := nI_clamp (by omega)
  unfold X7_keep
  simp only [bV_eq]
  rw [pR22 hp, pA22 hp, pR23 hp, pA23 hp, pR24 hp, pA24 hp, ca, if_pos (inb_nI ha (by decide)), e23, ix400, if_pos (inb_nI (by omega) (by decide)), ck, rI_ne _ (fun z => by have := z.1; omega), e23, ix400, if_pos (inb_nI ha (by decide)), if_pos (inb_nI (by omega) (by decide)), ck, if_pos (inb_nI ha (by decide)), if_pos (inb_nI ha (by decide)), rI_ne _ (fun z => by have := z.1; omega), rI_ne _ (fun z => by have := z.1; omega), rI_ne _ (fun z => by have := z.1; omega), e23, e0, nI_1]
  exact ⟨_, rfl, m_keep w ha hm h⟩
end MK
