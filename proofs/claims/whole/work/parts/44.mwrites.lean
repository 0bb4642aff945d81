/-! Writing the reference's cells (printed by gen/mwrites.py). -/
theorem Dm_same {A A' : AS} (f b k : Nat) (z : vm A' f b k) (h5 : a_lf A' = a_lf A) (h21 : a_hd A' = a_hd A) (h24 : a_mn A' = a_mn A) (hn : a_nb A' = a_nb A) : vm A f b k := ⟨D_same f b k z.1 h5 h21 h24, z.2.1, fun e => by rw [← hn]; exact z.2.2 e⟩
section MW
variable {p : Nat} {ρ μ : MM} {A : AS}
theorem m_iv0 {i : Nat} (v : Int32) (hi : i < 8) (h : Ml p ρ μ A) : Ml p ρ (wI μ (p + 2) i v) (s_iv A (up2 (a_iv A) i 0 v)) := Ml.w h 6 i 0 ⟨hi, rfl⟩ ⟨by decide, by decide⟩ (fun f c k z => V6 A i v f c k z.1.1) (fun f c k z => Or.inl (Dm_same (A := A) f c k z rfl rfl rfl rfl)) rfl rfl
theorem m_iv1 {i : Nat} (v : Int32) (hi : i < 8) (h : Ml p ρ μ A) : Ml p ρ (wI μ (p + 3) i v) (s_iv A (up2 (a_iv A) i 1 v)) := Ml.w h 7 i 0 ⟨hi, rfl⟩ ⟨by decide, by decide⟩ (fun f c k z => V7 A i v f c k z.1.1) (fun f c k z => Or.inl (Dm_same (A := A) f c k z rfl rfl rfl rfl)) rfl rfl
theorem m_iv2 {i : Nat} (v : Int32) (hi : i < 8) (h : Ml p ρ μ A) : Ml p ρ (wI μ (p + 4) i v) (s_iv A (up2 (a_iv A) i 2 v)) := Ml.w h 8 i 0 ⟨hi, rfl⟩ ⟨by decide, by decide⟩ (fun f c k z => V8 A i v f c k z.1.1) (fun f c k z => Or.inl (Dm_same (A := A) f c k z rfl rfl rfl rfl)) rfl rfl
theorem m_iv3 {i : Nat} (v : Int32) (hi : i < 8) (h : Ml p ρ μ A) : Ml p ρ (wI μ (p + 5) i v) (s_iv A (up2 (a_iv A) i 3 v)) := Ml.w h 9 i 0 ⟨hi, rfl⟩ ⟨by decide, by decide⟩ (fun f c k z => V9 A i v f c k z.1.1) (fun f c k z => Or.inl (Dm_same (A := A) f c k z rfl rfl rfl rfl)) rfl rfl
theorem m_iv4 {i : Nat} (v : Int32) (hi : i < 8) (h : Ml p ρ μ A) : Ml p ρ (wI μ (p + 6) i v) (s_iv A (up2 (a_iv A) i 4 v)) := Ml.w h 10 i 0 ⟨hi, rfl⟩ ⟨by decide, by decide⟩ (fun f c k z => V10 A i v f c k z.1.1) (fun f c k z => Or.inl (Dm_same (A := A) f c k z rfl rfl rfl rfl)) rfl rfl
theorem m_iv5 {i : Nat} (v : Int32) (hi : i < 8) (h : Ml p ρ μ A) : Ml p ρ (wI μ (p + 7) i v) (s_iv A (up2 (a_iv A) i 5 v)) := Ml.w h 11 i 0 ⟨hi, rfl⟩ ⟨by decide, by decide⟩ (fun f c k z => V11 A i v f c k z.1.1) (fun f c k z => Or.inl (Dm_same (A := A) f c k z rfl rfl rfl rfl)) rfl rfl
theorem m_bv0 {b : Nat} (v : Int32) (hb : b < 6) (h : Ml p ρ μ A) : Ml p ρ (wI μ (p + 8) b v) (s_bv A (up2 (a_bv A) b 0 v)) := Ml.w h 12 b 0 ⟨hb, rfl⟩ ⟨by decide, by decide⟩ (fun f c k z => V12 A b v f c k z.1.1) (fun f c k z => Or.inl (Dm_same (A := A) f c k z rfl rfl rfl rfl)) rfl rfl
theorem m_bv1 {b : Nat} (v : Int32) (hb : b < 6) (h : Ml p ρ μ A) : Ml p ρ (wI μ (p + 9) b v) (s_bv A (up2 (a_bv A) b 1 v)) := Ml.w h 13 b 0 ⟨hb, rfl⟩ ⟨by decide, by decide⟩ (fun f c k z => V13 A b v f c k z.1.1) (fun f c k z => Or.inl (Dm_same (A := A) f c k z rfl rfl rfl rfl)) rfl rfl
theorem m_bv2 {b : Nat} (v : Int32) (hb : b < 6) (h : Ml p ρ μ A) : Ml p ρ (wI μ (p + 10) b v) (s_bv A (up2 (a_bv A) b 2 v)) := Ml.w h 14 b 0 ⟨hb, rfl⟩ ⟨by decide, by decide⟩ (fun f c k z => V14 A b v f c k z.1.1) (fun f c k z => Or.inl (Dm_same (A := A) f c k z rfl rfl rfl rfl)) rfl rfl
theorem m_bv3 {b : Nat} (v : Int32) (hb : b < 6) (h : Ml p ρ μ A) : Ml p ρ (wI μ (p + 13) b v) (s_bv A (up2 (a_bv A) b 3 v)) := Ml.w h 17 b 0 ⟨hb, rfl⟩ ⟨by decide, by decide⟩ (fun f c k z => V17 A b v f c k z.1.1) (fun f c k z => Or.inl (Dm_same (A := A) f c k z rfl rfl rfl rfl)) rfl rfl
theorem m_bv4 {b : Nat} (v : Int32) (hb : b < 6) (h : Ml p ρ μ A) : Ml p ρ (wI μ (p + 14) b v) (s_bv A (up2 (a_bv A) b 4 v)) := Ml.w h 18 b 0 ⟨hb, rfl⟩ ⟨by decide, by decide⟩ (fun f c k z => V18 A b v f c k z.1.1) (fun f c k z => Or.inl (Dm_same (A := A) f c k z rfl rfl rfl rfl)) rfl rfl
theorem m_t (v : Nat) (h : Ml p ρ μ A) : Ml p ρ (wI μ p 0 (nI v)) (s_t A v) := Ml.w h 0 0 0 ⟨rfl, rfl⟩ ⟨by decide, by decide⟩ (fun f c k z => V0 A v f c k z.1.1) (fun f c k z => Or.inl (Dm_same (A := A) f c k z rfl rfl rfl rfl)) rfl rfl
theorem m_lang (v : Int32) (h : Ml p ρ μ A) : Ml p ρ (wI μ p 1 v) (s_lang A v) := Ml.w h 1 0 0 ⟨rfl, rfl⟩ ⟨by decide, by decide⟩ (fun f c k z => V1 A v f c k z.1.1) (fun f c k z => Or.inl (Dm_same (A := A) f c k z rfl rfl rfl rfl)) rfl rfl
theorem m_ni (v : Nat) (h : Ml p ρ μ A) : Ml p ρ (wI μ p 4 (nI v)) (s_ni A v) := Ml.w h 3 0 0 ⟨rfl, rfl⟩ ⟨by decide, by decide⟩ (fun f c k z => V3 A v f c k z.1.1) (fun f c k z => Or.inl (Dm_same (A := A) f c k z rfl rfl rfl rfl)) rfl rfl
theorem m_src {b : Nat} (v : Option Nat) (hb : b < 6) (h : Ml p ρ μ A) : Ml p ρ (wI μ (p + 11) b (encO v)) (s_src A (up1 (a_src A) b v)) := Ml.w h 15 b 0 ⟨hb, rfl⟩ ⟨by decide, by decide⟩ (fun f c k z => V15 A b v f c k z.1.1) (fun f c k z => Or.inl (Dm_same (A := A) f c k z rfl rfl rfl rfl)) rfl rfl
theorem m_sit {b : Nat} (v : Option Nat) (hb : b < 6) (h : Ml p ρ μ A) : Ml p ρ (wI μ (p + 12) b (encO v)) (s_sit A (up1 (a_sit A) b v)) := Ml.w h 16 b 0 ⟨hb, rfl⟩ ⟨by decide, by decide⟩ (fun f c k z => V16 A b v f c k z.1.1 z.2.1.2) (fun f c k z => Or.inl (Dm_same (A := A) f c k z rfl rfl rfl rfl)) rfl rfl
theorem m_keep {a : Nat} (w : Int32) (ha : a < 7) (hm : a_mn A a < 400) (h : Ml p ρ μ A) : Ml p ρ (wI (wI (wI μ (p + 19) (400 * a + a_mn A a) w) (p + 20) (400 * a + a_mn A a) (nI (a_t A))) (p + 18) a (nI (a_mn A a + 1))) (keepA A a w) := by
  refine ⟨?_, ?_, h.2.2⟩
  · refine RepD.keep (mInj p) h.1 a w ha hm rfl rfl rfl rfl rfl rfl _ ?_ (fun f b k z => z.1.1)
    intro f b k z
    rcases D_keep f b k z.1 with y | y
    · exact Or.inl ⟨y, z.2⟩
    · exact Or.inr y
  · intro q s hz
    rw [rI_ne _ (fun z => by have := z.1; omega), rI_ne _ (fun z => by have := z.1; omega), rI_ne _ (fun z => by have := z.1; omega)]
    exact h.2.1 q s hz
end MW
