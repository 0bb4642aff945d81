/-! Reading the reference's cells (printed by gen/mreads.py). -/
section MRD
variable {p : Nat} {ρ μ : MM} {A : AS}
theorem rq0 (h : Ml p ρ μ A) : rI μ p 0 = nI (a_t A) := RepD.r h.1 0 0 0 ⟨⟨⟨rfl, rfl⟩, trivial⟩, ⟨by decide, by decide⟩, fun z => absurd z (by decide)⟩ rfl rfl
theorem rq1 (h : Ml p ρ μ A) : rI μ p 1 = a_lang A := RepD.r h.1 1 0 0 ⟨⟨⟨rfl, rfl⟩, trivial⟩, ⟨by decide, by decide⟩, fun z => absurd z (by decide)⟩ rfl rfl
theorem rq2 (h : Ml p ρ μ A) : rI μ p 3 = nI (a_lf A) := RepD.r h.1 2 0 0 ⟨⟨⟨rfl, rfl⟩, trivial⟩, ⟨by decide, by decide⟩, fun z => absurd z (by decide)⟩ rfl rfl
theorem rq3 (h : Ml p ρ μ A) : rI μ p 4 = nI (a_ni A) := RepD.r h.1 3 0 0 ⟨⟨⟨rfl, rfl⟩, trivial⟩, ⟨by decide, by decide⟩, fun z => absurd z (by decide)⟩ rfl rfl
theorem rq4 (h : Ml p ρ μ A) : rI μ p 11 = nI (a_nb A) := RepD.r h.1 4 0 0 ⟨⟨⟨rfl, rfl⟩, trivial⟩, ⟨by decide, by decide⟩, fun z => absurd z (by decide)⟩ rfl rfl
theorem rq5 (h : Ml p ρ μ A) {k : Nat} (hk : k < a_lf A) (hl : a_lf A ≤ 120) : rI μ (p + 1) k = a_tx A k := RepD.r h.1 5 0 k ⟨⟨⟨rfl, by omega⟩, hk⟩, ⟨by decide, by decide⟩, fun z => absurd z (by decide)⟩ rfl rfl
theorem rq6 (h : Ml p ρ μ A) {i : Nat} (hi : i < 8) : rI μ (p + 2) i = a_iv A i 0 := RepD.r h.1 6 i 0 ⟨⟨⟨hi, rfl⟩, hi⟩, ⟨by decide, by decide⟩, fun z => absurd z (by decide)⟩ rfl rfl
theorem rq7 (h : Ml p ρ μ A) {i : Nat} (hi : i < 8) : rI μ (p + 3) i = a_iv A i 1 := RepD.r h.1 7 i 0 ⟨⟨⟨hi, rfl⟩, hi⟩, ⟨by decide, by decide⟩, fun z => absurd z (by decide)⟩ rfl rfl
theorem rq8 (h : Ml p ρ μ A) {i : Nat} (hi : i < 8) : rI μ (p + 4) i = a_iv A i 2 := RepD.r h.1 8 i 0 ⟨⟨⟨hi, rfl⟩, hi⟩, ⟨by decide, by decide⟩, fun z => absurd z (by decide)⟩ rfl rfl
theorem rq9 (h : Ml p ρ μ A) {i : Nat} (hi : i < 8) : rI μ (p + 5) i = a_iv A i 3 := RepD.r h.1 9 i 0 ⟨⟨⟨hi, rfl⟩, hi⟩, ⟨by decide, by decide⟩, fun z => absurd z (by decide)⟩ rfl rfl
theorem rq10 (h : Ml p ρ μ A) {i : Nat} (hi : i < 8) : rI μ (p + 6) i = a_iv A i 4 := RepD.r h.1 10 i 0 ⟨⟨⟨hi, rfl⟩, hi⟩, ⟨by decide, by decide⟩, fun z => absurd z (by decide)⟩ rfl rfl
theorem rq11 (h : Ml p ρ μ A) {i : Nat} (hi : i < 8) : rI μ (p + 7) i = a_iv A i 5 := RepD.r h.1 11 i 0 ⟨⟨⟨hi, rfl⟩, hi⟩, ⟨by decide, by decide⟩, fun z => absurd z (by decide)⟩ rfl rfl
theorem rq12 (h : Ml p ρ μ A) {b : Nat} (hb : b < 6) : rI μ (p + 8) b = a_bv A b 0 := RepD.r h.1 12 b 0 ⟨⟨⟨hb, rfl⟩, hb⟩, ⟨by decide, by decide⟩, fun z => absurd z (by decide)⟩ rfl rfl
theorem rq13 (h : Ml p ρ μ A) {b : Nat} (hb : b < 6) : rI μ (p + 9) b = a_bv A b 1 := RepD.r h.1 13 b 0 ⟨⟨⟨hb, rfl⟩, hb⟩, ⟨by decide, by decide⟩, fun z => absurd z (by decide)⟩ rfl rfl
theorem rq14 (h : Ml p ρ μ A) {b : Nat} (hb : b < 6) : rI μ (p + 10) b = a_bv A b 2 := RepD.r h.1 14 b 0 ⟨⟨⟨hb, rfl⟩, hb⟩, ⟨by decide, by decide⟩, fun z => absurd z (by decide)⟩ rfl rfl
theorem rq17 (h : Ml p ρ μ A) {b : Nat} (hb : b < 6) : rI μ (p + 13) b = a_bv A b 3 := RepD.r h.1 17 b 0 ⟨⟨⟨hb, rfl⟩, hb⟩, ⟨by decide, by decide⟩, fun z => absurd z (by decide)⟩ rfl rfl
theorem rq15 (h : Ml p ρ μ A) {b : Nat} (hb6 : b < 6) (hb : b < a_nb A) : rI μ (p + 11) b = encO (a_src A b) := RepD.r h.1 15 b 0 ⟨⟨⟨hb6, rfl⟩, hb6⟩, ⟨by decide, by decide⟩, fun _ => hb⟩ rfl rfl
theorem rq16 (h : Ml p ρ μ A) {b : Nat} (hb6 : b < 6) (hb : b < a_nb A) : rI μ (p + 12) b = encO (a_sit A b) := RepD.r h.1 16 b 0 ⟨⟨⟨hb6, rfl⟩, hb6⟩, ⟨by decide, by decide⟩, fun _ => hb⟩ rfl rfl
theorem rq18 (h : Ml p ρ μ A) {b : Nat} (hb6 : b < 6) (hb : b < a_nb A) : rI μ (p + 14) b = a_bv A b 4 := RepD.r h.1 18 b 0 ⟨⟨⟨hb6, rfl⟩, hb6⟩, ⟨by decide, by decide⟩, fun _ => hb⟩ rfl rfl
theorem rq19 (h : Ml p ρ μ A) {b : Nat} (hb : b < 6) : rI μ (p + 15) b = nI (a_hd A b) := RepD.r h.1 19 b 0 ⟨⟨⟨hb, rfl⟩, hb⟩, ⟨by decide, by decide⟩, fun z => absurd z (by decide)⟩ rfl rfl
theorem rq21 (h : Ml p ρ μ A) {b k : Nat} (hb : b < 6) (hk : k < a_hd A b) (h12 : a_hd A b ≤ 12) : rI μ (p + 16) (12 * b + k) = a_hw A b k := RepD.r h.1 21 b k ⟨⟨⟨hb, by omega⟩, ⟨hb, hk⟩⟩, ⟨by decide, by decide⟩, fun z => absurd z (by decide)⟩ rfl rfl
theorem rq22 (h : Ml p ρ μ A) {b k : Nat} (hb : b < 6) (hk : k < a_hd A b) (h12 : a_hd A b ≤ 12) : rI μ (p + 17) (12 * b + k) = a_hs A b k := RepD.r h.1 22 b k ⟨⟨⟨hb, by omega⟩, ⟨hb, hk⟩⟩, ⟨by decide, by decide⟩, fun z => absurd z (by decide)⟩ rfl rfl
theorem rq23 (h : Ml p ρ μ A) {a : Nat} (ha : a < 7) : rI μ (p + 18) a = nI (a_mn A a) := RepD.r h.1 23 a 0 ⟨⟨⟨ha, rfl⟩, ha⟩, ⟨by decide, by decide⟩, fun z => absurd z (by decide)⟩ rfl rfl
theorem rq24 (h : Ml p ρ μ A) {a k : Nat} (ha : a < 7) (hk : k < a_mn A a) (hm : a_mn A a ≤ 400) : rI μ (p + 19) (400 * a + k) = a_sw A a k := RepD.r h.1 24 a k ⟨⟨⟨ha, by omega⟩, ⟨ha, hk⟩⟩, ⟨by decide, by decide⟩, fun z => absurd z (by decide)⟩ rfl rfl
theorem rq25 (h : Ml p ρ μ A) {a k : Nat} (ha : a < 7) (hk : k < a_mn A a) (hm : a_mn A a ≤ 400) : rI μ (p + 20) (400 * a + k) = a_st A a k := RepD.r h.1 25 a k ⟨⟨⟨ha, by omega⟩, ⟨ha, hk⟩⟩, ⟨by decide, by decide⟩, fun z => absurd z (by decide)⟩ rfl rfl
end MRD
