/-! Reading the class's summit. -/
def Bds (NB NI : Nat) (A : AS) : Prop := (a_nb A ≤ NB ∧ NB ≤ 6) ∧ (a_ni A ≤ NI ∧ NI ≤ 8) ∧ a_lf A ≤ 120 ∧ a_t A ≤ 400 ∧ (∀ b, b < NB → a_hd A b ≤ 12) ∧ ∀ a, a < NB + 1 → a_mn A a ≤ 400
theorem rd0 {o NB NI : Nat} {μ : MM} {A : AS} (h : CR o NB NI μ A) : rI μ o 8 = nI (a_t A) := RepD.r h 0 0 0 ⟨⟨rfl, rfl⟩, trivial⟩ rfl rfl
theorem rd1 {o NB NI : Nat} {μ : MM} {A : AS} (h : CR o NB NI μ A) : rI μ o 5 = a_lang A := RepD.r h 1 0 0 ⟨⟨rfl, rfl⟩, trivial⟩ rfl rfl
theorem rd2 {o NB NI : Nat} {μ : MM} {A : AS} (h : CR o NB NI μ A) : rI μ (o + 1) 1 = nI (a_lf A) := RepD.r h 2 0 0 ⟨⟨rfl, rfl⟩, trivial⟩ rfl rfl
theorem rd3 {o NB NI : Nat} {μ : MM} {A : AS} (h : CR o NB NI μ A) : rI μ o 7 = nI (a_ni A) := RepD.r h 3 0 0 ⟨⟨rfl, rfl⟩, trivial⟩ rfl rfl
theorem rd4 {o NB NI : Nat} {μ : MM} {A : AS} (h : CR o NB NI μ A) : rI μ o 6 = nI (a_nb A) := RepD.r h 4 0 0 ⟨⟨rfl, rfl⟩, trivial⟩ rfl rfl
theorem rd5 {o NB NI : Nat} {μ : MM} {A : AS} (h : CR o NB NI μ A) (hB : Bds NB NI A) {k : Nat} (hk : k < a_lf A) : rI μ (o + 2) k = a_tx A k := RepD.r h 5 0 k ⟨⟨rfl, by have := hB.2.2.1; omega⟩, hk⟩ rfl rfl
theorem rd6 {o NB NI : Nat} {μ : MM} {A : AS} (h : CR o NB NI μ A) (hB : Bds NB NI A) {i : Nat} (hi : i < NI) : rI μ (o + (56 + i)) 0 = a_iv A i 0 := RepD.r h 6 i 0 ⟨⟨by have := hB.2.1.2; omega, rfl⟩, hi⟩ rfl rfl
theorem rd7 {o NB NI : Nat} {μ : MM} {A : AS} (h : CR o NB NI μ A) (hB : Bds NB NI A) {i : Nat} (hi : i < NI) : rI μ (o + (56 + i)) 1 = a_iv A i 1 := RepD.r h 7 i 0 ⟨⟨by have := hB.2.1.2; omega, rfl⟩, hi⟩ rfl rfl
theorem rd8 {o NB NI : Nat} {μ : MM} {A : AS} (h : CR o NB NI μ A) (hB : Bds NB NI A) {i : Nat} (hi : i < NI) : rI μ (o + (56 + i)) 3 = a_iv A i 2 := RepD.r h 8 i 0 ⟨⟨by have := hB.2.1.2; omega, rfl⟩, hi⟩ rfl rfl
theorem rd9 {o NB NI : Nat} {μ : MM} {A : AS} (h : CR o NB NI μ A) (hB : Bds NB NI A) {i : Nat} (hi : i < NI) : rI μ (o + (56 + i)) 4 = a_iv A i 3 := RepD.r h 9 i 0 ⟨⟨by have := hB.2.1.2; omega, rfl⟩, hi⟩ rfl rfl
theorem rd10 {o NB NI : Nat} {μ : MM} {A : AS} (h : CR o NB NI μ A) (hB : Bds NB NI A) {i : Nat} (hi : i < NI) : rI μ (o + (56 + i)) 5 = a_iv A i 4 := RepD.r h 10 i 0 ⟨⟨by have := hB.2.1.2; omega, rfl⟩, hi⟩ rfl rfl
theorem rd11 {o NB NI : Nat} {μ : MM} {A : AS} (h : CR o NB NI μ A) (hB : Bds NB NI A) {i : Nat} (hi : i < NI) : rI μ (o + (56 + i)) 6 = a_iv A i 5 := RepD.r h 11 i 0 ⟨⟨by have := hB.2.1.2; omega, rfl⟩, hi⟩ rfl rfl
theorem rd26 {o NB NI : Nat} {μ : MM} {A : AS} (h : CR o NB NI μ A) (hB : Bds NB NI A) {i : Nat} (hi : i < NI) : rI μ (o + (56 + i)) 2 = encO (seatOf (a_sit A) i (a_nb A)) := RepD.r h 26 i 0 ⟨⟨by have := hB.2.1.2; omega, rfl⟩, hi⟩ rfl rfl
theorem rd12 {o NB NI : Nat} {μ : MM} {A : AS} (h : CR o NB NI μ A) (hB : Bds NB NI A) {b : Nat} (hb : b < NB) : rI μ (o + (8 + 8 * b)) 3 = a_bv A b 0 := RepD.r h 12 b 0 ⟨⟨by have := hB.1.2; omega, rfl⟩, hb⟩ rfl rfl
theorem rd13 {o NB NI : Nat} {μ : MM} {A : AS} (h : CR o NB NI μ A) (hB : Bds NB NI A) {b : Nat} (hb : b < NB) : rI μ (o + (8 + 8 * b)) 4 = a_bv A b 1 := RepD.r h 13 b 0 ⟨⟨by have := hB.1.2; omega, rfl⟩, hb⟩ rfl rfl
theorem rd14 {o NB NI : Nat} {μ : MM} {A : AS} (h : CR o NB NI μ A) (hB : Bds NB NI A) {b : Nat} (hb : b < NB) : rI μ (o + (8 + 8 * b)) 5 = a_bv A b 2 := RepD.r h 14 b 0 ⟨⟨by have := hB.1.2; omega, rfl⟩, hb⟩ rfl rfl
theorem rd15 {o NB NI : Nat} {μ : MM} {A : AS} (h : CR o NB NI μ A) (hB : Bds NB NI A) {b : Nat} (hb : b < NB) : rI μ (o + (8 + 8 * b)) 6 = encO (a_src A b) := RepD.r h 15 b 0 ⟨⟨by have := hB.1.2; omega, rfl⟩, hb⟩ rfl rfl
theorem rd16 {o NB NI : Nat} {μ : MM} {A : AS} (h : CR o NB NI μ A) (hB : Bds NB NI A) {b : Nat} (hb : b < NB) : rI μ (o + (8 + 8 * b)) 7 = encO (a_sit A b) := RepD.r h 16 b 0 ⟨⟨by have := hB.1.2; omega, rfl⟩, hb⟩ rfl rfl
theorem rd17 {o NB NI : Nat} {μ : MM} {A : AS} (h : CR o NB NI μ A) (hB : Bds NB NI A) {b : Nat} (hb : b < NB) : rI μ (o + (8 + 8 * b)) 9 = a_bv A b 3 := RepD.r h 17 b 0 ⟨⟨by have := hB.1.2; omega, rfl⟩, hb⟩ rfl rfl
theorem rd18 {o NB NI : Nat} {μ : MM} {A : AS} (h : CR o NB NI μ A) (hB : Bds NB NI A) {b : Nat} (hb : b < NB) : rI μ (o + (8 + 8 * b)) 8 = a_bv A b 4 := RepD.r h 18 b 0 ⟨⟨by have := hB.1.2; omega, rfl⟩, hb⟩ rfl rfl
theorem rd19 {o NB NI : Nat} {μ : MM} {A : AS} (h : CR o NB NI μ A) (hB : Bds NB NI A) {b : Nat} (hb : b < NB) : rI μ (o + (9 + 8 * b)) 1 = nI (a_hd A b) := RepD.r h 19 b 0 ⟨⟨by have := hB.1.2; omega, rfl⟩, hb⟩ rfl rfl
theorem rd20 {o NB NI : Nat} {μ : MM} {A : AS} (h : CR o NB NI μ A) (hB : Bds NB NI A) {b : Nat} (hb : b < NB) : rI μ (o + (11 + 8 * b)) 1 = nI (a_hd A b) := RepD.r h 20 b 0 ⟨⟨by have := hB.1.2; omega, rfl⟩, hb⟩ rfl rfl
theorem rd21 {o NB NI : Nat} {μ : MM} {A : AS} (h : CR o NB NI μ A) (hB : Bds NB NI A) {b k : Nat} (hb : b < NB) (hk : k < a_hd A b) : rI μ (o + (10 + 8 * b)) k = a_hw A b k := RepD.r h 21 b k ⟨⟨by have := hB.1.2; omega, by have := hB.2.2.2.2.1 b hb; omega⟩, hb, hk⟩ rfl rfl
theorem rd22 {o NB NI : Nat} {μ : MM} {A : AS} (h : CR o NB NI μ A) (hB : Bds NB NI A) {b k : Nat} (hb : b < NB) (hk : k < a_hd A b) : rI μ (o + (12 + 8 * b)) k = a_hs A b k := RepD.r h 22 b k ⟨⟨by have := hB.1.2; omega, by have := hB.2.2.2.2.1 b hb; omega⟩, hb, hk⟩ rfl rfl
theorem rd23 {o NB NI : Nat} {μ : MM} {A : AS} (h : CR o NB NI μ A) (hB : Bds NB NI A) {a : Nat} (ha : a < NB + 1) : rI μ (o + spC a) 2 = nI (a_mn A a) := RepD.r h 23 a 0 ⟨⟨by have := hB.1.2; omega, rfl⟩, ha⟩ rfl rfl
theorem rd24 {o NB NI : Nat} {μ : MM} {A : AS} (h : CR o NB NI μ A) (hB : Bds NB NI A) {a k : Nat} (ha : a < NB + 1) (hk : k < a_mn A a) : rI μ (o + cC 24 a) k = a_sw A a k := RepD.r h 24 a k ⟨⟨by have := hB.1.2; omega, by have := hB.2.2.2.2.2 a ha; omega⟩, ha, hk⟩ rfl rfl
theorem rd25 {o NB NI : Nat} {μ : MM} {A : AS} (h : CR o NB NI μ A) (hB : Bds NB NI A) {a k : Nat} (ha : a < NB + 1) (hk : k < a_mn A a) : rI μ (o + cC 25 a) k = a_st A a k := RepD.r h 25 a k ⟨⟨by have := hB.1.2; omega, by have := hB.2.2.2.2.2 a ha; omega⟩, ha, hk⟩ rfl rfl
theorem some_ne {α : Type} (i : α) : ¬ (some i = none) := by intro z; cases z
theorem one_ne : ¬ ((1 : Int32) = 0) := by decide
theorem and_ok (x y : Bool) : (if (if x = true then (1 : Int32) else 0) = 0 then some (0 : Int32) else if (if y = true then (1 : Int32) else 0) = 0 then some 0 else some 1) = some (if (x && y) = true then (1 : Int32) else 0) := by cases x <;> cases y <;> rfl
section RDS
variable {o NB NI : Nat} {μ : MM} {A : AS} (ho : isO o) (h : CR o NB NI μ A) (hB : Bds NB NI A)
theorem hasB_yes {b : Nat} (hb : b < a_nb A) (h : CR o NB NI μ A) (hB : Bds NB NI A) : X5_hasBooth o (nI b) μ = 1 := by
  unfold X5_hasBooth
  have := hB.1
  rw [rd4 h, if_neg (nI_pos (by omega)), if_neg (nI_ge hb (by omega))]
theorem hasB_no (h : CR o NB NI μ A) : X5_hasBooth o (-1) μ = 0 := by
  unfold X5_hasBooth
  rw [if_pos (by decide)]
theorem hasB_O {x : Option Nat} (hx : ∀ b, x = some b → b < a_nb A) (h : CR o NB NI μ A) (hB : Bds NB NI A) : X5_hasBooth o (encO x) μ = if x = none then 0 else 1 := by
  cases x with
  | none => rw [if_pos rfl]; exact hasB_no h
  | some b => rw [if_neg (some_ne b)]; exact hasB_yes (hx b rfl) h hB
theorem hasI_O {x : Option Nat} (hx : ∀ i, x = some i → i < a_ni A) (h : CR o NB NI μ A) (hB : Bds NB NI A) : X5_hasInterpreter o (encO x) μ = if x = none then 0 else 1 := by
  have hn := hB.2.1
  unfold X5_hasInterpreter
  cases x with
  | none => rw [if_pos rfl]; exact if_pos (by decide)
  | some i =>
    rw [if_neg (some_ne i)]
    have := hx i rfl
    show (if nI i < 0 then _ else if rI μ o 7 ≤ nI i then _ else _) = _
    rw [rd3 h, if_neg (nI_pos (by omega)), if_neg (nI_ge (by omega) (by omega))]
theorem spk_ok {i : Nat} {l : Int32} (hi : i < NI) (h : CR o NB NI μ A) (hB : Bds NB NI A) : X2_speaks (o + (56 + i)) l μ = if spk (a_iv A i 0) l = true then 1 else 0 := by
  unfold X2_speaks spk
  rw [rd6 h hB hi]
  by_cases e : (a_iv A i 0 >>> (l &&& 31)) &&& 1 = 1
  · rw [if_pos e, if_pos (by rw [decide_eq_true_eq]; exact e)]
  · rw [if_neg e, if_neg (by rw [decide_eq_true_eq]; exact e)]
theorem booth_at {b : Nat} (ho : isO o) (hb : b < 6) : RF (RF o 3) (nI b).toNatClampNeg = o + (8 + 8 * b) := by
  rw [oR3 ho, nI_clamp (by omega), oB ho hb]
theorem int_at {i : Nat} (ho : isO o) (hi : i < 8) : RF (RF o 4) (nI i).toNatClampNeg = o + (56 + i) := by
  rw [oR4 ho, nI_clamp (by omega), oN ho hi]
theorem in_booths {b : Nat} (ho : isO o) (hb : b < 6) : inb (nI b) (al (RF o 3)) := by
  rw [oR3 ho, oBal ho]
  exact inb_nI hb (by decide)
theorem in_ints {i : Nat} (ho : isO o) (hi : i < 8) : inb (nI i) (al (RF o 4)) := by
  rw [oR4 ho, oNal ho]
  exact inb_nI hi (by decide)
/-- sources and sitters are there -/
def Seats (A : AS) : Prop := (∀ b, b < a_nb A → ∀ s, a_src A b = some s → s < a_nb A) ∧ ∀ b, b < a_nb A → ∀ i, a_sit A b = some i → i < a_ni A
theorem lang_ok {x : Option Nat} (hx : ∀ b, x = some b → b < a_nb A) (ho : isO o) (h : CR o NB NI μ A) (hB : Bds NB NI A) : X5_languageOf o (encO x) μ = some (langO A x) := by
  have hn := hB.1
  unfold X5_languageOf
  rw [hasB_O hx h hB]
  cases x with
  | none => rw [if_pos rfl, if_pos rfl, rd1 h]; rfl
  | some s =>
    have := hx s rfl
    rw [if_neg (some_ne s), if_neg one_ne]
    show (if inb (nI s) _ then some (rI μ (RF (RF o 3) (nI s).toNatClampNeg) 3) else none) = _
    rw [if_pos (in_booths ho (by omega)), booth_at ho (by omega), rd12 h hB (by omega)]
    rfl
theorem speech_ok {x : Option Nat} (hx : ∀ b, x = some b → b < a_nb A) (ho : isO o) (h : CR o NB NI μ A) (hB : Bds NB NI A) : X5_speechOf o (encO x) μ = some (o + spC (placeOf x)) := by
  have hn := hB.1
  unfold X5_speechOf
  rw [hasB_O hx h hB]
  cases x with
  | none => rw [if_pos rfl, if_pos rfl, oR2 ho]; rfl
  | some s =>
    have := hx s rfl
    rw [if_neg (some_ne s), if_neg one_ne]
    show (if inb (nI s) _ then some (RF (RF (RF o 3) (nI s).toNatClampNeg) 2) else none) = _
    rw [if_pos (in_booths ho (by omega)), booth_at ho (by omega), oB2 ho (by omega)]
    show some (o + (13 + 8 * s)) = some (o + spC (s + 1))
    rw [spC_b]
theorem able_ok {b : Nat} (hb : b < a_nb A) (hs : Seats A) (ho : isO o) (h : CR o NB NI μ A) (hB : Bds NB NI A) : X5_isAble o (nI b) μ = some (if ableA A b = true then 1 else 0) := by
  have hn := hB.1
  have hm := hB.2.1
  unfold X5_isAble
  rw [if_pos (in_booths ho (by omega)), booth_at ho (by omega), rd16 h hB (by omega), rd12 h hB (by omega), rd15 h hB (by omega), hasI_O (hs.2 b hb) h hB]
  unfold ableA
  cases hx : a_sit A b with
  | none => rw [if_pos rfl, if_pos rfl]; rfl
  | some i =>
    have hi := hs.2 b hb i hx
    rw [if_neg (some_ne i), if_neg one_ne]
    show (if inb (nI i) _ then _ else _) = _
    rw [if_pos (in_ints ho (by omega))]
    show (if X2_speaks (RF (RF o 4) (nI i).toNatClampNeg) _ μ = 0 then _ else bO1 _ (fun r9 => if X2_speaks (RF (RF o 4) (nI i).toNatClampNeg) r9 μ = 0 then _ else _)) = _
    rw [int_at ho (by omega), spk_ok (by omega) h hB, lang_ok (hs.1 b hb) ho h hB]
    simp only [bO1_s]
    rw [spk_ok (by omega) h hB]
    exact and_ok _ _
end RDS
