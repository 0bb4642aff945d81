/-! Seats: who sits where. -/
theorem seat_some {sit : Nat → Option Nat} {i : Nat} : ∀ n s, seatOf sit i n = some s → s < n ∧ sit s = some i
  | 0, s, h => by cases h
  | n + 1, s, h => by
    unfold seatOf at h
    by_cases e : sit n = some i
    · rw [if_pos e] at h
      cases h
      exact ⟨Nat.lt_succ_self _, e⟩
    · rw [if_neg e] at h
      have := seat_some n s h
      exact ⟨by omega, this.2⟩
theorem seat_none {sit : Nat → Option Nat} {i : Nat} : ∀ n, seatOf sit i n = none → ∀ c, c < n → sit c ≠ some i
  | 0, _, c, hc => absurd hc (Nat.not_lt_zero _)
  | n + 1, h, c, hc => by
    unfold seatOf at h
    by_cases e : sit n = some i
    · rw [if_pos e] at h
      cases h
    · rw [if_neg e] at h
      by_cases e2 : c = n
      · rw [e2]
        exact e
      · exact seat_none n h c (by omega)
theorem seat_of {sit : Nat → Option Nat} {i s : Nat} (hs : sit s = some i) : ∀ n, s < n → (∀ c, c < n → sit c = some i → c = s) → seatOf sit i n = some s
  | 0, h, _ => absurd h (Nat.not_lt_zero _)
  | n + 1, h, hu => by
    unfold seatOf
    by_cases e : sit n = some i
    · rw [if_pos e, hu n (by omega) e]
    · rw [if_neg e]
      refine seat_of hs n ?_ (fun c hc => hu c (by omega))
      by_cases e2 : s = n
      · rw [← e2] at e
        exact absurd hs e
      · omega
theorem seat_no {sit : Nat → Option Nat} {i : Nat} {n : Nat} (h : ∀ c, c < n → sit c ≠ some i) : seatOf sit i n = none := by
  cases hx : seatOf sit i n with
  | none => rfl
  | some s =>
    have := seat_some n s hx
    exact absurd this.2 (h s this.1)
theorem seat_eq {sit sit' : Nat → Option Nat} {i : Nat} : ∀ n, (∀ c, c < n → (sit' c = some i ↔ sit c = some i)) → seatOf sit' i n = seatOf sit i n
  | 0, _ => rfl
  | n + 1, h => by
    unfold seatOf
    rw [seat_eq n (fun c hc => h c (by omega))]
    by_cases e : sit n = some i
    · rw [if_pos e, if_pos ((h n (by omega)).mpr e)]
    · rw [if_neg e, if_neg (fun z => e ((h n (by omega)).mp z))]
/-- the seats after x has sat down at b -/
def seatF (A : AS) (b : Nat) (x : Option Nat) : Nat → Option Nat := fun c => if c = b then x else if c < a_nb A ∧ a_sit A c = x then none else a_sit A c
def seatA (A : AS) (b : Nat) (x : Option Nat) : AS := s_sit A (seatF A b x)
theorem sF_b (A : AS) (b : Nat) (x : Option Nat) : seatF A b x b = x := if_pos rfl
theorem sF_n {A : AS} {b c : Nat} {x : Option Nat} (h : c ≠ b) (h2 : ¬ (c < a_nb A ∧ a_sit A c = x)) : seatF A b x c = a_sit A c := by
  unfold seatF
  rw [if_neg h, if_neg h2]
theorem sF_o {A : AS} {b c : Nat} {x : Option Nat} (h : c ≠ b) (h1 : c < a_nb A) (h2 : a_sit A c = x) : seatF A b x c = none := by
  unfold seatF
  rw [if_neg h, if_pos ⟨h1, h2⟩]
theorem sF_some {A : AS} {b c i : Nat} {x : Option Nat} (h : seatF A b x c = some i) (hc : c < a_nb A) : (c = b ∧ x = some i) ∨ (c ≠ b ∧ a_sit A c = some i ∧ x ≠ some i) := by
  by_cases e : c = b
  · rw [e, sF_b] at h
    exact Or.inl ⟨e, h⟩
  · by_cases e2 : a_sit A c = x
    · rw [sF_o e hc e2] at h
      cases h
    · rw [sF_n e (fun z => e2 z.2)] at h
      exact Or.inr ⟨e, h, fun z => e2 (by rw [h, z])⟩
theorem Good.seat {A : AS} (h : Good A) {b : Nat} (hb : b < a_nb A) {x : Option Nat} (hx : ∀ i, x = some i → i < a_ni A) : Good (seatA A b x) := by
  obtain ⟨hI, h2, h3, h4⟩ := h
  refine ⟨⟨hI.1, ⟨hI.2.1.1, fun c hc i hi => ?_⟩, hI.2.2⟩, ?_, h3, ?_⟩
  · rcases sF_some hi hc with y | y
    · exact hx i y.2
    · exact hI.2.1.2 c hc i y.2.1
  · intro c d i hc hd h1 h1'
    rcases sF_some h1 hc with y | y <;> rcases sF_some h1' hd with z | z
    · rw [y.1, z.1]
    · exact absurd y.2 z.2.2
    · exact absurd z.2 y.2.2
    · exact h2 c d i hc hd y.2.1 z.2.1
  · intro c hc
    have hc' : a_nb A ≤ c := hc
    have := h4 c hc
    exact ⟨this.1, (sF_n (by omega) (fun z => by have := z.1; omega)).trans this.2.1, this.2.2⟩
theorem g_x {A : AS} (hu : Uniq A) {b i : Nat} (hb : b < a_nb A) : seatOf (seatF A b (some i)) i (a_nb A) = some b := by
  refine seat_of (sF_b _ _ _) _ hb (fun c hc hs => ?_)
  rcases sF_some hs hc with y | y
  · exact y.1
  · exact absurd rfl y.2.2
theorem g_old {A : AS} (hu : Uniq A) {b i : Nat} {x : Option Nat} (hb : b < a_nb A) (h0 : a_sit A b = some i) (hx : x ≠ some i) : seatOf (seatF A b x) i (a_nb A) = none := by
  refine seat_no (fun c hc hs => ?_)
  rcases sF_some hs hc with y | y
  · exact hx y.2
  · exact y.1 (hu c b i hc hb y.2.1 h0)
theorem g_other {A : AS} {b j : Nat} {x : Option Nat} (hb : b < a_nb A) (h0 : a_sit A b ≠ some j) (hx : x ≠ some j) : seatOf (seatF A b x) j (a_nb A) = seatOf (a_sit A) j (a_nb A) := by
  refine seat_eq _ (fun c hc => ⟨fun hs => ?_, fun hs => ?_⟩)
  · rcases sF_some hs hc with y | y
    · exact absurd y.2 hx
    · exact y.2.1
  · have e : c ≠ b := fun z => h0 (by rw [← z]; exact hs)
    rw [sF_n e (fun z => hx (by rw [← z.2]; exact hs))]
    exact hs
theorem seatA_same {A : AS} (hu : Uniq A) {b : Nat} (hb : b < a_nb A) : seatA A b (a_sit A b) = A := by
  have : seatF A b (a_sit A b) = a_sit A := by
    funext c
    by_cases e : c = b
    · rw [e, sF_b]
    · by_cases e2 : c < a_nb A ∧ a_sit A c = a_sit A b
      · rw [sF_o e e2.1 e2.2]
        cases hx : a_sit A b with
        | none => rw [← hx, e2.2]
        | some i => exact absurd (hu c b i e2.1 hb (e2.2.trans hx) hx) e
      · exact sF_n e e2
  unfold seatA
  rw [this]
section ST
variable {o p : Nat} {ρ μ : MM} {A : AS}
theorem CR_sit {NB NI : Nat} {μ' : MM} {g : Nat → Option Nat} (h : Cl o NB NI ρ μ A) (hN : NB ≤ 6) (hM : NI ≤ 8) (h1 : ∀ c, c < NB → rI μ' (o + (8 + 8 * c)) 7 = encO (g c)) (h2 : ∀ j, j < NI → rI μ' (o + (56 + j)) 2 = encO (seatOf g j (a_nb A))) (h3 : ∀ q s, (¬ ∃ c, c < 6 ∧ q = o + (8 + 8 * c) ∧ s = 7) → (¬ ∃ j, j < 8 ∧ q = o + (56 + j) ∧ s = 2) → rI μ' q s = rI μ q s) : Cl o NB NI ρ μ' (s_sit A g) := by
  refine ⟨?_, ?_⟩
  · intro f b k z
    refine ⟨z.1, ?_⟩
    by_cases e16 : f = 16
    · subst e16
      obtain ⟨⟨z1, rfl⟩, z2⟩ := z
      exact h1 b z2
    · by_cases e26 : f = 26
      · subst e26
        obtain ⟨⟨z1, rfl⟩, z2⟩ := z
        exact h2 b z2
      · have zA : vd NB NI A f b k := D_same (A := A) f b k z rfl rfl rfl
        show rI μ' (o + cC f b) (cK f k) = av (s_sit A g) f b k
        rw [h3 _ _ (fun ⟨c, hc, y1, y2⟩ => e16 (cInj o f b k 16 c 0 z.1 ⟨hc, rfl⟩ y1 y2).1) (fun ⟨c, hc, y1, y2⟩ => e26 (cInj o f b k 26 c 0 z.1 ⟨hc, rfl⟩ y1 y2).1)]
        refine Eq.trans (h.1 f b k zA).2 ?_
        have hf := dom_lt f b k z.1
        have hz := z.1
        clear h1 h2 h3 zA z
        match f, hf, e16, e26 with
        | 0, _, _, _ => rfl
        | 1, _, _, _ => rfl
        | 2, _, _, _ => rfl
        | 3, _, _, _ => rfl
        | 4, _, _, _ => rfl
        | 5, _, _, _ => rfl
        | 6, _, _, _ => rfl
        | 7, _, _, _ => rfl
        | 8, _, _, _ => rfl
        | 9, _, _, _ => rfl
        | 10, _, _, _ => rfl
        | 11, _, _, _ => rfl
        | 12, _, _, _ => rfl
        | 13, _, _, _ => rfl
        | 14, _, _, _ => rfl
        | 15, _, _, _ => rfl
        | 16, _, e, _ => exact absurd rfl e
        | 17, _, _, _ => rfl
        | 18, _, _, _ => rfl
        | 19, _, _, _ => rfl
        | 20, _, _, _ => rfl
        | 21, _, _, _ => rfl
        | 22, _, _, _ => rfl
        | 23, _, _, _ => rfl
        | 24, _, _, _ => rfl
        | 25, _, _, _ => rfl
        | 26, _, _, e => exact absurd rfl e
        | f + 27, hf, _, _ => omega
  · intro q s hz
    rw [h3 q s (fun ⟨c, hc, y1, y2⟩ => by omega) (fun ⟨c, hc, y1, y2⟩ => by omega)]
    exact h.2 q s hz
theorem hasI_w {i : Nat} (x : Int32) (v : Int32) (k : Nat) : X5_hasInterpreter o x (wI μ (o + (56 + i)) k v) = X5_hasInterpreter o x μ := by
  unfold X5_hasInterpreter
  rw [rI_o _ (by omega)]
theorem hasB_w {i : Nat} (x : Int32) (v : Int32) (k : Nat) : X5_hasBooth o x (wI μ (o + (56 + i)) k v) = X5_hasBooth o x μ := by
  unfold X5_hasBooth
  rw [rI_o _ (by omega)]
theorem c_seat {NB NI b : Nat} {x : Option Nat} (ho : isO o) (h : Cl o NB NI ρ μ A) (hB : Bds NB NI A) (hG : Good A) (hb : b < a_nb A) (hx : ∀ i, x = some i → i < a_ni A) : ∃ μ', X5_seat o (nI b) (encO x) μ = some (encO (a_sit A b), μ') ∧ Cl o NB NI ρ μ' (seatA A b x) := by
  have hI := hG.1
  have hu := hG.2.1
  have h6 := hI.1.1
  have h8 := hI.1.2.1
  have hs := hI.2.1
  have hn := hB.1
  have hm := hB.2.1
  have hxs : ∀ i, a_sit A b = some i → i < a_ni A := hs.2 b hb
  unfold X5_seat
  rw [if_pos (in_booths ho (by omega)), booth_at ho (by omega), rd16 h.1 hB (by omega)]
  simp only [bV_eq]
  have r16 : ∀ c, c < NB → rI μ (o + (8 + 8 * c)) 7 = encO (a_sit A c) := fun c hc => rd16 h.1 hB hc
  have r26 : ∀ j, j < NI → rI μ (o + (56 + j)) 2 = encO (seatOf (a_sit A) j (a_nb A)) := fun j hj => rd26 h.1 hB hj
  by_cases e0 : a_sit A b = x
  · rw [if_pos (by rw [e0])]
    refine ⟨_, rfl, ?_⟩
    rw [← e0, seatA_same hu hb]
    exact h
  · have e0' : ¬ encO (a_sit A b) = encO x := by
      intro z
      cases hy : a_sit A b with
      | none =>
        cases x with
        | none => exact e0 hy
        | some i =>
          rw [hy] at z
          have := hx i rfl
          exact enc_ne (s := i) (by omega) z.symm
      | some i0 =>
        have := hxs i0 hy
        cases x with
        | none =>
          rw [hy] at z
          exact enc_ne (s := i0) (by omega) z
        | some i =>
          have := hx i rfl
          rw [hy] at z e0
          exact e0 (by rw [nI_inj' (a := i0) (b := i) (by omega) (by omega) z])
    rw [if_neg e0', hasI_O hxs h.1 hB, hasI_O hx h.1 hB]
    cases hy : a_sit A b with
    | none =>
      rw [if_pos (rfl : (none : Option Nat) = none), if_pos (rfl : (0 : Int32) = 0)]
      cases x with
      | none => exact absurd hy e0
      | some i =>
        have hi := hx i rfl
        rw [if_neg (some_ne i), if_neg one_ne, show encO (some i) = nI i from rfl, if_pos (in_ints ho (by omega)), int_at ho (by omega), rd26 h.1 hB (by omega), hasB_O (x := seatOf (a_sit A) i (a_nb A)) (fun s hs => seat_lt _ s hs) h.1 hB]
        cases hz : seatOf (a_sit A) i (a_nb A) with
        | none =>
          rw [if_pos (rfl : (none : Option Nat) = none), if_pos (rfl : (0 : Int32) = 0), if_pos (in_ints ho (by omega)), if_pos (in_booths ho (by omega))]
          refine ⟨_, rfl, ?_⟩
          have hno := seat_none _ hz
          refine CR_sit h (by omega) (by omega) (fun c hc => ?_) (fun j hj => ?_) (fun q s n1 n2 => ?_)
          · by_cases e : c = b
            · rw [e, rI_at, sF_b]
              rfl
            · rw [rI_ne _ (fun z => e (by omega)), rI_ne _ (fun z => by have := z.1; omega), r16 c hc, sF_n e (fun z => hno c z.1 z.2)]
          · rw [rI_ne _ (fun z => by have := z.1; omega)]
            by_cases e : j = i
            · rw [e, rI_at, g_x hu hb]
              rfl
            · rw [rI_ne _ (fun z => e (by omega)), r26 j hj, g_other hb (by rw [hy]; exact fun z => some_ne j z.symm) (fun z => e (by cases z; rfl))]
          · rw [rI_ne _ (fun z => n1 ⟨b, by omega, z.1, z.2⟩), rI_ne _ (fun z => n2 ⟨i, by omega, z.1, z.2⟩)]
        | some s =>
          have hss := seat_some _ s hz
          rw [if_neg (some_ne s), if_neg one_ne, show encO (some s) = nI s from rfl, if_pos (in_booths ho (by omega)), if_pos (in_ints ho (by omega)), booth_at ho (by omega), if_pos (in_booths ho (by omega))]
          refine ⟨_, rfl, ?_⟩
          refine CR_sit h (by omega) (by omega) (fun c hc => ?_) (fun j hj => ?_) (fun q t n1 n2 => ?_)
          · by_cases e : c = b
            · rw [e, rI_at, sF_b]
              rfl
            · rw [rI_ne _ (fun z => e (by omega)), rI_ne _ (fun z => by have := z.1; omega)]
              by_cases e2 : c = s
              · rw [e2, rI_at, sF_o (by rw [← e2]; exact e) hss.1 hss.2]
                rfl
              · rw [rI_ne _ (fun z => e2 (by omega)), r16 c hc, sF_n e (fun z => e2 (hu c s i z.1 hss.1 z.2 hss.2))]
          · rw [rI_ne _ (fun z => by have := z.1; omega)]
            by_cases e : j = i
            · rw [e, rI_at, g_x hu hb]
              rfl
            · rw [rI_ne _ (fun z => e (by omega)), rI_ne _ (fun z => by have := z.1; omega), r26 j hj, g_other hb (by rw [hy]; exact fun z => some_ne j z.symm) (fun z => e (by cases z; rfl))]
          · rw [rI_ne _ (fun z => n1 ⟨b, by omega, z.1, z.2⟩), rI_ne _ (fun z => n2 ⟨i, by omega, z.1, z.2⟩), rI_ne _ (fun z => n1 ⟨s, by omega, z.1, z.2⟩)]
    | some i0 =>
      have hi0 := hxs i0 hy
      rw [if_neg (some_ne i0), if_neg one_ne, show encO (some i0) = nI i0 from rfl, if_pos (in_ints ho (by omega)), int_at ho (by omega), hasI_w, hasI_O hx h.1 hB]
      cases x with
      | none =>
        rw [if_pos (rfl : (none : Option Nat) = none), if_pos (rfl : (0 : Int32) = 0), if_pos (in_booths ho (by omega))]
        refine ⟨_, rfl, ?_⟩
        refine CR_sit h (by omega) (by omega) (fun c hc => ?_) (fun j hj => ?_) (fun q s n1 n2 => ?_)
        · by_cases e : c = b
          · rw [e, rI_at, sF_b]
          · rw [rI_ne _ (fun z => e (by omega)), rI_ne _ (fun z => by have := z.1; omega), r16 c hc]
            by_cases e2 : c < a_nb A ∧ a_sit A c = none
            · rw [sF_o e e2.1 e2.2, e2.2]
            · rw [sF_n e e2]
        · rw [rI_ne _ (fun z => by have := z.1; omega)]
          by_cases e : j = i0
          · rw [e, rI_at, g_old hu hb hy (fun z => some_ne i0 z.symm)]
            rfl
          · rw [rI_ne _ (fun z => e (by omega)), r26 j hj, g_other hb (by rw [hy]; exact fun z => e (by cases z; rfl)) (fun z => some_ne j z.symm)]
        · rw [rI_ne _ (fun z => n1 ⟨b, by omega, z.1, z.2⟩), rI_ne _ (fun z => n2 ⟨i0, by omega, z.1, z.2⟩)]
      | some i =>
        have hi := hx i rfl
        have hne : i ≠ i0 := fun z => e0 (by rw [hy, z])
        rw [if_neg (some_ne i), if_neg one_ne, show encO (some i) = nI i from rfl, if_pos (in_ints ho (by omega)), int_at ho (by omega), rI_ne (q := o + (56 + i)) _ (fun z => hne (by omega)), rd26 h.1 hB (by omega), hasB_w, hasB_O (x := seatOf (a_sit A) i (a_nb A)) (fun s hs => seat_lt _ s hs) h.1 hB]
        cases hz : seatOf (a_sit A) i (a_nb A) with
        | none =>
          rw [if_pos (rfl : (none : Option Nat) = none), if_pos (rfl : (0 : Int32) = 0), if_pos (in_ints ho (by omega)), if_pos (in_booths ho (by omega))]
          refine ⟨_, rfl, ?_⟩
          have hno := seat_none _ hz
          refine CR_sit h (by omega) (by omega) (fun c hc => ?_) (fun j hj => ?_) (fun q s n1 n2 => ?_)
          · by_cases e : c = b
            · rw [e, rI_at, sF_b]
              rfl
            · rw [rI_ne _ (fun z => e (by omega)), rI_ne _ (fun z => by have := z.1; omega), rI_ne _ (fun z => by have := z.1; omega), r16 c hc, sF_n e (fun z => hno c z.1 z.2)]
          · rw [rI_ne _ (fun z => by have := z.1; omega)]
            by_cases e : j = i
            · rw [e, rI_at, g_x hu hb]
              rfl
            · rw [rI_ne _ (fun z => e (by omega))]
              by_cases e2 : j = i0
              · rw [e2, rI_at, g_old hu hb hy (fun z => hne (by cases z; rfl))]
                rfl
              · rw [rI_ne _ (fun z => e2 (by omega)), r26 j hj, g_other hb (by rw [hy]; exact fun z => e2 (by cases z; rfl)) (fun z => e (by cases z; rfl))]
          · rw [rI_ne _ (fun z => n1 ⟨b, by omega, z.1, z.2⟩), rI_ne _ (fun z => n2 ⟨i, by omega, z.1, z.2⟩), rI_ne _ (fun z => n2 ⟨i0, by omega, z.1, z.2⟩)]
        | some s =>
          have hss := seat_some _ s hz
          rw [if_neg (some_ne s), if_neg one_ne, show encO (some s) = nI s from rfl, if_pos (in_booths ho (by omega)), if_pos (in_ints ho (by omega)), booth_at ho (by omega), if_pos (in_booths ho (by omega))]
          refine ⟨_, rfl, ?_⟩
          refine CR_sit h (by omega) (by omega) (fun c hc => ?_) (fun j hj => ?_) (fun q t n1 n2 => ?_)
          · by_cases e : c = b
            · rw [e, rI_at, sF_b]
              rfl
            · rw [rI_ne _ (fun z => e (by omega)), rI_ne _ (fun z => by have := z.1; omega)]
              by_cases e2 : c = s
              · rw [e2, rI_at, sF_o (by rw [← e2]; exact e) hss.1 hss.2]
                rfl
              · rw [rI_ne _ (fun z => e2 (by omega)), rI_ne _ (fun z => by have := z.1; omega), r16 c hc, sF_n e (fun z => e2 (hu c s i z.1 hss.1 z.2 hss.2))]
          · rw [rI_ne _ (fun z => by have := z.1; omega)]
            by_cases e : j = i
            · rw [e, rI_at, g_x hu hb]
              rfl
            · rw [rI_ne _ (fun z => e (by omega)), rI_ne _ (fun z => by have := z.1; omega)]
              by_cases e2 : j = i0
              · rw [e2, rI_at, g_old hu hb hy (fun z => hne (by cases z; rfl))]
                rfl
              · rw [rI_ne _ (fun z => e2 (by omega)), r26 j hj, g_other hb (by rw [hy]; exact fun z => e2 (by cases z; rfl)) (fun z => e (by cases z; rfl))]
          · rw [rI_ne _ (fun z => n1 ⟨b, by omega, z.1, z.2⟩), rI_ne _ (fun z => n2 ⟨i, by omega, z.1, z.2⟩), rI_ne _ (fun z => n1 ⟨s, by omega, z.1, z.2⟩), rI_ne _ (fun z => n2 ⟨i0, by omega, z.1, z.2⟩)]
theorem m_seat {b : Nat} {x : Option Nat} (hp : isP p) (h : Ml p ρ μ A) (hG : Good A) (hb : b < a_nb A) (hx : ∀ i, x = some i → i < a_ni A) : ∃ μ', X7_sit p (nI b) (encO x) μ = some μ' ∧ Ml p ρ μ' (seatA A b x) := by
  have hI := hG.1
  have hu := hG.2.1
  have h6 := hI.1.1
  have h8 := hI.1.2.1
  have hs := hI.2.1
  have cb : (nI b).toNatClampNeg = b := nI_clamp (by omega)
  have i6 : inb (nI b) 6 = True := inb_T (by omega) (by decide)
  unfold X7_sit
  cases x with
  | none =>
    rw [if_pos (show encO none = -1 from rfl)]
    simp only [pR16 hp, pA16 hp, i6, cb, if_true, bV_eq]
    refine ⟨_, rfl, ?_⟩
    have : seatA A b none = s_sit A (up1 (a_sit A) b none) := by
      unfold seatA
      congr 1
      funext c
      by_cases e : c = b
      · rw [e, sF_b, up1_s]
      · rw [up1_n _ _ e]
        by_cases e2 : c < a_nb A ∧ a_sit A c = none
        · rw [sF_o e e2.1 e2.2, e2.2]
        · rw [sF_n e e2]
    rw [this]
    exact m_sit none (by omega) h
  | some i =>
    have hi := hx i rfl
    rw [if_neg (enc_ne (s := i) (by omega))]
    show ∃ μ', bO1 (X7_boothOf p (nI i) μ) _ = _ ∧ _
    rw [m_boothOf hp h hs h6 h8 (by omega)]
    simp only [bO1_s]
    cases hz : seatOf (a_sit A) i (a_nb A) with
    | none =>
      have hno := seat_none _ hz
      rw [if_pos (show encO none = -1 from rfl)]
      simp only [pR16 hp, pA16 hp, i6, cb, if_true, bV_eq]
      refine ⟨_, rfl, ?_⟩
      have : seatA A b (some i) = s_sit A (up1 (a_sit A) b (some i)) := by
        unfold seatA
        congr 1
        funext c
        by_cases e : c = b
        · rw [e, sF_b, up1_s]
        · rw [up1_n _ _ e, sF_n e (fun z => hno c z.1 z.2)]
      rw [this]
      exact m_sit (some i) (by omega) h
    | some s =>
      have hss := seat_some _ s hz
      have cs : (encO (some s)).toNatClampNeg = s := nI_clamp (by omega)
      have j6 : inb (encO (some s)) 6 = True := inb_T (by omega) (by decide)
      rw [if_neg (enc_ne (s := s) (by omega))]
      show ∃ μ', bO1 (X7_boothOf p (nI i) μ) _ = _ ∧ _
      rw [m_boothOf hp h hs h6 h8 (by omega), hz]
      simp only [bO1_s, pR16 hp, pA16 hp, i6, j6, cb, cs, if_true, bV_eq]
      refine ⟨_, rfl, ?_⟩
      have : seatA A b (some i) = s_sit A (up1 (up1 (a_sit A) s none) b (some i)) := by
        unfold seatA
        congr 1
        funext c
        by_cases e : c = b
        · rw [e, sF_b, up1_s]
        · rw [up1_n _ _ e]
          by_cases e2 : c = s
          · rw [e2, up1_s, sF_o (by rw [← e2]; exact e) hss.1 hss.2]
          · rw [up1_n _ _ e2, sF_n e (fun z => e2 (hu c s i z.1 hss.1 z.2 hss.2))]
      rw [this]
      exact m_sit (some i) (by omega) (m_sit (A := A) none (by omega) h)
end ST
