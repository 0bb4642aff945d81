/-! What stays true through a tick. -/
theorem Inv.shift {j : Nat} {A : AS} (h : Inv j A) : Inv j (shiftA A) := by
  refine ⟨⟨h.1.1, h.1.2.1, ?_, h.1.2.2.2⟩, h.2.1, h.2.2.1, ?_, h.2.2.2.2.1, h.2.2.2.2.2⟩
  · have := h.1.2.2.1
    show a_lf A - 1 ≤ 120
    omega
  · intro k hk
    have hk2 : k < a_lf A - 1 := hk
    exact h.2.2.2.1 (k + 1) (by omega)
theorem Inv.floor {A : AS} (h : Inv 0 A) : Inv 1 (floorA A) := by
  unfold floorA
  by_cases e : a_lf A = 0
  · rw [if_pos e]
    exact h.up
  · rw [if_neg e]
    by_cases e2 : a_tx A 0 = -1
    · rw [if_pos e2]
      exact h.shift.up
    · rw [if_neg e2]
      exact Inv.keep (A := shiftA A) h.shift ((h.2.2.2.1 0 (by omega)).resolve_left e2)
theorem Inv.got {j b : Nat} {w : Int32} {A : AS} (h : Inv j A) (hb : b < a_nb A) (hf : ¬ nI (a_hd A b) = a_bv A b 2) (hw : wNum w) : Inv j (gotA A b w) := by
  obtain ⟨⟨m, m1, m2, m3, m4⟩, _, _⟩ := h.2.2.1 b hb
  have hlt : a_hd A b < m := by
    rcases Nat.lt_or_ge (a_hd A b) m with y | y
    · exact y
    · exact absurd (by rw [m1, show a_hd A b = m by omega]) hf
  have e1 : a_hd (gotA A b w) b = a_hd A b + 1 := up1_s _ _ _
  have en : ∀ c, c ≠ b → a_hd (gotA A b w) c = a_hd A c := fun c hc => up1_n _ _ hc
  refine ⟨h.1, h.2.1, ?_, h.2.2.2.1, ?_, h.2.2.2.2.2⟩
  · intro c hc
    obtain ⟨⟨n, n1, n2, n3, n4⟩, w1, w2⟩ := h.2.2.1 c hc
    by_cases e : c = b
    · subst e
      refine ⟨⟨m, m1, by rw [e1]; omega, m3, m4⟩, ?_, w2⟩
      intro k hk
      rw [e1] at hk
      show wNum (up2 (a_hw A) c (a_hd A c) w c k)
      by_cases ek : k = a_hd A c
      · rw [ek, up2_s]; exact hw
      · rw [up2_n _ _ (fun z => ek z.2)]; exact w1 k (by omega)
    · refine ⟨⟨n, n1, by rw [en c e]; exact n2, n3, n4⟩, ?_, w2⟩
      intro k hk
      rw [en c e] at hk
      show wNum (up2 (a_hw A) b (a_hd A b) w c k)
      rw [up2_n _ _ (fun z => e z.1)]
      exact w1 k hk
  · intro c
    by_cases e : c = b
    · rw [e, e1]; omega
    · rw [en c e]; exact h.2.2.2.2.1 c
theorem now_pos {A : AS} {a : Nat} (h : nowA A a = true) : 0 < a_mn A a := by
  unfold nowA at h
  rw [Bool.and_eq_true] at h
  have := of_decide_eq_true h.1
  omega
theorem Inv.hear {j b : Nat} {A : AS} (h : Inv j A) (hb : b < a_nb A) : Inv j (hearA A b) := by
  unfold hearA
  by_cases e : nowA A (placeOf (a_src A b)) = true
  · rw [if_pos e]
    unfold takeA
    by_cases e2 : nI (a_hd A b) = a_bv A b 2
    · rw [if_pos e2]
      exact h.lost
    · rw [if_neg e2]
      exact h.got hb e2 ((h.2.2.2.2.2 _).2 _ (by have := now_pos e; omega)).1
  · rw [if_neg e]
    exact h
theorem Inv.rest {j i : Nat} {A : AS} (h : Inv j A) : Inv j (restA A i) := by
  unfold restA
  split
  · exact h.tire
  · exact h
theorem Inv.booths {A : AS} (h : Inv 1 A) : ∀ n, n ≤ a_nb A → Inv (n + 1) (itA boothA n A)
  | 0, _ => h
  | n + 1, hn => Inv.booth (Inv.booths h n (by omega)) (by rw [(fix_it fix_booth n A).1]; omega)
theorem Inv.hears {j : Nat} {A : AS} (h : Inv j A) : ∀ n, n ≤ a_nb A → Inv j (itA hearA n A)
  | 0, _ => h
  | n + 1, hn => Inv.hear (Inv.hears h n (by omega)) (by rw [(fix_it fix_hear n A).1]; omega)
theorem Inv.rests {j : Nat} {A : AS} (h : Inv j A) : ∀ n, Inv j (itA restA n A)
  | 0 => h
  | n + 1 => Inv.rest (Inv.rests h n)
theorem Inv.over {A : AS} (h : Inv (a_nb A + 1) A) (hm : ∀ a, a_nb A < a → a_mn A a ≤ a_t A + 1 ∧ ∀ k, k < a_mn A a → ∃ n, a_st A a k = nI n ∧ n < a_t A + 1) (ht : a_t A < 400) : Inv 0 (s_t A (a_t A + 1)) := by
  refine ⟨⟨h.1.1, h.1.2.1, h.1.2.2.1, ht⟩, h.2.1, h.2.2.1, h.2.2.2.1, h.2.2.2.2.1, fun a => ?_⟩
  have h1 := h.2.2.2.2.2 a
  have e : (if a < a_nb A + 1 then 1 else 0) ≤ 1 := by split <;> omega
  refine ⟨?_, fun k hk => ⟨(h1.2 k hk).1, ?_⟩⟩
  · have := h1.1
    show a_mn A a ≤ a_t A + 1 + _
    omega
  · obtain ⟨n, n1, n2⟩ := (h1.2 k hk).2
    refine ⟨n, n1, ?_⟩
    show n < a_t A + 1 + _
    omega
