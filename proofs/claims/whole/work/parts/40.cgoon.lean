/-! The class: a tick, and a pass. -/
theorem fix_lt (A : AS) : a_nb (tickA A) = a_nb A ∧ a_ni (tickA A) = a_ni A ∧ a_t (tickA A) = a_t A + 1 ∧ a_src (tickA A) = a_src A ∧ a_sit (tickA A) = a_sit A ∧ a_lang (tickA A) = a_lang A := by
  have f1 := fix_floor A
  have f2 := f1.t (fix_it fix_booth (a_nb A) (floorA A))
  have f3 := f2.t (fix_it fix_hear (a_nb A) _)
  have f4 := f3.t (fix_it fix_rest (a_ni A) _)
  exact ⟨f4.1, f4.2.1, rfl, f4.2.2.2.1, f4.2.2.2.2.1, f4.2.2.2.2.2⟩
theorem Inv.over' {j : Nat} {A : AS} {t : Nat} (h : Inv j A) (e : t = a_t A) (ht : t < 400) : Inv 0 (s_t A (t + 1)) := by
  subst e
  refine ⟨⟨h.1.1, h.1.2.1, h.1.2.2.1, ht⟩, h.2.1, h.2.2.1, h.2.2.2.1, h.2.2.2.2.1, fun a => ?_⟩
  have h1 := h.2.2.2.2.2 a
  have e : (if a < j then 1 else 0) ≤ 1 := by split <;> omega
  refine ⟨?_, fun k hk => ⟨(h1.2 k hk).1, ?_⟩⟩
  · have := h1.1
    show a_mn A a ≤ a_t A + 1 + _
    omega
  · obtain ⟨n, n1, n2⟩ := (h1.2 k hk).2
    refine ⟨n, n1, ?_⟩
    show n < a_t A + 1 + _
    omega
theorem Inv.tick {A : AS} (h : Inv 0 A) (ht : a_t A < 400) : Inv 0 (tickA A) := by
  have f1 := fix_floor A
  have f2 := f1.t (fix_it fix_booth (a_nb A) (floorA A))
  have f3 := f2.t (fix_it fix_hear (a_nb A) _)
  have f4 := f3.t (fix_it fix_rest (a_ni A) _)
  have i1 := h.floor.booths (a_nb A) (by rw [f1.1]; exact Nat.le_refl _)
  have i2 := i1.hears (a_nb A) (by rw [f2.1]; exact Nat.le_refl _)
  exact Inv.over' (i2.rests (a_ni A)) f4.2.2.1.symm ht
theorem Inv.pass {A : AS} (h : Inv 0 A) : ∀ n, a_t A + n ≤ 400 → Inv 0 (passA n A) ∧ a_t (passA n A) = a_t A + n
  | 0, _ => ⟨h, rfl⟩
  | n + 1, hn => by
    have ih := Inv.pass h n (by omega)
    exact ⟨ih.1.tick (by rw [ih.2]; omega), by rw [show a_t (passA (n + 1) A) = a_t (passA n A) + 1 from (fix_lt _).2.2.1, ih.2]; omega⟩
