abbrev rmX8_thrown : Room := { frames := 0, cells := 0, slots := 0, locals := 0 }
set_option maxHeartbeats 4000000 in
set_option maxRecDepth 100000 in
theorem mX8_thrown (l : Launch) (D : va_G) (cA : Nat → ClassId) (base sz : Nat) (μ : MM) {q : Nat} (hq : kc q = 8) {r : Int32} (hm : X8_thrown q μ = r) : Met l yX8_thrown wsX8_thrown rmX8_thrown (va_Pc [.ref (base + q)] (tPre D cA base sz μ)) (va_Qi (fun (x : Int32) (_ : Unit) => x = r) (fun _ => tPost D cA base μ) (tA base sz)) 0 0 (tA base sz) := by
  refine Met.ofW (cc := cX8_thrown) (maxL := 1) (ret := (some .int)) (by decide +kernel) rfl ?_
  intro p e s m args below meth c s₁ B hml hv
  obtain ⟨rfl, hsz, hP, hK, hN⟩ := hv
  have hx := B.exec
  have hb := B.bytes
  have hr := B.returns
  have hts := atoms_spec (ws := wsX8_thrown) B.pre
  have hown : s.vm.findClass RX8 = some m.cls := findClass_of_methodNamed B.named
  have hlocks := B.notSynchronized
  have hin8 : ∀ w ∈ wsX80, w ∈ wsX8_thrown := by decide +kernel
  subst hsz
  have hS : va_S (tA base s.heap.size) s.heap s.heap [] := va_S.rf
  have hz : s.heap.size ≤ s.heap.size := Nat.le_refl _
  have hl := lv_entry ([.ref (base + q)]) (n := 1) (Nat.le_of_ble_eq_true rfl)
  rw [lg_entry_eq]
  generalize (lg_sl ([.ref (base + q)]) ++ List.replicate (1 - (lg_sl ([.ref (base + q)])).length) Slot.unset).toArray = ls at hl ⊢
  have hl : lv_has ls 1 [(0, .ref (base + q))] := hl
  unfold X8_thrown at hm
  refine lv_aload_n hx hb dX8_thrown_0 rfl (lv_at hl 0 rfl) ?_
  refine t_geti (C := RX8) (T := TX8) (N := 3) hx hb hts hin8 hown hK hP hq rfl rfl 0 (by decide) (fk8_0 hq) (hts _ (List.mem_of_getElem? (i := 1) rfl)) dX8_thrown_1 ?_
  cases hm
  exact W.iret hx hb hr (fun t ht hW => ⟨⟨_, (), rfl, rfl, tPost_of hP ht⟩, hS.F ht⟩) hS.2.2 dX8_thrown_4
abbrev rmX8_no : Room := { frames := 0, cells := 0, slots := 0, locals := 0 }
set_option maxHeartbeats 4000000 in
set_option maxRecDepth 100000 in
theorem mX8_no (l : Launch) (D : va_G) (cA : Nat → ClassId) (base sz : Nat) (μ : MM) {q : Nat} (hq : kc q = 8) (a1 : Int32) {r : Int32} {μ' : MM} (hm : X8_no q a1 μ = (r, μ')) : Met l yX8_no wsX8_no rmX8_no (va_Pc [.ref (base + q), .int a1] (tPre D cA base sz μ)) (va_Qi (fun (x : Int32) (_ : Unit) => x = r) (fun _ => tPost D cA base μ') (tA base sz)) 0 0 (tA base sz) := by
  refine Met.ofW (cc := cX8_no) (maxL := 2) (ret := (some .int)) (by decide +kernel) rfl ?_
  intro p e s m args below meth c s₁ B hml hv
  obtain ⟨rfl, hsz, hP, hK, hN⟩ := hv
  have hx := B.exec
  have hb := B.bytes
  have hr := B.returns
  have hts := atoms_spec (ws := wsX8_no) B.pre
  have hown : s.vm.findClass RX8 = some m.cls := findClass_of_methodNamed B.named
  have hlocks := B.notSynchronized
  have hin8 : ∀ w ∈ wsX80, w ∈ wsX8_no := by decide +kernel
  subst hsz
  have hS : va_S (tA base s.heap.size) s.heap s.heap [] := va_S.rf
  have hz : s.heap.size ≤ s.heap.size := Nat.le_refl _
  have hl := lv_entry ([.ref (base + q), .int a1]) (n := 2) (Nat.le_of_ble_eq_true rfl)
  rw [lg_entry_eq]
  generalize (lg_sl ([.ref (base + q), .int a1]) ++ List.replicate (2 - (lg_sl ([.ref (base + q), .int a1])).length) Slot.unset).toArray = ls at hl ⊢
  have hl : lv_has ls 2 [(0, .ref (base + q)), (1, .int a1)] := hl
  unfold X8_no at hm
  refine lv_aload_n hx hb dX8_no_0 rfl (lv_at hl 0 rfl) ?_
  refine lv_iload_n hx hb dX8_no_1 rfl (lv_at hl 1 rfl) ?_
  refine t_put (C := RX8) (T := TX8) (N := 3) hx hb hts hin8 tyX8 tyX8_ok nmX8 hown hK hP (tD _ _ _ _) hS hq rfl rfl 0 (by decide) (fk8_0 hq) (hts _ (List.mem_of_getElem? (i := 1) rfl)) rfl (by decide +kernel) dX8_no_2 (fun H locs hP hS => ?_)
  obtain ⟨μ1, eμ1⟩ : ∃ z : MM, z = wI μ q 0 a1 := ⟨_, rfl⟩
  rw [← eμ1] at hP
  replace hm := bV_of hm eμ1
  refine lv_iconst (v := (0 : Int32)) hx hb dX8_no_5 (by decide) ?_
  cases hm
  exact W.iret hx hb hr (fun t ht hW => ⟨⟨_, (), rfl, rfl, tPost_of hP ht⟩, hS.F ht⟩) hS.2.2 dX8_no_6
abbrev rmX8_isIn : Room := { frames := 0, cells := 0, slots := 0, locals := 0 }
set_option maxHeartbeats 4000000 in
set_option maxRecDepth 100000 in
theorem mX8_isIn (l : Launch) (D : va_G) (cA : Nat → ClassId) (base sz : Nat) (μ : MM) (a1 : Int32) (a2 : Int32) (a3 : Int32) {r : Int32} (hm : X8_isIn a1 a2 a3 = r) : Met l yX8_isIn wsX8_isIn rmX8_isIn (va_Pc [.int a1, .int a2, .int a3] (tPre D cA base sz μ)) (va_Qi (fun (x : Int32) (_ : Unit) => x = r) (fun _ => tPost D cA base μ) (tA base sz)) 0 0 (tA base sz) := by
  refine Met.ofW (cc := cX8_isIn) (maxL := 3) (ret := (some .boolean)) (by decide +kernel) rfl ?_
  intro p e s m args below meth c s₁ B hml hv
  obtain ⟨rfl, hsz, hP, hK, hN⟩ := hv
  have hx := B.exec
  have hb := B.bytes
  have hr := B.returns
  have hts := atoms_spec (ws := wsX8_isIn) B.pre
  have hown : s.vm.findClass RX8 = some m.cls := findClass_of_methodNamed B.named
  have hlocks := B.notSynchronized
  subst hsz
  have hS : va_S (tA base s.heap.size) s.heap s.heap [] := va_S.rf
  have hz : s.heap.size ≤ s.heap.size := Nat.le_refl _
  have hl := lv_entry ([.int a1, .int a2, .int a3]) (n := 3) (Nat.le_of_ble_eq_true rfl)
  rw [lg_entry_eq]
  generalize (lg_sl ([.int a1, .int a2, .int a3]) ++ List.replicate (3 - (lg_sl ([.int a1, .int a2, .int a3])).length) Slot.unset).toArray = ls at hl ⊢
  have hl : lv_has ls 3 [(0, .int a1), (1, .int a2), (2, .int a3)] := hl
  unfold X8_isIn at hm
  refine lv_iload_n hx hb dX8_isIn_0 rfl (lv_at hl 0 rfl) ?_
  refine lv_iload_n hx hb dX8_isIn_1 rfl (lv_at hl 1 rfl) ?_
  refine lv_icmp_lt (tgt := 14) hx hb dX8_isIn_2 (by decide) (fun c1 => ?_) (fun c1 => ?_)
  · rw [if_pos c1] at hm
    refine lv_iconst (v := (0 : Int32)) hx hb dX8_isIn_14 (by decide) ?_
    cases hm
    exact W.zret hx hb hr rfl (fun t ht hW => ⟨⟨_, (), rfl, rfl, tPost_of hP ht⟩, hS.F ht⟩) hS.2.2 dX8_isIn_15
  · rw [if_neg c1] at hm
    refine lv_iload_n hx hb dX8_isIn_5 rfl (lv_at hl 0 rfl) ?_
    refine lv_iload_n hx hb dX8_isIn_6 rfl (lv_at hl 2 rfl) ?_
    refine lv_icmp_gt (tgt := 14) hx hb dX8_isIn_7 (by decide) (fun c2 => ?_) (fun c2 => ?_)
    · rw [if_pos c2] at hm
      refine lv_iconst (v := (0 : Int32)) hx hb dX8_isIn_14 (by decide) ?_
      cases hm
      exact W.zret hx hb hr rfl (fun t ht hW => ⟨⟨_, (), rfl, rfl, tPost_of hP ht⟩, hS.F ht⟩) hS.2.2 dX8_isIn_15
    · rw [if_neg c2] at hm
      refine lv_iconst (v := (1 : Int32)) hx hb dX8_isIn_10 (by decide) ?_
      refine lv_goto (tgt := 15) hx hb dX8_isIn_11 (by decide) ?_
      cases hm
      exact W.zret hx hb hr rfl (fun t ht hW => ⟨⟨_, (), rfl, rfl, tPost_of hP ht⟩, hS.F ht⟩) hS.2.2 dX8_isIn_15
abbrev rmX8_isBooth : Room := { frames := 1, cells := 0, slots := 0, locals := 22 }
set_option maxHeartbeats 4000000 in
set_option maxRecDepth 100000 in
theorem mX8_isBooth (l : Launch) (D : va_G) (cA : Nat → ClassId) (base sz : Nat) (μ : MM) {q : Nat} (hq : kc q = 8) (a1 : Int32) {r : Int32} (hm : X8_isBooth q a1 μ = r) : Met l yX8_isBooth wsX8_isBooth rmX8_isBooth (va_Pc [.ref (base + q), .int a1] (tPre D cA base sz μ)) (va_Qi (fun (x : Int32) (_ : Unit) => x = r) (fun _ => tPost D cA base μ) (tA base sz)) 0 0 (tA base sz) := by
  refine Met.ofW (cc := cX8_isBooth) (maxL := 2) (ret := (some .boolean)) (by decide +kernel) rfl ?_
  intro p e s m args below meth c s₁ B hml hv
  obtain ⟨rfl, hsz, hP, hK, hN⟩ := hv
  have hx := B.exec
  have hb := B.bytes
  have hr := B.returns
  have hts := atoms_spec (ws := wsX8_isBooth) B.pre
  have hown : s.vm.findClass RX8 = some m.cls := findClass_of_methodNamed B.named
  have hlocks := B.notSynchronized
  have hin7 : ∀ w ∈ wsX70, w ∈ wsX8_isBooth := by decide +kernel
  have hin8 : ∀ w ∈ wsX80, w ∈ wsX8_isBooth := by decide +kernel
  subst hsz
  have hS : va_S (tA base s.heap.size) s.heap s.heap [] := va_S.rf
  have hz : s.heap.size ≤ s.heap.size := Nat.le_refl _
  have hl := lv_entry ([.ref (base + q), .int a1]) (n := 2) (Nat.le_of_ble_eq_true rfl)
  rw [lg_entry_eq]
  generalize (lg_sl ([.ref (base + q), .int a1]) ++ List.replicate (2 - (lg_sl ([.ref (base + q), .int a1])).length) Slot.unset).toArray = ls at hl ⊢
  have hl : lv_has ls 2 [(0, .ref (base + q)), (1, .int a1)] := hl
  unfold X8_isBooth at hm
  refine lv_iload_n hx hb dX8_isBooth_0 rfl (lv_at hl 1 rfl) ?_
  refine lv_iconst (v := (0 : Int32)) hx hb dX8_isBooth_1 (by decide) ?_
  refine lv_aload_n hx hb dX8_isBooth_2 rfl (lv_at hl 0 rfl) ?_
  refine t_getr (C := RX8) (T := TX8) (N := 3) hx hb hts hin8 hown hK hP hq rfl rfl 1 (by decide) (fr8_1 hq) (hts _ (List.mem_of_getElem? (i := 1) rfl)) dX8_isBooth_3 ?_
  refine t_getiN (C := RX7) (T := TX7) (N := 26) hx hb hts hin7 hown hK hP (kr8_1 hq) rfl rfl 11 (by decide) (fk7_11 (kr8_1 hq)) hN (i := 0) rfl dX8_isBooth_6 ?_
  refine lv_iconst (v := (1 : Int32)) hx hb dX8_isBooth_9 (by decide) ?_
  refine lv_isub hx hb dX8_isBooth_10 ?_
  refine t_cSi (As := [.int a1, .int (0 : Int32), .int ((rI μ (RF q 1) 11) - (1 : Int32))]) (rest := []) (μ' := μ) (r := (X8_isIn a1 (0 : Int32) ((rI μ (RF q 1) 11) - (1 : Int32)))) ⟨hx, hb, hml, hown, hts⟩ (mX8_isIn l D cA base s.heap.size μ a1 (0 : Int32) ((rI μ (RF q 1) 11) - (1 : Int32)) rfl) (va_cwS 3 hts gX8_isBooth_X8_isIn rfl rfl rfl (by decide +kernel) ⟨Nat.le_of_ble_eq_true rfl, Nat.le_of_ble_eq_true rfl⟩) hK hN hP hS hz rfl hl.1 (Nat.le_of_ble_eq_true rfl) dX8_isBooth_11 ⟨Nat.le_of_ble_eq_true rfl, Nat.le_of_ble_eq_true rfl⟩ rfl (fun H locs hP hS => ?_)
  cases hm
  exact W.zret hx hb hr (nar_b (X8_isIn_b _ _ _)) (fun t ht hW => ⟨⟨_, (), rfl, rfl, tPost_of hP ht⟩, hS.F ht⟩) hS.2.2 dX8_isBooth_14
abbrev rmX8_isInterpreter : Room := { frames := 1, cells := 0, slots := 0, locals := 22 }
set_option maxHeartbeats 4000000 in
set_option maxRecDepth 100000 in
theorem mX8_isInterpreter (l : Launch) (D : va_G) (cA : Nat → ClassId) (base sz : Nat) (μ : MM) {q : Nat} (hq : kc q = 8) (a1 : Int32) {r : Int32} (hm : X8_isInterpreter q a1 μ = r) : Met l yX8_isInterpreter wsX8_isInterpreter rmX8_isInterpreter (va_Pc [.ref (base + q), .int a1] (tPre D cA base sz μ)) (va_Qi (fun (x : Int32) (_ : Unit) => x = r) (fun _ => tPost D cA base μ) (tA base sz)) 0 0 (tA base sz) := by
  refine Met.ofW (cc := cX8_isInterpreter) (maxL := 2) (ret := (some .boolean)) (by decide +kernel) rfl ?_
  intro p e s m args below meth c s₁ B hml hv
  obtain ⟨rfl, hsz, hP, hK, hN⟩ := hv
  have hx := B.exec
  have hb := B.bytes
  have hr := B.returns
  have hts := atoms_spec (ws := wsX8_isInterpreter) B.pre
  have hown : s.vm.findClass RX8 = some m.cls := findClass_of_methodNamed B.named
  have hlocks := B.notSynchronized
  have hin7 : ∀ w ∈ wsX70, w ∈ wsX8_isInterpreter := by decide +kernel
  have hin8 : ∀ w ∈ wsX80, w ∈ wsX8_isInterpreter := by decide +kernel
  subst hsz
  have hS : va_S (tA base s.heap.size) s.heap s.heap [] := va_S.rf
  have hz : s.heap.size ≤ s.heap.size := Nat.le_refl _
  have hl := lv_entry ([.ref (base + q), .int a1]) (n := 2) (Nat.le_of_ble_eq_true rfl)
  rw [lg_entry_eq]
  generalize (lg_sl ([.ref (base + q), .int a1]) ++ List.replicate (2 - (lg_sl ([.ref (base + q), .int a1])).length) Slot.unset).toArray = ls at hl ⊢
  have hl : lv_has ls 2 [(0, .ref (base + q)), (1, .int a1)] := hl
  unfold X8_isInterpreter at hm
  refine lv_iload_n hx hb dX8_isInterpreter_0 rfl (lv_at hl 1 rfl) ?_
  refine lv_iconst (v := (0 : Int32)) hx hb dX8_isInterpreter_1 (by decide) ?_
  refine lv_aload_n hx hb dX8_isInterpreter_2 rfl (lv_at hl 0 rfl) ?_
  refine t_getr (C := RX8) (T := TX8) (N := 3) hx hb hts hin8 hown hK hP hq rfl rfl 1 (by decide) (fr8_1 hq) (hts _ (List.mem_of_getElem? (i := 1) rfl)) dX8_isInterpreter_3 ?_
  refine t_getiN (C := RX7) (T := TX7) (N := 26) hx hb hts hin7 hown hK hP (kr8_1 hq) rfl rfl 4 (by decide) (fk7_4 (kr8_1 hq)) hN (i := 1) rfl dX8_isInterpreter_6 ?_
  refine lv_iconst (v := (1 : Int32)) hx hb dX8_isInterpreter_9 (by decide) ?_
  refine lv_isub hx hb dX8_isInterpreter_10 ?_
  refine t_cSi (As := [.int a1, .int (0 : Int32), .int ((rI μ (RF q 1) 4) - (1 : Int32))]) (rest := []) (μ' := μ) (r := (X8_isIn a1 (0 : Int32) ((rI μ (RF q 1) 4) - (1 : Int32)))) ⟨hx, hb, hml, hown, hts⟩ (mX8_isIn l D cA base s.heap.size μ a1 (0 : Int32) ((rI μ (RF q 1) 4) - (1 : Int32)) rfl) (va_cwS 3 hts gX8_isInterpreter_X8_isIn rfl rfl rfl (by decide +kernel) ⟨Nat.le_of_ble_eq_true rfl, Nat.le_of_ble_eq_true rfl⟩) hK hN hP hS hz rfl hl.1 (Nat.le_of_ble_eq_true rfl) dX8_isInterpreter_11 ⟨Nat.le_of_ble_eq_true rfl, Nat.le_of_ble_eq_true rfl⟩ rfl (fun H locs hP hS => ?_)
  cases hm
  exact W.zret hx hb hr (nar_b (X8_isIn_b _ _ _)) (fun t ht hW => ⟨⟨_, (), rfl, rfl, tPost_of hP ht⟩, hS.F ht⟩) hS.2.2 dX8_isInterpreter_14
abbrev rmX8_setFloor : Room := { frames := 1, cells := 0, slots := 0, locals := 22 }
set_option maxHeartbeats 4000000 in
set_option maxRecDepth 100000 in
theorem mX8_setFloor (l : Launch) (D : va_G) (cA : Nat → ClassId) (base sz : Nat) (μ : MM) {q : Nat} (hq : kc q = 8) (a1 : Int32) {r : Int32} {μ' : MM} (hm : X8_setFloor q a1 μ = (r, μ')) : Met l yX8_setFloor wsX8_setFloor rmX8_setFloor (va_Pc [.ref (base + q), .int a1] (tPre D cA base sz μ)) (va_Qi (fun (x : Int32) (_ : Unit) => x = r) (fun _ => tPost D cA base μ') (tA base sz)) 0 0 (tA base sz) := by
  refine Met.ofW (cc := cX8_setFloor) (maxL := 3) (ret := (some .int)) (by decide +kernel) rfl ?_
  intro p e s m args below meth c s₁ B hml hv
  obtain ⟨rfl, hsz, hP, hK, hN⟩ := hv
  have hx := B.exec
  have hb := B.bytes
  have hr := B.returns
  have hts := atoms_spec (ws := wsX8_setFloor) B.pre
  have hown : s.vm.findClass RX8 = some m.cls := findClass_of_methodNamed B.named
  have hlocks := B.notSynchronized
  have hin7 : ∀ w ∈ wsX70, w ∈ wsX8_setFloor := by decide +kernel
  have hin8 : ∀ w ∈ wsX80, w ∈ wsX8_setFloor := by decide +kernel
  subst hsz
  have hS : va_S (tA base s.heap.size) s.heap s.heap [] := va_S.rf
  have hz : s.heap.size ≤ s.heap.size := Nat.le_refl _
  have hl := lv_entry ([.ref (base + q), .int a1]) (n := 3) (Nat.le_of_ble_eq_true rfl)
  rw [lg_entry_eq]
  generalize (lg_sl ([.ref (base + q), .int a1]) ++ List.replicate (3 - (lg_sl ([.ref (base + q), .int a1])).length) Slot.unset).toArray = ls at hl ⊢
  have hl : lv_has ls 3 [(0, .ref (base + q)), (1, .int a1)] := hl
  unfold X8_setFloor at hm
  refine lv_aload_n hx hb dX8_setFloor_0 rfl (lv_at hl 0 rfl) ?_
  refine lv_iconst (v := (0 : Int32)) hx hb dX8_setFloor_1 (by decide) ?_
  refine t_put (C := RX8) (T := TX8) (N := 3) hx hb hts hin8 tyX8 tyX8_ok nmX8 hown hK hP (tD _ _ _ _) hS hq rfl rfl 0 (by decide) (fk8_0 hq) (hts _ (List.mem_of_getElem? (i := 1) rfl)) rfl (by decide +kernel) dX8_setFloor_2 (fun H locs hP hS => ?_)
  obtain ⟨μ1, eμ1⟩ : ∃ z : MM, z = wI μ q 0 (0 : Int32) := ⟨_, rfl⟩
  rw [← eμ1] at hP
  replace hm := bV_of hm eμ1
  refine lv_iload_n hx hb dX8_setFloor_5 rfl (lv_at hl 1 rfl) ?_
  refine lv_iconst (v := (0 : Int32)) hx hb dX8_setFloor_6 (by decide) ?_
  refine lv_bipush (v := (7 : Int32)) hx hb dX8_setFloor_7 (by decide) ?_
  refine t_cSi (As := [.int a1, .int (0 : Int32), .int (7 : Int32)]) (rest := []) (μ' := μ1) (r := (X8_isIn a1 (0 : Int32) (7 : Int32))) ⟨hx, hb, hml, hown, hts⟩ (mX8_isIn l D cA base H.size μ1 a1 (0 : Int32) (7 : Int32) rfl) (va_cwS 3 hts gX8_setFloor_X8_isIn rfl rfl rfl (by decide +kernel) ⟨Nat.le_of_ble_eq_true rfl, Nat.le_of_ble_eq_true rfl⟩) hK hN hP hS hz rfl hl.1 (Nat.le_of_ble_eq_true rfl) dX8_setFloor_9 ⟨Nat.le_of_ble_eq_true rfl, Nat.le_of_ble_eq_true rfl⟩ rfl (fun H locs hP hS => ?_)
  refine lv_if_ne (tgt := 21) hx hb dX8_setFloor_12 (by decide) (fun c4 => ?_) (fun c4 => ?_)
  · rw [if_neg c4] at hm
    refine lv_aload_n hx hb dX8_setFloor_21 rfl (lv_at hl 0 rfl) ?_
    refine t_getr (C := RX8) (T := TX8) (N := 3) hx hb hts hin8 hown hK hP hq rfl rfl 1 (by decide) (fr8_1 hq) (hts _ (List.mem_of_getElem? (i := 2) rfl)) dX8_setFloor_22 ?_
    refine t_getiN (C := RX7) (T := TX7) (N := 26) hx hb hts hin7 hown hK hP (kr8_1 hq) rfl rfl 1 (by decide) (fk7_1 (kr8_1 hq)) hN (i := 2) rfl dX8_setFloor_25 ?_
    refine lv_topi (fun x5 ex5 => ?_)
    replace hm := bV_of hm ex5
    refine lv_istore_n (lv' := [(2, .int x5), (0, .ref (base + q)), (1, .int a1)]) hx hb dX8_setFloor_28 rfl hl (by decide) rfl (fun ls hl => ?_)
    refine lv_aload_n hx hb dX8_setFloor_29 rfl (lv_at hl 1 rfl) ?_
    refine t_getr (C := RX8) (T := TX8) (N := 3) hx hb hts hin8 hown hK hP hq rfl rfl 1 (by decide) (fr8_1 hq) (hts _ (List.mem_of_getElem? (i := 2) rfl)) dX8_setFloor_30 ?_
    refine lv_iload_n hx hb dX8_setFloor_33 rfl (lv_at hl 2 rfl) ?_
    refine t_putN (C := RX7) (T := TX7) (N := 26) hx hb hts hin7 tyX7 tyX7_ok nmX7 hown hK hP (tD _ _ _ _) hS (kr8_1 hq) rfl rfl 1 (by decide) (fk7_1 (kr8_1 hq)) hN (i := 2) rfl rfl (by decide +kernel) dX8_setFloor_34 (fun H locs hP hS => ?_)
    obtain ⟨μ6, eμ6⟩ : ∃ z : MM, z = wI μ1 (RF q 1) 1 a1 := ⟨_, rfl⟩
    rw [← eμ6] at hP
    replace hm := bV_of hm eμ6
    refine lv_iload_n hx hb dX8_setFloor_37 rfl (lv_at hl 0 rfl) ?_
    cases hm
    exact W.iret hx hb hr (fun t ht hW => ⟨⟨_, (), rfl, rfl, tPost_of hP ht⟩, hS.F ht⟩) hS.2.2 dX8_setFloor_38
  · rw [if_pos c4] at hm
    refine lv_aload_n hx hb dX8_setFloor_15 rfl (lv_at hl 0 rfl) ?_
    refine lv_iconst (v := (1 : Int32)) hx hb dX8_setFloor_16 (by decide) ?_
    obtain ⟨⟨r7, μ8⟩, hc9⟩ : ∃ z, X8_no q (1 : Int32) μ1 = z := ⟨_, rfl⟩
    replace hm := bP_of hm hc9
    refine t_cVi (As := [.int (1 : Int32)]) (rest := []) (μ' := μ8) (r := r7) ⟨hx, hb, hml, hown, hts⟩ (mX8_no l D cA base H.size μ1 hq (1 : Int32) hc9) (cwV 1 hts gX8_setFloor_X8_no rfl rfl rfl (by decide +kernel) ⟨Nat.le_of_ble_eq_true rfl, Nat.le_of_ble_eq_true rfl⟩) (va_recv hK hP (q0 := q) rfl (tw_obj hq (by decide))) hK hN hP hS hz rfl hl.1 (Nat.le_of_ble_eq_true rfl) dX8_setFloor_17 ⟨Nat.le_of_ble_eq_true rfl, Nat.le_of_ble_eq_true rfl⟩ rfl (fun H locs hP hS => ?_)
    cases hm
    exact W.iret hx hb hr (fun t ht hW => ⟨⟨_, (), rfl, rfl, tPost_of hP ht⟩, hS.F ht⟩) hS.2.2 dX8_setFloor_20
abbrev rmX8_speak : Room := { frames := 1, cells := 0, slots := 0, locals := 22 }
set_option maxHeartbeats 4000000 in
set_option maxRecDepth 100000 in
theorem lX8_speak_L68 {p : Program} {l : Launch} {e : Env} {s : State} {m : MethodId} {args : Array Value} {below : List Frame} {meth : Method} {c : Code} {Q : State → Prop} {D : va_G} {cA : Nat → ClassId} {base sz0 : Nat} {H0 : Heap} (FX : CallFix p m c cX8_speak 6 s args wsX8_speak RX8) (hK : va_K D vwCl (tys cA) s) (hN : tN s) (hz : sz0 ≤ H0.size) {o0 : Nat} (ho0 : kc o0 = 8) (b2 : Int32) (b3 : Int32) {cells slots : Nat} (hcs : cells ≤ 0 ∧ slots ≤ 0) :
    ∀ (n : Nat) (v4 : Int32) (v5 : Int32) (μ : MM) (H : Heap) (locs : List Loc) (ls : Array Slot) (μ' : MM), X8_speak_L68 o0 b2 b3 n v4 v5 μ = some μ' → va_P D vwCl (tw base cA μ []) H → va_S (tA base sz0) H0 H locs → lv_has ls 6 [(0, .ref (base + o0)), (2, .int b2), (3, .int b3), (4, .int v4), (5, .int v5)] → (∀ (H : Heap) (locs : List Loc) (ls : Array Slot), va_P D vwCl (tw base cA μ' []) H → va_S (tA base sz0) H0 H locs → lv_has ls 6 [(0, .ref (base + o0))] → W p l e rmX8_speak s m args below meth c H locs cells slots Q (F0 m 122 ls [])) → W p l e rmX8_speak s m args below meth c H locs cells slots Q (F0 m 68 ls []) := by
  obtain ⟨hx, hb, hml, hown, hts⟩ := FX
  have hin7 : ∀ w ∈ wsX70, w ∈ wsX8_speak := by decide +kernel
  have hin8 : ∀ w ∈ wsX80, w ∈ wsX8_speak := by decide +kernel
  intro n
  induction n with
  | zero =>
    intro v4 v5 μ H locs ls μ' hm
    cases hm
  | succ n ih =>
    intro v4 v5 μ H locs ls μ' hm hP hS hl K
    rw [X8_speak_L68_s] at hm
    refine lv_iload hx hb dX8_speak_68 (lv_at hl 4 rfl) ?_
    refine lv_iload_n hx hb dX8_speak_70 rfl (lv_at hl 2 rfl) ?_
    refine lv_icmp_ge (tgt := 122) hx hb dX8_speak_71 (by decide) (fun c18 => ?_) (fun c18 => ?_)
    · rw [if_pos c18] at hm
      cases hm
      exact K _ _ _ hP hS (lv_sub hl [0] rfl)
    · rw [if_neg c18] at hm
      refine lv_aload_n hx hb dX8_speak_74 rfl (lv_at hl 0 rfl) ?_
      refine t_getr (C := RX8) (T := TX8) (N := 3) hx hb hts hin8 hown hK hP ho0 rfl rfl 1 (by decide) (fr8_1 ho0) (hts _ (List.mem_of_getElem? (i := 2) rfl)) dX8_speak_75 ?_
      refine t_getrN (C := RX7) (T := TX7) (N := 26) hx hb hts hin7 hown hK hP (kr8_1 ho0) rfl rfl 2 (by decide) (fr7_2 (kr8_1 ho0)) hN (i := 4) rfl dX8_speak_78 ?_
      refine lv_aload_n hx hb dX8_speak_81 rfl (lv_at hl 0 rfl) ?_
      refine t_getr (C := RX8) (T := TX8) (N := 3) hx hb hts hin8 hown hK hP ho0 rfl rfl 1 (by decide) (fr8_1 ho0) (hts _ (List.mem_of_getElem? (i := 2) rfl)) dX8_speak_82 ?_
      refine t_getiN (C := RX7) (T := TX7) (N := 26) hx hb hts hin7 hown hK hP (kr8_1 ho0) rfl rfl 3 (by decide) (fk7_3 (kr8_1 ho0)) hN (i := 3) rfl dX8_speak_85 ?_
      refine lv_iload hx hb dX8_speak_88 (lv_at hl 3 rfl) ?_
      obtain ⟨hg19, hm⟩ := gd_inv hm
      refine t_iast hx hb hK hP (tD _ _ _ _) hS (kr7_2 (kr8_1 ho0)) hg19 dX8_speak_90 (fun H locs hP hS => ?_)
      obtain ⟨μ20, eμ20⟩ : ∃ z : MM, z = wI μ (RF (RF o0 1) 2) (rI μ (RF o0 1) 3).toNatClampNeg v4 := ⟨_, rfl⟩
      rw [← eμ20] at hP
      replace hm := bV_of hm eμ20
      refine lv_aload_n hx hb dX8_speak_91 rfl (lv_at hl 0 rfl) ?_
      refine t_getr (C := RX8) (T := TX8) (N := 3) hx hb hts hin8 hown hK hP ho0 rfl rfl 1 (by decide) (fr8_1 ho0) (hts _ (List.mem_of_getElem? (i := 2) rfl)) dX8_speak_92 ?_
      refine lv_dup hx hb dX8_speak_95 rfl ?_
      refine t_getiN (C := RX7) (T := TX7) (N := 26) hx hb hts hin7 hown hK hP (kr8_1 ho0) rfl rfl 3 (by decide) (fk7_3 (kr8_1 ho0)) hN (i := 3) rfl dX8_speak_96 ?_
      refine lv_iconst (v := (1 : Int32)) hx hb dX8_speak_99 (by decide) ?_
      refine lv_iadd hx hb dX8_speak_100 ?_
      refine t_putN (C := RX7) (T := TX7) (N := 26) hx hb hts hin7 tyX7 tyX7_ok nmX7 hown hK hP (tD _ _ _ _) hS (kr8_1 ho0) rfl rfl 3 (by decide) (fk7_3 (kr8_1 ho0)) hN (i := 3) rfl rfl (by decide +kernel) dX8_speak_101 (fun H locs hP hS => ?_)
      obtain ⟨μ21, eμ21⟩ : ∃ z : MM, z = wI μ20 (RF o0 1) 3 ((rI μ20 (RF o0 1) 3) + (1 : Int32)) := ⟨_, rfl⟩
      rw [← eμ21] at hP
      replace hm := bV_of hm eμ21
      refine lv_iload hx hb dX8_speak_104 (lv_at hl 3 rfl) ?_
      refine lv_iload_n hx hb dX8_speak_106 rfl (lv_at hl 1 rfl) ?_
      refine lv_iadd hx hb dX8_speak_107 ?_
      refine lv_bipush (v := (100 : Int32)) hx hb dX8_speak_108 (by decide) ?_
      refine lv_iadd hx hb dX8_speak_110 ?_
      refine lv_bipush (v := (100 : Int32)) hx hb dX8_speak_111 (by decide) ?_
      refine lv_irem hx hb dX8_speak_113 (by decide) ?_
      refine lv_topi (fun x22 ex22 => ?_)
      replace hm := bV_of hm ex22
      refine lv_istore (lv' := [(4, .int x22), (0, .ref (base + o0)), (2, .int b2), (3, .int b3), (5, .int v5)]) hx hb dX8_speak_114 hl (by decide) rfl (fun ls hl => ?_)
      obtain ⟨x23, ex23⟩ : ∃ z : Int32, z = v5 + (1 : Int32) := ⟨_, rfl⟩
      replace hm := bV_of hm ex23
      refine lv_iinc (v := x23) (lv' := [(5, .int x23), (4, .int x22), (0, .ref (base + o0)), (2, .int b2), (3, .int b3)]) hx hb dX8_speak_116 hl (k := 4) rfl (by rw [ex23]; rfl) (by decide) rfl (fun ls hl => ?_)
      refine lv_goto (tgt := 68) hx hb dX8_speak_119 (by decide) ?_
      exact ih x22 x23 μ21 _ _ _ μ' hm hP hS (lv_sub hl [2, 3, 4, 1, 0] rfl) K
set_option maxHeartbeats 4000000 in
set_option maxRecDepth 100000 in
theorem mX8_speak (l : Launch) (D : va_G) (cA : Nat → ClassId) (base sz : Nat) (μ : MM) {q : Nat} (hq : kc q = 8) (a1 : Int32) (a2 : Int32) (a3 : Int32) {r : Int32} {μ' : MM} (hm : X8_speak q a1 a2 a3 μ = some (r, μ')) : Met l yX8_speak wsX8_speak rmX8_speak (va_Pc [.ref (base + q), .int a1, .int a2, .int a3] (tPre D cA base sz μ)) (va_Qi (fun (x : Int32) (_ : Unit) => x = r) (fun _ => tPost D cA base μ') (tA base sz)) 0 0 (tA base sz) := by
  refine Met.ofW (cc := cX8_speak) (maxL := 6) (ret := (some .int)) (by decide +kernel) rfl ?_
  intro p e s m args below meth c s₁ B hml hv
  obtain ⟨rfl, hsz, hP, hK, hN⟩ := hv
  have hx := B.exec
  have hb := B.bytes
  have hr := B.returns
  have hts := atoms_spec (ws := wsX8_speak) B.pre
  have hown : s.vm.findClass RX8 = some m.cls := findClass_of_methodNamed B.named
  have hlocks := B.notSynchronized
  have hin7 : ∀ w ∈ wsX70, w ∈ wsX8_speak := by decide +kernel
  have hin8 : ∀ w ∈ wsX80, w ∈ wsX8_speak := by decide +kernel
  subst hsz
  have hS : va_S (tA base s.heap.size) s.heap s.heap [] := va_S.rf
  have hz : s.heap.size ≤ s.heap.size := Nat.le_refl _
  have hl := lv_entry ([.ref (base + q), .int a1, .int a2, .int a3]) (n := 6) (Nat.le_of_ble_eq_true rfl)
  rw [lg_entry_eq]
  generalize (lg_sl ([.ref (base + q), .int a1, .int a2, .int a3]) ++ List.replicate (6 - (lg_sl ([.ref (base + q), .int a1, .int a2, .int a3])).length) Slot.unset).toArray = ls at hl ⊢
  have hl : lv_has ls 6 [(0, .ref (base + q)), (1, .int a1), (2, .int a2), (3, .int a3)] := hl
  unfold X8_speak at hm
  refine lv_aload_n hx hb dX8_speak_0 rfl (lv_at hl 0 rfl) ?_
  refine lv_iconst (v := (0 : Int32)) hx hb dX8_speak_1 (by decide) ?_
  refine t_put (C := RX8) (T := TX8) (N := 3) hx hb hts hin8 tyX8 tyX8_ok nmX8 hown hK hP (tD _ _ _ _) hS hq rfl rfl 0 (by decide) (fk8_0 hq) (hts _ (List.mem_of_getElem? (i := 1) rfl)) rfl (by decide +kernel) dX8_speak_2 (fun H locs hP hS => ?_)
  obtain ⟨μ1, eμ1⟩ : ∃ z : MM, z = wI μ q 0 (0 : Int32) := ⟨_, rfl⟩
  rw [← eμ1] at hP
  replace hm := bV_of hm eμ1
  refine lv_iload_n hx hb dX8_speak_5 rfl (lv_at hl 1 rfl) ?_
  refine lv_iconst (v := (0 : Int32)) hx hb dX8_speak_6 (by decide) ?_
  refine lv_bipush (v := (99 : Int32)) hx hb dX8_speak_7 (by decide) ?_
  refine t_cSi (As := [.int a1, .int (0 : Int32), .int (99 : Int32)]) (rest := []) (μ' := μ1) (r := (X8_isIn a1 (0 : Int32) (99 : Int32))) ⟨hx, hb, hml, hown, hts⟩ (mX8_isIn l D cA base H.size μ1 a1 (0 : Int32) (99 : Int32) rfl) (va_cwS 3 hts gX8_speak_X8_isIn rfl rfl rfl (by decide +kernel) ⟨Nat.le_of_ble_eq_true rfl, Nat.le_of_ble_eq_true rfl⟩) hK hN hP hS hz rfl hl.1 (Nat.le_of_ble_eq_true rfl) dX8_speak_9 ⟨Nat.le_of_ble_eq_true rfl, Nat.le_of_ble_eq_true rfl⟩ rfl (fun H locs hP hS => ?_)
  refine lv_if_eq (tgt := 36) hx hb dX8_speak_12 (by decide) (fun c4 => ?_) (fun c4 => ?_)
  · rw [if_pos c4] at hm
    refine lv_aload_n hx hb dX8_speak_36 rfl (lv_at hl 0 rfl) ?_
    refine lv_iconst (v := (1 : Int32)) hx hb dX8_speak_37 (by decide) ?_
    obtain ⟨⟨r5, μ6⟩, hc7⟩ : ∃ z, X8_no q (1 : Int32) μ1 = z := ⟨_, rfl⟩
    replace hm := bP_of hm hc7
    refine t_cVi (As := [.int (1 : Int32)]) (rest := []) (μ' := μ6) (r := r5) ⟨hx, hb, hml, hown, hts⟩ (mX8_no l D cA base H.size μ1 hq (1 : Int32) hc7) (cwV 1 hts gX8_speak_X8_no rfl rfl rfl (by decide +kernel) ⟨Nat.le_of_ble_eq_true rfl, Nat.le_of_ble_eq_true rfl⟩) (va_recv hK hP (q0 := q) rfl (tw_obj hq (by decide))) hK hN hP hS hz rfl hl.1 (Nat.le_of_ble_eq_true rfl) dX8_speak_38 ⟨Nat.le_of_ble_eq_true rfl, Nat.le_of_ble_eq_true rfl⟩ rfl (fun H locs hP hS => ?_)
    cases hm
    exact W.iret hx hb hr (fun t ht hW => ⟨⟨_, (), rfl, rfl, tPost_of hP ht⟩, hS.F ht⟩) hS.2.2 dX8_speak_41
  · rw [if_neg c4] at hm
    refine lv_iload_n hx hb dX8_speak_15 rfl (lv_at hl 2 rfl) ?_
    refine lv_bipush (v := (-99 : Int32)) hx hb dX8_speak_16 (by decide) ?_
    refine lv_bipush (v := (99 : Int32)) hx hb dX8_speak_18 (by decide) ?_
    refine t_cSi (As := [.int a2, .int (-99 : Int32), .int (99 : Int32)]) (rest := []) (μ' := μ1) (r := (X8_isIn a2 (-99 : Int32) (99 : Int32))) ⟨hx, hb, hml, hown, hts⟩ (mX8_isIn l D cA base H.size μ1 a2 (-99 : Int32) (99 : Int32) rfl) (va_cwS 3 hts gX8_speak_X8_isIn rfl rfl rfl (by decide +kernel) ⟨Nat.le_of_ble_eq_true rfl, Nat.le_of_ble_eq_true rfl⟩) hK hN hP hS hz rfl hl.1 (Nat.le_of_ble_eq_true rfl) dX8_speak_20 ⟨Nat.le_of_ble_eq_true rfl, Nat.le_of_ble_eq_true rfl⟩ rfl (fun H locs hP hS => ?_)
    refine lv_if_eq (tgt := 36) hx hb dX8_speak_23 (by decide) (fun c10 => ?_) (fun c10 => ?_)
    · rw [if_pos c10] at hm
      refine lv_aload_n hx hb dX8_speak_36 rfl (lv_at hl 0 rfl) ?_
      refine lv_iconst (v := (1 : Int32)) hx hb dX8_speak_37 (by decide) ?_
      obtain ⟨⟨r11, μ12⟩, hc13⟩ : ∃ z, X8_no q (1 : Int32) μ1 = z := ⟨_, rfl⟩
      replace hm := bP_of hm hc13
      refine t_cVi (As := [.int (1 : Int32)]) (rest := []) (μ' := μ12) (r := r11) ⟨hx, hb, hml, hown, hts⟩ (mX8_no l D cA base H.size μ1 hq (1 : Int32) hc13) (cwV 1 hts gX8_speak_X8_no rfl rfl rfl (by decide +kernel) ⟨Nat.le_of_ble_eq_true rfl, Nat.le_of_ble_eq_true rfl⟩) (va_recv hK hP (q0 := q) rfl (tw_obj hq (by decide))) hK hN hP hS hz rfl hl.1 (Nat.le_of_ble_eq_true rfl) dX8_speak_38 ⟨Nat.le_of_ble_eq_true rfl, Nat.le_of_ble_eq_true rfl⟩ rfl (fun H locs hP hS => ?_)
      cases hm
      exact W.iret hx hb hr (fun t ht hW => ⟨⟨_, (), rfl, rfl, tPost_of hP ht⟩, hS.F ht⟩) hS.2.2 dX8_speak_41
    · rw [if_neg c10] at hm
      refine lv_iload_n hx hb dX8_speak_26 rfl (lv_at hl 3 rfl) ?_
      refine lv_iconst (v := (1 : Int32)) hx hb dX8_speak_27 (by decide) ?_
      refine lv_bipush (v := (40 : Int32)) hx hb dX8_speak_28 (by decide) ?_
      refine t_cSi (As := [.int a3, .int (1 : Int32), .int (40 : Int32)]) (rest := []) (μ' := μ1) (r := (X8_isIn a3 (1 : Int32) (40 : Int32))) ⟨hx, hb, hml, hown, hts⟩ (mX8_isIn l D cA base H.size μ1 a3 (1 : Int32) (40 : Int32) rfl) (va_cwS 3 hts gX8_speak_X8_isIn rfl rfl rfl (by decide +kernel) ⟨Nat.le_of_ble_eq_true rfl, Nat.le_of_ble_eq_true rfl⟩) hK hN hP hS hz rfl hl.1 (Nat.le_of_ble_eq_true rfl) dX8_speak_30 ⟨Nat.le_of_ble_eq_true rfl, Nat.le_of_ble_eq_true rfl⟩ rfl (fun H locs hP hS => ?_)
      refine lv_if_ne (tgt := 42) hx hb dX8_speak_33 (by decide) (fun c16 => ?_) (fun c16 => ?_)
      · rw [if_neg c16] at hm
        refine lv_aload_n hx hb dX8_speak_42 rfl (lv_at hl 0 rfl) ?_
        refine t_getr (C := RX8) (T := TX8) (N := 3) hx hb hts hin8 hown hK hP hq rfl rfl 1 (by decide) (fr8_1 hq) (hts _ (List.mem_of_getElem? (i := 2) rfl)) dX8_speak_43 ?_
        refine t_getiN (C := RX7) (T := TX7) (N := 26) hx hb hts hin7 hown hK hP (kr8_1 hq) rfl rfl 3 (by decide) (fk7_3 (kr8_1 hq)) hN (i := 3) rfl dX8_speak_46 ?_
        refine lv_iload_n hx hb dX8_speak_49 rfl (lv_at hl 3 rfl) ?_
        refine lv_iadd hx hb dX8_speak_50 ?_
        refine lv_bipush (v := (120 : Int32)) hx hb dX8_speak_51 (by decide) ?_
        refine lv_icmp_le (tgt := 62) hx hb dX8_speak_53 (by decide) (fun c17 => ?_) (fun c17 => ?_)
        · rw [if_pos c17] at hm
          refine lv_iload_n hx hb dX8_speak_62 rfl (lv_at hl 1 rfl) ?_
          refine lv_istore (lv' := [(4, .int a1), (0, .ref (base + q)), (1, .int a1), (2, .int a2), (3, .int a3)]) hx hb dX8_speak_63 hl (by decide) rfl (fun ls hl => ?_)
          refine lv_iconst (v := (0 : Int32)) hx hb dX8_speak_65 (by decide) ?_
          refine lv_istore (lv' := [(5, .int (0 : Int32)), (4, .int a1), (0, .ref (base + q)), (1, .int a1), (2, .int a2), (3, .int a3)]) hx hb dX8_speak_66 hl (by decide) rfl (fun ls hl => ?_)
          obtain ⟨μ24, hc25, hm⟩ := bO1_inv hm
          refine lX8_speak_L68 ⟨hx, hb, hml, hown, hts⟩ hK hN hz hq a2 a3 ⟨Nat.le_of_ble_eq_true rfl, Nat.le_of_ble_eq_true rfl⟩ 1000 a1 (0 : Int32) μ1 _ _ _ μ24 hc25 hP hS (lv_sub hl [2, 4, 5, 1, 0] rfl) ?_
          intro H locs ls hP hS hl
          refine lv_aload_n hx hb dX8_speak_122 rfl (lv_at hl 0 rfl) ?_
          refine t_getr (C := RX8) (T := TX8) (N := 3) hx hb hts hin8 hown hK hP hq rfl rfl 1 (by decide) (fr8_1 hq) (hts _ (List.mem_of_getElem? (i := 2) rfl)) dX8_speak_123 ?_
          refine t_getiN (C := RX7) (T := TX7) (N := 26) hx hb hts hin7 hown hK hP (kr8_1 hq) rfl rfl 3 (by decide) (fk7_3 (kr8_1 hq)) hN (i := 3) rfl dX8_speak_126 ?_
          cases hm
          exact W.iret hx hb hr (fun t ht hW => ⟨⟨_, (), rfl, rfl, tPost_of hP ht⟩, hS.F ht⟩) hS.2.2 dX8_speak_129
        · rw [if_neg c17] at hm
          refine lv_aload_n hx hb dX8_speak_56 rfl (lv_at hl 0 rfl) ?_
          refine lv_iconst (v := (2 : Int32)) hx hb dX8_speak_57 (by decide) ?_
          obtain ⟨⟨r26, μ27⟩, hc28⟩ : ∃ z, X8_no q (2 : Int32) μ1 = z := ⟨_, rfl⟩
          replace hm := bP_of hm hc28
          refine t_cVi (As := [.int (2 : Int32)]) (rest := []) (μ' := μ27) (r := r26) ⟨hx, hb, hml, hown, hts⟩ (mX8_no l D cA base H.size μ1 hq (2 : Int32) hc28) (cwV 1 hts gX8_speak_X8_no rfl rfl rfl (by decide +kernel) ⟨Nat.le_of_ble_eq_true rfl, Nat.le_of_ble_eq_true rfl⟩) (va_recv hK hP (q0 := q) rfl (tw_obj hq (by decide))) hK hN hP hS hz rfl hl.1 (Nat.le_of_ble_eq_true rfl) dX8_speak_58 ⟨Nat.le_of_ble_eq_true rfl, Nat.le_of_ble_eq_true rfl⟩ rfl (fun H locs hP hS => ?_)
          cases hm
          exact W.iret hx hb hr (fun t ht hW => ⟨⟨_, (), rfl, rfl, tPost_of hP ht⟩, hS.F ht⟩) hS.2.2 dX8_speak_61
      · rw [if_pos c16] at hm
        refine lv_aload_n hx hb dX8_speak_36 rfl (lv_at hl 0 rfl) ?_
        refine lv_iconst (v := (1 : Int32)) hx hb dX8_speak_37 (by decide) ?_
        obtain ⟨⟨r29, μ30⟩, hc31⟩ : ∃ z, X8_no q (1 : Int32) μ1 = z := ⟨_, rfl⟩
        replace hm := bP_of hm hc31
        refine t_cVi (As := [.int (1 : Int32)]) (rest := []) (μ' := μ30) (r := r29) ⟨hx, hb, hml, hown, hts⟩ (mX8_no l D cA base H.size μ1 hq (1 : Int32) hc31) (cwV 1 hts gX8_speak_X8_no rfl rfl rfl (by decide +kernel) ⟨Nat.le_of_ble_eq_true rfl, Nat.le_of_ble_eq_true rfl⟩) (va_recv hK hP (q0 := q) rfl (tw_obj hq (by decide))) hK hN hP hS hz rfl hl.1 (Nat.le_of_ble_eq_true rfl) dX8_speak_38 ⟨Nat.le_of_ble_eq_true rfl, Nat.le_of_ble_eq_true rfl⟩ rfl (fun H locs hP hS => ?_)
        cases hm
        exact W.iret hx hb hr (fun t ht hW => ⟨⟨_, (), rfl, rfl, tPost_of hP ht⟩, hS.F ht⟩) hS.2.2 dX8_speak_41
abbrev rmX8_rest : Room := { frames := 1, cells := 0, slots := 0, locals := 22 }
set_option maxHeartbeats 4000000 in
set_option maxRecDepth 100000 in
theorem lX8_rest_L43 {p : Program} {l : Launch} {e : Env} {s : State} {m : MethodId} {args : Array Value} {below : List Frame} {meth : Method} {c : Code} {Q : State → Prop} {D : va_G} {cA : Nat → ClassId} {base sz0 : Nat} {H0 : Heap} (FX : CallFix p m c cX8_rest 3 s args wsX8_rest RX8) (hK : va_K D vwCl (tys cA) s) (hN : tN s) (hz : sz0 ≤ H0.size) {o0 : Nat} (ho0 : kc o0 = 8) (b1 : Int32) {cells slots : Nat} (hcs : cells ≤ 0 ∧ slots ≤ 0) :
    ∀ (n : Nat) (v2 : Int32) (μ : MM) (H : Heap) (locs : List Loc) (ls : Array Slot) (μ' : MM), X8_rest_L43 o0 b1 n v2 μ = some μ' → va_P D vwCl (tw base cA μ []) H → va_S (tA base sz0) H0 H locs → lv_has ls 3 [(0, .ref (base + o0)), (1, .int b1), (2, .int v2)] → (∀ (H : Heap) (locs : List Loc) (ls : Array Slot), va_P D vwCl (tw base cA μ' []) H → va_S (tA base sz0) H0 H locs → lv_has ls 3 [(0, .ref (base + o0)), (1, .int b1)] → W p l e rmX8_rest s m args below meth c H locs cells slots Q (F0 m 72 ls [])) → W p l e rmX8_rest s m args below meth c H locs cells slots Q (F0 m 43 ls []) := by
  obtain ⟨hx, hb, hml, hown, hts⟩ := FX
  have hin7 : ∀ w ∈ wsX70, w ∈ wsX8_rest := by decide +kernel
  have hin8 : ∀ w ∈ wsX80, w ∈ wsX8_rest := by decide +kernel
  intro n
  induction n with
  | zero =>
    intro v2 μ H locs ls μ' hm
    cases hm
  | succ n ih =>
    intro v2 μ H locs ls μ' hm hP hS hl K
    rw [X8_rest_L43_s] at hm
    refine lv_iload_n hx hb dX8_rest_43 rfl (lv_at hl 2 rfl) ?_
    refine lv_iload_n hx hb dX8_rest_44 rfl (lv_at hl 1 rfl) ?_
    refine lv_icmp_ge (tgt := 72) hx hb dX8_rest_45 (by decide) (fun c6 => ?_) (fun c6 => ?_)
    · rw [if_pos c6] at hm
      cases hm
      exact K _ _ _ hP hS (lv_sub hl [0, 1] rfl)
    · rw [if_neg c6] at hm
      refine lv_aload_n hx hb dX8_rest_48 rfl (lv_at hl 0 rfl) ?_
      refine t_getr (C := RX8) (T := TX8) (N := 3) hx hb hts hin8 hown hK hP ho0 rfl rfl 1 (by decide) (fr8_1 ho0) (hts _ (List.mem_of_getElem? (i := 2) rfl)) dX8_rest_49 ?_
      refine t_getrN (C := RX7) (T := TX7) (N := 26) hx hb hts hin7 hown hK hP (kr8_1 ho0) rfl rfl 2 (by decide) (fr7_2 (kr8_1 ho0)) hN (i := 4) rfl dX8_rest_52 ?_
      refine lv_aload_n hx hb dX8_rest_55 rfl (lv_at hl 0 rfl) ?_
      refine t_getr (C := RX8) (T := TX8) (N := 3) hx hb hts hin8 hown hK hP ho0 rfl rfl 1 (by decide) (fr8_1 ho0) (hts _ (List.mem_of_getElem? (i := 2) rfl)) dX8_rest_56 ?_
      refine t_getiN (C := RX7) (T := TX7) (N := 26) hx hb hts hin7 hown hK hP (kr8_1 ho0) rfl rfl 3 (by decide) (fk7_3 (kr8_1 ho0)) hN (i := 3) rfl dX8_rest_59 ?_
      refine lv_iload_n hx hb dX8_rest_62 rfl (lv_at hl 2 rfl) ?_
      refine lv_iadd hx hb dX8_rest_63 ?_
      refine lv_iconst (v := (-1 : Int32)) hx hb dX8_rest_64 (by decide) ?_
      obtain ⟨hg7, hm⟩ := gd_inv hm
      refine t_iast hx hb hK hP (tD _ _ _ _) hS (kr7_2 (kr8_1 ho0)) hg7 dX8_rest_65 (fun H locs hP hS => ?_)
      obtain ⟨μ8, eμ8⟩ : ∃ z : MM, z = wI μ (RF (RF o0 1) 2) ((rI μ (RF o0 1) 3) + v2).toNatClampNeg (-1 : Int32) := ⟨_, rfl⟩
      rw [← eμ8] at hP
      replace hm := bV_of hm eμ8
      obtain ⟨x9, ex9⟩ : ∃ z : Int32, z = v2 + (1 : Int32) := ⟨_, rfl⟩
      replace hm := bV_of hm ex9
      refine lv_iinc (v := x9) (lv' := [(2, .int x9), (0, .ref (base + o0)), (1, .int b1)]) hx hb dX8_rest_66 hl (k := 2) rfl (by rw [ex9]; rfl) (by decide) rfl (fun ls hl => ?_)
      refine lv_goto (tgt := 43) hx hb dX8_rest_69 (by decide) ?_
      exact ih x9 μ8 _ _ _ μ' hm hP hS (lv_sub hl [1, 2, 0] rfl) K
set_option maxHeartbeats 4000000 in
set_option maxRecDepth 100000 in
theorem mX8_rest (l : Launch) (D : va_G) (cA : Nat → ClassId) (base sz : Nat) (μ : MM) {q : Nat} (hq : kc q = 8) (a1 : Int32) {r : Int32} {μ' : MM} (hm : X8_rest q a1 μ = some (r, μ')) : Met l yX8_rest wsX8_rest rmX8_rest (va_Pc [.ref (base + q), .int a1] (tPre D cA base sz μ)) (va_Qi (fun (x : Int32) (_ : Unit) => x = r) (fun _ => tPost D cA base μ') (tA base sz)) 0 0 (tA base sz) := by
  refine Met.ofW (cc := cX8_rest) (maxL := 3) (ret := (some .int)) (by decide +kernel) rfl ?_
  intro p e s m args below meth c s₁ B hml hv
  obtain ⟨rfl, hsz, hP, hK, hN⟩ := hv
  have hx := B.exec
  have hb := B.bytes
  have hr := B.returns
  have hts := atoms_spec (ws := wsX8_rest) B.pre
  have hown : s.vm.findClass RX8 = some m.cls := findClass_of_methodNamed B.named
  have hlocks := B.notSynchronized
  have hin7 : ∀ w ∈ wsX70, w ∈ wsX8_rest := by decide +kernel
  have hin8 : ∀ w ∈ wsX80, w ∈ wsX8_rest := by decide +kernel
  subst hsz
  have hS : va_S (tA base s.heap.size) s.heap s.heap [] := va_S.rf
  have hz : s.heap.size ≤ s.heap.size := Nat.le_refl _
  have hl := lv_entry ([.ref (base + q), .int a1]) (n := 3) (Nat.le_of_ble_eq_true rfl)
  rw [lg_entry_eq]
  generalize (lg_sl ([.ref (base + q), .int a1]) ++ List.replicate (3 - (lg_sl ([.ref (base + q), .int a1])).length) Slot.unset).toArray = ls at hl ⊢
  have hl : lv_has ls 3 [(0, .ref (base + q)), (1, .int a1)] := hl
  unfold X8_rest at hm
  refine lv_aload_n hx hb dX8_rest_0 rfl (lv_at hl 0 rfl) ?_
  refine lv_iconst (v := (0 : Int32)) hx hb dX8_rest_1 (by decide) ?_
  refine t_put (C := RX8) (T := TX8) (N := 3) hx hb hts hin8 tyX8 tyX8_ok nmX8 hown hK hP (tD _ _ _ _) hS hq rfl rfl 0 (by decide) (fk8_0 hq) (hts _ (List.mem_of_getElem? (i := 1) rfl)) rfl (by decide +kernel) dX8_rest_2 (fun H locs hP hS => ?_)
  obtain ⟨μ1, eμ1⟩ : ∃ z : MM, z = wI μ q 0 (0 : Int32) := ⟨_, rfl⟩
  rw [← eμ1] at hP
  replace hm := bV_of hm eμ1
  refine lv_iload_n hx hb dX8_rest_5 rfl (lv_at hl 1 rfl) ?_
  refine lv_iconst (v := (1 : Int32)) hx hb dX8_rest_6 (by decide) ?_
  refine lv_bipush (v := (40 : Int32)) hx hb dX8_rest_7 (by decide) ?_
  refine t_cSi (As := [.int a1, .int (1 : Int32), .int (40 : Int32)]) (rest := []) (μ' := μ1) (r := (X8_isIn a1 (1 : Int32) (40 : Int32))) ⟨hx, hb, hml, hown, hts⟩ (mX8_isIn l D cA base H.size μ1 a1 (1 : Int32) (40 : Int32) rfl) (va_cwS 3 hts gX8_rest_X8_isIn rfl rfl rfl (by decide +kernel) ⟨Nat.le_of_ble_eq_true rfl, Nat.le_of_ble_eq_true rfl⟩) hK hN hP hS hz rfl hl.1 (Nat.le_of_ble_eq_true rfl) dX8_rest_9 ⟨Nat.le_of_ble_eq_true rfl, Nat.le_of_ble_eq_true rfl⟩ rfl (fun H locs hP hS => ?_)
  refine lv_if_ne (tgt := 21) hx hb dX8_rest_12 (by decide) (fun c4 => ?_) (fun c4 => ?_)
  · rw [if_neg c4] at hm
    refine lv_aload_n hx hb dX8_rest_21 rfl (lv_at hl 0 rfl) ?_
    refine t_getr (C := RX8) (T := TX8) (N := 3) hx hb hts hin8 hown hK hP hq rfl rfl 1 (by decide) (fr8_1 hq) (hts _ (List.mem_of_getElem? (i := 2) rfl)) dX8_rest_22 ?_
    refine t_getiN (C := RX7) (T := TX7) (N := 26) hx hb hts hin7 hown hK hP (kr8_1 hq) rfl rfl 3 (by decide) (fk7_3 (kr8_1 hq)) hN (i := 3) rfl dX8_rest_25 ?_
    refine lv_iload_n hx hb dX8_rest_28 rfl (lv_at hl 1 rfl) ?_
    refine lv_iadd hx hb dX8_rest_29 ?_
    refine lv_bipush (v := (120 : Int32)) hx hb dX8_rest_30 (by decide) ?_
    refine lv_icmp_le (tgt := 41) hx hb dX8_rest_32 (by decide) (fun c5 => ?_) (fun c5 => ?_)
    · rw [if_pos c5] at hm
      refine lv_iconst (v := (0 : Int32)) hx hb dX8_rest_41 (by decide) ?_
      refine lv_istore_n (lv' := [(2, .int (0 : Int32)), (0, .ref (base + q)), (1, .int a1)]) hx hb dX8_rest_42 rfl hl (by decide) rfl (fun ls hl => ?_)
      obtain ⟨μ10, hc11, hm⟩ := bO1_inv hm
      refine lX8_rest_L43 ⟨hx, hb, hml, hown, hts⟩ hK hN hz hq a1 ⟨Nat.le_of_ble_eq_true rfl, Nat.le_of_ble_eq_true rfl⟩ 1000 (0 : Int32) μ1 _ _ _ μ10 hc11 hP hS (lv_sub hl [1, 2, 0] rfl) ?_
      intro H locs ls hP hS hl
      refine lv_aload_n hx hb dX8_rest_72 rfl (lv_at hl 0 rfl) ?_
      refine t_getr (C := RX8) (T := TX8) (N := 3) hx hb hts hin8 hown hK hP hq rfl rfl 1 (by decide) (fr8_1 hq) (hts _ (List.mem_of_getElem? (i := 2) rfl)) dX8_rest_73 ?_
      refine lv_dup hx hb dX8_rest_76 rfl ?_
      refine t_getiN (C := RX7) (T := TX7) (N := 26) hx hb hts hin7 hown hK hP (kr8_1 hq) rfl rfl 3 (by decide) (fk7_3 (kr8_1 hq)) hN (i := 3) rfl dX8_rest_77 ?_
      refine lv_iload_n hx hb dX8_rest_80 rfl (lv_at hl 1 rfl) ?_
      refine lv_iadd hx hb dX8_rest_81 ?_
      refine t_putN (C := RX7) (T := TX7) (N := 26) hx hb hts hin7 tyX7 tyX7_ok nmX7 hown hK hP (tD _ _ _ _) hS (kr8_1 hq) rfl rfl 3 (by decide) (fk7_3 (kr8_1 hq)) hN (i := 3) rfl rfl (by decide +kernel) dX8_rest_82 (fun H locs hP hS => ?_)
      obtain ⟨μ12, eμ12⟩ : ∃ z : MM, z = wI μ10 (RF q 1) 3 ((rI μ10 (RF q 1) 3) + a1) := ⟨_, rfl⟩
      rw [← eμ12] at hP
      replace hm := bV_of hm eμ12
      refine lv_aload_n hx hb dX8_rest_85 rfl (lv_at hl 0 rfl) ?_
      refine t_getr (C := RX8) (T := TX8) (N := 3) hx hb hts hin8 hown hK hP hq rfl rfl 1 (by decide) (fr8_1 hq) (hts _ (List.mem_of_getElem? (i := 2) rfl)) dX8_rest_86 ?_
      refine t_getiN (C := RX7) (T := TX7) (N := 26) hx hb hts hin7 hown hK hP (kr8_1 hq) rfl rfl 3 (by decide) (fk7_3 (kr8_1 hq)) hN (i := 3) rfl dX8_rest_89 ?_
      cases hm
      exact W.iret hx hb hr (fun t ht hW => ⟨⟨_, (), rfl, rfl, tPost_of hP ht⟩, hS.F ht⟩) hS.2.2 dX8_rest_92
    · rw [if_neg c5] at hm
      refine lv_aload_n hx hb dX8_rest_35 rfl (lv_at hl 0 rfl) ?_
      refine lv_iconst (v := (2 : Int32)) hx hb dX8_rest_36 (by decide) ?_
      obtain ⟨⟨r13, μ14⟩, hc15⟩ : ∃ z, X8_no q (2 : Int32) μ1 = z := ⟨_, rfl⟩
      replace hm := bP_of hm hc15
      refine t_cVi (As := [.int (2 : Int32)]) (rest := []) (μ' := μ14) (r := r13) ⟨hx, hb, hml, hown, hts⟩ (mX8_no l D cA base H.size μ1 hq (2 : Int32) hc15) (cwV 1 hts gX8_rest_X8_no rfl rfl rfl (by decide +kernel) ⟨Nat.le_of_ble_eq_true rfl, Nat.le_of_ble_eq_true rfl⟩) (va_recv hK hP (q0 := q) rfl (tw_obj hq (by decide))) hK hN hP hS hz rfl hl.1 (Nat.le_of_ble_eq_true rfl) dX8_rest_37 ⟨Nat.le_of_ble_eq_true rfl, Nat.le_of_ble_eq_true rfl⟩ rfl (fun H locs hP hS => ?_)
      cases hm
      exact W.iret hx hb hr (fun t ht hW => ⟨⟨_, (), rfl, rfl, tPost_of hP ht⟩, hS.F ht⟩) hS.2.2 dX8_rest_40
  · rw [if_pos c4] at hm
    refine lv_aload_n hx hb dX8_rest_15 rfl (lv_at hl 0 rfl) ?_
    refine lv_iconst (v := (1 : Int32)) hx hb dX8_rest_16 (by decide) ?_
    obtain ⟨⟨r16, μ17⟩, hc18⟩ : ∃ z, X8_no q (1 : Int32) μ1 = z := ⟨_, rfl⟩
    replace hm := bP_of hm hc18
    refine t_cVi (As := [.int (1 : Int32)]) (rest := []) (μ' := μ17) (r := r16) ⟨hx, hb, hml, hown, hts⟩ (mX8_no l D cA base H.size μ1 hq (1 : Int32) hc18) (cwV 1 hts gX8_rest_X8_no rfl rfl rfl (by decide +kernel) ⟨Nat.le_of_ble_eq_true rfl, Nat.le_of_ble_eq_true rfl⟩) (va_recv hK hP (q0 := q) rfl (tw_obj hq (by decide))) hK hN hP hS hz rfl hl.1 (Nat.le_of_ble_eq_true rfl) dX8_rest_17 ⟨Nat.le_of_ble_eq_true rfl, Nat.le_of_ble_eq_true rfl⟩ rfl (fun H locs hP hS => ?_)
    cases hm
    exact W.iret hx hb hr (fun t ht hW => ⟨⟨_, (), rfl, rfl, tPost_of hP ht⟩, hS.F ht⟩) hS.2.2 dX8_rest_20
abbrev rmX8_addInterpreter : Room := { frames := 1, cells := 0, slots := 0, locals := 22 }
set_option maxHeartbeats 4000000 in
set_option maxRecDepth 100000 in
theorem mX8_addInterpreter (l : Launch) (D : va_G) (cA : Nat → ClassId) (base sz : Nat) (μ : MM) {q : Nat} (hq : kc q = 8) (a1 : Int32) (a2 : Int32) {r : Int32} {μ' : MM} (hm : X8_addInterpreter q a1 a2 μ = some (r, μ')) : Met l yX8_addInterpreter wsX8_addInterpreter rmX8_addInterpreter (va_Pc [.ref (base + q), .int a1, .int a2] (tPre D cA base sz μ)) (va_Qi (fun (x : Int32) (_ : Unit) => x = r) (fun _ => tPost D cA base μ') (tA base sz)) 0 0 (tA base sz) := by
  refine Met.ofW (cc := cX8_addInterpreter) (maxL := 3) (ret := (some .int)) (by decide +kernel) rfl ?_
  intro p e s m args below meth c s₁ B hml hv
  obtain ⟨rfl, hsz, hP, hK, hN⟩ := hv
  have hx := B.exec
  have hb := B.bytes
  have hr := B.returns
  have hts := atoms_spec (ws := wsX8_addInterpreter) B.pre
  have hown : s.vm.findClass RX8 = some m.cls := findClass_of_methodNamed B.named
  have hlocks := B.notSynchronized
  have hin7 : ∀ w ∈ wsX70, w ∈ wsX8_addInterpreter := by decide +kernel
  have hin8 : ∀ w ∈ wsX80, w ∈ wsX8_addInterpreter := by decide +kernel
  subst hsz
  have hS : va_S (tA base s.heap.size) s.heap s.heap [] := va_S.rf
  have hz : s.heap.size ≤ s.heap.size := Nat.le_refl _
  have hl := lv_entry ([.ref (base + q), .int a1, .int a2]) (n := 3) (Nat.le_of_ble_eq_true rfl)
  rw [lg_entry_eq]
  generalize (lg_sl ([.ref (base + q), .int a1, .int a2]) ++ List.replicate (3 - (lg_sl ([.ref (base + q), .int a1, .int a2])).length) Slot.unset).toArray = ls at hl ⊢
  have hl : lv_has ls 3 [(0, .ref (base + q)), (1, .int a1), (2, .int a2)] := hl
  unfold X8_addInterpreter at hm
  refine lv_aload_n hx hb dX8_addInterpreter_0 rfl (lv_at hl 0 rfl) ?_
  refine lv_iconst (v := (0 : Int32)) hx hb dX8_addInterpreter_1 (by decide) ?_
  refine t_put (C := RX8) (T := TX8) (N := 3) hx hb hts hin8 tyX8 tyX8_ok nmX8 hown hK hP (tD _ _ _ _) hS hq rfl rfl 0 (by decide) (fk8_0 hq) (hts _ (List.mem_of_getElem? (i := 1) rfl)) rfl (by decide +kernel) dX8_addInterpreter_2 (fun H locs hP hS => ?_)
  obtain ⟨μ1, eμ1⟩ : ∃ z : MM, z = wI μ q 0 (0 : Int32) := ⟨_, rfl⟩
  rw [← eμ1] at hP
  replace hm := bV_of hm eμ1
  refine lv_iload_n hx hb dX8_addInterpreter_5 rfl (lv_at hl 1 rfl) ?_
  refine lv_iconst (v := (0 : Int32)) hx hb dX8_addInterpreter_6 (by decide) ?_
  refine lv_sipush (v := (255 : Int32)) hx hb dX8_addInterpreter_7 (by decide) ?_
  refine t_cSi (As := [.int a1, .int (0 : Int32), .int (255 : Int32)]) (rest := []) (μ' := μ1) (r := (X8_isIn a1 (0 : Int32) (255 : Int32))) ⟨hx, hb, hml, hown, hts⟩ (mX8_isIn l D cA base H.size μ1 a1 (0 : Int32) (255 : Int32) rfl) (va_cwS 3 hts gX8_addInterpreter_X8_isIn rfl rfl rfl (by decide +kernel) ⟨Nat.le_of_ble_eq_true rfl, Nat.le_of_ble_eq_true rfl⟩) hK hN hP hS hz rfl hl.1 (Nat.le_of_ble_eq_true rfl) dX8_addInterpreter_10 ⟨Nat.le_of_ble_eq_true rfl, Nat.le_of_ble_eq_true rfl⟩ rfl (fun H locs hP hS => ?_)
  refine lv_if_eq (tgt := 26) hx hb dX8_addInterpreter_13 (by decide) (fun c4 => ?_) (fun c4 => ?_)
  · rw [if_pos c4] at hm
    refine lv_aload_n hx hb dX8_addInterpreter_26 rfl (lv_at hl 0 rfl) ?_
    refine lv_iconst (v := (1 : Int32)) hx hb dX8_addInterpreter_27 (by decide) ?_
    obtain ⟨⟨r5, μ6⟩, hc7⟩ : ∃ z, X8_no q (1 : Int32) μ1 = z := ⟨_, rfl⟩
    replace hm := bP_of hm hc7
    refine t_cVi (As := [.int (1 : Int32)]) (rest := []) (μ' := μ6) (r := r5) ⟨hx, hb, hml, hown, hts⟩ (mX8_no l D cA base H.size μ1 hq (1 : Int32) hc7) (cwV 1 hts gX8_addInterpreter_X8_no rfl rfl rfl (by decide +kernel) ⟨Nat.le_of_ble_eq_true rfl, Nat.le_of_ble_eq_true rfl⟩) (va_recv hK hP (q0 := q) rfl (tw_obj hq (by decide))) hK hN hP hS hz rfl hl.1 (Nat.le_of_ble_eq_true rfl) dX8_addInterpreter_28 ⟨Nat.le_of_ble_eq_true rfl, Nat.le_of_ble_eq_true rfl⟩ rfl (fun H locs hP hS => ?_)
    cases hm
    exact W.iret hx hb hr (fun t ht hW => ⟨⟨_, (), rfl, rfl, tPost_of hP ht⟩, hS.F ht⟩) hS.2.2 dX8_addInterpreter_31
  · rw [if_neg c4] at hm
    refine lv_iload_n hx hb dX8_addInterpreter_16 rfl (lv_at hl 2 rfl) ?_
    refine lv_iconst (v := (0 : Int32)) hx hb dX8_addInterpreter_17 (by decide) ?_
    refine lv_ldc (v := (1048575 : Int32)) hx hb hown (hts _ (List.mem_of_getElem? (i := 2) rfl)) dX8_addInterpreter_18 ?_
    refine t_cSi (As := [.int a2, .int (0 : Int32), .int (1048575 : Int32)]) (rest := []) (μ' := μ1) (r := (X8_isIn a2 (0 : Int32) (1048575 : Int32))) ⟨hx, hb, hml, hown, hts⟩ (mX8_isIn l D cA base H.size μ1 a2 (0 : Int32) (1048575 : Int32) rfl) (va_cwS 3 hts gX8_addInterpreter_X8_isIn rfl rfl rfl (by decide +kernel) ⟨Nat.le_of_ble_eq_true rfl, Nat.le_of_ble_eq_true rfl⟩) hK hN hP hS hz rfl hl.1 (Nat.le_of_ble_eq_true rfl) dX8_addInterpreter_20 ⟨Nat.le_of_ble_eq_true rfl, Nat.le_of_ble_eq_true rfl⟩ rfl (fun H locs hP hS => ?_)
    refine lv_if_ne (tgt := 32) hx hb dX8_addInterpreter_23 (by decide) (fun c10 => ?_) (fun c10 => ?_)
    · rw [if_neg c10] at hm
      refine lv_aload_n hx hb dX8_addInterpreter_32 rfl (lv_at hl 0 rfl) ?_
      refine t_getr (C := RX8) (T := TX8) (N := 3) hx hb hts hin8 hown hK hP hq rfl rfl 1 (by decide) (fr8_1 hq) (hts _ (List.mem_of_getElem? (i := 3) rfl)) dX8_addInterpreter_33 ?_
      refine t_getiN (C := RX7) (T := TX7) (N := 26) hx hb hts hin7 hown hK hP (kr8_1 hq) rfl rfl 4 (by decide) (fk7_4 (kr8_1 hq)) hN (i := 1) rfl dX8_addInterpreter_36 ?_
      refine lv_bipush (v := (8 : Int32)) hx hb dX8_addInterpreter_39 (by decide) ?_
      refine lv_icmp_ne (tgt := 50) hx hb dX8_addInterpreter_41 (by decide) (fun c11 => ?_) (fun c11 => ?_)
      · rw [if_neg c11] at hm
        refine lv_aload_n hx hb dX8_addInterpreter_50 rfl (lv_at hl 0 rfl) ?_
        refine t_getr (C := RX8) (T := TX8) (N := 3) hx hb hts hin8 hown hK hP hq rfl rfl 1 (by decide) (fr8_1 hq) (hts _ (List.mem_of_getElem? (i := 3) rfl)) dX8_addInterpreter_51 ?_
        refine t_getrN (C := RX7) (T := TX7) (N := 26) hx hb hts hin7 hown hK hP (kr8_1 hq) rfl rfl 5 (by decide) (fr7_5 (kr8_1 hq)) hN (i := 5) rfl dX8_addInterpreter_54 ?_
        refine lv_aload_n hx hb dX8_addInterpreter_57 rfl (lv_at hl 0 rfl) ?_
        refine t_getr (C := RX8) (T := TX8) (N := 3) hx hb hts hin8 hown hK hP hq rfl rfl 1 (by decide) (fr8_1 hq) (hts _ (List.mem_of_getElem? (i := 3) rfl)) dX8_addInterpreter_58 ?_
        refine t_getiN (C := RX7) (T := TX7) (N := 26) hx hb hts hin7 hown hK hP (kr8_1 hq) rfl rfl 4 (by decide) (fk7_4 (kr8_1 hq)) hN (i := 1) rfl dX8_addInterpreter_61 ?_
        refine lv_iload_n hx hb dX8_addInterpreter_64 rfl (lv_at hl 1 rfl) ?_
        obtain ⟨hg12, hm⟩ := gd_inv hm
        refine t_iast hx hb hK hP (tD _ _ _ _) hS (kr7_5 (kr8_1 hq)) hg12 dX8_addInterpreter_65 (fun H locs hP hS => ?_)
        obtain ⟨μ13, eμ13⟩ : ∃ z : MM, z = wI μ1 (RF (RF q 1) 5) (rI μ1 (RF q 1) 4).toNatClampNeg a1 := ⟨_, rfl⟩
        rw [← eμ13] at hP
        replace hm := bV_of hm eμ13
        refine lv_aload_n hx hb dX8_addInterpreter_66 rfl (lv_at hl 0 rfl) ?_
        refine t_getr (C := RX8) (T := TX8) (N := 3) hx hb hts hin8 hown hK hP hq rfl rfl 1 (by decide) (fr8_1 hq) (hts _ (List.mem_of_getElem? (i := 3) rfl)) dX8_addInterpreter_67 ?_
        refine t_getrN (C := RX7) (T := TX7) (N := 26) hx hb hts hin7 hown hK hP (kr8_1 hq) rfl rfl 6 (by decide) (fr7_6 (kr8_1 hq)) hN (i := 6) rfl dX8_addInterpreter_70 ?_
        refine lv_aload_n hx hb dX8_addInterpreter_73 rfl (lv_at hl 0 rfl) ?_
        refine t_getr (C := RX8) (T := TX8) (N := 3) hx hb hts hin8 hown hK hP hq rfl rfl 1 (by decide) (fr8_1 hq) (hts _ (List.mem_of_getElem? (i := 3) rfl)) dX8_addInterpreter_74 ?_
        refine t_getiN (C := RX7) (T := TX7) (N := 26) hx hb hts hin7 hown hK hP (kr8_1 hq) rfl rfl 4 (by decide) (fk7_4 (kr8_1 hq)) hN (i := 1) rfl dX8_addInterpreter_77 ?_
        refine lv_iload_n hx hb dX8_addInterpreter_80 rfl (lv_at hl 2 rfl) ?_
        obtain ⟨hg14, hm⟩ := gd_inv hm
        refine t_iast hx hb hK hP (tD _ _ _ _) hS (kr7_6 (kr8_1 hq)) hg14 dX8_addInterpreter_81 (fun H locs hP hS => ?_)
        obtain ⟨μ15, eμ15⟩ : ∃ z : MM, z = wI μ13 (RF (RF q 1) 6) (rI μ13 (RF q 1) 4).toNatClampNeg a2 := ⟨_, rfl⟩
        rw [← eμ15] at hP
        replace hm := bV_of hm eμ15
        refine lv_aload_n hx hb dX8_addInterpreter_82 rfl (lv_at hl 0 rfl) ?_
        refine t_getr (C := RX8) (T := TX8) (N := 3) hx hb hts hin8 hown hK hP hq rfl rfl 1 (by decide) (fr8_1 hq) (hts _ (List.mem_of_getElem? (i := 3) rfl)) dX8_addInterpreter_83 ?_
        refine lv_dup hx hb dX8_addInterpreter_86 rfl ?_
        refine t_getiN (C := RX7) (T := TX7) (N := 26) hx hb hts hin7 hown hK hP (kr8_1 hq) rfl rfl 4 (by decide) (fk7_4 (kr8_1 hq)) hN (i := 1) rfl dX8_addInterpreter_87 ?_
        refine lv_iconst (v := (1 : Int32)) hx hb dX8_addInterpreter_90 (by decide) ?_
        refine lv_iadd hx hb dX8_addInterpreter_91 ?_
        refine t_putN (C := RX7) (T := TX7) (N := 26) hx hb hts hin7 tyX7 tyX7_ok nmX7 hown hK hP (tD _ _ _ _) hS (kr8_1 hq) rfl rfl 4 (by decide) (fk7_4 (kr8_1 hq)) hN (i := 1) rfl rfl (by decide +kernel) dX8_addInterpreter_92 (fun H locs hP hS => ?_)
        obtain ⟨μ16, eμ16⟩ : ∃ z : MM, z = wI μ15 (RF q 1) 4 ((rI μ15 (RF q 1) 4) + (1 : Int32)) := ⟨_, rfl⟩
        rw [← eμ16] at hP
        replace hm := bV_of hm eμ16
        refine lv_aload_n hx hb dX8_addInterpreter_95 rfl (lv_at hl 0 rfl) ?_
        refine t_getr (C := RX8) (T := TX8) (N := 3) hx hb hts hin8 hown hK hP hq rfl rfl 1 (by decide) (fr8_1 hq) (hts _ (List.mem_of_getElem? (i := 3) rfl)) dX8_addInterpreter_96 ?_
        refine t_getiN (C := RX7) (T := TX7) (N := 26) hx hb hts hin7 hown hK hP (kr8_1 hq) rfl rfl 4 (by decide) (fk7_4 (kr8_1 hq)) hN (i := 1) rfl dX8_addInterpreter_99 ?_
        refine lv_iconst (v := (1 : Int32)) hx hb dX8_addInterpreter_102 (by decide) ?_
        refine lv_isub hx hb dX8_addInterpreter_103 ?_
        cases hm
        exact W.iret hx hb hr (fun t ht hW => ⟨⟨_, (), rfl, rfl, tPost_of hP ht⟩, hS.F ht⟩) hS.2.2 dX8_addInterpreter_104
      · rw [if_pos c11] at hm
        refine lv_aload_n hx hb dX8_addInterpreter_44 rfl (lv_at hl 0 rfl) ?_
        refine lv_iconst (v := (2 : Int32)) hx hb dX8_addInterpreter_45 (by decide) ?_
        obtain ⟨⟨r17, μ18⟩, hc19⟩ : ∃ z, X8_no q (2 : Int32) μ1 = z := ⟨_, rfl⟩
        replace hm := bP_of hm hc19
        refine t_cVi (As := [.int (2 : Int32)]) (rest := []) (μ' := μ18) (r := r17) ⟨hx, hb, hml, hown, hts⟩ (mX8_no l D cA base H.size μ1 hq (2 : Int32) hc19) (cwV 1 hts gX8_addInterpreter_X8_no rfl rfl rfl (by decide +kernel) ⟨Nat.le_of_ble_eq_true rfl, Nat.le_of_ble_eq_true rfl⟩) (va_recv hK hP (q0 := q) rfl (tw_obj hq (by decide))) hK hN hP hS hz rfl hl.1 (Nat.le_of_ble_eq_true rfl) dX8_addInterpreter_46 ⟨Nat.le_of_ble_eq_true rfl, Nat.le_of_ble_eq_true rfl⟩ rfl (fun H locs hP hS => ?_)
        cases hm
        exact W.iret hx hb hr (fun t ht hW => ⟨⟨_, (), rfl, rfl, tPost_of hP ht⟩, hS.F ht⟩) hS.2.2 dX8_addInterpreter_49
    · rw [if_pos c10] at hm
      refine lv_aload_n hx hb dX8_addInterpreter_26 rfl (lv_at hl 0 rfl) ?_
      refine lv_iconst (v := (1 : Int32)) hx hb dX8_addInterpreter_27 (by decide) ?_
      obtain ⟨⟨r20, μ21⟩, hc22⟩ : ∃ z, X8_no q (1 : Int32) μ1 = z := ⟨_, rfl⟩
      replace hm := bP_of hm hc22
      refine t_cVi (As := [.int (1 : Int32)]) (rest := []) (μ' := μ21) (r := r20) ⟨hx, hb, hml, hown, hts⟩ (mX8_no l D cA base H.size μ1 hq (1 : Int32) hc22) (cwV 1 hts gX8_addInterpreter_X8_no rfl rfl rfl (by decide +kernel) ⟨Nat.le_of_ble_eq_true rfl, Nat.le_of_ble_eq_true rfl⟩) (va_recv hK hP (q0 := q) rfl (tw_obj hq (by decide))) hK hN hP hS hz rfl hl.1 (Nat.le_of_ble_eq_true rfl) dX8_addInterpreter_28 ⟨Nat.le_of_ble_eq_true rfl, Nat.le_of_ble_eq_true rfl⟩ rfl (fun H locs hP hS => ?_)
      cases hm
      exact W.iret hx hb hr (fun t ht hW => ⟨⟨_, (), rfl, rfl, tPost_of hP ht⟩, hS.F ht⟩) hS.2.2 dX8_addInterpreter_31
abbrev rmX8_addBooth : Room := { frames := 1, cells := 0, slots := 0, locals := 22 }
set_option maxHeartbeats 4000000 in
set_option maxRecDepth 100000 in
theorem mX8_addBooth (l : Launch) (D : va_G) (cA : Nat → ClassId) (base sz : Nat) (μ : MM) {q : Nat} (hq : kc q = 8) (a1 : Int32) (a2 : Int32) (a3 : Int32) {r : Int32} {μ' : MM} (hm : X8_addBooth q a1 a2 a3 μ = some (r, μ')) : Met l yX8_addBooth wsX8_addBooth rmX8_addBooth (va_Pc [.ref (base + q), .int a1, .int a2, .int a3] (tPre D cA base sz μ)) (va_Qi (fun (x : Int32) (_ : Unit) => x = r) (fun _ => tPost D cA base μ') (tA base sz)) 0 0 (tA base sz) := by
  refine Met.ofW (cc := cX8_addBooth) (maxL := 5) (ret := (some .int)) (by decide +kernel) rfl ?_
  intro p e s m args below meth c s₁ B hml hv
  obtain ⟨rfl, hsz, hP, hK, hN⟩ := hv
  have hx := B.exec
  have hb := B.bytes
  have hr := B.returns
  have hts := atoms_spec (ws := wsX8_addBooth) B.pre
  have hown : s.vm.findClass RX8 = some m.cls := findClass_of_methodNamed B.named
  have hlocks := B.notSynchronized
  have hin7 : ∀ w ∈ wsX70, w ∈ wsX8_addBooth := by decide +kernel
  have hin8 : ∀ w ∈ wsX80, w ∈ wsX8_addBooth := by decide +kernel
  subst hsz
  have hS : va_S (tA base s.heap.size) s.heap s.heap [] := va_S.rf
  have hz : s.heap.size ≤ s.heap.size := Nat.le_refl _
  have hl := lv_entry ([.ref (base + q), .int a1, .int a2, .int a3]) (n := 5) (Nat.le_of_ble_eq_true rfl)
  rw [lg_entry_eq]
  generalize (lg_sl ([.ref (base + q), .int a1, .int a2, .int a3]) ++ List.replicate (5 - (lg_sl ([.ref (base + q), .int a1, .int a2, .int a3])).length) Slot.unset).toArray = ls at hl ⊢
  have hl : lv_has ls 5 [(0, .ref (base + q)), (1, .int a1), (2, .int a2), (3, .int a3)] := hl
  unfold X8_addBooth at hm
  refine lv_aload_n hx hb dX8_addBooth_0 rfl (lv_at hl 0 rfl) ?_
  refine lv_iconst (v := (0 : Int32)) hx hb dX8_addBooth_1 (by decide) ?_
  refine t_put (C := RX8) (T := TX8) (N := 3) hx hb hts hin8 tyX8 tyX8_ok nmX8 hown hK hP (tD _ _ _ _) hS hq rfl rfl 0 (by decide) (fk8_0 hq) (hts _ (List.mem_of_getElem? (i := 1) rfl)) rfl (by decide +kernel) dX8_addBooth_2 (fun H locs hP hS => ?_)
  obtain ⟨μ1, eμ1⟩ : ∃ z : MM, z = wI μ q 0 (0 : Int32) := ⟨_, rfl⟩
  rw [← eμ1] at hP
  replace hm := bV_of hm eμ1
  refine lv_iload_n hx hb dX8_addBooth_5 rfl (lv_at hl 1 rfl) ?_
  refine lv_iconst (v := (0 : Int32)) hx hb dX8_addBooth_6 (by decide) ?_
  refine lv_bipush (v := (7 : Int32)) hx hb dX8_addBooth_7 (by decide) ?_
  refine t_cSi (As := [.int a1, .int (0 : Int32), .int (7 : Int32)]) (rest := []) (μ' := μ1) (r := (X8_isIn a1 (0 : Int32) (7 : Int32))) ⟨hx, hb, hml, hown, hts⟩ (mX8_isIn l D cA base H.size μ1 a1 (0 : Int32) (7 : Int32) rfl) (va_cwS 3 hts gX8_addBooth_X8_isIn rfl rfl rfl (by decide +kernel) ⟨Nat.le_of_ble_eq_true rfl, Nat.le_of_ble_eq_true rfl⟩) hK hN hP hS hz rfl hl.1 (Nat.le_of_ble_eq_true rfl) dX8_addBooth_9 ⟨Nat.le_of_ble_eq_true rfl, Nat.le_of_ble_eq_true rfl⟩ rfl (fun H locs hP hS => ?_)
  refine lv_if_eq (tgt := 35) hx hb dX8_addBooth_12 (by decide) (fun c4 => ?_) (fun c4 => ?_)
  · rw [if_pos c4] at hm
    refine lv_aload_n hx hb dX8_addBooth_35 rfl (lv_at hl 0 rfl) ?_
    refine lv_iconst (v := (1 : Int32)) hx hb dX8_addBooth_36 (by decide) ?_
    obtain ⟨⟨r5, μ6⟩, hc7⟩ : ∃ z, X8_no q (1 : Int32) μ1 = z := ⟨_, rfl⟩
    replace hm := bP_of hm hc7
    refine t_cVi (As := [.int (1 : Int32)]) (rest := []) (μ' := μ6) (r := r5) ⟨hx, hb, hml, hown, hts⟩ (mX8_no l D cA base H.size μ1 hq (1 : Int32) hc7) (cwV 1 hts gX8_addBooth_X8_no rfl rfl rfl (by decide +kernel) ⟨Nat.le_of_ble_eq_true rfl, Nat.le_of_ble_eq_true rfl⟩) (va_recv hK hP (q0 := q) rfl (tw_obj hq (by decide))) hK hN hP hS hz rfl hl.1 (Nat.le_of_ble_eq_true rfl) dX8_addBooth_37 ⟨Nat.le_of_ble_eq_true rfl, Nat.le_of_ble_eq_true rfl⟩ rfl (fun H locs hP hS => ?_)
    cases hm
    exact W.iret hx hb hr (fun t ht hW => ⟨⟨_, (), rfl, rfl, tPost_of hP ht⟩, hS.F ht⟩) hS.2.2 dX8_addBooth_40
  · rw [if_neg c4] at hm
    refine lv_iload_n hx hb dX8_addBooth_15 rfl (lv_at hl 2 rfl) ?_
    refine lv_iconst (v := (1 : Int32)) hx hb dX8_addBooth_16 (by decide) ?_
    refine lv_bipush (v := (9 : Int32)) hx hb dX8_addBooth_17 (by decide) ?_
    refine t_cSi (As := [.int a2, .int (1 : Int32), .int (9 : Int32)]) (rest := []) (μ' := μ1) (r := (X8_isIn a2 (1 : Int32) (9 : Int32))) ⟨hx, hb, hml, hown, hts⟩ (mX8_isIn l D cA base H.size μ1 a2 (1 : Int32) (9 : Int32) rfl) (va_cwS 3 hts gX8_addBooth_X8_isIn rfl rfl rfl (by decide +kernel) ⟨Nat.le_of_ble_eq_true rfl, Nat.le_of_ble_eq_true rfl⟩) hK hN hP hS hz rfl hl.1 (Nat.le_of_ble_eq_true rfl) dX8_addBooth_19 ⟨Nat.le_of_ble_eq_true rfl, Nat.le_of_ble_eq_true rfl⟩ rfl (fun H locs hP hS => ?_)
    refine lv_if_eq (tgt := 35) hx hb dX8_addBooth_22 (by decide) (fun c10 => ?_) (fun c10 => ?_)
    · rw [if_pos c10] at hm
      refine lv_aload_n hx hb dX8_addBooth_35 rfl (lv_at hl 0 rfl) ?_
      refine lv_iconst (v := (1 : Int32)) hx hb dX8_addBooth_36 (by decide) ?_
      obtain ⟨⟨r11, μ12⟩, hc13⟩ : ∃ z, X8_no q (1 : Int32) μ1 = z := ⟨_, rfl⟩
      replace hm := bP_of hm hc13
      refine t_cVi (As := [.int (1 : Int32)]) (rest := []) (μ' := μ12) (r := r11) ⟨hx, hb, hml, hown, hts⟩ (mX8_no l D cA base H.size μ1 hq (1 : Int32) hc13) (cwV 1 hts gX8_addBooth_X8_no rfl rfl rfl (by decide +kernel) ⟨Nat.le_of_ble_eq_true rfl, Nat.le_of_ble_eq_true rfl⟩) (va_recv hK hP (q0 := q) rfl (tw_obj hq (by decide))) hK hN hP hS hz rfl hl.1 (Nat.le_of_ble_eq_true rfl) dX8_addBooth_37 ⟨Nat.le_of_ble_eq_true rfl, Nat.le_of_ble_eq_true rfl⟩ rfl (fun H locs hP hS => ?_)
      cases hm
      exact W.iret hx hb hr (fun t ht hW => ⟨⟨_, (), rfl, rfl, tPost_of hP ht⟩, hS.F ht⟩) hS.2.2 dX8_addBooth_40
    · rw [if_neg c10] at hm
      refine lv_iload_n hx hb dX8_addBooth_25 rfl (lv_at hl 3 rfl) ?_
      refine lv_iconst (v := (1 : Int32)) hx hb dX8_addBooth_26 (by decide) ?_
      refine lv_bipush (v := (12 : Int32)) hx hb dX8_addBooth_27 (by decide) ?_
      refine t_cSi (As := [.int a3, .int (1 : Int32), .int (12 : Int32)]) (rest := []) (μ' := μ1) (r := (X8_isIn a3 (1 : Int32) (12 : Int32))) ⟨hx, hb, hml, hown, hts⟩ (mX8_isIn l D cA base H.size μ1 a3 (1 : Int32) (12 : Int32) rfl) (va_cwS 3 hts gX8_addBooth_X8_isIn rfl rfl rfl (by decide +kernel) ⟨Nat.le_of_ble_eq_true rfl, Nat.le_of_ble_eq_true rfl⟩) hK hN hP hS hz rfl hl.1 (Nat.le_of_ble_eq_true rfl) dX8_addBooth_29 ⟨Nat.le_of_ble_eq_true rfl, Nat.le_of_ble_eq_true rfl⟩ rfl (fun H locs hP hS => ?_)
      refine lv_if_ne (tgt := 41) hx hb dX8_addBooth_32 (by decide) (fun c16 => ?_) (fun c16 => ?_)
      · rw [if_neg c16] at hm
        refine lv_aload_n hx hb dX8_addBooth_41 rfl (lv_at hl 0 rfl) ?_
        refine t_getr (C := RX8) (T := TX8) (N := 3) hx hb hts hin8 hown hK hP hq rfl rfl 1 (by decide) (fr8_1 hq) (hts _ (List.mem_of_getElem? (i := 2) rfl)) dX8_addBooth_42 ?_
        refine t_getiN (C := RX7) (T := TX7) (N := 26) hx hb hts hin7 hown hK hP (kr8_1 hq) rfl rfl 11 (by decide) (fk7_11 (kr8_1 hq)) hN (i := 0) rfl dX8_addBooth_45 ?_
        refine lv_bipush (v := (6 : Int32)) hx hb dX8_addBooth_48 (by decide) ?_
        refine lv_icmp_ne (tgt := 59) hx hb dX8_addBooth_50 (by decide) (fun c17 => ?_) (fun c17 => ?_)
        · rw [if_neg c17] at hm
          refine lv_aload_n hx hb dX8_addBooth_59 rfl (lv_at hl 0 rfl) ?_
          refine t_getr (C := RX8) (T := TX8) (N := 3) hx hb hts hin8 hown hK hP hq rfl rfl 1 (by decide) (fr8_1 hq) (hts _ (List.mem_of_getElem? (i := 2) rfl)) dX8_addBooth_60 ?_
          refine t_getiN (C := RX7) (T := TX7) (N := 26) hx hb hts hin7 hown hK hP (kr8_1 hq) rfl rfl 11 (by decide) (fk7_11 (kr8_1 hq)) hN (i := 0) rfl dX8_addBooth_63 ?_
          refine lv_topi (fun x18 ex18 => ?_)
          replace hm := bV_of hm ex18
          refine lv_istore (lv' := [(4, .int x18), (0, .ref (base + q)), (1, .int a1), (2, .int a2), (3, .int a3)]) hx hb dX8_addBooth_66 hl (by decide) rfl (fun ls hl => ?_)
          refine lv_aload_n hx hb dX8_addBooth_68 rfl (lv_at hl 1 rfl) ?_
          refine t_getr (C := RX8) (T := TX8) (N := 3) hx hb hts hin8 hown hK hP hq rfl rfl 1 (by decide) (fr8_1 hq) (hts _ (List.mem_of_getElem? (i := 2) rfl)) dX8_addBooth_69 ?_
          refine t_getrN (C := RX7) (T := TX7) (N := 26) hx hb hts hin7 hown hK hP (kr8_1 hq) rfl rfl 12 (by decide) (fr7_12 (kr8_1 hq)) hN (i := 7) rfl dX8_addBooth_72 ?_
          refine lv_iload hx hb dX8_addBooth_75 (lv_at hl 0 rfl) ?_
          refine lv_iload_n hx hb dX8_addBooth_77 rfl (lv_at hl 2 rfl) ?_
          obtain ⟨hg19, hm⟩ := gd_inv hm
          refine t_iast hx hb hK hP (tD _ _ _ _) hS (kr7_12 (kr8_1 hq)) hg19 dX8_addBooth_78 (fun H locs hP hS => ?_)
          obtain ⟨μ20, eμ20⟩ : ∃ z : MM, z = wI μ1 (RF (RF q 1) 12) x18.toNatClampNeg a1 := ⟨_, rfl⟩
          rw [← eμ20] at hP
          replace hm := bV_of hm eμ20
          refine lv_aload_n hx hb dX8_addBooth_79 rfl (lv_at hl 1 rfl) ?_
          refine t_getr (C := RX8) (T := TX8) (N := 3) hx hb hts hin8 hown hK hP hq rfl rfl 1 (by decide) (fr8_1 hq) (hts _ (List.mem_of_getElem? (i := 2) rfl)) dX8_addBooth_80 ?_
          refine t_getrN (C := RX7) (T := TX7) (N := 26) hx hb hts hin7 hown hK hP (kr8_1 hq) rfl rfl 13 (by decide) (fr7_13 (kr8_1 hq)) hN (i := 8) rfl dX8_addBooth_83 ?_
          refine lv_iload hx hb dX8_addBooth_86 (lv_at hl 0 rfl) ?_
          refine lv_iload_n hx hb dX8_addBooth_88 rfl (lv_at hl 3 rfl) ?_
          obtain ⟨hg21, hm⟩ := gd_inv hm
          refine t_iast hx hb hK hP (tD _ _ _ _) hS (kr7_13 (kr8_1 hq)) hg21 dX8_addBooth_89 (fun H locs hP hS => ?_)
          obtain ⟨μ22, eμ22⟩ : ∃ z : MM, z = wI μ20 (RF (RF q 1) 13) x18.toNatClampNeg a2 := ⟨_, rfl⟩
          rw [← eμ22] at hP
          replace hm := bV_of hm eμ22
          refine lv_aload_n hx hb dX8_addBooth_90 rfl (lv_at hl 1 rfl) ?_
          refine t_getr (C := RX8) (T := TX8) (N := 3) hx hb hts hin8 hown hK hP hq rfl rfl 1 (by decide) (fr8_1 hq) (hts _ (List.mem_of_getElem? (i := 2) rfl)) dX8_addBooth_91 ?_
          refine t_getrN (C := RX7) (T := TX7) (N := 26) hx hb hts hin7 hown hK hP (kr8_1 hq) rfl rfl 14 (by decide) (fr7_14 (kr8_1 hq)) hN (i := 9) rfl dX8_addBooth_94 ?_
          refine lv_iload hx hb dX8_addBooth_97 (lv_at hl 0 rfl) ?_
          refine lv_iload_n hx hb dX8_addBooth_99 rfl (lv_at hl 4 rfl) ?_
          obtain ⟨hg23, hm⟩ := gd_inv hm
          refine t_iast hx hb hK hP (tD _ _ _ _) hS (kr7_14 (kr8_1 hq)) hg23 dX8_addBooth_100 (fun H locs hP hS => ?_)
          obtain ⟨μ24, eμ24⟩ : ∃ z : MM, z = wI μ22 (RF (RF q 1) 14) x18.toNatClampNeg a3 := ⟨_, rfl⟩
          rw [← eμ24] at hP
          replace hm := bV_of hm eμ24
          refine lv_aload_n hx hb dX8_addBooth_101 rfl (lv_at hl 1 rfl) ?_
          refine t_getr (C := RX8) (T := TX8) (N := 3) hx hb hts hin8 hown hK hP hq rfl rfl 1 (by decide) (fr8_1 hq) (hts _ (List.mem_of_getElem? (i := 2) rfl)) dX8_addBooth_102 ?_
          refine t_getrN (C := RX7) (T := TX7) (N := 26) hx hb hts hin7 hown hK hP (kr8_1 hq) rfl rfl 15 (by decide) (fr7_15 (kr8_1 hq)) hN (i := 10) rfl dX8_addBooth_105 ?_
          refine lv_iload hx hb dX8_addBooth_108 (lv_at hl 0 rfl) ?_
          refine lv_iconst (v := (-1 : Int32)) hx hb dX8_addBooth_110 (by decide) ?_
          obtain ⟨hg25, hm⟩ := gd_inv hm
          refine t_iast hx hb hK hP (tD _ _ _ _) hS (kr7_15 (kr8_1 hq)) hg25 dX8_addBooth_111 (fun H locs hP hS => ?_)
          obtain ⟨μ26, eμ26⟩ : ∃ z : MM, z = wI μ24 (RF (RF q 1) 15) x18.toNatClampNeg (-1 : Int32) := ⟨_, rfl⟩
          rw [← eμ26] at hP
          replace hm := bV_of hm eμ26
          refine lv_aload_n hx hb dX8_addBooth_112 rfl (lv_at hl 1 rfl) ?_
          refine t_getr (C := RX8) (T := TX8) (N := 3) hx hb hts hin8 hown hK hP hq rfl rfl 1 (by decide) (fr8_1 hq) (hts _ (List.mem_of_getElem? (i := 2) rfl)) dX8_addBooth_113 ?_
          refine t_getrN (C := RX7) (T := TX7) (N := 26) hx hb hts hin7 hown hK hP (kr8_1 hq) rfl rfl 16 (by decide) (fr7_16 (kr8_1 hq)) hN (i := 11) rfl dX8_addBooth_116 ?_
          refine lv_iload hx hb dX8_addBooth_119 (lv_at hl 0 rfl) ?_
          refine lv_iconst (v := (-1 : Int32)) hx hb dX8_addBooth_121 (by decide) ?_
          obtain ⟨hg27, hm⟩ := gd_inv hm
          refine t_iast hx hb hK hP (tD _ _ _ _) hS (kr7_16 (kr8_1 hq)) hg27 dX8_addBooth_122 (fun H locs hP hS => ?_)
          obtain ⟨μ28, eμ28⟩ : ∃ z : MM, z = wI μ26 (RF (RF q 1) 16) x18.toNatClampNeg (-1 : Int32) := ⟨_, rfl⟩
          rw [← eμ28] at hP
          replace hm := bV_of hm eμ28
          refine lv_aload_n hx hb dX8_addBooth_123 rfl (lv_at hl 1 rfl) ?_
          refine t_getr (C := RX8) (T := TX8) (N := 3) hx hb hts hin8 hown hK hP hq rfl rfl 1 (by decide) (fr8_1 hq) (hts _ (List.mem_of_getElem? (i := 2) rfl)) dX8_addBooth_124 ?_
          refine t_getrN (C := RX7) (T := TX7) (N := 26) hx hb hts hin7 hown hK hP (kr8_1 hq) rfl rfl 18 (by decide) (fr7_18 (kr8_1 hq)) hN (i := 12) rfl dX8_addBooth_127 ?_
          refine lv_iload hx hb dX8_addBooth_130 (lv_at hl 0 rfl) ?_
          refine lv_iconst (v := (-1 : Int32)) hx hb dX8_addBooth_132 (by decide) ?_
          obtain ⟨hg29, hm⟩ := gd_inv hm
          refine t_iast hx hb hK hP (tD _ _ _ _) hS (kr7_18 (kr8_1 hq)) hg29 dX8_addBooth_133 (fun H locs hP hS => ?_)
          obtain ⟨μ30, eμ30⟩ : ∃ z : MM, z = wI μ28 (RF (RF q 1) 18) x18.toNatClampNeg (-1 : Int32) := ⟨_, rfl⟩
          rw [← eμ30] at hP
          replace hm := bV_of hm eμ30
          refine lv_aload_n hx hb dX8_addBooth_134 rfl (lv_at hl 1 rfl) ?_
          refine t_getr (C := RX8) (T := TX8) (N := 3) hx hb hts hin8 hown hK hP hq rfl rfl 1 (by decide) (fr8_1 hq) (hts _ (List.mem_of_getElem? (i := 2) rfl)) dX8_addBooth_135 ?_
          refine lv_dup hx hb dX8_addBooth_138 rfl ?_
          refine t_getiN (C := RX7) (T := TX7) (N := 26) hx hb hts hin7 hown hK hP (kr8_1 hq) rfl rfl 11 (by decide) (fk7_11 (kr8_1 hq)) hN (i := 0) rfl dX8_addBooth_139 ?_
          refine lv_iconst (v := (1 : Int32)) hx hb dX8_addBooth_142 (by decide) ?_
          refine lv_iadd hx hb dX8_addBooth_143 ?_
          refine t_putN (C := RX7) (T := TX7) (N := 26) hx hb hts hin7 tyX7 tyX7_ok nmX7 hown hK hP (tD _ _ _ _) hS (kr8_1 hq) rfl rfl 11 (by decide) (fk7_11 (kr8_1 hq)) hN (i := 0) rfl rfl (by decide +kernel) dX8_addBooth_144 (fun H locs hP hS => ?_)
          obtain ⟨μ31, eμ31⟩ : ∃ z : MM, z = wI μ30 (RF q 1) 11 ((rI μ30 (RF q 1) 11) + (1 : Int32)) := ⟨_, rfl⟩
          rw [← eμ31] at hP
          replace hm := bV_of hm eμ31
          refine lv_iload hx hb dX8_addBooth_147 (lv_at hl 0 rfl) ?_
          cases hm
          exact W.iret hx hb hr (fun t ht hW => ⟨⟨_, (), rfl, rfl, tPost_of hP ht⟩, hS.F ht⟩) hS.2.2 dX8_addBooth_149
        · rw [if_pos c17] at hm
          refine lv_aload_n hx hb dX8_addBooth_53 rfl (lv_at hl 0 rfl) ?_
          refine lv_iconst (v := (2 : Int32)) hx hb dX8_addBooth_54 (by decide) ?_
          obtain ⟨⟨r32, μ33⟩, hc34⟩ : ∃ z, X8_no q (2 : Int32) μ1 = z := ⟨_, rfl⟩
          replace hm := bP_of hm hc34
          refine t_cVi (As := [.int (2 : Int32)]) (rest := []) (μ' := μ33) (r := r32) ⟨hx, hb, hml, hown, hts⟩ (mX8_no l D cA base H.size μ1 hq (2 : Int32) hc34) (cwV 1 hts gX8_addBooth_X8_no rfl rfl rfl (by decide +kernel) ⟨Nat.le_of_ble_eq_true rfl, Nat.le_of_ble_eq_true rfl⟩) (va_recv hK hP (q0 := q) rfl (tw_obj hq (by decide))) hK hN hP hS hz rfl hl.1 (Nat.le_of_ble_eq_true rfl) dX8_addBooth_55 ⟨Nat.le_of_ble_eq_true rfl, Nat.le_of_ble_eq_true rfl⟩ rfl (fun H locs hP hS => ?_)
          cases hm
          exact W.iret hx hb hr (fun t ht hW => ⟨⟨_, (), rfl, rfl, tPost_of hP ht⟩, hS.F ht⟩) hS.2.2 dX8_addBooth_58
      · rw [if_pos c16] at hm
        refine lv_aload_n hx hb dX8_addBooth_35 rfl (lv_at hl 0 rfl) ?_
        refine lv_iconst (v := (1 : Int32)) hx hb dX8_addBooth_36 (by decide) ?_
        obtain ⟨⟨r35, μ36⟩, hc37⟩ : ∃ z, X8_no q (1 : Int32) μ1 = z := ⟨_, rfl⟩
        replace hm := bP_of hm hc37
        refine t_cVi (As := [.int (1 : Int32)]) (rest := []) (μ' := μ36) (r := r35) ⟨hx, hb, hml, hown, hts⟩ (mX8_no l D cA base H.size μ1 hq (1 : Int32) hc37) (cwV 1 hts gX8_addBooth_X8_no rfl rfl rfl (by decide +kernel) ⟨Nat.le_of_ble_eq_true rfl, Nat.le_of_ble_eq_true rfl⟩) (va_recv hK hP (q0 := q) rfl (tw_obj hq (by decide))) hK hN hP hS hz rfl hl.1 (Nat.le_of_ble_eq_true rfl) dX8_addBooth_37 ⟨Nat.le_of_ble_eq_true rfl, Nat.le_of_ble_eq_true rfl⟩ rfl (fun H locs hP hS => ?_)
        cases hm
        exact W.iret hx hb hr (fun t ht hW => ⟨⟨_, (), rfl, rfl, tPost_of hP ht⟩, hS.F ht⟩) hS.2.2 dX8_addBooth_40
abbrev rmX8_tune : Room := { frames := 2, cells := 0, slots := 0, locals := 43 }
set_option maxHeartbeats 4000000 in
set_option maxRecDepth 100000 in
theorem lX8_tune_L34 {p : Program} {l : Launch} {e : Env} {s : State} {m : MethodId} {args : Array Value} {below : List Frame} {meth : Method} {c : Code} {Q : State → Prop} {D : va_G} {cA : Nat → ClassId} {base sz0 : Nat} {H0 : Heap} (FX : CallFix p m c cX8_tune 4 s args wsX8_tune RX8) (hK : va_K D vwCl (tys cA) s) (hN : tN s) (hz : sz0 ≤ H0.size) {o0 : Nat} (ho0 : kc o0 = 8) (b1 : Int32) (b2 : Int32) (μ : MM) {cells slots : Nat} (hcs : cells ≤ 0 ∧ slots ≤ 0) :
    ∀ (n : Nat) (v3 : Int32) (H : Heap) (locs : List Loc) (ls : Array Slot) (wt : Nat), X8_tune_L34 o0 b1 b2 μ n v3 = some wt → va_P D vwCl (tw base cA μ []) H → va_S (tA base sz0) H0 H locs → lv_has ls 4 [(0, .ref (base + o0)), (1, .int b1), (2, .int b2), (3, .int v3)] → ((wt = 0 → (∀ (H : Heap) (locs : List Loc) (ls : Array Slot), va_P D vwCl (tw base cA μ []) H → va_S (tA base sz0) H0 H locs → lv_has ls 4 [(0, .ref (base + o0))] → W p l e rmX8_tune s m args below meth c H locs cells slots Q (F0 m 44 ls []))) ∧ (wt = 1 → (∀ (H : Heap) (locs : List Loc) (ls : Array Slot), va_P D vwCl (tw base cA μ []) H → va_S (tA base sz0) H0 H locs → lv_has ls 4 [(0, .ref (base + o0)), (1, .int b1), (2, .int b2)] → W p l e rmX8_tune s m args below meth c H locs cells slots Q (F0 m 63 ls [])))) → W p l e rmX8_tune s m args below meth c H locs cells slots Q (F0 m 34 ls []) := by
  obtain ⟨hx, hb, hml, hown, hts⟩ := FX
  have hin7 : ∀ w ∈ wsX70, w ∈ wsX8_tune := by decide +kernel
  have hin8 : ∀ w ∈ wsX80, w ∈ wsX8_tune := by decide +kernel
  intro n
  induction n with
  | zero =>
    intro v3 H locs ls wt hm
    cases hm
  | succ n ih =>
    intro v3 H locs ls wt hm hP hS hl K
    rw [X8_tune_L34_s] at hm
    refine lv_iload_n hx hb dX8_tune_34 rfl (lv_at hl 3 rfl) ?_
    refine lv_iconst (v := (-1 : Int32)) hx hb dX8_tune_35 (by decide) ?_
    refine lv_icmp_eq (tgt := 63) hx hb dX8_tune_36 (by decide) (fun c9 => ?_) (fun c9 => ?_)
    · rw [if_pos c9] at hm
      cases hm
      exact (K.2 rfl) _ _ _ hP hS (lv_sub hl [0, 1, 2] rfl)
    · rw [if_neg c9] at hm
      refine lv_iload_n hx hb dX8_tune_39 rfl (lv_at hl 3 rfl) ?_
      refine lv_iload_n hx hb dX8_tune_40 rfl (lv_at hl 1 rfl) ?_
      refine lv_icmp_ne (tgt := 50) hx hb dX8_tune_41 (by decide) (fun c10 => ?_) (fun c10 => ?_)
      · rw [if_neg c10] at hm
        refine lv_aload_n hx hb dX8_tune_50 rfl (lv_at hl 0 rfl) ?_
        refine t_getr (C := RX8) (T := TX8) (N := 3) hx hb hts hin8 hown hK hP ho0 rfl rfl 1 (by decide) (fr8_1 ho0) (hts _ (List.mem_of_getElem? (i := 2) rfl)) dX8_tune_51 ?_
        refine t_getrN (C := RX7) (T := TX7) (N := 26) hx hb hts hin7 hown hK hP (kr8_1 ho0) rfl rfl 15 (by decide) (fr7_15 (kr8_1 ho0)) hN (i := 10) rfl dX8_tune_54 ?_
        refine lv_iload_n hx hb dX8_tune_57 rfl (lv_at hl 3 rfl) ?_
        obtain ⟨hg11, hm⟩ := gd_inv hm
        refine t_iald hx hb hK hP (kr7_15 (kr8_1 ho0)) hg11 dX8_tune_58 ?_
        refine lv_topi (fun x12 ex12 => ?_)
        replace hm := bV_of hm ex12
        refine lv_istore_n (lv' := [(3, .int x12), (0, .ref (base + o0)), (1, .int b1), (2, .int b2)]) hx hb dX8_tune_59 rfl hl (by decide) rfl (fun ls hl => ?_)
        refine lv_goto (tgt := 34) hx hb dX8_tune_60 (by decide) ?_
        exact ih x12 _ _ _ wt hm hP hS (lv_sub hl [1, 2, 3, 0] rfl) K
      · rw [if_pos c10] at hm
        cases hm
        exact (K.1 rfl) _ _ _ hP hS (lv_sub hl [0] rfl)
set_option maxHeartbeats 4000000 in
set_option maxRecDepth 100000 in
theorem mX8_tune (l : Launch) (D : va_G) (cA : Nat → ClassId) (base sz : Nat) (μ : MM) {q : Nat} (hq : kc q = 8) (a1 : Int32) (a2 : Int32) {r : Int32} {μ' : MM} (hm : X8_tune q a1 a2 μ = some (r, μ')) : Met l yX8_tune wsX8_tune rmX8_tune (va_Pc [.ref (base + q), .int a1, .int a2] (tPre D cA base sz μ)) (va_Qi (fun (x : Int32) (_ : Unit) => x = r) (fun _ => tPost D cA base μ') (tA base sz)) 0 0 (tA base sz) := by
  refine Met.ofW (cc := cX8_tune) (maxL := 4) (ret := (some .int)) (by decide +kernel) rfl ?_
  intro p e s m args below meth c s₁ B hml hv
  obtain ⟨rfl, hsz, hP, hK, hN⟩ := hv
  have hx := B.exec
  have hb := B.bytes
  have hr := B.returns
  have hts := atoms_spec (ws := wsX8_tune) B.pre
  have hown : s.vm.findClass RX8 = some m.cls := findClass_of_methodNamed B.named
  have hlocks := B.notSynchronized
  have hin7 : ∀ w ∈ wsX70, w ∈ wsX8_tune := by decide +kernel
  have hin8 : ∀ w ∈ wsX80, w ∈ wsX8_tune := by decide +kernel
  subst hsz
  have hS : va_S (tA base s.heap.size) s.heap s.heap [] := va_S.rf
  have hz : s.heap.size ≤ s.heap.size := Nat.le_refl _
  have hl := lv_entry ([.ref (base + q), .int a1, .int a2]) (n := 4) (Nat.le_of_ble_eq_true rfl)
  rw [lg_entry_eq]
  generalize (lg_sl ([.ref (base + q), .int a1, .int a2]) ++ List.replicate (4 - (lg_sl ([.ref (base + q), .int a1, .int a2])).length) Slot.unset).toArray = ls at hl ⊢
  have hl : lv_has ls 4 [(0, .ref (base + q)), (1, .int a1), (2, .int a2)] := hl
  unfold X8_tune at hm
  refine lv_aload_n hx hb dX8_tune_0 rfl (lv_at hl 0 rfl) ?_
  refine lv_iconst (v := (0 : Int32)) hx hb dX8_tune_1 (by decide) ?_
  refine t_put (C := RX8) (T := TX8) (N := 3) hx hb hts hin8 tyX8 tyX8_ok nmX8 hown hK hP (tD _ _ _ _) hS hq rfl rfl 0 (by decide) (fk8_0 hq) (hts _ (List.mem_of_getElem? (i := 1) rfl)) rfl (by decide +kernel) dX8_tune_2 (fun H locs hP hS => ?_)
  obtain ⟨μ1, eμ1⟩ : ∃ z : MM, z = wI μ q 0 (0 : Int32) := ⟨_, rfl⟩
  rw [← eμ1] at hP
  replace hm := bV_of hm eμ1
  refine lv_aload_n hx hb dX8_tune_5 rfl (lv_at hl 0 rfl) ?_
  refine lv_iload_n hx hb dX8_tune_6 rfl (lv_at hl 1 rfl) ?_
  refine t_cVi (As := [.int a1]) (rest := []) (μ' := μ1) (r := (X8_isBooth q a1 μ1)) ⟨hx, hb, hml, hown, hts⟩ (mX8_isBooth l D cA base H.size μ1 hq a1 rfl) (cwV 1 hts gX8_tune_X8_isBooth rfl rfl rfl (by decide +kernel) ⟨Nat.le_of_ble_eq_true rfl, Nat.le_of_ble_eq_true rfl⟩) (va_recv hK hP (q0 := q) rfl (tw_obj hq (by decide))) hK hN hP hS hz rfl hl.1 (Nat.le_of_ble_eq_true rfl) dX8_tune_7 ⟨Nat.le_of_ble_eq_true rfl, Nat.le_of_ble_eq_true rfl⟩ rfl (fun H locs hP hS => ?_)
  refine lv_if_eq (tgt := 26) hx hb dX8_tune_10 (by decide) (fun c4 => ?_) (fun c4 => ?_)
  · rw [if_pos c4] at hm
    refine lv_aload_n hx hb dX8_tune_26 rfl (lv_at hl 0 rfl) ?_
    refine lv_iconst (v := (1 : Int32)) hx hb dX8_tune_27 (by decide) ?_
    obtain ⟨⟨r5, μ6⟩, hc7⟩ : ∃ z, X8_no q (1 : Int32) μ1 = z := ⟨_, rfl⟩
    replace hm := bP_of hm hc7
    refine t_cVi (As := [.int (1 : Int32)]) (rest := []) (μ' := μ6) (r := r5) ⟨hx, hb, hml, hown, hts⟩ (mX8_no l D cA base H.size μ1 hq (1 : Int32) hc7) (cwV 1 hts gX8_tune_X8_no rfl rfl rfl (by decide +kernel) ⟨Nat.le_of_ble_eq_true rfl, Nat.le_of_ble_eq_true rfl⟩) (va_recv hK hP (q0 := q) rfl (tw_obj hq (by decide))) hK hN hP hS hz rfl hl.1 (Nat.le_of_ble_eq_true rfl) dX8_tune_28 ⟨Nat.le_of_ble_eq_true rfl, Nat.le_of_ble_eq_true rfl⟩ rfl (fun H locs hP hS => ?_)
    cases hm
    exact W.iret hx hb hr (fun t ht hW => ⟨⟨_, (), rfl, rfl, tPost_of hP ht⟩, hS.F ht⟩) hS.2.2 dX8_tune_31
  · rw [if_neg c4] at hm
    refine lv_iload_n hx hb dX8_tune_13 rfl (lv_at hl 2 rfl) ?_
    refine lv_iconst (v := (-1 : Int32)) hx hb dX8_tune_14 (by decide) ?_
    refine lv_icmp_eq (tgt := 32) hx hb dX8_tune_15 (by decide) (fun c8 => ?_) (fun c8 => ?_)
    · rw [if_pos c8] at hm
      refine lv_iload_n hx hb dX8_tune_32 rfl (lv_at hl 2 rfl) ?_
      refine lv_istore_n (lv' := [(3, .int a2), (0, .ref (base + q)), (1, .int a1), (2, .int a2)]) hx hb dX8_tune_33 rfl hl (by decide) rfl (fun ls hl => ?_)
      obtain ⟨tg13, hc14, hm⟩ := bO1_inv hm
      refine lX8_tune_L34 ⟨hx, hb, hml, hown, hts⟩ hK hN hz hq a1 a2 μ1 ⟨Nat.le_of_ble_eq_true rfl, Nat.le_of_ble_eq_true rfl⟩ 1000 a2 _ _ _ tg13 hc14 hP hS (lv_sub hl [1, 2, 3, 0] rfl) ?_
      refine ⟨?_, ?_⟩
      · intro ht9
        rw [if_pos ht9] at hm
        intro H locs ls hP hS hl
        refine lv_aload_n hx hb dX8_tune_44 rfl (lv_at hl 0 rfl) ?_
        refine lv_iconst (v := (2 : Int32)) hx hb dX8_tune_45 (by decide) ?_
        obtain ⟨⟨r15, μ16⟩, hc17⟩ : ∃ z, X8_no q (2 : Int32) μ1 = z := ⟨_, rfl⟩
        replace hm := bP_of hm hc17
        refine t_cVi (As := [.int (2 : Int32)]) (rest := []) (μ' := μ16) (r := r15) ⟨hx, hb, hml, hown, hts⟩ (mX8_no l D cA base H.size μ1 hq (2 : Int32) hc17) (cwV 1 hts gX8_tune_X8_no rfl rfl rfl (by decide +kernel) ⟨Nat.le_of_ble_eq_true rfl, Nat.le_of_ble_eq_true rfl⟩) (va_recv hK hP (q0 := q) rfl (tw_obj hq (by decide))) hK hN hP hS hz rfl hl.1 (Nat.le_of_ble_eq_true rfl) dX8_tune_46 ⟨Nat.le_of_ble_eq_true rfl, Nat.le_of_ble_eq_true rfl⟩ rfl (fun H locs hP hS => ?_)
        cases hm
        exact W.iret hx hb hr (fun t ht hW => ⟨⟨_, (), rfl, rfl, tPost_of hP ht⟩, hS.F ht⟩) hS.2.2 dX8_tune_49
      · intro ht9
        rw [if_neg (by rw [ht9]; decide)] at hm
        intro H locs ls hP hS hl
        refine lv_aload_n hx hb dX8_tune_63 rfl (lv_at hl 0 rfl) ?_
        refine t_getr (C := RX8) (T := TX8) (N := 3) hx hb hts hin8 hown hK hP hq rfl rfl 1 (by decide) (fr8_1 hq) (hts _ (List.mem_of_getElem? (i := 2) rfl)) dX8_tune_64 ?_
        refine t_getrN (C := RX7) (T := TX7) (N := 26) hx hb hts hin7 hown hK hP (kr8_1 hq) rfl rfl 15 (by decide) (fr7_15 (kr8_1 hq)) hN (i := 10) rfl dX8_tune_67 ?_
        refine lv_iload_n hx hb dX8_tune_70 rfl (lv_at hl 1 rfl) ?_
        obtain ⟨hg18, hm⟩ := gd_inv hm
        refine t_iald hx hb hK hP (kr7_15 (kr8_1 hq)) hg18 dX8_tune_71 ?_
        refine lv_topi (fun x19 ex19 => ?_)
        replace hm := bV_of hm ex19
        refine lv_istore_n (lv' := [(3, .int x19), (0, .ref (base + q)), (1, .int a1), (2, .int a2)]) hx hb dX8_tune_72 rfl hl (by decide) rfl (fun ls hl => ?_)
        refine lv_aload_n hx hb dX8_tune_73 rfl (lv_at hl 1 rfl) ?_
        refine t_getr (C := RX8) (T := TX8) (N := 3) hx hb hts hin8 hown hK hP hq rfl rfl 1 (by decide) (fr8_1 hq) (hts _ (List.mem_of_getElem? (i := 2) rfl)) dX8_tune_74 ?_
        refine t_getrN (C := RX7) (T := TX7) (N := 26) hx hb hts hin7 hown hK hP (kr8_1 hq) rfl rfl 15 (by decide) (fr7_15 (kr8_1 hq)) hN (i := 10) rfl dX8_tune_77 ?_
        refine lv_iload_n hx hb dX8_tune_80 rfl (lv_at hl 2 rfl) ?_
        refine lv_iload_n hx hb dX8_tune_81 rfl (lv_at hl 3 rfl) ?_
        obtain ⟨hg20, hm⟩ := gd_inv hm
        refine t_iast hx hb hK hP (tD _ _ _ _) hS (kr7_15 (kr8_1 hq)) hg20 dX8_tune_82 (fun H locs hP hS => ?_)
        obtain ⟨μ21, eμ21⟩ : ∃ z : MM, z = wI μ1 (RF (RF q 1) 15) a1.toNatClampNeg a2 := ⟨_, rfl⟩
        rw [← eμ21] at hP
        replace hm := bV_of hm eμ21
        refine lv_iload_n hx hb dX8_tune_83 rfl (lv_at hl 0 rfl) ?_
        cases hm
        exact W.iret hx hb hr (fun t ht hW => ⟨⟨_, (), rfl, rfl, tPost_of hP ht⟩, hS.F ht⟩) hS.2.2 dX8_tune_84
    · rw [if_neg c8] at hm
      refine lv_aload_n hx hb dX8_tune_18 rfl (lv_at hl 0 rfl) ?_
      refine lv_iload_n hx hb dX8_tune_19 rfl (lv_at hl 2 rfl) ?_
      refine t_cVi (As := [.int a2]) (rest := []) (μ' := μ1) (r := (X8_isBooth q a2 μ1)) ⟨hx, hb, hml, hown, hts⟩ (mX8_isBooth l D cA base H.size μ1 hq a2 rfl) (cwV 1 hts gX8_tune_X8_isBooth rfl rfl rfl (by decide +kernel) ⟨Nat.le_of_ble_eq_true rfl, Nat.le_of_ble_eq_true rfl⟩) (va_recv hK hP (q0 := q) rfl (tw_obj hq (by decide))) hK hN hP hS hz rfl hl.1 (Nat.le_of_ble_eq_true rfl) dX8_tune_20 ⟨Nat.le_of_ble_eq_true rfl, Nat.le_of_ble_eq_true rfl⟩ rfl (fun H locs hP hS => ?_)
      refine lv_if_ne (tgt := 32) hx hb dX8_tune_23 (by decide) (fun c24 => ?_) (fun c24 => ?_)
      · rw [if_neg c24] at hm
        refine lv_iload_n hx hb dX8_tune_32 rfl (lv_at hl 2 rfl) ?_
        refine lv_istore_n (lv' := [(3, .int a2), (0, .ref (base + q)), (1, .int a1), (2, .int a2)]) hx hb dX8_tune_33 rfl hl (by decide) rfl (fun ls hl => ?_)
        obtain ⟨tg25, hc26, hm⟩ := bO1_inv hm
        refine lX8_tune_L34 ⟨hx, hb, hml, hown, hts⟩ hK hN hz hq a1 a2 μ1 ⟨Nat.le_of_ble_eq_true rfl, Nat.le_of_ble_eq_true rfl⟩ 1000 a2 _ _ _ tg25 hc26 hP hS (lv_sub hl [1, 2, 3, 0] rfl) ?_
        refine ⟨?_, ?_⟩
        · intro ht9
          rw [if_pos ht9] at hm
          intro H locs ls hP hS hl
          refine lv_aload_n hx hb dX8_tune_44 rfl (lv_at hl 0 rfl) ?_
          refine lv_iconst (v := (2 : Int32)) hx hb dX8_tune_45 (by decide) ?_
          obtain ⟨⟨r27, μ28⟩, hc29⟩ : ∃ z, X8_no q (2 : Int32) μ1 = z := ⟨_, rfl⟩
          replace hm := bP_of hm hc29
          refine t_cVi (As := [.int (2 : Int32)]) (rest := []) (μ' := μ28) (r := r27) ⟨hx, hb, hml, hown, hts⟩ (mX8_no l D cA base H.size μ1 hq (2 : Int32) hc29) (cwV 1 hts gX8_tune_X8_no rfl rfl rfl (by decide +kernel) ⟨Nat.le_of_ble_eq_true rfl, Nat.le_of_ble_eq_true rfl⟩) (va_recv hK hP (q0 := q) rfl (tw_obj hq (by decide))) hK hN hP hS hz rfl hl.1 (Nat.le_of_ble_eq_true rfl) dX8_tune_46 ⟨Nat.le_of_ble_eq_true rfl, Nat.le_of_ble_eq_true rfl⟩ rfl (fun H locs hP hS => ?_)
          cases hm
          exact W.iret hx hb hr (fun t ht hW => ⟨⟨_, (), rfl, rfl, tPost_of hP ht⟩, hS.F ht⟩) hS.2.2 dX8_tune_49
        · intro ht9
          rw [if_neg (by rw [ht9]; decide)] at hm
          intro H locs ls hP hS hl
          refine lv_aload_n hx hb dX8_tune_63 rfl (lv_at hl 0 rfl) ?_
          refine t_getr (C := RX8) (T := TX8) (N := 3) hx hb hts hin8 hown hK hP hq rfl rfl 1 (by decide) (fr8_1 hq) (hts _ (List.mem_of_getElem? (i := 2) rfl)) dX8_tune_64 ?_
          refine t_getrN (C := RX7) (T := TX7) (N := 26) hx hb hts hin7 hown hK hP (kr8_1 hq) rfl rfl 15 (by decide) (fr7_15 (kr8_1 hq)) hN (i := 10) rfl dX8_tune_67 ?_
          refine lv_iload_n hx hb dX8_tune_70 rfl (lv_at hl 1 rfl) ?_
          obtain ⟨hg30, hm⟩ := gd_inv hm
          refine t_iald hx hb hK hP (kr7_15 (kr8_1 hq)) hg30 dX8_tune_71 ?_
          refine lv_topi (fun x31 ex31 => ?_)
          replace hm := bV_of hm ex31
          refine lv_istore_n (lv' := [(3, .int x31), (0, .ref (base + q)), (1, .int a1), (2, .int a2)]) hx hb dX8_tune_72 rfl hl (by decide) rfl (fun ls hl => ?_)
          refine lv_aload_n hx hb dX8_tune_73 rfl (lv_at hl 1 rfl) ?_
          refine t_getr (C := RX8) (T := TX8) (N := 3) hx hb hts hin8 hown hK hP hq rfl rfl 1 (by decide) (fr8_1 hq) (hts _ (List.mem_of_getElem? (i := 2) rfl)) dX8_tune_74 ?_
          refine t_getrN (C := RX7) (T := TX7) (N := 26) hx hb hts hin7 hown hK hP (kr8_1 hq) rfl rfl 15 (by decide) (fr7_15 (kr8_1 hq)) hN (i := 10) rfl dX8_tune_77 ?_
          refine lv_iload_n hx hb dX8_tune_80 rfl (lv_at hl 2 rfl) ?_
          refine lv_iload_n hx hb dX8_tune_81 rfl (lv_at hl 3 rfl) ?_
          obtain ⟨hg32, hm⟩ := gd_inv hm
          refine t_iast hx hb hK hP (tD _ _ _ _) hS (kr7_15 (kr8_1 hq)) hg32 dX8_tune_82 (fun H locs hP hS => ?_)
          obtain ⟨μ33, eμ33⟩ : ∃ z : MM, z = wI μ1 (RF (RF q 1) 15) a1.toNatClampNeg a2 := ⟨_, rfl⟩
          rw [← eμ33] at hP
          replace hm := bV_of hm eμ33
          refine lv_iload_n hx hb dX8_tune_83 rfl (lv_at hl 0 rfl) ?_
          cases hm
          exact W.iret hx hb hr (fun t ht hW => ⟨⟨_, (), rfl, rfl, tPost_of hP ht⟩, hS.F ht⟩) hS.2.2 dX8_tune_84
      · rw [if_pos c24] at hm
        refine lv_aload_n hx hb dX8_tune_26 rfl (lv_at hl 0 rfl) ?_
        refine lv_iconst (v := (1 : Int32)) hx hb dX8_tune_27 (by decide) ?_
        obtain ⟨⟨r34, μ35⟩, hc36⟩ : ∃ z, X8_no q (1 : Int32) μ1 = z := ⟨_, rfl⟩
        replace hm := bP_of hm hc36
        refine t_cVi (As := [.int (1 : Int32)]) (rest := []) (μ' := μ35) (r := r34) ⟨hx, hb, hml, hown, hts⟩ (mX8_no l D cA base H.size μ1 hq (1 : Int32) hc36) (cwV 1 hts gX8_tune_X8_no rfl rfl rfl (by decide +kernel) ⟨Nat.le_of_ble_eq_true rfl, Nat.le_of_ble_eq_true rfl⟩) (va_recv hK hP (q0 := q) rfl (tw_obj hq (by decide))) hK hN hP hS hz rfl hl.1 (Nat.le_of_ble_eq_true rfl) dX8_tune_28 ⟨Nat.le_of_ble_eq_true rfl, Nat.le_of_ble_eq_true rfl⟩ rfl (fun H locs hP hS => ?_)
        cases hm
        exact W.iret hx hb hr (fun t ht hW => ⟨⟨_, (), rfl, rfl, tPost_of hP ht⟩, hS.F ht⟩) hS.2.2 dX8_tune_31
abbrev rmX8_sit : Room := { frames := 2, cells := 0, slots := 0, locals := 45 }
set_option maxHeartbeats 4000000 in
set_option maxRecDepth 100000 in
theorem mX8_sit (l : Launch) (D : va_G) (cA : Nat → ClassId) (base sz : Nat) (μ : MM) {q : Nat} (hq : kc q = 8) (a1 : Int32) (a2 : Int32) {r : Int32} {μ' : MM} (hm : X8_sit q a1 a2 μ = some (r, μ')) : Met l yX8_sit wsX8_sit rmX8_sit (va_Pc [.ref (base + q), .int a1, .int a2] (tPre D cA base sz μ)) (va_Qi (fun (x : Int32) (_ : Unit) => x = r) (fun _ => tPost D cA base μ') (tA base sz)) 0 0 (tA base sz) := by
  refine Met.ofW (cc := cX8_sit) (maxL := 4) (ret := (some .int)) (by decide +kernel) rfl ?_
  intro p e s m args below meth c s₁ B hml hv
  obtain ⟨rfl, hsz, hP, hK, hN⟩ := hv
  have hx := B.exec
  have hb := B.bytes
  have hr := B.returns
  have hts := atoms_spec (ws := wsX8_sit) B.pre
  have hown : s.vm.findClass RX8 = some m.cls := findClass_of_methodNamed B.named
  have hlocks := B.notSynchronized
  have hin7 : ∀ w ∈ wsX70, w ∈ wsX8_sit := by decide +kernel
  have hin8 : ∀ w ∈ wsX80, w ∈ wsX8_sit := by decide +kernel
  subst hsz
  have hS : va_S (tA base s.heap.size) s.heap s.heap [] := va_S.rf
  have hz : s.heap.size ≤ s.heap.size := Nat.le_refl _
  have hl := lv_entry ([.ref (base + q), .int a1, .int a2]) (n := 4) (Nat.le_of_ble_eq_true rfl)
  rw [lg_entry_eq]
  generalize (lg_sl ([.ref (base + q), .int a1, .int a2]) ++ List.replicate (4 - (lg_sl ([.ref (base + q), .int a1, .int a2])).length) Slot.unset).toArray = ls at hl ⊢
  have hl : lv_has ls 4 [(0, .ref (base + q)), (1, .int a1), (2, .int a2)] := hl
  unfold X8_sit at hm
  refine lv_aload_n hx hb dX8_sit_0 rfl (lv_at hl 0 rfl) ?_
  refine lv_iconst (v := (0 : Int32)) hx hb dX8_sit_1 (by decide) ?_
  refine t_put (C := RX8) (T := TX8) (N := 3) hx hb hts hin8 tyX8 tyX8_ok nmX8 hown hK hP (tD _ _ _ _) hS hq rfl rfl 0 (by decide) (fk8_0 hq) (hts _ (List.mem_of_getElem? (i := 1) rfl)) rfl (by decide +kernel) dX8_sit_2 (fun H locs hP hS => ?_)
  obtain ⟨μ1, eμ1⟩ : ∃ z : MM, z = wI μ q 0 (0 : Int32) := ⟨_, rfl⟩
  rw [← eμ1] at hP
  replace hm := bV_of hm eμ1
  refine lv_aload_n hx hb dX8_sit_5 rfl (lv_at hl 0 rfl) ?_
  refine lv_iload_n hx hb dX8_sit_6 rfl (lv_at hl 1 rfl) ?_
  refine t_cVi (As := [.int a1]) (rest := []) (μ' := μ1) (r := (X8_isBooth q a1 μ1)) ⟨hx, hb, hml, hown, hts⟩ (mX8_isBooth l D cA base H.size μ1 hq a1 rfl) (cwV 1 hts gX8_sit_X8_isBooth rfl rfl rfl (by decide +kernel) ⟨Nat.le_of_ble_eq_true rfl, Nat.le_of_ble_eq_true rfl⟩) (va_recv hK hP (q0 := q) rfl (tw_obj hq (by decide))) hK hN hP hS hz rfl hl.1 (Nat.le_of_ble_eq_true rfl) dX8_sit_7 ⟨Nat.le_of_ble_eq_true rfl, Nat.le_of_ble_eq_true rfl⟩ rfl (fun H locs hP hS => ?_)
  refine lv_if_eq (tgt := 26) hx hb dX8_sit_10 (by decide) (fun c4 => ?_) (fun c4 => ?_)
  · rw [if_pos c4] at hm
    refine lv_aload_n hx hb dX8_sit_26 rfl (lv_at hl 0 rfl) ?_
    refine lv_iconst (v := (1 : Int32)) hx hb dX8_sit_27 (by decide) ?_
    obtain ⟨⟨r5, μ6⟩, hc7⟩ : ∃ z, X8_no q (1 : Int32) μ1 = z := ⟨_, rfl⟩
    replace hm := bP_of hm hc7
    refine t_cVi (As := [.int (1 : Int32)]) (rest := []) (μ' := μ6) (r := r5) ⟨hx, hb, hml, hown, hts⟩ (mX8_no l D cA base H.size μ1 hq (1 : Int32) hc7) (cwV 1 hts gX8_sit_X8_no rfl rfl rfl (by decide +kernel) ⟨Nat.le_of_ble_eq_true rfl, Nat.le_of_ble_eq_true rfl⟩) (va_recv hK hP (q0 := q) rfl (tw_obj hq (by decide))) hK hN hP hS hz rfl hl.1 (Nat.le_of_ble_eq_true rfl) dX8_sit_28 ⟨Nat.le_of_ble_eq_true rfl, Nat.le_of_ble_eq_true rfl⟩ rfl (fun H locs hP hS => ?_)
    cases hm
    exact W.iret hx hb hr (fun t ht hW => ⟨⟨_, (), rfl, rfl, tPost_of hP ht⟩, hS.F ht⟩) hS.2.2 dX8_sit_31
  · rw [if_neg c4] at hm
    refine lv_iload_n hx hb dX8_sit_13 rfl (lv_at hl 2 rfl) ?_
    refine lv_iconst (v := (-1 : Int32)) hx hb dX8_sit_14 (by decide) ?_
    refine lv_icmp_eq (tgt := 32) hx hb dX8_sit_15 (by decide) (fun c8 => ?_) (fun c8 => ?_)
    · rw [if_pos c8] at hm
      refine lv_aload_n hx hb dX8_sit_32 rfl (lv_at hl 0 rfl) ?_
      refine t_getr (C := RX8) (T := TX8) (N := 3) hx hb hts hin8 hown hK hP hq rfl rfl 1 (by decide) (fr8_1 hq) (hts _ (List.mem_of_getElem? (i := 2) rfl)) dX8_sit_33 ?_
      refine t_getrN (C := RX7) (T := TX7) (N := 26) hx hb hts hin7 hown hK hP (kr8_1 hq) rfl rfl 16 (by decide) (fr7_16 (kr8_1 hq)) hN (i := 11) rfl dX8_sit_36 ?_
      refine lv_iload_n hx hb dX8_sit_39 rfl (lv_at hl 1 rfl) ?_
      obtain ⟨hg9, hm⟩ := gd_inv hm
      refine t_iald hx hb hK hP (kr7_16 (kr8_1 hq)) hg9 dX8_sit_40 ?_
      refine lv_topi (fun x10 ex10 => ?_)
      replace hm := bV_of hm ex10
      refine lv_istore_n (lv' := [(3, .int x10), (0, .ref (base + q)), (1, .int a1), (2, .int a2)]) hx hb dX8_sit_41 rfl hl (by decide) rfl (fun ls hl => ?_)
      refine lv_aload_n hx hb dX8_sit_42 rfl (lv_at hl 1 rfl) ?_
      refine t_getr (C := RX8) (T := TX8) (N := 3) hx hb hts hin8 hown hK hP hq rfl rfl 1 (by decide) (fr8_1 hq) (hts _ (List.mem_of_getElem? (i := 2) rfl)) dX8_sit_43 ?_
      refine lv_iload_n hx hb dX8_sit_46 rfl (lv_at hl 2 rfl) ?_
      refine lv_iload_n hx hb dX8_sit_47 rfl (lv_at hl 3 rfl) ?_
      obtain ⟨μ11, hc12, hm⟩ := bO1_inv hm
      refine t_cVv (As := [.int a1, .int a2]) (rest := []) (μ' := μ11) ⟨hx, hb, hml, hown, hts⟩ (mX7_sit l D cA base H.size μ1 (kr8_1 hq) a1 a2 hc12) (cwV 2 hts gX8_sit_X7_sit rfl rfl rfl (by decide +kernel) ⟨Nat.le_of_ble_eq_true rfl, Nat.le_of_ble_eq_true rfl⟩) (va_recv hK hP (q0 := RF q 1) rfl (tw_obj (kr8_1 hq) (by decide))) hK hN hP hS hz rfl hl.1 (Nat.le_of_ble_eq_true rfl) dX8_sit_48 ⟨Nat.le_of_ble_eq_true rfl, Nat.le_of_ble_eq_true rfl⟩ rfl (fun H locs hP hS => ?_)
      refine lv_iload_n hx hb dX8_sit_51 rfl (lv_at hl 0 rfl) ?_
      cases hm
      exact W.iret hx hb hr (fun t ht hW => ⟨⟨_, (), rfl, rfl, tPost_of hP ht⟩, hS.F ht⟩) hS.2.2 dX8_sit_52
    · rw [if_neg c8] at hm
      refine lv_aload_n hx hb dX8_sit_18 rfl (lv_at hl 0 rfl) ?_
      refine lv_iload_n hx hb dX8_sit_19 rfl (lv_at hl 2 rfl) ?_
      refine t_cVi (As := [.int a2]) (rest := []) (μ' := μ1) (r := (X8_isInterpreter q a2 μ1)) ⟨hx, hb, hml, hown, hts⟩ (mX8_isInterpreter l D cA base H.size μ1 hq a2 rfl) (cwV 1 hts gX8_sit_X8_isInterpreter rfl rfl rfl (by decide +kernel) ⟨Nat.le_of_ble_eq_true rfl, Nat.le_of_ble_eq_true rfl⟩) (va_recv hK hP (q0 := q) rfl (tw_obj hq (by decide))) hK hN hP hS hz rfl hl.1 (Nat.le_of_ble_eq_true rfl) dX8_sit_20 ⟨Nat.le_of_ble_eq_true rfl, Nat.le_of_ble_eq_true rfl⟩ rfl (fun H locs hP hS => ?_)
      refine lv_if_ne (tgt := 32) hx hb dX8_sit_23 (by decide) (fun c15 => ?_) (fun c15 => ?_)
      · rw [if_neg c15] at hm
        refine lv_aload_n hx hb dX8_sit_32 rfl (lv_at hl 0 rfl) ?_
        refine t_getr (C := RX8) (T := TX8) (N := 3) hx hb hts hin8 hown hK hP hq rfl rfl 1 (by decide) (fr8_1 hq) (hts _ (List.mem_of_getElem? (i := 2) rfl)) dX8_sit_33 ?_
        refine t_getrN (C := RX7) (T := TX7) (N := 26) hx hb hts hin7 hown hK hP (kr8_1 hq) rfl rfl 16 (by decide) (fr7_16 (kr8_1 hq)) hN (i := 11) rfl dX8_sit_36 ?_
        refine lv_iload_n hx hb dX8_sit_39 rfl (lv_at hl 1 rfl) ?_
        obtain ⟨hg16, hm⟩ := gd_inv hm
        refine t_iald hx hb hK hP (kr7_16 (kr8_1 hq)) hg16 dX8_sit_40 ?_
        refine lv_topi (fun x17 ex17 => ?_)
        replace hm := bV_of hm ex17
        refine lv_istore_n (lv' := [(3, .int x17), (0, .ref (base + q)), (1, .int a1), (2, .int a2)]) hx hb dX8_sit_41 rfl hl (by decide) rfl (fun ls hl => ?_)
        refine lv_aload_n hx hb dX8_sit_42 rfl (lv_at hl 1 rfl) ?_
        refine t_getr (C := RX8) (T := TX8) (N := 3) hx hb hts hin8 hown hK hP hq rfl rfl 1 (by decide) (fr8_1 hq) (hts _ (List.mem_of_getElem? (i := 2) rfl)) dX8_sit_43 ?_
        refine lv_iload_n hx hb dX8_sit_46 rfl (lv_at hl 2 rfl) ?_
        refine lv_iload_n hx hb dX8_sit_47 rfl (lv_at hl 3 rfl) ?_
        obtain ⟨μ18, hc19, hm⟩ := bO1_inv hm
        refine t_cVv (As := [.int a1, .int a2]) (rest := []) (μ' := μ18) ⟨hx, hb, hml, hown, hts⟩ (mX7_sit l D cA base H.size μ1 (kr8_1 hq) a1 a2 hc19) (cwV 2 hts gX8_sit_X7_sit rfl rfl rfl (by decide +kernel) ⟨Nat.le_of_ble_eq_true rfl, Nat.le_of_ble_eq_true rfl⟩) (va_recv hK hP (q0 := RF q 1) rfl (tw_obj (kr8_1 hq) (by decide))) hK hN hP hS hz rfl hl.1 (Nat.le_of_ble_eq_true rfl) dX8_sit_48 ⟨Nat.le_of_ble_eq_true rfl, Nat.le_of_ble_eq_true rfl⟩ rfl (fun H locs hP hS => ?_)
        refine lv_iload_n hx hb dX8_sit_51 rfl (lv_at hl 0 rfl) ?_
        cases hm
        exact W.iret hx hb hr (fun t ht hW => ⟨⟨_, (), rfl, rfl, tPost_of hP ht⟩, hS.F ht⟩) hS.2.2 dX8_sit_52
      · rw [if_pos c15] at hm
        refine lv_aload_n hx hb dX8_sit_26 rfl (lv_at hl 0 rfl) ?_
        refine lv_iconst (v := (1 : Int32)) hx hb dX8_sit_27 (by decide) ?_
        obtain ⟨⟨r20, μ21⟩, hc22⟩ : ∃ z, X8_no q (1 : Int32) μ1 = z := ⟨_, rfl⟩
        replace hm := bP_of hm hc22
        refine t_cVi (As := [.int (1 : Int32)]) (rest := []) (μ' := μ21) (r := r20) ⟨hx, hb, hml, hown, hts⟩ (mX8_no l D cA base H.size μ1 hq (1 : Int32) hc22) (cwV 1 hts gX8_sit_X8_no rfl rfl rfl (by decide +kernel) ⟨Nat.le_of_ble_eq_true rfl, Nat.le_of_ble_eq_true rfl⟩) (va_recv hK hP (q0 := q) rfl (tw_obj hq (by decide))) hK hN hP hS hz rfl hl.1 (Nat.le_of_ble_eq_true rfl) dX8_sit_28 ⟨Nat.le_of_ble_eq_true rfl, Nat.le_of_ble_eq_true rfl⟩ rfl (fun H locs hP hS => ?_)
        cases hm
        exact W.iret hx hb hr (fun t ht hW => ⟨⟨_, (), rfl, rfl, tPost_of hP ht⟩, hS.F ht⟩) hS.2.2 dX8_sit_31
abbrev rmX8_swap : Room := { frames := 2, cells := 0, slots := 0, locals := 43 }
set_option maxHeartbeats 4000000 in
set_option maxRecDepth 100000 in
theorem mX8_swap (l : Launch) (D : va_G) (cA : Nat → ClassId) (base sz : Nat) (μ : MM) {q : Nat} (hq : kc q = 8) (a1 : Int32) (a2 : Int32) {r : Int32} {μ' : MM} (hm : X8_swap q a1 a2 μ = some (r, μ')) : Met l yX8_swap wsX8_swap rmX8_swap (va_Pc [.ref (base + q), .int a1, .int a2] (tPre D cA base sz μ)) (va_Qi (fun (x : Int32) (_ : Unit) => x = r) (fun _ => tPost D cA base μ') (tA base sz)) 0 0 (tA base sz) := by
  refine Met.ofW (cc := cX8_swap) (maxL := 4) (ret := (some .int)) (by decide +kernel) rfl ?_
  intro p e s m args below meth c s₁ B hml hv
  obtain ⟨rfl, hsz, hP, hK, hN⟩ := hv
  have hx := B.exec
  have hb := B.bytes
  have hr := B.returns
  have hts := atoms_spec (ws := wsX8_swap) B.pre
  have hown : s.vm.findClass RX8 = some m.cls := findClass_of_methodNamed B.named
  have hlocks := B.notSynchronized
  have hin7 : ∀ w ∈ wsX70, w ∈ wsX8_swap := by decide +kernel
  have hin8 : ∀ w ∈ wsX80, w ∈ wsX8_swap := by decide +kernel
  subst hsz
  have hS : va_S (tA base s.heap.size) s.heap s.heap [] := va_S.rf
  have hz : s.heap.size ≤ s.heap.size := Nat.le_refl _
  have hl := lv_entry ([.ref (base + q), .int a1, .int a2]) (n := 4) (Nat.le_of_ble_eq_true rfl)
  rw [lg_entry_eq]
  generalize (lg_sl ([.ref (base + q), .int a1, .int a2]) ++ List.replicate (4 - (lg_sl ([.ref (base + q), .int a1, .int a2])).length) Slot.unset).toArray = ls at hl ⊢
  have hl : lv_has ls 4 [(0, .ref (base + q)), (1, .int a1), (2, .int a2)] := hl
  unfold X8_swap at hm
  refine lv_aload_n hx hb dX8_swap_0 rfl (lv_at hl 0 rfl) ?_
  refine lv_iconst (v := (0 : Int32)) hx hb dX8_swap_1 (by decide) ?_
  refine t_put (C := RX8) (T := TX8) (N := 3) hx hb hts hin8 tyX8 tyX8_ok nmX8 hown hK hP (tD _ _ _ _) hS hq rfl rfl 0 (by decide) (fk8_0 hq) (hts _ (List.mem_of_getElem? (i := 1) rfl)) rfl (by decide +kernel) dX8_swap_2 (fun H locs hP hS => ?_)
  obtain ⟨μ1, eμ1⟩ : ∃ z : MM, z = wI μ q 0 (0 : Int32) := ⟨_, rfl⟩
  rw [← eμ1] at hP
  replace hm := bV_of hm eμ1
  refine lv_aload_n hx hb dX8_swap_5 rfl (lv_at hl 0 rfl) ?_
  refine lv_iload_n hx hb dX8_swap_6 rfl (lv_at hl 1 rfl) ?_
  refine t_cVi (As := [.int a1]) (rest := []) (μ' := μ1) (r := (X8_isBooth q a1 μ1)) ⟨hx, hb, hml, hown, hts⟩ (mX8_isBooth l D cA base H.size μ1 hq a1 rfl) (cwV 1 hts gX8_swap_X8_isBooth rfl rfl rfl (by decide +kernel) ⟨Nat.le_of_ble_eq_true rfl, Nat.le_of_ble_eq_true rfl⟩) (va_recv hK hP (q0 := q) rfl (tw_obj hq (by decide))) hK hN hP hS hz rfl hl.1 (Nat.le_of_ble_eq_true rfl) dX8_swap_7 ⟨Nat.le_of_ble_eq_true rfl, Nat.le_of_ble_eq_true rfl⟩ rfl (fun H locs hP hS => ?_)
  refine lv_if_eq (tgt := 21) hx hb dX8_swap_10 (by decide) (fun c4 => ?_) (fun c4 => ?_)
  · rw [if_pos c4] at hm
    refine lv_aload_n hx hb dX8_swap_21 rfl (lv_at hl 0 rfl) ?_
    refine lv_iconst (v := (1 : Int32)) hx hb dX8_swap_22 (by decide) ?_
    obtain ⟨⟨r5, μ6⟩, hc7⟩ : ∃ z, X8_no q (1 : Int32) μ1 = z := ⟨_, rfl⟩
    replace hm := bP_of hm hc7
    refine t_cVi (As := [.int (1 : Int32)]) (rest := []) (μ' := μ6) (r := r5) ⟨hx, hb, hml, hown, hts⟩ (mX8_no l D cA base H.size μ1 hq (1 : Int32) hc7) (cwV 1 hts gX8_swap_X8_no rfl rfl rfl (by decide +kernel) ⟨Nat.le_of_ble_eq_true rfl, Nat.le_of_ble_eq_true rfl⟩) (va_recv hK hP (q0 := q) rfl (tw_obj hq (by decide))) hK hN hP hS hz rfl hl.1 (Nat.le_of_ble_eq_true rfl) dX8_swap_23 ⟨Nat.le_of_ble_eq_true rfl, Nat.le_of_ble_eq_true rfl⟩ rfl (fun H locs hP hS => ?_)
    cases hm
    exact W.iret hx hb hr (fun t ht hW => ⟨⟨_, (), rfl, rfl, tPost_of hP ht⟩, hS.F ht⟩) hS.2.2 dX8_swap_26
  · rw [if_neg c4] at hm
    refine lv_aload_n hx hb dX8_swap_13 rfl (lv_at hl 0 rfl) ?_
    refine lv_iload_n hx hb dX8_swap_14 rfl (lv_at hl 2 rfl) ?_
    refine t_cVi (As := [.int a2]) (rest := []) (μ' := μ1) (r := (X8_isBooth q a2 μ1)) ⟨hx, hb, hml, hown, hts⟩ (mX8_isBooth l D cA base H.size μ1 hq a2 rfl) (cwV 1 hts gX8_swap_X8_isBooth rfl rfl rfl (by decide +kernel) ⟨Nat.le_of_ble_eq_true rfl, Nat.le_of_ble_eq_true rfl⟩) (va_recv hK hP (q0 := q) rfl (tw_obj hq (by decide))) hK hN hP hS hz rfl hl.1 (Nat.le_of_ble_eq_true rfl) dX8_swap_15 ⟨Nat.le_of_ble_eq_true rfl, Nat.le_of_ble_eq_true rfl⟩ rfl (fun H locs hP hS => ?_)
    refine lv_if_ne (tgt := 27) hx hb dX8_swap_18 (by decide) (fun c10 => ?_) (fun c10 => ?_)
    · rw [if_neg c10] at hm
      refine lv_iload_n hx hb dX8_swap_27 rfl (lv_at hl 1 rfl) ?_
      refine lv_iload_n hx hb dX8_swap_28 rfl (lv_at hl 2 rfl) ?_
      refine lv_icmp_ne (tgt := 38) hx hb dX8_swap_29 (by decide) (fun c11 => ?_) (fun c11 => ?_)
      · rw [if_neg c11] at hm
        refine lv_aload_n hx hb dX8_swap_38 rfl (lv_at hl 0 rfl) ?_
        refine t_getr (C := RX8) (T := TX8) (N := 3) hx hb hts hin8 hown hK hP hq rfl rfl 1 (by decide) (fr8_1 hq) (hts _ (List.mem_of_getElem? (i := 2) rfl)) dX8_swap_39 ?_
        refine t_getrN (C := RX7) (T := TX7) (N := 26) hx hb hts hin7 hown hK hP (kr8_1 hq) rfl rfl 16 (by decide) (fr7_16 (kr8_1 hq)) hN (i := 11) rfl dX8_swap_42 ?_
        refine lv_iload_n hx hb dX8_swap_45 rfl (lv_at hl 1 rfl) ?_
        obtain ⟨hg12, hm⟩ := gd_inv hm
        refine t_iald hx hb hK hP (kr7_16 (kr8_1 hq)) hg12 dX8_swap_46 ?_
        refine lv_topi (fun x13 ex13 => ?_)
        replace hm := bV_of hm ex13
        refine lv_istore_n (lv' := [(3, .int x13), (0, .ref (base + q)), (1, .int a1), (2, .int a2)]) hx hb dX8_swap_47 rfl hl (by decide) rfl (fun ls hl => ?_)
        refine lv_aload_n hx hb dX8_swap_48 rfl (lv_at hl 1 rfl) ?_
        refine t_getr (C := RX8) (T := TX8) (N := 3) hx hb hts hin8 hown hK hP hq rfl rfl 1 (by decide) (fr8_1 hq) (hts _ (List.mem_of_getElem? (i := 2) rfl)) dX8_swap_49 ?_
        refine t_getrN (C := RX7) (T := TX7) (N := 26) hx hb hts hin7 hown hK hP (kr8_1 hq) rfl rfl 16 (by decide) (fr7_16 (kr8_1 hq)) hN (i := 11) rfl dX8_swap_52 ?_
        refine lv_iload_n hx hb dX8_swap_55 rfl (lv_at hl 2 rfl) ?_
        refine lv_aload_n hx hb dX8_swap_56 rfl (lv_at hl 1 rfl) ?_
        refine t_getr (C := RX8) (T := TX8) (N := 3) hx hb hts hin8 hown hK hP hq rfl rfl 1 (by decide) (fr8_1 hq) (hts _ (List.mem_of_getElem? (i := 2) rfl)) dX8_swap_57 ?_
        refine t_getrN (C := RX7) (T := TX7) (N := 26) hx hb hts hin7 hown hK hP (kr8_1 hq) rfl rfl 16 (by decide) (fr7_16 (kr8_1 hq)) hN (i := 11) rfl dX8_swap_60 ?_
        refine lv_iload_n hx hb dX8_swap_63 rfl (lv_at hl 3 rfl) ?_
        obtain ⟨hg14, hm⟩ := gd_inv hm
        refine t_iald hx hb hK hP (kr7_16 (kr8_1 hq)) hg14 dX8_swap_64 ?_
        obtain ⟨hg15, hm⟩ := gd_inv hm
        refine t_iast hx hb hK hP (tD _ _ _ _) hS (kr7_16 (kr8_1 hq)) hg15 dX8_swap_65 (fun H locs hP hS => ?_)
        obtain ⟨μ16, eμ16⟩ : ∃ z : MM, z = wI μ1 (RF (RF q 1) 16) a1.toNatClampNeg (rI μ1 (RF (RF q 1) 16) a2.toNatClampNeg) := ⟨_, rfl⟩
        rw [← eμ16] at hP
        replace hm := bV_of hm eμ16
        refine lv_aload_n hx hb dX8_swap_66 rfl (lv_at hl 1 rfl) ?_
        refine t_getr (C := RX8) (T := TX8) (N := 3) hx hb hts hin8 hown hK hP hq rfl rfl 1 (by decide) (fr8_1 hq) (hts _ (List.mem_of_getElem? (i := 2) rfl)) dX8_swap_67 ?_
        refine t_getrN (C := RX7) (T := TX7) (N := 26) hx hb hts hin7 hown hK hP (kr8_1 hq) rfl rfl 16 (by decide) (fr7_16 (kr8_1 hq)) hN (i := 11) rfl dX8_swap_70 ?_
        refine lv_iload_n hx hb dX8_swap_73 rfl (lv_at hl 3 rfl) ?_
        refine lv_iload_n hx hb dX8_swap_74 rfl (lv_at hl 0 rfl) ?_
        obtain ⟨hg17, hm⟩ := gd_inv hm
        refine t_iast hx hb hK hP (tD _ _ _ _) hS (kr7_16 (kr8_1 hq)) hg17 dX8_swap_75 (fun H locs hP hS => ?_)
        obtain ⟨μ18, eμ18⟩ : ∃ z : MM, z = wI μ16 (RF (RF q 1) 16) a2.toNatClampNeg x13 := ⟨_, rfl⟩
        rw [← eμ18] at hP
        replace hm := bV_of hm eμ18
        refine lv_aload_n hx hb dX8_swap_76 rfl (lv_at hl 1 rfl) ?_
        refine t_getr (C := RX8) (T := TX8) (N := 3) hx hb hts hin8 hown hK hP hq rfl rfl 1 (by decide) (fr8_1 hq) (hts _ (List.mem_of_getElem? (i := 2) rfl)) dX8_swap_77 ?_
        refine lv_iload_n hx hb dX8_swap_80 rfl (lv_at hl 2 rfl) ?_
        obtain ⟨r19, hc20, hm⟩ := bO1_inv hm
        refine t_cVi (As := [.int a1]) (rest := []) (μ' := μ18) (r := r19) ⟨hx, hb, hml, hown, hts⟩ (mX7_isAble l D cA base H.size μ18 (kr8_1 hq) a1 hc20) (cwV 1 hts gX8_swap_X7_isAble rfl rfl rfl (by decide +kernel) ⟨Nat.le_of_ble_eq_true rfl, Nat.le_of_ble_eq_true rfl⟩) (va_recv hK hP (q0 := RF q 1) rfl (tw_obj (kr8_1 hq) (by decide))) hK hN hP hS hz rfl hl.1 (Nat.le_of_ble_eq_true rfl) dX8_swap_81 ⟨Nat.le_of_ble_eq_true rfl, Nat.le_of_ble_eq_true rfl⟩ rfl (fun H locs hP hS => ?_)
        refine lv_if_eq (tgt := 91) hx hb dX8_swap_84 (by decide) (fun c21 => ?_) (fun c21 => ?_)
        · rw [if_pos c21] at hm
          refine lv_iconst (v := (0 : Int32)) hx hb dX8_swap_91 (by decide) ?_
          refine lv_aload_n hx hb dX8_swap_92 rfl (lv_at hl 1 rfl) ?_
          refine t_getr (C := RX8) (T := TX8) (N := 3) hx hb hts hin8 hown hK hP hq rfl rfl 1 (by decide) (fr8_1 hq) (hts _ (List.mem_of_getElem? (i := 2) rfl)) dX8_swap_93 ?_
          refine lv_iload_n hx hb dX8_swap_96 rfl (lv_at hl 3 rfl) ?_
          obtain ⟨r22, hc23, hm⟩ := bO1_inv hm
          refine t_cVi (As := [.int a2]) (rest := [.int (0 : Int32)]) (μ' := μ18) (r := r22) ⟨hx, hb, hml, hown, hts⟩ (mX7_isAble l D cA base H.size μ18 (kr8_1 hq) a2 hc23) (cwV 1 hts gX8_swap_X7_isAble rfl rfl rfl (by decide +kernel) ⟨Nat.le_of_ble_eq_true rfl, Nat.le_of_ble_eq_true rfl⟩) (va_recv hK hP (q0 := RF q 1) rfl (tw_obj (kr8_1 hq) (by decide))) hK hN hP hS hz rfl hl.1 (Nat.le_of_ble_eq_true rfl) dX8_swap_97 ⟨Nat.le_of_ble_eq_true rfl, Nat.le_of_ble_eq_true rfl⟩ rfl (fun H locs hP hS => ?_)
          refine lv_if_eq (tgt := 107) hx hb dX8_swap_100 (by decide) (fun c24 => ?_) (fun c24 => ?_)
          · rw [if_pos c24] at hm
            refine lv_iconst (v := (0 : Int32)) hx hb dX8_swap_107 (by decide) ?_
            refine lv_iadd hx hb dX8_swap_108 ?_
            cases hm
            exact W.iret hx hb hr (fun t ht hW => ⟨⟨_, (), rfl, rfl, tPost_of hP ht⟩, hS.F ht⟩) hS.2.2 dX8_swap_109
          · rw [if_neg c24] at hm
            refine lv_iconst (v := (1 : Int32)) hx hb dX8_swap_103 (by decide) ?_
            refine lv_goto (tgt := 108) hx hb dX8_swap_104 (by decide) ?_
            refine lv_iadd hx hb dX8_swap_108 ?_
            cases hm
            exact W.iret hx hb hr (fun t ht hW => ⟨⟨_, (), rfl, rfl, tPost_of hP ht⟩, hS.F ht⟩) hS.2.2 dX8_swap_109
        · rw [if_neg c21] at hm
          refine lv_iconst (v := (1 : Int32)) hx hb dX8_swap_87 (by decide) ?_
          refine lv_goto (tgt := 92) hx hb dX8_swap_88 (by decide) ?_
          refine lv_aload_n hx hb dX8_swap_92 rfl (lv_at hl 1 rfl) ?_
          refine t_getr (C := RX8) (T := TX8) (N := 3) hx hb hts hin8 hown hK hP hq rfl rfl 1 (by decide) (fr8_1 hq) (hts _ (List.mem_of_getElem? (i := 2) rfl)) dX8_swap_93 ?_
          refine lv_iload_n hx hb dX8_swap_96 rfl (lv_at hl 3 rfl) ?_
          obtain ⟨r25, hc26, hm⟩ := bO1_inv hm
          refine t_cVi (As := [.int a2]) (rest := [.int (1 : Int32)]) (μ' := μ18) (r := r25) ⟨hx, hb, hml, hown, hts⟩ (mX7_isAble l D cA base H.size μ18 (kr8_1 hq) a2 hc26) (cwV 1 hts gX8_swap_X7_isAble rfl rfl rfl (by decide +kernel) ⟨Nat.le_of_ble_eq_true rfl, Nat.le_of_ble_eq_true rfl⟩) (va_recv hK hP (q0 := RF q 1) rfl (tw_obj (kr8_1 hq) (by decide))) hK hN hP hS hz rfl hl.1 (Nat.le_of_ble_eq_true rfl) dX8_swap_97 ⟨Nat.le_of_ble_eq_true rfl, Nat.le_of_ble_eq_true rfl⟩ rfl (fun H locs hP hS => ?_)
          refine lv_if_eq (tgt := 107) hx hb dX8_swap_100 (by decide) (fun c27 => ?_) (fun c27 => ?_)
          · rw [if_pos c27] at hm
            refine lv_iconst (v := (0 : Int32)) hx hb dX8_swap_107 (by decide) ?_
            refine lv_iadd hx hb dX8_swap_108 ?_
            cases hm
            exact W.iret hx hb hr (fun t ht hW => ⟨⟨_, (), rfl, rfl, tPost_of hP ht⟩, hS.F ht⟩) hS.2.2 dX8_swap_109
          · rw [if_neg c27] at hm
            refine lv_iconst (v := (1 : Int32)) hx hb dX8_swap_103 (by decide) ?_
            refine lv_goto (tgt := 108) hx hb dX8_swap_104 (by decide) ?_
            refine lv_iadd hx hb dX8_swap_108 ?_
            cases hm
            exact W.iret hx hb hr (fun t ht hW => ⟨⟨_, (), rfl, rfl, tPost_of hP ht⟩, hS.F ht⟩) hS.2.2 dX8_swap_109
      · rw [if_pos c11] at hm
        refine lv_aload_n hx hb dX8_swap_32 rfl (lv_at hl 0 rfl) ?_
        refine lv_iconst (v := (2 : Int32)) hx hb dX8_swap_33 (by decide) ?_
        obtain ⟨⟨r28, μ29⟩, hc30⟩ : ∃ z, X8_no q (2 : Int32) μ1 = z := ⟨_, rfl⟩
        replace hm := bP_of hm hc30
        refine t_cVi (As := [.int (2 : Int32)]) (rest := []) (μ' := μ29) (r := r28) ⟨hx, hb, hml, hown, hts⟩ (mX8_no l D cA base H.size μ1 hq (2 : Int32) hc30) (cwV 1 hts gX8_swap_X8_no rfl rfl rfl (by decide +kernel) ⟨Nat.le_of_ble_eq_true rfl, Nat.le_of_ble_eq_true rfl⟩) (va_recv hK hP (q0 := q) rfl (tw_obj hq (by decide))) hK hN hP hS hz rfl hl.1 (Nat.le_of_ble_eq_true rfl) dX8_swap_34 ⟨Nat.le_of_ble_eq_true rfl, Nat.le_of_ble_eq_true rfl⟩ rfl (fun H locs hP hS => ?_)
        cases hm
        exact W.iret hx hb hr (fun t ht hW => ⟨⟨_, (), rfl, rfl, tPost_of hP ht⟩, hS.F ht⟩) hS.2.2 dX8_swap_37
    · rw [if_pos c10] at hm
      refine lv_aload_n hx hb dX8_swap_21 rfl (lv_at hl 0 rfl) ?_
      refine lv_iconst (v := (1 : Int32)) hx hb dX8_swap_22 (by decide) ?_
      obtain ⟨⟨r31, μ32⟩, hc33⟩ : ∃ z, X8_no q (1 : Int32) μ1 = z := ⟨_, rfl⟩
      replace hm := bP_of hm hc33
      refine t_cVi (As := [.int (1 : Int32)]) (rest := []) (μ' := μ32) (r := r31) ⟨hx, hb, hml, hown, hts⟩ (mX8_no l D cA base H.size μ1 hq (1 : Int32) hc33) (cwV 1 hts gX8_swap_X8_no rfl rfl rfl (by decide +kernel) ⟨Nat.le_of_ble_eq_true rfl, Nat.le_of_ble_eq_true rfl⟩) (va_recv hK hP (q0 := q) rfl (tw_obj hq (by decide))) hK hN hP hS hz rfl hl.1 (Nat.le_of_ble_eq_true rfl) dX8_swap_23 ⟨Nat.le_of_ble_eq_true rfl, Nat.le_of_ble_eq_true rfl⟩ rfl (fun H locs hP hS => ?_)
      cases hm
      exact W.iret hx hb hr (fun t ht hW => ⟨⟨_, (), rfl, rfl, tPost_of hP ht⟩, hS.F ht⟩) hS.2.2 dX8_swap_26
abbrev rmX8_depth : Room := { frames := 0, cells := 0, slots := 0, locals := 0 }
set_option maxHeartbeats 4000000 in
set_option maxRecDepth 100000 in
theorem lX8_depth_L4 {p : Program} {l : Launch} {e : Env} {s : State} {m : MethodId} {args : Array Value} {below : List Frame} {meth : Method} {c : Code} {Q : State → Prop} {D : va_G} {cA : Nat → ClassId} {base sz0 : Nat} {H0 : Heap} (FX : CallFix p m c cX8_depth 4 s args wsX8_depth RX8) (hK : va_K D vwCl (tys cA) s) (hN : tN s) (hz : sz0 ≤ H0.size) {o0 : Nat} (ho0 : kc o0 = 8) (μ : MM) {cells slots : Nat} (hcs : cells ≤ 0 ∧ slots ≤ 0) :
    ∀ (n : Nat) (v2 : Int32) (v3 : Int32) (H : Heap) (locs : List Loc) (ls : Array Slot) (w2 : Int32), X8_depth_L4 o0 μ n v2 v3 = some w2 → va_P D vwCl (tw base cA μ []) H → va_S (tA base sz0) H0 H locs → lv_has ls 4 [(0, .ref (base + o0)), (2, .int v2), (3, .int v3)] → (∀ (H : Heap) (locs : List Loc) (ls : Array Slot), va_P D vwCl (tw base cA μ []) H → va_S (tA base sz0) H0 H locs → lv_has ls 4 [(2, .int w2)] → W p l e rmX8_depth s m args below meth c H locs cells slots Q (F0 m 25 ls [])) → W p l e rmX8_depth s m args below meth c H locs cells slots Q (F0 m 4 ls []) := by
  obtain ⟨hx, hb, hml, hown, hts⟩ := FX
  have hin7 : ∀ w ∈ wsX70, w ∈ wsX8_depth := by decide +kernel
  have hin8 : ∀ w ∈ wsX80, w ∈ wsX8_depth := by decide +kernel
  intro n
  induction n with
  | zero =>
    intro v2 v3 H locs ls w2 hm
    cases hm
  | succ n ih =>
    intro v2 v3 H locs ls w2 hm hP hS hl K
    rw [X8_depth_L4_s] at hm
    refine lv_iload_n hx hb dX8_depth_4 rfl (lv_at hl 2 rfl) ?_
    refine lv_iconst (v := (-1 : Int32)) hx hb dX8_depth_5 (by decide) ?_
    refine lv_icmp_eq (tgt := 25) hx hb dX8_depth_6 (by decide) (fun c1 => ?_) (fun c1 => ?_)
    · rw [if_pos c1] at hm
      cases hm
      exact K _ _ _ hP hS (lv_sub hl [1] rfl)
    · rw [if_neg c1] at hm
      obtain ⟨x2, ex2⟩ : ∃ z : Int32, z = v2 + (1 : Int32) := ⟨_, rfl⟩
      replace hm := bV_of hm ex2
      refine lv_iinc (v := x2) (lv' := [(2, .int x2), (0, .ref (base + o0)), (3, .int v3)]) hx hb dX8_depth_9 hl (k := 1) rfl (by rw [ex2]; rfl) (by decide) rfl (fun ls hl => ?_)
      refine lv_aload_n hx hb dX8_depth_12 rfl (lv_at hl 1 rfl) ?_
      refine t_getr (C := RX8) (T := TX8) (N := 3) hx hb hts hin8 hown hK hP ho0 rfl rfl 1 (by decide) (fr8_1 ho0) (hts _ (List.mem_of_getElem? (i := 1) rfl)) dX8_depth_13 ?_
      refine t_getrN (C := RX7) (T := TX7) (N := 26) hx hb hts hin7 hown hK hP (kr8_1 ho0) rfl rfl 15 (by decide) (fr7_15 (kr8_1 ho0)) hN (i := 10) rfl dX8_depth_16 ?_
      refine lv_iload_n hx hb dX8_depth_19 rfl (lv_at hl 2 rfl) ?_
      obtain ⟨hg3, hm⟩ := gd_inv hm
      refine t_iald hx hb hK hP (kr7_15 (kr8_1 ho0)) hg3 dX8_depth_20 ?_
      refine lv_topi (fun x4 ex4 => ?_)
      replace hm := bV_of hm ex4
      refine lv_istore_n (lv' := [(3, .int x4), (2, .int x2), (0, .ref (base + o0))]) hx hb dX8_depth_21 rfl hl (by decide) rfl (fun ls hl => ?_)
      refine lv_goto (tgt := 4) hx hb dX8_depth_22 (by decide) ?_
      exact ih x2 x4 _ _ _ w2 hm hP hS (lv_sub hl [2, 1, 0] rfl) K
set_option maxHeartbeats 4000000 in
set_option maxRecDepth 100000 in
theorem mX8_depth (l : Launch) (D : va_G) (cA : Nat → ClassId) (base sz : Nat) (μ : MM) {q : Nat} (hq : kc q = 8) (a1 : Int32) {r : Int32} (hm : X8_depth q a1 μ = some r) : Met l yX8_depth wsX8_depth rmX8_depth (va_Pc [.ref (base + q), .int a1] (tPre D cA base sz μ)) (va_Qi (fun (x : Int32) (_ : Unit) => x = r) (fun _ => tPost D cA base μ) (tA base sz)) 0 0 (tA base sz) := by
  refine Met.ofW (cc := cX8_depth) (maxL := 4) (ret := (some .int)) (by decide +kernel) rfl ?_
  intro p e s m args below meth c s₁ B hml hv
  obtain ⟨rfl, hsz, hP, hK, hN⟩ := hv
  have hx := B.exec
  have hb := B.bytes
  have hr := B.returns
  have hts := atoms_spec (ws := wsX8_depth) B.pre
  have hown : s.vm.findClass RX8 = some m.cls := findClass_of_methodNamed B.named
  have hlocks := B.notSynchronized
  subst hsz
  have hS : va_S (tA base s.heap.size) s.heap s.heap [] := va_S.rf
  have hz : s.heap.size ≤ s.heap.size := Nat.le_refl _
  have hl := lv_entry ([.ref (base + q), .int a1]) (n := 4) (Nat.le_of_ble_eq_true rfl)
  rw [lg_entry_eq]
  generalize (lg_sl ([.ref (base + q), .int a1]) ++ List.replicate (4 - (lg_sl ([.ref (base + q), .int a1])).length) Slot.unset).toArray = ls at hl ⊢
  have hl : lv_has ls 4 [(0, .ref (base + q)), (1, .int a1)] := hl
  unfold X8_depth at hm
  refine lv_iconst (v := (0 : Int32)) hx hb dX8_depth_0 (by decide) ?_
  refine lv_istore_n (lv' := [(2, .int (0 : Int32)), (0, .ref (base + q)), (1, .int a1)]) hx hb dX8_depth_1 rfl hl (by decide) rfl (fun ls hl => ?_)
  refine lv_iload_n hx hb dX8_depth_2 rfl (lv_at hl 2 rfl) ?_
  refine lv_istore_n (lv' := [(3, .int a1), (2, .int (0 : Int32)), (0, .ref (base + q)), (1, .int a1)]) hx hb dX8_depth_3 rfl hl (by decide) rfl (fun ls hl => ?_)
  obtain ⟨x5, hc6, hm⟩ := bO1_inv hm
  refine lX8_depth_L4 ⟨hx, hb, hml, hown, hts⟩ hK hN hz hq μ ⟨Nat.le_of_ble_eq_true rfl, Nat.le_of_ble_eq_true rfl⟩ 1000 (0 : Int32) a1 _ _ _ x5 hc6 hP hS (lv_sub hl [2, 1, 0] rfl) ?_
  intro H locs ls hP hS hl
  refine lv_iload_n hx hb dX8_depth_25 rfl (lv_at hl 0 rfl) ?_
  cases hm
  exact W.iret hx hb hr (fun t ht hW => ⟨⟨_, (), rfl, rfl, tPost_of hP ht⟩, hS.F ht⟩) hS.2.2 dX8_depth_26
abbrev rmX8_boothTold : Room := { frames := 2, cells := 1, slots := 11, locals := 47 }
set_option maxHeartbeats 4000000 in
set_option maxRecDepth 100000 in
theorem mX8_boothTold (l : Launch) (D : va_G) (cA : Nat → ClassId) (base sz : Nat) (μ : MM) {q : Nat} (hq : kc q = 8) (a1 : Int32) (a2 : Int32) {r : Int32} {μ' : MM} (hm : X8_boothTold q a1 a2 μ = some (r, μ')) : Met l yX8_boothTold wsX8_boothTold rmX8_boothTold (va_Pc [.ref (base + q), .int a1, .int a2] (tPre D cA base sz μ)) (va_Qi (fun (x : Int32) (_ : Unit) => x = r) (fun _ => tPost D cA base μ') (tA base sz)) 1 11 (tA base sz) := by
  refine Met.ofW (cc := cX8_boothTold) (maxL := 4) (ret := (some .int)) (by decide +kernel) rfl ?_
  intro p e s m args below meth c s₁ B hml hv
  obtain ⟨rfl, hsz, hP, hK, hN⟩ := hv
  have hx := B.exec
  have hb := B.bytes
  have hr := B.returns
  have hts := atoms_spec (ws := wsX8_boothTold) B.pre
  have hown : s.vm.findClass RX8 = some m.cls := findClass_of_methodNamed B.named
  have hlocks := B.notSynchronized
  have hin7 : ∀ w ∈ wsX70, w ∈ wsX8_boothTold := by decide +kernel
  have hin8 : ∀ w ∈ wsX80, w ∈ wsX8_boothTold := by decide +kernel
  subst hsz
  have hS : va_S (tA base s.heap.size) s.heap s.heap [] := va_S.rf
  have hz : s.heap.size ≤ s.heap.size := Nat.le_refl _
  have hl := lv_entry ([.ref (base + q), .int a1, .int a2]) (n := 4) (Nat.le_of_ble_eq_true rfl)
  rw [lg_entry_eq]
  generalize (lg_sl ([.ref (base + q), .int a1, .int a2]) ++ List.replicate (4 - (lg_sl ([.ref (base + q), .int a1, .int a2])).length) Slot.unset).toArray = ls at hl ⊢
  have hl : lv_has ls 4 [(0, .ref (base + q)), (1, .int a1), (2, .int a2)] := hl
  unfold X8_boothTold at hm
  refine lv_iload_n hx hb dX8_boothTold_0 rfl (lv_at hl 2 rfl) ?_
  refine lv_bipush (v := (11 : Int32)) hx hb dX8_boothTold_1 (by decide) ?_
  refine lv_icmp_ne (tgt := 15) hx hb dX8_boothTold_3 (by decide) (fun c1 => ?_) (fun c1 => ?_)
  · rw [if_neg c1] at hm
    refine lv_bipush (v := (11 : Int32)) hx hb dX8_boothTold_15 (by decide) ?_
    refine t_newi (N' := 11) hx hb (hts _ (List.mem_of_getElem? (i := 2) rfl)) hK hP hS hz (by decide) (by decide) (by decide) (Nat.le_of_ble_eq_true rfl) (Nat.le_of_ble_eq_true rfl) dX8_boothTold_17 (fun qt cT H hKt hP hDt hS => ?_)
    refine lv_dup hx hb dX8_boothTold_19 rfl ?_
    refine lv_iconst (v := (0 : Int32)) hx hb dX8_boothTold_20 (by decide) ?_
    refine lv_aload_n hx hb dX8_boothTold_21 rfl (lv_at hl 0 rfl) ?_
    refine t_getr (C := RX8) (T := TX8) (N := 3) hx hb hts hin8 hown hK hP hq rfl rfl 1 (by decide) (fr8_1 hq) (hts _ (List.mem_of_getElem? (i := 1) rfl)) dX8_boothTold_22 ?_
    refine t_getrN (C := RX7) (T := TX7) (N := 26) hx hb hts hin7 hown hK hP (kr8_1 hq) rfl rfl 12 (by decide) (fr7_12 (kr8_1 hq)) hN (i := 7) rfl dX8_boothTold_25 ?_
    refine lv_iload_n hx hb dX8_boothTold_28 rfl (lv_at hl 1 rfl) ?_
    obtain ⟨hg2, hm⟩ := gd_inv hm
    refine t_iald hx hb hK hP (kr7_12 (kr8_1 hq)) hg2 dX8_boothTold_29 ?_
    refine t_iastT hx hb hKt hP hDt hS (i := (0 : Int32)) (by unfold vp_in; decide) dX8_boothTold_30 (fun H locs hP hDt hS => ?_)
    refine lv_dup hx hb dX8_boothTold_31 rfl ?_
    refine lv_iconst (v := (1 : Int32)) hx hb dX8_boothTold_32 (by decide) ?_
    refine lv_aload_n hx hb dX8_boothTold_33 rfl (lv_at hl 0 rfl) ?_
    refine t_getr (C := RX8) (T := TX8) (N := 3) hx hb hts hin8 hown hK hP hq rfl rfl 1 (by decide) (fr8_1 hq) (hts _ (List.mem_of_getElem? (i := 1) rfl)) dX8_boothTold_34 ?_
    refine t_getrN (C := RX7) (T := TX7) (N := 26) hx hb hts hin7 hown hK hP (kr8_1 hq) rfl rfl 13 (by decide) (fr7_13 (kr8_1 hq)) hN (i := 8) rfl dX8_boothTold_37 ?_
    refine lv_iload_n hx hb dX8_boothTold_40 rfl (lv_at hl 1 rfl) ?_
    obtain ⟨hg3, hm⟩ := gd_inv hm
    refine t_iald hx hb hK hP (kr7_13 (kr8_1 hq)) hg3 dX8_boothTold_41 ?_
    refine t_iastT hx hb hKt hP hDt hS (i := (1 : Int32)) (by unfold vp_in; decide) dX8_boothTold_42 (fun H locs hP hDt hS => ?_)
    refine lv_dup hx hb dX8_boothTold_43 rfl ?_
    refine lv_iconst (v := (2 : Int32)) hx hb dX8_boothTold_44 (by decide) ?_
    refine lv_aload_n hx hb dX8_boothTold_45 rfl (lv_at hl 0 rfl) ?_
    refine t_getr (C := RX8) (T := TX8) (N := 3) hx hb hts hin8 hown hK hP hq rfl rfl 1 (by decide) (fr8_1 hq) (hts _ (List.mem_of_getElem? (i := 1) rfl)) dX8_boothTold_46 ?_
    refine t_getrN (C := RX7) (T := TX7) (N := 26) hx hb hts hin7 hown hK hP (kr8_1 hq) rfl rfl 14 (by decide) (fr7_14 (kr8_1 hq)) hN (i := 9) rfl dX8_boothTold_49 ?_
    refine lv_iload_n hx hb dX8_boothTold_52 rfl (lv_at hl 1 rfl) ?_
    obtain ⟨hg4, hm⟩ := gd_inv hm
    refine t_iald hx hb hK hP (kr7_14 (kr8_1 hq)) hg4 dX8_boothTold_53 ?_
    refine t_iastT hx hb hKt hP hDt hS (i := (2 : Int32)) (by unfold vp_in; decide) dX8_boothTold_54 (fun H locs hP hDt hS => ?_)
    refine lv_dup hx hb dX8_boothTold_55 rfl ?_
    refine lv_iconst (v := (3 : Int32)) hx hb dX8_boothTold_56 (by decide) ?_
    refine lv_aload_n hx hb dX8_boothTold_57 rfl (lv_at hl 0 rfl) ?_
    refine t_getr (C := RX8) (T := TX8) (N := 3) hx hb hts hin8 hown hK hP hq rfl rfl 1 (by decide) (fr8_1 hq) (hts _ (List.mem_of_getElem? (i := 1) rfl)) dX8_boothTold_58 ?_
    refine t_getrN (C := RX7) (T := TX7) (N := 26) hx hb hts hin7 hown hK hP (kr8_1 hq) rfl rfl 15 (by decide) (fr7_15 (kr8_1 hq)) hN (i := 10) rfl dX8_boothTold_61 ?_
    refine lv_iload_n hx hb dX8_boothTold_64 rfl (lv_at hl 1 rfl) ?_
    obtain ⟨hg5, hm⟩ := gd_inv hm
    refine t_iald hx hb hK hP (kr7_15 (kr8_1 hq)) hg5 dX8_boothTold_65 ?_
    refine t_iastT hx hb hKt hP hDt hS (i := (3 : Int32)) (by unfold vp_in; decide) dX8_boothTold_66 (fun H locs hP hDt hS => ?_)
    refine lv_dup hx hb dX8_boothTold_67 rfl ?_
    refine lv_iconst (v := (4 : Int32)) hx hb dX8_boothTold_68 (by decide) ?_
    refine lv_aload_n hx hb dX8_boothTold_69 rfl (lv_at hl 0 rfl) ?_
    refine t_getr (C := RX8) (T := TX8) (N := 3) hx hb hts hin8 hown hK hP hq rfl rfl 1 (by decide) (fr8_1 hq) (hts _ (List.mem_of_getElem? (i := 1) rfl)) dX8_boothTold_70 ?_
    refine t_getrN (C := RX7) (T := TX7) (N := 26) hx hb hts hin7 hown hK hP (kr8_1 hq) rfl rfl 16 (by decide) (fr7_16 (kr8_1 hq)) hN (i := 11) rfl dX8_boothTold_73 ?_
    refine lv_iload_n hx hb dX8_boothTold_76 rfl (lv_at hl 1 rfl) ?_
    obtain ⟨hg6, hm⟩ := gd_inv hm
    refine t_iald hx hb hK hP (kr7_16 (kr8_1 hq)) hg6 dX8_boothTold_77 ?_
    refine t_iastT hx hb hKt hP hDt hS (i := (4 : Int32)) (by unfold vp_in; decide) dX8_boothTold_78 (fun H locs hP hDt hS => ?_)
    refine lv_dup hx hb dX8_boothTold_79 rfl ?_
    refine lv_iconst (v := (5 : Int32)) hx hb dX8_boothTold_80 (by decide) ?_
    refine lv_aload_n hx hb dX8_boothTold_81 rfl (lv_at hl 0 rfl) ?_
    refine t_getr (C := RX8) (T := TX8) (N := 3) hx hb hts hin8 hown hK hP hq rfl rfl 1 (by decide) (fr8_1 hq) (hts _ (List.mem_of_getElem? (i := 1) rfl)) dX8_boothTold_82 ?_
    refine t_getrN (C := RX7) (T := TX7) (N := 26) hx hb hts hin7 hown hK hP (kr8_1 hq) rfl rfl 19 (by decide) (fr7_19 (kr8_1 hq)) hN (i := 13) rfl dX8_boothTold_85 ?_
    refine lv_iload_n hx hb dX8_boothTold_88 rfl (lv_at hl 1 rfl) ?_
    obtain ⟨hg7, hm⟩ := gd_inv hm
    refine t_iald hx hb hK hP (kr7_19 (kr8_1 hq)) hg7 dX8_boothTold_89 ?_
    refine t_iastT hx hb hKt hP hDt hS (i := (5 : Int32)) (by unfold vp_in; decide) dX8_boothTold_90 (fun H locs hP hDt hS => ?_)
    refine lv_dup hx hb dX8_boothTold_91 rfl ?_
    refine lv_bipush (v := (6 : Int32)) hx hb dX8_boothTold_92 (by decide) ?_
    refine lv_aload_n hx hb dX8_boothTold_94 rfl (lv_at hl 0 rfl) ?_
    refine t_getr (C := RX8) (T := TX8) (N := 3) hx hb hts hin8 hown hK hP hq rfl rfl 1 (by decide) (fr8_1 hq) (hts _ (List.mem_of_getElem? (i := 1) rfl)) dX8_boothTold_95 ?_
    refine t_getrN (C := RX7) (T := TX7) (N := 26) hx hb hts hin7 hown hK hP (kr8_1 hq) rfl rfl 22 (by decide) (fr7_22 (kr8_1 hq)) hN (i := 14) rfl dX8_boothTold_98 ?_
    refine lv_iload_n hx hb dX8_boothTold_101 rfl (lv_at hl 1 rfl) ?_
    refine lv_iconst (v := (1 : Int32)) hx hb dX8_boothTold_102 (by decide) ?_
    refine lv_iadd hx hb dX8_boothTold_103 ?_
    obtain ⟨hg8, hm⟩ := gd_inv hm
    refine t_iald hx hb hK hP (kr7_22 (kr8_1 hq)) hg8 dX8_boothTold_104 ?_
    refine t_iastT hx hb hKt hP hDt hS (i := (6 : Int32)) (by unfold vp_in; decide) dX8_boothTold_105 (fun H locs hP hDt hS => ?_)
    refine lv_dup hx hb dX8_boothTold_106 rfl ?_
    refine lv_bipush (v := (7 : Int32)) hx hb dX8_boothTold_107 (by decide) ?_
    refine lv_aload_n hx hb dX8_boothTold_109 rfl (lv_at hl 0 rfl) ?_
    refine t_getr (C := RX8) (T := TX8) (N := 3) hx hb hts hin8 hown hK hP hq rfl rfl 1 (by decide) (fr8_1 hq) (hts _ (List.mem_of_getElem? (i := 1) rfl)) dX8_boothTold_110 ?_
    refine t_getrN (C := RX7) (T := TX7) (N := 26) hx hb hts hin7 hown hK hP (kr8_1 hq) rfl rfl 17 (by decide) (fr7_17 (kr8_1 hq)) hN (i := 15) rfl dX8_boothTold_113 ?_
    refine lv_iload_n hx hb dX8_boothTold_116 rfl (lv_at hl 1 rfl) ?_
    obtain ⟨hg9, hm⟩ := gd_inv hm
    refine t_iald hx hb hK hP (kr7_17 (kr8_1 hq)) hg9 dX8_boothTold_117 ?_
    refine t_iastT hx hb hKt hP hDt hS (i := (7 : Int32)) (by unfold vp_in; decide) dX8_boothTold_118 (fun H locs hP hDt hS => ?_)
    refine lv_dup hx hb dX8_boothTold_119 rfl ?_
    refine lv_bipush (v := (8 : Int32)) hx hb dX8_boothTold_120 (by decide) ?_
    refine lv_aload_n hx hb dX8_boothTold_122 rfl (lv_at hl 0 rfl) ?_
    refine lv_iload_n hx hb dX8_boothTold_123 rfl (lv_at hl 1 rfl) ?_
    obtain ⟨r10, hc11, hm⟩ := bO1_inv hm
    refine t_cViT (As := [.int a1]) (rest := [.int (8 : Int32), .ref qt, .ref qt]) (r := r10) ⟨hx, hb, hml, hown, hts⟩ (mX8_depth l D cA base H.size μ hq a1 hc11) (cwV 1 hts gX8_boothTold_X8_depth rfl rfl rfl (by decide +kernel) ⟨Nat.le_of_ble_eq_true rfl, Nat.le_of_ble_eq_true rfl⟩) (va_recv hK hP (q0 := q) rfl (tw_obj hq (by decide))) hK hN hP hDt hS hz rfl hl.1 (Nat.le_of_ble_eq_true rfl) dX8_boothTold_124 ⟨Nat.le_of_ble_eq_true rfl, Nat.le_of_ble_eq_true rfl⟩ rfl (fun H locs hP hDt hS => ?_)
    refine t_iastT hx hb hKt hP hDt hS (i := (8 : Int32)) (by unfold vp_in; decide) dX8_boothTold_127 (fun H locs hP hDt hS => ?_)
    refine lv_dup hx hb dX8_boothTold_128 rfl ?_
    refine lv_bipush (v := (9 : Int32)) hx hb dX8_boothTold_129 (by decide) ?_
    refine lv_aload_n hx hb dX8_boothTold_131 rfl (lv_at hl 0 rfl) ?_
    refine t_getr (C := RX8) (T := TX8) (N := 3) hx hb hts hin8 hown hK hP hq rfl rfl 1 (by decide) (fr8_1 hq) (hts _ (List.mem_of_getElem? (i := 1) rfl)) dX8_boothTold_132 ?_
    refine t_getrN (C := RX7) (T := TX7) (N := 26) hx hb hts hin7 hown hK hP (kr8_1 hq) rfl rfl 18 (by decide) (fr7_18 (kr8_1 hq)) hN (i := 12) rfl dX8_boothTold_135 ?_
    refine lv_iload_n hx hb dX8_boothTold_138 rfl (lv_at hl 1 rfl) ?_
    obtain ⟨hg12, hm⟩ := gd_inv hm
    refine t_iald hx hb hK hP (kr7_18 (kr8_1 hq)) hg12 dX8_boothTold_139 ?_
    refine lv_iconst (v := (-1 : Int32)) hx hb dX8_boothTold_140 (by decide) ?_
    refine lv_icmp_ne (tgt := 148) hx hb dX8_boothTold_141 (by decide) (fun c13 => ?_) (fun c13 => ?_)
    · rw [if_neg c13] at hm
      refine lv_iconst (v := (1 : Int32)) hx hb dX8_boothTold_148 (by decide) ?_
      refine t_iastT hx hb hKt hP hDt hS (i := (9 : Int32)) (by unfold vp_in; decide) dX8_boothTold_149 (fun H locs hP hDt hS => ?_)
      refine lv_dup hx hb dX8_boothTold_150 rfl ?_
      refine lv_bipush (v := (10 : Int32)) hx hb dX8_boothTold_151 (by decide) ?_
      refine lv_aload_n hx hb dX8_boothTold_153 rfl (lv_at hl 0 rfl) ?_
      refine t_getr (C := RX8) (T := TX8) (N := 3) hx hb hts hin8 hown hK hP hq rfl rfl 1 (by decide) (fr8_1 hq) (hts _ (List.mem_of_getElem? (i := 1) rfl)) dX8_boothTold_154 ?_
      refine lv_iload_n hx hb dX8_boothTold_157 rfl (lv_at hl 1 rfl) ?_
      obtain ⟨r14, hc15, hm⟩ := bO1_inv hm
      refine t_cViT (As := [.int a1]) (rest := [.int (10 : Int32), .ref qt, .ref qt]) (r := r14) ⟨hx, hb, hml, hown, hts⟩ (mX7_isAble l D cA base H.size μ (kr8_1 hq) a1 hc15) (cwV 1 hts gX8_boothTold_X7_isAble rfl rfl rfl (by decide +kernel) ⟨Nat.le_of_ble_eq_true rfl, Nat.le_of_ble_eq_true rfl⟩) (va_recv hK hP (q0 := RF q 1) rfl (tw_obj (kr8_1 hq) (by decide))) hK hN hP hDt hS hz rfl hl.1 (Nat.le_of_ble_eq_true rfl) dX8_boothTold_158 ⟨Nat.le_of_ble_eq_true rfl, Nat.le_of_ble_eq_true rfl⟩ rfl (fun H locs hP hDt hS => ?_)
      refine lv_if_eq (tgt := 168) hx hb dX8_boothTold_161 (by decide) (fun c16 => ?_) (fun c16 => ?_)
      · rw [if_pos c16] at hm
        refine lv_iconst (v := (0 : Int32)) hx hb dX8_boothTold_168 (by decide) ?_
        refine t_iastT hx hb hKt hP hDt hS (i := (10 : Int32)) (by unfold vp_in; decide) dX8_boothTold_169 (fun H locs hP hDt hS => ?_)
        refine lv_astore_n (lv' := [(3, .ref qt), (0, .ref (base + q)), (1, .int a1), (2, .int a2)]) hx hb dX8_boothTold_170 rfl hl (by decide) rfl (fun ls hl => ?_)
        refine lv_aload_n hx hb dX8_boothTold_171 rfl (lv_at hl 0 rfl) ?_
        refine lv_iload_n hx hb dX8_boothTold_172 rfl (lv_at hl 3 rfl) ?_
        obtain ⟨hg17, hm⟩ := gd_inv hm
        refine t_ialdT hx hb hKt hP hg17 dX8_boothTold_173 ?_
        cases hm
        refine W.widen (k := 1) (n := 11) (Nat.le_of_ble_eq_true rfl) (Nat.le_of_ble_eq_true rfl) ?_
        exact W.iret hx hb hr (fun t ht hW => ⟨⟨_, (), rfl, rfl, tPost_of (tw_drop hP) ht⟩, hS.F ht⟩) hS.2.2 dX8_boothTold_174
      · rw [if_neg c16] at hm
        refine lv_iconst (v := (1 : Int32)) hx hb dX8_boothTold_164 (by decide) ?_
        refine lv_goto (tgt := 169) hx hb dX8_boothTold_165 (by decide) ?_
        refine t_iastT hx hb hKt hP hDt hS (i := (10 : Int32)) (by unfold vp_in; decide) dX8_boothTold_169 (fun H locs hP hDt hS => ?_)
        refine lv_astore_n (lv' := [(3, .ref qt), (0, .ref (base + q)), (1, .int a1), (2, .int a2)]) hx hb dX8_boothTold_170 rfl hl (by decide) rfl (fun ls hl => ?_)
        refine lv_aload_n hx hb dX8_boothTold_171 rfl (lv_at hl 0 rfl) ?_
        refine lv_iload_n hx hb dX8_boothTold_172 rfl (lv_at hl 3 rfl) ?_
        obtain ⟨hg18, hm⟩ := gd_inv hm
        refine t_ialdT hx hb hKt hP hg18 dX8_boothTold_173 ?_
        cases hm
        refine W.widen (k := 1) (n := 11) (Nat.le_of_ble_eq_true rfl) (Nat.le_of_ble_eq_true rfl) ?_
        exact W.iret hx hb hr (fun t ht hW => ⟨⟨_, (), rfl, rfl, tPost_of (tw_drop hP) ht⟩, hS.F ht⟩) hS.2.2 dX8_boothTold_174
    · rw [if_pos c13] at hm
      refine lv_iconst (v := (0 : Int32)) hx hb dX8_boothTold_144 (by decide) ?_
      refine lv_goto (tgt := 149) hx hb dX8_boothTold_145 (by decide) ?_
      refine t_iastT hx hb hKt hP hDt hS (i := (9 : Int32)) (by unfold vp_in; decide) dX8_boothTold_149 (fun H locs hP hDt hS => ?_)
      refine lv_dup hx hb dX8_boothTold_150 rfl ?_
      refine lv_bipush (v := (10 : Int32)) hx hb dX8_boothTold_151 (by decide) ?_
      refine lv_aload_n hx hb dX8_boothTold_153 rfl (lv_at hl 0 rfl) ?_
      refine t_getr (C := RX8) (T := TX8) (N := 3) hx hb hts hin8 hown hK hP hq rfl rfl 1 (by decide) (fr8_1 hq) (hts _ (List.mem_of_getElem? (i := 1) rfl)) dX8_boothTold_154 ?_
      refine lv_iload_n hx hb dX8_boothTold_157 rfl (lv_at hl 1 rfl) ?_
      obtain ⟨r19, hc20, hm⟩ := bO1_inv hm
      refine t_cViT (As := [.int a1]) (rest := [.int (10 : Int32), .ref qt, .ref qt]) (r := r19) ⟨hx, hb, hml, hown, hts⟩ (mX7_isAble l D cA base H.size μ (kr8_1 hq) a1 hc20) (cwV 1 hts gX8_boothTold_X7_isAble rfl rfl rfl (by decide +kernel) ⟨Nat.le_of_ble_eq_true rfl, Nat.le_of_ble_eq_true rfl⟩) (va_recv hK hP (q0 := RF q 1) rfl (tw_obj (kr8_1 hq) (by decide))) hK hN hP hDt hS hz rfl hl.1 (Nat.le_of_ble_eq_true rfl) dX8_boothTold_158 ⟨Nat.le_of_ble_eq_true rfl, Nat.le_of_ble_eq_true rfl⟩ rfl (fun H locs hP hDt hS => ?_)
      refine lv_if_eq (tgt := 168) hx hb dX8_boothTold_161 (by decide) (fun c21 => ?_) (fun c21 => ?_)
      · rw [if_pos c21] at hm
        refine lv_iconst (v := (0 : Int32)) hx hb dX8_boothTold_168 (by decide) ?_
        refine t_iastT hx hb hKt hP hDt hS (i := (10 : Int32)) (by unfold vp_in; decide) dX8_boothTold_169 (fun H locs hP hDt hS => ?_)
        refine lv_astore_n (lv' := [(3, .ref qt), (0, .ref (base + q)), (1, .int a1), (2, .int a2)]) hx hb dX8_boothTold_170 rfl hl (by decide) rfl (fun ls hl => ?_)
        refine lv_aload_n hx hb dX8_boothTold_171 rfl (lv_at hl 0 rfl) ?_
        refine lv_iload_n hx hb dX8_boothTold_172 rfl (lv_at hl 3 rfl) ?_
        obtain ⟨hg22, hm⟩ := gd_inv hm
        refine t_ialdT hx hb hKt hP hg22 dX8_boothTold_173 ?_
        cases hm
        refine W.widen (k := 1) (n := 11) (Nat.le_of_ble_eq_true rfl) (Nat.le_of_ble_eq_true rfl) ?_
        exact W.iret hx hb hr (fun t ht hW => ⟨⟨_, (), rfl, rfl, tPost_of (tw_drop hP) ht⟩, hS.F ht⟩) hS.2.2 dX8_boothTold_174
      · rw [if_neg c21] at hm
        refine lv_iconst (v := (1 : Int32)) hx hb dX8_boothTold_164 (by decide) ?_
        refine lv_goto (tgt := 169) hx hb dX8_boothTold_165 (by decide) ?_
        refine t_iastT hx hb hKt hP hDt hS (i := (10 : Int32)) (by unfold vp_in; decide) dX8_boothTold_169 (fun H locs hP hDt hS => ?_)
        refine lv_astore_n (lv' := [(3, .ref qt), (0, .ref (base + q)), (1, .int a1), (2, .int a2)]) hx hb dX8_boothTold_170 rfl hl (by decide) rfl (fun ls hl => ?_)
        refine lv_aload_n hx hb dX8_boothTold_171 rfl (lv_at hl 0 rfl) ?_
        refine lv_iload_n hx hb dX8_boothTold_172 rfl (lv_at hl 3 rfl) ?_
        obtain ⟨hg23, hm⟩ := gd_inv hm
        refine t_ialdT hx hb hKt hP hg23 dX8_boothTold_173 ?_
        cases hm
        refine W.widen (k := 1) (n := 11) (Nat.le_of_ble_eq_true rfl) (Nat.le_of_ble_eq_true rfl) ?_
        exact W.iret hx hb hr (fun t ht hW => ⟨⟨_, (), rfl, rfl, tPost_of (tw_drop hP) ht⟩, hS.F ht⟩) hS.2.2 dX8_boothTold_174
  · rw [if_pos c1] at hm
    refine lv_aload_n hx hb dX8_boothTold_6 rfl (lv_at hl 0 rfl) ?_
    refine t_getr (C := RX8) (T := TX8) (N := 3) hx hb hts hin8 hown hK hP hq rfl rfl 1 (by decide) (fr8_1 hq) (hts _ (List.mem_of_getElem? (i := 1) rfl)) dX8_boothTold_7 ?_
    refine lv_iload_n hx hb dX8_boothTold_10 rfl (lv_at hl 1 rfl) ?_
    obtain ⟨r24, μ25, hc26, hm⟩ := bO2_inv hm
    refine t_cVi (As := [.int a1]) (rest := []) (μ' := μ25) (r := r24) ⟨hx, hb, hml, hown, hts⟩ (mX7_through l D cA base s.heap.size μ (kr8_1 hq) a1 hc26) (cwV 1 hts gX8_boothTold_X7_through rfl rfl rfl (by decide +kernel) ⟨Nat.le_of_ble_eq_true rfl, Nat.le_of_ble_eq_true rfl⟩) (va_recv hK hP (q0 := RF q 1) rfl (tw_obj (kr8_1 hq) (by decide))) hK hN hP hS hz rfl hl.1 (Nat.le_of_ble_eq_true rfl) dX8_boothTold_11 ⟨Nat.le_of_ble_eq_true rfl, Nat.le_of_ble_eq_true rfl⟩ rfl (fun H locs hP hS => ?_)
    cases hm
    refine W.widen (k := 1) (n := 11) (Nat.le_of_ble_eq_true rfl) (Nat.le_of_ble_eq_true rfl) ?_
    exact W.iret hx hb hr (fun t ht hW => ⟨⟨_, (), rfl, rfl, tPost_of hP ht⟩, hS.F ht⟩) hS.2.2 dX8_boothTold_14
abbrev rmX8_booth : Room := { frames := 3, cells := 1, slots := 11, locals := 70 }
set_option maxHeartbeats 4000000 in
set_option maxRecDepth 100000 in
theorem mX8_booth (l : Launch) (D : va_G) (cA : Nat → ClassId) (base sz : Nat) (μ : MM) {q : Nat} (hq : kc q = 8) (a1 : Int32) (a2 : Int32) {r : Int32} {μ' : MM} (hm : X8_booth q a1 a2 μ = some (r, μ')) : Met l yX8_booth wsX8_booth rmX8_booth (va_Pc [.ref (base + q), .int a1, .int a2] (tPre D cA base sz μ)) (va_Qi (fun (x : Int32) (_ : Unit) => x = r) (fun _ => tPost D cA base μ') (tA base sz)) 1 11 (tA base sz) := by
  refine Met.ofW (cc := cX8_booth) (maxL := 3) (ret := (some .int)) (by decide +kernel) rfl ?_
  intro p e s m args below meth c s₁ B hml hv
  obtain ⟨rfl, hsz, hP, hK, hN⟩ := hv
  have hx := B.exec
  have hb := B.bytes
  have hr := B.returns
  have hts := atoms_spec (ws := wsX8_booth) B.pre
  have hown : s.vm.findClass RX8 = some m.cls := findClass_of_methodNamed B.named
  have hlocks := B.notSynchronized
  have hin8 : ∀ w ∈ wsX80, w ∈ wsX8_booth := by decide +kernel
  subst hsz
  have hS : va_S (tA base s.heap.size) s.heap s.heap [] := va_S.rf
  have hz : s.heap.size ≤ s.heap.size := Nat.le_refl _
  have hl := lv_entry ([.ref (base + q), .int a1, .int a2]) (n := 3) (Nat.le_of_ble_eq_true rfl)
  rw [lg_entry_eq]
  generalize (lg_sl ([.ref (base + q), .int a1, .int a2]) ++ List.replicate (3 - (lg_sl ([.ref (base + q), .int a1, .int a2])).length) Slot.unset).toArray = ls at hl ⊢
  have hl : lv_has ls 3 [(0, .ref (base + q)), (1, .int a1), (2, .int a2)] := hl
  unfold X8_booth at hm
  refine lv_aload_n hx hb dX8_booth_0 rfl (lv_at hl 0 rfl) ?_
  refine lv_iconst (v := (0 : Int32)) hx hb dX8_booth_1 (by decide) ?_
  refine t_put (C := RX8) (T := TX8) (N := 3) hx hb hts hin8 tyX8 tyX8_ok nmX8 hown hK hP (tD _ _ _ _) hS hq rfl rfl 0 (by decide) (fk8_0 hq) (hts _ (List.mem_of_getElem? (i := 1) rfl)) rfl (by decide +kernel) dX8_booth_2 (fun H locs hP hS => ?_)
  obtain ⟨μ1, eμ1⟩ : ∃ z : MM, z = wI μ q 0 (0 : Int32) := ⟨_, rfl⟩
  rw [← eμ1] at hP
  replace hm := bV_of hm eμ1
  refine lv_aload_n hx hb dX8_booth_5 rfl (lv_at hl 0 rfl) ?_
  refine lv_iload_n hx hb dX8_booth_6 rfl (lv_at hl 1 rfl) ?_
  refine t_cVi (As := [.int a1]) (rest := []) (μ' := μ1) (r := (X8_isBooth q a1 μ1)) ⟨hx, hb, hml, hown, hts⟩ (mX8_isBooth l D cA base H.size μ1 hq a1 rfl) (cwV 1 hts gX8_booth_X8_isBooth rfl rfl rfl (by decide +kernel) ⟨Nat.le_of_ble_eq_true rfl, Nat.le_of_ble_eq_true rfl⟩) (va_recv hK hP (q0 := q) rfl (tw_obj hq (by decide))) hK hN hP hS hz rfl hl.1 (Nat.le_of_ble_eq_true rfl) dX8_booth_7 ⟨Nat.le_of_ble_eq_true rfl, Nat.le_of_ble_eq_true rfl⟩ rfl (fun H locs hP hS => ?_)
  refine lv_if_eq (tgt := 32) hx hb dX8_booth_10 (by decide) (fun c4 => ?_) (fun c4 => ?_)
  · rw [if_pos c4] at hm
    refine lv_aload_n hx hb dX8_booth_32 rfl (lv_at hl 0 rfl) ?_
    refine lv_iconst (v := (1 : Int32)) hx hb dX8_booth_33 (by decide) ?_
    obtain ⟨⟨r5, μ6⟩, hc7⟩ : ∃ z, X8_no q (1 : Int32) μ1 = z := ⟨_, rfl⟩
    replace hm := bP_of hm hc7
    refine t_cVi (As := [.int (1 : Int32)]) (rest := []) (μ' := μ6) (r := r5) ⟨hx, hb, hml, hown, hts⟩ (mX8_no l D cA base H.size μ1 hq (1 : Int32) hc7) (cwV 1 hts gX8_booth_X8_no rfl rfl rfl (by decide +kernel) ⟨Nat.le_of_ble_eq_true rfl, Nat.le_of_ble_eq_true rfl⟩) (va_recv hK hP (q0 := q) rfl (tw_obj hq (by decide))) hK hN hP hS hz rfl hl.1 (Nat.le_of_ble_eq_true rfl) dX8_booth_34 ⟨Nat.le_of_ble_eq_true rfl, Nat.le_of_ble_eq_true rfl⟩ rfl (fun H locs hP hS => ?_)
    cases hm
    refine W.widen (k := 1) (n := 11) (Nat.le_of_ble_eq_true rfl) (Nat.le_of_ble_eq_true rfl) ?_
    exact W.iret hx hb hr (fun t ht hW => ⟨⟨_, (), rfl, rfl, tPost_of hP ht⟩, hS.F ht⟩) hS.2.2 dX8_booth_37
  · rw [if_neg c4] at hm
    refine lv_iload_n hx hb dX8_booth_13 rfl (lv_at hl 2 rfl) ?_
    refine lv_iconst (v := (0 : Int32)) hx hb dX8_booth_14 (by decide) ?_
    refine lv_bipush (v := (11 : Int32)) hx hb dX8_booth_15 (by decide) ?_
    refine t_cSi (As := [.int a2, .int (0 : Int32), .int (11 : Int32)]) (rest := []) (μ' := μ1) (r := (X8_isIn a2 (0 : Int32) (11 : Int32))) ⟨hx, hb, hml, hown, hts⟩ (mX8_isIn l D cA base H.size μ1 a2 (0 : Int32) (11 : Int32) rfl) (va_cwS 3 hts gX8_booth_X8_isIn rfl rfl rfl (by decide +kernel) ⟨Nat.le_of_ble_eq_true rfl, Nat.le_of_ble_eq_true rfl⟩) hK hN hP hS hz rfl hl.1 (Nat.le_of_ble_eq_true rfl) dX8_booth_17 ⟨Nat.le_of_ble_eq_true rfl, Nat.le_of_ble_eq_true rfl⟩ rfl (fun H locs hP hS => ?_)
    refine lv_if_eq (tgt := 32) hx hb dX8_booth_20 (by decide) (fun c10 => ?_) (fun c10 => ?_)
    · rw [if_pos c10] at hm
      refine lv_aload_n hx hb dX8_booth_32 rfl (lv_at hl 0 rfl) ?_
      refine lv_iconst (v := (1 : Int32)) hx hb dX8_booth_33 (by decide) ?_
      obtain ⟨⟨r11, μ12⟩, hc13⟩ : ∃ z, X8_no q (1 : Int32) μ1 = z := ⟨_, rfl⟩
      replace hm := bP_of hm hc13
      refine t_cVi (As := [.int (1 : Int32)]) (rest := []) (μ' := μ12) (r := r11) ⟨hx, hb, hml, hown, hts⟩ (mX8_no l D cA base H.size μ1 hq (1 : Int32) hc13) (cwV 1 hts gX8_booth_X8_no rfl rfl rfl (by decide +kernel) ⟨Nat.le_of_ble_eq_true rfl, Nat.le_of_ble_eq_true rfl⟩) (va_recv hK hP (q0 := q) rfl (tw_obj hq (by decide))) hK hN hP hS hz rfl hl.1 (Nat.le_of_ble_eq_true rfl) dX8_booth_34 ⟨Nat.le_of_ble_eq_true rfl, Nat.le_of_ble_eq_true rfl⟩ rfl (fun H locs hP hS => ?_)
      cases hm
      refine W.widen (k := 1) (n := 11) (Nat.le_of_ble_eq_true rfl) (Nat.le_of_ble_eq_true rfl) ?_
      exact W.iret hx hb hr (fun t ht hW => ⟨⟨_, (), rfl, rfl, tPost_of hP ht⟩, hS.F ht⟩) hS.2.2 dX8_booth_37
    · rw [if_neg c10] at hm
      refine lv_aload_n hx hb dX8_booth_23 rfl (lv_at hl 0 rfl) ?_
      refine lv_iload_n hx hb dX8_booth_24 rfl (lv_at hl 1 rfl) ?_
      refine lv_iload_n hx hb dX8_booth_25 rfl (lv_at hl 2 rfl) ?_
      obtain ⟨r14, μ15, hc16, hm⟩ := bO2_inv hm
      refine t_cVi (As := [.int a1, .int a2]) (rest := []) (μ' := μ15) (r := r14) ⟨hx, hb, hml, hown, hts⟩ (mX8_boothTold l D cA base H.size μ1 hq a1 a2 hc16) (cwV 2 hts gX8_booth_X8_boothTold rfl rfl rfl (by decide +kernel) ⟨Nat.le_of_ble_eq_true rfl, Nat.le_of_ble_eq_true rfl⟩) (va_recv hK hP (q0 := q) rfl (tw_obj hq (by decide))) hK hN hP hS hz rfl hl.1 (Nat.le_of_ble_eq_true rfl) dX8_booth_26 ⟨Nat.le_of_ble_eq_true rfl, Nat.le_of_ble_eq_true rfl⟩ rfl (fun H locs hP hS => ?_)
      refine lv_goto (tgt := 37) hx hb dX8_booth_29 (by decide) ?_
      cases hm
      refine W.widen (k := 1) (n := 11) (Nat.le_of_ble_eq_true rfl) (Nat.le_of_ble_eq_true rfl) ?_
      exact W.iret hx hb hr (fun t ht hW => ⟨⟨_, (), rfl, rfl, tPost_of hP ht⟩, hS.F ht⟩) hS.2.2 dX8_booth_37
abbrev rmX8_interpreterTold : Room := { frames := 1, cells := 1, slots := 7, locals := 23 }
set_option maxHeartbeats 4000000 in
set_option maxRecDepth 100000 in
theorem mX8_interpreterTold (l : Launch) (D : va_G) (cA : Nat → ClassId) (base sz : Nat) (μ : MM) {q : Nat} (hq : kc q = 8) (a1 : Int32) (a2 : Int32) {r : Int32} (hm : X8_interpreterTold q a1 a2 μ = some r) : Met l yX8_interpreterTold wsX8_interpreterTold rmX8_interpreterTold (va_Pc [.ref (base + q), .int a1, .int a2] (tPre D cA base sz μ)) (va_Qi (fun (x : Int32) (_ : Unit) => x = r) (fun _ => tPost D cA base μ) (tA base sz)) 1 7 (tA base sz) := by
  refine Met.ofW (cc := cX8_interpreterTold) (maxL := 4) (ret := (some .int)) (by decide +kernel) rfl ?_
  intro p e s m args below meth c s₁ B hml hv
  obtain ⟨rfl, hsz, hP, hK, hN⟩ := hv
  have hx := B.exec
  have hb := B.bytes
  have hr := B.returns
  have hts := atoms_spec (ws := wsX8_interpreterTold) B.pre
  have hown : s.vm.findClass RX8 = some m.cls := findClass_of_methodNamed B.named
  have hlocks := B.notSynchronized
  have hin7 : ∀ w ∈ wsX70, w ∈ wsX8_interpreterTold := by decide +kernel
  have hin8 : ∀ w ∈ wsX80, w ∈ wsX8_interpreterTold := by decide +kernel
  subst hsz
  have hS : va_S (tA base s.heap.size) s.heap s.heap [] := va_S.rf
  have hz : s.heap.size ≤ s.heap.size := Nat.le_refl _
  have hl := lv_entry ([.ref (base + q), .int a1, .int a2]) (n := 4) (Nat.le_of_ble_eq_true rfl)
  rw [lg_entry_eq]
  generalize (lg_sl ([.ref (base + q), .int a1, .int a2]) ++ List.replicate (4 - (lg_sl ([.ref (base + q), .int a1, .int a2])).length) Slot.unset).toArray = ls at hl ⊢
  have hl : lv_has ls 4 [(0, .ref (base + q)), (1, .int a1), (2, .int a2)] := hl
  unfold X8_interpreterTold at hm
  refine lv_bipush (v := (7 : Int32)) hx hb dX8_interpreterTold_0 (by decide) ?_
  refine t_newi (N' := 7) hx hb (hts _ (List.mem_of_getElem? (i := 1) rfl)) hK hP hS hz (by decide) (by decide) (by decide) (Nat.le_of_ble_eq_true rfl) (Nat.le_of_ble_eq_true rfl) dX8_interpreterTold_2 (fun qt cT H hKt hP hDt hS => ?_)
  refine lv_dup hx hb dX8_interpreterTold_4 rfl ?_
  refine lv_iconst (v := (0 : Int32)) hx hb dX8_interpreterTold_5 (by decide) ?_
  refine lv_aload_n hx hb dX8_interpreterTold_6 rfl (lv_at hl 0 rfl) ?_
  refine t_getr (C := RX8) (T := TX8) (N := 3) hx hb hts hin8 hown hK hP hq rfl rfl 1 (by decide) (fr8_1 hq) (hts _ (List.mem_of_getElem? (i := 2) rfl)) dX8_interpreterTold_7 ?_
  refine t_getrN (C := RX7) (T := TX7) (N := 26) hx hb hts hin7 hown hK hP (kr8_1 hq) rfl rfl 5 (by decide) (fr7_5 (kr8_1 hq)) hN (i := 5) rfl dX8_interpreterTold_10 ?_
  refine lv_iload_n hx hb dX8_interpreterTold_13 rfl (lv_at hl 1 rfl) ?_
  obtain ⟨hg1, hm⟩ := gd_inv hm
  refine t_iald hx hb hK hP (kr7_5 (kr8_1 hq)) hg1 dX8_interpreterTold_14 ?_
  refine t_iastT hx hb hKt hP hDt hS (i := (0 : Int32)) (by unfold vp_in; decide) dX8_interpreterTold_15 (fun H locs hP hDt hS => ?_)
  refine lv_dup hx hb dX8_interpreterTold_16 rfl ?_
  refine lv_iconst (v := (1 : Int32)) hx hb dX8_interpreterTold_17 (by decide) ?_
  refine lv_aload_n hx hb dX8_interpreterTold_18 rfl (lv_at hl 0 rfl) ?_
  refine t_getr (C := RX8) (T := TX8) (N := 3) hx hb hts hin8 hown hK hP hq rfl rfl 1 (by decide) (fr8_1 hq) (hts _ (List.mem_of_getElem? (i := 2) rfl)) dX8_interpreterTold_19 ?_
  refine t_getrN (C := RX7) (T := TX7) (N := 26) hx hb hts hin7 hown hK hP (kr8_1 hq) rfl rfl 6 (by decide) (fr7_6 (kr8_1 hq)) hN (i := 6) rfl dX8_interpreterTold_22 ?_
  refine lv_iload_n hx hb dX8_interpreterTold_25 rfl (lv_at hl 1 rfl) ?_
  obtain ⟨hg2, hm⟩ := gd_inv hm
  refine t_iald hx hb hK hP (kr7_6 (kr8_1 hq)) hg2 dX8_interpreterTold_26 ?_
  refine t_iastT hx hb hKt hP hDt hS (i := (1 : Int32)) (by unfold vp_in; decide) dX8_interpreterTold_27 (fun H locs hP hDt hS => ?_)
  refine lv_dup hx hb dX8_interpreterTold_28 rfl ?_
  refine lv_iconst (v := (2 : Int32)) hx hb dX8_interpreterTold_29 (by decide) ?_
  refine lv_aload_n hx hb dX8_interpreterTold_30 rfl (lv_at hl 0 rfl) ?_
  refine t_getr (C := RX8) (T := TX8) (N := 3) hx hb hts hin8 hown hK hP hq rfl rfl 1 (by decide) (fr8_1 hq) (hts _ (List.mem_of_getElem? (i := 2) rfl)) dX8_interpreterTold_31 ?_
  refine lv_iload_n hx hb dX8_interpreterTold_34 rfl (lv_at hl 1 rfl) ?_
  obtain ⟨r3, hc4, hm⟩ := bO1_inv hm
  refine t_cViT (As := [.int a1]) (rest := [.int (2 : Int32), .ref qt, .ref qt]) (r := r3) ⟨hx, hb, hml, hown, hts⟩ (mX7_boothOf l D cA base H.size μ (kr8_1 hq) a1 hc4) (cwV 1 hts gX8_interpreterTold_X7_boothOf rfl rfl rfl (by decide +kernel) ⟨Nat.le_of_ble_eq_true rfl, Nat.le_of_ble_eq_true rfl⟩) (va_recv hK hP (q0 := RF q 1) rfl (tw_obj (kr8_1 hq) (by decide))) hK hN hP hDt hS hz rfl hl.1 (Nat.le_of_ble_eq_true rfl) dX8_interpreterTold_35 ⟨Nat.le_of_ble_eq_true rfl, Nat.le_of_ble_eq_true rfl⟩ rfl (fun H locs hP hDt hS => ?_)
  refine t_iastT hx hb hKt hP hDt hS (i := (2 : Int32)) (by unfold vp_in; decide) dX8_interpreterTold_38 (fun H locs hP hDt hS => ?_)
  refine lv_dup hx hb dX8_interpreterTold_39 rfl ?_
  refine lv_iconst (v := (3 : Int32)) hx hb dX8_interpreterTold_40 (by decide) ?_
  refine lv_aload_n hx hb dX8_interpreterTold_41 rfl (lv_at hl 0 rfl) ?_
  refine t_getr (C := RX8) (T := TX8) (N := 3) hx hb hts hin8 hown hK hP hq rfl rfl 1 (by decide) (fr8_1 hq) (hts _ (List.mem_of_getElem? (i := 2) rfl)) dX8_interpreterTold_42 ?_
  refine t_getrN (C := RX7) (T := TX7) (N := 26) hx hb hts hin7 hown hK hP (kr8_1 hq) rfl rfl 7 (by decide) (fr7_7 (kr8_1 hq)) hN (i := 16) rfl dX8_interpreterTold_45 ?_
  refine lv_iload_n hx hb dX8_interpreterTold_48 rfl (lv_at hl 1 rfl) ?_
  obtain ⟨hg5, hm⟩ := gd_inv hm
  refine t_iald hx hb hK hP (kr7_7 (kr8_1 hq)) hg5 dX8_interpreterTold_49 ?_
  refine t_iastT hx hb hKt hP hDt hS (i := (3 : Int32)) (by unfold vp_in; decide) dX8_interpreterTold_50 (fun H locs hP hDt hS => ?_)
  refine lv_dup hx hb dX8_interpreterTold_51 rfl ?_
  refine lv_iconst (v := (4 : Int32)) hx hb dX8_interpreterTold_52 (by decide) ?_
  refine lv_aload_n hx hb dX8_interpreterTold_53 rfl (lv_at hl 0 rfl) ?_
  refine t_getr (C := RX8) (T := TX8) (N := 3) hx hb hts hin8 hown hK hP hq rfl rfl 1 (by decide) (fr8_1 hq) (hts _ (List.mem_of_getElem? (i := 2) rfl)) dX8_interpreterTold_54 ?_
  refine t_getrN (C := RX7) (T := TX7) (N := 26) hx hb hts hin7 hown hK hP (kr8_1 hq) rfl rfl 8 (by decide) (fr7_8 (kr8_1 hq)) hN (i := 17) rfl dX8_interpreterTold_57 ?_
  refine lv_iload_n hx hb dX8_interpreterTold_60 rfl (lv_at hl 1 rfl) ?_
  obtain ⟨hg6, hm⟩ := gd_inv hm
  refine t_iald hx hb hK hP (kr7_8 (kr8_1 hq)) hg6 dX8_interpreterTold_61 ?_
  refine t_iastT hx hb hKt hP hDt hS (i := (4 : Int32)) (by unfold vp_in; decide) dX8_interpreterTold_62 (fun H locs hP hDt hS => ?_)
  refine lv_dup hx hb dX8_interpreterTold_63 rfl ?_
  refine lv_iconst (v := (5 : Int32)) hx hb dX8_interpreterTold_64 (by decide) ?_
  refine lv_aload_n hx hb dX8_interpreterTold_65 rfl (lv_at hl 0 rfl) ?_
  refine t_getr (C := RX8) (T := TX8) (N := 3) hx hb hts hin8 hown hK hP hq rfl rfl 1 (by decide) (fr8_1 hq) (hts _ (List.mem_of_getElem? (i := 2) rfl)) dX8_interpreterTold_66 ?_
  refine t_getrN (C := RX7) (T := TX7) (N := 26) hx hb hts hin7 hown hK hP (kr8_1 hq) rfl rfl 9 (by decide) (fr7_9 (kr8_1 hq)) hN (i := 18) rfl dX8_interpreterTold_69 ?_
  refine lv_iload_n hx hb dX8_interpreterTold_72 rfl (lv_at hl 1 rfl) ?_
  obtain ⟨hg7, hm⟩ := gd_inv hm
  refine t_iald hx hb hK hP (kr7_9 (kr8_1 hq)) hg7 dX8_interpreterTold_73 ?_
  refine t_iastT hx hb hKt hP hDt hS (i := (5 : Int32)) (by unfold vp_in; decide) dX8_interpreterTold_74 (fun H locs hP hDt hS => ?_)
  refine lv_dup hx hb dX8_interpreterTold_75 rfl ?_
  refine lv_bipush (v := (6 : Int32)) hx hb dX8_interpreterTold_76 (by decide) ?_
  refine lv_aload_n hx hb dX8_interpreterTold_78 rfl (lv_at hl 0 rfl) ?_
  refine t_getr (C := RX8) (T := TX8) (N := 3) hx hb hts hin8 hown hK hP hq rfl rfl 1 (by decide) (fr8_1 hq) (hts _ (List.mem_of_getElem? (i := 2) rfl)) dX8_interpreterTold_79 ?_
  refine t_getrN (C := RX7) (T := TX7) (N := 26) hx hb hts hin7 hown hK hP (kr8_1 hq) rfl rfl 10 (by decide) (fr7_10 (kr8_1 hq)) hN (i := 19) rfl dX8_interpreterTold_82 ?_
  refine lv_iload_n hx hb dX8_interpreterTold_85 rfl (lv_at hl 1 rfl) ?_
  obtain ⟨hg8, hm⟩ := gd_inv hm
  refine t_iald hx hb hK hP (kr7_10 (kr8_1 hq)) hg8 dX8_interpreterTold_86 ?_
  refine t_iastT hx hb hKt hP hDt hS (i := (6 : Int32)) (by unfold vp_in; decide) dX8_interpreterTold_87 (fun H locs hP hDt hS => ?_)
  refine lv_astore_n (lv' := [(3, .ref qt), (0, .ref (base + q)), (1, .int a1), (2, .int a2)]) hx hb dX8_interpreterTold_88 rfl hl (by decide) rfl (fun ls hl => ?_)
  refine lv_aload_n hx hb dX8_interpreterTold_89 rfl (lv_at hl 0 rfl) ?_
  refine lv_iload_n hx hb dX8_interpreterTold_90 rfl (lv_at hl 3 rfl) ?_
  obtain ⟨hg9, hm⟩ := gd_inv hm
  refine t_ialdT hx hb hKt hP hg9 dX8_interpreterTold_91 ?_
  cases hm
  refine W.widen (k := 1) (n := 7) (Nat.le_of_ble_eq_true rfl) (Nat.le_of_ble_eq_true rfl) ?_
  exact W.iret hx hb hr (fun t ht hW => ⟨⟨_, (), rfl, rfl, tPost_of (tw_drop hP) ht⟩, hS.F ht⟩) hS.2.2 dX8_interpreterTold_92
abbrev rmX8_interpreter : Room := { frames := 2, cells := 1, slots := 7, locals := 46 }
set_option maxHeartbeats 4000000 in
set_option maxRecDepth 100000 in
theorem mX8_interpreter (l : Launch) (D : va_G) (cA : Nat → ClassId) (base sz : Nat) (μ : MM) {q : Nat} (hq : kc q = 8) (a1 : Int32) (a2 : Int32) {r : Int32} {μ' : MM} (hm : X8_interpreter q a1 a2 μ = some (r, μ')) : Met l yX8_interpreter wsX8_interpreter rmX8_interpreter (va_Pc [.ref (base + q), .int a1, .int a2] (tPre D cA base sz μ)) (va_Qi (fun (x : Int32) (_ : Unit) => x = r) (fun _ => tPost D cA base μ') (tA base sz)) 1 7 (tA base sz) := by
  refine Met.ofW (cc := cX8_interpreter) (maxL := 3) (ret := (some .int)) (by decide +kernel) rfl ?_
  intro p e s m args below meth c s₁ B hml hv
  obtain ⟨rfl, hsz, hP, hK, hN⟩ := hv
  have hx := B.exec
  have hb := B.bytes
  have hr := B.returns
  have hts := atoms_spec (ws := wsX8_interpreter) B.pre
  have hown : s.vm.findClass RX8 = some m.cls := findClass_of_methodNamed B.named
  have hlocks := B.notSynchronized
  have hin8 : ∀ w ∈ wsX80, w ∈ wsX8_interpreter := by decide +kernel
  subst hsz
  have hS : va_S (tA base s.heap.size) s.heap s.heap [] := va_S.rf
  have hz : s.heap.size ≤ s.heap.size := Nat.le_refl _
  have hl := lv_entry ([.ref (base + q), .int a1, .int a2]) (n := 3) (Nat.le_of_ble_eq_true rfl)
  rw [lg_entry_eq]
  generalize (lg_sl ([.ref (base + q), .int a1, .int a2]) ++ List.replicate (3 - (lg_sl ([.ref (base + q), .int a1, .int a2])).length) Slot.unset).toArray = ls at hl ⊢
  have hl : lv_has ls 3 [(0, .ref (base + q)), (1, .int a1), (2, .int a2)] := hl
  unfold X8_interpreter at hm
  refine lv_aload_n hx hb dX8_interpreter_0 rfl (lv_at hl 0 rfl) ?_
  refine lv_iconst (v := (0 : Int32)) hx hb dX8_interpreter_1 (by decide) ?_
  refine t_put (C := RX8) (T := TX8) (N := 3) hx hb hts hin8 tyX8 tyX8_ok nmX8 hown hK hP (tD _ _ _ _) hS hq rfl rfl 0 (by decide) (fk8_0 hq) (hts _ (List.mem_of_getElem? (i := 1) rfl)) rfl (by decide +kernel) dX8_interpreter_2 (fun H locs hP hS => ?_)
  obtain ⟨μ1, eμ1⟩ : ∃ z : MM, z = wI μ q 0 (0 : Int32) := ⟨_, rfl⟩
  rw [← eμ1] at hP
  replace hm := bV_of hm eμ1
  refine lv_aload_n hx hb dX8_interpreter_5 rfl (lv_at hl 0 rfl) ?_
  refine lv_iload_n hx hb dX8_interpreter_6 rfl (lv_at hl 1 rfl) ?_
  refine t_cVi (As := [.int a1]) (rest := []) (μ' := μ1) (r := (X8_isInterpreter q a1 μ1)) ⟨hx, hb, hml, hown, hts⟩ (mX8_isInterpreter l D cA base H.size μ1 hq a1 rfl) (cwV 1 hts gX8_interpreter_X8_isInterpreter rfl rfl rfl (by decide +kernel) ⟨Nat.le_of_ble_eq_true rfl, Nat.le_of_ble_eq_true rfl⟩) (va_recv hK hP (q0 := q) rfl (tw_obj hq (by decide))) hK hN hP hS hz rfl hl.1 (Nat.le_of_ble_eq_true rfl) dX8_interpreter_7 ⟨Nat.le_of_ble_eq_true rfl, Nat.le_of_ble_eq_true rfl⟩ rfl (fun H locs hP hS => ?_)
  refine lv_if_eq (tgt := 32) hx hb dX8_interpreter_10 (by decide) (fun c4 => ?_) (fun c4 => ?_)
  · rw [if_pos c4] at hm
    refine lv_aload_n hx hb dX8_interpreter_32 rfl (lv_at hl 0 rfl) ?_
    refine lv_iconst (v := (1 : Int32)) hx hb dX8_interpreter_33 (by decide) ?_
    obtain ⟨⟨r5, μ6⟩, hc7⟩ : ∃ z, X8_no q (1 : Int32) μ1 = z := ⟨_, rfl⟩
    replace hm := bP_of hm hc7
    refine t_cVi (As := [.int (1 : Int32)]) (rest := []) (μ' := μ6) (r := r5) ⟨hx, hb, hml, hown, hts⟩ (mX8_no l D cA base H.size μ1 hq (1 : Int32) hc7) (cwV 1 hts gX8_interpreter_X8_no rfl rfl rfl (by decide +kernel) ⟨Nat.le_of_ble_eq_true rfl, Nat.le_of_ble_eq_true rfl⟩) (va_recv hK hP (q0 := q) rfl (tw_obj hq (by decide))) hK hN hP hS hz rfl hl.1 (Nat.le_of_ble_eq_true rfl) dX8_interpreter_34 ⟨Nat.le_of_ble_eq_true rfl, Nat.le_of_ble_eq_true rfl⟩ rfl (fun H locs hP hS => ?_)
    cases hm
    refine W.widen (k := 1) (n := 7) (Nat.le_of_ble_eq_true rfl) (Nat.le_of_ble_eq_true rfl) ?_
    exact W.iret hx hb hr (fun t ht hW => ⟨⟨_, (), rfl, rfl, tPost_of hP ht⟩, hS.F ht⟩) hS.2.2 dX8_interpreter_37
  · rw [if_neg c4] at hm
    refine lv_iload_n hx hb dX8_interpreter_13 rfl (lv_at hl 2 rfl) ?_
    refine lv_iconst (v := (0 : Int32)) hx hb dX8_interpreter_14 (by decide) ?_
    refine lv_bipush (v := (6 : Int32)) hx hb dX8_interpreter_15 (by decide) ?_
    refine t_cSi (As := [.int a2, .int (0 : Int32), .int (6 : Int32)]) (rest := []) (μ' := μ1) (r := (X8_isIn a2 (0 : Int32) (6 : Int32))) ⟨hx, hb, hml, hown, hts⟩ (mX8_isIn l D cA base H.size μ1 a2 (0 : Int32) (6 : Int32) rfl) (va_cwS 3 hts gX8_interpreter_X8_isIn rfl rfl rfl (by decide +kernel) ⟨Nat.le_of_ble_eq_true rfl, Nat.le_of_ble_eq_true rfl⟩) hK hN hP hS hz rfl hl.1 (Nat.le_of_ble_eq_true rfl) dX8_interpreter_17 ⟨Nat.le_of_ble_eq_true rfl, Nat.le_of_ble_eq_true rfl⟩ rfl (fun H locs hP hS => ?_)
    refine lv_if_eq (tgt := 32) hx hb dX8_interpreter_20 (by decide) (fun c10 => ?_) (fun c10 => ?_)
    · rw [if_pos c10] at hm
      refine lv_aload_n hx hb dX8_interpreter_32 rfl (lv_at hl 0 rfl) ?_
      refine lv_iconst (v := (1 : Int32)) hx hb dX8_interpreter_33 (by decide) ?_
      obtain ⟨⟨r11, μ12⟩, hc13⟩ : ∃ z, X8_no q (1 : Int32) μ1 = z := ⟨_, rfl⟩
      replace hm := bP_of hm hc13
      refine t_cVi (As := [.int (1 : Int32)]) (rest := []) (μ' := μ12) (r := r11) ⟨hx, hb, hml, hown, hts⟩ (mX8_no l D cA base H.size μ1 hq (1 : Int32) hc13) (cwV 1 hts gX8_interpreter_X8_no rfl rfl rfl (by decide +kernel) ⟨Nat.le_of_ble_eq_true rfl, Nat.le_of_ble_eq_true rfl⟩) (va_recv hK hP (q0 := q) rfl (tw_obj hq (by decide))) hK hN hP hS hz rfl hl.1 (Nat.le_of_ble_eq_true rfl) dX8_interpreter_34 ⟨Nat.le_of_ble_eq_true rfl, Nat.le_of_ble_eq_true rfl⟩ rfl (fun H locs hP hS => ?_)
      cases hm
      refine W.widen (k := 1) (n := 7) (Nat.le_of_ble_eq_true rfl) (Nat.le_of_ble_eq_true rfl) ?_
      exact W.iret hx hb hr (fun t ht hW => ⟨⟨_, (), rfl, rfl, tPost_of hP ht⟩, hS.F ht⟩) hS.2.2 dX8_interpreter_37
    · rw [if_neg c10] at hm
      refine lv_aload_n hx hb dX8_interpreter_23 rfl (lv_at hl 0 rfl) ?_
      refine lv_iload_n hx hb dX8_interpreter_24 rfl (lv_at hl 1 rfl) ?_
      refine lv_iload_n hx hb dX8_interpreter_25 rfl (lv_at hl 2 rfl) ?_
      obtain ⟨r14, hc15, hm⟩ := bO1_inv hm
      refine t_cVi (As := [.int a1, .int a2]) (rest := []) (μ' := μ1) (r := r14) ⟨hx, hb, hml, hown, hts⟩ (mX8_interpreterTold l D cA base H.size μ1 hq a1 a2 hc15) (cwV 2 hts gX8_interpreter_X8_interpreterTold rfl rfl rfl (by decide +kernel) ⟨Nat.le_of_ble_eq_true rfl, Nat.le_of_ble_eq_true rfl⟩) (va_recv hK hP (q0 := q) rfl (tw_obj hq (by decide))) hK hN hP hS hz rfl hl.1 (Nat.le_of_ble_eq_true rfl) dX8_interpreter_26 ⟨Nat.le_of_ble_eq_true rfl, Nat.le_of_ble_eq_true rfl⟩ rfl (fun H locs hP hS => ?_)
      refine lv_goto (tgt := 37) hx hb dX8_interpreter_29 (by decide) ?_
      cases hm
      refine W.widen (k := 1) (n := 7) (Nat.le_of_ble_eq_true rfl) (Nat.le_of_ble_eq_true rfl) ?_
      exact W.iret hx hb hr (fun t ht hW => ⟨⟨_, (), rfl, rfl, tPost_of hP ht⟩, hS.F ht⟩) hS.2.2 dX8_interpreter_37
abbrev rmX8_pass : Room := { frames := 4, cells := 0, slots := 0, locals := 92 }
set_option maxHeartbeats 4000000 in
set_option maxRecDepth 100000 in
theorem lX8_pass_L4 {p : Program} {l : Launch} {e : Env} {s : State} {m : MethodId} {args : Array Value} {below : List Frame} {meth : Method} {c : Code} {Q : State → Prop} {D : va_G} {cA : Nat → ClassId} {base sz0 : Nat} {H0 : Heap} (FX : CallFix p m c cX8_pass 4 s args wsX8_pass RX8) (hK : va_K D vwCl (tys cA) s) (hN : tN s) (hz : sz0 ≤ H0.size) {o0 : Nat} (ho0 : kc o0 = 7) (b1 : Int32) {cells slots : Nat} (hcs : cells ≤ 0 ∧ slots ≤ 0) :
    ∀ (n : Nat) (v2 : Int32) (v3 : Int32) (μ : MM) (H : Heap) (locs : List Loc) (ls : Array Slot) (w2 : Int32) (μ' : MM), X8_pass_L4 o0 b1 n v2 v3 μ = some (w2, μ') → va_P D vwCl (tw base cA μ []) H → va_S (tA base sz0) H0 H locs → lv_has ls 4 [(0, .ref (base + o0)), (1, .int b1), (2, .int v2), (3, .int v3)] → (∀ (H : Heap) (locs : List Loc) (ls : Array Slot), va_P D vwCl (tw base cA μ' []) H → va_S (tA base sz0) H0 H locs → lv_has ls 4 [(2, .int w2)] → W p l e rmX8_pass s m args below meth c H locs cells slots Q (F0 m 22 ls [])) → W p l e rmX8_pass s m args below meth c H locs cells slots Q (F0 m 4 ls []) := by
  obtain ⟨hx, hb, hml, hown, hts⟩ := FX
  intro n
  induction n with
  | zero =>
    intro v2 v3 μ H locs ls w2 μ' hm
    cases hm
  | succ n ih =>
    intro v2 v3 μ H locs ls w2 μ' hm hP hS hl K
    rw [X8_pass_L4_s] at hm
    refine lv_iload_n hx hb dX8_pass_4 rfl (lv_at hl 3 rfl) ?_
    refine lv_iload_n hx hb dX8_pass_5 rfl (lv_at hl 1 rfl) ?_
    refine lv_icmp_ge (tgt := 22) hx hb dX8_pass_6 (by decide) (fun c1 => ?_) (fun c1 => ?_)
    · rw [if_pos c1] at hm
      cases hm
      exact K _ _ _ hP hS (lv_sub hl [2] rfl)
    · rw [if_neg c1] at hm
      refine lv_iload_n hx hb dX8_pass_9 rfl (lv_at hl 2 rfl) ?_
      refine lv_aload_n hx hb dX8_pass_10 rfl (lv_at hl 0 rfl) ?_
      obtain ⟨r2, μ3, hc4, hm⟩ := bO2_inv hm
      refine t_cVi (As := []) (rest := [.int v2]) (μ' := μ3) (r := r2) ⟨hx, hb, hml, hown, hts⟩ (mX7_pass l D cA base H.size μ ho0 hc4) (cwV 0 hts gX8_pass_X7_pass rfl rfl rfl (by decide +kernel) ⟨Nat.le_of_ble_eq_true rfl, Nat.le_of_ble_eq_true rfl⟩) (va_recv hK hP (q0 := o0) rfl (tw_obj ho0 (by decide))) hK hN hP hS hz rfl hl.1 (Nat.le_of_ble_eq_true rfl) dX8_pass_11 hcs rfl (fun H locs hP hS => ?_)
      refine lv_iadd hx hb dX8_pass_14 ?_
      refine lv_topi (fun x5 ex5 => ?_)
      replace hm := bV_of hm ex5
      refine lv_istore_n (lv' := [(2, .int x5), (0, .ref (base + o0)), (1, .int b1), (3, .int v3)]) hx hb dX8_pass_15 rfl hl (by decide) rfl (fun ls hl => ?_)
      obtain ⟨x6, ex6⟩ : ∃ z : Int32, z = v3 + (1 : Int32) := ⟨_, rfl⟩
      replace hm := bV_of hm ex6
      refine lv_iinc (v := x6) (lv' := [(3, .int x6), (2, .int x5), (0, .ref (base + o0)), (1, .int b1)]) hx hb dX8_pass_16 hl (k := 3) rfl (by rw [ex6]; rfl) (by decide) rfl (fun ls hl => ?_)
      refine lv_goto (tgt := 4) hx hb dX8_pass_19 (by decide) ?_
      exact ih x5 x6 μ3 _ _ _ w2 μ' hm hP hS (lv_sub hl [2, 3, 1, 0] rfl) K
set_option maxHeartbeats 4000000 in
set_option maxRecDepth 100000 in
theorem mX8_pass (l : Launch) (D : va_G) (cA : Nat → ClassId) (base sz : Nat) (μ : MM) {a1 : Nat} (ha1 : kc a1 = 7) (a2 : Int32) {r : Int32} {μ' : MM} (hm : X8_pass a1 a2 μ = some (r, μ')) : Met l yX8_pass wsX8_pass rmX8_pass (va_Pc [.ref (base + a1), .int a2] (tPre D cA base sz μ)) (va_Qi (fun (x : Int32) (_ : Unit) => x = r) (fun _ => tPost D cA base μ') (tA base sz)) 0 0 (tA base sz) := by
  refine Met.ofW (cc := cX8_pass) (maxL := 4) (ret := (some .int)) (by decide +kernel) rfl ?_
  intro p e s m args below meth c s₁ B hml hv
  obtain ⟨rfl, hsz, hP, hK, hN⟩ := hv
  have hx := B.exec
  have hb := B.bytes
  have hr := B.returns
  have hts := atoms_spec (ws := wsX8_pass) B.pre
  have hown : s.vm.findClass RX8 = some m.cls := findClass_of_methodNamed B.named
  have hlocks := B.notSynchronized
  subst hsz
  have hS : va_S (tA base s.heap.size) s.heap s.heap [] := va_S.rf
  have hz : s.heap.size ≤ s.heap.size := Nat.le_refl _
  have hl := lv_entry ([.ref (base + a1), .int a2]) (n := 4) (Nat.le_of_ble_eq_true rfl)
  rw [lg_entry_eq]
  generalize (lg_sl ([.ref (base + a1), .int a2]) ++ List.replicate (4 - (lg_sl ([.ref (base + a1), .int a2])).length) Slot.unset).toArray = ls at hl ⊢
  have hl : lv_has ls 4 [(0, .ref (base + a1)), (1, .int a2)] := hl
  unfold X8_pass at hm
  refine lv_iconst (v := (0 : Int32)) hx hb dX8_pass_0 (by decide) ?_
  refine lv_istore_n (lv' := [(2, .int (0 : Int32)), (0, .ref (base + a1)), (1, .int a2)]) hx hb dX8_pass_1 rfl hl (by decide) rfl (fun ls hl => ?_)
  refine lv_iconst (v := (0 : Int32)) hx hb dX8_pass_2 (by decide) ?_
  refine lv_istore_n (lv' := [(3, .int (0 : Int32)), (2, .int (0 : Int32)), (0, .ref (base + a1)), (1, .int a2)]) hx hb dX8_pass_3 rfl hl (by decide) rfl (fun ls hl => ?_)
  obtain ⟨x7, μ8, hc9, hm⟩ := bO2_inv hm
  refine lX8_pass_L4 ⟨hx, hb, hml, hown, hts⟩ hK hN hz ha1 a2 ⟨Nat.le_of_ble_eq_true rfl, Nat.le_of_ble_eq_true rfl⟩ 1000 (0 : Int32) (0 : Int32) μ _ _ _ x7 μ8 hc9 hP hS (lv_sub hl [2, 3, 1, 0] rfl) ?_
  intro H locs ls hP hS hl
  refine lv_iload_n hx hb dX8_pass_22 rfl (lv_at hl 0 rfl) ?_
  cases hm
  exact W.iret hx hb hr (fun t ht hW => ⟨⟨_, (), rfl, rfl, tPost_of hP ht⟩, hS.F ht⟩) hS.2.2 dX8_pass_23
abbrev rmX8_pass_ : Room := { frames := 5, cells := 0, slots := 0, locals := 115 }
set_option maxHeartbeats 4000000 in
set_option maxRecDepth 100000 in
theorem mX8_pass_ (l : Launch) (D : va_G) (cA : Nat → ClassId) (base sz : Nat) (μ : MM) {q : Nat} (hq : kc q = 8) (a1 : Int32) {r : Int32} {μ' : MM} (hm : X8_pass_ q a1 μ = some (r, μ')) : Met l yX8_pass_ wsX8_pass_ rmX8_pass_ (va_Pc [.ref (base + q), .int a1] (tPre D cA base sz μ)) (va_Qi (fun (x : Int32) (_ : Unit) => x = r) (fun _ => tPost D cA base μ') (tA base sz)) 0 0 (tA base sz) := by
  refine Met.ofW (cc := cX8_pass_) (maxL := 2) (ret := (some .int)) (by decide +kernel) rfl ?_
  intro p e s m args below meth c s₁ B hml hv
  obtain ⟨rfl, hsz, hP, hK, hN⟩ := hv
  have hx := B.exec
  have hb := B.bytes
  have hr := B.returns
  have hts := atoms_spec (ws := wsX8_pass_) B.pre
  have hown : s.vm.findClass RX8 = some m.cls := findClass_of_methodNamed B.named
  have hlocks := B.notSynchronized
  have hin7 : ∀ w ∈ wsX70, w ∈ wsX8_pass_ := by decide +kernel
  have hin8 : ∀ w ∈ wsX80, w ∈ wsX8_pass_ := by decide +kernel
  subst hsz
  have hS : va_S (tA base s.heap.size) s.heap s.heap [] := va_S.rf
  have hz : s.heap.size ≤ s.heap.size := Nat.le_refl _
  have hl := lv_entry ([.ref (base + q), .int a1]) (n := 2) (Nat.le_of_ble_eq_true rfl)
  rw [lg_entry_eq]
  generalize (lg_sl ([.ref (base + q), .int a1]) ++ List.replicate (2 - (lg_sl ([.ref (base + q), .int a1])).length) Slot.unset).toArray = ls at hl ⊢
  have hl : lv_has ls 2 [(0, .ref (base + q)), (1, .int a1)] := hl
  unfold X8_pass_ at hm
  refine lv_aload_n hx hb dX8_pass__0 rfl (lv_at hl 0 rfl) ?_
  refine lv_iconst (v := (0 : Int32)) hx hb dX8_pass__1 (by decide) ?_
  refine t_put (C := RX8) (T := TX8) (N := 3) hx hb hts hin8 tyX8 tyX8_ok nmX8 hown hK hP (tD _ _ _ _) hS hq rfl rfl 0 (by decide) (fk8_0 hq) (hts _ (List.mem_of_getElem? (i := 1) rfl)) rfl (by decide +kernel) dX8_pass__2 (fun H locs hP hS => ?_)
  obtain ⟨μ1, eμ1⟩ : ∃ z : MM, z = wI μ q 0 (0 : Int32) := ⟨_, rfl⟩
  rw [← eμ1] at hP
  replace hm := bV_of hm eμ1
  refine lv_iload_n hx hb dX8_pass__5 rfl (lv_at hl 1 rfl) ?_
  refine lv_iconst (v := (1 : Int32)) hx hb dX8_pass__6 (by decide) ?_
  refine lv_bipush (v := (100 : Int32)) hx hb dX8_pass__7 (by decide) ?_
  refine t_cSi (As := [.int a1, .int (1 : Int32), .int (100 : Int32)]) (rest := []) (μ' := μ1) (r := (X8_isIn a1 (1 : Int32) (100 : Int32))) ⟨hx, hb, hml, hown, hts⟩ (mX8_isIn l D cA base H.size μ1 a1 (1 : Int32) (100 : Int32) rfl) (va_cwS 3 hts gX8_pass__X8_isIn rfl rfl rfl (by decide +kernel) ⟨Nat.le_of_ble_eq_true rfl, Nat.le_of_ble_eq_true rfl⟩) hK hN hP hS hz rfl hl.1 (Nat.le_of_ble_eq_true rfl) dX8_pass__9 ⟨Nat.le_of_ble_eq_true rfl, Nat.le_of_ble_eq_true rfl⟩ rfl (fun H locs hP hS => ?_)
  refine lv_if_ne (tgt := 21) hx hb dX8_pass__12 (by decide) (fun c4 => ?_) (fun c4 => ?_)
  · rw [if_neg c4] at hm
    refine lv_aload_n hx hb dX8_pass__21 rfl (lv_at hl 0 rfl) ?_
    refine t_getr (C := RX8) (T := TX8) (N := 3) hx hb hts hin8 hown hK hP hq rfl rfl 1 (by decide) (fr8_1 hq) (hts _ (List.mem_of_getElem? (i := 2) rfl)) dX8_pass__22 ?_
    refine t_getiN (C := RX7) (T := TX7) (N := 26) hx hb hts hin7 hown hK hP (kr8_1 hq) rfl rfl 0 (by decide) (fk7_0 (kr8_1 hq)) hN (i := 20) rfl dX8_pass__25 ?_
    refine lv_iload_n hx hb dX8_pass__28 rfl (lv_at hl 1 rfl) ?_
    refine lv_iadd hx hb dX8_pass__29 ?_
    refine lv_sipush (v := (400 : Int32)) hx hb dX8_pass__30 (by decide) ?_
    refine lv_icmp_le (tgt := 44) hx hb dX8_pass__33 (by decide) (fun c5 => ?_) (fun c5 => ?_)
    · rw [if_pos c5] at hm
      refine lv_aload_n hx hb dX8_pass__44 rfl (lv_at hl 0 rfl) ?_
      refine t_getr (C := RX8) (T := TX8) (N := 3) hx hb hts hin8 hown hK hP hq rfl rfl 1 (by decide) (fr8_1 hq) (hts _ (List.mem_of_getElem? (i := 2) rfl)) dX8_pass__45 ?_
      refine lv_iload_n hx hb dX8_pass__48 rfl (lv_at hl 1 rfl) ?_
      obtain ⟨r6, μ7, hc8, hm⟩ := bO2_inv hm
      refine t_cSi (As := [.ref (base + (RF q 1)), .int a1]) (rest := []) (μ' := μ7) (r := r6) ⟨hx, hb, hml, hown, hts⟩ (mX8_pass l D cA base H.size μ1 (kr8_1 hq) a1 hc8) (va_cwS 2 hts gX8_pass__X8_pass rfl rfl rfl (by decide +kernel) ⟨Nat.le_of_ble_eq_true rfl, Nat.le_of_ble_eq_true rfl⟩) hK hN hP hS hz rfl hl.1 (Nat.le_of_ble_eq_true rfl) dX8_pass__49 ⟨Nat.le_of_ble_eq_true rfl, Nat.le_of_ble_eq_true rfl⟩ rfl (fun H locs hP hS => ?_)
      cases hm
      exact W.iret hx hb hr (fun t ht hW => ⟨⟨_, (), rfl, rfl, tPost_of hP ht⟩, hS.F ht⟩) hS.2.2 dX8_pass__52
    · rw [if_neg c5] at hm
      refine lv_aload_n hx hb dX8_pass__36 rfl (lv_at hl 0 rfl) ?_
      refine lv_iconst (v := (2 : Int32)) hx hb dX8_pass__37 (by decide) ?_
      obtain ⟨⟨r9, μ10⟩, hc11⟩ : ∃ z, X8_no q (2 : Int32) μ1 = z := ⟨_, rfl⟩
      replace hm := bP_of hm hc11
      refine t_cVi (As := [.int (2 : Int32)]) (rest := []) (μ' := μ10) (r := r9) ⟨hx, hb, hml, hown, hts⟩ (mX8_no l D cA base H.size μ1 hq (2 : Int32) hc11) (cwV 1 hts gX8_pass__X8_no rfl rfl rfl (by decide +kernel) ⟨Nat.le_of_ble_eq_true rfl, Nat.le_of_ble_eq_true rfl⟩) (va_recv hK hP (q0 := q) rfl (tw_obj hq (by decide))) hK hN hP hS hz rfl hl.1 (Nat.le_of_ble_eq_true rfl) dX8_pass__38 ⟨Nat.le_of_ble_eq_true rfl, Nat.le_of_ble_eq_true rfl⟩ rfl (fun H locs hP hS => ?_)
      refine lv_goto (tgt := 52) hx hb dX8_pass__41 (by decide) ?_
      cases hm
      exact W.iret hx hb hr (fun t ht hW => ⟨⟨_, (), rfl, rfl, tPost_of hP ht⟩, hS.F ht⟩) hS.2.2 dX8_pass__52
  · rw [if_pos c4] at hm
    refine lv_aload_n hx hb dX8_pass__15 rfl (lv_at hl 0 rfl) ?_
    refine lv_iconst (v := (1 : Int32)) hx hb dX8_pass__16 (by decide) ?_
    obtain ⟨⟨r12, μ13⟩, hc14⟩ : ∃ z, X8_no q (1 : Int32) μ1 = z := ⟨_, rfl⟩
    replace hm := bP_of hm hc14
    refine t_cVi (As := [.int (1 : Int32)]) (rest := []) (μ' := μ13) (r := r12) ⟨hx, hb, hml, hown, hts⟩ (mX8_no l D cA base H.size μ1 hq (1 : Int32) hc14) (cwV 1 hts gX8_pass__X8_no rfl rfl rfl (by decide +kernel) ⟨Nat.le_of_ble_eq_true rfl, Nat.le_of_ble_eq_true rfl⟩) (va_recv hK hP (q0 := q) rfl (tw_obj hq (by decide))) hK hN hP hS hz rfl hl.1 (Nat.le_of_ble_eq_true rfl) dX8_pass__17 ⟨Nat.le_of_ble_eq_true rfl, Nat.le_of_ble_eq_true rfl⟩ rfl (fun H locs hP hS => ?_)
    cases hm
    exact W.iret hx hb hr (fun t ht hW => ⟨⟨_, (), rfl, rfl, tPost_of hP ht⟩, hS.F ht⟩) hS.2.2 dX8_pass__20
abbrev rmX8_said : Room := { frames := 2, cells := 0, slots := 0, locals := 43 }
set_option maxHeartbeats 4000000 in
set_option maxRecDepth 100000 in
theorem mX8_said (l : Launch) (D : va_G) (cA : Nat → ClassId) (base sz : Nat) (μ : MM) {q : Nat} (hq : kc q = 8) (a1 : Int32) (a2 : Int32) (a3 : Int32) {r : Int32} {μ' : MM} (hm : X8_said q a1 a2 a3 μ = some (r, μ')) : Met l yX8_said wsX8_said rmX8_said (va_Pc [.ref (base + q), .int a1, .int a2, .int a3] (tPre D cA base sz μ)) (va_Qi (fun (x : Int32) (_ : Unit) => x = r) (fun _ => tPost D cA base μ') (tA base sz)) 0 0 (tA base sz) := by
  refine Met.ofW (cc := cX8_said) (maxL := 4) (ret := (some .int)) (by decide +kernel) rfl ?_
  intro p e s m args below meth c s₁ B hml hv
  obtain ⟨rfl, hsz, hP, hK, hN⟩ := hv
  have hx := B.exec
  have hb := B.bytes
  have hr := B.returns
  have hts := atoms_spec (ws := wsX8_said) B.pre
  have hown : s.vm.findClass RX8 = some m.cls := findClass_of_methodNamed B.named
  have hlocks := B.notSynchronized
  have hin7 : ∀ w ∈ wsX70, w ∈ wsX8_said := by decide +kernel
  have hin8 : ∀ w ∈ wsX80, w ∈ wsX8_said := by decide +kernel
  subst hsz
  have hS : va_S (tA base s.heap.size) s.heap s.heap [] := va_S.rf
  have hz : s.heap.size ≤ s.heap.size := Nat.le_refl _
  have hl := lv_entry ([.ref (base + q), .int a1, .int a2, .int a3]) (n := 4) (Nat.le_of_ble_eq_true rfl)
  rw [lg_entry_eq]
  generalize (lg_sl ([.ref (base + q), .int a1, .int a2, .int a3]) ++ List.replicate (4 - (lg_sl ([.ref (base + q), .int a1, .int a2, .int a3])).length) Slot.unset).toArray = ls at hl ⊢
  have hl : lv_has ls 4 [(0, .ref (base + q)), (1, .int a1), (2, .int a2), (3, .int a3)] := hl
  unfold X8_said at hm
  refine lv_aload_n hx hb dX8_said_0 rfl (lv_at hl 0 rfl) ?_
  refine lv_iconst (v := (0 : Int32)) hx hb dX8_said_1 (by decide) ?_
  refine t_put (C := RX8) (T := TX8) (N := 3) hx hb hts hin8 tyX8 tyX8_ok nmX8 hown hK hP (tD _ _ _ _) hS hq rfl rfl 0 (by decide) (fk8_0 hq) (hts _ (List.mem_of_getElem? (i := 1) rfl)) rfl (by decide +kernel) dX8_said_2 (fun H locs hP hS => ?_)
  obtain ⟨μ1, eμ1⟩ : ∃ z : MM, z = wI μ q 0 (0 : Int32) := ⟨_, rfl⟩
  rw [← eμ1] at hP
  replace hm := bV_of hm eμ1
  refine lv_iload_n hx hb dX8_said_5 rfl (lv_at hl 1 rfl) ?_
  refine lv_iconst (v := (-1 : Int32)) hx hb dX8_said_6 (by decide) ?_
  refine lv_icmp_eq (tgt := 24) hx hb dX8_said_7 (by decide) (fun c2 => ?_) (fun c2 => ?_)
  · rw [if_pos c2] at hm
    refine lv_iload_n hx hb dX8_said_24 rfl (lv_at hl 2 rfl) ?_
    refine lv_iconst (v := (0 : Int32)) hx hb dX8_said_25 (by decide) ?_
    refine lv_aload_n hx hb dX8_said_26 rfl (lv_at hl 0 rfl) ?_
    refine t_getr (C := RX8) (T := TX8) (N := 3) hx hb hts hin8 hown hK hP hq rfl rfl 1 (by decide) (fr8_1 hq) (hts _ (List.mem_of_getElem? (i := 2) rfl)) dX8_said_27 ?_
    refine t_getrN (C := RX7) (T := TX7) (N := 26) hx hb hts hin7 hown hK hP (kr8_1 hq) rfl rfl 22 (by decide) (fr7_22 (kr8_1 hq)) hN (i := 14) rfl dX8_said_30 ?_
    refine lv_iload_n hx hb dX8_said_33 rfl (lv_at hl 1 rfl) ?_
    refine lv_iconst (v := (1 : Int32)) hx hb dX8_said_34 (by decide) ?_
    refine lv_iadd hx hb dX8_said_35 ?_
    obtain ⟨hg3, hm⟩ := gd_inv hm
    refine t_iald hx hb hK hP (kr7_22 (kr8_1 hq)) hg3 dX8_said_36 ?_
    refine lv_iconst (v := (1 : Int32)) hx hb dX8_said_37 (by decide) ?_
    refine lv_isub hx hb dX8_said_38 ?_
    refine t_cSi (As := [.int a2, .int (0 : Int32), .int ((rI μ1 (RF (RF q 1) 22) (a1 + (1 : Int32)).toNatClampNeg) - (1 : Int32))]) (rest := []) (μ' := μ1) (r := (X8_isIn a2 (0 : Int32) ((rI μ1 (RF (RF q 1) 22) (a1 + (1 : Int32)).toNatClampNeg) - (1 : Int32)))) ⟨hx, hb, hml, hown, hts⟩ (mX8_isIn l D cA base H.size μ1 a2 (0 : Int32) ((rI μ1 (RF (RF q 1) 22) (a1 + (1 : Int32)).toNatClampNeg) - (1 : Int32)) rfl) (va_cwS 3 hts gX8_said_X8_isIn rfl rfl rfl (by decide +kernel) ⟨Nat.le_of_ble_eq_true rfl, Nat.le_of_ble_eq_true rfl⟩) hK hN hP hS hz rfl hl.1 (Nat.le_of_ble_eq_true rfl) dX8_said_39 ⟨Nat.le_of_ble_eq_true rfl, Nat.le_of_ble_eq_true rfl⟩ rfl (fun H locs hP hS => ?_)
    refine lv_if_ne (tgt := 51) hx hb dX8_said_42 (by decide) (fun c6 => ?_) (fun c6 => ?_)
    · rw [if_neg c6] at hm
      refine lv_iload_n hx hb dX8_said_51 rfl (lv_at hl 3 rfl) ?_
      refine lv_if_eq (tgt := 75) hx hb dX8_said_52 (by decide) (fun c7 => ?_) (fun c7 => ?_)
      · rw [if_pos c7] at hm
        refine lv_aload_n hx hb dX8_said_75 rfl (lv_at hl 0 rfl) ?_
        refine t_getr (C := RX8) (T := TX8) (N := 3) hx hb hts hin8 hown hK hP hq rfl rfl 1 (by decide) (fr8_1 hq) (hts _ (List.mem_of_getElem? (i := 2) rfl)) dX8_said_76 ?_
        refine t_getrN (C := RX7) (T := TX7) (N := 26) hx hb hts hin7 hown hK hP (kr8_1 hq) rfl rfl 23 (by decide) (fr7_23 (kr8_1 hq)) hN (i := 22) rfl dX8_said_79 ?_
        refine lv_sipush (v := (400 : Int32)) hx hb dX8_said_82 (by decide) ?_
        refine lv_iload_n hx hb dX8_said_85 rfl (lv_at hl 1 rfl) ?_
        refine lv_iconst (v := (1 : Int32)) hx hb dX8_said_86 (by decide) ?_
        refine lv_iadd hx hb dX8_said_87 ?_
        refine lv_imul hx hb dX8_said_88 ?_
        refine lv_iload_n hx hb dX8_said_89 rfl (lv_at hl 2 rfl) ?_
        refine lv_iadd hx hb dX8_said_90 ?_
        obtain ⟨hg8, hm⟩ := gd_inv hm
        refine t_iald hx hb hK hP (kr7_23 (kr8_1 hq)) hg8 dX8_said_91 ?_
        cases hm
        exact W.iret hx hb hr (fun t ht hW => ⟨⟨_, (), rfl, rfl, tPost_of hP ht⟩, hS.F ht⟩) hS.2.2 dX8_said_92
      · rw [if_neg c7] at hm
        refine lv_aload_n hx hb dX8_said_55 rfl (lv_at hl 0 rfl) ?_
        refine t_getr (C := RX8) (T := TX8) (N := 3) hx hb hts hin8 hown hK hP hq rfl rfl 1 (by decide) (fr8_1 hq) (hts _ (List.mem_of_getElem? (i := 2) rfl)) dX8_said_56 ?_
        refine t_getrN (C := RX7) (T := TX7) (N := 26) hx hb hts hin7 hown hK hP (kr8_1 hq) rfl rfl 24 (by decide) (fr7_24 (kr8_1 hq)) hN (i := 21) rfl dX8_said_59 ?_
        refine lv_sipush (v := (400 : Int32)) hx hb dX8_said_62 (by decide) ?_
        refine lv_iload_n hx hb dX8_said_65 rfl (lv_at hl 1 rfl) ?_
        refine lv_iconst (v := (1 : Int32)) hx hb dX8_said_66 (by decide) ?_
        refine lv_iadd hx hb dX8_said_67 ?_
        refine lv_imul hx hb dX8_said_68 ?_
        refine lv_iload_n hx hb dX8_said_69 rfl (lv_at hl 2 rfl) ?_
        refine lv_iadd hx hb dX8_said_70 ?_
        obtain ⟨hg9, hm⟩ := gd_inv hm
        refine t_iald hx hb hK hP (kr7_24 (kr8_1 hq)) hg9 dX8_said_71 ?_
        refine lv_goto (tgt := 92) hx hb dX8_said_72 (by decide) ?_
        cases hm
        exact W.iret hx hb hr (fun t ht hW => ⟨⟨_, (), rfl, rfl, tPost_of hP ht⟩, hS.F ht⟩) hS.2.2 dX8_said_92
    · rw [if_pos c6] at hm
      refine lv_aload_n hx hb dX8_said_45 rfl (lv_at hl 0 rfl) ?_
      refine lv_iconst (v := (1 : Int32)) hx hb dX8_said_46 (by decide) ?_
      obtain ⟨⟨r10, μ11⟩, hc12⟩ : ∃ z, X8_no q (1 : Int32) μ1 = z := ⟨_, rfl⟩
      replace hm := bP_of hm hc12
      refine t_cVi (As := [.int (1 : Int32)]) (rest := []) (μ' := μ11) (r := r10) ⟨hx, hb, hml, hown, hts⟩ (mX8_no l D cA base H.size μ1 hq (1 : Int32) hc12) (cwV 1 hts gX8_said_X8_no rfl rfl rfl (by decide +kernel) ⟨Nat.le_of_ble_eq_true rfl, Nat.le_of_ble_eq_true rfl⟩) (va_recv hK hP (q0 := q) rfl (tw_obj hq (by decide))) hK hN hP hS hz rfl hl.1 (Nat.le_of_ble_eq_true rfl) dX8_said_47 ⟨Nat.le_of_ble_eq_true rfl, Nat.le_of_ble_eq_true rfl⟩ rfl (fun H locs hP hS => ?_)
      cases hm
      exact W.iret hx hb hr (fun t ht hW => ⟨⟨_, (), rfl, rfl, tPost_of hP ht⟩, hS.F ht⟩) hS.2.2 dX8_said_50
  · rw [if_neg c2] at hm
    refine lv_aload_n hx hb dX8_said_10 rfl (lv_at hl 0 rfl) ?_
    refine lv_iload_n hx hb dX8_said_11 rfl (lv_at hl 1 rfl) ?_
    refine t_cVi (As := [.int a1]) (rest := []) (μ' := μ1) (r := (X8_isBooth q a1 μ1)) ⟨hx, hb, hml, hown, hts⟩ (mX8_isBooth l D cA base H.size μ1 hq a1 rfl) (cwV 1 hts gX8_said_X8_isBooth rfl rfl rfl (by decide +kernel) ⟨Nat.le_of_ble_eq_true rfl, Nat.le_of_ble_eq_true rfl⟩) (va_recv hK hP (q0 := q) rfl (tw_obj hq (by decide))) hK hN hP hS hz rfl hl.1 (Nat.le_of_ble_eq_true rfl) dX8_said_12 ⟨Nat.le_of_ble_eq_true rfl, Nat.le_of_ble_eq_true rfl⟩ rfl (fun H locs hP hS => ?_)
    refine lv_if_ne (tgt := 24) hx hb dX8_said_15 (by decide) (fun c15 => ?_) (fun c15 => ?_)
    · rw [if_neg c15] at hm
      refine lv_iload_n hx hb dX8_said_24 rfl (lv_at hl 2 rfl) ?_
      refine lv_iconst (v := (0 : Int32)) hx hb dX8_said_25 (by decide) ?_
      refine lv_aload_n hx hb dX8_said_26 rfl (lv_at hl 0 rfl) ?_
      refine t_getr (C := RX8) (T := TX8) (N := 3) hx hb hts hin8 hown hK hP hq rfl rfl 1 (by decide) (fr8_1 hq) (hts _ (List.mem_of_getElem? (i := 2) rfl)) dX8_said_27 ?_
      refine t_getrN (C := RX7) (T := TX7) (N := 26) hx hb hts hin7 hown hK hP (kr8_1 hq) rfl rfl 22 (by decide) (fr7_22 (kr8_1 hq)) hN (i := 14) rfl dX8_said_30 ?_
      refine lv_iload_n hx hb dX8_said_33 rfl (lv_at hl 1 rfl) ?_
      refine lv_iconst (v := (1 : Int32)) hx hb dX8_said_34 (by decide) ?_
      refine lv_iadd hx hb dX8_said_35 ?_
      obtain ⟨hg16, hm⟩ := gd_inv hm
      refine t_iald hx hb hK hP (kr7_22 (kr8_1 hq)) hg16 dX8_said_36 ?_
      refine lv_iconst (v := (1 : Int32)) hx hb dX8_said_37 (by decide) ?_
      refine lv_isub hx hb dX8_said_38 ?_
      refine t_cSi (As := [.int a2, .int (0 : Int32), .int ((rI μ1 (RF (RF q 1) 22) (a1 + (1 : Int32)).toNatClampNeg) - (1 : Int32))]) (rest := []) (μ' := μ1) (r := (X8_isIn a2 (0 : Int32) ((rI μ1 (RF (RF q 1) 22) (a1 + (1 : Int32)).toNatClampNeg) - (1 : Int32)))) ⟨hx, hb, hml, hown, hts⟩ (mX8_isIn l D cA base H.size μ1 a2 (0 : Int32) ((rI μ1 (RF (RF q 1) 22) (a1 + (1 : Int32)).toNatClampNeg) - (1 : Int32)) rfl) (va_cwS 3 hts gX8_said_X8_isIn rfl rfl rfl (by decide +kernel) ⟨Nat.le_of_ble_eq_true rfl, Nat.le_of_ble_eq_true rfl⟩) hK hN hP hS hz rfl hl.1 (Nat.le_of_ble_eq_true rfl) dX8_said_39 ⟨Nat.le_of_ble_eq_true rfl, Nat.le_of_ble_eq_true rfl⟩ rfl (fun H locs hP hS => ?_)
      refine lv_if_ne (tgt := 51) hx hb dX8_said_42 (by decide) (fun c19 => ?_) (fun c19 => ?_)
      · rw [if_neg c19] at hm
        refine lv_iload_n hx hb dX8_said_51 rfl (lv_at hl 3 rfl) ?_
        refine lv_if_eq (tgt := 75) hx hb dX8_said_52 (by decide) (fun c20 => ?_) (fun c20 => ?_)
        · rw [if_pos c20] at hm
          refine lv_aload_n hx hb dX8_said_75 rfl (lv_at hl 0 rfl) ?_
          refine t_getr (C := RX8) (T := TX8) (N := 3) hx hb hts hin8 hown hK hP hq rfl rfl 1 (by decide) (fr8_1 hq) (hts _ (List.mem_of_getElem? (i := 2) rfl)) dX8_said_76 ?_
          refine t_getrN (C := RX7) (T := TX7) (N := 26) hx hb hts hin7 hown hK hP (kr8_1 hq) rfl rfl 23 (by decide) (fr7_23 (kr8_1 hq)) hN (i := 22) rfl dX8_said_79 ?_
          refine lv_sipush (v := (400 : Int32)) hx hb dX8_said_82 (by decide) ?_
          refine lv_iload_n hx hb dX8_said_85 rfl (lv_at hl 1 rfl) ?_
          refine lv_iconst (v := (1 : Int32)) hx hb dX8_said_86 (by decide) ?_
          refine lv_iadd hx hb dX8_said_87 ?_
          refine lv_imul hx hb dX8_said_88 ?_
          refine lv_iload_n hx hb dX8_said_89 rfl (lv_at hl 2 rfl) ?_
          refine lv_iadd hx hb dX8_said_90 ?_
          obtain ⟨hg21, hm⟩ := gd_inv hm
          refine t_iald hx hb hK hP (kr7_23 (kr8_1 hq)) hg21 dX8_said_91 ?_
          cases hm
          exact W.iret hx hb hr (fun t ht hW => ⟨⟨_, (), rfl, rfl, tPost_of hP ht⟩, hS.F ht⟩) hS.2.2 dX8_said_92
        · rw [if_neg c20] at hm
          refine lv_aload_n hx hb dX8_said_55 rfl (lv_at hl 0 rfl) ?_
          refine t_getr (C := RX8) (T := TX8) (N := 3) hx hb hts hin8 hown hK hP hq rfl rfl 1 (by decide) (fr8_1 hq) (hts _ (List.mem_of_getElem? (i := 2) rfl)) dX8_said_56 ?_
          refine t_getrN (C := RX7) (T := TX7) (N := 26) hx hb hts hin7 hown hK hP (kr8_1 hq) rfl rfl 24 (by decide) (fr7_24 (kr8_1 hq)) hN (i := 21) rfl dX8_said_59 ?_
          refine lv_sipush (v := (400 : Int32)) hx hb dX8_said_62 (by decide) ?_
          refine lv_iload_n hx hb dX8_said_65 rfl (lv_at hl 1 rfl) ?_
          refine lv_iconst (v := (1 : Int32)) hx hb dX8_said_66 (by decide) ?_
          refine lv_iadd hx hb dX8_said_67 ?_
          refine lv_imul hx hb dX8_said_68 ?_
          refine lv_iload_n hx hb dX8_said_69 rfl (lv_at hl 2 rfl) ?_
          refine lv_iadd hx hb dX8_said_70 ?_
          obtain ⟨hg22, hm⟩ := gd_inv hm
          refine t_iald hx hb hK hP (kr7_24 (kr8_1 hq)) hg22 dX8_said_71 ?_
          refine lv_goto (tgt := 92) hx hb dX8_said_72 (by decide) ?_
          cases hm
          exact W.iret hx hb hr (fun t ht hW => ⟨⟨_, (), rfl, rfl, tPost_of hP ht⟩, hS.F ht⟩) hS.2.2 dX8_said_92
      · rw [if_pos c19] at hm
        refine lv_aload_n hx hb dX8_said_45 rfl (lv_at hl 0 rfl) ?_
        refine lv_iconst (v := (1 : Int32)) hx hb dX8_said_46 (by decide) ?_
        obtain ⟨⟨r23, μ24⟩, hc25⟩ : ∃ z, X8_no q (1 : Int32) μ1 = z := ⟨_, rfl⟩
        replace hm := bP_of hm hc25
        refine t_cVi (As := [.int (1 : Int32)]) (rest := []) (μ' := μ24) (r := r23) ⟨hx, hb, hml, hown, hts⟩ (mX8_no l D cA base H.size μ1 hq (1 : Int32) hc25) (cwV 1 hts gX8_said_X8_no rfl rfl rfl (by decide +kernel) ⟨Nat.le_of_ble_eq_true rfl, Nat.le_of_ble_eq_true rfl⟩) (va_recv hK hP (q0 := q) rfl (tw_obj hq (by decide))) hK hN hP hS hz rfl hl.1 (Nat.le_of_ble_eq_true rfl) dX8_said_47 ⟨Nat.le_of_ble_eq_true rfl, Nat.le_of_ble_eq_true rfl⟩ rfl (fun H locs hP hS => ?_)
        cases hm
        exact W.iret hx hb hr (fun t ht hW => ⟨⟨_, (), rfl, rfl, tPost_of hP ht⟩, hS.F ht⟩) hS.2.2 dX8_said_50
    · rw [if_pos c15] at hm
      refine lv_aload_n hx hb dX8_said_18 rfl (lv_at hl 0 rfl) ?_
      refine lv_iconst (v := (1 : Int32)) hx hb dX8_said_19 (by decide) ?_
      obtain ⟨⟨r26, μ27⟩, hc28⟩ : ∃ z, X8_no q (1 : Int32) μ1 = z := ⟨_, rfl⟩
      replace hm := bP_of hm hc28
      refine t_cVi (As := [.int (1 : Int32)]) (rest := []) (μ' := μ27) (r := r26) ⟨hx, hb, hml, hown, hts⟩ (mX8_no l D cA base H.size μ1 hq (1 : Int32) hc28) (cwV 1 hts gX8_said_X8_no rfl rfl rfl (by decide +kernel) ⟨Nat.le_of_ble_eq_true rfl, Nat.le_of_ble_eq_true rfl⟩) (va_recv hK hP (q0 := q) rfl (tw_obj hq (by decide))) hK hN hP hS hz rfl hl.1 (Nat.le_of_ble_eq_true rfl) dX8_said_20 ⟨Nat.le_of_ble_eq_true rfl, Nat.le_of_ble_eq_true rfl⟩ rfl (fun H locs hP hS => ?_)
      cases hm
      exact W.iret hx hb hr (fun t ht hW => ⟨⟨_, (), rfl, rfl, tPost_of hP ht⟩, hS.F ht⟩) hS.2.2 dX8_said_23
abbrev rmX8_counted : Room := { frames := 1, cells := 1, slots := 10, locals := 23 }
set_option maxHeartbeats 4000000 in
set_option maxRecDepth 100000 in
theorem lX8_counted_L10 {p : Program} {l : Launch} {e : Env} {s : State} {m : MethodId} {args : Array Value} {below : List Frame} {meth : Method} {c : Code} {Q : State → Prop} {D : va_G} {cA : Nat → ClassId} {base sz0 : Nat} {H0 : Heap} (FX : CallFix p m c cX8_counted 6 s args wsX8_counted RX8) (hK : va_K D vwCl (tys cA) s) (hN : tN s) (hz : sz0 ≤ H0.size) {o0 : Nat} (ho0 : kc o0 = 8) (b1 : Int32) (μ : MM) {cells slots : Nat} (hcs : cells ≤ 1 ∧ slots ≤ 10) :
    ∀ (n : Nat) (v2 : Int32) (v3 : Int32) (v4 : Int32) (v5 : Int32) (H : Heap) (locs : List Loc) (ls : Array Slot) (w2 : Int32) (w3 : Int32) (w4 : Int32), X8_counted_L10 o0 b1 μ n v2 v3 v4 v5 = some (w2, w3, w4) → va_P D vwCl (tw base cA μ []) H → va_S (tA base sz0) H0 H locs → lv_has ls 6 [(0, .ref (base + o0)), (1, .int b1), (2, .int v2), (3, .int v3), (4, .int v4), (5, .int v5)] → (∀ (H : Heap) (locs : List Loc) (ls : Array Slot), va_P D vwCl (tw base cA μ []) H → va_S (tA base sz0) H0 H locs → lv_has ls 6 [(0, .ref (base + o0)), (1, .int b1), (2, .int w2), (3, .int w3), (4, .int w4)] → W p l e rmX8_counted s m args below meth c H locs cells slots Q (F0 m 76 ls [])) → W p l e rmX8_counted s m args below meth c H locs cells slots Q (F0 m 10 ls []) := by
  obtain ⟨hx, hb, hml, hown, hts⟩ := FX
  have hin7 : ∀ w ∈ wsX70, w ∈ wsX8_counted := by decide +kernel
  have hin8 : ∀ w ∈ wsX80, w ∈ wsX8_counted := by decide +kernel
  intro n
  induction n with
  | zero =>
    intro v2 v3 v4 v5 H locs ls w2 w3 w4 hm
    cases hm
  | succ n ih =>
    intro v2 v3 v4 v5 H locs ls w2 w3 w4 hm hP hS hl K
    rw [X8_counted_L10_s] at hm
    refine lv_iload hx hb dX8_counted_10 (lv_at hl 5 rfl) ?_
    refine lv_aload_n hx hb dX8_counted_12 rfl (lv_at hl 0 rfl) ?_
    refine t_getr (C := RX8) (T := TX8) (N := 3) hx hb hts hin8 hown hK hP ho0 rfl rfl 1 (by decide) (fr8_1 ho0) (hts _ (List.mem_of_getElem? (i := 1) rfl)) dX8_counted_13 ?_
    refine t_getiN (C := RX7) (T := TX7) (N := 26) hx hb hts hin7 hown hK hP (kr8_1 ho0) rfl rfl 11 (by decide) (fk7_11 (kr8_1 ho0)) hN (i := 0) rfl dX8_counted_16 ?_
    refine lv_icmp_ge (tgt := 76) hx hb dX8_counted_19 (by decide) (fun c1 => ?_) (fun c1 => ?_)
    · rw [if_pos c1] at hm
      cases hm
      exact K _ _ _ hP hS (lv_sub hl [0, 1, 2, 3, 4] rfl)
    · rw [if_neg c1] at hm
      refine lv_iload_n hx hb dX8_counted_22 rfl (lv_at hl 2 rfl) ?_
      refine lv_aload_n hx hb dX8_counted_23 rfl (lv_at hl 0 rfl) ?_
      refine t_getr (C := RX8) (T := TX8) (N := 3) hx hb hts hin8 hown hK hP ho0 rfl rfl 1 (by decide) (fr8_1 ho0) (hts _ (List.mem_of_getElem? (i := 1) rfl)) dX8_counted_24 ?_
      refine t_getrN (C := RX7) (T := TX7) (N := 26) hx hb hts hin7 hown hK hP (kr8_1 ho0) rfl rfl 17 (by decide) (fr7_17 (kr8_1 ho0)) hN (i := 15) rfl dX8_counted_27 ?_
      refine lv_iload hx hb dX8_counted_30 (lv_at hl 5 rfl) ?_
      obtain ⟨hg2, hm⟩ := gd_inv hm
      refine t_iald hx hb hK hP (kr7_17 (kr8_1 ho0)) hg2 dX8_counted_32 ?_
      refine lv_iadd hx hb dX8_counted_33 ?_
      refine lv_topi (fun x3 ex3 => ?_)
      replace hm := bV_of hm ex3
      refine lv_istore_n (lv' := [(2, .int x3), (0, .ref (base + o0)), (1, .int b1), (3, .int v3), (4, .int v4), (5, .int v5)]) hx hb dX8_counted_34 rfl hl (by decide) rfl (fun ls hl => ?_)
      refine lv_iload_n hx hb dX8_counted_35 rfl (lv_at hl 3 rfl) ?_
      refine lv_aload_n hx hb dX8_counted_36 rfl (lv_at hl 1 rfl) ?_
      refine t_getr (C := RX8) (T := TX8) (N := 3) hx hb hts hin8 hown hK hP ho0 rfl rfl 1 (by decide) (fr8_1 ho0) (hts _ (List.mem_of_getElem? (i := 1) rfl)) dX8_counted_37 ?_
      refine t_getrN (C := RX7) (T := TX7) (N := 26) hx hb hts hin7 hown hK hP (kr8_1 ho0) rfl rfl 19 (by decide) (fr7_19 (kr8_1 ho0)) hN (i := 13) rfl dX8_counted_40 ?_
      refine lv_iload hx hb dX8_counted_43 (lv_at hl 5 rfl) ?_
      obtain ⟨hg4, hm⟩ := gd_inv hm
      refine t_iald hx hb hK hP (kr7_19 (kr8_1 ho0)) hg4 dX8_counted_45 ?_
      refine lv_iadd hx hb dX8_counted_46 ?_
      refine lv_topi (fun x5 ex5 => ?_)
      replace hm := bV_of hm ex5
      refine lv_istore_n (lv' := [(3, .int x5), (2, .int x3), (0, .ref (base + o0)), (1, .int b1), (4, .int v4), (5, .int v5)]) hx hb dX8_counted_47 rfl hl (by decide) rfl (fun ls hl => ?_)
      refine lv_iload hx hb dX8_counted_48 (lv_at hl 4 rfl) ?_
      refine lv_aload_n hx hb dX8_counted_50 rfl (lv_at hl 2 rfl) ?_
      refine t_getr (C := RX8) (T := TX8) (N := 3) hx hb hts hin8 hown hK hP ho0 rfl rfl 1 (by decide) (fr8_1 ho0) (hts _ (List.mem_of_getElem? (i := 1) rfl)) dX8_counted_51 ?_
      refine lv_iload hx hb dX8_counted_54 (lv_at hl 5 rfl) ?_
      obtain ⟨r6, hc7, hm⟩ := bO1_inv hm
      refine t_cVi (As := [.int v5]) (rest := [.int v4]) (μ' := μ) (r := r6) ⟨hx, hb, hml, hown, hts⟩ (mX7_isAble l D cA base H.size μ (kr8_1 ho0) v5 hc7) (cwV 1 hts gX8_counted_X7_isAble rfl rfl rfl (by decide +kernel) ⟨Nat.le_of_ble_eq_true rfl, Nat.le_of_ble_eq_true rfl⟩) (va_recv hK hP (q0 := RF o0 1) rfl (tw_obj (kr8_1 ho0) (by decide))) hK hN hP hS hz rfl hl.1 (Nat.le_of_ble_eq_true rfl) dX8_counted_56 hcs rfl (fun H locs hP hS => ?_)
      refine lv_if_eq (tgt := 66) hx hb dX8_counted_59 (by decide) (fun c8 => ?_) (fun c8 => ?_)
      · rw [if_pos c8] at hm
        refine lv_iconst (v := (0 : Int32)) hx hb dX8_counted_66 (by decide) ?_
        refine lv_iadd hx hb dX8_counted_67 ?_
        refine lv_topi (fun x9 ex9 => ?_)
        replace hm := bV_of hm ex9
        refine lv_istore (lv' := [(4, .int x9), (3, .int x5), (2, .int x3), (0, .ref (base + o0)), (1, .int b1), (5, .int v5)]) hx hb dX8_counted_68 hl (by decide) rfl (fun ls hl => ?_)
        obtain ⟨x10, ex10⟩ : ∃ z : Int32, z = v5 + (1 : Int32) := ⟨_, rfl⟩
        replace hm := bV_of hm ex10
        refine lv_iinc (v := x10) (lv' := [(5, .int x10), (4, .int x9), (3, .int x5), (2, .int x3), (0, .ref (base + o0)), (1, .int b1)]) hx hb dX8_counted_70 hl (k := 5) rfl (by rw [ex10]; rfl) (by decide) rfl (fun ls hl => ?_)
        refine lv_goto (tgt := 10) hx hb dX8_counted_73 (by decide) ?_
        exact ih x3 x5 x9 x10 _ _ _ w2 w3 w4 hm hP hS (lv_sub hl [4, 5, 3, 2, 1, 0] rfl) K
      · rw [if_neg c8] at hm
        refine lv_iconst (v := (1 : Int32)) hx hb dX8_counted_62 (by decide) ?_
        refine lv_goto (tgt := 67) hx hb dX8_counted_63 (by decide) ?_
        refine lv_iadd hx hb dX8_counted_67 ?_
        refine lv_topi (fun x11 ex11 => ?_)
        replace hm := bV_of hm ex11
        refine lv_istore (lv' := [(4, .int x11), (3, .int x5), (2, .int x3), (0, .ref (base + o0)), (1, .int b1), (5, .int v5)]) hx hb dX8_counted_68 hl (by decide) rfl (fun ls hl => ?_)
        obtain ⟨x12, ex12⟩ : ∃ z : Int32, z = v5 + (1 : Int32) := ⟨_, rfl⟩
        replace hm := bV_of hm ex12
        refine lv_iinc (v := x12) (lv' := [(5, .int x12), (4, .int x11), (3, .int x5), (2, .int x3), (0, .ref (base + o0)), (1, .int b1)]) hx hb dX8_counted_70 hl (k := 5) rfl (by rw [ex12]; rfl) (by decide) rfl (fun ls hl => ?_)
        refine lv_goto (tgt := 10) hx hb dX8_counted_73 (by decide) ?_
        exact ih x3 x5 x11 x12 _ _ _ w2 w3 w4 hm hP hS (lv_sub hl [4, 5, 3, 2, 1, 0] rfl) K
set_option maxHeartbeats 4000000 in
set_option maxRecDepth 100000 in
theorem mX8_counted (l : Launch) (D : va_G) (cA : Nat → ClassId) (base sz : Nat) (μ : MM) {q : Nat} (hq : kc q = 8) (a1 : Int32) {r : Int32} (hm : X8_counted q a1 μ = some r) : Met l yX8_counted wsX8_counted rmX8_counted (va_Pc [.ref (base + q), .int a1] (tPre D cA base sz μ)) (va_Qi (fun (x : Int32) (_ : Unit) => x = r) (fun _ => tPost D cA base μ) (tA base sz)) 1 10 (tA base sz) := by
  refine Met.ofW (cc := cX8_counted) (maxL := 6) (ret := (some .int)) (by decide +kernel) rfl ?_
  intro p e s m args below meth c s₁ B hml hv
  obtain ⟨rfl, hsz, hP, hK, hN⟩ := hv
  have hx := B.exec
  have hb := B.bytes
  have hr := B.returns
  have hts := atoms_spec (ws := wsX8_counted) B.pre
  have hown : s.vm.findClass RX8 = some m.cls := findClass_of_methodNamed B.named
  have hlocks := B.notSynchronized
  have hin7 : ∀ w ∈ wsX70, w ∈ wsX8_counted := by decide +kernel
  have hin8 : ∀ w ∈ wsX80, w ∈ wsX8_counted := by decide +kernel
  subst hsz
  have hS : va_S (tA base s.heap.size) s.heap s.heap [] := va_S.rf
  have hz : s.heap.size ≤ s.heap.size := Nat.le_refl _
  have hl := lv_entry ([.ref (base + q), .int a1]) (n := 6) (Nat.le_of_ble_eq_true rfl)
  rw [lg_entry_eq]
  generalize (lg_sl ([.ref (base + q), .int a1]) ++ List.replicate (6 - (lg_sl ([.ref (base + q), .int a1])).length) Slot.unset).toArray = ls at hl ⊢
  have hl : lv_has ls 6 [(0, .ref (base + q)), (1, .int a1)] := hl
  unfold X8_counted at hm
  refine lv_iconst (v := (0 : Int32)) hx hb dX8_counted_0 (by decide) ?_
  refine lv_istore_n (lv' := [(2, .int (0 : Int32)), (0, .ref (base + q)), (1, .int a1)]) hx hb dX8_counted_1 rfl hl (by decide) rfl (fun ls hl => ?_)
  refine lv_iconst (v := (0 : Int32)) hx hb dX8_counted_2 (by decide) ?_
  refine lv_istore_n (lv' := [(3, .int (0 : Int32)), (2, .int (0 : Int32)), (0, .ref (base + q)), (1, .int a1)]) hx hb dX8_counted_3 rfl hl (by decide) rfl (fun ls hl => ?_)
  refine lv_iconst (v := (0 : Int32)) hx hb dX8_counted_4 (by decide) ?_
  refine lv_istore (lv' := [(4, .int (0 : Int32)), (3, .int (0 : Int32)), (2, .int (0 : Int32)), (0, .ref (base + q)), (1, .int a1)]) hx hb dX8_counted_5 hl (by decide) rfl (fun ls hl => ?_)
  refine lv_iconst (v := (0 : Int32)) hx hb dX8_counted_7 (by decide) ?_
  refine lv_istore (lv' := [(5, .int (0 : Int32)), (4, .int (0 : Int32)), (3, .int (0 : Int32)), (2, .int (0 : Int32)), (0, .ref (base + q)), (1, .int a1)]) hx hb dX8_counted_8 hl (by decide) rfl (fun ls hl => ?_)
  obtain ⟨x13, x14, x15, hc16, hm⟩ := bO3_inv hm
  refine lX8_counted_L10 ⟨hx, hb, hml, hown, hts⟩ hK hN hz hq a1 μ ⟨Nat.le_of_ble_eq_true rfl, Nat.le_of_ble_eq_true rfl⟩ 1000 (0 : Int32) (0 : Int32) (0 : Int32) (0 : Int32) _ _ _ x13 x14 x15 hc16 hP hS (lv_sub hl [4, 5, 3, 2, 1, 0] rfl) ?_
  intro H locs ls hP hS hl
  refine lv_bipush (v := (10 : Int32)) hx hb dX8_counted_76 (by decide) ?_
  refine t_newi (N' := 10) hx hb (hts _ (List.mem_of_getElem? (i := 2) rfl)) hK hP hS hz (by decide) (by decide) (by decide) (Nat.le_of_ble_eq_true rfl) (Nat.le_of_ble_eq_true rfl) dX8_counted_78 (fun qt cT H hKt hP hDt hS => ?_)
  refine lv_dup hx hb dX8_counted_80 rfl ?_
  refine lv_iconst (v := (0 : Int32)) hx hb dX8_counted_81 (by decide) ?_
  refine lv_aload_n hx hb dX8_counted_82 rfl (lv_at hl 0 rfl) ?_
  refine t_getr (C := RX8) (T := TX8) (N := 3) hx hb hts hin8 hown hK hP hq rfl rfl 1 (by decide) (fr8_1 hq) (hts _ (List.mem_of_getElem? (i := 1) rfl)) dX8_counted_83 ?_
  refine t_getiN (C := RX7) (T := TX7) (N := 26) hx hb hts hin7 hown hK hP (kr8_1 hq) rfl rfl 0 (by decide) (fk7_0 (kr8_1 hq)) hN (i := 20) rfl dX8_counted_86 ?_
  refine t_iastT hx hb hKt hP hDt hS (i := (0 : Int32)) (by unfold vp_in; decide) dX8_counted_89 (fun H locs hP hDt hS => ?_)
  refine lv_dup hx hb dX8_counted_90 rfl ?_
  refine lv_iconst (v := (1 : Int32)) hx hb dX8_counted_91 (by decide) ?_
  refine lv_aload_n hx hb dX8_counted_92 rfl (lv_at hl 0 rfl) ?_
  refine t_getr (C := RX8) (T := TX8) (N := 3) hx hb hts hin8 hown hK hP hq rfl rfl 1 (by decide) (fr8_1 hq) (hts _ (List.mem_of_getElem? (i := 1) rfl)) dX8_counted_93 ?_
  refine t_getiN (C := RX7) (T := TX7) (N := 26) hx hb hts hin7 hown hK hP (kr8_1 hq) rfl rfl 1 (by decide) (fk7_1 (kr8_1 hq)) hN (i := 2) rfl dX8_counted_96 ?_
  refine t_iastT hx hb hKt hP hDt hS (i := (1 : Int32)) (by unfold vp_in; decide) dX8_counted_99 (fun H locs hP hDt hS => ?_)
  refine lv_dup hx hb dX8_counted_100 rfl ?_
  refine lv_iconst (v := (2 : Int32)) hx hb dX8_counted_101 (by decide) ?_
  refine lv_aload_n hx hb dX8_counted_102 rfl (lv_at hl 0 rfl) ?_
  refine t_getr (C := RX8) (T := TX8) (N := 3) hx hb hts hin8 hown hK hP hq rfl rfl 1 (by decide) (fr8_1 hq) (hts _ (List.mem_of_getElem? (i := 1) rfl)) dX8_counted_103 ?_
  refine t_getiN (C := RX7) (T := TX7) (N := 26) hx hb hts hin7 hown hK hP (kr8_1 hq) rfl rfl 3 (by decide) (fk7_3 (kr8_1 hq)) hN (i := 3) rfl dX8_counted_106 ?_
  refine t_iastT hx hb hKt hP hDt hS (i := (2 : Int32)) (by unfold vp_in; decide) dX8_counted_109 (fun H locs hP hDt hS => ?_)
  refine lv_dup hx hb dX8_counted_110 rfl ?_
  refine lv_iconst (v := (3 : Int32)) hx hb dX8_counted_111 (by decide) ?_
  refine lv_aload_n hx hb dX8_counted_112 rfl (lv_at hl 0 rfl) ?_
  refine t_getr (C := RX8) (T := TX8) (N := 3) hx hb hts hin8 hown hK hP hq rfl rfl 1 (by decide) (fr8_1 hq) (hts _ (List.mem_of_getElem? (i := 1) rfl)) dX8_counted_113 ?_
  refine t_getrN (C := RX7) (T := TX7) (N := 26) hx hb hts hin7 hown hK hP (kr8_1 hq) rfl rfl 22 (by decide) (fr7_22 (kr8_1 hq)) hN (i := 14) rfl dX8_counted_116 ?_
  refine lv_iconst (v := (0 : Int32)) hx hb dX8_counted_119 (by decide) ?_
  obtain ⟨hg17, hm⟩ := gd_inv hm
  refine t_iald hx hb hK hP (kr7_22 (kr8_1 hq)) hg17 dX8_counted_120 ?_
  refine t_iastT hx hb hKt hP hDt hS (i := (3 : Int32)) (by unfold vp_in; decide) dX8_counted_121 (fun H locs hP hDt hS => ?_)
  refine lv_dup hx hb dX8_counted_122 rfl ?_
  refine lv_iconst (v := (4 : Int32)) hx hb dX8_counted_123 (by decide) ?_
  refine lv_aload_n hx hb dX8_counted_124 rfl (lv_at hl 0 rfl) ?_
  refine t_getr (C := RX8) (T := TX8) (N := 3) hx hb hts hin8 hown hK hP hq rfl rfl 1 (by decide) (fr8_1 hq) (hts _ (List.mem_of_getElem? (i := 1) rfl)) dX8_counted_125 ?_
  refine t_getiN (C := RX7) (T := TX7) (N := 26) hx hb hts hin7 hown hK hP (kr8_1 hq) rfl rfl 11 (by decide) (fk7_11 (kr8_1 hq)) hN (i := 0) rfl dX8_counted_128 ?_
  refine t_iastT hx hb hKt hP hDt hS (i := (4 : Int32)) (by unfold vp_in; decide) dX8_counted_131 (fun H locs hP hDt hS => ?_)
  refine lv_dup hx hb dX8_counted_132 rfl ?_
  refine lv_iconst (v := (5 : Int32)) hx hb dX8_counted_133 (by decide) ?_
  refine lv_aload_n hx hb dX8_counted_134 rfl (lv_at hl 0 rfl) ?_
  refine t_getr (C := RX8) (T := TX8) (N := 3) hx hb hts hin8 hown hK hP hq rfl rfl 1 (by decide) (fr8_1 hq) (hts _ (List.mem_of_getElem? (i := 1) rfl)) dX8_counted_135 ?_
  refine t_getiN (C := RX7) (T := TX7) (N := 26) hx hb hts hin7 hown hK hP (kr8_1 hq) rfl rfl 4 (by decide) (fk7_4 (kr8_1 hq)) hN (i := 1) rfl dX8_counted_138 ?_
  refine t_iastT hx hb hKt hP hDt hS (i := (5 : Int32)) (by unfold vp_in; decide) dX8_counted_141 (fun H locs hP hDt hS => ?_)
  refine lv_dup hx hb dX8_counted_142 rfl ?_
  refine lv_bipush (v := (6 : Int32)) hx hb dX8_counted_143 (by decide) ?_
  refine lv_aload_n hx hb dX8_counted_145 rfl (lv_at hl 0 rfl) ?_
  refine t_getr (C := RX8) (T := TX8) (N := 3) hx hb hts hin8 hown hK hP hq rfl rfl 1 (by decide) (fr8_1 hq) (hts _ (List.mem_of_getElem? (i := 1) rfl)) dX8_counted_146 ?_
  obtain ⟨r18, hc19, hm⟩ := bO1_inv hm
  refine t_cViT (As := []) (rest := [.int (6 : Int32), .ref qt, .ref qt]) (r := r18) ⟨hx, hb, hml, hown, hts⟩ (mX7_all l D cA base H.size μ (kr8_1 hq) hc19) (cwV 0 hts gX8_counted_X7_all rfl rfl rfl (by decide +kernel) ⟨Nat.le_of_ble_eq_true rfl, Nat.le_of_ble_eq_true rfl⟩) (va_recv hK hP (q0 := RF q 1) rfl (tw_obj (kr8_1 hq) (by decide))) hK hN hP hDt hS hz rfl hl.1 (Nat.le_of_ble_eq_true rfl) dX8_counted_149 ⟨Nat.le_of_ble_eq_true rfl, Nat.le_of_ble_eq_true rfl⟩ rfl (fun H locs hP hDt hS => ?_)
  refine t_iastT hx hb hKt hP hDt hS (i := (6 : Int32)) (by unfold vp_in; decide) dX8_counted_152 (fun H locs hP hDt hS => ?_)
  refine lv_dup hx hb dX8_counted_153 rfl ?_
  refine lv_bipush (v := (7 : Int32)) hx hb dX8_counted_154 (by decide) ?_
  refine lv_iload_n hx hb dX8_counted_156 rfl (lv_at hl 2 rfl) ?_
  refine t_iastT hx hb hKt hP hDt hS (i := (7 : Int32)) (by unfold vp_in; decide) dX8_counted_157 (fun H locs hP hDt hS => ?_)
  refine lv_dup hx hb dX8_counted_158 rfl ?_
  refine lv_bipush (v := (8 : Int32)) hx hb dX8_counted_159 (by decide) ?_
  refine lv_iload_n hx hb dX8_counted_161 rfl (lv_at hl 3 rfl) ?_
  refine t_iastT hx hb hKt hP hDt hS (i := (8 : Int32)) (by unfold vp_in; decide) dX8_counted_162 (fun H locs hP hDt hS => ?_)
  refine lv_dup hx hb dX8_counted_163 rfl ?_
  refine lv_bipush (v := (9 : Int32)) hx hb dX8_counted_164 (by decide) ?_
  refine lv_iload hx hb dX8_counted_166 (lv_at hl 4 rfl) ?_
  refine t_iastT hx hb hKt hP hDt hS (i := (9 : Int32)) (by unfold vp_in; decide) dX8_counted_168 (fun H locs hP hDt hS => ?_)
  refine lv_astore (lv' := [(5, .ref qt), (0, .ref (base + q)), (1, .int a1), (2, .int x13), (3, .int x14), (4, .int x15)]) hx hb dX8_counted_169 hl (by decide) rfl (fun ls hl => ?_)
  refine lv_aload hx hb dX8_counted_171 (lv_at hl 0 rfl) ?_
  refine lv_iload_n hx hb dX8_counted_173 rfl (lv_at hl 2 rfl) ?_
  obtain ⟨hg20, hm⟩ := gd_inv hm
  refine t_ialdT hx hb hKt hP hg20 dX8_counted_174 ?_
  cases hm
  refine W.widen (k := 1) (n := 10) (Nat.le_of_ble_eq_true rfl) (Nat.le_of_ble_eq_true rfl) ?_
  exact W.iret hx hb hr (fun t ht hW => ⟨⟨_, (), rfl, rfl, tPost_of (tw_drop hP) ht⟩, hS.F ht⟩) hS.2.2 dX8_counted_175
abbrev rmX8_count : Room := { frames := 2, cells := 1, slots := 10, locals := 48 }
set_option maxHeartbeats 4000000 in
set_option maxRecDepth 100000 in
theorem mX8_count (l : Launch) (D : va_G) (cA : Nat → ClassId) (base sz : Nat) (μ : MM) {q : Nat} (hq : kc q = 8) (a1 : Int32) {r : Int32} {μ' : MM} (hm : X8_count q a1 μ = some (r, μ')) : Met l yX8_count wsX8_count rmX8_count (va_Pc [.ref (base + q), .int a1] (tPre D cA base sz μ)) (va_Qi (fun (x : Int32) (_ : Unit) => x = r) (fun _ => tPost D cA base μ') (tA base sz)) 1 10 (tA base sz) := by
  refine Met.ofW (cc := cX8_count) (maxL := 2) (ret := (some .int)) (by decide +kernel) rfl ?_
  intro p e s m args below meth c s₁ B hml hv
  obtain ⟨rfl, hsz, hP, hK, hN⟩ := hv
  have hx := B.exec
  have hb := B.bytes
  have hr := B.returns
  have hts := atoms_spec (ws := wsX8_count) B.pre
  have hown : s.vm.findClass RX8 = some m.cls := findClass_of_methodNamed B.named
  have hlocks := B.notSynchronized
  have hin8 : ∀ w ∈ wsX80, w ∈ wsX8_count := by decide +kernel
  subst hsz
  have hS : va_S (tA base s.heap.size) s.heap s.heap [] := va_S.rf
  have hz : s.heap.size ≤ s.heap.size := Nat.le_refl _
  have hl := lv_entry ([.ref (base + q), .int a1]) (n := 2) (Nat.le_of_ble_eq_true rfl)
  rw [lg_entry_eq]
  generalize (lg_sl ([.ref (base + q), .int a1]) ++ List.replicate (2 - (lg_sl ([.ref (base + q), .int a1])).length) Slot.unset).toArray = ls at hl ⊢
  have hl : lv_has ls 2 [(0, .ref (base + q)), (1, .int a1)] := hl
  unfold X8_count at hm
  refine lv_aload_n hx hb dX8_count_0 rfl (lv_at hl 0 rfl) ?_
  refine lv_iconst (v := (0 : Int32)) hx hb dX8_count_1 (by decide) ?_
  refine t_put (C := RX8) (T := TX8) (N := 3) hx hb hts hin8 tyX8 tyX8_ok nmX8 hown hK hP (tD _ _ _ _) hS hq rfl rfl 0 (by decide) (fk8_0 hq) (hts _ (List.mem_of_getElem? (i := 1) rfl)) rfl (by decide +kernel) dX8_count_2 (fun H locs hP hS => ?_)
  obtain ⟨μ1, eμ1⟩ : ∃ z : MM, z = wI μ q 0 (0 : Int32) := ⟨_, rfl⟩
  rw [← eμ1] at hP
  replace hm := bV_of hm eμ1
  refine lv_iload_n hx hb dX8_count_5 rfl (lv_at hl 1 rfl) ?_
  refine lv_iconst (v := (0 : Int32)) hx hb dX8_count_6 (by decide) ?_
  refine lv_bipush (v := (9 : Int32)) hx hb dX8_count_7 (by decide) ?_
  refine t_cSi (As := [.int a1, .int (0 : Int32), .int (9 : Int32)]) (rest := []) (μ' := μ1) (r := (X8_isIn a1 (0 : Int32) (9 : Int32))) ⟨hx, hb, hml, hown, hts⟩ (mX8_isIn l D cA base H.size μ1 a1 (0 : Int32) (9 : Int32) rfl) (va_cwS 3 hts gX8_count_X8_isIn rfl rfl rfl (by decide +kernel) ⟨Nat.le_of_ble_eq_true rfl, Nat.le_of_ble_eq_true rfl⟩) hK hN hP hS hz rfl hl.1 (Nat.le_of_ble_eq_true rfl) dX8_count_9 ⟨Nat.le_of_ble_eq_true rfl, Nat.le_of_ble_eq_true rfl⟩ rfl (fun H locs hP hS => ?_)
  refine lv_if_eq (tgt := 23) hx hb dX8_count_12 (by decide) (fun c4 => ?_) (fun c4 => ?_)
  · rw [if_pos c4] at hm
    refine lv_aload_n hx hb dX8_count_23 rfl (lv_at hl 0 rfl) ?_
    refine lv_iconst (v := (1 : Int32)) hx hb dX8_count_24 (by decide) ?_
    obtain ⟨⟨r5, μ6⟩, hc7⟩ : ∃ z, X8_no q (1 : Int32) μ1 = z := ⟨_, rfl⟩
    replace hm := bP_of hm hc7
    refine t_cVi (As := [.int (1 : Int32)]) (rest := []) (μ' := μ6) (r := r5) ⟨hx, hb, hml, hown, hts⟩ (mX8_no l D cA base H.size μ1 hq (1 : Int32) hc7) (cwV 1 hts gX8_count_X8_no rfl rfl rfl (by decide +kernel) ⟨Nat.le_of_ble_eq_true rfl, Nat.le_of_ble_eq_true rfl⟩) (va_recv hK hP (q0 := q) rfl (tw_obj hq (by decide))) hK hN hP hS hz rfl hl.1 (Nat.le_of_ble_eq_true rfl) dX8_count_25 ⟨Nat.le_of_ble_eq_true rfl, Nat.le_of_ble_eq_true rfl⟩ rfl (fun H locs hP hS => ?_)
    cases hm
    refine W.widen (k := 1) (n := 10) (Nat.le_of_ble_eq_true rfl) (Nat.le_of_ble_eq_true rfl) ?_
    exact W.iret hx hb hr (fun t ht hW => ⟨⟨_, (), rfl, rfl, tPost_of hP ht⟩, hS.F ht⟩) hS.2.2 dX8_count_28
  · rw [if_neg c4] at hm
    refine lv_aload_n hx hb dX8_count_15 rfl (lv_at hl 0 rfl) ?_
    refine lv_iload_n hx hb dX8_count_16 rfl (lv_at hl 1 rfl) ?_
    obtain ⟨r8, hc9, hm⟩ := bO1_inv hm
    refine t_cVi (As := [.int a1]) (rest := []) (μ' := μ1) (r := r8) ⟨hx, hb, hml, hown, hts⟩ (mX8_counted l D cA base H.size μ1 hq a1 hc9) (cwV 1 hts gX8_count_X8_counted rfl rfl rfl (by decide +kernel) ⟨Nat.le_of_ble_eq_true rfl, Nat.le_of_ble_eq_true rfl⟩) (va_recv hK hP (q0 := q) rfl (tw_obj hq (by decide))) hK hN hP hS hz rfl hl.1 (Nat.le_of_ble_eq_true rfl) dX8_count_17 ⟨Nat.le_of_ble_eq_true rfl, Nat.le_of_ble_eq_true rfl⟩ rfl (fun H locs hP hS => ?_)
    refine lv_goto (tgt := 28) hx hb dX8_count_20 (by decide) ?_
    cases hm
    refine W.widen (k := 1) (n := 10) (Nat.le_of_ble_eq_true rfl) (Nat.le_of_ble_eq_true rfl) ?_
    exact W.iret hx hb hr (fun t ht hW => ⟨⟨_, (), rfl, rfl, tPost_of hP ht⟩, hS.F ht⟩) hS.2.2 dX8_count_28
abbrev rmX8_foresee : Room := { frames := 5, cells := 0, slots := 0, locals := 115 }
set_option maxHeartbeats 4000000 in
set_option maxRecDepth 100000 in
theorem mX8_foresee (l : Launch) (D : va_G) (cA : Nat → ClassId) (base sz : Nat) (μ : MM) {q : Nat} (hq : kc q = 8) (a1 : Int32) (a2 : Int32) (a3 : Int32) {r : Int32} {μ' : MM} (hm : X8_foresee q a1 a2 a3 μ = some (r, μ')) : Met l yX8_foresee wsX8_foresee rmX8_foresee (va_Pc [.ref (base + q), .int a1, .int a2, .int a3] (tPre D cA base sz μ)) (va_Qi (fun (x : Int32) (_ : Unit) => x = r) (fun _ => tPost D cA base μ') (tA base sz)) 0 0 (tA base sz) := by
  refine Met.ofW (cc := cX8_foresee) (maxL := 4) (ret := (some .int)) (by decide +kernel) rfl ?_
  intro p e s m args below meth c s₁ B hml hv
  obtain ⟨rfl, hsz, hP, hK, hN⟩ := hv
  have hx := B.exec
  have hb := B.bytes
  have hr := B.returns
  have hts := atoms_spec (ws := wsX8_foresee) B.pre
  have hown : s.vm.findClass RX8 = some m.cls := findClass_of_methodNamed B.named
  have hlocks := B.notSynchronized
  have hin7 : ∀ w ∈ wsX70, w ∈ wsX8_foresee := by decide +kernel
  have hin8 : ∀ w ∈ wsX80, w ∈ wsX8_foresee := by decide +kernel
  subst hsz
  have hS : va_S (tA base s.heap.size) s.heap s.heap [] := va_S.rf
  have hz : s.heap.size ≤ s.heap.size := Nat.le_refl _
  have hl := lv_entry ([.ref (base + q), .int a1, .int a2, .int a3]) (n := 4) (Nat.le_of_ble_eq_true rfl)
  rw [lg_entry_eq]
  generalize (lg_sl ([.ref (base + q), .int a1, .int a2, .int a3]) ++ List.replicate (4 - (lg_sl ([.ref (base + q), .int a1, .int a2, .int a3])).length) Slot.unset).toArray = ls at hl ⊢
  have hl : lv_has ls 4 [(0, .ref (base + q)), (1, .int a1), (2, .int a2), (3, .int a3)] := hl
  unfold X8_foresee at hm
  refine lv_aload_n hx hb dX8_foresee_0 rfl (lv_at hl 0 rfl) ?_
  refine lv_iconst (v := (0 : Int32)) hx hb dX8_foresee_1 (by decide) ?_
  refine t_put (C := RX8) (T := TX8) (N := 3) hx hb hts hin8 tyX8 tyX8_ok nmX8 hown hK hP (tD _ _ _ _) hS hq rfl rfl 0 (by decide) (fk8_0 hq) (hts _ (List.mem_of_getElem? (i := 1) rfl)) rfl (by decide +kernel) dX8_foresee_2 (fun H locs hP hS => ?_)
  obtain ⟨μ1, eμ1⟩ : ∃ z : MM, z = wI μ q 0 (0 : Int32) := ⟨_, rfl⟩
  rw [← eμ1] at hP
  replace hm := bV_of hm eμ1
  refine lv_aload_n hx hb dX8_foresee_5 rfl (lv_at hl 0 rfl) ?_
  refine lv_iload_n hx hb dX8_foresee_6 rfl (lv_at hl 1 rfl) ?_
  refine t_cVi (As := [.int a1]) (rest := []) (μ' := μ1) (r := (X8_isBooth q a1 μ1)) ⟨hx, hb, hml, hown, hts⟩ (mX8_isBooth l D cA base H.size μ1 hq a1 rfl) (cwV 1 hts gX8_foresee_X8_isBooth rfl rfl rfl (by decide +kernel) ⟨Nat.le_of_ble_eq_true rfl, Nat.le_of_ble_eq_true rfl⟩) (va_recv hK hP (q0 := q) rfl (tw_obj hq (by decide))) hK hN hP hS hz rfl hl.1 (Nat.le_of_ble_eq_true rfl) dX8_foresee_7 ⟨Nat.le_of_ble_eq_true rfl, Nat.le_of_ble_eq_true rfl⟩ rfl (fun H locs hP hS => ?_)
  refine lv_if_eq (tgt := 22) hx hb dX8_foresee_10 (by decide) (fun c4 => ?_) (fun c4 => ?_)
  · rw [if_pos c4] at hm
    refine lv_aload_n hx hb dX8_foresee_22 rfl (lv_at hl 0 rfl) ?_
    refine lv_iconst (v := (1 : Int32)) hx hb dX8_foresee_23 (by decide) ?_
    obtain ⟨⟨r5, μ6⟩, hc7⟩ : ∃ z, X8_no q (1 : Int32) μ1 = z := ⟨_, rfl⟩
    replace hm := bP_of hm hc7
    refine t_cVi (As := [.int (1 : Int32)]) (rest := []) (μ' := μ6) (r := r5) ⟨hx, hb, hml, hown, hts⟩ (mX8_no l D cA base H.size μ1 hq (1 : Int32) hc7) (cwV 1 hts gX8_foresee_X8_no rfl rfl rfl (by decide +kernel) ⟨Nat.le_of_ble_eq_true rfl, Nat.le_of_ble_eq_true rfl⟩) (va_recv hK hP (q0 := q) rfl (tw_obj hq (by decide))) hK hN hP hS hz rfl hl.1 (Nat.le_of_ble_eq_true rfl) dX8_foresee_24 ⟨Nat.le_of_ble_eq_true rfl, Nat.le_of_ble_eq_true rfl⟩ rfl (fun H locs hP hS => ?_)
    cases hm
    exact W.iret hx hb hr (fun t ht hW => ⟨⟨_, (), rfl, rfl, tPost_of hP ht⟩, hS.F ht⟩) hS.2.2 dX8_foresee_27
  · rw [if_neg c4] at hm
    refine lv_iload_n hx hb dX8_foresee_13 rfl (lv_at hl 3 rfl) ?_
    refine lv_iconst (v := (0 : Int32)) hx hb dX8_foresee_14 (by decide) ?_
    refine lv_iconst (v := (2 : Int32)) hx hb dX8_foresee_15 (by decide) ?_
    refine t_cSi (As := [.int a3, .int (0 : Int32), .int (2 : Int32)]) (rest := []) (μ' := μ1) (r := (X8_isIn a3 (0 : Int32) (2 : Int32))) ⟨hx, hb, hml, hown, hts⟩ (mX8_isIn l D cA base H.size μ1 a3 (0 : Int32) (2 : Int32) rfl) (va_cwS 3 hts gX8_foresee_X8_isIn rfl rfl rfl (by decide +kernel) ⟨Nat.le_of_ble_eq_true rfl, Nat.le_of_ble_eq_true rfl⟩) hK hN hP hS hz rfl hl.1 (Nat.le_of_ble_eq_true rfl) dX8_foresee_16 ⟨Nat.le_of_ble_eq_true rfl, Nat.le_of_ble_eq_true rfl⟩ rfl (fun H locs hP hS => ?_)
    refine lv_if_ne (tgt := 28) hx hb dX8_foresee_19 (by decide) (fun c10 => ?_) (fun c10 => ?_)
    · rw [if_neg c10] at hm
      refine lv_iload_n hx hb dX8_foresee_28 rfl (lv_at hl 2 rfl) ?_
      refine lv_iconst (v := (1 : Int32)) hx hb dX8_foresee_29 (by decide) ?_
      refine lv_bipush (v := (100 : Int32)) hx hb dX8_foresee_30 (by decide) ?_
      refine t_cSi (As := [.int a2, .int (1 : Int32), .int (100 : Int32)]) (rest := []) (μ' := μ1) (r := (X8_isIn a2 (1 : Int32) (100 : Int32))) ⟨hx, hb, hml, hown, hts⟩ (mX8_isIn l D cA base H.size μ1 a2 (1 : Int32) (100 : Int32) rfl) (va_cwS 3 hts gX8_foresee_X8_isIn rfl rfl rfl (by decide +kernel) ⟨Nat.le_of_ble_eq_true rfl, Nat.le_of_ble_eq_true rfl⟩) hK hN hP hS hz rfl hl.1 (Nat.le_of_ble_eq_true rfl) dX8_foresee_32 ⟨Nat.le_of_ble_eq_true rfl, Nat.le_of_ble_eq_true rfl⟩ rfl (fun H locs hP hS => ?_)
      refine lv_if_ne (tgt := 44) hx hb dX8_foresee_35 (by decide) (fun c13 => ?_) (fun c13 => ?_)
      · rw [if_neg c13] at hm
        refine lv_aload_n hx hb dX8_foresee_44 rfl (lv_at hl 0 rfl) ?_
        refine t_getr (C := RX8) (T := TX8) (N := 3) hx hb hts hin8 hown hK hP hq rfl rfl 1 (by decide) (fr8_1 hq) (hts _ (List.mem_of_getElem? (i := 2) rfl)) dX8_foresee_45 ?_
        refine t_getiN (C := RX7) (T := TX7) (N := 26) hx hb hts hin7 hown hK hP (kr8_1 hq) rfl rfl 0 (by decide) (fk7_0 (kr8_1 hq)) hN (i := 20) rfl dX8_foresee_48 ?_
        refine lv_iload_n hx hb dX8_foresee_51 rfl (lv_at hl 2 rfl) ?_
        refine lv_iadd hx hb dX8_foresee_52 ?_
        refine lv_sipush (v := (400 : Int32)) hx hb dX8_foresee_53 (by decide) ?_
        refine lv_icmp_le (tgt := 65) hx hb dX8_foresee_56 (by decide) (fun c14 => ?_) (fun c14 => ?_)
        · rw [if_pos c14] at hm
          refine lv_aload_n hx hb dX8_foresee_65 rfl (lv_at hl 0 rfl) ?_
          refine t_getr (C := RX8) (T := TX8) (N := 3) hx hb hts hin8 hown hK hP hq rfl rfl 2 (by decide) (fr8_2 hq) (hts _ (List.mem_of_getElem? (i := 3) rfl)) dX8_foresee_66 ?_
          refine lv_aload_n hx hb dX8_foresee_69 rfl (lv_at hl 0 rfl) ?_
          refine t_getr (C := RX8) (T := TX8) (N := 3) hx hb hts hin8 hown hK hP hq rfl rfl 1 (by decide) (fr8_1 hq) (hts _ (List.mem_of_getElem? (i := 2) rfl)) dX8_foresee_70 ?_
          obtain ⟨μ15, hc16, hm⟩ := bO1_inv hm
          refine t_cVv (As := [.ref (base + (RF q 1))]) (rest := []) (μ' := μ15) ⟨hx, hb, hml, hown, hts⟩ (mX7_become l D cA base H.size μ1 (kr8_2 hq) (kr8_1 hq) hc16) (cwV 1 hts gX8_foresee_X7_become rfl rfl rfl (by decide +kernel) ⟨Nat.le_of_ble_eq_true rfl, Nat.le_of_ble_eq_true rfl⟩) (va_recv hK hP (q0 := RF q 2) rfl (tw_obj (kr8_2 hq) (by decide))) hK hN hP hS hz rfl hl.1 (Nat.le_of_ble_eq_true rfl) dX8_foresee_73 ⟨Nat.le_of_ble_eq_true rfl, Nat.le_of_ble_eq_true rfl⟩ rfl (fun H locs hP hS => ?_)
          refine lv_aload_n hx hb dX8_foresee_76 rfl (lv_at hl 0 rfl) ?_
          refine t_getr (C := RX8) (T := TX8) (N := 3) hx hb hts hin8 hown hK hP hq rfl rfl 2 (by decide) (fr8_2 hq) (hts _ (List.mem_of_getElem? (i := 3) rfl)) dX8_foresee_77 ?_
          refine lv_iload_n hx hb dX8_foresee_80 rfl (lv_at hl 2 rfl) ?_
          obtain ⟨r17, μ18, hc19, hm⟩ := bO2_inv hm
          refine t_cSi (As := [.ref (base + (RF q 2)), .int a2]) (rest := []) (μ' := μ18) (r := r17) ⟨hx, hb, hml, hown, hts⟩ (mX8_pass l D cA base H.size μ15 (kr8_2 hq) a2 hc19) (va_cwS 2 hts gX8_foresee_X8_pass rfl rfl rfl (by decide +kernel) ⟨Nat.le_of_ble_eq_true rfl, Nat.le_of_ble_eq_true rfl⟩) hK hN hP hS hz rfl hl.1 (Nat.le_of_ble_eq_true rfl) dX8_foresee_81 ⟨Nat.le_of_ble_eq_true rfl, Nat.le_of_ble_eq_true rfl⟩ rfl (fun H locs hP hS => ?_)
          refine lv_pop hx hb dX8_foresee_84 rfl ?_
          refine lv_iload_n hx hb dX8_foresee_85 rfl (lv_at hl 3 rfl) ?_
          refine lv_if_ne (tgt := 100) hx hb dX8_foresee_86 (by decide) (fun c20 => ?_) (fun c20 => ?_)
          · rw [if_neg c20] at hm
            refine lv_iload_n hx hb dX8_foresee_100 rfl (lv_at hl 3 rfl) ?_
            refine lv_iconst (v := (1 : Int32)) hx hb dX8_foresee_101 (by decide) ?_
            refine lv_icmp_ne (tgt := 117) hx hb dX8_foresee_102 (by decide) (fun c21 => ?_) (fun c21 => ?_)
            · rw [if_neg c21] at hm
              refine lv_aload_n hx hb dX8_foresee_117 rfl (lv_at hl 0 rfl) ?_
              refine t_getr (C := RX8) (T := TX8) (N := 3) hx hb hts hin8 hown hK hP hq rfl rfl 2 (by decide) (fr8_2 hq) (hts _ (List.mem_of_getElem? (i := 3) rfl)) dX8_foresee_118 ?_
              refine t_getrN (C := RX7) (T := TX7) (N := 26) hx hb hts hin7 hown hK hP (kr8_2 hq) rfl rfl 22 (by decide) (fr7_22 (kr8_2 hq)) hN (i := 14) rfl dX8_foresee_121 ?_
              refine lv_iload_n hx hb dX8_foresee_124 rfl (lv_at hl 1 rfl) ?_
              refine lv_iconst (v := (1 : Int32)) hx hb dX8_foresee_125 (by decide) ?_
              refine lv_iadd hx hb dX8_foresee_126 ?_
              obtain ⟨hg22, hm⟩ := gd_inv hm
              refine t_iald hx hb hK hP (kr7_22 (kr8_2 hq)) hg22 dX8_foresee_127 ?_
              cases hm
              exact W.iret hx hb hr (fun t ht hW => ⟨⟨_, (), rfl, rfl, tPost_of hP ht⟩, hS.F ht⟩) hS.2.2 dX8_foresee_128
            · rw [if_pos c21] at hm
              refine lv_aload_n hx hb dX8_foresee_105 rfl (lv_at hl 0 rfl) ?_
              refine t_getr (C := RX8) (T := TX8) (N := 3) hx hb hts hin8 hown hK hP hq rfl rfl 2 (by decide) (fr8_2 hq) (hts _ (List.mem_of_getElem? (i := 3) rfl)) dX8_foresee_106 ?_
              refine t_getrN (C := RX7) (T := TX7) (N := 26) hx hb hts hin7 hown hK hP (kr8_2 hq) rfl rfl 17 (by decide) (fr7_17 (kr8_2 hq)) hN (i := 15) rfl dX8_foresee_109 ?_
              refine lv_iload_n hx hb dX8_foresee_112 rfl (lv_at hl 1 rfl) ?_
              obtain ⟨hg23, hm⟩ := gd_inv hm
              refine t_iald hx hb hK hP (kr7_17 (kr8_2 hq)) hg23 dX8_foresee_113 ?_
              refine lv_goto (tgt := 128) hx hb dX8_foresee_114 (by decide) ?_
              cases hm
              exact W.iret hx hb hr (fun t ht hW => ⟨⟨_, (), rfl, rfl, tPost_of hP ht⟩, hS.F ht⟩) hS.2.2 dX8_foresee_128
          · rw [if_pos c20] at hm
            refine lv_aload_n hx hb dX8_foresee_89 rfl (lv_at hl 0 rfl) ?_
            refine t_getr (C := RX8) (T := TX8) (N := 3) hx hb hts hin8 hown hK hP hq rfl rfl 2 (by decide) (fr8_2 hq) (hts _ (List.mem_of_getElem? (i := 3) rfl)) dX8_foresee_90 ?_
            refine lv_iload_n hx hb dX8_foresee_93 rfl (lv_at hl 1 rfl) ?_
            obtain ⟨r24, μ25, hc26, hm⟩ := bO2_inv hm
            refine t_cVi (As := [.int a1]) (rest := []) (μ' := μ25) (r := r24) ⟨hx, hb, hml, hown, hts⟩ (mX7_through l D cA base H.size μ18 (kr8_2 hq) a1 hc26) (cwV 1 hts gX8_foresee_X7_through rfl rfl rfl (by decide +kernel) ⟨Nat.le_of_ble_eq_true rfl, Nat.le_of_ble_eq_true rfl⟩) (va_recv hK hP (q0 := RF q 2) rfl (tw_obj (kr8_2 hq) (by decide))) hK hN hP hS hz rfl hl.1 (Nat.le_of_ble_eq_true rfl) dX8_foresee_94 ⟨Nat.le_of_ble_eq_true rfl, Nat.le_of_ble_eq_true rfl⟩ rfl (fun H locs hP hS => ?_)
            refine lv_goto (tgt := 128) hx hb dX8_foresee_97 (by decide) ?_
            cases hm
            exact W.iret hx hb hr (fun t ht hW => ⟨⟨_, (), rfl, rfl, tPost_of hP ht⟩, hS.F ht⟩) hS.2.2 dX8_foresee_128
        · rw [if_neg c14] at hm
          refine lv_aload_n hx hb dX8_foresee_59 rfl (lv_at hl 0 rfl) ?_
          refine lv_iconst (v := (3 : Int32)) hx hb dX8_foresee_60 (by decide) ?_
          obtain ⟨⟨r27, μ28⟩, hc29⟩ : ∃ z, X8_no q (3 : Int32) μ1 = z := ⟨_, rfl⟩
          replace hm := bP_of hm hc29
          refine t_cVi (As := [.int (3 : Int32)]) (rest := []) (μ' := μ28) (r := r27) ⟨hx, hb, hml, hown, hts⟩ (mX8_no l D cA base H.size μ1 hq (3 : Int32) hc29) (cwV 1 hts gX8_foresee_X8_no rfl rfl rfl (by decide +kernel) ⟨Nat.le_of_ble_eq_true rfl, Nat.le_of_ble_eq_true rfl⟩) (va_recv hK hP (q0 := q) rfl (tw_obj hq (by decide))) hK hN hP hS hz rfl hl.1 (Nat.le_of_ble_eq_true rfl) dX8_foresee_61 ⟨Nat.le_of_ble_eq_true rfl, Nat.le_of_ble_eq_true rfl⟩ rfl (fun H locs hP hS => ?_)
          cases hm
          exact W.iret hx hb hr (fun t ht hW => ⟨⟨_, (), rfl, rfl, tPost_of hP ht⟩, hS.F ht⟩) hS.2.2 dX8_foresee_64
      · rw [if_pos c13] at hm
        refine lv_aload_n hx hb dX8_foresee_38 rfl (lv_at hl 0 rfl) ?_
        refine lv_iconst (v := (2 : Int32)) hx hb dX8_foresee_39 (by decide) ?_
        obtain ⟨⟨r30, μ31⟩, hc32⟩ : ∃ z, X8_no q (2 : Int32) μ1 = z := ⟨_, rfl⟩
        replace hm := bP_of hm hc32
        refine t_cVi (As := [.int (2 : Int32)]) (rest := []) (μ' := μ31) (r := r30) ⟨hx, hb, hml, hown, hts⟩ (mX8_no l D cA base H.size μ1 hq (2 : Int32) hc32) (cwV 1 hts gX8_foresee_X8_no rfl rfl rfl (by decide +kernel) ⟨Nat.le_of_ble_eq_true rfl, Nat.le_of_ble_eq_true rfl⟩) (va_recv hK hP (q0 := q) rfl (tw_obj hq (by decide))) hK hN hP hS hz rfl hl.1 (Nat.le_of_ble_eq_true rfl) dX8_foresee_40 ⟨Nat.le_of_ble_eq_true rfl, Nat.le_of_ble_eq_true rfl⟩ rfl (fun H locs hP hS => ?_)
        cases hm
        exact W.iret hx hb hr (fun t ht hW => ⟨⟨_, (), rfl, rfl, tPost_of hP ht⟩, hS.F ht⟩) hS.2.2 dX8_foresee_43
    · rw [if_pos c10] at hm
      refine lv_aload_n hx hb dX8_foresee_22 rfl (lv_at hl 0 rfl) ?_
      refine lv_iconst (v := (1 : Int32)) hx hb dX8_foresee_23 (by decide) ?_
      obtain ⟨⟨r33, μ34⟩, hc35⟩ : ∃ z, X8_no q (1 : Int32) μ1 = z := ⟨_, rfl⟩
      replace hm := bP_of hm hc35
      refine t_cVi (As := [.int (1 : Int32)]) (rest := []) (μ' := μ34) (r := r33) ⟨hx, hb, hml, hown, hts⟩ (mX8_no l D cA base H.size μ1 hq (1 : Int32) hc35) (cwV 1 hts gX8_foresee_X8_no rfl rfl rfl (by decide +kernel) ⟨Nat.le_of_ble_eq_true rfl, Nat.le_of_ble_eq_true rfl⟩) (va_recv hK hP (q0 := q) rfl (tw_obj hq (by decide))) hK hN hP hS hz rfl hl.1 (Nat.le_of_ble_eq_true rfl) dX8_foresee_24 ⟨Nat.le_of_ble_eq_true rfl, Nat.le_of_ble_eq_true rfl⟩ rfl (fun H locs hP hS => ?_)
      cases hm
      exact W.iret hx hb hr (fun t ht hW => ⟨⟨_, (), rfl, rfl, tPost_of hP ht⟩, hS.F ht⟩) hS.2.2 dX8_foresee_27
abbrev rmX8_advise : Room := { frames := 5, cells := 0, slots := 0, locals := 115 }
set_option maxHeartbeats 4000000 in
set_option maxRecDepth 100000 in
theorem lX8_advise_L64 {p : Program} {l : Launch} {e : Env} {s : State} {m : MethodId} {args : Array Value} {below : List Frame} {meth : Method} {c : Code} {Q : State → Prop} {D : va_G} {cA : Nat → ClassId} {base sz0 : Nat} {H0 : Heap} (FX : CallFix p m c cX8_advise 7 s args wsX8_advise RX8) (hK : va_K D vwCl (tys cA) s) (hN : tN s) (hz : sz0 ≤ H0.size) {o0 : Nat} (ho0 : kc o0 = 8) (b1 : Int32) (b2 : Int32) {cells slots : Nat} (hcs : cells ≤ 0 ∧ slots ≤ 0) :
    ∀ (n : Nat) (v3 : Int32) (v4 : Int32) (v5 : Int32) (μ : MM) (H : Heap) (locs : List Loc) (ls : Array Slot) (w3 : Int32) (μ' : MM), X8_advise_L64 o0 b1 b2 n v3 v4 v5 μ = some (w3, μ') → va_P D vwCl (tw base cA μ []) H → va_S (tA base sz0) H0 H locs → lv_has ls 7 [(0, .ref (base + o0)), (1, .int b1), (2, .int b2), (3, .int v3), (4, .int v4), (5, .int v5)] → (∀ (H : Heap) (locs : List Loc) (ls : Array Slot), va_P D vwCl (tw base cA μ' []) H → va_S (tA base sz0) H0 H locs → lv_has ls 7 [(3, .int w3)] → W p l e rmX8_advise s m args below meth c H locs cells slots Q (F0 m 168 ls [])) → W p l e rmX8_advise s m args below meth c H locs cells slots Q (F0 m 64 ls []) := by
  obtain ⟨hx, hb, hml, hown, hts⟩ := FX
  have hin7 : ∀ w ∈ wsX70, w ∈ wsX8_advise := by decide +kernel
  have hin8 : ∀ w ∈ wsX80, w ∈ wsX8_advise := by decide +kernel
  intro n
  induction n with
  | zero =>
    intro v3 v4 v5 μ H locs ls w3 μ' hm
    cases hm
  | succ n ih =>
    intro v3 v4 v5 μ H locs ls w3 μ' hm hP hS hl K
    rw [X8_advise_L64_s] at hm
    refine lv_iload hx hb dX8_advise_64 (lv_at hl 5 rfl) ?_
    refine lv_aload_n hx hb dX8_advise_66 rfl (lv_at hl 0 rfl) ?_
    refine t_getr (C := RX8) (T := TX8) (N := 3) hx hb hts hin8 hown hK hP ho0 rfl rfl 1 (by decide) (fr8_1 ho0) (hts _ (List.mem_of_getElem? (i := 2) rfl)) dX8_advise_67 ?_
    refine t_getiN (C := RX7) (T := TX7) (N := 26) hx hb hts hin7 hown hK hP (kr8_1 ho0) rfl rfl 4 (by decide) (fk7_4 (kr8_1 ho0)) hN (i := 1) rfl dX8_advise_70 ?_
    refine lv_icmp_ge (tgt := 168) hx hb dX8_advise_73 (by decide) (fun c9 => ?_) (fun c9 => ?_)
    · rw [if_pos c9] at hm
      cases hm
      exact K _ _ _ hP hS (lv_sub hl [3] rfl)
    · rw [if_neg c9] at hm
      refine lv_aload_n hx hb dX8_advise_76 rfl (lv_at hl 0 rfl) ?_
      refine t_getr (C := RX8) (T := TX8) (N := 3) hx hb hts hin8 hown hK hP ho0 rfl rfl 1 (by decide) (fr8_1 ho0) (hts _ (List.mem_of_getElem? (i := 2) rfl)) dX8_advise_77 ?_
      refine lv_iload hx hb dX8_advise_80 (lv_at hl 5 rfl) ?_
      obtain ⟨r10, hc11, hm⟩ := bO1_inv hm
      refine t_cVi (As := [.int v5]) (rest := []) (μ' := μ) (r := r10) ⟨hx, hb, hml, hown, hts⟩ (mX7_boothOf l D cA base H.size μ (kr8_1 ho0) v5 hc11) (cwV 1 hts gX8_advise_X7_boothOf rfl rfl rfl (by decide +kernel) ⟨Nat.le_of_ble_eq_true rfl, Nat.le_of_ble_eq_true rfl⟩) (va_recv hK hP (q0 := RF o0 1) rfl (tw_obj (kr8_1 ho0) (by decide))) hK hN hP hS hz rfl hl.1 (Nat.le_of_ble_eq_true rfl) dX8_advise_82 hcs rfl (fun H locs hP hS => ?_)
      refine lv_iconst (v := (-1 : Int32)) hx hb dX8_advise_85 (by decide) ?_
      refine lv_icmp_eq (tgt := 105) hx hb dX8_advise_86 (by decide) (fun c12 => ?_) (fun c12 => ?_)
      · rw [if_pos c12] at hm
        refine lv_aload_n hx hb dX8_advise_105 rfl (lv_at hl 0 rfl) ?_
        refine t_getr (C := RX8) (T := TX8) (N := 3) hx hb hts hin8 hown hK hP ho0 rfl rfl 2 (by decide) (fr8_2 ho0) (hts _ (List.mem_of_getElem? (i := 3) rfl)) dX8_advise_106 ?_
        refine lv_aload_n hx hb dX8_advise_109 rfl (lv_at hl 0 rfl) ?_
        refine t_getr (C := RX8) (T := TX8) (N := 3) hx hb hts hin8 hown hK hP ho0 rfl rfl 1 (by decide) (fr8_1 ho0) (hts _ (List.mem_of_getElem? (i := 2) rfl)) dX8_advise_110 ?_
        obtain ⟨μ13, hc14, hm⟩ := bO1_inv hm
        refine t_cVv (As := [.ref (base + (RF o0 1))]) (rest := []) (μ' := μ13) ⟨hx, hb, hml, hown, hts⟩ (mX7_become l D cA base H.size μ (kr8_2 ho0) (kr8_1 ho0) hc14) (cwV 1 hts gX8_advise_X7_become rfl rfl rfl (by decide +kernel) ⟨Nat.le_of_ble_eq_true rfl, Nat.le_of_ble_eq_true rfl⟩) (va_recv hK hP (q0 := RF o0 2) rfl (tw_obj (kr8_2 ho0) (by decide))) hK hN hP hS hz rfl hl.1 (Nat.le_of_ble_eq_true rfl) dX8_advise_113 hcs rfl (fun H locs hP hS => ?_)
        refine lv_aload_n hx hb dX8_advise_116 rfl (lv_at hl 0 rfl) ?_
        refine t_getr (C := RX8) (T := TX8) (N := 3) hx hb hts hin8 hown hK hP ho0 rfl rfl 2 (by decide) (fr8_2 ho0) (hts _ (List.mem_of_getElem? (i := 3) rfl)) dX8_advise_117 ?_
        refine lv_iload_n hx hb dX8_advise_120 rfl (lv_at hl 1 rfl) ?_
        refine lv_iload hx hb dX8_advise_121 (lv_at hl 5 rfl) ?_
        obtain ⟨μ15, hc16, hm⟩ := bO1_inv hm
        refine t_cVv (As := [.int b1, .int v5]) (rest := []) (μ' := μ15) ⟨hx, hb, hml, hown, hts⟩ (mX7_sit l D cA base H.size μ13 (kr8_2 ho0) b1 v5 hc16) (cwV 2 hts gX8_advise_X7_sit rfl rfl rfl (by decide +kernel) ⟨Nat.le_of_ble_eq_true rfl, Nat.le_of_ble_eq_true rfl⟩) (va_recv hK hP (q0 := RF o0 2) rfl (tw_obj (kr8_2 ho0) (by decide))) hK hN hP hS hz rfl hl.1 (Nat.le_of_ble_eq_true rfl) dX8_advise_123 hcs rfl (fun H locs hP hS => ?_)
        refine lv_aload_n hx hb dX8_advise_126 rfl (lv_at hl 0 rfl) ?_
        refine t_getr (C := RX8) (T := TX8) (N := 3) hx hb hts hin8 hown hK hP ho0 rfl rfl 2 (by decide) (fr8_2 ho0) (hts _ (List.mem_of_getElem? (i := 3) rfl)) dX8_advise_127 ?_
        refine lv_iload_n hx hb dX8_advise_130 rfl (lv_at hl 2 rfl) ?_
        obtain ⟨r17, μ18, hc19, hm⟩ := bO2_inv hm
        refine t_cSi (As := [.ref (base + (RF o0 2)), .int b2]) (rest := []) (μ' := μ18) (r := r17) ⟨hx, hb, hml, hown, hts⟩ (mX8_pass l D cA base H.size μ15 (kr8_2 ho0) b2 hc19) (va_cwS 2 hts gX8_advise_X8_pass rfl rfl rfl (by decide +kernel) ⟨Nat.le_of_ble_eq_true rfl, Nat.le_of_ble_eq_true rfl⟩) hK hN hP hS hz rfl hl.1 (Nat.le_of_ble_eq_true rfl) dX8_advise_131 hcs rfl (fun H locs hP hS => ?_)
        refine lv_pop hx hb dX8_advise_134 rfl ?_
        refine lv_aload_n hx hb dX8_advise_135 rfl (lv_at hl 0 rfl) ?_
        refine t_getr (C := RX8) (T := TX8) (N := 3) hx hb hts hin8 hown hK hP ho0 rfl rfl 2 (by decide) (fr8_2 ho0) (hts _ (List.mem_of_getElem? (i := 3) rfl)) dX8_advise_136 ?_
        refine lv_iload_n hx hb dX8_advise_139 rfl (lv_at hl 1 rfl) ?_
        obtain ⟨r20, μ21, hc22, hm⟩ := bO2_inv hm
        refine t_cVi (As := [.int b1]) (rest := []) (μ' := μ21) (r := r20) ⟨hx, hb, hml, hown, hts⟩ (mX7_through l D cA base H.size μ18 (kr8_2 ho0) b1 hc22) (cwV 1 hts gX8_advise_X7_through rfl rfl rfl (by decide +kernel) ⟨Nat.le_of_ble_eq_true rfl, Nat.le_of_ble_eq_true rfl⟩) (va_recv hK hP (q0 := RF o0 2) rfl (tw_obj (kr8_2 ho0) (by decide))) hK hN hP hS hz rfl hl.1 (Nat.le_of_ble_eq_true rfl) dX8_advise_140 hcs rfl (fun H locs hP hS => ?_)
        refine lv_istore (lv' := [(6, .int r20), (0, .ref (base + o0)), (1, .int b1), (2, .int b2), (3, .int v3), (4, .int v4), (5, .int v5)]) hx hb dX8_advise_143 hl (by decide) rfl (fun ls hl => ?_)
        refine lv_iload hx hb dX8_advise_145 (lv_at hl 0 rfl) ?_
        refine lv_iload hx hb dX8_advise_147 (lv_at hl 5 rfl) ?_
        refine lv_icmp_gt (tgt := 155) hx hb dX8_advise_149 (by decide) (fun c23 => ?_) (fun c23 => ?_)
        · rw [if_pos c23] at hm
          refine lv_iload hx hb dX8_advise_155 (lv_at hl 0 rfl) ?_
          refine lv_istore (lv' := [(4, .int r20), (6, .int r20), (0, .ref (base + o0)), (1, .int b1), (2, .int b2), (3, .int v3), (5, .int v5)]) hx hb dX8_advise_157 hl (by decide) rfl (fun ls hl => ?_)
          refine lv_iload hx hb dX8_advise_159 (lv_at hl 6 rfl) ?_
          refine lv_istore_n (lv' := [(3, .int v5), (4, .int r20), (6, .int r20), (0, .ref (base + o0)), (1, .int b1), (2, .int b2), (5, .int v5)]) hx hb dX8_advise_161 rfl hl (by decide) rfl (fun ls hl => ?_)
          obtain ⟨x24, ex24⟩ : ∃ z : Int32, z = v5 + (1 : Int32) := ⟨_, rfl⟩
          replace hm := bV_of hm ex24
          refine lv_iinc (v := x24) (lv' := [(5, .int x24), (3, .int v5), (4, .int r20), (6, .int r20), (0, .ref (base + o0)), (1, .int b1), (2, .int b2)]) hx hb dX8_advise_162 hl (k := 6) rfl (by rw [ex24]; rfl) (by decide) rfl (fun ls hl => ?_)
          refine lv_goto (tgt := 64) hx hb dX8_advise_165 (by decide) ?_
          exact ih v5 r20 x24 μ21 _ _ _ w3 μ' hm hP hS (lv_sub hl [4, 5, 6, 1, 2, 0] rfl) K
        · rw [if_neg c23] at hm
          refine lv_goto (tgt := 162) hx hb dX8_advise_152 (by decide) ?_
          obtain ⟨x25, ex25⟩ : ∃ z : Int32, z = v5 + (1 : Int32) := ⟨_, rfl⟩
          replace hm := bV_of hm ex25
          refine lv_iinc (v := x25) (lv' := [(5, .int x25), (6, .int r20), (0, .ref (base + o0)), (1, .int b1), (2, .int b2), (3, .int v3), (4, .int v4)]) hx hb dX8_advise_162 hl (k := 6) rfl (by rw [ex25]; rfl) (by decide) rfl (fun ls hl => ?_)
          refine lv_goto (tgt := 64) hx hb dX8_advise_165 (by decide) ?_
          exact ih v3 v4 x25 μ21 _ _ _ w3 μ' hm hP hS (lv_sub hl [2, 3, 4, 5, 6, 0] rfl) K
      · rw [if_neg c12] at hm
        refine lv_aload_n hx hb dX8_advise_89 rfl (lv_at hl 0 rfl) ?_
        refine t_getr (C := RX8) (T := TX8) (N := 3) hx hb hts hin8 hown hK hP ho0 rfl rfl 1 (by decide) (fr8_1 ho0) (hts _ (List.mem_of_getElem? (i := 2) rfl)) dX8_advise_90 ?_
        refine lv_iload hx hb dX8_advise_93 (lv_at hl 5 rfl) ?_
        obtain ⟨r26, hc27, hm⟩ := bO1_inv hm
        refine t_cVi (As := [.int v5]) (rest := []) (μ' := μ) (r := r26) ⟨hx, hb, hml, hown, hts⟩ (mX7_boothOf l D cA base H.size μ (kr8_1 ho0) v5 hc27) (cwV 1 hts gX8_advise_X7_boothOf rfl rfl rfl (by decide +kernel) ⟨Nat.le_of_ble_eq_true rfl, Nat.le_of_ble_eq_true rfl⟩) (va_recv hK hP (q0 := RF o0 1) rfl (tw_obj (kr8_1 ho0) (by decide))) hK hN hP hS hz rfl hl.1 (Nat.le_of_ble_eq_true rfl) dX8_advise_95 hcs rfl (fun H locs hP hS => ?_)
        refine lv_iload_n hx hb dX8_advise_98 rfl (lv_at hl 1 rfl) ?_
        refine lv_icmp_eq (tgt := 105) hx hb dX8_advise_99 (by decide) (fun c28 => ?_) (fun c28 => ?_)
        · rw [if_pos c28] at hm
          refine lv_aload_n hx hb dX8_advise_105 rfl (lv_at hl 0 rfl) ?_
          refine t_getr (C := RX8) (T := TX8) (N := 3) hx hb hts hin8 hown hK hP ho0 rfl rfl 2 (by decide) (fr8_2 ho0) (hts _ (List.mem_of_getElem? (i := 3) rfl)) dX8_advise_106 ?_
          refine lv_aload_n hx hb dX8_advise_109 rfl (lv_at hl 0 rfl) ?_
          refine t_getr (C := RX8) (T := TX8) (N := 3) hx hb hts hin8 hown hK hP ho0 rfl rfl 1 (by decide) (fr8_1 ho0) (hts _ (List.mem_of_getElem? (i := 2) rfl)) dX8_advise_110 ?_
          obtain ⟨μ29, hc30, hm⟩ := bO1_inv hm
          refine t_cVv (As := [.ref (base + (RF o0 1))]) (rest := []) (μ' := μ29) ⟨hx, hb, hml, hown, hts⟩ (mX7_become l D cA base H.size μ (kr8_2 ho0) (kr8_1 ho0) hc30) (cwV 1 hts gX8_advise_X7_become rfl rfl rfl (by decide +kernel) ⟨Nat.le_of_ble_eq_true rfl, Nat.le_of_ble_eq_true rfl⟩) (va_recv hK hP (q0 := RF o0 2) rfl (tw_obj (kr8_2 ho0) (by decide))) hK hN hP hS hz rfl hl.1 (Nat.le_of_ble_eq_true rfl) dX8_advise_113 hcs rfl (fun H locs hP hS => ?_)
          refine lv_aload_n hx hb dX8_advise_116 rfl (lv_at hl 0 rfl) ?_
          refine t_getr (C := RX8) (T := TX8) (N := 3) hx hb hts hin8 hown hK hP ho0 rfl rfl 2 (by decide) (fr8_2 ho0) (hts _ (List.mem_of_getElem? (i := 3) rfl)) dX8_advise_117 ?_
          refine lv_iload_n hx hb dX8_advise_120 rfl (lv_at hl 1 rfl) ?_
          refine lv_iload hx hb dX8_advise_121 (lv_at hl 5 rfl) ?_
          obtain ⟨μ31, hc32, hm⟩ := bO1_inv hm
          refine t_cVv (As := [.int b1, .int v5]) (rest := []) (μ' := μ31) ⟨hx, hb, hml, hown, hts⟩ (mX7_sit l D cA base H.size μ29 (kr8_2 ho0) b1 v5 hc32) (cwV 2 hts gX8_advise_X7_sit rfl rfl rfl (by decide +kernel) ⟨Nat.le_of_ble_eq_true rfl, Nat.le_of_ble_eq_true rfl⟩) (va_recv hK hP (q0 := RF o0 2) rfl (tw_obj (kr8_2 ho0) (by decide))) hK hN hP hS hz rfl hl.1 (Nat.le_of_ble_eq_true rfl) dX8_advise_123 hcs rfl (fun H locs hP hS => ?_)
          refine lv_aload_n hx hb dX8_advise_126 rfl (lv_at hl 0 rfl) ?_
          refine t_getr (C := RX8) (T := TX8) (N := 3) hx hb hts hin8 hown hK hP ho0 rfl rfl 2 (by decide) (fr8_2 ho0) (hts _ (List.mem_of_getElem? (i := 3) rfl)) dX8_advise_127 ?_
          refine lv_iload_n hx hb dX8_advise_130 rfl (lv_at hl 2 rfl) ?_
          obtain ⟨r33, μ34, hc35, hm⟩ := bO2_inv hm
          refine t_cSi (As := [.ref (base + (RF o0 2)), .int b2]) (rest := []) (μ' := μ34) (r := r33) ⟨hx, hb, hml, hown, hts⟩ (mX8_pass l D cA base H.size μ31 (kr8_2 ho0) b2 hc35) (va_cwS 2 hts gX8_advise_X8_pass rfl rfl rfl (by decide +kernel) ⟨Nat.le_of_ble_eq_true rfl, Nat.le_of_ble_eq_true rfl⟩) hK hN hP hS hz rfl hl.1 (Nat.le_of_ble_eq_true rfl) dX8_advise_131 hcs rfl (fun H locs hP hS => ?_)
          refine lv_pop hx hb dX8_advise_134 rfl ?_
          refine lv_aload_n hx hb dX8_advise_135 rfl (lv_at hl 0 rfl) ?_
          refine t_getr (C := RX8) (T := TX8) (N := 3) hx hb hts hin8 hown hK hP ho0 rfl rfl 2 (by decide) (fr8_2 ho0) (hts _ (List.mem_of_getElem? (i := 3) rfl)) dX8_advise_136 ?_
          refine lv_iload_n hx hb dX8_advise_139 rfl (lv_at hl 1 rfl) ?_
          obtain ⟨r36, μ37, hc38, hm⟩ := bO2_inv hm
          refine t_cVi (As := [.int b1]) (rest := []) (μ' := μ37) (r := r36) ⟨hx, hb, hml, hown, hts⟩ (mX7_through l D cA base H.size μ34 (kr8_2 ho0) b1 hc38) (cwV 1 hts gX8_advise_X7_through rfl rfl rfl (by decide +kernel) ⟨Nat.le_of_ble_eq_true rfl, Nat.le_of_ble_eq_true rfl⟩) (va_recv hK hP (q0 := RF o0 2) rfl (tw_obj (kr8_2 ho0) (by decide))) hK hN hP hS hz rfl hl.1 (Nat.le_of_ble_eq_true rfl) dX8_advise_140 hcs rfl (fun H locs hP hS => ?_)
          refine lv_istore (lv' := [(6, .int r36), (0, .ref (base + o0)), (1, .int b1), (2, .int b2), (3, .int v3), (4, .int v4), (5, .int v5)]) hx hb dX8_advise_143 hl (by decide) rfl (fun ls hl => ?_)
          refine lv_iload hx hb dX8_advise_145 (lv_at hl 0 rfl) ?_
          refine lv_iload hx hb dX8_advise_147 (lv_at hl 5 rfl) ?_
          refine lv_icmp_gt (tgt := 155) hx hb dX8_advise_149 (by decide) (fun c39 => ?_) (fun c39 => ?_)
          · rw [if_pos c39] at hm
            refine lv_iload hx hb dX8_advise_155 (lv_at hl 0 rfl) ?_
            refine lv_istore (lv' := [(4, .int r36), (6, .int r36), (0, .ref (base + o0)), (1, .int b1), (2, .int b2), (3, .int v3), (5, .int v5)]) hx hb dX8_advise_157 hl (by decide) rfl (fun ls hl => ?_)
            refine lv_iload hx hb dX8_advise_159 (lv_at hl 6 rfl) ?_
            refine lv_istore_n (lv' := [(3, .int v5), (4, .int r36), (6, .int r36), (0, .ref (base + o0)), (1, .int b1), (2, .int b2), (5, .int v5)]) hx hb dX8_advise_161 rfl hl (by decide) rfl (fun ls hl => ?_)
            obtain ⟨x40, ex40⟩ : ∃ z : Int32, z = v5 + (1 : Int32) := ⟨_, rfl⟩
            replace hm := bV_of hm ex40
            refine lv_iinc (v := x40) (lv' := [(5, .int x40), (3, .int v5), (4, .int r36), (6, .int r36), (0, .ref (base + o0)), (1, .int b1), (2, .int b2)]) hx hb dX8_advise_162 hl (k := 6) rfl (by rw [ex40]; rfl) (by decide) rfl (fun ls hl => ?_)
            refine lv_goto (tgt := 64) hx hb dX8_advise_165 (by decide) ?_
            exact ih v5 r36 x40 μ37 _ _ _ w3 μ' hm hP hS (lv_sub hl [4, 5, 6, 1, 2, 0] rfl) K
          · rw [if_neg c39] at hm
            refine lv_goto (tgt := 162) hx hb dX8_advise_152 (by decide) ?_
            obtain ⟨x41, ex41⟩ : ∃ z : Int32, z = v5 + (1 : Int32) := ⟨_, rfl⟩
            replace hm := bV_of hm ex41
            refine lv_iinc (v := x41) (lv' := [(5, .int x41), (6, .int r36), (0, .ref (base + o0)), (1, .int b1), (2, .int b2), (3, .int v3), (4, .int v4)]) hx hb dX8_advise_162 hl (k := 6) rfl (by rw [ex41]; rfl) (by decide) rfl (fun ls hl => ?_)
            refine lv_goto (tgt := 64) hx hb dX8_advise_165 (by decide) ?_
            exact ih v3 v4 x41 μ37 _ _ _ w3 μ' hm hP hS (lv_sub hl [2, 3, 4, 5, 6, 0] rfl) K
        · rw [if_neg c28] at hm
          refine lv_goto (tgt := 162) hx hb dX8_advise_102 (by decide) ?_
          obtain ⟨x42, ex42⟩ : ∃ z : Int32, z = v5 + (1 : Int32) := ⟨_, rfl⟩
          replace hm := bV_of hm ex42
          refine lv_iinc (v := x42) (lv' := [(5, .int x42), (0, .ref (base + o0)), (1, .int b1), (2, .int b2), (3, .int v3), (4, .int v4)]) hx hb dX8_advise_162 hl (k := 5) rfl (by rw [ex42]; rfl) (by decide) rfl (fun ls hl => ?_)
          refine lv_goto (tgt := 64) hx hb dX8_advise_165 (by decide) ?_
          exact ih v3 v4 x42 μ _ _ _ w3 μ' hm hP hS (lv_sub hl [1, 2, 3, 4, 5, 0] rfl) K
set_option maxHeartbeats 4000000 in
set_option maxRecDepth 100000 in
theorem mX8_advise (l : Launch) (D : va_G) (cA : Nat → ClassId) (base sz : Nat) (μ : MM) {q : Nat} (hq : kc q = 8) (a1 : Int32) (a2 : Int32) {r : Int32} {μ' : MM} (hm : X8_advise q a1 a2 μ = some (r, μ')) : Met l yX8_advise wsX8_advise rmX8_advise (va_Pc [.ref (base + q), .int a1, .int a2] (tPre D cA base sz μ)) (va_Qi (fun (x : Int32) (_ : Unit) => x = r) (fun _ => tPost D cA base μ') (tA base sz)) 0 0 (tA base sz) := by
  refine Met.ofW (cc := cX8_advise) (maxL := 7) (ret := (some .int)) (by decide +kernel) rfl ?_
  intro p e s m args below meth c s₁ B hml hv
  obtain ⟨rfl, hsz, hP, hK, hN⟩ := hv
  have hx := B.exec
  have hb := B.bytes
  have hr := B.returns
  have hts := atoms_spec (ws := wsX8_advise) B.pre
  have hown : s.vm.findClass RX8 = some m.cls := findClass_of_methodNamed B.named
  have hlocks := B.notSynchronized
  have hin7 : ∀ w ∈ wsX70, w ∈ wsX8_advise := by decide +kernel
  have hin8 : ∀ w ∈ wsX80, w ∈ wsX8_advise := by decide +kernel
  subst hsz
  have hS : va_S (tA base s.heap.size) s.heap s.heap [] := va_S.rf
  have hz : s.heap.size ≤ s.heap.size := Nat.le_refl _
  have hl := lv_entry ([.ref (base + q), .int a1, .int a2]) (n := 7) (Nat.le_of_ble_eq_true rfl)
  rw [lg_entry_eq]
  generalize (lg_sl ([.ref (base + q), .int a1, .int a2]) ++ List.replicate (7 - (lg_sl ([.ref (base + q), .int a1, .int a2])).length) Slot.unset).toArray = ls at hl ⊢
  have hl : lv_has ls 7 [(0, .ref (base + q)), (1, .int a1), (2, .int a2)] := hl
  unfold X8_advise at hm
  refine lv_aload_n hx hb dX8_advise_0 rfl (lv_at hl 0 rfl) ?_
  refine lv_iconst (v := (0 : Int32)) hx hb dX8_advise_1 (by decide) ?_
  refine t_put (C := RX8) (T := TX8) (N := 3) hx hb hts hin8 tyX8 tyX8_ok nmX8 hown hK hP (tD _ _ _ _) hS hq rfl rfl 0 (by decide) (fk8_0 hq) (hts _ (List.mem_of_getElem? (i := 1) rfl)) rfl (by decide +kernel) dX8_advise_2 (fun H locs hP hS => ?_)
  obtain ⟨μ1, eμ1⟩ : ∃ z : MM, z = wI μ q 0 (0 : Int32) := ⟨_, rfl⟩
  rw [← eμ1] at hP
  replace hm := bV_of hm eμ1
  refine lv_aload_n hx hb dX8_advise_5 rfl (lv_at hl 0 rfl) ?_
  refine lv_iload_n hx hb dX8_advise_6 rfl (lv_at hl 1 rfl) ?_
  refine t_cVi (As := [.int a1]) (rest := []) (μ' := μ1) (r := (X8_isBooth q a1 μ1)) ⟨hx, hb, hml, hown, hts⟩ (mX8_isBooth l D cA base H.size μ1 hq a1 rfl) (cwV 1 hts gX8_advise_X8_isBooth rfl rfl rfl (by decide +kernel) ⟨Nat.le_of_ble_eq_true rfl, Nat.le_of_ble_eq_true rfl⟩) (va_recv hK hP (q0 := q) rfl (tw_obj hq (by decide))) hK hN hP hS hz rfl hl.1 (Nat.le_of_ble_eq_true rfl) dX8_advise_7 ⟨Nat.le_of_ble_eq_true rfl, Nat.le_of_ble_eq_true rfl⟩ rfl (fun H locs hP hS => ?_)
  refine lv_if_ne (tgt := 19) hx hb dX8_advise_10 (by decide) (fun c4 => ?_) (fun c4 => ?_)
  · rw [if_neg c4] at hm
    refine lv_iload_n hx hb dX8_advise_19 rfl (lv_at hl 2 rfl) ?_
    refine lv_iconst (v := (1 : Int32)) hx hb dX8_advise_20 (by decide) ?_
    refine lv_bipush (v := (40 : Int32)) hx hb dX8_advise_21 (by decide) ?_
    refine t_cSi (As := [.int a2, .int (1 : Int32), .int (40 : Int32)]) (rest := []) (μ' := μ1) (r := (X8_isIn a2 (1 : Int32) (40 : Int32))) ⟨hx, hb, hml, hown, hts⟩ (mX8_isIn l D cA base H.size μ1 a2 (1 : Int32) (40 : Int32) rfl) (va_cwS 3 hts gX8_advise_X8_isIn rfl rfl rfl (by decide +kernel) ⟨Nat.le_of_ble_eq_true rfl, Nat.le_of_ble_eq_true rfl⟩) hK hN hP hS hz rfl hl.1 (Nat.le_of_ble_eq_true rfl) dX8_advise_23 ⟨Nat.le_of_ble_eq_true rfl, Nat.le_of_ble_eq_true rfl⟩ rfl (fun H locs hP hS => ?_)
    refine lv_if_ne (tgt := 35) hx hb dX8_advise_26 (by decide) (fun c7 => ?_) (fun c7 => ?_)
    · rw [if_neg c7] at hm
      refine lv_aload_n hx hb dX8_advise_35 rfl (lv_at hl 0 rfl) ?_
      refine t_getr (C := RX8) (T := TX8) (N := 3) hx hb hts hin8 hown hK hP hq rfl rfl 1 (by decide) (fr8_1 hq) (hts _ (List.mem_of_getElem? (i := 2) rfl)) dX8_advise_36 ?_
      refine t_getiN (C := RX7) (T := TX7) (N := 26) hx hb hts hin7 hown hK hP (kr8_1 hq) rfl rfl 0 (by decide) (fk7_0 (kr8_1 hq)) hN (i := 20) rfl dX8_advise_39 ?_
      refine lv_iload_n hx hb dX8_advise_42 rfl (lv_at hl 2 rfl) ?_
      refine lv_iadd hx hb dX8_advise_43 ?_
      refine lv_sipush (v := (400 : Int32)) hx hb dX8_advise_44 (by decide) ?_
      refine lv_icmp_le (tgt := 56) hx hb dX8_advise_47 (by decide) (fun c8 => ?_) (fun c8 => ?_)
      · rw [if_pos c8] at hm
        refine lv_iconst (v := (-1 : Int32)) hx hb dX8_advise_56 (by decide) ?_
        refine lv_istore_n (lv' := [(3, .int (-1 : Int32)), (0, .ref (base + q)), (1, .int a1), (2, .int a2)]) hx hb dX8_advise_57 rfl hl (by decide) rfl (fun ls hl => ?_)
        refine lv_iconst (v := (-1 : Int32)) hx hb dX8_advise_58 (by decide) ?_
        refine lv_istore (lv' := [(4, .int (-1 : Int32)), (3, .int (-1 : Int32)), (0, .ref (base + q)), (1, .int a1), (2, .int a2)]) hx hb dX8_advise_59 hl (by decide) rfl (fun ls hl => ?_)
        refine lv_iconst (v := (0 : Int32)) hx hb dX8_advise_61 (by decide) ?_
        refine lv_istore (lv' := [(5, .int (0 : Int32)), (4, .int (-1 : Int32)), (3, .int (-1 : Int32)), (0, .ref (base + q)), (1, .int a1), (2, .int a2)]) hx hb dX8_advise_62 hl (by decide) rfl (fun ls hl => ?_)
        obtain ⟨x43, μ44, hc45, hm⟩ := bO2_inv hm
        refine lX8_advise_L64 ⟨hx, hb, hml, hown, hts⟩ hK hN hz hq a1 a2 ⟨Nat.le_of_ble_eq_true rfl, Nat.le_of_ble_eq_true rfl⟩ 1000 (-1 : Int32) (-1 : Int32) (0 : Int32) μ1 _ _ _ x43 μ44 hc45 hP hS (lv_sub hl [3, 4, 5, 2, 1, 0] rfl) ?_
        intro H locs ls hP hS hl
        refine lv_iload_n hx hb dX8_advise_168 rfl (lv_at hl 0 rfl) ?_
        cases hm
        exact W.iret hx hb hr (fun t ht hW => ⟨⟨_, (), rfl, rfl, tPost_of hP ht⟩, hS.F ht⟩) hS.2.2 dX8_advise_169
      · rw [if_neg c8] at hm
        refine lv_aload_n hx hb dX8_advise_50 rfl (lv_at hl 0 rfl) ?_
        refine lv_iconst (v := (3 : Int32)) hx hb dX8_advise_51 (by decide) ?_
        obtain ⟨⟨r46, μ47⟩, hc48⟩ : ∃ z, X8_no q (3 : Int32) μ1 = z := ⟨_, rfl⟩
        replace hm := bP_of hm hc48
        refine t_cVi (As := [.int (3 : Int32)]) (rest := []) (μ' := μ47) (r := r46) ⟨hx, hb, hml, hown, hts⟩ (mX8_no l D cA base H.size μ1 hq (3 : Int32) hc48) (cwV 1 hts gX8_advise_X8_no rfl rfl rfl (by decide +kernel) ⟨Nat.le_of_ble_eq_true rfl, Nat.le_of_ble_eq_true rfl⟩) (va_recv hK hP (q0 := q) rfl (tw_obj hq (by decide))) hK hN hP hS hz rfl hl.1 (Nat.le_of_ble_eq_true rfl) dX8_advise_52 ⟨Nat.le_of_ble_eq_true rfl, Nat.le_of_ble_eq_true rfl⟩ rfl (fun H locs hP hS => ?_)
        cases hm
        exact W.iret hx hb hr (fun t ht hW => ⟨⟨_, (), rfl, rfl, tPost_of hP ht⟩, hS.F ht⟩) hS.2.2 dX8_advise_55
    · rw [if_pos c7] at hm
      refine lv_aload_n hx hb dX8_advise_29 rfl (lv_at hl 0 rfl) ?_
      refine lv_iconst (v := (2 : Int32)) hx hb dX8_advise_30 (by decide) ?_
      obtain ⟨⟨r49, μ50⟩, hc51⟩ : ∃ z, X8_no q (2 : Int32) μ1 = z := ⟨_, rfl⟩
      replace hm := bP_of hm hc51
      refine t_cVi (As := [.int (2 : Int32)]) (rest := []) (μ' := μ50) (r := r49) ⟨hx, hb, hml, hown, hts⟩ (mX8_no l D cA base H.size μ1 hq (2 : Int32) hc51) (cwV 1 hts gX8_advise_X8_no rfl rfl rfl (by decide +kernel) ⟨Nat.le_of_ble_eq_true rfl, Nat.le_of_ble_eq_true rfl⟩) (va_recv hK hP (q0 := q) rfl (tw_obj hq (by decide))) hK hN hP hS hz rfl hl.1 (Nat.le_of_ble_eq_true rfl) dX8_advise_31 ⟨Nat.le_of_ble_eq_true rfl, Nat.le_of_ble_eq_true rfl⟩ rfl (fun H locs hP hS => ?_)
      cases hm
      exact W.iret hx hb hr (fun t ht hW => ⟨⟨_, (), rfl, rfl, tPost_of hP ht⟩, hS.F ht⟩) hS.2.2 dX8_advise_34
  · rw [if_pos c4] at hm
    refine lv_aload_n hx hb dX8_advise_13 rfl (lv_at hl 0 rfl) ?_
    refine lv_iconst (v := (1 : Int32)) hx hb dX8_advise_14 (by decide) ?_
    obtain ⟨⟨r52, μ53⟩, hc54⟩ : ∃ z, X8_no q (1 : Int32) μ1 = z := ⟨_, rfl⟩
    replace hm := bP_of hm hc54
    refine t_cVi (As := [.int (1 : Int32)]) (rest := []) (μ' := μ53) (r := r52) ⟨hx, hb, hml, hown, hts⟩ (mX8_no l D cA base H.size μ1 hq (1 : Int32) hc54) (cwV 1 hts gX8_advise_X8_no rfl rfl rfl (by decide +kernel) ⟨Nat.le_of_ble_eq_true rfl, Nat.le_of_ble_eq_true rfl⟩) (va_recv hK hP (q0 := q) rfl (tw_obj hq (by decide))) hK hN hP hS hz rfl hl.1 (Nat.le_of_ble_eq_true rfl) dX8_advise_15 ⟨Nat.le_of_ble_eq_true rfl, Nat.le_of_ble_eq_true rfl⟩ rfl (fun H locs hP hS => ?_)
    cases hm
    exact W.iret hx hb hr (fun t ht hW => ⟨⟨_, (), rfl, rfl, tPost_of hP ht⟩, hS.F ht⟩) hS.2.2 dX8_advise_18
abbrev rmX8_digest : Room := { frames := 3, cells := 174, slots := 1615, locals := 70 }
set_option maxHeartbeats 4000000 in
set_option maxRecDepth 100000 in
theorem lX8_digest_L11 {p : Program} {l : Launch} {e : Env} {s : State} {m : MethodId} {args : Array Value} {below : List Frame} {meth : Method} {c : Code} {Q : State → Prop} {D : va_G} {cA : Nat → ClassId} {base sz0 : Nat} {H0 : Heap} (FX : CallFix p m c cX8_digest 5 s args wsX8_digest RX8) (hK : va_K D vwCl (tys cA) s) (hN : tN s) (hz : sz0 ≤ H0.size) {o0 : Nat} (ho0 : kc o0 = 8) (μ : MM) {capC capS : Nat} (hcC : capC ≤ 174) (hcS : capS ≤ 1615) :
    ∀ (n : Nat) (v1 : Int64) (v3 : Int32) (H : Heap) (locs : List Loc) (ls : Array Slot) (w1 : Int64) (k0 n0 : Nat) (hk0 : k0 + n * 1 ≤ capC) (hn0 : n0 + n * 10 ≤ capS), X8_digest_L11 o0 μ n v1 v3 = some w1 → va_P D vwCl (tw base cA μ []) H → va_S (tA base sz0) H0 H locs → lv_has ls 5 [(0, .ref (base + o0)), (1, .long v1), (3, .int v3)] → (∀ (H : Heap) (locs : List Loc) (ls : Array Slot), va_P D vwCl (tw base cA μ []) H → va_S (tA base sz0) H0 H locs → lv_has ls 5 [(0, .ref (base + o0)), (1, .long w1)] → W p l e rmX8_digest s m args below meth c H locs capC capS Q (F0 m 36 ls [])) → W p l e rmX8_digest s m args below meth c H locs k0 n0 Q (F0 m 11 ls []) := by
  obtain ⟨hx, hb, hml, hown, hts⟩ := FX
  intro n
  induction n with
  | zero =>
    intro v1 v3 H locs ls w1 k0 n0 hk0 hn0 hm
    cases hm
  | succ n ih =>
    intro v1 v3 H locs ls w1 k0 n0 hk0 hn0 hm hP hS hl K
    rw [X8_digest_L11_s] at hm
    refine lv_iload_n hx hb dX8_digest_11 rfl (lv_at hl 2 rfl) ?_
    refine lv_bipush (v := (10 : Int32)) hx hb dX8_digest_12 (by decide) ?_
    refine lv_icmp_ge (tgt := 36) hx hb dX8_digest_14 (by decide) (fun c3 => ?_) (fun c3 => ?_)
    · rw [if_pos c3] at hm
      cases hm
      refine W.widen (k := capC) (n := capS) (by omega) (by omega) ?_
      exact K _ _ _ hP hS (lv_sub hl [0, 1] rfl)
    · rw [if_neg c3] at hm
      refine lv_lload_n hx hb dX8_digest_17 rfl (lv_at hl 1 rfl) ?_
      refine lv_ldc2 (v := (31 : Int64)) hx hb hown (hts _ (List.mem_of_getElem? (i := 3) rfl)) dX8_digest_18 ?_
      refine lv_lmul hx hb dX8_digest_21 ?_
      refine lv_aload_n hx hb dX8_digest_22 rfl (lv_at hl 0 rfl) ?_
      refine lv_iload_n hx hb dX8_digest_23 rfl (lv_at hl 2 rfl) ?_
      obtain ⟨r4, hc5, hm⟩ := bO1_inv hm
      refine t_cVi (As := [.int v3]) (rest := [.long (v1 * (31 : Int64))]) (μ' := μ) (r := r4) ⟨hx, hb, hml, hown, hts⟩ (mX8_counted l D cA base H.size μ ho0 v3 hc5) (cwV 1 hts gX8_digest_X8_counted rfl rfl rfl (by decide +kernel) ⟨Nat.le_of_ble_eq_true rfl, Nat.le_of_ble_eq_true rfl⟩) (va_recv hK hP (q0 := o0) rfl (tw_obj ho0 (by decide))) hK hN hP hS hz rfl hl.1 (Nat.le_of_ble_eq_true rfl) dX8_digest_24 ⟨(show k0 + 1 ≤ 174 by omega), (show n0 + 10 ≤ 1615 by omega)⟩ rfl (fun H locs hP hS => ?_)
      refine lv_i2l (v := r4.toInt64) hx hb dX8_digest_27 rfl ?_
      refine lv_ladd hx hb dX8_digest_28 ?_
      refine lv_topl (fun x6 ex6 => ?_)
      replace hm := bV_of hm ex6
      refine lv_lstore_n (lv' := [(1, .long x6), (0, .ref (base + o0)), (3, .int v3)]) hx hb dX8_digest_29 rfl hl (by decide) rfl (fun ls hl => ?_)
      obtain ⟨x7, ex7⟩ : ∃ z : Int32, z = v3 + (1 : Int32) := ⟨_, rfl⟩
      replace hm := bV_of hm ex7
      refine lv_iinc (v := x7) (lv' := [(3, .int x7), (1, .long x6), (0, .ref (base + o0))]) hx hb dX8_digest_30 hl (k := 2) rfl (by rw [ex7]; rfl) (by decide) rfl (fun ls hl => ?_)
      refine lv_goto (tgt := 11) hx hb dX8_digest_33 (by decide) ?_
      exact ih x6 x7 _ _ _ w1 (k0 + 1) (n0 + 10) (by omega) (by omega) hm hP hS (lv_sub hl [2, 1, 0] rfl) K
set_option maxHeartbeats 4000000 in
set_option maxRecDepth 100000 in
theorem lX8_digest_L52 {p : Program} {l : Launch} {e : Env} {s : State} {m : MethodId} {args : Array Value} {below : List Frame} {meth : Method} {c : Code} {Q : State → Prop} {D : va_G} {cA : Nat → ClassId} {base sz0 : Nat} {H0 : Heap} (FX : CallFix p m c cX8_digest 5 s args wsX8_digest RX8) (hK : va_K D vwCl (tys cA) s) (hN : tN s) (hz : sz0 ≤ H0.size) {o0 : Nat} (ho0 : kc o0 = 8) (b3 : Int32) (μ : MM) {capC capS : Nat} (hcC : capC ≤ 174) (hcS : capS ≤ 1615) :
    ∀ (n : Nat) (v1 : Int64) (v4 : Int32) (H : Heap) (locs : List Loc) (ls : Array Slot) (w1 : Int64) (k0 n0 : Nat) (hk0 : k0 + n * 1 ≤ capC) (hn0 : n0 + n * 7 ≤ capS), X8_digest_L52 o0 b3 μ n v1 v4 = some w1 → va_P D vwCl (tw base cA μ []) H → va_S (tA base sz0) H0 H locs → lv_has ls 5 [(0, .ref (base + o0)), (3, .int b3), (1, .long v1), (4, .int v4)] → (∀ (H : Heap) (locs : List Loc) (ls : Array Slot), va_P D vwCl (tw base cA μ []) H → va_S (tA base sz0) H0 H locs → lv_has ls 5 [(0, .ref (base + o0)), (3, .int b3), (1, .long w1)] → W p l e rmX8_digest s m args below meth c H locs capC capS Q (F0 m 80 ls [])) → W p l e rmX8_digest s m args below meth c H locs k0 n0 Q (F0 m 52 ls []) := by
  obtain ⟨hx, hb, hml, hown, hts⟩ := FX
  intro n
  induction n with
  | zero =>
    intro v1 v4 H locs ls w1 k0 n0 hk0 hn0 hm
    cases hm
  | succ n ih =>
    intro v1 v4 H locs ls w1 k0 n0 hk0 hn0 hm hP hS hl K
    rw [X8_digest_L52_s] at hm
    refine lv_iload hx hb dX8_digest_52 (lv_at hl 3 rfl) ?_
    refine lv_bipush (v := (7 : Int32)) hx hb dX8_digest_54 (by decide) ?_
    refine lv_icmp_ge (tgt := 80) hx hb dX8_digest_56 (by decide) (fun c11 => ?_) (fun c11 => ?_)
    · rw [if_pos c11] at hm
      cases hm
      refine W.widen (k := capC) (n := capS) (by omega) (by omega) ?_
      exact K _ _ _ hP hS (lv_sub hl [0, 1, 2] rfl)
    · rw [if_neg c11] at hm
      refine lv_lload_n hx hb dX8_digest_59 rfl (lv_at hl 2 rfl) ?_
      refine lv_ldc2 (v := (31 : Int64)) hx hb hown (hts _ (List.mem_of_getElem? (i := 3) rfl)) dX8_digest_60 ?_
      refine lv_lmul hx hb dX8_digest_63 ?_
      refine lv_aload_n hx hb dX8_digest_64 rfl (lv_at hl 0 rfl) ?_
      refine lv_iload_n hx hb dX8_digest_65 rfl (lv_at hl 1 rfl) ?_
      refine lv_iload hx hb dX8_digest_66 (lv_at hl 3 rfl) ?_
      obtain ⟨r12, hc13, hm⟩ := bO1_inv hm
      refine t_cVi (As := [.int b3, .int v4]) (rest := [.long (v1 * (31 : Int64))]) (μ' := μ) (r := r12) ⟨hx, hb, hml, hown, hts⟩ (mX8_interpreterTold l D cA base H.size μ ho0 b3 v4 hc13) (cwV 2 hts gX8_digest_X8_interpreterTold rfl rfl rfl (by decide +kernel) ⟨Nat.le_of_ble_eq_true rfl, Nat.le_of_ble_eq_true rfl⟩) (va_recv hK hP (q0 := o0) rfl (tw_obj ho0 (by decide))) hK hN hP hS hz rfl hl.1 (Nat.le_of_ble_eq_true rfl) dX8_digest_68 ⟨(show k0 + 1 ≤ 174 by omega), (show n0 + 7 ≤ 1615 by omega)⟩ rfl (fun H locs hP hS => ?_)
      refine lv_i2l (v := r12.toInt64) hx hb dX8_digest_71 rfl ?_
      refine lv_ladd hx hb dX8_digest_72 ?_
      refine lv_topl (fun x14 ex14 => ?_)
      replace hm := bV_of hm ex14
      refine lv_lstore_n (lv' := [(1, .long x14), (0, .ref (base + o0)), (3, .int b3), (4, .int v4)]) hx hb dX8_digest_73 rfl hl (by decide) rfl (fun ls hl => ?_)
      obtain ⟨x15, ex15⟩ : ∃ z : Int32, z = v4 + (1 : Int32) := ⟨_, rfl⟩
      replace hm := bV_of hm ex15
      refine lv_iinc (v := x15) (lv' := [(4, .int x15), (1, .long x14), (0, .ref (base + o0)), (3, .int b3)]) hx hb dX8_digest_74 hl (k := 3) rfl (by rw [ex15]; rfl) (by decide) rfl (fun ls hl => ?_)
      refine lv_goto (tgt := 52) hx hb dX8_digest_77 (by decide) ?_
      exact ih x14 x15 _ _ _ w1 (k0 + 1) (n0 + 7) (by omega) (by omega) hm hP hS (lv_sub hl [2, 3, 1, 0] rfl) K
set_option maxHeartbeats 4000000 in
set_option maxRecDepth 100000 in
theorem lX8_digest_L38 {p : Program} {l : Launch} {e : Env} {s : State} {m : MethodId} {args : Array Value} {below : List Frame} {meth : Method} {c : Code} {Q : State → Prop} {D : va_G} {cA : Nat → ClassId} {base sz0 : Nat} {H0 : Heap} (FX : CallFix p m c cX8_digest 5 s args wsX8_digest RX8) (hK : va_K D vwCl (tys cA) s) (hN : tN s) (hz : sz0 ≤ H0.size) {o0 : Nat} (ho0 : kc o0 = 8) (μ : MM) {capC capS : Nat} (hcC : capC ≤ 174) (hcS : capS ≤ 1615) :
    ∀ (n : Nat) (v1 : Int64) (v3 : Int32) (H : Heap) (locs : List Loc) (ls : Array Slot) (w1 : Int64) (k0 n0 : Nat) (hk0 : k0 + n * 8 ≤ capC) (hn0 : n0 + n * 56 ≤ capS), X8_digest_L38 o0 μ n v1 v3 = some w1 → va_P D vwCl (tw base cA μ []) H → va_S (tA base sz0) H0 H locs → lv_has ls 5 [(0, .ref (base + o0)), (1, .long v1), (3, .int v3)] → (∀ (H : Heap) (locs : List Loc) (ls : Array Slot), va_P D vwCl (tw base cA μ []) H → va_S (tA base sz0) H0 H locs → lv_has ls 5 [(0, .ref (base + o0)), (1, .long w1)] → W p l e rmX8_digest s m args below meth c H locs capC capS Q (F0 m 86 ls [])) → W p l e rmX8_digest s m args below meth c H locs k0 n0 Q (F0 m 38 ls []) := by
  obtain ⟨hx, hb, hml, hown, hts⟩ := FX
  have hin7 : ∀ w ∈ wsX70, w ∈ wsX8_digest := by decide +kernel
  have hin8 : ∀ w ∈ wsX80, w ∈ wsX8_digest := by decide +kernel
  intro n
  induction n with
  | zero =>
    intro v1 v3 H locs ls w1 k0 n0 hk0 hn0 hm
    cases hm
  | succ n ih =>
    intro v1 v3 H locs ls w1 k0 n0 hk0 hn0 hm hP hS hl K
    rw [X8_digest_L38_s] at hm
    refine lv_iload_n hx hb dX8_digest_38 rfl (lv_at hl 2 rfl) ?_
    refine lv_aload_n hx hb dX8_digest_39 rfl (lv_at hl 0 rfl) ?_
    refine t_getr (C := RX8) (T := TX8) (N := 3) hx hb hts hin8 hown hK hP ho0 rfl rfl 1 (by decide) (fr8_1 ho0) (hts _ (List.mem_of_getElem? (i := 4) rfl)) dX8_digest_40 ?_
    refine t_getiN (C := RX7) (T := TX7) (N := 26) hx hb hts hin7 hown hK hP (kr8_1 ho0) rfl rfl 4 (by decide) (fk7_4 (kr8_1 ho0)) hN (i := 1) rfl dX8_digest_43 ?_
    refine lv_icmp_ge (tgt := 86) hx hb dX8_digest_46 (by decide) (fun c10 => ?_) (fun c10 => ?_)
    · rw [if_pos c10] at hm
      cases hm
      refine W.widen (k := capC) (n := capS) (by omega) (by omega) ?_
      exact K _ _ _ hP hS (lv_sub hl [0, 1] rfl)
    · rw [if_neg c10] at hm
      refine lv_iconst (v := (0 : Int32)) hx hb dX8_digest_49 (by decide) ?_
      refine lv_istore (lv' := [(4, .int (0 : Int32)), (0, .ref (base + o0)), (1, .long v1), (3, .int v3)]) hx hb dX8_digest_50 hl (by decide) rfl (fun ls hl => ?_)
      obtain ⟨x16, hc17, hm⟩ := bO1_inv hm
      refine lX8_digest_L52 ⟨hx, hb, hml, hown, hts⟩ hK hN hz ho0 v3 μ (capC := (k0 + 8)) (capS := (n0 + 56)) (show (k0 + 8) ≤ 174 by omega) (show (n0 + 56) ≤ 1615 by omega) 8 v1 (0 : Int32) _ _ _ x16 k0 n0 (by omega) (by omega) hc17 hP hS (lv_sub hl [1, 3, 2, 0] rfl) ?_
      intro H locs ls hP hS hl
      obtain ⟨x18, ex18⟩ : ∃ z : Int32, z = v3 + (1 : Int32) := ⟨_, rfl⟩
      replace hm := bV_of hm ex18
      refine lv_iinc (v := x18) (lv' := [(3, .int x18), (0, .ref (base + o0)), (1, .long x16)]) hx hb dX8_digest_80 hl (k := 1) rfl (by rw [ex18]; rfl) (by decide) rfl (fun ls hl => ?_)
      refine lv_goto (tgt := 38) hx hb dX8_digest_83 (by decide) ?_
      exact ih x16 x18 _ _ _ w1 ((k0 + 8)) ((n0 + 56)) (by omega) (by omega) hm hP hS (lv_sub hl [1, 2, 0] rfl) K
set_option maxHeartbeats 4000000 in
set_option maxRecDepth 100000 in
theorem lX8_digest_L102 {p : Program} {l : Launch} {e : Env} {s : State} {m : MethodId} {args : Array Value} {below : List Frame} {meth : Method} {c : Code} {Q : State → Prop} {D : va_G} {cA : Nat → ClassId} {base sz0 : Nat} {H0 : Heap} (FX : CallFix p m c cX8_digest 5 s args wsX8_digest RX8) (hK : va_K D vwCl (tys cA) s) (hN : tN s) (hz : sz0 ≤ H0.size) {o0 : Nat} (ho0 : kc o0 = 8) (b3 : Int32) {capC capS : Nat} (hcC : capC ≤ 174) (hcS : capS ≤ 1615) :
    ∀ (n : Nat) (v1 : Int64) (v4 : Int32) (μ : MM) (H : Heap) (locs : List Loc) (ls : Array Slot) (w1 : Int64) (μ' : MM) (k0 n0 : Nat) (hk0 : k0 + n * 1 ≤ capC) (hn0 : n0 + n * 11 ≤ capS), X8_digest_L102 o0 b3 n v1 v4 μ = some (w1, μ') → va_P D vwCl (tw base cA μ []) H → va_S (tA base sz0) H0 H locs → lv_has ls 5 [(0, .ref (base + o0)), (3, .int b3), (1, .long v1), (4, .int v4)] → (∀ (H : Heap) (locs : List Loc) (ls : Array Slot), va_P D vwCl (tw base cA μ' []) H → va_S (tA base sz0) H0 H locs → lv_has ls 5 [(0, .ref (base + o0)), (3, .int b3), (1, .long w1)] → W p l e rmX8_digest s m args below meth c H locs capC capS Q (F0 m 130 ls [])) → W p l e rmX8_digest s m args below meth c H locs k0 n0 Q (F0 m 102 ls []) := by
  obtain ⟨hx, hb, hml, hown, hts⟩ := FX
  intro n
  induction n with
  | zero =>
    intro v1 v4 μ H locs ls w1 μ' k0 n0 hk0 hn0 hm
    cases hm
  | succ n ih =>
    intro v1 v4 μ H locs ls w1 μ' k0 n0 hk0 hn0 hm hP hS hl K
    rw [X8_digest_L102_s] at hm
    refine lv_iload hx hb dX8_digest_102 (lv_at hl 3 rfl) ?_
    refine lv_bipush (v := (12 : Int32)) hx hb dX8_digest_104 (by decide) ?_
    refine lv_icmp_ge (tgt := 130) hx hb dX8_digest_106 (by decide) (fun c22 => ?_) (fun c22 => ?_)
    · rw [if_pos c22] at hm
      cases hm
      refine W.widen (k := capC) (n := capS) (by omega) (by omega) ?_
      exact K _ _ _ hP hS (lv_sub hl [0, 1, 2] rfl)
    · rw [if_neg c22] at hm
      refine lv_lload_n hx hb dX8_digest_109 rfl (lv_at hl 2 rfl) ?_
      refine lv_ldc2 (v := (31 : Int64)) hx hb hown (hts _ (List.mem_of_getElem? (i := 3) rfl)) dX8_digest_110 ?_
      refine lv_lmul hx hb dX8_digest_113 ?_
      refine lv_aload_n hx hb dX8_digest_114 rfl (lv_at hl 0 rfl) ?_
      refine lv_iload_n hx hb dX8_digest_115 rfl (lv_at hl 1 rfl) ?_
      refine lv_iload hx hb dX8_digest_116 (lv_at hl 3 rfl) ?_
      obtain ⟨r23, μ24, hc25, hm⟩ := bO2_inv hm
      refine t_cVi (As := [.int b3, .int v4]) (rest := [.long (v1 * (31 : Int64))]) (μ' := μ24) (r := r23) ⟨hx, hb, hml, hown, hts⟩ (mX8_boothTold l D cA base H.size μ ho0 b3 v4 hc25) (cwV 2 hts gX8_digest_X8_boothTold rfl rfl rfl (by decide +kernel) ⟨Nat.le_of_ble_eq_true rfl, Nat.le_of_ble_eq_true rfl⟩) (va_recv hK hP (q0 := o0) rfl (tw_obj ho0 (by decide))) hK hN hP hS hz rfl hl.1 (Nat.le_of_ble_eq_true rfl) dX8_digest_118 ⟨(show k0 + 1 ≤ 174 by omega), (show n0 + 11 ≤ 1615 by omega)⟩ rfl (fun H locs hP hS => ?_)
      refine lv_i2l (v := r23.toInt64) hx hb dX8_digest_121 rfl ?_
      refine lv_ladd hx hb dX8_digest_122 ?_
      refine lv_topl (fun x26 ex26 => ?_)
      replace hm := bV_of hm ex26
      refine lv_lstore_n (lv' := [(1, .long x26), (0, .ref (base + o0)), (3, .int b3), (4, .int v4)]) hx hb dX8_digest_123 rfl hl (by decide) rfl (fun ls hl => ?_)
      obtain ⟨x27, ex27⟩ : ∃ z : Int32, z = v4 + (1 : Int32) := ⟨_, rfl⟩
      replace hm := bV_of hm ex27
      refine lv_iinc (v := x27) (lv' := [(4, .int x27), (1, .long x26), (0, .ref (base + o0)), (3, .int b3)]) hx hb dX8_digest_124 hl (k := 3) rfl (by rw [ex27]; rfl) (by decide) rfl (fun ls hl => ?_)
      refine lv_goto (tgt := 102) hx hb dX8_digest_127 (by decide) ?_
      exact ih x26 x27 μ24 _ _ _ w1 μ' (k0 + 1) (n0 + 11) (by omega) (by omega) hm hP hS (lv_sub hl [2, 3, 1, 0] rfl) K
set_option maxHeartbeats 4000000 in
set_option maxRecDepth 100000 in
theorem lX8_digest_L88 {p : Program} {l : Launch} {e : Env} {s : State} {m : MethodId} {args : Array Value} {below : List Frame} {meth : Method} {c : Code} {Q : State → Prop} {D : va_G} {cA : Nat → ClassId} {base sz0 : Nat} {H0 : Heap} (FX : CallFix p m c cX8_digest 5 s args wsX8_digest RX8) (hK : va_K D vwCl (tys cA) s) (hN : tN s) (hz : sz0 ≤ H0.size) {o0 : Nat} (ho0 : kc o0 = 8) {capC capS : Nat} (hcC : capC ≤ 174) (hcS : capS ≤ 1615) :
    ∀ (n : Nat) (v1 : Int64) (v3 : Int32) (μ : MM) (H : Heap) (locs : List Loc) (ls : Array Slot) (w1 : Int64) (μ' : MM) (k0 n0 : Nat) (hk0 : k0 + n * 13 ≤ capC) (hn0 : n0 + n * 143 ≤ capS), X8_digest_L88 o0 n v1 v3 μ = some (w1, μ') → va_P D vwCl (tw base cA μ []) H → va_S (tA base sz0) H0 H locs → lv_has ls 5 [(0, .ref (base + o0)), (1, .long v1), (3, .int v3)] → (∀ (H : Heap) (locs : List Loc) (ls : Array Slot), va_P D vwCl (tw base cA μ' []) H → va_S (tA base sz0) H0 H locs → lv_has ls 5 [(0, .ref (base + o0)), (1, .long w1)] → W p l e rmX8_digest s m args below meth c H locs capC capS Q (F0 m 136 ls [])) → W p l e rmX8_digest s m args below meth c H locs k0 n0 Q (F0 m 88 ls []) := by
  obtain ⟨hx, hb, hml, hown, hts⟩ := FX
  have hin7 : ∀ w ∈ wsX70, w ∈ wsX8_digest := by decide +kernel
  have hin8 : ∀ w ∈ wsX80, w ∈ wsX8_digest := by decide +kernel
  intro n
  induction n with
  | zero =>
    intro v1 v3 μ H locs ls w1 μ' k0 n0 hk0 hn0 hm
    cases hm
  | succ n ih =>
    intro v1 v3 μ H locs ls w1 μ' k0 n0 hk0 hn0 hm hP hS hl K
    rw [X8_digest_L88_s] at hm
    refine lv_iload_n hx hb dX8_digest_88 rfl (lv_at hl 2 rfl) ?_
    refine lv_aload_n hx hb dX8_digest_89 rfl (lv_at hl 0 rfl) ?_
    refine t_getr (C := RX8) (T := TX8) (N := 3) hx hb hts hin8 hown hK hP ho0 rfl rfl 1 (by decide) (fr8_1 ho0) (hts _ (List.mem_of_getElem? (i := 4) rfl)) dX8_digest_90 ?_
    refine t_getiN (C := RX7) (T := TX7) (N := 26) hx hb hts hin7 hown hK hP (kr8_1 ho0) rfl rfl 11 (by decide) (fk7_11 (kr8_1 ho0)) hN (i := 0) rfl dX8_digest_93 ?_
    refine lv_icmp_ge (tgt := 136) hx hb dX8_digest_96 (by decide) (fun c21 => ?_) (fun c21 => ?_)
    · rw [if_pos c21] at hm
      cases hm
      refine W.widen (k := capC) (n := capS) (by omega) (by omega) ?_
      exact K _ _ _ hP hS (lv_sub hl [0, 1] rfl)
    · rw [if_neg c21] at hm
      refine lv_iconst (v := (0 : Int32)) hx hb dX8_digest_99 (by decide) ?_
      refine lv_istore (lv' := [(4, .int (0 : Int32)), (0, .ref (base + o0)), (1, .long v1), (3, .int v3)]) hx hb dX8_digest_100 hl (by decide) rfl (fun ls hl => ?_)
      obtain ⟨x28, μ29, hc30, hm⟩ := bO2_inv hm
      refine lX8_digest_L102 ⟨hx, hb, hml, hown, hts⟩ hK hN hz ho0 v3 (capC := (k0 + 13)) (capS := (n0 + 143)) (show (k0 + 13) ≤ 174 by omega) (show (n0 + 143) ≤ 1615 by omega) 13 v1 (0 : Int32) μ _ _ _ x28 μ29 k0 n0 (by omega) (by omega) hc30 hP hS (lv_sub hl [1, 3, 2, 0] rfl) ?_
      intro H locs ls hP hS hl
      obtain ⟨x31, ex31⟩ : ∃ z : Int32, z = v3 + (1 : Int32) := ⟨_, rfl⟩
      replace hm := bV_of hm ex31
      refine lv_iinc (v := x31) (lv' := [(3, .int x31), (0, .ref (base + o0)), (1, .long x28)]) hx hb dX8_digest_130 hl (k := 1) rfl (by rw [ex31]; rfl) (by decide) rfl (fun ls hl => ?_)
      refine lv_goto (tgt := 88) hx hb dX8_digest_133 (by decide) ?_
      exact ih x28 x31 μ29 _ _ _ w1 μ' ((k0 + 13)) ((n0 + 143)) (by omega) (by omega) hm hP hS (lv_sub hl [1, 2, 0] rfl) K
set_option maxHeartbeats 4000000 in
set_option maxRecDepth 100000 in
theorem lX8_digest_L156 {p : Program} {l : Launch} {e : Env} {s : State} {m : MethodId} {args : Array Value} {below : List Frame} {meth : Method} {c : Code} {Q : State → Prop} {D : va_G} {cA : Nat → ClassId} {base sz0 : Nat} {H0 : Heap} (FX : CallFix p m c cX8_digest 5 s args wsX8_digest RX8) (hK : va_K D vwCl (tys cA) s) (hN : tN s) (hz : sz0 ≤ H0.size) {o0 : Nat} (ho0 : kc o0 = 8) (b3 : Int32) (μ : MM) {cells slots : Nat} (hcs : cells ≤ 174 ∧ slots ≤ 1615) :
    ∀ (n : Nat) (v1 : Int64) (v4 : Int32) (H : Heap) (locs : List Loc) (ls : Array Slot) (w1 : Int64), X8_digest_L156 o0 b3 μ n v1 v4 = some w1 → va_P D vwCl (tw base cA μ []) H → va_S (tA base sz0) H0 H locs → lv_has ls 5 [(0, .ref (base + o0)), (3, .int b3), (1, .long v1), (4, .int v4)] → (∀ (H : Heap) (locs : List Loc) (ls : Array Slot), va_P D vwCl (tw base cA μ []) H → va_S (tA base sz0) H0 H locs → lv_has ls 5 [(0, .ref (base + o0)), (3, .int b3), (1, .long w1)] → W p l e rmX8_digest s m args below meth c H locs cells slots Q (F0 m 216 ls [])) → W p l e rmX8_digest s m args below meth c H locs cells slots Q (F0 m 156 ls []) := by
  obtain ⟨hx, hb, hml, hown, hts⟩ := FX
  have hin7 : ∀ w ∈ wsX70, w ∈ wsX8_digest := by decide +kernel
  have hin8 : ∀ w ∈ wsX80, w ∈ wsX8_digest := by decide +kernel
  intro n
  induction n with
  | zero =>
    intro v1 v4 H locs ls w1 hm
    cases hm
  | succ n ih =>
    intro v1 v4 H locs ls w1 hm hP hS hl K
    rw [X8_digest_L156_s] at hm
    refine lv_iload hx hb dX8_digest_156 (lv_at hl 3 rfl) ?_
    refine lv_sipush (v := (400 : Int32)) hx hb dX8_digest_158 (by decide) ?_
    refine lv_iload_n hx hb dX8_digest_161 rfl (lv_at hl 1 rfl) ?_
    refine lv_imul hx hb dX8_digest_162 ?_
    refine lv_aload_n hx hb dX8_digest_163 rfl (lv_at hl 0 rfl) ?_
    refine t_getr (C := RX8) (T := TX8) (N := 3) hx hb hts hin8 hown hK hP ho0 rfl rfl 1 (by decide) (fr8_1 ho0) (hts _ (List.mem_of_getElem? (i := 4) rfl)) dX8_digest_164 ?_
    refine t_getrN (C := RX7) (T := TX7) (N := 26) hx hb hts hin7 hown hK hP (kr8_1 ho0) rfl rfl 22 (by decide) (fr7_22 (kr8_1 ho0)) hN (i := 14) rfl dX8_digest_167 ?_
    refine lv_iload_n hx hb dX8_digest_170 rfl (lv_at hl 1 rfl) ?_
    obtain ⟨hg37, hm⟩ := gd_inv hm
    refine t_iald hx hb hK hP (kr7_22 (kr8_1 ho0)) hg37 dX8_digest_171 ?_
    refine lv_iadd hx hb dX8_digest_172 ?_
    refine lv_icmp_ge (tgt := 216) hx hb dX8_digest_173 (by decide) (fun c38 => ?_) (fun c38 => ?_)
    · rw [if_pos c38] at hm
      cases hm
      exact K _ _ _ hP hS (lv_sub hl [0, 1, 2] rfl)
    · rw [if_neg c38] at hm
      refine lv_lload_n hx hb dX8_digest_176 rfl (lv_at hl 2 rfl) ?_
      refine lv_ldc2 (v := (31 : Int64)) hx hb hown (hts _ (List.mem_of_getElem? (i := 3) rfl)) dX8_digest_177 ?_
      refine lv_lmul hx hb dX8_digest_180 ?_
      refine lv_aload_n hx hb dX8_digest_181 rfl (lv_at hl 0 rfl) ?_
      refine t_getr (C := RX8) (T := TX8) (N := 3) hx hb hts hin8 hown hK hP ho0 rfl rfl 1 (by decide) (fr8_1 ho0) (hts _ (List.mem_of_getElem? (i := 4) rfl)) dX8_digest_182 ?_
      refine t_getrN (C := RX7) (T := TX7) (N := 26) hx hb hts hin7 hown hK hP (kr8_1 ho0) rfl rfl 23 (by decide) (fr7_23 (kr8_1 ho0)) hN (i := 22) rfl dX8_digest_185 ?_
      refine lv_iload hx hb dX8_digest_188 (lv_at hl 3 rfl) ?_
      obtain ⟨hg39, hm⟩ := gd_inv hm
      refine t_iald hx hb hK hP (kr7_23 (kr8_1 ho0)) hg39 dX8_digest_190 ?_
      refine lv_i2l (v := (rI μ (RF (RF o0 1) 23) v4.toNatClampNeg).toInt64) hx hb dX8_digest_191 rfl ?_
      refine lv_ladd hx hb dX8_digest_192 ?_
      refine lv_ldc2 (v := (31 : Int64)) hx hb hown (hts _ (List.mem_of_getElem? (i := 3) rfl)) dX8_digest_193 ?_
      refine lv_lmul hx hb dX8_digest_196 ?_
      refine lv_aload_n hx hb dX8_digest_197 rfl (lv_at hl 0 rfl) ?_
      refine t_getr (C := RX8) (T := TX8) (N := 3) hx hb hts hin8 hown hK hP ho0 rfl rfl 1 (by decide) (fr8_1 ho0) (hts _ (List.mem_of_getElem? (i := 4) rfl)) dX8_digest_198 ?_
      refine t_getrN (C := RX7) (T := TX7) (N := 26) hx hb hts hin7 hown hK hP (kr8_1 ho0) rfl rfl 24 (by decide) (fr7_24 (kr8_1 ho0)) hN (i := 21) rfl dX8_digest_201 ?_
      refine lv_iload hx hb dX8_digest_204 (lv_at hl 3 rfl) ?_
      obtain ⟨hg40, hm⟩ := gd_inv hm
      refine t_iald hx hb hK hP (kr7_24 (kr8_1 ho0)) hg40 dX8_digest_206 ?_
      refine lv_i2l (v := (rI μ (RF (RF o0 1) 24) v4.toNatClampNeg).toInt64) hx hb dX8_digest_207 rfl ?_
      refine lv_ladd hx hb dX8_digest_208 ?_
      refine lv_topl (fun x41 ex41 => ?_)
      replace hm := bV_of hm ex41
      refine lv_lstore_n (lv' := [(1, .long x41), (0, .ref (base + o0)), (3, .int b3), (4, .int v4)]) hx hb dX8_digest_209 rfl hl (by decide) rfl (fun ls hl => ?_)
      obtain ⟨x42, ex42⟩ : ∃ z : Int32, z = v4 + (1 : Int32) := ⟨_, rfl⟩
      replace hm := bV_of hm ex42
      refine lv_iinc (v := x42) (lv' := [(4, .int x42), (1, .long x41), (0, .ref (base + o0)), (3, .int b3)]) hx hb dX8_digest_210 hl (k := 3) rfl (by rw [ex42]; rfl) (by decide) rfl (fun ls hl => ?_)
      refine lv_goto (tgt := 156) hx hb dX8_digest_213 (by decide) ?_
      exact ih x41 x42 _ _ _ w1 hm hP hS (lv_sub hl [2, 3, 1, 0] rfl) K
set_option maxHeartbeats 4000000 in
set_option maxRecDepth 100000 in
theorem lX8_digest_L138 {p : Program} {l : Launch} {e : Env} {s : State} {m : MethodId} {args : Array Value} {below : List Frame} {meth : Method} {c : Code} {Q : State → Prop} {D : va_G} {cA : Nat → ClassId} {base sz0 : Nat} {H0 : Heap} (FX : CallFix p m c cX8_digest 5 s args wsX8_digest RX8) (hK : va_K D vwCl (tys cA) s) (hN : tN s) (hz : sz0 ≤ H0.size) {o0 : Nat} (ho0 : kc o0 = 8) (μ : MM) {cells slots : Nat} (hcs : cells ≤ 174 ∧ slots ≤ 1615) :
    ∀ (n : Nat) (v1 : Int64) (v3 : Int32) (H : Heap) (locs : List Loc) (ls : Array Slot) (w1 : Int64), X8_digest_L138 o0 μ n v1 v3 = some w1 → va_P D vwCl (tw base cA μ []) H → va_S (tA base sz0) H0 H locs → lv_has ls 5 [(0, .ref (base + o0)), (1, .long v1), (3, .int v3)] → (∀ (H : Heap) (locs : List Loc) (ls : Array Slot), va_P D vwCl (tw base cA μ []) H → va_S (tA base sz0) H0 H locs → lv_has ls 5 [(1, .long w1)] → W p l e rmX8_digest s m args below meth c H locs cells slots Q (F0 m 222 ls [])) → W p l e rmX8_digest s m args below meth c H locs cells slots Q (F0 m 138 ls []) := by
  obtain ⟨hx, hb, hml, hown, hts⟩ := FX
  have hin7 : ∀ w ∈ wsX70, w ∈ wsX8_digest := by decide +kernel
  have hin8 : ∀ w ∈ wsX80, w ∈ wsX8_digest := by decide +kernel
  intro n
  induction n with
  | zero =>
    intro v1 v3 H locs ls w1 hm
    cases hm
  | succ n ih =>
    intro v1 v3 H locs ls w1 hm hP hS hl K
    rw [X8_digest_L138_s] at hm
    refine lv_iload_n hx hb dX8_digest_138 rfl (lv_at hl 2 rfl) ?_
    refine lv_aload_n hx hb dX8_digest_139 rfl (lv_at hl 0 rfl) ?_
    refine t_getr (C := RX8) (T := TX8) (N := 3) hx hb hts hin8 hown hK hP ho0 rfl rfl 1 (by decide) (fr8_1 ho0) (hts _ (List.mem_of_getElem? (i := 4) rfl)) dX8_digest_140 ?_
    refine t_getiN (C := RX7) (T := TX7) (N := 26) hx hb hts hin7 hown hK hP (kr8_1 ho0) rfl rfl 11 (by decide) (fk7_11 (kr8_1 ho0)) hN (i := 0) rfl dX8_digest_143 ?_
    refine lv_icmp_gt (tgt := 222) hx hb dX8_digest_146 (by decide) (fun c35 => ?_) (fun c35 => ?_)
    · rw [if_pos c35] at hm
      cases hm
      exact K _ _ _ hP hS (lv_sub hl [1] rfl)
    · rw [if_neg c35] at hm
      refine lv_sipush (v := (400 : Int32)) hx hb dX8_digest_149 (by decide) ?_
      refine lv_iload_n hx hb dX8_digest_152 rfl (lv_at hl 2 rfl) ?_
      refine lv_imul hx hb dX8_digest_153 ?_
      refine lv_topi (fun x36 ex36 => ?_)
      replace hm := bV_of hm ex36
      refine lv_istore (lv' := [(4, .int x36), (0, .ref (base + o0)), (1, .long v1), (3, .int v3)]) hx hb dX8_digest_154 hl (by decide) rfl (fun ls hl => ?_)
      obtain ⟨x43, hc44, hm⟩ := bO1_inv hm
      refine lX8_digest_L156 ⟨hx, hb, hml, hown, hts⟩ hK hN hz ho0 v3 μ hcs 1000 v1 x36 _ _ _ x43 hc44 hP hS (lv_sub hl [1, 3, 2, 0] rfl) ?_
      intro H locs ls hP hS hl
      obtain ⟨x45, ex45⟩ : ∃ z : Int32, z = v3 + (1 : Int32) := ⟨_, rfl⟩
      replace hm := bV_of hm ex45
      refine lv_iinc (v := x45) (lv' := [(3, .int x45), (0, .ref (base + o0)), (1, .long x43)]) hx hb dX8_digest_216 hl (k := 1) rfl (by rw [ex45]; rfl) (by decide) rfl (fun ls hl => ?_)
      refine lv_goto (tgt := 138) hx hb dX8_digest_219 (by decide) ?_
      exact ih x43 x45 _ _ _ w1 hm hP hS (lv_sub hl [1, 2, 0] rfl) K
set_option maxHeartbeats 4000000 in
set_option maxRecDepth 100000 in
theorem mX8_digest (l : Launch) (D : va_G) (cA : Nat → ClassId) (base sz : Nat) (μ : MM) {q : Nat} (hq : kc q = 8) {r : Int64} {μ' : MM} (hm : X8_digest q μ = some (r, μ')) : Met l yX8_digest wsX8_digest rmX8_digest (va_Pc [.ref (base + q)] (tPre D cA base sz μ)) (va_Ql (fun (x : Int64) (_ : Unit) => x = r) (fun _ => tPost D cA base μ') (tA base sz)) 174 1615 (tA base sz) := by
  refine Met.ofW (cc := cX8_digest) (maxL := 5) (ret := (some .long)) (by decide +kernel) rfl ?_
  intro p e s m args below meth c s₁ B hml hv
  obtain ⟨rfl, hsz, hP, hK, hN⟩ := hv
  have hx := B.exec
  have hb := B.bytes
  have hr := B.returns
  have hts := atoms_spec (ws := wsX8_digest) B.pre
  have hown : s.vm.findClass RX8 = some m.cls := findClass_of_methodNamed B.named
  have hlocks := B.notSynchronized
  have hin8 : ∀ w ∈ wsX80, w ∈ wsX8_digest := by decide +kernel
  subst hsz
  have hS : va_S (tA base s.heap.size) s.heap s.heap [] := va_S.rf
  have hz : s.heap.size ≤ s.heap.size := Nat.le_refl _
  have hl := lv_entry ([.ref (base + q)]) (n := 5) (Nat.le_of_ble_eq_true rfl)
  rw [lg_entry_eq]
  generalize (lg_sl ([.ref (base + q)]) ++ List.replicate (5 - (lg_sl ([.ref (base + q)])).length) Slot.unset).toArray = ls at hl ⊢
  have hl : lv_has ls 5 [(0, .ref (base + q))] := hl
  unfold X8_digest at hm
  refine lv_aload_n hx hb dX8_digest_0 rfl (lv_at hl 0 rfl) ?_
  refine lv_iconst (v := (0 : Int32)) hx hb dX8_digest_1 (by decide) ?_
  refine t_put (C := RX8) (T := TX8) (N := 3) hx hb hts hin8 tyX8 tyX8_ok nmX8 hown hK hP (tD _ _ _ _) hS hq rfl rfl 0 (by decide) (fk8_0 hq) (hts _ (List.mem_of_getElem? (i := 1) rfl)) rfl (by decide +kernel) dX8_digest_2 (fun H locs hP hS => ?_)
  obtain ⟨μ1, eμ1⟩ : ∃ z : MM, z = wI μ q 0 (0 : Int32) := ⟨_, rfl⟩
  rw [← eμ1] at hP
  replace hm := bV_of hm eμ1
  refine lv_ldc2 (v := (523 : Int64)) hx hb hown (hts _ (List.mem_of_getElem? (i := 2) rfl)) dX8_digest_5 ?_
  refine lv_topl (fun x2 ex2 => ?_)
  replace hm := bV_of hm ex2
  refine lv_lstore_n (lv' := [(1, .long x2), (0, .ref (base + q))]) hx hb dX8_digest_8 rfl hl (by decide) rfl (fun ls hl => ?_)
  refine lv_iconst (v := (0 : Int32)) hx hb dX8_digest_9 (by decide) ?_
  refine lv_istore_n (lv' := [(3, .int (0 : Int32)), (1, .long x2), (0, .ref (base + q))]) hx hb dX8_digest_10 rfl hl (by decide) rfl (fun ls hl => ?_)
  obtain ⟨x8, hc9, hm⟩ := bO1_inv hm
  refine lX8_digest_L11 ⟨hx, hb, hml, hown, hts⟩ hK hN hz hq μ1 (capC := 11) (capS := 110) (show 11 ≤ 174 by omega) (show 110 ≤ 1615 by omega) 11 x2 (0 : Int32) _ _ _ x8 0 0 (by omega) (by omega) hc9 hP hS (lv_sub hl [2, 1, 0] rfl) ?_
  intro H locs ls hP hS hl
  refine lv_iconst (v := (0 : Int32)) hx hb dX8_digest_36 (by decide) ?_
  refine lv_istore_n (lv' := [(3, .int (0 : Int32)), (0, .ref (base + q)), (1, .long x8)]) hx hb dX8_digest_37 rfl hl (by decide) rfl (fun ls hl => ?_)
  obtain ⟨x19, hc20, hm⟩ := bO1_inv hm
  refine lX8_digest_L38 ⟨hx, hb, hml, hown, hts⟩ hK hN hz hq μ1 (capC := 83) (capS := 614) (show 83 ≤ 174 by omega) (show 614 ≤ 1615 by omega) 9 x8 (0 : Int32) _ _ _ x19 11 110 (by omega) (by omega) hc20 hP hS (lv_sub hl [1, 2, 0] rfl) ?_
  intro H locs ls hP hS hl
  refine lv_iconst (v := (0 : Int32)) hx hb dX8_digest_86 (by decide) ?_
  refine lv_istore_n (lv' := [(3, .int (0 : Int32)), (0, .ref (base + q)), (1, .long x19)]) hx hb dX8_digest_87 rfl hl (by decide) rfl (fun ls hl => ?_)
  obtain ⟨x32, μ33, hc34, hm⟩ := bO2_inv hm
  refine lX8_digest_L88 ⟨hx, hb, hml, hown, hts⟩ hK hN hz hq (capC := 174) (capS := 1615) (show 174 ≤ 174 by omega) (show 1615 ≤ 1615 by omega) 7 x19 (0 : Int32) μ1 _ _ _ x32 μ33 83 614 (by omega) (by omega) hc34 hP hS (lv_sub hl [1, 2, 0] rfl) ?_
  intro H locs ls hP hS hl
  refine lv_iconst (v := (0 : Int32)) hx hb dX8_digest_136 (by decide) ?_
  refine lv_istore_n (lv' := [(3, .int (0 : Int32)), (0, .ref (base + q)), (1, .long x32)]) hx hb dX8_digest_137 rfl hl (by decide) rfl (fun ls hl => ?_)
  obtain ⟨x46, hc47, hm⟩ := bO1_inv hm
  refine lX8_digest_L138 ⟨hx, hb, hml, hown, hts⟩ hK hN hz hq μ33 ⟨Nat.le_of_ble_eq_true rfl, Nat.le_of_ble_eq_true rfl⟩ 1000 x32 (0 : Int32) _ _ _ x46 hc47 hP hS (lv_sub hl [1, 2, 0] rfl) ?_
  intro H locs ls hP hS hl
  refine lv_lload_n hx hb dX8_digest_222 rfl (lv_at hl 0 rfl) ?_
  cases hm
  refine W.widen (k := 174) (n := 1615) (Nat.le_of_ble_eq_true rfl) (Nat.le_of_ble_eq_true rfl) ?_
  exact W.lret hx hb hr (fun t ht hW => ⟨⟨_, (), rfl, rfl, tPost_of hP ht⟩, hS.F ht⟩) hS.2.2 dX8_digest_223
