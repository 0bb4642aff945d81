abbrev rmX5_hasBooth : Room := { frames := 0, cells := 0, slots := 0, locals := 0 }
set_option maxHeartbeats 4000000 in
set_option maxRecDepth 100000 in
theorem mX5_hasBooth (l : Launch) (D : va_G) (cA : Nat → ClassId) (base sz : Nat) (μ : MM) {q : Nat} (hq : kc q = 5) (a1 : Int32) {r : Int32} (hm : X5_hasBooth q a1 μ = r) : Met l yX5_hasBooth wsX5_hasBooth rmX5_hasBooth (va_Pc [.ref (base + q), .int a1] (tPre D cA base sz μ)) (va_Qi (fun (x : Int32) (_ : Unit) => x = r) (fun _ => tPost D cA base μ) (tA base sz)) 0 0 (tA base sz) := by
  refine Met.ofW (cc := cX5_hasBooth) (maxL := 2) (ret := (some .boolean)) (by decide +kernel) rfl ?_
  intro p e s m args below meth c s₁ B hml hv
  obtain ⟨rfl, hsz, hP, hK, hN⟩ := hv
  have hx := B.exec
  have hb := B.bytes
  have hr := B.returns
  have hts := atoms_spec (ws := wsX5_hasBooth) B.pre
  have hown : s.vm.findClass RX5 = some m.cls := findClass_of_methodNamed B.named
  have hlocks := B.notSynchronized
  have hin5 : ∀ w ∈ wsX50, w ∈ wsX5_hasBooth := by decide +kernel
  subst hsz
  have hS : va_S (tA base s.heap.size) s.heap s.heap [] := va_S.rf
  have hz : s.heap.size ≤ s.heap.size := Nat.le_refl _
  have hl := lv_entry ([.ref (base + q), .int a1]) (n := 2) (Nat.le_of_ble_eq_true rfl)
  rw [lg_entry_eq]
  generalize (lg_sl ([.ref (base + q), .int a1]) ++ List.replicate (2 - (lg_sl ([.ref (base + q), .int a1])).length) Slot.unset).toArray = ls at hl ⊢
  have hl : lv_has ls 2 [(0, .ref (base + q)), (1, .int a1)] := hl
  unfold X5_hasBooth at hm
  refine lv_iload_n hx hb dX5_hasBooth_0 rfl (lv_at hl 1 rfl) ?_
  refine lv_if_lt (tgt := 16) hx hb dX5_hasBooth_1 (by decide) (fun c1 => ?_) (fun c1 => ?_)
  · rw [if_pos c1] at hm
    refine lv_iconst (v := (0 : Int32)) hx hb dX5_hasBooth_16 (by decide) ?_
    cases hm
    exact W.zret hx hb hr rfl (fun t ht hW => ⟨⟨_, (), rfl, rfl, tPost_of hP ht⟩, hS.F ht⟩) hS.2.2 dX5_hasBooth_17
  · rw [if_neg c1] at hm
    refine lv_iload_n hx hb dX5_hasBooth_4 rfl (lv_at hl 1 rfl) ?_
    refine lv_aload_n hx hb dX5_hasBooth_5 rfl (lv_at hl 0 rfl) ?_
    refine t_geti (C := RX5) (T := TX5) (N := 9) hx hb hts hin5 hown hK hP hq rfl rfl 6 (by decide) (fk5_6 hq) (hts _ (List.mem_of_getElem? (i := 1) rfl)) dX5_hasBooth_6 ?_
    refine lv_icmp_ge (tgt := 16) hx hb dX5_hasBooth_9 (by decide) (fun c2 => ?_) (fun c2 => ?_)
    · rw [if_pos c2] at hm
      refine lv_iconst (v := (0 : Int32)) hx hb dX5_hasBooth_16 (by decide) ?_
      cases hm
      exact W.zret hx hb hr rfl (fun t ht hW => ⟨⟨_, (), rfl, rfl, tPost_of hP ht⟩, hS.F ht⟩) hS.2.2 dX5_hasBooth_17
    · rw [if_neg c2] at hm
      refine lv_iconst (v := (1 : Int32)) hx hb dX5_hasBooth_12 (by decide) ?_
      refine lv_goto (tgt := 17) hx hb dX5_hasBooth_13 (by decide) ?_
      cases hm
      exact W.zret hx hb hr rfl (fun t ht hW => ⟨⟨_, (), rfl, rfl, tPost_of hP ht⟩, hS.F ht⟩) hS.2.2 dX5_hasBooth_17
abbrev rmX5_hasInterpreter : Room := { frames := 0, cells := 0, slots := 0, locals := 0 }
set_option maxHeartbeats 4000000 in
set_option maxRecDepth 100000 in
theorem mX5_hasInterpreter (l : Launch) (D : va_G) (cA : Nat → ClassId) (base sz : Nat) (μ : MM) {q : Nat} (hq : kc q = 5) (a1 : Int32) {r : Int32} (hm : X5_hasInterpreter q a1 μ = r) : Met l yX5_hasInterpreter wsX5_hasInterpreter rmX5_hasInterpreter (va_Pc [.ref (base + q), .int a1] (tPre D cA base sz μ)) (va_Qi (fun (x : Int32) (_ : Unit) => x = r) (fun _ => tPost D cA base μ) (tA base sz)) 0 0 (tA base sz) := by
  refine Met.ofW (cc := cX5_hasInterpreter) (maxL := 2) (ret := (some .boolean)) (by decide +kernel) rfl ?_
  intro p e s m args below meth c s₁ B hml hv
  obtain ⟨rfl, hsz, hP, hK, hN⟩ := hv
  have hx := B.exec
  have hb := B.bytes
  have hr := B.returns
  have hts := atoms_spec (ws := wsX5_hasInterpreter) B.pre
  have hown : s.vm.findClass RX5 = some m.cls := findClass_of_methodNamed B.named
  have hlocks := B.notSynchronized
  have hin5 : ∀ w ∈ wsX50, w ∈ wsX5_hasInterpreter := by decide +kernel
  subst hsz
  have hS : va_S (tA base s.heap.size) s.heap s.heap [] := va_S.rf
  have hz : s.heap.size ≤ s.heap.size := Nat.le_refl _
  have hl := lv_entry ([.ref (base + q), .int a1]) (n := 2) (Nat.le_of_ble_eq_true rfl)
  rw [lg_entry_eq]
  generalize (lg_sl ([.ref (base + q), .int a1]) ++ List.replicate (2 - (lg_sl ([.ref (base + q), .int a1])).length) Slot.unset).toArray = ls at hl ⊢
  have hl : lv_has ls 2 [(0, .ref (base + q)), (1, .int a1)] := hl
  unfold X5_hasInterpreter at hm
  refine lv_iload_n hx hb dX5_hasInterpreter_0 rfl (lv_at hl 1 rfl) ?_
  refine lv_if_lt (tgt := 16) hx hb dX5_hasInterpreter_1 (by decide) (fun c1 => ?_) (fun c1 => ?_)
  · rw [if_pos c1] at hm
    refine lv_iconst (v := (0 : Int32)) hx hb dX5_hasInterpreter_16 (by decide) ?_
    cases hm
    exact W.zret hx hb hr rfl (fun t ht hW => ⟨⟨_, (), rfl, rfl, tPost_of hP ht⟩, hS.F ht⟩) hS.2.2 dX5_hasInterpreter_17
  · rw [if_neg c1] at hm
    refine lv_iload_n hx hb dX5_hasInterpreter_4 rfl (lv_at hl 1 rfl) ?_
    refine lv_aload_n hx hb dX5_hasInterpreter_5 rfl (lv_at hl 0 rfl) ?_
    refine t_geti (C := RX5) (T := TX5) (N := 9) hx hb hts hin5 hown hK hP hq rfl rfl 7 (by decide) (fk5_7 hq) (hts _ (List.mem_of_getElem? (i := 1) rfl)) dX5_hasInterpreter_6 ?_
    refine lv_icmp_ge (tgt := 16) hx hb dX5_hasInterpreter_9 (by decide) (fun c2 => ?_) (fun c2 => ?_)
    · rw [if_pos c2] at hm
      refine lv_iconst (v := (0 : Int32)) hx hb dX5_hasInterpreter_16 (by decide) ?_
      cases hm
      exact W.zret hx hb hr rfl (fun t ht hW => ⟨⟨_, (), rfl, rfl, tPost_of hP ht⟩, hS.F ht⟩) hS.2.2 dX5_hasInterpreter_17
    · rw [if_neg c2] at hm
      refine lv_iconst (v := (1 : Int32)) hx hb dX5_hasInterpreter_12 (by decide) ?_
      refine lv_goto (tgt := 17) hx hb dX5_hasInterpreter_13 (by decide) ?_
      cases hm
      exact W.zret hx hb hr rfl (fun t ht hW => ⟨⟨_, (), rfl, rfl, tPost_of hP ht⟩, hS.F ht⟩) hS.2.2 dX5_hasInterpreter_17
abbrev rmX5_speechOf : Room := { frames := 1, cells := 0, slots := 0, locals := 21 }
set_option maxHeartbeats 4000000 in
set_option maxRecDepth 100000 in
theorem mX5_speechOf (l : Launch) (D : va_G) (cA : Nat → ClassId) (base sz : Nat) (μ : MM) {q : Nat} (hq : kc q = 5) (a1 : Int32) {r : Nat} (hm : X5_speechOf q a1 μ = some r) : Met l yX5_speechOf wsX5_speechOf rmX5_speechOf (va_Pc [.ref (base + q), .int a1] (tPre D cA base sz μ)) (va_Qr (fun _ : Unit => True) (fun _ a t => a = base + r ∧ tPost D cA base μ t) (tA base sz)) 0 0 (tA base sz) := by
  refine Met.ofW (cc := cX5_speechOf) (maxL := 2) (ret := (some (.object "RelayBooths$Speech"))) (by decide +kernel) rfl ?_
  intro p e s m args below meth c s₁ B hml hv
  obtain ⟨rfl, hsz, hP, hK, hN⟩ := hv
  have hx := B.exec
  have hb := B.bytes
  have hr := B.returns
  have hts := atoms_spec (ws := wsX5_speechOf) B.pre
  have hown : s.vm.findClass RX5 = some m.cls := findClass_of_methodNamed B.named
  have hlocks := B.notSynchronized
  have hin0 : ∀ w ∈ wsX00, w ∈ wsX5_speechOf := by decide +kernel
  have hin5 : ∀ w ∈ wsX50, w ∈ wsX5_speechOf := by decide +kernel
  subst hsz
  have hS : va_S (tA base s.heap.size) s.heap s.heap [] := va_S.rf
  have hz : s.heap.size ≤ s.heap.size := Nat.le_refl _
  have hl := lv_entry ([.ref (base + q), .int a1]) (n := 2) (Nat.le_of_ble_eq_true rfl)
  rw [lg_entry_eq]
  generalize (lg_sl ([.ref (base + q), .int a1]) ++ List.replicate (2 - (lg_sl ([.ref (base + q), .int a1])).length) Slot.unset).toArray = ls at hl ⊢
  have hl : lv_has ls 2 [(0, .ref (base + q)), (1, .int a1)] := hl
  unfold X5_speechOf at hm
  refine lv_aload_n hx hb dX5_speechOf_0 rfl (lv_at hl 0 rfl) ?_
  refine lv_iload_n hx hb dX5_speechOf_1 rfl (lv_at hl 1 rfl) ?_
  refine t_cVi (As := [.int a1]) (rest := []) (μ' := μ) (r := (X5_hasBooth q a1 μ)) ⟨hx, hb, hml, hown, hts⟩ (mX5_hasBooth l D cA base s.heap.size μ hq a1 rfl) (cwV 1 hts gX5_speechOf_X5_hasBooth rfl rfl rfl (by decide +kernel) ⟨Nat.le_of_ble_eq_true rfl, Nat.le_of_ble_eq_true rfl⟩) (va_recv hK hP (q0 := q) rfl (tw_obj hq (by decide))) hK hN hP hS hz rfl hl.1 (Nat.le_of_ble_eq_true rfl) dX5_speechOf_2 ⟨Nat.le_of_ble_eq_true rfl, Nat.le_of_ble_eq_true rfl⟩ rfl (fun H locs hP hS => ?_)
  refine lv_if_eq (tgt := 20) hx hb dX5_speechOf_5 (by decide) (fun c3 => ?_) (fun c3 => ?_)
  · rw [if_pos c3] at hm
    refine lv_aload_n hx hb dX5_speechOf_20 rfl (lv_at hl 0 rfl) ?_
    refine t_getr (C := RX5) (T := TX5) (N := 9) hx hb hts hin5 hown hK hP hq rfl rfl 2 (by decide) (fr5_2 hq) (hts _ (List.mem_of_getElem? (i := 3) rfl)) dX5_speechOf_21 ?_
    cases hm
    exact W.aret hx hb hr (Or.inl ⟨_, rfl⟩) (Or.inr ⟨_, rfl⟩) (fun t ht hW => ⟨⟨(), _, rfl, trivial, rfl, tPost_of hP ht⟩, hS.F ht⟩) hS.2.2 dX5_speechOf_24
  · rw [if_neg c3] at hm
    refine lv_aload_n hx hb dX5_speechOf_8 rfl (lv_at hl 0 rfl) ?_
    refine t_getr (C := RX5) (T := TX5) (N := 9) hx hb hts hin5 hown hK hP hq rfl rfl 3 (by decide) (fr5_3 hq) (hts _ (List.mem_of_getElem? (i := 1) rfl)) dX5_speechOf_9 ?_
    refine lv_iload_n hx hb dX5_speechOf_12 rfl (lv_at hl 1 rfl) ?_
    obtain ⟨hg4, hm⟩ := gd_inv hm
    refine t_aald2 hx hb hK hP (kr5_3 hq) hg4 dX5_speechOf_13 ?_
    refine t_getr (C := RX0) (T := TX0) (N := 10) hx hb hts hin0 hown hK hP (ka102 (kr5_3 hq) hg4) rfl rfl 2 (by decide) (fr0_2 (ka102 (kr5_3 hq) hg4)) (hts _ (List.mem_of_getElem? (i := 2) rfl)) dX5_speechOf_14 ?_
    refine lv_goto (tgt := 24) hx hb dX5_speechOf_17 (by decide) ?_
    cases hm
    exact W.aret hx hb hr (Or.inl ⟨_, rfl⟩) (Or.inr ⟨_, rfl⟩) (fun t ht hW => ⟨⟨(), _, rfl, trivial, rfl, tPost_of hP ht⟩, hS.F ht⟩) hS.2.2 dX5_speechOf_24
abbrev rmX5_languageOf : Room := { frames := 1, cells := 0, slots := 0, locals := 21 }
set_option maxHeartbeats 4000000 in
set_option maxRecDepth 100000 in
theorem mX5_languageOf (l : Launch) (D : va_G) (cA : Nat → ClassId) (base sz : Nat) (μ : MM) {q : Nat} (hq : kc q = 5) (a1 : Int32) {r : Int32} (hm : X5_languageOf q a1 μ = some r) : Met l yX5_languageOf wsX5_languageOf rmX5_languageOf (va_Pc [.ref (base + q), .int a1] (tPre D cA base sz μ)) (va_Qi (fun (x : Int32) (_ : Unit) => x = r) (fun _ => tPost D cA base μ) (tA base sz)) 0 0 (tA base sz) := by
  refine Met.ofW (cc := cX5_languageOf) (maxL := 2) (ret := (some .int)) (by decide +kernel) rfl ?_
  intro p e s m args below meth c s₁ B hml hv
  obtain ⟨rfl, hsz, hP, hK, hN⟩ := hv
  have hx := B.exec
  have hb := B.bytes
  have hr := B.returns
  have hts := atoms_spec (ws := wsX5_languageOf) B.pre
  have hown : s.vm.findClass RX5 = some m.cls := findClass_of_methodNamed B.named
  have hlocks := B.notSynchronized
  have hin0 : ∀ w ∈ wsX00, w ∈ wsX5_languageOf := by decide +kernel
  have hin5 : ∀ w ∈ wsX50, w ∈ wsX5_languageOf := by decide +kernel
  subst hsz
  have hS : va_S (tA base s.heap.size) s.heap s.heap [] := va_S.rf
  have hz : s.heap.size ≤ s.heap.size := Nat.le_refl _
  have hl := lv_entry ([.ref (base + q), .int a1]) (n := 2) (Nat.le_of_ble_eq_true rfl)
  rw [lg_entry_eq]
  generalize (lg_sl ([.ref (base + q), .int a1]) ++ List.replicate (2 - (lg_sl ([.ref (base + q), .int a1])).length) Slot.unset).toArray = ls at hl ⊢
  have hl : lv_has ls 2 [(0, .ref (base + q)), (1, .int a1)] := hl
  unfold X5_languageOf at hm
  refine lv_aload_n hx hb dX5_languageOf_0 rfl (lv_at hl 0 rfl) ?_
  refine lv_iload_n hx hb dX5_languageOf_1 rfl (lv_at hl 1 rfl) ?_
  refine t_cVi (As := [.int a1]) (rest := []) (μ' := μ) (r := (X5_hasBooth q a1 μ)) ⟨hx, hb, hml, hown, hts⟩ (mX5_hasBooth l D cA base s.heap.size μ hq a1 rfl) (cwV 1 hts gX5_languageOf_X5_hasBooth rfl rfl rfl (by decide +kernel) ⟨Nat.le_of_ble_eq_true rfl, Nat.le_of_ble_eq_true rfl⟩) (va_recv hK hP (q0 := q) rfl (tw_obj hq (by decide))) hK hN hP hS hz rfl hl.1 (Nat.le_of_ble_eq_true rfl) dX5_languageOf_2 ⟨Nat.le_of_ble_eq_true rfl, Nat.le_of_ble_eq_true rfl⟩ rfl (fun H locs hP hS => ?_)
  refine lv_if_eq (tgt := 20) hx hb dX5_languageOf_5 (by decide) (fun c3 => ?_) (fun c3 => ?_)
  · rw [if_pos c3] at hm
    refine lv_aload_n hx hb dX5_languageOf_20 rfl (lv_at hl 0 rfl) ?_
    refine t_geti (C := RX5) (T := TX5) (N := 9) hx hb hts hin5 hown hK hP hq rfl rfl 5 (by decide) (fk5_5 hq) (hts _ (List.mem_of_getElem? (i := 3) rfl)) dX5_languageOf_21 ?_
    cases hm
    exact W.iret hx hb hr (fun t ht hW => ⟨⟨_, (), rfl, rfl, tPost_of hP ht⟩, hS.F ht⟩) hS.2.2 dX5_languageOf_24
  · rw [if_neg c3] at hm
    refine lv_aload_n hx hb dX5_languageOf_8 rfl (lv_at hl 0 rfl) ?_
    refine t_getr (C := RX5) (T := TX5) (N := 9) hx hb hts hin5 hown hK hP hq rfl rfl 3 (by decide) (fr5_3 hq) (hts _ (List.mem_of_getElem? (i := 1) rfl)) dX5_languageOf_9 ?_
    refine lv_iload_n hx hb dX5_languageOf_12 rfl (lv_at hl 1 rfl) ?_
    obtain ⟨hg4, hm⟩ := gd_inv hm
    refine t_aald2 hx hb hK hP (kr5_3 hq) hg4 dX5_languageOf_13 ?_
    refine t_geti (C := RX0) (T := TX0) (N := 10) hx hb hts hin0 hown hK hP (ka102 (kr5_3 hq) hg4) rfl rfl 3 (by decide) (fk0_3 (ka102 (kr5_3 hq) hg4)) (hts _ (List.mem_of_getElem? (i := 2) rfl)) dX5_languageOf_14 ?_
    refine lv_goto (tgt := 24) hx hb dX5_languageOf_17 (by decide) ?_
    cases hm
    exact W.iret hx hb hr (fun t ht hW => ⟨⟨_, (), rfl, rfl, tPost_of hP ht⟩, hS.F ht⟩) hS.2.2 dX5_languageOf_24
abbrev rmX5_isAble : Room := { frames := 2, cells := 0, slots := 0, locals := 42 }
set_option maxHeartbeats 4000000 in
set_option maxRecDepth 100000 in
theorem mX5_isAble (l : Launch) (D : va_G) (cA : Nat → ClassId) (base sz : Nat) (μ : MM) {q : Nat} (hq : kc q = 5) (a1 : Int32) {r : Int32} (hm : X5_isAble q a1 μ = some r) : Met l yX5_isAble wsX5_isAble rmX5_isAble (va_Pc [.ref (base + q), .int a1] (tPre D cA base sz μ)) (va_Qi (fun (x : Int32) (_ : Unit) => x = r) (fun _ => tPost D cA base μ) (tA base sz)) 0 0 (tA base sz) := by
  refine Met.ofW (cc := cX5_isAble) (maxL := 4) (ret := (some .boolean)) (by decide +kernel) rfl ?_
  intro p e s m args below meth c s₁ B hml hv
  obtain ⟨rfl, hsz, hP, hK, hN⟩ := hv
  have hx := B.exec
  have hb := B.bytes
  have hr := B.returns
  have hts := atoms_spec (ws := wsX5_isAble) B.pre
  have hown : s.vm.findClass RX5 = some m.cls := findClass_of_methodNamed B.named
  have hlocks := B.notSynchronized
  have hin0 : ∀ w ∈ wsX00, w ∈ wsX5_isAble := by decide +kernel
  have hin5 : ∀ w ∈ wsX50, w ∈ wsX5_isAble := by decide +kernel
  subst hsz
  have hS : va_S (tA base s.heap.size) s.heap s.heap [] := va_S.rf
  have hz : s.heap.size ≤ s.heap.size := Nat.le_refl _
  have hl := lv_entry ([.ref (base + q), .int a1]) (n := 4) (Nat.le_of_ble_eq_true rfl)
  rw [lg_entry_eq]
  generalize (lg_sl ([.ref (base + q), .int a1]) ++ List.replicate (4 - (lg_sl ([.ref (base + q), .int a1])).length) Slot.unset).toArray = ls at hl ⊢
  have hl : lv_has ls 4 [(0, .ref (base + q)), (1, .int a1)] := hl
  unfold X5_isAble at hm
  refine lv_aload_n hx hb dX5_isAble_0 rfl (lv_at hl 0 rfl) ?_
  refine t_getr (C := RX5) (T := TX5) (N := 9) hx hb hts hin5 hown hK hP hq rfl rfl 3 (by decide) (fr5_3 hq) (hts _ (List.mem_of_getElem? (i := 1) rfl)) dX5_isAble_1 ?_
  refine lv_iload_n hx hb dX5_isAble_4 rfl (lv_at hl 1 rfl) ?_
  obtain ⟨hg1, hm⟩ := gd_inv hm
  refine t_aald2 hx hb hK hP (kr5_3 hq) hg1 dX5_isAble_5 ?_
  refine lv_astore_n (lv' := [(2, .ref (base + (RF (RF q 3) a1.toNatClampNeg))), (0, .ref (base + q)), (1, .int a1)]) hx hb dX5_isAble_6 rfl hl (by decide) rfl (fun ls hl => ?_)
  refine lv_aload_n hx hb dX5_isAble_7 rfl (lv_at hl 1 rfl) ?_
  refine lv_aload_n hx hb dX5_isAble_8 rfl (lv_at hl 0 rfl) ?_
  refine t_geti (C := RX0) (T := TX0) (N := 10) hx hb hts hin0 hown hK hP (ka102 (kr5_3 hq) hg1) rfl rfl 7 (by decide) (fk0_7 (ka102 (kr5_3 hq) hg1)) (hts _ (List.mem_of_getElem? (i := 2) rfl)) dX5_isAble_9 ?_
  refine t_cVi (As := [.int (rI μ (RF (RF q 3) a1.toNatClampNeg) 7)]) (rest := []) (μ' := μ) (r := (X5_hasInterpreter q (rI μ (RF (RF q 3) a1.toNatClampNeg) 7) μ)) ⟨hx, hb, hml, hown, hts⟩ (mX5_hasInterpreter l D cA base s.heap.size μ hq (rI μ (RF (RF q 3) a1.toNatClampNeg) 7) rfl) (cwV 1 hts gX5_isAble_X5_hasInterpreter rfl rfl rfl (by decide +kernel) ⟨Nat.le_of_ble_eq_true rfl, Nat.le_of_ble_eq_true rfl⟩) (va_recv hK hP (q0 := q) rfl (tw_obj hq (by decide))) hK hN hP hS hz rfl hl.1 (Nat.le_of_ble_eq_true rfl) dX5_isAble_12 ⟨Nat.le_of_ble_eq_true rfl, Nat.le_of_ble_eq_true rfl⟩ rfl (fun H locs hP hS => ?_)
  refine lv_if_ne (tgt := 20) hx hb dX5_isAble_15 (by decide) (fun c4 => ?_) (fun c4 => ?_)
  · rw [if_neg c4] at hm
    refine lv_aload_n hx hb dX5_isAble_20 rfl (lv_at hl 1 rfl) ?_
    refine t_getr (C := RX5) (T := TX5) (N := 9) hx hb hts hin5 hown hK hP hq rfl rfl 4 (by decide) (fr5_4 hq) (hts _ (List.mem_of_getElem? (i := 3) rfl)) dX5_isAble_21 ?_
    refine lv_aload_n hx hb dX5_isAble_24 rfl (lv_at hl 0 rfl) ?_
    refine t_geti (C := RX0) (T := TX0) (N := 10) hx hb hts hin0 hown hK hP (ka102 (kr5_3 hq) hg1) rfl rfl 7 (by decide) (fk0_7 (ka102 (kr5_3 hq) hg1)) (hts _ (List.mem_of_getElem? (i := 2) rfl)) dX5_isAble_25 ?_
    obtain ⟨hg5, hm⟩ := gd_inv hm
    refine t_aald3 hx hb hK hP (kr5_4 hq) hg5 dX5_isAble_28 ?_
    refine lv_astore_n (lv' := [(3, .ref (base + (RF (RF q 4) (rI μ (RF (RF q 3) a1.toNatClampNeg) 7).toNatClampNeg))), (2, .ref (base + (RF (RF q 3) a1.toNatClampNeg))), (0, .ref (base + q)), (1, .int a1)]) hx hb dX5_isAble_29 rfl hl (by decide) rfl (fun ls hl => ?_)
    refine lv_aload_n hx hb dX5_isAble_30 rfl (lv_at hl 0 rfl) ?_
    refine lv_aload_n hx hb dX5_isAble_31 rfl (lv_at hl 1 rfl) ?_
    refine t_geti (C := RX0) (T := TX0) (N := 10) hx hb hts hin0 hown hK hP (ka102 (kr5_3 hq) hg1) rfl rfl 3 (by decide) (fk0_3 (ka102 (kr5_3 hq) hg1)) (hts _ (List.mem_of_getElem? (i := 4) rfl)) dX5_isAble_32 ?_
    refine t_cVi (As := [.int (rI μ (RF (RF q 3) a1.toNatClampNeg) 3)]) (rest := []) (μ' := μ) (r := (X2_speaks (RF (RF q 4) (rI μ (RF (RF q 3) a1.toNatClampNeg) 7).toNatClampNeg) (rI μ (RF (RF q 3) a1.toNatClampNeg) 3) μ)) ⟨hx, hb, hml, hown, hts⟩ (mX2_speaks l D cA base H.size μ (ka103 (kr5_4 hq) hg5) (rI μ (RF (RF q 3) a1.toNatClampNeg) 3) rfl) (cwV 1 hts gX5_isAble_X2_speaks rfl rfl rfl (by decide +kernel) ⟨Nat.le_of_ble_eq_true rfl, Nat.le_of_ble_eq_true rfl⟩) (va_recv hK hP (q0 := RF (RF q 4) (rI μ (RF (RF q 3) a1.toNatClampNeg) 7).toNatClampNeg) rfl (tw_obj (ka103 (kr5_4 hq) hg5) (by decide))) hK hN hP hS hz rfl hl.1 (Nat.le_of_ble_eq_true rfl) dX5_isAble_35 ⟨Nat.le_of_ble_eq_true rfl, Nat.le_of_ble_eq_true rfl⟩ rfl (fun H locs hP hS => ?_)
    refine lv_if_eq (tgt := 60) hx hb dX5_isAble_38 (by decide) (fun c8 => ?_) (fun c8 => ?_)
    · rw [if_pos c8] at hm
      refine lv_iconst (v := (0 : Int32)) hx hb dX5_isAble_60 (by decide) ?_
      cases hm
      exact W.zret hx hb hr rfl (fun t ht hW => ⟨⟨_, (), rfl, rfl, tPost_of hP ht⟩, hS.F ht⟩) hS.2.2 dX5_isAble_61
    · rw [if_neg c8] at hm
      refine lv_aload_n hx hb dX5_isAble_41 rfl (lv_at hl 0 rfl) ?_
      refine lv_aload_n hx hb dX5_isAble_42 rfl (lv_at hl 2 rfl) ?_
      refine lv_aload_n hx hb dX5_isAble_43 rfl (lv_at hl 1 rfl) ?_
      refine t_geti (C := RX0) (T := TX0) (N := 10) hx hb hts hin0 hown hK hP (ka102 (kr5_3 hq) hg1) rfl rfl 6 (by decide) (fk0_6 (ka102 (kr5_3 hq) hg1)) (hts _ (List.mem_of_getElem? (i := 5) rfl)) dX5_isAble_44 ?_
      obtain ⟨r9, hc10, hm⟩ := bO1_inv hm
      refine t_cVi (As := [.int (rI μ (RF (RF q 3) a1.toNatClampNeg) 6)]) (rest := [.ref (base + (RF (RF q 4) (rI μ (RF (RF q 3) a1.toNatClampNeg) 7).toNatClampNeg))]) (μ' := μ) (r := r9) ⟨hx, hb, hml, hown, hts⟩ (mX5_languageOf l D cA base H.size μ hq (rI μ (RF (RF q 3) a1.toNatClampNeg) 6) hc10) (cwV 1 hts gX5_isAble_X5_languageOf rfl rfl rfl (by decide +kernel) ⟨Nat.le_of_ble_eq_true rfl, Nat.le_of_ble_eq_true rfl⟩) (va_recv hK hP (q0 := q) rfl (tw_obj hq (by decide))) hK hN hP hS hz rfl hl.1 (Nat.le_of_ble_eq_true rfl) dX5_isAble_47 ⟨Nat.le_of_ble_eq_true rfl, Nat.le_of_ble_eq_true rfl⟩ rfl (fun H locs hP hS => ?_)
      refine t_cVi (As := [.int r9]) (rest := []) (μ' := μ) (r := (X2_speaks (RF (RF q 4) (rI μ (RF (RF q 3) a1.toNatClampNeg) 7).toNatClampNeg) r9 μ)) ⟨hx, hb, hml, hown, hts⟩ (mX2_speaks l D cA base H.size μ (ka103 (kr5_4 hq) hg5) r9 rfl) (cwV 1 hts gX5_isAble_X2_speaks rfl rfl rfl (by decide +kernel) ⟨Nat.le_of_ble_eq_true rfl, Nat.le_of_ble_eq_true rfl⟩) (va_recv hK hP (q0 := RF (RF q 4) (rI μ (RF (RF q 3) a1.toNatClampNeg) 7).toNatClampNeg) rfl (tw_obj (ka103 (kr5_4 hq) hg5) (by decide))) hK hN hP hS hz rfl hl.1 (Nat.le_of_ble_eq_true rfl) dX5_isAble_50 ⟨Nat.le_of_ble_eq_true rfl, Nat.le_of_ble_eq_true rfl⟩ rfl (fun H locs hP hS => ?_)
      refine lv_if_eq (tgt := 60) hx hb dX5_isAble_53 (by decide) (fun c13 => ?_) (fun c13 => ?_)
      · rw [if_pos c13] at hm
        refine lv_iconst (v := (0 : Int32)) hx hb dX5_isAble_60 (by decide) ?_
        cases hm
        exact W.zret hx hb hr rfl (fun t ht hW => ⟨⟨_, (), rfl, rfl, tPost_of hP ht⟩, hS.F ht⟩) hS.2.2 dX5_isAble_61
      · rw [if_neg c13] at hm
        refine lv_iconst (v := (1 : Int32)) hx hb dX5_isAble_56 (by decide) ?_
        refine lv_goto (tgt := 61) hx hb dX5_isAble_57 (by decide) ?_
        cases hm
        exact W.zret hx hb hr rfl (fun t ht hW => ⟨⟨_, (), rfl, rfl, tPost_of hP ht⟩, hS.F ht⟩) hS.2.2 dX5_isAble_61
  · rw [if_pos c4] at hm
    refine lv_iconst (v := (0 : Int32)) hx hb dX5_isAble_18 (by decide) ?_
    cases hm
    exact W.zret hx hb hr rfl (fun t ht hW => ⟨⟨_, (), rfl, rfl, tPost_of hP ht⟩, hS.F ht⟩) hS.2.2 dX5_isAble_19
abbrev rmX5_enrol : Room := { frames := 0, cells := 0, slots := 0, locals := 0 }
set_option maxHeartbeats 4000000 in
set_option maxRecDepth 100000 in
theorem mX5_enrol (l : Launch) (D : va_G) (cA : Nat → ClassId) (base sz : Nat) (μ : MM) {q : Nat} (hq : kc q = 5) (a1 : Int32) (a2 : Int32) {r : Int32} {μ' : MM} (hm : X5_enrol q a1 a2 μ = some (r, μ')) : Met l yX5_enrol wsX5_enrol rmX5_enrol (va_Pc [.ref (base + q), .int a1, .int a2] (tPre D cA base sz μ)) (va_Qi (fun (x : Int32) (_ : Unit) => x = r) (fun _ => tPost D cA base μ') (tA base sz)) 0 0 (tA base sz) := by
  refine Met.ofW (cc := cX5_enrol) (maxL := 3) (ret := (some .int)) (by decide +kernel) rfl ?_
  intro p e s m args below meth c s₁ B hml hv
  obtain ⟨rfl, hsz, hP, hK, hN⟩ := hv
  have hx := B.exec
  have hb := B.bytes
  have hr := B.returns
  have hts := atoms_spec (ws := wsX5_enrol) B.pre
  have hown : s.vm.findClass RX5 = some m.cls := findClass_of_methodNamed B.named
  have hlocks := B.notSynchronized
  have hin2 : ∀ w ∈ wsX20, w ∈ wsX5_enrol := by decide +kernel
  have hin5 : ∀ w ∈ wsX50, w ∈ wsX5_enrol := by decide +kernel
  subst hsz
  have hS : va_S (tA base s.heap.size) s.heap s.heap [] := va_S.rf
  have hz : s.heap.size ≤ s.heap.size := Nat.le_refl _
  have hl := lv_entry ([.ref (base + q), .int a1, .int a2]) (n := 3) (Nat.le_of_ble_eq_true rfl)
  rw [lg_entry_eq]
  generalize (lg_sl ([.ref (base + q), .int a1, .int a2]) ++ List.replicate (3 - (lg_sl ([.ref (base + q), .int a1, .int a2])).length) Slot.unset).toArray = ls at hl ⊢
  have hl : lv_has ls 3 [(0, .ref (base + q)), (1, .int a1), (2, .int a2)] := hl
  unfold X5_enrol at hm
  refine lv_aload_n hx hb dX5_enrol_0 rfl (lv_at hl 0 rfl) ?_
  refine t_geti (C := RX5) (T := TX5) (N := 9) hx hb hts hin5 hown hK hP hq rfl rfl 7 (by decide) (fk5_7 hq) (hts _ (List.mem_of_getElem? (i := 1) rfl)) dX5_enrol_1 ?_
  refine lv_bipush (v := (8 : Int32)) hx hb dX5_enrol_4 (by decide) ?_
  refine lv_icmp_lt (tgt := 11) hx hb dX5_enrol_6 (by decide) (fun c1 => ?_) (fun c1 => ?_)
  · rw [if_pos c1] at hm
    refine lv_aload_n hx hb dX5_enrol_11 rfl (lv_at hl 0 rfl) ?_
    refine t_getr (C := RX5) (T := TX5) (N := 9) hx hb hts hin5 hown hK hP hq rfl rfl 4 (by decide) (fr5_4 hq) (hts _ (List.mem_of_getElem? (i := 2) rfl)) dX5_enrol_12 ?_
    refine lv_aload_n hx hb dX5_enrol_15 rfl (lv_at hl 0 rfl) ?_
    refine t_geti (C := RX5) (T := TX5) (N := 9) hx hb hts hin5 hown hK hP hq rfl rfl 7 (by decide) (fk5_7 hq) (hts _ (List.mem_of_getElem? (i := 1) rfl)) dX5_enrol_16 ?_
    obtain ⟨hg2, hm⟩ := gd_inv hm
    refine t_aald3 hx hb hK hP (kr5_4 hq) hg2 dX5_enrol_19 ?_
    refine lv_iload_n hx hb dX5_enrol_20 rfl (lv_at hl 1 rfl) ?_
    refine t_put (C := RX2) (T := TX2) (N := 7) hx hb hts hin2 tyX2 tyX2_ok nmX2 hown hK hP (tD _ _ _ _) hS (ka103 (kr5_4 hq) hg2) rfl rfl 0 (by decide) (fk2_0 (ka103 (kr5_4 hq) hg2)) (hts _ (List.mem_of_getElem? (i := 3) rfl)) rfl (by decide +kernel) dX5_enrol_21 (fun H locs hP hS => ?_)
    obtain ⟨μ3, eμ3⟩ : ∃ z : MM, z = wI μ (RF (RF q 4) (rI μ q 7).toNatClampNeg) 0 a1 := ⟨_, rfl⟩
    rw [← eμ3] at hP
    replace hm := bV_of hm eμ3
    refine lv_aload_n hx hb dX5_enrol_24 rfl (lv_at hl 0 rfl) ?_
    refine t_getr (C := RX5) (T := TX5) (N := 9) hx hb hts hin5 hown hK hP hq rfl rfl 4 (by decide) (fr5_4 hq) (hts _ (List.mem_of_getElem? (i := 2) rfl)) dX5_enrol_25 ?_
    refine lv_aload_n hx hb dX5_enrol_28 rfl (lv_at hl 0 rfl) ?_
    refine t_geti (C := RX5) (T := TX5) (N := 9) hx hb hts hin5 hown hK hP hq rfl rfl 7 (by decide) (fk5_7 hq) (hts _ (List.mem_of_getElem? (i := 1) rfl)) dX5_enrol_29 ?_
    obtain ⟨hg4, hm⟩ := gd_inv hm
    refine t_aald3 hx hb hK hP (kr5_4 hq) hg4 dX5_enrol_32 ?_
    refine lv_iload_n hx hb dX5_enrol_33 rfl (lv_at hl 2 rfl) ?_
    refine t_put (C := RX2) (T := TX2) (N := 7) hx hb hts hin2 tyX2 tyX2_ok nmX2 hown hK hP (tD _ _ _ _) hS (ka103 (kr5_4 hq) hg4) rfl rfl 1 (by decide) (fk2_1 (ka103 (kr5_4 hq) hg4)) (hts _ (List.mem_of_getElem? (i := 4) rfl)) rfl (by decide +kernel) dX5_enrol_34 (fun H locs hP hS => ?_)
    obtain ⟨μ5, eμ5⟩ : ∃ z : MM, z = wI μ3 (RF (RF q 4) (rI μ3 q 7).toNatClampNeg) 1 a2 := ⟨_, rfl⟩
    rw [← eμ5] at hP
    replace hm := bV_of hm eμ5
    refine lv_aload_n hx hb dX5_enrol_37 rfl (lv_at hl 0 rfl) ?_
    refine lv_dup hx hb dX5_enrol_38 rfl ?_
    refine t_geti (C := RX5) (T := TX5) (N := 9) hx hb hts hin5 hown hK hP hq rfl rfl 7 (by decide) (fk5_7 hq) (hts _ (List.mem_of_getElem? (i := 1) rfl)) dX5_enrol_39 ?_
    refine lv_iconst (v := (1 : Int32)) hx hb dX5_enrol_42 (by decide) ?_
    refine lv_iadd hx hb dX5_enrol_43 ?_
    refine t_put (C := RX5) (T := TX5) (N := 9) hx hb hts hin5 tyX5 tyX5_ok nmX5 hown hK hP (tD _ _ _ _) hS hq rfl rfl 7 (by decide) (fk5_7 hq) (hts _ (List.mem_of_getElem? (i := 1) rfl)) rfl (by decide +kernel) dX5_enrol_44 (fun H locs hP hS => ?_)
    obtain ⟨μ6, eμ6⟩ : ∃ z : MM, z = wI μ5 q 7 ((rI μ5 q 7) + (1 : Int32)) := ⟨_, rfl⟩
    rw [← eμ6] at hP
    replace hm := bV_of hm eμ6
    refine lv_aload_n hx hb dX5_enrol_47 rfl (lv_at hl 0 rfl) ?_
    refine t_geti (C := RX5) (T := TX5) (N := 9) hx hb hts hin5 hown hK hP hq rfl rfl 7 (by decide) (fk5_7 hq) (hts _ (List.mem_of_getElem? (i := 1) rfl)) dX5_enrol_48 ?_
    refine lv_iconst (v := (1 : Int32)) hx hb dX5_enrol_51 (by decide) ?_
    refine lv_isub hx hb dX5_enrol_52 ?_
    cases hm
    exact W.iret hx hb hr (fun t ht hW => ⟨⟨_, (), rfl, rfl, tPost_of hP ht⟩, hS.F ht⟩) hS.2.2 dX5_enrol_53
  · rw [if_neg c1] at hm
    refine lv_iconst (v := (-1 : Int32)) hx hb dX5_enrol_9 (by decide) ?_
    cases hm
    exact W.iret hx hb hr (fun t ht hW => ⟨⟨_, (), rfl, rfl, tPost_of hP ht⟩, hS.F ht⟩) hS.2.2 dX5_enrol_10
abbrev rmX5_build : Room := { frames := 0, cells := 0, slots := 0, locals := 0 }
set_option maxHeartbeats 4000000 in
set_option maxRecDepth 100000 in
theorem mX5_build (l : Launch) (D : va_G) (cA : Nat → ClassId) (base sz : Nat) (μ : MM) {q : Nat} (hq : kc q = 5) (a1 : Int32) (a2 : Int32) (a3 : Int32) {r : Int32} {μ' : MM} (hm : X5_build q a1 a2 a3 μ = some (r, μ')) : Met l yX5_build wsX5_build rmX5_build (va_Pc [.ref (base + q), .int a1, .int a2, .int a3] (tPre D cA base sz μ)) (va_Qi (fun (x : Int32) (_ : Unit) => x = r) (fun _ => tPost D cA base μ') (tA base sz)) 0 0 (tA base sz) := by
  refine Met.ofW (cc := cX5_build) (maxL := 4) (ret := (some .int)) (by decide +kernel) rfl ?_
  intro p e s m args below meth c s₁ B hml hv
  obtain ⟨rfl, hsz, hP, hK, hN⟩ := hv
  have hx := B.exec
  have hb := B.bytes
  have hr := B.returns
  have hts := atoms_spec (ws := wsX5_build) B.pre
  have hown : s.vm.findClass RX5 = some m.cls := findClass_of_methodNamed B.named
  have hlocks := B.notSynchronized
  have hin0 : ∀ w ∈ wsX00, w ∈ wsX5_build := by decide +kernel
  have hin5 : ∀ w ∈ wsX50, w ∈ wsX5_build := by decide +kernel
  subst hsz
  have hS : va_S (tA base s.heap.size) s.heap s.heap [] := va_S.rf
  have hz : s.heap.size ≤ s.heap.size := Nat.le_refl _
  have hl := lv_entry ([.ref (base + q), .int a1, .int a2, .int a3]) (n := 4) (Nat.le_of_ble_eq_true rfl)
  rw [lg_entry_eq]
  generalize (lg_sl ([.ref (base + q), .int a1, .int a2, .int a3]) ++ List.replicate (4 - (lg_sl ([.ref (base + q), .int a1, .int a2, .int a3])).length) Slot.unset).toArray = ls at hl ⊢
  have hl : lv_has ls 4 [(0, .ref (base + q)), (1, .int a1), (2, .int a2), (3, .int a3)] := hl
  unfold X5_build at hm
  refine lv_aload_n hx hb dX5_build_0 rfl (lv_at hl 0 rfl) ?_
  refine t_geti (C := RX5) (T := TX5) (N := 9) hx hb hts hin5 hown hK hP hq rfl rfl 6 (by decide) (fk5_6 hq) (hts _ (List.mem_of_getElem? (i := 1) rfl)) dX5_build_1 ?_
  refine lv_bipush (v := (6 : Int32)) hx hb dX5_build_4 (by decide) ?_
  refine lv_icmp_lt (tgt := 11) hx hb dX5_build_6 (by decide) (fun c1 => ?_) (fun c1 => ?_)
  · rw [if_pos c1] at hm
    refine lv_aload_n hx hb dX5_build_11 rfl (lv_at hl 0 rfl) ?_
    refine t_getr (C := RX5) (T := TX5) (N := 9) hx hb hts hin5 hown hK hP hq rfl rfl 3 (by decide) (fr5_3 hq) (hts _ (List.mem_of_getElem? (i := 2) rfl)) dX5_build_12 ?_
    refine lv_aload_n hx hb dX5_build_15 rfl (lv_at hl 0 rfl) ?_
    refine t_geti (C := RX5) (T := TX5) (N := 9) hx hb hts hin5 hown hK hP hq rfl rfl 6 (by decide) (fk5_6 hq) (hts _ (List.mem_of_getElem? (i := 1) rfl)) dX5_build_16 ?_
    obtain ⟨hg2, hm⟩ := gd_inv hm
    refine t_aald2 hx hb hK hP (kr5_3 hq) hg2 dX5_build_19 ?_
    refine lv_iload_n hx hb dX5_build_20 rfl (lv_at hl 1 rfl) ?_
    refine t_put (C := RX0) (T := TX0) (N := 10) hx hb hts hin0 tyX0 tyX0_ok nmX0 hown hK hP (tD _ _ _ _) hS (ka102 (kr5_3 hq) hg2) rfl rfl 3 (by decide) (fk0_3 (ka102 (kr5_3 hq) hg2)) (hts _ (List.mem_of_getElem? (i := 3) rfl)) rfl (by decide +kernel) dX5_build_21 (fun H locs hP hS => ?_)
    obtain ⟨μ3, eμ3⟩ : ∃ z : MM, z = wI μ (RF (RF q 3) (rI μ q 6).toNatClampNeg) 3 a1 := ⟨_, rfl⟩
    rw [← eμ3] at hP
    replace hm := bV_of hm eμ3
    refine lv_aload_n hx hb dX5_build_24 rfl (lv_at hl 0 rfl) ?_
    refine t_getr (C := RX5) (T := TX5) (N := 9) hx hb hts hin5 hown hK hP hq rfl rfl 3 (by decide) (fr5_3 hq) (hts _ (List.mem_of_getElem? (i := 2) rfl)) dX5_build_25 ?_
    refine lv_aload_n hx hb dX5_build_28 rfl (lv_at hl 0 rfl) ?_
    refine t_geti (C := RX5) (T := TX5) (N := 9) hx hb hts hin5 hown hK hP hq rfl rfl 6 (by decide) (fk5_6 hq) (hts _ (List.mem_of_getElem? (i := 1) rfl)) dX5_build_29 ?_
    obtain ⟨hg4, hm⟩ := gd_inv hm
    refine t_aald2 hx hb hK hP (kr5_3 hq) hg4 dX5_build_32 ?_
    refine lv_iload_n hx hb dX5_build_33 rfl (lv_at hl 2 rfl) ?_
    refine t_put (C := RX0) (T := TX0) (N := 10) hx hb hts hin0 tyX0 tyX0_ok nmX0 hown hK hP (tD _ _ _ _) hS (ka102 (kr5_3 hq) hg4) rfl rfl 4 (by decide) (fk0_4 (ka102 (kr5_3 hq) hg4)) (hts _ (List.mem_of_getElem? (i := 4) rfl)) rfl (by decide +kernel) dX5_build_34 (fun H locs hP hS => ?_)
    obtain ⟨μ5, eμ5⟩ : ∃ z : MM, z = wI μ3 (RF (RF q 3) (rI μ3 q 6).toNatClampNeg) 4 a2 := ⟨_, rfl⟩
    rw [← eμ5] at hP
    replace hm := bV_of hm eμ5
    refine lv_aload_n hx hb dX5_build_37 rfl (lv_at hl 0 rfl) ?_
    refine t_getr (C := RX5) (T := TX5) (N := 9) hx hb hts hin5 hown hK hP hq rfl rfl 3 (by decide) (fr5_3 hq) (hts _ (List.mem_of_getElem? (i := 2) rfl)) dX5_build_38 ?_
    refine lv_aload_n hx hb dX5_build_41 rfl (lv_at hl 0 rfl) ?_
    refine t_geti (C := RX5) (T := TX5) (N := 9) hx hb hts hin5 hown hK hP hq rfl rfl 6 (by decide) (fk5_6 hq) (hts _ (List.mem_of_getElem? (i := 1) rfl)) dX5_build_42 ?_
    obtain ⟨hg6, hm⟩ := gd_inv hm
    refine t_aald2 hx hb hK hP (kr5_3 hq) hg6 dX5_build_45 ?_
    refine lv_iload_n hx hb dX5_build_46 rfl (lv_at hl 3 rfl) ?_
    refine t_put (C := RX0) (T := TX0) (N := 10) hx hb hts hin0 tyX0 tyX0_ok nmX0 hown hK hP (tD _ _ _ _) hS (ka102 (kr5_3 hq) hg6) rfl rfl 5 (by decide) (fk0_5 (ka102 (kr5_3 hq) hg6)) (hts _ (List.mem_of_getElem? (i := 5) rfl)) rfl (by decide +kernel) dX5_build_47 (fun H locs hP hS => ?_)
    obtain ⟨μ7, eμ7⟩ : ∃ z : MM, z = wI μ5 (RF (RF q 3) (rI μ5 q 6).toNatClampNeg) 5 a3 := ⟨_, rfl⟩
    rw [← eμ7] at hP
    replace hm := bV_of hm eμ7
    refine lv_aload_n hx hb dX5_build_50 rfl (lv_at hl 0 rfl) ?_
    refine lv_dup hx hb dX5_build_51 rfl ?_
    refine t_geti (C := RX5) (T := TX5) (N := 9) hx hb hts hin5 hown hK hP hq rfl rfl 6 (by decide) (fk5_6 hq) (hts _ (List.mem_of_getElem? (i := 1) rfl)) dX5_build_52 ?_
    refine lv_iconst (v := (1 : Int32)) hx hb dX5_build_55 (by decide) ?_
    refine lv_iadd hx hb dX5_build_56 ?_
    refine t_put (C := RX5) (T := TX5) (N := 9) hx hb hts hin5 tyX5 tyX5_ok nmX5 hown hK hP (tD _ _ _ _) hS hq rfl rfl 6 (by decide) (fk5_6 hq) (hts _ (List.mem_of_getElem? (i := 1) rfl)) rfl (by decide +kernel) dX5_build_57 (fun H locs hP hS => ?_)
    obtain ⟨μ8, eμ8⟩ : ∃ z : MM, z = wI μ7 q 6 ((rI μ7 q 6) + (1 : Int32)) := ⟨_, rfl⟩
    rw [← eμ8] at hP
    replace hm := bV_of hm eμ8
    refine lv_aload_n hx hb dX5_build_60 rfl (lv_at hl 0 rfl) ?_
    refine t_geti (C := RX5) (T := TX5) (N := 9) hx hb hts hin5 hown hK hP hq rfl rfl 6 (by decide) (fk5_6 hq) (hts _ (List.mem_of_getElem? (i := 1) rfl)) dX5_build_61 ?_
    refine lv_iconst (v := (1 : Int32)) hx hb dX5_build_64 (by decide) ?_
    refine lv_isub hx hb dX5_build_65 ?_
    cases hm
    exact W.iret hx hb hr (fun t ht hW => ⟨⟨_, (), rfl, rfl, tPost_of hP ht⟩, hS.F ht⟩) hS.2.2 dX5_build_66
  · rw [if_neg c1] at hm
    refine lv_iconst (v := (-1 : Int32)) hx hb dX5_build_9 (by decide) ?_
    cases hm
    exact W.iret hx hb hr (fun t ht hW => ⟨⟨_, (), rfl, rfl, tPost_of hP ht⟩, hS.F ht⟩) hS.2.2 dX5_build_10
abbrev rmX5_seat : Room := { frames := 1, cells := 0, slots := 0, locals := 21 }
set_option maxHeartbeats 4000000 in
set_option maxRecDepth 100000 in
theorem mX5_seat (l : Launch) (D : va_G) (cA : Nat → ClassId) (base sz : Nat) (μ : MM) {q : Nat} (hq : kc q = 5) (a1 : Int32) (a2 : Int32) {r : Int32} {μ' : MM} (hm : X5_seat q a1 a2 μ = some (r, μ')) : Met l yX5_seat wsX5_seat rmX5_seat (va_Pc [.ref (base + q), .int a1, .int a2] (tPre D cA base sz μ)) (va_Qi (fun (x : Int32) (_ : Unit) => x = r) (fun _ => tPost D cA base μ') (tA base sz)) 0 0 (tA base sz) := by
  refine Met.ofW (cc := cX5_seat) (maxL := 5) (ret := (some .int)) (by decide +kernel) rfl ?_
  intro p e s m args below meth c s₁ B hml hv
  obtain ⟨rfl, hsz, hP, hK, hN⟩ := hv
  have hx := B.exec
  have hb := B.bytes
  have hr := B.returns
  have hts := atoms_spec (ws := wsX5_seat) B.pre
  have hown : s.vm.findClass RX5 = some m.cls := findClass_of_methodNamed B.named
  have hlocks := B.notSynchronized
  have hin0 : ∀ w ∈ wsX00, w ∈ wsX5_seat := by decide +kernel
  have hin2 : ∀ w ∈ wsX20, w ∈ wsX5_seat := by decide +kernel
  have hin5 : ∀ w ∈ wsX50, w ∈ wsX5_seat := by decide +kernel
  subst hsz
  have hS : va_S (tA base s.heap.size) s.heap s.heap [] := va_S.rf
  have hz : s.heap.size ≤ s.heap.size := Nat.le_refl _
  have hl := lv_entry ([.ref (base + q), .int a1, .int a2]) (n := 5) (Nat.le_of_ble_eq_true rfl)
  rw [lg_entry_eq]
  generalize (lg_sl ([.ref (base + q), .int a1, .int a2]) ++ List.replicate (5 - (lg_sl ([.ref (base + q), .int a1, .int a2])).length) Slot.unset).toArray = ls at hl ⊢
  have hl : lv_has ls 5 [(0, .ref (base + q)), (1, .int a1), (2, .int a2)] := hl
  unfold X5_seat at hm
  refine lv_aload_n hx hb dX5_seat_0 rfl (lv_at hl 0 rfl) ?_
  refine t_getr (C := RX5) (T := TX5) (N := 9) hx hb hts hin5 hown hK hP hq rfl rfl 3 (by decide) (fr5_3 hq) (hts _ (List.mem_of_getElem? (i := 1) rfl)) dX5_seat_1 ?_
  refine lv_iload_n hx hb dX5_seat_4 rfl (lv_at hl 1 rfl) ?_
  obtain ⟨hg1, hm⟩ := gd_inv hm
  refine t_aald2 hx hb hK hP (kr5_3 hq) hg1 dX5_seat_5 ?_
  refine t_geti (C := RX0) (T := TX0) (N := 10) hx hb hts hin0 hown hK hP (ka102 (kr5_3 hq) hg1) rfl rfl 7 (by decide) (fk0_7 (ka102 (kr5_3 hq) hg1)) (hts _ (List.mem_of_getElem? (i := 2) rfl)) dX5_seat_6 ?_
  refine lv_topi (fun x2 ex2 => ?_)
  replace hm := bV_of hm ex2
  refine lv_istore_n (lv' := [(3, .int x2), (0, .ref (base + q)), (1, .int a1), (2, .int a2)]) hx hb dX5_seat_9 rfl hl (by decide) rfl (fun ls hl => ?_)
  refine lv_iload_n hx hb dX5_seat_10 rfl (lv_at hl 0 rfl) ?_
  refine lv_iload_n hx hb dX5_seat_11 rfl (lv_at hl 3 rfl) ?_
  refine lv_icmp_ne (tgt := 17) hx hb dX5_seat_12 (by decide) (fun c3 => ?_) (fun c3 => ?_)
  · rw [if_neg c3] at hm
    refine lv_aload_n hx hb dX5_seat_17 rfl (lv_at hl 1 rfl) ?_
    refine lv_iload_n hx hb dX5_seat_18 rfl (lv_at hl 0 rfl) ?_
    refine t_cVi (As := [.int x2]) (rest := []) (μ' := μ) (r := (X5_hasInterpreter q x2 μ)) ⟨hx, hb, hml, hown, hts⟩ (mX5_hasInterpreter l D cA base s.heap.size μ hq x2 rfl) (cwV 1 hts gX5_seat_X5_hasInterpreter rfl rfl rfl (by decide +kernel) ⟨Nat.le_of_ble_eq_true rfl, Nat.le_of_ble_eq_true rfl⟩) (va_recv hK hP (q0 := q) rfl (tw_obj hq (by decide))) hK hN hP hS hz rfl hl.1 (Nat.le_of_ble_eq_true rfl) dX5_seat_19 ⟨Nat.le_of_ble_eq_true rfl, Nat.le_of_ble_eq_true rfl⟩ rfl (fun H locs hP hS => ?_)
    refine lv_if_eq (tgt := 35) hx hb dX5_seat_22 (by decide) (fun c6 => ?_) (fun c6 => ?_)
    · rw [if_pos c6] at hm
      refine lv_aload_n hx hb dX5_seat_35 rfl (lv_at hl 1 rfl) ?_
      refine lv_iload_n hx hb dX5_seat_36 rfl (lv_at hl 3 rfl) ?_
      refine t_cVi (As := [.int a2]) (rest := []) (μ' := μ) (r := (X5_hasInterpreter q a2 μ)) ⟨hx, hb, hml, hown, hts⟩ (mX5_hasInterpreter l D cA base H.size μ hq a2 rfl) (cwV 1 hts gX5_seat_X5_hasInterpreter rfl rfl rfl (by decide +kernel) ⟨Nat.le_of_ble_eq_true rfl, Nat.le_of_ble_eq_true rfl⟩) (va_recv hK hP (q0 := q) rfl (tw_obj hq (by decide))) hK hN hP hS hz rfl hl.1 (Nat.le_of_ble_eq_true rfl) dX5_seat_37 ⟨Nat.le_of_ble_eq_true rfl, Nat.le_of_ble_eq_true rfl⟩ rfl (fun H locs hP hS => ?_)
      refine lv_if_eq (tgt := 84) hx hb dX5_seat_40 (by decide) (fun c9 => ?_) (fun c9 => ?_)
      · rw [if_pos c9] at hm
        refine lv_aload_n hx hb dX5_seat_84 rfl (lv_at hl 1 rfl) ?_
        refine t_getr (C := RX5) (T := TX5) (N := 9) hx hb hts hin5 hown hK hP hq rfl rfl 3 (by decide) (fr5_3 hq) (hts _ (List.mem_of_getElem? (i := 1) rfl)) dX5_seat_85 ?_
        refine lv_iload_n hx hb dX5_seat_88 rfl (lv_at hl 2 rfl) ?_
        obtain ⟨hg10, hm⟩ := gd_inv hm
        refine t_aald2 hx hb hK hP (kr5_3 hq) hg10 dX5_seat_89 ?_
        refine lv_iload_n hx hb dX5_seat_90 rfl (lv_at hl 3 rfl) ?_
        refine t_put (C := RX0) (T := TX0) (N := 10) hx hb hts hin0 tyX0 tyX0_ok nmX0 hown hK hP (tD _ _ _ _) hS (ka102 (kr5_3 hq) hg10) rfl rfl 7 (by decide) (fk0_7 (ka102 (kr5_3 hq) hg10)) (hts _ (List.mem_of_getElem? (i := 2) rfl)) rfl (by decide +kernel) dX5_seat_91 (fun H locs hP hS => ?_)
        obtain ⟨μ11, eμ11⟩ : ∃ z : MM, z = wI μ (RF (RF q 3) a1.toNatClampNeg) 7 a2 := ⟨_, rfl⟩
        rw [← eμ11] at hP
        replace hm := bV_of hm eμ11
        refine lv_iload_n hx hb dX5_seat_94 rfl (lv_at hl 0 rfl) ?_
        cases hm
        exact W.iret hx hb hr (fun t ht hW => ⟨⟨_, (), rfl, rfl, tPost_of hP ht⟩, hS.F ht⟩) hS.2.2 dX5_seat_95
      · rw [if_neg c9] at hm
        refine lv_aload_n hx hb dX5_seat_43 rfl (lv_at hl 1 rfl) ?_
        refine t_getr (C := RX5) (T := TX5) (N := 9) hx hb hts hin5 hown hK hP hq rfl rfl 4 (by decide) (fr5_4 hq) (hts _ (List.mem_of_getElem? (i := 3) rfl)) dX5_seat_44 ?_
        refine lv_iload_n hx hb dX5_seat_47 rfl (lv_at hl 3 rfl) ?_
        obtain ⟨hg12, hm⟩ := gd_inv hm
        refine t_aald3 hx hb hK hP (kr5_4 hq) hg12 dX5_seat_48 ?_
        refine t_geti (C := RX2) (T := TX2) (N := 7) hx hb hts hin2 hown hK hP (ka103 (kr5_4 hq) hg12) rfl rfl 2 (by decide) (fk2_2 (ka103 (kr5_4 hq) hg12)) (hts _ (List.mem_of_getElem? (i := 4) rfl)) dX5_seat_49 ?_
        refine lv_topi (fun x13 ex13 => ?_)
        replace hm := bV_of hm ex13
        refine lv_istore (lv' := [(4, .int x13), (3, .int x2), (0, .ref (base + q)), (1, .int a1), (2, .int a2)]) hx hb dX5_seat_52 hl (by decide) rfl (fun ls hl => ?_)
        refine lv_aload_n hx hb dX5_seat_54 rfl (lv_at hl 2 rfl) ?_
        refine lv_iload hx hb dX5_seat_55 (lv_at hl 0 rfl) ?_
        refine t_cVi (As := [.int x13]) (rest := []) (μ' := μ) (r := (X5_hasBooth q x13 μ)) ⟨hx, hb, hml, hown, hts⟩ (mX5_hasBooth l D cA base H.size μ hq x13 rfl) (cwV 1 hts gX5_seat_X5_hasBooth rfl rfl rfl (by decide +kernel) ⟨Nat.le_of_ble_eq_true rfl, Nat.le_of_ble_eq_true rfl⟩) (va_recv hK hP (q0 := q) rfl (tw_obj hq (by decide))) hK hN hP hS hz rfl hl.1 (Nat.le_of_ble_eq_true rfl) dX5_seat_57 ⟨Nat.le_of_ble_eq_true rfl, Nat.le_of_ble_eq_true rfl⟩ rfl (fun H locs hP hS => ?_)
        refine lv_if_eq (tgt := 74) hx hb dX5_seat_60 (by decide) (fun c16 => ?_) (fun c16 => ?_)
        · rw [if_pos c16] at hm
          refine lv_aload_n hx hb dX5_seat_74 rfl (lv_at hl 2 rfl) ?_
          refine t_getr (C := RX5) (T := TX5) (N := 9) hx hb hts hin5 hown hK hP hq rfl rfl 4 (by decide) (fr5_4 hq) (hts _ (List.mem_of_getElem? (i := 3) rfl)) dX5_seat_75 ?_
          refine lv_iload_n hx hb dX5_seat_78 rfl (lv_at hl 4 rfl) ?_
          obtain ⟨hg17, hm⟩ := gd_inv hm
          refine t_aald3 hx hb hK hP (kr5_4 hq) hg17 dX5_seat_79 ?_
          refine lv_iload_n hx hb dX5_seat_80 rfl (lv_at hl 3 rfl) ?_
          refine t_put (C := RX2) (T := TX2) (N := 7) hx hb hts hin2 tyX2 tyX2_ok nmX2 hown hK hP (tD _ _ _ _) hS (ka103 (kr5_4 hq) hg17) rfl rfl 2 (by decide) (fk2_2 (ka103 (kr5_4 hq) hg17)) (hts _ (List.mem_of_getElem? (i := 4) rfl)) rfl (by decide +kernel) dX5_seat_81 (fun H locs hP hS => ?_)
          obtain ⟨μ18, eμ18⟩ : ∃ z : MM, z = wI μ (RF (RF q 4) a2.toNatClampNeg) 2 a1 := ⟨_, rfl⟩
          rw [← eμ18] at hP
          replace hm := bV_of hm eμ18
          refine lv_aload_n hx hb dX5_seat_84 rfl (lv_at hl 2 rfl) ?_
          refine t_getr (C := RX5) (T := TX5) (N := 9) hx hb hts hin5 hown hK hP hq rfl rfl 3 (by decide) (fr5_3 hq) (hts _ (List.mem_of_getElem? (i := 1) rfl)) dX5_seat_85 ?_
          refine lv_iload_n hx hb dX5_seat_88 rfl (lv_at hl 3 rfl) ?_
          obtain ⟨hg19, hm⟩ := gd_inv hm
          refine t_aald2 hx hb hK hP (kr5_3 hq) hg19 dX5_seat_89 ?_
          refine lv_iload_n hx hb dX5_seat_90 rfl (lv_at hl 4 rfl) ?_
          refine t_put (C := RX0) (T := TX0) (N := 10) hx hb hts hin0 tyX0 tyX0_ok nmX0 hown hK hP (tD _ _ _ _) hS (ka102 (kr5_3 hq) hg19) rfl rfl 7 (by decide) (fk0_7 (ka102 (kr5_3 hq) hg19)) (hts _ (List.mem_of_getElem? (i := 2) rfl)) rfl (by decide +kernel) dX5_seat_91 (fun H locs hP hS => ?_)
          obtain ⟨μ20, eμ20⟩ : ∃ z : MM, z = wI μ18 (RF (RF q 3) a1.toNatClampNeg) 7 a2 := ⟨_, rfl⟩
          rw [← eμ20] at hP
          replace hm := bV_of hm eμ20
          refine lv_iload_n hx hb dX5_seat_94 rfl (lv_at hl 1 rfl) ?_
          cases hm
          exact W.iret hx hb hr (fun t ht hW => ⟨⟨_, (), rfl, rfl, tPost_of hP ht⟩, hS.F ht⟩) hS.2.2 dX5_seat_95
        · rw [if_neg c16] at hm
          refine lv_aload_n hx hb dX5_seat_63 rfl (lv_at hl 2 rfl) ?_
          refine t_getr (C := RX5) (T := TX5) (N := 9) hx hb hts hin5 hown hK hP hq rfl rfl 3 (by decide) (fr5_3 hq) (hts _ (List.mem_of_getElem? (i := 1) rfl)) dX5_seat_64 ?_
          refine lv_iload hx hb dX5_seat_67 (lv_at hl 0 rfl) ?_
          obtain ⟨hg21, hm⟩ := gd_inv hm
          refine t_aald2 hx hb hK hP (kr5_3 hq) hg21 dX5_seat_69 ?_
          refine lv_iconst (v := (-1 : Int32)) hx hb dX5_seat_70 (by decide) ?_
          refine t_put (C := RX0) (T := TX0) (N := 10) hx hb hts hin0 tyX0 tyX0_ok nmX0 hown hK hP (tD _ _ _ _) hS (ka102 (kr5_3 hq) hg21) rfl rfl 7 (by decide) (fk0_7 (ka102 (kr5_3 hq) hg21)) (hts _ (List.mem_of_getElem? (i := 2) rfl)) rfl (by decide +kernel) dX5_seat_71 (fun H locs hP hS => ?_)
          obtain ⟨μ22, eμ22⟩ : ∃ z : MM, z = wI μ (RF (RF q 3) x13.toNatClampNeg) 7 (-1 : Int32) := ⟨_, rfl⟩
          rw [← eμ22] at hP
          replace hm := bV_of hm eμ22
          refine lv_aload_n hx hb dX5_seat_74 rfl (lv_at hl 2 rfl) ?_
          refine t_getr (C := RX5) (T := TX5) (N := 9) hx hb hts hin5 hown hK hP hq rfl rfl 4 (by decide) (fr5_4 hq) (hts _ (List.mem_of_getElem? (i := 3) rfl)) dX5_seat_75 ?_
          refine lv_iload_n hx hb dX5_seat_78 rfl (lv_at hl 4 rfl) ?_
          obtain ⟨hg23, hm⟩ := gd_inv hm
          refine t_aald3 hx hb hK hP (kr5_4 hq) hg23 dX5_seat_79 ?_
          refine lv_iload_n hx hb dX5_seat_80 rfl (lv_at hl 3 rfl) ?_
          refine t_put (C := RX2) (T := TX2) (N := 7) hx hb hts hin2 tyX2 tyX2_ok nmX2 hown hK hP (tD _ _ _ _) hS (ka103 (kr5_4 hq) hg23) rfl rfl 2 (by decide) (fk2_2 (ka103 (kr5_4 hq) hg23)) (hts _ (List.mem_of_getElem? (i := 4) rfl)) rfl (by decide +kernel) dX5_seat_81 (fun H locs hP hS => ?_)
          obtain ⟨μ24, eμ24⟩ : ∃ z : MM, z = wI μ22 (RF (RF q 4) a2.toNatClampNeg) 2 a1 := ⟨_, rfl⟩
          rw [← eμ24] at hP
          replace hm := bV_of hm eμ24
          refine lv_aload_n hx hb dX5_seat_84 rfl (lv_at hl 2 rfl) ?_
          refine t_getr (C := RX5) (T := TX5) (N := 9) hx hb hts hin5 hown hK hP hq rfl rfl 3 (by decide) (fr5_3 hq) (hts _ (List.mem_of_getElem? (i := 1) rfl)) dX5_seat_85 ?_
          refine lv_iload_n hx hb dX5_seat_88 rfl (lv_at hl 3 rfl) ?_
          obtain ⟨hg25, hm⟩ := gd_inv hm
          refine t_aald2 hx hb hK hP (kr5_3 hq) hg25 dX5_seat_89 ?_
          refine lv_iload_n hx hb dX5_seat_90 rfl (lv_at hl 4 rfl) ?_
          refine t_put (C := RX0) (T := TX0) (N := 10) hx hb hts hin0 tyX0 tyX0_ok nmX0 hown hK hP (tD _ _ _ _) hS (ka102 (kr5_3 hq) hg25) rfl rfl 7 (by decide) (fk0_7 (ka102 (kr5_3 hq) hg25)) (hts _ (List.mem_of_getElem? (i := 2) rfl)) rfl (by decide +kernel) dX5_seat_91 (fun H locs hP hS => ?_)
          obtain ⟨μ26, eμ26⟩ : ∃ z : MM, z = wI μ24 (RF (RF q 3) a1.toNatClampNeg) 7 a2 := ⟨_, rfl⟩
          rw [← eμ26] at hP
          replace hm := bV_of hm eμ26
          refine lv_iload_n hx hb dX5_seat_94 rfl (lv_at hl 1 rfl) ?_
          cases hm
          exact W.iret hx hb hr (fun t ht hW => ⟨⟨_, (), rfl, rfl, tPost_of hP ht⟩, hS.F ht⟩) hS.2.2 dX5_seat_95
    · rw [if_neg c6] at hm
      refine lv_aload_n hx hb dX5_seat_25 rfl (lv_at hl 1 rfl) ?_
      refine t_getr (C := RX5) (T := TX5) (N := 9) hx hb hts hin5 hown hK hP hq rfl rfl 4 (by decide) (fr5_4 hq) (hts _ (List.mem_of_getElem? (i := 3) rfl)) dX5_seat_26 ?_
      refine lv_iload_n hx hb dX5_seat_29 rfl (lv_at hl 0 rfl) ?_
      obtain ⟨hg27, hm⟩ := gd_inv hm
      refine t_aald3 hx hb hK hP (kr5_4 hq) hg27 dX5_seat_30 ?_
      refine lv_iconst (v := (-1 : Int32)) hx hb dX5_seat_31 (by decide) ?_
      refine t_put (C := RX2) (T := TX2) (N := 7) hx hb hts hin2 tyX2 tyX2_ok nmX2 hown hK hP (tD _ _ _ _) hS (ka103 (kr5_4 hq) hg27) rfl rfl 2 (by decide) (fk2_2 (ka103 (kr5_4 hq) hg27)) (hts _ (List.mem_of_getElem? (i := 4) rfl)) rfl (by decide +kernel) dX5_seat_32 (fun H locs hP hS => ?_)
      obtain ⟨μ28, eμ28⟩ : ∃ z : MM, z = wI μ (RF (RF q 4) x2.toNatClampNeg) 2 (-1 : Int32) := ⟨_, rfl⟩
      rw [← eμ28] at hP
      replace hm := bV_of hm eμ28
      refine lv_aload_n hx hb dX5_seat_35 rfl (lv_at hl 1 rfl) ?_
      refine lv_iload_n hx hb dX5_seat_36 rfl (lv_at hl 3 rfl) ?_
      refine t_cVi (As := [.int a2]) (rest := []) (μ' := μ28) (r := (X5_hasInterpreter q a2 μ28)) ⟨hx, hb, hml, hown, hts⟩ (mX5_hasInterpreter l D cA base H.size μ28 hq a2 rfl) (cwV 1 hts gX5_seat_X5_hasInterpreter rfl rfl rfl (by decide +kernel) ⟨Nat.le_of_ble_eq_true rfl, Nat.le_of_ble_eq_true rfl⟩) (va_recv hK hP (q0 := q) rfl (tw_obj hq (by decide))) hK hN hP hS hz rfl hl.1 (Nat.le_of_ble_eq_true rfl) dX5_seat_37 ⟨Nat.le_of_ble_eq_true rfl, Nat.le_of_ble_eq_true rfl⟩ rfl (fun H locs hP hS => ?_)
      refine lv_if_eq (tgt := 84) hx hb dX5_seat_40 (by decide) (fun c31 => ?_) (fun c31 => ?_)
      · rw [if_pos c31] at hm
        refine lv_aload_n hx hb dX5_seat_84 rfl (lv_at hl 1 rfl) ?_
        refine t_getr (C := RX5) (T := TX5) (N := 9) hx hb hts hin5 hown hK hP hq rfl rfl 3 (by decide) (fr5_3 hq) (hts _ (List.mem_of_getElem? (i := 1) rfl)) dX5_seat_85 ?_
        refine lv_iload_n hx hb dX5_seat_88 rfl (lv_at hl 2 rfl) ?_
        obtain ⟨hg32, hm⟩ := gd_inv hm
        refine t_aald2 hx hb hK hP (kr5_3 hq) hg32 dX5_seat_89 ?_
        refine lv_iload_n hx hb dX5_seat_90 rfl (lv_at hl 3 rfl) ?_
        refine t_put (C := RX0) (T := TX0) (N := 10) hx hb hts hin0 tyX0 tyX0_ok nmX0 hown hK hP (tD _ _ _ _) hS (ka102 (kr5_3 hq) hg32) rfl rfl 7 (by decide) (fk0_7 (ka102 (kr5_3 hq) hg32)) (hts _ (List.mem_of_getElem? (i := 2) rfl)) rfl (by decide +kernel) dX5_seat_91 (fun H locs hP hS => ?_)
        obtain ⟨μ33, eμ33⟩ : ∃ z : MM, z = wI μ28 (RF (RF q 3) a1.toNatClampNeg) 7 a2 := ⟨_, rfl⟩
        rw [← eμ33] at hP
        replace hm := bV_of hm eμ33
        refine lv_iload_n hx hb dX5_seat_94 rfl (lv_at hl 0 rfl) ?_
        cases hm
        exact W.iret hx hb hr (fun t ht hW => ⟨⟨_, (), rfl, rfl, tPost_of hP ht⟩, hS.F ht⟩) hS.2.2 dX5_seat_95
      · rw [if_neg c31] at hm
        refine lv_aload_n hx hb dX5_seat_43 rfl (lv_at hl 1 rfl) ?_
        refine t_getr (C := RX5) (T := TX5) (N := 9) hx hb hts hin5 hown hK hP hq rfl rfl 4 (by decide) (fr5_4 hq) (hts _ (List.mem_of_getElem? (i := 3) rfl)) dX5_seat_44 ?_
        refine lv_iload_n hx hb dX5_seat_47 rfl (lv_at hl 3 rfl) ?_
        obtain ⟨hg34, hm⟩ := gd_inv hm
        refine t_aald3 hx hb hK hP (kr5_4 hq) hg34 dX5_seat_48 ?_
        refine t_geti (C := RX2) (T := TX2) (N := 7) hx hb hts hin2 hown hK hP (ka103 (kr5_4 hq) hg34) rfl rfl 2 (by decide) (fk2_2 (ka103 (kr5_4 hq) hg34)) (hts _ (List.mem_of_getElem? (i := 4) rfl)) dX5_seat_49 ?_
        refine lv_topi (fun x35 ex35 => ?_)
        replace hm := bV_of hm ex35
        refine lv_istore (lv' := [(4, .int x35), (3, .int x2), (0, .ref (base + q)), (1, .int a1), (2, .int a2)]) hx hb dX5_seat_52 hl (by decide) rfl (fun ls hl => ?_)
        refine lv_aload_n hx hb dX5_seat_54 rfl (lv_at hl 2 rfl) ?_
        refine lv_iload hx hb dX5_seat_55 (lv_at hl 0 rfl) ?_
        refine t_cVi (As := [.int x35]) (rest := []) (μ' := μ28) (r := (X5_hasBooth q x35 μ28)) ⟨hx, hb, hml, hown, hts⟩ (mX5_hasBooth l D cA base H.size μ28 hq x35 rfl) (cwV 1 hts gX5_seat_X5_hasBooth rfl rfl rfl (by decide +kernel) ⟨Nat.le_of_ble_eq_true rfl, Nat.le_of_ble_eq_true rfl⟩) (va_recv hK hP (q0 := q) rfl (tw_obj hq (by decide))) hK hN hP hS hz rfl hl.1 (Nat.le_of_ble_eq_true rfl) dX5_seat_57 ⟨Nat.le_of_ble_eq_true rfl, Nat.le_of_ble_eq_true rfl⟩ rfl (fun H locs hP hS => ?_)
        refine lv_if_eq (tgt := 74) hx hb dX5_seat_60 (by decide) (fun c38 => ?_) (fun c38 => ?_)
        · rw [if_pos c38] at hm
          refine lv_aload_n hx hb dX5_seat_74 rfl (lv_at hl 2 rfl) ?_
          refine t_getr (C := RX5) (T := TX5) (N := 9) hx hb hts hin5 hown hK hP hq rfl rfl 4 (by decide) (fr5_4 hq) (hts _ (List.mem_of_getElem? (i := 3) rfl)) dX5_seat_75 ?_
          refine lv_iload_n hx hb dX5_seat_78 rfl (lv_at hl 4 rfl) ?_
          obtain ⟨hg39, hm⟩ := gd_inv hm
          refine t_aald3 hx hb hK hP (kr5_4 hq) hg39 dX5_seat_79 ?_
          refine lv_iload_n hx hb dX5_seat_80 rfl (lv_at hl 3 rfl) ?_
          refine t_put (C := RX2) (T := TX2) (N := 7) hx hb hts hin2 tyX2 tyX2_ok nmX2 hown hK hP (tD _ _ _ _) hS (ka103 (kr5_4 hq) hg39) rfl rfl 2 (by decide) (fk2_2 (ka103 (kr5_4 hq) hg39)) (hts _ (List.mem_of_getElem? (i := 4) rfl)) rfl (by decide +kernel) dX5_seat_81 (fun H locs hP hS => ?_)
          obtain ⟨μ40, eμ40⟩ : ∃ z : MM, z = wI μ28 (RF (RF q 4) a2.toNatClampNeg) 2 a1 := ⟨_, rfl⟩
          rw [← eμ40] at hP
          replace hm := bV_of hm eμ40
          refine lv_aload_n hx hb dX5_seat_84 rfl (lv_at hl 2 rfl) ?_
          refine t_getr (C := RX5) (T := TX5) (N := 9) hx hb hts hin5 hown hK hP hq rfl rfl 3 (by decide) (fr5_3 hq) (hts _ (List.mem_of_getElem? (i := 1) rfl)) dX5_seat_85 ?_
          refine lv_iload_n hx hb dX5_seat_88 rfl (lv_at hl 3 rfl) ?_
          obtain ⟨hg41, hm⟩ := gd_inv hm
          refine t_aald2 hx hb hK hP (kr5_3 hq) hg41 dX5_seat_89 ?_
          refine lv_iload_n hx hb dX5_seat_90 rfl (lv_at hl 4 rfl) ?_
          refine t_put (C := RX0) (T := TX0) (N := 10) hx hb hts hin0 tyX0 tyX0_ok nmX0 hown hK hP (tD _ _ _ _) hS (ka102 (kr5_3 hq) hg41) rfl rfl 7 (by decide) (fk0_7 (ka102 (kr5_3 hq) hg41)) (hts _ (List.mem_of_getElem? (i := 2) rfl)) rfl (by decide +kernel) dX5_seat_91 (fun H locs hP hS => ?_)
          obtain ⟨μ42, eμ42⟩ : ∃ z : MM, z = wI μ40 (RF (RF q 3) a1.toNatClampNeg) 7 a2 := ⟨_, rfl⟩
          rw [← eμ42] at hP
          replace hm := bV_of hm eμ42
          refine lv_iload_n hx hb dX5_seat_94 rfl (lv_at hl 1 rfl) ?_
          cases hm
          exact W.iret hx hb hr (fun t ht hW => ⟨⟨_, (), rfl, rfl, tPost_of hP ht⟩, hS.F ht⟩) hS.2.2 dX5_seat_95
        · rw [if_neg c38] at hm
          refine lv_aload_n hx hb dX5_seat_63 rfl (lv_at hl 2 rfl) ?_
          refine t_getr (C := RX5) (T := TX5) (N := 9) hx hb hts hin5 hown hK hP hq rfl rfl 3 (by decide) (fr5_3 hq) (hts _ (List.mem_of_getElem? (i := 1) rfl)) dX5_seat_64 ?_
          refine lv_iload hx hb dX5_seat_67 (lv_at hl 0 rfl) ?_
          obtain ⟨hg43, hm⟩ := gd_inv hm
          refine t_aald2 hx hb hK hP (kr5_3 hq) hg43 dX5_seat_69 ?_
          refine lv_iconst (v := (-1 : Int32)) hx hb dX5_seat_70 (by decide) ?_
          refine t_put (C := RX0) (T := TX0) (N := 10) hx hb hts hin0 tyX0 tyX0_ok nmX0 hown hK hP (tD _ _ _ _) hS (ka102 (kr5_3 hq) hg43) rfl rfl 7 (by decide) (fk0_7 (ka102 (kr5_3 hq) hg43)) (hts _ (List.mem_of_getElem? (i := 2) rfl)) rfl (by decide +kernel) dX5_seat_71 (fun H locs hP hS => ?_)
          obtain ⟨μ44, eμ44⟩ : ∃ z : MM, z = wI μ28 (RF (RF q 3) x35.toNatClampNeg) 7 (-1 : Int32) := ⟨_, rfl⟩
          rw [← eμ44] at hP
          replace hm := bV_of hm eμ44
          refine lv_aload_n hx hb dX5_seat_74 rfl (lv_at hl 2 rfl) ?_
          refine t_getr (C := RX5) (T := TX5) (N := 9) hx hb hts hin5 hown hK hP hq rfl rfl 4 (by decide) (fr5_4 hq) (hts _ (List.mem_of_getElem? (i := 3) rfl)) dX5_seat_75 ?_
          refine lv_iload_n hx hb dX5_seat_78 rfl (lv_at hl 4 rfl) ?_
          obtain ⟨hg45, hm⟩ := gd_inv hm
          refine t_aald3 hx hb hK hP (kr5_4 hq) hg45 dX5_seat_79 ?_
          refine lv_iload_n hx hb dX5_seat_80 rfl (lv_at hl 3 rfl) ?_
          refine t_put (C := RX2) (T := TX2) (N := 7) hx hb hts hin2 tyX2 tyX2_ok nmX2 hown hK hP (tD _ _ _ _) hS (ka103 (kr5_4 hq) hg45) rfl rfl 2 (by decide) (fk2_2 (ka103 (kr5_4 hq) hg45)) (hts _ (List.mem_of_getElem? (i := 4) rfl)) rfl (by decide +kernel) dX5_seat_81 (fun H locs hP hS => ?_)
          obtain ⟨μ46, eμ46⟩ : ∃ z : MM, z = wI μ44 (RF (RF q 4) a2.toNatClampNeg) 2 a1 := ⟨_, rfl⟩
          rw [← eμ46] at hP
          replace hm := bV_of hm eμ46
          refine lv_aload_n hx hb dX5_seat_84 rfl (lv_at hl 2 rfl) ?_
          refine t_getr (C := RX5) (T := TX5) (N := 9) hx hb hts hin5 hown hK hP hq rfl rfl 3 (by decide) (fr5_3 hq) (hts _ (List.mem_of_getElem? (i := 1) rfl)) dX5_seat_85 ?_
          refine lv_iload_n hx hb dX5_seat_88 rfl (lv_at hl 3 rfl) ?_
          obtain ⟨hg47, hm⟩ := gd_inv hm
          refine t_aald2 hx hb hK hP (kr5_3 hq) hg47 dX5_seat_89 ?_
          refine lv_iload_n hx hb dX5_seat_90 rfl (lv_at hl 4 rfl) ?_
          refine t_put (C := RX0) (T := TX0) (N := 10) hx hb hts hin0 tyX0 tyX0_ok nmX0 hown hK hP (tD _ _ _ _) hS (ka102 (kr5_3 hq) hg47) rfl rfl 7 (by decide) (fk0_7 (ka102 (kr5_3 hq) hg47)) (hts _ (List.mem_of_getElem? (i := 2) rfl)) rfl (by decide +kernel) dX5_seat_91 (fun H locs hP hS => ?_)
          obtain ⟨μ48, eμ48⟩ : ∃ z : MM, z = wI μ46 (RF (RF q 3) a1.toNatClampNeg) 7 a2 := ⟨_, rfl⟩
          rw [← eμ48] at hP
          replace hm := bV_of hm eμ48
          refine lv_iload_n hx hb dX5_seat_94 rfl (lv_at hl 1 rfl) ?_
          cases hm
          exact W.iret hx hb hr (fun t ht hW => ⟨⟨_, (), rfl, rfl, tPost_of hP ht⟩, hS.F ht⟩) hS.2.2 dX5_seat_95
  · rw [if_pos c3] at hm
    refine lv_iload_n hx hb dX5_seat_15 rfl (lv_at hl 0 rfl) ?_
    cases hm
    exact W.iret hx hb hr (fun t ht hW => ⟨⟨_, (), rfl, rfl, tPost_of hP ht⟩, hS.F ht⟩) hS.2.2 dX5_seat_16
abbrev rmX5_chainLength : Room := { frames := 1, cells := 0, slots := 0, locals := 21 }
set_option maxHeartbeats 4000000 in
set_option maxRecDepth 100000 in
theorem lX5_chainLength_L4 {p : Program} {l : Launch} {e : Env} {s : State} {m : MethodId} {args : Array Value} {below : List Frame} {meth : Method} {c : Code} {Q : State → Prop} {D : va_G} {cA : Nat → ClassId} {base sz0 : Nat} {H0 : Heap} (FX : CallFix p m c cX5_chainLength 4 s args wsX5_chainLength RX5) (hK : va_K D vwCl (tys cA) s) (hN : tN s) (hz : sz0 ≤ H0.size) {o0 : Nat} (ho0 : kc o0 = 5) (μ : MM) {cells slots : Nat} (hcs : cells ≤ 0 ∧ slots ≤ 0) :
    ∀ (n : Nat) (v2 : Int32) (v3 : Int32) (H : Heap) (locs : List Loc) (ls : Array Slot) (w2 : Int32), X5_chainLength_L4 o0 μ n v2 v3 = some w2 → va_P D vwCl (tw base cA μ []) H → va_S (tA base sz0) H0 H locs → lv_has ls 4 [(0, .ref (base + o0)), (2, .int v2), (3, .int v3)] → (∀ (H : Heap) (locs : List Loc) (ls : Array Slot), va_P D vwCl (tw base cA μ []) H → va_S (tA base sz0) H0 H locs → lv_has ls 4 [(2, .int w2)] → W p l e rmX5_chainLength s m args below meth c H locs cells slots Q (F0 m 34 ls [])) → W p l e rmX5_chainLength s m args below meth c H locs cells slots Q (F0 m 4 ls []) := by
  obtain ⟨hx, hb, hml, hown, hts⟩ := FX
  have hin0 : ∀ w ∈ wsX00, w ∈ wsX5_chainLength := by decide +kernel
  have hin5 : ∀ w ∈ wsX50, w ∈ wsX5_chainLength := by decide +kernel
  intro n
  induction n with
  | zero =>
    intro v2 v3 H locs ls w2 hm
    cases hm
  | succ n ih =>
    intro v2 v3 H locs ls w2 hm hP hS hl K
    rw [X5_chainLength_L4_s] at hm
    refine lv_aload_n hx hb dX5_chainLength_4 rfl (lv_at hl 0 rfl) ?_
    refine lv_iload_n hx hb dX5_chainLength_5 rfl (lv_at hl 2 rfl) ?_
    refine t_cVi (As := [.int v3]) (rest := []) (μ' := μ) (r := (X5_hasBooth o0 v3 μ)) ⟨hx, hb, hml, hown, hts⟩ (mX5_hasBooth l D cA base H.size μ ho0 v3 rfl) (cwV 1 hts gX5_chainLength_X5_hasBooth rfl rfl rfl (by decide +kernel) ⟨Nat.le_of_ble_eq_true rfl, Nat.le_of_ble_eq_true rfl⟩) (va_recv hK hP (q0 := o0) rfl (tw_obj ho0 (by decide))) hK hN hP hS hz rfl hl.1 (Nat.le_of_ble_eq_true rfl) dX5_chainLength_6 hcs rfl (fun H locs hP hS => ?_)
    refine lv_if_eq (tgt := 34) hx hb dX5_chainLength_9 (by decide) (fun c3 => ?_) (fun c3 => ?_)
    · rw [if_pos c3] at hm
      cases hm
      exact K _ _ _ hP hS (lv_sub hl [1] rfl)
    · rw [if_neg c3] at hm
      refine lv_iload_n hx hb dX5_chainLength_12 rfl (lv_at hl 1 rfl) ?_
      refine lv_bipush (v := (6 : Int32)) hx hb dX5_chainLength_13 (by decide) ?_
      refine lv_icmp_ge (tgt := 34) hx hb dX5_chainLength_15 (by decide) (fun c4 => ?_) (fun c4 => ?_)
      · rw [if_pos c4] at hm
        cases hm
        exact K _ _ _ hP hS (lv_sub hl [1] rfl)
      · rw [if_neg c4] at hm
        obtain ⟨x5, ex5⟩ : ∃ z : Int32, z = v2 + (1 : Int32) := ⟨_, rfl⟩
        replace hm := bV_of hm ex5
        refine lv_iinc (v := x5) (lv' := [(2, .int x5), (0, .ref (base + o0)), (3, .int v3)]) hx hb dX5_chainLength_18 hl (k := 1) rfl (by rw [ex5]; rfl) (by decide) rfl (fun ls hl => ?_)
        refine lv_aload_n hx hb dX5_chainLength_21 rfl (lv_at hl 1 rfl) ?_
        refine t_getr (C := RX5) (T := TX5) (N := 9) hx hb hts hin5 hown hK hP ho0 rfl rfl 3 (by decide) (fr5_3 ho0) (hts _ (List.mem_of_getElem? (i := 1) rfl)) dX5_chainLength_22 ?_
        refine lv_iload_n hx hb dX5_chainLength_25 rfl (lv_at hl 2 rfl) ?_
        obtain ⟨hg6, hm⟩ := gd_inv hm
        refine t_aald2 hx hb hK hP (kr5_3 ho0) hg6 dX5_chainLength_26 ?_
        refine t_geti (C := RX0) (T := TX0) (N := 10) hx hb hts hin0 hown hK hP (ka102 (kr5_3 ho0) hg6) rfl rfl 6 (by decide) (fk0_6 (ka102 (kr5_3 ho0) hg6)) (hts _ (List.mem_of_getElem? (i := 2) rfl)) dX5_chainLength_27 ?_
        refine lv_topi (fun x7 ex7 => ?_)
        replace hm := bV_of hm ex7
        refine lv_istore_n (lv' := [(3, .int x7), (2, .int x5), (0, .ref (base + o0))]) hx hb dX5_chainLength_30 rfl hl (by decide) rfl (fun ls hl => ?_)
        refine lv_goto (tgt := 4) hx hb dX5_chainLength_31 (by decide) ?_
        exact ih x5 x7 _ _ _ w2 hm hP hS (lv_sub hl [2, 1, 0] rfl) K
set_option maxHeartbeats 4000000 in
set_option maxRecDepth 100000 in
theorem mX5_chainLength (l : Launch) (D : va_G) (cA : Nat → ClassId) (base sz : Nat) (μ : MM) {q : Nat} (hq : kc q = 5) (a1 : Int32) {r : Int32} (hm : X5_chainLength q a1 μ = some r) : Met l yX5_chainLength wsX5_chainLength rmX5_chainLength (va_Pc [.ref (base + q), .int a1] (tPre D cA base sz μ)) (va_Qi (fun (x : Int32) (_ : Unit) => x = r) (fun _ => tPost D cA base μ) (tA base sz)) 0 0 (tA base sz) := by
  refine Met.ofW (cc := cX5_chainLength) (maxL := 4) (ret := (some .int)) (by decide +kernel) rfl ?_
  intro p e s m args below meth c s₁ B hml hv
  obtain ⟨rfl, hsz, hP, hK, hN⟩ := hv
  have hx := B.exec
  have hb := B.bytes
  have hr := B.returns
  have hts := atoms_spec (ws := wsX5_chainLength) B.pre
  have hown : s.vm.findClass RX5 = some m.cls := findClass_of_methodNamed B.named
  have hlocks := B.notSynchronized
  subst hsz
  have hS : va_S (tA base s.heap.size) s.heap s.heap [] := va_S.rf
  have hz : s.heap.size ≤ s.heap.size := Nat.le_refl _
  have hl := lv_entry ([.ref (base + q), .int a1]) (n := 4) (Nat.le_of_ble_eq_true rfl)
  rw [lg_entry_eq]
  generalize (lg_sl ([.ref (base + q), .int a1]) ++ List.replicate (4 - (lg_sl ([.ref (base + q), .int a1])).length) Slot.unset).toArray = ls at hl ⊢
  have hl : lv_has ls 4 [(0, .ref (base + q)), (1, .int a1)] := hl
  unfold X5_chainLength at hm
  refine lv_iconst (v := (0 : Int32)) hx hb dX5_chainLength_0 (by decide) ?_
  refine lv_istore_n (lv' := [(2, .int (0 : Int32)), (0, .ref (base + q)), (1, .int a1)]) hx hb dX5_chainLength_1 rfl hl (by decide) rfl (fun ls hl => ?_)
  refine lv_iload_n hx hb dX5_chainLength_2 rfl (lv_at hl 2 rfl) ?_
  refine lv_istore_n (lv' := [(3, .int a1), (2, .int (0 : Int32)), (0, .ref (base + q)), (1, .int a1)]) hx hb dX5_chainLength_3 rfl hl (by decide) rfl (fun ls hl => ?_)
  obtain ⟨x8, hc9, hm⟩ := bO1_inv hm
  refine lX5_chainLength_L4 ⟨hx, hb, hml, hown, hts⟩ hK hN hz hq μ ⟨Nat.le_of_ble_eq_true rfl, Nat.le_of_ble_eq_true rfl⟩ 1000 (0 : Int32) a1 _ _ _ x8 hc9 hP hS (lv_sub hl [2, 1, 0] rfl) ?_
  intro H locs ls hP hS hl
  refine lv_iload_n hx hb dX5_chainLength_34 rfl (lv_at hl 0 rfl) ?_
  cases hm
  exact W.iret hx hb hr (fun t ht hW => ⟨⟨_, (), rfl, rfl, tPost_of hP ht⟩, hS.F ht⟩) hS.2.2 dX5_chainLength_35
abbrev rmX5_comesBy : Room := { frames := 1, cells := 0, slots := 0, locals := 21 }
set_option maxHeartbeats 4000000 in
set_option maxRecDepth 100000 in
theorem lX5_comesBy_L5 {p : Program} {l : Launch} {e : Env} {s : State} {m : MethodId} {args : Array Value} {below : List Frame} {meth : Method} {c : Code} {Q : State → Prop} {D : va_G} {cA : Nat → ClassId} {base sz0 : Nat} {H0 : Heap} (FX : CallFix p m c cX5_comesBy 5 s args wsX5_comesBy RX5) (hK : va_K D vwCl (tys cA) s) (hN : tN s) (hz : sz0 ≤ H0.size) {o0 : Nat} (ho0 : kc o0 = 5) (b2 : Int32) (μ : MM) {cells slots : Nat} (hcs : cells ≤ 0 ∧ slots ≤ 0) :
    ∀ (n : Nat) (v3 : Int32) (v4 : Int32) (H : Heap) (locs : List Loc) (ls : Array Slot) (wt : Nat), X5_comesBy_L5 o0 b2 μ n v3 v4 = some wt → va_P D vwCl (tw base cA μ []) H → va_S (tA base sz0) H0 H locs → lv_has ls 5 [(0, .ref (base + o0)), (2, .int b2), (3, .int v3), (4, .int v4)] → ((wt = 0 → (∀ (H : Heap) (locs : List Loc) (ls : Array Slot), va_P D vwCl (tw base cA μ []) H → va_S (tA base sz0) H0 H locs → lv_has ls 5 [] → W p l e rmX5_comesBy s m args below meth c H locs cells slots Q (F0 m 25 ls []))) ∧ (wt = 1 → (∀ (H : Heap) (locs : List Loc) (ls : Array Slot), va_P D vwCl (tw base cA μ []) H → va_S (tA base sz0) H0 H locs → lv_has ls 5 [] → W p l e rmX5_comesBy s m args below meth c H locs cells slots Q (F0 m 43 ls [])))) → W p l e rmX5_comesBy s m args below meth c H locs cells slots Q (F0 m 5 ls []) := by
  obtain ⟨hx, hb, hml, hown, hts⟩ := FX
  have hin0 : ∀ w ∈ wsX00, w ∈ wsX5_comesBy := by decide +kernel
  have hin5 : ∀ w ∈ wsX50, w ∈ wsX5_comesBy := by decide +kernel
  intro n
  induction n with
  | zero =>
    intro v3 v4 H locs ls wt hm
    cases hm
  | succ n ih =>
    intro v3 v4 H locs ls wt hm hP hS hl K
    rw [X5_comesBy_L5_s] at hm
    refine lv_aload_n hx hb dX5_comesBy_5 rfl (lv_at hl 0 rfl) ?_
    refine lv_iload_n hx hb dX5_comesBy_6 rfl (lv_at hl 2 rfl) ?_
    refine t_cVi (As := [.int v3]) (rest := []) (μ' := μ) (r := (X5_hasBooth o0 v3 μ)) ⟨hx, hb, hml, hown, hts⟩ (mX5_hasBooth l D cA base H.size μ ho0 v3 rfl) (cwV 1 hts gX5_comesBy_X5_hasBooth rfl rfl rfl (by decide +kernel) ⟨Nat.le_of_ble_eq_true rfl, Nat.le_of_ble_eq_true rfl⟩) (va_recv hK hP (q0 := o0) rfl (tw_obj ho0 (by decide))) hK hN hP hS hz rfl hl.1 (Nat.le_of_ble_eq_true rfl) dX5_comesBy_7 hcs rfl (fun H locs hP hS => ?_)
    refine lv_if_eq (tgt := 43) hx hb dX5_comesBy_10 (by decide) (fun c3 => ?_) (fun c3 => ?_)
    · rw [if_pos c3] at hm
      cases hm
      exact (K.2 rfl) _ _ _ hP hS (lv_sub hl [] rfl)
    · rw [if_neg c3] at hm
      refine lv_iload hx hb dX5_comesBy_13 (lv_at hl 3 rfl) ?_
      refine lv_bipush (v := (6 : Int32)) hx hb dX5_comesBy_15 (by decide) ?_
      refine lv_icmp_ge (tgt := 43) hx hb dX5_comesBy_17 (by decide) (fun c4 => ?_) (fun c4 => ?_)
      · rw [if_pos c4] at hm
        cases hm
        exact (K.2 rfl) _ _ _ hP hS (lv_sub hl [] rfl)
      · rw [if_neg c4] at hm
        refine lv_iload_n hx hb dX5_comesBy_20 rfl (lv_at hl 2 rfl) ?_
        refine lv_iload_n hx hb dX5_comesBy_21 rfl (lv_at hl 1 rfl) ?_
        refine lv_icmp_ne (tgt := 27) hx hb dX5_comesBy_22 (by decide) (fun c5 => ?_) (fun c5 => ?_)
        · rw [if_neg c5] at hm
          refine lv_aload_n hx hb dX5_comesBy_27 rfl (lv_at hl 0 rfl) ?_
          refine t_getr (C := RX5) (T := TX5) (N := 9) hx hb hts hin5 hown hK hP ho0 rfl rfl 3 (by decide) (fr5_3 ho0) (hts _ (List.mem_of_getElem? (i := 1) rfl)) dX5_comesBy_28 ?_
          refine lv_iload_n hx hb dX5_comesBy_31 rfl (lv_at hl 2 rfl) ?_
          obtain ⟨hg6, hm⟩ := gd_inv hm
          refine t_aald2 hx hb hK hP (kr5_3 ho0) hg6 dX5_comesBy_32 ?_
          refine t_geti (C := RX0) (T := TX0) (N := 10) hx hb hts hin0 hown hK hP (ka102 (kr5_3 ho0) hg6) rfl rfl 6 (by decide) (fk0_6 (ka102 (kr5_3 ho0) hg6)) (hts _ (List.mem_of_getElem? (i := 2) rfl)) dX5_comesBy_33 ?_
          refine lv_topi (fun x7 ex7 => ?_)
          replace hm := bV_of hm ex7
          refine lv_istore_n (lv' := [(3, .int x7), (0, .ref (base + o0)), (2, .int b2), (4, .int v4)]) hx hb dX5_comesBy_36 rfl hl (by decide) rfl (fun ls hl => ?_)
          obtain ⟨x8, ex8⟩ : ∃ z : Int32, z = v4 + (1 : Int32) := ⟨_, rfl⟩
          replace hm := bV_of hm ex8
          refine lv_iinc (v := x8) (lv' := [(4, .int x8), (3, .int x7), (0, .ref (base + o0)), (2, .int b2)]) hx hb dX5_comesBy_37 hl (k := 3) rfl (by rw [ex8]; rfl) (by decide) rfl (fun ls hl => ?_)
          refine lv_goto (tgt := 5) hx hb dX5_comesBy_40 (by decide) ?_
          exact ih x7 x8 _ _ _ wt hm hP hS (lv_sub hl [2, 3, 1, 0] rfl) K
        · rw [if_pos c5] at hm
          cases hm
          exact (K.1 rfl) _ _ _ hP hS (lv_sub hl [] rfl)
set_option maxHeartbeats 4000000 in
set_option maxRecDepth 100000 in
theorem mX5_comesBy (l : Launch) (D : va_G) (cA : Nat → ClassId) (base sz : Nat) (μ : MM) {q : Nat} (hq : kc q = 5) (a1 : Int32) (a2 : Int32) {r : Int32} (hm : X5_comesBy q a1 a2 μ = some r) : Met l yX5_comesBy wsX5_comesBy rmX5_comesBy (va_Pc [.ref (base + q), .int a1, .int a2] (tPre D cA base sz μ)) (va_Qi (fun (x : Int32) (_ : Unit) => x = r) (fun _ => tPost D cA base μ) (tA base sz)) 0 0 (tA base sz) := by
  refine Met.ofW (cc := cX5_comesBy) (maxL := 5) (ret := (some .boolean)) (by decide +kernel) rfl ?_
  intro p e s m args below meth c s₁ B hml hv
  obtain ⟨rfl, hsz, hP, hK, hN⟩ := hv
  have hx := B.exec
  have hb := B.bytes
  have hr := B.returns
  have hts := atoms_spec (ws := wsX5_comesBy) B.pre
  have hown : s.vm.findClass RX5 = some m.cls := findClass_of_methodNamed B.named
  have hlocks := B.notSynchronized
  subst hsz
  have hS : va_S (tA base s.heap.size) s.heap s.heap [] := va_S.rf
  have hz : s.heap.size ≤ s.heap.size := Nat.le_refl _
  have hl := lv_entry ([.ref (base + q), .int a1, .int a2]) (n := 5) (Nat.le_of_ble_eq_true rfl)
  rw [lg_entry_eq]
  generalize (lg_sl ([.ref (base + q), .int a1, .int a2]) ++ List.replicate (5 - (lg_sl ([.ref (base + q), .int a1, .int a2])).length) Slot.unset).toArray = ls at hl ⊢
  have hl : lv_has ls 5 [(0, .ref (base + q)), (1, .int a1), (2, .int a2)] := hl
  unfold X5_comesBy at hm
  refine lv_iload_n hx hb dX5_comesBy_0 rfl (lv_at hl 1 rfl) ?_
  refine lv_istore_n (lv' := [(3, .int a1), (0, .ref (base + q)), (1, .int a1), (2, .int a2)]) hx hb dX5_comesBy_1 rfl hl (by decide) rfl (fun ls hl => ?_)
  refine lv_iconst (v := (0 : Int32)) hx hb dX5_comesBy_2 (by decide) ?_
  refine lv_istore (lv' := [(4, .int (0 : Int32)), (3, .int a1), (0, .ref (base + q)), (1, .int a1), (2, .int a2)]) hx hb dX5_comesBy_3 hl (by decide) rfl (fun ls hl => ?_)
  obtain ⟨tg9, hc10, hm⟩ := bO1_inv hm
  refine lX5_comesBy_L5 ⟨hx, hb, hml, hown, hts⟩ hK hN hz hq a2 μ ⟨Nat.le_of_ble_eq_true rfl, Nat.le_of_ble_eq_true rfl⟩ 1000 a1 (0 : Int32) _ _ _ tg9 hc10 hP hS (lv_sub hl [2, 4, 1, 0] rfl) ?_
  refine ⟨?_, ?_⟩
  · intro ht9
    rw [if_pos ht9] at hm
    intro H locs ls hP hS hl
    refine lv_iconst (v := (1 : Int32)) hx hb dX5_comesBy_25 (by decide) ?_
    cases hm
    exact W.zret hx hb hr rfl (fun t ht hW => ⟨⟨_, (), rfl, rfl, tPost_of hP ht⟩, hS.F ht⟩) hS.2.2 dX5_comesBy_26
  · intro ht9
    rw [if_neg (by rw [ht9]; decide)] at hm
    intro H locs ls hP hS hl
    refine lv_iconst (v := (0 : Int32)) hx hb dX5_comesBy_43 (by decide) ?_
    cases hm
    exact W.zret hx hb hr rfl (fun t ht hW => ⟨⟨_, (), rfl, rfl, tPost_of hP ht⟩, hS.F ht⟩) hS.2.2 dX5_comesBy_44
abbrev rmX5_letFloorSpeak : Room := { frames := 2, cells := 0, slots := 0, locals := 61 }
set_option maxHeartbeats 4000000 in
set_option maxRecDepth 100000 in
theorem mX5_letFloorSpeak (l : Launch) (D : va_G) (cA : Nat → ClassId) (base sz : Nat) (μ : MM) {q : Nat} (hq : kc q = 5) {μ' : MM} (hm : X5_letFloorSpeak q μ = some μ') : Met l yX5_letFloorSpeak wsX5_letFloorSpeak rmX5_letFloorSpeak (va_Pc [.ref (base + q)] (tPre D cA base sz μ)) (va_Qv (fun _ : Unit => True) (fun _ => tPost D cA base μ') (tA base sz)) 0 0 (tA base sz) := by
  refine Met.ofW (cc := cX5_letFloorSpeak) (maxL := 2) (ret := none) (by decide +kernel) rfl ?_
  intro p e s m args below meth c s₁ B hml hv
  obtain ⟨rfl, hsz, hP, hK, hN⟩ := hv
  have hx := B.exec
  have hb := B.bytes
  have hr := B.returns
  have hts := atoms_spec (ws := wsX5_letFloorSpeak) B.pre
  have hown : s.vm.findClass RX5 = some m.cls := findClass_of_methodNamed B.named
  have hlocks := B.notSynchronized
  have hin5 : ∀ w ∈ wsX50, w ∈ wsX5_letFloorSpeak := by decide +kernel
  subst hsz
  have hS : va_S (tA base s.heap.size) s.heap s.heap [] := va_S.rf
  have hz : s.heap.size ≤ s.heap.size := Nat.le_refl _
  have hl := lv_entry ([.ref (base + q)]) (n := 2) (Nat.le_of_ble_eq_true rfl)
  rw [lg_entry_eq]
  generalize (lg_sl ([.ref (base + q)]) ++ List.replicate (2 - (lg_sl ([.ref (base + q)])).length) Slot.unset).toArray = ls at hl ⊢
  have hl : lv_has ls 2 [(0, .ref (base + q))] := hl
  unfold X5_letFloorSpeak at hm
  refine lv_aload_n hx hb dX5_letFloorSpeak_0 rfl (lv_at hl 0 rfl) ?_
  refine t_getr (C := RX5) (T := TX5) (N := 9) hx hb hts hin5 hown hK hP hq rfl rfl 1 (by decide) (fr5_1 hq) (hts _ (List.mem_of_getElem? (i := 1) rfl)) dX5_letFloorSpeak_1 ?_
  obtain ⟨r1, μ2, hc3, hm⟩ := bO2_inv hm
  refine t_cVi (As := []) (rest := []) (μ' := μ2) (r := r1) ⟨hx, hb, hml, hown, hts⟩ (mX3_takeFirst l D cA base s.heap.size μ (kr5_1 hq) hc3) (cwV 0 hts gX5_letFloorSpeak_X3_takeFirst rfl rfl rfl (by decide +kernel) ⟨Nat.le_of_ble_eq_true rfl, Nat.le_of_ble_eq_true rfl⟩) (va_recv hK hP (q0 := RF q 1) rfl (tw_obj (kr5_1 hq) (by decide))) hK hN hP hS hz rfl hl.1 (Nat.le_of_ble_eq_true rfl) dX5_letFloorSpeak_4 ⟨Nat.le_of_ble_eq_true rfl, Nat.le_of_ble_eq_true rfl⟩ rfl (fun H locs hP hS => ?_)
  refine lv_istore_n (lv' := [(1, .int r1), (0, .ref (base + q))]) hx hb dX5_letFloorSpeak_7 rfl hl (by decide) rfl (fun ls hl => ?_)
  refine lv_iload_n hx hb dX5_letFloorSpeak_8 rfl (lv_at hl 0 rfl) ?_
  refine lv_iconst (v := (-1 : Int32)) hx hb dX5_letFloorSpeak_9 (by decide) ?_
  refine lv_icmp_eq (tgt := 25) hx hb dX5_letFloorSpeak_10 (by decide) (fun c4 => ?_) (fun c4 => ?_)
  · rw [if_pos c4] at hm
    cases hm
    exact W.vret hx hb hr (fun t ht hW => ⟨⟨(), rfl, trivial, tPost_of hP ht⟩, hS.F ht⟩) hS.2.2 dX5_letFloorSpeak_25
  · rw [if_neg c4] at hm
    refine lv_aload_n hx hb dX5_letFloorSpeak_13 rfl (lv_at hl 1 rfl) ?_
    refine t_getr (C := RX5) (T := TX5) (N := 9) hx hb hts hin5 hown hK hP hq rfl rfl 2 (by decide) (fr5_2 hq) (hts _ (List.mem_of_getElem? (i := 2) rfl)) dX5_letFloorSpeak_14 ?_
    refine lv_iload_n hx hb dX5_letFloorSpeak_17 rfl (lv_at hl 0 rfl) ?_
    refine lv_aload_n hx hb dX5_letFloorSpeak_18 rfl (lv_at hl 1 rfl) ?_
    refine t_geti (C := RX5) (T := TX5) (N := 9) hx hb hts hin5 hown hK hP hq rfl rfl 8 (by decide) (fk5_8 hq) (hts _ (List.mem_of_getElem? (i := 3) rfl)) dX5_letFloorSpeak_19 ?_
    obtain ⟨μ5, hc6, hm⟩ := bO1_inv hm
    refine t_cVv (As := [.int r1, .int (rI μ2 q 8)]) (rest := []) (μ' := μ5) ⟨hx, hb, hml, hown, hts⟩ (mX4_add l D cA base H.size μ2 (kr5_2 hq) r1 (rI μ2 q 8) hc6) (cwV 2 hts gX5_letFloorSpeak_X4_add rfl rfl rfl (by decide +kernel) ⟨Nat.le_of_ble_eq_true rfl, Nat.le_of_ble_eq_true rfl⟩) (va_recv hK hP (q0 := RF q 2) rfl (tw_obj (kr5_2 hq) (by decide))) hK hN hP hS hz rfl hl.1 (Nat.le_of_ble_eq_true rfl) dX5_letFloorSpeak_22 ⟨Nat.le_of_ble_eq_true rfl, Nat.le_of_ble_eq_true rfl⟩ rfl (fun H locs hP hS => ?_)
    cases hm
    exact W.vret hx hb hr (fun t ht hW => ⟨⟨(), rfl, trivial, tPost_of hP ht⟩, hS.F ht⟩) hS.2.2 dX5_letFloorSpeak_25
abbrev rmX5_workUnable : Room := { frames := 3, cells := 0, slots := 0, locals := 81 }
set_option maxHeartbeats 4000000 in
set_option maxRecDepth 100000 in
theorem mX5_workUnable (l : Launch) (D : va_G) (cA : Nat → ClassId) (base sz : Nat) (μ : MM) {q : Nat} (hq : kc q = 5) {a1 : Nat} (ha1 : kc a1 = 0) {μ' : MM} (hm : X5_workUnable q a1 μ = some μ') : Met l yX5_workUnable wsX5_workUnable rmX5_workUnable (va_Pc [.ref (base + q), .ref (base + a1)] (tPre D cA base sz μ)) (va_Qv (fun _ : Unit => True) (fun _ => tPost D cA base μ') (tA base sz)) 0 0 (tA base sz) := by
  refine Met.ofW (cc := cX5_workUnable) (maxL := 2) (ret := none) (by decide +kernel) rfl ?_
  intro p e s m args below meth c s₁ B hml hv
  obtain ⟨rfl, hsz, hP, hK, hN⟩ := hv
  have hx := B.exec
  have hb := B.bytes
  have hr := B.returns
  have hts := atoms_spec (ws := wsX5_workUnable) B.pre
  have hown : s.vm.findClass RX5 = some m.cls := findClass_of_methodNamed B.named
  have hlocks := B.notSynchronized
  have hin0 : ∀ w ∈ wsX00, w ∈ wsX5_workUnable := by decide +kernel
  have hin5 : ∀ w ∈ wsX50, w ∈ wsX5_workUnable := by decide +kernel
  subst hsz
  have hS : va_S (tA base s.heap.size) s.heap s.heap [] := va_S.rf
  have hz : s.heap.size ≤ s.heap.size := Nat.le_refl _
  have hl := lv_entry ([.ref (base + q), .ref (base + a1)]) (n := 2) (Nat.le_of_ble_eq_true rfl)
  rw [lg_entry_eq]
  generalize (lg_sl ([.ref (base + q), .ref (base + a1)]) ++ List.replicate (2 - (lg_sl ([.ref (base + q), .ref (base + a1)])).length) Slot.unset).toArray = ls at hl ⊢
  have hl : lv_has ls 2 [(0, .ref (base + q)), (1, .ref (base + a1))] := hl
  unfold X5_workUnable at hm
  refine lv_aload_n hx hb dX5_workUnable_0 rfl (lv_at hl 1 rfl) ?_
  refine t_geti (C := RX0) (T := TX0) (N := 10) hx hb hts hin0 hown hK hP ha1 rfl rfl 8 (by decide) (fk0_8 ha1) (hts _ (List.mem_of_getElem? (i := 1) rfl)) dX5_workUnable_1 ?_
  refine lv_iconst (v := (-1 : Int32)) hx hb dX5_workUnable_4 (by decide) ?_
  refine lv_icmp_eq (tgt := 26) hx hb dX5_workUnable_5 (by decide) (fun c1 => ?_) (fun c1 => ?_)
  · rw [if_pos c1] at hm
    refine lv_aload_n hx hb dX5_workUnable_26 rfl (lv_at hl 1 rfl) ?_
    refine lv_aload_n hx hb dX5_workUnable_27 rfl (lv_at hl 0 rfl) ?_
    refine t_geti (C := RX5) (T := TX5) (N := 9) hx hb hts hin5 hown hK hP hq rfl rfl 8 (by decide) (fk5_8 hq) (hts _ (List.mem_of_getElem? (i := 3) rfl)) dX5_workUnable_28 ?_
    obtain ⟨r2, hc3, hm⟩ := bO1_inv hm
    refine t_cVi (As := [.int (rI μ q 8)]) (rest := []) (μ' := μ) (r := r2) ⟨hx, hb, hml, hown, hts⟩ (mX0_isFirstWordDue l D cA base s.heap.size μ ha1 (rI μ q 8) hc3) (cwV 1 hts gX5_workUnable_X0_isFirstWordDue rfl rfl rfl (by decide +kernel) ⟨Nat.le_of_ble_eq_true rfl, Nat.le_of_ble_eq_true rfl⟩) (va_recv hK hP (q0 := a1) rfl (tw_obj ha1 (by decide))) hK hN hP hS hz rfl hl.1 (Nat.le_of_ble_eq_true rfl) dX5_workUnable_31 ⟨Nat.le_of_ble_eq_true rfl, Nat.le_of_ble_eq_true rfl⟩ rfl (fun H locs hP hS => ?_)
    refine lv_if_eq (tgt := 52) hx hb dX5_workUnable_34 (by decide) (fun c4 => ?_) (fun c4 => ?_)
    · rw [if_pos c4] at hm
      refine lv_aload_n hx hb dX5_workUnable_52 rfl (lv_at hl 0 rfl) ?_
      refine lv_aload_n hx hb dX5_workUnable_53 rfl (lv_at hl 1 rfl) ?_
      refine t_geti (C := RX0) (T := TX0) (N := 10) hx hb hts hin0 hown hK hP ha1 rfl rfl 7 (by decide) (fk0_7 ha1) (hts _ (List.mem_of_getElem? (i := 4) rfl)) dX5_workUnable_54 ?_
      refine t_cVi (As := [.int (rI μ a1 7)]) (rest := []) (μ' := μ) (r := (X5_hasInterpreter q (rI μ a1 7) μ)) ⟨hx, hb, hml, hown, hts⟩ (mX5_hasInterpreter l D cA base H.size μ hq (rI μ a1 7) rfl) (cwV 1 hts gX5_workUnable_X5_hasInterpreter rfl rfl rfl (by decide +kernel) ⟨Nat.le_of_ble_eq_true rfl, Nat.le_of_ble_eq_true rfl⟩) (va_recv hK hP (q0 := q) rfl (tw_obj hq (by decide))) hK hN hP hS hz rfl hl.1 (Nat.le_of_ble_eq_true rfl) dX5_workUnable_57 ⟨Nat.le_of_ble_eq_true rfl, Nat.le_of_ble_eq_true rfl⟩ rfl (fun H locs hP hS => ?_)
      refine lv_if_eq (tgt := 76) hx hb dX5_workUnable_60 (by decide) (fun c7 => ?_) (fun c7 => ?_)
      · rw [if_pos c7] at hm
        cases hm
        exact W.vret hx hb hr (fun t ht hW => ⟨⟨(), rfl, trivial, tPost_of hP ht⟩, hS.F ht⟩) hS.2.2 dX5_workUnable_76
      · rw [if_neg c7] at hm
        refine lv_aload_n hx hb dX5_workUnable_63 rfl (lv_at hl 0 rfl) ?_
        refine t_getr (C := RX5) (T := TX5) (N := 9) hx hb hts hin5 hown hK hP hq rfl rfl 4 (by decide) (fr5_4 hq) (hts _ (List.mem_of_getElem? (i := 5) rfl)) dX5_workUnable_64 ?_
        refine lv_aload_n hx hb dX5_workUnable_67 rfl (lv_at hl 1 rfl) ?_
        refine t_geti (C := RX0) (T := TX0) (N := 10) hx hb hts hin0 hown hK hP ha1 rfl rfl 7 (by decide) (fk0_7 ha1) (hts _ (List.mem_of_getElem? (i := 4) rfl)) dX5_workUnable_68 ?_
        obtain ⟨hg8, hm⟩ := gd_inv hm
        refine t_aald3 hx hb hK hP (kr5_4 hq) hg8 dX5_workUnable_71 ?_
        refine lv_iconst (v := (1 : Int32)) hx hb dX5_workUnable_72 (by decide) ?_
        obtain ⟨μ9, hc10⟩ : ∃ z, X2_recover (RF (RF q 4) (rI μ a1 7).toNatClampNeg) (1 : Int32) μ = z := ⟨_, rfl⟩
        replace hm := bV_of hm hc10.symm
        refine t_cVv (As := [.int (1 : Int32)]) (rest := []) (μ' := μ9) ⟨hx, hb, hml, hown, hts⟩ (mX2_recover l D cA base H.size μ (ka103 (kr5_4 hq) hg8) (1 : Int32) hc10) (cwV 1 hts gX5_workUnable_X2_recover rfl rfl rfl (by decide +kernel) ⟨Nat.le_of_ble_eq_true rfl, Nat.le_of_ble_eq_true rfl⟩) (va_recv hK hP (q0 := RF (RF q 4) (rI μ a1 7).toNatClampNeg) rfl (tw_obj (ka103 (kr5_4 hq) hg8) (by decide))) hK hN hP hS hz rfl hl.1 (Nat.le_of_ble_eq_true rfl) dX5_workUnable_73 ⟨Nat.le_of_ble_eq_true rfl, Nat.le_of_ble_eq_true rfl⟩ rfl (fun H locs hP hS => ?_)
        cases hm
        exact W.vret hx hb hr (fun t ht hW => ⟨⟨(), rfl, trivial, tPost_of hP ht⟩, hS.F ht⟩) hS.2.2 dX5_workUnable_76
    · rw [if_neg c4] at hm
      refine lv_aload_n hx hb dX5_workUnable_37 rfl (lv_at hl 1 rfl) ?_
      obtain ⟨r11, μ12, hc13, hm⟩ := bO2_inv hm
      refine t_cVi (As := []) (rest := []) (μ' := μ12) (r := r11) ⟨hx, hb, hml, hown, hts⟩ (mX0_takeFirstWord l D cA base H.size μ ha1 hc13) (cwV 0 hts gX5_workUnable_X0_takeFirstWord rfl rfl rfl (by decide +kernel) ⟨Nat.le_of_ble_eq_true rfl, Nat.le_of_ble_eq_true rfl⟩) (va_recv hK hP (q0 := a1) rfl (tw_obj ha1 (by decide))) hK hN hP hS hz rfl hl.1 (Nat.le_of_ble_eq_true rfl) dX5_workUnable_38 ⟨Nat.le_of_ble_eq_true rfl, Nat.le_of_ble_eq_true rfl⟩ rfl (fun H locs hP hS => ?_)
      refine lv_pop hx hb dX5_workUnable_41 rfl ?_
      refine lv_aload_n hx hb dX5_workUnable_42 rfl (lv_at hl 1 rfl) ?_
      refine lv_dup hx hb dX5_workUnable_43 rfl ?_
      refine t_geti (C := RX0) (T := TX0) (N := 10) hx hb hts hin0 hown hK hP ha1 rfl rfl 9 (by decide) (fk0_9 ha1) (hts _ (List.mem_of_getElem? (i := 2) rfl)) dX5_workUnable_44 ?_
      refine lv_iconst (v := (1 : Int32)) hx hb dX5_workUnable_47 (by decide) ?_
      refine lv_iadd hx hb dX5_workUnable_48 ?_
      refine t_put (C := RX0) (T := TX0) (N := 10) hx hb hts hin0 tyX0 tyX0_ok nmX0 hown hK hP (tD _ _ _ _) hS ha1 rfl rfl 9 (by decide) (fk0_9 ha1) (hts _ (List.mem_of_getElem? (i := 2) rfl)) rfl (by decide +kernel) dX5_workUnable_49 (fun H locs hP hS => ?_)
      obtain ⟨μ14, eμ14⟩ : ∃ z : MM, z = wI μ12 a1 9 ((rI μ12 a1 9) + (1 : Int32)) := ⟨_, rfl⟩
      rw [← eμ14] at hP
      replace hm := bV_of hm eμ14
      refine lv_aload_n hx hb dX5_workUnable_52 rfl (lv_at hl 0 rfl) ?_
      refine lv_aload_n hx hb dX5_workUnable_53 rfl (lv_at hl 1 rfl) ?_
      refine t_geti (C := RX0) (T := TX0) (N := 10) hx hb hts hin0 hown hK hP ha1 rfl rfl 7 (by decide) (fk0_7 ha1) (hts _ (List.mem_of_getElem? (i := 4) rfl)) dX5_workUnable_54 ?_
      refine t_cVi (As := [.int (rI μ14 a1 7)]) (rest := []) (μ' := μ14) (r := (X5_hasInterpreter q (rI μ14 a1 7) μ14)) ⟨hx, hb, hml, hown, hts⟩ (mX5_hasInterpreter l D cA base H.size μ14 hq (rI μ14 a1 7) rfl) (cwV 1 hts gX5_workUnable_X5_hasInterpreter rfl rfl rfl (by decide +kernel) ⟨Nat.le_of_ble_eq_true rfl, Nat.le_of_ble_eq_true rfl⟩) (va_recv hK hP (q0 := q) rfl (tw_obj hq (by decide))) hK hN hP hS hz rfl hl.1 (Nat.le_of_ble_eq_true rfl) dX5_workUnable_57 ⟨Nat.le_of_ble_eq_true rfl, Nat.le_of_ble_eq_true rfl⟩ rfl (fun H locs hP hS => ?_)
      refine lv_if_eq (tgt := 76) hx hb dX5_workUnable_60 (by decide) (fun c17 => ?_) (fun c17 => ?_)
      · rw [if_pos c17] at hm
        cases hm
        exact W.vret hx hb hr (fun t ht hW => ⟨⟨(), rfl, trivial, tPost_of hP ht⟩, hS.F ht⟩) hS.2.2 dX5_workUnable_76
      · rw [if_neg c17] at hm
        refine lv_aload_n hx hb dX5_workUnable_63 rfl (lv_at hl 0 rfl) ?_
        refine t_getr (C := RX5) (T := TX5) (N := 9) hx hb hts hin5 hown hK hP hq rfl rfl 4 (by decide) (fr5_4 hq) (hts _ (List.mem_of_getElem? (i := 5) rfl)) dX5_workUnable_64 ?_
        refine lv_aload_n hx hb dX5_workUnable_67 rfl (lv_at hl 1 rfl) ?_
        refine t_geti (C := RX0) (T := TX0) (N := 10) hx hb hts hin0 hown hK hP ha1 rfl rfl 7 (by decide) (fk0_7 ha1) (hts _ (List.mem_of_getElem? (i := 4) rfl)) dX5_workUnable_68 ?_
        obtain ⟨hg18, hm⟩ := gd_inv hm
        refine t_aald3 hx hb hK hP (kr5_4 hq) hg18 dX5_workUnable_71 ?_
        refine lv_iconst (v := (1 : Int32)) hx hb dX5_workUnable_72 (by decide) ?_
        obtain ⟨μ19, hc20⟩ : ∃ z, X2_recover (RF (RF q 4) (rI μ14 a1 7).toNatClampNeg) (1 : Int32) μ14 = z := ⟨_, rfl⟩
        replace hm := bV_of hm hc20.symm
        refine t_cVv (As := [.int (1 : Int32)]) (rest := []) (μ' := μ19) ⟨hx, hb, hml, hown, hts⟩ (mX2_recover l D cA base H.size μ14 (ka103 (kr5_4 hq) hg18) (1 : Int32) hc20) (cwV 1 hts gX5_workUnable_X2_recover rfl rfl rfl (by decide +kernel) ⟨Nat.le_of_ble_eq_true rfl, Nat.le_of_ble_eq_true rfl⟩) (va_recv hK hP (q0 := RF (RF q 4) (rI μ14 a1 7).toNatClampNeg) rfl (tw_obj (ka103 (kr5_4 hq) hg18) (by decide))) hK hN hP hS hz rfl hl.1 (Nat.le_of_ble_eq_true rfl) dX5_workUnable_73 ⟨Nat.le_of_ble_eq_true rfl, Nat.le_of_ble_eq_true rfl⟩ rfl (fun H locs hP hS => ?_)
        cases hm
        exact W.vret hx hb hr (fun t ht hW => ⟨⟨(), rfl, trivial, tPost_of hP ht⟩, hS.F ht⟩) hS.2.2 dX5_workUnable_76
  · rw [if_neg c1] at hm
    refine lv_aload_n hx hb dX5_workUnable_8 rfl (lv_at hl 1 rfl) ?_
    refine lv_iconst (v := (-1 : Int32)) hx hb dX5_workUnable_9 (by decide) ?_
    refine t_put (C := RX0) (T := TX0) (N := 10) hx hb hts hin0 tyX0 tyX0_ok nmX0 hown hK hP (tD _ _ _ _) hS ha1 rfl rfl 8 (by decide) (fk0_8 ha1) (hts _ (List.mem_of_getElem? (i := 1) rfl)) rfl (by decide +kernel) dX5_workUnable_10 (fun H locs hP hS => ?_)
    obtain ⟨μ21, eμ21⟩ : ∃ z : MM, z = wI μ a1 8 (-1 : Int32) := ⟨_, rfl⟩
    rw [← eμ21] at hP
    replace hm := bV_of hm eμ21
    refine lv_aload_n hx hb dX5_workUnable_13 rfl (lv_at hl 1 rfl) ?_
    refine lv_dup hx hb dX5_workUnable_14 rfl ?_
    refine t_geti (C := RX0) (T := TX0) (N := 10) hx hb hts hin0 hown hK hP ha1 rfl rfl 9 (by decide) (fk0_9 ha1) (hts _ (List.mem_of_getElem? (i := 2) rfl)) dX5_workUnable_15 ?_
    refine lv_iconst (v := (1 : Int32)) hx hb dX5_workUnable_18 (by decide) ?_
    refine lv_iadd hx hb dX5_workUnable_19 ?_
    refine t_put (C := RX0) (T := TX0) (N := 10) hx hb hts hin0 tyX0 tyX0_ok nmX0 hown hK hP (tD _ _ _ _) hS ha1 rfl rfl 9 (by decide) (fk0_9 ha1) (hts _ (List.mem_of_getElem? (i := 2) rfl)) rfl (by decide +kernel) dX5_workUnable_20 (fun H locs hP hS => ?_)
    obtain ⟨μ22, eμ22⟩ : ∃ z : MM, z = wI μ21 a1 9 ((rI μ21 a1 9) + (1 : Int32)) := ⟨_, rfl⟩
    rw [← eμ22] at hP
    replace hm := bV_of hm eμ22
    refine lv_goto (tgt := 52) hx hb dX5_workUnable_23 (by decide) ?_
    refine lv_aload_n hx hb dX5_workUnable_52 rfl (lv_at hl 0 rfl) ?_
    refine lv_aload_n hx hb dX5_workUnable_53 rfl (lv_at hl 1 rfl) ?_
    refine t_geti (C := RX0) (T := TX0) (N := 10) hx hb hts hin0 hown hK hP ha1 rfl rfl 7 (by decide) (fk0_7 ha1) (hts _ (List.mem_of_getElem? (i := 4) rfl)) dX5_workUnable_54 ?_
    refine t_cVi (As := [.int (rI μ22 a1 7)]) (rest := []) (μ' := μ22) (r := (X5_hasInterpreter q (rI μ22 a1 7) μ22)) ⟨hx, hb, hml, hown, hts⟩ (mX5_hasInterpreter l D cA base H.size μ22 hq (rI μ22 a1 7) rfl) (cwV 1 hts gX5_workUnable_X5_hasInterpreter rfl rfl rfl (by decide +kernel) ⟨Nat.le_of_ble_eq_true rfl, Nat.le_of_ble_eq_true rfl⟩) (va_recv hK hP (q0 := q) rfl (tw_obj hq (by decide))) hK hN hP hS hz rfl hl.1 (Nat.le_of_ble_eq_true rfl) dX5_workUnable_57 ⟨Nat.le_of_ble_eq_true rfl, Nat.le_of_ble_eq_true rfl⟩ rfl (fun H locs hP hS => ?_)
    refine lv_if_eq (tgt := 76) hx hb dX5_workUnable_60 (by decide) (fun c25 => ?_) (fun c25 => ?_)
    · rw [if_pos c25] at hm
      cases hm
      exact W.vret hx hb hr (fun t ht hW => ⟨⟨(), rfl, trivial, tPost_of hP ht⟩, hS.F ht⟩) hS.2.2 dX5_workUnable_76
    · rw [if_neg c25] at hm
      refine lv_aload_n hx hb dX5_workUnable_63 rfl (lv_at hl 0 rfl) ?_
      refine t_getr (C := RX5) (T := TX5) (N := 9) hx hb hts hin5 hown hK hP hq rfl rfl 4 (by decide) (fr5_4 hq) (hts _ (List.mem_of_getElem? (i := 5) rfl)) dX5_workUnable_64 ?_
      refine lv_aload_n hx hb dX5_workUnable_67 rfl (lv_at hl 1 rfl) ?_
      refine t_geti (C := RX0) (T := TX0) (N := 10) hx hb hts hin0 hown hK hP ha1 rfl rfl 7 (by decide) (fk0_7 ha1) (hts _ (List.mem_of_getElem? (i := 4) rfl)) dX5_workUnable_68 ?_
      obtain ⟨hg26, hm⟩ := gd_inv hm
      refine t_aald3 hx hb hK hP (kr5_4 hq) hg26 dX5_workUnable_71 ?_
      refine lv_iconst (v := (1 : Int32)) hx hb dX5_workUnable_72 (by decide) ?_
      obtain ⟨μ27, hc28⟩ : ∃ z, X2_recover (RF (RF q 4) (rI μ22 a1 7).toNatClampNeg) (1 : Int32) μ22 = z := ⟨_, rfl⟩
      replace hm := bV_of hm hc28.symm
      refine t_cVv (As := [.int (1 : Int32)]) (rest := []) (μ' := μ27) ⟨hx, hb, hml, hown, hts⟩ (mX2_recover l D cA base H.size μ22 (ka103 (kr5_4 hq) hg26) (1 : Int32) hc28) (cwV 1 hts gX5_workUnable_X2_recover rfl rfl rfl (by decide +kernel) ⟨Nat.le_of_ble_eq_true rfl, Nat.le_of_ble_eq_true rfl⟩) (va_recv hK hP (q0 := RF (RF q 4) (rI μ22 a1 7).toNatClampNeg) rfl (tw_obj (ka103 (kr5_4 hq) hg26) (by decide))) hK hN hP hS hz rfl hl.1 (Nat.le_of_ble_eq_true rfl) dX5_workUnable_73 ⟨Nat.le_of_ble_eq_true rfl, Nat.le_of_ble_eq_true rfl⟩ rfl (fun H locs hP hS => ?_)
      cases hm
      exact W.vret hx hb hr (fun t ht hW => ⟨⟨(), rfl, trivial, tPost_of hP ht⟩, hS.F ht⟩) hS.2.2 dX5_workUnable_76
abbrev rmX5_nextWord : Room := { frames := 3, cells := 0, slots := 0, locals := 81 }
set_option maxHeartbeats 4000000 in
set_option maxRecDepth 100000 in
theorem mX5_nextWord (l : Launch) (D : va_G) (cA : Nat → ClassId) (base sz : Nat) (μ : MM) {q : Nat} (hq : kc q = 5) {a1 : Nat} (ha1 : kc a1 = 0) {a2 : Nat} (ha2 : kc a2 = 2) {r : Int32} {μ' : MM} (hm : X5_nextWord q a1 a2 μ = some (r, μ')) : Met l yX5_nextWord wsX5_nextWord rmX5_nextWord (va_Pc [.ref (base + q), .ref (base + a1), .ref (base + a2)] (tPre D cA base sz μ)) (va_Qi (fun (x : Int32) (_ : Unit) => x = r) (fun _ => tPost D cA base μ') (tA base sz)) 0 0 (tA base sz) := by
  refine Met.ofW (cc := cX5_nextWord) (maxL := 5) (ret := (some .int)) (by decide +kernel) rfl ?_
  intro p e s m args below meth c s₁ B hml hv
  obtain ⟨rfl, hsz, hP, hK, hN⟩ := hv
  have hx := B.exec
  have hb := B.bytes
  have hr := B.returns
  have hts := atoms_spec (ws := wsX5_nextWord) B.pre
  have hown : s.vm.findClass RX5 = some m.cls := findClass_of_methodNamed B.named
  have hlocks := B.notSynchronized
  have hin0 : ∀ w ∈ wsX00, w ∈ wsX5_nextWord := by decide +kernel
  have hin2 : ∀ w ∈ wsX20, w ∈ wsX5_nextWord := by decide +kernel
  have hin5 : ∀ w ∈ wsX50, w ∈ wsX5_nextWord := by decide +kernel
  subst hsz
  have hS : va_S (tA base s.heap.size) s.heap s.heap [] := va_S.rf
  have hz : s.heap.size ≤ s.heap.size := Nat.le_refl _
  have hl := lv_entry ([.ref (base + q), .ref (base + a1), .ref (base + a2)]) (n := 5) (Nat.le_of_ble_eq_true rfl)
  rw [lg_entry_eq]
  generalize (lg_sl ([.ref (base + q), .ref (base + a1), .ref (base + a2)]) ++ List.replicate (5 - (lg_sl ([.ref (base + q), .ref (base + a1), .ref (base + a2)])).length) Slot.unset).toArray = ls at hl ⊢
  have hl : lv_has ls 5 [(0, .ref (base + q)), (1, .ref (base + a1)), (2, .ref (base + a2))] := hl
  unfold X5_nextWord at hm
  refine lv_aload_n hx hb dX5_nextWord_0 rfl (lv_at hl 1 rfl) ?_
  refine t_geti (C := RX0) (T := TX0) (N := 10) hx hb hts hin0 hown hK hP ha1 rfl rfl 8 (by decide) (fk0_8 ha1) (hts _ (List.mem_of_getElem? (i := 1) rfl)) dX5_nextWord_1 ?_
  refine lv_iconst (v := (-1 : Int32)) hx hb dX5_nextWord_4 (by decide) ?_
  refine lv_icmp_eq (tgt := 20) hx hb dX5_nextWord_5 (by decide) (fun c1 => ?_) (fun c1 => ?_)
  · rw [if_pos c1] at hm
    refine lv_aload_n hx hb dX5_nextWord_20 rfl (lv_at hl 1 rfl) ?_
    refine lv_aload_n hx hb dX5_nextWord_21 rfl (lv_at hl 0 rfl) ?_
    refine t_geti (C := RX5) (T := TX5) (N := 9) hx hb hts hin5 hown hK hP hq rfl rfl 8 (by decide) (fk5_8 hq) (hts _ (List.mem_of_getElem? (i := 2) rfl)) dX5_nextWord_22 ?_
    obtain ⟨r2, hc3, hm⟩ := bO1_inv hm
    refine t_cVi (As := [.int (rI μ q 8)]) (rest := []) (μ' := μ) (r := r2) ⟨hx, hb, hml, hown, hts⟩ (mX0_isFirstWordDue l D cA base s.heap.size μ ha1 (rI μ q 8) hc3) (cwV 1 hts gX5_nextWord_X0_isFirstWordDue rfl rfl rfl (by decide +kernel) ⟨Nat.le_of_ble_eq_true rfl, Nat.le_of_ble_eq_true rfl⟩) (va_recv hK hP (q0 := a1) rfl (tw_obj ha1 (by decide))) hK hN hP hS hz rfl hl.1 (Nat.le_of_ble_eq_true rfl) dX5_nextWord_25 ⟨Nat.le_of_ble_eq_true rfl, Nat.le_of_ble_eq_true rfl⟩ rfl (fun H locs hP hS => ?_)
    refine lv_if_ne (tgt := 33) hx hb dX5_nextWord_28 (by decide) (fun c4 => ?_) (fun c4 => ?_)
    · rw [if_neg c4] at hm
      refine lv_aload_n hx hb dX5_nextWord_33 rfl (lv_at hl 1 rfl) ?_
      obtain ⟨r5, μ6, hc7, hm⟩ := bO2_inv hm
      refine t_cVi (As := []) (rest := []) (μ' := μ6) (r := r5) ⟨hx, hb, hml, hown, hts⟩ (mX0_takeFirstWord l D cA base H.size μ ha1 hc7) (cwV 0 hts gX5_nextWord_X0_takeFirstWord rfl rfl rfl (by decide +kernel) ⟨Nat.le_of_ble_eq_true rfl, Nat.le_of_ble_eq_true rfl⟩) (va_recv hK hP (q0 := a1) rfl (tw_obj ha1 (by decide))) hK hN hP hS hz rfl hl.1 (Nat.le_of_ble_eq_true rfl) dX5_nextWord_34 ⟨Nat.le_of_ble_eq_true rfl, Nat.le_of_ble_eq_true rfl⟩ rfl (fun H locs hP hS => ?_)
      refine lv_istore_n (lv' := [(3, .int r5), (0, .ref (base + q)), (1, .ref (base + a1)), (2, .ref (base + a2))]) hx hb dX5_nextWord_37 rfl hl (by decide) rfl (fun ls hl => ?_)
      refine lv_aload_n hx hb dX5_nextWord_38 rfl (lv_at hl 3 rfl) ?_
      refine lv_iload_n hx hb dX5_nextWord_39 rfl (lv_at hl 0 rfl) ?_
      refine t_cVi (As := [.int r5]) (rest := []) (μ' := μ6) (r := (X2_isLostFor a2 r5 μ6)) ⟨hx, hb, hml, hown, hts⟩ (mX2_isLostFor l D cA base H.size μ6 ha2 r5 rfl) (cwV 1 hts gX5_nextWord_X2_isLostFor rfl rfl rfl (by decide +kernel) ⟨Nat.le_of_ble_eq_true rfl, Nat.le_of_ble_eq_true rfl⟩) (va_recv hK hP (q0 := a2) rfl (tw_obj ha2 (by decide))) hK hN hP hS hz rfl hl.1 (Nat.le_of_ble_eq_true rfl) dX5_nextWord_40 ⟨Nat.le_of_ble_eq_true rfl, Nat.le_of_ble_eq_true rfl⟩ rfl (fun H locs hP hS => ?_)
      refine lv_if_ne (tgt := 48) hx hb dX5_nextWord_43 (by decide) (fun c10 => ?_) (fun c10 => ?_)
      · rw [if_neg c10] at hm
        refine lv_iload_n hx hb dX5_nextWord_48 rfl (lv_at hl 0 rfl) ?_
        refine lv_bipush (v := (80 : Int32)) hx hb dX5_nextWord_49 (by decide) ?_
        refine lv_isub hx hb dX5_nextWord_51 ?_
        refine lv_iconst (v := (4 : Int32)) hx hb dX5_nextWord_52 (by decide) ?_
        refine lv_imul hx hb dX5_nextWord_53 ?_
        refine lv_topi (fun x11 ex11 => ?_)
        replace hm := bV_of hm ex11
        refine lv_istore (lv' := [(4, .int x11), (3, .int r5), (0, .ref (base + q)), (1, .ref (base + a1)), (2, .ref (base + a2))]) hx hb dX5_nextWord_54 hl (by decide) rfl (fun ls hl => ?_)
        refine lv_aload_n hx hb dX5_nextWord_56 rfl (lv_at hl 3 rfl) ?_
        refine lv_iload hx hb dX5_nextWord_57 (lv_at hl 0 rfl) ?_
        refine lv_iconst (v := (1 : Int32)) hx hb dX5_nextWord_59 (by decide) ?_
        refine lv_iadd hx hb dX5_nextWord_60 ?_
        refine t_put (C := RX0) (T := TX0) (N := 10) hx hb hts hin0 tyX0 tyX0_ok nmX0 hown hK hP (tD _ _ _ _) hS ha1 rfl rfl 8 (by decide) (fk0_8 ha1) (hts _ (List.mem_of_getElem? (i := 1) rfl)) rfl (by decide +kernel) dX5_nextWord_61 (fun H locs hP hS => ?_)
        obtain ⟨μ12, eμ12⟩ : ∃ z : MM, z = wI μ6 a1 8 (x11 + (1 : Int32)) := ⟨_, rfl⟩
        rw [← eμ12] at hP
        replace hm := bV_of hm eμ12
        refine lv_aload_n hx hb dX5_nextWord_64 rfl (lv_at hl 4 rfl) ?_
        refine lv_dup hx hb dX5_nextWord_65 rfl ?_
        refine t_geti (C := RX2) (T := TX2) (N := 7) hx hb hts hin2 hown hK hP ha2 rfl rfl 6 (by decide) (fk2_6 ha2) (hts _ (List.mem_of_getElem? (i := 3) rfl)) dX5_nextWord_66 ?_
        refine lv_iconst (v := (1 : Int32)) hx hb dX5_nextWord_69 (by decide) ?_
        refine lv_iadd hx hb dX5_nextWord_70 ?_
        refine t_put (C := RX2) (T := TX2) (N := 7) hx hb hts hin2 tyX2 tyX2_ok nmX2 hown hK hP (tD _ _ _ _) hS ha2 rfl rfl 6 (by decide) (fk2_6 ha2) (hts _ (List.mem_of_getElem? (i := 3) rfl)) rfl (by decide +kernel) dX5_nextWord_71 (fun H locs hP hS => ?_)
        obtain ⟨μ13, eμ13⟩ : ∃ z : MM, z = wI μ12 a2 6 ((rI μ12 a2 6) + (1 : Int32)) := ⟨_, rfl⟩
        rw [← eμ13] at hP
        replace hm := bV_of hm eμ13
        refine lv_iload hx hb dX5_nextWord_74 (lv_at hl 0 rfl) ?_
        cases hm
        exact W.iret hx hb hr (fun t ht hW => ⟨⟨_, (), rfl, rfl, tPost_of hP ht⟩, hS.F ht⟩) hS.2.2 dX5_nextWord_76
      · rw [if_pos c10] at hm
        refine lv_iload_n hx hb dX5_nextWord_46 rfl (lv_at hl 0 rfl) ?_
        cases hm
        exact W.iret hx hb hr (fun t ht hW => ⟨⟨_, (), rfl, rfl, tPost_of hP ht⟩, hS.F ht⟩) hS.2.2 dX5_nextWord_47
    · rw [if_pos c4] at hm
      refine lv_iconst (v := (-1 : Int32)) hx hb dX5_nextWord_31 (by decide) ?_
      cases hm
      exact W.iret hx hb hr (fun t ht hW => ⟨⟨_, (), rfl, rfl, tPost_of hP ht⟩, hS.F ht⟩) hS.2.2 dX5_nextWord_32
  · rw [if_neg c1] at hm
    refine lv_aload_n hx hb dX5_nextWord_8 rfl (lv_at hl 1 rfl) ?_
    refine t_geti (C := RX0) (T := TX0) (N := 10) hx hb hts hin0 hown hK hP ha1 rfl rfl 8 (by decide) (fk0_8 ha1) (hts _ (List.mem_of_getElem? (i := 1) rfl)) dX5_nextWord_9 ?_
    refine lv_topi (fun x14 ex14 => ?_)
    replace hm := bV_of hm ex14
    refine lv_istore_n (lv' := [(3, .int x14), (0, .ref (base + q)), (1, .ref (base + a1)), (2, .ref (base + a2))]) hx hb dX5_nextWord_12 rfl hl (by decide) rfl (fun ls hl => ?_)
    refine lv_aload_n hx hb dX5_nextWord_13 rfl (lv_at hl 2 rfl) ?_
    refine lv_iconst (v := (-1 : Int32)) hx hb dX5_nextWord_14 (by decide) ?_
    refine t_put (C := RX0) (T := TX0) (N := 10) hx hb hts hin0 tyX0 tyX0_ok nmX0 hown hK hP (tD _ _ _ _) hS ha1 rfl rfl 8 (by decide) (fk0_8 ha1) (hts _ (List.mem_of_getElem? (i := 1) rfl)) rfl (by decide +kernel) dX5_nextWord_15 (fun H locs hP hS => ?_)
    obtain ⟨μ15, eμ15⟩ : ∃ z : MM, z = wI μ a1 8 (-1 : Int32) := ⟨_, rfl⟩
    rw [← eμ15] at hP
    replace hm := bV_of hm eμ15
    refine lv_iload_n hx hb dX5_nextWord_18 rfl (lv_at hl 0 rfl) ?_
    cases hm
    exact W.iret hx hb hr (fun t ht hW => ⟨⟨_, (), rfl, rfl, tPost_of hP ht⟩, hS.F ht⟩) hS.2.2 dX5_nextWord_19
abbrev rmX5_work : Room := { frames := 4, cells := 0, slots := 0, locals := 105 }
set_option maxHeartbeats 4000000 in
set_option maxRecDepth 100000 in
theorem mX5_work (l : Launch) (D : va_G) (cA : Nat → ClassId) (base sz : Nat) (μ : MM) {q : Nat} (hq : kc q = 5) (a1 : Int32) {r : Int32} {μ' : MM} (hm : X5_work q a1 μ = some (r, μ')) : Met l yX5_work wsX5_work rmX5_work (va_Pc [.ref (base + q), .int a1] (tPre D cA base sz μ)) (va_Qi (fun (x : Int32) (_ : Unit) => x = r) (fun _ => tPost D cA base μ') (tA base sz)) 0 0 (tA base sz) := by
  refine Met.ofW (cc := cX5_work) (maxL := 5) (ret := (some .int)) (by decide +kernel) rfl ?_
  intro p e s m args below meth c s₁ B hml hv
  obtain ⟨rfl, hsz, hP, hK, hN⟩ := hv
  have hx := B.exec
  have hb := B.bytes
  have hr := B.returns
  have hts := atoms_spec (ws := wsX5_work) B.pre
  have hown : s.vm.findClass RX5 = some m.cls := findClass_of_methodNamed B.named
  have hlocks := B.notSynchronized
  have hin0 : ∀ w ∈ wsX00, w ∈ wsX5_work := by decide +kernel
  have hin5 : ∀ w ∈ wsX50, w ∈ wsX5_work := by decide +kernel
  subst hsz
  have hS : va_S (tA base s.heap.size) s.heap s.heap [] := va_S.rf
  have hz : s.heap.size ≤ s.heap.size := Nat.le_refl _
  have hl := lv_entry ([.ref (base + q), .int a1]) (n := 5) (Nat.le_of_ble_eq_true rfl)
  rw [lg_entry_eq]
  generalize (lg_sl ([.ref (base + q), .int a1]) ++ List.replicate (5 - (lg_sl ([.ref (base + q), .int a1])).length) Slot.unset).toArray = ls at hl ⊢
  have hl : lv_has ls 5 [(0, .ref (base + q)), (1, .int a1)] := hl
  unfold X5_work at hm
  refine lv_aload_n hx hb dX5_work_0 rfl (lv_at hl 0 rfl) ?_
  refine t_getr (C := RX5) (T := TX5) (N := 9) hx hb hts hin5 hown hK hP hq rfl rfl 3 (by decide) (fr5_3 hq) (hts _ (List.mem_of_getElem? (i := 1) rfl)) dX5_work_1 ?_
  refine lv_iload_n hx hb dX5_work_4 rfl (lv_at hl 1 rfl) ?_
  obtain ⟨hg1, hm⟩ := gd_inv hm
  refine t_aald2 hx hb hK hP (kr5_3 hq) hg1 dX5_work_5 ?_
  refine lv_astore_n (lv' := [(2, .ref (base + (RF (RF q 3) a1.toNatClampNeg))), (0, .ref (base + q)), (1, .int a1)]) hx hb dX5_work_6 rfl hl (by decide) rfl (fun ls hl => ?_)
  refine lv_aload_n hx hb dX5_work_7 rfl (lv_at hl 1 rfl) ?_
  refine lv_iload_n hx hb dX5_work_8 rfl (lv_at hl 2 rfl) ?_
  obtain ⟨r2, hc3, hm⟩ := bO1_inv hm
  refine t_cVi (As := [.int a1]) (rest := []) (μ' := μ) (r := r2) ⟨hx, hb, hml, hown, hts⟩ (mX5_isAble l D cA base s.heap.size μ hq a1 hc3) (cwV 1 hts gX5_work_X5_isAble rfl rfl rfl (by decide +kernel) ⟨Nat.le_of_ble_eq_true rfl, Nat.le_of_ble_eq_true rfl⟩) (va_recv hK hP (q0 := q) rfl (tw_obj hq (by decide))) hK hN hP hS hz rfl hl.1 (Nat.le_of_ble_eq_true rfl) dX5_work_9 ⟨Nat.le_of_ble_eq_true rfl, Nat.le_of_ble_eq_true rfl⟩ rfl (fun H locs hP hS => ?_)
  refine lv_if_ne (tgt := 22) hx hb dX5_work_12 (by decide) (fun c4 => ?_) (fun c4 => ?_)
  · rw [if_neg c4] at hm
    refine lv_aload_n hx hb dX5_work_22 rfl (lv_at hl 1 rfl) ?_
    refine t_getr (C := RX5) (T := TX5) (N := 9) hx hb hts hin5 hown hK hP hq rfl rfl 4 (by decide) (fr5_4 hq) (hts _ (List.mem_of_getElem? (i := 2) rfl)) dX5_work_23 ?_
    refine lv_aload_n hx hb dX5_work_26 rfl (lv_at hl 0 rfl) ?_
    refine t_geti (C := RX0) (T := TX0) (N := 10) hx hb hts hin0 hown hK hP (ka102 (kr5_3 hq) hg1) rfl rfl 7 (by decide) (fk0_7 (ka102 (kr5_3 hq) hg1)) (hts _ (List.mem_of_getElem? (i := 3) rfl)) dX5_work_27 ?_
    obtain ⟨hg5, hm⟩ := gd_inv hm
    refine t_aald3 hx hb hK hP (kr5_4 hq) hg5 dX5_work_30 ?_
    refine lv_astore_n (lv' := [(3, .ref (base + (RF (RF q 4) (rI μ (RF (RF q 3) a1.toNatClampNeg) 7).toNatClampNeg))), (2, .ref (base + (RF (RF q 3) a1.toNatClampNeg))), (0, .ref (base + q)), (1, .int a1)]) hx hb dX5_work_31 rfl hl (by decide) rfl (fun ls hl => ?_)
    refine lv_aload_n hx hb dX5_work_32 rfl (lv_at hl 2 rfl) ?_
    refine lv_aload_n hx hb dX5_work_33 rfl (lv_at hl 1 rfl) ?_
    refine lv_aload_n hx hb dX5_work_34 rfl (lv_at hl 0 rfl) ?_
    obtain ⟨r6, μ7, hc8, hm⟩ := bO2_inv hm
    refine t_cVi (As := [.ref (base + (RF (RF q 3) a1.toNatClampNeg)), .ref (base + (RF (RF q 4) (rI μ (RF (RF q 3) a1.toNatClampNeg) 7).toNatClampNeg))]) (rest := []) (μ' := μ7) (r := r6) ⟨hx, hb, hml, hown, hts⟩ (mX5_nextWord l D cA base H.size μ hq (ka102 (kr5_3 hq) hg1) (ka103 (kr5_4 hq) hg5) hc8) (cwV 2 hts gX5_work_X5_nextWord rfl rfl rfl (by decide +kernel) ⟨Nat.le_of_ble_eq_true rfl, Nat.le_of_ble_eq_true rfl⟩) (va_recv hK hP (q0 := q) rfl (tw_obj hq (by decide))) hK hN hP hS hz rfl hl.1 (Nat.le_of_ble_eq_true rfl) dX5_work_35 ⟨Nat.le_of_ble_eq_true rfl, Nat.le_of_ble_eq_true rfl⟩ rfl (fun H locs hP hS => ?_)
    refine lv_istore (lv' := [(4, .int r6), (3, .ref (base + (RF (RF q 4) (rI μ (RF (RF q 3) a1.toNatClampNeg) 7).toNatClampNeg))), (2, .ref (base + (RF (RF q 3) a1.toNatClampNeg))), (0, .ref (base + q)), (1, .int a1)]) hx hb dX5_work_38 hl (by decide) rfl (fun ls hl => ?_)
    refine lv_iload hx hb dX5_work_40 (lv_at hl 0 rfl) ?_
    refine lv_iconst (v := (-1 : Int32)) hx hb dX5_work_42 (by decide) ?_
    refine lv_icmp_ne (tgt := 53) hx hb dX5_work_43 (by decide) (fun c9 => ?_) (fun c9 => ?_)
    · rw [if_neg c9] at hm
      refine lv_aload_n hx hb dX5_work_53 rfl (lv_at hl 2 rfl) ?_
      refine t_getr (C := RX0) (T := TX0) (N := 10) hx hb hts hin0 hown hK hP (ka102 (kr5_3 hq) hg1) rfl rfl 2 (by decide) (fr0_2 (ka102 (kr5_3 hq) hg1)) (hts _ (List.mem_of_getElem? (i := 4) rfl)) dX5_work_54 ?_
      refine lv_aload_n hx hb dX5_work_57 rfl (lv_at hl 1 rfl) ?_
      refine lv_iload hx hb dX5_work_58 (lv_at hl 0 rfl) ?_
      obtain ⟨⟨r10, μ11⟩, hc12⟩ : ∃ z, X2_utter (RF (RF q 4) (rI μ (RF (RF q 3) a1.toNatClampNeg) 7).toNatClampNeg) r6 μ7 = z := ⟨_, rfl⟩
      replace hm := bP_of hm hc12
      refine t_cVi (As := [.int r6]) (rest := [.ref (base + (RF (RF (RF q 3) a1.toNatClampNeg) 2))]) (μ' := μ11) (r := r10) ⟨hx, hb, hml, hown, hts⟩ (mX2_utter l D cA base H.size μ7 (ka103 (kr5_4 hq) hg5) r6 hc12) (cwV 1 hts gX5_work_X2_utter rfl rfl rfl (by decide +kernel) ⟨Nat.le_of_ble_eq_true rfl, Nat.le_of_ble_eq_true rfl⟩) (va_recv hK hP (q0 := RF (RF q 4) (rI μ (RF (RF q 3) a1.toNatClampNeg) 7).toNatClampNeg) rfl (tw_obj (ka103 (kr5_4 hq) hg5) (by decide))) hK hN hP hS hz rfl hl.1 (Nat.le_of_ble_eq_true rfl) dX5_work_60 ⟨Nat.le_of_ble_eq_true rfl, Nat.le_of_ble_eq_true rfl⟩ rfl (fun H locs hP hS => ?_)
      refine lv_aload_n hx hb dX5_work_63 rfl (lv_at hl 3 rfl) ?_
      refine t_geti (C := RX5) (T := TX5) (N := 9) hx hb hts hin5 hown hK hP hq rfl rfl 8 (by decide) (fk5_8 hq) (hts _ (List.mem_of_getElem? (i := 5) rfl)) dX5_work_64 ?_
      obtain ⟨μ13, hc14, hm⟩ := bO1_inv hm
      refine t_cVv (As := [.int r10, .int (rI μ11 q 8)]) (rest := []) (μ' := μ13) ⟨hx, hb, hml, hown, hts⟩ (mX4_add l D cA base H.size μ11 (kr0_2 (ka102 (kr5_3 hq) hg1)) r10 (rI μ11 q 8) hc14) (cwV 2 hts gX5_work_X4_add rfl rfl rfl (by decide +kernel) ⟨Nat.le_of_ble_eq_true rfl, Nat.le_of_ble_eq_true rfl⟩) (va_recv hK hP (q0 := RF (RF (RF q 3) a1.toNatClampNeg) 2) rfl (tw_obj (kr0_2 (ka102 (kr5_3 hq) hg1)) (by decide))) hK hN hP hS hz rfl hl.1 (Nat.le_of_ble_eq_true rfl) dX5_work_67 ⟨Nat.le_of_ble_eq_true rfl, Nat.le_of_ble_eq_true rfl⟩ rfl (fun H locs hP hS => ?_)
      refine lv_iconst (v := (1 : Int32)) hx hb dX5_work_70 (by decide) ?_
      cases hm
      exact W.iret hx hb hr (fun t ht hW => ⟨⟨_, (), rfl, rfl, tPost_of hP ht⟩, hS.F ht⟩) hS.2.2 dX5_work_71
    · rw [if_pos c9] at hm
      refine lv_aload_n hx hb dX5_work_46 rfl (lv_at hl 1 rfl) ?_
      refine lv_iconst (v := (1 : Int32)) hx hb dX5_work_47 (by decide) ?_
      obtain ⟨μ15, hc16⟩ : ∃ z, X2_recover (RF (RF q 4) (rI μ (RF (RF q 3) a1.toNatClampNeg) 7).toNatClampNeg) (1 : Int32) μ7 = z := ⟨_, rfl⟩
      replace hm := bV_of hm hc16.symm
      refine t_cVv (As := [.int (1 : Int32)]) (rest := []) (μ' := μ15) ⟨hx, hb, hml, hown, hts⟩ (mX2_recover l D cA base H.size μ7 (ka103 (kr5_4 hq) hg5) (1 : Int32) hc16) (cwV 1 hts gX5_work_X2_recover rfl rfl rfl (by decide +kernel) ⟨Nat.le_of_ble_eq_true rfl, Nat.le_of_ble_eq_true rfl⟩) (va_recv hK hP (q0 := RF (RF q 4) (rI μ (RF (RF q 3) a1.toNatClampNeg) 7).toNatClampNeg) rfl (tw_obj (ka103 (kr5_4 hq) hg5) (by decide))) hK hN hP hS hz rfl hl.1 (Nat.le_of_ble_eq_true rfl) dX5_work_48 ⟨Nat.le_of_ble_eq_true rfl, Nat.le_of_ble_eq_true rfl⟩ rfl (fun H locs hP hS => ?_)
      refine lv_iconst (v := (0 : Int32)) hx hb dX5_work_51 (by decide) ?_
      cases hm
      exact W.iret hx hb hr (fun t ht hW => ⟨⟨_, (), rfl, rfl, tPost_of hP ht⟩, hS.F ht⟩) hS.2.2 dX5_work_52
  · rw [if_pos c4] at hm
    refine lv_aload_n hx hb dX5_work_15 rfl (lv_at hl 1 rfl) ?_
    refine lv_aload_n hx hb dX5_work_16 rfl (lv_at hl 0 rfl) ?_
    obtain ⟨μ17, hc18, hm⟩ := bO1_inv hm
    refine t_cVv (As := [.ref (base + (RF (RF q 3) a1.toNatClampNeg))]) (rest := []) (μ' := μ17) ⟨hx, hb, hml, hown, hts⟩ (mX5_workUnable l D cA base H.size μ hq (ka102 (kr5_3 hq) hg1) hc18) (cwV 1 hts gX5_work_X5_workUnable rfl rfl rfl (by decide +kernel) ⟨Nat.le_of_ble_eq_true rfl, Nat.le_of_ble_eq_true rfl⟩) (va_recv hK hP (q0 := q) rfl (tw_obj hq (by decide))) hK hN hP hS hz rfl hl.1 (Nat.le_of_ble_eq_true rfl) dX5_work_17 ⟨Nat.le_of_ble_eq_true rfl, Nat.le_of_ble_eq_true rfl⟩ rfl (fun H locs hP hS => ?_)
    refine lv_iconst (v := (0 : Int32)) hx hb dX5_work_20 (by decide) ?_
    cases hm
    exact W.iret hx hb hr (fun t ht hW => ⟨⟨_, (), rfl, rfl, tPost_of hP ht⟩, hS.F ht⟩) hS.2.2 dX5_work_21
abbrev rmX5_letBoothsHear : Room := { frames := 3, cells := 0, slots := 0, locals := 64 }
set_option maxHeartbeats 4000000 in
set_option maxRecDepth 100000 in
theorem lX5_letBoothsHear_L2 {p : Program} {l : Launch} {e : Env} {s : State} {m : MethodId} {args : Array Value} {below : List Frame} {meth : Method} {c : Code} {Q : State → Prop} {D : va_G} {cA : Nat → ClassId} {base sz0 : Nat} {H0 : Heap} (FX : CallFix p m c cX5_letBoothsHear 3 s args wsX5_letBoothsHear RX5) (hK : va_K D vwCl (tys cA) s) (hN : tN s) (hz : sz0 ≤ H0.size) {o0 : Nat} (ho0 : kc o0 = 5) {cells slots : Nat} (hcs : cells ≤ 0 ∧ slots ≤ 0) :
    ∀ (n : Nat) (v1 : Int32) (μ : MM) (H : Heap) (locs : List Loc) (ls : Array Slot) (μ' : MM), X5_letBoothsHear_L2 o0 n v1 μ = some μ' → va_P D vwCl (tw base cA μ []) H → va_S (tA base sz0) H0 H locs → lv_has ls 3 [(0, .ref (base + o0)), (1, .int v1)] → (∀ (H : Heap) (locs : List Loc) (ls : Array Slot), va_P D vwCl (tw base cA μ' []) H → va_S (tA base sz0) H0 H locs → lv_has ls 3 [] → W p l e rmX5_letBoothsHear s m args below meth c H locs cells slots Q (F0 m 56 ls [])) → W p l e rmX5_letBoothsHear s m args below meth c H locs cells slots Q (F0 m 2 ls []) := by
  obtain ⟨hx, hb, hml, hown, hts⟩ := FX
  have hin0 : ∀ w ∈ wsX00, w ∈ wsX5_letBoothsHear := by decide +kernel
  have hin5 : ∀ w ∈ wsX50, w ∈ wsX5_letBoothsHear := by decide +kernel
  intro n
  induction n with
  | zero =>
    intro v1 μ H locs ls μ' hm
    cases hm
  | succ n ih =>
    intro v1 μ H locs ls μ' hm hP hS hl K
    rw [X5_letBoothsHear_L2_s] at hm
    refine lv_iload_n hx hb dX5_letBoothsHear_2 rfl (lv_at hl 1 rfl) ?_
    refine lv_aload_n hx hb dX5_letBoothsHear_3 rfl (lv_at hl 0 rfl) ?_
    refine t_geti (C := RX5) (T := TX5) (N := 9) hx hb hts hin5 hown hK hP ho0 rfl rfl 6 (by decide) (fk5_6 ho0) (hts _ (List.mem_of_getElem? (i := 1) rfl)) dX5_letBoothsHear_4 ?_
    refine lv_icmp_ge (tgt := 56) hx hb dX5_letBoothsHear_7 (by decide) (fun c1 => ?_) (fun c1 => ?_)
    · rw [if_pos c1] at hm
      cases hm
      exact K _ _ _ hP hS (lv_sub hl [] rfl)
    · rw [if_neg c1] at hm
      refine lv_aload_n hx hb dX5_letBoothsHear_10 rfl (lv_at hl 0 rfl) ?_
      refine lv_aload_n hx hb dX5_letBoothsHear_11 rfl (lv_at hl 0 rfl) ?_
      refine t_getr (C := RX5) (T := TX5) (N := 9) hx hb hts hin5 hown hK hP ho0 rfl rfl 3 (by decide) (fr5_3 ho0) (hts _ (List.mem_of_getElem? (i := 2) rfl)) dX5_letBoothsHear_12 ?_
      refine lv_iload_n hx hb dX5_letBoothsHear_15 rfl (lv_at hl 1 rfl) ?_
      obtain ⟨hg2, hm⟩ := gd_inv hm
      refine t_aald2 hx hb hK hP (kr5_3 ho0) hg2 dX5_letBoothsHear_16 ?_
      refine t_geti (C := RX0) (T := TX0) (N := 10) hx hb hts hin0 hown hK hP (ka102 (kr5_3 ho0) hg2) rfl rfl 6 (by decide) (fk0_6 (ka102 (kr5_3 ho0) hg2)) (hts _ (List.mem_of_getElem? (i := 3) rfl)) dX5_letBoothsHear_17 ?_
      obtain ⟨r3, hc4, hm⟩ := bO1_inv hm
      refine t_cVr (As := [.int (rI μ (RF (RF o0 3) v1.toNatClampNeg) 6)]) (rest := []) (μ' := μ) (r := r3) ⟨hx, hb, hml, hown, hts⟩ (mX5_speechOf l D cA base H.size μ ho0 (rI μ (RF (RF o0 3) v1.toNatClampNeg) 6) hc4) (cwV 1 hts gX5_letBoothsHear_X5_speechOf rfl rfl rfl (by decide +kernel) ⟨Nat.le_of_ble_eq_true rfl, Nat.le_of_ble_eq_true rfl⟩) (va_recv hK hP (q0 := o0) rfl (tw_obj ho0 (by decide))) hK hN hP hS hz rfl hl.1 (Nat.le_of_ble_eq_true rfl) dX5_letBoothsHear_20 hcs rfl (fun H locs hP hS => ?_)
      refine lv_aload_n hx hb dX5_letBoothsHear_23 rfl (lv_at hl 0 rfl) ?_
      refine t_geti (C := RX5) (T := TX5) (N := 9) hx hb hts hin5 hown hK hP ho0 rfl rfl 8 (by decide) (fk5_8 ho0) (hts _ (List.mem_of_getElem? (i := 4) rfl)) dX5_letBoothsHear_24 ?_
      obtain ⟨r5, hc6, hm⟩ := bO1_inv hm
      refine t_cVi (As := [.int (rI μ o0 8)]) (rest := []) (μ' := μ) (r := r5) ⟨hx, hb, hml, hown, hts⟩ (mX4_wordOfTick l D cA base H.size μ (ktX5_speechOf ho0 hc4) (rI μ o0 8) hc6) (cwV 1 hts gX5_letBoothsHear_X4_wordOfTick rfl rfl rfl (by decide +kernel) ⟨Nat.le_of_ble_eq_true rfl, Nat.le_of_ble_eq_true rfl⟩) (va_recv hK hP (q0 := r3) rfl (tw_obj (ktX5_speechOf ho0 hc4) (by decide))) hK hN hP hS hz rfl hl.1 (Nat.le_of_ble_eq_true rfl) dX5_letBoothsHear_27 hcs rfl (fun H locs hP hS => ?_)
      refine lv_istore_n (lv' := [(2, .int r5), (0, .ref (base + o0)), (1, .int v1)]) hx hb dX5_letBoothsHear_30 rfl hl (by decide) rfl (fun ls hl => ?_)
      refine lv_iload_n hx hb dX5_letBoothsHear_31 rfl (lv_at hl 0 rfl) ?_
      refine lv_iconst (v := (-1 : Int32)) hx hb dX5_letBoothsHear_32 (by decide) ?_
      refine lv_icmp_eq (tgt := 50) hx hb dX5_letBoothsHear_33 (by decide) (fun c7 => ?_) (fun c7 => ?_)
      · rw [if_pos c7] at hm
        obtain ⟨x8, ex8⟩ : ∃ z : Int32, z = v1 + (1 : Int32) := ⟨_, rfl⟩
        replace hm := bV_of hm ex8
        refine lv_iinc (v := x8) (lv' := [(1, .int x8), (2, .int r5), (0, .ref (base + o0))]) hx hb dX5_letBoothsHear_50 hl (k := 2) rfl (by rw [ex8]; rfl) (by decide) rfl (fun ls hl => ?_)
        refine lv_goto (tgt := 2) hx hb dX5_letBoothsHear_53 (by decide) ?_
        exact ih x8 μ _ _ _ μ' hm hP hS (lv_sub hl [2, 0] rfl) K
      · rw [if_neg c7] at hm
        refine lv_aload_n hx hb dX5_letBoothsHear_36 rfl (lv_at hl 1 rfl) ?_
        refine t_getr (C := RX5) (T := TX5) (N := 9) hx hb hts hin5 hown hK hP ho0 rfl rfl 3 (by decide) (fr5_3 ho0) (hts _ (List.mem_of_getElem? (i := 2) rfl)) dX5_letBoothsHear_37 ?_
        refine lv_iload_n hx hb dX5_letBoothsHear_40 rfl (lv_at hl 2 rfl) ?_
        obtain ⟨hg9, hm⟩ := gd_inv hm
        refine t_aald2 hx hb hK hP (kr5_3 ho0) hg9 dX5_letBoothsHear_41 ?_
        refine lv_iload_n hx hb dX5_letBoothsHear_42 rfl (lv_at hl 0 rfl) ?_
        refine lv_aload_n hx hb dX5_letBoothsHear_43 rfl (lv_at hl 1 rfl) ?_
        refine t_geti (C := RX5) (T := TX5) (N := 9) hx hb hts hin5 hown hK hP ho0 rfl rfl 8 (by decide) (fk5_8 ho0) (hts _ (List.mem_of_getElem? (i := 4) rfl)) dX5_letBoothsHear_44 ?_
        obtain ⟨μ10, hc11, hm⟩ := bO1_inv hm
        refine t_cVv (As := [.int r5, .int (rI μ o0 8)]) (rest := []) (μ' := μ10) ⟨hx, hb, hml, hown, hts⟩ (mX0_hear l D cA base H.size μ (ka102 (kr5_3 ho0) hg9) r5 (rI μ o0 8) hc11) (cwV 2 hts gX5_letBoothsHear_X0_hear rfl rfl rfl (by decide +kernel) ⟨Nat.le_of_ble_eq_true rfl, Nat.le_of_ble_eq_true rfl⟩) (va_recv hK hP (q0 := RF (RF o0 3) v1.toNatClampNeg) rfl (tw_obj (ka102 (kr5_3 ho0) hg9) (by decide))) hK hN hP hS hz rfl hl.1 (Nat.le_of_ble_eq_true rfl) dX5_letBoothsHear_47 hcs rfl (fun H locs hP hS => ?_)
        obtain ⟨x12, ex12⟩ : ∃ z : Int32, z = v1 + (1 : Int32) := ⟨_, rfl⟩
        replace hm := bV_of hm ex12
        refine lv_iinc (v := x12) (lv' := [(1, .int x12), (2, .int r5), (0, .ref (base + o0))]) hx hb dX5_letBoothsHear_50 hl (k := 2) rfl (by rw [ex12]; rfl) (by decide) rfl (fun ls hl => ?_)
        refine lv_goto (tgt := 2) hx hb dX5_letBoothsHear_53 (by decide) ?_
        exact ih x12 μ10 _ _ _ μ' hm hP hS (lv_sub hl [2, 0] rfl) K
set_option maxHeartbeats 4000000 in
set_option maxRecDepth 100000 in
theorem mX5_letBoothsHear (l : Launch) (D : va_G) (cA : Nat → ClassId) (base sz : Nat) (μ : MM) {q : Nat} (hq : kc q = 5) {μ' : MM} (hm : X5_letBoothsHear q μ = some μ') : Met l yX5_letBoothsHear wsX5_letBoothsHear rmX5_letBoothsHear (va_Pc [.ref (base + q)] (tPre D cA base sz μ)) (va_Qv (fun _ : Unit => True) (fun _ => tPost D cA base μ') (tA base sz)) 0 0 (tA base sz) := by
  refine Met.ofW (cc := cX5_letBoothsHear) (maxL := 3) (ret := none) (by decide +kernel) rfl ?_
  intro p e s m args below meth c s₁ B hml hv
  obtain ⟨rfl, hsz, hP, hK, hN⟩ := hv
  have hx := B.exec
  have hb := B.bytes
  have hr := B.returns
  have hts := atoms_spec (ws := wsX5_letBoothsHear) B.pre
  have hown : s.vm.findClass RX5 = some m.cls := findClass_of_methodNamed B.named
  have hlocks := B.notSynchronized
  subst hsz
  have hS : va_S (tA base s.heap.size) s.heap s.heap [] := va_S.rf
  have hz : s.heap.size ≤ s.heap.size := Nat.le_refl _
  have hl := lv_entry ([.ref (base + q)]) (n := 3) (Nat.le_of_ble_eq_true rfl)
  rw [lg_entry_eq]
  generalize (lg_sl ([.ref (base + q)]) ++ List.replicate (3 - (lg_sl ([.ref (base + q)])).length) Slot.unset).toArray = ls at hl ⊢
  have hl : lv_has ls 3 [(0, .ref (base + q))] := hl
  unfold X5_letBoothsHear at hm
  refine lv_iconst (v := (0 : Int32)) hx hb dX5_letBoothsHear_0 (by decide) ?_
  refine lv_istore_n (lv' := [(1, .int (0 : Int32)), (0, .ref (base + q))]) hx hb dX5_letBoothsHear_1 rfl hl (by decide) rfl (fun ls hl => ?_)
  obtain ⟨μ13, hc14, hm⟩ := bO1_inv hm
  refine lX5_letBoothsHear_L2 ⟨hx, hb, hml, hown, hts⟩ hK hN hz hq ⟨Nat.le_of_ble_eq_true rfl, Nat.le_of_ble_eq_true rfl⟩ 1000 (0 : Int32) μ _ _ _ μ13 hc14 hP hS (lv_sub hl [1, 0] rfl) ?_
  intro H locs ls hP hS hl
  cases hm
  exact W.vret hx hb hr (fun t ht hW => ⟨⟨(), rfl, trivial, tPost_of hP ht⟩, hS.F ht⟩) hS.2.2 dX5_letBoothsHear_56
abbrev rmX5_letOthersRecover : Room := { frames := 2, cells := 0, slots := 0, locals := 42 }
set_option maxHeartbeats 4000000 in
set_option maxRecDepth 100000 in
theorem lX5_letOthersRecover_L2 {p : Program} {l : Launch} {e : Env} {s : State} {m : MethodId} {args : Array Value} {below : List Frame} {meth : Method} {c : Code} {Q : State → Prop} {D : va_G} {cA : Nat → ClassId} {base sz0 : Nat} {H0 : Heap} (FX : CallFix p m c cX5_letOthersRecover 2 s args wsX5_letOthersRecover RX5) (hK : va_K D vwCl (tys cA) s) (hN : tN s) (hz : sz0 ≤ H0.size) {o0 : Nat} (ho0 : kc o0 = 5) {cells slots : Nat} (hcs : cells ≤ 0 ∧ slots ≤ 0) :
    ∀ (n : Nat) (v1 : Int32) (μ : MM) (H : Heap) (locs : List Loc) (ls : Array Slot) (μ' : MM), X5_letOthersRecover_L2 o0 n v1 μ = some μ' → va_P D vwCl (tw base cA μ []) H → va_S (tA base sz0) H0 H locs → lv_has ls 2 [(0, .ref (base + o0)), (1, .int v1)] → (∀ (H : Heap) (locs : List Loc) (ls : Array Slot), va_P D vwCl (tw base cA μ' []) H → va_S (tA base sz0) H0 H locs → lv_has ls 2 [] → W p l e rmX5_letOthersRecover s m args below meth c H locs cells slots Q (F0 m 39 ls [])) → W p l e rmX5_letOthersRecover s m args below meth c H locs cells slots Q (F0 m 2 ls []) := by
  obtain ⟨hx, hb, hml, hown, hts⟩ := FX
  have hin2 : ∀ w ∈ wsX20, w ∈ wsX5_letOthersRecover := by decide +kernel
  have hin5 : ∀ w ∈ wsX50, w ∈ wsX5_letOthersRecover := by decide +kernel
  intro n
  induction n with
  | zero =>
    intro v1 μ H locs ls μ' hm
    cases hm
  | succ n ih =>
    intro v1 μ H locs ls μ' hm hP hS hl K
    rw [X5_letOthersRecover_L2_s] at hm
    refine lv_iload_n hx hb dX5_letOthersRecover_2 rfl (lv_at hl 1 rfl) ?_
    refine lv_aload_n hx hb dX5_letOthersRecover_3 rfl (lv_at hl 0 rfl) ?_
    refine t_geti (C := RX5) (T := TX5) (N := 9) hx hb hts hin5 hown hK hP ho0 rfl rfl 7 (by decide) (fk5_7 ho0) (hts _ (List.mem_of_getElem? (i := 1) rfl)) dX5_letOthersRecover_4 ?_
    refine lv_icmp_ge (tgt := 39) hx hb dX5_letOthersRecover_7 (by decide) (fun c1 => ?_) (fun c1 => ?_)
    · rw [if_pos c1] at hm
      cases hm
      exact K _ _ _ hP hS (lv_sub hl [] rfl)
    · rw [if_neg c1] at hm
      refine lv_aload_n hx hb dX5_letOthersRecover_10 rfl (lv_at hl 0 rfl) ?_
      refine t_getr (C := RX5) (T := TX5) (N := 9) hx hb hts hin5 hown hK hP ho0 rfl rfl 4 (by decide) (fr5_4 ho0) (hts _ (List.mem_of_getElem? (i := 2) rfl)) dX5_letOthersRecover_11 ?_
      refine lv_iload_n hx hb dX5_letOthersRecover_14 rfl (lv_at hl 1 rfl) ?_
      obtain ⟨hg2, hm⟩ := gd_inv hm
      refine t_aald3 hx hb hK hP (kr5_4 ho0) hg2 dX5_letOthersRecover_15 ?_
      refine t_geti (C := RX2) (T := TX2) (N := 7) hx hb hts hin2 hown hK hP (ka103 (kr5_4 ho0) hg2) rfl rfl 2 (by decide) (fk2_2 (ka103 (kr5_4 ho0) hg2)) (hts _ (List.mem_of_getElem? (i := 3) rfl)) dX5_letOthersRecover_16 ?_
      refine lv_iconst (v := (-1 : Int32)) hx hb dX5_letOthersRecover_19 (by decide) ?_
      refine lv_icmp_ne (tgt := 33) hx hb dX5_letOthersRecover_20 (by decide) (fun c3 => ?_) (fun c3 => ?_)
      · rw [if_neg c3] at hm
        obtain ⟨x4, ex4⟩ : ∃ z : Int32, z = v1 + (1 : Int32) := ⟨_, rfl⟩
        replace hm := bV_of hm ex4
        refine lv_iinc (v := x4) (lv' := [(1, .int x4), (0, .ref (base + o0))]) hx hb dX5_letOthersRecover_33 hl (k := 1) rfl (by rw [ex4]; rfl) (by decide) rfl (fun ls hl => ?_)
        refine lv_goto (tgt := 2) hx hb dX5_letOthersRecover_36 (by decide) ?_
        exact ih x4 μ _ _ _ μ' hm hP hS (lv_sub hl [1, 0] rfl) K
      · rw [if_pos c3] at hm
        refine lv_aload_n hx hb dX5_letOthersRecover_23 rfl (lv_at hl 0 rfl) ?_
        refine t_getr (C := RX5) (T := TX5) (N := 9) hx hb hts hin5 hown hK hP ho0 rfl rfl 4 (by decide) (fr5_4 ho0) (hts _ (List.mem_of_getElem? (i := 2) rfl)) dX5_letOthersRecover_24 ?_
        refine lv_iload_n hx hb dX5_letOthersRecover_27 rfl (lv_at hl 1 rfl) ?_
        obtain ⟨hg5, hm⟩ := gd_inv hm
        refine t_aald3 hx hb hK hP (kr5_4 ho0) hg5 dX5_letOthersRecover_28 ?_
        refine lv_iconst (v := (2 : Int32)) hx hb dX5_letOthersRecover_29 (by decide) ?_
        obtain ⟨μ6, hc7⟩ : ∃ z, X2_recover (RF (RF o0 4) v1.toNatClampNeg) (2 : Int32) μ = z := ⟨_, rfl⟩
        replace hm := bV_of hm hc7.symm
        refine t_cVv (As := [.int (2 : Int32)]) (rest := []) (μ' := μ6) ⟨hx, hb, hml, hown, hts⟩ (mX2_recover l D cA base H.size μ (ka103 (kr5_4 ho0) hg5) (2 : Int32) hc7) (cwV 1 hts gX5_letOthersRecover_X2_recover rfl rfl rfl (by decide +kernel) ⟨Nat.le_of_ble_eq_true rfl, Nat.le_of_ble_eq_true rfl⟩) (va_recv hK hP (q0 := RF (RF o0 4) v1.toNatClampNeg) rfl (tw_obj (ka103 (kr5_4 ho0) hg5) (by decide))) hK hN hP hS hz rfl hl.1 (Nat.le_of_ble_eq_true rfl) dX5_letOthersRecover_30 hcs rfl (fun H locs hP hS => ?_)
        obtain ⟨x8, ex8⟩ : ∃ z : Int32, z = v1 + (1 : Int32) := ⟨_, rfl⟩
        replace hm := bV_of hm ex8
        refine lv_iinc (v := x8) (lv' := [(1, .int x8), (0, .ref (base + o0))]) hx hb dX5_letOthersRecover_33 hl (k := 1) rfl (by rw [ex8]; rfl) (by decide) rfl (fun ls hl => ?_)
        refine lv_goto (tgt := 2) hx hb dX5_letOthersRecover_36 (by decide) ?_
        exact ih x8 μ6 _ _ _ μ' hm hP hS (lv_sub hl [1, 0] rfl) K
set_option maxHeartbeats 4000000 in
set_option maxRecDepth 100000 in
theorem mX5_letOthersRecover (l : Launch) (D : va_G) (cA : Nat → ClassId) (base sz : Nat) (μ : MM) {q : Nat} (hq : kc q = 5) {μ' : MM} (hm : X5_letOthersRecover q μ = some μ') : Met l yX5_letOthersRecover wsX5_letOthersRecover rmX5_letOthersRecover (va_Pc [.ref (base + q)] (tPre D cA base sz μ)) (va_Qv (fun _ : Unit => True) (fun _ => tPost D cA base μ') (tA base sz)) 0 0 (tA base sz) := by
  refine Met.ofW (cc := cX5_letOthersRecover) (maxL := 2) (ret := none) (by decide +kernel) rfl ?_
  intro p e s m args below meth c s₁ B hml hv
  obtain ⟨rfl, hsz, hP, hK, hN⟩ := hv
  have hx := B.exec
  have hb := B.bytes
  have hr := B.returns
  have hts := atoms_spec (ws := wsX5_letOthersRecover) B.pre
  have hown : s.vm.findClass RX5 = some m.cls := findClass_of_methodNamed B.named
  have hlocks := B.notSynchronized
  subst hsz
  have hS : va_S (tA base s.heap.size) s.heap s.heap [] := va_S.rf
  have hz : s.heap.size ≤ s.heap.size := Nat.le_refl _
  have hl := lv_entry ([.ref (base + q)]) (n := 2) (Nat.le_of_ble_eq_true rfl)
  rw [lg_entry_eq]
  generalize (lg_sl ([.ref (base + q)]) ++ List.replicate (2 - (lg_sl ([.ref (base + q)])).length) Slot.unset).toArray = ls at hl ⊢
  have hl : lv_has ls 2 [(0, .ref (base + q))] := hl
  unfold X5_letOthersRecover at hm
  refine lv_iconst (v := (0 : Int32)) hx hb dX5_letOthersRecover_0 (by decide) ?_
  refine lv_istore_n (lv' := [(1, .int (0 : Int32)), (0, .ref (base + q))]) hx hb dX5_letOthersRecover_1 rfl hl (by decide) rfl (fun ls hl => ?_)
  obtain ⟨μ9, hc10, hm⟩ := bO1_inv hm
  refine lX5_letOthersRecover_L2 ⟨hx, hb, hml, hown, hts⟩ hK hN hz hq ⟨Nat.le_of_ble_eq_true rfl, Nat.le_of_ble_eq_true rfl⟩ 1000 (0 : Int32) μ _ _ _ μ9 hc10 hP hS (lv_sub hl [1, 0] rfl) ?_
  intro H locs ls hP hS hl
  cases hm
  exact W.vret hx hb hr (fun t ht hW => ⟨⟨(), rfl, trivial, tPost_of hP ht⟩, hS.F ht⟩) hS.2.2 dX5_letOthersRecover_39
abbrev rmX5_goOn : Room := { frames := 5, cells := 0, slots := 0, locals := 129 }
set_option maxHeartbeats 4000000 in
set_option maxRecDepth 100000 in
theorem lX5_goOn_L16 {p : Program} {l : Launch} {e : Env} {s : State} {m : MethodId} {args : Array Value} {below : List Frame} {meth : Method} {c : Code} {Q : State → Prop} {D : va_G} {cA : Nat → ClassId} {base sz0 : Nat} {H0 : Heap} (FX : CallFix p m c cX5_goOn 5 s args wsX5_goOn RX5) (hK : va_K D vwCl (tys cA) s) (hN : tN s) (hz : sz0 ≤ H0.size) {o0 : Nat} (ho0 : kc o0 = 5) (b1 : Int32) (b3 : Int32) {cells slots : Nat} (hcs : cells ≤ 0 ∧ slots ≤ 0) :
    ∀ (n : Nat) (v2 : Int32) (v4 : Int32) (μ : MM) (H : Heap) (locs : List Loc) (ls : Array Slot) (w2 : Int32) (μ' : MM), X5_goOn_L16 o0 b1 b3 n v2 v4 μ = some (w2, μ') → va_P D vwCl (tw base cA μ []) H → va_S (tA base sz0) H0 H locs → lv_has ls 5 [(0, .ref (base + o0)), (1, .int b1), (3, .int b3), (2, .int v2), (4, .int v4)] → (∀ (H : Heap) (locs : List Loc) (ls : Array Slot), va_P D vwCl (tw base cA μ' []) H → va_S (tA base sz0) H0 H locs → lv_has ls 5 [(0, .ref (base + o0)), (1, .int b1), (3, .int b3), (2, .int w2)] → W p l e rmX5_goOn s m args below meth c H locs cells slots Q (F0 m 40 ls [])) → W p l e rmX5_goOn s m args below meth c H locs cells slots Q (F0 m 16 ls []) := by
  obtain ⟨hx, hb, hml, hown, hts⟩ := FX
  have hin5 : ∀ w ∈ wsX50, w ∈ wsX5_goOn := by decide +kernel
  intro n
  induction n with
  | zero =>
    intro v2 v4 μ H locs ls w2 μ' hm
    cases hm
  | succ n ih =>
    intro v2 v4 μ H locs ls w2 μ' hm hP hS hl K
    rw [X5_goOn_L16_s] at hm
    refine lv_iload hx hb dX5_goOn_16 (lv_at hl 4 rfl) ?_
    refine lv_aload_n hx hb dX5_goOn_18 rfl (lv_at hl 0 rfl) ?_
    refine t_geti (C := RX5) (T := TX5) (N := 9) hx hb hts hin5 hown hK hP ho0 rfl rfl 6 (by decide) (fk5_6 ho0) (hts _ (List.mem_of_getElem? (i := 1) rfl)) dX5_goOn_19 ?_
    refine lv_icmp_ge (tgt := 40) hx hb dX5_goOn_22 (by decide) (fun c4 => ?_) (fun c4 => ?_)
    · rw [if_pos c4] at hm
      cases hm
      exact K _ _ _ hP hS (lv_sub hl [0, 1, 2, 3] rfl)
    · rw [if_neg c4] at hm
      refine lv_iload_n hx hb dX5_goOn_25 rfl (lv_at hl 3 rfl) ?_
      refine lv_aload_n hx hb dX5_goOn_26 rfl (lv_at hl 0 rfl) ?_
      refine lv_iload hx hb dX5_goOn_27 (lv_at hl 4 rfl) ?_
      obtain ⟨r5, μ6, hc7, hm⟩ := bO2_inv hm
      refine t_cVi (As := [.int v4]) (rest := [.int v2]) (μ' := μ6) (r := r5) ⟨hx, hb, hml, hown, hts⟩ (mX5_work l D cA base H.size μ ho0 v4 hc7) (cwV 1 hts gX5_goOn_X5_work rfl rfl rfl (by decide +kernel) ⟨Nat.le_of_ble_eq_true rfl, Nat.le_of_ble_eq_true rfl⟩) (va_recv hK hP (q0 := o0) rfl (tw_obj ho0 (by decide))) hK hN hP hS hz rfl hl.1 (Nat.le_of_ble_eq_true rfl) dX5_goOn_29 hcs rfl (fun H locs hP hS => ?_)
      refine lv_iadd hx hb dX5_goOn_32 ?_
      refine lv_topi (fun x8 ex8 => ?_)
      replace hm := bV_of hm ex8
      refine lv_istore_n (lv' := [(2, .int x8), (0, .ref (base + o0)), (1, .int b1), (3, .int b3), (4, .int v4)]) hx hb dX5_goOn_33 rfl hl (by decide) rfl (fun ls hl => ?_)
      obtain ⟨x9, ex9⟩ : ∃ z : Int32, z = v4 + (1 : Int32) := ⟨_, rfl⟩
      replace hm := bV_of hm ex9
      refine lv_iinc (v := x9) (lv' := [(4, .int x9), (2, .int x8), (0, .ref (base + o0)), (1, .int b1), (3, .int b3)]) hx hb dX5_goOn_34 hl (k := 4) rfl (by rw [ex9]; rfl) (by decide) rfl (fun ls hl => ?_)
      refine lv_goto (tgt := 16) hx hb dX5_goOn_37 (by decide) ?_
      exact ih x8 x9 μ6 _ _ _ w2 μ' hm hP hS (lv_sub hl [2, 3, 4, 1, 0] rfl) K
set_option maxHeartbeats 4000000 in
set_option maxRecDepth 100000 in
theorem lX5_goOn_L4 {p : Program} {l : Launch} {e : Env} {s : State} {m : MethodId} {args : Array Value} {below : List Frame} {meth : Method} {c : Code} {Q : State → Prop} {D : va_G} {cA : Nat → ClassId} {base sz0 : Nat} {H0 : Heap} (FX : CallFix p m c cX5_goOn 5 s args wsX5_goOn RX5) (hK : va_K D vwCl (tys cA) s) (hN : tN s) (hz : sz0 ≤ H0.size) {o0 : Nat} (ho0 : kc o0 = 5) (b1 : Int32) {cells slots : Nat} (hcs : cells ≤ 0 ∧ slots ≤ 0) :
    ∀ (n : Nat) (v2 : Int32) (v3 : Int32) (μ : MM) (H : Heap) (locs : List Loc) (ls : Array Slot) (w2 : Int32) (μ' : MM), X5_goOn_L4 o0 b1 n v2 v3 μ = some (w2, μ') → va_P D vwCl (tw base cA μ []) H → va_S (tA base sz0) H0 H locs → lv_has ls 5 [(0, .ref (base + o0)), (1, .int b1), (2, .int v2), (3, .int v3)] → (∀ (H : Heap) (locs : List Loc) (ls : Array Slot), va_P D vwCl (tw base cA μ' []) H → va_S (tA base sz0) H0 H locs → lv_has ls 5 [(2, .int w2)] → W p l e rmX5_goOn s m args below meth c H locs cells slots Q (F0 m 64 ls [])) → W p l e rmX5_goOn s m args below meth c H locs cells slots Q (F0 m 4 ls []) := by
  obtain ⟨hx, hb, hml, hown, hts⟩ := FX
  have hin5 : ∀ w ∈ wsX50, w ∈ wsX5_goOn := by decide +kernel
  intro n
  induction n with
  | zero =>
    intro v2 v3 μ H locs ls w2 μ' hm
    cases hm
  | succ n ih =>
    intro v2 v3 μ H locs ls w2 μ' hm hP hS hl K
    rw [X5_goOn_L4_s] at hm
    refine lv_iload_n hx hb dX5_goOn_4 rfl (lv_at hl 3 rfl) ?_
    refine lv_iload_n hx hb dX5_goOn_5 rfl (lv_at hl 1 rfl) ?_
    refine lv_icmp_ge (tgt := 64) hx hb dX5_goOn_6 (by decide) (fun c1 => ?_) (fun c1 => ?_)
    · rw [if_pos c1] at hm
      cases hm
      exact K _ _ _ hP hS (lv_sub hl [2] rfl)
    · rw [if_neg c1] at hm
      refine lv_aload_n hx hb dX5_goOn_9 rfl (lv_at hl 0 rfl) ?_
      obtain ⟨μ2, hc3, hm⟩ := bO1_inv hm
      refine t_cVv (As := []) (rest := []) (μ' := μ2) ⟨hx, hb, hml, hown, hts⟩ (mX5_letFloorSpeak l D cA base H.size μ ho0 hc3) (cwV 0 hts gX5_goOn_X5_letFloorSpeak rfl rfl rfl (by decide +kernel) ⟨Nat.le_of_ble_eq_true rfl, Nat.le_of_ble_eq_true rfl⟩) (va_recv hK hP (q0 := o0) rfl (tw_obj ho0 (by decide))) hK hN hP hS hz rfl hl.1 (Nat.le_of_ble_eq_true rfl) dX5_goOn_10 hcs rfl (fun H locs hP hS => ?_)
      refine lv_iconst (v := (0 : Int32)) hx hb dX5_goOn_13 (by decide) ?_
      refine lv_istore (lv' := [(4, .int (0 : Int32)), (0, .ref (base + o0)), (1, .int b1), (2, .int v2), (3, .int v3)]) hx hb dX5_goOn_14 hl (by decide) rfl (fun ls hl => ?_)
      obtain ⟨x10, μ11, hc12, hm⟩ := bO2_inv hm
      refine lX5_goOn_L16 ⟨hx, hb, hml, hown, hts⟩ hK hN hz ho0 b1 v3 hcs 1000 v2 (0 : Int32) μ2 _ _ _ x10 μ11 hc12 hP hS (lv_sub hl [1, 2, 4, 3, 0] rfl) ?_
      intro H locs ls hP hS hl
      refine lv_aload_n hx hb dX5_goOn_40 rfl (lv_at hl 0 rfl) ?_
      obtain ⟨μ13, hc14, hm⟩ := bO1_inv hm
      refine t_cVv (As := []) (rest := []) (μ' := μ13) ⟨hx, hb, hml, hown, hts⟩ (mX5_letBoothsHear l D cA base H.size μ11 ho0 hc14) (cwV 0 hts gX5_goOn_X5_letBoothsHear rfl rfl rfl (by decide +kernel) ⟨Nat.le_of_ble_eq_true rfl, Nat.le_of_ble_eq_true rfl⟩) (va_recv hK hP (q0 := o0) rfl (tw_obj ho0 (by decide))) hK hN hP hS hz rfl hl.1 (Nat.le_of_ble_eq_true rfl) dX5_goOn_41 hcs rfl (fun H locs hP hS => ?_)
      refine lv_aload_n hx hb dX5_goOn_44 rfl (lv_at hl 0 rfl) ?_
      obtain ⟨μ15, hc16, hm⟩ := bO1_inv hm
      refine t_cVv (As := []) (rest := []) (μ' := μ15) ⟨hx, hb, hml, hown, hts⟩ (mX5_letOthersRecover l D cA base H.size μ13 ho0 hc16) (cwV 0 hts gX5_goOn_X5_letOthersRecover rfl rfl rfl (by decide +kernel) ⟨Nat.le_of_ble_eq_true rfl, Nat.le_of_ble_eq_true rfl⟩) (va_recv hK hP (q0 := o0) rfl (tw_obj ho0 (by decide))) hK hN hP hS hz rfl hl.1 (Nat.le_of_ble_eq_true rfl) dX5_goOn_45 hcs rfl (fun H locs hP hS => ?_)
      refine lv_aload_n hx hb dX5_goOn_48 rfl (lv_at hl 0 rfl) ?_
      refine lv_dup hx hb dX5_goOn_49 rfl ?_
      refine t_geti (C := RX5) (T := TX5) (N := 9) hx hb hts hin5 hown hK hP ho0 rfl rfl 8 (by decide) (fk5_8 ho0) (hts _ (List.mem_of_getElem? (i := 2) rfl)) dX5_goOn_50 ?_
      refine lv_iconst (v := (1 : Int32)) hx hb dX5_goOn_53 (by decide) ?_
      refine lv_iadd hx hb dX5_goOn_54 ?_
      refine t_put (C := RX5) (T := TX5) (N := 9) hx hb hts hin5 tyX5 tyX5_ok nmX5 hown hK hP (tD _ _ _ _) hS ho0 rfl rfl 8 (by decide) (fk5_8 ho0) (hts _ (List.mem_of_getElem? (i := 2) rfl)) rfl (by decide +kernel) dX5_goOn_55 (fun H locs hP hS => ?_)
      obtain ⟨μ17, eμ17⟩ : ∃ z : MM, z = wI μ15 o0 8 ((rI μ15 o0 8) + (1 : Int32)) := ⟨_, rfl⟩
      rw [← eμ17] at hP
      replace hm := bV_of hm eμ17
      obtain ⟨x18, ex18⟩ : ∃ z : Int32, z = v3 + (1 : Int32) := ⟨_, rfl⟩
      replace hm := bV_of hm ex18
      refine lv_iinc (v := x18) (lv' := [(3, .int x18), (0, .ref (base + o0)), (1, .int b1), (2, .int x10)]) hx hb dX5_goOn_58 hl (k := 2) rfl (by rw [ex18]; rfl) (by decide) rfl (fun ls hl => ?_)
      refine lv_goto (tgt := 4) hx hb dX5_goOn_61 (by decide) ?_
      exact ih x10 x18 μ17 _ _ _ w2 μ' hm hP hS (lv_sub hl [1, 2, 3, 0] rfl) K
set_option maxHeartbeats 4000000 in
set_option maxRecDepth 100000 in
theorem mX5_goOn (l : Launch) (D : va_G) (cA : Nat → ClassId) (base sz : Nat) (μ : MM) {q : Nat} (hq : kc q = 5) (a1 : Int32) {r : Int32} {μ' : MM} (hm : X5_goOn q a1 μ = some (r, μ')) : Met l yX5_goOn wsX5_goOn rmX5_goOn (va_Pc [.ref (base + q), .int a1] (tPre D cA base sz μ)) (va_Qi (fun (x : Int32) (_ : Unit) => x = r) (fun _ => tPost D cA base μ') (tA base sz)) 0 0 (tA base sz) := by
  refine Met.ofW (cc := cX5_goOn) (maxL := 5) (ret := (some .int)) (by decide +kernel) rfl ?_
  intro p e s m args below meth c s₁ B hml hv
  obtain ⟨rfl, hsz, hP, hK, hN⟩ := hv
  have hx := B.exec
  have hb := B.bytes
  have hr := B.returns
  have hts := atoms_spec (ws := wsX5_goOn) B.pre
  have hown : s.vm.findClass RX5 = some m.cls := findClass_of_methodNamed B.named
  have hlocks := B.notSynchronized
  subst hsz
  have hS : va_S (tA base s.heap.size) s.heap s.heap [] := va_S.rf
  have hz : s.heap.size ≤ s.heap.size := Nat.le_refl _
  have hl := lv_entry ([.ref (base + q), .int a1]) (n := 5) (Nat.le_of_ble_eq_true rfl)
  rw [lg_entry_eq]
  generalize (lg_sl ([.ref (base + q), .int a1]) ++ List.replicate (5 - (lg_sl ([.ref (base + q), .int a1])).length) Slot.unset).toArray = ls at hl ⊢
  have hl : lv_has ls 5 [(0, .ref (base + q)), (1, .int a1)] := hl
  unfold X5_goOn at hm
  refine lv_iconst (v := (0 : Int32)) hx hb dX5_goOn_0 (by decide) ?_
  refine lv_istore_n (lv' := [(2, .int (0 : Int32)), (0, .ref (base + q)), (1, .int a1)]) hx hb dX5_goOn_1 rfl hl (by decide) rfl (fun ls hl => ?_)
  refine lv_iconst (v := (0 : Int32)) hx hb dX5_goOn_2 (by decide) ?_
  refine lv_istore_n (lv' := [(3, .int (0 : Int32)), (2, .int (0 : Int32)), (0, .ref (base + q)), (1, .int a1)]) hx hb dX5_goOn_3 rfl hl (by decide) rfl (fun ls hl => ?_)
  obtain ⟨x19, μ20, hc21, hm⟩ := bO2_inv hm
  refine lX5_goOn_L4 ⟨hx, hb, hml, hown, hts⟩ hK hN hz hq a1 ⟨Nat.le_of_ble_eq_true rfl, Nat.le_of_ble_eq_true rfl⟩ 1000 (0 : Int32) (0 : Int32) μ _ _ _ x19 μ20 hc21 hP hS (lv_sub hl [2, 3, 1, 0] rfl) ?_
  intro H locs ls hP hS hl
  refine lv_iload_n hx hb dX5_goOn_64 rfl (lv_at hl 0 rfl) ?_
  cases hm
  exact W.iret hx hb hr (fun t ht hW => ⟨⟨_, (), rfl, rfl, tPost_of hP ht⟩, hS.F ht⟩) hS.2.2 dX5_goOn_65
abbrev rmX5_cameThroughAt : Room := { frames := 4, cells := 0, slots := 0, locals := 96 }
set_option maxHeartbeats 4000000 in
set_option maxRecDepth 100000 in
theorem mX5_cameThroughAt (l : Launch) (D : va_G) (cA : Nat → ClassId) (base sz : Nat) (μ : MM) {q : Nat} (hq : kc q = 5) (a1 : Int32) {r : Int32} {μ' : MM} (hm : X5_cameThroughAt q a1 μ = some (r, μ')) : Met l yX5_cameThroughAt wsX5_cameThroughAt rmX5_cameThroughAt (va_Pc [.ref (base + q), .int a1] (tPre D cA base sz μ)) (va_Qi (fun (x : Int32) (_ : Unit) => x = r) (fun _ => tPost D cA base μ') (tA base sz)) 0 0 (tA base sz) := by
  refine Met.ofW (cc := cX5_cameThroughAt) (maxL := 2) (ret := (some .int)) (by decide +kernel) rfl ?_
  intro p e s m args below meth c s₁ B hml hv
  obtain ⟨rfl, hsz, hP, hK, hN⟩ := hv
  have hx := B.exec
  have hb := B.bytes
  have hr := B.returns
  have hts := atoms_spec (ws := wsX5_cameThroughAt) B.pre
  have hown : s.vm.findClass RX5 = some m.cls := findClass_of_methodNamed B.named
  have hlocks := B.notSynchronized
  have hin0 : ∀ w ∈ wsX00, w ∈ wsX5_cameThroughAt := by decide +kernel
  have hin5 : ∀ w ∈ wsX50, w ∈ wsX5_cameThroughAt := by decide +kernel
  subst hsz
  have hS : va_S (tA base s.heap.size) s.heap s.heap [] := va_S.rf
  have hz : s.heap.size ≤ s.heap.size := Nat.le_refl _
  have hl := lv_entry ([.ref (base + q), .int a1]) (n := 2) (Nat.le_of_ble_eq_true rfl)
  rw [lg_entry_eq]
  generalize (lg_sl ([.ref (base + q), .int a1]) ++ List.replicate (2 - (lg_sl ([.ref (base + q), .int a1])).length) Slot.unset).toArray = ls at hl ⊢
  have hl : lv_has ls 2 [(0, .ref (base + q)), (1, .int a1)] := hl
  unfold X5_cameThroughAt at hm
  refine lv_aload_n hx hb dX5_cameThroughAt_0 rfl (lv_at hl 0 rfl) ?_
  refine t_getr (C := RX5) (T := TX5) (N := 9) hx hb hts hin5 hown hK hP hq rfl rfl 0 (by decide) (fr5_0 hq) (hts _ (List.mem_of_getElem? (i := 1) rfl)) dX5_cameThroughAt_1 ?_
  refine lv_aload_n hx hb dX5_cameThroughAt_4 rfl (lv_at hl 0 rfl) ?_
  refine t_getr (C := RX5) (T := TX5) (N := 9) hx hb hts hin5 hown hK hP hq rfl rfl 2 (by decide) (fr5_2 hq) (hts _ (List.mem_of_getElem? (i := 2) rfl)) dX5_cameThroughAt_5 ?_
  refine lv_aload_n hx hb dX5_cameThroughAt_8 rfl (lv_at hl 0 rfl) ?_
  refine t_getr (C := RX5) (T := TX5) (N := 9) hx hb hts hin5 hown hK hP hq rfl rfl 3 (by decide) (fr5_3 hq) (hts _ (List.mem_of_getElem? (i := 3) rfl)) dX5_cameThroughAt_9 ?_
  refine lv_iload_n hx hb dX5_cameThroughAt_12 rfl (lv_at hl 1 rfl) ?_
  obtain ⟨hg1, hm⟩ := gd_inv hm
  refine t_aald2 hx hb hK hP (kr5_3 hq) hg1 dX5_cameThroughAt_13 ?_
  refine t_getr (C := RX0) (T := TX0) (N := 10) hx hb hts hin0 hown hK hP (ka102 (kr5_3 hq) hg1) rfl rfl 2 (by decide) (fr0_2 (ka102 (kr5_3 hq) hg1)) (hts _ (List.mem_of_getElem? (i := 4) rfl)) dX5_cameThroughAt_14 ?_
  obtain ⟨r2, μ3, hc4, hm⟩ := bO2_inv hm
  refine t_cVi (As := [.ref (base + (RF q 2)), .ref (base + (RF (RF (RF q 3) a1.toNatClampNeg) 2))]) (rest := []) (μ' := μ3) (r := r2) ⟨hx, hb, hml, hown, hts⟩ (mX1_mostInCommon l D cA base s.heap.size μ (kr5_0 hq) (kr5_2 hq) (kr0_2 (ka102 (kr5_3 hq) hg1)) hc4) (cwV 2 hts gX5_cameThroughAt_X1_mostInCommon rfl rfl rfl (by decide +kernel) ⟨Nat.le_of_ble_eq_true rfl, Nat.le_of_ble_eq_true rfl⟩) (va_recv hK hP (q0 := RF q 0) rfl (tw_obj (kr5_0 hq) (by decide))) hK hN hP hS hz rfl hl.1 (Nat.le_of_ble_eq_true rfl) dX5_cameThroughAt_17 ⟨Nat.le_of_ble_eq_true rfl, Nat.le_of_ble_eq_true rfl⟩ rfl (fun H locs hP hS => ?_)
  cases hm
  exact W.iret hx hb hr (fun t ht hW => ⟨⟨_, (), rfl, rfl, tPost_of hP ht⟩, hS.F ht⟩) hS.2.2 dX5_cameThroughAt_20
abbrev rmX5_tellBooth : Room := { frames := 5, cells := 0, slots := 0, locals := 117 }
set_option maxHeartbeats 4000000 in
set_option maxRecDepth 100000 in
theorem mX5_tellBooth (l : Launch) (D : va_G) (cA : Nat → ClassId) (base sz : Nat) (μ : MM) {q : Nat} (hq : kc q = 5) (a1 : Int32) (a2 : Int32) {r : Int32} {μ' : MM} (hm : X5_tellBooth q a1 a2 μ = some (r, μ')) : Met l yX5_tellBooth wsX5_tellBooth rmX5_tellBooth (va_Pc [.ref (base + q), .int a1, .int a2] (tPre D cA base sz μ)) (va_Qi (fun (x : Int32) (_ : Unit) => x = r) (fun _ => tPost D cA base μ') (tA base sz)) 0 0 (tA base sz) := by
  refine Met.ofW (cc := cX5_tellBooth) (maxL := 4) (ret := (some .int)) (by decide +kernel) rfl ?_
  intro p e s m args below meth c s₁ B hml hv
  obtain ⟨rfl, hsz, hP, hK, hN⟩ := hv
  have hx := B.exec
  have hb := B.bytes
  have hr := B.returns
  have hts := atoms_spec (ws := wsX5_tellBooth) B.pre
  have hown : s.vm.findClass RX5 = some m.cls := findClass_of_methodNamed B.named
  have hlocks := B.notSynchronized
  have hin0 : ∀ w ∈ wsX00, w ∈ wsX5_tellBooth := by decide +kernel
  have hin3 : ∀ w ∈ wsX30, w ∈ wsX5_tellBooth := by decide +kernel
  have hin4 : ∀ w ∈ wsX40, w ∈ wsX5_tellBooth := by decide +kernel
  have hin5 : ∀ w ∈ wsX50, w ∈ wsX5_tellBooth := by decide +kernel
  subst hsz
  have hS : va_S (tA base s.heap.size) s.heap s.heap [] := va_S.rf
  have hz : s.heap.size ≤ s.heap.size := Nat.le_refl _
  have hl := lv_entry ([.ref (base + q), .int a1, .int a2]) (n := 4) (Nat.le_of_ble_eq_true rfl)
  rw [lg_entry_eq]
  generalize (lg_sl ([.ref (base + q), .int a1, .int a2]) ++ List.replicate (4 - (lg_sl ([.ref (base + q), .int a1, .int a2])).length) Slot.unset).toArray = ls at hl ⊢
  have hl : lv_has ls 4 [(0, .ref (base + q)), (1, .int a1), (2, .int a2)] := hl
  unfold X5_tellBooth at hm
  refine lv_aload_n hx hb dX5_tellBooth_0 rfl (lv_at hl 0 rfl) ?_
  refine t_getr (C := RX5) (T := TX5) (N := 9) hx hb hts hin5 hown hK hP hq rfl rfl 3 (by decide) (fr5_3 hq) (hts _ (List.mem_of_getElem? (i := 1) rfl)) dX5_tellBooth_1 ?_
  refine lv_iload_n hx hb dX5_tellBooth_4 rfl (lv_at hl 1 rfl) ?_
  obtain ⟨hg1, hm⟩ := gd_inv hm
  refine t_aald2 hx hb hK hP (kr5_3 hq) hg1 dX5_tellBooth_5 ?_
  refine lv_astore_n (lv' := [(3, .ref (base + (RF (RF q 3) a1.toNatClampNeg))), (0, .ref (base + q)), (1, .int a1), (2, .int a2)]) hx hb dX5_tellBooth_6 rfl hl (by decide) rfl (fun ls hl => ?_)
  refine lv_iload_n hx hb dX5_tellBooth_7 rfl (lv_at hl 3 rfl) ?_
  by_cases c2 : a2 = 0
  · rw [if_pos c2] at hm
    refine lv_tableIn (tgt := 68) hx hb dX5_tellBooth_8 (by rw [c2]; decide) (by rw [c2]; decide) (by rw [c2]; rfl) (by decide) ?_
    refine lv_aload_n hx hb dX5_tellBooth_68 rfl (lv_at hl 0 rfl) ?_
    refine t_geti (C := RX0) (T := TX0) (N := 10) hx hb hts hin0 hown hK hP (ka102 (kr5_3 hq) hg1) rfl rfl 3 (by decide) (fk0_3 (ka102 (kr5_3 hq) hg1)) (hts _ (List.mem_of_getElem? (i := 2) rfl)) dX5_tellBooth_69 ?_
    cases hm
    exact W.iret hx hb hr (fun t ht hW => ⟨⟨_, (), rfl, rfl, tPost_of hP ht⟩, hS.F ht⟩) hS.2.2 dX5_tellBooth_72
  · rw [if_neg c2] at hm
    by_cases c3 : a2 = 1
    · rw [if_pos c3] at hm
      refine lv_tableIn (tgt := 73) hx hb dX5_tellBooth_8 (by rw [c3]; decide) (by rw [c3]; decide) (by rw [c3]; rfl) (by decide) ?_
      refine lv_aload_n hx hb dX5_tellBooth_73 rfl (lv_at hl 0 rfl) ?_
      refine t_geti (C := RX0) (T := TX0) (N := 10) hx hb hts hin0 hown hK hP (ka102 (kr5_3 hq) hg1) rfl rfl 4 (by decide) (fk0_4 (ka102 (kr5_3 hq) hg1)) (hts _ (List.mem_of_getElem? (i := 3) rfl)) dX5_tellBooth_74 ?_
      cases hm
      exact W.iret hx hb hr (fun t ht hW => ⟨⟨_, (), rfl, rfl, tPost_of hP ht⟩, hS.F ht⟩) hS.2.2 dX5_tellBooth_77
    · rw [if_neg c3] at hm
      by_cases c4 : a2 = 2
      · rw [if_pos c4] at hm
        refine lv_tableIn (tgt := 78) hx hb dX5_tellBooth_8 (by rw [c4]; decide) (by rw [c4]; decide) (by rw [c4]; rfl) (by decide) ?_
        refine lv_aload_n hx hb dX5_tellBooth_78 rfl (lv_at hl 0 rfl) ?_
        refine t_geti (C := RX0) (T := TX0) (N := 10) hx hb hts hin0 hown hK hP (ka102 (kr5_3 hq) hg1) rfl rfl 5 (by decide) (fk0_5 (ka102 (kr5_3 hq) hg1)) (hts _ (List.mem_of_getElem? (i := 4) rfl)) dX5_tellBooth_79 ?_
        cases hm
        exact W.iret hx hb hr (fun t ht hW => ⟨⟨_, (), rfl, rfl, tPost_of hP ht⟩, hS.F ht⟩) hS.2.2 dX5_tellBooth_82
      · rw [if_neg c4] at hm
        by_cases c5 : a2 = 3
        · rw [if_pos c5] at hm
          refine lv_tableIn (tgt := 83) hx hb dX5_tellBooth_8 (by rw [c5]; decide) (by rw [c5]; decide) (by rw [c5]; rfl) (by decide) ?_
          refine lv_aload_n hx hb dX5_tellBooth_83 rfl (lv_at hl 0 rfl) ?_
          refine t_geti (C := RX0) (T := TX0) (N := 10) hx hb hts hin0 hown hK hP (ka102 (kr5_3 hq) hg1) rfl rfl 6 (by decide) (fk0_6 (ka102 (kr5_3 hq) hg1)) (hts _ (List.mem_of_getElem? (i := 5) rfl)) dX5_tellBooth_84 ?_
          cases hm
          exact W.iret hx hb hr (fun t ht hW => ⟨⟨_, (), rfl, rfl, tPost_of hP ht⟩, hS.F ht⟩) hS.2.2 dX5_tellBooth_87
        · rw [if_neg c5] at hm
          by_cases c6 : a2 = 4
          · rw [if_pos c6] at hm
            refine lv_tableIn (tgt := 88) hx hb dX5_tellBooth_8 (by rw [c6]; decide) (by rw [c6]; decide) (by rw [c6]; rfl) (by decide) ?_
            refine lv_aload_n hx hb dX5_tellBooth_88 rfl (lv_at hl 0 rfl) ?_
            refine t_geti (C := RX0) (T := TX0) (N := 10) hx hb hts hin0 hown hK hP (ka102 (kr5_3 hq) hg1) rfl rfl 7 (by decide) (fk0_7 (ka102 (kr5_3 hq) hg1)) (hts _ (List.mem_of_getElem? (i := 6) rfl)) dX5_tellBooth_89 ?_
            cases hm
            exact W.iret hx hb hr (fun t ht hW => ⟨⟨_, (), rfl, rfl, tPost_of hP ht⟩, hS.F ht⟩) hS.2.2 dX5_tellBooth_92
          · rw [if_neg c6] at hm
            by_cases c7 : a2 = 5
            · rw [if_pos c7] at hm
              refine lv_tableIn (tgt := 93) hx hb dX5_tellBooth_8 (by rw [c7]; decide) (by rw [c7]; decide) (by rw [c7]; rfl) (by decide) ?_
              refine lv_aload_n hx hb dX5_tellBooth_93 rfl (lv_at hl 0 rfl) ?_
              refine t_getr (C := RX0) (T := TX0) (N := 10) hx hb hts hin0 hown hK hP (ka102 (kr5_3 hq) hg1) rfl rfl 0 (by decide) (fr0_0 (ka102 (kr5_3 hq) hg1)) (hts _ (List.mem_of_getElem? (i := 7) rfl)) dX5_tellBooth_94 ?_
              refine t_geti (C := RX3) (T := TX3) (N := 2) hx hb hts hin3 hown hK hP (kr0_0 (ka102 (kr5_3 hq) hg1)) rfl rfl 1 (by decide) (fk3_1 (kr0_0 (ka102 (kr5_3 hq) hg1))) (hts _ (List.mem_of_getElem? (i := 8) rfl)) dX5_tellBooth_97 ?_
              cases hm
              exact W.iret hx hb hr (fun t ht hW => ⟨⟨_, (), rfl, rfl, tPost_of hP ht⟩, hS.F ht⟩) hS.2.2 dX5_tellBooth_100
            · rw [if_neg c7] at hm
              by_cases c8 : a2 = 6
              · rw [if_pos c8] at hm
                refine lv_tableIn (tgt := 101) hx hb dX5_tellBooth_8 (by rw [c8]; decide) (by rw [c8]; decide) (by rw [c8]; rfl) (by decide) ?_
                refine lv_aload_n hx hb dX5_tellBooth_101 rfl (lv_at hl 0 rfl) ?_
                refine t_getr (C := RX0) (T := TX0) (N := 10) hx hb hts hin0 hown hK hP (ka102 (kr5_3 hq) hg1) rfl rfl 2 (by decide) (fr0_2 (ka102 (kr5_3 hq) hg1)) (hts _ (List.mem_of_getElem? (i := 9) rfl)) dX5_tellBooth_102 ?_
                refine t_geti (C := RX4) (T := TX4) (N := 3) hx hb hts hin4 hown hK hP (kr0_2 (ka102 (kr5_3 hq) hg1)) rfl rfl 2 (by decide) (fk4_2 (kr0_2 (ka102 (kr5_3 hq) hg1))) (hts _ (List.mem_of_getElem? (i := 10) rfl)) dX5_tellBooth_105 ?_
                cases hm
                exact W.iret hx hb hr (fun t ht hW => ⟨⟨_, (), rfl, rfl, tPost_of hP ht⟩, hS.F ht⟩) hS.2.2 dX5_tellBooth_108
              · rw [if_neg c8] at hm
                by_cases c9 : a2 = 7
                · rw [if_pos c9] at hm
                  refine lv_tableIn (tgt := 109) hx hb dX5_tellBooth_8 (by rw [c9]; decide) (by rw [c9]; decide) (by rw [c9]; rfl) (by decide) ?_
                  refine lv_aload_n hx hb dX5_tellBooth_109 rfl (lv_at hl 0 rfl) ?_
                  refine t_geti (C := RX0) (T := TX0) (N := 10) hx hb hts hin0 hown hK hP (ka102 (kr5_3 hq) hg1) rfl rfl 9 (by decide) (fk0_9 (ka102 (kr5_3 hq) hg1)) (hts _ (List.mem_of_getElem? (i := 11) rfl)) dX5_tellBooth_110 ?_
                  cases hm
                  exact W.iret hx hb hr (fun t ht hW => ⟨⟨_, (), rfl, rfl, tPost_of hP ht⟩, hS.F ht⟩) hS.2.2 dX5_tellBooth_113
                · rw [if_neg c9] at hm
                  by_cases c10 : a2 = 8
                  · rw [if_pos c10] at hm
                    refine lv_tableIn (tgt := 114) hx hb dX5_tellBooth_8 (by rw [c10]; decide) (by rw [c10]; decide) (by rw [c10]; rfl) (by decide) ?_
                    refine lv_aload_n hx hb dX5_tellBooth_114 rfl (lv_at hl 1 rfl) ?_
                    refine lv_iload_n hx hb dX5_tellBooth_115 rfl (lv_at hl 2 rfl) ?_
                    obtain ⟨r11, hc12, hm⟩ := bO1_inv hm
                    refine t_cVi (As := [.int a1]) (rest := []) (μ' := μ) (r := r11) ⟨hx, hb, hml, hown, hts⟩ (mX5_chainLength l D cA base s.heap.size μ hq a1 hc12) (cwV 1 hts gX5_tellBooth_X5_chainLength rfl rfl rfl (by decide +kernel) ⟨Nat.le_of_ble_eq_true rfl, Nat.le_of_ble_eq_true rfl⟩) (va_recv hK hP (q0 := q) rfl (tw_obj hq (by decide))) hK hN hP hS hz rfl hl.1 (Nat.le_of_ble_eq_true rfl) dX5_tellBooth_116 ⟨Nat.le_of_ble_eq_true rfl, Nat.le_of_ble_eq_true rfl⟩ rfl (fun H locs hP hS => ?_)
                    cases hm
                    exact W.iret hx hb hr (fun t ht hW => ⟨⟨_, (), rfl, rfl, tPost_of hP ht⟩, hS.F ht⟩) hS.2.2 dX5_tellBooth_119
                  · rw [if_neg c10] at hm
                    by_cases c13 : a2 = 9
                    · rw [if_pos c13] at hm
                      refine lv_tableIn (tgt := 120) hx hb dX5_tellBooth_8 (by rw [c13]; decide) (by rw [c13]; decide) (by rw [c13]; rfl) (by decide) ?_
                      refine lv_aload_n hx hb dX5_tellBooth_120 rfl (lv_at hl 0 rfl) ?_
                      refine t_geti (C := RX0) (T := TX0) (N := 10) hx hb hts hin0 hown hK hP (ka102 (kr5_3 hq) hg1) rfl rfl 8 (by decide) (fk0_8 (ka102 (kr5_3 hq) hg1)) (hts _ (List.mem_of_getElem? (i := 12) rfl)) dX5_tellBooth_121 ?_
                      refine lv_iconst (v := (-1 : Int32)) hx hb dX5_tellBooth_124 (by decide) ?_
                      refine lv_icmp_ne (tgt := 132) hx hb dX5_tellBooth_125 (by decide) (fun c14 => ?_) (fun c14 => ?_)
                      · rw [if_neg c14] at hm
                        refine lv_iconst (v := (1 : Int32)) hx hb dX5_tellBooth_132 (by decide) ?_
                        cases hm
                        exact W.iret hx hb hr (fun t ht hW => ⟨⟨_, (), rfl, rfl, tPost_of hP ht⟩, hS.F ht⟩) hS.2.2 dX5_tellBooth_133
                      · rw [if_pos c14] at hm
                        refine lv_iconst (v := (0 : Int32)) hx hb dX5_tellBooth_128 (by decide) ?_
                        refine lv_goto (tgt := 133) hx hb dX5_tellBooth_129 (by decide) ?_
                        cases hm
                        exact W.iret hx hb hr (fun t ht hW => ⟨⟨_, (), rfl, rfl, tPost_of hP ht⟩, hS.F ht⟩) hS.2.2 dX5_tellBooth_133
                    · rw [if_neg c13] at hm
                      by_cases c15 : a2 = 10
                      · rw [if_pos c15] at hm
                        refine lv_tableIn (tgt := 134) hx hb dX5_tellBooth_8 (by rw [c15]; decide) (by rw [c15]; decide) (by rw [c15]; rfl) (by decide) ?_
                        refine lv_aload_n hx hb dX5_tellBooth_134 rfl (lv_at hl 1 rfl) ?_
                        refine lv_iload_n hx hb dX5_tellBooth_135 rfl (lv_at hl 2 rfl) ?_
                        obtain ⟨r16, hc17, hm⟩ := bO1_inv hm
                        refine t_cVi (As := [.int a1]) (rest := []) (μ' := μ) (r := r16) ⟨hx, hb, hml, hown, hts⟩ (mX5_isAble l D cA base s.heap.size μ hq a1 hc17) (cwV 1 hts gX5_tellBooth_X5_isAble rfl rfl rfl (by decide +kernel) ⟨Nat.le_of_ble_eq_true rfl, Nat.le_of_ble_eq_true rfl⟩) (va_recv hK hP (q0 := q) rfl (tw_obj hq (by decide))) hK hN hP hS hz rfl hl.1 (Nat.le_of_ble_eq_true rfl) dX5_tellBooth_136 ⟨Nat.le_of_ble_eq_true rfl, Nat.le_of_ble_eq_true rfl⟩ rfl (fun H locs hP hS => ?_)
                        refine lv_if_eq (tgt := 146) hx hb dX5_tellBooth_139 (by decide) (fun c18 => ?_) (fun c18 => ?_)
                        · rw [if_pos c18] at hm
                          refine lv_iconst (v := (0 : Int32)) hx hb dX5_tellBooth_146 (by decide) ?_
                          cases hm
                          exact W.iret hx hb hr (fun t ht hW => ⟨⟨_, (), rfl, rfl, tPost_of hP ht⟩, hS.F ht⟩) hS.2.2 dX5_tellBooth_147
                        · rw [if_neg c18] at hm
                          refine lv_iconst (v := (1 : Int32)) hx hb dX5_tellBooth_142 (by decide) ?_
                          refine lv_goto (tgt := 147) hx hb dX5_tellBooth_143 (by decide) ?_
                          cases hm
                          exact W.iret hx hb hr (fun t ht hW => ⟨⟨_, (), rfl, rfl, tPost_of hP ht⟩, hS.F ht⟩) hS.2.2 dX5_tellBooth_147
                      · rw [if_neg c15] at hm
                        refine lv_tableOut (tgt := 148) hx hb dX5_tellBooth_8 (by have nc2 : (a2).toInt ≠ 0 := fun h => c2 (Int32.toInt_inj.mp (h.trans (by decide))); have nc3 : (a2).toInt ≠ 1 := fun h => c3 (Int32.toInt_inj.mp (h.trans (by decide))); have nc4 : (a2).toInt ≠ 2 := fun h => c4 (Int32.toInt_inj.mp (h.trans (by decide))); have nc5 : (a2).toInt ≠ 3 := fun h => c5 (Int32.toInt_inj.mp (h.trans (by decide))); have nc6 : (a2).toInt ≠ 4 := fun h => c6 (Int32.toInt_inj.mp (h.trans (by decide))); have nc7 : (a2).toInt ≠ 5 := fun h => c7 (Int32.toInt_inj.mp (h.trans (by decide))); have nc8 : (a2).toInt ≠ 6 := fun h => c8 (Int32.toInt_inj.mp (h.trans (by decide))); have nc9 : (a2).toInt ≠ 7 := fun h => c9 (Int32.toInt_inj.mp (h.trans (by decide))); have nc10 : (a2).toInt ≠ 8 := fun h => c10 (Int32.toInt_inj.mp (h.trans (by decide))); have nc13 : (a2).toInt ≠ 9 := fun h => c13 (Int32.toInt_inj.mp (h.trans (by decide))); have nc15 : (a2).toInt ≠ 10 := fun h => c15 (Int32.toInt_inj.mp (h.trans (by decide))); omega) (by decide) ?_
                        refine lv_aload_n hx hb dX5_tellBooth_148 rfl (lv_at hl 1 rfl) ?_
                        refine lv_iload_n hx hb dX5_tellBooth_149 rfl (lv_at hl 2 rfl) ?_
                        obtain ⟨r19, μ20, hc21, hm⟩ := bO2_inv hm
                        refine t_cVi (As := [.int a1]) (rest := []) (μ' := μ20) (r := r19) ⟨hx, hb, hml, hown, hts⟩ (mX5_cameThroughAt l D cA base s.heap.size μ hq a1 hc21) (cwV 1 hts gX5_tellBooth_X5_cameThroughAt rfl rfl rfl (by decide +kernel) ⟨Nat.le_of_ble_eq_true rfl, Nat.le_of_ble_eq_true rfl⟩) (va_recv hK hP (q0 := q) rfl (tw_obj hq (by decide))) hK hN hP hS hz rfl hl.1 (Nat.le_of_ble_eq_true rfl) dX5_tellBooth_150 ⟨Nat.le_of_ble_eq_true rfl, Nat.le_of_ble_eq_true rfl⟩ rfl (fun H locs hP hS => ?_)
                        cases hm
                        exact W.iret hx hb hr (fun t ht hW => ⟨⟨_, (), rfl, rfl, tPost_of hP ht⟩, hS.F ht⟩) hS.2.2 dX5_tellBooth_153
abbrev rmX5_sumOverBooths : Room := { frames := 3, cells := 0, slots := 0, locals := 65 }
set_option maxHeartbeats 4000000 in
set_option maxRecDepth 100000 in
theorem lX5_sumOverBooths_L4 {p : Program} {l : Launch} {e : Env} {s : State} {m : MethodId} {args : Array Value} {below : List Frame} {meth : Method} {c : Code} {Q : State → Prop} {D : va_G} {cA : Nat → ClassId} {base sz0 : Nat} {H0 : Heap} (FX : CallFix p m c cX5_sumOverBooths 4 s args wsX5_sumOverBooths RX5) (hK : va_K D vwCl (tys cA) s) (hN : tN s) (hz : sz0 ≤ H0.size) {o0 : Nat} (ho0 : kc o0 = 5) (b1 : Int32) (μ : MM) {cells slots : Nat} (hcs : cells ≤ 0 ∧ slots ≤ 0) :
    ∀ (n : Nat) (v2 : Int32) (v3 : Int32) (H : Heap) (locs : List Loc) (ls : Array Slot) (w2 : Int32), X5_sumOverBooths_L4 o0 b1 μ n v2 v3 = some w2 → va_P D vwCl (tw base cA μ []) H → va_S (tA base sz0) H0 H locs → lv_has ls 4 [(0, .ref (base + o0)), (1, .int b1), (2, .int v2), (3, .int v3)] → (∀ (H : Heap) (locs : List Loc) (ls : Array Slot), va_P D vwCl (tw base cA μ []) H → va_S (tA base sz0) H0 H locs → lv_has ls 4 [(2, .int w2)] → W p l e rmX5_sumOverBooths s m args below meth c H locs cells slots Q (F0 m 113 ls [])) → W p l e rmX5_sumOverBooths s m args below meth c H locs cells slots Q (F0 m 4 ls []) := by
  obtain ⟨hx, hb, hml, hown, hts⟩ := FX
  have hin0 : ∀ w ∈ wsX00, w ∈ wsX5_sumOverBooths := by decide +kernel
  have hin3 : ∀ w ∈ wsX30, w ∈ wsX5_sumOverBooths := by decide +kernel
  have hin4 : ∀ w ∈ wsX40, w ∈ wsX5_sumOverBooths := by decide +kernel
  have hin5 : ∀ w ∈ wsX50, w ∈ wsX5_sumOverBooths := by decide +kernel
  intro n
  induction n with
  | zero =>
    intro v2 v3 H locs ls w2 hm
    cases hm
  | succ n ih =>
    intro v2 v3 H locs ls w2 hm hP hS hl K
    rw [X5_sumOverBooths_L4_s] at hm
    refine lv_iload_n hx hb dX5_sumOverBooths_4 rfl (lv_at hl 3 rfl) ?_
    refine lv_aload_n hx hb dX5_sumOverBooths_5 rfl (lv_at hl 0 rfl) ?_
    refine t_geti (C := RX5) (T := TX5) (N := 9) hx hb hts hin5 hown hK hP ho0 rfl rfl 6 (by decide) (fk5_6 ho0) (hts _ (List.mem_of_getElem? (i := 1) rfl)) dX5_sumOverBooths_6 ?_
    refine lv_icmp_ge (tgt := 113) hx hb dX5_sumOverBooths_9 (by decide) (fun c1 => ?_) (fun c1 => ?_)
    · rw [if_pos c1] at hm
      cases hm
      exact K _ _ _ hP hS (lv_sub hl [2] rfl)
    · rw [if_neg c1] at hm
      refine lv_iload_n hx hb dX5_sumOverBooths_12 rfl (lv_at hl 1 rfl) ?_
      by_cases c2 : b1 = 6
      · rw [if_pos c2] at hm
        refine lv_tableIn (tgt := 40) hx hb dX5_sumOverBooths_13 (by rw [c2]; decide) (by rw [c2]; decide) (by rw [c2]; rfl) (by decide) ?_
        refine lv_iload_n hx hb dX5_sumOverBooths_40 rfl (lv_at hl 2 rfl) ?_
        refine lv_aload_n hx hb dX5_sumOverBooths_41 rfl (lv_at hl 0 rfl) ?_
        refine t_getr (C := RX5) (T := TX5) (N := 9) hx hb hts hin5 hown hK hP ho0 rfl rfl 3 (by decide) (fr5_3 ho0) (hts _ (List.mem_of_getElem? (i := 2) rfl)) dX5_sumOverBooths_42 ?_
        refine lv_iload_n hx hb dX5_sumOverBooths_45 rfl (lv_at hl 3 rfl) ?_
        obtain ⟨hg3, hm⟩ := gd_inv hm
        refine t_aald2 hx hb hK hP (kr5_3 ho0) hg3 dX5_sumOverBooths_46 ?_
        refine t_getr (C := RX0) (T := TX0) (N := 10) hx hb hts hin0 hown hK hP (ka102 (kr5_3 ho0) hg3) rfl rfl 2 (by decide) (fr0_2 (ka102 (kr5_3 ho0) hg3)) (hts _ (List.mem_of_getElem? (i := 3) rfl)) dX5_sumOverBooths_47 ?_
        refine t_geti (C := RX4) (T := TX4) (N := 3) hx hb hts hin4 hown hK hP (kr0_2 (ka102 (kr5_3 ho0) hg3)) rfl rfl 2 (by decide) (fk4_2 (kr0_2 (ka102 (kr5_3 ho0) hg3))) (hts _ (List.mem_of_getElem? (i := 4) rfl)) dX5_sumOverBooths_50 ?_
        refine lv_iadd hx hb dX5_sumOverBooths_53 ?_
        refine lv_topi (fun x4 ex4 => ?_)
        replace hm := bV_of hm ex4
        refine lv_istore_n (lv' := [(2, .int x4), (0, .ref (base + o0)), (1, .int b1), (3, .int v3)]) hx hb dX5_sumOverBooths_54 rfl hl (by decide) rfl (fun ls hl => ?_)
        refine lv_goto (tgt := 107) hx hb dX5_sumOverBooths_55 (by decide) ?_
        obtain ⟨x5, ex5⟩ : ∃ z : Int32, z = v3 + (1 : Int32) := ⟨_, rfl⟩
        replace hm := bV_of hm ex5
        refine lv_iinc (v := x5) (lv' := [(3, .int x5), (2, .int x4), (0, .ref (base + o0)), (1, .int b1)]) hx hb dX5_sumOverBooths_107 hl (k := 3) rfl (by rw [ex5]; rfl) (by decide) rfl (fun ls hl => ?_)
        refine lv_goto (tgt := 4) hx hb dX5_sumOverBooths_110 (by decide) ?_
        exact ih x4 x5 _ _ _ w2 hm hP hS (lv_sub hl [2, 3, 1, 0] rfl) K
      · rw [if_neg c2] at hm
        by_cases c6 : b1 = 7
        · rw [if_pos c6] at hm
          refine lv_tableIn (tgt := 58) hx hb dX5_sumOverBooths_13 (by rw [c6]; decide) (by rw [c6]; decide) (by rw [c6]; rfl) (by decide) ?_
          refine lv_iload_n hx hb dX5_sumOverBooths_58 rfl (lv_at hl 2 rfl) ?_
          refine lv_aload_n hx hb dX5_sumOverBooths_59 rfl (lv_at hl 0 rfl) ?_
          refine t_getr (C := RX5) (T := TX5) (N := 9) hx hb hts hin5 hown hK hP ho0 rfl rfl 3 (by decide) (fr5_3 ho0) (hts _ (List.mem_of_getElem? (i := 2) rfl)) dX5_sumOverBooths_60 ?_
          refine lv_iload_n hx hb dX5_sumOverBooths_63 rfl (lv_at hl 3 rfl) ?_
          obtain ⟨hg7, hm⟩ := gd_inv hm
          refine t_aald2 hx hb hK hP (kr5_3 ho0) hg7 dX5_sumOverBooths_64 ?_
          refine t_geti (C := RX0) (T := TX0) (N := 10) hx hb hts hin0 hown hK hP (ka102 (kr5_3 ho0) hg7) rfl rfl 9 (by decide) (fk0_9 (ka102 (kr5_3 ho0) hg7)) (hts _ (List.mem_of_getElem? (i := 5) rfl)) dX5_sumOverBooths_65 ?_
          refine lv_iadd hx hb dX5_sumOverBooths_68 ?_
          refine lv_topi (fun x8 ex8 => ?_)
          replace hm := bV_of hm ex8
          refine lv_istore_n (lv' := [(2, .int x8), (0, .ref (base + o0)), (1, .int b1), (3, .int v3)]) hx hb dX5_sumOverBooths_69 rfl hl (by decide) rfl (fun ls hl => ?_)
          refine lv_goto (tgt := 107) hx hb dX5_sumOverBooths_70 (by decide) ?_
          obtain ⟨x9, ex9⟩ : ∃ z : Int32, z = v3 + (1 : Int32) := ⟨_, rfl⟩
          replace hm := bV_of hm ex9
          refine lv_iinc (v := x9) (lv' := [(3, .int x9), (2, .int x8), (0, .ref (base + o0)), (1, .int b1)]) hx hb dX5_sumOverBooths_107 hl (k := 3) rfl (by rw [ex9]; rfl) (by decide) rfl (fun ls hl => ?_)
          refine lv_goto (tgt := 4) hx hb dX5_sumOverBooths_110 (by decide) ?_
          exact ih x8 x9 _ _ _ w2 hm hP hS (lv_sub hl [2, 3, 1, 0] rfl) K
        · rw [if_neg c6] at hm
          by_cases c10 : b1 = 8
          · rw [if_pos c10] at hm
            refine lv_tableIn (tgt := 73) hx hb dX5_sumOverBooths_13 (by rw [c10]; decide) (by rw [c10]; decide) (by rw [c10]; rfl) (by decide) ?_
            refine lv_iload_n hx hb dX5_sumOverBooths_73 rfl (lv_at hl 2 rfl) ?_
            refine lv_aload_n hx hb dX5_sumOverBooths_74 rfl (lv_at hl 0 rfl) ?_
            refine t_getr (C := RX5) (T := TX5) (N := 9) hx hb hts hin5 hown hK hP ho0 rfl rfl 3 (by decide) (fr5_3 ho0) (hts _ (List.mem_of_getElem? (i := 2) rfl)) dX5_sumOverBooths_75 ?_
            refine lv_iload_n hx hb dX5_sumOverBooths_78 rfl (lv_at hl 3 rfl) ?_
            obtain ⟨hg11, hm⟩ := gd_inv hm
            refine t_aald2 hx hb hK hP (kr5_3 ho0) hg11 dX5_sumOverBooths_79 ?_
            refine t_getr (C := RX0) (T := TX0) (N := 10) hx hb hts hin0 hown hK hP (ka102 (kr5_3 ho0) hg11) rfl rfl 0 (by decide) (fr0_0 (ka102 (kr5_3 ho0) hg11)) (hts _ (List.mem_of_getElem? (i := 6) rfl)) dX5_sumOverBooths_80 ?_
            refine t_geti (C := RX3) (T := TX3) (N := 2) hx hb hts hin3 hown hK hP (kr0_0 (ka102 (kr5_3 ho0) hg11)) rfl rfl 1 (by decide) (fk3_1 (kr0_0 (ka102 (kr5_3 ho0) hg11))) (hts _ (List.mem_of_getElem? (i := 7) rfl)) dX5_sumOverBooths_83 ?_
            refine lv_iadd hx hb dX5_sumOverBooths_86 ?_
            refine lv_topi (fun x12 ex12 => ?_)
            replace hm := bV_of hm ex12
            refine lv_istore_n (lv' := [(2, .int x12), (0, .ref (base + o0)), (1, .int b1), (3, .int v3)]) hx hb dX5_sumOverBooths_87 rfl hl (by decide) rfl (fun ls hl => ?_)
            refine lv_goto (tgt := 107) hx hb dX5_sumOverBooths_88 (by decide) ?_
            obtain ⟨x13, ex13⟩ : ∃ z : Int32, z = v3 + (1 : Int32) := ⟨_, rfl⟩
            replace hm := bV_of hm ex13
            refine lv_iinc (v := x13) (lv' := [(3, .int x13), (2, .int x12), (0, .ref (base + o0)), (1, .int b1)]) hx hb dX5_sumOverBooths_107 hl (k := 3) rfl (by rw [ex13]; rfl) (by decide) rfl (fun ls hl => ?_)
            refine lv_goto (tgt := 4) hx hb dX5_sumOverBooths_110 (by decide) ?_
            exact ih x12 x13 _ _ _ w2 hm hP hS (lv_sub hl [2, 3, 1, 0] rfl) K
          · rw [if_neg c10] at hm
            refine lv_tableOut (tgt := 91) hx hb dX5_sumOverBooths_13 (by have nc2 : (b1).toInt ≠ 6 := fun h => c2 (Int32.toInt_inj.mp (h.trans (by decide))); have nc6 : (b1).toInt ≠ 7 := fun h => c6 (Int32.toInt_inj.mp (h.trans (by decide))); have nc10 : (b1).toInt ≠ 8 := fun h => c10 (Int32.toInt_inj.mp (h.trans (by decide))); omega) (by decide) ?_
            refine lv_iload_n hx hb dX5_sumOverBooths_91 rfl (lv_at hl 2 rfl) ?_
            refine lv_aload_n hx hb dX5_sumOverBooths_92 rfl (lv_at hl 0 rfl) ?_
            refine lv_iload_n hx hb dX5_sumOverBooths_93 rfl (lv_at hl 3 rfl) ?_
            obtain ⟨r14, hc15, hm⟩ := bO1_inv hm
            refine t_cVi (As := [.int v3]) (rest := [.int v2]) (μ' := μ) (r := r14) ⟨hx, hb, hml, hown, hts⟩ (mX5_isAble l D cA base H.size μ ho0 v3 hc15) (cwV 1 hts gX5_sumOverBooths_X5_isAble rfl rfl rfl (by decide +kernel) ⟨Nat.le_of_ble_eq_true rfl, Nat.le_of_ble_eq_true rfl⟩) (va_recv hK hP (q0 := o0) rfl (tw_obj ho0 (by decide))) hK hN hP hS hz rfl hl.1 (Nat.le_of_ble_eq_true rfl) dX5_sumOverBooths_94 hcs rfl (fun H locs hP hS => ?_)
            refine lv_if_eq (tgt := 104) hx hb dX5_sumOverBooths_97 (by decide) (fun c16 => ?_) (fun c16 => ?_)
            · rw [if_pos c16] at hm
              refine lv_iconst (v := (0 : Int32)) hx hb dX5_sumOverBooths_104 (by decide) ?_
              refine lv_iadd hx hb dX5_sumOverBooths_105 ?_
              refine lv_topi (fun x17 ex17 => ?_)
              replace hm := bV_of hm ex17
              refine lv_istore_n (lv' := [(2, .int x17), (0, .ref (base + o0)), (1, .int b1), (3, .int v3)]) hx hb dX5_sumOverBooths_106 rfl hl (by decide) rfl (fun ls hl => ?_)
              obtain ⟨x18, ex18⟩ : ∃ z : Int32, z = v3 + (1 : Int32) := ⟨_, rfl⟩
              replace hm := bV_of hm ex18
              refine lv_iinc (v := x18) (lv' := [(3, .int x18), (2, .int x17), (0, .ref (base + o0)), (1, .int b1)]) hx hb dX5_sumOverBooths_107 hl (k := 3) rfl (by rw [ex18]; rfl) (by decide) rfl (fun ls hl => ?_)
              refine lv_goto (tgt := 4) hx hb dX5_sumOverBooths_110 (by decide) ?_
              exact ih x17 x18 _ _ _ w2 hm hP hS (lv_sub hl [2, 3, 1, 0] rfl) K
            · rw [if_neg c16] at hm
              refine lv_iconst (v := (1 : Int32)) hx hb dX5_sumOverBooths_100 (by decide) ?_
              refine lv_goto (tgt := 105) hx hb dX5_sumOverBooths_101 (by decide) ?_
              refine lv_iadd hx hb dX5_sumOverBooths_105 ?_
              refine lv_topi (fun x19 ex19 => ?_)
              replace hm := bV_of hm ex19
              refine lv_istore_n (lv' := [(2, .int x19), (0, .ref (base + o0)), (1, .int b1), (3, .int v3)]) hx hb dX5_sumOverBooths_106 rfl hl (by decide) rfl (fun ls hl => ?_)
              obtain ⟨x20, ex20⟩ : ∃ z : Int32, z = v3 + (1 : Int32) := ⟨_, rfl⟩
              replace hm := bV_of hm ex20
              refine lv_iinc (v := x20) (lv' := [(3, .int x20), (2, .int x19), (0, .ref (base + o0)), (1, .int b1)]) hx hb dX5_sumOverBooths_107 hl (k := 3) rfl (by rw [ex20]; rfl) (by decide) rfl (fun ls hl => ?_)
              refine lv_goto (tgt := 4) hx hb dX5_sumOverBooths_110 (by decide) ?_
              exact ih x19 x20 _ _ _ w2 hm hP hS (lv_sub hl [2, 3, 1, 0] rfl) K
set_option maxHeartbeats 4000000 in
set_option maxRecDepth 100000 in
theorem mX5_sumOverBooths (l : Launch) (D : va_G) (cA : Nat → ClassId) (base sz : Nat) (μ : MM) {q : Nat} (hq : kc q = 5) (a1 : Int32) {r : Int32} (hm : X5_sumOverBooths q a1 μ = some r) : Met l yX5_sumOverBooths wsX5_sumOverBooths rmX5_sumOverBooths (va_Pc [.ref (base + q), .int a1] (tPre D cA base sz μ)) (va_Qi (fun (x : Int32) (_ : Unit) => x = r) (fun _ => tPost D cA base μ) (tA base sz)) 0 0 (tA base sz) := by
  refine Met.ofW (cc := cX5_sumOverBooths) (maxL := 4) (ret := (some .int)) (by decide +kernel) rfl ?_
  intro p e s m args below meth c s₁ B hml hv
  obtain ⟨rfl, hsz, hP, hK, hN⟩ := hv
  have hx := B.exec
  have hb := B.bytes
  have hr := B.returns
  have hts := atoms_spec (ws := wsX5_sumOverBooths) B.pre
  have hown : s.vm.findClass RX5 = some m.cls := findClass_of_methodNamed B.named
  have hlocks := B.notSynchronized
  subst hsz
  have hS : va_S (tA base s.heap.size) s.heap s.heap [] := va_S.rf
  have hz : s.heap.size ≤ s.heap.size := Nat.le_refl _
  have hl := lv_entry ([.ref (base + q), .int a1]) (n := 4) (Nat.le_of_ble_eq_true rfl)
  rw [lg_entry_eq]
  generalize (lg_sl ([.ref (base + q), .int a1]) ++ List.replicate (4 - (lg_sl ([.ref (base + q), .int a1])).length) Slot.unset).toArray = ls at hl ⊢
  have hl : lv_has ls 4 [(0, .ref (base + q)), (1, .int a1)] := hl
  unfold X5_sumOverBooths at hm
  refine lv_iconst (v := (0 : Int32)) hx hb dX5_sumOverBooths_0 (by decide) ?_
  refine lv_istore_n (lv' := [(2, .int (0 : Int32)), (0, .ref (base + q)), (1, .int a1)]) hx hb dX5_sumOverBooths_1 rfl hl (by decide) rfl (fun ls hl => ?_)
  refine lv_iconst (v := (0 : Int32)) hx hb dX5_sumOverBooths_2 (by decide) ?_
  refine lv_istore_n (lv' := [(3, .int (0 : Int32)), (2, .int (0 : Int32)), (0, .ref (base + q)), (1, .int a1)]) hx hb dX5_sumOverBooths_3 rfl hl (by decide) rfl (fun ls hl => ?_)
  obtain ⟨x21, hc22, hm⟩ := bO1_inv hm
  refine lX5_sumOverBooths_L4 ⟨hx, hb, hml, hown, hts⟩ hK hN hz hq a1 μ ⟨Nat.le_of_ble_eq_true rfl, Nat.le_of_ble_eq_true rfl⟩ 1000 (0 : Int32) (0 : Int32) _ _ _ x21 hc22 hP hS (lv_sub hl [2, 3, 1, 0] rfl) ?_
  intro H locs ls hP hS hl
  refine lv_iload_n hx hb dX5_sumOverBooths_113 rfl (lv_at hl 0 rfl) ?_
  cases hm
  exact W.iret hx hb hr (fun t ht hW => ⟨⟨_, (), rfl, rfl, tPost_of hP ht⟩, hS.F ht⟩) hS.2.2 dX5_sumOverBooths_114
abbrev rmX5_tellCount : Room := { frames := 4, cells := 0, slots := 0, locals := 88 }
set_option maxHeartbeats 4000000 in
set_option maxRecDepth 100000 in
theorem mX5_tellCount (l : Launch) (D : va_G) (cA : Nat → ClassId) (base sz : Nat) (μ : MM) {q : Nat} (hq : kc q = 5) (a1 : Int32) {r : Int32} (hm : X5_tellCount q a1 μ = some r) : Met l yX5_tellCount wsX5_tellCount rmX5_tellCount (va_Pc [.ref (base + q), .int a1] (tPre D cA base sz μ)) (va_Qi (fun (x : Int32) (_ : Unit) => x = r) (fun _ => tPost D cA base μ) (tA base sz)) 0 0 (tA base sz) := by
  refine Met.ofW (cc := cX5_tellCount) (maxL := 2) (ret := (some .int)) (by decide +kernel) rfl ?_
  intro p e s m args below meth c s₁ B hml hv
  obtain ⟨rfl, hsz, hP, hK, hN⟩ := hv
  have hx := B.exec
  have hb := B.bytes
  have hr := B.returns
  have hts := atoms_spec (ws := wsX5_tellCount) B.pre
  have hown : s.vm.findClass RX5 = some m.cls := findClass_of_methodNamed B.named
  have hlocks := B.notSynchronized
  have hin3 : ∀ w ∈ wsX30, w ∈ wsX5_tellCount := by decide +kernel
  have hin4 : ∀ w ∈ wsX40, w ∈ wsX5_tellCount := by decide +kernel
  have hin5 : ∀ w ∈ wsX50, w ∈ wsX5_tellCount := by decide +kernel
  subst hsz
  have hS : va_S (tA base s.heap.size) s.heap s.heap [] := va_S.rf
  have hz : s.heap.size ≤ s.heap.size := Nat.le_refl _
  have hl := lv_entry ([.ref (base + q), .int a1]) (n := 2) (Nat.le_of_ble_eq_true rfl)
  rw [lg_entry_eq]
  generalize (lg_sl ([.ref (base + q), .int a1]) ++ List.replicate (2 - (lg_sl ([.ref (base + q), .int a1])).length) Slot.unset).toArray = ls at hl ⊢
  have hl : lv_has ls 2 [(0, .ref (base + q)), (1, .int a1)] := hl
  unfold X5_tellCount at hm
  refine lv_iload_n hx hb dX5_tellCount_0 rfl (lv_at hl 1 rfl) ?_
  by_cases c1 : a1 = 0
  · rw [if_pos c1] at hm
    refine lv_tableIn (tgt := 40) hx hb dX5_tellCount_1 (by rw [c1]; decide) (by rw [c1]; decide) (by rw [c1]; rfl) (by decide) ?_
    refine lv_aload_n hx hb dX5_tellCount_40 rfl (lv_at hl 0 rfl) ?_
    refine t_geti (C := RX5) (T := TX5) (N := 9) hx hb hts hin5 hown hK hP hq rfl rfl 8 (by decide) (fk5_8 hq) (hts _ (List.mem_of_getElem? (i := 1) rfl)) dX5_tellCount_41 ?_
    cases hm
    exact W.iret hx hb hr (fun t ht hW => ⟨⟨_, (), rfl, rfl, tPost_of hP ht⟩, hS.F ht⟩) hS.2.2 dX5_tellCount_44
  · rw [if_neg c1] at hm
    by_cases c2 : a1 = 1
    · rw [if_pos c2] at hm
      refine lv_tableIn (tgt := 45) hx hb dX5_tellCount_1 (by rw [c2]; decide) (by rw [c2]; decide) (by rw [c2]; rfl) (by decide) ?_
      refine lv_aload_n hx hb dX5_tellCount_45 rfl (lv_at hl 0 rfl) ?_
      refine t_geti (C := RX5) (T := TX5) (N := 9) hx hb hts hin5 hown hK hP hq rfl rfl 5 (by decide) (fk5_5 hq) (hts _ (List.mem_of_getElem? (i := 2) rfl)) dX5_tellCount_46 ?_
      cases hm
      exact W.iret hx hb hr (fun t ht hW => ⟨⟨_, (), rfl, rfl, tPost_of hP ht⟩, hS.F ht⟩) hS.2.2 dX5_tellCount_49
    · rw [if_neg c2] at hm
      by_cases c3 : a1 = 2
      · rw [if_pos c3] at hm
        refine lv_tableIn (tgt := 50) hx hb dX5_tellCount_1 (by rw [c3]; decide) (by rw [c3]; decide) (by rw [c3]; rfl) (by decide) ?_
        refine lv_aload_n hx hb dX5_tellCount_50 rfl (lv_at hl 0 rfl) ?_
        refine t_getr (C := RX5) (T := TX5) (N := 9) hx hb hts hin5 hown hK hP hq rfl rfl 1 (by decide) (fr5_1 hq) (hts _ (List.mem_of_getElem? (i := 3) rfl)) dX5_tellCount_51 ?_
        refine t_geti (C := RX3) (T := TX3) (N := 2) hx hb hts hin3 hown hK hP (kr5_1 hq) rfl rfl 1 (by decide) (fk3_1 (kr5_1 hq)) (hts _ (List.mem_of_getElem? (i := 4) rfl)) dX5_tellCount_54 ?_
        cases hm
        exact W.iret hx hb hr (fun t ht hW => ⟨⟨_, (), rfl, rfl, tPost_of hP ht⟩, hS.F ht⟩) hS.2.2 dX5_tellCount_57
      · rw [if_neg c3] at hm
        by_cases c4 : a1 = 3
        · rw [if_pos c4] at hm
          refine lv_tableIn (tgt := 58) hx hb dX5_tellCount_1 (by rw [c4]; decide) (by rw [c4]; decide) (by rw [c4]; rfl) (by decide) ?_
          refine lv_aload_n hx hb dX5_tellCount_58 rfl (lv_at hl 0 rfl) ?_
          refine t_getr (C := RX5) (T := TX5) (N := 9) hx hb hts hin5 hown hK hP hq rfl rfl 2 (by decide) (fr5_2 hq) (hts _ (List.mem_of_getElem? (i := 5) rfl)) dX5_tellCount_59 ?_
          refine t_geti (C := RX4) (T := TX4) (N := 3) hx hb hts hin4 hown hK hP (kr5_2 hq) rfl rfl 2 (by decide) (fk4_2 (kr5_2 hq)) (hts _ (List.mem_of_getElem? (i := 6) rfl)) dX5_tellCount_62 ?_
          cases hm
          exact W.iret hx hb hr (fun t ht hW => ⟨⟨_, (), rfl, rfl, tPost_of hP ht⟩, hS.F ht⟩) hS.2.2 dX5_tellCount_65
        · rw [if_neg c4] at hm
          by_cases c5 : a1 = 4
          · rw [if_pos c5] at hm
            refine lv_tableIn (tgt := 66) hx hb dX5_tellCount_1 (by rw [c5]; decide) (by rw [c5]; decide) (by rw [c5]; rfl) (by decide) ?_
            refine lv_aload_n hx hb dX5_tellCount_66 rfl (lv_at hl 0 rfl) ?_
            refine t_geti (C := RX5) (T := TX5) (N := 9) hx hb hts hin5 hown hK hP hq rfl rfl 6 (by decide) (fk5_6 hq) (hts _ (List.mem_of_getElem? (i := 7) rfl)) dX5_tellCount_67 ?_
            cases hm
            exact W.iret hx hb hr (fun t ht hW => ⟨⟨_, (), rfl, rfl, tPost_of hP ht⟩, hS.F ht⟩) hS.2.2 dX5_tellCount_70
          · rw [if_neg c5] at hm
            by_cases c6 : a1 = 5
            · rw [if_pos c6] at hm
              refine lv_tableIn (tgt := 71) hx hb dX5_tellCount_1 (by rw [c6]; decide) (by rw [c6]; decide) (by rw [c6]; rfl) (by decide) ?_
              refine lv_aload_n hx hb dX5_tellCount_71 rfl (lv_at hl 0 rfl) ?_
              refine t_geti (C := RX5) (T := TX5) (N := 9) hx hb hts hin5 hown hK hP hq rfl rfl 7 (by decide) (fk5_7 hq) (hts _ (List.mem_of_getElem? (i := 8) rfl)) dX5_tellCount_72 ?_
              cases hm
              exact W.iret hx hb hr (fun t ht hW => ⟨⟨_, (), rfl, rfl, tPost_of hP ht⟩, hS.F ht⟩) hS.2.2 dX5_tellCount_75
            · rw [if_neg c6] at hm
              refine lv_tableOut (tgt := 76) hx hb dX5_tellCount_1 (by have nc1 : (a1).toInt ≠ 0 := fun h => c1 (Int32.toInt_inj.mp (h.trans (by decide))); have nc2 : (a1).toInt ≠ 1 := fun h => c2 (Int32.toInt_inj.mp (h.trans (by decide))); have nc3 : (a1).toInt ≠ 2 := fun h => c3 (Int32.toInt_inj.mp (h.trans (by decide))); have nc4 : (a1).toInt ≠ 3 := fun h => c4 (Int32.toInt_inj.mp (h.trans (by decide))); have nc5 : (a1).toInt ≠ 4 := fun h => c5 (Int32.toInt_inj.mp (h.trans (by decide))); have nc6 : (a1).toInt ≠ 5 := fun h => c6 (Int32.toInt_inj.mp (h.trans (by decide))); omega) (by decide) ?_
              refine lv_aload_n hx hb dX5_tellCount_76 rfl (lv_at hl 0 rfl) ?_
              refine lv_iload_n hx hb dX5_tellCount_77 rfl (lv_at hl 1 rfl) ?_
              obtain ⟨r7, hc8, hm⟩ := bO1_inv hm
              refine t_cVi (As := [.int a1]) (rest := []) (μ' := μ) (r := r7) ⟨hx, hb, hml, hown, hts⟩ (mX5_sumOverBooths l D cA base s.heap.size μ hq a1 hc8) (cwV 1 hts gX5_tellCount_X5_sumOverBooths rfl rfl rfl (by decide +kernel) ⟨Nat.le_of_ble_eq_true rfl, Nat.le_of_ble_eq_true rfl⟩) (va_recv hK hP (q0 := q) rfl (tw_obj hq (by decide))) hK hN hP hS hz rfl hl.1 (Nat.le_of_ble_eq_true rfl) dX5_tellCount_78 ⟨Nat.le_of_ble_eq_true rfl, Nat.le_of_ble_eq_true rfl⟩ rfl (fun H locs hP hS => ?_)
              cases hm
              exact W.iret hx hb hr (fun t ht hW => ⟨⟨_, (), rfl, rfl, tPost_of hP ht⟩, hS.F ht⟩) hS.2.2 dX5_tellCount_81
abbrev rmX5_copyFrom : Room := { frames := 3, cells := 0, slots := 0, locals := 82 }
set_option maxHeartbeats 4000000 in
set_option maxRecDepth 100000 in
theorem lX5_copyFrom_L56 {p : Program} {l : Launch} {e : Env} {s : State} {m : MethodId} {args : Array Value} {below : List Frame} {meth : Method} {c : Code} {Q : State → Prop} {D : va_G} {cA : Nat → ClassId} {base sz0 : Nat} {H0 : Heap} (FX : CallFix p m c cX5_copyFrom 3 s args wsX5_copyFrom RX5) (hK : va_K D vwCl (tys cA) s) (hN : tN s) (hz : sz0 ≤ H0.size) {o0 : Nat} (ho0 : kc o0 = 5) {o1 : Nat} (ho1 : kc o1 = 5) {cells slots : Nat} (hcs : cells ≤ 0 ∧ slots ≤ 0) :
    ∀ (n : Nat) (v2 : Int32) (μ : MM) (H : Heap) (locs : List Loc) (ls : Array Slot) (μ' : MM), X5_copyFrom_L56 o0 o1 n v2 μ = some μ' → va_P D vwCl (tw base cA μ []) H → va_S (tA base sz0) H0 H locs → lv_has ls 3 [(0, .ref (base + o0)), (1, .ref (base + o1)), (2, .int v2)] → (∀ (H : Heap) (locs : List Loc) (ls : Array Slot), va_P D vwCl (tw base cA μ' []) H → va_S (tA base sz0) H0 H locs → lv_has ls 3 [(0, .ref (base + o0)), (1, .ref (base + o1))] → W p l e rmX5_copyFrom s m args below meth c H locs cells slots Q (F0 m 85 ls [])) → W p l e rmX5_copyFrom s m args below meth c H locs cells slots Q (F0 m 56 ls []) := by
  obtain ⟨hx, hb, hml, hown, hts⟩ := FX
  have hin5 : ∀ w ∈ wsX50, w ∈ wsX5_copyFrom := by decide +kernel
  intro n
  induction n with
  | zero =>
    intro v2 μ H locs ls μ' hm
    cases hm
  | succ n ih =>
    intro v2 μ H locs ls μ' hm hP hS hl K
    rw [X5_copyFrom_L56_s] at hm
    refine lv_iload_n hx hb dX5_copyFrom_56 rfl (lv_at hl 2 rfl) ?_
    refine lv_aload_n hx hb dX5_copyFrom_57 rfl (lv_at hl 0 rfl) ?_
    refine t_geti (C := RX5) (T := TX5) (N := 9) hx hb hts hin5 hown hK hP ho0 rfl rfl 6 (by decide) (fk5_6 ho0) (hts _ (List.mem_of_getElem? (i := 4) rfl)) dX5_copyFrom_58 ?_
    refine lv_icmp_ge (tgt := 85) hx hb dX5_copyFrom_61 (by decide) (fun c9 => ?_) (fun c9 => ?_)
    · rw [if_pos c9] at hm
      cases hm
      exact K _ _ _ hP hS (lv_sub hl [0, 1] rfl)
    · rw [if_neg c9] at hm
      refine lv_aload_n hx hb dX5_copyFrom_64 rfl (lv_at hl 0 rfl) ?_
      refine t_getr (C := RX5) (T := TX5) (N := 9) hx hb hts hin5 hown hK hP ho0 rfl rfl 3 (by decide) (fr5_3 ho0) (hts _ (List.mem_of_getElem? (i := 7) rfl)) dX5_copyFrom_65 ?_
      refine lv_iload_n hx hb dX5_copyFrom_68 rfl (lv_at hl 2 rfl) ?_
      obtain ⟨hg10, hm⟩ := gd_inv hm
      refine t_aald2 hx hb hK hP (kr5_3 ho0) hg10 dX5_copyFrom_69 ?_
      refine lv_aload_n hx hb dX5_copyFrom_70 rfl (lv_at hl 1 rfl) ?_
      refine t_getr (C := RX5) (T := TX5) (N := 9) hx hb hts hin5 hown hK hP ho1 rfl rfl 3 (by decide) (fr5_3 ho1) (hts _ (List.mem_of_getElem? (i := 7) rfl)) dX5_copyFrom_71 ?_
      refine lv_iload_n hx hb dX5_copyFrom_74 rfl (lv_at hl 2 rfl) ?_
      obtain ⟨hg11, hm⟩ := gd_inv hm
      refine t_aald2 hx hb hK hP (kr5_3 ho1) hg11 dX5_copyFrom_75 ?_
      obtain ⟨μ12, hc13, hm⟩ := bO1_inv hm
      refine t_cVv (As := [.ref (base + (RF (RF o1 3) v2.toNatClampNeg))]) (rest := []) (μ' := μ12) ⟨hx, hb, hml, hown, hts⟩ (mX0_copyFrom l D cA base H.size μ (ka102 (kr5_3 ho0) hg10) (ka102 (kr5_3 ho1) hg11) hc13) (cwV 1 hts gX5_copyFrom_X0_copyFrom rfl rfl rfl (by decide +kernel) ⟨Nat.le_of_ble_eq_true rfl, Nat.le_of_ble_eq_true rfl⟩) (va_recv hK hP (q0 := RF (RF o0 3) v2.toNatClampNeg) rfl (tw_obj (ka102 (kr5_3 ho0) hg10) (by decide))) hK hN hP hS hz rfl hl.1 (Nat.le_of_ble_eq_true rfl) dX5_copyFrom_76 hcs rfl (fun H locs hP hS => ?_)
      obtain ⟨x14, ex14⟩ : ∃ z : Int32, z = v2 + (1 : Int32) := ⟨_, rfl⟩
      replace hm := bV_of hm ex14
      refine lv_iinc (v := x14) (lv' := [(2, .int x14), (0, .ref (base + o0)), (1, .ref (base + o1))]) hx hb dX5_copyFrom_79 hl (k := 2) rfl (by rw [ex14]; rfl) (by decide) rfl (fun ls hl => ?_)
      refine lv_goto (tgt := 56) hx hb dX5_copyFrom_82 (by decide) ?_
      exact ih x14 μ12 _ _ _ μ' hm hP hS (lv_sub hl [1, 2, 0] rfl) K
set_option maxHeartbeats 4000000 in
set_option maxRecDepth 100000 in
theorem lX5_copyFrom_L87 {p : Program} {l : Launch} {e : Env} {s : State} {m : MethodId} {args : Array Value} {below : List Frame} {meth : Method} {c : Code} {Q : State → Prop} {D : va_G} {cA : Nat → ClassId} {base sz0 : Nat} {H0 : Heap} (FX : CallFix p m c cX5_copyFrom 3 s args wsX5_copyFrom RX5) (hK : va_K D vwCl (tys cA) s) (hN : tN s) (hz : sz0 ≤ H0.size) {o0 : Nat} (ho0 : kc o0 = 5) {o1 : Nat} (ho1 : kc o1 = 5) {cells slots : Nat} (hcs : cells ≤ 0 ∧ slots ≤ 0) :
    ∀ (n : Nat) (v2 : Int32) (μ : MM) (H : Heap) (locs : List Loc) (ls : Array Slot) (μ' : MM), X5_copyFrom_L87 o0 o1 n v2 μ = some μ' → va_P D vwCl (tw base cA μ []) H → va_S (tA base sz0) H0 H locs → lv_has ls 3 [(0, .ref (base + o0)), (1, .ref (base + o1)), (2, .int v2)] → (∀ (H : Heap) (locs : List Loc) (ls : Array Slot), va_P D vwCl (tw base cA μ' []) H → va_S (tA base sz0) H0 H locs → lv_has ls 3 [] → W p l e rmX5_copyFrom s m args below meth c H locs cells slots Q (F0 m 116 ls [])) → W p l e rmX5_copyFrom s m args below meth c H locs cells slots Q (F0 m 87 ls []) := by
  obtain ⟨hx, hb, hml, hown, hts⟩ := FX
  have hin5 : ∀ w ∈ wsX50, w ∈ wsX5_copyFrom := by decide +kernel
  intro n
  induction n with
  | zero =>
    intro v2 μ H locs ls μ' hm
    cases hm
  | succ n ih =>
    intro v2 μ H locs ls μ' hm hP hS hl K
    rw [X5_copyFrom_L87_s] at hm
    refine lv_iload_n hx hb dX5_copyFrom_87 rfl (lv_at hl 2 rfl) ?_
    refine lv_aload_n hx hb dX5_copyFrom_88 rfl (lv_at hl 0 rfl) ?_
    refine t_geti (C := RX5) (T := TX5) (N := 9) hx hb hts hin5 hown hK hP ho0 rfl rfl 7 (by decide) (fk5_7 ho0) (hts _ (List.mem_of_getElem? (i := 5) rfl)) dX5_copyFrom_89 ?_
    refine lv_icmp_ge (tgt := 116) hx hb dX5_copyFrom_92 (by decide) (fun c17 => ?_) (fun c17 => ?_)
    · rw [if_pos c17] at hm
      cases hm
      exact K _ _ _ hP hS (lv_sub hl [] rfl)
    · rw [if_neg c17] at hm
      refine lv_aload_n hx hb dX5_copyFrom_95 rfl (lv_at hl 0 rfl) ?_
      refine t_getr (C := RX5) (T := TX5) (N := 9) hx hb hts hin5 hown hK hP ho0 rfl rfl 4 (by decide) (fr5_4 ho0) (hts _ (List.mem_of_getElem? (i := 8) rfl)) dX5_copyFrom_96 ?_
      refine lv_iload_n hx hb dX5_copyFrom_99 rfl (lv_at hl 2 rfl) ?_
      obtain ⟨hg18, hm⟩ := gd_inv hm
      refine t_aald3 hx hb hK hP (kr5_4 ho0) hg18 dX5_copyFrom_100 ?_
      refine lv_aload_n hx hb dX5_copyFrom_101 rfl (lv_at hl 1 rfl) ?_
      refine t_getr (C := RX5) (T := TX5) (N := 9) hx hb hts hin5 hown hK hP ho1 rfl rfl 4 (by decide) (fr5_4 ho1) (hts _ (List.mem_of_getElem? (i := 8) rfl)) dX5_copyFrom_102 ?_
      refine lv_iload_n hx hb dX5_copyFrom_105 rfl (lv_at hl 2 rfl) ?_
      obtain ⟨hg19, hm⟩ := gd_inv hm
      refine t_aald3 hx hb hK hP (kr5_4 ho1) hg19 dX5_copyFrom_106 ?_
      obtain ⟨μ20, hc21⟩ : ∃ z, X2_copyFrom (RF (RF o0 4) v2.toNatClampNeg) (RF (RF o1 4) v2.toNatClampNeg) μ = z := ⟨_, rfl⟩
      replace hm := bV_of hm hc21.symm
      refine t_cVv (As := [.ref (base + (RF (RF o1 4) v2.toNatClampNeg))]) (rest := []) (μ' := μ20) ⟨hx, hb, hml, hown, hts⟩ (mX2_copyFrom l D cA base H.size μ (ka103 (kr5_4 ho0) hg18) (ka103 (kr5_4 ho1) hg19) hc21) (cwV 1 hts gX5_copyFrom_X2_copyFrom rfl rfl rfl (by decide +kernel) ⟨Nat.le_of_ble_eq_true rfl, Nat.le_of_ble_eq_true rfl⟩) (va_recv hK hP (q0 := RF (RF o0 4) v2.toNatClampNeg) rfl (tw_obj (ka103 (kr5_4 ho0) hg18) (by decide))) hK hN hP hS hz rfl hl.1 (Nat.le_of_ble_eq_true rfl) dX5_copyFrom_107 hcs rfl (fun H locs hP hS => ?_)
      obtain ⟨x22, ex22⟩ : ∃ z : Int32, z = v2 + (1 : Int32) := ⟨_, rfl⟩
      replace hm := bV_of hm ex22
      refine lv_iinc (v := x22) (lv' := [(2, .int x22), (0, .ref (base + o0)), (1, .ref (base + o1))]) hx hb dX5_copyFrom_110 hl (k := 2) rfl (by rw [ex22]; rfl) (by decide) rfl (fun ls hl => ?_)
      refine lv_goto (tgt := 87) hx hb dX5_copyFrom_113 (by decide) ?_
      exact ih x22 μ20 _ _ _ μ' hm hP hS (lv_sub hl [1, 2, 0] rfl) K
set_option maxHeartbeats 4000000 in
set_option maxRecDepth 100000 in
theorem mX5_copyFrom (l : Launch) (D : va_G) (cA : Nat → ClassId) (base sz : Nat) (μ : MM) {q : Nat} (hq : kc q = 5) {a1 : Nat} (ha1 : kc a1 = 5) {μ' : MM} (hm : X5_copyFrom q a1 μ = some μ') : Met l yX5_copyFrom wsX5_copyFrom rmX5_copyFrom (va_Pc [.ref (base + q), .ref (base + a1)] (tPre D cA base sz μ)) (va_Qv (fun _ : Unit => True) (fun _ => tPost D cA base μ') (tA base sz)) 0 0 (tA base sz) := by
  refine Met.ofW (cc := cX5_copyFrom) (maxL := 3) (ret := none) (by decide +kernel) rfl ?_
  intro p e s m args below meth c s₁ B hml hv
  obtain ⟨rfl, hsz, hP, hK, hN⟩ := hv
  have hx := B.exec
  have hb := B.bytes
  have hr := B.returns
  have hts := atoms_spec (ws := wsX5_copyFrom) B.pre
  have hown : s.vm.findClass RX5 = some m.cls := findClass_of_methodNamed B.named
  have hlocks := B.notSynchronized
  have hin5 : ∀ w ∈ wsX50, w ∈ wsX5_copyFrom := by decide +kernel
  subst hsz
  have hS : va_S (tA base s.heap.size) s.heap s.heap [] := va_S.rf
  have hz : s.heap.size ≤ s.heap.size := Nat.le_refl _
  have hl := lv_entry ([.ref (base + q), .ref (base + a1)]) (n := 3) (Nat.le_of_ble_eq_true rfl)
  rw [lg_entry_eq]
  generalize (lg_sl ([.ref (base + q), .ref (base + a1)]) ++ List.replicate (3 - (lg_sl ([.ref (base + q), .ref (base + a1)])).length) Slot.unset).toArray = ls at hl ⊢
  have hl : lv_has ls 3 [(0, .ref (base + q)), (1, .ref (base + a1))] := hl
  unfold X5_copyFrom at hm
  refine lv_aload_n hx hb dX5_copyFrom_0 rfl (lv_at hl 0 rfl) ?_
  refine t_getr (C := RX5) (T := TX5) (N := 9) hx hb hts hin5 hown hK hP hq rfl rfl 1 (by decide) (fr5_1 hq) (hts _ (List.mem_of_getElem? (i := 1) rfl)) dX5_copyFrom_1 ?_
  refine lv_aload_n hx hb dX5_copyFrom_4 rfl (lv_at hl 1 rfl) ?_
  refine t_getr (C := RX5) (T := TX5) (N := 9) hx hb hts hin5 hown hK hP ha1 rfl rfl 1 (by decide) (fr5_1 ha1) (hts _ (List.mem_of_getElem? (i := 1) rfl)) dX5_copyFrom_5 ?_
  obtain ⟨μ1, hc2, hm⟩ := bO1_inv hm
  refine t_cVv (As := [.ref (base + (RF a1 1))]) (rest := []) (μ' := μ1) ⟨hx, hb, hml, hown, hts⟩ (mX3_copyFrom l D cA base s.heap.size μ (kr5_1 hq) (kr5_1 ha1) hc2) (cwV 1 hts gX5_copyFrom_X3_copyFrom rfl rfl rfl (by decide +kernel) ⟨Nat.le_of_ble_eq_true rfl, Nat.le_of_ble_eq_true rfl⟩) (va_recv hK hP (q0 := RF q 1) rfl (tw_obj (kr5_1 hq) (by decide))) hK hN hP hS hz rfl hl.1 (Nat.le_of_ble_eq_true rfl) dX5_copyFrom_8 ⟨Nat.le_of_ble_eq_true rfl, Nat.le_of_ble_eq_true rfl⟩ rfl (fun H locs hP hS => ?_)
  refine lv_aload_n hx hb dX5_copyFrom_11 rfl (lv_at hl 0 rfl) ?_
  refine t_getr (C := RX5) (T := TX5) (N := 9) hx hb hts hin5 hown hK hP hq rfl rfl 2 (by decide) (fr5_2 hq) (hts _ (List.mem_of_getElem? (i := 2) rfl)) dX5_copyFrom_12 ?_
  refine lv_aload_n hx hb dX5_copyFrom_15 rfl (lv_at hl 1 rfl) ?_
  refine t_getr (C := RX5) (T := TX5) (N := 9) hx hb hts hin5 hown hK hP ha1 rfl rfl 2 (by decide) (fr5_2 ha1) (hts _ (List.mem_of_getElem? (i := 2) rfl)) dX5_copyFrom_16 ?_
  obtain ⟨μ3, hc4, hm⟩ := bO1_inv hm
  refine t_cVv (As := [.ref (base + (RF a1 2))]) (rest := []) (μ' := μ3) ⟨hx, hb, hml, hown, hts⟩ (mX4_copyFrom l D cA base H.size μ1 (kr5_2 hq) (kr5_2 ha1) hc4) (cwV 1 hts gX5_copyFrom_X4_copyFrom rfl rfl rfl (by decide +kernel) ⟨Nat.le_of_ble_eq_true rfl, Nat.le_of_ble_eq_true rfl⟩) (va_recv hK hP (q0 := RF q 2) rfl (tw_obj (kr5_2 hq) (by decide))) hK hN hP hS hz rfl hl.1 (Nat.le_of_ble_eq_true rfl) dX5_copyFrom_19 ⟨Nat.le_of_ble_eq_true rfl, Nat.le_of_ble_eq_true rfl⟩ rfl (fun H locs hP hS => ?_)
  refine lv_aload_n hx hb dX5_copyFrom_22 rfl (lv_at hl 0 rfl) ?_
  refine lv_aload_n hx hb dX5_copyFrom_23 rfl (lv_at hl 1 rfl) ?_
  refine t_geti (C := RX5) (T := TX5) (N := 9) hx hb hts hin5 hown hK hP ha1 rfl rfl 5 (by decide) (fk5_5 ha1) (hts _ (List.mem_of_getElem? (i := 3) rfl)) dX5_copyFrom_24 ?_
  refine t_put (C := RX5) (T := TX5) (N := 9) hx hb hts hin5 tyX5 tyX5_ok nmX5 hown hK hP (tD _ _ _ _) hS hq rfl rfl 5 (by decide) (fk5_5 hq) (hts _ (List.mem_of_getElem? (i := 3) rfl)) rfl (by decide +kernel) dX5_copyFrom_27 (fun H locs hP hS => ?_)
  obtain ⟨μ5, eμ5⟩ : ∃ z : MM, z = wI μ3 q 5 (rI μ3 a1 5) := ⟨_, rfl⟩
  rw [← eμ5] at hP
  replace hm := bV_of hm eμ5
  refine lv_aload_n hx hb dX5_copyFrom_30 rfl (lv_at hl 0 rfl) ?_
  refine lv_aload_n hx hb dX5_copyFrom_31 rfl (lv_at hl 1 rfl) ?_
  refine t_geti (C := RX5) (T := TX5) (N := 9) hx hb hts hin5 hown hK hP ha1 rfl rfl 6 (by decide) (fk5_6 ha1) (hts _ (List.mem_of_getElem? (i := 4) rfl)) dX5_copyFrom_32 ?_
  refine t_put (C := RX5) (T := TX5) (N := 9) hx hb hts hin5 tyX5 tyX5_ok nmX5 hown hK hP (tD _ _ _ _) hS hq rfl rfl 6 (by decide) (fk5_6 hq) (hts _ (List.mem_of_getElem? (i := 4) rfl)) rfl (by decide +kernel) dX5_copyFrom_35 (fun H locs hP hS => ?_)
  obtain ⟨μ6, eμ6⟩ : ∃ z : MM, z = wI μ5 q 6 (rI μ5 a1 6) := ⟨_, rfl⟩
  rw [← eμ6] at hP
  replace hm := bV_of hm eμ6
  refine lv_aload_n hx hb dX5_copyFrom_38 rfl (lv_at hl 0 rfl) ?_
  refine lv_aload_n hx hb dX5_copyFrom_39 rfl (lv_at hl 1 rfl) ?_
  refine t_geti (C := RX5) (T := TX5) (N := 9) hx hb hts hin5 hown hK hP ha1 rfl rfl 7 (by decide) (fk5_7 ha1) (hts _ (List.mem_of_getElem? (i := 5) rfl)) dX5_copyFrom_40 ?_
  refine t_put (C := RX5) (T := TX5) (N := 9) hx hb hts hin5 tyX5 tyX5_ok nmX5 hown hK hP (tD _ _ _ _) hS hq rfl rfl 7 (by decide) (fk5_7 hq) (hts _ (List.mem_of_getElem? (i := 5) rfl)) rfl (by decide +kernel) dX5_copyFrom_43 (fun H locs hP hS => ?_)
  obtain ⟨μ7, eμ7⟩ : ∃ z : MM, z = wI μ6 q 7 (rI μ6 a1 7) := ⟨_, rfl⟩
  rw [← eμ7] at hP
  replace hm := bV_of hm eμ7
  refine lv_aload_n hx hb dX5_copyFrom_46 rfl (lv_at hl 0 rfl) ?_
  refine lv_aload_n hx hb dX5_copyFrom_47 rfl (lv_at hl 1 rfl) ?_
  refine t_geti (C := RX5) (T := TX5) (N := 9) hx hb hts hin5 hown hK hP ha1 rfl rfl 8 (by decide) (fk5_8 ha1) (hts _ (List.mem_of_getElem? (i := 6) rfl)) dX5_copyFrom_48 ?_
  refine t_put (C := RX5) (T := TX5) (N := 9) hx hb hts hin5 tyX5 tyX5_ok nmX5 hown hK hP (tD _ _ _ _) hS hq rfl rfl 8 (by decide) (fk5_8 hq) (hts _ (List.mem_of_getElem? (i := 6) rfl)) rfl (by decide +kernel) dX5_copyFrom_51 (fun H locs hP hS => ?_)
  obtain ⟨μ8, eμ8⟩ : ∃ z : MM, z = wI μ7 q 8 (rI μ7 a1 8) := ⟨_, rfl⟩
  rw [← eμ8] at hP
  replace hm := bV_of hm eμ8
  refine lv_iconst (v := (0 : Int32)) hx hb dX5_copyFrom_54 (by decide) ?_
  refine lv_istore_n (lv' := [(2, .int (0 : Int32)), (0, .ref (base + q)), (1, .ref (base + a1))]) hx hb dX5_copyFrom_55 rfl hl (by decide) rfl (fun ls hl => ?_)
  obtain ⟨μ15, hc16, hm⟩ := bO1_inv hm
  refine lX5_copyFrom_L56 ⟨hx, hb, hml, hown, hts⟩ hK hN hz hq ha1 ⟨Nat.le_of_ble_eq_true rfl, Nat.le_of_ble_eq_true rfl⟩ 1000 (0 : Int32) μ8 _ _ _ μ15 hc16 hP hS (lv_sub hl [1, 2, 0] rfl) ?_
  intro H locs ls hP hS hl
  refine lv_iconst (v := (0 : Int32)) hx hb dX5_copyFrom_85 (by decide) ?_
  refine lv_istore_n (lv' := [(2, .int (0 : Int32)), (0, .ref (base + q)), (1, .ref (base + a1))]) hx hb dX5_copyFrom_86 rfl hl (by decide) rfl (fun ls hl => ?_)
  obtain ⟨μ23, hc24, hm⟩ := bO1_inv hm
  refine lX5_copyFrom_L87 ⟨hx, hb, hml, hown, hts⟩ hK hN hz hq ha1 ⟨Nat.le_of_ble_eq_true rfl, Nat.le_of_ble_eq_true rfl⟩ 1000 (0 : Int32) μ15 _ _ _ μ23 hc24 hP hS (lv_sub hl [1, 2, 0] rfl) ?_
  intro H locs ls hP hS hl
  cases hm
  exact W.vret hx hb hr (fun t ht hW => ⟨⟨(), rfl, trivial, tPost_of hP ht⟩, hS.F ht⟩) hS.2.2 dX5_copyFrom_116
