abbrev rmX3_first : Room := { frames := 0, cells := 0, slots := 0, locals := 0 }
set_option maxHeartbeats 4000000 in
set_option maxRecDepth 100000 in
theorem mX3_first (l : Launch) (D : va_G) (cA : Nat → ClassId) (base sz : Nat) (μ : MM) {q : Nat} (hq : kc q = 3) {r : Int32} (hm : X3_first q μ = some r) : Met l yX3_first wsX3_first rmX3_first (va_Pc [.ref (base + q)] (tPre D cA base sz μ)) (va_Qi (fun (x : Int32) (_ : Unit) => x = r) (fun _ => tPost D cA base μ) (tA base sz)) 0 0 (tA base sz) := by
  refine Met.ofW (cc := cX3_first) (maxL := 1) (ret := (some .int)) (by decide +kernel) rfl ?_
  intro p e s m args below meth c s₁ B hml hv
  obtain ⟨rfl, hsz, hP, hK, hN⟩ := hv
  have hx := B.exec
  have hb := B.bytes
  have hr := B.returns
  have hts := atoms_spec (ws := wsX3_first) B.pre
  have hown : s.vm.findClass RX3 = some m.cls := findClass_of_methodNamed B.named
  have hlocks := B.notSynchronized
  have hin3 : ∀ w ∈ wsX30, w ∈ wsX3_first := by decide +kernel
  subst hsz
  have hS : va_S (tA base s.heap.size) s.heap s.heap [] := va_S.rf
  have hz : s.heap.size ≤ s.heap.size := Nat.le_refl _
  have hl := lv_entry ([.ref (base + q)]) (n := 1) (Nat.le_of_ble_eq_true rfl)
  rw [lg_entry_eq]
  generalize (lg_sl ([.ref (base + q)]) ++ List.replicate (1 - (lg_sl ([.ref (base + q)])).length) Slot.unset).toArray = ls at hl ⊢
  have hl : lv_has ls 1 [(0, .ref (base + q))] := hl
  unfold X3_first at hm
  refine lv_aload_n hx hb dX3_first_0 rfl (lv_at hl 0 rfl) ?_
  refine t_geti (C := RX3) (T := TX3) (N := 2) hx hb hts hin3 hown hK hP hq rfl rfl 1 (by decide) (fk3_1 hq) (hts _ (List.mem_of_getElem? (i := 1) rfl)) dX3_first_1 ?_
  refine lv_if_le (tgt := 28) hx hb dX3_first_4 (by decide) (fun c1 => ?_) (fun c1 => ?_)
  · rw [if_pos c1] at hm
    refine lv_iconst (v := (-1 : Int32)) hx hb dX3_first_28 (by decide) ?_
    cases hm
    exact W.iret hx hb hr (fun t ht hW => ⟨⟨_, (), rfl, rfl, tPost_of hP ht⟩, hS.F ht⟩) hS.2.2 dX3_first_29
  · rw [if_neg c1] at hm
    refine lv_aload_n hx hb dX3_first_7 rfl (lv_at hl 0 rfl) ?_
    refine t_geti (C := RX3) (T := TX3) (N := 2) hx hb hts hin3 hown hK hP hq rfl rfl 1 (by decide) (fk3_1 hq) (hts _ (List.mem_of_getElem? (i := 1) rfl)) dX3_first_8 ?_
    refine lv_aload_n hx hb dX3_first_11 rfl (lv_at hl 0 rfl) ?_
    refine t_getr (C := RX3) (T := TX3) (N := 2) hx hb hts hin3 hown hK hP hq rfl rfl 0 (by decide) (fr3_0 hq) (hts _ (List.mem_of_getElem? (i := 2) rfl)) dX3_first_12 ?_
    refine t_alen hx hb hK hP (kr3_0 hq) dX3_first_15 ?_
    refine lv_icmp_gt (tgt := 28) hx hb dX3_first_16 (by decide) (fun c2 => ?_) (fun c2 => ?_)
    · rw [if_pos c2] at hm
      refine lv_iconst (v := (-1 : Int32)) hx hb dX3_first_28 (by decide) ?_
      cases hm
      exact W.iret hx hb hr (fun t ht hW => ⟨⟨_, (), rfl, rfl, tPost_of hP ht⟩, hS.F ht⟩) hS.2.2 dX3_first_29
    · rw [if_neg c2] at hm
      refine lv_aload_n hx hb dX3_first_19 rfl (lv_at hl 0 rfl) ?_
      refine t_getr (C := RX3) (T := TX3) (N := 2) hx hb hts hin3 hown hK hP hq rfl rfl 0 (by decide) (fr3_0 hq) (hts _ (List.mem_of_getElem? (i := 2) rfl)) dX3_first_20 ?_
      refine lv_iconst (v := (0 : Int32)) hx hb dX3_first_23 (by decide) ?_
      obtain ⟨hg3, hm⟩ := gd_inv hm
      refine t_iald hx hb hK hP (kr3_0 hq) hg3 dX3_first_24 ?_
      refine lv_goto (tgt := 29) hx hb dX3_first_25 (by decide) ?_
      cases hm
      exact W.iret hx hb hr (fun t ht hW => ⟨⟨_, (), rfl, rfl, tPost_of hP ht⟩, hS.F ht⟩) hS.2.2 dX3_first_29
abbrev rmX0_isFirstWordDue : Room := { frames := 1, cells := 0, slots := 0, locals := 20 }
set_option maxHeartbeats 4000000 in
set_option maxRecDepth 100000 in
theorem mX0_isFirstWordDue (l : Launch) (D : va_G) (cA : Nat → ClassId) (base sz : Nat) (μ : MM) {q : Nat} (hq : kc q = 0) (a1 : Int32) {r : Int32} (hm : X0_isFirstWordDue q a1 μ = some r) : Met l yX0_isFirstWordDue wsX0_isFirstWordDue rmX0_isFirstWordDue (va_Pc [.ref (base + q), .int a1] (tPre D cA base sz μ)) (va_Qi (fun (x : Int32) (_ : Unit) => x = r) (fun _ => tPost D cA base μ) (tA base sz)) 0 0 (tA base sz) := by
  refine Met.ofW (cc := cX0_isFirstWordDue) (maxL := 2) (ret := (some .boolean)) (by decide +kernel) rfl ?_
  intro p e s m args below meth c s₁ B hml hv
  obtain ⟨rfl, hsz, hP, hK, hN⟩ := hv
  have hx := B.exec
  have hb := B.bytes
  have hr := B.returns
  have hts := atoms_spec (ws := wsX0_isFirstWordDue) B.pre
  have hown : s.vm.findClass RX0 = some m.cls := findClass_of_methodNamed B.named
  have hlocks := B.notSynchronized
  have hin0 : ∀ w ∈ wsX00, w ∈ wsX0_isFirstWordDue := by decide +kernel
  have hin3 : ∀ w ∈ wsX30, w ∈ wsX0_isFirstWordDue := by decide +kernel
  subst hsz
  have hS : va_S (tA base s.heap.size) s.heap s.heap [] := va_S.rf
  have hz : s.heap.size ≤ s.heap.size := Nat.le_refl _
  have hl := lv_entry ([.ref (base + q), .int a1]) (n := 2) (Nat.le_of_ble_eq_true rfl)
  rw [lg_entry_eq]
  generalize (lg_sl ([.ref (base + q), .int a1]) ++ List.replicate (2 - (lg_sl ([.ref (base + q), .int a1])).length) Slot.unset).toArray = ls at hl ⊢
  have hl : lv_has ls 2 [(0, .ref (base + q)), (1, .int a1)] := hl
  unfold X0_isFirstWordDue at hm
  refine lv_aload_n hx hb dX0_isFirstWordDue_0 rfl (lv_at hl 0 rfl) ?_
  refine t_getr (C := RX0) (T := TX0) (N := 10) hx hb hts hin0 hown hK hP hq rfl rfl 0 (by decide) (fr0_0 hq) (hts _ (List.mem_of_getElem? (i := 1) rfl)) dX0_isFirstWordDue_1 ?_
  refine t_geti (C := RX3) (T := TX3) (N := 2) hx hb hts hin3 hown hK hP (kr0_0 hq) rfl rfl 1 (by decide) (fk3_1 (kr0_0 hq)) (hts _ (List.mem_of_getElem? (i := 2) rfl)) dX0_isFirstWordDue_4 ?_
  refine lv_if_le (tgt := 30) hx hb dX0_isFirstWordDue_7 (by decide) (fun c1 => ?_) (fun c1 => ?_)
  · rw [if_pos c1] at hm
    refine lv_iconst (v := (0 : Int32)) hx hb dX0_isFirstWordDue_30 (by decide) ?_
    cases hm
    exact W.zret hx hb hr rfl (fun t ht hW => ⟨⟨_, (), rfl, rfl, tPost_of hP ht⟩, hS.F ht⟩) hS.2.2 dX0_isFirstWordDue_31
  · rw [if_neg c1] at hm
    refine lv_iload_n hx hb dX0_isFirstWordDue_10 rfl (lv_at hl 1 rfl) ?_
    refine lv_aload_n hx hb dX0_isFirstWordDue_11 rfl (lv_at hl 0 rfl) ?_
    refine t_getr (C := RX0) (T := TX0) (N := 10) hx hb hts hin0 hown hK hP hq rfl rfl 1 (by decide) (fr0_1 hq) (hts _ (List.mem_of_getElem? (i := 3) rfl)) dX0_isFirstWordDue_12 ?_
    obtain ⟨r2, hc3, hm⟩ := bO1_inv hm
    refine t_cVi (As := []) (rest := [.int a1]) (μ' := μ) (r := r2) ⟨hx, hb, hml, hown, hts⟩ (mX3_first l D cA base s.heap.size μ (kr0_1 hq) hc3) (cwV 0 hts gX0_isFirstWordDue_X3_first rfl rfl rfl (by decide +kernel) ⟨Nat.le_of_ble_eq_true rfl, Nat.le_of_ble_eq_true rfl⟩) (va_recv hK hP (q0 := RF q 1) rfl (tw_obj (kr0_1 hq) (by decide))) hK hN hP hS hz rfl hl.1 (Nat.le_of_ble_eq_true rfl) dX0_isFirstWordDue_15 ⟨Nat.le_of_ble_eq_true rfl, Nat.le_of_ble_eq_true rfl⟩ rfl (fun H locs hP hS => ?_)
    refine lv_isub hx hb dX0_isFirstWordDue_18 ?_
    refine lv_aload_n hx hb dX0_isFirstWordDue_19 rfl (lv_at hl 0 rfl) ?_
    refine t_geti (C := RX0) (T := TX0) (N := 10) hx hb hts hin0 hown hK hP hq rfl rfl 4 (by decide) (fk0_4 hq) (hts _ (List.mem_of_getElem? (i := 4) rfl)) dX0_isFirstWordDue_20 ?_
    refine lv_icmp_lt (tgt := 30) hx hb dX0_isFirstWordDue_23 (by decide) (fun c4 => ?_) (fun c4 => ?_)
    · rw [if_pos c4] at hm
      refine lv_iconst (v := (0 : Int32)) hx hb dX0_isFirstWordDue_30 (by decide) ?_
      cases hm
      exact W.zret hx hb hr rfl (fun t ht hW => ⟨⟨_, (), rfl, rfl, tPost_of hP ht⟩, hS.F ht⟩) hS.2.2 dX0_isFirstWordDue_31
    · rw [if_neg c4] at hm
      refine lv_iconst (v := (1 : Int32)) hx hb dX0_isFirstWordDue_26 (by decide) ?_
      refine lv_goto (tgt := 31) hx hb dX0_isFirstWordDue_27 (by decide) ?_
      cases hm
      exact W.zret hx hb hr rfl (fun t ht hW => ⟨⟨_, (), rfl, rfl, tPost_of hP ht⟩, hS.F ht⟩) hS.2.2 dX0_isFirstWordDue_31
abbrev rmX3_takeFirst : Room := { frames := 1, cells := 0, slots := 0, locals := 40 }
set_option maxHeartbeats 4000000 in
set_option maxRecDepth 100000 in
theorem mX3_takeFirst (l : Launch) (D : va_G) (cA : Nat → ClassId) (base sz : Nat) (μ : MM) {q : Nat} (hq : kc q = 3) {r : Int32} {μ' : MM} (hm : X3_takeFirst q μ = some (r, μ')) : Met l yX3_takeFirst wsX3_takeFirst rmX3_takeFirst (va_Pc [.ref (base + q)] (tPre D cA base sz μ)) (va_Qi (fun (x : Int32) (_ : Unit) => x = r) (fun _ => tPost D cA base μ') (tA base sz)) 0 0 (tA base sz) := by
  refine Met.ofW (cc := cX3_takeFirst) (maxL := 2) (ret := (some .int)) (by decide +kernel) rfl ?_
  intro p e s m args below meth c s₁ B hml hv
  obtain ⟨rfl, hsz, hP, hK, hN⟩ := hv
  have hx := B.exec
  have hb := B.bytes
  have hr := B.returns
  have hts := atoms_spec (ws := wsX3_takeFirst) B.pre
  have hown : s.vm.findClass RX3 = some m.cls := findClass_of_methodNamed B.named
  have hlocks := B.notSynchronized
  have hin3 : ∀ w ∈ wsX30, w ∈ wsX3_takeFirst := by decide +kernel
  subst hsz
  have hS : va_S (tA base s.heap.size) s.heap s.heap [] := va_S.rf
  have hz : s.heap.size ≤ s.heap.size := Nat.le_refl _
  have hl := lv_entry ([.ref (base + q)]) (n := 2) (Nat.le_of_ble_eq_true rfl)
  rw [lg_entry_eq]
  generalize (lg_sl ([.ref (base + q)]) ++ List.replicate (2 - (lg_sl ([.ref (base + q)])).length) Slot.unset).toArray = ls at hl ⊢
  have hl : lv_has ls 2 [(0, .ref (base + q))] := hl
  unfold X3_takeFirst at hm
  refine lv_aload_n hx hb dX3_takeFirst_0 rfl (lv_at hl 0 rfl) ?_
  refine t_geti (C := RX3) (T := TX3) (N := 2) hx hb hts hin3 hown hK hP hq rfl rfl 1 (by decide) (fk3_1 hq) (hts _ (List.mem_of_getElem? (i := 1) rfl)) dX3_takeFirst_1 ?_
  refine lv_if_le (tgt := 19) hx hb dX3_takeFirst_4 (by decide) (fun c1 => ?_) (fun c1 => ?_)
  · rw [if_pos c1] at hm
    refine lv_iconst (v := (-1 : Int32)) hx hb dX3_takeFirst_19 (by decide) ?_
    cases hm
    exact W.iret hx hb hr (fun t ht hW => ⟨⟨_, (), rfl, rfl, tPost_of hP ht⟩, hS.F ht⟩) hS.2.2 dX3_takeFirst_20
  · rw [if_neg c1] at hm
    refine lv_aload_n hx hb dX3_takeFirst_7 rfl (lv_at hl 0 rfl) ?_
    refine t_geti (C := RX3) (T := TX3) (N := 2) hx hb hts hin3 hown hK hP hq rfl rfl 1 (by decide) (fk3_1 hq) (hts _ (List.mem_of_getElem? (i := 1) rfl)) dX3_takeFirst_8 ?_
    refine lv_aload_n hx hb dX3_takeFirst_11 rfl (lv_at hl 0 rfl) ?_
    refine t_getr (C := RX3) (T := TX3) (N := 2) hx hb hts hin3 hown hK hP hq rfl rfl 0 (by decide) (fr3_0 hq) (hts _ (List.mem_of_getElem? (i := 2) rfl)) dX3_takeFirst_12 ?_
    refine t_alen hx hb hK hP (kr3_0 hq) dX3_takeFirst_15 ?_
    refine lv_icmp_le (tgt := 21) hx hb dX3_takeFirst_16 (by decide) (fun c2 => ?_) (fun c2 => ?_)
    · rw [if_pos c2] at hm
      refine lv_aload_n hx hb dX3_takeFirst_21 rfl (lv_at hl 0 rfl) ?_
      refine t_getr (C := RX3) (T := TX3) (N := 2) hx hb hts hin3 hown hK hP hq rfl rfl 0 (by decide) (fr3_0 hq) (hts _ (List.mem_of_getElem? (i := 2) rfl)) dX3_takeFirst_22 ?_
      refine lv_iconst (v := (0 : Int32)) hx hb dX3_takeFirst_25 (by decide) ?_
      obtain ⟨hg3, hm⟩ := gd_inv hm
      refine t_iald hx hb hK hP (kr3_0 hq) hg3 dX3_takeFirst_26 ?_
      refine lv_topi (fun x4 ex4 => ?_)
      replace hm := bV_of hm ex4
      refine lv_istore_n (lv' := [(1, .int x4), (0, .ref (base + q))]) hx hb dX3_takeFirst_27 rfl hl (by decide) rfl (fun ls hl => ?_)
      refine lv_aload_n hx hb dX3_takeFirst_28 rfl (lv_at hl 1 rfl) ?_
      refine lv_dup hx hb dX3_takeFirst_29 rfl ?_
      refine t_geti (C := RX3) (T := TX3) (N := 2) hx hb hts hin3 hown hK hP hq rfl rfl 1 (by decide) (fk3_1 hq) (hts _ (List.mem_of_getElem? (i := 1) rfl)) dX3_takeFirst_30 ?_
      refine lv_iconst (v := (1 : Int32)) hx hb dX3_takeFirst_33 (by decide) ?_
      refine lv_isub hx hb dX3_takeFirst_34 ?_
      refine t_put (C := RX3) (T := TX3) (N := 2) hx hb hts hin3 tyX3 tyX3_ok nmX3 hown hK hP (tD _ _ _ _) hS hq rfl rfl 1 (by decide) (fk3_1 hq) (hts _ (List.mem_of_getElem? (i := 1) rfl)) rfl (by decide +kernel) dX3_takeFirst_35 (fun H locs hP hS => ?_)
      obtain ⟨μ5, eμ5⟩ : ∃ z : MM, z = wI μ q 1 ((rI μ q 1) - (1 : Int32)) := ⟨_, rfl⟩
      rw [← eμ5] at hP
      replace hm := bV_of hm eμ5
      refine lv_aload_n hx hb dX3_takeFirst_38 rfl (lv_at hl 1 rfl) ?_
      refine t_getr (C := RX3) (T := TX3) (N := 2) hx hb hts hin3 hown hK hP hq rfl rfl 0 (by decide) (fr3_0 hq) (hts _ (List.mem_of_getElem? (i := 2) rfl)) dX3_takeFirst_39 ?_
      refine lv_iconst (v := (1 : Int32)) hx hb dX3_takeFirst_42 (by decide) ?_
      refine lv_aload_n hx hb dX3_takeFirst_43 rfl (lv_at hl 1 rfl) ?_
      refine t_getr (C := RX3) (T := TX3) (N := 2) hx hb hts hin3 hown hK hP hq rfl rfl 0 (by decide) (fr3_0 hq) (hts _ (List.mem_of_getElem? (i := 2) rfl)) dX3_takeFirst_44 ?_
      refine lv_iconst (v := (0 : Int32)) hx hb dX3_takeFirst_47 (by decide) ?_
      refine lv_aload_n hx hb dX3_takeFirst_48 rfl (lv_at hl 1 rfl) ?_
      refine t_geti (C := RX3) (T := TX3) (N := 2) hx hb hts hin3 hown hK hP hq rfl rfl 1 (by decide) (fk3_1 hq) (hts _ (List.mem_of_getElem? (i := 1) rfl)) dX3_takeFirst_49 ?_
      obtain ⟨hg6, hm⟩ := gd_inv hm
      refine t_cpy hx hb (hml.trans hl.1.symm) hown (hts _ (List.mem_of_getElem? (i := 3) rfl)) (hts _ (List.mem_of_getElem? (i := 4) rfl)) (hts _ (List.mem_of_getElem? (i := 5) rfl)) (hts _ (List.mem_of_getElem? (i := 6) rfl)) hK hP (tD _ _ _ _) hS (kr3_0 hq) (kr3_0 hq) hg6 (Nat.le_of_ble_eq_true rfl) (Nat.le_of_ble_eq_true rfl) dX3_takeFirst_52 (fun H locs hP hS => ?_)
      obtain ⟨μ7, eμ7⟩ : ∃ z : MM, z = wC μ5 (RF q 0) (1 : Int32).toNatClampNeg (RF q 0) (0 : Int32).toNatClampNeg (rI μ5 q 1).toNatClampNeg := ⟨_, rfl⟩
      rw [← eμ7] at hP
      replace hm := bV_of hm eμ7
      refine lv_iload_n hx hb dX3_takeFirst_55 rfl (lv_at hl 0 rfl) ?_
      cases hm
      exact W.iret hx hb hr (fun t ht hW => ⟨⟨_, (), rfl, rfl, tPost_of hP ht⟩, hS.F ht⟩) hS.2.2 dX3_takeFirst_56
    · rw [if_neg c2] at hm
      refine lv_iconst (v := (-1 : Int32)) hx hb dX3_takeFirst_19 (by decide) ?_
      cases hm
      exact W.iret hx hb hr (fun t ht hW => ⟨⟨_, (), rfl, rfl, tPost_of hP ht⟩, hS.F ht⟩) hS.2.2 dX3_takeFirst_20
abbrev rmX0_takeFirstWord : Room := { frames := 2, cells := 0, slots := 0, locals := 61 }
set_option maxHeartbeats 4000000 in
set_option maxRecDepth 100000 in
theorem mX0_takeFirstWord (l : Launch) (D : va_G) (cA : Nat → ClassId) (base sz : Nat) (μ : MM) {q : Nat} (hq : kc q = 0) {r : Int32} {μ' : MM} (hm : X0_takeFirstWord q μ = some (r, μ')) : Met l yX0_takeFirstWord wsX0_takeFirstWord rmX0_takeFirstWord (va_Pc [.ref (base + q)] (tPre D cA base sz μ)) (va_Qi (fun (x : Int32) (_ : Unit) => x = r) (fun _ => tPost D cA base μ') (tA base sz)) 0 0 (tA base sz) := by
  refine Met.ofW (cc := cX0_takeFirstWord) (maxL := 1) (ret := (some .int)) (by decide +kernel) rfl ?_
  intro p e s m args below meth c s₁ B hml hv
  obtain ⟨rfl, hsz, hP, hK, hN⟩ := hv
  have hx := B.exec
  have hb := B.bytes
  have hr := B.returns
  have hts := atoms_spec (ws := wsX0_takeFirstWord) B.pre
  have hown : s.vm.findClass RX0 = some m.cls := findClass_of_methodNamed B.named
  have hlocks := B.notSynchronized
  have hin0 : ∀ w ∈ wsX00, w ∈ wsX0_takeFirstWord := by decide +kernel
  subst hsz
  have hS : va_S (tA base s.heap.size) s.heap s.heap [] := va_S.rf
  have hz : s.heap.size ≤ s.heap.size := Nat.le_refl _
  have hl := lv_entry ([.ref (base + q)]) (n := 1) (Nat.le_of_ble_eq_true rfl)
  rw [lg_entry_eq]
  generalize (lg_sl ([.ref (base + q)]) ++ List.replicate (1 - (lg_sl ([.ref (base + q)])).length) Slot.unset).toArray = ls at hl ⊢
  have hl : lv_has ls 1 [(0, .ref (base + q))] := hl
  unfold X0_takeFirstWord at hm
  refine lv_aload_n hx hb dX0_takeFirstWord_0 rfl (lv_at hl 0 rfl) ?_
  refine t_getr (C := RX0) (T := TX0) (N := 10) hx hb hts hin0 hown hK hP hq rfl rfl 1 (by decide) (fr0_1 hq) (hts _ (List.mem_of_getElem? (i := 1) rfl)) dX0_takeFirstWord_1 ?_
  obtain ⟨r1, μ2, hc3, hm⟩ := bO2_inv hm
  refine t_cVi (As := []) (rest := []) (μ' := μ2) (r := r1) ⟨hx, hb, hml, hown, hts⟩ (mX3_takeFirst l D cA base s.heap.size μ (kr0_1 hq) hc3) (cwV 0 hts gX0_takeFirstWord_X3_takeFirst rfl rfl rfl (by decide +kernel) ⟨Nat.le_of_ble_eq_true rfl, Nat.le_of_ble_eq_true rfl⟩) (va_recv hK hP (q0 := RF q 1) rfl (tw_obj (kr0_1 hq) (by decide))) hK hN hP hS hz rfl hl.1 (Nat.le_of_ble_eq_true rfl) dX0_takeFirstWord_4 ⟨Nat.le_of_ble_eq_true rfl, Nat.le_of_ble_eq_true rfl⟩ rfl (fun H locs hP hS => ?_)
  refine lv_pop hx hb dX0_takeFirstWord_7 rfl ?_
  refine lv_aload_n hx hb dX0_takeFirstWord_8 rfl (lv_at hl 0 rfl) ?_
  refine t_getr (C := RX0) (T := TX0) (N := 10) hx hb hts hin0 hown hK hP hq rfl rfl 0 (by decide) (fr0_0 hq) (hts _ (List.mem_of_getElem? (i := 2) rfl)) dX0_takeFirstWord_9 ?_
  obtain ⟨r4, μ5, hc6, hm⟩ := bO2_inv hm
  refine t_cVi (As := []) (rest := []) (μ' := μ5) (r := r4) ⟨hx, hb, hml, hown, hts⟩ (mX3_takeFirst l D cA base H.size μ2 (kr0_0 hq) hc6) (cwV 0 hts gX0_takeFirstWord_X3_takeFirst rfl rfl rfl (by decide +kernel) ⟨Nat.le_of_ble_eq_true rfl, Nat.le_of_ble_eq_true rfl⟩) (va_recv hK hP (q0 := RF q 0) rfl (tw_obj (kr0_0 hq) (by decide))) hK hN hP hS hz rfl hl.1 (Nat.le_of_ble_eq_true rfl) dX0_takeFirstWord_12 ⟨Nat.le_of_ble_eq_true rfl, Nat.le_of_ble_eq_true rfl⟩ rfl (fun H locs hP hS => ?_)
  cases hm
  exact W.iret hx hb hr (fun t ht hW => ⟨⟨_, (), rfl, rfl, tPost_of hP ht⟩, hS.F ht⟩) hS.2.2 dX0_takeFirstWord_15
abbrev rmX3_add : Room := { frames := 0, cells := 0, slots := 0, locals := 0 }
set_option maxHeartbeats 4000000 in
set_option maxRecDepth 100000 in
theorem mX3_add (l : Launch) (D : va_G) (cA : Nat → ClassId) (base sz : Nat) (μ : MM) {q : Nat} (hq : kc q = 3) (a1 : Int32) {μ' : MM} (hm : X3_add q a1 μ = some μ') : Met l yX3_add wsX3_add rmX3_add (va_Pc [.ref (base + q), .int a1] (tPre D cA base sz μ)) (va_Qv (fun _ : Unit => True) (fun _ => tPost D cA base μ') (tA base sz)) 0 0 (tA base sz) := by
  refine Met.ofW (cc := cX3_add) (maxL := 2) (ret := none) (by decide +kernel) rfl ?_
  intro p e s m args below meth c s₁ B hml hv
  obtain ⟨rfl, hsz, hP, hK, hN⟩ := hv
  have hx := B.exec
  have hb := B.bytes
  have hr := B.returns
  have hts := atoms_spec (ws := wsX3_add) B.pre
  have hown : s.vm.findClass RX3 = some m.cls := findClass_of_methodNamed B.named
  have hlocks := B.notSynchronized
  have hin3 : ∀ w ∈ wsX30, w ∈ wsX3_add := by decide +kernel
  subst hsz
  have hS : va_S (tA base s.heap.size) s.heap s.heap [] := va_S.rf
  have hz : s.heap.size ≤ s.heap.size := Nat.le_refl _
  have hl := lv_entry ([.ref (base + q), .int a1]) (n := 2) (Nat.le_of_ble_eq_true rfl)
  rw [lg_entry_eq]
  generalize (lg_sl ([.ref (base + q), .int a1]) ++ List.replicate (2 - (lg_sl ([.ref (base + q), .int a1])).length) Slot.unset).toArray = ls at hl ⊢
  have hl : lv_has ls 2 [(0, .ref (base + q)), (1, .int a1)] := hl
  unfold X3_add at hm
  refine lv_aload_n hx hb dX3_add_0 rfl (lv_at hl 0 rfl) ?_
  refine t_geti (C := RX3) (T := TX3) (N := 2) hx hb hts hin3 hown hK hP hq rfl rfl 1 (by decide) (fk3_1 hq) (hts _ (List.mem_of_getElem? (i := 1) rfl)) dX3_add_1 ?_
  refine lv_aload_n hx hb dX3_add_4 rfl (lv_at hl 0 rfl) ?_
  refine t_getr (C := RX3) (T := TX3) (N := 2) hx hb hts hin3 hown hK hP hq rfl rfl 0 (by decide) (fr3_0 hq) (hts _ (List.mem_of_getElem? (i := 2) rfl)) dX3_add_5 ?_
  refine t_alen hx hb hK hP (kr3_0 hq) dX3_add_8 ?_
  refine lv_icmp_ge (tgt := 32) hx hb dX3_add_9 (by decide) (fun c1 => ?_) (fun c1 => ?_)
  · rw [if_pos c1] at hm
    cases hm
    exact W.vret hx hb hr (fun t ht hW => ⟨⟨(), rfl, trivial, tPost_of hP ht⟩, hS.F ht⟩) hS.2.2 dX3_add_32
  · rw [if_neg c1] at hm
    refine lv_aload_n hx hb dX3_add_12 rfl (lv_at hl 0 rfl) ?_
    refine t_getr (C := RX3) (T := TX3) (N := 2) hx hb hts hin3 hown hK hP hq rfl rfl 0 (by decide) (fr3_0 hq) (hts _ (List.mem_of_getElem? (i := 2) rfl)) dX3_add_13 ?_
    refine lv_aload_n hx hb dX3_add_16 rfl (lv_at hl 0 rfl) ?_
    refine t_geti (C := RX3) (T := TX3) (N := 2) hx hb hts hin3 hown hK hP hq rfl rfl 1 (by decide) (fk3_1 hq) (hts _ (List.mem_of_getElem? (i := 1) rfl)) dX3_add_17 ?_
    refine lv_iload_n hx hb dX3_add_20 rfl (lv_at hl 1 rfl) ?_
    obtain ⟨hg2, hm⟩ := gd_inv hm
    refine t_iast hx hb hK hP (tD _ _ _ _) hS (kr3_0 hq) hg2 dX3_add_21 (fun H locs hP hS => ?_)
    obtain ⟨μ3, eμ3⟩ : ∃ z : MM, z = wI μ (RF q 0) (rI μ q 1).toNatClampNeg a1 := ⟨_, rfl⟩
    rw [← eμ3] at hP
    replace hm := bV_of hm eμ3
    refine lv_aload_n hx hb dX3_add_22 rfl (lv_at hl 0 rfl) ?_
    refine lv_dup hx hb dX3_add_23 rfl ?_
    refine t_geti (C := RX3) (T := TX3) (N := 2) hx hb hts hin3 hown hK hP hq rfl rfl 1 (by decide) (fk3_1 hq) (hts _ (List.mem_of_getElem? (i := 1) rfl)) dX3_add_24 ?_
    refine lv_iconst (v := (1 : Int32)) hx hb dX3_add_27 (by decide) ?_
    refine lv_iadd hx hb dX3_add_28 ?_
    refine t_put (C := RX3) (T := TX3) (N := 2) hx hb hts hin3 tyX3 tyX3_ok nmX3 hown hK hP (tD _ _ _ _) hS hq rfl rfl 1 (by decide) (fk3_1 hq) (hts _ (List.mem_of_getElem? (i := 1) rfl)) rfl (by decide +kernel) dX3_add_29 (fun H locs hP hS => ?_)
    obtain ⟨μ4, eμ4⟩ : ∃ z : MM, z = wI μ3 q 1 ((rI μ3 q 1) + (1 : Int32)) := ⟨_, rfl⟩
    rw [← eμ4] at hP
    replace hm := bV_of hm eμ4
    cases hm
    exact W.vret hx hb hr (fun t ht hW => ⟨⟨(), rfl, trivial, tPost_of hP ht⟩, hS.F ht⟩) hS.2.2 dX3_add_32
abbrev rmX0_hear : Room := { frames := 1, cells := 0, slots := 0, locals := 21 }
set_option maxHeartbeats 4000000 in
set_option maxRecDepth 100000 in
theorem mX0_hear (l : Launch) (D : va_G) (cA : Nat → ClassId) (base sz : Nat) (μ : MM) {q : Nat} (hq : kc q = 0) (a1 : Int32) (a2 : Int32) {μ' : MM} (hm : X0_hear q a1 a2 μ = some μ') : Met l yX0_hear wsX0_hear rmX0_hear (va_Pc [.ref (base + q), .int a1, .int a2] (tPre D cA base sz μ)) (va_Qv (fun _ : Unit => True) (fun _ => tPost D cA base μ') (tA base sz)) 0 0 (tA base sz) := by
  refine Met.ofW (cc := cX0_hear) (maxL := 3) (ret := none) (by decide +kernel) rfl ?_
  intro p e s m args below meth c s₁ B hml hv
  obtain ⟨rfl, hsz, hP, hK, hN⟩ := hv
  have hx := B.exec
  have hb := B.bytes
  have hr := B.returns
  have hts := atoms_spec (ws := wsX0_hear) B.pre
  have hown : s.vm.findClass RX0 = some m.cls := findClass_of_methodNamed B.named
  have hlocks := B.notSynchronized
  have hin0 : ∀ w ∈ wsX00, w ∈ wsX0_hear := by decide +kernel
  have hin3 : ∀ w ∈ wsX30, w ∈ wsX0_hear := by decide +kernel
  subst hsz
  have hS : va_S (tA base s.heap.size) s.heap s.heap [] := va_S.rf
  have hz : s.heap.size ≤ s.heap.size := Nat.le_refl _
  have hl := lv_entry ([.ref (base + q), .int a1, .int a2]) (n := 3) (Nat.le_of_ble_eq_true rfl)
  rw [lg_entry_eq]
  generalize (lg_sl ([.ref (base + q), .int a1, .int a2]) ++ List.replicate (3 - (lg_sl ([.ref (base + q), .int a1, .int a2])).length) Slot.unset).toArray = ls at hl ⊢
  have hl : lv_has ls 3 [(0, .ref (base + q)), (1, .int a1), (2, .int a2)] := hl
  unfold X0_hear at hm
  refine lv_aload_n hx hb dX0_hear_0 rfl (lv_at hl 0 rfl) ?_
  refine t_getr (C := RX0) (T := TX0) (N := 10) hx hb hts hin0 hown hK hP hq rfl rfl 0 (by decide) (fr0_0 hq) (hts _ (List.mem_of_getElem? (i := 1) rfl)) dX0_hear_1 ?_
  refine t_geti (C := RX3) (T := TX3) (N := 2) hx hb hts hin3 hown hK hP (kr0_0 hq) rfl rfl 1 (by decide) (fk3_1 (kr0_0 hq)) (hts _ (List.mem_of_getElem? (i := 2) rfl)) dX0_hear_4 ?_
  refine lv_aload_n hx hb dX0_hear_7 rfl (lv_at hl 0 rfl) ?_
  refine t_geti (C := RX0) (T := TX0) (N := 10) hx hb hts hin0 hown hK hP hq rfl rfl 5 (by decide) (fk0_5 hq) (hts _ (List.mem_of_getElem? (i := 3) rfl)) dX0_hear_8 ?_
  refine lv_icmp_lt (tgt := 27) hx hb dX0_hear_11 (by decide) (fun c1 => ?_) (fun c1 => ?_)
  · rw [if_pos c1] at hm
    refine lv_aload_n hx hb dX0_hear_27 rfl (lv_at hl 0 rfl) ?_
    refine t_getr (C := RX0) (T := TX0) (N := 10) hx hb hts hin0 hown hK hP hq rfl rfl 0 (by decide) (fr0_0 hq) (hts _ (List.mem_of_getElem? (i := 1) rfl)) dX0_hear_28 ?_
    refine lv_iload_n hx hb dX0_hear_31 rfl (lv_at hl 1 rfl) ?_
    obtain ⟨μ2, hc3, hm⟩ := bO1_inv hm
    refine t_cVv (As := [.int a1]) (rest := []) (μ' := μ2) ⟨hx, hb, hml, hown, hts⟩ (mX3_add l D cA base s.heap.size μ (kr0_0 hq) a1 hc3) (cwV 1 hts gX0_hear_X3_add rfl rfl rfl (by decide +kernel) ⟨Nat.le_of_ble_eq_true rfl, Nat.le_of_ble_eq_true rfl⟩) (va_recv hK hP (q0 := RF q 0) rfl (tw_obj (kr0_0 hq) (by decide))) hK hN hP hS hz rfl hl.1 (Nat.le_of_ble_eq_true rfl) dX0_hear_32 ⟨Nat.le_of_ble_eq_true rfl, Nat.le_of_ble_eq_true rfl⟩ rfl (fun H locs hP hS => ?_)
    refine lv_aload_n hx hb dX0_hear_35 rfl (lv_at hl 0 rfl) ?_
    refine t_getr (C := RX0) (T := TX0) (N := 10) hx hb hts hin0 hown hK hP hq rfl rfl 1 (by decide) (fr0_1 hq) (hts _ (List.mem_of_getElem? (i := 5) rfl)) dX0_hear_36 ?_
    refine lv_iload_n hx hb dX0_hear_39 rfl (lv_at hl 2 rfl) ?_
    obtain ⟨μ4, hc5, hm⟩ := bO1_inv hm
    refine t_cVv (As := [.int a2]) (rest := []) (μ' := μ4) ⟨hx, hb, hml, hown, hts⟩ (mX3_add l D cA base H.size μ2 (kr0_1 hq) a2 hc5) (cwV 1 hts gX0_hear_X3_add rfl rfl rfl (by decide +kernel) ⟨Nat.le_of_ble_eq_true rfl, Nat.le_of_ble_eq_true rfl⟩) (va_recv hK hP (q0 := RF q 1) rfl (tw_obj (kr0_1 hq) (by decide))) hK hN hP hS hz rfl hl.1 (Nat.le_of_ble_eq_true rfl) dX0_hear_40 ⟨Nat.le_of_ble_eq_true rfl, Nat.le_of_ble_eq_true rfl⟩ rfl (fun H locs hP hS => ?_)
    cases hm
    exact W.vret hx hb hr (fun t ht hW => ⟨⟨(), rfl, trivial, tPost_of hP ht⟩, hS.F ht⟩) hS.2.2 dX0_hear_43
  · rw [if_neg c1] at hm
    refine lv_aload_n hx hb dX0_hear_14 rfl (lv_at hl 0 rfl) ?_
    refine lv_dup hx hb dX0_hear_15 rfl ?_
    refine t_geti (C := RX0) (T := TX0) (N := 10) hx hb hts hin0 hown hK hP hq rfl rfl 9 (by decide) (fk0_9 hq) (hts _ (List.mem_of_getElem? (i := 4) rfl)) dX0_hear_16 ?_
    refine lv_iconst (v := (1 : Int32)) hx hb dX0_hear_19 (by decide) ?_
    refine lv_iadd hx hb dX0_hear_20 ?_
    refine t_put (C := RX0) (T := TX0) (N := 10) hx hb hts hin0 tyX0 tyX0_ok nmX0 hown hK hP (tD _ _ _ _) hS hq rfl rfl 9 (by decide) (fk0_9 hq) (hts _ (List.mem_of_getElem? (i := 4) rfl)) rfl (by decide +kernel) dX0_hear_21 (fun H locs hP hS => ?_)
    obtain ⟨μ6, eμ6⟩ : ∃ z : MM, z = wI μ q 9 ((rI μ q 9) + (1 : Int32)) := ⟨_, rfl⟩
    rw [← eμ6] at hP
    replace hm := bV_of hm eμ6
    refine lv_goto (tgt := 43) hx hb dX0_hear_24 (by decide) ?_
    cases hm
    exact W.vret hx hb hr (fun t ht hW => ⟨⟨(), rfl, trivial, tPost_of hP ht⟩, hS.F ht⟩) hS.2.2 dX0_hear_43
abbrev rmX3_copyFrom : Room := { frames := 1, cells := 0, slots := 0, locals := 40 }
set_option maxHeartbeats 4000000 in
set_option maxRecDepth 100000 in
theorem mX3_copyFrom (l : Launch) (D : va_G) (cA : Nat → ClassId) (base sz : Nat) (μ : MM) {q : Nat} (hq : kc q = 3) {a1 : Nat} (ha1 : kc a1 = 3) {μ' : MM} (hm : X3_copyFrom q a1 μ = some μ') : Met l yX3_copyFrom wsX3_copyFrom rmX3_copyFrom (va_Pc [.ref (base + q), .ref (base + a1)] (tPre D cA base sz μ)) (va_Qv (fun _ : Unit => True) (fun _ => tPost D cA base μ') (tA base sz)) 0 0 (tA base sz) := by
  refine Met.ofW (cc := cX3_copyFrom) (maxL := 2) (ret := none) (by decide +kernel) rfl ?_
  intro p e s m args below meth c s₁ B hml hv
  obtain ⟨rfl, hsz, hP, hK, hN⟩ := hv
  have hx := B.exec
  have hb := B.bytes
  have hr := B.returns
  have hts := atoms_spec (ws := wsX3_copyFrom) B.pre
  have hown : s.vm.findClass RX3 = some m.cls := findClass_of_methodNamed B.named
  have hlocks := B.notSynchronized
  have hin3 : ∀ w ∈ wsX30, w ∈ wsX3_copyFrom := by decide +kernel
  subst hsz
  have hS : va_S (tA base s.heap.size) s.heap s.heap [] := va_S.rf
  have hz : s.heap.size ≤ s.heap.size := Nat.le_refl _
  have hl := lv_entry ([.ref (base + q), .ref (base + a1)]) (n := 2) (Nat.le_of_ble_eq_true rfl)
  rw [lg_entry_eq]
  generalize (lg_sl ([.ref (base + q), .ref (base + a1)]) ++ List.replicate (2 - (lg_sl ([.ref (base + q), .ref (base + a1)])).length) Slot.unset).toArray = ls at hl ⊢
  have hl : lv_has ls 2 [(0, .ref (base + q)), (1, .ref (base + a1))] := hl
  unfold X3_copyFrom at hm
  refine lv_aload_n hx hb dX3_copyFrom_0 rfl (lv_at hl 0 rfl) ?_
  refine lv_aload_n hx hb dX3_copyFrom_1 rfl (lv_at hl 1 rfl) ?_
  refine t_geti (C := RX3) (T := TX3) (N := 2) hx hb hts hin3 hown hK hP ha1 rfl rfl 1 (by decide) (fk3_1 ha1) (hts _ (List.mem_of_getElem? (i := 1) rfl)) dX3_copyFrom_2 ?_
  refine lv_aload_n hx hb dX3_copyFrom_5 rfl (lv_at hl 0 rfl) ?_
  refine t_getr (C := RX3) (T := TX3) (N := 2) hx hb hts hin3 hown hK hP hq rfl rfl 0 (by decide) (fr3_0 hq) (hts _ (List.mem_of_getElem? (i := 2) rfl)) dX3_copyFrom_6 ?_
  refine t_alen hx hb hK hP (kr3_0 hq) dX3_copyFrom_9 ?_
  refine va_mmin hx hb (hml.trans hl.1.symm) hown (hts _ (List.mem_of_getElem? (i := 3) rfl)) (hts _ (List.mem_of_getElem? (i := 4) rfl)) (hts _ (List.mem_of_getElem? (i := 5) rfl)) (hts _ (List.mem_of_getElem? (i := 6) rfl)) (Nat.le_of_ble_eq_true rfl) (Nat.le_of_ble_eq_true rfl) (Nat.le_of_ble_eq_true rfl) (Nat.le_of_ble_eq_true rfl) dX3_copyFrom_10 ?_
  refine t_put (C := RX3) (T := TX3) (N := 2) hx hb hts hin3 tyX3 tyX3_ok nmX3 hown hK hP (tD _ _ _ _) hS hq rfl rfl 1 (by decide) (fk3_1 hq) (hts _ (List.mem_of_getElem? (i := 1) rfl)) rfl (by decide +kernel) dX3_copyFrom_13 (fun H locs hP hS => ?_)
  obtain ⟨μ1, eμ1⟩ : ∃ z : MM, z = wI μ q 1 (if (Int32.ofNat (al (RF q 0))) < (rI μ a1 1) then (Int32.ofNat (al (RF q 0))) else (rI μ a1 1)) := ⟨_, rfl⟩
  rw [← eμ1] at hP
  replace hm := bV_of hm eμ1
  refine lv_aload_n hx hb dX3_copyFrom_16 rfl (lv_at hl 1 rfl) ?_
  refine t_getr (C := RX3) (T := TX3) (N := 2) hx hb hts hin3 hown hK hP ha1 rfl rfl 0 (by decide) (fr3_0 ha1) (hts _ (List.mem_of_getElem? (i := 2) rfl)) dX3_copyFrom_17 ?_
  refine lv_iconst (v := (0 : Int32)) hx hb dX3_copyFrom_20 (by decide) ?_
  refine lv_aload_n hx hb dX3_copyFrom_21 rfl (lv_at hl 0 rfl) ?_
  refine t_getr (C := RX3) (T := TX3) (N := 2) hx hb hts hin3 hown hK hP hq rfl rfl 0 (by decide) (fr3_0 hq) (hts _ (List.mem_of_getElem? (i := 2) rfl)) dX3_copyFrom_22 ?_
  refine lv_iconst (v := (0 : Int32)) hx hb dX3_copyFrom_25 (by decide) ?_
  refine lv_aload_n hx hb dX3_copyFrom_26 rfl (lv_at hl 0 rfl) ?_
  refine t_geti (C := RX3) (T := TX3) (N := 2) hx hb hts hin3 hown hK hP hq rfl rfl 1 (by decide) (fk3_1 hq) (hts _ (List.mem_of_getElem? (i := 1) rfl)) dX3_copyFrom_27 ?_
  obtain ⟨hg2, hm⟩ := gd_inv hm
  refine t_cpy hx hb (hml.trans hl.1.symm) hown (hts _ (List.mem_of_getElem? (i := 7) rfl)) (hts _ (List.mem_of_getElem? (i := 8) rfl)) (hts _ (List.mem_of_getElem? (i := 9) rfl)) (hts _ (List.mem_of_getElem? (i := 10) rfl)) hK hP (tD _ _ _ _) hS (kr3_0 ha1) (kr3_0 hq) hg2 (Nat.le_of_ble_eq_true rfl) (Nat.le_of_ble_eq_true rfl) dX3_copyFrom_30 (fun H locs hP hS => ?_)
  obtain ⟨μ3, eμ3⟩ : ∃ z : MM, z = wC μ1 (RF a1 0) (0 : Int32).toNatClampNeg (RF q 0) (0 : Int32).toNatClampNeg (rI μ1 q 1).toNatClampNeg := ⟨_, rfl⟩
  rw [← eμ3] at hP
  replace hm := bV_of hm eμ3
  cases hm
  exact W.vret hx hb hr (fun t ht hW => ⟨⟨(), rfl, trivial, tPost_of hP ht⟩, hS.F ht⟩) hS.2.2 dX3_copyFrom_33
abbrev rmX4_copyFrom : Room := { frames := 1, cells := 0, slots := 0, locals := 40 }
set_option maxHeartbeats 4000000 in
set_option maxRecDepth 100000 in
theorem mX4_copyFrom (l : Launch) (D : va_G) (cA : Nat → ClassId) (base sz : Nat) (μ : MM) {q : Nat} (hq : kc q = 4) {a1 : Nat} (ha1 : kc a1 = 4) {μ' : MM} (hm : X4_copyFrom q a1 μ = some μ') : Met l yX4_copyFrom wsX4_copyFrom rmX4_copyFrom (va_Pc [.ref (base + q), .ref (base + a1)] (tPre D cA base sz μ)) (va_Qv (fun _ : Unit => True) (fun _ => tPost D cA base μ') (tA base sz)) 0 0 (tA base sz) := by
  refine Met.ofW (cc := cX4_copyFrom) (maxL := 2) (ret := none) (by decide +kernel) rfl ?_
  intro p e s m args below meth c s₁ B hml hv
  obtain ⟨rfl, hsz, hP, hK, hN⟩ := hv
  have hx := B.exec
  have hb := B.bytes
  have hr := B.returns
  have hts := atoms_spec (ws := wsX4_copyFrom) B.pre
  have hown : s.vm.findClass RX4 = some m.cls := findClass_of_methodNamed B.named
  have hlocks := B.notSynchronized
  have hin4 : ∀ w ∈ wsX40, w ∈ wsX4_copyFrom := by decide +kernel
  subst hsz
  have hS : va_S (tA base s.heap.size) s.heap s.heap [] := va_S.rf
  have hz : s.heap.size ≤ s.heap.size := Nat.le_refl _
  have hl := lv_entry ([.ref (base + q), .ref (base + a1)]) (n := 2) (Nat.le_of_ble_eq_true rfl)
  rw [lg_entry_eq]
  generalize (lg_sl ([.ref (base + q), .ref (base + a1)]) ++ List.replicate (2 - (lg_sl ([.ref (base + q), .ref (base + a1)])).length) Slot.unset).toArray = ls at hl ⊢
  have hl : lv_has ls 2 [(0, .ref (base + q)), (1, .ref (base + a1))] := hl
  unfold X4_copyFrom at hm
  refine lv_aload_n hx hb dX4_copyFrom_0 rfl (lv_at hl 0 rfl) ?_
  refine lv_aload_n hx hb dX4_copyFrom_1 rfl (lv_at hl 1 rfl) ?_
  refine t_geti (C := RX4) (T := TX4) (N := 3) hx hb hts hin4 hown hK hP ha1 rfl rfl 2 (by decide) (fk4_2 ha1) (hts _ (List.mem_of_getElem? (i := 1) rfl)) dX4_copyFrom_2 ?_
  refine lv_sipush (v := (400 : Int32)) hx hb dX4_copyFrom_5 (by decide) ?_
  refine va_mmin hx hb (hml.trans hl.1.symm) hown (hts _ (List.mem_of_getElem? (i := 2) rfl)) (hts _ (List.mem_of_getElem? (i := 3) rfl)) (hts _ (List.mem_of_getElem? (i := 4) rfl)) (hts _ (List.mem_of_getElem? (i := 5) rfl)) (Nat.le_of_ble_eq_true rfl) (Nat.le_of_ble_eq_true rfl) (Nat.le_of_ble_eq_true rfl) (Nat.le_of_ble_eq_true rfl) dX4_copyFrom_8 ?_
  refine t_put (C := RX4) (T := TX4) (N := 3) hx hb hts hin4 tyX4 tyX4_ok nmX4 hown hK hP (tD _ _ _ _) hS hq rfl rfl 2 (by decide) (fk4_2 hq) (hts _ (List.mem_of_getElem? (i := 1) rfl)) rfl (by decide +kernel) dX4_copyFrom_11 (fun H locs hP hS => ?_)
  obtain ⟨μ1, eμ1⟩ : ∃ z : MM, z = wI μ q 2 (if (400 : Int32) < (rI μ a1 2) then (400 : Int32) else (rI μ a1 2)) := ⟨_, rfl⟩
  rw [← eμ1] at hP
  replace hm := bV_of hm eμ1
  refine lv_aload_n hx hb dX4_copyFrom_14 rfl (lv_at hl 1 rfl) ?_
  refine t_getr (C := RX4) (T := TX4) (N := 3) hx hb hts hin4 hown hK hP ha1 rfl rfl 0 (by decide) (fr4_0 ha1) (hts _ (List.mem_of_getElem? (i := 6) rfl)) dX4_copyFrom_15 ?_
  refine lv_iconst (v := (0 : Int32)) hx hb dX4_copyFrom_18 (by decide) ?_
  refine lv_aload_n hx hb dX4_copyFrom_19 rfl (lv_at hl 0 rfl) ?_
  refine t_getr (C := RX4) (T := TX4) (N := 3) hx hb hts hin4 hown hK hP hq rfl rfl 0 (by decide) (fr4_0 hq) (hts _ (List.mem_of_getElem? (i := 6) rfl)) dX4_copyFrom_20 ?_
  refine lv_iconst (v := (0 : Int32)) hx hb dX4_copyFrom_23 (by decide) ?_
  refine lv_aload_n hx hb dX4_copyFrom_24 rfl (lv_at hl 0 rfl) ?_
  refine t_geti (C := RX4) (T := TX4) (N := 3) hx hb hts hin4 hown hK hP hq rfl rfl 2 (by decide) (fk4_2 hq) (hts _ (List.mem_of_getElem? (i := 1) rfl)) dX4_copyFrom_25 ?_
  obtain ⟨hg2, hm⟩ := gd_inv hm
  refine t_cpy hx hb (hml.trans hl.1.symm) hown (hts _ (List.mem_of_getElem? (i := 7) rfl)) (hts _ (List.mem_of_getElem? (i := 8) rfl)) (hts _ (List.mem_of_getElem? (i := 9) rfl)) (hts _ (List.mem_of_getElem? (i := 10) rfl)) hK hP (tD _ _ _ _) hS (kr4_0 ha1) (kr4_0 hq) hg2 (Nat.le_of_ble_eq_true rfl) (Nat.le_of_ble_eq_true rfl) dX4_copyFrom_28 (fun H locs hP hS => ?_)
  obtain ⟨μ3, eμ3⟩ : ∃ z : MM, z = wC μ1 (RF a1 0) (0 : Int32).toNatClampNeg (RF q 0) (0 : Int32).toNatClampNeg (rI μ1 q 2).toNatClampNeg := ⟨_, rfl⟩
  rw [← eμ3] at hP
  replace hm := bV_of hm eμ3
  refine lv_aload_n hx hb dX4_copyFrom_31 rfl (lv_at hl 1 rfl) ?_
  refine t_getr (C := RX4) (T := TX4) (N := 3) hx hb hts hin4 hown hK hP ha1 rfl rfl 1 (by decide) (fr4_1 ha1) (hts _ (List.mem_of_getElem? (i := 11) rfl)) dX4_copyFrom_32 ?_
  refine lv_iconst (v := (0 : Int32)) hx hb dX4_copyFrom_35 (by decide) ?_
  refine lv_aload_n hx hb dX4_copyFrom_36 rfl (lv_at hl 0 rfl) ?_
  refine t_getr (C := RX4) (T := TX4) (N := 3) hx hb hts hin4 hown hK hP hq rfl rfl 1 (by decide) (fr4_1 hq) (hts _ (List.mem_of_getElem? (i := 11) rfl)) dX4_copyFrom_37 ?_
  refine lv_iconst (v := (0 : Int32)) hx hb dX4_copyFrom_40 (by decide) ?_
  refine lv_aload_n hx hb dX4_copyFrom_41 rfl (lv_at hl 0 rfl) ?_
  refine t_geti (C := RX4) (T := TX4) (N := 3) hx hb hts hin4 hown hK hP hq rfl rfl 2 (by decide) (fk4_2 hq) (hts _ (List.mem_of_getElem? (i := 1) rfl)) dX4_copyFrom_42 ?_
  obtain ⟨hg4, hm⟩ := gd_inv hm
  refine t_cpy hx hb (hml.trans hl.1.symm) hown (hts _ (List.mem_of_getElem? (i := 7) rfl)) (hts _ (List.mem_of_getElem? (i := 8) rfl)) (hts _ (List.mem_of_getElem? (i := 9) rfl)) (hts _ (List.mem_of_getElem? (i := 10) rfl)) hK hP (tD _ _ _ _) hS (kr4_1 ha1) (kr4_1 hq) hg4 (Nat.le_of_ble_eq_true rfl) (Nat.le_of_ble_eq_true rfl) dX4_copyFrom_45 (fun H locs hP hS => ?_)
  obtain ⟨μ5, eμ5⟩ : ∃ z : MM, z = wC μ3 (RF a1 1) (0 : Int32).toNatClampNeg (RF q 1) (0 : Int32).toNatClampNeg (rI μ3 q 2).toNatClampNeg := ⟨_, rfl⟩
  rw [← eμ5] at hP
  replace hm := bV_of hm eμ5
  cases hm
  exact W.vret hx hb hr (fun t ht hW => ⟨⟨(), rfl, trivial, tPost_of hP ht⟩, hS.F ht⟩) hS.2.2 dX4_copyFrom_48
abbrev rmX0_copyFrom : Room := { frames := 2, cells := 0, slots := 0, locals := 61 }
set_option maxHeartbeats 4000000 in
set_option maxRecDepth 100000 in
theorem mX0_copyFrom (l : Launch) (D : va_G) (cA : Nat → ClassId) (base sz : Nat) (μ : MM) {q : Nat} (hq : kc q = 0) {a1 : Nat} (ha1 : kc a1 = 0) {μ' : MM} (hm : X0_copyFrom q a1 μ = some μ') : Met l yX0_copyFrom wsX0_copyFrom rmX0_copyFrom (va_Pc [.ref (base + q), .ref (base + a1)] (tPre D cA base sz μ)) (va_Qv (fun _ : Unit => True) (fun _ => tPost D cA base μ') (tA base sz)) 0 0 (tA base sz) := by
  refine Met.ofW (cc := cX0_copyFrom) (maxL := 2) (ret := none) (by decide +kernel) rfl ?_
  intro p e s m args below meth c s₁ B hml hv
  obtain ⟨rfl, hsz, hP, hK, hN⟩ := hv
  have hx := B.exec
  have hb := B.bytes
  have hr := B.returns
  have hts := atoms_spec (ws := wsX0_copyFrom) B.pre
  have hown : s.vm.findClass RX0 = some m.cls := findClass_of_methodNamed B.named
  have hlocks := B.notSynchronized
  have hin0 : ∀ w ∈ wsX00, w ∈ wsX0_copyFrom := by decide +kernel
  subst hsz
  have hS : va_S (tA base s.heap.size) s.heap s.heap [] := va_S.rf
  have hz : s.heap.size ≤ s.heap.size := Nat.le_refl _
  have hl := lv_entry ([.ref (base + q), .ref (base + a1)]) (n := 2) (Nat.le_of_ble_eq_true rfl)
  rw [lg_entry_eq]
  generalize (lg_sl ([.ref (base + q), .ref (base + a1)]) ++ List.replicate (2 - (lg_sl ([.ref (base + q), .ref (base + a1)])).length) Slot.unset).toArray = ls at hl ⊢
  have hl : lv_has ls 2 [(0, .ref (base + q)), (1, .ref (base + a1))] := hl
  unfold X0_copyFrom at hm
  refine lv_aload_n hx hb dX0_copyFrom_0 rfl (lv_at hl 0 rfl) ?_
  refine t_getr (C := RX0) (T := TX0) (N := 10) hx hb hts hin0 hown hK hP hq rfl rfl 0 (by decide) (fr0_0 hq) (hts _ (List.mem_of_getElem? (i := 1) rfl)) dX0_copyFrom_1 ?_
  refine lv_aload_n hx hb dX0_copyFrom_4 rfl (lv_at hl 1 rfl) ?_
  refine t_getr (C := RX0) (T := TX0) (N := 10) hx hb hts hin0 hown hK hP ha1 rfl rfl 0 (by decide) (fr0_0 ha1) (hts _ (List.mem_of_getElem? (i := 1) rfl)) dX0_copyFrom_5 ?_
  obtain ⟨μ1, hc2, hm⟩ := bO1_inv hm
  refine t_cVv (As := [.ref (base + (RF a1 0))]) (rest := []) (μ' := μ1) ⟨hx, hb, hml, hown, hts⟩ (mX3_copyFrom l D cA base s.heap.size μ (kr0_0 hq) (kr0_0 ha1) hc2) (cwV 1 hts gX0_copyFrom_X3_copyFrom rfl rfl rfl (by decide +kernel) ⟨Nat.le_of_ble_eq_true rfl, Nat.le_of_ble_eq_true rfl⟩) (va_recv hK hP (q0 := RF q 0) rfl (tw_obj (kr0_0 hq) (by decide))) hK hN hP hS hz rfl hl.1 (Nat.le_of_ble_eq_true rfl) dX0_copyFrom_8 ⟨Nat.le_of_ble_eq_true rfl, Nat.le_of_ble_eq_true rfl⟩ rfl (fun H locs hP hS => ?_)
  refine lv_aload_n hx hb dX0_copyFrom_11 rfl (lv_at hl 0 rfl) ?_
  refine t_getr (C := RX0) (T := TX0) (N := 10) hx hb hts hin0 hown hK hP hq rfl rfl 1 (by decide) (fr0_1 hq) (hts _ (List.mem_of_getElem? (i := 2) rfl)) dX0_copyFrom_12 ?_
  refine lv_aload_n hx hb dX0_copyFrom_15 rfl (lv_at hl 1 rfl) ?_
  refine t_getr (C := RX0) (T := TX0) (N := 10) hx hb hts hin0 hown hK hP ha1 rfl rfl 1 (by decide) (fr0_1 ha1) (hts _ (List.mem_of_getElem? (i := 2) rfl)) dX0_copyFrom_16 ?_
  obtain ⟨μ3, hc4, hm⟩ := bO1_inv hm
  refine t_cVv (As := [.ref (base + (RF a1 1))]) (rest := []) (μ' := μ3) ⟨hx, hb, hml, hown, hts⟩ (mX3_copyFrom l D cA base H.size μ1 (kr0_1 hq) (kr0_1 ha1) hc4) (cwV 1 hts gX0_copyFrom_X3_copyFrom rfl rfl rfl (by decide +kernel) ⟨Nat.le_of_ble_eq_true rfl, Nat.le_of_ble_eq_true rfl⟩) (va_recv hK hP (q0 := RF q 1) rfl (tw_obj (kr0_1 hq) (by decide))) hK hN hP hS hz rfl hl.1 (Nat.le_of_ble_eq_true rfl) dX0_copyFrom_19 ⟨Nat.le_of_ble_eq_true rfl, Nat.le_of_ble_eq_true rfl⟩ rfl (fun H locs hP hS => ?_)
  refine lv_aload_n hx hb dX0_copyFrom_22 rfl (lv_at hl 0 rfl) ?_
  refine t_getr (C := RX0) (T := TX0) (N := 10) hx hb hts hin0 hown hK hP hq rfl rfl 2 (by decide) (fr0_2 hq) (hts _ (List.mem_of_getElem? (i := 3) rfl)) dX0_copyFrom_23 ?_
  refine lv_aload_n hx hb dX0_copyFrom_26 rfl (lv_at hl 1 rfl) ?_
  refine t_getr (C := RX0) (T := TX0) (N := 10) hx hb hts hin0 hown hK hP ha1 rfl rfl 2 (by decide) (fr0_2 ha1) (hts _ (List.mem_of_getElem? (i := 3) rfl)) dX0_copyFrom_27 ?_
  obtain ⟨μ5, hc6, hm⟩ := bO1_inv hm
  refine t_cVv (As := [.ref (base + (RF a1 2))]) (rest := []) (μ' := μ5) ⟨hx, hb, hml, hown, hts⟩ (mX4_copyFrom l D cA base H.size μ3 (kr0_2 hq) (kr0_2 ha1) hc6) (cwV 1 hts gX0_copyFrom_X4_copyFrom rfl rfl rfl (by decide +kernel) ⟨Nat.le_of_ble_eq_true rfl, Nat.le_of_ble_eq_true rfl⟩) (va_recv hK hP (q0 := RF q 2) rfl (tw_obj (kr0_2 hq) (by decide))) hK hN hP hS hz rfl hl.1 (Nat.le_of_ble_eq_true rfl) dX0_copyFrom_30 ⟨Nat.le_of_ble_eq_true rfl, Nat.le_of_ble_eq_true rfl⟩ rfl (fun H locs hP hS => ?_)
  refine lv_aload_n hx hb dX0_copyFrom_33 rfl (lv_at hl 0 rfl) ?_
  refine lv_aload_n hx hb dX0_copyFrom_34 rfl (lv_at hl 1 rfl) ?_
  refine t_geti (C := RX0) (T := TX0) (N := 10) hx hb hts hin0 hown hK hP ha1 rfl rfl 3 (by decide) (fk0_3 ha1) (hts _ (List.mem_of_getElem? (i := 4) rfl)) dX0_copyFrom_35 ?_
  refine t_put (C := RX0) (T := TX0) (N := 10) hx hb hts hin0 tyX0 tyX0_ok nmX0 hown hK hP (tD _ _ _ _) hS hq rfl rfl 3 (by decide) (fk0_3 hq) (hts _ (List.mem_of_getElem? (i := 4) rfl)) rfl (by decide +kernel) dX0_copyFrom_38 (fun H locs hP hS => ?_)
  obtain ⟨μ7, eμ7⟩ : ∃ z : MM, z = wI μ5 q 3 (rI μ5 a1 3) := ⟨_, rfl⟩
  rw [← eμ7] at hP
  replace hm := bV_of hm eμ7
  refine lv_aload_n hx hb dX0_copyFrom_41 rfl (lv_at hl 0 rfl) ?_
  refine lv_aload_n hx hb dX0_copyFrom_42 rfl (lv_at hl 1 rfl) ?_
  refine t_geti (C := RX0) (T := TX0) (N := 10) hx hb hts hin0 hown hK hP ha1 rfl rfl 4 (by decide) (fk0_4 ha1) (hts _ (List.mem_of_getElem? (i := 5) rfl)) dX0_copyFrom_43 ?_
  refine t_put (C := RX0) (T := TX0) (N := 10) hx hb hts hin0 tyX0 tyX0_ok nmX0 hown hK hP (tD _ _ _ _) hS hq rfl rfl 4 (by decide) (fk0_4 hq) (hts _ (List.mem_of_getElem? (i := 5) rfl)) rfl (by decide +kernel) dX0_copyFrom_46 (fun H locs hP hS => ?_)
  obtain ⟨μ8, eμ8⟩ : ∃ z : MM, z = wI μ7 q 4 (rI μ7 a1 4) := ⟨_, rfl⟩
  rw [← eμ8] at hP
  replace hm := bV_of hm eμ8
  refine lv_aload_n hx hb dX0_copyFrom_49 rfl (lv_at hl 0 rfl) ?_
  refine lv_aload_n hx hb dX0_copyFrom_50 rfl (lv_at hl 1 rfl) ?_
  refine t_geti (C := RX0) (T := TX0) (N := 10) hx hb hts hin0 hown hK hP ha1 rfl rfl 5 (by decide) (fk0_5 ha1) (hts _ (List.mem_of_getElem? (i := 6) rfl)) dX0_copyFrom_51 ?_
  refine t_put (C := RX0) (T := TX0) (N := 10) hx hb hts hin0 tyX0 tyX0_ok nmX0 hown hK hP (tD _ _ _ _) hS hq rfl rfl 5 (by decide) (fk0_5 hq) (hts _ (List.mem_of_getElem? (i := 6) rfl)) rfl (by decide +kernel) dX0_copyFrom_54 (fun H locs hP hS => ?_)
  obtain ⟨μ9, eμ9⟩ : ∃ z : MM, z = wI μ8 q 5 (rI μ8 a1 5) := ⟨_, rfl⟩
  rw [← eμ9] at hP
  replace hm := bV_of hm eμ9
  refine lv_aload_n hx hb dX0_copyFrom_57 rfl (lv_at hl 0 rfl) ?_
  refine lv_aload_n hx hb dX0_copyFrom_58 rfl (lv_at hl 1 rfl) ?_
  refine t_geti (C := RX0) (T := TX0) (N := 10) hx hb hts hin0 hown hK hP ha1 rfl rfl 6 (by decide) (fk0_6 ha1) (hts _ (List.mem_of_getElem? (i := 7) rfl)) dX0_copyFrom_59 ?_
  refine t_put (C := RX0) (T := TX0) (N := 10) hx hb hts hin0 tyX0 tyX0_ok nmX0 hown hK hP (tD _ _ _ _) hS hq rfl rfl 6 (by decide) (fk0_6 hq) (hts _ (List.mem_of_getElem? (i := 7) rfl)) rfl (by decide +kernel) dX0_copyFrom_62 (fun H locs hP hS => ?_)
  obtain ⟨μ10, eμ10⟩ : ∃ z : MM, z = wI μ9 q 6 (rI μ9 a1 6) := ⟨_, rfl⟩
  rw [← eμ10] at hP
  replace hm := bV_of hm eμ10
  refine lv_aload_n hx hb dX0_copyFrom_65 rfl (lv_at hl 0 rfl) ?_
  refine lv_aload_n hx hb dX0_copyFrom_66 rfl (lv_at hl 1 rfl) ?_
  refine t_geti (C := RX0) (T := TX0) (N := 10) hx hb hts hin0 hown hK hP ha1 rfl rfl 7 (by decide) (fk0_7 ha1) (hts _ (List.mem_of_getElem? (i := 8) rfl)) dX0_copyFrom_67 ?_
  refine t_put (C := RX0) (T := TX0) (N := 10) hx hb hts hin0 tyX0 tyX0_ok nmX0 hown hK hP (tD _ _ _ _) hS hq rfl rfl 7 (by decide) (fk0_7 hq) (hts _ (List.mem_of_getElem? (i := 8) rfl)) rfl (by decide +kernel) dX0_copyFrom_70 (fun H locs hP hS => ?_)
  obtain ⟨μ11, eμ11⟩ : ∃ z : MM, z = wI μ10 q 7 (rI μ10 a1 7) := ⟨_, rfl⟩
  rw [← eμ11] at hP
  replace hm := bV_of hm eμ11
  refine lv_aload_n hx hb dX0_copyFrom_73 rfl (lv_at hl 0 rfl) ?_
  refine lv_aload_n hx hb dX0_copyFrom_74 rfl (lv_at hl 1 rfl) ?_
  refine t_geti (C := RX0) (T := TX0) (N := 10) hx hb hts hin0 hown hK hP ha1 rfl rfl 8 (by decide) (fk0_8 ha1) (hts _ (List.mem_of_getElem? (i := 9) rfl)) dX0_copyFrom_75 ?_
  refine t_put (C := RX0) (T := TX0) (N := 10) hx hb hts hin0 tyX0 tyX0_ok nmX0 hown hK hP (tD _ _ _ _) hS hq rfl rfl 8 (by decide) (fk0_8 hq) (hts _ (List.mem_of_getElem? (i := 9) rfl)) rfl (by decide +kernel) dX0_copyFrom_78 (fun H locs hP hS => ?_)
  obtain ⟨μ12, eμ12⟩ : ∃ z : MM, z = wI μ11 q 8 (rI μ11 a1 8) := ⟨_, rfl⟩
  rw [← eμ12] at hP
  replace hm := bV_of hm eμ12
  refine lv_aload_n hx hb dX0_copyFrom_81 rfl (lv_at hl 0 rfl) ?_
  refine lv_aload_n hx hb dX0_copyFrom_82 rfl (lv_at hl 1 rfl) ?_
  refine t_geti (C := RX0) (T := TX0) (N := 10) hx hb hts hin0 hown hK hP ha1 rfl rfl 9 (by decide) (fk0_9 ha1) (hts _ (List.mem_of_getElem? (i := 10) rfl)) dX0_copyFrom_83 ?_
  refine t_put (C := RX0) (T := TX0) (N := 10) hx hb hts hin0 tyX0 tyX0_ok nmX0 hown hK hP (tD _ _ _ _) hS hq rfl rfl 9 (by decide) (fk0_9 hq) (hts _ (List.mem_of_getElem? (i := 10) rfl)) rfl (by decide +kernel) dX0_copyFrom_86 (fun H locs hP hS => ?_)
  obtain ⟨μ13, eμ13⟩ : ∃ z : MM, z = wI μ12 q 9 (rI μ12 a1 9) := ⟨_, rfl⟩
  rw [← eμ13] at hP
  replace hm := bV_of hm eμ13
  cases hm
  exact W.vret hx hb hr (fun t ht hW => ⟨⟨(), rfl, trivial, tPost_of hP ht⟩, hS.F ht⟩) hS.2.2 dX0_copyFrom_89
abbrev rmX6_isWithin : Room := { frames := 0, cells := 0, slots := 0, locals := 0 }
set_option maxHeartbeats 4000000 in
set_option maxRecDepth 100000 in
theorem mX6_isWithin (l : Launch) (D : va_G) (cA : Nat → ClassId) (base sz : Nat) (μ : MM) (a1 : Int32) (a2 : Int32) (a3 : Int32) {r : Int32} (hm : X6_isWithin a1 a2 a3 = r) : Met l yX6_isWithin wsX6_isWithin rmX6_isWithin (va_Pc [.int a1, .int a2, .int a3] (tPre D cA base sz μ)) (va_Qi (fun (x : Int32) (_ : Unit) => x = r) (fun _ => tPost D cA base μ) (tA base sz)) 0 0 (tA base sz) := by
  refine Met.ofW (cc := cX6_isWithin) (maxL := 3) (ret := (some .boolean)) (by decide +kernel) rfl ?_
  intro p e s m args below meth c s₁ B hml hv
  obtain ⟨rfl, hsz, hP, hK, hN⟩ := hv
  have hx := B.exec
  have hb := B.bytes
  have hr := B.returns
  have hts := atoms_spec (ws := wsX6_isWithin) B.pre
  have hown : s.vm.findClass RX6 = some m.cls := findClass_of_methodNamed B.named
  have hlocks := B.notSynchronized
  subst hsz
  have hS : va_S (tA base s.heap.size) s.heap s.heap [] := va_S.rf
  have hz : s.heap.size ≤ s.heap.size := Nat.le_refl _
  have hl := lv_entry ([.int a1, .int a2, .int a3]) (n := 3) (Nat.le_of_ble_eq_true rfl)
  rw [lg_entry_eq]
  generalize (lg_sl ([.int a1, .int a2, .int a3]) ++ List.replicate (3 - (lg_sl ([.int a1, .int a2, .int a3])).length) Slot.unset).toArray = ls at hl ⊢
  have hl : lv_has ls 3 [(0, .int a1), (1, .int a2), (2, .int a3)] := hl
  unfold X6_isWithin at hm
  refine lv_iload_n hx hb dX6_isWithin_0 rfl (lv_at hl 0 rfl) ?_
  refine lv_iload_n hx hb dX6_isWithin_1 rfl (lv_at hl 1 rfl) ?_
  refine lv_icmp_lt (tgt := 14) hx hb dX6_isWithin_2 (by decide) (fun c1 => ?_) (fun c1 => ?_)
  · rw [if_pos c1] at hm
    refine lv_iconst (v := (0 : Int32)) hx hb dX6_isWithin_14 (by decide) ?_
    cases hm
    exact W.zret hx hb hr rfl (fun t ht hW => ⟨⟨_, (), rfl, rfl, tPost_of hP ht⟩, hS.F ht⟩) hS.2.2 dX6_isWithin_15
  · rw [if_neg c1] at hm
    refine lv_iload_n hx hb dX6_isWithin_5 rfl (lv_at hl 0 rfl) ?_
    refine lv_iload_n hx hb dX6_isWithin_6 rfl (lv_at hl 2 rfl) ?_
    refine lv_icmp_gt (tgt := 14) hx hb dX6_isWithin_7 (by decide) (fun c2 => ?_) (fun c2 => ?_)
    · rw [if_pos c2] at hm
      refine lv_iconst (v := (0 : Int32)) hx hb dX6_isWithin_14 (by decide) ?_
      cases hm
      exact W.zret hx hb hr rfl (fun t ht hW => ⟨⟨_, (), rfl, rfl, tPost_of hP ht⟩, hS.F ht⟩) hS.2.2 dX6_isWithin_15
    · rw [if_neg c2] at hm
      refine lv_iconst (v := (1 : Int32)) hx hb dX6_isWithin_10 (by decide) ?_
      refine lv_goto (tgt := 15) hx hb dX6_isWithin_11 (by decide) ?_
      cases hm
      exact W.zret hx hb hr rfl (fun t ht hW => ⟨⟨_, (), rfl, rfl, tPost_of hP ht⟩, hS.F ht⟩) hS.2.2 dX6_isWithin_15
abbrev rmX4_wordAt : Room := { frames := 1, cells := 0, slots := 0, locals := 22 }
set_option maxHeartbeats 4000000 in
set_option maxRecDepth 100000 in
theorem mX4_wordAt (l : Launch) (D : va_G) (cA : Nat → ClassId) (base sz : Nat) (μ : MM) {q : Nat} (hq : kc q = 4) (a1 : Int32) {r : Int32} (hm : X4_wordAt q a1 μ = some r) : Met l yX4_wordAt wsX4_wordAt rmX4_wordAt (va_Pc [.ref (base + q), .int a1] (tPre D cA base sz μ)) (va_Qi (fun (x : Int32) (_ : Unit) => x = r) (fun _ => tPost D cA base μ) (tA base sz)) 0 0 (tA base sz) := by
  refine Met.ofW (cc := cX4_wordAt) (maxL := 2) (ret := (some .int)) (by decide +kernel) rfl ?_
  intro p e s m args below meth c s₁ B hml hv
  obtain ⟨rfl, hsz, hP, hK, hN⟩ := hv
  have hx := B.exec
  have hb := B.bytes
  have hr := B.returns
  have hts := atoms_spec (ws := wsX4_wordAt) B.pre
  have hown : s.vm.findClass RX4 = some m.cls := findClass_of_methodNamed B.named
  have hlocks := B.notSynchronized
  have hin4 : ∀ w ∈ wsX40, w ∈ wsX4_wordAt := by decide +kernel
  subst hsz
  have hS : va_S (tA base s.heap.size) s.heap s.heap [] := va_S.rf
  have hz : s.heap.size ≤ s.heap.size := Nat.le_refl _
  have hl := lv_entry ([.ref (base + q), .int a1]) (n := 2) (Nat.le_of_ble_eq_true rfl)
  rw [lg_entry_eq]
  generalize (lg_sl ([.ref (base + q), .int a1]) ++ List.replicate (2 - (lg_sl ([.ref (base + q), .int a1])).length) Slot.unset).toArray = ls at hl ⊢
  have hl : lv_has ls 2 [(0, .ref (base + q)), (1, .int a1)] := hl
  unfold X4_wordAt at hm
  refine lv_iload_n hx hb dX4_wordAt_0 rfl (lv_at hl 1 rfl) ?_
  refine lv_iconst (v := (0 : Int32)) hx hb dX4_wordAt_1 (by decide) ?_
  refine lv_aload_n hx hb dX4_wordAt_2 rfl (lv_at hl 0 rfl) ?_
  refine t_geti (C := RX4) (T := TX4) (N := 3) hx hb hts hin4 hown hK hP hq rfl rfl 2 (by decide) (fk4_2 hq) (hts _ (List.mem_of_getElem? (i := 1) rfl)) dX4_wordAt_3 ?_
  refine lv_iconst (v := (1 : Int32)) hx hb dX4_wordAt_6 (by decide) ?_
  refine lv_isub hx hb dX4_wordAt_7 ?_
  refine t_cSNi (As := [.int a1, .int (0 : Int32), .int ((rI μ q 2) - (1 : Int32))]) (rest := []) (μ' := μ) (r := (X6_isWithin a1 (0 : Int32) ((rI μ q 2) - (1 : Int32)))) ⟨hx, hb, hml, hown, hts⟩ (mX6_isWithin l D cA base s.heap.size μ a1 (0 : Int32) ((rI μ q 2) - (1 : Int32)) rfl) ⟨va_cnB (host := "RelayBooths") 3 hts gX4_wordAt_X6_isWithin_n22 rfl rfl rfl (hN.2 _ (List.mem_of_getElem? (i := 3) rfl)) (hts _ (List.mem_of_getElem? (i := 4) rfl)) (by decide +kernel) ⟨Nat.le_of_ble_eq_true rfl, Nat.le_of_ble_eq_true rfl⟩, (hts _ (List.mem_of_getElem? (i := 3) rfl)), trivial⟩ hK hN hP hS hz rfl hl.1 (Nat.le_of_ble_eq_true rfl) dX4_wordAt_8 ⟨Nat.le_of_ble_eq_true rfl, Nat.le_of_ble_eq_true rfl⟩ rfl (fun H locs hP hS => ?_)
  refine lv_if_eq (tgt := 23) hx hb dX4_wordAt_11 (by decide) (fun c3 => ?_) (fun c3 => ?_)
  · rw [if_pos c3] at hm
    refine lv_iconst (v := (-1 : Int32)) hx hb dX4_wordAt_23 (by decide) ?_
    cases hm
    exact W.iret hx hb hr (fun t ht hW => ⟨⟨_, (), rfl, rfl, tPost_of hP ht⟩, hS.F ht⟩) hS.2.2 dX4_wordAt_24
  · rw [if_neg c3] at hm
    refine lv_aload_n hx hb dX4_wordAt_14 rfl (lv_at hl 0 rfl) ?_
    refine t_getr (C := RX4) (T := TX4) (N := 3) hx hb hts hin4 hown hK hP hq rfl rfl 0 (by decide) (fr4_0 hq) (hts _ (List.mem_of_getElem? (i := 2) rfl)) dX4_wordAt_15 ?_
    refine lv_iload_n hx hb dX4_wordAt_18 rfl (lv_at hl 1 rfl) ?_
    obtain ⟨hg4, hm⟩ := gd_inv hm
    refine t_iald hx hb hK hP (kr4_0 hq) hg4 dX4_wordAt_19 ?_
    refine lv_goto (tgt := 24) hx hb dX4_wordAt_20 (by decide) ?_
    cases hm
    exact W.iret hx hb hr (fun t ht hW => ⟨⟨_, (), rfl, rfl, tPost_of hP ht⟩, hS.F ht⟩) hS.2.2 dX4_wordAt_24
abbrev rmX1_markPlaces : Room := { frames := 2, cells := 0, slots := 0, locals := 43 }
set_option maxHeartbeats 4000000 in
set_option maxRecDepth 100000 in
theorem lX1_markPlaces_L2 {p : Program} {l : Launch} {e : Env} {s : State} {m : MethodId} {args : Array Value} {below : List Frame} {meth : Method} {c : Code} {Q : State → Prop} {D : va_G} {cA : Nat → ClassId} {base sz0 : Nat} {H0 : Heap} (FX : CallFix p m c cX1_markPlaces 5 s args wsX1_markPlaces RX1) (hK : va_K D vwCl (tys cA) s) (hN : tN s) (hz : sz0 ≤ H0.size) {o0 : Nat} (ho0 : kc o0 = 1) {o1 : Nat} (ho1 : kc o1 = 4) (b2 : Int32) {cells slots : Nat} (hcs : cells ≤ 0 ∧ slots ≤ 0) :
    ∀ (n : Nat) (v3 : Int32) (μ : MM) (H : Heap) (locs : List Loc) (ls : Array Slot) (μ' : MM), X1_markPlaces_L2 o0 o1 b2 n v3 μ = some μ' → va_P D vwCl (tw base cA μ []) H → va_S (tA base sz0) H0 H locs → lv_has ls 5 [(0, .ref (base + o0)), (1, .ref (base + o1)), (2, .int b2), (3, .int v3)] → (∀ (H : Heap) (locs : List Loc) (ls : Array Slot), va_P D vwCl (tw base cA μ' []) H → va_S (tA base sz0) H0 H locs → lv_has ls 5 [(0, .ref (base + o0)), (1, .ref (base + o1)), (2, .int b2)] → W p l e rmX1_markPlaces s m args below meth c H locs cells slots Q (F0 m 21 ls [])) → W p l e rmX1_markPlaces s m args below meth c H locs cells slots Q (F0 m 2 ls []) := by
  obtain ⟨hx, hb, hml, hown, hts⟩ := FX
  have hin1 : ∀ w ∈ wsX10, w ∈ wsX1_markPlaces := by decide +kernel
  intro n
  induction n with
  | zero =>
    intro v3 μ H locs ls μ' hm
    cases hm
  | succ n ih =>
    intro v3 μ H locs ls μ' hm hP hS hl K
    rw [X1_markPlaces_L2_s] at hm
    refine lv_iload_n hx hb dX1_markPlaces_2 rfl (lv_at hl 3 rfl) ?_
    refine lv_bipush (v := (100 : Int32)) hx hb dX1_markPlaces_3 (by decide) ?_
    refine lv_icmp_ge (tgt := 21) hx hb dX1_markPlaces_5 (by decide) (fun c1 => ?_) (fun c1 => ?_)
    · rw [if_pos c1] at hm
      cases hm
      exact K _ _ _ hP hS (lv_sub hl [0, 1, 2] rfl)
    · rw [if_neg c1] at hm
      refine lv_aload_n hx hb dX1_markPlaces_8 rfl (lv_at hl 0 rfl) ?_
      refine t_getr (C := RX1) (T := TX1) (N := 2) hx hb hts hin1 hown hK hP ho0 rfl rfl 0 (by decide) (fr1_0 ho0) (hts _ (List.mem_of_getElem? (i := 1) rfl)) dX1_markPlaces_9 ?_
      refine lv_iload_n hx hb dX1_markPlaces_12 rfl (lv_at hl 3 rfl) ?_
      refine lv_lconst (v := (0 : Int64)) hx hb dX1_markPlaces_13 (by decide) ?_
      obtain ⟨hg2, hm⟩ := gd_inv hm
      refine t_last hx hb hK hP (tD _ _ _ _) hS (kr1_0 ho0) hg2 dX1_markPlaces_14 (fun H locs hP hS => ?_)
      obtain ⟨μ3, eμ3⟩ : ∃ z : MM, z = wL μ (RF o0 0) v3.toNatClampNeg (0 : Int64) := ⟨_, rfl⟩
      rw [← eμ3] at hP
      replace hm := bV_of hm eμ3
      obtain ⟨x4, ex4⟩ : ∃ z : Int32, z = v3 + (1 : Int32) := ⟨_, rfl⟩
      replace hm := bV_of hm ex4
      refine lv_iinc (v := x4) (lv' := [(3, .int x4), (0, .ref (base + o0)), (1, .ref (base + o1)), (2, .int b2)]) hx hb dX1_markPlaces_15 hl (k := 3) rfl (by rw [ex4]; rfl) (by decide) rfl (fun ls hl => ?_)
      refine lv_goto (tgt := 2) hx hb dX1_markPlaces_18 (by decide) ?_
      exact ih x4 μ3 _ _ _ μ' hm hP hS (lv_sub hl [1, 2, 3, 0] rfl) K
set_option maxHeartbeats 4000000 in
set_option maxRecDepth 100000 in
theorem lX1_markPlaces_L23 {p : Program} {l : Launch} {e : Env} {s : State} {m : MethodId} {args : Array Value} {below : List Frame} {meth : Method} {c : Code} {Q : State → Prop} {D : va_G} {cA : Nat → ClassId} {base sz0 : Nat} {H0 : Heap} (FX : CallFix p m c cX1_markPlaces 5 s args wsX1_markPlaces RX1) (hK : va_K D vwCl (tys cA) s) (hN : tN s) (hz : sz0 ≤ H0.size) {o0 : Nat} (ho0 : kc o0 = 1) {o1 : Nat} (ho1 : kc o1 = 4) (b2 : Int32) {cells slots : Nat} (hcs : cells ≤ 0 ∧ slots ≤ 0) :
    ∀ (n : Nat) (v3 : Int32) (μ : MM) (H : Heap) (locs : List Loc) (ls : Array Slot) (μ' : MM), X1_markPlaces_L23 o0 o1 b2 n v3 μ = some μ' → va_P D vwCl (tw base cA μ []) H → va_S (tA base sz0) H0 H locs → lv_has ls 5 [(0, .ref (base + o0)), (1, .ref (base + o1)), (2, .int b2), (3, .int v3)] → (∀ (H : Heap) (locs : List Loc) (ls : Array Slot), va_P D vwCl (tw base cA μ' []) H → va_S (tA base sz0) H0 H locs → lv_has ls 5 [] → W p l e rmX1_markPlaces s m args below meth c H locs cells slots Q (F0 m 78 ls [])) → W p l e rmX1_markPlaces s m args below meth c H locs cells slots Q (F0 m 23 ls []) := by
  obtain ⟨hx, hb, hml, hown, hts⟩ := FX
  have hin1 : ∀ w ∈ wsX10, w ∈ wsX1_markPlaces := by decide +kernel
  have hin4 : ∀ w ∈ wsX40, w ∈ wsX1_markPlaces := by decide +kernel
  intro n
  induction n with
  | zero =>
    intro v3 μ H locs ls μ' hm
    cases hm
  | succ n ih =>
    intro v3 μ H locs ls μ' hm hP hS hl K
    rw [X1_markPlaces_L23_s] at hm
    refine lv_iload_n hx hb dX1_markPlaces_23 rfl (lv_at hl 3 rfl) ?_
    refine lv_bipush (v := (60 : Int32)) hx hb dX1_markPlaces_24 (by decide) ?_
    refine lv_icmp_ge (tgt := 78) hx hb dX1_markPlaces_26 (by decide) (fun c7 => ?_) (fun c7 => ?_)
    · rw [if_pos c7] at hm
      cases hm
      exact K _ _ _ hP hS (lv_sub hl [] rfl)
    · rw [if_neg c7] at hm
      refine lv_iload_n hx hb dX1_markPlaces_29 rfl (lv_at hl 2 rfl) ?_
      refine lv_iload_n hx hb dX1_markPlaces_30 rfl (lv_at hl 3 rfl) ?_
      refine lv_iadd hx hb dX1_markPlaces_31 ?_
      refine lv_aload_n hx hb dX1_markPlaces_32 rfl (lv_at hl 1 rfl) ?_
      refine t_geti (C := RX4) (T := TX4) (N := 3) hx hb hts hin4 hown hK hP ho1 rfl rfl 2 (by decide) (fk4_2 ho1) (hts _ (List.mem_of_getElem? (i := 2) rfl)) dX1_markPlaces_33 ?_
      refine lv_icmp_ge (tgt := 78) hx hb dX1_markPlaces_36 (by decide) (fun c8 => ?_) (fun c8 => ?_)
      · rw [if_pos c8] at hm
        cases hm
        exact K _ _ _ hP hS (lv_sub hl [] rfl)
      · rw [if_neg c8] at hm
        refine lv_aload_n hx hb dX1_markPlaces_39 rfl (lv_at hl 1 rfl) ?_
        refine lv_iload_n hx hb dX1_markPlaces_40 rfl (lv_at hl 2 rfl) ?_
        refine lv_iload_n hx hb dX1_markPlaces_41 rfl (lv_at hl 3 rfl) ?_
        refine lv_iadd hx hb dX1_markPlaces_42 ?_
        obtain ⟨r9, hc10, hm⟩ := bO1_inv hm
        refine t_cVi (As := [.int (b2 + v3)]) (rest := []) (μ' := μ) (r := r9) ⟨hx, hb, hml, hown, hts⟩ (mX4_wordAt l D cA base H.size μ ho1 (b2 + v3) hc10) (cwV 1 hts gX1_markPlaces_X4_wordAt rfl rfl rfl (by decide +kernel) ⟨Nat.le_of_ble_eq_true rfl, Nat.le_of_ble_eq_true rfl⟩) (va_recv hK hP (q0 := o1) rfl (tw_obj ho1 (by decide))) hK hN hP hS hz rfl hl.1 (Nat.le_of_ble_eq_true rfl) dX1_markPlaces_43 hcs rfl (fun H locs hP hS => ?_)
        refine lv_istore (lv' := [(4, .int r9), (0, .ref (base + o0)), (1, .ref (base + o1)), (2, .int b2), (3, .int v3)]) hx hb dX1_markPlaces_46 hl (by decide) rfl (fun ls hl => ?_)
        refine lv_iload hx hb dX1_markPlaces_48 (lv_at hl 0 rfl) ?_
        refine lv_iconst (v := (0 : Int32)) hx hb dX1_markPlaces_50 (by decide) ?_
        refine lv_bipush (v := (99 : Int32)) hx hb dX1_markPlaces_51 (by decide) ?_
        refine t_cSNi (As := [.int r9, .int (0 : Int32), .int (99 : Int32)]) (rest := []) (μ' := μ) (r := (X6_isWithin r9 (0 : Int32) (99 : Int32))) ⟨hx, hb, hml, hown, hts⟩ (mX6_isWithin l D cA base H.size μ r9 (0 : Int32) (99 : Int32) rfl) ⟨va_cnB (host := "RelayBooths") 3 hts gX1_markPlaces_X6_isWithin_n36 rfl rfl rfl (hN.2 _ (List.mem_of_getElem? (i := 2) rfl)) (hts _ (List.mem_of_getElem? (i := 11) rfl)) (by decide +kernel) ⟨Nat.le_of_ble_eq_true rfl, Nat.le_of_ble_eq_true rfl⟩, (hts _ (List.mem_of_getElem? (i := 10) rfl)), trivial⟩ hK hN hP hS hz rfl hl.1 (Nat.le_of_ble_eq_true rfl) dX1_markPlaces_53 hcs rfl (fun H locs hP hS => ?_)
        refine lv_if_eq (tgt := 72) hx hb dX1_markPlaces_56 (by decide) (fun c13 => ?_) (fun c13 => ?_)
        · rw [if_pos c13] at hm
          obtain ⟨x14, ex14⟩ : ∃ z : Int32, z = v3 + (1 : Int32) := ⟨_, rfl⟩
          replace hm := bV_of hm ex14
          refine lv_iinc (v := x14) (lv' := [(3, .int x14), (4, .int r9), (0, .ref (base + o0)), (1, .ref (base + o1)), (2, .int b2)]) hx hb dX1_markPlaces_72 hl (k := 4) rfl (by rw [ex14]; rfl) (by decide) rfl (fun ls hl => ?_)
          refine lv_goto (tgt := 23) hx hb dX1_markPlaces_75 (by decide) ?_
          exact ih x14 μ _ _ _ μ' hm hP hS (lv_sub hl [2, 3, 4, 0] rfl) K
        · rw [if_neg c13] at hm
          refine lv_aload_n hx hb dX1_markPlaces_59 rfl (lv_at hl 1 rfl) ?_
          refine t_getr (C := RX1) (T := TX1) (N := 2) hx hb hts hin1 hown hK hP ho0 rfl rfl 0 (by decide) (fr1_0 ho0) (hts _ (List.mem_of_getElem? (i := 1) rfl)) dX1_markPlaces_60 ?_
          refine lv_iload hx hb dX1_markPlaces_63 (lv_at hl 0 rfl) ?_
          refine lv_dup2_11 hx hb dX1_markPlaces_65 rfl rfl ?_
          obtain ⟨hg15, hm⟩ := gd_inv hm
          refine t_lald hx hb hK hP (kr1_0 ho0) hg15 dX1_markPlaces_66 ?_
          refine lv_lconst (v := (1 : Int64)) hx hb dX1_markPlaces_67 (by decide) ?_
          refine lv_iload_n hx hb dX1_markPlaces_68 rfl (lv_at hl 4 rfl) ?_
          refine lv_lshl (v := (1 : Int64) <<< (v3.toInt64 &&& 63)) hx hb dX1_markPlaces_69 rfl ?_
          refine lv_lor hx hb dX1_markPlaces_70 ?_
          obtain ⟨hg16, hm⟩ := gd_inv hm
          refine t_last hx hb hK hP (tD _ _ _ _) hS (kr1_0 ho0) hg16 dX1_markPlaces_71 (fun H locs hP hS => ?_)
          obtain ⟨μ17, eμ17⟩ : ∃ z : MM, z = wL μ (RF o0 0) r9.toNatClampNeg ((rL μ (RF o0 0) r9.toNatClampNeg) ||| ((1 : Int64) <<< (v3.toInt64 &&& 63))) := ⟨_, rfl⟩
          rw [← eμ17] at hP
          replace hm := bV_of hm eμ17
          obtain ⟨x18, ex18⟩ : ∃ z : Int32, z = v3 + (1 : Int32) := ⟨_, rfl⟩
          replace hm := bV_of hm ex18
          refine lv_iinc (v := x18) (lv' := [(3, .int x18), (4, .int r9), (0, .ref (base + o0)), (1, .ref (base + o1)), (2, .int b2)]) hx hb dX1_markPlaces_72 hl (k := 4) rfl (by rw [ex18]; rfl) (by decide) rfl (fun ls hl => ?_)
          refine lv_goto (tgt := 23) hx hb dX1_markPlaces_75 (by decide) ?_
          exact ih x18 μ17 _ _ _ μ' hm hP hS (lv_sub hl [2, 3, 4, 0] rfl) K
set_option maxHeartbeats 4000000 in
set_option maxRecDepth 100000 in
theorem mX1_markPlaces (l : Launch) (D : va_G) (cA : Nat → ClassId) (base sz : Nat) (μ : MM) {q : Nat} (hq : kc q = 1) {a1 : Nat} (ha1 : kc a1 = 4) (a2 : Int32) {μ' : MM} (hm : X1_markPlaces q a1 a2 μ = some μ') : Met l yX1_markPlaces wsX1_markPlaces rmX1_markPlaces (va_Pc [.ref (base + q), .ref (base + a1), .int a2] (tPre D cA base sz μ)) (va_Qv (fun _ : Unit => True) (fun _ => tPost D cA base μ') (tA base sz)) 0 0 (tA base sz) := by
  refine Met.ofW (cc := cX1_markPlaces) (maxL := 5) (ret := none) (by decide +kernel) rfl ?_
  intro p e s m args below meth c s₁ B hml hv
  obtain ⟨rfl, hsz, hP, hK, hN⟩ := hv
  have hx := B.exec
  have hb := B.bytes
  have hr := B.returns
  have hts := atoms_spec (ws := wsX1_markPlaces) B.pre
  have hown : s.vm.findClass RX1 = some m.cls := findClass_of_methodNamed B.named
  have hlocks := B.notSynchronized
  subst hsz
  have hS : va_S (tA base s.heap.size) s.heap s.heap [] := va_S.rf
  have hz : s.heap.size ≤ s.heap.size := Nat.le_refl _
  have hl := lv_entry ([.ref (base + q), .ref (base + a1), .int a2]) (n := 5) (Nat.le_of_ble_eq_true rfl)
  rw [lg_entry_eq]
  generalize (lg_sl ([.ref (base + q), .ref (base + a1), .int a2]) ++ List.replicate (5 - (lg_sl ([.ref (base + q), .ref (base + a1), .int a2])).length) Slot.unset).toArray = ls at hl ⊢
  have hl : lv_has ls 5 [(0, .ref (base + q)), (1, .ref (base + a1)), (2, .int a2)] := hl
  unfold X1_markPlaces at hm
  refine lv_iconst (v := (0 : Int32)) hx hb dX1_markPlaces_0 (by decide) ?_
  refine lv_istore_n (lv' := [(3, .int (0 : Int32)), (0, .ref (base + q)), (1, .ref (base + a1)), (2, .int a2)]) hx hb dX1_markPlaces_1 rfl hl (by decide) rfl (fun ls hl => ?_)
  obtain ⟨μ5, hc6, hm⟩ := bO1_inv hm
  refine lX1_markPlaces_L2 ⟨hx, hb, hml, hown, hts⟩ hK hN hz hq ha1 a2 ⟨Nat.le_of_ble_eq_true rfl, Nat.le_of_ble_eq_true rfl⟩ 1000 (0 : Int32) μ _ _ _ μ5 hc6 hP hS (lv_sub hl [1, 2, 3, 0] rfl) ?_
  intro H locs ls hP hS hl
  refine lv_iconst (v := (0 : Int32)) hx hb dX1_markPlaces_21 (by decide) ?_
  refine lv_istore_n (lv' := [(3, .int (0 : Int32)), (0, .ref (base + q)), (1, .ref (base + a1)), (2, .int a2)]) hx hb dX1_markPlaces_22 rfl hl (by decide) rfl (fun ls hl => ?_)
  obtain ⟨μ19, hc20, hm⟩ := bO1_inv hm
  refine lX1_markPlaces_L23 ⟨hx, hb, hml, hown, hts⟩ hK hN hz hq ha1 a2 ⟨Nat.le_of_ble_eq_true rfl, Nat.le_of_ble_eq_true rfl⟩ 1000 (0 : Int32) μ5 _ _ _ μ19 hc20 hP hS (lv_sub hl [1, 2, 3, 0] rfl) ?_
  intro H locs ls hP hS hl
  cases hm
  exact W.vret hx hb hr (fun t ht hW => ⟨⟨(), rfl, trivial, tPost_of hP ht⟩, hS.F ht⟩) hS.2.2 dX1_markPlaces_78
abbrev rmJ13_bitCount_95d88 : Room := { frames := 0, cells := 0, slots := 0, locals := 0 }
set_option maxHeartbeats 4000000 in
set_option maxRecDepth 100000 in
theorem mJ13_bitCount_95d88 (l : Launch) (D : va_G) (cA : Nat → ClassId) (base sz : Nat) (μ : MM) (a1 : Int64) {r : Int32} (hm : J13_bitCount_95d88 a1 = r) : Met l yJ13_bitCount_95d88 wsJ13_bitCount_95d88 rmJ13_bitCount_95d88 (va_Pc [.long a1] (tPre D cA base sz μ)) (va_Qi (fun (x : Int32) (_ : Unit) => x = r) (fun _ => tPost D cA base μ) (tA base sz)) 0 0 (tA base sz) := by
  refine va_MetF (cc := cJ13_bitCount_95d88) (maxL := 2) (ret := (some .int)) (by decide +kernel) rfl ?_
  intro p e s m args below meth c s₁ B hml hv
  obtain ⟨rfl, hsz, hP, hK, hN⟩ := hv
  have hx := B.exec
  have hb := B.bytes
  have hr := B.returns
  have hts := atoms_spec (ws := wsJ13_bitCount_95d88) B.pre
  have hown : s.vm.findClass RJ13 = some m.cls := findClass_of_methodNamed B.named
  have hlocks := B.notSynchronized
  subst hsz
  have hS : va_S (tA base s.heap.size) s.heap s.heap [] := va_S.rf
  have hz : s.heap.size ≤ s.heap.size := Nat.le_refl _
  have hl := lv_entry ([.long a1]) (n := 2) (Nat.le_of_ble_eq_true rfl)
  rw [lg_entry_eq]
  generalize (lg_sl ([.long a1]) ++ List.replicate (2 - (lg_sl ([.long a1])).length) Slot.unset).toArray = ls at hl ⊢
  have hl : lv_has ls 2 [(0, .long a1)] := hl
  unfold J13_bitCount_95d88 at hm
  refine lv_lload_n hx hb dJ13_bitCount_95d88_0 rfl (lv_at hl 0 rfl) ?_
  refine lv_lload_n hx hb dJ13_bitCount_95d88_1 rfl (lv_at hl 0 rfl) ?_
  refine lv_iconst (v := (1 : Int32)) hx hb dJ13_bitCount_95d88_2 (by decide) ?_
  refine lv_lushr (v := (a1.toUInt64 >>> ((1 : Int32).toInt64.toUInt64 &&& Int64.toUInt64 63)).toInt64) hx hb dJ13_bitCount_95d88_3 rfl ?_
  refine lv_ldc2 (v := (6148914691236517205 : Int64)) hx hb hown (hts _ (List.mem_of_getElem? (i := 1) rfl)) dJ13_bitCount_95d88_4 ?_
  refine lv_land hx hb dJ13_bitCount_95d88_7 ?_
  refine lv_lsub hx hb dJ13_bitCount_95d88_8 ?_
  refine lv_topl (fun x1 ex1 => ?_)
  replace hm := bV_of hm ex1
  refine lv_lstore_n (lv' := [(0, .long x1)]) hx hb dJ13_bitCount_95d88_9 rfl hl (by decide) rfl (fun ls hl => ?_)
  refine lv_lload_n hx hb dJ13_bitCount_95d88_10 rfl (lv_at hl 0 rfl) ?_
  refine lv_ldc2 (v := (3689348814741910323 : Int64)) hx hb hown (hts _ (List.mem_of_getElem? (i := 2) rfl)) dJ13_bitCount_95d88_11 ?_
  refine lv_land hx hb dJ13_bitCount_95d88_14 ?_
  refine lv_lload_n hx hb dJ13_bitCount_95d88_15 rfl (lv_at hl 0 rfl) ?_
  refine lv_iconst (v := (2 : Int32)) hx hb dJ13_bitCount_95d88_16 (by decide) ?_
  refine lv_lushr (v := (x1.toUInt64 >>> ((2 : Int32).toInt64.toUInt64 &&& Int64.toUInt64 63)).toInt64) hx hb dJ13_bitCount_95d88_17 rfl ?_
  refine lv_ldc2 (v := (3689348814741910323 : Int64)) hx hb hown (hts _ (List.mem_of_getElem? (i := 2) rfl)) dJ13_bitCount_95d88_18 ?_
  refine lv_land hx hb dJ13_bitCount_95d88_21 ?_
  refine lv_ladd hx hb dJ13_bitCount_95d88_22 ?_
  refine lv_topl (fun x2 ex2 => ?_)
  replace hm := bV_of hm ex2
  refine lv_lstore_n (lv' := [(0, .long x2)]) hx hb dJ13_bitCount_95d88_23 rfl hl (by decide) rfl (fun ls hl => ?_)
  refine lv_lload_n hx hb dJ13_bitCount_95d88_24 rfl (lv_at hl 0 rfl) ?_
  refine lv_lload_n hx hb dJ13_bitCount_95d88_25 rfl (lv_at hl 0 rfl) ?_
  refine lv_iconst (v := (4 : Int32)) hx hb dJ13_bitCount_95d88_26 (by decide) ?_
  refine lv_lushr (v := (x2.toUInt64 >>> ((4 : Int32).toInt64.toUInt64 &&& Int64.toUInt64 63)).toInt64) hx hb dJ13_bitCount_95d88_27 rfl ?_
  refine lv_ladd hx hb dJ13_bitCount_95d88_28 ?_
  refine lv_ldc2 (v := (1085102592571150095 : Int64)) hx hb hown (hts _ (List.mem_of_getElem? (i := 3) rfl)) dJ13_bitCount_95d88_29 ?_
  refine lv_land hx hb dJ13_bitCount_95d88_32 ?_
  refine lv_topl (fun x3 ex3 => ?_)
  replace hm := bV_of hm ex3
  refine lv_lstore_n (lv' := [(0, .long x3)]) hx hb dJ13_bitCount_95d88_33 rfl hl (by decide) rfl (fun ls hl => ?_)
  refine lv_lload_n hx hb dJ13_bitCount_95d88_34 rfl (lv_at hl 0 rfl) ?_
  refine lv_lload_n hx hb dJ13_bitCount_95d88_35 rfl (lv_at hl 0 rfl) ?_
  refine lv_bipush (v := (8 : Int32)) hx hb dJ13_bitCount_95d88_36 (by decide) ?_
  refine lv_lushr (v := (x3.toUInt64 >>> ((8 : Int32).toInt64.toUInt64 &&& Int64.toUInt64 63)).toInt64) hx hb dJ13_bitCount_95d88_38 rfl ?_
  refine lv_ladd hx hb dJ13_bitCount_95d88_39 ?_
  refine lv_topl (fun x4 ex4 => ?_)
  replace hm := bV_of hm ex4
  refine lv_lstore_n (lv' := [(0, .long x4)]) hx hb dJ13_bitCount_95d88_40 rfl hl (by decide) rfl (fun ls hl => ?_)
  refine lv_lload_n hx hb dJ13_bitCount_95d88_41 rfl (lv_at hl 0 rfl) ?_
  refine lv_lload_n hx hb dJ13_bitCount_95d88_42 rfl (lv_at hl 0 rfl) ?_
  refine lv_bipush (v := (16 : Int32)) hx hb dJ13_bitCount_95d88_43 (by decide) ?_
  refine lv_lushr (v := (x4.toUInt64 >>> ((16 : Int32).toInt64.toUInt64 &&& Int64.toUInt64 63)).toInt64) hx hb dJ13_bitCount_95d88_45 rfl ?_
  refine lv_ladd hx hb dJ13_bitCount_95d88_46 ?_
  refine lv_topl (fun x5 ex5 => ?_)
  replace hm := bV_of hm ex5
  refine lv_lstore_n (lv' := [(0, .long x5)]) hx hb dJ13_bitCount_95d88_47 rfl hl (by decide) rfl (fun ls hl => ?_)
  refine lv_lload_n hx hb dJ13_bitCount_95d88_48 rfl (lv_at hl 0 rfl) ?_
  refine lv_lload_n hx hb dJ13_bitCount_95d88_49 rfl (lv_at hl 0 rfl) ?_
  refine lv_bipush (v := (32 : Int32)) hx hb dJ13_bitCount_95d88_50 (by decide) ?_
  refine lv_lushr (v := (x5.toUInt64 >>> ((32 : Int32).toInt64.toUInt64 &&& Int64.toUInt64 63)).toInt64) hx hb dJ13_bitCount_95d88_52 rfl ?_
  refine lv_ladd hx hb dJ13_bitCount_95d88_53 ?_
  refine lv_topl (fun x6 ex6 => ?_)
  replace hm := bV_of hm ex6
  refine lv_lstore_n (lv' := [(0, .long x6)]) hx hb dJ13_bitCount_95d88_54 rfl hl (by decide) rfl (fun ls hl => ?_)
  refine lv_lload_n hx hb dJ13_bitCount_95d88_55 rfl (lv_at hl 0 rfl) ?_
  refine lv_l2i (v := x6.toInt32) hx hb dJ13_bitCount_95d88_56 rfl ?_
  refine lv_bipush (v := (127 : Int32)) hx hb dJ13_bitCount_95d88_57 (by decide) ?_
  refine lv_iand hx hb dJ13_bitCount_95d88_59 ?_
  cases hm
  exact W.iret hx hb hr (fun t ht hW => ⟨⟨_, (), rfl, rfl, tPost_of hP ht⟩, hS.F ht⟩) hS.2.2 dJ13_bitCount_95d88_60
abbrev rmX1_closedInBlock : Room := { frames := 2, cells := 0, slots := 0, locals := 43 }
set_option maxHeartbeats 4000000 in
set_option maxRecDepth 100000 in
theorem lX1_closedInBlock_L7 {p : Program} {l : Launch} {e : Env} {s : State} {m : MethodId} {args : Array Value} {below : List Frame} {meth : Method} {c : Code} {Q : State → Prop} {D : va_G} {cA : Nat → ClassId} {base sz0 : Nat} {H0 : Heap} (FX : CallFix p m c cX1_closedInBlock 10 s args wsX1_closedInBlock RX1) (hK : va_K D vwCl (tys cA) s) (hN : tN s) (hz : sz0 ≤ H0.size) {o0 : Nat} (ho0 : kc o0 = 1) {o1 : Nat} (ho1 : kc o1 = 4) {cells slots : Nat} (hcs : cells ≤ 0 ∧ slots ≤ 0) :
    ∀ (n : Nat) (v2 : Int64) (v4 : Int32) (μ : MM) (H : Heap) (locs : List Loc) (ls : Array Slot) (w2 : Int64) (μ' : MM), X1_closedInBlock_L7 o0 o1 n v2 v4 μ = some (w2, μ') → va_P D vwCl (tw base cA μ []) H → va_S (tA base sz0) H0 H locs → lv_has ls 10 [(0, .ref (base + o0)), (1, .ref (base + o1)), (2, .long v2), (4, .int v4)] → (∀ (H : Heap) (locs : List Loc) (ls : Array Slot), va_P D vwCl (tw base cA μ' []) H → va_S (tA base sz0) H0 H locs → lv_has ls 10 [(2, .long w2)] → W p l e rmX1_closedInBlock s m args below meth c H locs cells slots Q (F0 m 106 ls [])) → W p l e rmX1_closedInBlock s m args below meth c H locs cells slots Q (F0 m 7 ls []) := by
  obtain ⟨hx, hb, hml, hown, hts⟩ := FX
  have hin1 : ∀ w ∈ wsX10, w ∈ wsX1_closedInBlock := by decide +kernel
  have hin4 : ∀ w ∈ wsX40, w ∈ wsX1_closedInBlock := by decide +kernel
  intro n
  induction n with
  | zero =>
    intro v2 v4 μ H locs ls w2 μ' hm
    cases hm
  | succ n ih =>
    intro v2 v4 μ H locs ls w2 μ' hm hP hS hl K
    rw [X1_closedInBlock_L7_s] at hm
    refine lv_iload hx hb dX1_closedInBlock_7 (lv_at hl 3 rfl) ?_
    refine lv_aload_n hx hb dX1_closedInBlock_9 rfl (lv_at hl 1 rfl) ?_
    refine t_geti (C := RX4) (T := TX4) (N := 3) hx hb hts hin4 hown hK hP ho1 rfl rfl 2 (by decide) (fk4_2 ho1) (hts _ (List.mem_of_getElem? (i := 2) rfl)) dX1_closedInBlock_10 ?_
    refine lv_icmp_ge (tgt := 106) hx hb dX1_closedInBlock_13 (by decide) (fun c2 => ?_) (fun c2 => ?_)
    · rw [if_pos c2] at hm
      cases hm
      exact K _ _ _ hP hS (lv_sub hl [2] rfl)
    · rw [if_neg c2] at hm
      refine lv_iload hx hb dX1_closedInBlock_16 (lv_at hl 3 rfl) ?_
      refine lv_sipush (v := (400 : Int32)) hx hb dX1_closedInBlock_18 (by decide) ?_
      refine lv_icmp_ge (tgt := 106) hx hb dX1_closedInBlock_21 (by decide) (fun c3 => ?_) (fun c3 => ?_)
      · rw [if_pos c3] at hm
        cases hm
        exact K _ _ _ hP hS (lv_sub hl [2] rfl)
      · rw [if_neg c3] at hm
        refine lv_aload_n hx hb dX1_closedInBlock_24 rfl (lv_at hl 1 rfl) ?_
        refine lv_iload hx hb dX1_closedInBlock_25 (lv_at hl 3 rfl) ?_
        obtain ⟨r4, hc5, hm⟩ := bO1_inv hm
        refine t_cVi (As := [.int v4]) (rest := []) (μ' := μ) (r := r4) ⟨hx, hb, hml, hown, hts⟩ (mX4_wordAt l D cA base H.size μ ho1 v4 hc5) (cwV 1 hts gX1_closedInBlock_X4_wordAt rfl rfl rfl (by decide +kernel) ⟨Nat.le_of_ble_eq_true rfl, Nat.le_of_ble_eq_true rfl⟩) (va_recv hK hP (q0 := o1) rfl (tw_obj ho1 (by decide))) hK hN hP hS hz rfl hl.1 (Nat.le_of_ble_eq_true rfl) dX1_closedInBlock_27 hcs rfl (fun H locs hP hS => ?_)
        refine lv_istore (lv' := [(5, .int r4), (0, .ref (base + o0)), (1, .ref (base + o1)), (2, .long v2), (4, .int v4)]) hx hb dX1_closedInBlock_30 hl (by decide) rfl (fun ls hl => ?_)
        refine lv_iload hx hb dX1_closedInBlock_32 (lv_at hl 0 rfl) ?_
        refine lv_iconst (v := (0 : Int32)) hx hb dX1_closedInBlock_34 (by decide) ?_
        refine lv_bipush (v := (99 : Int32)) hx hb dX1_closedInBlock_35 (by decide) ?_
        refine t_cSNi (As := [.int r4, .int (0 : Int32), .int (99 : Int32)]) (rest := []) (μ' := μ) (r := (X6_isWithin r4 (0 : Int32) (99 : Int32))) ⟨hx, hb, hml, hown, hts⟩ (mX6_isWithin l D cA base H.size μ r4 (0 : Int32) (99 : Int32) rfl) ⟨va_cnB (host := "RelayBooths") 3 hts gX1_closedInBlock_X6_isWithin_n36 rfl rfl rfl (hN.2 _ (List.mem_of_getElem? (i := 2) rfl)) (hts _ (List.mem_of_getElem? (i := 14) rfl)) (by decide +kernel) ⟨Nat.le_of_ble_eq_true rfl, Nat.le_of_ble_eq_true rfl⟩, (hts _ (List.mem_of_getElem? (i := 13) rfl)), trivial⟩ hK hN hP hS hz rfl hl.1 (Nat.le_of_ble_eq_true rfl) dX1_closedInBlock_37 hcs rfl (fun H locs hP hS => ?_)
        refine lv_if_eq (tgt := 55) hx hb dX1_closedInBlock_40 (by decide) (fun c8 => ?_) (fun c8 => ?_)
        · rw [if_pos c8] at hm
          refine lv_lconst (v := (0 : Int64)) hx hb dX1_closedInBlock_55 (by decide) ?_
          refine lv_topl (fun x9 ex9 => ?_)
          replace hm := bV_of hm ex9
          refine lv_lstore (lv' := [(6, .long x9), (5, .int r4), (0, .ref (base + o0)), (1, .ref (base + o1)), (2, .long v2), (4, .int v4)]) hx hb dX1_closedInBlock_56 hl (by decide) rfl (fun ls hl => ?_)
          refine lv_lload_n hx hb dX1_closedInBlock_58 rfl (lv_at hl 4 rfl) ?_
          refine lv_lload hx hb dX1_closedInBlock_59 (lv_at hl 0 rfl) ?_
          refine lv_ladd hx hb dX1_closedInBlock_61 ?_
          refine lv_aload_n hx hb dX1_closedInBlock_62 rfl (lv_at hl 2 rfl) ?_
          refine t_getr (C := RX1) (T := TX1) (N := 2) hx hb hts hin1 hown hK hP ho0 rfl rfl 1 (by decide) (fr1_1 ho0) (hts _ (List.mem_of_getElem? (i := 4) rfl)) dX1_closedInBlock_63 ?_
          refine lv_iload hx hb dX1_closedInBlock_66 (lv_at hl 5 rfl) ?_
          obtain ⟨hg10, hm⟩ := gd_inv hm
          refine t_lald hx hb hK hP (kr1_1 ho0) hg10 dX1_closedInBlock_68 ?_
          refine lv_ladd hx hb dX1_closedInBlock_69 ?_
          refine lv_topl (fun x11 ex11 => ?_)
          replace hm := bV_of hm ex11
          refine lv_lstore (lv' := [(8, .long x11), (6, .long x9), (5, .int r4), (0, .ref (base + o0)), (1, .ref (base + o1)), (2, .long v2), (4, .int v4)]) hx hb dX1_closedInBlock_70 hl (by decide) rfl (fun ls hl => ?_)
          refine lv_aload_n hx hb dX1_closedInBlock_72 rfl (lv_at hl 3 rfl) ?_
          refine t_getr (C := RX1) (T := TX1) (N := 2) hx hb hts hin1 hown hK hP ho0 rfl rfl 1 (by decide) (fr1_1 ho0) (hts _ (List.mem_of_getElem? (i := 4) rfl)) dX1_closedInBlock_73 ?_
          refine lv_iload hx hb dX1_closedInBlock_76 (lv_at hl 6 rfl) ?_
          refine lv_lload hx hb dX1_closedInBlock_78 (lv_at hl 0 rfl) ?_
          refine lv_bipush (v := (60 : Int32)) hx hb dX1_closedInBlock_80 (by decide) ?_
          refine lv_lushr (v := (x11.toUInt64 >>> ((60 : Int32).toInt64.toUInt64 &&& Int64.toUInt64 63)).toInt64) hx hb dX1_closedInBlock_82 rfl ?_
          obtain ⟨hg12, hm⟩ := gd_inv hm
          refine t_last hx hb hK hP (tD _ _ _ _) hS (kr1_1 ho0) hg12 dX1_closedInBlock_83 (fun H locs hP hS => ?_)
          obtain ⟨μ13, eμ13⟩ : ∃ z : MM, z = wL μ (RF o0 1) v4.toNatClampNeg ((x11.toUInt64 >>> ((60 : Int32).toInt64.toUInt64 &&& Int64.toUInt64 63)).toInt64) := ⟨_, rfl⟩
          rw [← eμ13] at hP
          replace hm := bV_of hm eμ13
          refine lv_lload hx hb dX1_closedInBlock_84 (lv_at hl 0 rfl) ?_
          refine lv_lload_n hx hb dX1_closedInBlock_86 rfl (lv_at hl 5 rfl) ?_
          refine lv_lload hx hb dX1_closedInBlock_87 (lv_at hl 1 rfl) ?_
          refine lv_ldc2 (v := (-1 : Int64)) hx hb hown (hts _ (List.mem_of_getElem? (i := 5) rfl)) dX1_closedInBlock_89 ?_
          refine lv_lxor hx hb dX1_closedInBlock_92 ?_
          refine lv_land hx hb dX1_closedInBlock_93 ?_
          refine lv_lor hx hb dX1_closedInBlock_94 ?_
          refine lv_ldc2 (v := (1152921504606846975 : Int64)) hx hb hown (hts _ (List.mem_of_getElem? (i := 1) rfl)) dX1_closedInBlock_95 ?_
          refine lv_land hx hb dX1_closedInBlock_98 ?_
          refine lv_topl (fun x14 ex14 => ?_)
          replace hm := bV_of hm ex14
          refine lv_lstore_n (lv' := [(2, .long x14), (8, .long x11), (6, .long x9), (5, .int r4), (0, .ref (base + o0)), (1, .ref (base + o1)), (4, .int v4)]) hx hb dX1_closedInBlock_99 rfl hl (by decide) rfl (fun ls hl => ?_)
          obtain ⟨x15, ex15⟩ : ∃ z : Int32, z = v4 + (1 : Int32) := ⟨_, rfl⟩
          replace hm := bV_of hm ex15
          refine lv_iinc (v := x15) (lv' := [(4, .int x15), (2, .long x14), (8, .long x11), (6, .long x9), (5, .int r4), (0, .ref (base + o0)), (1, .ref (base + o1))]) hx hb dX1_closedInBlock_100 hl (k := 6) rfl (by rw [ex15]; rfl) (by decide) rfl (fun ls hl => ?_)
          refine lv_goto (tgt := 7) hx hb dX1_closedInBlock_103 (by decide) ?_
          exact ih x14 x15 μ13 _ _ _ w2 μ' hm hP hS (lv_sub hl [5, 6, 1, 0] rfl) K
        · rw [if_neg c8] at hm
          refine lv_lload_n hx hb dX1_closedInBlock_43 rfl (lv_at hl 3 rfl) ?_
          refine lv_aload_n hx hb dX1_closedInBlock_44 rfl (lv_at hl 1 rfl) ?_
          refine t_getr (C := RX1) (T := TX1) (N := 2) hx hb hts hin1 hown hK hP ho0 rfl rfl 0 (by decide) (fr1_0 ho0) (hts _ (List.mem_of_getElem? (i := 3) rfl)) dX1_closedInBlock_45 ?_
          refine lv_iload hx hb dX1_closedInBlock_48 (lv_at hl 0 rfl) ?_
          obtain ⟨hg16, hm⟩ := gd_inv hm
          refine t_lald hx hb hK hP (kr1_0 ho0) hg16 dX1_closedInBlock_50 ?_
          refine lv_land hx hb dX1_closedInBlock_51 ?_
          refine lv_goto (tgt := 56) hx hb dX1_closedInBlock_52 (by decide) ?_
          refine lv_topl (fun x17 ex17 => ?_)
          replace hm := bV_of hm ex17
          refine lv_lstore (lv' := [(6, .long x17), (5, .int r4), (0, .ref (base + o0)), (1, .ref (base + o1)), (2, .long v2), (4, .int v4)]) hx hb dX1_closedInBlock_56 hl (by decide) rfl (fun ls hl => ?_)
          refine lv_lload_n hx hb dX1_closedInBlock_58 rfl (lv_at hl 4 rfl) ?_
          refine lv_lload hx hb dX1_closedInBlock_59 (lv_at hl 0 rfl) ?_
          refine lv_ladd hx hb dX1_closedInBlock_61 ?_
          refine lv_aload_n hx hb dX1_closedInBlock_62 rfl (lv_at hl 2 rfl) ?_
          refine t_getr (C := RX1) (T := TX1) (N := 2) hx hb hts hin1 hown hK hP ho0 rfl rfl 1 (by decide) (fr1_1 ho0) (hts _ (List.mem_of_getElem? (i := 4) rfl)) dX1_closedInBlock_63 ?_
          refine lv_iload hx hb dX1_closedInBlock_66 (lv_at hl 5 rfl) ?_
          obtain ⟨hg18, hm⟩ := gd_inv hm
          refine t_lald hx hb hK hP (kr1_1 ho0) hg18 dX1_closedInBlock_68 ?_
          refine lv_ladd hx hb dX1_closedInBlock_69 ?_
          refine lv_topl (fun x19 ex19 => ?_)
          replace hm := bV_of hm ex19
          refine lv_lstore (lv' := [(8, .long x19), (6, .long x17), (5, .int r4), (0, .ref (base + o0)), (1, .ref (base + o1)), (2, .long v2), (4, .int v4)]) hx hb dX1_closedInBlock_70 hl (by decide) rfl (fun ls hl => ?_)
          refine lv_aload_n hx hb dX1_closedInBlock_72 rfl (lv_at hl 3 rfl) ?_
          refine t_getr (C := RX1) (T := TX1) (N := 2) hx hb hts hin1 hown hK hP ho0 rfl rfl 1 (by decide) (fr1_1 ho0) (hts _ (List.mem_of_getElem? (i := 4) rfl)) dX1_closedInBlock_73 ?_
          refine lv_iload hx hb dX1_closedInBlock_76 (lv_at hl 6 rfl) ?_
          refine lv_lload hx hb dX1_closedInBlock_78 (lv_at hl 0 rfl) ?_
          refine lv_bipush (v := (60 : Int32)) hx hb dX1_closedInBlock_80 (by decide) ?_
          refine lv_lushr (v := (x19.toUInt64 >>> ((60 : Int32).toInt64.toUInt64 &&& Int64.toUInt64 63)).toInt64) hx hb dX1_closedInBlock_82 rfl ?_
          obtain ⟨hg20, hm⟩ := gd_inv hm
          refine t_last hx hb hK hP (tD _ _ _ _) hS (kr1_1 ho0) hg20 dX1_closedInBlock_83 (fun H locs hP hS => ?_)
          obtain ⟨μ21, eμ21⟩ : ∃ z : MM, z = wL μ (RF o0 1) v4.toNatClampNeg ((x19.toUInt64 >>> ((60 : Int32).toInt64.toUInt64 &&& Int64.toUInt64 63)).toInt64) := ⟨_, rfl⟩
          rw [← eμ21] at hP
          replace hm := bV_of hm eμ21
          refine lv_lload hx hb dX1_closedInBlock_84 (lv_at hl 0 rfl) ?_
          refine lv_lload_n hx hb dX1_closedInBlock_86 rfl (lv_at hl 5 rfl) ?_
          refine lv_lload hx hb dX1_closedInBlock_87 (lv_at hl 1 rfl) ?_
          refine lv_ldc2 (v := (-1 : Int64)) hx hb hown (hts _ (List.mem_of_getElem? (i := 5) rfl)) dX1_closedInBlock_89 ?_
          refine lv_lxor hx hb dX1_closedInBlock_92 ?_
          refine lv_land hx hb dX1_closedInBlock_93 ?_
          refine lv_lor hx hb dX1_closedInBlock_94 ?_
          refine lv_ldc2 (v := (1152921504606846975 : Int64)) hx hb hown (hts _ (List.mem_of_getElem? (i := 1) rfl)) dX1_closedInBlock_95 ?_
          refine lv_land hx hb dX1_closedInBlock_98 ?_
          refine lv_topl (fun x22 ex22 => ?_)
          replace hm := bV_of hm ex22
          refine lv_lstore_n (lv' := [(2, .long x22), (8, .long x19), (6, .long x17), (5, .int r4), (0, .ref (base + o0)), (1, .ref (base + o1)), (4, .int v4)]) hx hb dX1_closedInBlock_99 rfl hl (by decide) rfl (fun ls hl => ?_)
          obtain ⟨x23, ex23⟩ : ∃ z : Int32, z = v4 + (1 : Int32) := ⟨_, rfl⟩
          replace hm := bV_of hm ex23
          refine lv_iinc (v := x23) (lv' := [(4, .int x23), (2, .long x22), (8, .long x19), (6, .long x17), (5, .int r4), (0, .ref (base + o0)), (1, .ref (base + o1))]) hx hb dX1_closedInBlock_100 hl (k := 6) rfl (by rw [ex23]; rfl) (by decide) rfl (fun ls hl => ?_)
          refine lv_goto (tgt := 7) hx hb dX1_closedInBlock_103 (by decide) ?_
          exact ih x22 x23 μ21 _ _ _ w2 μ' hm hP hS (lv_sub hl [5, 6, 1, 0] rfl) K
set_option maxHeartbeats 4000000 in
set_option maxRecDepth 100000 in
theorem mX1_closedInBlock (l : Launch) (D : va_G) (cA : Nat → ClassId) (base sz : Nat) (μ : MM) {q : Nat} (hq : kc q = 1) {a1 : Nat} (ha1 : kc a1 = 4) {r : Int32} {μ' : MM} (hm : X1_closedInBlock q a1 μ = some (r, μ')) : Met l yX1_closedInBlock wsX1_closedInBlock rmX1_closedInBlock (va_Pc [.ref (base + q), .ref (base + a1)] (tPre D cA base sz μ)) (va_Qi (fun (x : Int32) (_ : Unit) => x = r) (fun _ => tPost D cA base μ') (tA base sz)) 0 0 (tA base sz) := by
  refine Met.ofW (cc := cX1_closedInBlock) (maxL := 10) (ret := (some .int)) (by decide +kernel) rfl ?_
  intro p e s m args below meth c s₁ B hml hv
  obtain ⟨rfl, hsz, hP, hK, hN⟩ := hv
  have hx := B.exec
  have hb := B.bytes
  have hr := B.returns
  have hts := atoms_spec (ws := wsX1_closedInBlock) B.pre
  have hown : s.vm.findClass RX1 = some m.cls := findClass_of_methodNamed B.named
  have hlocks := B.notSynchronized
  subst hsz
  have hS : va_S (tA base s.heap.size) s.heap s.heap [] := va_S.rf
  have hz : s.heap.size ≤ s.heap.size := Nat.le_refl _
  have hl := lv_entry ([.ref (base + q), .ref (base + a1)]) (n := 10) (Nat.le_of_ble_eq_true rfl)
  rw [lg_entry_eq]
  generalize (lg_sl ([.ref (base + q), .ref (base + a1)]) ++ List.replicate (10 - (lg_sl ([.ref (base + q), .ref (base + a1)])).length) Slot.unset).toArray = ls at hl ⊢
  have hl : lv_has ls 10 [(0, .ref (base + q)), (1, .ref (base + a1))] := hl
  unfold X1_closedInBlock at hm
  refine lv_ldc2 (v := (1152921504606846975 : Int64)) hx hb hown (hts _ (List.mem_of_getElem? (i := 1) rfl)) dX1_closedInBlock_0 ?_
  refine lv_topl (fun x1 ex1 => ?_)
  replace hm := bV_of hm ex1
  refine lv_lstore_n (lv' := [(2, .long x1), (0, .ref (base + q)), (1, .ref (base + a1))]) hx hb dX1_closedInBlock_3 rfl hl (by decide) rfl (fun ls hl => ?_)
  refine lv_iconst (v := (0 : Int32)) hx hb dX1_closedInBlock_4 (by decide) ?_
  refine lv_istore (lv' := [(4, .int (0 : Int32)), (2, .long x1), (0, .ref (base + q)), (1, .ref (base + a1))]) hx hb dX1_closedInBlock_5 hl (by decide) rfl (fun ls hl => ?_)
  obtain ⟨x24, μ25, hc26, hm⟩ := bO2_inv hm
  refine lX1_closedInBlock_L7 ⟨hx, hb, hml, hown, hts⟩ hK hN hz hq ha1 ⟨Nat.le_of_ble_eq_true rfl, Nat.le_of_ble_eq_true rfl⟩ 1000 x1 (0 : Int32) μ _ _ _ x24 μ25 hc26 hP hS (lv_sub hl [2, 3, 1, 0] rfl) ?_
  intro H locs ls hP hS hl
  refine lv_bipush (v := (60 : Int32)) hx hb dX1_closedInBlock_106 (by decide) ?_
  refine lv_lload_n hx hb dX1_closedInBlock_108 rfl (lv_at hl 0 rfl) ?_
  refine t_cSi (As := [.long x24]) (rest := [.int (60 : Int32)]) (μ' := μ25) (r := (J13_bitCount_95d88 x24)) ⟨hx, hb, hml, hown, hts⟩ (mJ13_bitCount_95d88 l D cA base H.size μ25 x24 rfl) (va_cwS 1 hts gX1_closedInBlock_J13_bitCount_95d88 rfl rfl rfl (by decide +kernel) ⟨Nat.le_of_ble_eq_true rfl, Nat.le_of_ble_eq_true rfl⟩) hK hN hP hS hz rfl hl.1 (Nat.le_of_ble_eq_true rfl) dX1_closedInBlock_109 ⟨Nat.le_of_ble_eq_true rfl, Nat.le_of_ble_eq_true rfl⟩ rfl (fun H locs hP hS => ?_)
  refine lv_isub hx hb dX1_closedInBlock_112 ?_
  cases hm
  exact W.iret hx hb hr (fun t ht hW => ⟨⟨_, (), rfl, rfl, tPost_of hP ht⟩, hS.F ht⟩) hS.2.2 dX1_closedInBlock_113
abbrev rmX1_mostInCommon : Room := { frames := 3, cells := 0, slots := 0, locals := 72 }
set_option maxHeartbeats 4000000 in
set_option maxRecDepth 100000 in
theorem lX1_mostInCommon_L2 {p : Program} {l : Launch} {e : Env} {s : State} {m : MethodId} {args : Array Value} {below : List Frame} {meth : Method} {c : Code} {Q : State → Prop} {D : va_G} {cA : Nat → ClassId} {base sz0 : Nat} {H0 : Heap} (FX : CallFix p m c cX1_mostInCommon 5 s args wsX1_mostInCommon RX1) (hK : va_K D vwCl (tys cA) s) (hN : tN s) (hz : sz0 ≤ H0.size) {o0 : Nat} (ho0 : kc o0 = 1) {o1 : Nat} (ho1 : kc o1 = 4) {o2 : Nat} (ho2 : kc o2 = 4) {cells slots : Nat} (hcs : cells ≤ 0 ∧ slots ≤ 0) :
    ∀ (n : Nat) (v3 : Int32) (μ : MM) (H : Heap) (locs : List Loc) (ls : Array Slot) (μ' : MM), X1_mostInCommon_L2 o0 o1 o2 n v3 μ = some μ' → va_P D vwCl (tw base cA μ []) H → va_S (tA base sz0) H0 H locs → lv_has ls 5 [(0, .ref (base + o0)), (1, .ref (base + o1)), (2, .ref (base + o2)), (3, .int v3)] → (∀ (H : Heap) (locs : List Loc) (ls : Array Slot), va_P D vwCl (tw base cA μ' []) H → va_S (tA base sz0) H0 H locs → lv_has ls 5 [(0, .ref (base + o0)), (1, .ref (base + o1)), (2, .ref (base + o2))] → W p l e rmX1_mostInCommon s m args below meth c H locs cells slots Q (F0 m 22 ls [])) → W p l e rmX1_mostInCommon s m args below meth c H locs cells slots Q (F0 m 2 ls []) := by
  obtain ⟨hx, hb, hml, hown, hts⟩ := FX
  have hin1 : ∀ w ∈ wsX10, w ∈ wsX1_mostInCommon := by decide +kernel
  intro n
  induction n with
  | zero =>
    intro v3 μ H locs ls μ' hm
    cases hm
  | succ n ih =>
    intro v3 μ H locs ls μ' hm hP hS hl K
    rw [X1_mostInCommon_L2_s] at hm
    refine lv_iload_n hx hb dX1_mostInCommon_2 rfl (lv_at hl 3 rfl) ?_
    refine lv_sipush (v := (400 : Int32)) hx hb dX1_mostInCommon_3 (by decide) ?_
    refine lv_icmp_ge (tgt := 22) hx hb dX1_mostInCommon_6 (by decide) (fun c1 => ?_) (fun c1 => ?_)
    · rw [if_pos c1] at hm
      cases hm
      exact K _ _ _ hP hS (lv_sub hl [0, 1, 2] rfl)
    · rw [if_neg c1] at hm
      refine lv_aload_n hx hb dX1_mostInCommon_9 rfl (lv_at hl 0 rfl) ?_
      refine t_getr (C := RX1) (T := TX1) (N := 2) hx hb hts hin1 hown hK hP ho0 rfl rfl 1 (by decide) (fr1_1 ho0) (hts _ (List.mem_of_getElem? (i := 1) rfl)) dX1_mostInCommon_10 ?_
      refine lv_iload_n hx hb dX1_mostInCommon_13 rfl (lv_at hl 3 rfl) ?_
      refine lv_lconst (v := (0 : Int64)) hx hb dX1_mostInCommon_14 (by decide) ?_
      obtain ⟨hg2, hm⟩ := gd_inv hm
      refine t_last hx hb hK hP (tD _ _ _ _) hS (kr1_1 ho0) hg2 dX1_mostInCommon_15 (fun H locs hP hS => ?_)
      obtain ⟨μ3, eμ3⟩ : ∃ z : MM, z = wL μ (RF o0 1) v3.toNatClampNeg (0 : Int64) := ⟨_, rfl⟩
      rw [← eμ3] at hP
      replace hm := bV_of hm eμ3
      obtain ⟨x4, ex4⟩ : ∃ z : Int32, z = v3 + (1 : Int32) := ⟨_, rfl⟩
      replace hm := bV_of hm ex4
      refine lv_iinc (v := x4) (lv' := [(3, .int x4), (0, .ref (base + o0)), (1, .ref (base + o1)), (2, .ref (base + o2))]) hx hb dX1_mostInCommon_16 hl (k := 3) rfl (by rw [ex4]; rfl) (by decide) rfl (fun ls hl => ?_)
      refine lv_goto (tgt := 2) hx hb dX1_mostInCommon_19 (by decide) ?_
      exact ih x4 μ3 _ _ _ μ' hm hP hS (lv_sub hl [1, 2, 3, 0] rfl) K
set_option maxHeartbeats 4000000 in
set_option maxRecDepth 100000 in
theorem lX1_mostInCommon_L27 {p : Program} {l : Launch} {e : Env} {s : State} {m : MethodId} {args : Array Value} {below : List Frame} {meth : Method} {c : Code} {Q : State → Prop} {D : va_G} {cA : Nat → ClassId} {base sz0 : Nat} {H0 : Heap} (FX : CallFix p m c cX1_mostInCommon 5 s args wsX1_mostInCommon RX1) (hK : va_K D vwCl (tys cA) s) (hN : tN s) (hz : sz0 ≤ H0.size) {o0 : Nat} (ho0 : kc o0 = 1) {o1 : Nat} (ho1 : kc o1 = 4) {o2 : Nat} (ho2 : kc o2 = 4) {cells slots : Nat} (hcs : cells ≤ 0 ∧ slots ≤ 0) :
    ∀ (n : Nat) (v3 : Int32) (v4 : Int32) (μ : MM) (H : Heap) (locs : List Loc) (ls : Array Slot) (w3 : Int32) (μ' : MM), X1_mostInCommon_L27 o0 o1 o2 n v3 v4 μ = some (w3, μ') → va_P D vwCl (tw base cA μ []) H → va_S (tA base sz0) H0 H locs → lv_has ls 5 [(0, .ref (base + o0)), (1, .ref (base + o1)), (2, .ref (base + o2)), (3, .int v3), (4, .int v4)] → (∀ (H : Heap) (locs : List Loc) (ls : Array Slot), va_P D vwCl (tw base cA μ' []) H → va_S (tA base sz0) H0 H locs → lv_has ls 5 [(3, .int w3)] → W p l e rmX1_mostInCommon s m args below meth c H locs cells slots Q (F0 m 57 ls [])) → W p l e rmX1_mostInCommon s m args below meth c H locs cells slots Q (F0 m 27 ls []) := by
  obtain ⟨hx, hb, hml, hown, hts⟩ := FX
  have hin4 : ∀ w ∈ wsX40, w ∈ wsX1_mostInCommon := by decide +kernel
  intro n
  induction n with
  | zero =>
    intro v3 v4 μ H locs ls w3 μ' hm
    cases hm
  | succ n ih =>
    intro v3 v4 μ H locs ls w3 μ' hm hP hS hl K
    rw [X1_mostInCommon_L27_s] at hm
    refine lv_iload hx hb dX1_mostInCommon_27 (lv_at hl 4 rfl) ?_
    refine lv_aload_n hx hb dX1_mostInCommon_29 rfl (lv_at hl 1 rfl) ?_
    refine t_geti (C := RX4) (T := TX4) (N := 3) hx hb hts hin4 hown hK hP ho1 rfl rfl 2 (by decide) (fk4_2 ho1) (hts _ (List.mem_of_getElem? (i := 2) rfl)) dX1_mostInCommon_30 ?_
    refine lv_icmp_ge (tgt := 57) hx hb dX1_mostInCommon_33 (by decide) (fun c7 => ?_) (fun c7 => ?_)
    · rw [if_pos c7] at hm
      cases hm
      exact K _ _ _ hP hS (lv_sub hl [3] rfl)
    · rw [if_neg c7] at hm
      refine lv_aload_n hx hb dX1_mostInCommon_36 rfl (lv_at hl 0 rfl) ?_
      refine lv_aload_n hx hb dX1_mostInCommon_37 rfl (lv_at hl 1 rfl) ?_
      refine lv_iload hx hb dX1_mostInCommon_38 (lv_at hl 4 rfl) ?_
      obtain ⟨μ8, hc9, hm⟩ := bO1_inv hm
      refine t_cVv (As := [.ref (base + o1), .int v4]) (rest := []) (μ' := μ8) ⟨hx, hb, hml, hown, hts⟩ (mX1_markPlaces l D cA base H.size μ ho0 ho1 v4 hc9) (cwV 2 hts gX1_mostInCommon_X1_markPlaces rfl rfl rfl (by decide +kernel) ⟨Nat.le_of_ble_eq_true rfl, Nat.le_of_ble_eq_true rfl⟩) (va_recv hK hP (q0 := o0) rfl (tw_obj ho0 (by decide))) hK hN hP hS hz rfl hl.1 (Nat.le_of_ble_eq_true rfl) dX1_mostInCommon_40 hcs rfl (fun H locs hP hS => ?_)
      refine lv_iload_n hx hb dX1_mostInCommon_43 rfl (lv_at hl 3 rfl) ?_
      refine lv_aload_n hx hb dX1_mostInCommon_44 rfl (lv_at hl 0 rfl) ?_
      refine lv_aload_n hx hb dX1_mostInCommon_45 rfl (lv_at hl 2 rfl) ?_
      obtain ⟨r10, μ11, hc12, hm⟩ := bO2_inv hm
      refine t_cVi (As := [.ref (base + o2)]) (rest := [.int v3]) (μ' := μ11) (r := r10) ⟨hx, hb, hml, hown, hts⟩ (mX1_closedInBlock l D cA base H.size μ8 ho0 ho2 hc12) (cwV 1 hts gX1_mostInCommon_X1_closedInBlock rfl rfl rfl (by decide +kernel) ⟨Nat.le_of_ble_eq_true rfl, Nat.le_of_ble_eq_true rfl⟩) (va_recv hK hP (q0 := o0) rfl (tw_obj ho0 (by decide))) hK hN hP hS hz rfl hl.1 (Nat.le_of_ble_eq_true rfl) dX1_mostInCommon_46 hcs rfl (fun H locs hP hS => ?_)
      refine lv_iadd hx hb dX1_mostInCommon_49 ?_
      refine lv_topi (fun x13 ex13 => ?_)
      replace hm := bV_of hm ex13
      refine lv_istore_n (lv' := [(3, .int x13), (0, .ref (base + o0)), (1, .ref (base + o1)), (2, .ref (base + o2)), (4, .int v4)]) hx hb dX1_mostInCommon_50 rfl hl (by decide) rfl (fun ls hl => ?_)
      obtain ⟨x14, ex14⟩ : ∃ z : Int32, z = v4 + (60 : Int32) := ⟨_, rfl⟩
      replace hm := bV_of hm ex14
      refine lv_iinc (v := x14) (lv' := [(4, .int x14), (3, .int x13), (0, .ref (base + o0)), (1, .ref (base + o1)), (2, .ref (base + o2))]) hx hb dX1_mostInCommon_51 hl (k := 4) rfl (by rw [ex14]; rfl) (by decide) rfl (fun ls hl => ?_)
      refine lv_goto (tgt := 27) hx hb dX1_mostInCommon_54 (by decide) ?_
      exact ih x13 x14 μ11 _ _ _ w3 μ' hm hP hS (lv_sub hl [2, 3, 4, 1, 0] rfl) K
set_option maxHeartbeats 4000000 in
set_option maxRecDepth 100000 in
theorem mX1_mostInCommon (l : Launch) (D : va_G) (cA : Nat → ClassId) (base sz : Nat) (μ : MM) {q : Nat} (hq : kc q = 1) {a1 : Nat} (ha1 : kc a1 = 4) {a2 : Nat} (ha2 : kc a2 = 4) {r : Int32} {μ' : MM} (hm : X1_mostInCommon q a1 a2 μ = some (r, μ')) : Met l yX1_mostInCommon wsX1_mostInCommon rmX1_mostInCommon (va_Pc [.ref (base + q), .ref (base + a1), .ref (base + a2)] (tPre D cA base sz μ)) (va_Qi (fun (x : Int32) (_ : Unit) => x = r) (fun _ => tPost D cA base μ') (tA base sz)) 0 0 (tA base sz) := by
  refine Met.ofW (cc := cX1_mostInCommon) (maxL := 5) (ret := (some .int)) (by decide +kernel) rfl ?_
  intro p e s m args below meth c s₁ B hml hv
  obtain ⟨rfl, hsz, hP, hK, hN⟩ := hv
  have hx := B.exec
  have hb := B.bytes
  have hr := B.returns
  have hts := atoms_spec (ws := wsX1_mostInCommon) B.pre
  have hown : s.vm.findClass RX1 = some m.cls := findClass_of_methodNamed B.named
  have hlocks := B.notSynchronized
  subst hsz
  have hS : va_S (tA base s.heap.size) s.heap s.heap [] := va_S.rf
  have hz : s.heap.size ≤ s.heap.size := Nat.le_refl _
  have hl := lv_entry ([.ref (base + q), .ref (base + a1), .ref (base + a2)]) (n := 5) (Nat.le_of_ble_eq_true rfl)
  rw [lg_entry_eq]
  generalize (lg_sl ([.ref (base + q), .ref (base + a1), .ref (base + a2)]) ++ List.replicate (5 - (lg_sl ([.ref (base + q), .ref (base + a1), .ref (base + a2)])).length) Slot.unset).toArray = ls at hl ⊢
  have hl : lv_has ls 5 [(0, .ref (base + q)), (1, .ref (base + a1)), (2, .ref (base + a2))] := hl
  unfold X1_mostInCommon at hm
  refine lv_iconst (v := (0 : Int32)) hx hb dX1_mostInCommon_0 (by decide) ?_
  refine lv_istore_n (lv' := [(3, .int (0 : Int32)), (0, .ref (base + q)), (1, .ref (base + a1)), (2, .ref (base + a2))]) hx hb dX1_mostInCommon_1 rfl hl (by decide) rfl (fun ls hl => ?_)
  obtain ⟨μ5, hc6, hm⟩ := bO1_inv hm
  refine lX1_mostInCommon_L2 ⟨hx, hb, hml, hown, hts⟩ hK hN hz hq ha1 ha2 ⟨Nat.le_of_ble_eq_true rfl, Nat.le_of_ble_eq_true rfl⟩ 1000 (0 : Int32) μ _ _ _ μ5 hc6 hP hS (lv_sub hl [1, 2, 3, 0] rfl) ?_
  intro H locs ls hP hS hl
  refine lv_iconst (v := (0 : Int32)) hx hb dX1_mostInCommon_22 (by decide) ?_
  refine lv_istore_n (lv' := [(3, .int (0 : Int32)), (0, .ref (base + q)), (1, .ref (base + a1)), (2, .ref (base + a2))]) hx hb dX1_mostInCommon_23 rfl hl (by decide) rfl (fun ls hl => ?_)
  refine lv_iconst (v := (0 : Int32)) hx hb dX1_mostInCommon_24 (by decide) ?_
  refine lv_istore (lv' := [(4, .int (0 : Int32)), (3, .int (0 : Int32)), (0, .ref (base + q)), (1, .ref (base + a1)), (2, .ref (base + a2))]) hx hb dX1_mostInCommon_25 hl (by decide) rfl (fun ls hl => ?_)
  obtain ⟨x15, μ16, hc17, hm⟩ := bO2_inv hm
  refine lX1_mostInCommon_L27 ⟨hx, hb, hml, hown, hts⟩ hK hN hz hq ha1 ha2 ⟨Nat.le_of_ble_eq_true rfl, Nat.le_of_ble_eq_true rfl⟩ 1000 (0 : Int32) (0 : Int32) μ5 _ _ _ x15 μ16 hc17 hP hS (lv_sub hl [2, 3, 4, 1, 0] rfl) ?_
  intro H locs ls hP hS hl
  refine lv_iload_n hx hb dX1_mostInCommon_57 rfl (lv_at hl 0 rfl) ?_
  cases hm
  exact W.iret hx hb hr (fun t ht hW => ⟨⟨_, (), rfl, rfl, tPost_of hP ht⟩, hS.F ht⟩) hS.2.2 dX1_mostInCommon_58
abbrev rmX2_speaks : Room := { frames := 0, cells := 0, slots := 0, locals := 0 }
set_option maxHeartbeats 4000000 in
set_option maxRecDepth 100000 in
theorem mX2_speaks (l : Launch) (D : va_G) (cA : Nat → ClassId) (base sz : Nat) (μ : MM) {q : Nat} (hq : kc q = 2) (a1 : Int32) {r : Int32} (hm : X2_speaks q a1 μ = r) : Met l yX2_speaks wsX2_speaks rmX2_speaks (va_Pc [.ref (base + q), .int a1] (tPre D cA base sz μ)) (va_Qi (fun (x : Int32) (_ : Unit) => x = r) (fun _ => tPost D cA base μ) (tA base sz)) 0 0 (tA base sz) := by
  refine Met.ofW (cc := cX2_speaks) (maxL := 2) (ret := (some .boolean)) (by decide +kernel) rfl ?_
  intro p e s m args below meth c s₁ B hml hv
  obtain ⟨rfl, hsz, hP, hK, hN⟩ := hv
  have hx := B.exec
  have hb := B.bytes
  have hr := B.returns
  have hts := atoms_spec (ws := wsX2_speaks) B.pre
  have hown : s.vm.findClass RX2 = some m.cls := findClass_of_methodNamed B.named
  have hlocks := B.notSynchronized
  have hin2 : ∀ w ∈ wsX20, w ∈ wsX2_speaks := by decide +kernel
  subst hsz
  have hS : va_S (tA base s.heap.size) s.heap s.heap [] := va_S.rf
  have hz : s.heap.size ≤ s.heap.size := Nat.le_refl _
  have hl := lv_entry ([.ref (base + q), .int a1]) (n := 2) (Nat.le_of_ble_eq_true rfl)
  rw [lg_entry_eq]
  generalize (lg_sl ([.ref (base + q), .int a1]) ++ List.replicate (2 - (lg_sl ([.ref (base + q), .int a1])).length) Slot.unset).toArray = ls at hl ⊢
  have hl : lv_has ls 2 [(0, .ref (base + q)), (1, .int a1)] := hl
  unfold X2_speaks at hm
  refine lv_aload_n hx hb dX2_speaks_0 rfl (lv_at hl 0 rfl) ?_
  refine t_geti (C := RX2) (T := TX2) (N := 7) hx hb hts hin2 hown hK hP hq rfl rfl 0 (by decide) (fk2_0 hq) (hts _ (List.mem_of_getElem? (i := 1) rfl)) dX2_speaks_1 ?_
  refine lv_iload_n hx hb dX2_speaks_4 rfl (lv_at hl 1 rfl) ?_
  refine lv_ishr hx hb dX2_speaks_5 ?_
  refine lv_iconst (v := (1 : Int32)) hx hb dX2_speaks_6 (by decide) ?_
  refine lv_iand hx hb dX2_speaks_7 ?_
  refine lv_iconst (v := (1 : Int32)) hx hb dX2_speaks_8 (by decide) ?_
  refine lv_icmp_ne (tgt := 16) hx hb dX2_speaks_9 (by decide) (fun c1 => ?_) (fun c1 => ?_)
  · rw [if_neg c1] at hm
    refine lv_iconst (v := (0 : Int32)) hx hb dX2_speaks_16 (by decide) ?_
    cases hm
    exact W.zret hx hb hr rfl (fun t ht hW => ⟨⟨_, (), rfl, rfl, tPost_of hP ht⟩, hS.F ht⟩) hS.2.2 dX2_speaks_17
  · rw [if_pos c1] at hm
    refine lv_iconst (v := (1 : Int32)) hx hb dX2_speaks_12 (by decide) ?_
    refine lv_goto (tgt := 17) hx hb dX2_speaks_13 (by decide) ?_
    cases hm
    exact W.zret hx hb hr rfl (fun t ht hW => ⟨⟨_, (), rfl, rfl, tPost_of hP ht⟩, hS.F ht⟩) hS.2.2 dX2_speaks_17
abbrev rmX2_isLostFor : Room := { frames := 0, cells := 0, slots := 0, locals := 0 }
set_option maxHeartbeats 4000000 in
set_option maxRecDepth 100000 in
theorem mX2_isLostFor (l : Launch) (D : va_G) (cA : Nat → ClassId) (base sz : Nat) (μ : MM) {q : Nat} (hq : kc q = 2) (a1 : Int32) {r : Int32} (hm : X2_isLostFor q a1 μ = r) : Met l yX2_isLostFor wsX2_isLostFor rmX2_isLostFor (va_Pc [.ref (base + q), .int a1] (tPre D cA base sz μ)) (va_Qi (fun (x : Int32) (_ : Unit) => x = r) (fun _ => tPost D cA base μ) (tA base sz)) 0 0 (tA base sz) := by
  refine Met.ofW (cc := cX2_isLostFor) (maxL := 2) (ret := (some .boolean)) (by decide +kernel) rfl ?_
  intro p e s m args below meth c s₁ B hml hv
  obtain ⟨rfl, hsz, hP, hK, hN⟩ := hv
  have hx := B.exec
  have hb := B.bytes
  have hr := B.returns
  have hts := atoms_spec (ws := wsX2_isLostFor) B.pre
  have hown : s.vm.findClass RX2 = some m.cls := findClass_of_methodNamed B.named
  have hlocks := B.notSynchronized
  have hin2 : ∀ w ∈ wsX20, w ∈ wsX2_isLostFor := by decide +kernel
  subst hsz
  have hS : va_S (tA base s.heap.size) s.heap s.heap [] := va_S.rf
  have hz : s.heap.size ≤ s.heap.size := Nat.le_refl _
  have hl := lv_entry ([.ref (base + q), .int a1]) (n := 2) (Nat.le_of_ble_eq_true rfl)
  rw [lg_entry_eq]
  generalize (lg_sl ([.ref (base + q), .int a1]) ++ List.replicate (2 - (lg_sl ([.ref (base + q), .int a1])).length) Slot.unset).toArray = ls at hl ⊢
  have hl : lv_has ls 2 [(0, .ref (base + q)), (1, .int a1)] := hl
  unfold X2_isLostFor at hm
  refine lv_iload_n hx hb dX2_isLostFor_0 rfl (lv_at hl 1 rfl) ?_
  refine lv_bipush (v := (80 : Int32)) hx hb dX2_isLostFor_1 (by decide) ?_
  refine lv_icmp_lt (tgt := 24) hx hb dX2_isLostFor_3 (by decide) (fun c1 => ?_) (fun c1 => ?_)
  · rw [if_pos c1] at hm
    refine lv_iconst (v := (0 : Int32)) hx hb dX2_isLostFor_24 (by decide) ?_
    cases hm
    exact W.zret hx hb hr rfl (fun t ht hW => ⟨⟨_, (), rfl, rfl, tPost_of hP ht⟩, hS.F ht⟩) hS.2.2 dX2_isLostFor_25
  · rw [if_neg c1] at hm
    refine lv_aload_n hx hb dX2_isLostFor_6 rfl (lv_at hl 0 rfl) ?_
    refine t_geti (C := RX2) (T := TX2) (N := 7) hx hb hts hin2 hown hK hP hq rfl rfl 1 (by decide) (fk2_1 hq) (hts _ (List.mem_of_getElem? (i := 1) rfl)) dX2_isLostFor_7 ?_
    refine lv_iload_n hx hb dX2_isLostFor_10 rfl (lv_at hl 1 rfl) ?_
    refine lv_bipush (v := (80 : Int32)) hx hb dX2_isLostFor_11 (by decide) ?_
    refine lv_isub hx hb dX2_isLostFor_13 ?_
    refine lv_ishr hx hb dX2_isLostFor_14 ?_
    refine lv_iconst (v := (1 : Int32)) hx hb dX2_isLostFor_15 (by decide) ?_
    refine lv_iand hx hb dX2_isLostFor_16 ?_
    refine lv_if_ne (tgt := 24) hx hb dX2_isLostFor_17 (by decide) (fun c2 => ?_) (fun c2 => ?_)
    · rw [if_neg c2] at hm
      refine lv_iconst (v := (0 : Int32)) hx hb dX2_isLostFor_24 (by decide) ?_
      cases hm
      exact W.zret hx hb hr rfl (fun t ht hW => ⟨⟨_, (), rfl, rfl, tPost_of hP ht⟩, hS.F ht⟩) hS.2.2 dX2_isLostFor_25
    · rw [if_pos c2] at hm
      refine lv_iconst (v := (1 : Int32)) hx hb dX2_isLostFor_20 (by decide) ?_
      refine lv_goto (tgt := 25) hx hb dX2_isLostFor_21 (by decide) ?_
      cases hm
      exact W.zret hx hb hr rfl (fun t ht hW => ⟨⟨_, (), rfl, rfl, tPost_of hP ht⟩, hS.F ht⟩) hS.2.2 dX2_isLostFor_25
abbrev rmX2_utter : Room := { frames := 0, cells := 0, slots := 0, locals := 0 }
set_option maxHeartbeats 4000000 in
set_option maxRecDepth 100000 in
theorem mX2_utter (l : Launch) (D : va_G) (cA : Nat → ClassId) (base sz : Nat) (μ : MM) {q : Nat} (hq : kc q = 2) (a1 : Int32) {r : Int32} {μ' : MM} (hm : X2_utter q a1 μ = (r, μ')) : Met l yX2_utter wsX2_utter rmX2_utter (va_Pc [.ref (base + q), .int a1] (tPre D cA base sz μ)) (va_Qi (fun (x : Int32) (_ : Unit) => x = r) (fun _ => tPost D cA base μ') (tA base sz)) 0 0 (tA base sz) := by
  refine Met.ofW (cc := cX2_utter) (maxL := 3) (ret := (some .int)) (by decide +kernel) rfl ?_
  intro p e s m args below meth c s₁ B hml hv
  obtain ⟨rfl, hsz, hP, hK, hN⟩ := hv
  have hx := B.exec
  have hb := B.bytes
  have hr := B.returns
  have hts := atoms_spec (ws := wsX2_utter) B.pre
  have hown : s.vm.findClass RX2 = some m.cls := findClass_of_methodNamed B.named
  have hlocks := B.notSynchronized
  have hin2 : ∀ w ∈ wsX20, w ∈ wsX2_utter := by decide +kernel
  subst hsz
  have hS : va_S (tA base s.heap.size) s.heap s.heap [] := va_S.rf
  have hz : s.heap.size ≤ s.heap.size := Nat.le_refl _
  have hl := lv_entry ([.ref (base + q), .int a1]) (n := 3) (Nat.le_of_ble_eq_true rfl)
  rw [lg_entry_eq]
  generalize (lg_sl ([.ref (base + q), .int a1]) ++ List.replicate (3 - (lg_sl ([.ref (base + q), .int a1])).length) Slot.unset).toArray = ls at hl ⊢
  have hl : lv_has ls 3 [(0, .ref (base + q)), (1, .int a1)] := hl
  unfold X2_utter at hm
  refine lv_iload_n hx hb dX2_utter_0 rfl (lv_at hl 1 rfl) ?_
  refine lv_istore_n (lv' := [(2, .int a1), (0, .ref (base + q)), (1, .int a1)]) hx hb dX2_utter_1 rfl hl (by decide) rfl (fun ls hl => ?_)
  refine lv_aload_n hx hb dX2_utter_2 rfl (lv_at hl 1 rfl) ?_
  refine t_geti (C := RX2) (T := TX2) (N := 7) hx hb hts hin2 hown hK hP hq rfl rfl 3 (by decide) (fk2_3 hq) (hts _ (List.mem_of_getElem? (i := 1) rfl)) dX2_utter_3 ?_
  refine lv_bipush (v := (20 : Int32)) hx hb dX2_utter_6 (by decide) ?_
  refine lv_icmp_lt (tgt := 50) hx hb dX2_utter_8 (by decide) (fun c1 => ?_) (fun c1 => ?_)
  · rw [if_pos c1] at hm
    refine lv_aload_n hx hb dX2_utter_50 rfl (lv_at hl 1 rfl) ?_
    refine lv_dup hx hb dX2_utter_51 rfl ?_
    refine t_geti (C := RX2) (T := TX2) (N := 7) hx hb hts hin2 hown hK hP hq rfl rfl 4 (by decide) (fk2_4 hq) (hts _ (List.mem_of_getElem? (i := 2) rfl)) dX2_utter_52 ?_
    refine lv_iconst (v := (1 : Int32)) hx hb dX2_utter_55 (by decide) ?_
    refine lv_iadd hx hb dX2_utter_56 ?_
    refine t_put (C := RX2) (T := TX2) (N := 7) hx hb hts hin2 tyX2 tyX2_ok nmX2 hown hK hP (tD _ _ _ _) hS hq rfl rfl 4 (by decide) (fk2_4 hq) (hts _ (List.mem_of_getElem? (i := 2) rfl)) rfl (by decide +kernel) dX2_utter_57 (fun H locs hP hS => ?_)
    obtain ⟨μ2, eμ2⟩ : ∃ z : MM, z = wI μ q 4 ((rI μ q 4) + (1 : Int32)) := ⟨_, rfl⟩
    rw [← eμ2] at hP
    replace hm := bV_of hm eμ2
    refine lv_aload_n hx hb dX2_utter_60 rfl (lv_at hl 1 rfl) ?_
    refine lv_dup hx hb dX2_utter_61 rfl ?_
    refine t_geti (C := RX2) (T := TX2) (N := 7) hx hb hts hin2 hown hK hP hq rfl rfl 3 (by decide) (fk2_3 hq) (hts _ (List.mem_of_getElem? (i := 1) rfl)) dX2_utter_62 ?_
    refine lv_iconst (v := (1 : Int32)) hx hb dX2_utter_65 (by decide) ?_
    refine lv_iadd hx hb dX2_utter_66 ?_
    refine t_put (C := RX2) (T := TX2) (N := 7) hx hb hts hin2 tyX2 tyX2_ok nmX2 hown hK hP (tD _ _ _ _) hS hq rfl rfl 3 (by decide) (fk2_3 hq) (hts _ (List.mem_of_getElem? (i := 1) rfl)) rfl (by decide +kernel) dX2_utter_67 (fun H locs hP hS => ?_)
    obtain ⟨μ3, eμ3⟩ : ∃ z : MM, z = wI μ2 q 3 ((rI μ2 q 3) + (1 : Int32)) := ⟨_, rfl⟩
    rw [← eμ3] at hP
    replace hm := bV_of hm eμ3
    refine lv_iload_n hx hb dX2_utter_70 rfl (lv_at hl 0 rfl) ?_
    cases hm
    exact W.iret hx hb hr (fun t ht hW => ⟨⟨_, (), rfl, rfl, tPost_of hP ht⟩, hS.F ht⟩) hS.2.2 dX2_utter_71
  · rw [if_neg c1] at hm
    refine lv_aload_n hx hb dX2_utter_11 rfl (lv_at hl 1 rfl) ?_
    refine t_geti (C := RX2) (T := TX2) (N := 7) hx hb hts hin2 hown hK hP hq rfl rfl 4 (by decide) (fk2_4 hq) (hts _ (List.mem_of_getElem? (i := 2) rfl)) dX2_utter_12 ?_
    refine lv_iconst (v := (3 : Int32)) hx hb dX2_utter_15 (by decide) ?_
    refine lv_irem hx hb dX2_utter_16 (by decide) ?_
    refine lv_if_ne (tgt := 50) hx hb dX2_utter_17 (by decide) (fun c4 => ?_) (fun c4 => ?_)
    · rw [if_neg c4] at hm
      refine lv_aload_n hx hb dX2_utter_50 rfl (lv_at hl 1 rfl) ?_
      refine lv_dup hx hb dX2_utter_51 rfl ?_
      refine t_geti (C := RX2) (T := TX2) (N := 7) hx hb hts hin2 hown hK hP hq rfl rfl 4 (by decide) (fk2_4 hq) (hts _ (List.mem_of_getElem? (i := 2) rfl)) dX2_utter_52 ?_
      refine lv_iconst (v := (1 : Int32)) hx hb dX2_utter_55 (by decide) ?_
      refine lv_iadd hx hb dX2_utter_56 ?_
      refine t_put (C := RX2) (T := TX2) (N := 7) hx hb hts hin2 tyX2 tyX2_ok nmX2 hown hK hP (tD _ _ _ _) hS hq rfl rfl 4 (by decide) (fk2_4 hq) (hts _ (List.mem_of_getElem? (i := 2) rfl)) rfl (by decide +kernel) dX2_utter_57 (fun H locs hP hS => ?_)
      obtain ⟨μ5, eμ5⟩ : ∃ z : MM, z = wI μ q 4 ((rI μ q 4) + (1 : Int32)) := ⟨_, rfl⟩
      rw [← eμ5] at hP
      replace hm := bV_of hm eμ5
      refine lv_aload_n hx hb dX2_utter_60 rfl (lv_at hl 1 rfl) ?_
      refine lv_dup hx hb dX2_utter_61 rfl ?_
      refine t_geti (C := RX2) (T := TX2) (N := 7) hx hb hts hin2 hown hK hP hq rfl rfl 3 (by decide) (fk2_3 hq) (hts _ (List.mem_of_getElem? (i := 1) rfl)) dX2_utter_62 ?_
      refine lv_iconst (v := (1 : Int32)) hx hb dX2_utter_65 (by decide) ?_
      refine lv_iadd hx hb dX2_utter_66 ?_
      refine t_put (C := RX2) (T := TX2) (N := 7) hx hb hts hin2 tyX2 tyX2_ok nmX2 hown hK hP (tD _ _ _ _) hS hq rfl rfl 3 (by decide) (fk2_3 hq) (hts _ (List.mem_of_getElem? (i := 1) rfl)) rfl (by decide +kernel) dX2_utter_67 (fun H locs hP hS => ?_)
      obtain ⟨μ6, eμ6⟩ : ∃ z : MM, z = wI μ5 q 3 ((rI μ5 q 3) + (1 : Int32)) := ⟨_, rfl⟩
      rw [← eμ6] at hP
      replace hm := bV_of hm eμ6
      refine lv_iload_n hx hb dX2_utter_70 rfl (lv_at hl 0 rfl) ?_
      cases hm
      exact W.iret hx hb hr (fun t ht hW => ⟨⟨_, (), rfl, rfl, tPost_of hP ht⟩, hS.F ht⟩) hS.2.2 dX2_utter_71
    · rw [if_pos c4] at hm
      refine lv_iload_n hx hb dX2_utter_20 rfl (lv_at hl 2 rfl) ?_
      refine lv_bipush (v := (80 : Int32)) hx hb dX2_utter_21 (by decide) ?_
      refine lv_icmp_ge (tgt := 50) hx hb dX2_utter_23 (by decide) (fun c7 => ?_) (fun c7 => ?_)
      · rw [if_pos c7] at hm
        refine lv_aload_n hx hb dX2_utter_50 rfl (lv_at hl 1 rfl) ?_
        refine lv_dup hx hb dX2_utter_51 rfl ?_
        refine t_geti (C := RX2) (T := TX2) (N := 7) hx hb hts hin2 hown hK hP hq rfl rfl 4 (by decide) (fk2_4 hq) (hts _ (List.mem_of_getElem? (i := 2) rfl)) dX2_utter_52 ?_
        refine lv_iconst (v := (1 : Int32)) hx hb dX2_utter_55 (by decide) ?_
        refine lv_iadd hx hb dX2_utter_56 ?_
        refine t_put (C := RX2) (T := TX2) (N := 7) hx hb hts hin2 tyX2 tyX2_ok nmX2 hown hK hP (tD _ _ _ _) hS hq rfl rfl 4 (by decide) (fk2_4 hq) (hts _ (List.mem_of_getElem? (i := 2) rfl)) rfl (by decide +kernel) dX2_utter_57 (fun H locs hP hS => ?_)
        obtain ⟨μ8, eμ8⟩ : ∃ z : MM, z = wI μ q 4 ((rI μ q 4) + (1 : Int32)) := ⟨_, rfl⟩
        rw [← eμ8] at hP
        replace hm := bV_of hm eμ8
        refine lv_aload_n hx hb dX2_utter_60 rfl (lv_at hl 1 rfl) ?_
        refine lv_dup hx hb dX2_utter_61 rfl ?_
        refine t_geti (C := RX2) (T := TX2) (N := 7) hx hb hts hin2 hown hK hP hq rfl rfl 3 (by decide) (fk2_3 hq) (hts _ (List.mem_of_getElem? (i := 1) rfl)) dX2_utter_62 ?_
        refine lv_iconst (v := (1 : Int32)) hx hb dX2_utter_65 (by decide) ?_
        refine lv_iadd hx hb dX2_utter_66 ?_
        refine t_put (C := RX2) (T := TX2) (N := 7) hx hb hts hin2 tyX2 tyX2_ok nmX2 hown hK hP (tD _ _ _ _) hS hq rfl rfl 3 (by decide) (fk2_3 hq) (hts _ (List.mem_of_getElem? (i := 1) rfl)) rfl (by decide +kernel) dX2_utter_67 (fun H locs hP hS => ?_)
        obtain ⟨μ9, eμ9⟩ : ∃ z : MM, z = wI μ8 q 3 ((rI μ8 q 3) + (1 : Int32)) := ⟨_, rfl⟩
        rw [← eμ9] at hP
        replace hm := bV_of hm eμ9
        refine lv_iload_n hx hb dX2_utter_70 rfl (lv_at hl 0 rfl) ?_
        cases hm
        exact W.iret hx hb hr (fun t ht hW => ⟨⟨_, (), rfl, rfl, tPost_of hP ht⟩, hS.F ht⟩) hS.2.2 dX2_utter_71
      · rw [if_neg c7] at hm
        refine lv_iload_n hx hb dX2_utter_26 rfl (lv_at hl 2 rfl) ?_
        refine lv_bipush (v := (79 : Int32)) hx hb dX2_utter_27 (by decide) ?_
        refine lv_icmp_ne (tgt := 36) hx hb dX2_utter_29 (by decide) (fun c10 => ?_) (fun c10 => ?_)
        · rw [if_neg c10] at hm
          refine lv_iload_n hx hb dX2_utter_36 rfl (lv_at hl 2 rfl) ?_
          refine lv_iconst (v := (1 : Int32)) hx hb dX2_utter_37 (by decide) ?_
          refine lv_iadd hx hb dX2_utter_38 ?_
          refine lv_topi (fun x11 ex11 => ?_)
          replace hm := bV_of hm ex11
          refine lv_istore_n (lv' := [(2, .int x11), (0, .ref (base + q)), (1, .int a1)]) hx hb dX2_utter_39 rfl hl (by decide) rfl (fun ls hl => ?_)
          refine lv_aload_n hx hb dX2_utter_40 rfl (lv_at hl 1 rfl) ?_
          refine lv_dup hx hb dX2_utter_41 rfl ?_
          refine t_geti (C := RX2) (T := TX2) (N := 7) hx hb hts hin2 hown hK hP hq rfl rfl 5 (by decide) (fk2_5 hq) (hts _ (List.mem_of_getElem? (i := 3) rfl)) dX2_utter_42 ?_
          refine lv_iconst (v := (1 : Int32)) hx hb dX2_utter_45 (by decide) ?_
          refine lv_iadd hx hb dX2_utter_46 ?_
          refine t_put (C := RX2) (T := TX2) (N := 7) hx hb hts hin2 tyX2 tyX2_ok nmX2 hown hK hP (tD _ _ _ _) hS hq rfl rfl 5 (by decide) (fk2_5 hq) (hts _ (List.mem_of_getElem? (i := 3) rfl)) rfl (by decide +kernel) dX2_utter_47 (fun H locs hP hS => ?_)
          obtain ⟨μ12, eμ12⟩ : ∃ z : MM, z = wI μ q 5 ((rI μ q 5) + (1 : Int32)) := ⟨_, rfl⟩
          rw [← eμ12] at hP
          replace hm := bV_of hm eμ12
          refine lv_aload_n hx hb dX2_utter_50 rfl (lv_at hl 1 rfl) ?_
          refine lv_dup hx hb dX2_utter_51 rfl ?_
          refine t_geti (C := RX2) (T := TX2) (N := 7) hx hb hts hin2 hown hK hP hq rfl rfl 4 (by decide) (fk2_4 hq) (hts _ (List.mem_of_getElem? (i := 2) rfl)) dX2_utter_52 ?_
          refine lv_iconst (v := (1 : Int32)) hx hb dX2_utter_55 (by decide) ?_
          refine lv_iadd hx hb dX2_utter_56 ?_
          refine t_put (C := RX2) (T := TX2) (N := 7) hx hb hts hin2 tyX2 tyX2_ok nmX2 hown hK hP (tD _ _ _ _) hS hq rfl rfl 4 (by decide) (fk2_4 hq) (hts _ (List.mem_of_getElem? (i := 2) rfl)) rfl (by decide +kernel) dX2_utter_57 (fun H locs hP hS => ?_)
          obtain ⟨μ13, eμ13⟩ : ∃ z : MM, z = wI μ12 q 4 ((rI μ12 q 4) + (1 : Int32)) := ⟨_, rfl⟩
          rw [← eμ13] at hP
          replace hm := bV_of hm eμ13
          refine lv_aload_n hx hb dX2_utter_60 rfl (lv_at hl 1 rfl) ?_
          refine lv_dup hx hb dX2_utter_61 rfl ?_
          refine t_geti (C := RX2) (T := TX2) (N := 7) hx hb hts hin2 hown hK hP hq rfl rfl 3 (by decide) (fk2_3 hq) (hts _ (List.mem_of_getElem? (i := 1) rfl)) dX2_utter_62 ?_
          refine lv_iconst (v := (1 : Int32)) hx hb dX2_utter_65 (by decide) ?_
          refine lv_iadd hx hb dX2_utter_66 ?_
          refine t_put (C := RX2) (T := TX2) (N := 7) hx hb hts hin2 tyX2 tyX2_ok nmX2 hown hK hP (tD _ _ _ _) hS hq rfl rfl 3 (by decide) (fk2_3 hq) (hts _ (List.mem_of_getElem? (i := 1) rfl)) rfl (by decide +kernel) dX2_utter_67 (fun H locs hP hS => ?_)
          obtain ⟨μ14, eμ14⟩ : ∃ z : MM, z = wI μ13 q 3 ((rI μ13 q 3) + (1 : Int32)) := ⟨_, rfl⟩
          rw [← eμ14] at hP
          replace hm := bV_of hm eμ14
          refine lv_iload_n hx hb dX2_utter_70 rfl (lv_at hl 0 rfl) ?_
          cases hm
          exact W.iret hx hb hr (fun t ht hW => ⟨⟨_, (), rfl, rfl, tPost_of hP ht⟩, hS.F ht⟩) hS.2.2 dX2_utter_71
        · rw [if_pos c10] at hm
          refine lv_iconst (v := (0 : Int32)) hx hb dX2_utter_32 (by decide) ?_
          refine lv_goto (tgt := 39) hx hb dX2_utter_33 (by decide) ?_
          refine lv_istore_n (lv' := [(2, .int (0 : Int32)), (0, .ref (base + q)), (1, .int a1)]) hx hb dX2_utter_39 rfl hl (by decide) rfl (fun ls hl => ?_)
          refine lv_aload_n hx hb dX2_utter_40 rfl (lv_at hl 1 rfl) ?_
          refine lv_dup hx hb dX2_utter_41 rfl ?_
          refine t_geti (C := RX2) (T := TX2) (N := 7) hx hb hts hin2 hown hK hP hq rfl rfl 5 (by decide) (fk2_5 hq) (hts _ (List.mem_of_getElem? (i := 3) rfl)) dX2_utter_42 ?_
          refine lv_iconst (v := (1 : Int32)) hx hb dX2_utter_45 (by decide) ?_
          refine lv_iadd hx hb dX2_utter_46 ?_
          refine t_put (C := RX2) (T := TX2) (N := 7) hx hb hts hin2 tyX2 tyX2_ok nmX2 hown hK hP (tD _ _ _ _) hS hq rfl rfl 5 (by decide) (fk2_5 hq) (hts _ (List.mem_of_getElem? (i := 3) rfl)) rfl (by decide +kernel) dX2_utter_47 (fun H locs hP hS => ?_)
          obtain ⟨μ15, eμ15⟩ : ∃ z : MM, z = wI μ q 5 ((rI μ q 5) + (1 : Int32)) := ⟨_, rfl⟩
          rw [← eμ15] at hP
          replace hm := bV_of hm eμ15
          refine lv_aload_n hx hb dX2_utter_50 rfl (lv_at hl 1 rfl) ?_
          refine lv_dup hx hb dX2_utter_51 rfl ?_
          refine t_geti (C := RX2) (T := TX2) (N := 7) hx hb hts hin2 hown hK hP hq rfl rfl 4 (by decide) (fk2_4 hq) (hts _ (List.mem_of_getElem? (i := 2) rfl)) dX2_utter_52 ?_
          refine lv_iconst (v := (1 : Int32)) hx hb dX2_utter_55 (by decide) ?_
          refine lv_iadd hx hb dX2_utter_56 ?_
          refine t_put (C := RX2) (T := TX2) (N := 7) hx hb hts hin2 tyX2 tyX2_ok nmX2 hown hK hP (tD _ _ _ _) hS hq rfl rfl 4 (by decide) (fk2_4 hq) (hts _ (List.mem_of_getElem? (i := 2) rfl)) rfl (by decide +kernel) dX2_utter_57 (fun H locs hP hS => ?_)
          obtain ⟨μ16, eμ16⟩ : ∃ z : MM, z = wI μ15 q 4 ((rI μ15 q 4) + (1 : Int32)) := ⟨_, rfl⟩
          rw [← eμ16] at hP
          replace hm := bV_of hm eμ16
          refine lv_aload_n hx hb dX2_utter_60 rfl (lv_at hl 1 rfl) ?_
          refine lv_dup hx hb dX2_utter_61 rfl ?_
          refine t_geti (C := RX2) (T := TX2) (N := 7) hx hb hts hin2 hown hK hP hq rfl rfl 3 (by decide) (fk2_3 hq) (hts _ (List.mem_of_getElem? (i := 1) rfl)) dX2_utter_62 ?_
          refine lv_iconst (v := (1 : Int32)) hx hb dX2_utter_65 (by decide) ?_
          refine lv_iadd hx hb dX2_utter_66 ?_
          refine t_put (C := RX2) (T := TX2) (N := 7) hx hb hts hin2 tyX2 tyX2_ok nmX2 hown hK hP (tD _ _ _ _) hS hq rfl rfl 3 (by decide) (fk2_3 hq) (hts _ (List.mem_of_getElem? (i := 1) rfl)) rfl (by decide +kernel) dX2_utter_67 (fun H locs hP hS => ?_)
          obtain ⟨μ17, eμ17⟩ : ∃ z : MM, z = wI μ16 q 3 ((rI μ16 q 3) + (1 : Int32)) := ⟨_, rfl⟩
          rw [← eμ17] at hP
          replace hm := bV_of hm eμ17
          refine lv_iload_n hx hb dX2_utter_70 rfl (lv_at hl 0 rfl) ?_
          cases hm
          exact W.iret hx hb hr (fun t ht hW => ⟨⟨_, (), rfl, rfl, tPost_of hP ht⟩, hS.F ht⟩) hS.2.2 dX2_utter_71
abbrev rmX2_recover : Room := { frames := 1, cells := 0, slots := 0, locals := 21 }
set_option maxHeartbeats 4000000 in
set_option maxRecDepth 100000 in
theorem mX2_recover (l : Launch) (D : va_G) (cA : Nat → ClassId) (base sz : Nat) (μ : MM) {q : Nat} (hq : kc q = 2) (a1 : Int32) {μ' : MM} (hm : X2_recover q a1 μ = μ') : Met l yX2_recover wsX2_recover rmX2_recover (va_Pc [.ref (base + q), .int a1] (tPre D cA base sz μ)) (va_Qv (fun _ : Unit => True) (fun _ => tPost D cA base μ') (tA base sz)) 0 0 (tA base sz) := by
  refine Met.ofW (cc := cX2_recover) (maxL := 2) (ret := none) (by decide +kernel) rfl ?_
  intro p e s m args below meth c s₁ B hml hv
  obtain ⟨rfl, hsz, hP, hK, hN⟩ := hv
  have hx := B.exec
  have hb := B.bytes
  have hr := B.returns
  have hts := atoms_spec (ws := wsX2_recover) B.pre
  have hown : s.vm.findClass RX2 = some m.cls := findClass_of_methodNamed B.named
  have hlocks := B.notSynchronized
  have hin2 : ∀ w ∈ wsX20, w ∈ wsX2_recover := by decide +kernel
  subst hsz
  have hS : va_S (tA base s.heap.size) s.heap s.heap [] := va_S.rf
  have hz : s.heap.size ≤ s.heap.size := Nat.le_refl _
  have hl := lv_entry ([.ref (base + q), .int a1]) (n := 2) (Nat.le_of_ble_eq_true rfl)
  rw [lg_entry_eq]
  generalize (lg_sl ([.ref (base + q), .int a1]) ++ List.replicate (2 - (lg_sl ([.ref (base + q), .int a1])).length) Slot.unset).toArray = ls at hl ⊢
  have hl : lv_has ls 2 [(0, .ref (base + q)), (1, .int a1)] := hl
  unfold X2_recover at hm
  refine lv_aload_n hx hb dX2_recover_0 rfl (lv_at hl 0 rfl) ?_
  refine lv_iconst (v := (0 : Int32)) hx hb dX2_recover_1 (by decide) ?_
  refine lv_aload_n hx hb dX2_recover_2 rfl (lv_at hl 0 rfl) ?_
  refine t_geti (C := RX2) (T := TX2) (N := 7) hx hb hts hin2 hown hK hP hq rfl rfl 3 (by decide) (fk2_3 hq) (hts _ (List.mem_of_getElem? (i := 1) rfl)) dX2_recover_3 ?_
  refine lv_iload_n hx hb dX2_recover_6 rfl (lv_at hl 1 rfl) ?_
  refine lv_isub hx hb dX2_recover_7 ?_
  refine va_mmax hx hb (hml.trans hl.1.symm) hown (hts _ (List.mem_of_getElem? (i := 2) rfl)) (hts _ (List.mem_of_getElem? (i := 3) rfl)) (hts _ (List.mem_of_getElem? (i := 4) rfl)) (hts _ (List.mem_of_getElem? (i := 5) rfl)) (Nat.le_of_ble_eq_true rfl) (Nat.le_of_ble_eq_true rfl) (Nat.le_of_ble_eq_true rfl) (Nat.le_of_ble_eq_true rfl) dX2_recover_8 ?_
  refine t_put (C := RX2) (T := TX2) (N := 7) hx hb hts hin2 tyX2 tyX2_ok nmX2 hown hK hP (tD _ _ _ _) hS hq rfl rfl 3 (by decide) (fk2_3 hq) (hts _ (List.mem_of_getElem? (i := 1) rfl)) rfl (by decide +kernel) dX2_recover_11 (fun H locs hP hS => ?_)
  obtain ⟨μ1, eμ1⟩ : ∃ z : MM, z = wI μ q 3 (if (0 : Int32) < ((rI μ q 3) - a1) then ((rI μ q 3) - a1) else (0 : Int32)) := ⟨_, rfl⟩
  rw [← eμ1] at hP
  replace hm := bV_of hm eμ1
  cases hm
  exact W.vret hx hb hr (fun t ht hW => ⟨⟨(), rfl, trivial, tPost_of hP ht⟩, hS.F ht⟩) hS.2.2 dX2_recover_14
abbrev rmX2_tell : Room := { frames := 0, cells := 0, slots := 0, locals := 0 }
set_option maxHeartbeats 4000000 in
set_option maxRecDepth 100000 in
theorem mX2_tell (l : Launch) (D : va_G) (cA : Nat → ClassId) (base sz : Nat) (μ : MM) {q : Nat} (hq : kc q = 2) (a1 : Int32) {r : Int32} (hm : X2_tell q a1 μ = r) : Met l yX2_tell wsX2_tell rmX2_tell (va_Pc [.ref (base + q), .int a1] (tPre D cA base sz μ)) (va_Qi (fun (x : Int32) (_ : Unit) => x = r) (fun _ => tPost D cA base μ) (tA base sz)) 0 0 (tA base sz) := by
  refine Met.ofW (cc := cX2_tell) (maxL := 2) (ret := (some .int)) (by decide +kernel) rfl ?_
  intro p e s m args below meth c s₁ B hml hv
  obtain ⟨rfl, hsz, hP, hK, hN⟩ := hv
  have hx := B.exec
  have hb := B.bytes
  have hr := B.returns
  have hts := atoms_spec (ws := wsX2_tell) B.pre
  have hown : s.vm.findClass RX2 = some m.cls := findClass_of_methodNamed B.named
  have hlocks := B.notSynchronized
  have hin2 : ∀ w ∈ wsX20, w ∈ wsX2_tell := by decide +kernel
  subst hsz
  have hS : va_S (tA base s.heap.size) s.heap s.heap [] := va_S.rf
  have hz : s.heap.size ≤ s.heap.size := Nat.le_refl _
  have hl := lv_entry ([.ref (base + q), .int a1]) (n := 2) (Nat.le_of_ble_eq_true rfl)
  rw [lg_entry_eq]
  generalize (lg_sl ([.ref (base + q), .int a1]) ++ List.replicate (2 - (lg_sl ([.ref (base + q), .int a1])).length) Slot.unset).toArray = ls at hl ⊢
  have hl : lv_has ls 2 [(0, .ref (base + q)), (1, .int a1)] := hl
  unfold X2_tell at hm
  refine lv_iload_n hx hb dX2_tell_0 rfl (lv_at hl 1 rfl) ?_
  by_cases c1 : a1 = 0
  · rw [if_pos c1] at hm
    refine lv_tableIn (tgt := 40) hx hb dX2_tell_1 (by rw [c1]; decide) (by rw [c1]; decide) (by rw [c1]; rfl) (by decide) ?_
    refine lv_aload_n hx hb dX2_tell_40 rfl (lv_at hl 0 rfl) ?_
    refine t_geti (C := RX2) (T := TX2) (N := 7) hx hb hts hin2 hown hK hP hq rfl rfl 0 (by decide) (fk2_0 hq) (hts _ (List.mem_of_getElem? (i := 1) rfl)) dX2_tell_41 ?_
    cases hm
    exact W.iret hx hb hr (fun t ht hW => ⟨⟨_, (), rfl, rfl, tPost_of hP ht⟩, hS.F ht⟩) hS.2.2 dX2_tell_44
  · rw [if_neg c1] at hm
    by_cases c2 : a1 = 1
    · rw [if_pos c2] at hm
      refine lv_tableIn (tgt := 45) hx hb dX2_tell_1 (by rw [c2]; decide) (by rw [c2]; decide) (by rw [c2]; rfl) (by decide) ?_
      refine lv_aload_n hx hb dX2_tell_45 rfl (lv_at hl 0 rfl) ?_
      refine t_geti (C := RX2) (T := TX2) (N := 7) hx hb hts hin2 hown hK hP hq rfl rfl 1 (by decide) (fk2_1 hq) (hts _ (List.mem_of_getElem? (i := 2) rfl)) dX2_tell_46 ?_
      cases hm
      exact W.iret hx hb hr (fun t ht hW => ⟨⟨_, (), rfl, rfl, tPost_of hP ht⟩, hS.F ht⟩) hS.2.2 dX2_tell_49
    · rw [if_neg c2] at hm
      by_cases c3 : a1 = 2
      · rw [if_pos c3] at hm
        refine lv_tableIn (tgt := 50) hx hb dX2_tell_1 (by rw [c3]; decide) (by rw [c3]; decide) (by rw [c3]; rfl) (by decide) ?_
        refine lv_aload_n hx hb dX2_tell_50 rfl (lv_at hl 0 rfl) ?_
        refine t_geti (C := RX2) (T := TX2) (N := 7) hx hb hts hin2 hown hK hP hq rfl rfl 2 (by decide) (fk2_2 hq) (hts _ (List.mem_of_getElem? (i := 3) rfl)) dX2_tell_51 ?_
        cases hm
        exact W.iret hx hb hr (fun t ht hW => ⟨⟨_, (), rfl, rfl, tPost_of hP ht⟩, hS.F ht⟩) hS.2.2 dX2_tell_54
      · rw [if_neg c3] at hm
        by_cases c4 : a1 = 3
        · rw [if_pos c4] at hm
          refine lv_tableIn (tgt := 55) hx hb dX2_tell_1 (by rw [c4]; decide) (by rw [c4]; decide) (by rw [c4]; rfl) (by decide) ?_
          refine lv_aload_n hx hb dX2_tell_55 rfl (lv_at hl 0 rfl) ?_
          refine t_geti (C := RX2) (T := TX2) (N := 7) hx hb hts hin2 hown hK hP hq rfl rfl 3 (by decide) (fk2_3 hq) (hts _ (List.mem_of_getElem? (i := 4) rfl)) dX2_tell_56 ?_
          cases hm
          exact W.iret hx hb hr (fun t ht hW => ⟨⟨_, (), rfl, rfl, tPost_of hP ht⟩, hS.F ht⟩) hS.2.2 dX2_tell_59
        · rw [if_neg c4] at hm
          by_cases c5 : a1 = 4
          · rw [if_pos c5] at hm
            refine lv_tableIn (tgt := 60) hx hb dX2_tell_1 (by rw [c5]; decide) (by rw [c5]; decide) (by rw [c5]; rfl) (by decide) ?_
            refine lv_aload_n hx hb dX2_tell_60 rfl (lv_at hl 0 rfl) ?_
            refine t_geti (C := RX2) (T := TX2) (N := 7) hx hb hts hin2 hown hK hP hq rfl rfl 4 (by decide) (fk2_4 hq) (hts _ (List.mem_of_getElem? (i := 5) rfl)) dX2_tell_61 ?_
            cases hm
            exact W.iret hx hb hr (fun t ht hW => ⟨⟨_, (), rfl, rfl, tPost_of hP ht⟩, hS.F ht⟩) hS.2.2 dX2_tell_64
          · rw [if_neg c5] at hm
            by_cases c6 : a1 = 5
            · rw [if_pos c6] at hm
              refine lv_tableIn (tgt := 65) hx hb dX2_tell_1 (by rw [c6]; decide) (by rw [c6]; decide) (by rw [c6]; rfl) (by decide) ?_
              refine lv_aload_n hx hb dX2_tell_65 rfl (lv_at hl 0 rfl) ?_
              refine t_geti (C := RX2) (T := TX2) (N := 7) hx hb hts hin2 hown hK hP hq rfl rfl 5 (by decide) (fk2_5 hq) (hts _ (List.mem_of_getElem? (i := 6) rfl)) dX2_tell_66 ?_
              cases hm
              exact W.iret hx hb hr (fun t ht hW => ⟨⟨_, (), rfl, rfl, tPost_of hP ht⟩, hS.F ht⟩) hS.2.2 dX2_tell_69
            · rw [if_neg c6] at hm
              refine lv_tableOut (tgt := 70) hx hb dX2_tell_1 (by have nc1 : (a1).toInt ≠ 0 := fun h => c1 (Int32.toInt_inj.mp (h.trans (by decide))); have nc2 : (a1).toInt ≠ 1 := fun h => c2 (Int32.toInt_inj.mp (h.trans (by decide))); have nc3 : (a1).toInt ≠ 2 := fun h => c3 (Int32.toInt_inj.mp (h.trans (by decide))); have nc4 : (a1).toInt ≠ 3 := fun h => c4 (Int32.toInt_inj.mp (h.trans (by decide))); have nc5 : (a1).toInt ≠ 4 := fun h => c5 (Int32.toInt_inj.mp (h.trans (by decide))); have nc6 : (a1).toInt ≠ 5 := fun h => c6 (Int32.toInt_inj.mp (h.trans (by decide))); omega) (by decide) ?_
              refine lv_aload_n hx hb dX2_tell_70 rfl (lv_at hl 0 rfl) ?_
              refine t_geti (C := RX2) (T := TX2) (N := 7) hx hb hts hin2 hown hK hP hq rfl rfl 6 (by decide) (fk2_6 hq) (hts _ (List.mem_of_getElem? (i := 7) rfl)) dX2_tell_71 ?_
              cases hm
              exact W.iret hx hb hr (fun t ht hW => ⟨⟨_, (), rfl, rfl, tPost_of hP ht⟩, hS.F ht⟩) hS.2.2 dX2_tell_74
abbrev rmX2_copyFrom : Room := { frames := 0, cells := 0, slots := 0, locals := 0 }
set_option maxHeartbeats 4000000 in
set_option maxRecDepth 100000 in
theorem mX2_copyFrom (l : Launch) (D : va_G) (cA : Nat → ClassId) (base sz : Nat) (μ : MM) {q : Nat} (hq : kc q = 2) {a1 : Nat} (ha1 : kc a1 = 2) {μ' : MM} (hm : X2_copyFrom q a1 μ = μ') : Met l yX2_copyFrom wsX2_copyFrom rmX2_copyFrom (va_Pc [.ref (base + q), .ref (base + a1)] (tPre D cA base sz μ)) (va_Qv (fun _ : Unit => True) (fun _ => tPost D cA base μ') (tA base sz)) 0 0 (tA base sz) := by
  refine Met.ofW (cc := cX2_copyFrom) (maxL := 2) (ret := none) (by decide +kernel) rfl ?_
  intro p e s m args below meth c s₁ B hml hv
  obtain ⟨rfl, hsz, hP, hK, hN⟩ := hv
  have hx := B.exec
  have hb := B.bytes
  have hr := B.returns
  have hts := atoms_spec (ws := wsX2_copyFrom) B.pre
  have hown : s.vm.findClass RX2 = some m.cls := findClass_of_methodNamed B.named
  have hlocks := B.notSynchronized
  have hin2 : ∀ w ∈ wsX20, w ∈ wsX2_copyFrom := by decide +kernel
  subst hsz
  have hS : va_S (tA base s.heap.size) s.heap s.heap [] := va_S.rf
  have hz : s.heap.size ≤ s.heap.size := Nat.le_refl _
  have hl := lv_entry ([.ref (base + q), .ref (base + a1)]) (n := 2) (Nat.le_of_ble_eq_true rfl)
  rw [lg_entry_eq]
  generalize (lg_sl ([.ref (base + q), .ref (base + a1)]) ++ List.replicate (2 - (lg_sl ([.ref (base + q), .ref (base + a1)])).length) Slot.unset).toArray = ls at hl ⊢
  have hl : lv_has ls 2 [(0, .ref (base + q)), (1, .ref (base + a1))] := hl
  unfold X2_copyFrom at hm
  refine lv_aload_n hx hb dX2_copyFrom_0 rfl (lv_at hl 0 rfl) ?_
  refine lv_aload_n hx hb dX2_copyFrom_1 rfl (lv_at hl 1 rfl) ?_
  refine t_geti (C := RX2) (T := TX2) (N := 7) hx hb hts hin2 hown hK hP ha1 rfl rfl 0 (by decide) (fk2_0 ha1) (hts _ (List.mem_of_getElem? (i := 1) rfl)) dX2_copyFrom_2 ?_
  refine t_put (C := RX2) (T := TX2) (N := 7) hx hb hts hin2 tyX2 tyX2_ok nmX2 hown hK hP (tD _ _ _ _) hS hq rfl rfl 0 (by decide) (fk2_0 hq) (hts _ (List.mem_of_getElem? (i := 1) rfl)) rfl (by decide +kernel) dX2_copyFrom_5 (fun H locs hP hS => ?_)
  obtain ⟨μ1, eμ1⟩ : ∃ z : MM, z = wI μ q 0 (rI μ a1 0) := ⟨_, rfl⟩
  rw [← eμ1] at hP
  replace hm := bV_of hm eμ1
  refine lv_aload_n hx hb dX2_copyFrom_8 rfl (lv_at hl 0 rfl) ?_
  refine lv_aload_n hx hb dX2_copyFrom_9 rfl (lv_at hl 1 rfl) ?_
  refine t_geti (C := RX2) (T := TX2) (N := 7) hx hb hts hin2 hown hK hP ha1 rfl rfl 1 (by decide) (fk2_1 ha1) (hts _ (List.mem_of_getElem? (i := 2) rfl)) dX2_copyFrom_10 ?_
  refine t_put (C := RX2) (T := TX2) (N := 7) hx hb hts hin2 tyX2 tyX2_ok nmX2 hown hK hP (tD _ _ _ _) hS hq rfl rfl 1 (by decide) (fk2_1 hq) (hts _ (List.mem_of_getElem? (i := 2) rfl)) rfl (by decide +kernel) dX2_copyFrom_13 (fun H locs hP hS => ?_)
  obtain ⟨μ2, eμ2⟩ : ∃ z : MM, z = wI μ1 q 1 (rI μ1 a1 1) := ⟨_, rfl⟩
  rw [← eμ2] at hP
  replace hm := bV_of hm eμ2
  refine lv_aload_n hx hb dX2_copyFrom_16 rfl (lv_at hl 0 rfl) ?_
  refine lv_aload_n hx hb dX2_copyFrom_17 rfl (lv_at hl 1 rfl) ?_
  refine t_geti (C := RX2) (T := TX2) (N := 7) hx hb hts hin2 hown hK hP ha1 rfl rfl 2 (by decide) (fk2_2 ha1) (hts _ (List.mem_of_getElem? (i := 3) rfl)) dX2_copyFrom_18 ?_
  refine t_put (C := RX2) (T := TX2) (N := 7) hx hb hts hin2 tyX2 tyX2_ok nmX2 hown hK hP (tD _ _ _ _) hS hq rfl rfl 2 (by decide) (fk2_2 hq) (hts _ (List.mem_of_getElem? (i := 3) rfl)) rfl (by decide +kernel) dX2_copyFrom_21 (fun H locs hP hS => ?_)
  obtain ⟨μ3, eμ3⟩ : ∃ z : MM, z = wI μ2 q 2 (rI μ2 a1 2) := ⟨_, rfl⟩
  rw [← eμ3] at hP
  replace hm := bV_of hm eμ3
  refine lv_aload_n hx hb dX2_copyFrom_24 rfl (lv_at hl 0 rfl) ?_
  refine lv_aload_n hx hb dX2_copyFrom_25 rfl (lv_at hl 1 rfl) ?_
  refine t_geti (C := RX2) (T := TX2) (N := 7) hx hb hts hin2 hown hK hP ha1 rfl rfl 3 (by decide) (fk2_3 ha1) (hts _ (List.mem_of_getElem? (i := 4) rfl)) dX2_copyFrom_26 ?_
  refine t_put (C := RX2) (T := TX2) (N := 7) hx hb hts hin2 tyX2 tyX2_ok nmX2 hown hK hP (tD _ _ _ _) hS hq rfl rfl 3 (by decide) (fk2_3 hq) (hts _ (List.mem_of_getElem? (i := 4) rfl)) rfl (by decide +kernel) dX2_copyFrom_29 (fun H locs hP hS => ?_)
  obtain ⟨μ4, eμ4⟩ : ∃ z : MM, z = wI μ3 q 3 (rI μ3 a1 3) := ⟨_, rfl⟩
  rw [← eμ4] at hP
  replace hm := bV_of hm eμ4
  refine lv_aload_n hx hb dX2_copyFrom_32 rfl (lv_at hl 0 rfl) ?_
  refine lv_aload_n hx hb dX2_copyFrom_33 rfl (lv_at hl 1 rfl) ?_
  refine t_geti (C := RX2) (T := TX2) (N := 7) hx hb hts hin2 hown hK hP ha1 rfl rfl 4 (by decide) (fk2_4 ha1) (hts _ (List.mem_of_getElem? (i := 5) rfl)) dX2_copyFrom_34 ?_
  refine t_put (C := RX2) (T := TX2) (N := 7) hx hb hts hin2 tyX2 tyX2_ok nmX2 hown hK hP (tD _ _ _ _) hS hq rfl rfl 4 (by decide) (fk2_4 hq) (hts _ (List.mem_of_getElem? (i := 5) rfl)) rfl (by decide +kernel) dX2_copyFrom_37 (fun H locs hP hS => ?_)
  obtain ⟨μ5, eμ5⟩ : ∃ z : MM, z = wI μ4 q 4 (rI μ4 a1 4) := ⟨_, rfl⟩
  rw [← eμ5] at hP
  replace hm := bV_of hm eμ5
  refine lv_aload_n hx hb dX2_copyFrom_40 rfl (lv_at hl 0 rfl) ?_
  refine lv_aload_n hx hb dX2_copyFrom_41 rfl (lv_at hl 1 rfl) ?_
  refine t_geti (C := RX2) (T := TX2) (N := 7) hx hb hts hin2 hown hK hP ha1 rfl rfl 5 (by decide) (fk2_5 ha1) (hts _ (List.mem_of_getElem? (i := 6) rfl)) dX2_copyFrom_42 ?_
  refine t_put (C := RX2) (T := TX2) (N := 7) hx hb hts hin2 tyX2 tyX2_ok nmX2 hown hK hP (tD _ _ _ _) hS hq rfl rfl 5 (by decide) (fk2_5 hq) (hts _ (List.mem_of_getElem? (i := 6) rfl)) rfl (by decide +kernel) dX2_copyFrom_45 (fun H locs hP hS => ?_)
  obtain ⟨μ6, eμ6⟩ : ∃ z : MM, z = wI μ5 q 5 (rI μ5 a1 5) := ⟨_, rfl⟩
  rw [← eμ6] at hP
  replace hm := bV_of hm eμ6
  refine lv_aload_n hx hb dX2_copyFrom_48 rfl (lv_at hl 0 rfl) ?_
  refine lv_aload_n hx hb dX2_copyFrom_49 rfl (lv_at hl 1 rfl) ?_
  refine t_geti (C := RX2) (T := TX2) (N := 7) hx hb hts hin2 hown hK hP ha1 rfl rfl 6 (by decide) (fk2_6 ha1) (hts _ (List.mem_of_getElem? (i := 7) rfl)) dX2_copyFrom_50 ?_
  refine t_put (C := RX2) (T := TX2) (N := 7) hx hb hts hin2 tyX2 tyX2_ok nmX2 hown hK hP (tD _ _ _ _) hS hq rfl rfl 6 (by decide) (fk2_6 hq) (hts _ (List.mem_of_getElem? (i := 7) rfl)) rfl (by decide +kernel) dX2_copyFrom_53 (fun H locs hP hS => ?_)
  obtain ⟨μ7, eμ7⟩ : ∃ z : MM, z = wI μ6 q 6 (rI μ6 a1 6) := ⟨_, rfl⟩
  rw [← eμ7] at hP
  replace hm := bV_of hm eμ7
  cases hm
  exact W.vret hx hb hr (fun t ht hW => ⟨⟨(), rfl, trivial, tPost_of hP ht⟩, hS.F ht⟩) hS.2.2 dX2_copyFrom_56
abbrev rmX4_add : Room := { frames := 0, cells := 0, slots := 0, locals := 0 }
set_option maxHeartbeats 4000000 in
set_option maxRecDepth 100000 in
theorem mX4_add (l : Launch) (D : va_G) (cA : Nat → ClassId) (base sz : Nat) (μ : MM) {q : Nat} (hq : kc q = 4) (a1 : Int32) (a2 : Int32) {μ' : MM} (hm : X4_add q a1 a2 μ = some μ') : Met l yX4_add wsX4_add rmX4_add (va_Pc [.ref (base + q), .int a1, .int a2] (tPre D cA base sz μ)) (va_Qv (fun _ : Unit => True) (fun _ => tPost D cA base μ') (tA base sz)) 0 0 (tA base sz) := by
  refine Met.ofW (cc := cX4_add) (maxL := 3) (ret := none) (by decide +kernel) rfl ?_
  intro p e s m args below meth c s₁ B hml hv
  obtain ⟨rfl, hsz, hP, hK, hN⟩ := hv
  have hx := B.exec
  have hb := B.bytes
  have hr := B.returns
  have hts := atoms_spec (ws := wsX4_add) B.pre
  have hown : s.vm.findClass RX4 = some m.cls := findClass_of_methodNamed B.named
  have hlocks := B.notSynchronized
  have hin4 : ∀ w ∈ wsX40, w ∈ wsX4_add := by decide +kernel
  subst hsz
  have hS : va_S (tA base s.heap.size) s.heap s.heap [] := va_S.rf
  have hz : s.heap.size ≤ s.heap.size := Nat.le_refl _
  have hl := lv_entry ([.ref (base + q), .int a1, .int a2]) (n := 3) (Nat.le_of_ble_eq_true rfl)
  rw [lg_entry_eq]
  generalize (lg_sl ([.ref (base + q), .int a1, .int a2]) ++ List.replicate (3 - (lg_sl ([.ref (base + q), .int a1, .int a2])).length) Slot.unset).toArray = ls at hl ⊢
  have hl : lv_has ls 3 [(0, .ref (base + q)), (1, .int a1), (2, .int a2)] := hl
  unfold X4_add at hm
  refine lv_aload_n hx hb dX4_add_0 rfl (lv_at hl 0 rfl) ?_
  refine t_geti (C := RX4) (T := TX4) (N := 3) hx hb hts hin4 hown hK hP hq rfl rfl 2 (by decide) (fk4_2 hq) (hts _ (List.mem_of_getElem? (i := 1) rfl)) dX4_add_1 ?_
  refine lv_sipush (v := (400 : Int32)) hx hb dX4_add_4 (by decide) ?_
  refine lv_icmp_ge (tgt := 40) hx hb dX4_add_7 (by decide) (fun c1 => ?_) (fun c1 => ?_)
  · rw [if_pos c1] at hm
    cases hm
    exact W.vret hx hb hr (fun t ht hW => ⟨⟨(), rfl, trivial, tPost_of hP ht⟩, hS.F ht⟩) hS.2.2 dX4_add_40
  · rw [if_neg c1] at hm
    refine lv_aload_n hx hb dX4_add_10 rfl (lv_at hl 0 rfl) ?_
    refine t_getr (C := RX4) (T := TX4) (N := 3) hx hb hts hin4 hown hK hP hq rfl rfl 0 (by decide) (fr4_0 hq) (hts _ (List.mem_of_getElem? (i := 2) rfl)) dX4_add_11 ?_
    refine lv_aload_n hx hb dX4_add_14 rfl (lv_at hl 0 rfl) ?_
    refine t_geti (C := RX4) (T := TX4) (N := 3) hx hb hts hin4 hown hK hP hq rfl rfl 2 (by decide) (fk4_2 hq) (hts _ (List.mem_of_getElem? (i := 1) rfl)) dX4_add_15 ?_
    refine lv_iload_n hx hb dX4_add_18 rfl (lv_at hl 1 rfl) ?_
    obtain ⟨hg2, hm⟩ := gd_inv hm
    refine t_iast hx hb hK hP (tD _ _ _ _) hS (kr4_0 hq) hg2 dX4_add_19 (fun H locs hP hS => ?_)
    obtain ⟨μ3, eμ3⟩ : ∃ z : MM, z = wI μ (RF q 0) (rI μ q 2).toNatClampNeg a1 := ⟨_, rfl⟩
    rw [← eμ3] at hP
    replace hm := bV_of hm eμ3
    refine lv_aload_n hx hb dX4_add_20 rfl (lv_at hl 0 rfl) ?_
    refine t_getr (C := RX4) (T := TX4) (N := 3) hx hb hts hin4 hown hK hP hq rfl rfl 1 (by decide) (fr4_1 hq) (hts _ (List.mem_of_getElem? (i := 3) rfl)) dX4_add_21 ?_
    refine lv_aload_n hx hb dX4_add_24 rfl (lv_at hl 0 rfl) ?_
    refine t_geti (C := RX4) (T := TX4) (N := 3) hx hb hts hin4 hown hK hP hq rfl rfl 2 (by decide) (fk4_2 hq) (hts _ (List.mem_of_getElem? (i := 1) rfl)) dX4_add_25 ?_
    refine lv_iload_n hx hb dX4_add_28 rfl (lv_at hl 2 rfl) ?_
    obtain ⟨hg4, hm⟩ := gd_inv hm
    refine t_iast hx hb hK hP (tD _ _ _ _) hS (kr4_1 hq) hg4 dX4_add_29 (fun H locs hP hS => ?_)
    obtain ⟨μ5, eμ5⟩ : ∃ z : MM, z = wI μ3 (RF q 1) (rI μ3 q 2).toNatClampNeg a2 := ⟨_, rfl⟩
    rw [← eμ5] at hP
    replace hm := bV_of hm eμ5
    refine lv_aload_n hx hb dX4_add_30 rfl (lv_at hl 0 rfl) ?_
    refine lv_dup hx hb dX4_add_31 rfl ?_
    refine t_geti (C := RX4) (T := TX4) (N := 3) hx hb hts hin4 hown hK hP hq rfl rfl 2 (by decide) (fk4_2 hq) (hts _ (List.mem_of_getElem? (i := 1) rfl)) dX4_add_32 ?_
    refine lv_iconst (v := (1 : Int32)) hx hb dX4_add_35 (by decide) ?_
    refine lv_iadd hx hb dX4_add_36 ?_
    refine t_put (C := RX4) (T := TX4) (N := 3) hx hb hts hin4 tyX4 tyX4_ok nmX4 hown hK hP (tD _ _ _ _) hS hq rfl rfl 2 (by decide) (fk4_2 hq) (hts _ (List.mem_of_getElem? (i := 1) rfl)) rfl (by decide +kernel) dX4_add_37 (fun H locs hP hS => ?_)
    obtain ⟨μ6, eμ6⟩ : ∃ z : MM, z = wI μ5 q 2 ((rI μ5 q 2) + (1 : Int32)) := ⟨_, rfl⟩
    rw [← eμ6] at hP
    replace hm := bV_of hm eμ6
    cases hm
    exact W.vret hx hb hr (fun t ht hW => ⟨⟨(), rfl, trivial, tPost_of hP ht⟩, hS.F ht⟩) hS.2.2 dX4_add_40
abbrev rmX4_tickAt : Room := { frames := 1, cells := 0, slots := 0, locals := 22 }
set_option maxHeartbeats 4000000 in
set_option maxRecDepth 100000 in
theorem mX4_tickAt (l : Launch) (D : va_G) (cA : Nat → ClassId) (base sz : Nat) (μ : MM) {q : Nat} (hq : kc q = 4) (a1 : Int32) {r : Int32} (hm : X4_tickAt q a1 μ = some r) : Met l yX4_tickAt wsX4_tickAt rmX4_tickAt (va_Pc [.ref (base + q), .int a1] (tPre D cA base sz μ)) (va_Qi (fun (x : Int32) (_ : Unit) => x = r) (fun _ => tPost D cA base μ) (tA base sz)) 0 0 (tA base sz) := by
  refine Met.ofW (cc := cX4_tickAt) (maxL := 2) (ret := (some .int)) (by decide +kernel) rfl ?_
  intro p e s m args below meth c s₁ B hml hv
  obtain ⟨rfl, hsz, hP, hK, hN⟩ := hv
  have hx := B.exec
  have hb := B.bytes
  have hr := B.returns
  have hts := atoms_spec (ws := wsX4_tickAt) B.pre
  have hown : s.vm.findClass RX4 = some m.cls := findClass_of_methodNamed B.named
  have hlocks := B.notSynchronized
  have hin4 : ∀ w ∈ wsX40, w ∈ wsX4_tickAt := by decide +kernel
  subst hsz
  have hS : va_S (tA base s.heap.size) s.heap s.heap [] := va_S.rf
  have hz : s.heap.size ≤ s.heap.size := Nat.le_refl _
  have hl := lv_entry ([.ref (base + q), .int a1]) (n := 2) (Nat.le_of_ble_eq_true rfl)
  rw [lg_entry_eq]
  generalize (lg_sl ([.ref (base + q), .int a1]) ++ List.replicate (2 - (lg_sl ([.ref (base + q), .int a1])).length) Slot.unset).toArray = ls at hl ⊢
  have hl : lv_has ls 2 [(0, .ref (base + q)), (1, .int a1)] := hl
  unfold X4_tickAt at hm
  refine lv_iload_n hx hb dX4_tickAt_0 rfl (lv_at hl 1 rfl) ?_
  refine lv_iconst (v := (0 : Int32)) hx hb dX4_tickAt_1 (by decide) ?_
  refine lv_aload_n hx hb dX4_tickAt_2 rfl (lv_at hl 0 rfl) ?_
  refine t_geti (C := RX4) (T := TX4) (N := 3) hx hb hts hin4 hown hK hP hq rfl rfl 2 (by decide) (fk4_2 hq) (hts _ (List.mem_of_getElem? (i := 1) rfl)) dX4_tickAt_3 ?_
  refine lv_iconst (v := (1 : Int32)) hx hb dX4_tickAt_6 (by decide) ?_
  refine lv_isub hx hb dX4_tickAt_7 ?_
  refine t_cSNi (As := [.int a1, .int (0 : Int32), .int ((rI μ q 2) - (1 : Int32))]) (rest := []) (μ' := μ) (r := (X6_isWithin a1 (0 : Int32) ((rI μ q 2) - (1 : Int32)))) ⟨hx, hb, hml, hown, hts⟩ (mX6_isWithin l D cA base s.heap.size μ a1 (0 : Int32) ((rI μ q 2) - (1 : Int32)) rfl) ⟨va_cnB (host := "RelayBooths") 3 hts gX4_tickAt_X6_isWithin_n22 rfl rfl rfl (hN.2 _ (List.mem_of_getElem? (i := 3) rfl)) (hts _ (List.mem_of_getElem? (i := 4) rfl)) (by decide +kernel) ⟨Nat.le_of_ble_eq_true rfl, Nat.le_of_ble_eq_true rfl⟩, (hts _ (List.mem_of_getElem? (i := 3) rfl)), trivial⟩ hK hN hP hS hz rfl hl.1 (Nat.le_of_ble_eq_true rfl) dX4_tickAt_8 ⟨Nat.le_of_ble_eq_true rfl, Nat.le_of_ble_eq_true rfl⟩ rfl (fun H locs hP hS => ?_)
  refine lv_if_eq (tgt := 23) hx hb dX4_tickAt_11 (by decide) (fun c3 => ?_) (fun c3 => ?_)
  · rw [if_pos c3] at hm
    refine lv_iconst (v := (-1 : Int32)) hx hb dX4_tickAt_23 (by decide) ?_
    cases hm
    exact W.iret hx hb hr (fun t ht hW => ⟨⟨_, (), rfl, rfl, tPost_of hP ht⟩, hS.F ht⟩) hS.2.2 dX4_tickAt_24
  · rw [if_neg c3] at hm
    refine lv_aload_n hx hb dX4_tickAt_14 rfl (lv_at hl 0 rfl) ?_
    refine t_getr (C := RX4) (T := TX4) (N := 3) hx hb hts hin4 hown hK hP hq rfl rfl 1 (by decide) (fr4_1 hq) (hts _ (List.mem_of_getElem? (i := 2) rfl)) dX4_tickAt_15 ?_
    refine lv_iload_n hx hb dX4_tickAt_18 rfl (lv_at hl 1 rfl) ?_
    obtain ⟨hg4, hm⟩ := gd_inv hm
    refine t_iald hx hb hK hP (kr4_1 hq) hg4 dX4_tickAt_19 ?_
    refine lv_goto (tgt := 24) hx hb dX4_tickAt_20 (by decide) ?_
    cases hm
    exact W.iret hx hb hr (fun t ht hW => ⟨⟨_, (), rfl, rfl, tPost_of hP ht⟩, hS.F ht⟩) hS.2.2 dX4_tickAt_24
abbrev rmX4_wordOfTick : Room := { frames := 2, cells := 0, slots := 0, locals := 43 }
set_option maxHeartbeats 4000000 in
set_option maxRecDepth 100000 in
theorem mX4_wordOfTick (l : Launch) (D : va_G) (cA : Nat → ClassId) (base sz : Nat) (μ : MM) {q : Nat} (hq : kc q = 4) (a1 : Int32) {r : Int32} (hm : X4_wordOfTick q a1 μ = some r) : Met l yX4_wordOfTick wsX4_wordOfTick rmX4_wordOfTick (va_Pc [.ref (base + q), .int a1] (tPre D cA base sz μ)) (va_Qi (fun (x : Int32) (_ : Unit) => x = r) (fun _ => tPost D cA base μ) (tA base sz)) 0 0 (tA base sz) := by
  refine Met.ofW (cc := cX4_wordOfTick) (maxL := 2) (ret := (some .int)) (by decide +kernel) rfl ?_
  intro p e s m args below meth c s₁ B hml hv
  obtain ⟨rfl, hsz, hP, hK, hN⟩ := hv
  have hx := B.exec
  have hb := B.bytes
  have hr := B.returns
  have hts := atoms_spec (ws := wsX4_wordOfTick) B.pre
  have hown : s.vm.findClass RX4 = some m.cls := findClass_of_methodNamed B.named
  have hlocks := B.notSynchronized
  have hin4 : ∀ w ∈ wsX40, w ∈ wsX4_wordOfTick := by decide +kernel
  subst hsz
  have hS : va_S (tA base s.heap.size) s.heap s.heap [] := va_S.rf
  have hz : s.heap.size ≤ s.heap.size := Nat.le_refl _
  have hl := lv_entry ([.ref (base + q), .int a1]) (n := 2) (Nat.le_of_ble_eq_true rfl)
  rw [lg_entry_eq]
  generalize (lg_sl ([.ref (base + q), .int a1]) ++ List.replicate (2 - (lg_sl ([.ref (base + q), .int a1])).length) Slot.unset).toArray = ls at hl ⊢
  have hl : lv_has ls 2 [(0, .ref (base + q)), (1, .int a1)] := hl
  unfold X4_wordOfTick at hm
  refine lv_aload_n hx hb dX4_wordOfTick_0 rfl (lv_at hl 0 rfl) ?_
  refine t_geti (C := RX4) (T := TX4) (N := 3) hx hb hts hin4 hown hK hP hq rfl rfl 2 (by decide) (fk4_2 hq) (hts _ (List.mem_of_getElem? (i := 1) rfl)) dX4_wordOfTick_1 ?_
  refine lv_if_le (tgt := 34) hx hb dX4_wordOfTick_4 (by decide) (fun c1 => ?_) (fun c1 => ?_)
  · rw [if_pos c1] at hm
    refine lv_iconst (v := (-1 : Int32)) hx hb dX4_wordOfTick_34 (by decide) ?_
    cases hm
    exact W.iret hx hb hr (fun t ht hW => ⟨⟨_, (), rfl, rfl, tPost_of hP ht⟩, hS.F ht⟩) hS.2.2 dX4_wordOfTick_35
  · rw [if_neg c1] at hm
    refine lv_aload_n hx hb dX4_wordOfTick_7 rfl (lv_at hl 0 rfl) ?_
    refine lv_aload_n hx hb dX4_wordOfTick_8 rfl (lv_at hl 0 rfl) ?_
    refine t_geti (C := RX4) (T := TX4) (N := 3) hx hb hts hin4 hown hK hP hq rfl rfl 2 (by decide) (fk4_2 hq) (hts _ (List.mem_of_getElem? (i := 1) rfl)) dX4_wordOfTick_9 ?_
    refine lv_iconst (v := (1 : Int32)) hx hb dX4_wordOfTick_12 (by decide) ?_
    refine lv_isub hx hb dX4_wordOfTick_13 ?_
    obtain ⟨r2, hc3, hm⟩ := bO1_inv hm
    refine t_cVi (As := [.int ((rI μ q 2) - (1 : Int32))]) (rest := []) (μ' := μ) (r := r2) ⟨hx, hb, hml, hown, hts⟩ (mX4_tickAt l D cA base s.heap.size μ hq ((rI μ q 2) - (1 : Int32)) hc3) (cwV 1 hts gX4_wordOfTick_X4_tickAt rfl rfl rfl (by decide +kernel) ⟨Nat.le_of_ble_eq_true rfl, Nat.le_of_ble_eq_true rfl⟩) (va_recv hK hP (q0 := q) rfl (tw_obj hq (by decide))) hK hN hP hS hz rfl hl.1 (Nat.le_of_ble_eq_true rfl) dX4_wordOfTick_14 ⟨Nat.le_of_ble_eq_true rfl, Nat.le_of_ble_eq_true rfl⟩ rfl (fun H locs hP hS => ?_)
    refine lv_iload_n hx hb dX4_wordOfTick_17 rfl (lv_at hl 1 rfl) ?_
    refine lv_icmp_ne (tgt := 34) hx hb dX4_wordOfTick_18 (by decide) (fun c4 => ?_) (fun c4 => ?_)
    · rw [if_neg c4] at hm
      refine lv_iconst (v := (-1 : Int32)) hx hb dX4_wordOfTick_34 (by decide) ?_
      cases hm
      exact W.iret hx hb hr (fun t ht hW => ⟨⟨_, (), rfl, rfl, tPost_of hP ht⟩, hS.F ht⟩) hS.2.2 dX4_wordOfTick_35
    · rw [if_pos c4] at hm
      refine lv_aload_n hx hb dX4_wordOfTick_21 rfl (lv_at hl 0 rfl) ?_
      refine lv_aload_n hx hb dX4_wordOfTick_22 rfl (lv_at hl 0 rfl) ?_
      refine t_geti (C := RX4) (T := TX4) (N := 3) hx hb hts hin4 hown hK hP hq rfl rfl 2 (by decide) (fk4_2 hq) (hts _ (List.mem_of_getElem? (i := 1) rfl)) dX4_wordOfTick_23 ?_
      refine lv_iconst (v := (1 : Int32)) hx hb dX4_wordOfTick_26 (by decide) ?_
      refine lv_isub hx hb dX4_wordOfTick_27 ?_
      obtain ⟨r5, hc6, hm⟩ := bO1_inv hm
      refine t_cVi (As := [.int ((rI μ q 2) - (1 : Int32))]) (rest := []) (μ' := μ) (r := r5) ⟨hx, hb, hml, hown, hts⟩ (mX4_wordAt l D cA base H.size μ hq ((rI μ q 2) - (1 : Int32)) hc6) (cwV 1 hts gX4_wordOfTick_X4_wordAt rfl rfl rfl (by decide +kernel) ⟨Nat.le_of_ble_eq_true rfl, Nat.le_of_ble_eq_true rfl⟩) (va_recv hK hP (q0 := q) rfl (tw_obj hq (by decide))) hK hN hP hS hz rfl hl.1 (Nat.le_of_ble_eq_true rfl) dX4_wordOfTick_28 ⟨Nat.le_of_ble_eq_true rfl, Nat.le_of_ble_eq_true rfl⟩ rfl (fun H locs hP hS => ?_)
      refine lv_goto (tgt := 35) hx hb dX4_wordOfTick_31 (by decide) ?_
      cases hm
      exact W.iret hx hb hr (fun t ht hW => ⟨⟨_, (), rfl, rfl, tPost_of hP ht⟩, hS.F ht⟩) hS.2.2 dX4_wordOfTick_35
abbrev rmX4_mixInto : Room := { frames := 2, cells := 0, slots := 0, locals := 43 }
set_option maxHeartbeats 4000000 in
set_option maxRecDepth 100000 in
theorem lX4_mixInto_L5 {p : Program} {l : Launch} {e : Env} {s : State} {m : MethodId} {args : Array Value} {below : List Frame} {meth : Method} {c : Code} {Q : State → Prop} {D : va_G} {cA : Nat → ClassId} {base sz0 : Nat} {H0 : Heap} (FX : CallFix p m c cX4_mixInto 6 s args wsX4_mixInto RX4) (hK : va_K D vwCl (tys cA) s) (hN : tN s) (hz : sz0 ≤ H0.size) {o0 : Nat} (ho0 : kc o0 = 4) (μ : MM) {cells slots : Nat} (hcs : cells ≤ 0 ∧ slots ≤ 0) :
    ∀ (n : Nat) (v3 : Int64) (v5 : Int32) (H : Heap) (locs : List Loc) (ls : Array Slot) (w3 : Int64), X4_mixInto_L5 o0 μ n v3 v5 = some w3 → va_P D vwCl (tw base cA μ []) H → va_S (tA base sz0) H0 H locs → lv_has ls 6 [(0, .ref (base + o0)), (3, .long v3), (5, .int v5)] → (∀ (H : Heap) (locs : List Loc) (ls : Array Slot), va_P D vwCl (tw base cA μ []) H → va_S (tA base sz0) H0 H locs → lv_has ls 6 [(3, .long w3)] → W p l e rmX4_mixInto s m args below meth c H locs cells slots Q (F0 m 48 ls [])) → W p l e rmX4_mixInto s m args below meth c H locs cells slots Q (F0 m 5 ls []) := by
  obtain ⟨hx, hb, hml, hown, hts⟩ := FX
  have hin4 : ∀ w ∈ wsX40, w ∈ wsX4_mixInto := by decide +kernel
  intro n
  induction n with
  | zero =>
    intro v3 v5 H locs ls w3 hm
    cases hm
  | succ n ih =>
    intro v3 v5 H locs ls w3 hm hP hS hl K
    rw [X4_mixInto_L5_s] at hm
    refine lv_iload hx hb dX4_mixInto_5 (lv_at hl 2 rfl) ?_
    refine lv_aload_n hx hb dX4_mixInto_7 rfl (lv_at hl 0 rfl) ?_
    refine t_geti (C := RX4) (T := TX4) (N := 3) hx hb hts hin4 hown hK hP ho0 rfl rfl 2 (by decide) (fk4_2 ho0) (hts _ (List.mem_of_getElem? (i := 1) rfl)) dX4_mixInto_8 ?_
    refine lv_icmp_ge (tgt := 48) hx hb dX4_mixInto_11 (by decide) (fun c1 => ?_) (fun c1 => ?_)
    · rw [if_pos c1] at hm
      cases hm
      exact K _ _ _ hP hS (lv_sub hl [1] rfl)
    · rw [if_neg c1] at hm
      refine lv_lload_n hx hb dX4_mixInto_14 rfl (lv_at hl 1 rfl) ?_
      refine lv_ldc2 (v := (31 : Int64)) hx hb hown (hts _ (List.mem_of_getElem? (i := 2) rfl)) dX4_mixInto_15 ?_
      refine lv_lmul hx hb dX4_mixInto_18 ?_
      refine lv_aload_n hx hb dX4_mixInto_19 rfl (lv_at hl 0 rfl) ?_
      refine lv_iload hx hb dX4_mixInto_20 (lv_at hl 2 rfl) ?_
      obtain ⟨r2, hc3, hm⟩ := bO1_inv hm
      refine t_cVi (As := [.int v5]) (rest := [.long (v3 * (31 : Int64))]) (μ' := μ) (r := r2) ⟨hx, hb, hml, hown, hts⟩ (mX4_wordAt l D cA base H.size μ ho0 v5 hc3) (cwV 1 hts gX4_mixInto_X4_wordAt rfl rfl rfl (by decide +kernel) ⟨Nat.le_of_ble_eq_true rfl, Nat.le_of_ble_eq_true rfl⟩) (va_recv hK hP (q0 := o0) rfl (tw_obj ho0 (by decide))) hK hN hP hS hz rfl hl.1 (Nat.le_of_ble_eq_true rfl) dX4_mixInto_22 hcs rfl (fun H locs hP hS => ?_)
      refine lv_i2l (v := r2.toInt64) hx hb dX4_mixInto_25 rfl ?_
      refine lv_ladd hx hb dX4_mixInto_26 ?_
      refine lv_topl (fun x4 ex4 => ?_)
      replace hm := bV_of hm ex4
      refine lv_lstore_n (lv' := [(3, .long x4), (0, .ref (base + o0)), (5, .int v5)]) hx hb dX4_mixInto_27 rfl hl (by decide) rfl (fun ls hl => ?_)
      refine lv_lload_n hx hb dX4_mixInto_28 rfl (lv_at hl 0 rfl) ?_
      refine lv_ldc2 (v := (31 : Int64)) hx hb hown (hts _ (List.mem_of_getElem? (i := 2) rfl)) dX4_mixInto_29 ?_
      refine lv_lmul hx hb dX4_mixInto_32 ?_
      refine lv_aload_n hx hb dX4_mixInto_33 rfl (lv_at hl 1 rfl) ?_
      refine lv_iload hx hb dX4_mixInto_34 (lv_at hl 2 rfl) ?_
      obtain ⟨r5, hc6, hm⟩ := bO1_inv hm
      refine t_cVi (As := [.int v5]) (rest := [.long (x4 * (31 : Int64))]) (μ' := μ) (r := r5) ⟨hx, hb, hml, hown, hts⟩ (mX4_tickAt l D cA base H.size μ ho0 v5 hc6) (cwV 1 hts gX4_mixInto_X4_tickAt rfl rfl rfl (by decide +kernel) ⟨Nat.le_of_ble_eq_true rfl, Nat.le_of_ble_eq_true rfl⟩) (va_recv hK hP (q0 := o0) rfl (tw_obj ho0 (by decide))) hK hN hP hS hz rfl hl.1 (Nat.le_of_ble_eq_true rfl) dX4_mixInto_36 hcs rfl (fun H locs hP hS => ?_)
      refine lv_i2l (v := r5.toInt64) hx hb dX4_mixInto_39 rfl ?_
      refine lv_ladd hx hb dX4_mixInto_40 ?_
      refine lv_topl (fun x7 ex7 => ?_)
      replace hm := bV_of hm ex7
      refine lv_lstore_n (lv' := [(3, .long x7), (0, .ref (base + o0)), (5, .int v5)]) hx hb dX4_mixInto_41 rfl hl (by decide) rfl (fun ls hl => ?_)
      obtain ⟨x8, ex8⟩ : ∃ z : Int32, z = v5 + (1 : Int32) := ⟨_, rfl⟩
      replace hm := bV_of hm ex8
      refine lv_iinc (v := x8) (lv' := [(5, .int x8), (3, .long x7), (0, .ref (base + o0))]) hx hb dX4_mixInto_42 hl (k := 2) rfl (by rw [ex8]; rfl) (by decide) rfl (fun ls hl => ?_)
      refine lv_goto (tgt := 5) hx hb dX4_mixInto_45 (by decide) ?_
      exact ih x7 x8 _ _ _ w3 hm hP hS (lv_sub hl [2, 1, 0] rfl) K
set_option maxHeartbeats 4000000 in
set_option maxRecDepth 100000 in
theorem mX4_mixInto (l : Launch) (D : va_G) (cA : Nat → ClassId) (base sz : Nat) (μ : MM) {q : Nat} (hq : kc q = 4) (a1 : Int64) {r : Int64} (hm : X4_mixInto q a1 μ = some r) : Met l yX4_mixInto wsX4_mixInto rmX4_mixInto (va_Pc [.ref (base + q), .long a1] (tPre D cA base sz μ)) (va_Ql (fun (x : Int64) (_ : Unit) => x = r) (fun _ => tPost D cA base μ) (tA base sz)) 0 0 (tA base sz) := by
  refine Met.ofW (cc := cX4_mixInto) (maxL := 6) (ret := (some .long)) (by decide +kernel) rfl ?_
  intro p e s m args below meth c s₁ B hml hv
  obtain ⟨rfl, hsz, hP, hK, hN⟩ := hv
  have hx := B.exec
  have hb := B.bytes
  have hr := B.returns
  have hts := atoms_spec (ws := wsX4_mixInto) B.pre
  have hown : s.vm.findClass RX4 = some m.cls := findClass_of_methodNamed B.named
  have hlocks := B.notSynchronized
  subst hsz
  have hS : va_S (tA base s.heap.size) s.heap s.heap [] := va_S.rf
  have hz : s.heap.size ≤ s.heap.size := Nat.le_refl _
  have hl := lv_entry ([.ref (base + q), .long a1]) (n := 6) (Nat.le_of_ble_eq_true rfl)
  rw [lg_entry_eq]
  generalize (lg_sl ([.ref (base + q), .long a1]) ++ List.replicate (6 - (lg_sl ([.ref (base + q), .long a1])).length) Slot.unset).toArray = ls at hl ⊢
  have hl : lv_has ls 6 [(0, .ref (base + q)), (1, .long a1)] := hl
  unfold X4_mixInto at hm
  refine lv_lload_n hx hb dX4_mixInto_0 rfl (lv_at hl 1 rfl) ?_
  refine lv_lstore_n (lv' := [(3, .long a1), (0, .ref (base + q)), (1, .long a1)]) hx hb dX4_mixInto_1 rfl hl (by decide) rfl (fun ls hl => ?_)
  refine lv_iconst (v := (0 : Int32)) hx hb dX4_mixInto_2 (by decide) ?_
  refine lv_istore (lv' := [(5, .int (0 : Int32)), (3, .long a1), (0, .ref (base + q)), (1, .long a1)]) hx hb dX4_mixInto_3 hl (by decide) rfl (fun ls hl => ?_)
  obtain ⟨x9, hc10, hm⟩ := bO1_inv hm
  refine lX4_mixInto_L5 ⟨hx, hb, hml, hown, hts⟩ hK hN hz hq μ ⟨Nat.le_of_ble_eq_true rfl, Nat.le_of_ble_eq_true rfl⟩ 1000 a1 (0 : Int32) _ _ _ x9 hc10 hP hS (lv_sub hl [2, 1, 0] rfl) ?_
  intro H locs ls hP hS hl
  refine lv_lload_n hx hb dX4_mixInto_48 rfl (lv_at hl 0 rfl) ?_
  cases hm
  exact W.lret hx hb hr (fun t ht hW => ⟨⟨_, (), rfl, rfl, tPost_of hP ht⟩, hS.F ht⟩) hS.2.2 dX4_mixInto_49
abbrev rmJ9_floorMod_7cf53 : Room := { frames := 0, cells := 0, slots := 0, locals := 0 }
set_option maxHeartbeats 4000000 in
set_option maxRecDepth 100000 in
theorem mJ9_floorMod_7cf53 (l : Launch) (D : va_G) (cA : Nat → ClassId) (base sz : Nat) (μ : MM) (a1 : Int32) (a2 : Int32) {r : Int32} (hm : J9_floorMod_7cf53 a1 a2 = some r) : Met l yJ9_floorMod_7cf53 wsJ9_floorMod_7cf53 rmJ9_floorMod_7cf53 (va_Pc [.int a1, .int a2] (tPre D cA base sz μ)) (va_Qi (fun (x : Int32) (_ : Unit) => x = r) (fun _ => tPost D cA base μ) (tA base sz)) 0 0 (tA base sz) := by
  refine va_MetF (cc := cJ9_floorMod_7cf53) (maxL := 3) (ret := (some .int)) (by decide +kernel) rfl ?_
  intro p e s m args below meth c s₁ B hml hv
  obtain ⟨rfl, hsz, hP, hK, hN⟩ := hv
  have hx := B.exec
  have hb := B.bytes
  have hr := B.returns
  have hts := atoms_spec (ws := wsJ9_floorMod_7cf53) B.pre
  have hown : s.vm.findClass RJ9 = some m.cls := findClass_of_methodNamed B.named
  have hlocks := B.notSynchronized
  subst hsz
  have hS : va_S (tA base s.heap.size) s.heap s.heap [] := va_S.rf
  have hz : s.heap.size ≤ s.heap.size := Nat.le_refl _
  have hl := lv_entry ([.int a1, .int a2]) (n := 3) (Nat.le_of_ble_eq_true rfl)
  rw [lg_entry_eq]
  generalize (lg_sl ([.int a1, .int a2]) ++ List.replicate (3 - (lg_sl ([.int a1, .int a2])).length) Slot.unset).toArray = ls at hl ⊢
  have hl : lv_has ls 3 [(0, .int a1), (1, .int a2)] := hl
  unfold J9_floorMod_7cf53 at hm
  refine lv_iload_n hx hb dJ9_floorMod_7cf53_0 rfl (lv_at hl 0 rfl) ?_
  refine lv_iload_n hx hb dJ9_floorMod_7cf53_1 rfl (lv_at hl 1 rfl) ?_
  obtain ⟨hg, hm⟩ := gd_inv hm
  refine lv_irem hx hb dJ9_floorMod_7cf53_2 hg ?_
  refine lv_topi (fun x1 ex1 => ?_)
  replace hm := bV_of hm ex1
  refine lv_istore_n (lv' := [(2, .int x1), (0, .int a1), (1, .int a2)]) hx hb dJ9_floorMod_7cf53_3 rfl hl (by decide) rfl (fun ls hl => ?_)
  refine lv_iload_n hx hb dJ9_floorMod_7cf53_4 rfl (lv_at hl 1 rfl) ?_
  refine lv_iload_n hx hb dJ9_floorMod_7cf53_5 rfl (lv_at hl 2 rfl) ?_
  refine lv_ixor hx hb dJ9_floorMod_7cf53_6 ?_
  refine lv_if_ge (tgt := 18) hx hb dJ9_floorMod_7cf53_7 (by decide) (fun c2 => ?_) (fun c2 => ?_)
  · rw [if_pos c2] at hm
    refine lv_iload_n hx hb dJ9_floorMod_7cf53_18 rfl (lv_at hl 0 rfl) ?_
    cases hm
    exact W.iret hx hb hr (fun t ht hW => ⟨⟨_, (), rfl, rfl, tPost_of hP ht⟩, hS.F ht⟩) hS.2.2 dJ9_floorMod_7cf53_19
  · rw [if_neg c2] at hm
    refine lv_iload_n hx hb dJ9_floorMod_7cf53_10 rfl (lv_at hl 0 rfl) ?_
    refine lv_if_eq (tgt := 18) hx hb dJ9_floorMod_7cf53_11 (by decide) (fun c3 => ?_) (fun c3 => ?_)
    · rw [if_pos c3] at hm
      refine lv_iload_n hx hb dJ9_floorMod_7cf53_18 rfl (lv_at hl 0 rfl) ?_
      cases hm
      exact W.iret hx hb hr (fun t ht hW => ⟨⟨_, (), rfl, rfl, tPost_of hP ht⟩, hS.F ht⟩) hS.2.2 dJ9_floorMod_7cf53_19
    · rw [if_neg c3] at hm
      refine lv_iload_n hx hb dJ9_floorMod_7cf53_14 rfl (lv_at hl 0 rfl) ?_
      refine lv_iload_n hx hb dJ9_floorMod_7cf53_15 rfl (lv_at hl 2 rfl) ?_
      refine lv_iadd hx hb dJ9_floorMod_7cf53_16 ?_
      cases hm
      exact W.iret hx hb hr (fun t ht hW => ⟨⟨_, (), rfl, rfl, tPost_of hP ht⟩, hS.F ht⟩) hS.2.2 dJ9_floorMod_7cf53_17
