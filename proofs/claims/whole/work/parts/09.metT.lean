abbrev rmX7_copy : Room := { frames := 1, cells := 0, slots := 0, locals := 40 }
set_option maxHeartbeats 4000000 in
set_option maxRecDepth 100000 in
theorem mX7_copy (l : Launch) (D : va_G) (cA : Nat → ClassId) (base sz : Nat) (μ : MM) {a1 : Nat} (ha1 : kc a1 = 100) {a2 : Nat} (ha2 : kc a2 = 100) {μ' : MM} (hm : X7_copy a1 a2 μ = some μ') : Met l yX7_copy wsX7_copy rmX7_copy (va_Pc [.ref (base + a1), .ref (base + a2)] (tPre D cA base sz μ)) (va_Qv (fun _ : Unit => True) (fun _ => tPost D cA base μ') (tA base sz)) 0 0 (tA base sz) := by
  refine Met.ofW (cc := cX7_copy) (maxL := 2) (ret := none) (by decide +kernel) rfl ?_
  intro p e s m args below meth c s₁ B hml hv
  obtain ⟨rfl, hsz, hP, hK, hN⟩ := hv
  have hx := B.exec
  have hb := B.bytes
  have hr := B.returns
  have hts := atoms_spec (ws := wsX7_copy) B.pre
  have hown : s.vm.findClass RX7 = some m.cls := findClass_of_methodNamed B.named
  have hlocks := B.notSynchronized
  subst hsz
  have hS : va_S (tA base s.heap.size) s.heap s.heap [] := va_S.rf
  have hz : s.heap.size ≤ s.heap.size := Nat.le_refl _
  have hl := lv_entry ([.ref (base + a1), .ref (base + a2)]) (n := 2) (Nat.le_of_ble_eq_true rfl)
  rw [lg_entry_eq]
  generalize (lg_sl ([.ref (base + a1), .ref (base + a2)]) ++ List.replicate (2 - (lg_sl ([.ref (base + a1), .ref (base + a2)])).length) Slot.unset).toArray = ls at hl ⊢
  have hl : lv_has ls 2 [(0, .ref (base + a1)), (1, .ref (base + a2))] := hl
  unfold X7_copy at hm
  refine lv_aload_n hx hb dX7_copy_0 rfl (lv_at hl 0 rfl) ?_
  refine lv_iconst (v := (0 : Int32)) hx hb dX7_copy_1 (by decide) ?_
  refine lv_aload_n hx hb dX7_copy_2 rfl (lv_at hl 1 rfl) ?_
  refine lv_iconst (v := (0 : Int32)) hx hb dX7_copy_3 (by decide) ?_
  refine lv_aload_n hx hb dX7_copy_4 rfl (lv_at hl 0 rfl) ?_
  refine t_alen hx hb hK hP ha1 dX7_copy_5 ?_
  obtain ⟨hg1, hm⟩ := gd_inv hm
  refine t_cpy hx hb (hml.trans hl.1.symm) hown (hts _ (List.mem_of_getElem? (i := 1) rfl)) (hts _ (List.mem_of_getElem? (i := 2) rfl)) (hts _ (List.mem_of_getElem? (i := 3) rfl)) (hts _ (List.mem_of_getElem? (i := 4) rfl)) hK hP (tD _ _ _ _) hS ha1 ha2 hg1 (Nat.le_of_ble_eq_true rfl) (Nat.le_of_ble_eq_true rfl) dX7_copy_6 (fun H locs hP hS => ?_)
  obtain ⟨μ2, eμ2⟩ : ∃ z : MM, z = wC μ a1 (0 : Int32).toNatClampNeg a2 (0 : Int32).toNatClampNeg (Int32.ofNat (al a1)).toNatClampNeg := ⟨_, rfl⟩
  rw [← eμ2] at hP
  replace hm := bV_of hm eμ2
  cases hm
  exact W.vret hx hb hr (fun t ht hW => ⟨⟨(), rfl, trivial, tPost_of hP ht⟩, hS.F ht⟩) hS.2.2 dX7_copy_9
abbrev rmX7_become : Room := { frames := 2, cells := 0, slots := 0, locals := 61 }
set_option maxHeartbeats 4000000 in
set_option maxRecDepth 100000 in
theorem mX7_become (l : Launch) (D : va_G) (cA : Nat → ClassId) (base sz : Nat) (μ : MM) {q : Nat} (hq : kc q = 7) {a1 : Nat} (ha1 : kc a1 = 7) {μ' : MM} (hm : X7_become q a1 μ = some μ') : Met l yX7_become wsX7_become rmX7_become (va_Pc [.ref (base + q), .ref (base + a1)] (tPre D cA base sz μ)) (va_Qv (fun _ : Unit => True) (fun _ => tPost D cA base μ') (tA base sz)) 0 0 (tA base sz) := by
  refine Met.ofW (cc := cX7_become) (maxL := 2) (ret := none) (by decide +kernel) rfl ?_
  intro p e s m args below meth c s₁ B hml hv
  obtain ⟨rfl, hsz, hP, hK, hN⟩ := hv
  have hx := B.exec
  have hb := B.bytes
  have hr := B.returns
  have hts := atoms_spec (ws := wsX7_become) B.pre
  have hown : s.vm.findClass RX7 = some m.cls := findClass_of_methodNamed B.named
  have hlocks := B.notSynchronized
  have hin7 : ∀ w ∈ wsX70, w ∈ wsX7_become := by decide +kernel
  subst hsz
  have hS : va_S (tA base s.heap.size) s.heap s.heap [] := va_S.rf
  have hz : s.heap.size ≤ s.heap.size := Nat.le_refl _
  have hl := lv_entry ([.ref (base + q), .ref (base + a1)]) (n := 2) (Nat.le_of_ble_eq_true rfl)
  rw [lg_entry_eq]
  generalize (lg_sl ([.ref (base + q), .ref (base + a1)]) ++ List.replicate (2 - (lg_sl ([.ref (base + q), .ref (base + a1)])).length) Slot.unset).toArray = ls at hl ⊢
  have hl : lv_has ls 2 [(0, .ref (base + q)), (1, .ref (base + a1))] := hl
  unfold X7_become at hm
  refine lv_aload_n hx hb dX7_become_0 rfl (lv_at hl 0 rfl) ?_
  refine lv_aload_n hx hb dX7_become_1 rfl (lv_at hl 1 rfl) ?_
  refine t_geti (C := RX7) (T := TX7) (N := 26) hx hb hts hin7 hown hK hP ha1 rfl rfl 0 (by decide) (fk7_0 ha1) (hts _ (List.mem_of_getElem? (i := 1) rfl)) dX7_become_2 ?_
  refine t_put (C := RX7) (T := TX7) (N := 26) hx hb hts hin7 tyX7 tyX7_ok nmX7 hown hK hP (tD _ _ _ _) hS hq rfl rfl 0 (by decide) (fk7_0 hq) (hts _ (List.mem_of_getElem? (i := 1) rfl)) rfl (by decide +kernel) dX7_become_5 (fun H locs hP hS => ?_)
  obtain ⟨μ1, eμ1⟩ : ∃ z : MM, z = wI μ q 0 (rI μ a1 0) := ⟨_, rfl⟩
  rw [← eμ1] at hP
  replace hm := bV_of hm eμ1
  refine lv_aload_n hx hb dX7_become_8 rfl (lv_at hl 0 rfl) ?_
  refine lv_aload_n hx hb dX7_become_9 rfl (lv_at hl 1 rfl) ?_
  refine t_geti (C := RX7) (T := TX7) (N := 26) hx hb hts hin7 hown hK hP ha1 rfl rfl 1 (by decide) (fk7_1 ha1) (hts _ (List.mem_of_getElem? (i := 2) rfl)) dX7_become_10 ?_
  refine t_put (C := RX7) (T := TX7) (N := 26) hx hb hts hin7 tyX7 tyX7_ok nmX7 hown hK hP (tD _ _ _ _) hS hq rfl rfl 1 (by decide) (fk7_1 hq) (hts _ (List.mem_of_getElem? (i := 2) rfl)) rfl (by decide +kernel) dX7_become_13 (fun H locs hP hS => ?_)
  obtain ⟨μ2, eμ2⟩ : ∃ z : MM, z = wI μ1 q 1 (rI μ1 a1 1) := ⟨_, rfl⟩
  rw [← eμ2] at hP
  replace hm := bV_of hm eμ2
  refine lv_aload_n hx hb dX7_become_16 rfl (lv_at hl 0 rfl) ?_
  refine lv_aload_n hx hb dX7_become_17 rfl (lv_at hl 1 rfl) ?_
  refine t_geti (C := RX7) (T := TX7) (N := 26) hx hb hts hin7 hown hK hP ha1 rfl rfl 3 (by decide) (fk7_3 ha1) (hts _ (List.mem_of_getElem? (i := 3) rfl)) dX7_become_18 ?_
  refine t_put (C := RX7) (T := TX7) (N := 26) hx hb hts hin7 tyX7 tyX7_ok nmX7 hown hK hP (tD _ _ _ _) hS hq rfl rfl 3 (by decide) (fk7_3 hq) (hts _ (List.mem_of_getElem? (i := 3) rfl)) rfl (by decide +kernel) dX7_become_21 (fun H locs hP hS => ?_)
  obtain ⟨μ3, eμ3⟩ : ∃ z : MM, z = wI μ2 q 3 (rI μ2 a1 3) := ⟨_, rfl⟩
  rw [← eμ3] at hP
  replace hm := bV_of hm eμ3
  refine lv_aload_n hx hb dX7_become_24 rfl (lv_at hl 0 rfl) ?_
  refine lv_aload_n hx hb dX7_become_25 rfl (lv_at hl 1 rfl) ?_
  refine t_geti (C := RX7) (T := TX7) (N := 26) hx hb hts hin7 hown hK hP ha1 rfl rfl 4 (by decide) (fk7_4 ha1) (hts _ (List.mem_of_getElem? (i := 4) rfl)) dX7_become_26 ?_
  refine t_put (C := RX7) (T := TX7) (N := 26) hx hb hts hin7 tyX7 tyX7_ok nmX7 hown hK hP (tD _ _ _ _) hS hq rfl rfl 4 (by decide) (fk7_4 hq) (hts _ (List.mem_of_getElem? (i := 4) rfl)) rfl (by decide +kernel) dX7_become_29 (fun H locs hP hS => ?_)
  obtain ⟨μ4, eμ4⟩ : ∃ z : MM, z = wI μ3 q 4 (rI μ3 a1 4) := ⟨_, rfl⟩
  rw [← eμ4] at hP
  replace hm := bV_of hm eμ4
  refine lv_aload_n hx hb dX7_become_32 rfl (lv_at hl 0 rfl) ?_
  refine lv_aload_n hx hb dX7_become_33 rfl (lv_at hl 1 rfl) ?_
  refine t_geti (C := RX7) (T := TX7) (N := 26) hx hb hts hin7 hown hK hP ha1 rfl rfl 11 (by decide) (fk7_11 ha1) (hts _ (List.mem_of_getElem? (i := 5) rfl)) dX7_become_34 ?_
  refine t_put (C := RX7) (T := TX7) (N := 26) hx hb hts hin7 tyX7 tyX7_ok nmX7 hown hK hP (tD _ _ _ _) hS hq rfl rfl 11 (by decide) (fk7_11 hq) (hts _ (List.mem_of_getElem? (i := 5) rfl)) rfl (by decide +kernel) dX7_become_37 (fun H locs hP hS => ?_)
  obtain ⟨μ5, eμ5⟩ : ∃ z : MM, z = wI μ4 q 11 (rI μ4 a1 11) := ⟨_, rfl⟩
  rw [← eμ5] at hP
  replace hm := bV_of hm eμ5
  refine lv_aload_n hx hb dX7_become_40 rfl (lv_at hl 1 rfl) ?_
  refine t_getr (C := RX7) (T := TX7) (N := 26) hx hb hts hin7 hown hK hP ha1 rfl rfl 2 (by decide) (fr7_2 ha1) (hts _ (List.mem_of_getElem? (i := 6) rfl)) dX7_become_41 ?_
  refine lv_aload_n hx hb dX7_become_44 rfl (lv_at hl 0 rfl) ?_
  refine t_getr (C := RX7) (T := TX7) (N := 26) hx hb hts hin7 hown hK hP hq rfl rfl 2 (by decide) (fr7_2 hq) (hts _ (List.mem_of_getElem? (i := 6) rfl)) dX7_become_45 ?_
  obtain ⟨μ6, hc7, hm⟩ := bO1_inv hm
  refine t_cSv (As := [.ref (base + (RF a1 2)), .ref (base + (RF q 2))]) (rest := []) (μ' := μ6) ⟨hx, hb, hml, hown, hts⟩ (mX7_copy l D cA base H.size μ5 (kr7_2 ha1) (kr7_2 hq) hc7) (va_cwS 2 hts gX7_become_X7_copy rfl rfl rfl (by decide +kernel) ⟨Nat.le_of_ble_eq_true rfl, Nat.le_of_ble_eq_true rfl⟩) hK hN hP hS hz rfl hl.1 (Nat.le_of_ble_eq_true rfl) dX7_become_48 ⟨Nat.le_of_ble_eq_true rfl, Nat.le_of_ble_eq_true rfl⟩ rfl (fun H locs hP hS => ?_)
  refine lv_aload_n hx hb dX7_become_51 rfl (lv_at hl 1 rfl) ?_
  refine t_getr (C := RX7) (T := TX7) (N := 26) hx hb hts hin7 hown hK hP ha1 rfl rfl 5 (by decide) (fr7_5 ha1) (hts _ (List.mem_of_getElem? (i := 7) rfl)) dX7_become_52 ?_
  refine lv_aload_n hx hb dX7_become_55 rfl (lv_at hl 0 rfl) ?_
  refine t_getr (C := RX7) (T := TX7) (N := 26) hx hb hts hin7 hown hK hP hq rfl rfl 5 (by decide) (fr7_5 hq) (hts _ (List.mem_of_getElem? (i := 7) rfl)) dX7_become_56 ?_
  obtain ⟨μ8, hc9, hm⟩ := bO1_inv hm
  refine t_cSv (As := [.ref (base + (RF a1 5)), .ref (base + (RF q 5))]) (rest := []) (μ' := μ8) ⟨hx, hb, hml, hown, hts⟩ (mX7_copy l D cA base H.size μ6 (kr7_5 ha1) (kr7_5 hq) hc9) (va_cwS 2 hts gX7_become_X7_copy rfl rfl rfl (by decide +kernel) ⟨Nat.le_of_ble_eq_true rfl, Nat.le_of_ble_eq_true rfl⟩) hK hN hP hS hz rfl hl.1 (Nat.le_of_ble_eq_true rfl) dX7_become_59 ⟨Nat.le_of_ble_eq_true rfl, Nat.le_of_ble_eq_true rfl⟩ rfl (fun H locs hP hS => ?_)
  refine lv_aload_n hx hb dX7_become_62 rfl (lv_at hl 1 rfl) ?_
  refine t_getr (C := RX7) (T := TX7) (N := 26) hx hb hts hin7 hown hK hP ha1 rfl rfl 6 (by decide) (fr7_6 ha1) (hts _ (List.mem_of_getElem? (i := 8) rfl)) dX7_become_63 ?_
  refine lv_aload_n hx hb dX7_become_66 rfl (lv_at hl 0 rfl) ?_
  refine t_getr (C := RX7) (T := TX7) (N := 26) hx hb hts hin7 hown hK hP hq rfl rfl 6 (by decide) (fr7_6 hq) (hts _ (List.mem_of_getElem? (i := 8) rfl)) dX7_become_67 ?_
  obtain ⟨μ10, hc11, hm⟩ := bO1_inv hm
  refine t_cSv (As := [.ref (base + (RF a1 6)), .ref (base + (RF q 6))]) (rest := []) (μ' := μ10) ⟨hx, hb, hml, hown, hts⟩ (mX7_copy l D cA base H.size μ8 (kr7_6 ha1) (kr7_6 hq) hc11) (va_cwS 2 hts gX7_become_X7_copy rfl rfl rfl (by decide +kernel) ⟨Nat.le_of_ble_eq_true rfl, Nat.le_of_ble_eq_true rfl⟩) hK hN hP hS hz rfl hl.1 (Nat.le_of_ble_eq_true rfl) dX7_become_70 ⟨Nat.le_of_ble_eq_true rfl, Nat.le_of_ble_eq_true rfl⟩ rfl (fun H locs hP hS => ?_)
  refine lv_aload_n hx hb dX7_become_73 rfl (lv_at hl 1 rfl) ?_
  refine t_getr (C := RX7) (T := TX7) (N := 26) hx hb hts hin7 hown hK hP ha1 rfl rfl 7 (by decide) (fr7_7 ha1) (hts _ (List.mem_of_getElem? (i := 9) rfl)) dX7_become_74 ?_
  refine lv_aload_n hx hb dX7_become_77 rfl (lv_at hl 0 rfl) ?_
  refine t_getr (C := RX7) (T := TX7) (N := 26) hx hb hts hin7 hown hK hP hq rfl rfl 7 (by decide) (fr7_7 hq) (hts _ (List.mem_of_getElem? (i := 9) rfl)) dX7_become_78 ?_
  obtain ⟨μ12, hc13, hm⟩ := bO1_inv hm
  refine t_cSv (As := [.ref (base + (RF a1 7)), .ref (base + (RF q 7))]) (rest := []) (μ' := μ12) ⟨hx, hb, hml, hown, hts⟩ (mX7_copy l D cA base H.size μ10 (kr7_7 ha1) (kr7_7 hq) hc13) (va_cwS 2 hts gX7_become_X7_copy rfl rfl rfl (by decide +kernel) ⟨Nat.le_of_ble_eq_true rfl, Nat.le_of_ble_eq_true rfl⟩) hK hN hP hS hz rfl hl.1 (Nat.le_of_ble_eq_true rfl) dX7_become_81 ⟨Nat.le_of_ble_eq_true rfl, Nat.le_of_ble_eq_true rfl⟩ rfl (fun H locs hP hS => ?_)
  refine lv_aload_n hx hb dX7_become_84 rfl (lv_at hl 1 rfl) ?_
  refine t_getr (C := RX7) (T := TX7) (N := 26) hx hb hts hin7 hown hK hP ha1 rfl rfl 8 (by decide) (fr7_8 ha1) (hts _ (List.mem_of_getElem? (i := 10) rfl)) dX7_become_85 ?_
  refine lv_aload_n hx hb dX7_become_88 rfl (lv_at hl 0 rfl) ?_
  refine t_getr (C := RX7) (T := TX7) (N := 26) hx hb hts hin7 hown hK hP hq rfl rfl 8 (by decide) (fr7_8 hq) (hts _ (List.mem_of_getElem? (i := 10) rfl)) dX7_become_89 ?_
  obtain ⟨μ14, hc15, hm⟩ := bO1_inv hm
  refine t_cSv (As := [.ref (base + (RF a1 8)), .ref (base + (RF q 8))]) (rest := []) (μ' := μ14) ⟨hx, hb, hml, hown, hts⟩ (mX7_copy l D cA base H.size μ12 (kr7_8 ha1) (kr7_8 hq) hc15) (va_cwS 2 hts gX7_become_X7_copy rfl rfl rfl (by decide +kernel) ⟨Nat.le_of_ble_eq_true rfl, Nat.le_of_ble_eq_true rfl⟩) hK hN hP hS hz rfl hl.1 (Nat.le_of_ble_eq_true rfl) dX7_become_92 ⟨Nat.le_of_ble_eq_true rfl, Nat.le_of_ble_eq_true rfl⟩ rfl (fun H locs hP hS => ?_)
  refine lv_aload_n hx hb dX7_become_95 rfl (lv_at hl 1 rfl) ?_
  refine t_getr (C := RX7) (T := TX7) (N := 26) hx hb hts hin7 hown hK hP ha1 rfl rfl 9 (by decide) (fr7_9 ha1) (hts _ (List.mem_of_getElem? (i := 11) rfl)) dX7_become_96 ?_
  refine lv_aload_n hx hb dX7_become_99 rfl (lv_at hl 0 rfl) ?_
  refine t_getr (C := RX7) (T := TX7) (N := 26) hx hb hts hin7 hown hK hP hq rfl rfl 9 (by decide) (fr7_9 hq) (hts _ (List.mem_of_getElem? (i := 11) rfl)) dX7_become_100 ?_
  obtain ⟨μ16, hc17, hm⟩ := bO1_inv hm
  refine t_cSv (As := [.ref (base + (RF a1 9)), .ref (base + (RF q 9))]) (rest := []) (μ' := μ16) ⟨hx, hb, hml, hown, hts⟩ (mX7_copy l D cA base H.size μ14 (kr7_9 ha1) (kr7_9 hq) hc17) (va_cwS 2 hts gX7_become_X7_copy rfl rfl rfl (by decide +kernel) ⟨Nat.le_of_ble_eq_true rfl, Nat.le_of_ble_eq_true rfl⟩) hK hN hP hS hz rfl hl.1 (Nat.le_of_ble_eq_true rfl) dX7_become_103 ⟨Nat.le_of_ble_eq_true rfl, Nat.le_of_ble_eq_true rfl⟩ rfl (fun H locs hP hS => ?_)
  refine lv_aload_n hx hb dX7_become_106 rfl (lv_at hl 1 rfl) ?_
  refine t_getr (C := RX7) (T := TX7) (N := 26) hx hb hts hin7 hown hK hP ha1 rfl rfl 10 (by decide) (fr7_10 ha1) (hts _ (List.mem_of_getElem? (i := 12) rfl)) dX7_become_107 ?_
  refine lv_aload_n hx hb dX7_become_110 rfl (lv_at hl 0 rfl) ?_
  refine t_getr (C := RX7) (T := TX7) (N := 26) hx hb hts hin7 hown hK hP hq rfl rfl 10 (by decide) (fr7_10 hq) (hts _ (List.mem_of_getElem? (i := 12) rfl)) dX7_become_111 ?_
  obtain ⟨μ18, hc19, hm⟩ := bO1_inv hm
  refine t_cSv (As := [.ref (base + (RF a1 10)), .ref (base + (RF q 10))]) (rest := []) (μ' := μ18) ⟨hx, hb, hml, hown, hts⟩ (mX7_copy l D cA base H.size μ16 (kr7_10 ha1) (kr7_10 hq) hc19) (va_cwS 2 hts gX7_become_X7_copy rfl rfl rfl (by decide +kernel) ⟨Nat.le_of_ble_eq_true rfl, Nat.le_of_ble_eq_true rfl⟩) hK hN hP hS hz rfl hl.1 (Nat.le_of_ble_eq_true rfl) dX7_become_114 ⟨Nat.le_of_ble_eq_true rfl, Nat.le_of_ble_eq_true rfl⟩ rfl (fun H locs hP hS => ?_)
  refine lv_aload_n hx hb dX7_become_117 rfl (lv_at hl 1 rfl) ?_
  refine t_getr (C := RX7) (T := TX7) (N := 26) hx hb hts hin7 hown hK hP ha1 rfl rfl 12 (by decide) (fr7_12 ha1) (hts _ (List.mem_of_getElem? (i := 13) rfl)) dX7_become_118 ?_
  refine lv_aload_n hx hb dX7_become_121 rfl (lv_at hl 0 rfl) ?_
  refine t_getr (C := RX7) (T := TX7) (N := 26) hx hb hts hin7 hown hK hP hq rfl rfl 12 (by decide) (fr7_12 hq) (hts _ (List.mem_of_getElem? (i := 13) rfl)) dX7_become_122 ?_
  obtain ⟨μ20, hc21, hm⟩ := bO1_inv hm
  refine t_cSv (As := [.ref (base + (RF a1 12)), .ref (base + (RF q 12))]) (rest := []) (μ' := μ20) ⟨hx, hb, hml, hown, hts⟩ (mX7_copy l D cA base H.size μ18 (kr7_12 ha1) (kr7_12 hq) hc21) (va_cwS 2 hts gX7_become_X7_copy rfl rfl rfl (by decide +kernel) ⟨Nat.le_of_ble_eq_true rfl, Nat.le_of_ble_eq_true rfl⟩) hK hN hP hS hz rfl hl.1 (Nat.le_of_ble_eq_true rfl) dX7_become_125 ⟨Nat.le_of_ble_eq_true rfl, Nat.le_of_ble_eq_true rfl⟩ rfl (fun H locs hP hS => ?_)
  refine lv_aload_n hx hb dX7_become_128 rfl (lv_at hl 1 rfl) ?_
  refine t_getr (C := RX7) (T := TX7) (N := 26) hx hb hts hin7 hown hK hP ha1 rfl rfl 13 (by decide) (fr7_13 ha1) (hts _ (List.mem_of_getElem? (i := 14) rfl)) dX7_become_129 ?_
  refine lv_aload_n hx hb dX7_become_132 rfl (lv_at hl 0 rfl) ?_
  refine t_getr (C := RX7) (T := TX7) (N := 26) hx hb hts hin7 hown hK hP hq rfl rfl 13 (by decide) (fr7_13 hq) (hts _ (List.mem_of_getElem? (i := 14) rfl)) dX7_become_133 ?_
  obtain ⟨μ22, hc23, hm⟩ := bO1_inv hm
  refine t_cSv (As := [.ref (base + (RF a1 13)), .ref (base + (RF q 13))]) (rest := []) (μ' := μ22) ⟨hx, hb, hml, hown, hts⟩ (mX7_copy l D cA base H.size μ20 (kr7_13 ha1) (kr7_13 hq) hc23) (va_cwS 2 hts gX7_become_X7_copy rfl rfl rfl (by decide +kernel) ⟨Nat.le_of_ble_eq_true rfl, Nat.le_of_ble_eq_true rfl⟩) hK hN hP hS hz rfl hl.1 (Nat.le_of_ble_eq_true rfl) dX7_become_136 ⟨Nat.le_of_ble_eq_true rfl, Nat.le_of_ble_eq_true rfl⟩ rfl (fun H locs hP hS => ?_)
  refine lv_aload_n hx hb dX7_become_139 rfl (lv_at hl 1 rfl) ?_
  refine t_getr (C := RX7) (T := TX7) (N := 26) hx hb hts hin7 hown hK hP ha1 rfl rfl 14 (by decide) (fr7_14 ha1) (hts _ (List.mem_of_getElem? (i := 15) rfl)) dX7_become_140 ?_
  refine lv_aload_n hx hb dX7_become_143 rfl (lv_at hl 0 rfl) ?_
  refine t_getr (C := RX7) (T := TX7) (N := 26) hx hb hts hin7 hown hK hP hq rfl rfl 14 (by decide) (fr7_14 hq) (hts _ (List.mem_of_getElem? (i := 15) rfl)) dX7_become_144 ?_
  obtain ⟨μ24, hc25, hm⟩ := bO1_inv hm
  refine t_cSv (As := [.ref (base + (RF a1 14)), .ref (base + (RF q 14))]) (rest := []) (μ' := μ24) ⟨hx, hb, hml, hown, hts⟩ (mX7_copy l D cA base H.size μ22 (kr7_14 ha1) (kr7_14 hq) hc25) (va_cwS 2 hts gX7_become_X7_copy rfl rfl rfl (by decide +kernel) ⟨Nat.le_of_ble_eq_true rfl, Nat.le_of_ble_eq_true rfl⟩) hK hN hP hS hz rfl hl.1 (Nat.le_of_ble_eq_true rfl) dX7_become_147 ⟨Nat.le_of_ble_eq_true rfl, Nat.le_of_ble_eq_true rfl⟩ rfl (fun H locs hP hS => ?_)
  refine lv_aload_n hx hb dX7_become_150 rfl (lv_at hl 1 rfl) ?_
  refine t_getr (C := RX7) (T := TX7) (N := 26) hx hb hts hin7 hown hK hP ha1 rfl rfl 15 (by decide) (fr7_15 ha1) (hts _ (List.mem_of_getElem? (i := 16) rfl)) dX7_become_151 ?_
  refine lv_aload_n hx hb dX7_become_154 rfl (lv_at hl 0 rfl) ?_
  refine t_getr (C := RX7) (T := TX7) (N := 26) hx hb hts hin7 hown hK hP hq rfl rfl 15 (by decide) (fr7_15 hq) (hts _ (List.mem_of_getElem? (i := 16) rfl)) dX7_become_155 ?_
  obtain ⟨μ26, hc27, hm⟩ := bO1_inv hm
  refine t_cSv (As := [.ref (base + (RF a1 15)), .ref (base + (RF q 15))]) (rest := []) (μ' := μ26) ⟨hx, hb, hml, hown, hts⟩ (mX7_copy l D cA base H.size μ24 (kr7_15 ha1) (kr7_15 hq) hc27) (va_cwS 2 hts gX7_become_X7_copy rfl rfl rfl (by decide +kernel) ⟨Nat.le_of_ble_eq_true rfl, Nat.le_of_ble_eq_true rfl⟩) hK hN hP hS hz rfl hl.1 (Nat.le_of_ble_eq_true rfl) dX7_become_158 ⟨Nat.le_of_ble_eq_true rfl, Nat.le_of_ble_eq_true rfl⟩ rfl (fun H locs hP hS => ?_)
  refine lv_aload_n hx hb dX7_become_161 rfl (lv_at hl 1 rfl) ?_
  refine t_getr (C := RX7) (T := TX7) (N := 26) hx hb hts hin7 hown hK hP ha1 rfl rfl 16 (by decide) (fr7_16 ha1) (hts _ (List.mem_of_getElem? (i := 17) rfl)) dX7_become_162 ?_
  refine lv_aload_n hx hb dX7_become_165 rfl (lv_at hl 0 rfl) ?_
  refine t_getr (C := RX7) (T := TX7) (N := 26) hx hb hts hin7 hown hK hP hq rfl rfl 16 (by decide) (fr7_16 hq) (hts _ (List.mem_of_getElem? (i := 17) rfl)) dX7_become_166 ?_
  obtain ⟨μ28, hc29, hm⟩ := bO1_inv hm
  refine t_cSv (As := [.ref (base + (RF a1 16)), .ref (base + (RF q 16))]) (rest := []) (μ' := μ28) ⟨hx, hb, hml, hown, hts⟩ (mX7_copy l D cA base H.size μ26 (kr7_16 ha1) (kr7_16 hq) hc29) (va_cwS 2 hts gX7_become_X7_copy rfl rfl rfl (by decide +kernel) ⟨Nat.le_of_ble_eq_true rfl, Nat.le_of_ble_eq_true rfl⟩) hK hN hP hS hz rfl hl.1 (Nat.le_of_ble_eq_true rfl) dX7_become_169 ⟨Nat.le_of_ble_eq_true rfl, Nat.le_of_ble_eq_true rfl⟩ rfl (fun H locs hP hS => ?_)
  refine lv_aload_n hx hb dX7_become_172 rfl (lv_at hl 1 rfl) ?_
  refine t_getr (C := RX7) (T := TX7) (N := 26) hx hb hts hin7 hown hK hP ha1 rfl rfl 17 (by decide) (fr7_17 ha1) (hts _ (List.mem_of_getElem? (i := 18) rfl)) dX7_become_173 ?_
  refine lv_aload_n hx hb dX7_become_176 rfl (lv_at hl 0 rfl) ?_
  refine t_getr (C := RX7) (T := TX7) (N := 26) hx hb hts hin7 hown hK hP hq rfl rfl 17 (by decide) (fr7_17 hq) (hts _ (List.mem_of_getElem? (i := 18) rfl)) dX7_become_177 ?_
  obtain ⟨μ30, hc31, hm⟩ := bO1_inv hm
  refine t_cSv (As := [.ref (base + (RF a1 17)), .ref (base + (RF q 17))]) (rest := []) (μ' := μ30) ⟨hx, hb, hml, hown, hts⟩ (mX7_copy l D cA base H.size μ28 (kr7_17 ha1) (kr7_17 hq) hc31) (va_cwS 2 hts gX7_become_X7_copy rfl rfl rfl (by decide +kernel) ⟨Nat.le_of_ble_eq_true rfl, Nat.le_of_ble_eq_true rfl⟩) hK hN hP hS hz rfl hl.1 (Nat.le_of_ble_eq_true rfl) dX7_become_180 ⟨Nat.le_of_ble_eq_true rfl, Nat.le_of_ble_eq_true rfl⟩ rfl (fun H locs hP hS => ?_)
  refine lv_aload_n hx hb dX7_become_183 rfl (lv_at hl 1 rfl) ?_
  refine t_getr (C := RX7) (T := TX7) (N := 26) hx hb hts hin7 hown hK hP ha1 rfl rfl 18 (by decide) (fr7_18 ha1) (hts _ (List.mem_of_getElem? (i := 19) rfl)) dX7_become_184 ?_
  refine lv_aload_n hx hb dX7_become_187 rfl (lv_at hl 0 rfl) ?_
  refine t_getr (C := RX7) (T := TX7) (N := 26) hx hb hts hin7 hown hK hP hq rfl rfl 18 (by decide) (fr7_18 hq) (hts _ (List.mem_of_getElem? (i := 19) rfl)) dX7_become_188 ?_
  obtain ⟨μ32, hc33, hm⟩ := bO1_inv hm
  refine t_cSv (As := [.ref (base + (RF a1 18)), .ref (base + (RF q 18))]) (rest := []) (μ' := μ32) ⟨hx, hb, hml, hown, hts⟩ (mX7_copy l D cA base H.size μ30 (kr7_18 ha1) (kr7_18 hq) hc33) (va_cwS 2 hts gX7_become_X7_copy rfl rfl rfl (by decide +kernel) ⟨Nat.le_of_ble_eq_true rfl, Nat.le_of_ble_eq_true rfl⟩) hK hN hP hS hz rfl hl.1 (Nat.le_of_ble_eq_true rfl) dX7_become_191 ⟨Nat.le_of_ble_eq_true rfl, Nat.le_of_ble_eq_true rfl⟩ rfl (fun H locs hP hS => ?_)
  refine lv_aload_n hx hb dX7_become_194 rfl (lv_at hl 1 rfl) ?_
  refine t_getr (C := RX7) (T := TX7) (N := 26) hx hb hts hin7 hown hK hP ha1 rfl rfl 19 (by decide) (fr7_19 ha1) (hts _ (List.mem_of_getElem? (i := 20) rfl)) dX7_become_195 ?_
  refine lv_aload_n hx hb dX7_become_198 rfl (lv_at hl 0 rfl) ?_
  refine t_getr (C := RX7) (T := TX7) (N := 26) hx hb hts hin7 hown hK hP hq rfl rfl 19 (by decide) (fr7_19 hq) (hts _ (List.mem_of_getElem? (i := 20) rfl)) dX7_become_199 ?_
  obtain ⟨μ34, hc35, hm⟩ := bO1_inv hm
  refine t_cSv (As := [.ref (base + (RF a1 19)), .ref (base + (RF q 19))]) (rest := []) (μ' := μ34) ⟨hx, hb, hml, hown, hts⟩ (mX7_copy l D cA base H.size μ32 (kr7_19 ha1) (kr7_19 hq) hc35) (va_cwS 2 hts gX7_become_X7_copy rfl rfl rfl (by decide +kernel) ⟨Nat.le_of_ble_eq_true rfl, Nat.le_of_ble_eq_true rfl⟩) hK hN hP hS hz rfl hl.1 (Nat.le_of_ble_eq_true rfl) dX7_become_202 ⟨Nat.le_of_ble_eq_true rfl, Nat.le_of_ble_eq_true rfl⟩ rfl (fun H locs hP hS => ?_)
  refine lv_aload_n hx hb dX7_become_205 rfl (lv_at hl 1 rfl) ?_
  refine t_getr (C := RX7) (T := TX7) (N := 26) hx hb hts hin7 hown hK hP ha1 rfl rfl 20 (by decide) (fr7_20 ha1) (hts _ (List.mem_of_getElem? (i := 21) rfl)) dX7_become_206 ?_
  refine lv_aload_n hx hb dX7_become_209 rfl (lv_at hl 0 rfl) ?_
  refine t_getr (C := RX7) (T := TX7) (N := 26) hx hb hts hin7 hown hK hP hq rfl rfl 20 (by decide) (fr7_20 hq) (hts _ (List.mem_of_getElem? (i := 21) rfl)) dX7_become_210 ?_
  obtain ⟨μ36, hc37, hm⟩ := bO1_inv hm
  refine t_cSv (As := [.ref (base + (RF a1 20)), .ref (base + (RF q 20))]) (rest := []) (μ' := μ36) ⟨hx, hb, hml, hown, hts⟩ (mX7_copy l D cA base H.size μ34 (kr7_20 ha1) (kr7_20 hq) hc37) (va_cwS 2 hts gX7_become_X7_copy rfl rfl rfl (by decide +kernel) ⟨Nat.le_of_ble_eq_true rfl, Nat.le_of_ble_eq_true rfl⟩) hK hN hP hS hz rfl hl.1 (Nat.le_of_ble_eq_true rfl) dX7_become_213 ⟨Nat.le_of_ble_eq_true rfl, Nat.le_of_ble_eq_true rfl⟩ rfl (fun H locs hP hS => ?_)
  refine lv_aload_n hx hb dX7_become_216 rfl (lv_at hl 1 rfl) ?_
  refine t_getr (C := RX7) (T := TX7) (N := 26) hx hb hts hin7 hown hK hP ha1 rfl rfl 21 (by decide) (fr7_21 ha1) (hts _ (List.mem_of_getElem? (i := 22) rfl)) dX7_become_217 ?_
  refine lv_aload_n hx hb dX7_become_220 rfl (lv_at hl 0 rfl) ?_
  refine t_getr (C := RX7) (T := TX7) (N := 26) hx hb hts hin7 hown hK hP hq rfl rfl 21 (by decide) (fr7_21 hq) (hts _ (List.mem_of_getElem? (i := 22) rfl)) dX7_become_221 ?_
  obtain ⟨μ38, hc39, hm⟩ := bO1_inv hm
  refine t_cSv (As := [.ref (base + (RF a1 21)), .ref (base + (RF q 21))]) (rest := []) (μ' := μ38) ⟨hx, hb, hml, hown, hts⟩ (mX7_copy l D cA base H.size μ36 (kr7_21 ha1) (kr7_21 hq) hc39) (va_cwS 2 hts gX7_become_X7_copy rfl rfl rfl (by decide +kernel) ⟨Nat.le_of_ble_eq_true rfl, Nat.le_of_ble_eq_true rfl⟩) hK hN hP hS hz rfl hl.1 (Nat.le_of_ble_eq_true rfl) dX7_become_224 ⟨Nat.le_of_ble_eq_true rfl, Nat.le_of_ble_eq_true rfl⟩ rfl (fun H locs hP hS => ?_)
  refine lv_aload_n hx hb dX7_become_227 rfl (lv_at hl 1 rfl) ?_
  refine t_getr (C := RX7) (T := TX7) (N := 26) hx hb hts hin7 hown hK hP ha1 rfl rfl 22 (by decide) (fr7_22 ha1) (hts _ (List.mem_of_getElem? (i := 23) rfl)) dX7_become_228 ?_
  refine lv_aload_n hx hb dX7_become_231 rfl (lv_at hl 0 rfl) ?_
  refine t_getr (C := RX7) (T := TX7) (N := 26) hx hb hts hin7 hown hK hP hq rfl rfl 22 (by decide) (fr7_22 hq) (hts _ (List.mem_of_getElem? (i := 23) rfl)) dX7_become_232 ?_
  obtain ⟨μ40, hc41, hm⟩ := bO1_inv hm
  refine t_cSv (As := [.ref (base + (RF a1 22)), .ref (base + (RF q 22))]) (rest := []) (μ' := μ40) ⟨hx, hb, hml, hown, hts⟩ (mX7_copy l D cA base H.size μ38 (kr7_22 ha1) (kr7_22 hq) hc41) (va_cwS 2 hts gX7_become_X7_copy rfl rfl rfl (by decide +kernel) ⟨Nat.le_of_ble_eq_true rfl, Nat.le_of_ble_eq_true rfl⟩) hK hN hP hS hz rfl hl.1 (Nat.le_of_ble_eq_true rfl) dX7_become_235 ⟨Nat.le_of_ble_eq_true rfl, Nat.le_of_ble_eq_true rfl⟩ rfl (fun H locs hP hS => ?_)
  refine lv_aload_n hx hb dX7_become_238 rfl (lv_at hl 1 rfl) ?_
  refine t_getr (C := RX7) (T := TX7) (N := 26) hx hb hts hin7 hown hK hP ha1 rfl rfl 23 (by decide) (fr7_23 ha1) (hts _ (List.mem_of_getElem? (i := 24) rfl)) dX7_become_239 ?_
  refine lv_aload_n hx hb dX7_become_242 rfl (lv_at hl 0 rfl) ?_
  refine t_getr (C := RX7) (T := TX7) (N := 26) hx hb hts hin7 hown hK hP hq rfl rfl 23 (by decide) (fr7_23 hq) (hts _ (List.mem_of_getElem? (i := 24) rfl)) dX7_become_243 ?_
  obtain ⟨μ42, hc43, hm⟩ := bO1_inv hm
  refine t_cSv (As := [.ref (base + (RF a1 23)), .ref (base + (RF q 23))]) (rest := []) (μ' := μ42) ⟨hx, hb, hml, hown, hts⟩ (mX7_copy l D cA base H.size μ40 (kr7_23 ha1) (kr7_23 hq) hc43) (va_cwS 2 hts gX7_become_X7_copy rfl rfl rfl (by decide +kernel) ⟨Nat.le_of_ble_eq_true rfl, Nat.le_of_ble_eq_true rfl⟩) hK hN hP hS hz rfl hl.1 (Nat.le_of_ble_eq_true rfl) dX7_become_246 ⟨Nat.le_of_ble_eq_true rfl, Nat.le_of_ble_eq_true rfl⟩ rfl (fun H locs hP hS => ?_)
  refine lv_aload_n hx hb dX7_become_249 rfl (lv_at hl 1 rfl) ?_
  refine t_getr (C := RX7) (T := TX7) (N := 26) hx hb hts hin7 hown hK hP ha1 rfl rfl 24 (by decide) (fr7_24 ha1) (hts _ (List.mem_of_getElem? (i := 25) rfl)) dX7_become_250 ?_
  refine lv_aload_n hx hb dX7_become_253 rfl (lv_at hl 0 rfl) ?_
  refine t_getr (C := RX7) (T := TX7) (N := 26) hx hb hts hin7 hown hK hP hq rfl rfl 24 (by decide) (fr7_24 hq) (hts _ (List.mem_of_getElem? (i := 25) rfl)) dX7_become_254 ?_
  obtain ⟨μ44, hc45, hm⟩ := bO1_inv hm
  refine t_cSv (As := [.ref (base + (RF a1 24)), .ref (base + (RF q 24))]) (rest := []) (μ' := μ44) ⟨hx, hb, hml, hown, hts⟩ (mX7_copy l D cA base H.size μ42 (kr7_24 ha1) (kr7_24 hq) hc45) (va_cwS 2 hts gX7_become_X7_copy rfl rfl rfl (by decide +kernel) ⟨Nat.le_of_ble_eq_true rfl, Nat.le_of_ble_eq_true rfl⟩) hK hN hP hS hz rfl hl.1 (Nat.le_of_ble_eq_true rfl) dX7_become_257 ⟨Nat.le_of_ble_eq_true rfl, Nat.le_of_ble_eq_true rfl⟩ rfl (fun H locs hP hS => ?_)
  cases hm
  exact W.vret hx hb hr (fun t ht hW => ⟨⟨(), rfl, trivial, tPost_of hP ht⟩, hS.F ht⟩) hS.2.2 dX7_become_260
abbrev rmX7_isAble : Room := { frames := 0, cells := 0, slots := 0, locals := 0 }
set_option maxHeartbeats 4000000 in
set_option maxRecDepth 100000 in
theorem mX7_isAble (l : Launch) (D : va_G) (cA : Nat → ClassId) (base sz : Nat) (μ : MM) {q : Nat} (hq : kc q = 7) (a1 : Int32) {r : Int32} (hm : X7_isAble q a1 μ = some r) : Met l yX7_isAble wsX7_isAble rmX7_isAble (va_Pc [.ref (base + q), .int a1] (tPre D cA base sz μ)) (va_Qi (fun (x : Int32) (_ : Unit) => x = r) (fun _ => tPost D cA base μ) (tA base sz)) 0 0 (tA base sz) := by
  refine Met.ofW (cc := cX7_isAble) (maxL := 4) (ret := (some .boolean)) (by decide +kernel) rfl ?_
  intro p e s m args below meth c s₁ B hml hv
  obtain ⟨rfl, hsz, hP, hK, hN⟩ := hv
  have hx := B.exec
  have hb := B.bytes
  have hr := B.returns
  have hts := atoms_spec (ws := wsX7_isAble) B.pre
  have hown : s.vm.findClass RX7 = some m.cls := findClass_of_methodNamed B.named
  have hlocks := B.notSynchronized
  have hin7 : ∀ w ∈ wsX70, w ∈ wsX7_isAble := by decide +kernel
  subst hsz
  have hS : va_S (tA base s.heap.size) s.heap s.heap [] := va_S.rf
  have hz : s.heap.size ≤ s.heap.size := Nat.le_refl _
  have hl := lv_entry ([.ref (base + q), .int a1]) (n := 4) (Nat.le_of_ble_eq_true rfl)
  rw [lg_entry_eq]
  generalize (lg_sl ([.ref (base + q), .int a1]) ++ List.replicate (4 - (lg_sl ([.ref (base + q), .int a1])).length) Slot.unset).toArray = ls at hl ⊢
  have hl : lv_has ls 4 [(0, .ref (base + q)), (1, .int a1)] := hl
  unfold X7_isAble at hm
  refine lv_aload_n hx hb dX7_isAble_0 rfl (lv_at hl 0 rfl) ?_
  refine t_getr (C := RX7) (T := TX7) (N := 26) hx hb hts hin7 hown hK hP hq rfl rfl 16 (by decide) (fr7_16 hq) (hts _ (List.mem_of_getElem? (i := 1) rfl)) dX7_isAble_1 ?_
  refine lv_iload_n hx hb dX7_isAble_4 rfl (lv_at hl 1 rfl) ?_
  obtain ⟨hg1, hm⟩ := gd_inv hm
  refine t_iald hx hb hK hP (kr7_16 hq) hg1 dX7_isAble_5 ?_
  refine lv_topi (fun x2 ex2 => ?_)
  replace hm := bV_of hm ex2
  refine lv_istore_n (lv' := [(2, .int x2), (0, .ref (base + q)), (1, .int a1)]) hx hb dX7_isAble_6 rfl hl (by decide) rfl (fun ls hl => ?_)
  refine lv_aload_n hx hb dX7_isAble_7 rfl (lv_at hl 1 rfl) ?_
  refine t_getr (C := RX7) (T := TX7) (N := 26) hx hb hts hin7 hown hK hP hq rfl rfl 15 (by decide) (fr7_15 hq) (hts _ (List.mem_of_getElem? (i := 2) rfl)) dX7_isAble_8 ?_
  refine lv_iload_n hx hb dX7_isAble_11 rfl (lv_at hl 2 rfl) ?_
  obtain ⟨hg3, hm⟩ := gd_inv hm
  refine t_iald hx hb hK hP (kr7_15 hq) hg3 dX7_isAble_12 ?_
  refine lv_iconst (v := (-1 : Int32)) hx hb dX7_isAble_13 (by decide) ?_
  refine lv_icmp_ne (tgt := 24) hx hb dX7_isAble_14 (by decide) (fun c4 => ?_) (fun c4 => ?_)
  · rw [if_neg c4] at hm
    refine lv_aload_n hx hb dX7_isAble_24 rfl (lv_at hl 1 rfl) ?_
    refine t_getr (C := RX7) (T := TX7) (N := 26) hx hb hts hin7 hown hK hP hq rfl rfl 12 (by decide) (fr7_12 hq) (hts _ (List.mem_of_getElem? (i := 4) rfl)) dX7_isAble_25 ?_
    refine lv_aload_n hx hb dX7_isAble_28 rfl (lv_at hl 1 rfl) ?_
    refine t_getr (C := RX7) (T := TX7) (N := 26) hx hb hts hin7 hown hK hP hq rfl rfl 15 (by decide) (fr7_15 hq) (hts _ (List.mem_of_getElem? (i := 2) rfl)) dX7_isAble_29 ?_
    refine lv_iload_n hx hb dX7_isAble_32 rfl (lv_at hl 2 rfl) ?_
    obtain ⟨hg5, hm⟩ := gd_inv hm
    refine t_iald hx hb hK hP (kr7_15 hq) hg5 dX7_isAble_33 ?_
    obtain ⟨hg6, hm⟩ := gd_inv hm
    refine t_iald hx hb hK hP (kr7_12 hq) hg6 dX7_isAble_34 ?_
    refine lv_topi (fun x7 ex7 => ?_)
    replace hm := bV_of hm ex7
    refine lv_istore_n (lv' := [(3, .int x7), (2, .int x2), (0, .ref (base + q)), (1, .int a1)]) hx hb dX7_isAble_35 rfl hl (by decide) rfl (fun ls hl => ?_)
    refine lv_iload_n hx hb dX7_isAble_36 rfl (lv_at hl 1 rfl) ?_
    refine lv_iconst (v := (-1 : Int32)) hx hb dX7_isAble_37 (by decide) ?_
    refine lv_icmp_eq (tgt := 78) hx hb dX7_isAble_38 (by decide) (fun c8 => ?_) (fun c8 => ?_)
    · rw [if_pos c8] at hm
      refine lv_iconst (v := (0 : Int32)) hx hb dX7_isAble_78 (by decide) ?_
      cases hm
      exact W.zret hx hb hr rfl (fun t ht hW => ⟨⟨_, (), rfl, rfl, tPost_of hP ht⟩, hS.F ht⟩) hS.2.2 dX7_isAble_79
    · rw [if_neg c8] at hm
      refine lv_aload_n hx hb dX7_isAble_41 rfl (lv_at hl 2 rfl) ?_
      refine t_getr (C := RX7) (T := TX7) (N := 26) hx hb hts hin7 hown hK hP hq rfl rfl 5 (by decide) (fr7_5 hq) (hts _ (List.mem_of_getElem? (i := 5) rfl)) dX7_isAble_42 ?_
      refine lv_iload_n hx hb dX7_isAble_45 rfl (lv_at hl 1 rfl) ?_
      obtain ⟨hg9, hm⟩ := gd_inv hm
      refine t_iald hx hb hK hP (kr7_5 hq) hg9 dX7_isAble_46 ?_
      refine lv_aload_n hx hb dX7_isAble_47 rfl (lv_at hl 2 rfl) ?_
      refine t_getr (C := RX7) (T := TX7) (N := 26) hx hb hts hin7 hown hK hP hq rfl rfl 12 (by decide) (fr7_12 hq) (hts _ (List.mem_of_getElem? (i := 4) rfl)) dX7_isAble_48 ?_
      refine lv_iload_n hx hb dX7_isAble_51 rfl (lv_at hl 3 rfl) ?_
      obtain ⟨hg10, hm⟩ := gd_inv hm
      refine t_iald hx hb hK hP (kr7_12 hq) hg10 dX7_isAble_52 ?_
      refine lv_ishr hx hb dX7_isAble_53 ?_
      refine lv_iconst (v := (1 : Int32)) hx hb dX7_isAble_54 (by decide) ?_
      refine lv_iand hx hb dX7_isAble_55 ?_
      refine lv_iconst (v := (1 : Int32)) hx hb dX7_isAble_56 (by decide) ?_
      refine lv_icmp_ne (tgt := 78) hx hb dX7_isAble_57 (by decide) (fun c11 => ?_) (fun c11 => ?_)
      · rw [if_neg c11] at hm
        refine lv_iconst (v := (0 : Int32)) hx hb dX7_isAble_78 (by decide) ?_
        cases hm
        exact W.zret hx hb hr rfl (fun t ht hW => ⟨⟨_, (), rfl, rfl, tPost_of hP ht⟩, hS.F ht⟩) hS.2.2 dX7_isAble_79
      · rw [if_pos c11] at hm
        refine lv_aload_n hx hb dX7_isAble_60 rfl (lv_at hl 2 rfl) ?_
        refine t_getr (C := RX7) (T := TX7) (N := 26) hx hb hts hin7 hown hK hP hq rfl rfl 5 (by decide) (fr7_5 hq) (hts _ (List.mem_of_getElem? (i := 5) rfl)) dX7_isAble_61 ?_
        refine lv_iload_n hx hb dX7_isAble_64 rfl (lv_at hl 1 rfl) ?_
        obtain ⟨hg12, hm⟩ := gd_inv hm
        refine t_iald hx hb hK hP (kr7_5 hq) hg12 dX7_isAble_65 ?_
        refine lv_iload_n hx hb dX7_isAble_66 rfl (lv_at hl 0 rfl) ?_
        refine lv_ishr hx hb dX7_isAble_67 ?_
        refine lv_iconst (v := (1 : Int32)) hx hb dX7_isAble_68 (by decide) ?_
        refine lv_iand hx hb dX7_isAble_69 ?_
        refine lv_iconst (v := (1 : Int32)) hx hb dX7_isAble_70 (by decide) ?_
        refine lv_icmp_ne (tgt := 78) hx hb dX7_isAble_71 (by decide) (fun c13 => ?_) (fun c13 => ?_)
        · rw [if_neg c13] at hm
          refine lv_iconst (v := (0 : Int32)) hx hb dX7_isAble_78 (by decide) ?_
          cases hm
          exact W.zret hx hb hr rfl (fun t ht hW => ⟨⟨_, (), rfl, rfl, tPost_of hP ht⟩, hS.F ht⟩) hS.2.2 dX7_isAble_79
        · rw [if_pos c13] at hm
          refine lv_iconst (v := (1 : Int32)) hx hb dX7_isAble_74 (by decide) ?_
          refine lv_goto (tgt := 79) hx hb dX7_isAble_75 (by decide) ?_
          cases hm
          exact W.zret hx hb hr rfl (fun t ht hW => ⟨⟨_, (), rfl, rfl, tPost_of hP ht⟩, hS.F ht⟩) hS.2.2 dX7_isAble_79
  · rw [if_pos c4] at hm
    refine lv_aload_n hx hb dX7_isAble_17 rfl (lv_at hl 1 rfl) ?_
    refine t_geti (C := RX7) (T := TX7) (N := 26) hx hb hts hin7 hown hK hP hq rfl rfl 1 (by decide) (fk7_1 hq) (hts _ (List.mem_of_getElem? (i := 3) rfl)) dX7_isAble_18 ?_
    refine lv_goto (tgt := 35) hx hb dX7_isAble_21 (by decide) ?_
    refine lv_topi (fun x14 ex14 => ?_)
    replace hm := bV_of hm ex14
    refine lv_istore_n (lv' := [(3, .int x14), (2, .int x2), (0, .ref (base + q)), (1, .int a1)]) hx hb dX7_isAble_35 rfl hl (by decide) rfl (fun ls hl => ?_)
    refine lv_iload_n hx hb dX7_isAble_36 rfl (lv_at hl 1 rfl) ?_
    refine lv_iconst (v := (-1 : Int32)) hx hb dX7_isAble_37 (by decide) ?_
    refine lv_icmp_eq (tgt := 78) hx hb dX7_isAble_38 (by decide) (fun c15 => ?_) (fun c15 => ?_)
    · rw [if_pos c15] at hm
      refine lv_iconst (v := (0 : Int32)) hx hb dX7_isAble_78 (by decide) ?_
      cases hm
      exact W.zret hx hb hr rfl (fun t ht hW => ⟨⟨_, (), rfl, rfl, tPost_of hP ht⟩, hS.F ht⟩) hS.2.2 dX7_isAble_79
    · rw [if_neg c15] at hm
      refine lv_aload_n hx hb dX7_isAble_41 rfl (lv_at hl 2 rfl) ?_
      refine t_getr (C := RX7) (T := TX7) (N := 26) hx hb hts hin7 hown hK hP hq rfl rfl 5 (by decide) (fr7_5 hq) (hts _ (List.mem_of_getElem? (i := 5) rfl)) dX7_isAble_42 ?_
      refine lv_iload_n hx hb dX7_isAble_45 rfl (lv_at hl 1 rfl) ?_
      obtain ⟨hg16, hm⟩ := gd_inv hm
      refine t_iald hx hb hK hP (kr7_5 hq) hg16 dX7_isAble_46 ?_
      refine lv_aload_n hx hb dX7_isAble_47 rfl (lv_at hl 2 rfl) ?_
      refine t_getr (C := RX7) (T := TX7) (N := 26) hx hb hts hin7 hown hK hP hq rfl rfl 12 (by decide) (fr7_12 hq) (hts _ (List.mem_of_getElem? (i := 4) rfl)) dX7_isAble_48 ?_
      refine lv_iload_n hx hb dX7_isAble_51 rfl (lv_at hl 3 rfl) ?_
      obtain ⟨hg17, hm⟩ := gd_inv hm
      refine t_iald hx hb hK hP (kr7_12 hq) hg17 dX7_isAble_52 ?_
      refine lv_ishr hx hb dX7_isAble_53 ?_
      refine lv_iconst (v := (1 : Int32)) hx hb dX7_isAble_54 (by decide) ?_
      refine lv_iand hx hb dX7_isAble_55 ?_
      refine lv_iconst (v := (1 : Int32)) hx hb dX7_isAble_56 (by decide) ?_
      refine lv_icmp_ne (tgt := 78) hx hb dX7_isAble_57 (by decide) (fun c18 => ?_) (fun c18 => ?_)
      · rw [if_neg c18] at hm
        refine lv_iconst (v := (0 : Int32)) hx hb dX7_isAble_78 (by decide) ?_
        cases hm
        exact W.zret hx hb hr rfl (fun t ht hW => ⟨⟨_, (), rfl, rfl, tPost_of hP ht⟩, hS.F ht⟩) hS.2.2 dX7_isAble_79
      · rw [if_pos c18] at hm
        refine lv_aload_n hx hb dX7_isAble_60 rfl (lv_at hl 2 rfl) ?_
        refine t_getr (C := RX7) (T := TX7) (N := 26) hx hb hts hin7 hown hK hP hq rfl rfl 5 (by decide) (fr7_5 hq) (hts _ (List.mem_of_getElem? (i := 5) rfl)) dX7_isAble_61 ?_
        refine lv_iload_n hx hb dX7_isAble_64 rfl (lv_at hl 1 rfl) ?_
        obtain ⟨hg19, hm⟩ := gd_inv hm
        refine t_iald hx hb hK hP (kr7_5 hq) hg19 dX7_isAble_65 ?_
        refine lv_iload_n hx hb dX7_isAble_66 rfl (lv_at hl 0 rfl) ?_
        refine lv_ishr hx hb dX7_isAble_67 ?_
        refine lv_iconst (v := (1 : Int32)) hx hb dX7_isAble_68 (by decide) ?_
        refine lv_iand hx hb dX7_isAble_69 ?_
        refine lv_iconst (v := (1 : Int32)) hx hb dX7_isAble_70 (by decide) ?_
        refine lv_icmp_ne (tgt := 78) hx hb dX7_isAble_71 (by decide) (fun c20 => ?_) (fun c20 => ?_)
        · rw [if_neg c20] at hm
          refine lv_iconst (v := (0 : Int32)) hx hb dX7_isAble_78 (by decide) ?_
          cases hm
          exact W.zret hx hb hr rfl (fun t ht hW => ⟨⟨_, (), rfl, rfl, tPost_of hP ht⟩, hS.F ht⟩) hS.2.2 dX7_isAble_79
        · rw [if_pos c20] at hm
          refine lv_iconst (v := (1 : Int32)) hx hb dX7_isAble_74 (by decide) ?_
          refine lv_goto (tgt := 79) hx hb dX7_isAble_75 (by decide) ?_
          cases hm
          exact W.zret hx hb hr rfl (fun t ht hW => ⟨⟨_, (), rfl, rfl, tPost_of hP ht⟩, hS.F ht⟩) hS.2.2 dX7_isAble_79
abbrev rmX7_boothOf : Room := { frames := 0, cells := 0, slots := 0, locals := 0 }
set_option maxHeartbeats 4000000 in
set_option maxRecDepth 100000 in
theorem lX7_boothOf_L4 {p : Program} {l : Launch} {e : Env} {s : State} {m : MethodId} {args : Array Value} {below : List Frame} {meth : Method} {c : Code} {Q : State → Prop} {D : va_G} {cA : Nat → ClassId} {base sz0 : Nat} {H0 : Heap} (FX : CallFix p m c cX7_boothOf 4 s args wsX7_boothOf RX7) (hK : va_K D vwCl (tys cA) s) (hN : tN s) (hz : sz0 ≤ H0.size) {o0 : Nat} (ho0 : kc o0 = 7) (b1 : Int32) (μ : MM) {cells slots : Nat} (hcs : cells ≤ 0 ∧ slots ≤ 0) :
    ∀ (n : Nat) (v2 : Int32) (v3 : Int32) (H : Heap) (locs : List Loc) (ls : Array Slot) (w2 : Int32), X7_boothOf_L4 o0 b1 μ n v2 v3 = some w2 → va_P D vwCl (tw base cA μ []) H → va_S (tA base sz0) H0 H locs → lv_has ls 4 [(0, .ref (base + o0)), (1, .int b1), (2, .int v2), (3, .int v3)] → (∀ (H : Heap) (locs : List Loc) (ls : Array Slot), va_P D vwCl (tw base cA μ []) H → va_S (tA base sz0) H0 H locs → lv_has ls 4 [(2, .int w2)] → W p l e rmX7_boothOf s m args below meth c H locs cells slots Q (F0 m 34 ls [])) → W p l e rmX7_boothOf s m args below meth c H locs cells slots Q (F0 m 4 ls []) := by
  obtain ⟨hx, hb, hml, hown, hts⟩ := FX
  have hin7 : ∀ w ∈ wsX70, w ∈ wsX7_boothOf := by decide +kernel
  intro n
  induction n with
  | zero =>
    intro v2 v3 H locs ls w2 hm
    cases hm
  | succ n ih =>
    intro v2 v3 H locs ls w2 hm hP hS hl K
    rw [X7_boothOf_L4_s] at hm
    refine lv_iload_n hx hb dX7_boothOf_4 rfl (lv_at hl 3 rfl) ?_
    refine lv_aload_n hx hb dX7_boothOf_5 rfl (lv_at hl 0 rfl) ?_
    refine t_geti (C := RX7) (T := TX7) (N := 26) hx hb hts hin7 hown hK hP ho0 rfl rfl 11 (by decide) (fk7_11 ho0) (hts _ (List.mem_of_getElem? (i := 1) rfl)) dX7_boothOf_6 ?_
    refine lv_icmp_ge (tgt := 34) hx hb dX7_boothOf_9 (by decide) (fun c1 => ?_) (fun c1 => ?_)
    · rw [if_pos c1] at hm
      cases hm
      exact K _ _ _ hP hS (lv_sub hl [2] rfl)
    · rw [if_neg c1] at hm
      refine lv_aload_n hx hb dX7_boothOf_12 rfl (lv_at hl 0 rfl) ?_
      refine t_getr (C := RX7) (T := TX7) (N := 26) hx hb hts hin7 hown hK hP ho0 rfl rfl 16 (by decide) (fr7_16 ho0) (hts _ (List.mem_of_getElem? (i := 2) rfl)) dX7_boothOf_13 ?_
      refine lv_iload_n hx hb dX7_boothOf_16 rfl (lv_at hl 3 rfl) ?_
      obtain ⟨hg2, hm⟩ := gd_inv hm
      refine t_iald hx hb hK hP (kr7_16 ho0) hg2 dX7_boothOf_17 ?_
      refine lv_iload_n hx hb dX7_boothOf_18 rfl (lv_at hl 1 rfl) ?_
      refine lv_icmp_ne (tgt := 26) hx hb dX7_boothOf_19 (by decide) (fun c3 => ?_) (fun c3 => ?_)
      · rw [if_neg c3] at hm
        refine lv_iload_n hx hb dX7_boothOf_26 rfl (lv_at hl 2 rfl) ?_
        refine lv_istore_n (lv' := [(2, .int v2), (0, .ref (base + o0)), (1, .int b1), (3, .int v3)]) hx hb dX7_boothOf_27 rfl hl (by decide) rfl (fun ls hl => ?_)
        obtain ⟨x4, ex4⟩ : ∃ z : Int32, z = v3 + (1 : Int32) := ⟨_, rfl⟩
        replace hm := bV_of hm ex4
        refine lv_iinc (v := x4) (lv' := [(3, .int x4), (2, .int v2), (0, .ref (base + o0)), (1, .int b1)]) hx hb dX7_boothOf_28 hl (k := 3) rfl (by rw [ex4]; rfl) (by decide) rfl (fun ls hl => ?_)
        refine lv_goto (tgt := 4) hx hb dX7_boothOf_31 (by decide) ?_
        exact ih v2 x4 _ _ _ w2 hm hP hS (lv_sub hl [2, 3, 1, 0] rfl) K
      · rw [if_pos c3] at hm
        refine lv_iload_n hx hb dX7_boothOf_22 rfl (lv_at hl 3 rfl) ?_
        refine lv_goto (tgt := 27) hx hb dX7_boothOf_23 (by decide) ?_
        refine lv_istore_n (lv' := [(2, .int v3), (0, .ref (base + o0)), (1, .int b1), (3, .int v3)]) hx hb dX7_boothOf_27 rfl hl (by decide) rfl (fun ls hl => ?_)
        obtain ⟨x5, ex5⟩ : ∃ z : Int32, z = v3 + (1 : Int32) := ⟨_, rfl⟩
        replace hm := bV_of hm ex5
        refine lv_iinc (v := x5) (lv' := [(3, .int x5), (2, .int v3), (0, .ref (base + o0)), (1, .int b1)]) hx hb dX7_boothOf_28 hl (k := 3) rfl (by rw [ex5]; rfl) (by decide) rfl (fun ls hl => ?_)
        refine lv_goto (tgt := 4) hx hb dX7_boothOf_31 (by decide) ?_
        exact ih v3 x5 _ _ _ w2 hm hP hS (lv_sub hl [2, 3, 1, 0] rfl) K
set_option maxHeartbeats 4000000 in
set_option maxRecDepth 100000 in
theorem mX7_boothOf (l : Launch) (D : va_G) (cA : Nat → ClassId) (base sz : Nat) (μ : MM) {q : Nat} (hq : kc q = 7) (a1 : Int32) {r : Int32} (hm : X7_boothOf q a1 μ = some r) : Met l yX7_boothOf wsX7_boothOf rmX7_boothOf (va_Pc [.ref (base + q), .int a1] (tPre D cA base sz μ)) (va_Qi (fun (x : Int32) (_ : Unit) => x = r) (fun _ => tPost D cA base μ) (tA base sz)) 0 0 (tA base sz) := by
  refine Met.ofW (cc := cX7_boothOf) (maxL := 4) (ret := (some .int)) (by decide +kernel) rfl ?_
  intro p e s m args below meth c s₁ B hml hv
  obtain ⟨rfl, hsz, hP, hK, hN⟩ := hv
  have hx := B.exec
  have hb := B.bytes
  have hr := B.returns
  have hts := atoms_spec (ws := wsX7_boothOf) B.pre
  have hown : s.vm.findClass RX7 = some m.cls := findClass_of_methodNamed B.named
  have hlocks := B.notSynchronized
  subst hsz
  have hS : va_S (tA base s.heap.size) s.heap s.heap [] := va_S.rf
  have hz : s.heap.size ≤ s.heap.size := Nat.le_refl _
  have hl := lv_entry ([.ref (base + q), .int a1]) (n := 4) (Nat.le_of_ble_eq_true rfl)
  rw [lg_entry_eq]
  generalize (lg_sl ([.ref (base + q), .int a1]) ++ List.replicate (4 - (lg_sl ([.ref (base + q), .int a1])).length) Slot.unset).toArray = ls at hl ⊢
  have hl : lv_has ls 4 [(0, .ref (base + q)), (1, .int a1)] := hl
  unfold X7_boothOf at hm
  refine lv_iconst (v := (-1 : Int32)) hx hb dX7_boothOf_0 (by decide) ?_
  refine lv_istore_n (lv' := [(2, .int (-1 : Int32)), (0, .ref (base + q)), (1, .int a1)]) hx hb dX7_boothOf_1 rfl hl (by decide) rfl (fun ls hl => ?_)
  refine lv_iconst (v := (0 : Int32)) hx hb dX7_boothOf_2 (by decide) ?_
  refine lv_istore_n (lv' := [(3, .int (0 : Int32)), (2, .int (-1 : Int32)), (0, .ref (base + q)), (1, .int a1)]) hx hb dX7_boothOf_3 rfl hl (by decide) rfl (fun ls hl => ?_)
  obtain ⟨x6, hc7, hm⟩ := bO1_inv hm
  refine lX7_boothOf_L4 ⟨hx, hb, hml, hown, hts⟩ hK hN hz hq a1 μ ⟨Nat.le_of_ble_eq_true rfl, Nat.le_of_ble_eq_true rfl⟩ 1000 (-1 : Int32) (0 : Int32) _ _ _ x6 hc7 hP hS (lv_sub hl [2, 3, 1, 0] rfl) ?_
  intro H locs ls hP hS hl
  refine lv_iload_n hx hb dX7_boothOf_34 rfl (lv_at hl 0 rfl) ?_
  cases hm
  exact W.iret hx hb hr (fun t ht hW => ⟨⟨_, (), rfl, rfl, tPost_of hP ht⟩, hS.F ht⟩) hS.2.2 dX7_boothOf_35
abbrev rmX7_sit : Room := { frames := 1, cells := 0, slots := 0, locals := 23 }
set_option maxHeartbeats 4000000 in
set_option maxRecDepth 100000 in
theorem mX7_sit (l : Launch) (D : va_G) (cA : Nat → ClassId) (base sz : Nat) (μ : MM) {q : Nat} (hq : kc q = 7) (a1 : Int32) (a2 : Int32) {μ' : MM} (hm : X7_sit q a1 a2 μ = some μ') : Met l yX7_sit wsX7_sit rmX7_sit (va_Pc [.ref (base + q), .int a1, .int a2] (tPre D cA base sz μ)) (va_Qv (fun _ : Unit => True) (fun _ => tPost D cA base μ') (tA base sz)) 0 0 (tA base sz) := by
  refine Met.ofW (cc := cX7_sit) (maxL := 3) (ret := none) (by decide +kernel) rfl ?_
  intro p e s m args below meth c s₁ B hml hv
  obtain ⟨rfl, hsz, hP, hK, hN⟩ := hv
  have hx := B.exec
  have hb := B.bytes
  have hr := B.returns
  have hts := atoms_spec (ws := wsX7_sit) B.pre
  have hown : s.vm.findClass RX7 = some m.cls := findClass_of_methodNamed B.named
  have hlocks := B.notSynchronized
  have hin7 : ∀ w ∈ wsX70, w ∈ wsX7_sit := by decide +kernel
  subst hsz
  have hS : va_S (tA base s.heap.size) s.heap s.heap [] := va_S.rf
  have hz : s.heap.size ≤ s.heap.size := Nat.le_refl _
  have hl := lv_entry ([.ref (base + q), .int a1, .int a2]) (n := 3) (Nat.le_of_ble_eq_true rfl)
  rw [lg_entry_eq]
  generalize (lg_sl ([.ref (base + q), .int a1, .int a2]) ++ List.replicate (3 - (lg_sl ([.ref (base + q), .int a1, .int a2])).length) Slot.unset).toArray = ls at hl ⊢
  have hl : lv_has ls 3 [(0, .ref (base + q)), (1, .int a1), (2, .int a2)] := hl
  unfold X7_sit at hm
  refine lv_iload_n hx hb dX7_sit_0 rfl (lv_at hl 2 rfl) ?_
  refine lv_iconst (v := (-1 : Int32)) hx hb dX7_sit_1 (by decide) ?_
  refine lv_icmp_eq (tgt := 25) hx hb dX7_sit_2 (by decide) (fun c1 => ?_) (fun c1 => ?_)
  · rw [if_pos c1] at hm
    refine lv_aload_n hx hb dX7_sit_25 rfl (lv_at hl 0 rfl) ?_
    refine t_getr (C := RX7) (T := TX7) (N := 26) hx hb hts hin7 hown hK hP hq rfl rfl 16 (by decide) (fr7_16 hq) (hts _ (List.mem_of_getElem? (i := 1) rfl)) dX7_sit_26 ?_
    refine lv_iload_n hx hb dX7_sit_29 rfl (lv_at hl 1 rfl) ?_
    refine lv_iload_n hx hb dX7_sit_30 rfl (lv_at hl 2 rfl) ?_
    obtain ⟨hg2, hm⟩ := gd_inv hm
    refine t_iast hx hb hK hP (tD _ _ _ _) hS (kr7_16 hq) hg2 dX7_sit_31 (fun H locs hP hS => ?_)
    obtain ⟨μ3, eμ3⟩ : ∃ z : MM, z = wI μ (RF q 16) a1.toNatClampNeg a2 := ⟨_, rfl⟩
    rw [← eμ3] at hP
    replace hm := bV_of hm eμ3
    cases hm
    exact W.vret hx hb hr (fun t ht hW => ⟨⟨(), rfl, trivial, tPost_of hP ht⟩, hS.F ht⟩) hS.2.2 dX7_sit_32
  · rw [if_neg c1] at hm
    refine lv_aload_n hx hb dX7_sit_5 rfl (lv_at hl 0 rfl) ?_
    refine lv_iload_n hx hb dX7_sit_6 rfl (lv_at hl 2 rfl) ?_
    obtain ⟨r4, hc5, hm⟩ := bO1_inv hm
    refine t_cVi (As := [.int a2]) (rest := []) (μ' := μ) (r := r4) ⟨hx, hb, hml, hown, hts⟩ (mX7_boothOf l D cA base s.heap.size μ hq a2 hc5) (cwV 1 hts gX7_sit_X7_boothOf rfl rfl rfl (by decide +kernel) ⟨Nat.le_of_ble_eq_true rfl, Nat.le_of_ble_eq_true rfl⟩) (va_recv hK hP (q0 := q) rfl (tw_obj hq (by decide))) hK hN hP hS hz rfl hl.1 (Nat.le_of_ble_eq_true rfl) dX7_sit_7 ⟨Nat.le_of_ble_eq_true rfl, Nat.le_of_ble_eq_true rfl⟩ rfl (fun H locs hP hS => ?_)
    refine lv_iconst (v := (-1 : Int32)) hx hb dX7_sit_10 (by decide) ?_
    refine lv_icmp_eq (tgt := 25) hx hb dX7_sit_11 (by decide) (fun c6 => ?_) (fun c6 => ?_)
    · rw [if_pos c6] at hm
      refine lv_aload_n hx hb dX7_sit_25 rfl (lv_at hl 0 rfl) ?_
      refine t_getr (C := RX7) (T := TX7) (N := 26) hx hb hts hin7 hown hK hP hq rfl rfl 16 (by decide) (fr7_16 hq) (hts _ (List.mem_of_getElem? (i := 1) rfl)) dX7_sit_26 ?_
      refine lv_iload_n hx hb dX7_sit_29 rfl (lv_at hl 1 rfl) ?_
      refine lv_iload_n hx hb dX7_sit_30 rfl (lv_at hl 2 rfl) ?_
      obtain ⟨hg7, hm⟩ := gd_inv hm
      refine t_iast hx hb hK hP (tD _ _ _ _) hS (kr7_16 hq) hg7 dX7_sit_31 (fun H locs hP hS => ?_)
      obtain ⟨μ8, eμ8⟩ : ∃ z : MM, z = wI μ (RF q 16) a1.toNatClampNeg a2 := ⟨_, rfl⟩
      rw [← eμ8] at hP
      replace hm := bV_of hm eμ8
      cases hm
      exact W.vret hx hb hr (fun t ht hW => ⟨⟨(), rfl, trivial, tPost_of hP ht⟩, hS.F ht⟩) hS.2.2 dX7_sit_32
    · rw [if_neg c6] at hm
      refine lv_aload_n hx hb dX7_sit_14 rfl (lv_at hl 0 rfl) ?_
      refine t_getr (C := RX7) (T := TX7) (N := 26) hx hb hts hin7 hown hK hP hq rfl rfl 16 (by decide) (fr7_16 hq) (hts _ (List.mem_of_getElem? (i := 1) rfl)) dX7_sit_15 ?_
      refine lv_aload_n hx hb dX7_sit_18 rfl (lv_at hl 0 rfl) ?_
      refine lv_iload_n hx hb dX7_sit_19 rfl (lv_at hl 2 rfl) ?_
      obtain ⟨r9, hc10, hm⟩ := bO1_inv hm
      refine t_cVi (As := [.int a2]) (rest := [.ref (base + (RF q 16))]) (μ' := μ) (r := r9) ⟨hx, hb, hml, hown, hts⟩ (mX7_boothOf l D cA base H.size μ hq a2 hc10) (cwV 1 hts gX7_sit_X7_boothOf rfl rfl rfl (by decide +kernel) ⟨Nat.le_of_ble_eq_true rfl, Nat.le_of_ble_eq_true rfl⟩) (va_recv hK hP (q0 := q) rfl (tw_obj hq (by decide))) hK hN hP hS hz rfl hl.1 (Nat.le_of_ble_eq_true rfl) dX7_sit_20 ⟨Nat.le_of_ble_eq_true rfl, Nat.le_of_ble_eq_true rfl⟩ rfl (fun H locs hP hS => ?_)
      refine lv_iconst (v := (-1 : Int32)) hx hb dX7_sit_23 (by decide) ?_
      obtain ⟨hg11, hm⟩ := gd_inv hm
      refine t_iast hx hb hK hP (tD _ _ _ _) hS (kr7_16 hq) hg11 dX7_sit_24 (fun H locs hP hS => ?_)
      obtain ⟨μ12, eμ12⟩ : ∃ z : MM, z = wI μ (RF q 16) r9.toNatClampNeg (-1 : Int32) := ⟨_, rfl⟩
      rw [← eμ12] at hP
      replace hm := bV_of hm eμ12
      refine lv_aload_n hx hb dX7_sit_25 rfl (lv_at hl 0 rfl) ?_
      refine t_getr (C := RX7) (T := TX7) (N := 26) hx hb hts hin7 hown hK hP hq rfl rfl 16 (by decide) (fr7_16 hq) (hts _ (List.mem_of_getElem? (i := 1) rfl)) dX7_sit_26 ?_
      refine lv_iload_n hx hb dX7_sit_29 rfl (lv_at hl 1 rfl) ?_
      refine lv_iload_n hx hb dX7_sit_30 rfl (lv_at hl 2 rfl) ?_
      obtain ⟨hg13, hm⟩ := gd_inv hm
      refine t_iast hx hb hK hP (tD _ _ _ _) hS (kr7_16 hq) hg13 dX7_sit_31 (fun H locs hP hS => ?_)
      obtain ⟨μ14, eμ14⟩ : ∃ z : MM, z = wI μ12 (RF q 16) a1.toNatClampNeg a2 := ⟨_, rfl⟩
      rw [← eμ14] at hP
      replace hm := bV_of hm eμ14
      cases hm
      exact W.vret hx hb hr (fun t ht hW => ⟨⟨(), rfl, trivial, tPost_of hP ht⟩, hS.F ht⟩) hS.2.2 dX7_sit_32
abbrev rmX7_keep : Room := { frames := 0, cells := 0, slots := 0, locals := 0 }
set_option maxHeartbeats 4000000 in
set_option maxRecDepth 100000 in
theorem mX7_keep (l : Launch) (D : va_G) (cA : Nat → ClassId) (base sz : Nat) (μ : MM) {q : Nat} (hq : kc q = 7) (a1 : Int32) (a2 : Int32) {μ' : MM} (hm : X7_keep q a1 a2 μ = some μ') : Met l yX7_keep wsX7_keep rmX7_keep (va_Pc [.ref (base + q), .int a1, .int a2] (tPre D cA base sz μ)) (va_Qv (fun _ : Unit => True) (fun _ => tPost D cA base μ') (tA base sz)) 0 0 (tA base sz) := by
  refine Met.ofW (cc := cX7_keep) (maxL := 3) (ret := none) (by decide +kernel) rfl ?_
  intro p e s m args below meth c s₁ B hml hv
  obtain ⟨rfl, hsz, hP, hK, hN⟩ := hv
  have hx := B.exec
  have hb := B.bytes
  have hr := B.returns
  have hts := atoms_spec (ws := wsX7_keep) B.pre
  have hown : s.vm.findClass RX7 = some m.cls := findClass_of_methodNamed B.named
  have hlocks := B.notSynchronized
  have hin7 : ∀ w ∈ wsX70, w ∈ wsX7_keep := by decide +kernel
  subst hsz
  have hS : va_S (tA base s.heap.size) s.heap s.heap [] := va_S.rf
  have hz : s.heap.size ≤ s.heap.size := Nat.le_refl _
  have hl := lv_entry ([.ref (base + q), .int a1, .int a2]) (n := 3) (Nat.le_of_ble_eq_true rfl)
  rw [lg_entry_eq]
  generalize (lg_sl ([.ref (base + q), .int a1, .int a2]) ++ List.replicate (3 - (lg_sl ([.ref (base + q), .int a1, .int a2])).length) Slot.unset).toArray = ls at hl ⊢
  have hl : lv_has ls 3 [(0, .ref (base + q)), (1, .int a1), (2, .int a2)] := hl
  unfold X7_keep at hm
  refine lv_aload_n hx hb dX7_keep_0 rfl (lv_at hl 0 rfl) ?_
  refine t_getr (C := RX7) (T := TX7) (N := 26) hx hb hts hin7 hown hK hP hq rfl rfl 23 (by decide) (fr7_23 hq) (hts _ (List.mem_of_getElem? (i := 1) rfl)) dX7_keep_1 ?_
  refine lv_sipush (v := (400 : Int32)) hx hb dX7_keep_4 (by decide) ?_
  refine lv_iload_n hx hb dX7_keep_7 rfl (lv_at hl 1 rfl) ?_
  refine lv_imul hx hb dX7_keep_8 ?_
  refine lv_aload_n hx hb dX7_keep_9 rfl (lv_at hl 0 rfl) ?_
  refine t_getr (C := RX7) (T := TX7) (N := 26) hx hb hts hin7 hown hK hP hq rfl rfl 22 (by decide) (fr7_22 hq) (hts _ (List.mem_of_getElem? (i := 2) rfl)) dX7_keep_10 ?_
  refine lv_iload_n hx hb dX7_keep_13 rfl (lv_at hl 1 rfl) ?_
  obtain ⟨hg1, hm⟩ := gd_inv hm
  refine t_iald hx hb hK hP (kr7_22 hq) hg1 dX7_keep_14 ?_
  refine lv_iadd hx hb dX7_keep_15 ?_
  refine lv_iload_n hx hb dX7_keep_16 rfl (lv_at hl 2 rfl) ?_
  obtain ⟨hg2, hm⟩ := gd_inv hm
  refine t_iast hx hb hK hP (tD _ _ _ _) hS (kr7_23 hq) hg2 dX7_keep_17 (fun H locs hP hS => ?_)
  obtain ⟨μ3, eμ3⟩ : ∃ z : MM, z = wI μ (RF q 23) (((400 : Int32) * a1) + (rI μ (RF q 22) a1.toNatClampNeg)).toNatClampNeg a2 := ⟨_, rfl⟩
  rw [← eμ3] at hP
  replace hm := bV_of hm eμ3
  refine lv_aload_n hx hb dX7_keep_18 rfl (lv_at hl 0 rfl) ?_
  refine t_getr (C := RX7) (T := TX7) (N := 26) hx hb hts hin7 hown hK hP hq rfl rfl 24 (by decide) (fr7_24 hq) (hts _ (List.mem_of_getElem? (i := 3) rfl)) dX7_keep_19 ?_
  refine lv_sipush (v := (400 : Int32)) hx hb dX7_keep_22 (by decide) ?_
  refine lv_iload_n hx hb dX7_keep_25 rfl (lv_at hl 1 rfl) ?_
  refine lv_imul hx hb dX7_keep_26 ?_
  refine lv_aload_n hx hb dX7_keep_27 rfl (lv_at hl 0 rfl) ?_
  refine t_getr (C := RX7) (T := TX7) (N := 26) hx hb hts hin7 hown hK hP hq rfl rfl 22 (by decide) (fr7_22 hq) (hts _ (List.mem_of_getElem? (i := 2) rfl)) dX7_keep_28 ?_
  refine lv_iload_n hx hb dX7_keep_31 rfl (lv_at hl 1 rfl) ?_
  obtain ⟨hg4, hm⟩ := gd_inv hm
  refine t_iald hx hb hK hP (kr7_22 hq) hg4 dX7_keep_32 ?_
  refine lv_iadd hx hb dX7_keep_33 ?_
  refine lv_aload_n hx hb dX7_keep_34 rfl (lv_at hl 0 rfl) ?_
  refine t_geti (C := RX7) (T := TX7) (N := 26) hx hb hts hin7 hown hK hP hq rfl rfl 0 (by decide) (fk7_0 hq) (hts _ (List.mem_of_getElem? (i := 4) rfl)) dX7_keep_35 ?_
  obtain ⟨hg5, hm⟩ := gd_inv hm
  refine t_iast hx hb hK hP (tD _ _ _ _) hS (kr7_24 hq) hg5 dX7_keep_38 (fun H locs hP hS => ?_)
  obtain ⟨μ6, eμ6⟩ : ∃ z : MM, z = wI μ3 (RF q 24) (((400 : Int32) * a1) + (rI μ3 (RF q 22) a1.toNatClampNeg)).toNatClampNeg (rI μ3 q 0) := ⟨_, rfl⟩
  rw [← eμ6] at hP
  replace hm := bV_of hm eμ6
  refine lv_aload_n hx hb dX7_keep_39 rfl (lv_at hl 0 rfl) ?_
  refine t_getr (C := RX7) (T := TX7) (N := 26) hx hb hts hin7 hown hK hP hq rfl rfl 22 (by decide) (fr7_22 hq) (hts _ (List.mem_of_getElem? (i := 2) rfl)) dX7_keep_40 ?_
  refine lv_iload_n hx hb dX7_keep_43 rfl (lv_at hl 1 rfl) ?_
  refine lv_dup2_11 hx hb dX7_keep_44 rfl rfl ?_
  obtain ⟨hg7, hm⟩ := gd_inv hm
  refine t_iald hx hb hK hP (kr7_22 hq) hg7 dX7_keep_45 ?_
  refine lv_iconst (v := (1 : Int32)) hx hb dX7_keep_46 (by decide) ?_
  refine lv_iadd hx hb dX7_keep_47 ?_
  obtain ⟨hg8, hm⟩ := gd_inv hm
  refine t_iast hx hb hK hP (tD _ _ _ _) hS (kr7_22 hq) hg8 dX7_keep_48 (fun H locs hP hS => ?_)
  obtain ⟨μ9, eμ9⟩ : ∃ z : MM, z = wI μ6 (RF q 22) a1.toNatClampNeg ((rI μ6 (RF q 22) a1.toNatClampNeg) + (1 : Int32)) := ⟨_, rfl⟩
  rw [← eμ9] at hP
  replace hm := bV_of hm eμ9
  cases hm
  exact W.vret hx hb hr (fun t ht hW => ⟨⟨(), rfl, trivial, tPost_of hP ht⟩, hS.F ht⟩) hS.2.2 dX7_keep_49
abbrev rmX7_saysNow : Room := { frames := 0, cells := 0, slots := 0, locals := 0 }
set_option maxHeartbeats 4000000 in
set_option maxRecDepth 100000 in
theorem mX7_saysNow (l : Launch) (D : va_G) (cA : Nat → ClassId) (base sz : Nat) (μ : MM) {q : Nat} (hq : kc q = 7) (a1 : Int32) {r : Int32} (hm : X7_saysNow q a1 μ = some r) : Met l yX7_saysNow wsX7_saysNow rmX7_saysNow (va_Pc [.ref (base + q), .int a1] (tPre D cA base sz μ)) (va_Qi (fun (x : Int32) (_ : Unit) => x = r) (fun _ => tPost D cA base μ) (tA base sz)) 0 0 (tA base sz) := by
  refine Met.ofW (cc := cX7_saysNow) (maxL := 2) (ret := (some .boolean)) (by decide +kernel) rfl ?_
  intro p e s m args below meth c s₁ B hml hv
  obtain ⟨rfl, hsz, hP, hK, hN⟩ := hv
  have hx := B.exec
  have hb := B.bytes
  have hr := B.returns
  have hts := atoms_spec (ws := wsX7_saysNow) B.pre
  have hown : s.vm.findClass RX7 = some m.cls := findClass_of_methodNamed B.named
  have hlocks := B.notSynchronized
  have hin7 : ∀ w ∈ wsX70, w ∈ wsX7_saysNow := by decide +kernel
  subst hsz
  have hS : va_S (tA base s.heap.size) s.heap s.heap [] := va_S.rf
  have hz : s.heap.size ≤ s.heap.size := Nat.le_refl _
  have hl := lv_entry ([.ref (base + q), .int a1]) (n := 2) (Nat.le_of_ble_eq_true rfl)
  rw [lg_entry_eq]
  generalize (lg_sl ([.ref (base + q), .int a1]) ++ List.replicate (2 - (lg_sl ([.ref (base + q), .int a1])).length) Slot.unset).toArray = ls at hl ⊢
  have hl : lv_has ls 2 [(0, .ref (base + q)), (1, .int a1)] := hl
  unfold X7_saysNow at hm
  refine lv_aload_n hx hb dX7_saysNow_0 rfl (lv_at hl 0 rfl) ?_
  refine t_getr (C := RX7) (T := TX7) (N := 26) hx hb hts hin7 hown hK hP hq rfl rfl 22 (by decide) (fr7_22 hq) (hts _ (List.mem_of_getElem? (i := 1) rfl)) dX7_saysNow_1 ?_
  refine lv_iload_n hx hb dX7_saysNow_4 rfl (lv_at hl 1 rfl) ?_
  obtain ⟨hg1, hm⟩ := gd_inv hm
  refine t_iald hx hb hK hP (kr7_22 hq) hg1 dX7_saysNow_5 ?_
  refine lv_if_le (tgt := 39) hx hb dX7_saysNow_6 (by decide) (fun c2 => ?_) (fun c2 => ?_)
  · rw [if_pos c2] at hm
    refine lv_iconst (v := (0 : Int32)) hx hb dX7_saysNow_39 (by decide) ?_
    cases hm
    exact W.zret hx hb hr rfl (fun t ht hW => ⟨⟨_, (), rfl, rfl, tPost_of hP ht⟩, hS.F ht⟩) hS.2.2 dX7_saysNow_40
  · rw [if_neg c2] at hm
    refine lv_aload_n hx hb dX7_saysNow_9 rfl (lv_at hl 0 rfl) ?_
    refine t_getr (C := RX7) (T := TX7) (N := 26) hx hb hts hin7 hown hK hP hq rfl rfl 24 (by decide) (fr7_24 hq) (hts _ (List.mem_of_getElem? (i := 2) rfl)) dX7_saysNow_10 ?_
    refine lv_sipush (v := (400 : Int32)) hx hb dX7_saysNow_13 (by decide) ?_
    refine lv_iload_n hx hb dX7_saysNow_16 rfl (lv_at hl 1 rfl) ?_
    refine lv_imul hx hb dX7_saysNow_17 ?_
    refine lv_aload_n hx hb dX7_saysNow_18 rfl (lv_at hl 0 rfl) ?_
    refine t_getr (C := RX7) (T := TX7) (N := 26) hx hb hts hin7 hown hK hP hq rfl rfl 22 (by decide) (fr7_22 hq) (hts _ (List.mem_of_getElem? (i := 1) rfl)) dX7_saysNow_19 ?_
    refine lv_iload_n hx hb dX7_saysNow_22 rfl (lv_at hl 1 rfl) ?_
    obtain ⟨hg3, hm⟩ := gd_inv hm
    refine t_iald hx hb hK hP (kr7_22 hq) hg3 dX7_saysNow_23 ?_
    refine lv_iadd hx hb dX7_saysNow_24 ?_
    refine lv_iconst (v := (1 : Int32)) hx hb dX7_saysNow_25 (by decide) ?_
    refine lv_isub hx hb dX7_saysNow_26 ?_
    obtain ⟨hg4, hm⟩ := gd_inv hm
    refine t_iald hx hb hK hP (kr7_24 hq) hg4 dX7_saysNow_27 ?_
    refine lv_aload_n hx hb dX7_saysNow_28 rfl (lv_at hl 0 rfl) ?_
    refine t_geti (C := RX7) (T := TX7) (N := 26) hx hb hts hin7 hown hK hP hq rfl rfl 0 (by decide) (fk7_0 hq) (hts _ (List.mem_of_getElem? (i := 3) rfl)) dX7_saysNow_29 ?_
    refine lv_icmp_ne (tgt := 39) hx hb dX7_saysNow_32 (by decide) (fun c5 => ?_) (fun c5 => ?_)
    · rw [if_neg c5] at hm
      refine lv_iconst (v := (0 : Int32)) hx hb dX7_saysNow_39 (by decide) ?_
      cases hm
      exact W.zret hx hb hr rfl (fun t ht hW => ⟨⟨_, (), rfl, rfl, tPost_of hP ht⟩, hS.F ht⟩) hS.2.2 dX7_saysNow_40
    · rw [if_pos c5] at hm
      refine lv_iconst (v := (1 : Int32)) hx hb dX7_saysNow_35 (by decide) ?_
      refine lv_goto (tgt := 40) hx hb dX7_saysNow_36 (by decide) ?_
      cases hm
      exact W.zret hx hb hr rfl (fun t ht hW => ⟨⟨_, (), rfl, rfl, tPost_of hP ht⟩, hS.F ht⟩) hS.2.2 dX7_saysNow_40
abbrev rmX7_all : Room := { frames := 0, cells := 0, slots := 0, locals := 0 }
set_option maxHeartbeats 4000000 in
set_option maxRecDepth 100000 in
theorem lX7_all_L4 {p : Program} {l : Launch} {e : Env} {s : State} {m : MethodId} {args : Array Value} {below : List Frame} {meth : Method} {c : Code} {Q : State → Prop} {D : va_G} {cA : Nat → ClassId} {base sz0 : Nat} {H0 : Heap} (FX : CallFix p m c cX7_all 3 s args wsX7_all RX7) (hK : va_K D vwCl (tys cA) s) (hN : tN s) (hz : sz0 ≤ H0.size) {o0 : Nat} (ho0 : kc o0 = 7) (μ : MM) {cells slots : Nat} (hcs : cells ≤ 0 ∧ slots ≤ 0) :
    ∀ (n : Nat) (v1 : Int32) (v2 : Int32) (H : Heap) (locs : List Loc) (ls : Array Slot) (w1 : Int32), X7_all_L4 o0 μ n v1 v2 = some w1 → va_P D vwCl (tw base cA μ []) H → va_S (tA base sz0) H0 H locs → lv_has ls 3 [(0, .ref (base + o0)), (1, .int v1), (2, .int v2)] → (∀ (H : Heap) (locs : List Loc) (ls : Array Slot), va_P D vwCl (tw base cA μ []) H → va_S (tA base sz0) H0 H locs → lv_has ls 3 [(1, .int w1)] → W p l e rmX7_all s m args below meth c H locs cells slots Q (F0 m 29 ls [])) → W p l e rmX7_all s m args below meth c H locs cells slots Q (F0 m 4 ls []) := by
  obtain ⟨hx, hb, hml, hown, hts⟩ := FX
  have hin7 : ∀ w ∈ wsX70, w ∈ wsX7_all := by decide +kernel
  intro n
  induction n with
  | zero =>
    intro v1 v2 H locs ls w1 hm
    cases hm
  | succ n ih =>
    intro v1 v2 H locs ls w1 hm hP hS hl K
    rw [X7_all_L4_s] at hm
    refine lv_iload_n hx hb dX7_all_4 rfl (lv_at hl 2 rfl) ?_
    refine lv_aload_n hx hb dX7_all_5 rfl (lv_at hl 0 rfl) ?_
    refine t_geti (C := RX7) (T := TX7) (N := 26) hx hb hts hin7 hown hK hP ho0 rfl rfl 11 (by decide) (fk7_11 ho0) (hts _ (List.mem_of_getElem? (i := 1) rfl)) dX7_all_6 ?_
    refine lv_icmp_ge (tgt := 29) hx hb dX7_all_9 (by decide) (fun c1 => ?_) (fun c1 => ?_)
    · rw [if_pos c1] at hm
      cases hm
      exact K _ _ _ hP hS (lv_sub hl [1] rfl)
    · rw [if_neg c1] at hm
      refine lv_iload_n hx hb dX7_all_12 rfl (lv_at hl 1 rfl) ?_
      refine lv_aload_n hx hb dX7_all_13 rfl (lv_at hl 0 rfl) ?_
      refine t_getr (C := RX7) (T := TX7) (N := 26) hx hb hts hin7 hown hK hP ho0 rfl rfl 22 (by decide) (fr7_22 ho0) (hts _ (List.mem_of_getElem? (i := 2) rfl)) dX7_all_14 ?_
      refine lv_iload_n hx hb dX7_all_17 rfl (lv_at hl 2 rfl) ?_
      refine lv_iconst (v := (1 : Int32)) hx hb dX7_all_18 (by decide) ?_
      refine lv_iadd hx hb dX7_all_19 ?_
      obtain ⟨hg2, hm⟩ := gd_inv hm
      refine t_iald hx hb hK hP (kr7_22 ho0) hg2 dX7_all_20 ?_
      refine lv_iadd hx hb dX7_all_21 ?_
      refine lv_topi (fun x3 ex3 => ?_)
      replace hm := bV_of hm ex3
      refine lv_istore_n (lv' := [(1, .int x3), (0, .ref (base + o0)), (2, .int v2)]) hx hb dX7_all_22 rfl hl (by decide) rfl (fun ls hl => ?_)
      obtain ⟨x4, ex4⟩ : ∃ z : Int32, z = v2 + (1 : Int32) := ⟨_, rfl⟩
      replace hm := bV_of hm ex4
      refine lv_iinc (v := x4) (lv' := [(2, .int x4), (1, .int x3), (0, .ref (base + o0))]) hx hb dX7_all_23 hl (k := 2) rfl (by rw [ex4]; rfl) (by decide) rfl (fun ls hl => ?_)
      refine lv_goto (tgt := 4) hx hb dX7_all_26 (by decide) ?_
      exact ih x3 x4 _ _ _ w1 hm hP hS (lv_sub hl [2, 1, 0] rfl) K
set_option maxHeartbeats 4000000 in
set_option maxRecDepth 100000 in
theorem mX7_all (l : Launch) (D : va_G) (cA : Nat → ClassId) (base sz : Nat) (μ : MM) {q : Nat} (hq : kc q = 7) {r : Int32} (hm : X7_all q μ = some r) : Met l yX7_all wsX7_all rmX7_all (va_Pc [.ref (base + q)] (tPre D cA base sz μ)) (va_Qi (fun (x : Int32) (_ : Unit) => x = r) (fun _ => tPost D cA base μ) (tA base sz)) 0 0 (tA base sz) := by
  refine Met.ofW (cc := cX7_all) (maxL := 3) (ret := (some .int)) (by decide +kernel) rfl ?_
  intro p e s m args below meth c s₁ B hml hv
  obtain ⟨rfl, hsz, hP, hK, hN⟩ := hv
  have hx := B.exec
  have hb := B.bytes
  have hr := B.returns
  have hts := atoms_spec (ws := wsX7_all) B.pre
  have hown : s.vm.findClass RX7 = some m.cls := findClass_of_methodNamed B.named
  have hlocks := B.notSynchronized
  subst hsz
  have hS : va_S (tA base s.heap.size) s.heap s.heap [] := va_S.rf
  have hz : s.heap.size ≤ s.heap.size := Nat.le_refl _
  have hl := lv_entry ([.ref (base + q)]) (n := 3) (Nat.le_of_ble_eq_true rfl)
  rw [lg_entry_eq]
  generalize (lg_sl ([.ref (base + q)]) ++ List.replicate (3 - (lg_sl ([.ref (base + q)])).length) Slot.unset).toArray = ls at hl ⊢
  have hl : lv_has ls 3 [(0, .ref (base + q))] := hl
  unfold X7_all at hm
  refine lv_iconst (v := (0 : Int32)) hx hb dX7_all_0 (by decide) ?_
  refine lv_istore_n (lv' := [(1, .int (0 : Int32)), (0, .ref (base + q))]) hx hb dX7_all_1 rfl hl (by decide) rfl (fun ls hl => ?_)
  refine lv_iconst (v := (0 : Int32)) hx hb dX7_all_2 (by decide) ?_
  refine lv_istore_n (lv' := [(2, .int (0 : Int32)), (1, .int (0 : Int32)), (0, .ref (base + q))]) hx hb dX7_all_3 rfl hl (by decide) rfl (fun ls hl => ?_)
  obtain ⟨x5, hc6, hm⟩ := bO1_inv hm
  refine lX7_all_L4 ⟨hx, hb, hml, hown, hts⟩ hK hN hz hq μ ⟨Nat.le_of_ble_eq_true rfl, Nat.le_of_ble_eq_true rfl⟩ 1000 (0 : Int32) (0 : Int32) _ _ _ x5 hc6 hP hS (lv_sub hl [2, 1, 0] rfl) ?_
  intro H locs ls hP hS hl
  refine lv_iload_n hx hb dX7_all_29 rfl (lv_at hl 0 rfl) ?_
  cases hm
  exact W.iret hx hb hr (fun t ht hW => ⟨⟨_, (), rfl, rfl, tPost_of hP ht⟩, hS.F ht⟩) hS.2.2 dX7_all_30
abbrev rmX7_say : Room := { frames := 1, cells := 0, slots := 0, locals := 23 }
set_option maxHeartbeats 4000000 in
set_option maxRecDepth 100000 in
theorem mX7_say (l : Launch) (D : va_G) (cA : Nat → ClassId) (base sz : Nat) (μ : MM) {q : Nat} (hq : kc q = 7) (a1 : Int32) (a2 : Int32) {μ' : MM} (hm : X7_say q a1 a2 μ = some μ') : Met l yX7_say wsX7_say rmX7_say (va_Pc [.ref (base + q), .int a1, .int a2] (tPre D cA base sz μ)) (va_Qv (fun _ : Unit => True) (fun _ => tPost D cA base μ') (tA base sz)) 0 0 (tA base sz) := by
  refine Met.ofW (cc := cX7_say) (maxL := 5) (ret := none) (by decide +kernel) rfl ?_
  intro p e s m args below meth c s₁ B hml hv
  obtain ⟨rfl, hsz, hP, hK, hN⟩ := hv
  have hx := B.exec
  have hb := B.bytes
  have hr := B.returns
  have hts := atoms_spec (ws := wsX7_say) B.pre
  have hown : s.vm.findClass RX7 = some m.cls := findClass_of_methodNamed B.named
  have hlocks := B.notSynchronized
  have hin7 : ∀ w ∈ wsX70, w ∈ wsX7_say := by decide +kernel
  subst hsz
  have hS : va_S (tA base s.heap.size) s.heap s.heap [] := va_S.rf
  have hz : s.heap.size ≤ s.heap.size := Nat.le_refl _
  have hl := lv_entry ([.ref (base + q), .int a1, .int a2]) (n := 5) (Nat.le_of_ble_eq_true rfl)
  rw [lg_entry_eq]
  generalize (lg_sl ([.ref (base + q), .int a1, .int a2]) ++ List.replicate (5 - (lg_sl ([.ref (base + q), .int a1, .int a2])).length) Slot.unset).toArray = ls at hl ⊢
  have hl : lv_has ls 5 [(0, .ref (base + q)), (1, .int a1), (2, .int a2)] := hl
  unfold X7_say at hm
  refine lv_aload_n hx hb dX7_say_0 rfl (lv_at hl 0 rfl) ?_
  refine lv_iload_n hx hb dX7_say_1 rfl (lv_at hl 1 rfl) ?_
  obtain ⟨r1, hc2, hm⟩ := bO1_inv hm
  refine t_cVi (As := [.int a1]) (rest := []) (μ' := μ) (r := r1) ⟨hx, hb, hml, hown, hts⟩ (mX7_isAble l D cA base s.heap.size μ hq a1 hc2) (cwV 1 hts gX7_say_X7_isAble rfl rfl rfl (by decide +kernel) ⟨Nat.le_of_ble_eq_true rfl, Nat.le_of_ble_eq_true rfl⟩) (va_recv hK hP (q0 := q) rfl (tw_obj hq (by decide))) hK hN hP hS hz rfl hl.1 (Nat.le_of_ble_eq_true rfl) dX7_say_2 ⟨Nat.le_of_ble_eq_true rfl, Nat.le_of_ble_eq_true rfl⟩ rfl (fun H locs hP hS => ?_)
  refine lv_if_ne (tgt := 19) hx hb dX7_say_5 (by decide) (fun c3 => ?_) (fun c3 => ?_)
  · rw [if_neg c3] at hm
    refine lv_aload_n hx hb dX7_say_19 rfl (lv_at hl 0 rfl) ?_
    refine t_getr (C := RX7) (T := TX7) (N := 26) hx hb hts hin7 hown hK hP hq rfl rfl 16 (by decide) (fr7_16 hq) (hts _ (List.mem_of_getElem? (i := 2) rfl)) dX7_say_20 ?_
    refine lv_iload_n hx hb dX7_say_23 rfl (lv_at hl 1 rfl) ?_
    obtain ⟨hg4, hm⟩ := gd_inv hm
    refine t_iald hx hb hK hP (kr7_16 hq) hg4 dX7_say_24 ?_
    refine lv_topi (fun x5 ex5 => ?_)
    replace hm := bV_of hm ex5
    refine lv_istore_n (lv' := [(3, .int x5), (0, .ref (base + q)), (1, .int a1), (2, .int a2)]) hx hb dX7_say_25 rfl hl (by decide) rfl (fun ls hl => ?_)
    refine lv_aload_n hx hb dX7_say_26 rfl (lv_at hl 1 rfl) ?_
    refine t_getr (C := RX7) (T := TX7) (N := 26) hx hb hts hin7 hown hK hP hq rfl rfl 7 (by decide) (fr7_7 hq) (hts _ (List.mem_of_getElem? (i := 3) rfl)) dX7_say_27 ?_
    refine lv_iload_n hx hb dX7_say_30 rfl (lv_at hl 0 rfl) ?_
    obtain ⟨hg6, hm⟩ := gd_inv hm
    refine t_iald hx hb hK hP (kr7_7 hq) hg6 dX7_say_31 ?_
    refine lv_bipush (v := (20 : Int32)) hx hb dX7_say_32 (by decide) ?_
    refine lv_icmp_lt (tgt := 58) hx hb dX7_say_34 (by decide) (fun c7 => ?_) (fun c7 => ?_)
    · rw [if_pos c7] at hm
      refine lv_iconst (v := (0 : Int32)) hx hb dX7_say_58 (by decide) ?_
      refine lv_istore (lv' := [(4, .int (0 : Int32)), (3, .int x5), (0, .ref (base + q)), (1, .int a1), (2, .int a2)]) hx hb dX7_say_59 hl (by decide) rfl (fun ls hl => ?_)
      refine lv_aload_n hx hb dX7_say_61 rfl (lv_at hl 2 rfl) ?_
      refine lv_iload_n hx hb dX7_say_62 rfl (lv_at hl 3 rfl) ?_
      refine lv_iconst (v := (1 : Int32)) hx hb dX7_say_63 (by decide) ?_
      refine lv_iadd hx hb dX7_say_64 ?_
      refine lv_iload hx hb dX7_say_65 (lv_at hl 0 rfl) ?_
      refine lv_if_eq (tgt := 79) hx hb dX7_say_67 (by decide) (fun c8 => ?_) (fun c8 => ?_)
      rotate_left
      · exact absurd c8 (by decide)
      refine lv_iload_n hx hb dX7_say_79 rfl (lv_at hl 4 rfl) ?_
      obtain ⟨μ9, hc10, hm⟩ := bO1_inv hm
      refine t_cVv (As := [.int (a1 + (1 : Int32)), .int a2]) (rest := []) (μ' := μ9) ⟨hx, hb, hml, hown, hts⟩ (mX7_keep l D cA base H.size μ hq (a1 + (1 : Int32)) a2 hc10) (cwV 2 hts gX7_say_X7_keep rfl rfl rfl (by decide +kernel) ⟨Nat.le_of_ble_eq_true rfl, Nat.le_of_ble_eq_true rfl⟩) (va_recv hK hP (q0 := q) rfl (tw_obj hq (by decide))) hK hN hP hS hz rfl hl.1 (Nat.le_of_ble_eq_true rfl) dX7_say_80 ⟨Nat.le_of_ble_eq_true rfl, Nat.le_of_ble_eq_true rfl⟩ rfl (fun H locs hP hS => ?_)
      refine lv_aload_n hx hb dX7_say_83 rfl (lv_at hl 2 rfl) ?_
      refine t_getr (C := RX7) (T := TX7) (N := 26) hx hb hts hin7 hown hK hP hq rfl rfl 9 (by decide) (fr7_9 hq) (hts _ (List.mem_of_getElem? (i := 5) rfl)) dX7_say_84 ?_
      refine lv_iload_n hx hb dX7_say_87 rfl (lv_at hl 1 rfl) ?_
      refine lv_dup2_11 hx hb dX7_say_88 rfl rfl ?_
      obtain ⟨hg11, hm⟩ := gd_inv hm
      refine t_iald hx hb hK hP (kr7_9 hq) hg11 dX7_say_89 ?_
      refine lv_iload hx hb dX7_say_90 (lv_at hl 0 rfl) ?_
      refine lv_if_eq (tgt := 99) hx hb dX7_say_92 (by decide) (fun c12 => ?_) (fun c12 => ?_)
      rotate_left
      · exact absurd c12 (by decide)
      refine lv_iconst (v := (0 : Int32)) hx hb dX7_say_99 (by decide) ?_
      refine lv_iadd hx hb dX7_say_100 ?_
      obtain ⟨hg13, hm⟩ := gd_inv hm
      refine t_iast hx hb hK hP (tD _ _ _ _) hS (kr7_9 hq) hg13 dX7_say_101 (fun H locs hP hS => ?_)
      obtain ⟨μ14, eμ14⟩ : ∃ z : MM, z = wI μ9 (RF q 9) x5.toNatClampNeg ((rI μ9 (RF q 9) x5.toNatClampNeg) + (0 : Int32)) := ⟨_, rfl⟩
      rw [← eμ14] at hP
      replace hm := bV_of hm eμ14
      refine lv_aload_n hx hb dX7_say_102 rfl (lv_at hl 2 rfl) ?_
      refine t_getr (C := RX7) (T := TX7) (N := 26) hx hb hts hin7 hown hK hP hq rfl rfl 8 (by decide) (fr7_8 hq) (hts _ (List.mem_of_getElem? (i := 4) rfl)) dX7_say_103 ?_
      refine lv_iload_n hx hb dX7_say_106 rfl (lv_at hl 1 rfl) ?_
      refine lv_dup2_11 hx hb dX7_say_107 rfl rfl ?_
      obtain ⟨hg15, hm⟩ := gd_inv hm
      refine t_iald hx hb hK hP (kr7_8 hq) hg15 dX7_say_108 ?_
      refine lv_iconst (v := (1 : Int32)) hx hb dX7_say_109 (by decide) ?_
      refine lv_iadd hx hb dX7_say_110 ?_
      obtain ⟨hg16, hm⟩ := gd_inv hm
      refine t_iast hx hb hK hP (tD _ _ _ _) hS (kr7_8 hq) hg16 dX7_say_111 (fun H locs hP hS => ?_)
      obtain ⟨μ17, eμ17⟩ : ∃ z : MM, z = wI μ14 (RF q 8) x5.toNatClampNeg ((rI μ14 (RF q 8) x5.toNatClampNeg) + (1 : Int32)) := ⟨_, rfl⟩
      rw [← eμ17] at hP
      replace hm := bV_of hm eμ17
      refine lv_aload_n hx hb dX7_say_112 rfl (lv_at hl 2 rfl) ?_
      refine t_getr (C := RX7) (T := TX7) (N := 26) hx hb hts hin7 hown hK hP hq rfl rfl 7 (by decide) (fr7_7 hq) (hts _ (List.mem_of_getElem? (i := 3) rfl)) dX7_say_113 ?_
      refine lv_iload_n hx hb dX7_say_116 rfl (lv_at hl 1 rfl) ?_
      refine lv_dup2_11 hx hb dX7_say_117 rfl rfl ?_
      obtain ⟨hg18, hm⟩ := gd_inv hm
      refine t_iald hx hb hK hP (kr7_7 hq) hg18 dX7_say_118 ?_
      refine lv_iconst (v := (1 : Int32)) hx hb dX7_say_119 (by decide) ?_
      refine lv_iadd hx hb dX7_say_120 ?_
      obtain ⟨hg19, hm⟩ := gd_inv hm
      refine t_iast hx hb hK hP (tD _ _ _ _) hS (kr7_7 hq) hg19 dX7_say_121 (fun H locs hP hS => ?_)
      obtain ⟨μ20, eμ20⟩ : ∃ z : MM, z = wI μ17 (RF q 7) x5.toNatClampNeg ((rI μ17 (RF q 7) x5.toNatClampNeg) + (1 : Int32)) := ⟨_, rfl⟩
      rw [← eμ20] at hP
      replace hm := bV_of hm eμ20
      cases hm
      exact W.vret hx hb hr (fun t ht hW => ⟨⟨(), rfl, trivial, tPost_of hP ht⟩, hS.F ht⟩) hS.2.2 dX7_say_122
    · rw [if_neg c7] at hm
      refine lv_aload_n hx hb dX7_say_37 rfl (lv_at hl 1 rfl) ?_
      refine t_getr (C := RX7) (T := TX7) (N := 26) hx hb hts hin7 hown hK hP hq rfl rfl 8 (by decide) (fr7_8 hq) (hts _ (List.mem_of_getElem? (i := 4) rfl)) dX7_say_38 ?_
      refine lv_iload_n hx hb dX7_say_41 rfl (lv_at hl 0 rfl) ?_
      obtain ⟨hg21, hm⟩ := gd_inv hm
      refine t_iald hx hb hK hP (kr7_8 hq) hg21 dX7_say_42 ?_
      refine lv_iconst (v := (3 : Int32)) hx hb dX7_say_43 (by decide) ?_
      refine lv_irem hx hb dX7_say_44 (by decide) ?_
      refine lv_if_ne (tgt := 58) hx hb dX7_say_45 (by decide) (fun c22 => ?_) (fun c22 => ?_)
      · rw [if_neg c22] at hm
        refine lv_iconst (v := (0 : Int32)) hx hb dX7_say_58 (by decide) ?_
        refine lv_istore (lv' := [(4, .int (0 : Int32)), (3, .int x5), (0, .ref (base + q)), (1, .int a1), (2, .int a2)]) hx hb dX7_say_59 hl (by decide) rfl (fun ls hl => ?_)
        refine lv_aload_n hx hb dX7_say_61 rfl (lv_at hl 2 rfl) ?_
        refine lv_iload_n hx hb dX7_say_62 rfl (lv_at hl 3 rfl) ?_
        refine lv_iconst (v := (1 : Int32)) hx hb dX7_say_63 (by decide) ?_
        refine lv_iadd hx hb dX7_say_64 ?_
        refine lv_iload hx hb dX7_say_65 (lv_at hl 0 rfl) ?_
        refine lv_if_eq (tgt := 79) hx hb dX7_say_67 (by decide) (fun c23 => ?_) (fun c23 => ?_)
        rotate_left
        · exact absurd c23 (by decide)
        refine lv_iload_n hx hb dX7_say_79 rfl (lv_at hl 4 rfl) ?_
        obtain ⟨μ24, hc25, hm⟩ := bO1_inv hm
        refine t_cVv (As := [.int (a1 + (1 : Int32)), .int a2]) (rest := []) (μ' := μ24) ⟨hx, hb, hml, hown, hts⟩ (mX7_keep l D cA base H.size μ hq (a1 + (1 : Int32)) a2 hc25) (cwV 2 hts gX7_say_X7_keep rfl rfl rfl (by decide +kernel) ⟨Nat.le_of_ble_eq_true rfl, Nat.le_of_ble_eq_true rfl⟩) (va_recv hK hP (q0 := q) rfl (tw_obj hq (by decide))) hK hN hP hS hz rfl hl.1 (Nat.le_of_ble_eq_true rfl) dX7_say_80 ⟨Nat.le_of_ble_eq_true rfl, Nat.le_of_ble_eq_true rfl⟩ rfl (fun H locs hP hS => ?_)
        refine lv_aload_n hx hb dX7_say_83 rfl (lv_at hl 2 rfl) ?_
        refine t_getr (C := RX7) (T := TX7) (N := 26) hx hb hts hin7 hown hK hP hq rfl rfl 9 (by decide) (fr7_9 hq) (hts _ (List.mem_of_getElem? (i := 5) rfl)) dX7_say_84 ?_
        refine lv_iload_n hx hb dX7_say_87 rfl (lv_at hl 1 rfl) ?_
        refine lv_dup2_11 hx hb dX7_say_88 rfl rfl ?_
        obtain ⟨hg26, hm⟩ := gd_inv hm
        refine t_iald hx hb hK hP (kr7_9 hq) hg26 dX7_say_89 ?_
        refine lv_iload hx hb dX7_say_90 (lv_at hl 0 rfl) ?_
        refine lv_if_eq (tgt := 99) hx hb dX7_say_92 (by decide) (fun c27 => ?_) (fun c27 => ?_)
        rotate_left
        · exact absurd c27 (by decide)
        refine lv_iconst (v := (0 : Int32)) hx hb dX7_say_99 (by decide) ?_
        refine lv_iadd hx hb dX7_say_100 ?_
        obtain ⟨hg28, hm⟩ := gd_inv hm
        refine t_iast hx hb hK hP (tD _ _ _ _) hS (kr7_9 hq) hg28 dX7_say_101 (fun H locs hP hS => ?_)
        obtain ⟨μ29, eμ29⟩ : ∃ z : MM, z = wI μ24 (RF q 9) x5.toNatClampNeg ((rI μ24 (RF q 9) x5.toNatClampNeg) + (0 : Int32)) := ⟨_, rfl⟩
        rw [← eμ29] at hP
        replace hm := bV_of hm eμ29
        refine lv_aload_n hx hb dX7_say_102 rfl (lv_at hl 2 rfl) ?_
        refine t_getr (C := RX7) (T := TX7) (N := 26) hx hb hts hin7 hown hK hP hq rfl rfl 8 (by decide) (fr7_8 hq) (hts _ (List.mem_of_getElem? (i := 4) rfl)) dX7_say_103 ?_
        refine lv_iload_n hx hb dX7_say_106 rfl (lv_at hl 1 rfl) ?_
        refine lv_dup2_11 hx hb dX7_say_107 rfl rfl ?_
        obtain ⟨hg30, hm⟩ := gd_inv hm
        refine t_iald hx hb hK hP (kr7_8 hq) hg30 dX7_say_108 ?_
        refine lv_iconst (v := (1 : Int32)) hx hb dX7_say_109 (by decide) ?_
        refine lv_iadd hx hb dX7_say_110 ?_
        obtain ⟨hg31, hm⟩ := gd_inv hm
        refine t_iast hx hb hK hP (tD _ _ _ _) hS (kr7_8 hq) hg31 dX7_say_111 (fun H locs hP hS => ?_)
        obtain ⟨μ32, eμ32⟩ : ∃ z : MM, z = wI μ29 (RF q 8) x5.toNatClampNeg ((rI μ29 (RF q 8) x5.toNatClampNeg) + (1 : Int32)) := ⟨_, rfl⟩
        rw [← eμ32] at hP
        replace hm := bV_of hm eμ32
        refine lv_aload_n hx hb dX7_say_112 rfl (lv_at hl 2 rfl) ?_
        refine t_getr (C := RX7) (T := TX7) (N := 26) hx hb hts hin7 hown hK hP hq rfl rfl 7 (by decide) (fr7_7 hq) (hts _ (List.mem_of_getElem? (i := 3) rfl)) dX7_say_113 ?_
        refine lv_iload_n hx hb dX7_say_116 rfl (lv_at hl 1 rfl) ?_
        refine lv_dup2_11 hx hb dX7_say_117 rfl rfl ?_
        obtain ⟨hg33, hm⟩ := gd_inv hm
        refine t_iald hx hb hK hP (kr7_7 hq) hg33 dX7_say_118 ?_
        refine lv_iconst (v := (1 : Int32)) hx hb dX7_say_119 (by decide) ?_
        refine lv_iadd hx hb dX7_say_120 ?_
        obtain ⟨hg34, hm⟩ := gd_inv hm
        refine t_iast hx hb hK hP (tD _ _ _ _) hS (kr7_7 hq) hg34 dX7_say_121 (fun H locs hP hS => ?_)
        obtain ⟨μ35, eμ35⟩ : ∃ z : MM, z = wI μ32 (RF q 7) x5.toNatClampNeg ((rI μ32 (RF q 7) x5.toNatClampNeg) + (1 : Int32)) := ⟨_, rfl⟩
        rw [← eμ35] at hP
        replace hm := bV_of hm eμ35
        cases hm
        exact W.vret hx hb hr (fun t ht hW => ⟨⟨(), rfl, trivial, tPost_of hP ht⟩, hS.F ht⟩) hS.2.2 dX7_say_122
      · rw [if_pos c22] at hm
        refine lv_iload_n hx hb dX7_say_48 rfl (lv_at hl 3 rfl) ?_
        refine lv_bipush (v := (80 : Int32)) hx hb dX7_say_49 (by decide) ?_
        refine lv_icmp_ge (tgt := 58) hx hb dX7_say_51 (by decide) (fun c36 => ?_) (fun c36 => ?_)
        · rw [if_pos c36] at hm
          refine lv_iconst (v := (0 : Int32)) hx hb dX7_say_58 (by decide) ?_
          refine lv_istore (lv' := [(4, .int (0 : Int32)), (3, .int x5), (0, .ref (base + q)), (1, .int a1), (2, .int a2)]) hx hb dX7_say_59 hl (by decide) rfl (fun ls hl => ?_)
          refine lv_aload_n hx hb dX7_say_61 rfl (lv_at hl 2 rfl) ?_
          refine lv_iload_n hx hb dX7_say_62 rfl (lv_at hl 3 rfl) ?_
          refine lv_iconst (v := (1 : Int32)) hx hb dX7_say_63 (by decide) ?_
          refine lv_iadd hx hb dX7_say_64 ?_
          refine lv_iload hx hb dX7_say_65 (lv_at hl 0 rfl) ?_
          refine lv_if_eq (tgt := 79) hx hb dX7_say_67 (by decide) (fun c37 => ?_) (fun c37 => ?_)
          rotate_left
          · exact absurd c37 (by decide)
          refine lv_iload_n hx hb dX7_say_79 rfl (lv_at hl 4 rfl) ?_
          obtain ⟨μ38, hc39, hm⟩ := bO1_inv hm
          refine t_cVv (As := [.int (a1 + (1 : Int32)), .int a2]) (rest := []) (μ' := μ38) ⟨hx, hb, hml, hown, hts⟩ (mX7_keep l D cA base H.size μ hq (a1 + (1 : Int32)) a2 hc39) (cwV 2 hts gX7_say_X7_keep rfl rfl rfl (by decide +kernel) ⟨Nat.le_of_ble_eq_true rfl, Nat.le_of_ble_eq_true rfl⟩) (va_recv hK hP (q0 := q) rfl (tw_obj hq (by decide))) hK hN hP hS hz rfl hl.1 (Nat.le_of_ble_eq_true rfl) dX7_say_80 ⟨Nat.le_of_ble_eq_true rfl, Nat.le_of_ble_eq_true rfl⟩ rfl (fun H locs hP hS => ?_)
          refine lv_aload_n hx hb dX7_say_83 rfl (lv_at hl 2 rfl) ?_
          refine t_getr (C := RX7) (T := TX7) (N := 26) hx hb hts hin7 hown hK hP hq rfl rfl 9 (by decide) (fr7_9 hq) (hts _ (List.mem_of_getElem? (i := 5) rfl)) dX7_say_84 ?_
          refine lv_iload_n hx hb dX7_say_87 rfl (lv_at hl 1 rfl) ?_
          refine lv_dup2_11 hx hb dX7_say_88 rfl rfl ?_
          obtain ⟨hg40, hm⟩ := gd_inv hm
          refine t_iald hx hb hK hP (kr7_9 hq) hg40 dX7_say_89 ?_
          refine lv_iload hx hb dX7_say_90 (lv_at hl 0 rfl) ?_
          refine lv_if_eq (tgt := 99) hx hb dX7_say_92 (by decide) (fun c41 => ?_) (fun c41 => ?_)
          rotate_left
          · exact absurd c41 (by decide)
          refine lv_iconst (v := (0 : Int32)) hx hb dX7_say_99 (by decide) ?_
          refine lv_iadd hx hb dX7_say_100 ?_
          obtain ⟨hg42, hm⟩ := gd_inv hm
          refine t_iast hx hb hK hP (tD _ _ _ _) hS (kr7_9 hq) hg42 dX7_say_101 (fun H locs hP hS => ?_)
          obtain ⟨μ43, eμ43⟩ : ∃ z : MM, z = wI μ38 (RF q 9) x5.toNatClampNeg ((rI μ38 (RF q 9) x5.toNatClampNeg) + (0 : Int32)) := ⟨_, rfl⟩
          rw [← eμ43] at hP
          replace hm := bV_of hm eμ43
          refine lv_aload_n hx hb dX7_say_102 rfl (lv_at hl 2 rfl) ?_
          refine t_getr (C := RX7) (T := TX7) (N := 26) hx hb hts hin7 hown hK hP hq rfl rfl 8 (by decide) (fr7_8 hq) (hts _ (List.mem_of_getElem? (i := 4) rfl)) dX7_say_103 ?_
          refine lv_iload_n hx hb dX7_say_106 rfl (lv_at hl 1 rfl) ?_
          refine lv_dup2_11 hx hb dX7_say_107 rfl rfl ?_
          obtain ⟨hg44, hm⟩ := gd_inv hm
          refine t_iald hx hb hK hP (kr7_8 hq) hg44 dX7_say_108 ?_
          refine lv_iconst (v := (1 : Int32)) hx hb dX7_say_109 (by decide) ?_
          refine lv_iadd hx hb dX7_say_110 ?_
          obtain ⟨hg45, hm⟩ := gd_inv hm
          refine t_iast hx hb hK hP (tD _ _ _ _) hS (kr7_8 hq) hg45 dX7_say_111 (fun H locs hP hS => ?_)
          obtain ⟨μ46, eμ46⟩ : ∃ z : MM, z = wI μ43 (RF q 8) x5.toNatClampNeg ((rI μ43 (RF q 8) x5.toNatClampNeg) + (1 : Int32)) := ⟨_, rfl⟩
          rw [← eμ46] at hP
          replace hm := bV_of hm eμ46
          refine lv_aload_n hx hb dX7_say_112 rfl (lv_at hl 2 rfl) ?_
          refine t_getr (C := RX7) (T := TX7) (N := 26) hx hb hts hin7 hown hK hP hq rfl rfl 7 (by decide) (fr7_7 hq) (hts _ (List.mem_of_getElem? (i := 3) rfl)) dX7_say_113 ?_
          refine lv_iload_n hx hb dX7_say_116 rfl (lv_at hl 1 rfl) ?_
          refine lv_dup2_11 hx hb dX7_say_117 rfl rfl ?_
          obtain ⟨hg47, hm⟩ := gd_inv hm
          refine t_iald hx hb hK hP (kr7_7 hq) hg47 dX7_say_118 ?_
          refine lv_iconst (v := (1 : Int32)) hx hb dX7_say_119 (by decide) ?_
          refine lv_iadd hx hb dX7_say_120 ?_
          obtain ⟨hg48, hm⟩ := gd_inv hm
          refine t_iast hx hb hK hP (tD _ _ _ _) hS (kr7_7 hq) hg48 dX7_say_121 (fun H locs hP hS => ?_)
          obtain ⟨μ49, eμ49⟩ : ∃ z : MM, z = wI μ46 (RF q 7) x5.toNatClampNeg ((rI μ46 (RF q 7) x5.toNatClampNeg) + (1 : Int32)) := ⟨_, rfl⟩
          rw [← eμ49] at hP
          replace hm := bV_of hm eμ49
          cases hm
          exact W.vret hx hb hr (fun t ht hW => ⟨⟨(), rfl, trivial, tPost_of hP ht⟩, hS.F ht⟩) hS.2.2 dX7_say_122
        · rw [if_neg c36] at hm
          refine lv_iconst (v := (1 : Int32)) hx hb dX7_say_54 (by decide) ?_
          refine lv_goto (tgt := 59) hx hb dX7_say_55 (by decide) ?_
          refine lv_istore (lv' := [(4, .int (1 : Int32)), (3, .int x5), (0, .ref (base + q)), (1, .int a1), (2, .int a2)]) hx hb dX7_say_59 hl (by decide) rfl (fun ls hl => ?_)
          refine lv_aload_n hx hb dX7_say_61 rfl (lv_at hl 2 rfl) ?_
          refine lv_iload_n hx hb dX7_say_62 rfl (lv_at hl 3 rfl) ?_
          refine lv_iconst (v := (1 : Int32)) hx hb dX7_say_63 (by decide) ?_
          refine lv_iadd hx hb dX7_say_64 ?_
          refine lv_iload hx hb dX7_say_65 (lv_at hl 0 rfl) ?_
          refine lv_if_eq (tgt := 79) hx hb dX7_say_67 (by decide) (fun c50 => ?_) (fun c50 => ?_)
          · exact absurd c50 (by decide)
          refine lv_iload_n hx hb dX7_say_70 rfl (lv_at hl 4 rfl) ?_
          refine lv_iconst (v := (1 : Int32)) hx hb dX7_say_71 (by decide) ?_
          refine lv_iadd hx hb dX7_say_72 ?_
          refine lv_bipush (v := (80 : Int32)) hx hb dX7_say_73 (by decide) ?_
          refine lv_irem hx hb dX7_say_75 (by decide) ?_
          refine lv_goto (tgt := 80) hx hb dX7_say_76 (by decide) ?_
          obtain ⟨μ51, hc52, hm⟩ := bO1_inv hm
          refine t_cVv (As := [.int (a1 + (1 : Int32)), .int ((a2 + (1 : Int32)) - (a2 + (1 : Int32)) / (80 : Int32) * (80 : Int32))]) (rest := []) (μ' := μ51) ⟨hx, hb, hml, hown, hts⟩ (mX7_keep l D cA base H.size μ hq (a1 + (1 : Int32)) ((a2 + (1 : Int32)) - (a2 + (1 : Int32)) / (80 : Int32) * (80 : Int32)) hc52) (cwV 2 hts gX7_say_X7_keep rfl rfl rfl (by decide +kernel) ⟨Nat.le_of_ble_eq_true rfl, Nat.le_of_ble_eq_true rfl⟩) (va_recv hK hP (q0 := q) rfl (tw_obj hq (by decide))) hK hN hP hS hz rfl hl.1 (Nat.le_of_ble_eq_true rfl) dX7_say_80 ⟨Nat.le_of_ble_eq_true rfl, Nat.le_of_ble_eq_true rfl⟩ rfl (fun H locs hP hS => ?_)
          refine lv_aload_n hx hb dX7_say_83 rfl (lv_at hl 2 rfl) ?_
          refine t_getr (C := RX7) (T := TX7) (N := 26) hx hb hts hin7 hown hK hP hq rfl rfl 9 (by decide) (fr7_9 hq) (hts _ (List.mem_of_getElem? (i := 5) rfl)) dX7_say_84 ?_
          refine lv_iload_n hx hb dX7_say_87 rfl (lv_at hl 1 rfl) ?_
          refine lv_dup2_11 hx hb dX7_say_88 rfl rfl ?_
          obtain ⟨hg53, hm⟩ := gd_inv hm
          refine t_iald hx hb hK hP (kr7_9 hq) hg53 dX7_say_89 ?_
          refine lv_iload hx hb dX7_say_90 (lv_at hl 0 rfl) ?_
          refine lv_if_eq (tgt := 99) hx hb dX7_say_92 (by decide) (fun c54 => ?_) (fun c54 => ?_)
          · exact absurd c54 (by decide)
          refine lv_iconst (v := (1 : Int32)) hx hb dX7_say_95 (by decide) ?_
          refine lv_goto (tgt := 100) hx hb dX7_say_96 (by decide) ?_
          refine lv_iadd hx hb dX7_say_100 ?_
          obtain ⟨hg55, hm⟩ := gd_inv hm
          refine t_iast hx hb hK hP (tD _ _ _ _) hS (kr7_9 hq) hg55 dX7_say_101 (fun H locs hP hS => ?_)
          obtain ⟨μ56, eμ56⟩ : ∃ z : MM, z = wI μ51 (RF q 9) x5.toNatClampNeg ((rI μ51 (RF q 9) x5.toNatClampNeg) + (1 : Int32)) := ⟨_, rfl⟩
          rw [← eμ56] at hP
          replace hm := bV_of hm eμ56
          refine lv_aload_n hx hb dX7_say_102 rfl (lv_at hl 2 rfl) ?_
          refine t_getr (C := RX7) (T := TX7) (N := 26) hx hb hts hin7 hown hK hP hq rfl rfl 8 (by decide) (fr7_8 hq) (hts _ (List.mem_of_getElem? (i := 4) rfl)) dX7_say_103 ?_
          refine lv_iload_n hx hb dX7_say_106 rfl (lv_at hl 1 rfl) ?_
          refine lv_dup2_11 hx hb dX7_say_107 rfl rfl ?_
          obtain ⟨hg57, hm⟩ := gd_inv hm
          refine t_iald hx hb hK hP (kr7_8 hq) hg57 dX7_say_108 ?_
          refine lv_iconst (v := (1 : Int32)) hx hb dX7_say_109 (by decide) ?_
          refine lv_iadd hx hb dX7_say_110 ?_
          obtain ⟨hg58, hm⟩ := gd_inv hm
          refine t_iast hx hb hK hP (tD _ _ _ _) hS (kr7_8 hq) hg58 dX7_say_111 (fun H locs hP hS => ?_)
          obtain ⟨μ59, eμ59⟩ : ∃ z : MM, z = wI μ56 (RF q 8) x5.toNatClampNeg ((rI μ56 (RF q 8) x5.toNatClampNeg) + (1 : Int32)) := ⟨_, rfl⟩
          rw [← eμ59] at hP
          replace hm := bV_of hm eμ59
          refine lv_aload_n hx hb dX7_say_112 rfl (lv_at hl 2 rfl) ?_
          refine t_getr (C := RX7) (T := TX7) (N := 26) hx hb hts hin7 hown hK hP hq rfl rfl 7 (by decide) (fr7_7 hq) (hts _ (List.mem_of_getElem? (i := 3) rfl)) dX7_say_113 ?_
          refine lv_iload_n hx hb dX7_say_116 rfl (lv_at hl 1 rfl) ?_
          refine lv_dup2_11 hx hb dX7_say_117 rfl rfl ?_
          obtain ⟨hg60, hm⟩ := gd_inv hm
          refine t_iald hx hb hK hP (kr7_7 hq) hg60 dX7_say_118 ?_
          refine lv_iconst (v := (1 : Int32)) hx hb dX7_say_119 (by decide) ?_
          refine lv_iadd hx hb dX7_say_120 ?_
          obtain ⟨hg61, hm⟩ := gd_inv hm
          refine t_iast hx hb hK hP (tD _ _ _ _) hS (kr7_7 hq) hg61 dX7_say_121 (fun H locs hP hS => ?_)
          obtain ⟨μ62, eμ62⟩ : ∃ z : MM, z = wI μ59 (RF q 7) x5.toNatClampNeg ((rI μ59 (RF q 7) x5.toNatClampNeg) + (1 : Int32)) := ⟨_, rfl⟩
          rw [← eμ62] at hP
          replace hm := bV_of hm eμ62
          cases hm
          exact W.vret hx hb hr (fun t ht hW => ⟨⟨(), rfl, trivial, tPost_of hP ht⟩, hS.F ht⟩) hS.2.2 dX7_say_122
  · rw [if_pos c3] at hm
    refine lv_aload_n hx hb dX7_say_8 rfl (lv_at hl 0 rfl) ?_
    refine t_getr (C := RX7) (T := TX7) (N := 26) hx hb hts hin7 hown hK hP hq rfl rfl 17 (by decide) (fr7_17 hq) (hts _ (List.mem_of_getElem? (i := 1) rfl)) dX7_say_9 ?_
    refine lv_iload_n hx hb dX7_say_12 rfl (lv_at hl 1 rfl) ?_
    refine lv_dup2_11 hx hb dX7_say_13 rfl rfl ?_
    obtain ⟨hg63, hm⟩ := gd_inv hm
    refine t_iald hx hb hK hP (kr7_17 hq) hg63 dX7_say_14 ?_
    refine lv_iconst (v := (1 : Int32)) hx hb dX7_say_15 (by decide) ?_
    refine lv_iadd hx hb dX7_say_16 ?_
    obtain ⟨hg64, hm⟩ := gd_inv hm
    refine t_iast hx hb hK hP (tD _ _ _ _) hS (kr7_17 hq) hg64 dX7_say_17 (fun H locs hP hS => ?_)
    obtain ⟨μ65, eμ65⟩ : ∃ z : MM, z = wI μ (RF q 17) a1.toNatClampNeg ((rI μ (RF q 17) a1.toNatClampNeg) + (1 : Int32)) := ⟨_, rfl⟩
    rw [← eμ65] at hP
    replace hm := bV_of hm eμ65
    cases hm
    exact W.vret hx hb hr (fun t ht hW => ⟨⟨(), rfl, trivial, tPost_of hP ht⟩, hS.F ht⟩) hS.2.2 dX7_say_18
abbrev rmX7_act : Room := { frames := 2, cells := 0, slots := 0, locals := 47 }
set_option maxHeartbeats 4000000 in
set_option maxRecDepth 100000 in
theorem lX7_act_L89 {p : Program} {l : Launch} {e : Env} {s : State} {m : MethodId} {args : Array Value} {below : List Frame} {meth : Method} {c : Code} {Q : State → Prop} {D : va_G} {cA : Nat → ClassId} {base sz0 : Nat} {H0 : Heap} (FX : CallFix p m c cX7_act 4 s args wsX7_act RX7) (hK : va_K D vwCl (tys cA) s) (hN : tN s) (hz : sz0 ≤ H0.size) {o0 : Nat} (ho0 : kc o0 = 7) (b1 : Int32) (b2 : Int32) {cells slots : Nat} (hcs : cells ≤ 0 ∧ slots ≤ 0) :
    ∀ (n : Nat) (v3 : Int32) (μ : MM) (H : Heap) (locs : List Loc) (ls : Array Slot) (μ' : MM), X7_act_L89 o0 b1 b2 n v3 μ = some μ' → va_P D vwCl (tw base cA μ []) H → va_S (tA base sz0) H0 H locs → lv_has ls 4 [(0, .ref (base + o0)), (1, .int b1), (2, .int b2), (3, .int v3)] → (∀ (H : Heap) (locs : List Loc) (ls : Array Slot), va_P D vwCl (tw base cA μ' []) H → va_S (tA base sz0) H0 H locs → lv_has ls 4 [(0, .ref (base + o0)), (1, .int b1), (2, .int b2)] → W p l e rmX7_act s m args below meth c H locs cells slots Q (F0 m 138 ls [])) → W p l e rmX7_act s m args below meth c H locs cells slots Q (F0 m 89 ls []) := by
  obtain ⟨hx, hb, hml, hown, hts⟩ := FX
  have hin7 : ∀ w ∈ wsX70, w ∈ wsX7_act := by decide +kernel
  intro n
  induction n with
  | zero =>
    intro v3 μ H locs ls μ' hm
    cases hm
  | succ n ih =>
    intro v3 μ H locs ls μ' hm hP hS hl K
    rw [X7_act_L89_s] at hm
    refine lv_iload_n hx hb dX7_act_89 rfl (lv_at hl 3 rfl) ?_
    refine lv_bipush (v := (12 : Int32)) hx hb dX7_act_90 (by decide) ?_
    refine lv_iload_n hx hb dX7_act_92 rfl (lv_at hl 1 rfl) ?_
    refine lv_imul hx hb dX7_act_93 ?_
    refine lv_aload_n hx hb dX7_act_94 rfl (lv_at hl 0 rfl) ?_
    refine t_getr (C := RX7) (T := TX7) (N := 26) hx hb hts hin7 hown hK hP ho0 rfl rfl 19 (by decide) (fr7_19 ho0) (hts _ (List.mem_of_getElem? (i := 2) rfl)) dX7_act_95 ?_
    refine lv_iload_n hx hb dX7_act_98 rfl (lv_at hl 1 rfl) ?_
    obtain ⟨hg14, hm⟩ := gd_inv hm
    refine t_iald hx hb hK hP (kr7_19 ho0) hg14 dX7_act_99 ?_
    refine lv_iadd hx hb dX7_act_100 ?_
    refine lv_icmp_ge (tgt := 138) hx hb dX7_act_101 (by decide) (fun c15 => ?_) (fun c15 => ?_)
    · rw [if_pos c15] at hm
      cases hm
      exact K _ _ _ hP hS (lv_sub hl [0, 1, 2] rfl)
    · rw [if_neg c15] at hm
      refine lv_aload_n hx hb dX7_act_104 rfl (lv_at hl 0 rfl) ?_
      refine t_getr (C := RX7) (T := TX7) (N := 26) hx hb hts hin7 hown hK hP ho0 rfl rfl 20 (by decide) (fr7_20 ho0) (hts _ (List.mem_of_getElem? (i := 6) rfl)) dX7_act_105 ?_
      refine lv_iload_n hx hb dX7_act_108 rfl (lv_at hl 3 rfl) ?_
      refine lv_aload_n hx hb dX7_act_109 rfl (lv_at hl 0 rfl) ?_
      refine t_getr (C := RX7) (T := TX7) (N := 26) hx hb hts hin7 hown hK hP ho0 rfl rfl 20 (by decide) (fr7_20 ho0) (hts _ (List.mem_of_getElem? (i := 6) rfl)) dX7_act_110 ?_
      refine lv_iload_n hx hb dX7_act_113 rfl (lv_at hl 3 rfl) ?_
      refine lv_iconst (v := (1 : Int32)) hx hb dX7_act_114 (by decide) ?_
      refine lv_iadd hx hb dX7_act_115 ?_
      obtain ⟨hg16, hm⟩ := gd_inv hm
      refine t_iald hx hb hK hP (kr7_20 ho0) hg16 dX7_act_116 ?_
      obtain ⟨hg17, hm⟩ := gd_inv hm
      refine t_iast hx hb hK hP (tD _ _ _ _) hS (kr7_20 ho0) hg17 dX7_act_117 (fun H locs hP hS => ?_)
      obtain ⟨μ18, eμ18⟩ : ∃ z : MM, z = wI μ (RF o0 20) v3.toNatClampNeg (rI μ (RF o0 20) (v3 + (1 : Int32)).toNatClampNeg) := ⟨_, rfl⟩
      rw [← eμ18] at hP
      replace hm := bV_of hm eμ18
      refine lv_aload_n hx hb dX7_act_118 rfl (lv_at hl 0 rfl) ?_
      refine t_getr (C := RX7) (T := TX7) (N := 26) hx hb hts hin7 hown hK hP ho0 rfl rfl 21 (by decide) (fr7_21 ho0) (hts _ (List.mem_of_getElem? (i := 4) rfl)) dX7_act_119 ?_
      refine lv_iload_n hx hb dX7_act_122 rfl (lv_at hl 3 rfl) ?_
      refine lv_aload_n hx hb dX7_act_123 rfl (lv_at hl 0 rfl) ?_
      refine t_getr (C := RX7) (T := TX7) (N := 26) hx hb hts hin7 hown hK hP ho0 rfl rfl 21 (by decide) (fr7_21 ho0) (hts _ (List.mem_of_getElem? (i := 4) rfl)) dX7_act_124 ?_
      refine lv_iload_n hx hb dX7_act_127 rfl (lv_at hl 3 rfl) ?_
      refine lv_iconst (v := (1 : Int32)) hx hb dX7_act_128 (by decide) ?_
      refine lv_iadd hx hb dX7_act_129 ?_
      obtain ⟨hg19, hm⟩ := gd_inv hm
      refine t_iald hx hb hK hP (kr7_21 ho0) hg19 dX7_act_130 ?_
      obtain ⟨hg20, hm⟩ := gd_inv hm
      refine t_iast hx hb hK hP (tD _ _ _ _) hS (kr7_21 ho0) hg20 dX7_act_131 (fun H locs hP hS => ?_)
      obtain ⟨μ21, eμ21⟩ : ∃ z : MM, z = wI μ18 (RF o0 21) v3.toNatClampNeg (rI μ18 (RF o0 21) (v3 + (1 : Int32)).toNatClampNeg) := ⟨_, rfl⟩
      rw [← eμ21] at hP
      replace hm := bV_of hm eμ21
      obtain ⟨x22, ex22⟩ : ∃ z : Int32, z = v3 + (1 : Int32) := ⟨_, rfl⟩
      replace hm := bV_of hm ex22
      refine lv_iinc (v := x22) (lv' := [(3, .int x22), (0, .ref (base + o0)), (1, .int b1), (2, .int b2)]) hx hb dX7_act_132 hl (k := 3) rfl (by rw [ex22]; rfl) (by decide) rfl (fun ls hl => ?_)
      refine lv_goto (tgt := 89) hx hb dX7_act_135 (by decide) ?_
      exact ih x22 μ21 _ _ _ μ' hm hP hS (lv_sub hl [1, 2, 3, 0] rfl) K
set_option maxHeartbeats 4000000 in
set_option maxRecDepth 100000 in
theorem mX7_act (l : Launch) (D : va_G) (cA : Nat → ClassId) (base sz : Nat) (μ : MM) {q : Nat} (hq : kc q = 7) (a1 : Int32) {μ' : MM} (hm : X7_act q a1 μ = some μ') : Met l yX7_act wsX7_act rmX7_act (va_Pc [.ref (base + q), .int a1] (tPre D cA base sz μ)) (va_Qv (fun _ : Unit => True) (fun _ => tPost D cA base μ') (tA base sz)) 0 0 (tA base sz) := by
  refine Met.ofW (cc := cX7_act) (maxL := 4) (ret := none) (by decide +kernel) rfl ?_
  intro p e s m args below meth c s₁ B hml hv
  obtain ⟨rfl, hsz, hP, hK, hN⟩ := hv
  have hx := B.exec
  have hb := B.bytes
  have hr := B.returns
  have hts := atoms_spec (ws := wsX7_act) B.pre
  have hown : s.vm.findClass RX7 = some m.cls := findClass_of_methodNamed B.named
  have hlocks := B.notSynchronized
  have hin7 : ∀ w ∈ wsX70, w ∈ wsX7_act := by decide +kernel
  subst hsz
  have hS : va_S (tA base s.heap.size) s.heap s.heap [] := va_S.rf
  have hz : s.heap.size ≤ s.heap.size := Nat.le_refl _
  have hl := lv_entry ([.ref (base + q), .int a1]) (n := 4) (Nat.le_of_ble_eq_true rfl)
  rw [lg_entry_eq]
  generalize (lg_sl ([.ref (base + q), .int a1]) ++ List.replicate (4 - (lg_sl ([.ref (base + q), .int a1])).length) Slot.unset).toArray = ls at hl ⊢
  have hl : lv_has ls 4 [(0, .ref (base + q)), (1, .int a1)] := hl
  unfold X7_act at hm
  refine lv_aload_n hx hb dX7_act_0 rfl (lv_at hl 0 rfl) ?_
  refine t_getr (C := RX7) (T := TX7) (N := 26) hx hb hts hin7 hown hK hP hq rfl rfl 18 (by decide) (fr7_18 hq) (hts _ (List.mem_of_getElem? (i := 1) rfl)) dX7_act_1 ?_
  refine lv_iload_n hx hb dX7_act_4 rfl (lv_at hl 1 rfl) ?_
  obtain ⟨hg1, hm⟩ := gd_inv hm
  refine t_iald hx hb hK hP (kr7_18 hq) hg1 dX7_act_5 ?_
  refine lv_iconst (v := (-1 : Int32)) hx hb dX7_act_6 (by decide) ?_
  refine lv_icmp_eq (tgt := 31) hx hb dX7_act_7 (by decide) (fun c2 => ?_) (fun c2 => ?_)
  · rw [if_pos c2] at hm
    refine lv_aload_n hx hb dX7_act_31 rfl (lv_at hl 0 rfl) ?_
    refine t_getr (C := RX7) (T := TX7) (N := 26) hx hb hts hin7 hown hK hP hq rfl rfl 19 (by decide) (fr7_19 hq) (hts _ (List.mem_of_getElem? (i := 2) rfl)) dX7_act_32 ?_
    refine lv_iload_n hx hb dX7_act_35 rfl (lv_at hl 1 rfl) ?_
    obtain ⟨hg3, hm⟩ := gd_inv hm
    refine t_iald hx hb hK hP (kr7_19 hq) hg3 dX7_act_36 ?_
    refine lv_if_eq (tgt := 63) hx hb dX7_act_37 (by decide) (fun c4 => ?_) (fun c4 => ?_)
    · rw [if_pos c4] at hm
      cases hm
      exact W.vret hx hb hr (fun t ht hW => ⟨⟨(), rfl, trivial, tPost_of hP ht⟩, hS.F ht⟩) hS.2.2 dX7_act_63
    · rw [if_neg c4] at hm
      refine lv_aload_n hx hb dX7_act_40 rfl (lv_at hl 0 rfl) ?_
      refine t_geti (C := RX7) (T := TX7) (N := 26) hx hb hts hin7 hown hK hP hq rfl rfl 0 (by decide) (fk7_0 hq) (hts _ (List.mem_of_getElem? (i := 3) rfl)) dX7_act_41 ?_
      refine lv_aload_n hx hb dX7_act_44 rfl (lv_at hl 0 rfl) ?_
      refine t_getr (C := RX7) (T := TX7) (N := 26) hx hb hts hin7 hown hK hP hq rfl rfl 21 (by decide) (fr7_21 hq) (hts _ (List.mem_of_getElem? (i := 4) rfl)) dX7_act_45 ?_
      refine lv_bipush (v := (12 : Int32)) hx hb dX7_act_48 (by decide) ?_
      refine lv_iload_n hx hb dX7_act_50 rfl (lv_at hl 1 rfl) ?_
      refine lv_imul hx hb dX7_act_51 ?_
      obtain ⟨hg5, hm⟩ := gd_inv hm
      refine t_iald hx hb hK hP (kr7_21 hq) hg5 dX7_act_52 ?_
      refine lv_isub hx hb dX7_act_53 ?_
      refine lv_aload_n hx hb dX7_act_54 rfl (lv_at hl 0 rfl) ?_
      refine t_getr (C := RX7) (T := TX7) (N := 26) hx hb hts hin7 hown hK hP hq rfl rfl 13 (by decide) (fr7_13 hq) (hts _ (List.mem_of_getElem? (i := 5) rfl)) dX7_act_55 ?_
      refine lv_iload_n hx hb dX7_act_58 rfl (lv_at hl 1 rfl) ?_
      obtain ⟨hg6, hm⟩ := gd_inv hm
      refine t_iald hx hb hK hP (kr7_13 hq) hg6 dX7_act_59 ?_
      refine lv_icmp_ge (tgt := 64) hx hb dX7_act_60 (by decide) (fun c7 => ?_) (fun c7 => ?_)
      · rw [if_pos c7] at hm
        refine lv_aload_n hx hb dX7_act_64 rfl (lv_at hl 0 rfl) ?_
        refine t_getr (C := RX7) (T := TX7) (N := 26) hx hb hts hin7 hown hK hP hq rfl rfl 20 (by decide) (fr7_20 hq) (hts _ (List.mem_of_getElem? (i := 6) rfl)) dX7_act_65 ?_
        refine lv_bipush (v := (12 : Int32)) hx hb dX7_act_68 (by decide) ?_
        refine lv_iload_n hx hb dX7_act_70 rfl (lv_at hl 1 rfl) ?_
        refine lv_imul hx hb dX7_act_71 ?_
        obtain ⟨hg8, hm⟩ := gd_inv hm
        refine t_iald hx hb hK hP (kr7_20 hq) hg8 dX7_act_72 ?_
        refine lv_topi (fun x9 ex9 => ?_)
        replace hm := bV_of hm ex9
        refine lv_istore_n (lv' := [(2, .int x9), (0, .ref (base + q)), (1, .int a1)]) hx hb dX7_act_73 rfl hl (by decide) rfl (fun ls hl => ?_)
        refine lv_aload_n hx hb dX7_act_74 rfl (lv_at hl 1 rfl) ?_
        refine t_getr (C := RX7) (T := TX7) (N := 26) hx hb hts hin7 hown hK hP hq rfl rfl 19 (by decide) (fr7_19 hq) (hts _ (List.mem_of_getElem? (i := 2) rfl)) dX7_act_75 ?_
        refine lv_iload_n hx hb dX7_act_78 rfl (lv_at hl 2 rfl) ?_
        refine lv_dup2_11 hx hb dX7_act_79 rfl rfl ?_
        obtain ⟨hg10, hm⟩ := gd_inv hm
        refine t_iald hx hb hK hP (kr7_19 hq) hg10 dX7_act_80 ?_
        refine lv_iconst (v := (1 : Int32)) hx hb dX7_act_81 (by decide) ?_
        refine lv_isub hx hb dX7_act_82 ?_
        obtain ⟨hg11, hm⟩ := gd_inv hm
        refine t_iast hx hb hK hP (tD _ _ _ _) hS (kr7_19 hq) hg11 dX7_act_83 (fun H locs hP hS => ?_)
        obtain ⟨μ12, eμ12⟩ : ∃ z : MM, z = wI μ (RF q 19) a1.toNatClampNeg ((rI μ (RF q 19) a1.toNatClampNeg) - (1 : Int32)) := ⟨_, rfl⟩
        rw [← eμ12] at hP
        replace hm := bV_of hm eμ12
        refine lv_bipush (v := (12 : Int32)) hx hb dX7_act_84 (by decide) ?_
        refine lv_iload_n hx hb dX7_act_86 rfl (lv_at hl 2 rfl) ?_
        refine lv_imul hx hb dX7_act_87 ?_
        refine lv_topi (fun x13 ex13 => ?_)
        replace hm := bV_of hm ex13
        refine lv_istore_n (lv' := [(3, .int x13), (2, .int x9), (0, .ref (base + q)), (1, .int a1)]) hx hb dX7_act_88 rfl hl (by decide) rfl (fun ls hl => ?_)
        obtain ⟨μ23, hc24, hm⟩ := bO1_inv hm
        refine lX7_act_L89 ⟨hx, hb, hml, hown, hts⟩ hK hN hz hq a1 x9 ⟨Nat.le_of_ble_eq_true rfl, Nat.le_of_ble_eq_true rfl⟩ 1000 x13 μ12 _ _ _ μ23 hc24 hP hS (lv_sub hl [2, 3, 1, 0] rfl) ?_
        intro H locs ls hP hS hl
        refine lv_aload_n hx hb dX7_act_138 rfl (lv_at hl 0 rfl) ?_
        refine lv_iload_n hx hb dX7_act_139 rfl (lv_at hl 1 rfl) ?_
        obtain ⟨r25, hc26, hm⟩ := bO1_inv hm
        refine t_cVi (As := [.int a1]) (rest := []) (μ' := μ23) (r := r25) ⟨hx, hb, hml, hown, hts⟩ (mX7_isAble l D cA base H.size μ23 hq a1 hc26) (cwV 1 hts gX7_act_X7_isAble rfl rfl rfl (by decide +kernel) ⟨Nat.le_of_ble_eq_true rfl, Nat.le_of_ble_eq_true rfl⟩) (va_recv hK hP (q0 := q) rfl (tw_obj hq (by decide))) hK hN hP hS hz rfl hl.1 (Nat.le_of_ble_eq_true rfl) dX7_act_140 ⟨Nat.le_of_ble_eq_true rfl, Nat.le_of_ble_eq_true rfl⟩ rfl (fun H locs hP hS => ?_)
        refine lv_if_eq (tgt := 204) hx hb dX7_act_143 (by decide) (fun c27 => ?_) (fun c27 => ?_)
        · rw [if_pos c27] at hm
          refine lv_aload_n hx hb dX7_act_204 rfl (lv_at hl 0 rfl) ?_
          refine lv_iload_n hx hb dX7_act_205 rfl (lv_at hl 1 rfl) ?_
          refine lv_iload_n hx hb dX7_act_206 rfl (lv_at hl 2 rfl) ?_
          obtain ⟨μ28, hc29, hm⟩ := bO1_inv hm
          refine t_cVv (As := [.int a1, .int x9]) (rest := []) (μ' := μ28) ⟨hx, hb, hml, hown, hts⟩ (mX7_say l D cA base H.size μ23 hq a1 x9 hc29) (cwV 2 hts gX7_act_X7_say rfl rfl rfl (by decide +kernel) ⟨Nat.le_of_ble_eq_true rfl, Nat.le_of_ble_eq_true rfl⟩) (va_recv hK hP (q0 := q) rfl (tw_obj hq (by decide))) hK hN hP hS hz rfl hl.1 (Nat.le_of_ble_eq_true rfl) dX7_act_207 ⟨Nat.le_of_ble_eq_true rfl, Nat.le_of_ble_eq_true rfl⟩ rfl (fun H locs hP hS => ?_)
          cases hm
          exact W.vret hx hb hr (fun t ht hW => ⟨⟨(), rfl, trivial, tPost_of hP ht⟩, hS.F ht⟩) hS.2.2 dX7_act_210
        · rw [if_neg c27] at hm
          refine lv_iload_n hx hb dX7_act_146 rfl (lv_at hl 2 rfl) ?_
          refine lv_bipush (v := (80 : Int32)) hx hb dX7_act_147 (by decide) ?_
          refine lv_icmp_lt (tgt := 204) hx hb dX7_act_149 (by decide) (fun c30 => ?_) (fun c30 => ?_)
          · rw [if_pos c30] at hm
            refine lv_aload_n hx hb dX7_act_204 rfl (lv_at hl 0 rfl) ?_
            refine lv_iload_n hx hb dX7_act_205 rfl (lv_at hl 1 rfl) ?_
            refine lv_iload_n hx hb dX7_act_206 rfl (lv_at hl 2 rfl) ?_
            obtain ⟨μ31, hc32, hm⟩ := bO1_inv hm
            refine t_cVv (As := [.int a1, .int x9]) (rest := []) (μ' := μ31) ⟨hx, hb, hml, hown, hts⟩ (mX7_say l D cA base H.size μ23 hq a1 x9 hc32) (cwV 2 hts gX7_act_X7_say rfl rfl rfl (by decide +kernel) ⟨Nat.le_of_ble_eq_true rfl, Nat.le_of_ble_eq_true rfl⟩) (va_recv hK hP (q0 := q) rfl (tw_obj hq (by decide))) hK hN hP hS hz rfl hl.1 (Nat.le_of_ble_eq_true rfl) dX7_act_207 ⟨Nat.le_of_ble_eq_true rfl, Nat.le_of_ble_eq_true rfl⟩ rfl (fun H locs hP hS => ?_)
            cases hm
            exact W.vret hx hb hr (fun t ht hW => ⟨⟨(), rfl, trivial, tPost_of hP ht⟩, hS.F ht⟩) hS.2.2 dX7_act_210
          · rw [if_neg c30] at hm
            refine lv_aload_n hx hb dX7_act_152 rfl (lv_at hl 0 rfl) ?_
            refine t_getr (C := RX7) (T := TX7) (N := 26) hx hb hts hin7 hown hK hP hq rfl rfl 6 (by decide) (fr7_6 hq) (hts _ (List.mem_of_getElem? (i := 7) rfl)) dX7_act_153 ?_
            refine lv_aload_n hx hb dX7_act_156 rfl (lv_at hl 0 rfl) ?_
            refine t_getr (C := RX7) (T := TX7) (N := 26) hx hb hts hin7 hown hK hP hq rfl rfl 16 (by decide) (fr7_16 hq) (hts _ (List.mem_of_getElem? (i := 8) rfl)) dX7_act_157 ?_
            refine lv_iload_n hx hb dX7_act_160 rfl (lv_at hl 1 rfl) ?_
            obtain ⟨hg33, hm⟩ := gd_inv hm
            refine t_iald hx hb hK hP (kr7_16 hq) hg33 dX7_act_161 ?_
            obtain ⟨hg34, hm⟩ := gd_inv hm
            refine t_iald hx hb hK hP (kr7_6 hq) hg34 dX7_act_162 ?_
            refine lv_iload_n hx hb dX7_act_163 rfl (lv_at hl 2 rfl) ?_
            refine lv_bipush (v := (80 : Int32)) hx hb dX7_act_164 (by decide) ?_
            refine lv_isub hx hb dX7_act_166 ?_
            refine lv_ishr hx hb dX7_act_167 ?_
            refine lv_iconst (v := (1 : Int32)) hx hb dX7_act_168 (by decide) ?_
            refine lv_iand hx hb dX7_act_169 ?_
            refine lv_if_ne (tgt := 204) hx hb dX7_act_170 (by decide) (fun c35 => ?_) (fun c35 => ?_)
            · rw [if_neg c35] at hm
              refine lv_aload_n hx hb dX7_act_204 rfl (lv_at hl 0 rfl) ?_
              refine lv_iload_n hx hb dX7_act_205 rfl (lv_at hl 1 rfl) ?_
              refine lv_iload_n hx hb dX7_act_206 rfl (lv_at hl 2 rfl) ?_
              obtain ⟨μ36, hc37, hm⟩ := bO1_inv hm
              refine t_cVv (As := [.int a1, .int x9]) (rest := []) (μ' := μ36) ⟨hx, hb, hml, hown, hts⟩ (mX7_say l D cA base H.size μ23 hq a1 x9 hc37) (cwV 2 hts gX7_act_X7_say rfl rfl rfl (by decide +kernel) ⟨Nat.le_of_ble_eq_true rfl, Nat.le_of_ble_eq_true rfl⟩) (va_recv hK hP (q0 := q) rfl (tw_obj hq (by decide))) hK hN hP hS hz rfl hl.1 (Nat.le_of_ble_eq_true rfl) dX7_act_207 ⟨Nat.le_of_ble_eq_true rfl, Nat.le_of_ble_eq_true rfl⟩ rfl (fun H locs hP hS => ?_)
              cases hm
              exact W.vret hx hb hr (fun t ht hW => ⟨⟨(), rfl, trivial, tPost_of hP ht⟩, hS.F ht⟩) hS.2.2 dX7_act_210
            · rw [if_pos c35] at hm
              refine lv_aload_n hx hb dX7_act_173 rfl (lv_at hl 0 rfl) ?_
              refine t_getr (C := RX7) (T := TX7) (N := 26) hx hb hts hin7 hown hK hP hq rfl rfl 10 (by decide) (fr7_10 hq) (hts _ (List.mem_of_getElem? (i := 9) rfl)) dX7_act_174 ?_
              refine lv_aload_n hx hb dX7_act_177 rfl (lv_at hl 0 rfl) ?_
              refine t_getr (C := RX7) (T := TX7) (N := 26) hx hb hts hin7 hown hK hP hq rfl rfl 16 (by decide) (fr7_16 hq) (hts _ (List.mem_of_getElem? (i := 8) rfl)) dX7_act_178 ?_
              refine lv_iload_n hx hb dX7_act_181 rfl (lv_at hl 1 rfl) ?_
              obtain ⟨hg38, hm⟩ := gd_inv hm
              refine t_iald hx hb hK hP (kr7_16 hq) hg38 dX7_act_182 ?_
              refine lv_dup2_11 hx hb dX7_act_183 rfl rfl ?_
              obtain ⟨hg39, hm⟩ := gd_inv hm
              refine t_iald hx hb hK hP (kr7_10 hq) hg39 dX7_act_184 ?_
              refine lv_iconst (v := (1 : Int32)) hx hb dX7_act_185 (by decide) ?_
              refine lv_iadd hx hb dX7_act_186 ?_
              obtain ⟨hg40, hm⟩ := gd_inv hm
              refine t_iast hx hb hK hP (tD _ _ _ _) hS (kr7_10 hq) hg40 dX7_act_187 (fun H locs hP hS => ?_)
              obtain ⟨μ41, eμ41⟩ : ∃ z : MM, z = wI μ23 (RF q 10) (rI μ23 (RF q 16) a1.toNatClampNeg).toNatClampNeg ((rI μ23 (RF q 10) (rI μ23 (RF q 16) a1.toNatClampNeg).toNatClampNeg) + (1 : Int32)) := ⟨_, rfl⟩
              rw [← eμ41] at hP
              replace hm := bV_of hm eμ41
              refine lv_iconst (v := (4 : Int32)) hx hb dX7_act_188 (by decide) ?_
              refine lv_iload_n hx hb dX7_act_189 rfl (lv_at hl 2 rfl) ?_
              refine lv_bipush (v := (80 : Int32)) hx hb dX7_act_190 (by decide) ?_
              refine lv_isub hx hb dX7_act_192 ?_
              refine lv_imul hx hb dX7_act_193 ?_
              refine lv_topi (fun x42 ex42 => ?_)
              replace hm := bV_of hm ex42
              refine lv_istore_n (lv' := [(2, .int x42), (0, .ref (base + q)), (1, .int a1)]) hx hb dX7_act_194 rfl hl (by decide) rfl (fun ls hl => ?_)
              refine lv_aload_n hx hb dX7_act_195 rfl (lv_at hl 1 rfl) ?_
              refine t_getr (C := RX7) (T := TX7) (N := 26) hx hb hts hin7 hown hK hP hq rfl rfl 18 (by decide) (fr7_18 hq) (hts _ (List.mem_of_getElem? (i := 1) rfl)) dX7_act_196 ?_
              refine lv_iload_n hx hb dX7_act_199 rfl (lv_at hl 2 rfl) ?_
              refine lv_iload_n hx hb dX7_act_200 rfl (lv_at hl 0 rfl) ?_
              refine lv_iconst (v := (1 : Int32)) hx hb dX7_act_201 (by decide) ?_
              refine lv_iadd hx hb dX7_act_202 ?_
              obtain ⟨hg43, hm⟩ := gd_inv hm
              refine t_iast hx hb hK hP (tD _ _ _ _) hS (kr7_18 hq) hg43 dX7_act_203 (fun H locs hP hS => ?_)
              obtain ⟨μ44, eμ44⟩ : ∃ z : MM, z = wI μ41 (RF q 18) a1.toNatClampNeg (x42 + (1 : Int32)) := ⟨_, rfl⟩
              rw [← eμ44] at hP
              replace hm := bV_of hm eμ44
              refine lv_aload_n hx hb dX7_act_204 rfl (lv_at hl 1 rfl) ?_
              refine lv_iload_n hx hb dX7_act_205 rfl (lv_at hl 2 rfl) ?_
              refine lv_iload_n hx hb dX7_act_206 rfl (lv_at hl 0 rfl) ?_
              obtain ⟨μ45, hc46, hm⟩ := bO1_inv hm
              refine t_cVv (As := [.int a1, .int x42]) (rest := []) (μ' := μ45) ⟨hx, hb, hml, hown, hts⟩ (mX7_say l D cA base H.size μ44 hq a1 x42 hc46) (cwV 2 hts gX7_act_X7_say rfl rfl rfl (by decide +kernel) ⟨Nat.le_of_ble_eq_true rfl, Nat.le_of_ble_eq_true rfl⟩) (va_recv hK hP (q0 := q) rfl (tw_obj hq (by decide))) hK hN hP hS hz rfl hl.1 (Nat.le_of_ble_eq_true rfl) dX7_act_207 ⟨Nat.le_of_ble_eq_true rfl, Nat.le_of_ble_eq_true rfl⟩ rfl (fun H locs hP hS => ?_)
              cases hm
              exact W.vret hx hb hr (fun t ht hW => ⟨⟨(), rfl, trivial, tPost_of hP ht⟩, hS.F ht⟩) hS.2.2 dX7_act_210
      · rw [if_neg c7] at hm
        cases hm
        exact W.vret hx hb hr (fun t ht hW => ⟨⟨(), rfl, trivial, tPost_of hP ht⟩, hS.F ht⟩) hS.2.2 dX7_act_63
  · rw [if_neg c2] at hm
    refine lv_aload_n hx hb dX7_act_10 rfl (lv_at hl 0 rfl) ?_
    refine t_getr (C := RX7) (T := TX7) (N := 26) hx hb hts hin7 hown hK hP hq rfl rfl 18 (by decide) (fr7_18 hq) (hts _ (List.mem_of_getElem? (i := 1) rfl)) dX7_act_11 ?_
    refine lv_iload_n hx hb dX7_act_14 rfl (lv_at hl 1 rfl) ?_
    obtain ⟨hg47, hm⟩ := gd_inv hm
    refine t_iald hx hb hK hP (kr7_18 hq) hg47 dX7_act_15 ?_
    refine lv_topi (fun x48 ex48 => ?_)
    replace hm := bV_of hm ex48
    refine lv_istore_n (lv' := [(2, .int x48), (0, .ref (base + q)), (1, .int a1)]) hx hb dX7_act_16 rfl hl (by decide) rfl (fun ls hl => ?_)
    refine lv_aload_n hx hb dX7_act_17 rfl (lv_at hl 1 rfl) ?_
    refine t_getr (C := RX7) (T := TX7) (N := 26) hx hb hts hin7 hown hK hP hq rfl rfl 18 (by decide) (fr7_18 hq) (hts _ (List.mem_of_getElem? (i := 1) rfl)) dX7_act_18 ?_
    refine lv_iload_n hx hb dX7_act_21 rfl (lv_at hl 2 rfl) ?_
    refine lv_iconst (v := (-1 : Int32)) hx hb dX7_act_22 (by decide) ?_
    obtain ⟨hg49, hm⟩ := gd_inv hm
    refine t_iast hx hb hK hP (tD _ _ _ _) hS (kr7_18 hq) hg49 dX7_act_23 (fun H locs hP hS => ?_)
    obtain ⟨μ50, eμ50⟩ : ∃ z : MM, z = wI μ (RF q 18) a1.toNatClampNeg (-1 : Int32) := ⟨_, rfl⟩
    rw [← eμ50] at hP
    replace hm := bV_of hm eμ50
    refine lv_aload_n hx hb dX7_act_24 rfl (lv_at hl 1 rfl) ?_
    refine lv_iload_n hx hb dX7_act_25 rfl (lv_at hl 2 rfl) ?_
    refine lv_iload_n hx hb dX7_act_26 rfl (lv_at hl 0 rfl) ?_
    obtain ⟨μ51, hc52, hm⟩ := bO1_inv hm
    refine t_cVv (As := [.int a1, .int x48]) (rest := []) (μ' := μ51) ⟨hx, hb, hml, hown, hts⟩ (mX7_say l D cA base H.size μ50 hq a1 x48 hc52) (cwV 2 hts gX7_act_X7_say rfl rfl rfl (by decide +kernel) ⟨Nat.le_of_ble_eq_true rfl, Nat.le_of_ble_eq_true rfl⟩) (va_recv hK hP (q0 := q) rfl (tw_obj hq (by decide))) hK hN hP hS hz rfl hl.1 (Nat.le_of_ble_eq_true rfl) dX7_act_27 ⟨Nat.le_of_ble_eq_true rfl, Nat.le_of_ble_eq_true rfl⟩ rfl (fun H locs hP hS => ?_)
    cases hm
    exact W.vret hx hb hr (fun t ht hW => ⟨⟨(), rfl, trivial, tPost_of hP ht⟩, hS.F ht⟩) hS.2.2 dX7_act_30
abbrev rmX7_hear : Room := { frames := 0, cells := 0, slots := 0, locals := 0 }
set_option maxHeartbeats 4000000 in
set_option maxRecDepth 100000 in
theorem mX7_hear (l : Launch) (D : va_G) (cA : Nat → ClassId) (base sz : Nat) (μ : MM) {q : Nat} (hq : kc q = 7) (a1 : Int32) (a2 : Int32) {μ' : MM} (hm : X7_hear q a1 a2 μ = some μ') : Met l yX7_hear wsX7_hear rmX7_hear (va_Pc [.ref (base + q), .int a1, .int a2] (tPre D cA base sz μ)) (va_Qv (fun _ : Unit => True) (fun _ => tPost D cA base μ') (tA base sz)) 0 0 (tA base sz) := by
  refine Met.ofW (cc := cX7_hear) (maxL := 3) (ret := none) (by decide +kernel) rfl ?_
  intro p e s m args below meth c s₁ B hml hv
  obtain ⟨rfl, hsz, hP, hK, hN⟩ := hv
  have hx := B.exec
  have hb := B.bytes
  have hr := B.returns
  have hts := atoms_spec (ws := wsX7_hear) B.pre
  have hown : s.vm.findClass RX7 = some m.cls := findClass_of_methodNamed B.named
  have hlocks := B.notSynchronized
  have hin7 : ∀ w ∈ wsX70, w ∈ wsX7_hear := by decide +kernel
  subst hsz
  have hS : va_S (tA base s.heap.size) s.heap s.heap [] := va_S.rf
  have hz : s.heap.size ≤ s.heap.size := Nat.le_refl _
  have hl := lv_entry ([.ref (base + q), .int a1, .int a2]) (n := 3) (Nat.le_of_ble_eq_true rfl)
  rw [lg_entry_eq]
  generalize (lg_sl ([.ref (base + q), .int a1, .int a2]) ++ List.replicate (3 - (lg_sl ([.ref (base + q), .int a1, .int a2])).length) Slot.unset).toArray = ls at hl ⊢
  have hl : lv_has ls 3 [(0, .ref (base + q)), (1, .int a1), (2, .int a2)] := hl
  unfold X7_hear at hm
  refine lv_aload_n hx hb dX7_hear_0 rfl (lv_at hl 0 rfl) ?_
  refine t_getr (C := RX7) (T := TX7) (N := 26) hx hb hts hin7 hown hK hP hq rfl rfl 19 (by decide) (fr7_19 hq) (hts _ (List.mem_of_getElem? (i := 1) rfl)) dX7_hear_1 ?_
  refine lv_iload_n hx hb dX7_hear_4 rfl (lv_at hl 1 rfl) ?_
  obtain ⟨hg1, hm⟩ := gd_inv hm
  refine t_iald hx hb hK hP (kr7_19 hq) hg1 dX7_hear_5 ?_
  refine lv_aload_n hx hb dX7_hear_6 rfl (lv_at hl 0 rfl) ?_
  refine t_getr (C := RX7) (T := TX7) (N := 26) hx hb hts hin7 hown hK hP hq rfl rfl 14 (by decide) (fr7_14 hq) (hts _ (List.mem_of_getElem? (i := 2) rfl)) dX7_hear_7 ?_
  refine lv_iload_n hx hb dX7_hear_10 rfl (lv_at hl 1 rfl) ?_
  obtain ⟨hg2, hm⟩ := gd_inv hm
  refine t_iald hx hb hK hP (kr7_14 hq) hg2 dX7_hear_11 ?_
  refine lv_icmp_ne (tgt := 26) hx hb dX7_hear_12 (by decide) (fun c3 => ?_) (fun c3 => ?_)
  · rw [if_neg c3] at hm
    refine lv_aload_n hx hb dX7_hear_26 rfl (lv_at hl 0 rfl) ?_
    refine t_getr (C := RX7) (T := TX7) (N := 26) hx hb hts hin7 hown hK hP hq rfl rfl 20 (by decide) (fr7_20 hq) (hts _ (List.mem_of_getElem? (i := 4) rfl)) dX7_hear_27 ?_
    refine lv_bipush (v := (12 : Int32)) hx hb dX7_hear_30 (by decide) ?_
    refine lv_iload_n hx hb dX7_hear_32 rfl (lv_at hl 1 rfl) ?_
    refine lv_imul hx hb dX7_hear_33 ?_
    refine lv_aload_n hx hb dX7_hear_34 rfl (lv_at hl 0 rfl) ?_
    refine t_getr (C := RX7) (T := TX7) (N := 26) hx hb hts hin7 hown hK hP hq rfl rfl 19 (by decide) (fr7_19 hq) (hts _ (List.mem_of_getElem? (i := 1) rfl)) dX7_hear_35 ?_
    refine lv_iload_n hx hb dX7_hear_38 rfl (lv_at hl 1 rfl) ?_
    obtain ⟨hg4, hm⟩ := gd_inv hm
    refine t_iald hx hb hK hP (kr7_19 hq) hg4 dX7_hear_39 ?_
    refine lv_iadd hx hb dX7_hear_40 ?_
    refine lv_iload_n hx hb dX7_hear_41 rfl (lv_at hl 2 rfl) ?_
    obtain ⟨hg5, hm⟩ := gd_inv hm
    refine t_iast hx hb hK hP (tD _ _ _ _) hS (kr7_20 hq) hg5 dX7_hear_42 (fun H locs hP hS => ?_)
    obtain ⟨μ6, eμ6⟩ : ∃ z : MM, z = wI μ (RF q 20) (((12 : Int32) * a1) + (rI μ (RF q 19) a1.toNatClampNeg)).toNatClampNeg a2 := ⟨_, rfl⟩
    rw [← eμ6] at hP
    replace hm := bV_of hm eμ6
    refine lv_aload_n hx hb dX7_hear_43 rfl (lv_at hl 0 rfl) ?_
    refine t_getr (C := RX7) (T := TX7) (N := 26) hx hb hts hin7 hown hK hP hq rfl rfl 21 (by decide) (fr7_21 hq) (hts _ (List.mem_of_getElem? (i := 5) rfl)) dX7_hear_44 ?_
    refine lv_bipush (v := (12 : Int32)) hx hb dX7_hear_47 (by decide) ?_
    refine lv_iload_n hx hb dX7_hear_49 rfl (lv_at hl 1 rfl) ?_
    refine lv_imul hx hb dX7_hear_50 ?_
    refine lv_aload_n hx hb dX7_hear_51 rfl (lv_at hl 0 rfl) ?_
    refine t_getr (C := RX7) (T := TX7) (N := 26) hx hb hts hin7 hown hK hP hq rfl rfl 19 (by decide) (fr7_19 hq) (hts _ (List.mem_of_getElem? (i := 1) rfl)) dX7_hear_52 ?_
    refine lv_iload_n hx hb dX7_hear_55 rfl (lv_at hl 1 rfl) ?_
    obtain ⟨hg7, hm⟩ := gd_inv hm
    refine t_iald hx hb hK hP (kr7_19 hq) hg7 dX7_hear_56 ?_
    refine lv_iadd hx hb dX7_hear_57 ?_
    refine lv_aload_n hx hb dX7_hear_58 rfl (lv_at hl 0 rfl) ?_
    refine t_geti (C := RX7) (T := TX7) (N := 26) hx hb hts hin7 hown hK hP hq rfl rfl 0 (by decide) (fk7_0 hq) (hts _ (List.mem_of_getElem? (i := 6) rfl)) dX7_hear_59 ?_
    obtain ⟨hg8, hm⟩ := gd_inv hm
    refine t_iast hx hb hK hP (tD _ _ _ _) hS (kr7_21 hq) hg8 dX7_hear_62 (fun H locs hP hS => ?_)
    obtain ⟨μ9, eμ9⟩ : ∃ z : MM, z = wI μ6 (RF q 21) (((12 : Int32) * a1) + (rI μ6 (RF q 19) a1.toNatClampNeg)).toNatClampNeg (rI μ6 q 0) := ⟨_, rfl⟩
    rw [← eμ9] at hP
    replace hm := bV_of hm eμ9
    refine lv_aload_n hx hb dX7_hear_63 rfl (lv_at hl 0 rfl) ?_
    refine t_getr (C := RX7) (T := TX7) (N := 26) hx hb hts hin7 hown hK hP hq rfl rfl 19 (by decide) (fr7_19 hq) (hts _ (List.mem_of_getElem? (i := 1) rfl)) dX7_hear_64 ?_
    refine lv_iload_n hx hb dX7_hear_67 rfl (lv_at hl 1 rfl) ?_
    refine lv_dup2_11 hx hb dX7_hear_68 rfl rfl ?_
    obtain ⟨hg10, hm⟩ := gd_inv hm
    refine t_iald hx hb hK hP (kr7_19 hq) hg10 dX7_hear_69 ?_
    refine lv_iconst (v := (1 : Int32)) hx hb dX7_hear_70 (by decide) ?_
    refine lv_iadd hx hb dX7_hear_71 ?_
    obtain ⟨hg11, hm⟩ := gd_inv hm
    refine t_iast hx hb hK hP (tD _ _ _ _) hS (kr7_19 hq) hg11 dX7_hear_72 (fun H locs hP hS => ?_)
    obtain ⟨μ12, eμ12⟩ : ∃ z : MM, z = wI μ9 (RF q 19) a1.toNatClampNeg ((rI μ9 (RF q 19) a1.toNatClampNeg) + (1 : Int32)) := ⟨_, rfl⟩
    rw [← eμ12] at hP
    replace hm := bV_of hm eμ12
    cases hm
    exact W.vret hx hb hr (fun t ht hW => ⟨⟨(), rfl, trivial, tPost_of hP ht⟩, hS.F ht⟩) hS.2.2 dX7_hear_73
  · rw [if_pos c3] at hm
    refine lv_aload_n hx hb dX7_hear_15 rfl (lv_at hl 0 rfl) ?_
    refine t_getr (C := RX7) (T := TX7) (N := 26) hx hb hts hin7 hown hK hP hq rfl rfl 17 (by decide) (fr7_17 hq) (hts _ (List.mem_of_getElem? (i := 3) rfl)) dX7_hear_16 ?_
    refine lv_iload_n hx hb dX7_hear_19 rfl (lv_at hl 1 rfl) ?_
    refine lv_dup2_11 hx hb dX7_hear_20 rfl rfl ?_
    obtain ⟨hg13, hm⟩ := gd_inv hm
    refine t_iald hx hb hK hP (kr7_17 hq) hg13 dX7_hear_21 ?_
    refine lv_iconst (v := (1 : Int32)) hx hb dX7_hear_22 (by decide) ?_
    refine lv_iadd hx hb dX7_hear_23 ?_
    obtain ⟨hg14, hm⟩ := gd_inv hm
    refine t_iast hx hb hK hP (tD _ _ _ _) hS (kr7_17 hq) hg14 dX7_hear_24 (fun H locs hP hS => ?_)
    obtain ⟨μ15, eμ15⟩ : ∃ z : MM, z = wI μ (RF q 17) a1.toNatClampNeg ((rI μ (RF q 17) a1.toNatClampNeg) + (1 : Int32)) := ⟨_, rfl⟩
    rw [← eμ15] at hP
    replace hm := bV_of hm eμ15
    cases hm
    exact W.vret hx hb hr (fun t ht hW => ⟨⟨(), rfl, trivial, tPost_of hP ht⟩, hS.F ht⟩) hS.2.2 dX7_hear_25
abbrev rmX7_pass : Room := { frames := 3, cells := 0, slots := 0, locals := 70 }
set_option maxHeartbeats 4000000 in
set_option maxRecDepth 100000 in
theorem lX7_pass_L62 {p : Program} {l : Launch} {e : Env} {s : State} {m : MethodId} {args : Array Value} {below : List Frame} {meth : Method} {c : Code} {Q : State → Prop} {D : va_G} {cA : Nat → ClassId} {base sz0 : Nat} {H0 : Heap} (FX : CallFix p m c cX7_pass 3 s args wsX7_pass RX7) (hK : va_K D vwCl (tys cA) s) (hN : tN s) (hz : sz0 ≤ H0.size) {o0 : Nat} (ho0 : kc o0 = 7) (b1 : Int32) {cells slots : Nat} (hcs : cells ≤ 0 ∧ slots ≤ 0) :
    ∀ (n : Nat) (v2 : Int32) (μ : MM) (H : Heap) (locs : List Loc) (ls : Array Slot) (μ' : MM), X7_pass_L62 o0 b1 n v2 μ = some μ' → va_P D vwCl (tw base cA μ []) H → va_S (tA base sz0) H0 H locs → lv_has ls 3 [(0, .ref (base + o0)), (1, .int b1), (2, .int v2)] → (∀ (H : Heap) (locs : List Loc) (ls : Array Slot), va_P D vwCl (tw base cA μ' []) H → va_S (tA base sz0) H0 H locs → lv_has ls 3 [(0, .ref (base + o0)), (1, .int b1)] → W p l e rmX7_pass s m args below meth c H locs cells slots Q (F0 m 129 ls [])) → W p l e rmX7_pass s m args below meth c H locs cells slots Q (F0 m 62 ls []) := by
  obtain ⟨hx, hb, hml, hown, hts⟩ := FX
  have hin7 : ∀ w ∈ wsX70, w ∈ wsX7_pass := by decide +kernel
  intro n
  induction n with
  | zero =>
    intro v2 μ H locs ls μ' hm
    cases hm
  | succ n ih =>
    intro v2 μ H locs ls μ' hm hP hS hl K
    rw [X7_pass_L62_s] at hm
    refine lv_iload_n hx hb dX7_pass_62 rfl (lv_at hl 2 rfl) ?_
    refine lv_aload_n hx hb dX7_pass_63 rfl (lv_at hl 0 rfl) ?_
    refine t_geti (C := RX7) (T := TX7) (N := 26) hx hb hts hin7 hown hK hP ho0 rfl rfl 11 (by decide) (fk7_11 ho0) (hts _ (List.mem_of_getElem? (i := 7) rfl)) dX7_pass_64 ?_
    refine lv_icmp_ge (tgt := 129) hx hb dX7_pass_67 (by decide) (fun c4 => ?_) (fun c4 => ?_)
    · rw [if_pos c4] at hm
      cases hm
      exact K _ _ _ hP hS (lv_sub hl [0, 1] rfl)
    · rw [if_neg c4] at hm
      refine lv_aload_n hx hb dX7_pass_70 rfl (lv_at hl 0 rfl) ?_
      refine lv_iload_n hx hb dX7_pass_71 rfl (lv_at hl 2 rfl) ?_
      obtain ⟨μ5, hc6, hm⟩ := bO1_inv hm
      refine t_cVv (As := [.int v2]) (rest := []) (μ' := μ5) ⟨hx, hb, hml, hown, hts⟩ (mX7_act l D cA base H.size μ ho0 v2 hc6) (cwV 1 hts gX7_pass_X7_act rfl rfl rfl (by decide +kernel) ⟨Nat.le_of_ble_eq_true rfl, Nat.le_of_ble_eq_true rfl⟩) (va_recv hK hP (q0 := o0) rfl (tw_obj ho0 (by decide))) hK hN hP hS hz rfl hl.1 (Nat.le_of_ble_eq_true rfl) dX7_pass_72 hcs rfl (fun H locs hP hS => ?_)
      refine lv_aload_n hx hb dX7_pass_75 rfl (lv_at hl 0 rfl) ?_
      refine lv_iload_n hx hb dX7_pass_76 rfl (lv_at hl 2 rfl) ?_
      refine lv_iconst (v := (1 : Int32)) hx hb dX7_pass_77 (by decide) ?_
      refine lv_iadd hx hb dX7_pass_78 ?_
      obtain ⟨r7, hc8, hm⟩ := bO1_inv hm
      refine t_cVi (As := [.int (v2 + (1 : Int32))]) (rest := []) (μ' := μ5) (r := r7) ⟨hx, hb, hml, hown, hts⟩ (mX7_saysNow l D cA base H.size μ5 ho0 (v2 + (1 : Int32)) hc8) (cwV 1 hts gX7_pass_X7_saysNow rfl rfl rfl (by decide +kernel) ⟨Nat.le_of_ble_eq_true rfl, Nat.le_of_ble_eq_true rfl⟩) (va_recv hK hP (q0 := o0) rfl (tw_obj ho0 (by decide))) hK hN hP hS hz rfl hl.1 (Nat.le_of_ble_eq_true rfl) dX7_pass_79 hcs rfl (fun H locs hP hS => ?_)
      refine lv_if_ne (tgt := 123) hx hb dX7_pass_82 (by decide) (fun c9 => ?_) (fun c9 => ?_)
      · rw [if_neg c9] at hm
        obtain ⟨x10, ex10⟩ : ∃ z : Int32, z = v2 + (1 : Int32) := ⟨_, rfl⟩
        replace hm := bV_of hm ex10
        refine lv_iinc (v := x10) (lv' := [(2, .int x10), (0, .ref (base + o0)), (1, .int b1)]) hx hb dX7_pass_123 hl (k := 2) rfl (by rw [ex10]; rfl) (by decide) rfl (fun ls hl => ?_)
        refine lv_goto (tgt := 62) hx hb dX7_pass_126 (by decide) ?_
        exact ih x10 μ5 _ _ _ μ' hm hP hS (lv_sub hl [1, 2, 0] rfl) K
      · rw [if_pos c9] at hm
        refine lv_aload_n hx hb dX7_pass_85 rfl (lv_at hl 0 rfl) ?_
        refine t_getr (C := RX7) (T := TX7) (N := 26) hx hb hts hin7 hown hK hP ho0 rfl rfl 16 (by decide) (fr7_16 ho0) (hts _ (List.mem_of_getElem? (i := 8) rfl)) dX7_pass_86 ?_
        refine lv_iload_n hx hb dX7_pass_89 rfl (lv_at hl 2 rfl) ?_
        obtain ⟨hg11, hm⟩ := gd_inv hm
        refine t_iald hx hb hK hP (kr7_16 ho0) hg11 dX7_pass_90 ?_
        refine lv_iconst (v := (-1 : Int32)) hx hb dX7_pass_91 (by decide) ?_
        refine lv_icmp_eq (tgt := 123) hx hb dX7_pass_92 (by decide) (fun c12 => ?_) (fun c12 => ?_)
        · rw [if_pos c12] at hm
          obtain ⟨x13, ex13⟩ : ∃ z : Int32, z = v2 + (1 : Int32) := ⟨_, rfl⟩
          replace hm := bV_of hm ex13
          refine lv_iinc (v := x13) (lv' := [(2, .int x13), (0, .ref (base + o0)), (1, .int b1)]) hx hb dX7_pass_123 hl (k := 2) rfl (by rw [ex13]; rfl) (by decide) rfl (fun ls hl => ?_)
          refine lv_goto (tgt := 62) hx hb dX7_pass_126 (by decide) ?_
          exact ih x13 μ5 _ _ _ μ' hm hP hS (lv_sub hl [1, 2, 0] rfl) K
        · rw [if_neg c12] at hm
          refine lv_aload_n hx hb dX7_pass_95 rfl (lv_at hl 0 rfl) ?_
          refine t_getr (C := RX7) (T := TX7) (N := 26) hx hb hts hin7 hown hK hP ho0 rfl rfl 7 (by decide) (fr7_7 ho0) (hts _ (List.mem_of_getElem? (i := 9) rfl)) dX7_pass_96 ?_
          refine lv_aload_n hx hb dX7_pass_99 rfl (lv_at hl 0 rfl) ?_
          refine t_getr (C := RX7) (T := TX7) (N := 26) hx hb hts hin7 hown hK hP ho0 rfl rfl 16 (by decide) (fr7_16 ho0) (hts _ (List.mem_of_getElem? (i := 8) rfl)) dX7_pass_100 ?_
          refine lv_iload_n hx hb dX7_pass_103 rfl (lv_at hl 2 rfl) ?_
          obtain ⟨hg14, hm⟩ := gd_inv hm
          refine t_iald hx hb hK hP (kr7_16 ho0) hg14 dX7_pass_104 ?_
          refine lv_iconst (v := (0 : Int32)) hx hb dX7_pass_105 (by decide) ?_
          refine lv_aload_n hx hb dX7_pass_106 rfl (lv_at hl 0 rfl) ?_
          refine t_getr (C := RX7) (T := TX7) (N := 26) hx hb hts hin7 hown hK hP ho0 rfl rfl 7 (by decide) (fr7_7 ho0) (hts _ (List.mem_of_getElem? (i := 9) rfl)) dX7_pass_107 ?_
          refine lv_aload_n hx hb dX7_pass_110 rfl (lv_at hl 0 rfl) ?_
          refine t_getr (C := RX7) (T := TX7) (N := 26) hx hb hts hin7 hown hK hP ho0 rfl rfl 16 (by decide) (fr7_16 ho0) (hts _ (List.mem_of_getElem? (i := 8) rfl)) dX7_pass_111 ?_
          refine lv_iload_n hx hb dX7_pass_114 rfl (lv_at hl 2 rfl) ?_
          obtain ⟨hg15, hm⟩ := gd_inv hm
          refine t_iald hx hb hK hP (kr7_16 ho0) hg15 dX7_pass_115 ?_
          obtain ⟨hg16, hm⟩ := gd_inv hm
          refine t_iald hx hb hK hP (kr7_7 ho0) hg16 dX7_pass_116 ?_
          refine lv_iconst (v := (1 : Int32)) hx hb dX7_pass_117 (by decide) ?_
          refine lv_isub hx hb dX7_pass_118 ?_
          refine va_mmax hx hb (hml.trans hl.1.symm) hown (hts _ (List.mem_of_getElem? (i := 10) rfl)) (hts _ (List.mem_of_getElem? (i := 11) rfl)) (hts _ (List.mem_of_getElem? (i := 12) rfl)) (hts _ (List.mem_of_getElem? (i := 13) rfl)) (Nat.le_of_ble_eq_true rfl) (Nat.le_of_ble_eq_true rfl) hcs.1 hcs.2 dX7_pass_119 ?_
          obtain ⟨hg17, hm⟩ := gd_inv hm
          refine t_iast hx hb hK hP (tD _ _ _ _) hS (kr7_7 ho0) hg17 dX7_pass_122 (fun H locs hP hS => ?_)
          obtain ⟨μ18, eμ18⟩ : ∃ z : MM, z = wI μ5 (RF o0 7) (rI μ5 (RF o0 16) v2.toNatClampNeg).toNatClampNeg (if (0 : Int32) < ((rI μ5 (RF o0 7) (rI μ5 (RF o0 16) v2.toNatClampNeg).toNatClampNeg) - (1 : Int32)) then ((rI μ5 (RF o0 7) (rI μ5 (RF o0 16) v2.toNatClampNeg).toNatClampNeg) - (1 : Int32)) else (0 : Int32)) := ⟨_, rfl⟩
          rw [← eμ18] at hP
          replace hm := bV_of hm eμ18
          obtain ⟨x19, ex19⟩ : ∃ z : Int32, z = v2 + (1 : Int32) := ⟨_, rfl⟩
          replace hm := bV_of hm ex19
          refine lv_iinc (v := x19) (lv' := [(2, .int x19), (0, .ref (base + o0)), (1, .int b1)]) hx hb dX7_pass_123 hl (k := 2) rfl (by rw [ex19]; rfl) (by decide) rfl (fun ls hl => ?_)
          refine lv_goto (tgt := 62) hx hb dX7_pass_126 (by decide) ?_
          exact ih x19 μ18 _ _ _ μ' hm hP hS (lv_sub hl [1, 2, 0] rfl) K
set_option maxHeartbeats 4000000 in
set_option maxRecDepth 100000 in
theorem lX7_pass_L131 {p : Program} {l : Launch} {e : Env} {s : State} {m : MethodId} {args : Array Value} {below : List Frame} {meth : Method} {c : Code} {Q : State → Prop} {D : va_G} {cA : Nat → ClassId} {base sz0 : Nat} {H0 : Heap} (FX : CallFix p m c cX7_pass 3 s args wsX7_pass RX7) (hK : va_K D vwCl (tys cA) s) (hN : tN s) (hz : sz0 ≤ H0.size) {o0 : Nat} (ho0 : kc o0 = 7) (b1 : Int32) {cells slots : Nat} (hcs : cells ≤ 0 ∧ slots ≤ 0) :
    ∀ (n : Nat) (v2 : Int32) (μ : MM) (H : Heap) (locs : List Loc) (ls : Array Slot) (μ' : MM), X7_pass_L131 o0 b1 n v2 μ = some μ' → va_P D vwCl (tw base cA μ []) H → va_S (tA base sz0) H0 H locs → lv_has ls 3 [(0, .ref (base + o0)), (1, .int b1), (2, .int v2)] → (∀ (H : Heap) (locs : List Loc) (ls : Array Slot), va_P D vwCl (tw base cA μ' []) H → va_S (tA base sz0) H0 H locs → lv_has ls 3 [(0, .ref (base + o0)), (1, .int b1)] → W p l e rmX7_pass s m args below meth c H locs cells slots Q (F0 m 198 ls [])) → W p l e rmX7_pass s m args below meth c H locs cells slots Q (F0 m 131 ls []) := by
  obtain ⟨hx, hb, hml, hown, hts⟩ := FX
  have hin7 : ∀ w ∈ wsX70, w ∈ wsX7_pass := by decide +kernel
  intro n
  induction n with
  | zero =>
    intro v2 μ H locs ls μ' hm
    cases hm
  | succ n ih =>
    intro v2 μ H locs ls μ' hm hP hS hl K
    rw [X7_pass_L131_s] at hm
    refine lv_iload_n hx hb dX7_pass_131 rfl (lv_at hl 2 rfl) ?_
    refine lv_aload_n hx hb dX7_pass_132 rfl (lv_at hl 0 rfl) ?_
    refine t_geti (C := RX7) (T := TX7) (N := 26) hx hb hts hin7 hown hK hP ho0 rfl rfl 11 (by decide) (fk7_11 ho0) (hts _ (List.mem_of_getElem? (i := 7) rfl)) dX7_pass_133 ?_
    refine lv_icmp_ge (tgt := 198) hx hb dX7_pass_136 (by decide) (fun c22 => ?_) (fun c22 => ?_)
    · rw [if_pos c22] at hm
      cases hm
      exact K _ _ _ hP hS (lv_sub hl [0, 1] rfl)
    · rw [if_neg c22] at hm
      refine lv_aload_n hx hb dX7_pass_139 rfl (lv_at hl 0 rfl) ?_
      refine lv_aload_n hx hb dX7_pass_140 rfl (lv_at hl 0 rfl) ?_
      refine t_getr (C := RX7) (T := TX7) (N := 26) hx hb hts hin7 hown hK hP ho0 rfl rfl 15 (by decide) (fr7_15 ho0) (hts _ (List.mem_of_getElem? (i := 14) rfl)) dX7_pass_141 ?_
      refine lv_iload_n hx hb dX7_pass_144 rfl (lv_at hl 2 rfl) ?_
      obtain ⟨hg23, hm⟩ := gd_inv hm
      refine t_iald hx hb hK hP (kr7_15 ho0) hg23 dX7_pass_145 ?_
      refine lv_iconst (v := (1 : Int32)) hx hb dX7_pass_146 (by decide) ?_
      refine lv_iadd hx hb dX7_pass_147 ?_
      obtain ⟨r24, hc25, hm⟩ := bO1_inv hm
      refine t_cVi (As := [.int ((rI μ (RF o0 15) v2.toNatClampNeg) + (1 : Int32))]) (rest := []) (μ' := μ) (r := r24) ⟨hx, hb, hml, hown, hts⟩ (mX7_saysNow l D cA base H.size μ ho0 ((rI μ (RF o0 15) v2.toNatClampNeg) + (1 : Int32)) hc25) (cwV 1 hts gX7_pass_X7_saysNow rfl rfl rfl (by decide +kernel) ⟨Nat.le_of_ble_eq_true rfl, Nat.le_of_ble_eq_true rfl⟩) (va_recv hK hP (q0 := o0) rfl (tw_obj ho0 (by decide))) hK hN hP hS hz rfl hl.1 (Nat.le_of_ble_eq_true rfl) dX7_pass_148 hcs rfl (fun H locs hP hS => ?_)
      refine lv_if_eq (tgt := 192) hx hb dX7_pass_151 (by decide) (fun c26 => ?_) (fun c26 => ?_)
      · rw [if_pos c26] at hm
        obtain ⟨x27, ex27⟩ : ∃ z : Int32, z = v2 + (1 : Int32) := ⟨_, rfl⟩
        replace hm := bV_of hm ex27
        refine lv_iinc (v := x27) (lv' := [(2, .int x27), (0, .ref (base + o0)), (1, .int b1)]) hx hb dX7_pass_192 hl (k := 2) rfl (by rw [ex27]; rfl) (by decide) rfl (fun ls hl => ?_)
        refine lv_goto (tgt := 131) hx hb dX7_pass_195 (by decide) ?_
        exact ih x27 μ _ _ _ μ' hm hP hS (lv_sub hl [1, 2, 0] rfl) K
      · rw [if_neg c26] at hm
        refine lv_aload_n hx hb dX7_pass_154 rfl (lv_at hl 0 rfl) ?_
        refine lv_iload_n hx hb dX7_pass_155 rfl (lv_at hl 2 rfl) ?_
        refine lv_aload_n hx hb dX7_pass_156 rfl (lv_at hl 0 rfl) ?_
        refine t_getr (C := RX7) (T := TX7) (N := 26) hx hb hts hin7 hown hK hP ho0 rfl rfl 23 (by decide) (fr7_23 ho0) (hts _ (List.mem_of_getElem? (i := 15) rfl)) dX7_pass_157 ?_
        refine lv_sipush (v := (400 : Int32)) hx hb dX7_pass_160 (by decide) ?_
        refine lv_aload_n hx hb dX7_pass_163 rfl (lv_at hl 0 rfl) ?_
        refine t_getr (C := RX7) (T := TX7) (N := 26) hx hb hts hin7 hown hK hP ho0 rfl rfl 15 (by decide) (fr7_15 ho0) (hts _ (List.mem_of_getElem? (i := 14) rfl)) dX7_pass_164 ?_
        refine lv_iload_n hx hb dX7_pass_167 rfl (lv_at hl 2 rfl) ?_
        obtain ⟨hg28, hm⟩ := gd_inv hm
        refine t_iald hx hb hK hP (kr7_15 ho0) hg28 dX7_pass_168 ?_
        refine lv_iconst (v := (1 : Int32)) hx hb dX7_pass_169 (by decide) ?_
        refine lv_iadd hx hb dX7_pass_170 ?_
        refine lv_imul hx hb dX7_pass_171 ?_
        refine lv_aload_n hx hb dX7_pass_172 rfl (lv_at hl 0 rfl) ?_
        refine t_getr (C := RX7) (T := TX7) (N := 26) hx hb hts hin7 hown hK hP ho0 rfl rfl 22 (by decide) (fr7_22 ho0) (hts _ (List.mem_of_getElem? (i := 16) rfl)) dX7_pass_173 ?_
        refine lv_aload_n hx hb dX7_pass_176 rfl (lv_at hl 0 rfl) ?_
        refine t_getr (C := RX7) (T := TX7) (N := 26) hx hb hts hin7 hown hK hP ho0 rfl rfl 15 (by decide) (fr7_15 ho0) (hts _ (List.mem_of_getElem? (i := 14) rfl)) dX7_pass_177 ?_
        refine lv_iload_n hx hb dX7_pass_180 rfl (lv_at hl 2 rfl) ?_
        obtain ⟨hg29, hm⟩ := gd_inv hm
        refine t_iald hx hb hK hP (kr7_15 ho0) hg29 dX7_pass_181 ?_
        refine lv_iconst (v := (1 : Int32)) hx hb dX7_pass_182 (by decide) ?_
        refine lv_iadd hx hb dX7_pass_183 ?_
        obtain ⟨hg30, hm⟩ := gd_inv hm
        refine t_iald hx hb hK hP (kr7_22 ho0) hg30 dX7_pass_184 ?_
        refine lv_iadd hx hb dX7_pass_185 ?_
        refine lv_iconst (v := (1 : Int32)) hx hb dX7_pass_186 (by decide) ?_
        refine lv_isub hx hb dX7_pass_187 ?_
        obtain ⟨hg31, hm⟩ := gd_inv hm
        refine t_iald hx hb hK hP (kr7_23 ho0) hg31 dX7_pass_188 ?_
        obtain ⟨μ32, hc33, hm⟩ := bO1_inv hm
        refine t_cVv (As := [.int v2, .int (rI μ (RF o0 23) ((((400 : Int32) * ((rI μ (RF o0 15) v2.toNatClampNeg) + (1 : Int32))) + (rI μ (RF o0 22) ((rI μ (RF o0 15) v2.toNatClampNeg) + (1 : Int32)).toNatClampNeg)) - (1 : Int32)).toNatClampNeg)]) (rest := []) (μ' := μ32) ⟨hx, hb, hml, hown, hts⟩ (mX7_hear l D cA base H.size μ ho0 v2 (rI μ (RF o0 23) ((((400 : Int32) * ((rI μ (RF o0 15) v2.toNatClampNeg) + (1 : Int32))) + (rI μ (RF o0 22) ((rI μ (RF o0 15) v2.toNatClampNeg) + (1 : Int32)).toNatClampNeg)) - (1 : Int32)).toNatClampNeg) hc33) (cwV 2 hts gX7_pass_X7_hear rfl rfl rfl (by decide +kernel) ⟨Nat.le_of_ble_eq_true rfl, Nat.le_of_ble_eq_true rfl⟩) (va_recv hK hP (q0 := o0) rfl (tw_obj ho0 (by decide))) hK hN hP hS hz rfl hl.1 (Nat.le_of_ble_eq_true rfl) dX7_pass_189 hcs rfl (fun H locs hP hS => ?_)
        obtain ⟨x34, ex34⟩ : ∃ z : Int32, z = v2 + (1 : Int32) := ⟨_, rfl⟩
        replace hm := bV_of hm ex34
        refine lv_iinc (v := x34) (lv' := [(2, .int x34), (0, .ref (base + o0)), (1, .int b1)]) hx hb dX7_pass_192 hl (k := 2) rfl (by rw [ex34]; rfl) (by decide) rfl (fun ls hl => ?_)
        refine lv_goto (tgt := 131) hx hb dX7_pass_195 (by decide) ?_
        exact ih x34 μ32 _ _ _ μ' hm hP hS (lv_sub hl [1, 2, 0] rfl) K
set_option maxHeartbeats 4000000 in
set_option maxRecDepth 100000 in
theorem lX7_pass_L200 {p : Program} {l : Launch} {e : Env} {s : State} {m : MethodId} {args : Array Value} {below : List Frame} {meth : Method} {c : Code} {Q : State → Prop} {D : va_G} {cA : Nat → ClassId} {base sz0 : Nat} {H0 : Heap} (FX : CallFix p m c cX7_pass 3 s args wsX7_pass RX7) (hK : va_K D vwCl (tys cA) s) (hN : tN s) (hz : sz0 ≤ H0.size) {o0 : Nat} (ho0 : kc o0 = 7) (b1 : Int32) {cells slots : Nat} (hcs : cells ≤ 0 ∧ slots ≤ 0) :
    ∀ (n : Nat) (v2 : Int32) (μ : MM) (H : Heap) (locs : List Loc) (ls : Array Slot) (μ' : MM), X7_pass_L200 o0 b1 n v2 μ = some μ' → va_P D vwCl (tw base cA μ []) H → va_S (tA base sz0) H0 H locs → lv_has ls 3 [(0, .ref (base + o0)), (1, .int b1), (2, .int v2)] → (∀ (H : Heap) (locs : List Loc) (ls : Array Slot), va_P D vwCl (tw base cA μ' []) H → va_S (tA base sz0) H0 H locs → lv_has ls 3 [(0, .ref (base + o0)), (1, .int b1)] → W p l e rmX7_pass s m args below meth c H locs cells slots Q (F0 m 241 ls [])) → W p l e rmX7_pass s m args below meth c H locs cells slots Q (F0 m 200 ls []) := by
  obtain ⟨hx, hb, hml, hown, hts⟩ := FX
  have hin7 : ∀ w ∈ wsX70, w ∈ wsX7_pass := by decide +kernel
  intro n
  induction n with
  | zero =>
    intro v2 μ H locs ls μ' hm
    cases hm
  | succ n ih =>
    intro v2 μ H locs ls μ' hm hP hS hl K
    rw [X7_pass_L200_s] at hm
    refine lv_iload_n hx hb dX7_pass_200 rfl (lv_at hl 2 rfl) ?_
    refine lv_aload_n hx hb dX7_pass_201 rfl (lv_at hl 0 rfl) ?_
    refine t_geti (C := RX7) (T := TX7) (N := 26) hx hb hts hin7 hown hK hP ho0 rfl rfl 4 (by decide) (fk7_4 ho0) (hts _ (List.mem_of_getElem? (i := 17) rfl)) dX7_pass_202 ?_
    refine lv_icmp_ge (tgt := 241) hx hb dX7_pass_205 (by decide) (fun c37 => ?_) (fun c37 => ?_)
    · rw [if_pos c37] at hm
      cases hm
      exact K _ _ _ hP hS (lv_sub hl [0, 1] rfl)
    · rw [if_neg c37] at hm
      refine lv_aload_n hx hb dX7_pass_208 rfl (lv_at hl 0 rfl) ?_
      refine lv_iload_n hx hb dX7_pass_209 rfl (lv_at hl 2 rfl) ?_
      obtain ⟨r38, hc39, hm⟩ := bO1_inv hm
      refine t_cVi (As := [.int v2]) (rest := []) (μ' := μ) (r := r38) ⟨hx, hb, hml, hown, hts⟩ (mX7_boothOf l D cA base H.size μ ho0 v2 hc39) (cwV 1 hts gX7_pass_X7_boothOf rfl rfl rfl (by decide +kernel) ⟨Nat.le_of_ble_eq_true rfl, Nat.le_of_ble_eq_true rfl⟩) (va_recv hK hP (q0 := o0) rfl (tw_obj ho0 (by decide))) hK hN hP hS hz rfl hl.1 (Nat.le_of_ble_eq_true rfl) dX7_pass_210 hcs rfl (fun H locs hP hS => ?_)
      refine lv_iconst (v := (-1 : Int32)) hx hb dX7_pass_213 (by decide) ?_
      refine lv_icmp_ne (tgt := 235) hx hb dX7_pass_214 (by decide) (fun c40 => ?_) (fun c40 => ?_)
      · rw [if_neg c40] at hm
        obtain ⟨x41, ex41⟩ : ∃ z : Int32, z = v2 + (1 : Int32) := ⟨_, rfl⟩
        replace hm := bV_of hm ex41
        refine lv_iinc (v := x41) (lv' := [(2, .int x41), (0, .ref (base + o0)), (1, .int b1)]) hx hb dX7_pass_235 hl (k := 2) rfl (by rw [ex41]; rfl) (by decide) rfl (fun ls hl => ?_)
        refine lv_goto (tgt := 200) hx hb dX7_pass_238 (by decide) ?_
        exact ih x41 μ _ _ _ μ' hm hP hS (lv_sub hl [1, 2, 0] rfl) K
      · rw [if_pos c40] at hm
        refine lv_aload_n hx hb dX7_pass_217 rfl (lv_at hl 0 rfl) ?_
        refine t_getr (C := RX7) (T := TX7) (N := 26) hx hb hts hin7 hown hK hP ho0 rfl rfl 7 (by decide) (fr7_7 ho0) (hts _ (List.mem_of_getElem? (i := 9) rfl)) dX7_pass_218 ?_
        refine lv_iload_n hx hb dX7_pass_221 rfl (lv_at hl 2 rfl) ?_
        refine lv_iconst (v := (0 : Int32)) hx hb dX7_pass_222 (by decide) ?_
        refine lv_aload_n hx hb dX7_pass_223 rfl (lv_at hl 0 rfl) ?_
        refine t_getr (C := RX7) (T := TX7) (N := 26) hx hb hts hin7 hown hK hP ho0 rfl rfl 7 (by decide) (fr7_7 ho0) (hts _ (List.mem_of_getElem? (i := 9) rfl)) dX7_pass_224 ?_
        refine lv_iload_n hx hb dX7_pass_227 rfl (lv_at hl 2 rfl) ?_
        obtain ⟨hg42, hm⟩ := gd_inv hm
        refine t_iald hx hb hK hP (kr7_7 ho0) hg42 dX7_pass_228 ?_
        refine lv_iconst (v := (2 : Int32)) hx hb dX7_pass_229 (by decide) ?_
        refine lv_isub hx hb dX7_pass_230 ?_
        refine va_mmax hx hb (hml.trans hl.1.symm) hown (hts _ (List.mem_of_getElem? (i := 10) rfl)) (hts _ (List.mem_of_getElem? (i := 11) rfl)) (hts _ (List.mem_of_getElem? (i := 12) rfl)) (hts _ (List.mem_of_getElem? (i := 13) rfl)) (Nat.le_of_ble_eq_true rfl) (Nat.le_of_ble_eq_true rfl) hcs.1 hcs.2 dX7_pass_231 ?_
        obtain ⟨hg43, hm⟩ := gd_inv hm
        refine t_iast hx hb hK hP (tD _ _ _ _) hS (kr7_7 ho0) hg43 dX7_pass_234 (fun H locs hP hS => ?_)
        obtain ⟨μ44, eμ44⟩ : ∃ z : MM, z = wI μ (RF o0 7) v2.toNatClampNeg (if (0 : Int32) < ((rI μ (RF o0 7) v2.toNatClampNeg) - (2 : Int32)) then ((rI μ (RF o0 7) v2.toNatClampNeg) - (2 : Int32)) else (0 : Int32)) := ⟨_, rfl⟩
        rw [← eμ44] at hP
        replace hm := bV_of hm eμ44
        obtain ⟨x45, ex45⟩ : ∃ z : Int32, z = v2 + (1 : Int32) := ⟨_, rfl⟩
        replace hm := bV_of hm ex45
        refine lv_iinc (v := x45) (lv' := [(2, .int x45), (0, .ref (base + o0)), (1, .int b1)]) hx hb dX7_pass_235 hl (k := 2) rfl (by rw [ex45]; rfl) (by decide) rfl (fun ls hl => ?_)
        refine lv_goto (tgt := 200) hx hb dX7_pass_238 (by decide) ?_
        exact ih x45 μ44 _ _ _ μ' hm hP hS (lv_sub hl [1, 2, 0] rfl) K
set_option maxHeartbeats 4000000 in
set_option maxRecDepth 100000 in
theorem mX7_pass (l : Launch) (D : va_G) (cA : Nat → ClassId) (base sz : Nat) (μ : MM) {q : Nat} (hq : kc q = 7) {r : Int32} {μ' : MM} (hm : X7_pass q μ = some (r, μ')) : Met l yX7_pass wsX7_pass rmX7_pass (va_Pc [.ref (base + q)] (tPre D cA base sz μ)) (va_Qi (fun (x : Int32) (_ : Unit) => x = r) (fun _ => tPost D cA base μ') (tA base sz)) 0 0 (tA base sz) := by
  refine Met.ofW (cc := cX7_pass) (maxL := 3) (ret := (some .int)) (by decide +kernel) rfl ?_
  intro p e s m args below meth c s₁ B hml hv
  obtain ⟨rfl, hsz, hP, hK, hN⟩ := hv
  have hx := B.exec
  have hb := B.bytes
  have hr := B.returns
  have hts := atoms_spec (ws := wsX7_pass) B.pre
  have hown : s.vm.findClass RX7 = some m.cls := findClass_of_methodNamed B.named
  have hlocks := B.notSynchronized
  have hin7 : ∀ w ∈ wsX70, w ∈ wsX7_pass := by decide +kernel
  subst hsz
  have hS : va_S (tA base s.heap.size) s.heap s.heap [] := va_S.rf
  have hz : s.heap.size ≤ s.heap.size := Nat.le_refl _
  have hl := lv_entry ([.ref (base + q)]) (n := 3) (Nat.le_of_ble_eq_true rfl)
  rw [lg_entry_eq]
  generalize (lg_sl ([.ref (base + q)]) ++ List.replicate (3 - (lg_sl ([.ref (base + q)])).length) Slot.unset).toArray = ls at hl ⊢
  have hl : lv_has ls 3 [(0, .ref (base + q))] := hl
  unfold X7_pass at hm
  refine lv_aload_n hx hb dX7_pass_0 rfl (lv_at hl 0 rfl) ?_
  obtain ⟨r1, hc2, hm⟩ := bO1_inv hm
  refine t_cVi (As := []) (rest := []) (μ' := μ) (r := r1) ⟨hx, hb, hml, hown, hts⟩ (mX7_all l D cA base s.heap.size μ hq hc2) (cwV 0 hts gX7_pass_X7_all rfl rfl rfl (by decide +kernel) ⟨Nat.le_of_ble_eq_true rfl, Nat.le_of_ble_eq_true rfl⟩) (va_recv hK hP (q0 := q) rfl (tw_obj hq (by decide))) hK hN hP hS hz rfl hl.1 (Nat.le_of_ble_eq_true rfl) dX7_pass_1 ⟨Nat.le_of_ble_eq_true rfl, Nat.le_of_ble_eq_true rfl⟩ rfl (fun H locs hP hS => ?_)
  refine lv_istore_n (lv' := [(1, .int r1), (0, .ref (base + q))]) hx hb dX7_pass_4 rfl hl (by decide) rfl (fun ls hl => ?_)
  refine lv_aload_n hx hb dX7_pass_5 rfl (lv_at hl 1 rfl) ?_
  refine t_geti (C := RX7) (T := TX7) (N := 26) hx hb hts hin7 hown hK hP hq rfl rfl 3 (by decide) (fk7_3 hq) (hts _ (List.mem_of_getElem? (i := 1) rfl)) dX7_pass_6 ?_
  refine lv_if_le (tgt := 60) hx hb dX7_pass_9 (by decide) (fun c3 => ?_) (fun c3 => ?_)
  · rw [if_pos c3] at hm
    refine lv_iconst (v := (0 : Int32)) hx hb dX7_pass_60 (by decide) ?_
    refine lv_istore_n (lv' := [(2, .int (0 : Int32)), (1, .int r1), (0, .ref (base + q))]) hx hb dX7_pass_61 rfl hl (by decide) rfl (fun ls hl => ?_)
    obtain ⟨μ20, hc21, hm⟩ := bO1_inv hm
    refine lX7_pass_L62 ⟨hx, hb, hml, hown, hts⟩ hK hN hz hq r1 ⟨Nat.le_of_ble_eq_true rfl, Nat.le_of_ble_eq_true rfl⟩ 1000 (0 : Int32) μ _ _ _ μ20 hc21 hP hS (lv_sub hl [2, 1, 0] rfl) ?_
    intro H locs ls hP hS hl
    refine lv_iconst (v := (0 : Int32)) hx hb dX7_pass_129 (by decide) ?_
    refine lv_istore_n (lv' := [(2, .int (0 : Int32)), (0, .ref (base + q)), (1, .int r1)]) hx hb dX7_pass_130 rfl hl (by decide) rfl (fun ls hl => ?_)
    obtain ⟨μ35, hc36, hm⟩ := bO1_inv hm
    refine lX7_pass_L131 ⟨hx, hb, hml, hown, hts⟩ hK hN hz hq r1 ⟨Nat.le_of_ble_eq_true rfl, Nat.le_of_ble_eq_true rfl⟩ 1000 (0 : Int32) μ20 _ _ _ μ35 hc36 hP hS (lv_sub hl [1, 2, 0] rfl) ?_
    intro H locs ls hP hS hl
    refine lv_iconst (v := (0 : Int32)) hx hb dX7_pass_198 (by decide) ?_
    refine lv_istore_n (lv' := [(2, .int (0 : Int32)), (0, .ref (base + q)), (1, .int r1)]) hx hb dX7_pass_199 rfl hl (by decide) rfl (fun ls hl => ?_)
    obtain ⟨μ46, hc47, hm⟩ := bO1_inv hm
    refine lX7_pass_L200 ⟨hx, hb, hml, hown, hts⟩ hK hN hz hq r1 ⟨Nat.le_of_ble_eq_true rfl, Nat.le_of_ble_eq_true rfl⟩ 1000 (0 : Int32) μ35 _ _ _ μ46 hc47 hP hS (lv_sub hl [1, 2, 0] rfl) ?_
    intro H locs ls hP hS hl
    refine lv_aload_n hx hb dX7_pass_241 rfl (lv_at hl 0 rfl) ?_
    refine lv_dup hx hb dX7_pass_242 rfl ?_
    refine t_geti (C := RX7) (T := TX7) (N := 26) hx hb hts hin7 hown hK hP hq rfl rfl 0 (by decide) (fk7_0 hq) (hts _ (List.mem_of_getElem? (i := 18) rfl)) dX7_pass_243 ?_
    refine lv_iconst (v := (1 : Int32)) hx hb dX7_pass_246 (by decide) ?_
    refine lv_iadd hx hb dX7_pass_247 ?_
    refine t_put (C := RX7) (T := TX7) (N := 26) hx hb hts hin7 tyX7 tyX7_ok nmX7 hown hK hP (tD _ _ _ _) hS hq rfl rfl 0 (by decide) (fk7_0 hq) (hts _ (List.mem_of_getElem? (i := 18) rfl)) rfl (by decide +kernel) dX7_pass_248 (fun H locs hP hS => ?_)
    obtain ⟨μ48, eμ48⟩ : ∃ z : MM, z = wI μ46 q 0 ((rI μ46 q 0) + (1 : Int32)) := ⟨_, rfl⟩
    rw [← eμ48] at hP
    replace hm := bV_of hm eμ48
    refine lv_aload_n hx hb dX7_pass_251 rfl (lv_at hl 0 rfl) ?_
    obtain ⟨r49, hc50, hm⟩ := bO1_inv hm
    refine t_cVi (As := []) (rest := []) (μ' := μ48) (r := r49) ⟨hx, hb, hml, hown, hts⟩ (mX7_all l D cA base H.size μ48 hq hc50) (cwV 0 hts gX7_pass_X7_all rfl rfl rfl (by decide +kernel) ⟨Nat.le_of_ble_eq_true rfl, Nat.le_of_ble_eq_true rfl⟩) (va_recv hK hP (q0 := q) rfl (tw_obj hq (by decide))) hK hN hP hS hz rfl hl.1 (Nat.le_of_ble_eq_true rfl) dX7_pass_252 ⟨Nat.le_of_ble_eq_true rfl, Nat.le_of_ble_eq_true rfl⟩ rfl (fun H locs hP hS => ?_)
    refine lv_iload_n hx hb dX7_pass_255 rfl (lv_at hl 1 rfl) ?_
    refine lv_isub hx hb dX7_pass_256 ?_
    cases hm
    exact W.iret hx hb hr (fun t ht hW => ⟨⟨_, (), rfl, rfl, tPost_of hP ht⟩, hS.F ht⟩) hS.2.2 dX7_pass_257
  · rw [if_neg c3] at hm
    refine lv_aload_n hx hb dX7_pass_12 rfl (lv_at hl 1 rfl) ?_
    refine t_getr (C := RX7) (T := TX7) (N := 26) hx hb hts hin7 hown hK hP hq rfl rfl 2 (by decide) (fr7_2 hq) (hts _ (List.mem_of_getElem? (i := 2) rfl)) dX7_pass_13 ?_
    refine lv_iconst (v := (0 : Int32)) hx hb dX7_pass_16 (by decide) ?_
    obtain ⟨hg51, hm⟩ := gd_inv hm
    refine t_iald hx hb hK hP (kr7_2 hq) hg51 dX7_pass_17 ?_
    refine lv_iconst (v := (-1 : Int32)) hx hb dX7_pass_18 (by decide) ?_
    refine lv_icmp_eq (tgt := 33) hx hb dX7_pass_19 (by decide) (fun c52 => ?_) (fun c52 => ?_)
    · rw [if_pos c52] at hm
      refine lv_aload_n hx hb dX7_pass_33 rfl (lv_at hl 1 rfl) ?_
      refine lv_dup hx hb dX7_pass_34 rfl ?_
      refine t_geti (C := RX7) (T := TX7) (N := 26) hx hb hts hin7 hown hK hP hq rfl rfl 3 (by decide) (fk7_3 hq) (hts _ (List.mem_of_getElem? (i := 1) rfl)) dX7_pass_35 ?_
      refine lv_iconst (v := (1 : Int32)) hx hb dX7_pass_38 (by decide) ?_
      refine lv_isub hx hb dX7_pass_39 ?_
      refine t_put (C := RX7) (T := TX7) (N := 26) hx hb hts hin7 tyX7 tyX7_ok nmX7 hown hK hP (tD _ _ _ _) hS hq rfl rfl 3 (by decide) (fk7_3 hq) (hts _ (List.mem_of_getElem? (i := 1) rfl)) rfl (by decide +kernel) dX7_pass_40 (fun H locs hP hS => ?_)
      obtain ⟨μ53, eμ53⟩ : ∃ z : MM, z = wI μ q 3 ((rI μ q 3) - (1 : Int32)) := ⟨_, rfl⟩
      rw [← eμ53] at hP
      replace hm := bV_of hm eμ53
      refine lv_aload_n hx hb dX7_pass_43 rfl (lv_at hl 1 rfl) ?_
      refine t_getr (C := RX7) (T := TX7) (N := 26) hx hb hts hin7 hown hK hP hq rfl rfl 2 (by decide) (fr7_2 hq) (hts _ (List.mem_of_getElem? (i := 2) rfl)) dX7_pass_44 ?_
      refine lv_iconst (v := (1 : Int32)) hx hb dX7_pass_47 (by decide) ?_
      refine lv_aload_n hx hb dX7_pass_48 rfl (lv_at hl 1 rfl) ?_
      refine t_getr (C := RX7) (T := TX7) (N := 26) hx hb hts hin7 hown hK hP hq rfl rfl 2 (by decide) (fr7_2 hq) (hts _ (List.mem_of_getElem? (i := 2) rfl)) dX7_pass_49 ?_
      refine lv_iconst (v := (0 : Int32)) hx hb dX7_pass_52 (by decide) ?_
      refine lv_aload_n hx hb dX7_pass_53 rfl (lv_at hl 1 rfl) ?_
      refine t_geti (C := RX7) (T := TX7) (N := 26) hx hb hts hin7 hown hK hP hq rfl rfl 3 (by decide) (fk7_3 hq) (hts _ (List.mem_of_getElem? (i := 1) rfl)) dX7_pass_54 ?_
      obtain ⟨hg54, hm⟩ := gd_inv hm
      refine t_cpy hx hb (hml.trans hl.1.symm) hown (hts _ (List.mem_of_getElem? (i := 3) rfl)) (hts _ (List.mem_of_getElem? (i := 4) rfl)) (hts _ (List.mem_of_getElem? (i := 5) rfl)) (hts _ (List.mem_of_getElem? (i := 6) rfl)) hK hP (tD _ _ _ _) hS (kr7_2 hq) (kr7_2 hq) hg54 (Nat.le_of_ble_eq_true rfl) (Nat.le_of_ble_eq_true rfl) dX7_pass_57 (fun H locs hP hS => ?_)
      obtain ⟨μ55, eμ55⟩ : ∃ z : MM, z = wC μ53 (RF q 2) (1 : Int32).toNatClampNeg (RF q 2) (0 : Int32).toNatClampNeg (rI μ53 q 3).toNatClampNeg := ⟨_, rfl⟩
      rw [← eμ55] at hP
      replace hm := bV_of hm eμ55
      refine lv_iconst (v := (0 : Int32)) hx hb dX7_pass_60 (by decide) ?_
      refine lv_istore_n (lv' := [(2, .int (0 : Int32)), (1, .int r1), (0, .ref (base + q))]) hx hb dX7_pass_61 rfl hl (by decide) rfl (fun ls hl => ?_)
      obtain ⟨μ56, hc57, hm⟩ := bO1_inv hm
      refine lX7_pass_L62 ⟨hx, hb, hml, hown, hts⟩ hK hN hz hq r1 ⟨Nat.le_of_ble_eq_true rfl, Nat.le_of_ble_eq_true rfl⟩ 1000 (0 : Int32) μ55 _ _ _ μ56 hc57 hP hS (lv_sub hl [2, 1, 0] rfl) ?_
      intro H locs ls hP hS hl
      refine lv_iconst (v := (0 : Int32)) hx hb dX7_pass_129 (by decide) ?_
      refine lv_istore_n (lv' := [(2, .int (0 : Int32)), (0, .ref (base + q)), (1, .int r1)]) hx hb dX7_pass_130 rfl hl (by decide) rfl (fun ls hl => ?_)
      obtain ⟨μ58, hc59, hm⟩ := bO1_inv hm
      refine lX7_pass_L131 ⟨hx, hb, hml, hown, hts⟩ hK hN hz hq r1 ⟨Nat.le_of_ble_eq_true rfl, Nat.le_of_ble_eq_true rfl⟩ 1000 (0 : Int32) μ56 _ _ _ μ58 hc59 hP hS (lv_sub hl [1, 2, 0] rfl) ?_
      intro H locs ls hP hS hl
      refine lv_iconst (v := (0 : Int32)) hx hb dX7_pass_198 (by decide) ?_
      refine lv_istore_n (lv' := [(2, .int (0 : Int32)), (0, .ref (base + q)), (1, .int r1)]) hx hb dX7_pass_199 rfl hl (by decide) rfl (fun ls hl => ?_)
      obtain ⟨μ60, hc61, hm⟩ := bO1_inv hm
      refine lX7_pass_L200 ⟨hx, hb, hml, hown, hts⟩ hK hN hz hq r1 ⟨Nat.le_of_ble_eq_true rfl, Nat.le_of_ble_eq_true rfl⟩ 1000 (0 : Int32) μ58 _ _ _ μ60 hc61 hP hS (lv_sub hl [1, 2, 0] rfl) ?_
      intro H locs ls hP hS hl
      refine lv_aload_n hx hb dX7_pass_241 rfl (lv_at hl 0 rfl) ?_
      refine lv_dup hx hb dX7_pass_242 rfl ?_
      refine t_geti (C := RX7) (T := TX7) (N := 26) hx hb hts hin7 hown hK hP hq rfl rfl 0 (by decide) (fk7_0 hq) (hts _ (List.mem_of_getElem? (i := 18) rfl)) dX7_pass_243 ?_
      refine lv_iconst (v := (1 : Int32)) hx hb dX7_pass_246 (by decide) ?_
      refine lv_iadd hx hb dX7_pass_247 ?_
      refine t_put (C := RX7) (T := TX7) (N := 26) hx hb hts hin7 tyX7 tyX7_ok nmX7 hown hK hP (tD _ _ _ _) hS hq rfl rfl 0 (by decide) (fk7_0 hq) (hts _ (List.mem_of_getElem? (i := 18) rfl)) rfl (by decide +kernel) dX7_pass_248 (fun H locs hP hS => ?_)
      obtain ⟨μ62, eμ62⟩ : ∃ z : MM, z = wI μ60 q 0 ((rI μ60 q 0) + (1 : Int32)) := ⟨_, rfl⟩
      rw [← eμ62] at hP
      replace hm := bV_of hm eμ62
      refine lv_aload_n hx hb dX7_pass_251 rfl (lv_at hl 0 rfl) ?_
      obtain ⟨r63, hc64, hm⟩ := bO1_inv hm
      refine t_cVi (As := []) (rest := []) (μ' := μ62) (r := r63) ⟨hx, hb, hml, hown, hts⟩ (mX7_all l D cA base H.size μ62 hq hc64) (cwV 0 hts gX7_pass_X7_all rfl rfl rfl (by decide +kernel) ⟨Nat.le_of_ble_eq_true rfl, Nat.le_of_ble_eq_true rfl⟩) (va_recv hK hP (q0 := q) rfl (tw_obj hq (by decide))) hK hN hP hS hz rfl hl.1 (Nat.le_of_ble_eq_true rfl) dX7_pass_252 ⟨Nat.le_of_ble_eq_true rfl, Nat.le_of_ble_eq_true rfl⟩ rfl (fun H locs hP hS => ?_)
      refine lv_iload_n hx hb dX7_pass_255 rfl (lv_at hl 1 rfl) ?_
      refine lv_isub hx hb dX7_pass_256 ?_
      cases hm
      exact W.iret hx hb hr (fun t ht hW => ⟨⟨_, (), rfl, rfl, tPost_of hP ht⟩, hS.F ht⟩) hS.2.2 dX7_pass_257
    · rw [if_neg c52] at hm
      refine lv_aload_n hx hb dX7_pass_22 rfl (lv_at hl 1 rfl) ?_
      refine lv_iconst (v := (0 : Int32)) hx hb dX7_pass_23 (by decide) ?_
      refine lv_aload_n hx hb dX7_pass_24 rfl (lv_at hl 1 rfl) ?_
      refine t_getr (C := RX7) (T := TX7) (N := 26) hx hb hts hin7 hown hK hP hq rfl rfl 2 (by decide) (fr7_2 hq) (hts _ (List.mem_of_getElem? (i := 2) rfl)) dX7_pass_25 ?_
      refine lv_iconst (v := (0 : Int32)) hx hb dX7_pass_28 (by decide) ?_
      obtain ⟨hg65, hm⟩ := gd_inv hm
      refine t_iald hx hb hK hP (kr7_2 hq) hg65 dX7_pass_29 ?_
      obtain ⟨μ66, hc67, hm⟩ := bO1_inv hm
      refine t_cVv (As := [.int (0 : Int32), .int (rI μ (RF q 2) (0 : Int32).toNatClampNeg)]) (rest := []) (μ' := μ66) ⟨hx, hb, hml, hown, hts⟩ (mX7_keep l D cA base H.size μ hq (0 : Int32) (rI μ (RF q 2) (0 : Int32).toNatClampNeg) hc67) (cwV 2 hts gX7_pass_X7_keep rfl rfl rfl (by decide +kernel) ⟨Nat.le_of_ble_eq_true rfl, Nat.le_of_ble_eq_true rfl⟩) (va_recv hK hP (q0 := q) rfl (tw_obj hq (by decide))) hK hN hP hS hz rfl hl.1 (Nat.le_of_ble_eq_true rfl) dX7_pass_30 ⟨Nat.le_of_ble_eq_true rfl, Nat.le_of_ble_eq_true rfl⟩ rfl (fun H locs hP hS => ?_)
      refine lv_aload_n hx hb dX7_pass_33 rfl (lv_at hl 1 rfl) ?_
      refine lv_dup hx hb dX7_pass_34 rfl ?_
      refine t_geti (C := RX7) (T := TX7) (N := 26) hx hb hts hin7 hown hK hP hq rfl rfl 3 (by decide) (fk7_3 hq) (hts _ (List.mem_of_getElem? (i := 1) rfl)) dX7_pass_35 ?_
      refine lv_iconst (v := (1 : Int32)) hx hb dX7_pass_38 (by decide) ?_
      refine lv_isub hx hb dX7_pass_39 ?_
      refine t_put (C := RX7) (T := TX7) (N := 26) hx hb hts hin7 tyX7 tyX7_ok nmX7 hown hK hP (tD _ _ _ _) hS hq rfl rfl 3 (by decide) (fk7_3 hq) (hts _ (List.mem_of_getElem? (i := 1) rfl)) rfl (by decide +kernel) dX7_pass_40 (fun H locs hP hS => ?_)
      obtain ⟨μ68, eμ68⟩ : ∃ z : MM, z = wI μ66 q 3 ((rI μ66 q 3) - (1 : Int32)) := ⟨_, rfl⟩
      rw [← eμ68] at hP
      replace hm := bV_of hm eμ68
      refine lv_aload_n hx hb dX7_pass_43 rfl (lv_at hl 1 rfl) ?_
      refine t_getr (C := RX7) (T := TX7) (N := 26) hx hb hts hin7 hown hK hP hq rfl rfl 2 (by decide) (fr7_2 hq) (hts _ (List.mem_of_getElem? (i := 2) rfl)) dX7_pass_44 ?_
      refine lv_iconst (v := (1 : Int32)) hx hb dX7_pass_47 (by decide) ?_
      refine lv_aload_n hx hb dX7_pass_48 rfl (lv_at hl 1 rfl) ?_
      refine t_getr (C := RX7) (T := TX7) (N := 26) hx hb hts hin7 hown hK hP hq rfl rfl 2 (by decide) (fr7_2 hq) (hts _ (List.mem_of_getElem? (i := 2) rfl)) dX7_pass_49 ?_
      refine lv_iconst (v := (0 : Int32)) hx hb dX7_pass_52 (by decide) ?_
      refine lv_aload_n hx hb dX7_pass_53 rfl (lv_at hl 1 rfl) ?_
      refine t_geti (C := RX7) (T := TX7) (N := 26) hx hb hts hin7 hown hK hP hq rfl rfl 3 (by decide) (fk7_3 hq) (hts _ (List.mem_of_getElem? (i := 1) rfl)) dX7_pass_54 ?_
      obtain ⟨hg69, hm⟩ := gd_inv hm
      refine t_cpy hx hb (hml.trans hl.1.symm) hown (hts _ (List.mem_of_getElem? (i := 3) rfl)) (hts _ (List.mem_of_getElem? (i := 4) rfl)) (hts _ (List.mem_of_getElem? (i := 5) rfl)) (hts _ (List.mem_of_getElem? (i := 6) rfl)) hK hP (tD _ _ _ _) hS (kr7_2 hq) (kr7_2 hq) hg69 (Nat.le_of_ble_eq_true rfl) (Nat.le_of_ble_eq_true rfl) dX7_pass_57 (fun H locs hP hS => ?_)
      obtain ⟨μ70, eμ70⟩ : ∃ z : MM, z = wC μ68 (RF q 2) (1 : Int32).toNatClampNeg (RF q 2) (0 : Int32).toNatClampNeg (rI μ68 q 3).toNatClampNeg := ⟨_, rfl⟩
      rw [← eμ70] at hP
      replace hm := bV_of hm eμ70
      refine lv_iconst (v := (0 : Int32)) hx hb dX7_pass_60 (by decide) ?_
      refine lv_istore_n (lv' := [(2, .int (0 : Int32)), (1, .int r1), (0, .ref (base + q))]) hx hb dX7_pass_61 rfl hl (by decide) rfl (fun ls hl => ?_)
      obtain ⟨μ71, hc72, hm⟩ := bO1_inv hm
      refine lX7_pass_L62 ⟨hx, hb, hml, hown, hts⟩ hK hN hz hq r1 ⟨Nat.le_of_ble_eq_true rfl, Nat.le_of_ble_eq_true rfl⟩ 1000 (0 : Int32) μ70 _ _ _ μ71 hc72 hP hS (lv_sub hl [2, 1, 0] rfl) ?_
      intro H locs ls hP hS hl
      refine lv_iconst (v := (0 : Int32)) hx hb dX7_pass_129 (by decide) ?_
      refine lv_istore_n (lv' := [(2, .int (0 : Int32)), (0, .ref (base + q)), (1, .int r1)]) hx hb dX7_pass_130 rfl hl (by decide) rfl (fun ls hl => ?_)
      obtain ⟨μ73, hc74, hm⟩ := bO1_inv hm
      refine lX7_pass_L131 ⟨hx, hb, hml, hown, hts⟩ hK hN hz hq r1 ⟨Nat.le_of_ble_eq_true rfl, Nat.le_of_ble_eq_true rfl⟩ 1000 (0 : Int32) μ71 _ _ _ μ73 hc74 hP hS (lv_sub hl [1, 2, 0] rfl) ?_
      intro H locs ls hP hS hl
      refine lv_iconst (v := (0 : Int32)) hx hb dX7_pass_198 (by decide) ?_
      refine lv_istore_n (lv' := [(2, .int (0 : Int32)), (0, .ref (base + q)), (1, .int r1)]) hx hb dX7_pass_199 rfl hl (by decide) rfl (fun ls hl => ?_)
      obtain ⟨μ75, hc76, hm⟩ := bO1_inv hm
      refine lX7_pass_L200 ⟨hx, hb, hml, hown, hts⟩ hK hN hz hq r1 ⟨Nat.le_of_ble_eq_true rfl, Nat.le_of_ble_eq_true rfl⟩ 1000 (0 : Int32) μ73 _ _ _ μ75 hc76 hP hS (lv_sub hl [1, 2, 0] rfl) ?_
      intro H locs ls hP hS hl
      refine lv_aload_n hx hb dX7_pass_241 rfl (lv_at hl 0 rfl) ?_
      refine lv_dup hx hb dX7_pass_242 rfl ?_
      refine t_geti (C := RX7) (T := TX7) (N := 26) hx hb hts hin7 hown hK hP hq rfl rfl 0 (by decide) (fk7_0 hq) (hts _ (List.mem_of_getElem? (i := 18) rfl)) dX7_pass_243 ?_
      refine lv_iconst (v := (1 : Int32)) hx hb dX7_pass_246 (by decide) ?_
      refine lv_iadd hx hb dX7_pass_247 ?_
      refine t_put (C := RX7) (T := TX7) (N := 26) hx hb hts hin7 tyX7 tyX7_ok nmX7 hown hK hP (tD _ _ _ _) hS hq rfl rfl 0 (by decide) (fk7_0 hq) (hts _ (List.mem_of_getElem? (i := 18) rfl)) rfl (by decide +kernel) dX7_pass_248 (fun H locs hP hS => ?_)
      obtain ⟨μ77, eμ77⟩ : ∃ z : MM, z = wI μ75 q 0 ((rI μ75 q 0) + (1 : Int32)) := ⟨_, rfl⟩
      rw [← eμ77] at hP
      replace hm := bV_of hm eμ77
      refine lv_aload_n hx hb dX7_pass_251 rfl (lv_at hl 0 rfl) ?_
      obtain ⟨r78, hc79, hm⟩ := bO1_inv hm
      refine t_cVi (As := []) (rest := []) (μ' := μ77) (r := r78) ⟨hx, hb, hml, hown, hts⟩ (mX7_all l D cA base H.size μ77 hq hc79) (cwV 0 hts gX7_pass_X7_all rfl rfl rfl (by decide +kernel) ⟨Nat.le_of_ble_eq_true rfl, Nat.le_of_ble_eq_true rfl⟩) (va_recv hK hP (q0 := q) rfl (tw_obj hq (by decide))) hK hN hP hS hz rfl hl.1 (Nat.le_of_ble_eq_true rfl) dX7_pass_252 ⟨Nat.le_of_ble_eq_true rfl, Nat.le_of_ble_eq_true rfl⟩ rfl (fun H locs hP hS => ?_)
      refine lv_iload_n hx hb dX7_pass_255 rfl (lv_at hl 1 rfl) ?_
      refine lv_isub hx hb dX7_pass_256 ?_
      cases hm
      exact W.iret hx hb hr (fun t ht hW => ⟨⟨_, (), rfl, rfl, tPost_of hP ht⟩, hS.F ht⟩) hS.2.2 dX7_pass_257
abbrev rmX7_through : Room := { frames := 1, cells := 0, slots := 0, locals := 21 }
set_option maxHeartbeats 4000000 in
set_option maxRecDepth 100000 in
theorem lX7_through_L11 {p : Program} {l : Launch} {e : Env} {s : State} {m : MethodId} {args : Array Value} {below : List Frame} {meth : Method} {c : Code} {Q : State → Prop} {D : va_G} {cA : Nat → ClassId} {base sz0 : Nat} {H0 : Heap} (FX : CallFix p m c cX7_through 7 s args wsX7_through RX7) (hK : va_K D vwCl (tys cA) s) (hN : tN s) (hz : sz0 ≤ H0.size) {o0 : Nat} (ho0 : kc o0 = 7) (b1 : Int32) (b2 : Int32) {cells slots : Nat} (hcs : cells ≤ 0 ∧ slots ≤ 0) :
    ∀ (n : Nat) (v3 : Int32) (μ : MM) (H : Heap) (locs : List Loc) (ls : Array Slot) (μ' : MM), X7_through_L11 o0 b1 b2 n v3 μ = some μ' → va_P D vwCl (tw base cA μ []) H → va_S (tA base sz0) H0 H locs → lv_has ls 7 [(0, .ref (base + o0)), (1, .int b1), (2, .int b2), (3, .int v3)] → (∀ (H : Heap) (locs : List Loc) (ls : Array Slot), va_P D vwCl (tw base cA μ' []) H → va_S (tA base sz0) H0 H locs → lv_has ls 7 [(0, .ref (base + o0)), (1, .int b1), (2, .int b2)] → W p l e rmX7_through s m args below meth c H locs cells slots Q (F0 m 29 ls [])) → W p l e rmX7_through s m args below meth c H locs cells slots Q (F0 m 11 ls []) := by
  obtain ⟨hx, hb, hml, hown, hts⟩ := FX
  have hin7 : ∀ w ∈ wsX70, w ∈ wsX7_through := by decide +kernel
  intro n
  induction n with
  | zero =>
    intro v3 μ H locs ls μ' hm
    cases hm
  | succ n ih =>
    intro v3 μ H locs ls μ' hm hP hS hl K
    rw [X7_through_L11_s] at hm
    refine lv_iload_n hx hb dX7_through_11 rfl (lv_at hl 3 rfl) ?_
    refine lv_iload_n hx hb dX7_through_12 rfl (lv_at hl 2 rfl) ?_
    refine lv_icmp_gt (tgt := 29) hx hb dX7_through_13 (by decide) (fun c3 => ?_) (fun c3 => ?_)
    · rw [if_pos c3] at hm
      cases hm
      exact K _ _ _ hP hS (lv_sub hl [0, 1, 2] rfl)
    · rw [if_neg c3] at hm
      refine lv_aload_n hx hb dX7_through_16 rfl (lv_at hl 0 rfl) ?_
      refine t_getr (C := RX7) (T := TX7) (N := 26) hx hb hts hin7 hown hK hP ho0 rfl rfl 25 (by decide) (fr7_25 ho0) (hts _ (List.mem_of_getElem? (i := 2) rfl)) dX7_through_17 ?_
      refine lv_iload_n hx hb dX7_through_20 rfl (lv_at hl 3 rfl) ?_
      refine lv_iconst (v := (0 : Int32)) hx hb dX7_through_21 (by decide) ?_
      obtain ⟨hg4, hm⟩ := gd_inv hm
      refine t_iast hx hb hK hP (tD _ _ _ _) hS (kr7_25 ho0) hg4 dX7_through_22 (fun H locs hP hS => ?_)
      obtain ⟨μ5, eμ5⟩ : ∃ z : MM, z = wI μ (RF o0 25) v3.toNatClampNeg (0 : Int32) := ⟨_, rfl⟩
      rw [← eμ5] at hP
      replace hm := bV_of hm eμ5
      obtain ⟨x6, ex6⟩ : ∃ z : Int32, z = v3 + (1 : Int32) := ⟨_, rfl⟩
      replace hm := bV_of hm ex6
      refine lv_iinc (v := x6) (lv' := [(3, .int x6), (0, .ref (base + o0)), (1, .int b1), (2, .int b2)]) hx hb dX7_through_23 hl (k := 3) rfl (by rw [ex6]; rfl) (by decide) rfl (fun ls hl => ?_)
      refine lv_goto (tgt := 11) hx hb dX7_through_26 (by decide) ?_
      exact ih x6 μ5 _ _ _ μ' hm hP hS (lv_sub hl [1, 2, 3, 0] rfl) K
set_option maxHeartbeats 4000000 in
set_option maxRecDepth 100000 in
theorem lX7_through_L47 {p : Program} {l : Launch} {e : Env} {s : State} {m : MethodId} {args : Array Value} {below : List Frame} {meth : Method} {c : Code} {Q : State → Prop} {D : va_G} {cA : Nat → ClassId} {base sz0 : Nat} {H0 : Heap} (FX : CallFix p m c cX7_through 7 s args wsX7_through RX7) (hK : va_K D vwCl (tys cA) s) (hN : tN s) (hz : sz0 ≤ H0.size) {o0 : Nat} (ho0 : kc o0 = 7) (b1 : Int32) (b2 : Int32) (b3 : Int32) {cells slots : Nat} (hcs : cells ≤ 0 ∧ slots ≤ 0) :
    ∀ (n : Nat) (v4 : Int32) (v5 : Int32) (μ : MM) (H : Heap) (locs : List Loc) (ls : Array Slot) (μ' : MM), X7_through_L47 o0 b1 b2 b3 n v4 v5 μ = some μ' → va_P D vwCl (tw base cA μ []) H → va_S (tA base sz0) H0 H locs → lv_has ls 7 [(0, .ref (base + o0)), (1, .int b1), (2, .int b2), (3, .int b3), (4, .int v4), (5, .int v5)] → (∀ (H : Heap) (locs : List Loc) (ls : Array Slot), va_P D vwCl (tw base cA μ' []) H → va_S (tA base sz0) H0 H locs → lv_has ls 7 [(0, .ref (base + o0)), (1, .int b1), (2, .int b2), (3, .int b3)] → W p l e rmX7_through s m args below meth c H locs cells slots Q (F0 m 126 ls [])) → W p l e rmX7_through s m args below meth c H locs cells slots Q (F0 m 47 ls []) := by
  obtain ⟨hx, hb, hml, hown, hts⟩ := FX
  have hin7 : ∀ w ∈ wsX70, w ∈ wsX7_through := by decide +kernel
  intro n
  induction n with
  | zero =>
    intro v4 v5 μ H locs ls μ' hm
    cases hm
  | succ n ih =>
    intro v4 v5 μ H locs ls μ' hm hP hS hl K
    rw [X7_through_L47_s] at hm
    refine lv_iload hx hb dX7_through_47 (lv_at hl 5 rfl) ?_
    refine lv_iload_n hx hb dX7_through_49 rfl (lv_at hl 2 rfl) ?_
    refine lv_icmp_gt (tgt := 126) hx hb dX7_through_50 (by decide) (fun c11 => ?_) (fun c11 => ?_)
    · rw [if_pos c11] at hm
      cases hm
      exact K _ _ _ hP hS (lv_sub hl [0, 1, 2, 3] rfl)
    · rw [if_neg c11] at hm
      refine lv_aload_n hx hb dX7_through_53 rfl (lv_at hl 0 rfl) ?_
      refine t_getr (C := RX7) (T := TX7) (N := 26) hx hb hts hin7 hown hK hP ho0 rfl rfl 25 (by decide) (fr7_25 ho0) (hts _ (List.mem_of_getElem? (i := 2) rfl)) dX7_through_54 ?_
      refine lv_iload hx hb dX7_through_57 (lv_at hl 5 rfl) ?_
      obtain ⟨hg12, hm⟩ := gd_inv hm
      refine t_iald hx hb hK hP (kr7_25 ho0) hg12 dX7_through_59 ?_
      refine lv_topi (fun x13 ex13 => ?_)
      replace hm := bV_of hm ex13
      refine lv_istore (lv' := [(6, .int x13), (0, .ref (base + o0)), (1, .int b1), (2, .int b2), (3, .int b3), (4, .int v4), (5, .int v5)]) hx hb dX7_through_60 hl (by decide) rfl (fun ls hl => ?_)
      refine lv_aload_n hx hb dX7_through_62 rfl (lv_at hl 1 rfl) ?_
      refine t_getr (C := RX7) (T := TX7) (N := 26) hx hb hts hin7 hown hK hP ho0 rfl rfl 25 (by decide) (fr7_25 ho0) (hts _ (List.mem_of_getElem? (i := 2) rfl)) dX7_through_63 ?_
      refine lv_iload hx hb dX7_through_66 (lv_at hl 6 rfl) ?_
      refine lv_aload_n hx hb dX7_through_68 rfl (lv_at hl 1 rfl) ?_
      refine t_getr (C := RX7) (T := TX7) (N := 26) hx hb hts hin7 hown hK hP ho0 rfl rfl 23 (by decide) (fr7_23 ho0) (hts _ (List.mem_of_getElem? (i := 3) rfl)) dX7_through_69 ?_
      refine lv_iload_n hx hb dX7_through_72 rfl (lv_at hl 4 rfl) ?_
      obtain ⟨hg14, hm⟩ := gd_inv hm
      refine t_iald hx hb hK hP (kr7_23 ho0) hg14 dX7_through_73 ?_
      refine lv_aload_n hx hb dX7_through_74 rfl (lv_at hl 1 rfl) ?_
      refine t_getr (C := RX7) (T := TX7) (N := 26) hx hb hts hin7 hown hK hP ho0 rfl rfl 23 (by decide) (fr7_23 ho0) (hts _ (List.mem_of_getElem? (i := 3) rfl)) dX7_through_75 ?_
      refine lv_sipush (v := (400 : Int32)) hx hb dX7_through_78 (by decide) ?_
      refine lv_iload_n hx hb dX7_through_81 rfl (lv_at hl 2 rfl) ?_
      refine lv_iconst (v := (1 : Int32)) hx hb dX7_through_82 (by decide) ?_
      refine lv_iadd hx hb dX7_through_83 ?_
      refine lv_imul hx hb dX7_through_84 ?_
      refine lv_iload hx hb dX7_through_85 (lv_at hl 6 rfl) ?_
      refine lv_iadd hx hb dX7_through_87 ?_
      refine lv_iconst (v := (1 : Int32)) hx hb dX7_through_88 (by decide) ?_
      refine lv_isub hx hb dX7_through_89 ?_
      obtain ⟨hg15, hm⟩ := gd_inv hm
      refine t_iald hx hb hK hP (kr7_23 ho0) hg15 dX7_through_90 ?_
      refine lv_icmp_ne (tgt := 101) hx hb dX7_through_91 (by decide) (fun c16 => ?_) (fun c16 => ?_)
      · rw [if_neg c16] at hm
        refine lv_iload hx hb dX7_through_101 (lv_at hl 0 rfl) ?_
        refine lv_aload_n hx hb dX7_through_103 rfl (lv_at hl 1 rfl) ?_
        refine t_getr (C := RX7) (T := TX7) (N := 26) hx hb hts hin7 hown hK hP ho0 rfl rfl 25 (by decide) (fr7_25 ho0) (hts _ (List.mem_of_getElem? (i := 2) rfl)) dX7_through_104 ?_
        refine lv_iload hx hb dX7_through_107 (lv_at hl 6 rfl) ?_
        refine lv_iconst (v := (1 : Int32)) hx hb dX7_through_109 (by decide) ?_
        refine lv_isub hx hb dX7_through_110 ?_
        obtain ⟨hg17, hm⟩ := gd_inv hm
        refine t_iald hx hb hK hP (kr7_25 ho0) hg17 dX7_through_111 ?_
        refine va_mmax hx hb (hml.trans hl.1.symm) hown (hts _ (List.mem_of_getElem? (i := 4) rfl)) (hts _ (List.mem_of_getElem? (i := 5) rfl)) (hts _ (List.mem_of_getElem? (i := 6) rfl)) (hts _ (List.mem_of_getElem? (i := 7) rfl)) (Nat.le_of_ble_eq_true rfl) (Nat.le_of_ble_eq_true rfl) hcs.1 hcs.2 dX7_through_112 ?_
        obtain ⟨hg18, hm⟩ := gd_inv hm
        refine t_iast hx hb hK hP (tD _ _ _ _) hS (kr7_25 ho0) hg18 dX7_through_115 (fun H locs hP hS => ?_)
        obtain ⟨μ19, eμ19⟩ : ∃ z : MM, z = wI μ (RF o0 25) v5.toNatClampNeg (if x13 < (rI μ (RF o0 25) (v5 - (1 : Int32)).toNatClampNeg) then (rI μ (RF o0 25) (v5 - (1 : Int32)).toNatClampNeg) else x13) := ⟨_, rfl⟩
        rw [← eμ19] at hP
        replace hm := bV_of hm eμ19
        refine lv_iload hx hb dX7_through_116 (lv_at hl 0 rfl) ?_
        refine lv_istore (lv' := [(4, .int x13), (6, .int x13), (0, .ref (base + o0)), (1, .int b1), (2, .int b2), (3, .int b3), (5, .int v5)]) hx hb dX7_through_118 hl (by decide) rfl (fun ls hl => ?_)
        obtain ⟨x20, ex20⟩ : ∃ z : Int32, z = v5 + (1 : Int32) := ⟨_, rfl⟩
        replace hm := bV_of hm ex20
        refine lv_iinc (v := x20) (lv' := [(5, .int x20), (4, .int x13), (6, .int x13), (0, .ref (base + o0)), (1, .int b1), (2, .int b2), (3, .int b3)]) hx hb dX7_through_120 hl (k := 6) rfl (by rw [ex20]; rfl) (by decide) rfl (fun ls hl => ?_)
        refine lv_goto (tgt := 47) hx hb dX7_through_123 (by decide) ?_
        exact ih x13 x20 μ19 _ _ _ μ' hm hP hS (lv_sub hl [3, 4, 5, 6, 1, 0] rfl) K
      · rw [if_pos c16] at hm
        refine lv_iload hx hb dX7_through_94 (lv_at hl 5 rfl) ?_
        refine lv_iconst (v := (1 : Int32)) hx hb dX7_through_96 (by decide) ?_
        refine lv_iadd hx hb dX7_through_97 ?_
        refine lv_goto (tgt := 115) hx hb dX7_through_98 (by decide) ?_
        obtain ⟨hg21, hm⟩ := gd_inv hm
        refine t_iast hx hb hK hP (tD _ _ _ _) hS (kr7_25 ho0) hg21 dX7_through_115 (fun H locs hP hS => ?_)
        obtain ⟨μ22, eμ22⟩ : ∃ z : MM, z = wI μ (RF o0 25) v5.toNatClampNeg (v4 + (1 : Int32)) := ⟨_, rfl⟩
        rw [← eμ22] at hP
        replace hm := bV_of hm eμ22
        refine lv_iload hx hb dX7_through_116 (lv_at hl 0 rfl) ?_
        refine lv_istore (lv' := [(4, .int x13), (6, .int x13), (0, .ref (base + o0)), (1, .int b1), (2, .int b2), (3, .int b3), (5, .int v5)]) hx hb dX7_through_118 hl (by decide) rfl (fun ls hl => ?_)
        obtain ⟨x23, ex23⟩ : ∃ z : Int32, z = v5 + (1 : Int32) := ⟨_, rfl⟩
        replace hm := bV_of hm ex23
        refine lv_iinc (v := x23) (lv' := [(5, .int x23), (4, .int x13), (6, .int x13), (0, .ref (base + o0)), (1, .int b1), (2, .int b2), (3, .int b3)]) hx hb dX7_through_120 hl (k := 6) rfl (by rw [ex23]; rfl) (by decide) rfl (fun ls hl => ?_)
        refine lv_goto (tgt := 47) hx hb dX7_through_123 (by decide) ?_
        exact ih x13 x23 μ22 _ _ _ μ' hm hP hS (lv_sub hl [3, 4, 5, 6, 1, 0] rfl) K
set_option maxHeartbeats 4000000 in
set_option maxRecDepth 100000 in
theorem lX7_through_L31 {p : Program} {l : Launch} {e : Env} {s : State} {m : MethodId} {args : Array Value} {below : List Frame} {meth : Method} {c : Code} {Q : State → Prop} {D : va_G} {cA : Nat → ClassId} {base sz0 : Nat} {H0 : Heap} (FX : CallFix p m c cX7_through 7 s args wsX7_through RX7) (hK : va_K D vwCl (tys cA) s) (hN : tN s) (hz : sz0 ≤ H0.size) {o0 : Nat} (ho0 : kc o0 = 7) (b1 : Int32) (b2 : Int32) {cells slots : Nat} (hcs : cells ≤ 0 ∧ slots ≤ 0) :
    ∀ (n : Nat) (v3 : Int32) (μ : MM) (H : Heap) (locs : List Loc) (ls : Array Slot) (μ' : MM), X7_through_L31 o0 b1 b2 n v3 μ = some μ' → va_P D vwCl (tw base cA μ []) H → va_S (tA base sz0) H0 H locs → lv_has ls 7 [(0, .ref (base + o0)), (1, .int b1), (2, .int b2), (3, .int v3)] → (∀ (H : Heap) (locs : List Loc) (ls : Array Slot), va_P D vwCl (tw base cA μ' []) H → va_S (tA base sz0) H0 H locs → lv_has ls 7 [(0, .ref (base + o0)), (2, .int b2)] → W p l e rmX7_through s m args below meth c H locs cells slots Q (F0 m 132 ls [])) → W p l e rmX7_through s m args below meth c H locs cells slots Q (F0 m 31 ls []) := by
  obtain ⟨hx, hb, hml, hown, hts⟩ := FX
  have hin7 : ∀ w ∈ wsX70, w ∈ wsX7_through := by decide +kernel
  intro n
  induction n with
  | zero =>
    intro v3 μ H locs ls μ' hm
    cases hm
  | succ n ih =>
    intro v3 μ H locs ls μ' hm hP hS hl K
    rw [X7_through_L31_s] at hm
    refine lv_iload_n hx hb dX7_through_31 rfl (lv_at hl 3 rfl) ?_
    refine lv_aload_n hx hb dX7_through_32 rfl (lv_at hl 0 rfl) ?_
    refine t_getr (C := RX7) (T := TX7) (N := 26) hx hb hts hin7 hown hK hP ho0 rfl rfl 22 (by decide) (fr7_22 ho0) (hts _ (List.mem_of_getElem? (i := 1) rfl)) dX7_through_33 ?_
    refine lv_iconst (v := (0 : Int32)) hx hb dX7_through_36 (by decide) ?_
    obtain ⟨hg9, hm⟩ := gd_inv hm
    refine t_iald hx hb hK hP (kr7_22 ho0) hg9 dX7_through_37 ?_
    refine lv_icmp_ge (tgt := 132) hx hb dX7_through_38 (by decide) (fun c10 => ?_) (fun c10 => ?_)
    · rw [if_pos c10] at hm
      cases hm
      exact K _ _ _ hP hS (lv_sub hl [0, 2] rfl)
    · rw [if_neg c10] at hm
      refine lv_iconst (v := (0 : Int32)) hx hb dX7_through_41 (by decide) ?_
      refine lv_istore (lv' := [(4, .int (0 : Int32)), (0, .ref (base + o0)), (1, .int b1), (2, .int b2), (3, .int v3)]) hx hb dX7_through_42 hl (by decide) rfl (fun ls hl => ?_)
      refine lv_iconst (v := (1 : Int32)) hx hb dX7_through_44 (by decide) ?_
      refine lv_istore (lv' := [(5, .int (1 : Int32)), (4, .int (0 : Int32)), (0, .ref (base + o0)), (1, .int b1), (2, .int b2), (3, .int v3)]) hx hb dX7_through_45 hl (by decide) rfl (fun ls hl => ?_)
      obtain ⟨μ24, hc25, hm⟩ := bO1_inv hm
      refine lX7_through_L47 ⟨hx, hb, hml, hown, hts⟩ hK hN hz ho0 b1 b2 v3 hcs 1000 (0 : Int32) (1 : Int32) μ _ _ _ μ24 hc25 hP hS (lv_sub hl [2, 3, 4, 5, 1, 0] rfl) ?_
      intro H locs ls hP hS hl
      obtain ⟨x26, ex26⟩ : ∃ z : Int32, z = v3 + (1 : Int32) := ⟨_, rfl⟩
      replace hm := bV_of hm ex26
      refine lv_iinc (v := x26) (lv' := [(3, .int x26), (0, .ref (base + o0)), (1, .int b1), (2, .int b2)]) hx hb dX7_through_126 hl (k := 3) rfl (by rw [ex26]; rfl) (by decide) rfl (fun ls hl => ?_)
      refine lv_goto (tgt := 31) hx hb dX7_through_129 (by decide) ?_
      exact ih x26 μ24 _ _ _ μ' hm hP hS (lv_sub hl [1, 2, 3, 0] rfl) K
set_option maxHeartbeats 4000000 in
set_option maxRecDepth 100000 in
theorem mX7_through (l : Launch) (D : va_G) (cA : Nat → ClassId) (base sz : Nat) (μ : MM) {q : Nat} (hq : kc q = 7) (a1 : Int32) {r : Int32} {μ' : MM} (hm : X7_through q a1 μ = some (r, μ')) : Met l yX7_through wsX7_through rmX7_through (va_Pc [.ref (base + q), .int a1] (tPre D cA base sz μ)) (va_Qi (fun (x : Int32) (_ : Unit) => x = r) (fun _ => tPost D cA base μ') (tA base sz)) 0 0 (tA base sz) := by
  refine Met.ofW (cc := cX7_through) (maxL := 7) (ret := (some .int)) (by decide +kernel) rfl ?_
  intro p e s m args below meth c s₁ B hml hv
  obtain ⟨rfl, hsz, hP, hK, hN⟩ := hv
  have hx := B.exec
  have hb := B.bytes
  have hr := B.returns
  have hts := atoms_spec (ws := wsX7_through) B.pre
  have hown : s.vm.findClass RX7 = some m.cls := findClass_of_methodNamed B.named
  have hlocks := B.notSynchronized
  have hin7 : ∀ w ∈ wsX70, w ∈ wsX7_through := by decide +kernel
  subst hsz
  have hS : va_S (tA base s.heap.size) s.heap s.heap [] := va_S.rf
  have hz : s.heap.size ≤ s.heap.size := Nat.le_refl _
  have hl := lv_entry ([.ref (base + q), .int a1]) (n := 7) (Nat.le_of_ble_eq_true rfl)
  rw [lg_entry_eq]
  generalize (lg_sl ([.ref (base + q), .int a1]) ++ List.replicate (7 - (lg_sl ([.ref (base + q), .int a1])).length) Slot.unset).toArray = ls at hl ⊢
  have hl : lv_has ls 7 [(0, .ref (base + q)), (1, .int a1)] := hl
  unfold X7_through at hm
  refine lv_aload_n hx hb dX7_through_0 rfl (lv_at hl 0 rfl) ?_
  refine t_getr (C := RX7) (T := TX7) (N := 26) hx hb hts hin7 hown hK hP hq rfl rfl 22 (by decide) (fr7_22 hq) (hts _ (List.mem_of_getElem? (i := 1) rfl)) dX7_through_1 ?_
  refine lv_iload_n hx hb dX7_through_4 rfl (lv_at hl 1 rfl) ?_
  refine lv_iconst (v := (1 : Int32)) hx hb dX7_through_5 (by decide) ?_
  refine lv_iadd hx hb dX7_through_6 ?_
  obtain ⟨hg1, hm⟩ := gd_inv hm
  refine t_iald hx hb hK hP (kr7_22 hq) hg1 dX7_through_7 ?_
  refine lv_topi (fun x2 ex2 => ?_)
  replace hm := bV_of hm ex2
  refine lv_istore_n (lv' := [(2, .int x2), (0, .ref (base + q)), (1, .int a1)]) hx hb dX7_through_8 rfl hl (by decide) rfl (fun ls hl => ?_)
  refine lv_iconst (v := (0 : Int32)) hx hb dX7_through_9 (by decide) ?_
  refine lv_istore_n (lv' := [(3, .int (0 : Int32)), (2, .int x2), (0, .ref (base + q)), (1, .int a1)]) hx hb dX7_through_10 rfl hl (by decide) rfl (fun ls hl => ?_)
  obtain ⟨μ7, hc8, hm⟩ := bO1_inv hm
  refine lX7_through_L11 ⟨hx, hb, hml, hown, hts⟩ hK hN hz hq a1 x2 ⟨Nat.le_of_ble_eq_true rfl, Nat.le_of_ble_eq_true rfl⟩ 1000 (0 : Int32) μ _ _ _ μ7 hc8 hP hS (lv_sub hl [2, 3, 1, 0] rfl) ?_
  intro H locs ls hP hS hl
  refine lv_iconst (v := (0 : Int32)) hx hb dX7_through_29 (by decide) ?_
  refine lv_istore_n (lv' := [(3, .int (0 : Int32)), (0, .ref (base + q)), (1, .int a1), (2, .int x2)]) hx hb dX7_through_30 rfl hl (by decide) rfl (fun ls hl => ?_)
  obtain ⟨μ27, hc28, hm⟩ := bO1_inv hm
  refine lX7_through_L31 ⟨hx, hb, hml, hown, hts⟩ hK hN hz hq a1 x2 ⟨Nat.le_of_ble_eq_true rfl, Nat.le_of_ble_eq_true rfl⟩ 1000 (0 : Int32) μ7 _ _ _ μ27 hc28 hP hS (lv_sub hl [1, 2, 3, 0] rfl) ?_
  intro H locs ls hP hS hl
  refine lv_aload_n hx hb dX7_through_132 rfl (lv_at hl 0 rfl) ?_
  refine t_getr (C := RX7) (T := TX7) (N := 26) hx hb hts hin7 hown hK hP hq rfl rfl 25 (by decide) (fr7_25 hq) (hts _ (List.mem_of_getElem? (i := 2) rfl)) dX7_through_133 ?_
  refine lv_iload_n hx hb dX7_through_136 rfl (lv_at hl 1 rfl) ?_
  obtain ⟨hg29, hm⟩ := gd_inv hm
  refine t_iald hx hb hK hP (kr7_25 hq) hg29 dX7_through_137 ?_
  cases hm
  exact W.iret hx hb hr (fun t ht hW => ⟨⟨_, (), rfl, rfl, tPost_of hP ht⟩, hS.F ht⟩) hS.2.2 dX7_through_138
