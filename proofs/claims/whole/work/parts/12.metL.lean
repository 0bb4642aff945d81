abbrev rmL_setFloor : Room := { frames := 8, cells := 1, slots := 6, locals := 124 }
set_option maxHeartbeats 4000000 in
set_option maxRecDepth 100000 in
theorem mL_setFloor (l : Launch) (hlt : l.stackTraces = false) (D : va_G) (cA : Nat → ClassId) (base sz : Nat) (μ : MM) {a1 : Nat} (ha1 : kc a1 = 6) (a2 : Int32) {a3 : Nat} (ha3 : kc a3 = 101) {r : Int32} {μ' : MM} (hm : L_setFloor a1 a2 a3 μ = some (r, μ')) : vx_Met l yL_setFloor wsL_setFloor rmL_setFloor (va_Pc [.ref (base + a1), .int a2, .ref (base + a3)] (tPreX D cA base sz μ)) (va_Qi (fun (x : Int32) (_ : Unit) => x = r) (fun _ => tPost D cA base μ') (tA base sz)) (vx_X (fun _ : Unit => False) (fun _ _ _ => True) (tA base sz)) 1 6 (tA base sz) := by
  refine vx_ofWH (cc := cL_setFloor) (maxL := 4) (ret := (some .int)) (hh := [(0, 9, 12, 13)]) (by decide) rfl ?_
  intro p e s m args below meth c s₁ B hml hv
  obtain ⟨rfl, ⟨hsz, hP, hK, hN⟩, hX⟩ := hv
  have hx := B.exec
  have hb := B.bytes
  have hr := B.returns
  have hts := atoms_spec (ws := wsL_setFloor) B.pre
  have htab := vx_table (x := yL_setFloor) B (hts _ (List.mem_of_getElem? (i := 0) rfl))
  have hown : s.vm.findClass RL = some m.cls := findClass_of_methodNamed B.named
  have hlocks := B.notSynchronized
  subst hsz
  have hS : va_S (tA base s.heap.size) s.heap s.heap [] := va_S.rf
  have hl := lv_entry ([.ref (base + a1), .int a2, .ref (base + a3)]) (n := 4) (Nat.le_of_ble_eq_true rfl)
  rw [lg_entry_eq]
  generalize (lg_sl ([.ref (base + a1), .int a2, .ref (base + a3)]) ++ List.replicate (4 - (lg_sl ([.ref (base + a1), .int a2, .ref (base + a3)])).length) Slot.unset).toArray = ls at hl ⊢
  have hl : lv_has ls 4 [(0, .ref (base + a1)), (1, .int a2), (2, .ref (base + a3))] := hl
  unfold L_setFloor at hm
  refine lv_aload_n hx hb dL_setFloor_0 rfl (lv_at hl 2 rfl) ?_
  refine lv_iconst (v := (0 : Int32)) hx hb dL_setFloor_1 (by decide) ?_
  refine lv_aload_n hx hb dL_setFloor_2 rfl (lv_at hl 0 rfl) ?_
  refine lv_iload_n hx hb dL_setFloor_3 rfl (lv_at hl 1 rfl) ?_
  obtain ⟨kd, r1, μ1, hc, hm⟩ := bO3_inv hm
  refine t_cVx (As := [.int a2]) (rest := [.int (0 : Int32), .ref (base + a3)]) (μ' := μ1) (r := r1) ⟨hx, hb, hml, hown, hts⟩ (mX6_setFloor l hlt D cA base s.heap.size μ ha1 a2 hc) (cwV 1 hts gL_setFloor_X6_setFloor rfl rfl rfl (by decide +kernel) ⟨Nat.le_of_ble_eq_true rfl, Nat.le_of_ble_eq_true rfl⟩) (va_recv hK hP (q0 := a1) rfl (tw_obj ha1 (by decide))) hK hN hX hP hS rfl hl.1 (Nat.le_of_ble_eq_true rfl) dL_setFloor_4 ⟨Nat.le_of_ble_eq_true rfl, Nat.le_of_ble_eq_true rfl⟩ rfl (fun hkd H locs hP hS => ?_) (fun E H locs ce q9 hE hP hS hc1 hc2 hc3 => ?_)
  · rw [if_pos hkd] at hm
    refine lv_i2l (v := r1.toInt64) hx hb dL_setFloor_7 rfl ?_
    obtain ⟨hg1, hm⟩ := gd_inv hm
    refine t_last hx hb hK hP (tD _ _ _ _) hS ha3 hg1 dL_setFloor_8 (fun H locs hP hS => ?_)
    obtain ⟨μ2, eμ2⟩ : ∃ z : MM, z = wL μ1 a3 (0 : Int32).toNatClampNeg r1.toInt64 := ⟨_, rfl⟩
    rw [← eμ2] at hP
    replace hm := bV_of hm eμ2
    refine lv_goto (tgt := 15) hx hb dL_setFloor_9 (by decide) ?_
    refine lv_iconst (v := (0 : Int32)) hx hb dL_setFloor_15 (by decide) ?_
    cases hm
    refine vx_ret ?_
    exact W.iret hx hb hr (fun t ht hW => ⟨⟨_, (), rfl, rfl, tPost_of hP ht⟩, hS.F ht⟩) hS.2.2 dL_setFloor_16
  · obtain ⟨⟨-, -, -⟩, h4, ⟨h5, h6, h7⟩, -, -⟩ := hX
    rcases hE with ⟨hk, rfl⟩ | ⟨hk, rfl⟩ | ⟨hk, rfl⟩
    · rw [if_neg (by rw [hk]; decide)] at hm
      rw [if_pos hk] at hm
      refine vx_catch hown [] ⟨0, 9, 12, 13⟩ [] htab (fun z hz => absurd hz List.not_mem_nil) rfl (by decide) (hts _ (List.mem_of_getElem? (i := 1) rfl)) (va_Nw.use rfl (h4 _ (List.mem_append_right _ (List.mem_append_right _ (List.mem_append_right _ (List.mem_of_getElem? (i := 0) rfl)))))) hc1 hc2 hc3 ?_
      refine lv_astore_n (lv' := [(3, .ref q9), (0, .ref (base + a1)), (1, .int a2), (2, .ref (base + a3))]) hx hb dL_setFloor_12 rfl hl (by decide) rfl (fun ls hl => ?_)
      refine lv_iconst (v := (1 : Int32)) hx hb dL_setFloor_13 (by decide) ?_
      cases hm
      refine vx_ret ?_
      exact W.iret hx hb hr (fun t ht hW => ⟨⟨_, (), rfl, rfl, tPost_of hP ht⟩, hS.F ht⟩) hS.2.2 dL_setFloor_14
    · rw [if_neg (by rw [hk]; decide)] at hm
      rw [if_neg (by rw [hk]; decide)] at hm
      cases hm
    · rw [if_neg (by rw [hk]; decide)] at hm
      rw [if_neg (by rw [hk]; decide)] at hm
      cases hm
abbrev rmL_speak : Room := { frames := 8, cells := 3, slots := 18, locals := 126 }
set_option maxHeartbeats 4000000 in
set_option maxRecDepth 100000 in
theorem mL_speak (l : Launch) (hlt : l.stackTraces = false) (D : va_G) (cA : Nat → ClassId) (base sz : Nat) (μ : MM) {a1 : Nat} (ha1 : kc a1 = 6) (a2 : Int32) (a3 : Int32) (a4 : Int32) {a5 : Nat} (ha5 : kc a5 = 101) {r : Int32} {μ' : MM} (hm : L_speak a1 a2 a3 a4 a5 μ = some (r, μ')) : vx_Met l yL_speak wsL_speak rmL_speak (va_Pc [.ref (base + a1), .int a2, .int a3, .int a4, .ref (base + a5)] (tPreX D cA base sz μ)) (va_Qi (fun (x : Int32) (_ : Unit) => x = r) (fun _ => tPost D cA base μ') (tA base sz)) (vx_X (fun _ : Unit => False) (fun _ _ _ => True) (tA base sz)) 3 18 (tA base sz) := by
  refine vx_ofWH (cc := cL_speak) (maxL := 6) (ret := (some .int)) (hh := [(0, 12, 15, 13), (0, 12, 19, 19)]) (by decide) rfl ?_
  intro p e s m args below meth c s₁ B hml hv
  obtain ⟨rfl, ⟨hsz, hP, hK, hN⟩, hX⟩ := hv
  have hx := B.exec
  have hb := B.bytes
  have hr := B.returns
  have hts := atoms_spec (ws := wsL_speak) B.pre
  have htab := vx_table (x := yL_speak) B (hts _ (List.mem_of_getElem? (i := 0) rfl))
  have hown : s.vm.findClass RL = some m.cls := findClass_of_methodNamed B.named
  have hlocks := B.notSynchronized
  subst hsz
  have hS : va_S (tA base s.heap.size) s.heap s.heap [] := va_S.rf
  have hl := lv_entry ([.ref (base + a1), .int a2, .int a3, .int a4, .ref (base + a5)]) (n := 6) (Nat.le_of_ble_eq_true rfl)
  rw [lg_entry_eq]
  generalize (lg_sl ([.ref (base + a1), .int a2, .int a3, .int a4, .ref (base + a5)]) ++ List.replicate (6 - (lg_sl ([.ref (base + a1), .int a2, .int a3, .int a4, .ref (base + a5)])).length) Slot.unset).toArray = ls at hl ⊢
  have hl : lv_has ls 6 [(0, .ref (base + a1)), (1, .int a2), (2, .int a3), (3, .int a4), (4, .ref (base + a5))] := hl
  unfold L_speak at hm
  refine lv_aload hx hb dL_speak_0 (lv_at hl 4 rfl) ?_
  refine lv_iconst (v := (0 : Int32)) hx hb dL_speak_2 (by decide) ?_
  refine lv_aload_n hx hb dL_speak_3 rfl (lv_at hl 0 rfl) ?_
  refine lv_iload_n hx hb dL_speak_4 rfl (lv_at hl 1 rfl) ?_
  refine lv_iload_n hx hb dL_speak_5 rfl (lv_at hl 2 rfl) ?_
  refine lv_iload_n hx hb dL_speak_6 rfl (lv_at hl 3 rfl) ?_
  obtain ⟨kd, r1, μ1, hc, hm⟩ := bO3_inv hm
  refine t_cVx (As := [.int a2, .int a3, .int a4]) (rest := [.int (0 : Int32), .ref (base + a5)]) (μ' := μ1) (r := r1) ⟨hx, hb, hml, hown, hts⟩ (mX6_speak l hlt D cA base s.heap.size μ ha1 a2 a3 a4 hc) (cwV 3 hts gL_speak_X6_speak rfl rfl rfl (by decide +kernel) ⟨Nat.le_of_ble_eq_true rfl, Nat.le_of_ble_eq_true rfl⟩) (va_recv hK hP (q0 := a1) rfl (tw_obj ha1 (by decide))) hK hN hX hP hS rfl hl.1 (Nat.le_of_ble_eq_true rfl) dL_speak_7 ⟨Nat.le_of_ble_eq_true rfl, Nat.le_of_ble_eq_true rfl⟩ rfl (fun hkd H locs hP hS => ?_) (fun E H locs ce q9 hE hP hS hc1 hc2 hc3 => ?_)
  · rw [if_pos hkd] at hm
    refine lv_i2l (v := r1.toInt64) hx hb dL_speak_10 rfl ?_
    obtain ⟨hg1, hm⟩ := gd_inv hm
    refine t_last hx hb hK hP (tD _ _ _ _) hS ha5 hg1 dL_speak_11 (fun H locs hP hS => ?_)
    obtain ⟨μ2, eμ2⟩ : ∃ z : MM, z = wL μ1 a5 (0 : Int32).toNatClampNeg r1.toInt64 := ⟨_, rfl⟩
    rw [← eμ2] at hP
    replace hm := bV_of hm eμ2
    refine lv_goto (tgt := 23) hx hb dL_speak_12 (by decide) ?_
    refine lv_iconst (v := (0 : Int32)) hx hb dL_speak_23 (by decide) ?_
    cases hm
    refine vx_ret ?_
    exact W.iret hx hb hr (fun t ht hW => ⟨⟨_, (), rfl, rfl, tPost_of hP ht⟩, hS.F ht⟩) hS.2.2 dL_speak_24
  · obtain ⟨⟨-, -, -⟩, h4, ⟨h5, h6, h7⟩, -, -⟩ := hX
    rcases hE with ⟨hk, rfl⟩ | ⟨hk, rfl⟩ | ⟨hk, rfl⟩
    · rw [if_neg (by rw [hk]; decide)] at hm
      rw [if_pos hk] at hm
      refine vx_catch hown [] ⟨0, 12, 15, 13⟩ [⟨0, 12, 19, 19⟩] htab (fun z hz => absurd hz List.not_mem_nil) rfl (by decide) (hts _ (List.mem_of_getElem? (i := 1) rfl)) (va_Nw.use rfl (h4 _ (List.mem_append_right _ (List.mem_append_right _ (List.mem_append_right _ (List.mem_of_getElem? (i := 0) rfl)))))) hc1 hc2 hc3 ?_
      refine lv_astore (lv' := [(5, .ref q9), (0, .ref (base + a1)), (1, .int a2), (2, .int a3), (3, .int a4), (4, .ref (base + a5))]) hx hb dL_speak_15 hl (by decide) rfl (fun ls hl => ?_)
      refine lv_iconst (v := (1 : Int32)) hx hb dL_speak_17 (by decide) ?_
      cases hm
      refine vx_ret ?_
      exact W.iret hx hb hr (fun t ht hW => ⟨⟨_, (), rfl, rfl, tPost_of hP ht⟩, hS.F ht⟩) hS.2.2 dL_speak_18
    · rw [if_neg (by rw [hk]; decide)] at hm
      rw [if_neg (by rw [hk]; decide)] at hm
      rw [if_pos hk] at hm
      refine vx_catch hown [⟨0, 12, 15, 13⟩] ⟨0, 12, 19, 19⟩ [] htab (by intro z hz; simp only [List.mem_cons, List.not_mem_nil, or_false] at hz; subst hz; exact Or.inr ⟨by decide, _, (hts _ (List.mem_of_getElem? (i := 1) rfl)), h5⟩) rfl (by decide) (hts _ (List.mem_of_getElem? (i := 2) rfl)) (va_Nw.use rfl (h4 _ (List.mem_append_right _ (List.mem_append_right _ (List.mem_append_right _ (List.mem_of_getElem? (i := 1) rfl)))))) hc1 hc2 hc3 ?_
      refine lv_astore (lv' := [(5, .ref q9), (0, .ref (base + a1)), (1, .int a2), (2, .int a3), (3, .int a4), (4, .ref (base + a5))]) hx hb dL_speak_19 hl (by decide) rfl (fun ls hl => ?_)
      refine lv_iconst (v := (2 : Int32)) hx hb dL_speak_21 (by decide) ?_
      cases hm
      refine vx_ret ?_
      exact W.iret hx hb hr (fun t ht hW => ⟨⟨_, (), rfl, rfl, tPost_of hP ht⟩, hS.F ht⟩) hS.2.2 dL_speak_22
    · rw [if_neg (by rw [hk]; decide)] at hm
      rw [if_neg (by rw [hk]; decide)] at hm
      rw [if_neg (by rw [hk]; decide)] at hm
      cases hm
abbrev rmL_rest : Room := { frames := 8, cells := 2, slots := 12, locals := 124 }
set_option maxHeartbeats 4000000 in
set_option maxRecDepth 100000 in
theorem mL_rest (l : Launch) (hlt : l.stackTraces = false) (D : va_G) (cA : Nat → ClassId) (base sz : Nat) (μ : MM) {a1 : Nat} (ha1 : kc a1 = 6) (a2 : Int32) {a3 : Nat} (ha3 : kc a3 = 101) {r : Int32} {μ' : MM} (hm : L_rest a1 a2 a3 μ = some (r, μ')) : vx_Met l yL_rest wsL_rest rmL_rest (va_Pc [.ref (base + a1), .int a2, .ref (base + a3)] (tPreX D cA base sz μ)) (va_Qi (fun (x : Int32) (_ : Unit) => x = r) (fun _ => tPost D cA base μ') (tA base sz)) (vx_X (fun _ : Unit => False) (fun _ _ _ => True) (tA base sz)) 2 12 (tA base sz) := by
  refine vx_ofWH (cc := cL_rest) (maxL := 4) (ret := (some .int)) (hh := [(0, 9, 12, 13), (0, 9, 15, 19)]) (by decide) rfl ?_
  intro p e s m args below meth c s₁ B hml hv
  obtain ⟨rfl, ⟨hsz, hP, hK, hN⟩, hX⟩ := hv
  have hx := B.exec
  have hb := B.bytes
  have hr := B.returns
  have hts := atoms_spec (ws := wsL_rest) B.pre
  have htab := vx_table (x := yL_rest) B (hts _ (List.mem_of_getElem? (i := 0) rfl))
  have hown : s.vm.findClass RL = some m.cls := findClass_of_methodNamed B.named
  have hlocks := B.notSynchronized
  subst hsz
  have hS : va_S (tA base s.heap.size) s.heap s.heap [] := va_S.rf
  have hl := lv_entry ([.ref (base + a1), .int a2, .ref (base + a3)]) (n := 4) (Nat.le_of_ble_eq_true rfl)
  rw [lg_entry_eq]
  generalize (lg_sl ([.ref (base + a1), .int a2, .ref (base + a3)]) ++ List.replicate (4 - (lg_sl ([.ref (base + a1), .int a2, .ref (base + a3)])).length) Slot.unset).toArray = ls at hl ⊢
  have hl : lv_has ls 4 [(0, .ref (base + a1)), (1, .int a2), (2, .ref (base + a3))] := hl
  unfold L_rest at hm
  refine lv_aload_n hx hb dL_rest_0 rfl (lv_at hl 2 rfl) ?_
  refine lv_iconst (v := (0 : Int32)) hx hb dL_rest_1 (by decide) ?_
  refine lv_aload_n hx hb dL_rest_2 rfl (lv_at hl 0 rfl) ?_
  refine lv_iload_n hx hb dL_rest_3 rfl (lv_at hl 1 rfl) ?_
  obtain ⟨kd, r1, μ1, hc, hm⟩ := bO3_inv hm
  refine t_cVx (As := [.int a2]) (rest := [.int (0 : Int32), .ref (base + a3)]) (μ' := μ1) (r := r1) ⟨hx, hb, hml, hown, hts⟩ (mX6_rest l hlt D cA base s.heap.size μ ha1 a2 hc) (cwV 1 hts gL_rest_X6_rest rfl rfl rfl (by decide +kernel) ⟨Nat.le_of_ble_eq_true rfl, Nat.le_of_ble_eq_true rfl⟩) (va_recv hK hP (q0 := a1) rfl (tw_obj ha1 (by decide))) hK hN hX hP hS rfl hl.1 (Nat.le_of_ble_eq_true rfl) dL_rest_4 ⟨Nat.le_of_ble_eq_true rfl, Nat.le_of_ble_eq_true rfl⟩ rfl (fun hkd H locs hP hS => ?_) (fun E H locs ce q9 hE hP hS hc1 hc2 hc3 => ?_)
  · rw [if_pos hkd] at hm
    refine lv_i2l (v := r1.toInt64) hx hb dL_rest_7 rfl ?_
    obtain ⟨hg1, hm⟩ := gd_inv hm
    refine t_last hx hb hK hP (tD _ _ _ _) hS ha3 hg1 dL_rest_8 (fun H locs hP hS => ?_)
    obtain ⟨μ2, eμ2⟩ : ∃ z : MM, z = wL μ1 a3 (0 : Int32).toNatClampNeg r1.toInt64 := ⟨_, rfl⟩
    rw [← eμ2] at hP
    replace hm := bV_of hm eμ2
    refine lv_goto (tgt := 18) hx hb dL_rest_9 (by decide) ?_
    refine lv_iconst (v := (0 : Int32)) hx hb dL_rest_18 (by decide) ?_
    cases hm
    refine vx_ret ?_
    exact W.iret hx hb hr (fun t ht hW => ⟨⟨_, (), rfl, rfl, tPost_of hP ht⟩, hS.F ht⟩) hS.2.2 dL_rest_19
  · obtain ⟨⟨-, -, -⟩, h4, ⟨h5, h6, h7⟩, -, -⟩ := hX
    rcases hE with ⟨hk, rfl⟩ | ⟨hk, rfl⟩ | ⟨hk, rfl⟩
    · rw [if_neg (by rw [hk]; decide)] at hm
      rw [if_pos hk] at hm
      refine vx_catch hown [] ⟨0, 9, 12, 13⟩ [⟨0, 9, 15, 19⟩] htab (fun z hz => absurd hz List.not_mem_nil) rfl (by decide) (hts _ (List.mem_of_getElem? (i := 1) rfl)) (va_Nw.use rfl (h4 _ (List.mem_append_right _ (List.mem_append_right _ (List.mem_append_right _ (List.mem_of_getElem? (i := 0) rfl)))))) hc1 hc2 hc3 ?_
      refine lv_astore_n (lv' := [(3, .ref q9), (0, .ref (base + a1)), (1, .int a2), (2, .ref (base + a3))]) hx hb dL_rest_12 rfl hl (by decide) rfl (fun ls hl => ?_)
      refine lv_iconst (v := (1 : Int32)) hx hb dL_rest_13 (by decide) ?_
      cases hm
      refine vx_ret ?_
      exact W.iret hx hb hr (fun t ht hW => ⟨⟨_, (), rfl, rfl, tPost_of hP ht⟩, hS.F ht⟩) hS.2.2 dL_rest_14
    · rw [if_neg (by rw [hk]; decide)] at hm
      rw [if_neg (by rw [hk]; decide)] at hm
      rw [if_pos hk] at hm
      refine vx_catch hown [⟨0, 9, 12, 13⟩] ⟨0, 9, 15, 19⟩ [] htab (by intro z hz; simp only [List.mem_cons, List.not_mem_nil, or_false] at hz; subst hz; exact Or.inr ⟨by decide, _, (hts _ (List.mem_of_getElem? (i := 1) rfl)), h5⟩) rfl (by decide) (hts _ (List.mem_of_getElem? (i := 2) rfl)) (va_Nw.use rfl (h4 _ (List.mem_append_right _ (List.mem_append_right _ (List.mem_append_right _ (List.mem_of_getElem? (i := 1) rfl)))))) hc1 hc2 hc3 ?_
      refine lv_astore_n (lv' := [(3, .ref q9), (0, .ref (base + a1)), (1, .int a2), (2, .ref (base + a3))]) hx hb dL_rest_15 rfl hl (by decide) rfl (fun ls hl => ?_)
      refine lv_iconst (v := (2 : Int32)) hx hb dL_rest_16 (by decide) ?_
      cases hm
      refine vx_ret ?_
      exact W.iret hx hb hr (fun t ht hW => ⟨⟨_, (), rfl, rfl, tPost_of hP ht⟩, hS.F ht⟩) hS.2.2 dL_rest_17
    · rw [if_neg (by rw [hk]; decide)] at hm
      rw [if_neg (by rw [hk]; decide)] at hm
      rw [if_neg (by rw [hk]; decide)] at hm
      cases hm
abbrev rmL_addInterpreter : Room := { frames := 8, cells := 3, slots := 18, locals := 124 }
set_option maxHeartbeats 4000000 in
set_option maxRecDepth 100000 in
theorem mL_addInterpreter (l : Launch) (hlt : l.stackTraces = false) (D : va_G) (cA : Nat → ClassId) (base sz : Nat) (μ : MM) {a1 : Nat} (ha1 : kc a1 = 6) (a2 : Int32) (a3 : Int32) {a4 : Nat} (ha4 : kc a4 = 101) {r : Int32} {μ' : MM} (hm : L_addInterpreter a1 a2 a3 a4 μ = some (r, μ')) : vx_Met l yL_addInterpreter wsL_addInterpreter rmL_addInterpreter (va_Pc [.ref (base + a1), .int a2, .int a3, .ref (base + a4)] (tPreX D cA base sz μ)) (va_Qi (fun (x : Int32) (_ : Unit) => x = r) (fun _ => tPost D cA base μ') (tA base sz)) (vx_X (fun _ : Unit => False) (fun _ _ _ => True) (tA base sz)) 3 18 (tA base sz) := by
  refine vx_ofWH (cc := cL_addInterpreter) (maxL := 5) (ret := (some .int)) (hh := [(0, 10, 13, 13), (0, 10, 17, 19)]) (by decide) rfl ?_
  intro p e s m args below meth c s₁ B hml hv
  obtain ⟨rfl, ⟨hsz, hP, hK, hN⟩, hX⟩ := hv
  have hx := B.exec
  have hb := B.bytes
  have hr := B.returns
  have hts := atoms_spec (ws := wsL_addInterpreter) B.pre
  have htab := vx_table (x := yL_addInterpreter) B (hts _ (List.mem_of_getElem? (i := 0) rfl))
  have hown : s.vm.findClass RL = some m.cls := findClass_of_methodNamed B.named
  have hlocks := B.notSynchronized
  subst hsz
  have hS : va_S (tA base s.heap.size) s.heap s.heap [] := va_S.rf
  have hl := lv_entry ([.ref (base + a1), .int a2, .int a3, .ref (base + a4)]) (n := 5) (Nat.le_of_ble_eq_true rfl)
  rw [lg_entry_eq]
  generalize (lg_sl ([.ref (base + a1), .int a2, .int a3, .ref (base + a4)]) ++ List.replicate (5 - (lg_sl ([.ref (base + a1), .int a2, .int a3, .ref (base + a4)])).length) Slot.unset).toArray = ls at hl ⊢
  have hl : lv_has ls 5 [(0, .ref (base + a1)), (1, .int a2), (2, .int a3), (3, .ref (base + a4))] := hl
  unfold L_addInterpreter at hm
  refine lv_aload_n hx hb dL_addInterpreter_0 rfl (lv_at hl 3 rfl) ?_
  refine lv_iconst (v := (0 : Int32)) hx hb dL_addInterpreter_1 (by decide) ?_
  refine lv_aload_n hx hb dL_addInterpreter_2 rfl (lv_at hl 0 rfl) ?_
  refine lv_iload_n hx hb dL_addInterpreter_3 rfl (lv_at hl 1 rfl) ?_
  refine lv_iload_n hx hb dL_addInterpreter_4 rfl (lv_at hl 2 rfl) ?_
  obtain ⟨kd, r1, μ1, hc, hm⟩ := bO3_inv hm
  refine t_cVx (As := [.int a2, .int a3]) (rest := [.int (0 : Int32), .ref (base + a4)]) (μ' := μ1) (r := r1) ⟨hx, hb, hml, hown, hts⟩ (mX6_addInterpreter l hlt D cA base s.heap.size μ ha1 a2 a3 hc) (cwV 2 hts gL_addInterpreter_X6_addInterpreter rfl rfl rfl (by decide +kernel) ⟨Nat.le_of_ble_eq_true rfl, Nat.le_of_ble_eq_true rfl⟩) (va_recv hK hP (q0 := a1) rfl (tw_obj ha1 (by decide))) hK hN hX hP hS rfl hl.1 (Nat.le_of_ble_eq_true rfl) dL_addInterpreter_5 ⟨Nat.le_of_ble_eq_true rfl, Nat.le_of_ble_eq_true rfl⟩ rfl (fun hkd H locs hP hS => ?_) (fun E H locs ce q9 hE hP hS hc1 hc2 hc3 => ?_)
  · rw [if_pos hkd] at hm
    refine lv_i2l (v := r1.toInt64) hx hb dL_addInterpreter_8 rfl ?_
    obtain ⟨hg1, hm⟩ := gd_inv hm
    refine t_last hx hb hK hP (tD _ _ _ _) hS ha4 hg1 dL_addInterpreter_9 (fun H locs hP hS => ?_)
    obtain ⟨μ2, eμ2⟩ : ∃ z : MM, z = wL μ1 a4 (0 : Int32).toNatClampNeg r1.toInt64 := ⟨_, rfl⟩
    rw [← eμ2] at hP
    replace hm := bV_of hm eμ2
    refine lv_goto (tgt := 21) hx hb dL_addInterpreter_10 (by decide) ?_
    refine lv_iconst (v := (0 : Int32)) hx hb dL_addInterpreter_21 (by decide) ?_
    cases hm
    refine vx_ret ?_
    exact W.iret hx hb hr (fun t ht hW => ⟨⟨_, (), rfl, rfl, tPost_of hP ht⟩, hS.F ht⟩) hS.2.2 dL_addInterpreter_22
  · obtain ⟨⟨-, -, -⟩, h4, ⟨h5, h6, h7⟩, -, -⟩ := hX
    rcases hE with ⟨hk, rfl⟩ | ⟨hk, rfl⟩ | ⟨hk, rfl⟩
    · rw [if_neg (by rw [hk]; decide)] at hm
      rw [if_pos hk] at hm
      refine vx_catch hown [] ⟨0, 10, 13, 13⟩ [⟨0, 10, 17, 19⟩] htab (fun z hz => absurd hz List.not_mem_nil) rfl (by decide) (hts _ (List.mem_of_getElem? (i := 1) rfl)) (va_Nw.use rfl (h4 _ (List.mem_append_right _ (List.mem_append_right _ (List.mem_append_right _ (List.mem_of_getElem? (i := 0) rfl)))))) hc1 hc2 hc3 ?_
      refine lv_astore (lv' := [(4, .ref q9), (0, .ref (base + a1)), (1, .int a2), (2, .int a3), (3, .ref (base + a4))]) hx hb dL_addInterpreter_13 hl (by decide) rfl (fun ls hl => ?_)
      refine lv_iconst (v := (1 : Int32)) hx hb dL_addInterpreter_15 (by decide) ?_
      cases hm
      refine vx_ret ?_
      exact W.iret hx hb hr (fun t ht hW => ⟨⟨_, (), rfl, rfl, tPost_of hP ht⟩, hS.F ht⟩) hS.2.2 dL_addInterpreter_16
    · rw [if_neg (by rw [hk]; decide)] at hm
      rw [if_neg (by rw [hk]; decide)] at hm
      rw [if_pos hk] at hm
      refine vx_catch hown [⟨0, 10, 13, 13⟩] ⟨0, 10, 17, 19⟩ [] htab (by intro z hz; simp only [List.mem_cons, List.not_mem_nil, or_false] at hz; subst hz; exact Or.inr ⟨by decide, _, (hts _ (List.mem_of_getElem? (i := 1) rfl)), h5⟩) rfl (by decide) (hts _ (List.mem_of_getElem? (i := 2) rfl)) (va_Nw.use rfl (h4 _ (List.mem_append_right _ (List.mem_append_right _ (List.mem_append_right _ (List.mem_of_getElem? (i := 1) rfl)))))) hc1 hc2 hc3 ?_
      refine lv_astore (lv' := [(4, .ref q9), (0, .ref (base + a1)), (1, .int a2), (2, .int a3), (3, .ref (base + a4))]) hx hb dL_addInterpreter_17 hl (by decide) rfl (fun ls hl => ?_)
      refine lv_iconst (v := (2 : Int32)) hx hb dL_addInterpreter_19 (by decide) ?_
      cases hm
      refine vx_ret ?_
      exact W.iret hx hb hr (fun t ht hW => ⟨⟨_, (), rfl, rfl, tPost_of hP ht⟩, hS.F ht⟩) hS.2.2 dL_addInterpreter_20
    · rw [if_neg (by rw [hk]; decide)] at hm
      rw [if_neg (by rw [hk]; decide)] at hm
      rw [if_neg (by rw [hk]; decide)] at hm
      cases hm
abbrev rmL_addBooth : Room := { frames := 8, cells := 3, slots := 18, locals := 125 }
set_option maxHeartbeats 4000000 in
set_option maxRecDepth 100000 in
theorem mL_addBooth (l : Launch) (hlt : l.stackTraces = false) (D : va_G) (cA : Nat → ClassId) (base sz : Nat) (μ : MM) {a1 : Nat} (ha1 : kc a1 = 6) (a2 : Int32) (a3 : Int32) (a4 : Int32) {a5 : Nat} (ha5 : kc a5 = 101) {r : Int32} {μ' : MM} (hm : L_addBooth a1 a2 a3 a4 a5 μ = some (r, μ')) : vx_Met l yL_addBooth wsL_addBooth rmL_addBooth (va_Pc [.ref (base + a1), .int a2, .int a3, .int a4, .ref (base + a5)] (tPreX D cA base sz μ)) (va_Qi (fun (x : Int32) (_ : Unit) => x = r) (fun _ => tPost D cA base μ') (tA base sz)) (vx_X (fun _ : Unit => False) (fun _ _ _ => True) (tA base sz)) 3 18 (tA base sz) := by
  refine vx_ofWH (cc := cL_addBooth) (maxL := 6) (ret := (some .int)) (hh := [(0, 12, 15, 13), (0, 12, 19, 19)]) (by decide) rfl ?_
  intro p e s m args below meth c s₁ B hml hv
  obtain ⟨rfl, ⟨hsz, hP, hK, hN⟩, hX⟩ := hv
  have hx := B.exec
  have hb := B.bytes
  have hr := B.returns
  have hts := atoms_spec (ws := wsL_addBooth) B.pre
  have htab := vx_table (x := yL_addBooth) B (hts _ (List.mem_of_getElem? (i := 0) rfl))
  have hown : s.vm.findClass RL = some m.cls := findClass_of_methodNamed B.named
  have hlocks := B.notSynchronized
  subst hsz
  have hS : va_S (tA base s.heap.size) s.heap s.heap [] := va_S.rf
  have hl := lv_entry ([.ref (base + a1), .int a2, .int a3, .int a4, .ref (base + a5)]) (n := 6) (Nat.le_of_ble_eq_true rfl)
  rw [lg_entry_eq]
  generalize (lg_sl ([.ref (base + a1), .int a2, .int a3, .int a4, .ref (base + a5)]) ++ List.replicate (6 - (lg_sl ([.ref (base + a1), .int a2, .int a3, .int a4, .ref (base + a5)])).length) Slot.unset).toArray = ls at hl ⊢
  have hl : lv_has ls 6 [(0, .ref (base + a1)), (1, .int a2), (2, .int a3), (3, .int a4), (4, .ref (base + a5))] := hl
  unfold L_addBooth at hm
  refine lv_aload hx hb dL_addBooth_0 (lv_at hl 4 rfl) ?_
  refine lv_iconst (v := (0 : Int32)) hx hb dL_addBooth_2 (by decide) ?_
  refine lv_aload_n hx hb dL_addBooth_3 rfl (lv_at hl 0 rfl) ?_
  refine lv_iload_n hx hb dL_addBooth_4 rfl (lv_at hl 1 rfl) ?_
  refine lv_iload_n hx hb dL_addBooth_5 rfl (lv_at hl 2 rfl) ?_
  refine lv_iload_n hx hb dL_addBooth_6 rfl (lv_at hl 3 rfl) ?_
  obtain ⟨kd, r1, μ1, hc, hm⟩ := bO3_inv hm
  refine t_cVx (As := [.int a2, .int a3, .int a4]) (rest := [.int (0 : Int32), .ref (base + a5)]) (μ' := μ1) (r := r1) ⟨hx, hb, hml, hown, hts⟩ (mX6_addBooth l hlt D cA base s.heap.size μ ha1 a2 a3 a4 hc) (cwV 3 hts gL_addBooth_X6_addBooth rfl rfl rfl (by decide +kernel) ⟨Nat.le_of_ble_eq_true rfl, Nat.le_of_ble_eq_true rfl⟩) (va_recv hK hP (q0 := a1) rfl (tw_obj ha1 (by decide))) hK hN hX hP hS rfl hl.1 (Nat.le_of_ble_eq_true rfl) dL_addBooth_7 ⟨Nat.le_of_ble_eq_true rfl, Nat.le_of_ble_eq_true rfl⟩ rfl (fun hkd H locs hP hS => ?_) (fun E H locs ce q9 hE hP hS hc1 hc2 hc3 => ?_)
  · rw [if_pos hkd] at hm
    refine lv_i2l (v := r1.toInt64) hx hb dL_addBooth_10 rfl ?_
    obtain ⟨hg1, hm⟩ := gd_inv hm
    refine t_last hx hb hK hP (tD _ _ _ _) hS ha5 hg1 dL_addBooth_11 (fun H locs hP hS => ?_)
    obtain ⟨μ2, eμ2⟩ : ∃ z : MM, z = wL μ1 a5 (0 : Int32).toNatClampNeg r1.toInt64 := ⟨_, rfl⟩
    rw [← eμ2] at hP
    replace hm := bV_of hm eμ2
    refine lv_goto (tgt := 23) hx hb dL_addBooth_12 (by decide) ?_
    refine lv_iconst (v := (0 : Int32)) hx hb dL_addBooth_23 (by decide) ?_
    cases hm
    refine vx_ret ?_
    exact W.iret hx hb hr (fun t ht hW => ⟨⟨_, (), rfl, rfl, tPost_of hP ht⟩, hS.F ht⟩) hS.2.2 dL_addBooth_24
  · obtain ⟨⟨-, -, -⟩, h4, ⟨h5, h6, h7⟩, -, -⟩ := hX
    rcases hE with ⟨hk, rfl⟩ | ⟨hk, rfl⟩ | ⟨hk, rfl⟩
    · rw [if_neg (by rw [hk]; decide)] at hm
      rw [if_pos hk] at hm
      refine vx_catch hown [] ⟨0, 12, 15, 13⟩ [⟨0, 12, 19, 19⟩] htab (fun z hz => absurd hz List.not_mem_nil) rfl (by decide) (hts _ (List.mem_of_getElem? (i := 1) rfl)) (va_Nw.use rfl (h4 _ (List.mem_append_right _ (List.mem_append_right _ (List.mem_append_right _ (List.mem_of_getElem? (i := 0) rfl)))))) hc1 hc2 hc3 ?_
      refine lv_astore (lv' := [(5, .ref q9), (0, .ref (base + a1)), (1, .int a2), (2, .int a3), (3, .int a4), (4, .ref (base + a5))]) hx hb dL_addBooth_15 hl (by decide) rfl (fun ls hl => ?_)
      refine lv_iconst (v := (1 : Int32)) hx hb dL_addBooth_17 (by decide) ?_
      cases hm
      refine vx_ret ?_
      exact W.iret hx hb hr (fun t ht hW => ⟨⟨_, (), rfl, rfl, tPost_of hP ht⟩, hS.F ht⟩) hS.2.2 dL_addBooth_18
    · rw [if_neg (by rw [hk]; decide)] at hm
      rw [if_neg (by rw [hk]; decide)] at hm
      rw [if_pos hk] at hm
      refine vx_catch hown [⟨0, 12, 15, 13⟩] ⟨0, 12, 19, 19⟩ [] htab (by intro z hz; simp only [List.mem_cons, List.not_mem_nil, or_false] at hz; subst hz; exact Or.inr ⟨by decide, _, (hts _ (List.mem_of_getElem? (i := 1) rfl)), h5⟩) rfl (by decide) (hts _ (List.mem_of_getElem? (i := 2) rfl)) (va_Nw.use rfl (h4 _ (List.mem_append_right _ (List.mem_append_right _ (List.mem_append_right _ (List.mem_of_getElem? (i := 1) rfl)))))) hc1 hc2 hc3 ?_
      refine lv_astore (lv' := [(5, .ref q9), (0, .ref (base + a1)), (1, .int a2), (2, .int a3), (3, .int a4), (4, .ref (base + a5))]) hx hb dL_addBooth_19 hl (by decide) rfl (fun ls hl => ?_)
      refine lv_iconst (v := (2 : Int32)) hx hb dL_addBooth_21 (by decide) ?_
      cases hm
      refine vx_ret ?_
      exact W.iret hx hb hr (fun t ht hW => ⟨⟨_, (), rfl, rfl, tPost_of hP ht⟩, hS.F ht⟩) hS.2.2 dL_addBooth_22
    · rw [if_neg (by rw [hk]; decide)] at hm
      rw [if_neg (by rw [hk]; decide)] at hm
      rw [if_neg (by rw [hk]; decide)] at hm
      cases hm
abbrev rmL_tune : Room := { frames := 8, cells := 2, slots := 12, locals := 125 }
set_option maxHeartbeats 4000000 in
set_option maxRecDepth 100000 in
theorem mL_tune (l : Launch) (hlt : l.stackTraces = false) (D : va_G) (cA : Nat → ClassId) (base sz : Nat) (μ : MM) {a1 : Nat} (ha1 : kc a1 = 6) (a2 : Int32) (a3 : Int32) {a4 : Nat} (ha4 : kc a4 = 101) {r : Int32} {μ' : MM} (hm : L_tune a1 a2 a3 a4 μ = some (r, μ')) : vx_Met l yL_tune wsL_tune rmL_tune (va_Pc [.ref (base + a1), .int a2, .int a3, .ref (base + a4)] (tPreX D cA base sz μ)) (va_Qi (fun (x : Int32) (_ : Unit) => x = r) (fun _ => tPost D cA base μ') (tA base sz)) (vx_X (fun _ : Unit => False) (fun _ _ _ => True) (tA base sz)) 2 12 (tA base sz) := by
  refine vx_ofWH (cc := cL_tune) (maxL := 5) (ret := (some .int)) (hh := [(0, 10, 13, 34), (0, 10, 17, 13)]) (by decide) rfl ?_
  intro p e s m args below meth c s₁ B hml hv
  obtain ⟨rfl, ⟨hsz, hP, hK, hN⟩, hX⟩ := hv
  have hx := B.exec
  have hb := B.bytes
  have hr := B.returns
  have hts := atoms_spec (ws := wsL_tune) B.pre
  have htab := vx_table (x := yL_tune) B (hts _ (List.mem_of_getElem? (i := 0) rfl))
  have hown : s.vm.findClass RL = some m.cls := findClass_of_methodNamed B.named
  have hlocks := B.notSynchronized
  subst hsz
  have hS : va_S (tA base s.heap.size) s.heap s.heap [] := va_S.rf
  have hl := lv_entry ([.ref (base + a1), .int a2, .int a3, .ref (base + a4)]) (n := 5) (Nat.le_of_ble_eq_true rfl)
  rw [lg_entry_eq]
  generalize (lg_sl ([.ref (base + a1), .int a2, .int a3, .ref (base + a4)]) ++ List.replicate (5 - (lg_sl ([.ref (base + a1), .int a2, .int a3, .ref (base + a4)])).length) Slot.unset).toArray = ls at hl ⊢
  have hl : lv_has ls 5 [(0, .ref (base + a1)), (1, .int a2), (2, .int a3), (3, .ref (base + a4))] := hl
  unfold L_tune at hm
  refine lv_aload_n hx hb dL_tune_0 rfl (lv_at hl 3 rfl) ?_
  refine lv_iconst (v := (0 : Int32)) hx hb dL_tune_1 (by decide) ?_
  refine lv_aload_n hx hb dL_tune_2 rfl (lv_at hl 0 rfl) ?_
  refine lv_iload_n hx hb dL_tune_3 rfl (lv_at hl 1 rfl) ?_
  refine lv_iload_n hx hb dL_tune_4 rfl (lv_at hl 2 rfl) ?_
  obtain ⟨kd, r1, μ1, hc, hm⟩ := bO3_inv hm
  refine t_cVx (As := [.int a2, .int a3]) (rest := [.int (0 : Int32), .ref (base + a4)]) (μ' := μ1) (r := r1) ⟨hx, hb, hml, hown, hts⟩ (mX6_tune l hlt D cA base s.heap.size μ ha1 a2 a3 hc) (cwV 2 hts gL_tune_X6_tune rfl rfl rfl (by decide +kernel) ⟨Nat.le_of_ble_eq_true rfl, Nat.le_of_ble_eq_true rfl⟩) (va_recv hK hP (q0 := a1) rfl (tw_obj ha1 (by decide))) hK hN hX hP hS rfl hl.1 (Nat.le_of_ble_eq_true rfl) dL_tune_5 ⟨Nat.le_of_ble_eq_true rfl, Nat.le_of_ble_eq_true rfl⟩ rfl (fun hkd H locs hP hS => ?_) (fun E H locs ce q9 hE hP hS hc1 hc2 hc3 => ?_)
  · rw [if_pos hkd] at hm
    refine lv_i2l (v := r1.toInt64) hx hb dL_tune_8 rfl ?_
    obtain ⟨hg1, hm⟩ := gd_inv hm
    refine t_last hx hb hK hP (tD _ _ _ _) hS ha4 hg1 dL_tune_9 (fun H locs hP hS => ?_)
    obtain ⟨μ2, eμ2⟩ : ∃ z : MM, z = wL μ1 a4 (0 : Int32).toNatClampNeg r1.toInt64 := ⟨_, rfl⟩
    rw [← eμ2] at hP
    replace hm := bV_of hm eμ2
    refine lv_goto (tgt := 21) hx hb dL_tune_10 (by decide) ?_
    refine lv_iconst (v := (0 : Int32)) hx hb dL_tune_21 (by decide) ?_
    cases hm
    refine vx_ret ?_
    exact W.iret hx hb hr (fun t ht hW => ⟨⟨_, (), rfl, rfl, tPost_of hP ht⟩, hS.F ht⟩) hS.2.2 dL_tune_22
  · obtain ⟨⟨-, -, -⟩, h4, ⟨h5, h6, h7⟩, -, -⟩ := hX
    rcases hE with ⟨hk, rfl⟩ | ⟨hk, rfl⟩ | ⟨hk, rfl⟩
    · rw [if_neg (by rw [hk]; decide)] at hm
      rw [if_neg (by rw [hk]; decide)] at hm
      rw [if_pos hk] at hm
      refine vx_catch hown [⟨0, 10, 13, 34⟩] ⟨0, 10, 17, 13⟩ [] htab (by intro z hz; simp only [List.mem_cons, List.not_mem_nil, or_false] at hz; subst hz; exact Or.inr ⟨by decide, _, (hts _ (List.mem_of_getElem? (i := 1) rfl)), h6⟩) rfl (by decide) (hts _ (List.mem_of_getElem? (i := 2) rfl)) (va_Nw.use rfl (h4 _ (List.mem_append_right _ (List.mem_append_right _ (List.mem_append_right _ (List.mem_of_getElem? (i := 0) rfl)))))) hc1 hc2 hc3 ?_
      refine lv_astore (lv' := [(4, .ref q9), (0, .ref (base + a1)), (1, .int a2), (2, .int a3), (3, .ref (base + a4))]) hx hb dL_tune_17 hl (by decide) rfl (fun ls hl => ?_)
      refine lv_iconst (v := (2 : Int32)) hx hb dL_tune_19 (by decide) ?_
      cases hm
      refine vx_ret ?_
      exact W.iret hx hb hr (fun t ht hW => ⟨⟨_, (), rfl, rfl, tPost_of hP ht⟩, hS.F ht⟩) hS.2.2 dL_tune_20
    · rw [if_neg (by rw [hk]; decide)] at hm
      rw [if_neg (by rw [hk]; decide)] at hm
      rw [if_neg (by rw [hk]; decide)] at hm
      cases hm
    · rw [if_neg (by rw [hk]; decide)] at hm
      rw [if_pos hk] at hm
      refine vx_catch hown [] ⟨0, 10, 13, 34⟩ [⟨0, 10, 17, 13⟩] htab (fun z hz => absurd hz List.not_mem_nil) rfl (by decide) (hts _ (List.mem_of_getElem? (i := 1) rfl)) (va_Nw.use rfl (h4 _ (List.mem_append_right _ (List.mem_append_right _ (List.mem_append_right _ (List.mem_of_getElem? (i := 2) rfl)))))) hc1 hc2 hc3 ?_
      refine lv_astore (lv' := [(4, .ref q9), (0, .ref (base + a1)), (1, .int a2), (2, .int a3), (3, .ref (base + a4))]) hx hb dL_tune_13 hl (by decide) rfl (fun ls hl => ?_)
      refine lv_iconst (v := (1 : Int32)) hx hb dL_tune_15 (by decide) ?_
      cases hm
      refine vx_ret ?_
      exact W.iret hx hb hr (fun t ht hW => ⟨⟨_, (), rfl, rfl, tPost_of hP ht⟩, hS.F ht⟩) hS.2.2 dL_tune_16
abbrev rmL_sit : Room := { frames := 8, cells := 1, slots := 6, locals := 124 }
set_option maxHeartbeats 4000000 in
set_option maxRecDepth 100000 in
theorem mL_sit (l : Launch) (hlt : l.stackTraces = false) (D : va_G) (cA : Nat → ClassId) (base sz : Nat) (μ : MM) {a1 : Nat} (ha1 : kc a1 = 6) (a2 : Int32) (a3 : Int32) {a4 : Nat} (ha4 : kc a4 = 101) {r : Int32} {μ' : MM} (hm : L_sit a1 a2 a3 a4 μ = some (r, μ')) : vx_Met l yL_sit wsL_sit rmL_sit (va_Pc [.ref (base + a1), .int a2, .int a3, .ref (base + a4)] (tPreX D cA base sz μ)) (va_Qi (fun (x : Int32) (_ : Unit) => x = r) (fun _ => tPost D cA base μ') (tA base sz)) (vx_X (fun _ : Unit => False) (fun _ _ _ => True) (tA base sz)) 1 6 (tA base sz) := by
  refine vx_ofWH (cc := cL_sit) (maxL := 5) (ret := (some .int)) (hh := [(0, 10, 13, 34)]) (by decide) rfl ?_
  intro p e s m args below meth c s₁ B hml hv
  obtain ⟨rfl, ⟨hsz, hP, hK, hN⟩, hX⟩ := hv
  have hx := B.exec
  have hb := B.bytes
  have hr := B.returns
  have hts := atoms_spec (ws := wsL_sit) B.pre
  have htab := vx_table (x := yL_sit) B (hts _ (List.mem_of_getElem? (i := 0) rfl))
  have hown : s.vm.findClass RL = some m.cls := findClass_of_methodNamed B.named
  have hlocks := B.notSynchronized
  subst hsz
  have hS : va_S (tA base s.heap.size) s.heap s.heap [] := va_S.rf
  have hl := lv_entry ([.ref (base + a1), .int a2, .int a3, .ref (base + a4)]) (n := 5) (Nat.le_of_ble_eq_true rfl)
  rw [lg_entry_eq]
  generalize (lg_sl ([.ref (base + a1), .int a2, .int a3, .ref (base + a4)]) ++ List.replicate (5 - (lg_sl ([.ref (base + a1), .int a2, .int a3, .ref (base + a4)])).length) Slot.unset).toArray = ls at hl ⊢
  have hl : lv_has ls 5 [(0, .ref (base + a1)), (1, .int a2), (2, .int a3), (3, .ref (base + a4))] := hl
  unfold L_sit at hm
  refine lv_aload_n hx hb dL_sit_0 rfl (lv_at hl 3 rfl) ?_
  refine lv_iconst (v := (0 : Int32)) hx hb dL_sit_1 (by decide) ?_
  refine lv_aload_n hx hb dL_sit_2 rfl (lv_at hl 0 rfl) ?_
  refine lv_iload_n hx hb dL_sit_3 rfl (lv_at hl 1 rfl) ?_
  refine lv_iload_n hx hb dL_sit_4 rfl (lv_at hl 2 rfl) ?_
  obtain ⟨kd, r1, μ1, hc, hm⟩ := bO3_inv hm
  refine t_cVx (As := [.int a2, .int a3]) (rest := [.int (0 : Int32), .ref (base + a4)]) (μ' := μ1) (r := r1) ⟨hx, hb, hml, hown, hts⟩ (mX6_sit l hlt D cA base s.heap.size μ ha1 a2 a3 hc) (cwV 2 hts gL_sit_X6_sit rfl rfl rfl (by decide +kernel) ⟨Nat.le_of_ble_eq_true rfl, Nat.le_of_ble_eq_true rfl⟩) (va_recv hK hP (q0 := a1) rfl (tw_obj ha1 (by decide))) hK hN hX hP hS rfl hl.1 (Nat.le_of_ble_eq_true rfl) dL_sit_5 ⟨Nat.le_of_ble_eq_true rfl, Nat.le_of_ble_eq_true rfl⟩ rfl (fun hkd H locs hP hS => ?_) (fun E H locs ce q9 hE hP hS hc1 hc2 hc3 => ?_)
  · rw [if_pos hkd] at hm
    refine lv_i2l (v := r1.toInt64) hx hb dL_sit_8 rfl ?_
    obtain ⟨hg1, hm⟩ := gd_inv hm
    refine t_last hx hb hK hP (tD _ _ _ _) hS ha4 hg1 dL_sit_9 (fun H locs hP hS => ?_)
    obtain ⟨μ2, eμ2⟩ : ∃ z : MM, z = wL μ1 a4 (0 : Int32).toNatClampNeg r1.toInt64 := ⟨_, rfl⟩
    rw [← eμ2] at hP
    replace hm := bV_of hm eμ2
    refine lv_goto (tgt := 17) hx hb dL_sit_10 (by decide) ?_
    refine lv_iconst (v := (0 : Int32)) hx hb dL_sit_17 (by decide) ?_
    cases hm
    refine vx_ret ?_
    exact W.iret hx hb hr (fun t ht hW => ⟨⟨_, (), rfl, rfl, tPost_of hP ht⟩, hS.F ht⟩) hS.2.2 dL_sit_18
  · obtain ⟨⟨-, -, -⟩, h4, ⟨h5, h6, h7⟩, -, -⟩ := hX
    rcases hE with ⟨hk, rfl⟩ | ⟨hk, rfl⟩ | ⟨hk, rfl⟩
    · rw [if_neg (by rw [hk]; decide)] at hm
      rw [if_neg (by rw [hk]; decide)] at hm
      cases hm
    · rw [if_neg (by rw [hk]; decide)] at hm
      rw [if_neg (by rw [hk]; decide)] at hm
      cases hm
    · rw [if_neg (by rw [hk]; decide)] at hm
      rw [if_pos hk] at hm
      refine vx_catch hown [] ⟨0, 10, 13, 34⟩ [] htab (fun z hz => absurd hz List.not_mem_nil) rfl (by decide) (hts _ (List.mem_of_getElem? (i := 1) rfl)) (va_Nw.use rfl (h4 _ (List.mem_append_right _ (List.mem_append_right _ (List.mem_append_right _ (List.mem_of_getElem? (i := 2) rfl)))))) hc1 hc2 hc3 ?_
      refine lv_astore (lv' := [(4, .ref q9), (0, .ref (base + a1)), (1, .int a2), (2, .int a3), (3, .ref (base + a4))]) hx hb dL_sit_13 hl (by decide) rfl (fun ls hl => ?_)
      refine lv_iconst (v := (1 : Int32)) hx hb dL_sit_15 (by decide) ?_
      cases hm
      refine vx_ret ?_
      exact W.iret hx hb hr (fun t ht hW => ⟨⟨_, (), rfl, rfl, tPost_of hP ht⟩, hS.F ht⟩) hS.2.2 dL_sit_16
abbrev rmL_swap : Room := { frames := 8, cells := 2, slots := 12, locals := 126 }
set_option maxHeartbeats 4000000 in
set_option maxRecDepth 100000 in
theorem mL_swap (l : Launch) (hlt : l.stackTraces = false) (D : va_G) (cA : Nat → ClassId) (base sz : Nat) (μ : MM) {a1 : Nat} (ha1 : kc a1 = 6) (a2 : Int32) (a3 : Int32) {a4 : Nat} (ha4 : kc a4 = 101) {r : Int32} {μ' : MM} (hm : L_swap a1 a2 a3 a4 μ = some (r, μ')) : vx_Met l yL_swap wsL_swap rmL_swap (va_Pc [.ref (base + a1), .int a2, .int a3, .ref (base + a4)] (tPreX D cA base sz μ)) (va_Qi (fun (x : Int32) (_ : Unit) => x = r) (fun _ => tPost D cA base μ') (tA base sz)) (vx_X (fun _ : Unit => False) (fun _ _ _ => True) (tA base sz)) 2 12 (tA base sz) := by
  refine vx_ofWH (cc := cL_swap) (maxL := 5) (ret := (some .int)) (hh := [(0, 10, 13, 34), (0, 10, 17, 13)]) (by decide) rfl ?_
  intro p e s m args below meth c s₁ B hml hv
  obtain ⟨rfl, ⟨hsz, hP, hK, hN⟩, hX⟩ := hv
  have hx := B.exec
  have hb := B.bytes
  have hr := B.returns
  have hts := atoms_spec (ws := wsL_swap) B.pre
  have htab := vx_table (x := yL_swap) B (hts _ (List.mem_of_getElem? (i := 0) rfl))
  have hown : s.vm.findClass RL = some m.cls := findClass_of_methodNamed B.named
  have hlocks := B.notSynchronized
  subst hsz
  have hS : va_S (tA base s.heap.size) s.heap s.heap [] := va_S.rf
  have hl := lv_entry ([.ref (base + a1), .int a2, .int a3, .ref (base + a4)]) (n := 5) (Nat.le_of_ble_eq_true rfl)
  rw [lg_entry_eq]
  generalize (lg_sl ([.ref (base + a1), .int a2, .int a3, .ref (base + a4)]) ++ List.replicate (5 - (lg_sl ([.ref (base + a1), .int a2, .int a3, .ref (base + a4)])).length) Slot.unset).toArray = ls at hl ⊢
  have hl : lv_has ls 5 [(0, .ref (base + a1)), (1, .int a2), (2, .int a3), (3, .ref (base + a4))] := hl
  unfold L_swap at hm
  refine lv_aload_n hx hb dL_swap_0 rfl (lv_at hl 3 rfl) ?_
  refine lv_iconst (v := (0 : Int32)) hx hb dL_swap_1 (by decide) ?_
  refine lv_aload_n hx hb dL_swap_2 rfl (lv_at hl 0 rfl) ?_
  refine lv_iload_n hx hb dL_swap_3 rfl (lv_at hl 1 rfl) ?_
  refine lv_iload_n hx hb dL_swap_4 rfl (lv_at hl 2 rfl) ?_
  obtain ⟨kd, r1, μ1, hc, hm⟩ := bO3_inv hm
  refine t_cVx (As := [.int a2, .int a3]) (rest := [.int (0 : Int32), .ref (base + a4)]) (μ' := μ1) (r := r1) ⟨hx, hb, hml, hown, hts⟩ (mX6_swap l hlt D cA base s.heap.size μ ha1 a2 a3 hc) (cwV 2 hts gL_swap_X6_swap rfl rfl rfl (by decide +kernel) ⟨Nat.le_of_ble_eq_true rfl, Nat.le_of_ble_eq_true rfl⟩) (va_recv hK hP (q0 := a1) rfl (tw_obj ha1 (by decide))) hK hN hX hP hS rfl hl.1 (Nat.le_of_ble_eq_true rfl) dL_swap_5 ⟨Nat.le_of_ble_eq_true rfl, Nat.le_of_ble_eq_true rfl⟩ rfl (fun hkd H locs hP hS => ?_) (fun E H locs ce q9 hE hP hS hc1 hc2 hc3 => ?_)
  · rw [if_pos hkd] at hm
    refine lv_i2l (v := r1.toInt64) hx hb dL_swap_8 rfl ?_
    obtain ⟨hg1, hm⟩ := gd_inv hm
    refine t_last hx hb hK hP (tD _ _ _ _) hS ha4 hg1 dL_swap_9 (fun H locs hP hS => ?_)
    obtain ⟨μ2, eμ2⟩ : ∃ z : MM, z = wL μ1 a4 (0 : Int32).toNatClampNeg r1.toInt64 := ⟨_, rfl⟩
    rw [← eμ2] at hP
    replace hm := bV_of hm eμ2
    refine lv_goto (tgt := 21) hx hb dL_swap_10 (by decide) ?_
    refine lv_iconst (v := (0 : Int32)) hx hb dL_swap_21 (by decide) ?_
    cases hm
    refine vx_ret ?_
    exact W.iret hx hb hr (fun t ht hW => ⟨⟨_, (), rfl, rfl, tPost_of hP ht⟩, hS.F ht⟩) hS.2.2 dL_swap_22
  · obtain ⟨⟨-, -, -⟩, h4, ⟨h5, h6, h7⟩, -, -⟩ := hX
    rcases hE with ⟨hk, rfl⟩ | ⟨hk, rfl⟩ | ⟨hk, rfl⟩
    · rw [if_neg (by rw [hk]; decide)] at hm
      rw [if_neg (by rw [hk]; decide)] at hm
      rw [if_pos hk] at hm
      refine vx_catch hown [⟨0, 10, 13, 34⟩] ⟨0, 10, 17, 13⟩ [] htab (by intro z hz; simp only [List.mem_cons, List.not_mem_nil, or_false] at hz; subst hz; exact Or.inr ⟨by decide, _, (hts _ (List.mem_of_getElem? (i := 1) rfl)), h6⟩) rfl (by decide) (hts _ (List.mem_of_getElem? (i := 2) rfl)) (va_Nw.use rfl (h4 _ (List.mem_append_right _ (List.mem_append_right _ (List.mem_append_right _ (List.mem_of_getElem? (i := 0) rfl)))))) hc1 hc2 hc3 ?_
      refine lv_astore (lv' := [(4, .ref q9), (0, .ref (base + a1)), (1, .int a2), (2, .int a3), (3, .ref (base + a4))]) hx hb dL_swap_17 hl (by decide) rfl (fun ls hl => ?_)
      refine lv_iconst (v := (2 : Int32)) hx hb dL_swap_19 (by decide) ?_
      cases hm
      refine vx_ret ?_
      exact W.iret hx hb hr (fun t ht hW => ⟨⟨_, (), rfl, rfl, tPost_of hP ht⟩, hS.F ht⟩) hS.2.2 dL_swap_20
    · rw [if_neg (by rw [hk]; decide)] at hm
      rw [if_neg (by rw [hk]; decide)] at hm
      rw [if_neg (by rw [hk]; decide)] at hm
      cases hm
    · rw [if_neg (by rw [hk]; decide)] at hm
      rw [if_pos hk] at hm
      refine vx_catch hown [] ⟨0, 10, 13, 34⟩ [⟨0, 10, 17, 13⟩] htab (fun z hz => absurd hz List.not_mem_nil) rfl (by decide) (hts _ (List.mem_of_getElem? (i := 1) rfl)) (va_Nw.use rfl (h4 _ (List.mem_append_right _ (List.mem_append_right _ (List.mem_append_right _ (List.mem_of_getElem? (i := 2) rfl)))))) hc1 hc2 hc3 ?_
      refine lv_astore (lv' := [(4, .ref q9), (0, .ref (base + a1)), (1, .int a2), (2, .int a3), (3, .ref (base + a4))]) hx hb dL_swap_13 hl (by decide) rfl (fun ls hl => ?_)
      refine lv_iconst (v := (1 : Int32)) hx hb dL_swap_15 (by decide) ?_
      cases hm
      refine vx_ret ?_
      exact W.iret hx hb hr (fun t ht hW => ⟨⟨_, (), rfl, rfl, tPost_of hP ht⟩, hS.F ht⟩) hS.2.2 dL_swap_16
abbrev rmL_booth : Room := { frames := 8, cells := 1, slots := 6, locals := 162 }
set_option maxHeartbeats 4000000 in
set_option maxRecDepth 100000 in
theorem mL_booth (l : Launch) (hlt : l.stackTraces = false) (D : va_G) (cA : Nat → ClassId) (base sz : Nat) (μ : MM) {a1 : Nat} (ha1 : kc a1 = 6) (a2 : Int32) (a3 : Int32) {a4 : Nat} (ha4 : kc a4 = 101) {r : Int32} {μ' : MM} (hm : L_booth a1 a2 a3 a4 μ = some (r, μ')) : vx_Met l yL_booth wsL_booth rmL_booth (va_Pc [.ref (base + a1), .int a2, .int a3, .ref (base + a4)] (tPreX D cA base sz μ)) (va_Qi (fun (x : Int32) (_ : Unit) => x = r) (fun _ => tPost D cA base μ') (tA base sz)) (vx_X (fun _ : Unit => False) (fun _ _ _ => True) (tA base sz)) 1 6 (tA base sz) := by
  refine vx_ofWH (cc := cL_booth) (maxL := 5) (ret := (some .int)) (hh := [(0, 10, 13, 34)]) (by decide) rfl ?_
  intro p e s m args below meth c s₁ B hml hv
  obtain ⟨rfl, ⟨hsz, hP, hK, hN⟩, hX⟩ := hv
  have hx := B.exec
  have hb := B.bytes
  have hr := B.returns
  have hts := atoms_spec (ws := wsL_booth) B.pre
  have htab := vx_table (x := yL_booth) B (hts _ (List.mem_of_getElem? (i := 0) rfl))
  have hown : s.vm.findClass RL = some m.cls := findClass_of_methodNamed B.named
  have hlocks := B.notSynchronized
  subst hsz
  have hS : va_S (tA base s.heap.size) s.heap s.heap [] := va_S.rf
  have hl := lv_entry ([.ref (base + a1), .int a2, .int a3, .ref (base + a4)]) (n := 5) (Nat.le_of_ble_eq_true rfl)
  rw [lg_entry_eq]
  generalize (lg_sl ([.ref (base + a1), .int a2, .int a3, .ref (base + a4)]) ++ List.replicate (5 - (lg_sl ([.ref (base + a1), .int a2, .int a3, .ref (base + a4)])).length) Slot.unset).toArray = ls at hl ⊢
  have hl : lv_has ls 5 [(0, .ref (base + a1)), (1, .int a2), (2, .int a3), (3, .ref (base + a4))] := hl
  unfold L_booth at hm
  refine lv_aload_n hx hb dL_booth_0 rfl (lv_at hl 3 rfl) ?_
  refine lv_iconst (v := (0 : Int32)) hx hb dL_booth_1 (by decide) ?_
  refine lv_aload_n hx hb dL_booth_2 rfl (lv_at hl 0 rfl) ?_
  refine lv_iload_n hx hb dL_booth_3 rfl (lv_at hl 1 rfl) ?_
  refine lv_iload_n hx hb dL_booth_4 rfl (lv_at hl 2 rfl) ?_
  obtain ⟨kd, r1, μ1, hc, hm⟩ := bO3_inv hm
  refine t_cVx (As := [.int a2, .int a3]) (rest := [.int (0 : Int32), .ref (base + a4)]) (μ' := μ1) (r := r1) ⟨hx, hb, hml, hown, hts⟩ (mX6_booth l hlt D cA base s.heap.size μ ha1 a2 a3 hc) (cwV 2 hts gL_booth_X6_booth rfl rfl rfl (by decide +kernel) ⟨Nat.le_of_ble_eq_true rfl, Nat.le_of_ble_eq_true rfl⟩) (va_recv hK hP (q0 := a1) rfl (tw_obj ha1 (by decide))) hK hN hX hP hS rfl hl.1 (Nat.le_of_ble_eq_true rfl) dL_booth_5 ⟨Nat.le_of_ble_eq_true rfl, Nat.le_of_ble_eq_true rfl⟩ rfl (fun hkd H locs hP hS => ?_) (fun E H locs ce q9 hE hP hS hc1 hc2 hc3 => ?_)
  · rw [if_pos hkd] at hm
    refine lv_i2l (v := r1.toInt64) hx hb dL_booth_8 rfl ?_
    obtain ⟨hg1, hm⟩ := gd_inv hm
    refine t_last hx hb hK hP (tD _ _ _ _) hS ha4 hg1 dL_booth_9 (fun H locs hP hS => ?_)
    obtain ⟨μ2, eμ2⟩ : ∃ z : MM, z = wL μ1 a4 (0 : Int32).toNatClampNeg r1.toInt64 := ⟨_, rfl⟩
    rw [← eμ2] at hP
    replace hm := bV_of hm eμ2
    refine lv_goto (tgt := 17) hx hb dL_booth_10 (by decide) ?_
    refine lv_iconst (v := (0 : Int32)) hx hb dL_booth_17 (by decide) ?_
    cases hm
    refine vx_ret ?_
    exact W.iret hx hb hr (fun t ht hW => ⟨⟨_, (), rfl, rfl, tPost_of hP ht⟩, hS.F ht⟩) hS.2.2 dL_booth_18
  · obtain ⟨⟨-, -, -⟩, h4, ⟨h5, h6, h7⟩, -, -⟩ := hX
    rcases hE with ⟨hk, rfl⟩ | ⟨hk, rfl⟩ | ⟨hk, rfl⟩
    · rw [if_neg (by rw [hk]; decide)] at hm
      rw [if_neg (by rw [hk]; decide)] at hm
      cases hm
    · rw [if_neg (by rw [hk]; decide)] at hm
      rw [if_neg (by rw [hk]; decide)] at hm
      cases hm
    · rw [if_neg (by rw [hk]; decide)] at hm
      rw [if_pos hk] at hm
      refine vx_catch hown [] ⟨0, 10, 13, 34⟩ [] htab (fun z hz => absurd hz List.not_mem_nil) rfl (by decide) (hts _ (List.mem_of_getElem? (i := 1) rfl)) (va_Nw.use rfl (h4 _ (List.mem_append_right _ (List.mem_append_right _ (List.mem_append_right _ (List.mem_of_getElem? (i := 2) rfl)))))) hc1 hc2 hc3 ?_
      refine lv_astore (lv' := [(4, .ref q9), (0, .ref (base + a1)), (1, .int a2), (2, .int a3), (3, .ref (base + a4))]) hx hb dL_booth_13 hl (by decide) rfl (fun ls hl => ?_)
      refine lv_iconst (v := (1 : Int32)) hx hb dL_booth_15 (by decide) ?_
      cases hm
      refine vx_ret ?_
      exact W.iret hx hb hr (fun t ht hW => ⟨⟨_, (), rfl, rfl, tPost_of hP ht⟩, hS.F ht⟩) hS.2.2 dL_booth_16
abbrev rmL_interpreter : Room := { frames := 8, cells := 1, slots := 6, locals := 124 }
set_option maxHeartbeats 4000000 in
set_option maxRecDepth 100000 in
theorem mL_interpreter (l : Launch) (hlt : l.stackTraces = false) (D : va_G) (cA : Nat → ClassId) (base sz : Nat) (μ : MM) {a1 : Nat} (ha1 : kc a1 = 6) (a2 : Int32) (a3 : Int32) {a4 : Nat} (ha4 : kc a4 = 101) {r : Int32} {μ' : MM} (hm : L_interpreter a1 a2 a3 a4 μ = some (r, μ')) : vx_Met l yL_interpreter wsL_interpreter rmL_interpreter (va_Pc [.ref (base + a1), .int a2, .int a3, .ref (base + a4)] (tPreX D cA base sz μ)) (va_Qi (fun (x : Int32) (_ : Unit) => x = r) (fun _ => tPost D cA base μ') (tA base sz)) (vx_X (fun _ : Unit => False) (fun _ _ _ => True) (tA base sz)) 1 6 (tA base sz) := by
  refine vx_ofWH (cc := cL_interpreter) (maxL := 5) (ret := (some .int)) (hh := [(0, 10, 13, 34)]) (by decide) rfl ?_
  intro p e s m args below meth c s₁ B hml hv
  obtain ⟨rfl, ⟨hsz, hP, hK, hN⟩, hX⟩ := hv
  have hx := B.exec
  have hb := B.bytes
  have hr := B.returns
  have hts := atoms_spec (ws := wsL_interpreter) B.pre
  have htab := vx_table (x := yL_interpreter) B (hts _ (List.mem_of_getElem? (i := 0) rfl))
  have hown : s.vm.findClass RL = some m.cls := findClass_of_methodNamed B.named
  have hlocks := B.notSynchronized
  subst hsz
  have hS : va_S (tA base s.heap.size) s.heap s.heap [] := va_S.rf
  have hl := lv_entry ([.ref (base + a1), .int a2, .int a3, .ref (base + a4)]) (n := 5) (Nat.le_of_ble_eq_true rfl)
  rw [lg_entry_eq]
  generalize (lg_sl ([.ref (base + a1), .int a2, .int a3, .ref (base + a4)]) ++ List.replicate (5 - (lg_sl ([.ref (base + a1), .int a2, .int a3, .ref (base + a4)])).length) Slot.unset).toArray = ls at hl ⊢
  have hl : lv_has ls 5 [(0, .ref (base + a1)), (1, .int a2), (2, .int a3), (3, .ref (base + a4))] := hl
  unfold L_interpreter at hm
  refine lv_aload_n hx hb dL_interpreter_0 rfl (lv_at hl 3 rfl) ?_
  refine lv_iconst (v := (0 : Int32)) hx hb dL_interpreter_1 (by decide) ?_
  refine lv_aload_n hx hb dL_interpreter_2 rfl (lv_at hl 0 rfl) ?_
  refine lv_iload_n hx hb dL_interpreter_3 rfl (lv_at hl 1 rfl) ?_
  refine lv_iload_n hx hb dL_interpreter_4 rfl (lv_at hl 2 rfl) ?_
  obtain ⟨kd, r1, hc, hm⟩ := bO2_inv hm
  refine t_cVx (As := [.int a2, .int a3]) (rest := [.int (0 : Int32), .ref (base + a4)]) (μ' := μ) (r := r1) ⟨hx, hb, hml, hown, hts⟩ (mX6_interpreter l hlt D cA base s.heap.size μ ha1 a2 a3 hc) (cwV 2 hts gL_interpreter_X6_interpreter rfl rfl rfl (by decide +kernel) ⟨Nat.le_of_ble_eq_true rfl, Nat.le_of_ble_eq_true rfl⟩) (va_recv hK hP (q0 := a1) rfl (tw_obj ha1 (by decide))) hK hN hX hP hS rfl hl.1 (Nat.le_of_ble_eq_true rfl) dL_interpreter_5 ⟨Nat.le_of_ble_eq_true rfl, Nat.le_of_ble_eq_true rfl⟩ rfl (fun hkd H locs hP hS => ?_) (fun E H locs ce q9 hE hP hS hc1 hc2 hc3 => ?_)
  · rw [if_pos hkd] at hm
    refine lv_i2l (v := r1.toInt64) hx hb dL_interpreter_8 rfl ?_
    obtain ⟨hg1, hm⟩ := gd_inv hm
    refine t_last hx hb hK hP (tD _ _ _ _) hS ha4 hg1 dL_interpreter_9 (fun H locs hP hS => ?_)
    obtain ⟨μ2, eμ2⟩ : ∃ z : MM, z = wL μ a4 (0 : Int32).toNatClampNeg r1.toInt64 := ⟨_, rfl⟩
    rw [← eμ2] at hP
    replace hm := bV_of hm eμ2
    refine lv_goto (tgt := 17) hx hb dL_interpreter_10 (by decide) ?_
    refine lv_iconst (v := (0 : Int32)) hx hb dL_interpreter_17 (by decide) ?_
    cases hm
    refine vx_ret ?_
    exact W.iret hx hb hr (fun t ht hW => ⟨⟨_, (), rfl, rfl, tPost_of hP ht⟩, hS.F ht⟩) hS.2.2 dL_interpreter_18
  · obtain ⟨⟨-, -, -⟩, h4, ⟨h5, h6, h7⟩, -, -⟩ := hX
    rcases hE with ⟨hk, rfl⟩ | ⟨hk, rfl⟩ | ⟨hk, rfl⟩
    · rw [if_neg (by rw [hk]; decide)] at hm
      rw [if_neg (by rw [hk]; decide)] at hm
      cases hm
    · rw [if_neg (by rw [hk]; decide)] at hm
      rw [if_neg (by rw [hk]; decide)] at hm
      cases hm
    · rw [if_neg (by rw [hk]; decide)] at hm
      rw [if_pos hk] at hm
      refine vx_catch hown [] ⟨0, 10, 13, 34⟩ [] htab (fun z hz => absurd hz List.not_mem_nil) rfl (by decide) (hts _ (List.mem_of_getElem? (i := 1) rfl)) (va_Nw.use rfl (h4 _ (List.mem_append_right _ (List.mem_append_right _ (List.mem_append_right _ (List.mem_of_getElem? (i := 2) rfl)))))) hc1 hc2 hc3 ?_
      refine lv_astore (lv' := [(4, .ref q9), (0, .ref (base + a1)), (1, .int a2), (2, .int a3), (3, .ref (base + a4))]) hx hb dL_interpreter_13 hl (by decide) rfl (fun ls hl => ?_)
      refine lv_iconst (v := (1 : Int32)) hx hb dL_interpreter_15 (by decide) ?_
      cases hm
      refine vx_ret ?_
      exact W.iret hx hb hr (fun t ht hW => ⟨⟨_, (), rfl, rfl, tPost_of hP ht⟩, hS.F ht⟩) hS.2.2 dL_interpreter_16
abbrev rmL_pass : Room := { frames := 8, cells := 2, slots := 12, locals := 174 }
set_option maxHeartbeats 4000000 in
set_option maxRecDepth 100000 in
theorem mL_pass (l : Launch) (hlt : l.stackTraces = false) (D : va_G) (cA : Nat → ClassId) (base sz : Nat) (μ : MM) {a1 : Nat} (ha1 : kc a1 = 6) (a2 : Int32) {a3 : Nat} (ha3 : kc a3 = 101) {r : Int32} {μ' : MM} (hm : L_pass a1 a2 a3 μ = some (r, μ')) : vx_Met l yL_pass wsL_pass rmL_pass (va_Pc [.ref (base + a1), .int a2, .ref (base + a3)] (tPreX D cA base sz μ)) (va_Qi (fun (x : Int32) (_ : Unit) => x = r) (fun _ => tPost D cA base μ') (tA base sz)) (vx_X (fun _ : Unit => False) (fun _ _ _ => True) (tA base sz)) 2 12 (tA base sz) := by
  refine vx_ofWH (cc := cL_pass) (maxL := 4) (ret := (some .int)) (hh := [(0, 9, 12, 13), (0, 9, 15, 19)]) (by decide) rfl ?_
  intro p e s m args below meth c s₁ B hml hv
  obtain ⟨rfl, ⟨hsz, hP, hK, hN⟩, hX⟩ := hv
  have hx := B.exec
  have hb := B.bytes
  have hr := B.returns
  have hts := atoms_spec (ws := wsL_pass) B.pre
  have htab := vx_table (x := yL_pass) B (hts _ (List.mem_of_getElem? (i := 0) rfl))
  have hown : s.vm.findClass RL = some m.cls := findClass_of_methodNamed B.named
  have hlocks := B.notSynchronized
  subst hsz
  have hS : va_S (tA base s.heap.size) s.heap s.heap [] := va_S.rf
  have hl := lv_entry ([.ref (base + a1), .int a2, .ref (base + a3)]) (n := 4) (Nat.le_of_ble_eq_true rfl)
  rw [lg_entry_eq]
  generalize (lg_sl ([.ref (base + a1), .int a2, .ref (base + a3)]) ++ List.replicate (4 - (lg_sl ([.ref (base + a1), .int a2, .ref (base + a3)])).length) Slot.unset).toArray = ls at hl ⊢
  have hl : lv_has ls 4 [(0, .ref (base + a1)), (1, .int a2), (2, .ref (base + a3))] := hl
  unfold L_pass at hm
  refine lv_aload_n hx hb dL_pass_0 rfl (lv_at hl 2 rfl) ?_
  refine lv_iconst (v := (0 : Int32)) hx hb dL_pass_1 (by decide) ?_
  refine lv_aload_n hx hb dL_pass_2 rfl (lv_at hl 0 rfl) ?_
  refine lv_iload_n hx hb dL_pass_3 rfl (lv_at hl 1 rfl) ?_
  obtain ⟨kd, r1, μ1, hc, hm⟩ := bO3_inv hm
  refine t_cVx (As := [.int a2]) (rest := [.int (0 : Int32), .ref (base + a3)]) (μ' := μ1) (r := r1) ⟨hx, hb, hml, hown, hts⟩ (mX6_pass l hlt D cA base s.heap.size μ ha1 a2 hc) (cwV 1 hts gL_pass_X6_pass rfl rfl rfl (by decide +kernel) ⟨Nat.le_of_ble_eq_true rfl, Nat.le_of_ble_eq_true rfl⟩) (va_recv hK hP (q0 := a1) rfl (tw_obj ha1 (by decide))) hK hN hX hP hS rfl hl.1 (Nat.le_of_ble_eq_true rfl) dL_pass_4 ⟨Nat.le_of_ble_eq_true rfl, Nat.le_of_ble_eq_true rfl⟩ rfl (fun hkd H locs hP hS => ?_) (fun E H locs ce q9 hE hP hS hc1 hc2 hc3 => ?_)
  · rw [if_pos hkd] at hm
    refine lv_i2l (v := r1.toInt64) hx hb dL_pass_7 rfl ?_
    obtain ⟨hg1, hm⟩ := gd_inv hm
    refine t_last hx hb hK hP (tD _ _ _ _) hS ha3 hg1 dL_pass_8 (fun H locs hP hS => ?_)
    obtain ⟨μ2, eμ2⟩ : ∃ z : MM, z = wL μ1 a3 (0 : Int32).toNatClampNeg r1.toInt64 := ⟨_, rfl⟩
    rw [← eμ2] at hP
    replace hm := bV_of hm eμ2
    refine lv_goto (tgt := 18) hx hb dL_pass_9 (by decide) ?_
    refine lv_iconst (v := (0 : Int32)) hx hb dL_pass_18 (by decide) ?_
    cases hm
    refine vx_ret ?_
    exact W.iret hx hb hr (fun t ht hW => ⟨⟨_, (), rfl, rfl, tPost_of hP ht⟩, hS.F ht⟩) hS.2.2 dL_pass_19
  · obtain ⟨⟨-, -, -⟩, h4, ⟨h5, h6, h7⟩, -, -⟩ := hX
    rcases hE with ⟨hk, rfl⟩ | ⟨hk, rfl⟩ | ⟨hk, rfl⟩
    · rw [if_neg (by rw [hk]; decide)] at hm
      rw [if_pos hk] at hm
      refine vx_catch hown [] ⟨0, 9, 12, 13⟩ [⟨0, 9, 15, 19⟩] htab (fun z hz => absurd hz List.not_mem_nil) rfl (by decide) (hts _ (List.mem_of_getElem? (i := 1) rfl)) (va_Nw.use rfl (h4 _ (List.mem_append_right _ (List.mem_append_right _ (List.mem_append_right _ (List.mem_of_getElem? (i := 0) rfl)))))) hc1 hc2 hc3 ?_
      refine lv_astore_n (lv' := [(3, .ref q9), (0, .ref (base + a1)), (1, .int a2), (2, .ref (base + a3))]) hx hb dL_pass_12 rfl hl (by decide) rfl (fun ls hl => ?_)
      refine lv_iconst (v := (1 : Int32)) hx hb dL_pass_13 (by decide) ?_
      cases hm
      refine vx_ret ?_
      exact W.iret hx hb hr (fun t ht hW => ⟨⟨_, (), rfl, rfl, tPost_of hP ht⟩, hS.F ht⟩) hS.2.2 dL_pass_14
    · rw [if_neg (by rw [hk]; decide)] at hm
      rw [if_neg (by rw [hk]; decide)] at hm
      rw [if_pos hk] at hm
      refine vx_catch hown [⟨0, 9, 12, 13⟩] ⟨0, 9, 15, 19⟩ [] htab (by intro z hz; simp only [List.mem_cons, List.not_mem_nil, or_false] at hz; subst hz; exact Or.inr ⟨by decide, _, (hts _ (List.mem_of_getElem? (i := 1) rfl)), h5⟩) rfl (by decide) (hts _ (List.mem_of_getElem? (i := 2) rfl)) (va_Nw.use rfl (h4 _ (List.mem_append_right _ (List.mem_append_right _ (List.mem_append_right _ (List.mem_of_getElem? (i := 1) rfl)))))) hc1 hc2 hc3 ?_
      refine lv_astore_n (lv' := [(3, .ref q9), (0, .ref (base + a1)), (1, .int a2), (2, .ref (base + a3))]) hx hb dL_pass_15 rfl hl (by decide) rfl (fun ls hl => ?_)
      refine lv_iconst (v := (2 : Int32)) hx hb dL_pass_16 (by decide) ?_
      cases hm
      refine vx_ret ?_
      exact W.iret hx hb hr (fun t ht hW => ⟨⟨_, (), rfl, rfl, tPost_of hP ht⟩, hS.F ht⟩) hS.2.2 dL_pass_17
    · rw [if_neg (by rw [hk]; decide)] at hm
      rw [if_neg (by rw [hk]; decide)] at hm
      rw [if_neg (by rw [hk]; decide)] at hm
      cases hm
abbrev rmL_said : Room := { frames := 8, cells := 2, slots := 12, locals := 126 }
set_option maxHeartbeats 4000000 in
set_option maxRecDepth 100000 in
theorem mL_said (l : Launch) (hlt : l.stackTraces = false) (D : va_G) (cA : Nat → ClassId) (base sz : Nat) (μ : MM) {a1 : Nat} (ha1 : kc a1 = 6) (a2 : Int32) (a3 : Int32) (a4 : Int32) {a5 : Nat} (ha5 : kc a5 = 101) {r : Int32} {μ' : MM} (hm : L_said a1 a2 a3 a4 a5 μ = some (r, μ')) : vx_Met l yL_said wsL_said rmL_said (va_Pc [.ref (base + a1), .int a2, .int a3, .int a4, .ref (base + a5)] (tPreX D cA base sz μ)) (va_Qi (fun (x : Int32) (_ : Unit) => x = r) (fun _ => tPost D cA base μ') (tA base sz)) (vx_X (fun _ : Unit => False) (fun _ _ _ => True) (tA base sz)) 2 12 (tA base sz) := by
  refine vx_ofWH (cc := cL_said) (maxL := 6) (ret := (some .int)) (hh := [(0, 12, 15, 34)]) (by decide) rfl ?_
  intro p e s m args below meth c s₁ B hml hv
  obtain ⟨rfl, ⟨hsz, hP, hK, hN⟩, hX⟩ := hv
  have hx := B.exec
  have hb := B.bytes
  have hr := B.returns
  have hts := atoms_spec (ws := wsL_said) B.pre
  have htab := vx_table (x := yL_said) B (hts _ (List.mem_of_getElem? (i := 0) rfl))
  have hown : s.vm.findClass RL = some m.cls := findClass_of_methodNamed B.named
  have hlocks := B.notSynchronized
  subst hsz
  have hS : va_S (tA base s.heap.size) s.heap s.heap [] := va_S.rf
  have hl := lv_entry ([.ref (base + a1), .int a2, .int a3, .int a4, .ref (base + a5)]) (n := 6) (Nat.le_of_ble_eq_true rfl)
  rw [lg_entry_eq]
  generalize (lg_sl ([.ref (base + a1), .int a2, .int a3, .int a4, .ref (base + a5)]) ++ List.replicate (6 - (lg_sl ([.ref (base + a1), .int a2, .int a3, .int a4, .ref (base + a5)])).length) Slot.unset).toArray = ls at hl ⊢
  have hl : lv_has ls 6 [(0, .ref (base + a1)), (1, .int a2), (2, .int a3), (3, .int a4), (4, .ref (base + a5))] := hl
  unfold L_said at hm
  refine lv_aload hx hb dL_said_0 (lv_at hl 4 rfl) ?_
  refine lv_iconst (v := (0 : Int32)) hx hb dL_said_2 (by decide) ?_
  refine lv_aload_n hx hb dL_said_3 rfl (lv_at hl 0 rfl) ?_
  refine lv_iload_n hx hb dL_said_4 rfl (lv_at hl 1 rfl) ?_
  refine lv_iload_n hx hb dL_said_5 rfl (lv_at hl 2 rfl) ?_
  refine lv_iload_n hx hb dL_said_6 rfl (lv_at hl 3 rfl) ?_
  obtain ⟨kd, r1, hc, hm⟩ := bO2_inv hm
  refine t_cVx (As := [.int a2, .int a3, .int a4]) (rest := [.int (0 : Int32), .ref (base + a5)]) (μ' := μ) (r := r1) ⟨hx, hb, hml, hown, hts⟩ (mX6_said l hlt D cA base s.heap.size μ ha1 a2 a3 a4 hc) (cwV 3 hts gL_said_X6_said rfl rfl rfl (by decide +kernel) ⟨Nat.le_of_ble_eq_true rfl, Nat.le_of_ble_eq_true rfl⟩) (va_recv hK hP (q0 := a1) rfl (tw_obj ha1 (by decide))) hK hN hX hP hS rfl hl.1 (Nat.le_of_ble_eq_true rfl) dL_said_7 ⟨Nat.le_of_ble_eq_true rfl, Nat.le_of_ble_eq_true rfl⟩ rfl (fun hkd H locs hP hS => ?_) (fun E H locs ce q9 hE hP hS hc1 hc2 hc3 => ?_)
  · rw [if_pos hkd] at hm
    refine lv_i2l (v := r1.toInt64) hx hb dL_said_10 rfl ?_
    obtain ⟨hg1, hm⟩ := gd_inv hm
    refine t_last hx hb hK hP (tD _ _ _ _) hS ha5 hg1 dL_said_11 (fun H locs hP hS => ?_)
    obtain ⟨μ2, eμ2⟩ : ∃ z : MM, z = wL μ a5 (0 : Int32).toNatClampNeg r1.toInt64 := ⟨_, rfl⟩
    rw [← eμ2] at hP
    replace hm := bV_of hm eμ2
    refine lv_goto (tgt := 19) hx hb dL_said_12 (by decide) ?_
    refine lv_iconst (v := (0 : Int32)) hx hb dL_said_19 (by decide) ?_
    cases hm
    refine vx_ret ?_
    exact W.iret hx hb hr (fun t ht hW => ⟨⟨_, (), rfl, rfl, tPost_of hP ht⟩, hS.F ht⟩) hS.2.2 dL_said_20
  · obtain ⟨⟨-, -, -⟩, h4, ⟨h5, h6, h7⟩, -, -⟩ := hX
    rcases hE with ⟨hk, rfl⟩ | ⟨hk, rfl⟩ | ⟨hk, rfl⟩
    · rw [if_neg (by rw [hk]; decide)] at hm
      rw [if_neg (by rw [hk]; decide)] at hm
      cases hm
    · rw [if_neg (by rw [hk]; decide)] at hm
      rw [if_neg (by rw [hk]; decide)] at hm
      cases hm
    · rw [if_neg (by rw [hk]; decide)] at hm
      rw [if_pos hk] at hm
      refine vx_catch hown [] ⟨0, 12, 15, 34⟩ [] htab (fun z hz => absurd hz List.not_mem_nil) rfl (by decide) (hts _ (List.mem_of_getElem? (i := 1) rfl)) (va_Nw.use rfl (h4 _ (List.mem_append_right _ (List.mem_append_right _ (List.mem_append_right _ (List.mem_of_getElem? (i := 2) rfl)))))) hc1 hc2 hc3 ?_
      refine lv_astore (lv' := [(5, .ref q9), (0, .ref (base + a1)), (1, .int a2), (2, .int a3), (3, .int a4), (4, .ref (base + a5))]) hx hb dL_said_15 hl (by decide) rfl (fun ls hl => ?_)
      refine lv_iconst (v := (1 : Int32)) hx hb dL_said_17 (by decide) ?_
      cases hm
      refine vx_ret ?_
      exact W.iret hx hb hr (fun t ht hW => ⟨⟨_, (), rfl, rfl, tPost_of hP ht⟩, hS.F ht⟩) hS.2.2 dL_said_18
abbrev rmL_count : Room := { frames := 8, cells := 1, slots := 6, locals := 130 }
set_option maxHeartbeats 4000000 in
set_option maxRecDepth 100000 in
theorem mL_count (l : Launch) (hlt : l.stackTraces = false) (D : va_G) (cA : Nat → ClassId) (base sz : Nat) (μ : MM) {a1 : Nat} (ha1 : kc a1 = 6) (a2 : Int32) {a3 : Nat} (ha3 : kc a3 = 101) {r : Int32} {μ' : MM} (hm : L_count a1 a2 a3 μ = some (r, μ')) : vx_Met l yL_count wsL_count rmL_count (va_Pc [.ref (base + a1), .int a2, .ref (base + a3)] (tPreX D cA base sz μ)) (va_Qi (fun (x : Int32) (_ : Unit) => x = r) (fun _ => tPost D cA base μ') (tA base sz)) (vx_X (fun _ : Unit => False) (fun _ _ _ => True) (tA base sz)) 1 6 (tA base sz) := by
  refine vx_ofWH (cc := cL_count) (maxL := 4) (ret := (some .int)) (hh := [(0, 9, 12, 34)]) (by decide) rfl ?_
  intro p e s m args below meth c s₁ B hml hv
  obtain ⟨rfl, ⟨hsz, hP, hK, hN⟩, hX⟩ := hv
  have hx := B.exec
  have hb := B.bytes
  have hr := B.returns
  have hts := atoms_spec (ws := wsL_count) B.pre
  have htab := vx_table (x := yL_count) B (hts _ (List.mem_of_getElem? (i := 0) rfl))
  have hown : s.vm.findClass RL = some m.cls := findClass_of_methodNamed B.named
  have hlocks := B.notSynchronized
  subst hsz
  have hS : va_S (tA base s.heap.size) s.heap s.heap [] := va_S.rf
  have hl := lv_entry ([.ref (base + a1), .int a2, .ref (base + a3)]) (n := 4) (Nat.le_of_ble_eq_true rfl)
  rw [lg_entry_eq]
  generalize (lg_sl ([.ref (base + a1), .int a2, .ref (base + a3)]) ++ List.replicate (4 - (lg_sl ([.ref (base + a1), .int a2, .ref (base + a3)])).length) Slot.unset).toArray = ls at hl ⊢
  have hl : lv_has ls 4 [(0, .ref (base + a1)), (1, .int a2), (2, .ref (base + a3))] := hl
  unfold L_count at hm
  refine lv_aload_n hx hb dL_count_0 rfl (lv_at hl 2 rfl) ?_
  refine lv_iconst (v := (0 : Int32)) hx hb dL_count_1 (by decide) ?_
  refine lv_aload_n hx hb dL_count_2 rfl (lv_at hl 0 rfl) ?_
  refine lv_iload_n hx hb dL_count_3 rfl (lv_at hl 1 rfl) ?_
  obtain ⟨kd, r1, hc, hm⟩ := bO2_inv hm
  refine t_cVx (As := [.int a2]) (rest := [.int (0 : Int32), .ref (base + a3)]) (μ' := μ) (r := r1) ⟨hx, hb, hml, hown, hts⟩ (mX6_count l hlt D cA base s.heap.size μ ha1 a2 hc) (cwV 1 hts gL_count_X6_count rfl rfl rfl (by decide +kernel) ⟨Nat.le_of_ble_eq_true rfl, Nat.le_of_ble_eq_true rfl⟩) (va_recv hK hP (q0 := a1) rfl (tw_obj ha1 (by decide))) hK hN hX hP hS rfl hl.1 (Nat.le_of_ble_eq_true rfl) dL_count_4 ⟨Nat.le_of_ble_eq_true rfl, Nat.le_of_ble_eq_true rfl⟩ rfl (fun hkd H locs hP hS => ?_) (fun E H locs ce q9 hE hP hS hc1 hc2 hc3 => ?_)
  · rw [if_pos hkd] at hm
    refine lv_i2l (v := r1.toInt64) hx hb dL_count_7 rfl ?_
    obtain ⟨hg1, hm⟩ := gd_inv hm
    refine t_last hx hb hK hP (tD _ _ _ _) hS ha3 hg1 dL_count_8 (fun H locs hP hS => ?_)
    obtain ⟨μ2, eμ2⟩ : ∃ z : MM, z = wL μ a3 (0 : Int32).toNatClampNeg r1.toInt64 := ⟨_, rfl⟩
    rw [← eμ2] at hP
    replace hm := bV_of hm eμ2
    refine lv_goto (tgt := 15) hx hb dL_count_9 (by decide) ?_
    refine lv_iconst (v := (0 : Int32)) hx hb dL_count_15 (by decide) ?_
    cases hm
    refine vx_ret ?_
    exact W.iret hx hb hr (fun t ht hW => ⟨⟨_, (), rfl, rfl, tPost_of hP ht⟩, hS.F ht⟩) hS.2.2 dL_count_16
  · obtain ⟨⟨-, -, -⟩, h4, ⟨h5, h6, h7⟩, -, -⟩ := hX
    rcases hE with ⟨hk, rfl⟩ | ⟨hk, rfl⟩ | ⟨hk, rfl⟩
    · rw [if_neg (by rw [hk]; decide)] at hm
      rw [if_neg (by rw [hk]; decide)] at hm
      cases hm
    · rw [if_neg (by rw [hk]; decide)] at hm
      rw [if_neg (by rw [hk]; decide)] at hm
      cases hm
    · rw [if_neg (by rw [hk]; decide)] at hm
      rw [if_pos hk] at hm
      refine vx_catch hown [] ⟨0, 9, 12, 34⟩ [] htab (fun z hz => absurd hz List.not_mem_nil) rfl (by decide) (hts _ (List.mem_of_getElem? (i := 1) rfl)) (va_Nw.use rfl (h4 _ (List.mem_append_right _ (List.mem_append_right _ (List.mem_append_right _ (List.mem_of_getElem? (i := 2) rfl)))))) hc1 hc2 hc3 ?_
      refine lv_astore_n (lv' := [(3, .ref q9), (0, .ref (base + a1)), (1, .int a2), (2, .ref (base + a3))]) hx hb dL_count_12 rfl hl (by decide) rfl (fun ls hl => ?_)
      refine lv_iconst (v := (1 : Int32)) hx hb dL_count_13 (by decide) ?_
      cases hm
      refine vx_ret ?_
      exact W.iret hx hb hr (fun t ht hW => ⟨⟨_, (), rfl, rfl, tPost_of hP ht⟩, hS.F ht⟩) hS.2.2 dL_count_14
abbrev rmL_foresee : Room := { frames := 8, cells := 3, slots := 18, locals := 176 }
set_option maxHeartbeats 4000000 in
set_option maxRecDepth 100000 in
theorem mL_foresee (l : Launch) (hlt : l.stackTraces = false) (D : va_G) (cA : Nat → ClassId) (base sz : Nat) (μ : MM) {a1 : Nat} (ha1 : kc a1 = 6) (a2 : Int32) (a3 : Int32) (a4 : Int32) {a5 : Nat} (ha5 : kc a5 = 101) {r : Int32} {μ' : MM} (hm : L_foresee a1 a2 a3 a4 a5 μ = some (r, μ')) : vx_Met l yL_foresee wsL_foresee rmL_foresee (va_Pc [.ref (base + a1), .int a2, .int a3, .int a4, .ref (base + a5)] (tPreX D cA base sz μ)) (va_Qi (fun (x : Int32) (_ : Unit) => x = r) (fun _ => tPost D cA base μ') (tA base sz)) (vx_X (fun _ : Unit => False) (fun _ _ _ => True) (tA base sz)) 3 18 (tA base sz) := by
  refine vx_ofWH (cc := cL_foresee) (maxL := 6) (ret := (some .int)) (hh := [(0, 12, 15, 34), (0, 12, 19, 13), (0, 12, 23, 19)]) (by decide) rfl ?_
  intro p e s m args below meth c s₁ B hml hv
  obtain ⟨rfl, ⟨hsz, hP, hK, hN⟩, hX⟩ := hv
  have hx := B.exec
  have hb := B.bytes
  have hr := B.returns
  have hts := atoms_spec (ws := wsL_foresee) B.pre
  have htab := vx_table (x := yL_foresee) B (hts _ (List.mem_of_getElem? (i := 0) rfl))
  have hown : s.vm.findClass RL = some m.cls := findClass_of_methodNamed B.named
  have hlocks := B.notSynchronized
  subst hsz
  have hS : va_S (tA base s.heap.size) s.heap s.heap [] := va_S.rf
  have hl := lv_entry ([.ref (base + a1), .int a2, .int a3, .int a4, .ref (base + a5)]) (n := 6) (Nat.le_of_ble_eq_true rfl)
  rw [lg_entry_eq]
  generalize (lg_sl ([.ref (base + a1), .int a2, .int a3, .int a4, .ref (base + a5)]) ++ List.replicate (6 - (lg_sl ([.ref (base + a1), .int a2, .int a3, .int a4, .ref (base + a5)])).length) Slot.unset).toArray = ls at hl ⊢
  have hl : lv_has ls 6 [(0, .ref (base + a1)), (1, .int a2), (2, .int a3), (3, .int a4), (4, .ref (base + a5))] := hl
  unfold L_foresee at hm
  refine lv_aload hx hb dL_foresee_0 (lv_at hl 4 rfl) ?_
  refine lv_iconst (v := (0 : Int32)) hx hb dL_foresee_2 (by decide) ?_
  refine lv_aload_n hx hb dL_foresee_3 rfl (lv_at hl 0 rfl) ?_
  refine lv_iload_n hx hb dL_foresee_4 rfl (lv_at hl 1 rfl) ?_
  refine lv_iload_n hx hb dL_foresee_5 rfl (lv_at hl 2 rfl) ?_
  refine lv_iload_n hx hb dL_foresee_6 rfl (lv_at hl 3 rfl) ?_
  obtain ⟨kd, r1, μ1, hc, hm⟩ := bO3_inv hm
  refine t_cVx (As := [.int a2, .int a3, .int a4]) (rest := [.int (0 : Int32), .ref (base + a5)]) (μ' := μ1) (r := r1) ⟨hx, hb, hml, hown, hts⟩ (mX6_foresee l hlt D cA base s.heap.size μ ha1 a2 a3 a4 hc) (cwV 3 hts gL_foresee_X6_foresee rfl rfl rfl (by decide +kernel) ⟨Nat.le_of_ble_eq_true rfl, Nat.le_of_ble_eq_true rfl⟩) (va_recv hK hP (q0 := a1) rfl (tw_obj ha1 (by decide))) hK hN hX hP hS rfl hl.1 (Nat.le_of_ble_eq_true rfl) dL_foresee_7 ⟨Nat.le_of_ble_eq_true rfl, Nat.le_of_ble_eq_true rfl⟩ rfl (fun hkd H locs hP hS => ?_) (fun E H locs ce q9 hE hP hS hc1 hc2 hc3 => ?_)
  · rw [if_pos hkd] at hm
    refine lv_i2l (v := r1.toInt64) hx hb dL_foresee_10 rfl ?_
    obtain ⟨hg1, hm⟩ := gd_inv hm
    refine t_last hx hb hK hP (tD _ _ _ _) hS ha5 hg1 dL_foresee_11 (fun H locs hP hS => ?_)
    obtain ⟨μ2, eμ2⟩ : ∃ z : MM, z = wL μ1 a5 (0 : Int32).toNatClampNeg r1.toInt64 := ⟨_, rfl⟩
    rw [← eμ2] at hP
    replace hm := bV_of hm eμ2
    refine lv_goto (tgt := 27) hx hb dL_foresee_12 (by decide) ?_
    refine lv_iconst (v := (0 : Int32)) hx hb dL_foresee_27 (by decide) ?_
    cases hm
    refine vx_ret ?_
    exact W.iret hx hb hr (fun t ht hW => ⟨⟨_, (), rfl, rfl, tPost_of hP ht⟩, hS.F ht⟩) hS.2.2 dL_foresee_28
  · obtain ⟨⟨-, -, -⟩, h4, ⟨h5, h6, h7⟩, -, -⟩ := hX
    rcases hE with ⟨hk, rfl⟩ | ⟨hk, rfl⟩ | ⟨hk, rfl⟩
    · rw [if_neg (by rw [hk]; decide)] at hm
      rw [if_neg (by rw [hk]; decide)] at hm
      rw [if_pos hk] at hm
      refine vx_catch hown [⟨0, 12, 15, 34⟩] ⟨0, 12, 19, 13⟩ [⟨0, 12, 23, 19⟩] htab (by intro z hz; simp only [List.mem_cons, List.not_mem_nil, or_false] at hz; subst hz; exact Or.inr ⟨by decide, _, (hts _ (List.mem_of_getElem? (i := 1) rfl)), h6⟩) rfl (by decide) (hts _ (List.mem_of_getElem? (i := 2) rfl)) (va_Nw.use rfl (h4 _ (List.mem_append_right _ (List.mem_append_right _ (List.mem_append_right _ (List.mem_of_getElem? (i := 0) rfl)))))) hc1 hc2 hc3 ?_
      refine lv_astore (lv' := [(5, .ref q9), (0, .ref (base + a1)), (1, .int a2), (2, .int a3), (3, .int a4), (4, .ref (base + a5))]) hx hb dL_foresee_19 hl (by decide) rfl (fun ls hl => ?_)
      refine lv_iconst (v := (2 : Int32)) hx hb dL_foresee_21 (by decide) ?_
      cases hm
      refine vx_ret ?_
      exact W.iret hx hb hr (fun t ht hW => ⟨⟨_, (), rfl, rfl, tPost_of hP ht⟩, hS.F ht⟩) hS.2.2 dL_foresee_22
    · rw [if_neg (by rw [hk]; decide)] at hm
      rw [if_neg (by rw [hk]; decide)] at hm
      rw [if_neg (by rw [hk]; decide)] at hm
      rw [if_pos hk] at hm
      refine vx_catch hown [⟨0, 12, 15, 34⟩, ⟨0, 12, 19, 13⟩] ⟨0, 12, 23, 19⟩ [] htab (by intro z hz; simp only [List.mem_cons, List.not_mem_nil, or_false] at hz; rcases hz with rfl | rfl; exact Or.inr ⟨by decide, _, (hts _ (List.mem_of_getElem? (i := 1) rfl)), h7⟩; exact Or.inr ⟨by decide, _, (hts _ (List.mem_of_getElem? (i := 2) rfl)), h5⟩) rfl (by decide) (hts _ (List.mem_of_getElem? (i := 3) rfl)) (va_Nw.use rfl (h4 _ (List.mem_append_right _ (List.mem_append_right _ (List.mem_append_right _ (List.mem_of_getElem? (i := 1) rfl)))))) hc1 hc2 hc3 ?_
      refine lv_astore (lv' := [(5, .ref q9), (0, .ref (base + a1)), (1, .int a2), (2, .int a3), (3, .int a4), (4, .ref (base + a5))]) hx hb dL_foresee_23 hl (by decide) rfl (fun ls hl => ?_)
      refine lv_iconst (v := (3 : Int32)) hx hb dL_foresee_25 (by decide) ?_
      cases hm
      refine vx_ret ?_
      exact W.iret hx hb hr (fun t ht hW => ⟨⟨_, (), rfl, rfl, tPost_of hP ht⟩, hS.F ht⟩) hS.2.2 dL_foresee_26
    · rw [if_neg (by rw [hk]; decide)] at hm
      rw [if_pos hk] at hm
      refine vx_catch hown [] ⟨0, 12, 15, 34⟩ [⟨0, 12, 19, 13⟩, ⟨0, 12, 23, 19⟩] htab (fun z hz => absurd hz List.not_mem_nil) rfl (by decide) (hts _ (List.mem_of_getElem? (i := 1) rfl)) (va_Nw.use rfl (h4 _ (List.mem_append_right _ (List.mem_append_right _ (List.mem_append_right _ (List.mem_of_getElem? (i := 2) rfl)))))) hc1 hc2 hc3 ?_
      refine lv_astore (lv' := [(5, .ref q9), (0, .ref (base + a1)), (1, .int a2), (2, .int a3), (3, .int a4), (4, .ref (base + a5))]) hx hb dL_foresee_15 hl (by decide) rfl (fun ls hl => ?_)
      refine lv_iconst (v := (1 : Int32)) hx hb dL_foresee_17 (by decide) ?_
      cases hm
      refine vx_ret ?_
      exact W.iret hx hb hr (fun t ht hW => ⟨⟨_, (), rfl, rfl, tPost_of hP ht⟩, hS.F ht⟩) hS.2.2 dL_foresee_18
abbrev rmL_advise : Room := { frames := 8, cells := 3, slots := 18, locals := 203 }
set_option maxHeartbeats 4000000 in
set_option maxRecDepth 100000 in
theorem mL_advise (l : Launch) (hlt : l.stackTraces = false) (D : va_G) (cA : Nat → ClassId) (base sz : Nat) (μ : MM) {a1 : Nat} (ha1 : kc a1 = 6) (a2 : Int32) (a3 : Int32) {a4 : Nat} (ha4 : kc a4 = 101) {r : Int32} {μ' : MM} (hm : L_advise a1 a2 a3 a4 μ = some (r, μ')) : vx_Met l yL_advise wsL_advise rmL_advise (va_Pc [.ref (base + a1), .int a2, .int a3, .ref (base + a4)] (tPreX D cA base sz μ)) (va_Qi (fun (x : Int32) (_ : Unit) => x = r) (fun _ => tPost D cA base μ') (tA base sz)) (vx_X (fun _ : Unit => False) (fun _ _ _ => True) (tA base sz)) 3 18 (tA base sz) := by
  refine vx_ofWH (cc := cL_advise) (maxL := 5) (ret := (some .int)) (hh := [(0, 10, 13, 34), (0, 10, 17, 13), (0, 10, 21, 19)]) (by decide) rfl ?_
  intro p e s m args below meth c s₁ B hml hv
  obtain ⟨rfl, ⟨hsz, hP, hK, hN⟩, hX⟩ := hv
  have hx := B.exec
  have hb := B.bytes
  have hr := B.returns
  have hts := atoms_spec (ws := wsL_advise) B.pre
  have htab := vx_table (x := yL_advise) B (hts _ (List.mem_of_getElem? (i := 0) rfl))
  have hown : s.vm.findClass RL = some m.cls := findClass_of_methodNamed B.named
  have hlocks := B.notSynchronized
  subst hsz
  have hS : va_S (tA base s.heap.size) s.heap s.heap [] := va_S.rf
  have hl := lv_entry ([.ref (base + a1), .int a2, .int a3, .ref (base + a4)]) (n := 5) (Nat.le_of_ble_eq_true rfl)
  rw [lg_entry_eq]
  generalize (lg_sl ([.ref (base + a1), .int a2, .int a3, .ref (base + a4)]) ++ List.replicate (5 - (lg_sl ([.ref (base + a1), .int a2, .int a3, .ref (base + a4)])).length) Slot.unset).toArray = ls at hl ⊢
  have hl : lv_has ls 5 [(0, .ref (base + a1)), (1, .int a2), (2, .int a3), (3, .ref (base + a4))] := hl
  unfold L_advise at hm
  refine lv_aload_n hx hb dL_advise_0 rfl (lv_at hl 3 rfl) ?_
  refine lv_iconst (v := (0 : Int32)) hx hb dL_advise_1 (by decide) ?_
  refine lv_aload_n hx hb dL_advise_2 rfl (lv_at hl 0 rfl) ?_
  refine lv_iload_n hx hb dL_advise_3 rfl (lv_at hl 1 rfl) ?_
  refine lv_iload_n hx hb dL_advise_4 rfl (lv_at hl 2 rfl) ?_
  obtain ⟨kd, r1, μ1, hc, hm⟩ := bO3_inv hm
  refine t_cVx (As := [.int a2, .int a3]) (rest := [.int (0 : Int32), .ref (base + a4)]) (μ' := μ1) (r := r1) ⟨hx, hb, hml, hown, hts⟩ (mX6_advise l hlt D cA base s.heap.size μ ha1 a2 a3 hc) (cwV 2 hts gL_advise_X6_advise rfl rfl rfl (by decide +kernel) ⟨Nat.le_of_ble_eq_true rfl, Nat.le_of_ble_eq_true rfl⟩) (va_recv hK hP (q0 := a1) rfl (tw_obj ha1 (by decide))) hK hN hX hP hS rfl hl.1 (Nat.le_of_ble_eq_true rfl) dL_advise_5 ⟨Nat.le_of_ble_eq_true rfl, Nat.le_of_ble_eq_true rfl⟩ rfl (fun hkd H locs hP hS => ?_) (fun E H locs ce q9 hE hP hS hc1 hc2 hc3 => ?_)
  · rw [if_pos hkd] at hm
    refine lv_i2l (v := r1.toInt64) hx hb dL_advise_8 rfl ?_
    obtain ⟨hg1, hm⟩ := gd_inv hm
    refine t_last hx hb hK hP (tD _ _ _ _) hS ha4 hg1 dL_advise_9 (fun H locs hP hS => ?_)
    obtain ⟨μ2, eμ2⟩ : ∃ z : MM, z = wL μ1 a4 (0 : Int32).toNatClampNeg r1.toInt64 := ⟨_, rfl⟩
    rw [← eμ2] at hP
    replace hm := bV_of hm eμ2
    refine lv_goto (tgt := 25) hx hb dL_advise_10 (by decide) ?_
    refine lv_iconst (v := (0 : Int32)) hx hb dL_advise_25 (by decide) ?_
    cases hm
    refine vx_ret ?_
    exact W.iret hx hb hr (fun t ht hW => ⟨⟨_, (), rfl, rfl, tPost_of hP ht⟩, hS.F ht⟩) hS.2.2 dL_advise_26
  · obtain ⟨⟨-, -, -⟩, h4, ⟨h5, h6, h7⟩, -, -⟩ := hX
    rcases hE with ⟨hk, rfl⟩ | ⟨hk, rfl⟩ | ⟨hk, rfl⟩
    · rw [if_neg (by rw [hk]; decide)] at hm
      rw [if_neg (by rw [hk]; decide)] at hm
      rw [if_pos hk] at hm
      refine vx_catch hown [⟨0, 10, 13, 34⟩] ⟨0, 10, 17, 13⟩ [⟨0, 10, 21, 19⟩] htab (by intro z hz; simp only [List.mem_cons, List.not_mem_nil, or_false] at hz; subst hz; exact Or.inr ⟨by decide, _, (hts _ (List.mem_of_getElem? (i := 1) rfl)), h6⟩) rfl (by decide) (hts _ (List.mem_of_getElem? (i := 2) rfl)) (va_Nw.use rfl (h4 _ (List.mem_append_right _ (List.mem_append_right _ (List.mem_append_right _ (List.mem_of_getElem? (i := 0) rfl)))))) hc1 hc2 hc3 ?_
      refine lv_astore (lv' := [(4, .ref q9), (0, .ref (base + a1)), (1, .int a2), (2, .int a3), (3, .ref (base + a4))]) hx hb dL_advise_17 hl (by decide) rfl (fun ls hl => ?_)
      refine lv_iconst (v := (2 : Int32)) hx hb dL_advise_19 (by decide) ?_
      cases hm
      refine vx_ret ?_
      exact W.iret hx hb hr (fun t ht hW => ⟨⟨_, (), rfl, rfl, tPost_of hP ht⟩, hS.F ht⟩) hS.2.2 dL_advise_20
    · rw [if_neg (by rw [hk]; decide)] at hm
      rw [if_neg (by rw [hk]; decide)] at hm
      rw [if_neg (by rw [hk]; decide)] at hm
      rw [if_pos hk] at hm
      refine vx_catch hown [⟨0, 10, 13, 34⟩, ⟨0, 10, 17, 13⟩] ⟨0, 10, 21, 19⟩ [] htab (by intro z hz; simp only [List.mem_cons, List.not_mem_nil, or_false] at hz; rcases hz with rfl | rfl; exact Or.inr ⟨by decide, _, (hts _ (List.mem_of_getElem? (i := 1) rfl)), h7⟩; exact Or.inr ⟨by decide, _, (hts _ (List.mem_of_getElem? (i := 2) rfl)), h5⟩) rfl (by decide) (hts _ (List.mem_of_getElem? (i := 3) rfl)) (va_Nw.use rfl (h4 _ (List.mem_append_right _ (List.mem_append_right _ (List.mem_append_right _ (List.mem_of_getElem? (i := 1) rfl)))))) hc1 hc2 hc3 ?_
      refine lv_astore (lv' := [(4, .ref q9), (0, .ref (base + a1)), (1, .int a2), (2, .int a3), (3, .ref (base + a4))]) hx hb dL_advise_21 hl (by decide) rfl (fun ls hl => ?_)
      refine lv_iconst (v := (3 : Int32)) hx hb dL_advise_23 (by decide) ?_
      cases hm
      refine vx_ret ?_
      exact W.iret hx hb hr (fun t ht hW => ⟨⟨_, (), rfl, rfl, tPost_of hP ht⟩, hS.F ht⟩) hS.2.2 dL_advise_24
    · rw [if_neg (by rw [hk]; decide)] at hm
      rw [if_pos hk] at hm
      refine vx_catch hown [] ⟨0, 10, 13, 34⟩ [⟨0, 10, 17, 13⟩, ⟨0, 10, 21, 19⟩] htab (fun z hz => absurd hz List.not_mem_nil) rfl (by decide) (hts _ (List.mem_of_getElem? (i := 1) rfl)) (va_Nw.use rfl (h4 _ (List.mem_append_right _ (List.mem_append_right _ (List.mem_append_right _ (List.mem_of_getElem? (i := 2) rfl)))))) hc1 hc2 hc3 ?_
      refine lv_astore (lv' := [(4, .ref q9), (0, .ref (base + a1)), (1, .int a2), (2, .int a3), (3, .ref (base + a4))]) hx hb dL_advise_13 hl (by decide) rfl (fun ls hl => ?_)
      refine lv_iconst (v := (1 : Int32)) hx hb dL_advise_15 (by decide) ?_
      cases hm
      refine vx_ret ?_
      exact W.iret hx hb hr (fun t ht hW => ⟨⟨_, (), rfl, rfl, tPost_of hP ht⟩, hS.F ht⟩) hS.2.2 dL_advise_16
