abbrev rmX6_tryOut : Room := { frames := 6, cells := 0, slots := 0, locals := 153 }
set_option maxHeartbeats 4000000 in
set_option maxRecDepth 100000 in
theorem mX6_tryOut (l : Launch) (D : va_G) (cA : Nat → ClassId) (base sz : Nat) (μ : MM) {q : Nat} (hq : kc q = 6) (a1 : Int32) (a2 : Int32) (a3 : Int32) {r : Int32} {μ' : MM} (hm : X6_tryOut q a1 a2 a3 μ = some (r, μ')) : Met l yX6_tryOut wsX6_tryOut rmX6_tryOut (va_Pc [.ref (base + q), .int a1, .int a2, .int a3] (tPre D cA base sz μ)) (va_Qi (fun (x : Int32) (_ : Unit) => x = r) (fun _ => tPost D cA base μ') (tA base sz)) 0 0 (tA base sz) := by
  refine Met.ofW (cc := cX6_tryOut) (maxL := 4) (ret := (some .int)) (by decide +kernel) rfl ?_
  intro p e s m args below meth c s₁ B hml hv
  obtain ⟨rfl, hsz, hP, hK, hN⟩ := hv
  have hx := B.exec
  have hb := B.bytes
  have hr := B.returns
  have hts := atoms_spec (ws := wsX6_tryOut) B.pre
  have hown : s.vm.findClass RX6 = some m.cls := findClass_of_methodNamed B.named
  have hlocks := B.notSynchronized
  have hin6 : ∀ w ∈ wsX60, w ∈ wsX6_tryOut := by decide +kernel
  subst hsz
  have hS : va_S (tA base s.heap.size) s.heap s.heap [] := va_S.rf
  have hz : s.heap.size ≤ s.heap.size := Nat.le_refl _
  have hl := lv_entry ([.ref (base + q), .int a1, .int a2, .int a3]) (n := 4) (Nat.le_of_ble_eq_true rfl)
  rw [lg_entry_eq]
  generalize (lg_sl ([.ref (base + q), .int a1, .int a2, .int a3]) ++ List.replicate (4 - (lg_sl ([.ref (base + q), .int a1, .int a2, .int a3])).length) Slot.unset).toArray = ls at hl ⊢
  have hl : lv_has ls 4 [(0, .ref (base + q)), (1, .int a1), (2, .int a2), (3, .int a3)] := hl
  unfold X6_tryOut at hm
  refine lv_aload_n hx hb dX6_tryOut_0 rfl (lv_at hl 0 rfl) ?_
  refine t_getr (C := RX6) (T := TX6) (N := 2) hx hb hts hin6 hown hK hP hq rfl rfl 1 (by decide) (fr6_1 hq) (hts _ (List.mem_of_getElem? (i := 1) rfl)) dX6_tryOut_1 ?_
  refine lv_aload_n hx hb dX6_tryOut_4 rfl (lv_at hl 0 rfl) ?_
  refine t_getr (C := RX6) (T := TX6) (N := 2) hx hb hts hin6 hown hK hP hq rfl rfl 0 (by decide) (fr6_0 hq) (hts _ (List.mem_of_getElem? (i := 2) rfl)) dX6_tryOut_5 ?_
  obtain ⟨μ1, hc2, hm⟩ := bO1_inv hm
  refine t_cVv (As := [.ref (base + (RF q 0))]) (rest := []) (μ' := μ1) ⟨hx, hb, hml, hown, hts⟩ (mX5_copyFrom l D cA base s.heap.size μ (kr6_1 hq) (kr6_0 hq) hc2) (cwV 1 hts gX6_tryOut_X5_copyFrom rfl rfl rfl (by decide +kernel) ⟨Nat.le_of_ble_eq_true rfl, Nat.le_of_ble_eq_true rfl⟩) (va_recv hK hP (q0 := RF q 1) rfl (tw_obj (kr6_1 hq) (by decide))) hK hN hP hS hz rfl hl.1 (Nat.le_of_ble_eq_true rfl) dX6_tryOut_8 ⟨Nat.le_of_ble_eq_true rfl, Nat.le_of_ble_eq_true rfl⟩ rfl (fun H locs hP hS => ?_)
  refine lv_aload_n hx hb dX6_tryOut_11 rfl (lv_at hl 0 rfl) ?_
  refine t_getr (C := RX6) (T := TX6) (N := 2) hx hb hts hin6 hown hK hP hq rfl rfl 1 (by decide) (fr6_1 hq) (hts _ (List.mem_of_getElem? (i := 1) rfl)) dX6_tryOut_12 ?_
  refine lv_iload_n hx hb dX6_tryOut_15 rfl (lv_at hl 1 rfl) ?_
  refine lv_iload_n hx hb dX6_tryOut_16 rfl (lv_at hl 2 rfl) ?_
  obtain ⟨r3, μ4, hc5, hm⟩ := bO2_inv hm
  refine t_cVi (As := [.int a1, .int a2]) (rest := []) (μ' := μ4) (r := r3) ⟨hx, hb, hml, hown, hts⟩ (mX5_seat l D cA base H.size μ1 (kr6_1 hq) a1 a2 hc5) (cwV 2 hts gX6_tryOut_X5_seat rfl rfl rfl (by decide +kernel) ⟨Nat.le_of_ble_eq_true rfl, Nat.le_of_ble_eq_true rfl⟩) (va_recv hK hP (q0 := RF q 1) rfl (tw_obj (kr6_1 hq) (by decide))) hK hN hP hS hz rfl hl.1 (Nat.le_of_ble_eq_true rfl) dX6_tryOut_17 ⟨Nat.le_of_ble_eq_true rfl, Nat.le_of_ble_eq_true rfl⟩ rfl (fun H locs hP hS => ?_)
  refine lv_pop hx hb dX6_tryOut_20 rfl ?_
  refine lv_aload_n hx hb dX6_tryOut_21 rfl (lv_at hl 0 rfl) ?_
  refine t_getr (C := RX6) (T := TX6) (N := 2) hx hb hts hin6 hown hK hP hq rfl rfl 1 (by decide) (fr6_1 hq) (hts _ (List.mem_of_getElem? (i := 1) rfl)) dX6_tryOut_22 ?_
  refine lv_iload_n hx hb dX6_tryOut_25 rfl (lv_at hl 3 rfl) ?_
  obtain ⟨r6, μ7, hc8, hm⟩ := bO2_inv hm
  refine t_cVi (As := [.int a3]) (rest := []) (μ' := μ7) (r := r6) ⟨hx, hb, hml, hown, hts⟩ (mX5_goOn l D cA base H.size μ4 (kr6_1 hq) a3 hc8) (cwV 1 hts gX6_tryOut_X5_goOn rfl rfl rfl (by decide +kernel) ⟨Nat.le_of_ble_eq_true rfl, Nat.le_of_ble_eq_true rfl⟩) (va_recv hK hP (q0 := RF q 1) rfl (tw_obj (kr6_1 hq) (by decide))) hK hN hP hS hz rfl hl.1 (Nat.le_of_ble_eq_true rfl) dX6_tryOut_26 ⟨Nat.le_of_ble_eq_true rfl, Nat.le_of_ble_eq_true rfl⟩ rfl (fun H locs hP hS => ?_)
  refine lv_pop hx hb dX6_tryOut_29 rfl ?_
  refine lv_aload_n hx hb dX6_tryOut_30 rfl (lv_at hl 0 rfl) ?_
  refine t_getr (C := RX6) (T := TX6) (N := 2) hx hb hts hin6 hown hK hP hq rfl rfl 1 (by decide) (fr6_1 hq) (hts _ (List.mem_of_getElem? (i := 1) rfl)) dX6_tryOut_31 ?_
  refine lv_iload_n hx hb dX6_tryOut_34 rfl (lv_at hl 1 rfl) ?_
  obtain ⟨r9, μ10, hc11, hm⟩ := bO2_inv hm
  refine t_cVi (As := [.int a1]) (rest := []) (μ' := μ10) (r := r9) ⟨hx, hb, hml, hown, hts⟩ (mX5_cameThroughAt l D cA base H.size μ7 (kr6_1 hq) a1 hc11) (cwV 1 hts gX6_tryOut_X5_cameThroughAt rfl rfl rfl (by decide +kernel) ⟨Nat.le_of_ble_eq_true rfl, Nat.le_of_ble_eq_true rfl⟩) (va_recv hK hP (q0 := RF q 1) rfl (tw_obj (kr6_1 hq) (by decide))) hK hN hP hS hz rfl hl.1 (Nat.le_of_ble_eq_true rfl) dX6_tryOut_35 ⟨Nat.le_of_ble_eq_true rfl, Nat.le_of_ble_eq_true rfl⟩ rfl (fun H locs hP hS => ?_)
  cases hm
  exact W.iret hx hb hr (fun t ht hW => ⟨⟨_, (), rfl, rfl, tPost_of hP ht⟩, hS.F ht⟩) hS.2.2 dX6_tryOut_38
abbrev rmX6_digest : Room := { frames := 6, cells := 0, slots := 0, locals := 140 }
set_option maxHeartbeats 4000000 in
set_option maxRecDepth 100000 in
theorem lX6_digest_L6 {p : Program} {l : Launch} {e : Env} {s : State} {m : MethodId} {args : Array Value} {below : List Frame} {meth : Method} {c : Code} {Q : State → Prop} {D : va_G} {cA : Nat → ClassId} {base sz0 : Nat} {H0 : Heap} (FX : CallFix p m c cX6_digest 5 s args wsX6_digest RX6) (hK : va_K D vwCl (tys cA) s) (hN : tN s) (hz : sz0 ≤ H0.size) {o0 : Nat} (ho0 : kc o0 = 6) (μ : MM) {cells slots : Nat} (hcs : cells ≤ 0 ∧ slots ≤ 0) :
    ∀ (n : Nat) (v1 : Int64) (v3 : Int32) (H : Heap) (locs : List Loc) (ls : Array Slot) (w1 : Int64), X6_digest_L6 o0 μ n v1 v3 = some w1 → va_P D vwCl (tw base cA μ []) H → va_S (tA base sz0) H0 H locs → lv_has ls 5 [(0, .ref (base + o0)), (1, .long v1), (3, .int v3)] → (∀ (H : Heap) (locs : List Loc) (ls : Array Slot), va_P D vwCl (tw base cA μ []) H → va_S (tA base sz0) H0 H locs → lv_has ls 5 [(0, .ref (base + o0)), (1, .long w1)] → W p l e rmX6_digest s m args below meth c H locs cells slots Q (F0 m 34 ls [])) → W p l e rmX6_digest s m args below meth c H locs cells slots Q (F0 m 6 ls []) := by
  obtain ⟨hx, hb, hml, hown, hts⟩ := FX
  have hin6 : ∀ w ∈ wsX60, w ∈ wsX6_digest := by decide +kernel
  intro n
  induction n with
  | zero =>
    intro v1 v3 H locs ls w1 hm
    cases hm
  | succ n ih =>
    intro v1 v3 H locs ls w1 hm hP hS hl K
    rw [X6_digest_L6_s] at hm
    refine lv_iload_n hx hb dX6_digest_6 rfl (lv_at hl 2 rfl) ?_
    refine lv_bipush (v := (10 : Int32)) hx hb dX6_digest_7 (by decide) ?_
    refine lv_icmp_ge (tgt := 34) hx hb dX6_digest_9 (by decide) (fun c2 => ?_) (fun c2 => ?_)
    · rw [if_pos c2] at hm
      cases hm
      exact K _ _ _ hP hS (lv_sub hl [0, 1] rfl)
    · rw [if_neg c2] at hm
      refine lv_lload_n hx hb dX6_digest_12 rfl (lv_at hl 1 rfl) ?_
      refine lv_ldc2 (v := (31 : Int64)) hx hb hown (hts _ (List.mem_of_getElem? (i := 2) rfl)) dX6_digest_13 ?_
      refine lv_lmul hx hb dX6_digest_16 ?_
      refine lv_aload_n hx hb dX6_digest_17 rfl (lv_at hl 0 rfl) ?_
      refine t_getr (C := RX6) (T := TX6) (N := 2) hx hb hts hin6 hown hK hP ho0 rfl rfl 0 (by decide) (fr6_0 ho0) (hts _ (List.mem_of_getElem? (i := 3) rfl)) dX6_digest_18 ?_
      refine lv_iload_n hx hb dX6_digest_21 rfl (lv_at hl 2 rfl) ?_
      obtain ⟨r3, hc4, hm⟩ := bO1_inv hm
      refine t_cVi (As := [.int v3]) (rest := [.long (v1 * (31 : Int64))]) (μ' := μ) (r := r3) ⟨hx, hb, hml, hown, hts⟩ (mX5_tellCount l D cA base H.size μ (kr6_0 ho0) v3 hc4) (cwV 1 hts gX6_digest_X5_tellCount rfl rfl rfl (by decide +kernel) ⟨Nat.le_of_ble_eq_true rfl, Nat.le_of_ble_eq_true rfl⟩) (va_recv hK hP (q0 := RF o0 0) rfl (tw_obj (kr6_0 ho0) (by decide))) hK hN hP hS hz rfl hl.1 (Nat.le_of_ble_eq_true rfl) dX6_digest_22 hcs rfl (fun H locs hP hS => ?_)
      refine lv_i2l (v := r3.toInt64) hx hb dX6_digest_25 rfl ?_
      refine lv_ladd hx hb dX6_digest_26 ?_
      refine lv_topl (fun x5 ex5 => ?_)
      replace hm := bV_of hm ex5
      refine lv_lstore_n (lv' := [(1, .long x5), (0, .ref (base + o0)), (3, .int v3)]) hx hb dX6_digest_27 rfl hl (by decide) rfl (fun ls hl => ?_)
      obtain ⟨x6, ex6⟩ : ∃ z : Int32, z = v3 + (1 : Int32) := ⟨_, rfl⟩
      replace hm := bV_of hm ex6
      refine lv_iinc (v := x6) (lv' := [(3, .int x6), (1, .long x5), (0, .ref (base + o0))]) hx hb dX6_digest_28 hl (k := 2) rfl (by rw [ex6]; rfl) (by decide) rfl (fun ls hl => ?_)
      refine lv_goto (tgt := 6) hx hb dX6_digest_31 (by decide) ?_
      exact ih x5 x6 _ _ _ w1 hm hP hS (lv_sub hl [2, 1, 0] rfl) K
set_option maxHeartbeats 4000000 in
set_option maxRecDepth 100000 in
theorem lX6_digest_L50 {p : Program} {l : Launch} {e : Env} {s : State} {m : MethodId} {args : Array Value} {below : List Frame} {meth : Method} {c : Code} {Q : State → Prop} {D : va_G} {cA : Nat → ClassId} {base sz0 : Nat} {H0 : Heap} (FX : CallFix p m c cX6_digest 5 s args wsX6_digest RX6) (hK : va_K D vwCl (tys cA) s) (hN : tN s) (hz : sz0 ≤ H0.size) {o0 : Nat} (ho0 : kc o0 = 6) (b3 : Int32) (μ : MM) {cells slots : Nat} (hcs : cells ≤ 0 ∧ slots ≤ 0) :
    ∀ (n : Nat) (v1 : Int64) (v4 : Int32) (H : Heap) (locs : List Loc) (ls : Array Slot) (w1 : Int64), X6_digest_L50 o0 b3 μ n v1 v4 = some w1 → va_P D vwCl (tw base cA μ []) H → va_S (tA base sz0) H0 H locs → lv_has ls 5 [(0, .ref (base + o0)), (3, .int b3), (1, .long v1), (4, .int v4)] → (∀ (H : Heap) (locs : List Loc) (ls : Array Slot), va_P D vwCl (tw base cA μ []) H → va_S (tA base sz0) H0 H locs → lv_has ls 5 [(0, .ref (base + o0)), (3, .int b3), (1, .long w1)] → W p l e rmX6_digest s m args below meth c H locs cells slots Q (F0 m 85 ls [])) → W p l e rmX6_digest s m args below meth c H locs cells slots Q (F0 m 50 ls []) := by
  obtain ⟨hx, hb, hml, hown, hts⟩ := FX
  have hin5 : ∀ w ∈ wsX50, w ∈ wsX6_digest := by decide +kernel
  have hin6 : ∀ w ∈ wsX60, w ∈ wsX6_digest := by decide +kernel
  intro n
  induction n with
  | zero =>
    intro v1 v4 H locs ls w1 hm
    cases hm
  | succ n ih =>
    intro v1 v4 H locs ls w1 hm hP hS hl K
    rw [X6_digest_L50_s] at hm
    refine lv_iload hx hb dX6_digest_50 (lv_at hl 3 rfl) ?_
    refine lv_bipush (v := (7 : Int32)) hx hb dX6_digest_52 (by decide) ?_
    refine lv_icmp_ge (tgt := 85) hx hb dX6_digest_54 (by decide) (fun c10 => ?_) (fun c10 => ?_)
    · rw [if_pos c10] at hm
      cases hm
      exact K _ _ _ hP hS (lv_sub hl [0, 1, 2] rfl)
    · rw [if_neg c10] at hm
      refine lv_lload_n hx hb dX6_digest_57 rfl (lv_at hl 2 rfl) ?_
      refine lv_ldc2 (v := (31 : Int64)) hx hb hown (hts _ (List.mem_of_getElem? (i := 2) rfl)) dX6_digest_58 ?_
      refine lv_lmul hx hb dX6_digest_61 ?_
      refine lv_aload_n hx hb dX6_digest_62 rfl (lv_at hl 0 rfl) ?_
      refine t_getr (C := RX6) (T := TX6) (N := 2) hx hb hts hin6 hown hK hP ho0 rfl rfl 0 (by decide) (fr6_0 ho0) (hts _ (List.mem_of_getElem? (i := 3) rfl)) dX6_digest_63 ?_
      refine t_getr (C := RX5) (T := TX5) (N := 9) hx hb hts hin5 hown hK hP (kr6_0 ho0) rfl rfl 4 (by decide) (fr5_4 (kr6_0 ho0)) (hts _ (List.mem_of_getElem? (i := 5) rfl)) dX6_digest_66 ?_
      refine lv_iload_n hx hb dX6_digest_69 rfl (lv_at hl 1 rfl) ?_
      obtain ⟨hg11, hm⟩ := gd_inv hm
      refine t_aald3 hx hb hK hP (kr5_4 (kr6_0 ho0)) hg11 dX6_digest_70 ?_
      refine lv_iload hx hb dX6_digest_71 (lv_at hl 3 rfl) ?_
      refine t_cVi (As := [.int v4]) (rest := [.long (v1 * (31 : Int64))]) (μ' := μ) (r := (X2_tell (RF (RF (RF o0 0) 4) b3.toNatClampNeg) v4 μ)) ⟨hx, hb, hml, hown, hts⟩ (mX2_tell l D cA base H.size μ (ka103 (kr5_4 (kr6_0 ho0)) hg11) v4 rfl) (cwV 1 hts gX6_digest_X2_tell rfl rfl rfl (by decide +kernel) ⟨Nat.le_of_ble_eq_true rfl, Nat.le_of_ble_eq_true rfl⟩) (va_recv hK hP (q0 := RF (RF (RF o0 0) 4) b3.toNatClampNeg) rfl (tw_obj (ka103 (kr5_4 (kr6_0 ho0)) hg11) (by decide))) hK hN hP hS hz rfl hl.1 (Nat.le_of_ble_eq_true rfl) dX6_digest_73 hcs rfl (fun H locs hP hS => ?_)
      refine lv_i2l (v := (X2_tell (RF (RF (RF o0 0) 4) b3.toNatClampNeg) v4 μ).toInt64) hx hb dX6_digest_76 rfl ?_
      refine lv_ladd hx hb dX6_digest_77 ?_
      refine lv_topl (fun x14 ex14 => ?_)
      replace hm := bV_of hm ex14
      refine lv_lstore_n (lv' := [(1, .long x14), (0, .ref (base + o0)), (3, .int b3), (4, .int v4)]) hx hb dX6_digest_78 rfl hl (by decide) rfl (fun ls hl => ?_)
      obtain ⟨x15, ex15⟩ : ∃ z : Int32, z = v4 + (1 : Int32) := ⟨_, rfl⟩
      replace hm := bV_of hm ex15
      refine lv_iinc (v := x15) (lv' := [(4, .int x15), (1, .long x14), (0, .ref (base + o0)), (3, .int b3)]) hx hb dX6_digest_79 hl (k := 3) rfl (by rw [ex15]; rfl) (by decide) rfl (fun ls hl => ?_)
      refine lv_goto (tgt := 50) hx hb dX6_digest_82 (by decide) ?_
      exact ih x14 x15 _ _ _ w1 hm hP hS (lv_sub hl [2, 3, 1, 0] rfl) K
set_option maxHeartbeats 4000000 in
set_option maxRecDepth 100000 in
theorem lX6_digest_L36 {p : Program} {l : Launch} {e : Env} {s : State} {m : MethodId} {args : Array Value} {below : List Frame} {meth : Method} {c : Code} {Q : State → Prop} {D : va_G} {cA : Nat → ClassId} {base sz0 : Nat} {H0 : Heap} (FX : CallFix p m c cX6_digest 5 s args wsX6_digest RX6) (hK : va_K D vwCl (tys cA) s) (hN : tN s) (hz : sz0 ≤ H0.size) {o0 : Nat} (ho0 : kc o0 = 6) (μ : MM) {cells slots : Nat} (hcs : cells ≤ 0 ∧ slots ≤ 0) :
    ∀ (n : Nat) (v1 : Int64) (v3 : Int32) (H : Heap) (locs : List Loc) (ls : Array Slot) (w1 : Int64), X6_digest_L36 o0 μ n v1 v3 = some w1 → va_P D vwCl (tw base cA μ []) H → va_S (tA base sz0) H0 H locs → lv_has ls 5 [(0, .ref (base + o0)), (1, .long v1), (3, .int v3)] → (∀ (H : Heap) (locs : List Loc) (ls : Array Slot), va_P D vwCl (tw base cA μ []) H → va_S (tA base sz0) H0 H locs → lv_has ls 5 [(0, .ref (base + o0)), (1, .long w1)] → W p l e rmX6_digest s m args below meth c H locs cells slots Q (F0 m 91 ls [])) → W p l e rmX6_digest s m args below meth c H locs cells slots Q (F0 m 36 ls []) := by
  obtain ⟨hx, hb, hml, hown, hts⟩ := FX
  have hin5 : ∀ w ∈ wsX50, w ∈ wsX6_digest := by decide +kernel
  have hin6 : ∀ w ∈ wsX60, w ∈ wsX6_digest := by decide +kernel
  intro n
  induction n with
  | zero =>
    intro v1 v3 H locs ls w1 hm
    cases hm
  | succ n ih =>
    intro v1 v3 H locs ls w1 hm hP hS hl K
    rw [X6_digest_L36_s] at hm
    refine lv_iload_n hx hb dX6_digest_36 rfl (lv_at hl 2 rfl) ?_
    refine lv_aload_n hx hb dX6_digest_37 rfl (lv_at hl 0 rfl) ?_
    refine t_getr (C := RX6) (T := TX6) (N := 2) hx hb hts hin6 hown hK hP ho0 rfl rfl 0 (by decide) (fr6_0 ho0) (hts _ (List.mem_of_getElem? (i := 3) rfl)) dX6_digest_38 ?_
    refine t_geti (C := RX5) (T := TX5) (N := 9) hx hb hts hin5 hown hK hP (kr6_0 ho0) rfl rfl 7 (by decide) (fk5_7 (kr6_0 ho0)) (hts _ (List.mem_of_getElem? (i := 4) rfl)) dX6_digest_41 ?_
    refine lv_icmp_ge (tgt := 91) hx hb dX6_digest_44 (by decide) (fun c9 => ?_) (fun c9 => ?_)
    · rw [if_pos c9] at hm
      cases hm
      exact K _ _ _ hP hS (lv_sub hl [0, 1] rfl)
    · rw [if_neg c9] at hm
      refine lv_iconst (v := (0 : Int32)) hx hb dX6_digest_47 (by decide) ?_
      refine lv_istore (lv' := [(4, .int (0 : Int32)), (0, .ref (base + o0)), (1, .long v1), (3, .int v3)]) hx hb dX6_digest_48 hl (by decide) rfl (fun ls hl => ?_)
      obtain ⟨x16, hc17, hm⟩ := bO1_inv hm
      refine lX6_digest_L50 ⟨hx, hb, hml, hown, hts⟩ hK hN hz ho0 v3 μ hcs 1000 v1 (0 : Int32) _ _ _ x16 hc17 hP hS (lv_sub hl [1, 3, 2, 0] rfl) ?_
      intro H locs ls hP hS hl
      obtain ⟨x18, ex18⟩ : ∃ z : Int32, z = v3 + (1 : Int32) := ⟨_, rfl⟩
      replace hm := bV_of hm ex18
      refine lv_iinc (v := x18) (lv' := [(3, .int x18), (0, .ref (base + o0)), (1, .long x16)]) hx hb dX6_digest_85 hl (k := 1) rfl (by rw [ex18]; rfl) (by decide) rfl (fun ls hl => ?_)
      refine lv_goto (tgt := 36) hx hb dX6_digest_88 (by decide) ?_
      exact ih x16 x18 _ _ _ w1 hm hP hS (lv_sub hl [1, 2, 0] rfl) K
set_option maxHeartbeats 4000000 in
set_option maxRecDepth 100000 in
theorem lX6_digest_L107 {p : Program} {l : Launch} {e : Env} {s : State} {m : MethodId} {args : Array Value} {below : List Frame} {meth : Method} {c : Code} {Q : State → Prop} {D : va_G} {cA : Nat → ClassId} {base sz0 : Nat} {H0 : Heap} (FX : CallFix p m c cX6_digest 5 s args wsX6_digest RX6) (hK : va_K D vwCl (tys cA) s) (hN : tN s) (hz : sz0 ≤ H0.size) {o0 : Nat} (ho0 : kc o0 = 6) (b3 : Int32) {cells slots : Nat} (hcs : cells ≤ 0 ∧ slots ≤ 0) :
    ∀ (n : Nat) (v1 : Int64) (v4 : Int32) (μ : MM) (H : Heap) (locs : List Loc) (ls : Array Slot) (w1 : Int64) (μ' : MM), X6_digest_L107 o0 b3 n v1 v4 μ = some (w1, μ') → va_P D vwCl (tw base cA μ []) H → va_S (tA base sz0) H0 H locs → lv_has ls 5 [(0, .ref (base + o0)), (3, .int b3), (1, .long v1), (4, .int v4)] → (∀ (H : Heap) (locs : List Loc) (ls : Array Slot), va_P D vwCl (tw base cA μ' []) H → va_S (tA base sz0) H0 H locs → lv_has ls 5 [(0, .ref (base + o0)), (3, .int b3), (1, .long w1)] → W p l e rmX6_digest s m args below meth c H locs cells slots Q (F0 m 138 ls [])) → W p l e rmX6_digest s m args below meth c H locs cells slots Q (F0 m 107 ls []) := by
  obtain ⟨hx, hb, hml, hown, hts⟩ := FX
  have hin6 : ∀ w ∈ wsX60, w ∈ wsX6_digest := by decide +kernel
  intro n
  induction n with
  | zero =>
    intro v1 v4 μ H locs ls w1 μ' hm
    cases hm
  | succ n ih =>
    intro v1 v4 μ H locs ls w1 μ' hm hP hS hl K
    rw [X6_digest_L107_s] at hm
    refine lv_iload hx hb dX6_digest_107 (lv_at hl 3 rfl) ?_
    refine lv_bipush (v := (12 : Int32)) hx hb dX6_digest_109 (by decide) ?_
    refine lv_icmp_ge (tgt := 138) hx hb dX6_digest_111 (by decide) (fun c22 => ?_) (fun c22 => ?_)
    · rw [if_pos c22] at hm
      cases hm
      exact K _ _ _ hP hS (lv_sub hl [0, 1, 2] rfl)
    · rw [if_neg c22] at hm
      refine lv_lload_n hx hb dX6_digest_114 rfl (lv_at hl 2 rfl) ?_
      refine lv_ldc2 (v := (31 : Int64)) hx hb hown (hts _ (List.mem_of_getElem? (i := 2) rfl)) dX6_digest_115 ?_
      refine lv_lmul hx hb dX6_digest_118 ?_
      refine lv_aload_n hx hb dX6_digest_119 rfl (lv_at hl 0 rfl) ?_
      refine t_getr (C := RX6) (T := TX6) (N := 2) hx hb hts hin6 hown hK hP ho0 rfl rfl 0 (by decide) (fr6_0 ho0) (hts _ (List.mem_of_getElem? (i := 3) rfl)) dX6_digest_120 ?_
      refine lv_iload_n hx hb dX6_digest_123 rfl (lv_at hl 1 rfl) ?_
      refine lv_iload hx hb dX6_digest_124 (lv_at hl 3 rfl) ?_
      obtain ⟨r23, μ24, hc25, hm⟩ := bO2_inv hm
      refine t_cVi (As := [.int b3, .int v4]) (rest := [.long (v1 * (31 : Int64))]) (μ' := μ24) (r := r23) ⟨hx, hb, hml, hown, hts⟩ (mX5_tellBooth l D cA base H.size μ (kr6_0 ho0) b3 v4 hc25) (cwV 2 hts gX6_digest_X5_tellBooth rfl rfl rfl (by decide +kernel) ⟨Nat.le_of_ble_eq_true rfl, Nat.le_of_ble_eq_true rfl⟩) (va_recv hK hP (q0 := RF o0 0) rfl (tw_obj (kr6_0 ho0) (by decide))) hK hN hP hS hz rfl hl.1 (Nat.le_of_ble_eq_true rfl) dX6_digest_126 hcs rfl (fun H locs hP hS => ?_)
      refine lv_i2l (v := r23.toInt64) hx hb dX6_digest_129 rfl ?_
      refine lv_ladd hx hb dX6_digest_130 ?_
      refine lv_topl (fun x26 ex26 => ?_)
      replace hm := bV_of hm ex26
      refine lv_lstore_n (lv' := [(1, .long x26), (0, .ref (base + o0)), (3, .int b3), (4, .int v4)]) hx hb dX6_digest_131 rfl hl (by decide) rfl (fun ls hl => ?_)
      obtain ⟨x27, ex27⟩ : ∃ z : Int32, z = v4 + (1 : Int32) := ⟨_, rfl⟩
      replace hm := bV_of hm ex27
      refine lv_iinc (v := x27) (lv' := [(4, .int x27), (1, .long x26), (0, .ref (base + o0)), (3, .int b3)]) hx hb dX6_digest_132 hl (k := 3) rfl (by rw [ex27]; rfl) (by decide) rfl (fun ls hl => ?_)
      refine lv_goto (tgt := 107) hx hb dX6_digest_135 (by decide) ?_
      exact ih x26 x27 μ24 _ _ _ w1 μ' hm hP hS (lv_sub hl [2, 3, 1, 0] rfl) K
set_option maxHeartbeats 4000000 in
set_option maxRecDepth 100000 in
theorem lX6_digest_L93 {p : Program} {l : Launch} {e : Env} {s : State} {m : MethodId} {args : Array Value} {below : List Frame} {meth : Method} {c : Code} {Q : State → Prop} {D : va_G} {cA : Nat → ClassId} {base sz0 : Nat} {H0 : Heap} (FX : CallFix p m c cX6_digest 5 s args wsX6_digest RX6) (hK : va_K D vwCl (tys cA) s) (hN : tN s) (hz : sz0 ≤ H0.size) {o0 : Nat} (ho0 : kc o0 = 6) {cells slots : Nat} (hcs : cells ≤ 0 ∧ slots ≤ 0) :
    ∀ (n : Nat) (v1 : Int64) (v3 : Int32) (μ : MM) (H : Heap) (locs : List Loc) (ls : Array Slot) (w1 : Int64) (μ' : MM), X6_digest_L93 o0 n v1 v3 μ = some (w1, μ') → va_P D vwCl (tw base cA μ []) H → va_S (tA base sz0) H0 H locs → lv_has ls 5 [(0, .ref (base + o0)), (1, .long v1), (3, .int v3)] → (∀ (H : Heap) (locs : List Loc) (ls : Array Slot), va_P D vwCl (tw base cA μ' []) H → va_S (tA base sz0) H0 H locs → lv_has ls 5 [(0, .ref (base + o0)), (1, .long w1)] → W p l e rmX6_digest s m args below meth c H locs cells slots Q (F0 m 144 ls [])) → W p l e rmX6_digest s m args below meth c H locs cells slots Q (F0 m 93 ls []) := by
  obtain ⟨hx, hb, hml, hown, hts⟩ := FX
  have hin5 : ∀ w ∈ wsX50, w ∈ wsX6_digest := by decide +kernel
  have hin6 : ∀ w ∈ wsX60, w ∈ wsX6_digest := by decide +kernel
  intro n
  induction n with
  | zero =>
    intro v1 v3 μ H locs ls w1 μ' hm
    cases hm
  | succ n ih =>
    intro v1 v3 μ H locs ls w1 μ' hm hP hS hl K
    rw [X6_digest_L93_s] at hm
    refine lv_iload_n hx hb dX6_digest_93 rfl (lv_at hl 2 rfl) ?_
    refine lv_aload_n hx hb dX6_digest_94 rfl (lv_at hl 0 rfl) ?_
    refine t_getr (C := RX6) (T := TX6) (N := 2) hx hb hts hin6 hown hK hP ho0 rfl rfl 0 (by decide) (fr6_0 ho0) (hts _ (List.mem_of_getElem? (i := 3) rfl)) dX6_digest_95 ?_
    refine t_geti (C := RX5) (T := TX5) (N := 9) hx hb hts hin5 hown hK hP (kr6_0 ho0) rfl rfl 6 (by decide) (fk5_6 (kr6_0 ho0)) (hts _ (List.mem_of_getElem? (i := 6) rfl)) dX6_digest_98 ?_
    refine lv_icmp_ge (tgt := 144) hx hb dX6_digest_101 (by decide) (fun c21 => ?_) (fun c21 => ?_)
    · rw [if_pos c21] at hm
      cases hm
      exact K _ _ _ hP hS (lv_sub hl [0, 1] rfl)
    · rw [if_neg c21] at hm
      refine lv_iconst (v := (0 : Int32)) hx hb dX6_digest_104 (by decide) ?_
      refine lv_istore (lv' := [(4, .int (0 : Int32)), (0, .ref (base + o0)), (1, .long v1), (3, .int v3)]) hx hb dX6_digest_105 hl (by decide) rfl (fun ls hl => ?_)
      obtain ⟨x28, μ29, hc30, hm⟩ := bO2_inv hm
      refine lX6_digest_L107 ⟨hx, hb, hml, hown, hts⟩ hK hN hz ho0 v3 hcs 1000 v1 (0 : Int32) μ _ _ _ x28 μ29 hc30 hP hS (lv_sub hl [1, 3, 2, 0] rfl) ?_
      intro H locs ls hP hS hl
      obtain ⟨x31, ex31⟩ : ∃ z : Int32, z = v3 + (1 : Int32) := ⟨_, rfl⟩
      replace hm := bV_of hm ex31
      refine lv_iinc (v := x31) (lv' := [(3, .int x31), (0, .ref (base + o0)), (1, .long x28)]) hx hb dX6_digest_138 hl (k := 1) rfl (by rw [ex31]; rfl) (by decide) rfl (fun ls hl => ?_)
      refine lv_goto (tgt := 93) hx hb dX6_digest_141 (by decide) ?_
      exact ih x28 x31 μ29 _ _ _ w1 μ' hm hP hS (lv_sub hl [1, 2, 0] rfl) K
set_option maxHeartbeats 4000000 in
set_option maxRecDepth 100000 in
theorem lX6_digest_L146 {p : Program} {l : Launch} {e : Env} {s : State} {m : MethodId} {args : Array Value} {below : List Frame} {meth : Method} {c : Code} {Q : State → Prop} {D : va_G} {cA : Nat → ClassId} {base sz0 : Nat} {H0 : Heap} (FX : CallFix p m c cX6_digest 5 s args wsX6_digest RX6) (hK : va_K D vwCl (tys cA) s) (hN : tN s) (hz : sz0 ≤ H0.size) {o0 : Nat} (ho0 : kc o0 = 6) (μ : MM) {cells slots : Nat} (hcs : cells ≤ 0 ∧ slots ≤ 0) :
    ∀ (n : Nat) (v1 : Int64) (v3 : Int32) (H : Heap) (locs : List Loc) (ls : Array Slot) (w1 : Int64), X6_digest_L146 o0 μ n v1 v3 = some w1 → va_P D vwCl (tw base cA μ []) H → va_S (tA base sz0) H0 H locs → lv_has ls 5 [(0, .ref (base + o0)), (1, .long v1), (3, .int v3)] → (∀ (H : Heap) (locs : List Loc) (ls : Array Slot), va_P D vwCl (tw base cA μ []) H → va_S (tA base sz0) H0 H locs → lv_has ls 5 [(1, .long w1)] → W p l e rmX6_digest s m args below meth c H locs cells slots Q (F0 m 176 ls [])) → W p l e rmX6_digest s m args below meth c H locs cells slots Q (F0 m 146 ls []) := by
  obtain ⟨hx, hb, hml, hown, hts⟩ := FX
  have hin5 : ∀ w ∈ wsX50, w ∈ wsX6_digest := by decide +kernel
  have hin6 : ∀ w ∈ wsX60, w ∈ wsX6_digest := by decide +kernel
  intro n
  induction n with
  | zero =>
    intro v1 v3 H locs ls w1 hm
    cases hm
  | succ n ih =>
    intro v1 v3 H locs ls w1 hm hP hS hl K
    rw [X6_digest_L146_s] at hm
    refine lv_iload_n hx hb dX6_digest_146 rfl (lv_at hl 2 rfl) ?_
    refine lv_aload_n hx hb dX6_digest_147 rfl (lv_at hl 0 rfl) ?_
    refine t_getr (C := RX6) (T := TX6) (N := 2) hx hb hts hin6 hown hK hP ho0 rfl rfl 0 (by decide) (fr6_0 ho0) (hts _ (List.mem_of_getElem? (i := 3) rfl)) dX6_digest_148 ?_
    refine t_geti (C := RX5) (T := TX5) (N := 9) hx hb hts hin5 hown hK hP (kr6_0 ho0) rfl rfl 6 (by decide) (fk5_6 (kr6_0 ho0)) (hts _ (List.mem_of_getElem? (i := 6) rfl)) dX6_digest_151 ?_
    refine lv_icmp_ge (tgt := 176) hx hb dX6_digest_154 (by decide) (fun c35 => ?_) (fun c35 => ?_)
    · rw [if_pos c35] at hm
      cases hm
      exact K _ _ _ hP hS (lv_sub hl [1] rfl)
    · rw [if_neg c35] at hm
      refine lv_aload_n hx hb dX6_digest_157 rfl (lv_at hl 0 rfl) ?_
      refine t_getr (C := RX6) (T := TX6) (N := 2) hx hb hts hin6 hown hK hP ho0 rfl rfl 0 (by decide) (fr6_0 ho0) (hts _ (List.mem_of_getElem? (i := 3) rfl)) dX6_digest_158 ?_
      refine lv_iload_n hx hb dX6_digest_161 rfl (lv_at hl 2 rfl) ?_
      obtain ⟨r36, hc37, hm⟩ := bO1_inv hm
      refine t_cVr (As := [.int v3]) (rest := []) (μ' := μ) (r := r36) ⟨hx, hb, hml, hown, hts⟩ (mX5_speechOf l D cA base H.size μ (kr6_0 ho0) v3 hc37) (cwV 1 hts gX6_digest_X5_speechOf rfl rfl rfl (by decide +kernel) ⟨Nat.le_of_ble_eq_true rfl, Nat.le_of_ble_eq_true rfl⟩) (va_recv hK hP (q0 := RF o0 0) rfl (tw_obj (kr6_0 ho0) (by decide))) hK hN hP hS hz rfl hl.1 (Nat.le_of_ble_eq_true rfl) dX6_digest_162 hcs rfl (fun H locs hP hS => ?_)
      refine lv_lload_n hx hb dX6_digest_165 rfl (lv_at hl 1 rfl) ?_
      obtain ⟨r38, hc39, hm⟩ := bO1_inv hm
      refine t_cVl (As := [.long v1]) (rest := []) (μ' := μ) (r := r38) ⟨hx, hb, hml, hown, hts⟩ (mX4_mixInto l D cA base H.size μ (ktX5_speechOf (kr6_0 ho0) hc37) v1 hc39) (cwV 1 hts gX6_digest_X4_mixInto rfl rfl rfl (by decide +kernel) ⟨Nat.le_of_ble_eq_true rfl, Nat.le_of_ble_eq_true rfl⟩) (va_recv hK hP (q0 := r36) rfl (tw_obj (ktX5_speechOf (kr6_0 ho0) hc37) (by decide))) hK hN hP hS hz rfl hl.1 (Nat.le_of_ble_eq_true rfl) dX6_digest_166 hcs rfl (fun H locs hP hS => ?_)
      refine lv_lstore_n (lv' := [(1, .long r38), (0, .ref (base + o0)), (3, .int v3)]) hx hb dX6_digest_169 rfl hl (by decide) rfl (fun ls hl => ?_)
      obtain ⟨x40, ex40⟩ : ∃ z : Int32, z = v3 + (1 : Int32) := ⟨_, rfl⟩
      replace hm := bV_of hm ex40
      refine lv_iinc (v := x40) (lv' := [(3, .int x40), (1, .long r38), (0, .ref (base + o0))]) hx hb dX6_digest_170 hl (k := 2) rfl (by rw [ex40]; rfl) (by decide) rfl (fun ls hl => ?_)
      refine lv_goto (tgt := 146) hx hb dX6_digest_173 (by decide) ?_
      exact ih r38 x40 _ _ _ w1 hm hP hS (lv_sub hl [2, 1, 0] rfl) K
set_option maxHeartbeats 4000000 in
set_option maxRecDepth 100000 in
theorem mX6_digest (l : Launch) (D : va_G) (cA : Nat → ClassId) (base sz : Nat) (μ : MM) {q : Nat} (hq : kc q = 6) {r : Int64} {μ' : MM} (hm : X6_digest q μ = some (r, μ')) : Met l yX6_digest wsX6_digest rmX6_digest (va_Pc [.ref (base + q)] (tPre D cA base sz μ)) (va_Ql (fun (x : Int64) (_ : Unit) => x = r) (fun _ => tPost D cA base μ') (tA base sz)) 0 0 (tA base sz) := by
  refine Met.ofW (cc := cX6_digest) (maxL := 5) (ret := (some .long)) (by decide +kernel) rfl ?_
  intro p e s m args below meth c s₁ B hml hv
  obtain ⟨rfl, hsz, hP, hK, hN⟩ := hv
  have hx := B.exec
  have hb := B.bytes
  have hr := B.returns
  have hts := atoms_spec (ws := wsX6_digest) B.pre
  have hown : s.vm.findClass RX6 = some m.cls := findClass_of_methodNamed B.named
  have hlocks := B.notSynchronized
  subst hsz
  have hS : va_S (tA base s.heap.size) s.heap s.heap [] := va_S.rf
  have hz : s.heap.size ≤ s.heap.size := Nat.le_refl _
  have hl := lv_entry ([.ref (base + q)]) (n := 5) (Nat.le_of_ble_eq_true rfl)
  rw [lg_entry_eq]
  generalize (lg_sl ([.ref (base + q)]) ++ List.replicate (5 - (lg_sl ([.ref (base + q)])).length) Slot.unset).toArray = ls at hl ⊢
  have hl : lv_has ls 5 [(0, .ref (base + q))] := hl
  unfold X6_digest at hm
  refine lv_ldc2 (v := (523 : Int64)) hx hb hown (hts _ (List.mem_of_getElem? (i := 1) rfl)) dX6_digest_0 ?_
  refine lv_topl (fun x1 ex1 => ?_)
  replace hm := bV_of hm ex1
  refine lv_lstore_n (lv' := [(1, .long x1), (0, .ref (base + q))]) hx hb dX6_digest_3 rfl hl (by decide) rfl (fun ls hl => ?_)
  refine lv_iconst (v := (0 : Int32)) hx hb dX6_digest_4 (by decide) ?_
  refine lv_istore_n (lv' := [(3, .int (0 : Int32)), (1, .long x1), (0, .ref (base + q))]) hx hb dX6_digest_5 rfl hl (by decide) rfl (fun ls hl => ?_)
  obtain ⟨x7, hc8, hm⟩ := bO1_inv hm
  refine lX6_digest_L6 ⟨hx, hb, hml, hown, hts⟩ hK hN hz hq μ ⟨Nat.le_of_ble_eq_true rfl, Nat.le_of_ble_eq_true rfl⟩ 1000 x1 (0 : Int32) _ _ _ x7 hc8 hP hS (lv_sub hl [2, 1, 0] rfl) ?_
  intro H locs ls hP hS hl
  refine lv_iconst (v := (0 : Int32)) hx hb dX6_digest_34 (by decide) ?_
  refine lv_istore_n (lv' := [(3, .int (0 : Int32)), (0, .ref (base + q)), (1, .long x7)]) hx hb dX6_digest_35 rfl hl (by decide) rfl (fun ls hl => ?_)
  obtain ⟨x19, hc20, hm⟩ := bO1_inv hm
  refine lX6_digest_L36 ⟨hx, hb, hml, hown, hts⟩ hK hN hz hq μ ⟨Nat.le_of_ble_eq_true rfl, Nat.le_of_ble_eq_true rfl⟩ 1000 x7 (0 : Int32) _ _ _ x19 hc20 hP hS (lv_sub hl [1, 2, 0] rfl) ?_
  intro H locs ls hP hS hl
  refine lv_iconst (v := (0 : Int32)) hx hb dX6_digest_91 (by decide) ?_
  refine lv_istore_n (lv' := [(3, .int (0 : Int32)), (0, .ref (base + q)), (1, .long x19)]) hx hb dX6_digest_92 rfl hl (by decide) rfl (fun ls hl => ?_)
  obtain ⟨x32, μ33, hc34, hm⟩ := bO2_inv hm
  refine lX6_digest_L93 ⟨hx, hb, hml, hown, hts⟩ hK hN hz hq ⟨Nat.le_of_ble_eq_true rfl, Nat.le_of_ble_eq_true rfl⟩ 1000 x19 (0 : Int32) μ _ _ _ x32 μ33 hc34 hP hS (lv_sub hl [1, 2, 0] rfl) ?_
  intro H locs ls hP hS hl
  refine lv_iconst (v := (-1 : Int32)) hx hb dX6_digest_144 (by decide) ?_
  refine lv_istore_n (lv' := [(3, .int (-1 : Int32)), (0, .ref (base + q)), (1, .long x32)]) hx hb dX6_digest_145 rfl hl (by decide) rfl (fun ls hl => ?_)
  obtain ⟨x41, hc42, hm⟩ := bO1_inv hm
  refine lX6_digest_L146 ⟨hx, hb, hml, hown, hts⟩ hK hN hz hq μ33 ⟨Nat.le_of_ble_eq_true rfl, Nat.le_of_ble_eq_true rfl⟩ 1000 x32 (-1 : Int32) _ _ _ x41 hc42 hP hS (lv_sub hl [1, 2, 0] rfl) ?_
  intro H locs ls hP hS hl
  refine lv_lload_n hx hb dX6_digest_176 rfl (lv_at hl 0 rfl) ?_
  cases hm
  exact W.lret hx hb hr (fun t ht hW => ⟨⟨_, (), rfl, rfl, tPost_of hP ht⟩, hS.F ht⟩) hS.2.2 dX6_digest_177
abbrev rmX6_demand : Room := { frames := 6, cells := 1, slots := 6, locals := 82 }
set_option maxHeartbeats 4000000 in
set_option maxRecDepth 100000 in
theorem mX6_demand (l : Launch) (hlt : l.stackTraces = false) (D : va_G) (cA : Nat → ClassId) (base sz : Nat) (μ : MM) (a1 : Int32) : vx_Met l yX6_demand wsX6_demand rmX6_demand (va_Pc [.int a1] (tPreX D cA base sz μ)) (va_Qv (fun _ : Unit => ¬ a1 = 0) (fun _ => tPost D cA base μ) (tA base sz)) (vx_X (fun _ : Unit => a1 = 0) (fun E _ t => E = eA ∧ tPost D cA base μ t) (tA base sz)) 1 6 (tA base sz) := by
  refine vx_ofW (cc := cX6_demand) (maxL := 1) (ret := none) (by decide) rfl ?_
  intro p e s m args below meth c s₁ B hml hxt hv
  obtain ⟨rfl, ⟨hsz, hP, hK, hN⟩, hX⟩ := hv
  have hx := B.exec
  have hb := B.bytes
  have hr := B.returns
  have hts := atoms_spec (ws := wsX6_demand) B.pre
  have hown : s.vm.findClass RX6 = some m.cls := findClass_of_methodNamed B.named
  have hlocks := B.notSynchronized
  subst hsz
  have hS : va_S (tA base s.heap.size) s.heap s.heap [] := va_S.rf
  have hl := lv_entry ([.int a1]) (n := 1) (Nat.le_of_ble_eq_true rfl)
  rw [lg_entry_eq]
  generalize (lg_sl ([.int a1]) ++ List.replicate (1 - (lg_sl ([.int a1])).length) Slot.unset).toArray = ls at hl ⊢
  have hl : lv_has ls 1 [(0, .int a1)] := hl
  obtain ⟨⟨⟨b1, h1⟩, ⟨b2, h2⟩, ⟨b3, h3⟩⟩, h4, ⟨h5, h6, h7⟩, h8, h9⟩ := hX
  refine lv_iload_n hx hb dX6_demand_0 rfl (lv_at hl 0 rfl) ?_
  refine lv_if_ne (tgt := 14) hx hb dX6_demand_1 (by decide) (fun c1 => ?_) (fun c1 => ?_)
  · refine vx_ret ?_
    refine W.widen (k := 1) (n := 6) (Nat.le_of_ble_eq_true rfl) (Nat.le_of_ble_eq_true rfl) ?_
    exact W.vret hx hb hr (fun t ht hW => ⟨⟨(), rfl, c1, tPost_of hP ht⟩, hS.F ht⟩) hS.2.2 dX6_demand_14
  · have hat : ∀ w ∈ vx_atS RX6 178 eA eN, w.before #[.int a1] s = true := vx_hat (B := xBad) (fun w hw => hts w (List.mem_cons_of_mem _ (List.mem_append_right _ hw))) (fun w hw => List.mem_append_left _ hw) (fun w hw => va_Nw.use (onT_DC (List.all_eq_true.mp xBad_DC w hw)) (h4 w hw))
    exact vx_throwS (own := RX6) (cls := eA) (text := "an argument is not allowed") (names := eN) (ik := 174) (is := 176) (ic := 178) hx hb hlt hown (by decide +kernel) (by decide +kernel) (hts _ (List.mem_of_getElem? (i := 1) rfl)) (hts _ (List.mem_of_getElem? (i := 2) rfl)) h2 hat (by decide +kernel) h8 h9 hS (hl.1.trans hml.symm) dX6_demand_4 dX6_demand_7 dX6_demand_8 dX6_demand_10 dX6_demand_13 (fun x hx => (hxt x hx).elim) (by decide) (Nat.le_of_ble_eq_true rfl) (Nat.le_of_ble_eq_true rfl) (Nat.le_of_ble_eq_true rfl) hlocks (fun t ha hz hq => ⟨(), c1, ⟨rfl, fun k q hk => (hP k q hk).kept (hq q.1 (hP k q hk).lt)⟩, hz, fun q h1 h2 => hq q h1⟩) hS.2.2 (Nat.le_refl _) (Nat.le_refl _)
abbrev rmX6_allow : Room := { frames := 6, cells := 1, slots := 6, locals := 82 }
set_option maxHeartbeats 4000000 in
set_option maxRecDepth 100000 in
theorem mX6_allow (l : Launch) (hlt : l.stackTraces = false) (D : va_G) (cA : Nat → ClassId) (base sz : Nat) (μ : MM) (a1 : Int32) : vx_Met l yX6_allow wsX6_allow rmX6_allow (va_Pc [.int a1] (tPreX D cA base sz μ)) (va_Qv (fun _ : Unit => ¬ a1 = 0) (fun _ => tPost D cA base μ) (tA base sz)) (vx_X (fun _ : Unit => a1 = 0) (fun E _ t => E = eS ∧ tPost D cA base μ t) (tA base sz)) 1 6 (tA base sz) := by
  refine vx_ofW (cc := cX6_allow) (maxL := 1) (ret := none) (by decide) rfl ?_
  intro p e s m args below meth c s₁ B hml hxt hv
  obtain ⟨rfl, ⟨hsz, hP, hK, hN⟩, hX⟩ := hv
  have hx := B.exec
  have hb := B.bytes
  have hr := B.returns
  have hts := atoms_spec (ws := wsX6_allow) B.pre
  have hown : s.vm.findClass RX6 = some m.cls := findClass_of_methodNamed B.named
  have hlocks := B.notSynchronized
  subst hsz
  have hS : va_S (tA base s.heap.size) s.heap s.heap [] := va_S.rf
  have hl := lv_entry ([.int a1]) (n := 1) (Nat.le_of_ble_eq_true rfl)
  rw [lg_entry_eq]
  generalize (lg_sl ([.int a1]) ++ List.replicate (1 - (lg_sl ([.int a1])).length) Slot.unset).toArray = ls at hl ⊢
  have hl : lv_has ls 1 [(0, .int a1)] := hl
  obtain ⟨⟨⟨b1, h1⟩, ⟨b2, h2⟩, ⟨b3, h3⟩⟩, h4, ⟨h5, h6, h7⟩, h8, h9⟩ := hX
  refine lv_iload_n hx hb dX6_allow_0 rfl (lv_at hl 0 rfl) ?_
  refine lv_if_ne (tgt := 14) hx hb dX6_allow_1 (by decide) (fun c1 => ?_) (fun c1 => ?_)
  · refine vx_ret ?_
    refine W.widen (k := 1) (n := 6) (Nat.le_of_ble_eq_true rfl) (Nat.le_of_ble_eq_true rfl) ?_
    exact W.vret hx hb hr (fun t ht hW => ⟨⟨(), rfl, c1, tPost_of hP ht⟩, hS.F ht⟩) hS.2.2 dX6_allow_14
  · have hat : ∀ w ∈ vx_atS RX6 183 eS eN, w.before #[.int a1] s = true := vx_hat (B := xBad) (fun w hw => hts w (List.mem_cons_of_mem _ (List.mem_append_right _ hw))) (fun w hw => List.mem_append_right _ (List.mem_append_left _ hw)) (fun w hw => va_Nw.use (onT_DC (List.all_eq_true.mp xBad_DC w hw)) (h4 w hw))
    exact vx_throwS (own := RX6) (cls := eS) (text := "there is no room for it") (names := eN) (ik := 179) (is := 181) (ic := 183) hx hb hlt hown (by decide +kernel) (by decide +kernel) (hts _ (List.mem_of_getElem? (i := 1) rfl)) (hts _ (List.mem_of_getElem? (i := 2) rfl)) h3 hat (by decide +kernel) h8 h9 hS (hl.1.trans hml.symm) dX6_allow_4 dX6_allow_7 dX6_allow_8 dX6_allow_10 dX6_allow_13 (fun x hx => (hxt x hx).elim) (by decide) (Nat.le_of_ble_eq_true rfl) (Nat.le_of_ble_eq_true rfl) (Nat.le_of_ble_eq_true rfl) hlocks (fun t ha hz hq => ⟨(), c1, ⟨rfl, fun k q hk => (hP k q hk).kept (hq q.1 (hP k q hk).lt)⟩, hz, fun q h1 h2 => hq q h1⟩) hS.2.2 (Nat.le_refl _) (Nat.le_refl _)
abbrev rmX6_find : Room := { frames := 6, cells := 1, slots := 6, locals := 82 }
set_option maxHeartbeats 4000000 in
set_option maxRecDepth 100000 in
theorem mX6_find (l : Launch) (hlt : l.stackTraces = false) (D : va_G) (cA : Nat → ClassId) (base sz : Nat) (μ : MM) (a1 : Int32) : vx_Met l yX6_find wsX6_find rmX6_find (va_Pc [.int a1] (tPreX D cA base sz μ)) (va_Qv (fun _ : Unit => ¬ a1 = 0) (fun _ => tPost D cA base μ) (tA base sz)) (vx_X (fun _ : Unit => a1 = 0) (fun E _ t => E = eX ∧ tPost D cA base μ t) (tA base sz)) 1 6 (tA base sz) := by
  refine vx_ofW (cc := cX6_find) (maxL := 1) (ret := none) (by decide) rfl ?_
  intro p e s m args below meth c s₁ B hml hxt hv
  obtain ⟨rfl, ⟨hsz, hP, hK, hN⟩, hX⟩ := hv
  have hx := B.exec
  have hb := B.bytes
  have hr := B.returns
  have hts := atoms_spec (ws := wsX6_find) B.pre
  have hown : s.vm.findClass RX6 = some m.cls := findClass_of_methodNamed B.named
  have hlocks := B.notSynchronized
  subst hsz
  have hS : va_S (tA base s.heap.size) s.heap s.heap [] := va_S.rf
  have hl := lv_entry ([.int a1]) (n := 1) (Nat.le_of_ble_eq_true rfl)
  rw [lg_entry_eq]
  generalize (lg_sl ([.int a1]) ++ List.replicate (1 - (lg_sl ([.int a1])).length) Slot.unset).toArray = ls at hl ⊢
  have hl : lv_has ls 1 [(0, .int a1)] := hl
  obtain ⟨⟨⟨b1, h1⟩, ⟨b2, h2⟩, ⟨b3, h3⟩⟩, h4, ⟨h5, h6, h7⟩, h8, h9⟩ := hX
  refine lv_iload_n hx hb dX6_find_0 rfl (lv_at hl 0 rfl) ?_
  refine lv_if_ne (tgt := 14) hx hb dX6_find_1 (by decide) (fun c1 => ?_) (fun c1 => ?_)
  · refine vx_ret ?_
    refine W.widen (k := 1) (n := 6) (Nat.le_of_ble_eq_true rfl) (Nat.le_of_ble_eq_true rfl) ?_
    exact W.vret hx hb hr (fun t ht hW => ⟨⟨(), rfl, c1, tPost_of hP ht⟩, hS.F ht⟩) hS.2.2 dX6_find_14
  · have hat : ∀ w ∈ vx_atS RX6 171 eX eN, w.before #[.int a1] s = true := vx_hat (B := xBad) (fun w hw => hts w (List.mem_cons_of_mem _ (List.mem_append_right _ hw))) (fun w hw => List.mem_append_right _ (List.mem_append_right _ (List.mem_append_left _ hw))) (fun w hw => va_Nw.use (onT_DC (List.all_eq_true.mp xBad_DC w hw)) (h4 w hw))
    exact vx_throwS (own := RX6) (cls := eX) (text := "there is no such thing") (names := eN) (ik := 167) (is := 169) (ic := 171) hx hb hlt hown (by decide +kernel) (by decide +kernel) (hts _ (List.mem_of_getElem? (i := 1) rfl)) (hts _ (List.mem_of_getElem? (i := 2) rfl)) h1 hat (by decide +kernel) h8 h9 hS (hl.1.trans hml.symm) dX6_find_4 dX6_find_7 dX6_find_8 dX6_find_10 dX6_find_13 (fun x hx => (hxt x hx).elim) (by decide) (Nat.le_of_ble_eq_true rfl) (Nat.le_of_ble_eq_true rfl) (Nat.le_of_ble_eq_true rfl) hlocks (fun t ha hz hq => ⟨(), c1, ⟨rfl, fun k q hk => (hP k q hk).kept (hq q.1 (hP k q hk).lt)⟩, hz, fun q h1 h2 => hq q h1⟩) hS.2.2 (Nat.le_refl _) (Nat.le_refl _)
abbrev rmX6_setFloor : Room := { frames := 7, cells := 1, slots := 6, locals := 102 }
set_option maxHeartbeats 4000000 in
set_option maxRecDepth 100000 in
theorem mX6_setFloor (l : Launch) (hlt : l.stackTraces = false) (D : va_G) (cA : Nat → ClassId) (base sz : Nat) (μ : MM) {q : Nat} (hq : kc q = 6) (a1 : Int32) {kd : Nat} {r : Int32} {μ' : MM} (hm : X6_setFloor q a1 μ = some (kd, r, μ')) : vx_Met l yX6_setFloor wsX6_setFloor rmX6_setFloor (va_Pc [.ref (base + q), .int a1] (tPreX D cA base sz μ)) (va_Qi (fun (x : Int32) (_ : Unit) => kd = 0 ∧ x = r) (fun _ => tPost D cA base μ') (tA base sz)) (vx_X (fun _ : Unit => True) (fun E _ t => exn kd E ∧ tPost D cA base μ' t) (tA base sz)) 1 6 (tA base sz) := by
  refine vx_ofW (cc := cX6_setFloor) (maxL := 3) (ret := (some .int)) (by decide) rfl ?_
  intro p e s m args below meth c s₁ B hml hxt hv
  obtain ⟨rfl, ⟨hsz, hP, hK, hN⟩, hX⟩ := hv
  have hx := B.exec
  have hb := B.bytes
  have hr := B.returns
  have hts := atoms_spec (ws := wsX6_setFloor) B.pre
  have hown : s.vm.findClass RX6 = some m.cls := findClass_of_methodNamed B.named
  have hlocks := B.notSynchronized
  have hin5 : ∀ w ∈ wsX50, w ∈ wsX6_setFloor := by decide +kernel
  have hin6 : ∀ w ∈ wsX60, w ∈ wsX6_setFloor := by decide +kernel
  subst hsz
  have hS : va_S (tA base s.heap.size) s.heap s.heap [] := va_S.rf
  have hz : s.heap.size ≤ s.heap.size := Nat.le_refl _
  have hl := lv_entry ([.ref (base + q), .int a1]) (n := 3) (Nat.le_of_ble_eq_true rfl)
  rw [lg_entry_eq]
  generalize (lg_sl ([.ref (base + q), .int a1]) ++ List.replicate (3 - (lg_sl ([.ref (base + q), .int a1])).length) Slot.unset).toArray = ls at hl ⊢
  have hl : lv_has ls 3 [(0, .ref (base + q)), (1, .int a1)] := hl
  unfold X6_setFloor at hm
  refine lv_iload_n hx hb dX6_setFloor_0 rfl (lv_at hl 1 rfl) ?_
  refine lv_iconst (v := (0 : Int32)) hx hb dX6_setFloor_1 (by decide) ?_
  refine lv_bipush (v := (7 : Int32)) hx hb dX6_setFloor_2 (by decide) ?_
  refine t_cSi (As := [.int a1, .int (0 : Int32), .int (7 : Int32)]) (rest := []) (μ' := μ) (r := (X6_isWithin a1 (0 : Int32) (7 : Int32))) ⟨hx, hb, hml, hown, hts⟩ (mX6_isWithin l D cA base s.heap.size μ a1 (0 : Int32) (7 : Int32) rfl) (va_cwS 3 hts gX6_setFloor_X6_isWithin rfl rfl rfl (by decide +kernel) ⟨Nat.le_of_ble_eq_true rfl, Nat.le_of_ble_eq_true rfl⟩) hK hN hP hS hz rfl hl.1 (Nat.le_of_ble_eq_true rfl) dX6_setFloor_4 ⟨Nat.le_of_ble_eq_true rfl, Nat.le_of_ble_eq_true rfl⟩ rfl (fun H locs hP hS => ?_)
  refine t_chk (rest := []) ⟨hx, hb, hml, hown, hts⟩ (mX6_demand l hlt D cA base H.size μ (X6_isWithin a1 (0 : Int32) (7 : Int32))) (va_cwS 1 hts gX6_setFloor_X6_demand rfl rfl rfl (by decide +kernel) ⟨Nat.le_of_ble_eq_true rfl, Nat.le_of_ble_eq_true rfl⟩) hK hN hX hP hS rfl hl.1 (Nat.le_of_ble_eq_true rfl) dX6_setFloor_7 ⟨Nat.le_of_ble_eq_true rfl, Nat.le_of_ble_eq_true rfl⟩ (fun c3 H locs hP hS => ?_) (fun c3 H locs ce q9 hP hS hc1 hc2 hc3 => ?_)
  rotate_left
  · rw [if_pos c3] at hm
    cases hm
    refine vx_widen (k := 1) (n := 6) (Nat.le_of_ble_eq_true rfl) (Nat.le_of_ble_eq_true rfl) ?_
    exact vx_out (fun x hx => (hxt x hx).elim) hlocks hc1 hc2 hc3 (fun t ht hA => ⟨(), trivial, ⟨Or.inl ⟨rfl, rfl⟩, tPost_of hP ht⟩, hS.F ht⟩) hS.2.2 (Nat.le_refl _) (Nat.le_refl _)
  rw [if_neg c3] at hm
  refine lv_aload_n hx hb dX6_setFloor_10 rfl (lv_at hl 0 rfl) ?_
  refine t_getr (C := RX6) (T := TX6) (N := 2) hx hb hts hin6 hown hK hP hq rfl rfl 0 (by decide) (fr6_0 hq) (hts _ (List.mem_of_getElem? (i := 1) rfl)) dX6_setFloor_11 ?_
  refine t_geti (C := RX5) (T := TX5) (N := 9) hx hb hts hin5 hown hK hP (kr6_0 hq) rfl rfl 5 (by decide) (fk5_5 (kr6_0 hq)) (hts _ (List.mem_of_getElem? (i := 2) rfl)) dX6_setFloor_14 ?_
  refine lv_topi (fun x4 ex4 => ?_)
  replace hm := bV_of hm ex4
  refine lv_istore_n (lv' := [(2, .int x4), (0, .ref (base + q)), (1, .int a1)]) hx hb dX6_setFloor_17 rfl hl (by decide) rfl (fun ls hl => ?_)
  refine lv_aload_n hx hb dX6_setFloor_18 rfl (lv_at hl 1 rfl) ?_
  refine t_getr (C := RX6) (T := TX6) (N := 2) hx hb hts hin6 hown hK hP hq rfl rfl 0 (by decide) (fr6_0 hq) (hts _ (List.mem_of_getElem? (i := 1) rfl)) dX6_setFloor_19 ?_
  refine lv_iload_n hx hb dX6_setFloor_22 rfl (lv_at hl 2 rfl) ?_
  refine t_put (C := RX5) (T := TX5) (N := 9) hx hb hts hin5 tyX5 tyX5_ok nmX5 hown hK hP (tD _ _ _ _) hS (kr6_0 hq) rfl rfl 5 (by decide) (fk5_5 (kr6_0 hq)) (hts _ (List.mem_of_getElem? (i := 2) rfl)) rfl (by decide +kernel) dX6_setFloor_23 (fun H locs hP hS => ?_)
  obtain ⟨μ5, eμ5⟩ : ∃ z : MM, z = wI μ (RF q 0) 5 a1 := ⟨_, rfl⟩
  rw [← eμ5] at hP
  replace hm := bV_of hm eμ5
  refine lv_iload_n hx hb dX6_setFloor_26 rfl (lv_at hl 0 rfl) ?_
  cases hm
  refine vx_ret ?_
  refine W.widen (k := 1) (n := 6) (Nat.le_of_ble_eq_true rfl) (Nat.le_of_ble_eq_true rfl) ?_
  exact W.iret hx hb hr (fun t ht hW => ⟨⟨_, (), rfl, ⟨rfl, rfl⟩, tPost_of hP ht⟩, hS.F ht⟩) hS.2.2 dX6_setFloor_27
abbrev rmX6_speak : Room := { frames := 7, cells := 3, slots := 18, locals := 102 }
set_option maxHeartbeats 4000000 in
set_option maxRecDepth 100000 in
theorem lX6_speak_L67 {p : Program} {l : Launch} {e : Env} {s : State} {m : MethodId} {args : Array Value} {below : List Frame} {meth : Method} {c : Code} {Q : State → Prop} {D : va_G} {cA : Nat → ClassId} {base sz0 : Nat} {H0 : Heap} (FX : CallFix p m c cX6_speak 5 s args wsX6_speak RX6) (hK : va_K D vwCl (tys cA) s) (hN : tN s) (hz : sz0 ≤ H0.size) {o0 : Nat} (ho0 : kc o0 = 6) (b1 : Int32) (b2 : Int32) (b3 : Int32) {cells slots : Nat} (hcs : cells ≤ 3 ∧ slots ≤ 18) :
    ∀ (n : Nat) (v4 : Int32) (μ : MM) (H : Heap) (locs : List Loc) (ls : Array Slot) (μ' : MM), X6_speak_L67 o0 b1 b2 b3 n v4 μ = some μ' → va_P D vwCl (tw base cA μ []) H → va_S (tA base sz0) H0 H locs → lv_has ls 5 [(0, .ref (base + o0)), (1, .int b1), (2, .int b2), (3, .int b3), (4, .int v4)] → (∀ (H : Heap) (locs : List Loc) (ls : Array Slot), va_P D vwCl (tw base cA μ' []) H → va_S (tA base sz0) H0 H locs → lv_has ls 5 [(0, .ref (base + o0))] → W p l e rmX6_speak s m args below meth c H locs cells slots Q (F0 m 100 ls [])) → W p l e rmX6_speak s m args below meth c H locs cells slots Q (F0 m 67 ls []) := by
  obtain ⟨hx, hb, hml, hown, hts⟩ := FX
  have hin5 : ∀ w ∈ wsX50, w ∈ wsX6_speak := by decide +kernel
  have hin6 : ∀ w ∈ wsX60, w ∈ wsX6_speak := by decide +kernel
  intro n
  induction n with
  | zero =>
    intro v4 μ H locs ls μ' hm
    cases hm
  | succ n ih =>
    intro v4 μ H locs ls μ' hm hP hS hl K
    rw [X6_speak_L67_s] at hm
    refine lv_iload hx hb dX6_speak_67 (lv_at hl 4 rfl) ?_
    refine lv_iload_n hx hb dX6_speak_69 rfl (lv_at hl 3 rfl) ?_
    refine lv_icmp_ge (tgt := 100) hx hb dX6_speak_70 (by decide) (fun c16 => ?_) (fun c16 => ?_)
    · rw [if_pos c16] at hm
      cases hm
      exact K _ _ _ hP hS (lv_sub hl [0] rfl)
    · rw [if_neg c16] at hm
      refine lv_aload_n hx hb dX6_speak_73 rfl (lv_at hl 0 rfl) ?_
      refine t_getr (C := RX6) (T := TX6) (N := 2) hx hb hts hin6 hown hK hP ho0 rfl rfl 0 (by decide) (fr6_0 ho0) (hts _ (List.mem_of_getElem? (i := 1) rfl)) dX6_speak_74 ?_
      refine t_getr (C := RX5) (T := TX5) (N := 9) hx hb hts hin5 hown hK hP (kr6_0 ho0) rfl rfl 1 (by decide) (fr5_1 (kr6_0 ho0)) (hts _ (List.mem_of_getElem? (i := 2) rfl)) dX6_speak_77 ?_
      refine lv_iload_n hx hb dX6_speak_80 rfl (lv_at hl 1 rfl) ?_
      refine lv_iload hx hb dX6_speak_81 (lv_at hl 4 rfl) ?_
      refine lv_iload_n hx hb dX6_speak_83 rfl (lv_at hl 2 rfl) ?_
      refine lv_imul hx hb dX6_speak_84 ?_
      refine lv_iadd hx hb dX6_speak_85 ?_
      refine lv_bipush (v := (100 : Int32)) hx hb dX6_speak_86 (by decide) ?_
      obtain ⟨r17, hc18, hm⟩ := bO1_inv hm
      refine t_cSi (As := [.int (b1 + (v4 * b2)), .int (100 : Int32)]) (rest := [.ref (base + (RF (RF o0 0) 1))]) (μ' := μ) (r := r17) ⟨hx, hb, hml, hown, hts⟩ (mJ9_floorMod_7cf53 l D cA base H.size μ (b1 + (v4 * b2)) (100 : Int32) hc18) (va_cwS 2 hts gX6_speak_J9_floorMod_7cf53 rfl rfl rfl (by decide +kernel) ⟨Nat.le_of_ble_eq_true rfl, Nat.le_of_ble_eq_true rfl⟩) hK hN hP hS hz rfl hl.1 (Nat.le_of_ble_eq_true rfl) dX6_speak_88 hcs rfl (fun H locs hP hS => ?_)
      obtain ⟨μ19, hc20, hm⟩ := bO1_inv hm
      refine t_cVv (As := [.int r17]) (rest := []) (μ' := μ19) ⟨hx, hb, hml, hown, hts⟩ (mX3_add l D cA base H.size μ (kr5_1 (kr6_0 ho0)) r17 hc20) (cwV 1 hts gX6_speak_X3_add rfl rfl rfl (by decide +kernel) ⟨Nat.le_of_ble_eq_true rfl, Nat.le_of_ble_eq_true rfl⟩) (va_recv hK hP (q0 := RF (RF o0 0) 1) rfl (tw_obj (kr5_1 (kr6_0 ho0)) (by decide))) hK hN hP hS hz rfl hl.1 (Nat.le_of_ble_eq_true rfl) dX6_speak_91 hcs rfl (fun H locs hP hS => ?_)
      obtain ⟨x21, ex21⟩ : ∃ z : Int32, z = v4 + (1 : Int32) := ⟨_, rfl⟩
      replace hm := bV_of hm ex21
      refine lv_iinc (v := x21) (lv' := [(4, .int x21), (0, .ref (base + o0)), (1, .int b1), (2, .int b2), (3, .int b3)]) hx hb dX6_speak_94 hl (k := 4) rfl (by rw [ex21]; rfl) (by decide) rfl (fun ls hl => ?_)
      refine lv_goto (tgt := 67) hx hb dX6_speak_97 (by decide) ?_
      exact ih x21 μ19 _ _ _ μ' hm hP hS (lv_sub hl [1, 2, 3, 4, 0] rfl) K
set_option maxHeartbeats 4000000 in
set_option maxRecDepth 100000 in
theorem mX6_speak (l : Launch) (hlt : l.stackTraces = false) (D : va_G) (cA : Nat → ClassId) (base sz : Nat) (μ : MM) {q : Nat} (hq : kc q = 6) (a1 : Int32) (a2 : Int32) (a3 : Int32) {kd : Nat} {r : Int32} {μ' : MM} (hm : X6_speak q a1 a2 a3 μ = some (kd, r, μ')) : vx_Met l yX6_speak wsX6_speak rmX6_speak (va_Pc [.ref (base + q), .int a1, .int a2, .int a3] (tPreX D cA base sz μ)) (va_Qi (fun (x : Int32) (_ : Unit) => kd = 0 ∧ x = r) (fun _ => tPost D cA base μ') (tA base sz)) (vx_X (fun _ : Unit => True) (fun E _ t => exn kd E ∧ tPost D cA base μ' t) (tA base sz)) 3 18 (tA base sz) := by
  refine vx_ofW (cc := cX6_speak) (maxL := 5) (ret := (some .int)) (by decide) rfl ?_
  intro p e s m args below meth c s₁ B hml hxt hv
  obtain ⟨rfl, ⟨hsz, hP, hK, hN⟩, hX⟩ := hv
  have hx := B.exec
  have hb := B.bytes
  have hr := B.returns
  have hts := atoms_spec (ws := wsX6_speak) B.pre
  have hown : s.vm.findClass RX6 = some m.cls := findClass_of_methodNamed B.named
  have hlocks := B.notSynchronized
  have hin3 : ∀ w ∈ wsX30, w ∈ wsX6_speak := by decide +kernel
  have hin5 : ∀ w ∈ wsX50, w ∈ wsX6_speak := by decide +kernel
  have hin6 : ∀ w ∈ wsX60, w ∈ wsX6_speak := by decide +kernel
  subst hsz
  have hS : va_S (tA base s.heap.size) s.heap s.heap [] := va_S.rf
  have hz : s.heap.size ≤ s.heap.size := Nat.le_refl _
  have hl := lv_entry ([.ref (base + q), .int a1, .int a2, .int a3]) (n := 5) (Nat.le_of_ble_eq_true rfl)
  rw [lg_entry_eq]
  generalize (lg_sl ([.ref (base + q), .int a1, .int a2, .int a3]) ++ List.replicate (5 - (lg_sl ([.ref (base + q), .int a1, .int a2, .int a3])).length) Slot.unset).toArray = ls at hl ⊢
  have hl : lv_has ls 5 [(0, .ref (base + q)), (1, .int a1), (2, .int a2), (3, .int a3)] := hl
  unfold X6_speak at hm
  refine lv_iload_n hx hb dX6_speak_0 rfl (lv_at hl 1 rfl) ?_
  refine lv_iconst (v := (0 : Int32)) hx hb dX6_speak_1 (by decide) ?_
  refine lv_bipush (v := (99 : Int32)) hx hb dX6_speak_2 (by decide) ?_
  refine t_cSi (As := [.int a1, .int (0 : Int32), .int (99 : Int32)]) (rest := []) (μ' := μ) (r := (X6_isWithin a1 (0 : Int32) (99 : Int32))) ⟨hx, hb, hml, hown, hts⟩ (mX6_isWithin l D cA base s.heap.size μ a1 (0 : Int32) (99 : Int32) rfl) (va_cwS 3 hts gX6_speak_X6_isWithin rfl rfl rfl (by decide +kernel) ⟨Nat.le_of_ble_eq_true rfl, Nat.le_of_ble_eq_true rfl⟩) hK hN hP hS hz rfl hl.1 (Nat.le_of_ble_eq_true rfl) dX6_speak_4 ⟨Nat.le_of_ble_eq_true rfl, Nat.le_of_ble_eq_true rfl⟩ rfl (fun H locs hP hS => ?_)
  refine lv_if_eq (tgt := 25) hx hb dX6_speak_7 (by decide) (fun c3 => ?_) (fun c3 => ?_)
  · rw [if_pos c3] at hm
    refine lv_iconst (v := (0 : Int32)) hx hb dX6_speak_25 (by decide) ?_
    refine t_chk (rest := []) ⟨hx, hb, hml, hown, hts⟩ (mX6_demand l hlt D cA base H.size μ (0 : Int32)) (va_cwS 1 hts gX6_speak_X6_demand rfl rfl rfl (by decide +kernel) ⟨Nat.le_of_ble_eq_true rfl, Nat.le_of_ble_eq_true rfl⟩) hK hN hX hP hS rfl hl.1 (Nat.le_of_ble_eq_true rfl) dX6_speak_26 ⟨Nat.le_of_ble_eq_true rfl, Nat.le_of_ble_eq_true rfl⟩ (fun c4 H locs hP hS => ?_) (fun c4 H locs ce q9 hP hS hc1 hc2 hc3 => ?_)
    · exact absurd rfl c4
    cases hm
    refine vx_widen (k := 3) (n := 18) (Nat.le_of_ble_eq_true rfl) (Nat.le_of_ble_eq_true rfl) ?_
    exact vx_out (fun x hx => (hxt x hx).elim) hlocks hc1 hc2 hc3 (fun t ht hA => ⟨(), trivial, ⟨Or.inl ⟨rfl, rfl⟩, tPost_of hP ht⟩, hS.F ht⟩) hS.2.2 (Nat.le_refl _) (Nat.le_refl _)
  · rw [if_neg c3] at hm
    refine lv_iload_n hx hb dX6_speak_10 rfl (lv_at hl 2 rfl) ?_
    refine lv_bipush (v := (-99 : Int32)) hx hb dX6_speak_11 (by decide) ?_
    refine lv_bipush (v := (99 : Int32)) hx hb dX6_speak_13 (by decide) ?_
    refine t_cSi (As := [.int a2, .int (-99 : Int32), .int (99 : Int32)]) (rest := []) (μ' := μ) (r := (X6_isWithin a2 (-99 : Int32) (99 : Int32))) ⟨hx, hb, hml, hown, hts⟩ (mX6_isWithin l D cA base H.size μ a2 (-99 : Int32) (99 : Int32) rfl) (va_cwS 3 hts gX6_speak_X6_isWithin rfl rfl rfl (by decide +kernel) ⟨Nat.le_of_ble_eq_true rfl, Nat.le_of_ble_eq_true rfl⟩) hK hN hP hS hz rfl hl.1 (Nat.le_of_ble_eq_true rfl) dX6_speak_15 ⟨Nat.le_of_ble_eq_true rfl, Nat.le_of_ble_eq_true rfl⟩ rfl (fun H locs hP hS => ?_)
    refine lv_if_eq (tgt := 25) hx hb dX6_speak_18 (by decide) (fun c7 => ?_) (fun c7 => ?_)
    · rw [if_pos c7] at hm
      refine lv_iconst (v := (0 : Int32)) hx hb dX6_speak_25 (by decide) ?_
      refine t_chk (rest := []) ⟨hx, hb, hml, hown, hts⟩ (mX6_demand l hlt D cA base H.size μ (0 : Int32)) (va_cwS 1 hts gX6_speak_X6_demand rfl rfl rfl (by decide +kernel) ⟨Nat.le_of_ble_eq_true rfl, Nat.le_of_ble_eq_true rfl⟩) hK hN hX hP hS rfl hl.1 (Nat.le_of_ble_eq_true rfl) dX6_speak_26 ⟨Nat.le_of_ble_eq_true rfl, Nat.le_of_ble_eq_true rfl⟩ (fun c8 H locs hP hS => ?_) (fun c8 H locs ce q9 hP hS hc1 hc2 hc3 => ?_)
      · exact absurd rfl c8
      cases hm
      refine vx_widen (k := 3) (n := 18) (Nat.le_of_ble_eq_true rfl) (Nat.le_of_ble_eq_true rfl) ?_
      exact vx_out (fun x hx => (hxt x hx).elim) hlocks hc1 hc2 hc3 (fun t ht hA => ⟨(), trivial, ⟨Or.inl ⟨rfl, rfl⟩, tPost_of hP ht⟩, hS.F ht⟩) hS.2.2 (Nat.le_refl _) (Nat.le_refl _)
    · rw [if_neg c7] at hm
      refine lv_iconst (v := (1 : Int32)) hx hb dX6_speak_21 (by decide) ?_
      refine lv_goto (tgt := 26) hx hb dX6_speak_22 (by decide) ?_
      refine t_chk (rest := []) ⟨hx, hb, hml, hown, hts⟩ (mX6_demand l hlt D cA base H.size μ (1 : Int32)) (va_cwS 1 hts gX6_speak_X6_demand rfl rfl rfl (by decide +kernel) ⟨Nat.le_of_ble_eq_true rfl, Nat.le_of_ble_eq_true rfl⟩) hK hN hX hP hS rfl hl.1 (Nat.le_of_ble_eq_true rfl) dX6_speak_26 ⟨Nat.le_of_ble_eq_true rfl, Nat.le_of_ble_eq_true rfl⟩ (fun c9 H locs hP hS => ?_) (fun c9 H locs ce q9 hP hS hc1 hc2 hc3 => ?_)
      rotate_left
      · exact absurd c9 (by decide)
      refine lv_iload_n hx hb dX6_speak_29 rfl (lv_at hl 3 rfl) ?_
      refine lv_iconst (v := (1 : Int32)) hx hb dX6_speak_30 (by decide) ?_
      refine lv_bipush (v := (40 : Int32)) hx hb dX6_speak_31 (by decide) ?_
      refine t_cSi (As := [.int a3, .int (1 : Int32), .int (40 : Int32)]) (rest := []) (μ' := μ) (r := (X6_isWithin a3 (1 : Int32) (40 : Int32))) ⟨hx, hb, hml, hown, hts⟩ (mX6_isWithin l D cA base H.size μ a3 (1 : Int32) (40 : Int32) rfl) (va_cwS 3 hts gX6_speak_X6_isWithin rfl rfl rfl (by decide +kernel) ⟨Nat.le_of_ble_eq_true rfl, Nat.le_of_ble_eq_true rfl⟩) hK hN hP hS hz rfl hl.1 (Nat.le_of_ble_eq_true rfl) dX6_speak_33 ⟨Nat.le_of_ble_eq_true rfl, Nat.le_of_ble_eq_true rfl⟩ rfl (fun H locs hP hS => ?_)
      refine t_chk (rest := []) ⟨hx, hb, hml, hown, hts⟩ (mX6_demand l hlt D cA base H.size μ (X6_isWithin a3 (1 : Int32) (40 : Int32))) (va_cwS 1 hts gX6_speak_X6_demand rfl rfl rfl (by decide +kernel) ⟨Nat.le_of_ble_eq_true rfl, Nat.le_of_ble_eq_true rfl⟩) hK hN hX hP hS rfl hl.1 (Nat.le_of_ble_eq_true rfl) dX6_speak_36 ⟨Nat.le_of_ble_eq_true rfl, Nat.le_of_ble_eq_true rfl⟩ (fun c12 H locs hP hS => ?_) (fun c12 H locs ce q9 hP hS hc1 hc2 hc3 => ?_)
      rotate_left
      · rw [if_pos c12] at hm
        cases hm
        refine vx_widen (k := 3) (n := 18) (Nat.le_of_ble_eq_true rfl) (Nat.le_of_ble_eq_true rfl) ?_
        exact vx_out (fun x hx => (hxt x hx).elim) hlocks hc1 hc2 hc3 (fun t ht hA => ⟨(), trivial, ⟨Or.inl ⟨rfl, rfl⟩, tPost_of hP ht⟩, hS.F ht⟩) hS.2.2 (Nat.le_refl _) (Nat.le_refl _)
      rw [if_neg c12] at hm
      refine lv_aload_n hx hb dX6_speak_39 rfl (lv_at hl 0 rfl) ?_
      refine t_getr (C := RX6) (T := TX6) (N := 2) hx hb hts hin6 hown hK hP hq rfl rfl 0 (by decide) (fr6_0 hq) (hts _ (List.mem_of_getElem? (i := 1) rfl)) dX6_speak_40 ?_
      refine t_getr (C := RX5) (T := TX5) (N := 9) hx hb hts hin5 hown hK hP (kr6_0 hq) rfl rfl 1 (by decide) (fr5_1 (kr6_0 hq)) (hts _ (List.mem_of_getElem? (i := 2) rfl)) dX6_speak_43 ?_
      refine t_geti (C := RX3) (T := TX3) (N := 2) hx hb hts hin3 hown hK hP (kr5_1 (kr6_0 hq)) rfl rfl 1 (by decide) (fk3_1 (kr5_1 (kr6_0 hq))) (hts _ (List.mem_of_getElem? (i := 3) rfl)) dX6_speak_46 ?_
      refine lv_iload_n hx hb dX6_speak_49 rfl (lv_at hl 3 rfl) ?_
      refine lv_iadd hx hb dX6_speak_50 ?_
      refine lv_bipush (v := (120 : Int32)) hx hb dX6_speak_51 (by decide) ?_
      refine lv_icmp_gt (tgt := 60) hx hb dX6_speak_53 (by decide) (fun c13 => ?_) (fun c13 => ?_)
      · rw [if_pos c13] at hm
        refine lv_iconst (v := (0 : Int32)) hx hb dX6_speak_60 (by decide) ?_
        refine t_chk (rest := []) ⟨hx, hb, hml, hown, hts⟩ (mX6_allow l hlt D cA base H.size μ (0 : Int32)) (va_cwS 1 hts gX6_speak_X6_allow rfl rfl rfl (by decide +kernel) ⟨Nat.le_of_ble_eq_true rfl, Nat.le_of_ble_eq_true rfl⟩) hK hN hX hP hS rfl hl.1 (Nat.le_of_ble_eq_true rfl) dX6_speak_61 ⟨Nat.le_of_ble_eq_true rfl, Nat.le_of_ble_eq_true rfl⟩ (fun c14 H locs hP hS => ?_) (fun c14 H locs ce q9 hP hS hc1 hc2 hc3 => ?_)
        · exact absurd rfl c14
        cases hm
        refine vx_widen (k := 3) (n := 18) (Nat.le_of_ble_eq_true rfl) (Nat.le_of_ble_eq_true rfl) ?_
        exact vx_out (fun x hx => (hxt x hx).elim) hlocks hc1 hc2 hc3 (fun t ht hA => ⟨(), trivial, ⟨Or.inr (Or.inl ⟨rfl, rfl⟩), tPost_of hP ht⟩, hS.F ht⟩) hS.2.2 (Nat.le_refl _) (Nat.le_refl _)
      · rw [if_neg c13] at hm
        refine lv_iconst (v := (1 : Int32)) hx hb dX6_speak_56 (by decide) ?_
        refine lv_goto (tgt := 61) hx hb dX6_speak_57 (by decide) ?_
        refine t_chk (rest := []) ⟨hx, hb, hml, hown, hts⟩ (mX6_allow l hlt D cA base H.size μ (1 : Int32)) (va_cwS 1 hts gX6_speak_X6_allow rfl rfl rfl (by decide +kernel) ⟨Nat.le_of_ble_eq_true rfl, Nat.le_of_ble_eq_true rfl⟩) hK hN hX hP hS rfl hl.1 (Nat.le_of_ble_eq_true rfl) dX6_speak_61 ⟨Nat.le_of_ble_eq_true rfl, Nat.le_of_ble_eq_true rfl⟩ (fun c15 H locs hP hS => ?_) (fun c15 H locs ce q9 hP hS hc1 hc2 hc3 => ?_)
        rotate_left
        · exact absurd c15 (by decide)
        refine lv_iconst (v := (0 : Int32)) hx hb dX6_speak_64 (by decide) ?_
        refine lv_istore (lv' := [(4, .int (0 : Int32)), (0, .ref (base + q)), (1, .int a1), (2, .int a2), (3, .int a3)]) hx hb dX6_speak_65 hl (by decide) rfl (fun ls hl => ?_)
        obtain ⟨μ22, hc23, hm⟩ := bO1_inv hm
        refine lX6_speak_L67 ⟨hx, hb, hml, hown, hts⟩ hK hN hz hq a1 a2 a3 ⟨Nat.le_of_ble_eq_true rfl, Nat.le_of_ble_eq_true rfl⟩ 1000 (0 : Int32) μ _ _ _ μ22 hc23 hP hS (lv_sub hl [1, 2, 3, 4, 0] rfl) ?_
        intro H locs ls hP hS hl
        refine lv_aload_n hx hb dX6_speak_100 rfl (lv_at hl 0 rfl) ?_
        refine t_getr (C := RX6) (T := TX6) (N := 2) hx hb hts hin6 hown hK hP hq rfl rfl 0 (by decide) (fr6_0 hq) (hts _ (List.mem_of_getElem? (i := 1) rfl)) dX6_speak_101 ?_
        refine t_getr (C := RX5) (T := TX5) (N := 9) hx hb hts hin5 hown hK hP (kr6_0 hq) rfl rfl 1 (by decide) (fr5_1 (kr6_0 hq)) (hts _ (List.mem_of_getElem? (i := 2) rfl)) dX6_speak_104 ?_
        refine t_geti (C := RX3) (T := TX3) (N := 2) hx hb hts hin3 hown hK hP (kr5_1 (kr6_0 hq)) rfl rfl 1 (by decide) (fk3_1 (kr5_1 (kr6_0 hq))) (hts _ (List.mem_of_getElem? (i := 3) rfl)) dX6_speak_107 ?_
        cases hm
        refine vx_ret ?_
        refine W.widen (k := 3) (n := 18) (Nat.le_of_ble_eq_true rfl) (Nat.le_of_ble_eq_true rfl) ?_
        exact W.iret hx hb hr (fun t ht hW => ⟨⟨_, (), rfl, ⟨rfl, rfl⟩, tPost_of hP ht⟩, hS.F ht⟩) hS.2.2 dX6_speak_110
abbrev rmX6_rest : Room := { frames := 7, cells := 2, slots := 12, locals := 102 }
set_option maxHeartbeats 4000000 in
set_option maxRecDepth 100000 in
theorem lX6_rest_L37 {p : Program} {l : Launch} {e : Env} {s : State} {m : MethodId} {args : Array Value} {below : List Frame} {meth : Method} {c : Code} {Q : State → Prop} {D : va_G} {cA : Nat → ClassId} {base sz0 : Nat} {H0 : Heap} (FX : CallFix p m c cX6_rest 3 s args wsX6_rest RX6) (hK : va_K D vwCl (tys cA) s) (hN : tN s) (hz : sz0 ≤ H0.size) {o0 : Nat} (ho0 : kc o0 = 6) (b1 : Int32) {cells slots : Nat} (hcs : cells ≤ 2 ∧ slots ≤ 12) :
    ∀ (n : Nat) (v2 : Int32) (μ : MM) (H : Heap) (locs : List Loc) (ls : Array Slot) (μ' : MM), X6_rest_L37 o0 b1 n v2 μ = some μ' → va_P D vwCl (tw base cA μ []) H → va_S (tA base sz0) H0 H locs → lv_has ls 3 [(0, .ref (base + o0)), (1, .int b1), (2, .int v2)] → (∀ (H : Heap) (locs : List Loc) (ls : Array Slot), va_P D vwCl (tw base cA μ' []) H → va_S (tA base sz0) H0 H locs → lv_has ls 3 [(0, .ref (base + o0))] → W p l e rmX6_rest s m args below meth c H locs cells slots Q (F0 m 59 ls [])) → W p l e rmX6_rest s m args below meth c H locs cells slots Q (F0 m 37 ls []) := by
  obtain ⟨hx, hb, hml, hown, hts⟩ := FX
  have hin5 : ∀ w ∈ wsX50, w ∈ wsX6_rest := by decide +kernel
  have hin6 : ∀ w ∈ wsX60, w ∈ wsX6_rest := by decide +kernel
  intro n
  induction n with
  | zero =>
    intro v2 μ H locs ls μ' hm
    cases hm
  | succ n ih =>
    intro v2 μ H locs ls μ' hm hP hS hl K
    rw [X6_rest_L37_s] at hm
    refine lv_iload_n hx hb dX6_rest_37 rfl (lv_at hl 2 rfl) ?_
    refine lv_iload_n hx hb dX6_rest_38 rfl (lv_at hl 1 rfl) ?_
    refine lv_icmp_ge (tgt := 59) hx hb dX6_rest_39 (by decide) (fun c7 => ?_) (fun c7 => ?_)
    · rw [if_pos c7] at hm
      cases hm
      exact K _ _ _ hP hS (lv_sub hl [0] rfl)
    · rw [if_neg c7] at hm
      refine lv_aload_n hx hb dX6_rest_42 rfl (lv_at hl 0 rfl) ?_
      refine t_getr (C := RX6) (T := TX6) (N := 2) hx hb hts hin6 hown hK hP ho0 rfl rfl 0 (by decide) (fr6_0 ho0) (hts _ (List.mem_of_getElem? (i := 1) rfl)) dX6_rest_43 ?_
      refine t_getr (C := RX5) (T := TX5) (N := 9) hx hb hts hin5 hown hK hP (kr6_0 ho0) rfl rfl 1 (by decide) (fr5_1 (kr6_0 ho0)) (hts _ (List.mem_of_getElem? (i := 2) rfl)) dX6_rest_46 ?_
      refine lv_iconst (v := (-1 : Int32)) hx hb dX6_rest_49 (by decide) ?_
      obtain ⟨μ8, hc9, hm⟩ := bO1_inv hm
      refine t_cVv (As := [.int (-1 : Int32)]) (rest := []) (μ' := μ8) ⟨hx, hb, hml, hown, hts⟩ (mX3_add l D cA base H.size μ (kr5_1 (kr6_0 ho0)) (-1 : Int32) hc9) (cwV 1 hts gX6_rest_X3_add rfl rfl rfl (by decide +kernel) ⟨Nat.le_of_ble_eq_true rfl, Nat.le_of_ble_eq_true rfl⟩) (va_recv hK hP (q0 := RF (RF o0 0) 1) rfl (tw_obj (kr5_1 (kr6_0 ho0)) (by decide))) hK hN hP hS hz rfl hl.1 (Nat.le_of_ble_eq_true rfl) dX6_rest_50 hcs rfl (fun H locs hP hS => ?_)
      obtain ⟨x10, ex10⟩ : ∃ z : Int32, z = v2 + (1 : Int32) := ⟨_, rfl⟩
      replace hm := bV_of hm ex10
      refine lv_iinc (v := x10) (lv' := [(2, .int x10), (0, .ref (base + o0)), (1, .int b1)]) hx hb dX6_rest_53 hl (k := 2) rfl (by rw [ex10]; rfl) (by decide) rfl (fun ls hl => ?_)
      refine lv_goto (tgt := 37) hx hb dX6_rest_56 (by decide) ?_
      exact ih x10 μ8 _ _ _ μ' hm hP hS (lv_sub hl [1, 2, 0] rfl) K
set_option maxHeartbeats 4000000 in
set_option maxRecDepth 100000 in
theorem mX6_rest (l : Launch) (hlt : l.stackTraces = false) (D : va_G) (cA : Nat → ClassId) (base sz : Nat) (μ : MM) {q : Nat} (hq : kc q = 6) (a1 : Int32) {kd : Nat} {r : Int32} {μ' : MM} (hm : X6_rest q a1 μ = some (kd, r, μ')) : vx_Met l yX6_rest wsX6_rest rmX6_rest (va_Pc [.ref (base + q), .int a1] (tPreX D cA base sz μ)) (va_Qi (fun (x : Int32) (_ : Unit) => kd = 0 ∧ x = r) (fun _ => tPost D cA base μ') (tA base sz)) (vx_X (fun _ : Unit => True) (fun E _ t => exn kd E ∧ tPost D cA base μ' t) (tA base sz)) 2 12 (tA base sz) := by
  refine vx_ofW (cc := cX6_rest) (maxL := 3) (ret := (some .int)) (by decide) rfl ?_
  intro p e s m args below meth c s₁ B hml hxt hv
  obtain ⟨rfl, ⟨hsz, hP, hK, hN⟩, hX⟩ := hv
  have hx := B.exec
  have hb := B.bytes
  have hr := B.returns
  have hts := atoms_spec (ws := wsX6_rest) B.pre
  have hown : s.vm.findClass RX6 = some m.cls := findClass_of_methodNamed B.named
  have hlocks := B.notSynchronized
  have hin3 : ∀ w ∈ wsX30, w ∈ wsX6_rest := by decide +kernel
  have hin5 : ∀ w ∈ wsX50, w ∈ wsX6_rest := by decide +kernel
  have hin6 : ∀ w ∈ wsX60, w ∈ wsX6_rest := by decide +kernel
  subst hsz
  have hS : va_S (tA base s.heap.size) s.heap s.heap [] := va_S.rf
  have hz : s.heap.size ≤ s.heap.size := Nat.le_refl _
  have hl := lv_entry ([.ref (base + q), .int a1]) (n := 3) (Nat.le_of_ble_eq_true rfl)
  rw [lg_entry_eq]
  generalize (lg_sl ([.ref (base + q), .int a1]) ++ List.replicate (3 - (lg_sl ([.ref (base + q), .int a1])).length) Slot.unset).toArray = ls at hl ⊢
  have hl : lv_has ls 3 [(0, .ref (base + q)), (1, .int a1)] := hl
  unfold X6_rest at hm
  refine lv_iload_n hx hb dX6_rest_0 rfl (lv_at hl 1 rfl) ?_
  refine lv_iconst (v := (1 : Int32)) hx hb dX6_rest_1 (by decide) ?_
  refine lv_bipush (v := (40 : Int32)) hx hb dX6_rest_2 (by decide) ?_
  refine t_cSi (As := [.int a1, .int (1 : Int32), .int (40 : Int32)]) (rest := []) (μ' := μ) (r := (X6_isWithin a1 (1 : Int32) (40 : Int32))) ⟨hx, hb, hml, hown, hts⟩ (mX6_isWithin l D cA base s.heap.size μ a1 (1 : Int32) (40 : Int32) rfl) (va_cwS 3 hts gX6_rest_X6_isWithin rfl rfl rfl (by decide +kernel) ⟨Nat.le_of_ble_eq_true rfl, Nat.le_of_ble_eq_true rfl⟩) hK hN hP hS hz rfl hl.1 (Nat.le_of_ble_eq_true rfl) dX6_rest_4 ⟨Nat.le_of_ble_eq_true rfl, Nat.le_of_ble_eq_true rfl⟩ rfl (fun H locs hP hS => ?_)
  refine t_chk (rest := []) ⟨hx, hb, hml, hown, hts⟩ (mX6_demand l hlt D cA base H.size μ (X6_isWithin a1 (1 : Int32) (40 : Int32))) (va_cwS 1 hts gX6_rest_X6_demand rfl rfl rfl (by decide +kernel) ⟨Nat.le_of_ble_eq_true rfl, Nat.le_of_ble_eq_true rfl⟩) hK hN hX hP hS rfl hl.1 (Nat.le_of_ble_eq_true rfl) dX6_rest_7 ⟨Nat.le_of_ble_eq_true rfl, Nat.le_of_ble_eq_true rfl⟩ (fun c3 H locs hP hS => ?_) (fun c3 H locs ce q9 hP hS hc1 hc2 hc3 => ?_)
  rotate_left
  · rw [if_pos c3] at hm
    cases hm
    refine vx_widen (k := 2) (n := 12) (Nat.le_of_ble_eq_true rfl) (Nat.le_of_ble_eq_true rfl) ?_
    exact vx_out (fun x hx => (hxt x hx).elim) hlocks hc1 hc2 hc3 (fun t ht hA => ⟨(), trivial, ⟨Or.inl ⟨rfl, rfl⟩, tPost_of hP ht⟩, hS.F ht⟩) hS.2.2 (Nat.le_refl _) (Nat.le_refl _)
  rw [if_neg c3] at hm
  refine lv_aload_n hx hb dX6_rest_10 rfl (lv_at hl 0 rfl) ?_
  refine t_getr (C := RX6) (T := TX6) (N := 2) hx hb hts hin6 hown hK hP hq rfl rfl 0 (by decide) (fr6_0 hq) (hts _ (List.mem_of_getElem? (i := 1) rfl)) dX6_rest_11 ?_
  refine t_getr (C := RX5) (T := TX5) (N := 9) hx hb hts hin5 hown hK hP (kr6_0 hq) rfl rfl 1 (by decide) (fr5_1 (kr6_0 hq)) (hts _ (List.mem_of_getElem? (i := 2) rfl)) dX6_rest_14 ?_
  refine t_geti (C := RX3) (T := TX3) (N := 2) hx hb hts hin3 hown hK hP (kr5_1 (kr6_0 hq)) rfl rfl 1 (by decide) (fk3_1 (kr5_1 (kr6_0 hq))) (hts _ (List.mem_of_getElem? (i := 3) rfl)) dX6_rest_17 ?_
  refine lv_iload_n hx hb dX6_rest_20 rfl (lv_at hl 1 rfl) ?_
  refine lv_iadd hx hb dX6_rest_21 ?_
  refine lv_bipush (v := (120 : Int32)) hx hb dX6_rest_22 (by decide) ?_
  refine lv_icmp_gt (tgt := 31) hx hb dX6_rest_24 (by decide) (fun c4 => ?_) (fun c4 => ?_)
  · rw [if_pos c4] at hm
    refine lv_iconst (v := (0 : Int32)) hx hb dX6_rest_31 (by decide) ?_
    refine t_chk (rest := []) ⟨hx, hb, hml, hown, hts⟩ (mX6_allow l hlt D cA base H.size μ (0 : Int32)) (va_cwS 1 hts gX6_rest_X6_allow rfl rfl rfl (by decide +kernel) ⟨Nat.le_of_ble_eq_true rfl, Nat.le_of_ble_eq_true rfl⟩) hK hN hX hP hS rfl hl.1 (Nat.le_of_ble_eq_true rfl) dX6_rest_32 ⟨Nat.le_of_ble_eq_true rfl, Nat.le_of_ble_eq_true rfl⟩ (fun c5 H locs hP hS => ?_) (fun c5 H locs ce q9 hP hS hc1 hc2 hc3 => ?_)
    · exact absurd rfl c5
    cases hm
    refine vx_widen (k := 2) (n := 12) (Nat.le_of_ble_eq_true rfl) (Nat.le_of_ble_eq_true rfl) ?_
    exact vx_out (fun x hx => (hxt x hx).elim) hlocks hc1 hc2 hc3 (fun t ht hA => ⟨(), trivial, ⟨Or.inr (Or.inl ⟨rfl, rfl⟩), tPost_of hP ht⟩, hS.F ht⟩) hS.2.2 (Nat.le_refl _) (Nat.le_refl _)
  · rw [if_neg c4] at hm
    refine lv_iconst (v := (1 : Int32)) hx hb dX6_rest_27 (by decide) ?_
    refine lv_goto (tgt := 32) hx hb dX6_rest_28 (by decide) ?_
    refine t_chk (rest := []) ⟨hx, hb, hml, hown, hts⟩ (mX6_allow l hlt D cA base H.size μ (1 : Int32)) (va_cwS 1 hts gX6_rest_X6_allow rfl rfl rfl (by decide +kernel) ⟨Nat.le_of_ble_eq_true rfl, Nat.le_of_ble_eq_true rfl⟩) hK hN hX hP hS rfl hl.1 (Nat.le_of_ble_eq_true rfl) dX6_rest_32 ⟨Nat.le_of_ble_eq_true rfl, Nat.le_of_ble_eq_true rfl⟩ (fun c6 H locs hP hS => ?_) (fun c6 H locs ce q9 hP hS hc1 hc2 hc3 => ?_)
    rotate_left
    · exact absurd c6 (by decide)
    refine lv_iconst (v := (0 : Int32)) hx hb dX6_rest_35 (by decide) ?_
    refine lv_istore_n (lv' := [(2, .int (0 : Int32)), (0, .ref (base + q)), (1, .int a1)]) hx hb dX6_rest_36 rfl hl (by decide) rfl (fun ls hl => ?_)
    obtain ⟨μ11, hc12, hm⟩ := bO1_inv hm
    refine lX6_rest_L37 ⟨hx, hb, hml, hown, hts⟩ hK hN hz hq a1 ⟨Nat.le_of_ble_eq_true rfl, Nat.le_of_ble_eq_true rfl⟩ 1000 (0 : Int32) μ _ _ _ μ11 hc12 hP hS (lv_sub hl [1, 2, 0] rfl) ?_
    intro H locs ls hP hS hl
    refine lv_aload_n hx hb dX6_rest_59 rfl (lv_at hl 0 rfl) ?_
    refine t_getr (C := RX6) (T := TX6) (N := 2) hx hb hts hin6 hown hK hP hq rfl rfl 0 (by decide) (fr6_0 hq) (hts _ (List.mem_of_getElem? (i := 1) rfl)) dX6_rest_60 ?_
    refine t_getr (C := RX5) (T := TX5) (N := 9) hx hb hts hin5 hown hK hP (kr6_0 hq) rfl rfl 1 (by decide) (fr5_1 (kr6_0 hq)) (hts _ (List.mem_of_getElem? (i := 2) rfl)) dX6_rest_63 ?_
    refine t_geti (C := RX3) (T := TX3) (N := 2) hx hb hts hin3 hown hK hP (kr5_1 (kr6_0 hq)) rfl rfl 1 (by decide) (fk3_1 (kr5_1 (kr6_0 hq))) (hts _ (List.mem_of_getElem? (i := 3) rfl)) dX6_rest_66 ?_
    cases hm
    refine vx_ret ?_
    refine W.widen (k := 2) (n := 12) (Nat.le_of_ble_eq_true rfl) (Nat.le_of_ble_eq_true rfl) ?_
    exact W.iret hx hb hr (fun t ht hW => ⟨⟨_, (), rfl, ⟨rfl, rfl⟩, tPost_of hP ht⟩, hS.F ht⟩) hS.2.2 dX6_rest_69
abbrev rmX6_addInterpreter : Room := { frames := 7, cells := 3, slots := 18, locals := 102 }
set_option maxHeartbeats 4000000 in
set_option maxRecDepth 100000 in
theorem mX6_addInterpreter (l : Launch) (hlt : l.stackTraces = false) (D : va_G) (cA : Nat → ClassId) (base sz : Nat) (μ : MM) {q : Nat} (hq : kc q = 6) (a1 : Int32) (a2 : Int32) {kd : Nat} {r : Int32} {μ' : MM} (hm : X6_addInterpreter q a1 a2 μ = some (kd, r, μ')) : vx_Met l yX6_addInterpreter wsX6_addInterpreter rmX6_addInterpreter (va_Pc [.ref (base + q), .int a1, .int a2] (tPreX D cA base sz μ)) (va_Qi (fun (x : Int32) (_ : Unit) => kd = 0 ∧ x = r) (fun _ => tPost D cA base μ') (tA base sz)) (vx_X (fun _ : Unit => True) (fun E _ t => exn kd E ∧ tPost D cA base μ' t) (tA base sz)) 3 18 (tA base sz) := by
  refine vx_ofW (cc := cX6_addInterpreter) (maxL := 3) (ret := (some .int)) (by decide) rfl ?_
  intro p e s m args below meth c s₁ B hml hxt hv
  obtain ⟨rfl, ⟨hsz, hP, hK, hN⟩, hX⟩ := hv
  have hx := B.exec
  have hb := B.bytes
  have hr := B.returns
  have hts := atoms_spec (ws := wsX6_addInterpreter) B.pre
  have hown : s.vm.findClass RX6 = some m.cls := findClass_of_methodNamed B.named
  have hlocks := B.notSynchronized
  have hin5 : ∀ w ∈ wsX50, w ∈ wsX6_addInterpreter := by decide +kernel
  have hin6 : ∀ w ∈ wsX60, w ∈ wsX6_addInterpreter := by decide +kernel
  subst hsz
  have hS : va_S (tA base s.heap.size) s.heap s.heap [] := va_S.rf
  have hz : s.heap.size ≤ s.heap.size := Nat.le_refl _
  have hl := lv_entry ([.ref (base + q), .int a1, .int a2]) (n := 3) (Nat.le_of_ble_eq_true rfl)
  rw [lg_entry_eq]
  generalize (lg_sl ([.ref (base + q), .int a1, .int a2]) ++ List.replicate (3 - (lg_sl ([.ref (base + q), .int a1, .int a2])).length) Slot.unset).toArray = ls at hl ⊢
  have hl : lv_has ls 3 [(0, .ref (base + q)), (1, .int a1), (2, .int a2)] := hl
  unfold X6_addInterpreter at hm
  refine lv_iload_n hx hb dX6_addInterpreter_0 rfl (lv_at hl 1 rfl) ?_
  refine lv_iconst (v := (0 : Int32)) hx hb dX6_addInterpreter_1 (by decide) ?_
  refine lv_sipush (v := (255 : Int32)) hx hb dX6_addInterpreter_2 (by decide) ?_
  refine t_cSi (As := [.int a1, .int (0 : Int32), .int (255 : Int32)]) (rest := []) (μ' := μ) (r := (X6_isWithin a1 (0 : Int32) (255 : Int32))) ⟨hx, hb, hml, hown, hts⟩ (mX6_isWithin l D cA base s.heap.size μ a1 (0 : Int32) (255 : Int32) rfl) (va_cwS 3 hts gX6_addInterpreter_X6_isWithin rfl rfl rfl (by decide +kernel) ⟨Nat.le_of_ble_eq_true rfl, Nat.le_of_ble_eq_true rfl⟩) hK hN hP hS hz rfl hl.1 (Nat.le_of_ble_eq_true rfl) dX6_addInterpreter_5 ⟨Nat.le_of_ble_eq_true rfl, Nat.le_of_ble_eq_true rfl⟩ rfl (fun H locs hP hS => ?_)
  refine t_chk (rest := []) ⟨hx, hb, hml, hown, hts⟩ (mX6_demand l hlt D cA base H.size μ (X6_isWithin a1 (0 : Int32) (255 : Int32))) (va_cwS 1 hts gX6_addInterpreter_X6_demand rfl rfl rfl (by decide +kernel) ⟨Nat.le_of_ble_eq_true rfl, Nat.le_of_ble_eq_true rfl⟩) hK hN hX hP hS rfl hl.1 (Nat.le_of_ble_eq_true rfl) dX6_addInterpreter_8 ⟨Nat.le_of_ble_eq_true rfl, Nat.le_of_ble_eq_true rfl⟩ (fun c3 H locs hP hS => ?_) (fun c3 H locs ce q9 hP hS hc1 hc2 hc3 => ?_)
  rotate_left
  · rw [if_pos c3] at hm
    cases hm
    refine vx_widen (k := 3) (n := 18) (Nat.le_of_ble_eq_true rfl) (Nat.le_of_ble_eq_true rfl) ?_
    exact vx_out (fun x hx => (hxt x hx).elim) hlocks hc1 hc2 hc3 (fun t ht hA => ⟨(), trivial, ⟨Or.inl ⟨rfl, rfl⟩, tPost_of hP ht⟩, hS.F ht⟩) hS.2.2 (Nat.le_refl _) (Nat.le_refl _)
  rw [if_neg c3] at hm
  refine lv_iload_n hx hb dX6_addInterpreter_11 rfl (lv_at hl 2 rfl) ?_
  refine lv_iconst (v := (0 : Int32)) hx hb dX6_addInterpreter_12 (by decide) ?_
  refine lv_ldc (v := (1048575 : Int32)) hx hb hown (hts _ (List.mem_of_getElem? (i := 1) rfl)) dX6_addInterpreter_13 ?_
  refine t_cSi (As := [.int a2, .int (0 : Int32), .int (1048575 : Int32)]) (rest := []) (μ' := μ) (r := (X6_isWithin a2 (0 : Int32) (1048575 : Int32))) ⟨hx, hb, hml, hown, hts⟩ (mX6_isWithin l D cA base H.size μ a2 (0 : Int32) (1048575 : Int32) rfl) (va_cwS 3 hts gX6_addInterpreter_X6_isWithin rfl rfl rfl (by decide +kernel) ⟨Nat.le_of_ble_eq_true rfl, Nat.le_of_ble_eq_true rfl⟩) hK hN hP hS hz rfl hl.1 (Nat.le_of_ble_eq_true rfl) dX6_addInterpreter_15 ⟨Nat.le_of_ble_eq_true rfl, Nat.le_of_ble_eq_true rfl⟩ rfl (fun H locs hP hS => ?_)
  refine t_chk (rest := []) ⟨hx, hb, hml, hown, hts⟩ (mX6_demand l hlt D cA base H.size μ (X6_isWithin a2 (0 : Int32) (1048575 : Int32))) (va_cwS 1 hts gX6_addInterpreter_X6_demand rfl rfl rfl (by decide +kernel) ⟨Nat.le_of_ble_eq_true rfl, Nat.le_of_ble_eq_true rfl⟩) hK hN hX hP hS rfl hl.1 (Nat.le_of_ble_eq_true rfl) dX6_addInterpreter_18 ⟨Nat.le_of_ble_eq_true rfl, Nat.le_of_ble_eq_true rfl⟩ (fun c6 H locs hP hS => ?_) (fun c6 H locs ce q9 hP hS hc1 hc2 hc3 => ?_)
  rotate_left
  · rw [if_pos c6] at hm
    cases hm
    refine vx_widen (k := 3) (n := 18) (Nat.le_of_ble_eq_true rfl) (Nat.le_of_ble_eq_true rfl) ?_
    exact vx_out (fun x hx => (hxt x hx).elim) hlocks hc1 hc2 hc3 (fun t ht hA => ⟨(), trivial, ⟨Or.inl ⟨rfl, rfl⟩, tPost_of hP ht⟩, hS.F ht⟩) hS.2.2 (Nat.le_refl _) (Nat.le_refl _)
  rw [if_neg c6] at hm
  refine lv_aload_n hx hb dX6_addInterpreter_21 rfl (lv_at hl 0 rfl) ?_
  refine t_getr (C := RX6) (T := TX6) (N := 2) hx hb hts hin6 hown hK hP hq rfl rfl 0 (by decide) (fr6_0 hq) (hts _ (List.mem_of_getElem? (i := 2) rfl)) dX6_addInterpreter_22 ?_
  refine t_geti (C := RX5) (T := TX5) (N := 9) hx hb hts hin5 hown hK hP (kr6_0 hq) rfl rfl 7 (by decide) (fk5_7 (kr6_0 hq)) (hts _ (List.mem_of_getElem? (i := 3) rfl)) dX6_addInterpreter_25 ?_
  refine lv_bipush (v := (8 : Int32)) hx hb dX6_addInterpreter_28 (by decide) ?_
  refine lv_icmp_ge (tgt := 37) hx hb dX6_addInterpreter_30 (by decide) (fun c7 => ?_) (fun c7 => ?_)
  · rw [if_pos c7] at hm
    refine lv_iconst (v := (0 : Int32)) hx hb dX6_addInterpreter_37 (by decide) ?_
    refine t_chk (rest := []) ⟨hx, hb, hml, hown, hts⟩ (mX6_allow l hlt D cA base H.size μ (0 : Int32)) (va_cwS 1 hts gX6_addInterpreter_X6_allow rfl rfl rfl (by decide +kernel) ⟨Nat.le_of_ble_eq_true rfl, Nat.le_of_ble_eq_true rfl⟩) hK hN hX hP hS rfl hl.1 (Nat.le_of_ble_eq_true rfl) dX6_addInterpreter_38 ⟨Nat.le_of_ble_eq_true rfl, Nat.le_of_ble_eq_true rfl⟩ (fun c8 H locs hP hS => ?_) (fun c8 H locs ce q9 hP hS hc1 hc2 hc3 => ?_)
    · exact absurd rfl c8
    cases hm
    refine vx_widen (k := 3) (n := 18) (Nat.le_of_ble_eq_true rfl) (Nat.le_of_ble_eq_true rfl) ?_
    exact vx_out (fun x hx => (hxt x hx).elim) hlocks hc1 hc2 hc3 (fun t ht hA => ⟨(), trivial, ⟨Or.inr (Or.inl ⟨rfl, rfl⟩), tPost_of hP ht⟩, hS.F ht⟩) hS.2.2 (Nat.le_refl _) (Nat.le_refl _)
  · rw [if_neg c7] at hm
    refine lv_iconst (v := (1 : Int32)) hx hb dX6_addInterpreter_33 (by decide) ?_
    refine lv_goto (tgt := 38) hx hb dX6_addInterpreter_34 (by decide) ?_
    refine t_chk (rest := []) ⟨hx, hb, hml, hown, hts⟩ (mX6_allow l hlt D cA base H.size μ (1 : Int32)) (va_cwS 1 hts gX6_addInterpreter_X6_allow rfl rfl rfl (by decide +kernel) ⟨Nat.le_of_ble_eq_true rfl, Nat.le_of_ble_eq_true rfl⟩) hK hN hX hP hS rfl hl.1 (Nat.le_of_ble_eq_true rfl) dX6_addInterpreter_38 ⟨Nat.le_of_ble_eq_true rfl, Nat.le_of_ble_eq_true rfl⟩ (fun c9 H locs hP hS => ?_) (fun c9 H locs ce q9 hP hS hc1 hc2 hc3 => ?_)
    rotate_left
    · exact absurd c9 (by decide)
    refine lv_aload_n hx hb dX6_addInterpreter_41 rfl (lv_at hl 0 rfl) ?_
    refine t_getr (C := RX6) (T := TX6) (N := 2) hx hb hts hin6 hown hK hP hq rfl rfl 0 (by decide) (fr6_0 hq) (hts _ (List.mem_of_getElem? (i := 2) rfl)) dX6_addInterpreter_42 ?_
    refine lv_iload_n hx hb dX6_addInterpreter_45 rfl (lv_at hl 1 rfl) ?_
    refine lv_iload_n hx hb dX6_addInterpreter_46 rfl (lv_at hl 2 rfl) ?_
    obtain ⟨r10, μ11, hc12, hm⟩ := bO2_inv hm
    refine t_cVi (As := [.int a1, .int a2]) (rest := []) (μ' := μ11) (r := r10) ⟨hx, hb, hml, hown, hts⟩ (mX5_enrol l D cA base H.size μ (kr6_0 hq) a1 a2 hc12) (cwV 2 hts gX6_addInterpreter_X5_enrol rfl rfl rfl (by decide +kernel) ⟨Nat.le_of_ble_eq_true rfl, Nat.le_of_ble_eq_true rfl⟩) (va_recv hK hP (q0 := RF q 0) rfl (tw_obj (kr6_0 hq) (by decide))) hK hN hP hS hz rfl hl.1 (Nat.le_of_ble_eq_true rfl) dX6_addInterpreter_47 ⟨Nat.le_of_ble_eq_true rfl, Nat.le_of_ble_eq_true rfl⟩ rfl (fun H locs hP hS => ?_)
    cases hm
    refine vx_ret ?_
    refine W.widen (k := 3) (n := 18) (Nat.le_of_ble_eq_true rfl) (Nat.le_of_ble_eq_true rfl) ?_
    exact W.iret hx hb hr (fun t ht hW => ⟨⟨_, (), rfl, ⟨rfl, rfl⟩, tPost_of hP ht⟩, hS.F ht⟩) hS.2.2 dX6_addInterpreter_50
abbrev rmX6_addBooth : Room := { frames := 7, cells := 3, slots := 18, locals := 102 }
set_option maxHeartbeats 4000000 in
set_option maxRecDepth 100000 in
theorem mX6_addBooth (l : Launch) (hlt : l.stackTraces = false) (D : va_G) (cA : Nat → ClassId) (base sz : Nat) (μ : MM) {q : Nat} (hq : kc q = 6) (a1 : Int32) (a2 : Int32) (a3 : Int32) {kd : Nat} {r : Int32} {μ' : MM} (hm : X6_addBooth q a1 a2 a3 μ = some (kd, r, μ')) : vx_Met l yX6_addBooth wsX6_addBooth rmX6_addBooth (va_Pc [.ref (base + q), .int a1, .int a2, .int a3] (tPreX D cA base sz μ)) (va_Qi (fun (x : Int32) (_ : Unit) => kd = 0 ∧ x = r) (fun _ => tPost D cA base μ') (tA base sz)) (vx_X (fun _ : Unit => True) (fun E _ t => exn kd E ∧ tPost D cA base μ' t) (tA base sz)) 3 18 (tA base sz) := by
  refine vx_ofW (cc := cX6_addBooth) (maxL := 4) (ret := (some .int)) (by decide) rfl ?_
  intro p e s m args below meth c s₁ B hml hxt hv
  obtain ⟨rfl, ⟨hsz, hP, hK, hN⟩, hX⟩ := hv
  have hx := B.exec
  have hb := B.bytes
  have hr := B.returns
  have hts := atoms_spec (ws := wsX6_addBooth) B.pre
  have hown : s.vm.findClass RX6 = some m.cls := findClass_of_methodNamed B.named
  have hlocks := B.notSynchronized
  have hin5 : ∀ w ∈ wsX50, w ∈ wsX6_addBooth := by decide +kernel
  have hin6 : ∀ w ∈ wsX60, w ∈ wsX6_addBooth := by decide +kernel
  subst hsz
  have hS : va_S (tA base s.heap.size) s.heap s.heap [] := va_S.rf
  have hz : s.heap.size ≤ s.heap.size := Nat.le_refl _
  have hl := lv_entry ([.ref (base + q), .int a1, .int a2, .int a3]) (n := 4) (Nat.le_of_ble_eq_true rfl)
  rw [lg_entry_eq]
  generalize (lg_sl ([.ref (base + q), .int a1, .int a2, .int a3]) ++ List.replicate (4 - (lg_sl ([.ref (base + q), .int a1, .int a2, .int a3])).length) Slot.unset).toArray = ls at hl ⊢
  have hl : lv_has ls 4 [(0, .ref (base + q)), (1, .int a1), (2, .int a2), (3, .int a3)] := hl
  unfold X6_addBooth at hm
  refine lv_iload_n hx hb dX6_addBooth_0 rfl (lv_at hl 1 rfl) ?_
  refine lv_iconst (v := (0 : Int32)) hx hb dX6_addBooth_1 (by decide) ?_
  refine lv_bipush (v := (7 : Int32)) hx hb dX6_addBooth_2 (by decide) ?_
  refine t_cSi (As := [.int a1, .int (0 : Int32), .int (7 : Int32)]) (rest := []) (μ' := μ) (r := (X6_isWithin a1 (0 : Int32) (7 : Int32))) ⟨hx, hb, hml, hown, hts⟩ (mX6_isWithin l D cA base s.heap.size μ a1 (0 : Int32) (7 : Int32) rfl) (va_cwS 3 hts gX6_addBooth_X6_isWithin rfl rfl rfl (by decide +kernel) ⟨Nat.le_of_ble_eq_true rfl, Nat.le_of_ble_eq_true rfl⟩) hK hN hP hS hz rfl hl.1 (Nat.le_of_ble_eq_true rfl) dX6_addBooth_4 ⟨Nat.le_of_ble_eq_true rfl, Nat.le_of_ble_eq_true rfl⟩ rfl (fun H locs hP hS => ?_)
  refine lv_if_eq (tgt := 24) hx hb dX6_addBooth_7 (by decide) (fun c3 => ?_) (fun c3 => ?_)
  · rw [if_pos c3] at hm
    refine lv_iconst (v := (0 : Int32)) hx hb dX6_addBooth_24 (by decide) ?_
    refine t_chk (rest := []) ⟨hx, hb, hml, hown, hts⟩ (mX6_demand l hlt D cA base H.size μ (0 : Int32)) (va_cwS 1 hts gX6_addBooth_X6_demand rfl rfl rfl (by decide +kernel) ⟨Nat.le_of_ble_eq_true rfl, Nat.le_of_ble_eq_true rfl⟩) hK hN hX hP hS rfl hl.1 (Nat.le_of_ble_eq_true rfl) dX6_addBooth_25 ⟨Nat.le_of_ble_eq_true rfl, Nat.le_of_ble_eq_true rfl⟩ (fun c4 H locs hP hS => ?_) (fun c4 H locs ce q9 hP hS hc1 hc2 hc3 => ?_)
    · exact absurd rfl c4
    cases hm
    refine vx_widen (k := 3) (n := 18) (Nat.le_of_ble_eq_true rfl) (Nat.le_of_ble_eq_true rfl) ?_
    exact vx_out (fun x hx => (hxt x hx).elim) hlocks hc1 hc2 hc3 (fun t ht hA => ⟨(), trivial, ⟨Or.inl ⟨rfl, rfl⟩, tPost_of hP ht⟩, hS.F ht⟩) hS.2.2 (Nat.le_refl _) (Nat.le_refl _)
  · rw [if_neg c3] at hm
    refine lv_iload_n hx hb dX6_addBooth_10 rfl (lv_at hl 2 rfl) ?_
    refine lv_iconst (v := (1 : Int32)) hx hb dX6_addBooth_11 (by decide) ?_
    refine lv_bipush (v := (9 : Int32)) hx hb dX6_addBooth_12 (by decide) ?_
    refine t_cSi (As := [.int a2, .int (1 : Int32), .int (9 : Int32)]) (rest := []) (μ' := μ) (r := (X6_isWithin a2 (1 : Int32) (9 : Int32))) ⟨hx, hb, hml, hown, hts⟩ (mX6_isWithin l D cA base H.size μ a2 (1 : Int32) (9 : Int32) rfl) (va_cwS 3 hts gX6_addBooth_X6_isWithin rfl rfl rfl (by decide +kernel) ⟨Nat.le_of_ble_eq_true rfl, Nat.le_of_ble_eq_true rfl⟩) hK hN hP hS hz rfl hl.1 (Nat.le_of_ble_eq_true rfl) dX6_addBooth_14 ⟨Nat.le_of_ble_eq_true rfl, Nat.le_of_ble_eq_true rfl⟩ rfl (fun H locs hP hS => ?_)
    refine lv_if_eq (tgt := 24) hx hb dX6_addBooth_17 (by decide) (fun c7 => ?_) (fun c7 => ?_)
    · rw [if_pos c7] at hm
      refine lv_iconst (v := (0 : Int32)) hx hb dX6_addBooth_24 (by decide) ?_
      refine t_chk (rest := []) ⟨hx, hb, hml, hown, hts⟩ (mX6_demand l hlt D cA base H.size μ (0 : Int32)) (va_cwS 1 hts gX6_addBooth_X6_demand rfl rfl rfl (by decide +kernel) ⟨Nat.le_of_ble_eq_true rfl, Nat.le_of_ble_eq_true rfl⟩) hK hN hX hP hS rfl hl.1 (Nat.le_of_ble_eq_true rfl) dX6_addBooth_25 ⟨Nat.le_of_ble_eq_true rfl, Nat.le_of_ble_eq_true rfl⟩ (fun c8 H locs hP hS => ?_) (fun c8 H locs ce q9 hP hS hc1 hc2 hc3 => ?_)
      · exact absurd rfl c8
      cases hm
      refine vx_widen (k := 3) (n := 18) (Nat.le_of_ble_eq_true rfl) (Nat.le_of_ble_eq_true rfl) ?_
      exact vx_out (fun x hx => (hxt x hx).elim) hlocks hc1 hc2 hc3 (fun t ht hA => ⟨(), trivial, ⟨Or.inl ⟨rfl, rfl⟩, tPost_of hP ht⟩, hS.F ht⟩) hS.2.2 (Nat.le_refl _) (Nat.le_refl _)
    · rw [if_neg c7] at hm
      refine lv_iconst (v := (1 : Int32)) hx hb dX6_addBooth_20 (by decide) ?_
      refine lv_goto (tgt := 25) hx hb dX6_addBooth_21 (by decide) ?_
      refine t_chk (rest := []) ⟨hx, hb, hml, hown, hts⟩ (mX6_demand l hlt D cA base H.size μ (1 : Int32)) (va_cwS 1 hts gX6_addBooth_X6_demand rfl rfl rfl (by decide +kernel) ⟨Nat.le_of_ble_eq_true rfl, Nat.le_of_ble_eq_true rfl⟩) hK hN hX hP hS rfl hl.1 (Nat.le_of_ble_eq_true rfl) dX6_addBooth_25 ⟨Nat.le_of_ble_eq_true rfl, Nat.le_of_ble_eq_true rfl⟩ (fun c9 H locs hP hS => ?_) (fun c9 H locs ce q9 hP hS hc1 hc2 hc3 => ?_)
      rotate_left
      · exact absurd c9 (by decide)
      refine lv_iload_n hx hb dX6_addBooth_28 rfl (lv_at hl 3 rfl) ?_
      refine lv_iconst (v := (1 : Int32)) hx hb dX6_addBooth_29 (by decide) ?_
      refine lv_bipush (v := (12 : Int32)) hx hb dX6_addBooth_30 (by decide) ?_
      refine t_cSi (As := [.int a3, .int (1 : Int32), .int (12 : Int32)]) (rest := []) (μ' := μ) (r := (X6_isWithin a3 (1 : Int32) (12 : Int32))) ⟨hx, hb, hml, hown, hts⟩ (mX6_isWithin l D cA base H.size μ a3 (1 : Int32) (12 : Int32) rfl) (va_cwS 3 hts gX6_addBooth_X6_isWithin rfl rfl rfl (by decide +kernel) ⟨Nat.le_of_ble_eq_true rfl, Nat.le_of_ble_eq_true rfl⟩) hK hN hP hS hz rfl hl.1 (Nat.le_of_ble_eq_true rfl) dX6_addBooth_32 ⟨Nat.le_of_ble_eq_true rfl, Nat.le_of_ble_eq_true rfl⟩ rfl (fun H locs hP hS => ?_)
      refine t_chk (rest := []) ⟨hx, hb, hml, hown, hts⟩ (mX6_demand l hlt D cA base H.size μ (X6_isWithin a3 (1 : Int32) (12 : Int32))) (va_cwS 1 hts gX6_addBooth_X6_demand rfl rfl rfl (by decide +kernel) ⟨Nat.le_of_ble_eq_true rfl, Nat.le_of_ble_eq_true rfl⟩) hK hN hX hP hS rfl hl.1 (Nat.le_of_ble_eq_true rfl) dX6_addBooth_35 ⟨Nat.le_of_ble_eq_true rfl, Nat.le_of_ble_eq_true rfl⟩ (fun c12 H locs hP hS => ?_) (fun c12 H locs ce q9 hP hS hc1 hc2 hc3 => ?_)
      rotate_left
      · rw [if_pos c12] at hm
        cases hm
        refine vx_widen (k := 3) (n := 18) (Nat.le_of_ble_eq_true rfl) (Nat.le_of_ble_eq_true rfl) ?_
        exact vx_out (fun x hx => (hxt x hx).elim) hlocks hc1 hc2 hc3 (fun t ht hA => ⟨(), trivial, ⟨Or.inl ⟨rfl, rfl⟩, tPost_of hP ht⟩, hS.F ht⟩) hS.2.2 (Nat.le_refl _) (Nat.le_refl _)
      rw [if_neg c12] at hm
      refine lv_aload_n hx hb dX6_addBooth_38 rfl (lv_at hl 0 rfl) ?_
      refine t_getr (C := RX6) (T := TX6) (N := 2) hx hb hts hin6 hown hK hP hq rfl rfl 0 (by decide) (fr6_0 hq) (hts _ (List.mem_of_getElem? (i := 1) rfl)) dX6_addBooth_39 ?_
      refine t_geti (C := RX5) (T := TX5) (N := 9) hx hb hts hin5 hown hK hP (kr6_0 hq) rfl rfl 6 (by decide) (fk5_6 (kr6_0 hq)) (hts _ (List.mem_of_getElem? (i := 2) rfl)) dX6_addBooth_42 ?_
      refine lv_bipush (v := (6 : Int32)) hx hb dX6_addBooth_45 (by decide) ?_
      refine lv_icmp_ge (tgt := 54) hx hb dX6_addBooth_47 (by decide) (fun c13 => ?_) (fun c13 => ?_)
      · rw [if_pos c13] at hm
        refine lv_iconst (v := (0 : Int32)) hx hb dX6_addBooth_54 (by decide) ?_
        refine t_chk (rest := []) ⟨hx, hb, hml, hown, hts⟩ (mX6_allow l hlt D cA base H.size μ (0 : Int32)) (va_cwS 1 hts gX6_addBooth_X6_allow rfl rfl rfl (by decide +kernel) ⟨Nat.le_of_ble_eq_true rfl, Nat.le_of_ble_eq_true rfl⟩) hK hN hX hP hS rfl hl.1 (Nat.le_of_ble_eq_true rfl) dX6_addBooth_55 ⟨Nat.le_of_ble_eq_true rfl, Nat.le_of_ble_eq_true rfl⟩ (fun c14 H locs hP hS => ?_) (fun c14 H locs ce q9 hP hS hc1 hc2 hc3 => ?_)
        · exact absurd rfl c14
        cases hm
        refine vx_widen (k := 3) (n := 18) (Nat.le_of_ble_eq_true rfl) (Nat.le_of_ble_eq_true rfl) ?_
        exact vx_out (fun x hx => (hxt x hx).elim) hlocks hc1 hc2 hc3 (fun t ht hA => ⟨(), trivial, ⟨Or.inr (Or.inl ⟨rfl, rfl⟩), tPost_of hP ht⟩, hS.F ht⟩) hS.2.2 (Nat.le_refl _) (Nat.le_refl _)
      · rw [if_neg c13] at hm
        refine lv_iconst (v := (1 : Int32)) hx hb dX6_addBooth_50 (by decide) ?_
        refine lv_goto (tgt := 55) hx hb dX6_addBooth_51 (by decide) ?_
        refine t_chk (rest := []) ⟨hx, hb, hml, hown, hts⟩ (mX6_allow l hlt D cA base H.size μ (1 : Int32)) (va_cwS 1 hts gX6_addBooth_X6_allow rfl rfl rfl (by decide +kernel) ⟨Nat.le_of_ble_eq_true rfl, Nat.le_of_ble_eq_true rfl⟩) hK hN hX hP hS rfl hl.1 (Nat.le_of_ble_eq_true rfl) dX6_addBooth_55 ⟨Nat.le_of_ble_eq_true rfl, Nat.le_of_ble_eq_true rfl⟩ (fun c15 H locs hP hS => ?_) (fun c15 H locs ce q9 hP hS hc1 hc2 hc3 => ?_)
        rotate_left
        · exact absurd c15 (by decide)
        refine lv_aload_n hx hb dX6_addBooth_58 rfl (lv_at hl 0 rfl) ?_
        refine t_getr (C := RX6) (T := TX6) (N := 2) hx hb hts hin6 hown hK hP hq rfl rfl 0 (by decide) (fr6_0 hq) (hts _ (List.mem_of_getElem? (i := 1) rfl)) dX6_addBooth_59 ?_
        refine lv_iload_n hx hb dX6_addBooth_62 rfl (lv_at hl 1 rfl) ?_
        refine lv_iload_n hx hb dX6_addBooth_63 rfl (lv_at hl 2 rfl) ?_
        refine lv_iload_n hx hb dX6_addBooth_64 rfl (lv_at hl 3 rfl) ?_
        obtain ⟨r16, μ17, hc18, hm⟩ := bO2_inv hm
        refine t_cVi (As := [.int a1, .int a2, .int a3]) (rest := []) (μ' := μ17) (r := r16) ⟨hx, hb, hml, hown, hts⟩ (mX5_build l D cA base H.size μ (kr6_0 hq) a1 a2 a3 hc18) (cwV 3 hts gX6_addBooth_X5_build rfl rfl rfl (by decide +kernel) ⟨Nat.le_of_ble_eq_true rfl, Nat.le_of_ble_eq_true rfl⟩) (va_recv hK hP (q0 := RF q 0) rfl (tw_obj (kr6_0 hq) (by decide))) hK hN hP hS hz rfl hl.1 (Nat.le_of_ble_eq_true rfl) dX6_addBooth_65 ⟨Nat.le_of_ble_eq_true rfl, Nat.le_of_ble_eq_true rfl⟩ rfl (fun H locs hP hS => ?_)
        cases hm
        refine vx_ret ?_
        refine W.widen (k := 3) (n := 18) (Nat.le_of_ble_eq_true rfl) (Nat.le_of_ble_eq_true rfl) ?_
        exact W.iret hx hb hr (fun t ht hW => ⟨⟨_, (), rfl, ⟨rfl, rfl⟩, tPost_of hP ht⟩, hS.F ht⟩) hS.2.2 dX6_addBooth_68
abbrev rmX6_tune : Room := { frames := 7, cells := 2, slots := 12, locals := 102 }
set_option maxHeartbeats 4000000 in
set_option maxRecDepth 100000 in
theorem mX6_tune (l : Launch) (hlt : l.stackTraces = false) (D : va_G) (cA : Nat → ClassId) (base sz : Nat) (μ : MM) {q : Nat} (hq : kc q = 6) (a1 : Int32) (a2 : Int32) {kd : Nat} {r : Int32} {μ' : MM} (hm : X6_tune q a1 a2 μ = some (kd, r, μ')) : vx_Met l yX6_tune wsX6_tune rmX6_tune (va_Pc [.ref (base + q), .int a1, .int a2] (tPreX D cA base sz μ)) (va_Qi (fun (x : Int32) (_ : Unit) => kd = 0 ∧ x = r) (fun _ => tPost D cA base μ') (tA base sz)) (vx_X (fun _ : Unit => True) (fun E _ t => exn kd E ∧ tPost D cA base μ' t) (tA base sz)) 2 12 (tA base sz) := by
  refine vx_ofW (cc := cX6_tune) (maxL := 4) (ret := (some .int)) (by decide) rfl ?_
  intro p e s m args below meth c s₁ B hml hxt hv
  obtain ⟨rfl, ⟨hsz, hP, hK, hN⟩, hX⟩ := hv
  have hx := B.exec
  have hb := B.bytes
  have hr := B.returns
  have hts := atoms_spec (ws := wsX6_tune) B.pre
  have hown : s.vm.findClass RX6 = some m.cls := findClass_of_methodNamed B.named
  have hlocks := B.notSynchronized
  have hin0 : ∀ w ∈ wsX00, w ∈ wsX6_tune := by decide +kernel
  have hin5 : ∀ w ∈ wsX50, w ∈ wsX6_tune := by decide +kernel
  have hin6 : ∀ w ∈ wsX60, w ∈ wsX6_tune := by decide +kernel
  subst hsz
  have hS : va_S (tA base s.heap.size) s.heap s.heap [] := va_S.rf
  have hz : s.heap.size ≤ s.heap.size := Nat.le_refl _
  have hl := lv_entry ([.ref (base + q), .int a1, .int a2]) (n := 4) (Nat.le_of_ble_eq_true rfl)
  rw [lg_entry_eq]
  generalize (lg_sl ([.ref (base + q), .int a1, .int a2]) ++ List.replicate (4 - (lg_sl ([.ref (base + q), .int a1, .int a2])).length) Slot.unset).toArray = ls at hl ⊢
  have hl : lv_has ls 4 [(0, .ref (base + q)), (1, .int a1), (2, .int a2)] := hl
  unfold X6_tune at hm
  refine lv_aload_n hx hb dX6_tune_0 rfl (lv_at hl 0 rfl) ?_
  refine t_getr (C := RX6) (T := TX6) (N := 2) hx hb hts hin6 hown hK hP hq rfl rfl 0 (by decide) (fr6_0 hq) (hts _ (List.mem_of_getElem? (i := 1) rfl)) dX6_tune_1 ?_
  refine lv_iload_n hx hb dX6_tune_4 rfl (lv_at hl 1 rfl) ?_
  refine t_cVi (As := [.int a1]) (rest := []) (μ' := μ) (r := (X5_hasBooth (RF q 0) a1 μ)) ⟨hx, hb, hml, hown, hts⟩ (mX5_hasBooth l D cA base s.heap.size μ (kr6_0 hq) a1 rfl) (cwV 1 hts gX6_tune_X5_hasBooth rfl rfl rfl (by decide +kernel) ⟨Nat.le_of_ble_eq_true rfl, Nat.le_of_ble_eq_true rfl⟩) (va_recv hK hP (q0 := RF q 0) rfl (tw_obj (kr6_0 hq) (by decide))) hK hN hP hS hz rfl hl.1 (Nat.le_of_ble_eq_true rfl) dX6_tune_5 ⟨Nat.le_of_ble_eq_true rfl, Nat.le_of_ble_eq_true rfl⟩ rfl (fun H locs hP hS => ?_)
  refine lv_if_eq (tgt := 31) hx hb dX6_tune_8 (by decide) (fun c3 => ?_) (fun c3 => ?_)
  · rw [if_pos c3] at hm
    refine lv_iconst (v := (0 : Int32)) hx hb dX6_tune_31 (by decide) ?_
    refine t_chk (rest := []) ⟨hx, hb, hml, hown, hts⟩ (mX6_find l hlt D cA base H.size μ (0 : Int32)) (va_cwS 1 hts gX6_tune_X6_find rfl rfl rfl (by decide +kernel) ⟨Nat.le_of_ble_eq_true rfl, Nat.le_of_ble_eq_true rfl⟩) hK hN hX hP hS rfl hl.1 (Nat.le_of_ble_eq_true rfl) dX6_tune_32 ⟨Nat.le_of_ble_eq_true rfl, Nat.le_of_ble_eq_true rfl⟩ (fun c4 H locs hP hS => ?_) (fun c4 H locs ce q9 hP hS hc1 hc2 hc3 => ?_)
    · exact absurd rfl c4
    cases hm
    refine vx_widen (k := 2) (n := 12) (Nat.le_of_ble_eq_true rfl) (Nat.le_of_ble_eq_true rfl) ?_
    exact vx_out (fun x hx => (hxt x hx).elim) hlocks hc1 hc2 hc3 (fun t ht hA => ⟨(), trivial, ⟨Or.inr (Or.inr ⟨rfl, rfl⟩), tPost_of hP ht⟩, hS.F ht⟩) hS.2.2 (Nat.le_refl _) (Nat.le_refl _)
  · rw [if_neg c3] at hm
    refine lv_iload_n hx hb dX6_tune_11 rfl (lv_at hl 2 rfl) ?_
    refine lv_iconst (v := (-1 : Int32)) hx hb dX6_tune_12 (by decide) ?_
    refine lv_icmp_eq (tgt := 27) hx hb dX6_tune_13 (by decide) (fun c5 => ?_) (fun c5 => ?_)
    · rw [if_pos c5] at hm
      refine lv_iconst (v := (1 : Int32)) hx hb dX6_tune_27 (by decide) ?_
      refine lv_goto (tgt := 32) hx hb dX6_tune_28 (by decide) ?_
      refine t_chk (rest := []) ⟨hx, hb, hml, hown, hts⟩ (mX6_find l hlt D cA base H.size μ (1 : Int32)) (va_cwS 1 hts gX6_tune_X6_find rfl rfl rfl (by decide +kernel) ⟨Nat.le_of_ble_eq_true rfl, Nat.le_of_ble_eq_true rfl⟩) hK hN hX hP hS rfl hl.1 (Nat.le_of_ble_eq_true rfl) dX6_tune_32 ⟨Nat.le_of_ble_eq_true rfl, Nat.le_of_ble_eq_true rfl⟩ (fun c6 H locs hP hS => ?_) (fun c6 H locs ce q9 hP hS hc1 hc2 hc3 => ?_)
      rotate_left
      · exact absurd c6 (by decide)
      refine lv_aload_n hx hb dX6_tune_35 rfl (lv_at hl 0 rfl) ?_
      refine t_getr (C := RX6) (T := TX6) (N := 2) hx hb hts hin6 hown hK hP hq rfl rfl 0 (by decide) (fr6_0 hq) (hts _ (List.mem_of_getElem? (i := 1) rfl)) dX6_tune_36 ?_
      refine lv_iload_n hx hb dX6_tune_39 rfl (lv_at hl 2 rfl) ?_
      refine lv_iload_n hx hb dX6_tune_40 rfl (lv_at hl 1 rfl) ?_
      obtain ⟨r7, hc8, hm⟩ := bO1_inv hm
      refine t_cVi (As := [.int a2, .int a1]) (rest := []) (μ' := μ) (r := r7) ⟨hx, hb, hml, hown, hts⟩ (mX5_comesBy l D cA base H.size μ (kr6_0 hq) a2 a1 hc8) (cwV 2 hts gX6_tune_X5_comesBy rfl rfl rfl (by decide +kernel) ⟨Nat.le_of_ble_eq_true rfl, Nat.le_of_ble_eq_true rfl⟩) (va_recv hK hP (q0 := RF q 0) rfl (tw_obj (kr6_0 hq) (by decide))) hK hN hP hS hz rfl hl.1 (Nat.le_of_ble_eq_true rfl) dX6_tune_41 ⟨Nat.le_of_ble_eq_true rfl, Nat.le_of_ble_eq_true rfl⟩ rfl (fun H locs hP hS => ?_)
      refine lv_if_ne (tgt := 51) hx hb dX6_tune_44 (by decide) (fun c9 => ?_) (fun c9 => ?_)
      · rw [if_neg c9] at hm
        refine lv_iconst (v := (0 : Int32)) hx hb dX6_tune_51 (by decide) ?_
        refine t_chk (rest := []) ⟨hx, hb, hml, hown, hts⟩ (mX6_demand l hlt D cA base H.size μ (0 : Int32)) (va_cwS 1 hts gX6_tune_X6_demand rfl rfl rfl (by decide +kernel) ⟨Nat.le_of_ble_eq_true rfl, Nat.le_of_ble_eq_true rfl⟩) hK hN hX hP hS rfl hl.1 (Nat.le_of_ble_eq_true rfl) dX6_tune_52 ⟨Nat.le_of_ble_eq_true rfl, Nat.le_of_ble_eq_true rfl⟩ (fun c10 H locs hP hS => ?_) (fun c10 H locs ce q9 hP hS hc1 hc2 hc3 => ?_)
        · exact absurd rfl c10
        cases hm
        refine vx_widen (k := 2) (n := 12) (Nat.le_of_ble_eq_true rfl) (Nat.le_of_ble_eq_true rfl) ?_
        exact vx_out (fun x hx => (hxt x hx).elim) hlocks hc1 hc2 hc3 (fun t ht hA => ⟨(), trivial, ⟨Or.inl ⟨rfl, rfl⟩, tPost_of hP ht⟩, hS.F ht⟩) hS.2.2 (Nat.le_refl _) (Nat.le_refl _)
      · rw [if_pos c9] at hm
        refine lv_iconst (v := (1 : Int32)) hx hb dX6_tune_47 (by decide) ?_
        refine lv_goto (tgt := 52) hx hb dX6_tune_48 (by decide) ?_
        refine t_chk (rest := []) ⟨hx, hb, hml, hown, hts⟩ (mX6_demand l hlt D cA base H.size μ (1 : Int32)) (va_cwS 1 hts gX6_tune_X6_demand rfl rfl rfl (by decide +kernel) ⟨Nat.le_of_ble_eq_true rfl, Nat.le_of_ble_eq_true rfl⟩) hK hN hX hP hS rfl hl.1 (Nat.le_of_ble_eq_true rfl) dX6_tune_52 ⟨Nat.le_of_ble_eq_true rfl, Nat.le_of_ble_eq_true rfl⟩ (fun c11 H locs hP hS => ?_) (fun c11 H locs ce q9 hP hS hc1 hc2 hc3 => ?_)
        rotate_left
        · exact absurd c11 (by decide)
        refine lv_aload_n hx hb dX6_tune_55 rfl (lv_at hl 0 rfl) ?_
        refine t_getr (C := RX6) (T := TX6) (N := 2) hx hb hts hin6 hown hK hP hq rfl rfl 0 (by decide) (fr6_0 hq) (hts _ (List.mem_of_getElem? (i := 1) rfl)) dX6_tune_56 ?_
        refine t_getr (C := RX5) (T := TX5) (N := 9) hx hb hts hin5 hown hK hP (kr6_0 hq) rfl rfl 3 (by decide) (fr5_3 (kr6_0 hq)) (hts _ (List.mem_of_getElem? (i := 2) rfl)) dX6_tune_59 ?_
        refine lv_iload_n hx hb dX6_tune_62 rfl (lv_at hl 1 rfl) ?_
        obtain ⟨hg12, hm⟩ := gd_inv hm
        refine t_aald2 hx hb hK hP (kr5_3 (kr6_0 hq)) hg12 dX6_tune_63 ?_
        refine t_geti (C := RX0) (T := TX0) (N := 10) hx hb hts hin0 hown hK hP (ka102 (kr5_3 (kr6_0 hq)) hg12) rfl rfl 6 (by decide) (fk0_6 (ka102 (kr5_3 (kr6_0 hq)) hg12)) (hts _ (List.mem_of_getElem? (i := 3) rfl)) dX6_tune_64 ?_
        refine lv_topi (fun x13 ex13 => ?_)
        replace hm := bV_of hm ex13
        refine lv_istore_n (lv' := [(3, .int x13), (0, .ref (base + q)), (1, .int a1), (2, .int a2)]) hx hb dX6_tune_67 rfl hl (by decide) rfl (fun ls hl => ?_)
        refine lv_aload_n hx hb dX6_tune_68 rfl (lv_at hl 1 rfl) ?_
        refine t_getr (C := RX6) (T := TX6) (N := 2) hx hb hts hin6 hown hK hP hq rfl rfl 0 (by decide) (fr6_0 hq) (hts _ (List.mem_of_getElem? (i := 1) rfl)) dX6_tune_69 ?_
        refine t_getr (C := RX5) (T := TX5) (N := 9) hx hb hts hin5 hown hK hP (kr6_0 hq) rfl rfl 3 (by decide) (fr5_3 (kr6_0 hq)) (hts _ (List.mem_of_getElem? (i := 2) rfl)) dX6_tune_72 ?_
        refine lv_iload_n hx hb dX6_tune_75 rfl (lv_at hl 2 rfl) ?_
        obtain ⟨hg14, hm⟩ := gd_inv hm
        refine t_aald2 hx hb hK hP (kr5_3 (kr6_0 hq)) hg14 dX6_tune_76 ?_
        refine lv_iload_n hx hb dX6_tune_77 rfl (lv_at hl 3 rfl) ?_
        refine t_put (C := RX0) (T := TX0) (N := 10) hx hb hts hin0 tyX0 tyX0_ok nmX0 hown hK hP (tD _ _ _ _) hS (ka102 (kr5_3 (kr6_0 hq)) hg14) rfl rfl 6 (by decide) (fk0_6 (ka102 (kr5_3 (kr6_0 hq)) hg14)) (hts _ (List.mem_of_getElem? (i := 3) rfl)) rfl (by decide +kernel) dX6_tune_78 (fun H locs hP hS => ?_)
        obtain ⟨μ15, eμ15⟩ : ∃ z : MM, z = wI μ (RF (RF (RF q 0) 3) a1.toNatClampNeg) 6 a2 := ⟨_, rfl⟩
        rw [← eμ15] at hP
        replace hm := bV_of hm eμ15
        refine lv_iload_n hx hb dX6_tune_81 rfl (lv_at hl 0 rfl) ?_
        cases hm
        refine vx_ret ?_
        refine W.widen (k := 2) (n := 12) (Nat.le_of_ble_eq_true rfl) (Nat.le_of_ble_eq_true rfl) ?_
        exact W.iret hx hb hr (fun t ht hW => ⟨⟨_, (), rfl, ⟨rfl, rfl⟩, tPost_of hP ht⟩, hS.F ht⟩) hS.2.2 dX6_tune_82
    · rw [if_neg c5] at hm
      refine lv_aload_n hx hb dX6_tune_16 rfl (lv_at hl 0 rfl) ?_
      refine t_getr (C := RX6) (T := TX6) (N := 2) hx hb hts hin6 hown hK hP hq rfl rfl 0 (by decide) (fr6_0 hq) (hts _ (List.mem_of_getElem? (i := 1) rfl)) dX6_tune_17 ?_
      refine lv_iload_n hx hb dX6_tune_20 rfl (lv_at hl 2 rfl) ?_
      refine t_cVi (As := [.int a2]) (rest := []) (μ' := μ) (r := (X5_hasBooth (RF q 0) a2 μ)) ⟨hx, hb, hml, hown, hts⟩ (mX5_hasBooth l D cA base H.size μ (kr6_0 hq) a2 rfl) (cwV 1 hts gX6_tune_X5_hasBooth rfl rfl rfl (by decide +kernel) ⟨Nat.le_of_ble_eq_true rfl, Nat.le_of_ble_eq_true rfl⟩) (va_recv hK hP (q0 := RF q 0) rfl (tw_obj (kr6_0 hq) (by decide))) hK hN hP hS hz rfl hl.1 (Nat.le_of_ble_eq_true rfl) dX6_tune_21 ⟨Nat.le_of_ble_eq_true rfl, Nat.le_of_ble_eq_true rfl⟩ rfl (fun H locs hP hS => ?_)
      refine lv_if_eq (tgt := 31) hx hb dX6_tune_24 (by decide) (fun c18 => ?_) (fun c18 => ?_)
      · rw [if_pos c18] at hm
        refine lv_iconst (v := (0 : Int32)) hx hb dX6_tune_31 (by decide) ?_
        refine t_chk (rest := []) ⟨hx, hb, hml, hown, hts⟩ (mX6_find l hlt D cA base H.size μ (0 : Int32)) (va_cwS 1 hts gX6_tune_X6_find rfl rfl rfl (by decide +kernel) ⟨Nat.le_of_ble_eq_true rfl, Nat.le_of_ble_eq_true rfl⟩) hK hN hX hP hS rfl hl.1 (Nat.le_of_ble_eq_true rfl) dX6_tune_32 ⟨Nat.le_of_ble_eq_true rfl, Nat.le_of_ble_eq_true rfl⟩ (fun c19 H locs hP hS => ?_) (fun c19 H locs ce q9 hP hS hc1 hc2 hc3 => ?_)
        · exact absurd rfl c19
        cases hm
        refine vx_widen (k := 2) (n := 12) (Nat.le_of_ble_eq_true rfl) (Nat.le_of_ble_eq_true rfl) ?_
        exact vx_out (fun x hx => (hxt x hx).elim) hlocks hc1 hc2 hc3 (fun t ht hA => ⟨(), trivial, ⟨Or.inr (Or.inr ⟨rfl, rfl⟩), tPost_of hP ht⟩, hS.F ht⟩) hS.2.2 (Nat.le_refl _) (Nat.le_refl _)
      · rw [if_neg c18] at hm
        refine lv_iconst (v := (1 : Int32)) hx hb dX6_tune_27 (by decide) ?_
        refine lv_goto (tgt := 32) hx hb dX6_tune_28 (by decide) ?_
        refine t_chk (rest := []) ⟨hx, hb, hml, hown, hts⟩ (mX6_find l hlt D cA base H.size μ (1 : Int32)) (va_cwS 1 hts gX6_tune_X6_find rfl rfl rfl (by decide +kernel) ⟨Nat.le_of_ble_eq_true rfl, Nat.le_of_ble_eq_true rfl⟩) hK hN hX hP hS rfl hl.1 (Nat.le_of_ble_eq_true rfl) dX6_tune_32 ⟨Nat.le_of_ble_eq_true rfl, Nat.le_of_ble_eq_true rfl⟩ (fun c20 H locs hP hS => ?_) (fun c20 H locs ce q9 hP hS hc1 hc2 hc3 => ?_)
        rotate_left
        · exact absurd c20 (by decide)
        refine lv_aload_n hx hb dX6_tune_35 rfl (lv_at hl 0 rfl) ?_
        refine t_getr (C := RX6) (T := TX6) (N := 2) hx hb hts hin6 hown hK hP hq rfl rfl 0 (by decide) (fr6_0 hq) (hts _ (List.mem_of_getElem? (i := 1) rfl)) dX6_tune_36 ?_
        refine lv_iload_n hx hb dX6_tune_39 rfl (lv_at hl 2 rfl) ?_
        refine lv_iload_n hx hb dX6_tune_40 rfl (lv_at hl 1 rfl) ?_
        obtain ⟨r21, hc22, hm⟩ := bO1_inv hm
        refine t_cVi (As := [.int a2, .int a1]) (rest := []) (μ' := μ) (r := r21) ⟨hx, hb, hml, hown, hts⟩ (mX5_comesBy l D cA base H.size μ (kr6_0 hq) a2 a1 hc22) (cwV 2 hts gX6_tune_X5_comesBy rfl rfl rfl (by decide +kernel) ⟨Nat.le_of_ble_eq_true rfl, Nat.le_of_ble_eq_true rfl⟩) (va_recv hK hP (q0 := RF q 0) rfl (tw_obj (kr6_0 hq) (by decide))) hK hN hP hS hz rfl hl.1 (Nat.le_of_ble_eq_true rfl) dX6_tune_41 ⟨Nat.le_of_ble_eq_true rfl, Nat.le_of_ble_eq_true rfl⟩ rfl (fun H locs hP hS => ?_)
        refine lv_if_ne (tgt := 51) hx hb dX6_tune_44 (by decide) (fun c23 => ?_) (fun c23 => ?_)
        · rw [if_neg c23] at hm
          refine lv_iconst (v := (0 : Int32)) hx hb dX6_tune_51 (by decide) ?_
          refine t_chk (rest := []) ⟨hx, hb, hml, hown, hts⟩ (mX6_demand l hlt D cA base H.size μ (0 : Int32)) (va_cwS 1 hts gX6_tune_X6_demand rfl rfl rfl (by decide +kernel) ⟨Nat.le_of_ble_eq_true rfl, Nat.le_of_ble_eq_true rfl⟩) hK hN hX hP hS rfl hl.1 (Nat.le_of_ble_eq_true rfl) dX6_tune_52 ⟨Nat.le_of_ble_eq_true rfl, Nat.le_of_ble_eq_true rfl⟩ (fun c24 H locs hP hS => ?_) (fun c24 H locs ce q9 hP hS hc1 hc2 hc3 => ?_)
          · exact absurd rfl c24
          cases hm
          refine vx_widen (k := 2) (n := 12) (Nat.le_of_ble_eq_true rfl) (Nat.le_of_ble_eq_true rfl) ?_
          exact vx_out (fun x hx => (hxt x hx).elim) hlocks hc1 hc2 hc3 (fun t ht hA => ⟨(), trivial, ⟨Or.inl ⟨rfl, rfl⟩, tPost_of hP ht⟩, hS.F ht⟩) hS.2.2 (Nat.le_refl _) (Nat.le_refl _)
        · rw [if_pos c23] at hm
          refine lv_iconst (v := (1 : Int32)) hx hb dX6_tune_47 (by decide) ?_
          refine lv_goto (tgt := 52) hx hb dX6_tune_48 (by decide) ?_
          refine t_chk (rest := []) ⟨hx, hb, hml, hown, hts⟩ (mX6_demand l hlt D cA base H.size μ (1 : Int32)) (va_cwS 1 hts gX6_tune_X6_demand rfl rfl rfl (by decide +kernel) ⟨Nat.le_of_ble_eq_true rfl, Nat.le_of_ble_eq_true rfl⟩) hK hN hX hP hS rfl hl.1 (Nat.le_of_ble_eq_true rfl) dX6_tune_52 ⟨Nat.le_of_ble_eq_true rfl, Nat.le_of_ble_eq_true rfl⟩ (fun c25 H locs hP hS => ?_) (fun c25 H locs ce q9 hP hS hc1 hc2 hc3 => ?_)
          rotate_left
          · exact absurd c25 (by decide)
          refine lv_aload_n hx hb dX6_tune_55 rfl (lv_at hl 0 rfl) ?_
          refine t_getr (C := RX6) (T := TX6) (N := 2) hx hb hts hin6 hown hK hP hq rfl rfl 0 (by decide) (fr6_0 hq) (hts _ (List.mem_of_getElem? (i := 1) rfl)) dX6_tune_56 ?_
          refine t_getr (C := RX5) (T := TX5) (N := 9) hx hb hts hin5 hown hK hP (kr6_0 hq) rfl rfl 3 (by decide) (fr5_3 (kr6_0 hq)) (hts _ (List.mem_of_getElem? (i := 2) rfl)) dX6_tune_59 ?_
          refine lv_iload_n hx hb dX6_tune_62 rfl (lv_at hl 1 rfl) ?_
          obtain ⟨hg26, hm⟩ := gd_inv hm
          refine t_aald2 hx hb hK hP (kr5_3 (kr6_0 hq)) hg26 dX6_tune_63 ?_
          refine t_geti (C := RX0) (T := TX0) (N := 10) hx hb hts hin0 hown hK hP (ka102 (kr5_3 (kr6_0 hq)) hg26) rfl rfl 6 (by decide) (fk0_6 (ka102 (kr5_3 (kr6_0 hq)) hg26)) (hts _ (List.mem_of_getElem? (i := 3) rfl)) dX6_tune_64 ?_
          refine lv_topi (fun x27 ex27 => ?_)
          replace hm := bV_of hm ex27
          refine lv_istore_n (lv' := [(3, .int x27), (0, .ref (base + q)), (1, .int a1), (2, .int a2)]) hx hb dX6_tune_67 rfl hl (by decide) rfl (fun ls hl => ?_)
          refine lv_aload_n hx hb dX6_tune_68 rfl (lv_at hl 1 rfl) ?_
          refine t_getr (C := RX6) (T := TX6) (N := 2) hx hb hts hin6 hown hK hP hq rfl rfl 0 (by decide) (fr6_0 hq) (hts _ (List.mem_of_getElem? (i := 1) rfl)) dX6_tune_69 ?_
          refine t_getr (C := RX5) (T := TX5) (N := 9) hx hb hts hin5 hown hK hP (kr6_0 hq) rfl rfl 3 (by decide) (fr5_3 (kr6_0 hq)) (hts _ (List.mem_of_getElem? (i := 2) rfl)) dX6_tune_72 ?_
          refine lv_iload_n hx hb dX6_tune_75 rfl (lv_at hl 2 rfl) ?_
          obtain ⟨hg28, hm⟩ := gd_inv hm
          refine t_aald2 hx hb hK hP (kr5_3 (kr6_0 hq)) hg28 dX6_tune_76 ?_
          refine lv_iload_n hx hb dX6_tune_77 rfl (lv_at hl 3 rfl) ?_
          refine t_put (C := RX0) (T := TX0) (N := 10) hx hb hts hin0 tyX0 tyX0_ok nmX0 hown hK hP (tD _ _ _ _) hS (ka102 (kr5_3 (kr6_0 hq)) hg28) rfl rfl 6 (by decide) (fk0_6 (ka102 (kr5_3 (kr6_0 hq)) hg28)) (hts _ (List.mem_of_getElem? (i := 3) rfl)) rfl (by decide +kernel) dX6_tune_78 (fun H locs hP hS => ?_)
          obtain ⟨μ29, eμ29⟩ : ∃ z : MM, z = wI μ (RF (RF (RF q 0) 3) a1.toNatClampNeg) 6 a2 := ⟨_, rfl⟩
          rw [← eμ29] at hP
          replace hm := bV_of hm eμ29
          refine lv_iload_n hx hb dX6_tune_81 rfl (lv_at hl 0 rfl) ?_
          cases hm
          refine vx_ret ?_
          refine W.widen (k := 2) (n := 12) (Nat.le_of_ble_eq_true rfl) (Nat.le_of_ble_eq_true rfl) ?_
          exact W.iret hx hb hr (fun t ht hW => ⟨⟨_, (), rfl, ⟨rfl, rfl⟩, tPost_of hP ht⟩, hS.F ht⟩) hS.2.2 dX6_tune_82
abbrev rmX6_sit : Room := { frames := 7, cells := 1, slots := 6, locals := 102 }
set_option maxHeartbeats 4000000 in
set_option maxRecDepth 100000 in
theorem mX6_sit (l : Launch) (hlt : l.stackTraces = false) (D : va_G) (cA : Nat → ClassId) (base sz : Nat) (μ : MM) {q : Nat} (hq : kc q = 6) (a1 : Int32) (a2 : Int32) {kd : Nat} {r : Int32} {μ' : MM} (hm : X6_sit q a1 a2 μ = some (kd, r, μ')) : vx_Met l yX6_sit wsX6_sit rmX6_sit (va_Pc [.ref (base + q), .int a1, .int a2] (tPreX D cA base sz μ)) (va_Qi (fun (x : Int32) (_ : Unit) => kd = 0 ∧ x = r) (fun _ => tPost D cA base μ') (tA base sz)) (vx_X (fun _ : Unit => True) (fun E _ t => exn kd E ∧ tPost D cA base μ' t) (tA base sz)) 1 6 (tA base sz) := by
  refine vx_ofW (cc := cX6_sit) (maxL := 3) (ret := (some .int)) (by decide) rfl ?_
  intro p e s m args below meth c s₁ B hml hxt hv
  obtain ⟨rfl, ⟨hsz, hP, hK, hN⟩, hX⟩ := hv
  have hx := B.exec
  have hb := B.bytes
  have hr := B.returns
  have hts := atoms_spec (ws := wsX6_sit) B.pre
  have hown : s.vm.findClass RX6 = some m.cls := findClass_of_methodNamed B.named
  have hlocks := B.notSynchronized
  have hin6 : ∀ w ∈ wsX60, w ∈ wsX6_sit := by decide +kernel
  subst hsz
  have hS : va_S (tA base s.heap.size) s.heap s.heap [] := va_S.rf
  have hz : s.heap.size ≤ s.heap.size := Nat.le_refl _
  have hl := lv_entry ([.ref (base + q), .int a1, .int a2]) (n := 3) (Nat.le_of_ble_eq_true rfl)
  rw [lg_entry_eq]
  generalize (lg_sl ([.ref (base + q), .int a1, .int a2]) ++ List.replicate (3 - (lg_sl ([.ref (base + q), .int a1, .int a2])).length) Slot.unset).toArray = ls at hl ⊢
  have hl : lv_has ls 3 [(0, .ref (base + q)), (1, .int a1), (2, .int a2)] := hl
  unfold X6_sit at hm
  refine lv_aload_n hx hb dX6_sit_0 rfl (lv_at hl 0 rfl) ?_
  refine t_getr (C := RX6) (T := TX6) (N := 2) hx hb hts hin6 hown hK hP hq rfl rfl 0 (by decide) (fr6_0 hq) (hts _ (List.mem_of_getElem? (i := 1) rfl)) dX6_sit_1 ?_
  refine lv_iload_n hx hb dX6_sit_4 rfl (lv_at hl 1 rfl) ?_
  refine t_cVi (As := [.int a1]) (rest := []) (μ' := μ) (r := (X5_hasBooth (RF q 0) a1 μ)) ⟨hx, hb, hml, hown, hts⟩ (mX5_hasBooth l D cA base s.heap.size μ (kr6_0 hq) a1 rfl) (cwV 1 hts gX6_sit_X5_hasBooth rfl rfl rfl (by decide +kernel) ⟨Nat.le_of_ble_eq_true rfl, Nat.le_of_ble_eq_true rfl⟩) (va_recv hK hP (q0 := RF q 0) rfl (tw_obj (kr6_0 hq) (by decide))) hK hN hP hS hz rfl hl.1 (Nat.le_of_ble_eq_true rfl) dX6_sit_5 ⟨Nat.le_of_ble_eq_true rfl, Nat.le_of_ble_eq_true rfl⟩ rfl (fun H locs hP hS => ?_)
  refine lv_if_eq (tgt := 31) hx hb dX6_sit_8 (by decide) (fun c3 => ?_) (fun c3 => ?_)
  · rw [if_pos c3] at hm
    refine lv_iconst (v := (0 : Int32)) hx hb dX6_sit_31 (by decide) ?_
    refine t_chk (rest := []) ⟨hx, hb, hml, hown, hts⟩ (mX6_find l hlt D cA base H.size μ (0 : Int32)) (va_cwS 1 hts gX6_sit_X6_find rfl rfl rfl (by decide +kernel) ⟨Nat.le_of_ble_eq_true rfl, Nat.le_of_ble_eq_true rfl⟩) hK hN hX hP hS rfl hl.1 (Nat.le_of_ble_eq_true rfl) dX6_sit_32 ⟨Nat.le_of_ble_eq_true rfl, Nat.le_of_ble_eq_true rfl⟩ (fun c4 H locs hP hS => ?_) (fun c4 H locs ce q9 hP hS hc1 hc2 hc3 => ?_)
    · exact absurd rfl c4
    cases hm
    refine vx_widen (k := 1) (n := 6) (Nat.le_of_ble_eq_true rfl) (Nat.le_of_ble_eq_true rfl) ?_
    exact vx_out (fun x hx => (hxt x hx).elim) hlocks hc1 hc2 hc3 (fun t ht hA => ⟨(), trivial, ⟨Or.inr (Or.inr ⟨rfl, rfl⟩), tPost_of hP ht⟩, hS.F ht⟩) hS.2.2 (Nat.le_refl _) (Nat.le_refl _)
  · rw [if_neg c3] at hm
    refine lv_iload_n hx hb dX6_sit_11 rfl (lv_at hl 2 rfl) ?_
    refine lv_iconst (v := (-1 : Int32)) hx hb dX6_sit_12 (by decide) ?_
    refine lv_icmp_eq (tgt := 27) hx hb dX6_sit_13 (by decide) (fun c5 => ?_) (fun c5 => ?_)
    · rw [if_pos c5] at hm
      refine lv_iconst (v := (1 : Int32)) hx hb dX6_sit_27 (by decide) ?_
      refine lv_goto (tgt := 32) hx hb dX6_sit_28 (by decide) ?_
      refine t_chk (rest := []) ⟨hx, hb, hml, hown, hts⟩ (mX6_find l hlt D cA base H.size μ (1 : Int32)) (va_cwS 1 hts gX6_sit_X6_find rfl rfl rfl (by decide +kernel) ⟨Nat.le_of_ble_eq_true rfl, Nat.le_of_ble_eq_true rfl⟩) hK hN hX hP hS rfl hl.1 (Nat.le_of_ble_eq_true rfl) dX6_sit_32 ⟨Nat.le_of_ble_eq_true rfl, Nat.le_of_ble_eq_true rfl⟩ (fun c6 H locs hP hS => ?_) (fun c6 H locs ce q9 hP hS hc1 hc2 hc3 => ?_)
      rotate_left
      · exact absurd c6 (by decide)
      refine lv_aload_n hx hb dX6_sit_35 rfl (lv_at hl 0 rfl) ?_
      refine t_getr (C := RX6) (T := TX6) (N := 2) hx hb hts hin6 hown hK hP hq rfl rfl 0 (by decide) (fr6_0 hq) (hts _ (List.mem_of_getElem? (i := 1) rfl)) dX6_sit_36 ?_
      refine lv_iload_n hx hb dX6_sit_39 rfl (lv_at hl 1 rfl) ?_
      refine lv_iload_n hx hb dX6_sit_40 rfl (lv_at hl 2 rfl) ?_
      obtain ⟨r7, μ8, hc9, hm⟩ := bO2_inv hm
      refine t_cVi (As := [.int a1, .int a2]) (rest := []) (μ' := μ8) (r := r7) ⟨hx, hb, hml, hown, hts⟩ (mX5_seat l D cA base H.size μ (kr6_0 hq) a1 a2 hc9) (cwV 2 hts gX6_sit_X5_seat rfl rfl rfl (by decide +kernel) ⟨Nat.le_of_ble_eq_true rfl, Nat.le_of_ble_eq_true rfl⟩) (va_recv hK hP (q0 := RF q 0) rfl (tw_obj (kr6_0 hq) (by decide))) hK hN hP hS hz rfl hl.1 (Nat.le_of_ble_eq_true rfl) dX6_sit_41 ⟨Nat.le_of_ble_eq_true rfl, Nat.le_of_ble_eq_true rfl⟩ rfl (fun H locs hP hS => ?_)
      cases hm
      refine vx_ret ?_
      refine W.widen (k := 1) (n := 6) (Nat.le_of_ble_eq_true rfl) (Nat.le_of_ble_eq_true rfl) ?_
      exact W.iret hx hb hr (fun t ht hW => ⟨⟨_, (), rfl, ⟨rfl, rfl⟩, tPost_of hP ht⟩, hS.F ht⟩) hS.2.2 dX6_sit_44
    · rw [if_neg c5] at hm
      refine lv_aload_n hx hb dX6_sit_16 rfl (lv_at hl 0 rfl) ?_
      refine t_getr (C := RX6) (T := TX6) (N := 2) hx hb hts hin6 hown hK hP hq rfl rfl 0 (by decide) (fr6_0 hq) (hts _ (List.mem_of_getElem? (i := 1) rfl)) dX6_sit_17 ?_
      refine lv_iload_n hx hb dX6_sit_20 rfl (lv_at hl 2 rfl) ?_
      refine t_cVi (As := [.int a2]) (rest := []) (μ' := μ) (r := (X5_hasInterpreter (RF q 0) a2 μ)) ⟨hx, hb, hml, hown, hts⟩ (mX5_hasInterpreter l D cA base H.size μ (kr6_0 hq) a2 rfl) (cwV 1 hts gX6_sit_X5_hasInterpreter rfl rfl rfl (by decide +kernel) ⟨Nat.le_of_ble_eq_true rfl, Nat.le_of_ble_eq_true rfl⟩) (va_recv hK hP (q0 := RF q 0) rfl (tw_obj (kr6_0 hq) (by decide))) hK hN hP hS hz rfl hl.1 (Nat.le_of_ble_eq_true rfl) dX6_sit_21 ⟨Nat.le_of_ble_eq_true rfl, Nat.le_of_ble_eq_true rfl⟩ rfl (fun H locs hP hS => ?_)
      refine lv_if_eq (tgt := 31) hx hb dX6_sit_24 (by decide) (fun c12 => ?_) (fun c12 => ?_)
      · rw [if_pos c12] at hm
        refine lv_iconst (v := (0 : Int32)) hx hb dX6_sit_31 (by decide) ?_
        refine t_chk (rest := []) ⟨hx, hb, hml, hown, hts⟩ (mX6_find l hlt D cA base H.size μ (0 : Int32)) (va_cwS 1 hts gX6_sit_X6_find rfl rfl rfl (by decide +kernel) ⟨Nat.le_of_ble_eq_true rfl, Nat.le_of_ble_eq_true rfl⟩) hK hN hX hP hS rfl hl.1 (Nat.le_of_ble_eq_true rfl) dX6_sit_32 ⟨Nat.le_of_ble_eq_true rfl, Nat.le_of_ble_eq_true rfl⟩ (fun c13 H locs hP hS => ?_) (fun c13 H locs ce q9 hP hS hc1 hc2 hc3 => ?_)
        · exact absurd rfl c13
        cases hm
        refine vx_widen (k := 1) (n := 6) (Nat.le_of_ble_eq_true rfl) (Nat.le_of_ble_eq_true rfl) ?_
        exact vx_out (fun x hx => (hxt x hx).elim) hlocks hc1 hc2 hc3 (fun t ht hA => ⟨(), trivial, ⟨Or.inr (Or.inr ⟨rfl, rfl⟩), tPost_of hP ht⟩, hS.F ht⟩) hS.2.2 (Nat.le_refl _) (Nat.le_refl _)
      · rw [if_neg c12] at hm
        refine lv_iconst (v := (1 : Int32)) hx hb dX6_sit_27 (by decide) ?_
        refine lv_goto (tgt := 32) hx hb dX6_sit_28 (by decide) ?_
        refine t_chk (rest := []) ⟨hx, hb, hml, hown, hts⟩ (mX6_find l hlt D cA base H.size μ (1 : Int32)) (va_cwS 1 hts gX6_sit_X6_find rfl rfl rfl (by decide +kernel) ⟨Nat.le_of_ble_eq_true rfl, Nat.le_of_ble_eq_true rfl⟩) hK hN hX hP hS rfl hl.1 (Nat.le_of_ble_eq_true rfl) dX6_sit_32 ⟨Nat.le_of_ble_eq_true rfl, Nat.le_of_ble_eq_true rfl⟩ (fun c14 H locs hP hS => ?_) (fun c14 H locs ce q9 hP hS hc1 hc2 hc3 => ?_)
        rotate_left
        · exact absurd c14 (by decide)
        refine lv_aload_n hx hb dX6_sit_35 rfl (lv_at hl 0 rfl) ?_
        refine t_getr (C := RX6) (T := TX6) (N := 2) hx hb hts hin6 hown hK hP hq rfl rfl 0 (by decide) (fr6_0 hq) (hts _ (List.mem_of_getElem? (i := 1) rfl)) dX6_sit_36 ?_
        refine lv_iload_n hx hb dX6_sit_39 rfl (lv_at hl 1 rfl) ?_
        refine lv_iload_n hx hb dX6_sit_40 rfl (lv_at hl 2 rfl) ?_
        obtain ⟨r15, μ16, hc17, hm⟩ := bO2_inv hm
        refine t_cVi (As := [.int a1, .int a2]) (rest := []) (μ' := μ16) (r := r15) ⟨hx, hb, hml, hown, hts⟩ (mX5_seat l D cA base H.size μ (kr6_0 hq) a1 a2 hc17) (cwV 2 hts gX6_sit_X5_seat rfl rfl rfl (by decide +kernel) ⟨Nat.le_of_ble_eq_true rfl, Nat.le_of_ble_eq_true rfl⟩) (va_recv hK hP (q0 := RF q 0) rfl (tw_obj (kr6_0 hq) (by decide))) hK hN hP hS hz rfl hl.1 (Nat.le_of_ble_eq_true rfl) dX6_sit_41 ⟨Nat.le_of_ble_eq_true rfl, Nat.le_of_ble_eq_true rfl⟩ rfl (fun H locs hP hS => ?_)
        cases hm
        refine vx_ret ?_
        refine W.widen (k := 1) (n := 6) (Nat.le_of_ble_eq_true rfl) (Nat.le_of_ble_eq_true rfl) ?_
        exact W.iret hx hb hr (fun t ht hW => ⟨⟨_, (), rfl, ⟨rfl, rfl⟩, tPost_of hP ht⟩, hS.F ht⟩) hS.2.2 dX6_sit_44
abbrev rmX6_swap : Room := { frames := 7, cells := 2, slots := 12, locals := 102 }
set_option maxHeartbeats 4000000 in
set_option maxRecDepth 100000 in
theorem mX6_swap (l : Launch) (hlt : l.stackTraces = false) (D : va_G) (cA : Nat → ClassId) (base sz : Nat) (μ : MM) {q : Nat} (hq : kc q = 6) (a1 : Int32) (a2 : Int32) {kd : Nat} {r : Int32} {μ' : MM} (hm : X6_swap q a1 a2 μ = some (kd, r, μ')) : vx_Met l yX6_swap wsX6_swap rmX6_swap (va_Pc [.ref (base + q), .int a1, .int a2] (tPreX D cA base sz μ)) (va_Qi (fun (x : Int32) (_ : Unit) => kd = 0 ∧ x = r) (fun _ => tPost D cA base μ') (tA base sz)) (vx_X (fun _ : Unit => True) (fun E _ t => exn kd E ∧ tPost D cA base μ' t) (tA base sz)) 2 12 (tA base sz) := by
  refine vx_ofW (cc := cX6_swap) (maxL := 5) (ret := (some .int)) (by decide) rfl ?_
  intro p e s m args below meth c s₁ B hml hxt hv
  obtain ⟨rfl, ⟨hsz, hP, hK, hN⟩, hX⟩ := hv
  have hx := B.exec
  have hb := B.bytes
  have hr := B.returns
  have hts := atoms_spec (ws := wsX6_swap) B.pre
  have hown : s.vm.findClass RX6 = some m.cls := findClass_of_methodNamed B.named
  have hlocks := B.notSynchronized
  have hin6 : ∀ w ∈ wsX60, w ∈ wsX6_swap := by decide +kernel
  subst hsz
  have hS : va_S (tA base s.heap.size) s.heap s.heap [] := va_S.rf
  have hz : s.heap.size ≤ s.heap.size := Nat.le_refl _
  have hl := lv_entry ([.ref (base + q), .int a1, .int a2]) (n := 5) (Nat.le_of_ble_eq_true rfl)
  rw [lg_entry_eq]
  generalize (lg_sl ([.ref (base + q), .int a1, .int a2]) ++ List.replicate (5 - (lg_sl ([.ref (base + q), .int a1, .int a2])).length) Slot.unset).toArray = ls at hl ⊢
  have hl : lv_has ls 5 [(0, .ref (base + q)), (1, .int a1), (2, .int a2)] := hl
  unfold X6_swap at hm
  refine lv_aload_n hx hb dX6_swap_0 rfl (lv_at hl 0 rfl) ?_
  refine t_getr (C := RX6) (T := TX6) (N := 2) hx hb hts hin6 hown hK hP hq rfl rfl 0 (by decide) (fr6_0 hq) (hts _ (List.mem_of_getElem? (i := 1) rfl)) dX6_swap_1 ?_
  refine lv_iload_n hx hb dX6_swap_4 rfl (lv_at hl 1 rfl) ?_
  refine t_cVi (As := [.int a1]) (rest := []) (μ' := μ) (r := (X5_hasBooth (RF q 0) a1 μ)) ⟨hx, hb, hml, hown, hts⟩ (mX5_hasBooth l D cA base s.heap.size μ (kr6_0 hq) a1 rfl) (cwV 1 hts gX6_swap_X5_hasBooth rfl rfl rfl (by decide +kernel) ⟨Nat.le_of_ble_eq_true rfl, Nat.le_of_ble_eq_true rfl⟩) (va_recv hK hP (q0 := RF q 0) rfl (tw_obj (kr6_0 hq) (by decide))) hK hN hP hS hz rfl hl.1 (Nat.le_of_ble_eq_true rfl) dX6_swap_5 ⟨Nat.le_of_ble_eq_true rfl, Nat.le_of_ble_eq_true rfl⟩ rfl (fun H locs hP hS => ?_)
  refine lv_if_eq (tgt := 26) hx hb dX6_swap_8 (by decide) (fun c3 => ?_) (fun c3 => ?_)
  · rw [if_pos c3] at hm
    refine lv_iconst (v := (0 : Int32)) hx hb dX6_swap_26 (by decide) ?_
    refine t_chk (rest := []) ⟨hx, hb, hml, hown, hts⟩ (mX6_find l hlt D cA base H.size μ (0 : Int32)) (va_cwS 1 hts gX6_swap_X6_find rfl rfl rfl (by decide +kernel) ⟨Nat.le_of_ble_eq_true rfl, Nat.le_of_ble_eq_true rfl⟩) hK hN hX hP hS rfl hl.1 (Nat.le_of_ble_eq_true rfl) dX6_swap_27 ⟨Nat.le_of_ble_eq_true rfl, Nat.le_of_ble_eq_true rfl⟩ (fun c4 H locs hP hS => ?_) (fun c4 H locs ce q9 hP hS hc1 hc2 hc3 => ?_)
    · exact absurd rfl c4
    cases hm
    refine vx_widen (k := 2) (n := 12) (Nat.le_of_ble_eq_true rfl) (Nat.le_of_ble_eq_true rfl) ?_
    exact vx_out (fun x hx => (hxt x hx).elim) hlocks hc1 hc2 hc3 (fun t ht hA => ⟨(), trivial, ⟨Or.inr (Or.inr ⟨rfl, rfl⟩), tPost_of hP ht⟩, hS.F ht⟩) hS.2.2 (Nat.le_refl _) (Nat.le_refl _)
  · rw [if_neg c3] at hm
    refine lv_aload_n hx hb dX6_swap_11 rfl (lv_at hl 0 rfl) ?_
    refine t_getr (C := RX6) (T := TX6) (N := 2) hx hb hts hin6 hown hK hP hq rfl rfl 0 (by decide) (fr6_0 hq) (hts _ (List.mem_of_getElem? (i := 1) rfl)) dX6_swap_12 ?_
    refine lv_iload_n hx hb dX6_swap_15 rfl (lv_at hl 2 rfl) ?_
    refine t_cVi (As := [.int a2]) (rest := []) (μ' := μ) (r := (X5_hasBooth (RF q 0) a2 μ)) ⟨hx, hb, hml, hown, hts⟩ (mX5_hasBooth l D cA base H.size μ (kr6_0 hq) a2 rfl) (cwV 1 hts gX6_swap_X5_hasBooth rfl rfl rfl (by decide +kernel) ⟨Nat.le_of_ble_eq_true rfl, Nat.le_of_ble_eq_true rfl⟩) (va_recv hK hP (q0 := RF q 0) rfl (tw_obj (kr6_0 hq) (by decide))) hK hN hP hS hz rfl hl.1 (Nat.le_of_ble_eq_true rfl) dX6_swap_16 ⟨Nat.le_of_ble_eq_true rfl, Nat.le_of_ble_eq_true rfl⟩ rfl (fun H locs hP hS => ?_)
    refine lv_if_eq (tgt := 26) hx hb dX6_swap_19 (by decide) (fun c7 => ?_) (fun c7 => ?_)
    · rw [if_pos c7] at hm
      refine lv_iconst (v := (0 : Int32)) hx hb dX6_swap_26 (by decide) ?_
      refine t_chk (rest := []) ⟨hx, hb, hml, hown, hts⟩ (mX6_find l hlt D cA base H.size μ (0 : Int32)) (va_cwS 1 hts gX6_swap_X6_find rfl rfl rfl (by decide +kernel) ⟨Nat.le_of_ble_eq_true rfl, Nat.le_of_ble_eq_true rfl⟩) hK hN hX hP hS rfl hl.1 (Nat.le_of_ble_eq_true rfl) dX6_swap_27 ⟨Nat.le_of_ble_eq_true rfl, Nat.le_of_ble_eq_true rfl⟩ (fun c8 H locs hP hS => ?_) (fun c8 H locs ce q9 hP hS hc1 hc2 hc3 => ?_)
      · exact absurd rfl c8
      cases hm
      refine vx_widen (k := 2) (n := 12) (Nat.le_of_ble_eq_true rfl) (Nat.le_of_ble_eq_true rfl) ?_
      exact vx_out (fun x hx => (hxt x hx).elim) hlocks hc1 hc2 hc3 (fun t ht hA => ⟨(), trivial, ⟨Or.inr (Or.inr ⟨rfl, rfl⟩), tPost_of hP ht⟩, hS.F ht⟩) hS.2.2 (Nat.le_refl _) (Nat.le_refl _)
    · rw [if_neg c7] at hm
      refine lv_iconst (v := (1 : Int32)) hx hb dX6_swap_22 (by decide) ?_
      refine lv_goto (tgt := 27) hx hb dX6_swap_23 (by decide) ?_
      refine t_chk (rest := []) ⟨hx, hb, hml, hown, hts⟩ (mX6_find l hlt D cA base H.size μ (1 : Int32)) (va_cwS 1 hts gX6_swap_X6_find rfl rfl rfl (by decide +kernel) ⟨Nat.le_of_ble_eq_true rfl, Nat.le_of_ble_eq_true rfl⟩) hK hN hX hP hS rfl hl.1 (Nat.le_of_ble_eq_true rfl) dX6_swap_27 ⟨Nat.le_of_ble_eq_true rfl, Nat.le_of_ble_eq_true rfl⟩ (fun c9 H locs hP hS => ?_) (fun c9 H locs ce q9 hP hS hc1 hc2 hc3 => ?_)
      rotate_left
      · exact absurd c9 (by decide)
      refine lv_iload_n hx hb dX6_swap_30 rfl (lv_at hl 1 rfl) ?_
      refine lv_iload_n hx hb dX6_swap_31 rfl (lv_at hl 2 rfl) ?_
      refine lv_icmp_eq (tgt := 39) hx hb dX6_swap_32 (by decide) (fun c10 => ?_) (fun c10 => ?_)
      · rw [if_pos c10] at hm
        refine lv_iconst (v := (0 : Int32)) hx hb dX6_swap_39 (by decide) ?_
        refine t_chk (rest := []) ⟨hx, hb, hml, hown, hts⟩ (mX6_demand l hlt D cA base H.size μ (0 : Int32)) (va_cwS 1 hts gX6_swap_X6_demand rfl rfl rfl (by decide +kernel) ⟨Nat.le_of_ble_eq_true rfl, Nat.le_of_ble_eq_true rfl⟩) hK hN hX hP hS rfl hl.1 (Nat.le_of_ble_eq_true rfl) dX6_swap_40 ⟨Nat.le_of_ble_eq_true rfl, Nat.le_of_ble_eq_true rfl⟩ (fun c11 H locs hP hS => ?_) (fun c11 H locs ce q9 hP hS hc1 hc2 hc3 => ?_)
        · exact absurd rfl c11
        cases hm
        refine vx_widen (k := 2) (n := 12) (Nat.le_of_ble_eq_true rfl) (Nat.le_of_ble_eq_true rfl) ?_
        exact vx_out (fun x hx => (hxt x hx).elim) hlocks hc1 hc2 hc3 (fun t ht hA => ⟨(), trivial, ⟨Or.inl ⟨rfl, rfl⟩, tPost_of hP ht⟩, hS.F ht⟩) hS.2.2 (Nat.le_refl _) (Nat.le_refl _)
      · rw [if_neg c10] at hm
        refine lv_iconst (v := (1 : Int32)) hx hb dX6_swap_35 (by decide) ?_
        refine lv_goto (tgt := 40) hx hb dX6_swap_36 (by decide) ?_
        refine t_chk (rest := []) ⟨hx, hb, hml, hown, hts⟩ (mX6_demand l hlt D cA base H.size μ (1 : Int32)) (va_cwS 1 hts gX6_swap_X6_demand rfl rfl rfl (by decide +kernel) ⟨Nat.le_of_ble_eq_true rfl, Nat.le_of_ble_eq_true rfl⟩) hK hN hX hP hS rfl hl.1 (Nat.le_of_ble_eq_true rfl) dX6_swap_40 ⟨Nat.le_of_ble_eq_true rfl, Nat.le_of_ble_eq_true rfl⟩ (fun c12 H locs hP hS => ?_) (fun c12 H locs ce q9 hP hS hc1 hc2 hc3 => ?_)
        rotate_left
        · exact absurd c12 (by decide)
        refine lv_aload_n hx hb dX6_swap_43 rfl (lv_at hl 0 rfl) ?_
        refine t_getr (C := RX6) (T := TX6) (N := 2) hx hb hts hin6 hown hK hP hq rfl rfl 0 (by decide) (fr6_0 hq) (hts _ (List.mem_of_getElem? (i := 1) rfl)) dX6_swap_44 ?_
        refine lv_iload_n hx hb dX6_swap_47 rfl (lv_at hl 1 rfl) ?_
        refine lv_iconst (v := (-1 : Int32)) hx hb dX6_swap_48 (by decide) ?_
        obtain ⟨r13, μ14, hc15, hm⟩ := bO2_inv hm
        refine t_cVi (As := [.int a1, .int (-1 : Int32)]) (rest := []) (μ' := μ14) (r := r13) ⟨hx, hb, hml, hown, hts⟩ (mX5_seat l D cA base H.size μ (kr6_0 hq) a1 (-1 : Int32) hc15) (cwV 2 hts gX6_swap_X5_seat rfl rfl rfl (by decide +kernel) ⟨Nat.le_of_ble_eq_true rfl, Nat.le_of_ble_eq_true rfl⟩) (va_recv hK hP (q0 := RF q 0) rfl (tw_obj (kr6_0 hq) (by decide))) hK hN hP hS hz rfl hl.1 (Nat.le_of_ble_eq_true rfl) dX6_swap_49 ⟨Nat.le_of_ble_eq_true rfl, Nat.le_of_ble_eq_true rfl⟩ rfl (fun H locs hP hS => ?_)
        refine lv_istore_n (lv' := [(3, .int r13), (0, .ref (base + q)), (1, .int a1), (2, .int a2)]) hx hb dX6_swap_52 rfl hl (by decide) rfl (fun ls hl => ?_)
        refine lv_aload_n hx hb dX6_swap_53 rfl (lv_at hl 1 rfl) ?_
        refine t_getr (C := RX6) (T := TX6) (N := 2) hx hb hts hin6 hown hK hP hq rfl rfl 0 (by decide) (fr6_0 hq) (hts _ (List.mem_of_getElem? (i := 1) rfl)) dX6_swap_54 ?_
        refine lv_iload_n hx hb dX6_swap_57 rfl (lv_at hl 3 rfl) ?_
        refine lv_iload_n hx hb dX6_swap_58 rfl (lv_at hl 0 rfl) ?_
        obtain ⟨r16, μ17, hc18, hm⟩ := bO2_inv hm
        refine t_cVi (As := [.int a2, .int r13]) (rest := []) (μ' := μ17) (r := r16) ⟨hx, hb, hml, hown, hts⟩ (mX5_seat l D cA base H.size μ14 (kr6_0 hq) a2 r13 hc18) (cwV 2 hts gX6_swap_X5_seat rfl rfl rfl (by decide +kernel) ⟨Nat.le_of_ble_eq_true rfl, Nat.le_of_ble_eq_true rfl⟩) (va_recv hK hP (q0 := RF q 0) rfl (tw_obj (kr6_0 hq) (by decide))) hK hN hP hS hz rfl hl.1 (Nat.le_of_ble_eq_true rfl) dX6_swap_59 ⟨Nat.le_of_ble_eq_true rfl, Nat.le_of_ble_eq_true rfl⟩ rfl (fun H locs hP hS => ?_)
        refine lv_istore (lv' := [(4, .int r16), (3, .int r13), (0, .ref (base + q)), (1, .int a1), (2, .int a2)]) hx hb dX6_swap_62 hl (by decide) rfl (fun ls hl => ?_)
        refine lv_aload_n hx hb dX6_swap_64 rfl (lv_at hl 2 rfl) ?_
        refine t_getr (C := RX6) (T := TX6) (N := 2) hx hb hts hin6 hown hK hP hq rfl rfl 0 (by decide) (fr6_0 hq) (hts _ (List.mem_of_getElem? (i := 1) rfl)) dX6_swap_65 ?_
        refine lv_iload_n hx hb dX6_swap_68 rfl (lv_at hl 3 rfl) ?_
        refine lv_iload hx hb dX6_swap_69 (lv_at hl 0 rfl) ?_
        obtain ⟨r19, μ20, hc21, hm⟩ := bO2_inv hm
        refine t_cVi (As := [.int a1, .int r16]) (rest := []) (μ' := μ20) (r := r19) ⟨hx, hb, hml, hown, hts⟩ (mX5_seat l D cA base H.size μ17 (kr6_0 hq) a1 r16 hc21) (cwV 2 hts gX6_swap_X5_seat rfl rfl rfl (by decide +kernel) ⟨Nat.le_of_ble_eq_true rfl, Nat.le_of_ble_eq_true rfl⟩) (va_recv hK hP (q0 := RF q 0) rfl (tw_obj (kr6_0 hq) (by decide))) hK hN hP hS hz rfl hl.1 (Nat.le_of_ble_eq_true rfl) dX6_swap_71 ⟨Nat.le_of_ble_eq_true rfl, Nat.le_of_ble_eq_true rfl⟩ rfl (fun H locs hP hS => ?_)
        refine lv_pop hx hb dX6_swap_74 rfl ?_
        refine lv_aload_n hx hb dX6_swap_75 rfl (lv_at hl 2 rfl) ?_
        refine t_getr (C := RX6) (T := TX6) (N := 2) hx hb hts hin6 hown hK hP hq rfl rfl 0 (by decide) (fr6_0 hq) (hts _ (List.mem_of_getElem? (i := 1) rfl)) dX6_swap_76 ?_
        refine lv_iload_n hx hb dX6_swap_79 rfl (lv_at hl 3 rfl) ?_
        obtain ⟨r22, hc23, hm⟩ := bO1_inv hm
        refine t_cVi (As := [.int a1]) (rest := []) (μ' := μ20) (r := r22) ⟨hx, hb, hml, hown, hts⟩ (mX5_isAble l D cA base H.size μ20 (kr6_0 hq) a1 hc23) (cwV 1 hts gX6_swap_X5_isAble rfl rfl rfl (by decide +kernel) ⟨Nat.le_of_ble_eq_true rfl, Nat.le_of_ble_eq_true rfl⟩) (va_recv hK hP (q0 := RF q 0) rfl (tw_obj (kr6_0 hq) (by decide))) hK hN hP hS hz rfl hl.1 (Nat.le_of_ble_eq_true rfl) dX6_swap_80 ⟨Nat.le_of_ble_eq_true rfl, Nat.le_of_ble_eq_true rfl⟩ rfl (fun H locs hP hS => ?_)
        refine lv_if_eq (tgt := 90) hx hb dX6_swap_83 (by decide) (fun c24 => ?_) (fun c24 => ?_)
        · rw [if_pos c24] at hm
          refine lv_iconst (v := (0 : Int32)) hx hb dX6_swap_90 (by decide) ?_
          refine lv_aload_n hx hb dX6_swap_91 rfl (lv_at hl 2 rfl) ?_
          refine t_getr (C := RX6) (T := TX6) (N := 2) hx hb hts hin6 hown hK hP hq rfl rfl 0 (by decide) (fr6_0 hq) (hts _ (List.mem_of_getElem? (i := 1) rfl)) dX6_swap_92 ?_
          refine lv_iload_n hx hb dX6_swap_95 rfl (lv_at hl 4 rfl) ?_
          obtain ⟨r25, hc26, hm⟩ := bO1_inv hm
          refine t_cVi (As := [.int a2]) (rest := [.int (0 : Int32)]) (μ' := μ20) (r := r25) ⟨hx, hb, hml, hown, hts⟩ (mX5_isAble l D cA base H.size μ20 (kr6_0 hq) a2 hc26) (cwV 1 hts gX6_swap_X5_isAble rfl rfl rfl (by decide +kernel) ⟨Nat.le_of_ble_eq_true rfl, Nat.le_of_ble_eq_true rfl⟩) (va_recv hK hP (q0 := RF q 0) rfl (tw_obj (kr6_0 hq) (by decide))) hK hN hP hS hz rfl hl.1 (Nat.le_of_ble_eq_true rfl) dX6_swap_96 ⟨Nat.le_of_ble_eq_true rfl, Nat.le_of_ble_eq_true rfl⟩ rfl (fun H locs hP hS => ?_)
          refine lv_if_eq (tgt := 106) hx hb dX6_swap_99 (by decide) (fun c27 => ?_) (fun c27 => ?_)
          · rw [if_pos c27] at hm
            refine lv_iconst (v := (0 : Int32)) hx hb dX6_swap_106 (by decide) ?_
            refine lv_iadd hx hb dX6_swap_107 ?_
            cases hm
            refine vx_ret ?_
            refine W.widen (k := 2) (n := 12) (Nat.le_of_ble_eq_true rfl) (Nat.le_of_ble_eq_true rfl) ?_
            exact W.iret hx hb hr (fun t ht hW => ⟨⟨_, (), rfl, ⟨rfl, rfl⟩, tPost_of hP ht⟩, hS.F ht⟩) hS.2.2 dX6_swap_108
          · rw [if_neg c27] at hm
            refine lv_iconst (v := (1 : Int32)) hx hb dX6_swap_102 (by decide) ?_
            refine lv_goto (tgt := 107) hx hb dX6_swap_103 (by decide) ?_
            refine lv_iadd hx hb dX6_swap_107 ?_
            cases hm
            refine vx_ret ?_
            refine W.widen (k := 2) (n := 12) (Nat.le_of_ble_eq_true rfl) (Nat.le_of_ble_eq_true rfl) ?_
            exact W.iret hx hb hr (fun t ht hW => ⟨⟨_, (), rfl, ⟨rfl, rfl⟩, tPost_of hP ht⟩, hS.F ht⟩) hS.2.2 dX6_swap_108
        · rw [if_neg c24] at hm
          refine lv_iconst (v := (1 : Int32)) hx hb dX6_swap_86 (by decide) ?_
          refine lv_goto (tgt := 91) hx hb dX6_swap_87 (by decide) ?_
          refine lv_aload_n hx hb dX6_swap_91 rfl (lv_at hl 2 rfl) ?_
          refine t_getr (C := RX6) (T := TX6) (N := 2) hx hb hts hin6 hown hK hP hq rfl rfl 0 (by decide) (fr6_0 hq) (hts _ (List.mem_of_getElem? (i := 1) rfl)) dX6_swap_92 ?_
          refine lv_iload_n hx hb dX6_swap_95 rfl (lv_at hl 4 rfl) ?_
          obtain ⟨r28, hc29, hm⟩ := bO1_inv hm
          refine t_cVi (As := [.int a2]) (rest := [.int (1 : Int32)]) (μ' := μ20) (r := r28) ⟨hx, hb, hml, hown, hts⟩ (mX5_isAble l D cA base H.size μ20 (kr6_0 hq) a2 hc29) (cwV 1 hts gX6_swap_X5_isAble rfl rfl rfl (by decide +kernel) ⟨Nat.le_of_ble_eq_true rfl, Nat.le_of_ble_eq_true rfl⟩) (va_recv hK hP (q0 := RF q 0) rfl (tw_obj (kr6_0 hq) (by decide))) hK hN hP hS hz rfl hl.1 (Nat.le_of_ble_eq_true rfl) dX6_swap_96 ⟨Nat.le_of_ble_eq_true rfl, Nat.le_of_ble_eq_true rfl⟩ rfl (fun H locs hP hS => ?_)
          refine lv_if_eq (tgt := 106) hx hb dX6_swap_99 (by decide) (fun c30 => ?_) (fun c30 => ?_)
          · rw [if_pos c30] at hm
            refine lv_iconst (v := (0 : Int32)) hx hb dX6_swap_106 (by decide) ?_
            refine lv_iadd hx hb dX6_swap_107 ?_
            cases hm
            refine vx_ret ?_
            refine W.widen (k := 2) (n := 12) (Nat.le_of_ble_eq_true rfl) (Nat.le_of_ble_eq_true rfl) ?_
            exact W.iret hx hb hr (fun t ht hW => ⟨⟨_, (), rfl, ⟨rfl, rfl⟩, tPost_of hP ht⟩, hS.F ht⟩) hS.2.2 dX6_swap_108
          · rw [if_neg c30] at hm
            refine lv_iconst (v := (1 : Int32)) hx hb dX6_swap_102 (by decide) ?_
            refine lv_goto (tgt := 107) hx hb dX6_swap_103 (by decide) ?_
            refine lv_iadd hx hb dX6_swap_107 ?_
            cases hm
            refine vx_ret ?_
            refine W.widen (k := 2) (n := 12) (Nat.le_of_ble_eq_true rfl) (Nat.le_of_ble_eq_true rfl) ?_
            exact W.iret hx hb hr (fun t ht hW => ⟨⟨_, (), rfl, ⟨rfl, rfl⟩, tPost_of hP ht⟩, hS.F ht⟩) hS.2.2 dX6_swap_108
abbrev rmX6_booth : Room := { frames := 7, cells := 1, slots := 6, locals := 140 }
set_option maxHeartbeats 4000000 in
set_option maxRecDepth 100000 in
theorem mX6_booth (l : Launch) (hlt : l.stackTraces = false) (D : va_G) (cA : Nat → ClassId) (base sz : Nat) (μ : MM) {q : Nat} (hq : kc q = 6) (a1 : Int32) (a2 : Int32) {kd : Nat} {r : Int32} {μ' : MM} (hm : X6_booth q a1 a2 μ = some (kd, r, μ')) : vx_Met l yX6_booth wsX6_booth rmX6_booth (va_Pc [.ref (base + q), .int a1, .int a2] (tPreX D cA base sz μ)) (va_Qi (fun (x : Int32) (_ : Unit) => kd = 0 ∧ x = r) (fun _ => tPost D cA base μ') (tA base sz)) (vx_X (fun _ : Unit => True) (fun E _ t => exn kd E ∧ tPost D cA base μ' t) (tA base sz)) 1 6 (tA base sz) := by
  refine vx_ofW (cc := cX6_booth) (maxL := 3) (ret := (some .int)) (by decide) rfl ?_
  intro p e s m args below meth c s₁ B hml hxt hv
  obtain ⟨rfl, ⟨hsz, hP, hK, hN⟩, hX⟩ := hv
  have hx := B.exec
  have hb := B.bytes
  have hr := B.returns
  have hts := atoms_spec (ws := wsX6_booth) B.pre
  have hown : s.vm.findClass RX6 = some m.cls := findClass_of_methodNamed B.named
  have hlocks := B.notSynchronized
  have hin6 : ∀ w ∈ wsX60, w ∈ wsX6_booth := by decide +kernel
  subst hsz
  have hS : va_S (tA base s.heap.size) s.heap s.heap [] := va_S.rf
  have hz : s.heap.size ≤ s.heap.size := Nat.le_refl _
  have hl := lv_entry ([.ref (base + q), .int a1, .int a2]) (n := 3) (Nat.le_of_ble_eq_true rfl)
  rw [lg_entry_eq]
  generalize (lg_sl ([.ref (base + q), .int a1, .int a2]) ++ List.replicate (3 - (lg_sl ([.ref (base + q), .int a1, .int a2])).length) Slot.unset).toArray = ls at hl ⊢
  have hl : lv_has ls 3 [(0, .ref (base + q)), (1, .int a1), (2, .int a2)] := hl
  unfold X6_booth at hm
  refine lv_aload_n hx hb dX6_booth_0 rfl (lv_at hl 0 rfl) ?_
  refine t_getr (C := RX6) (T := TX6) (N := 2) hx hb hts hin6 hown hK hP hq rfl rfl 0 (by decide) (fr6_0 hq) (hts _ (List.mem_of_getElem? (i := 1) rfl)) dX6_booth_1 ?_
  refine lv_iload_n hx hb dX6_booth_4 rfl (lv_at hl 1 rfl) ?_
  refine t_cVi (As := [.int a1]) (rest := []) (μ' := μ) (r := (X5_hasBooth (RF q 0) a1 μ)) ⟨hx, hb, hml, hown, hts⟩ (mX5_hasBooth l D cA base s.heap.size μ (kr6_0 hq) a1 rfl) (cwV 1 hts gX6_booth_X5_hasBooth rfl rfl rfl (by decide +kernel) ⟨Nat.le_of_ble_eq_true rfl, Nat.le_of_ble_eq_true rfl⟩) (va_recv hK hP (q0 := RF q 0) rfl (tw_obj (kr6_0 hq) (by decide))) hK hN hP hS hz rfl hl.1 (Nat.le_of_ble_eq_true rfl) dX6_booth_5 ⟨Nat.le_of_ble_eq_true rfl, Nat.le_of_ble_eq_true rfl⟩ rfl (fun H locs hP hS => ?_)
  refine lv_if_eq (tgt := 25) hx hb dX6_booth_8 (by decide) (fun c3 => ?_) (fun c3 => ?_)
  · rw [if_pos c3] at hm
    refine lv_iconst (v := (0 : Int32)) hx hb dX6_booth_25 (by decide) ?_
    refine t_chk (rest := []) ⟨hx, hb, hml, hown, hts⟩ (mX6_find l hlt D cA base H.size μ (0 : Int32)) (va_cwS 1 hts gX6_booth_X6_find rfl rfl rfl (by decide +kernel) ⟨Nat.le_of_ble_eq_true rfl, Nat.le_of_ble_eq_true rfl⟩) hK hN hX hP hS rfl hl.1 (Nat.le_of_ble_eq_true rfl) dX6_booth_26 ⟨Nat.le_of_ble_eq_true rfl, Nat.le_of_ble_eq_true rfl⟩ (fun c4 H locs hP hS => ?_) (fun c4 H locs ce q9 hP hS hc1 hc2 hc3 => ?_)
    · exact absurd rfl c4
    cases hm
    refine vx_widen (k := 1) (n := 6) (Nat.le_of_ble_eq_true rfl) (Nat.le_of_ble_eq_true rfl) ?_
    exact vx_out (fun x hx => (hxt x hx).elim) hlocks hc1 hc2 hc3 (fun t ht hA => ⟨(), trivial, ⟨Or.inr (Or.inr ⟨rfl, rfl⟩), tPost_of hP ht⟩, hS.F ht⟩) hS.2.2 (Nat.le_refl _) (Nat.le_refl _)
  · rw [if_neg c3] at hm
    refine lv_iload_n hx hb dX6_booth_11 rfl (lv_at hl 2 rfl) ?_
    refine lv_iconst (v := (0 : Int32)) hx hb dX6_booth_12 (by decide) ?_
    refine lv_bipush (v := (11 : Int32)) hx hb dX6_booth_13 (by decide) ?_
    refine t_cSi (As := [.int a2, .int (0 : Int32), .int (11 : Int32)]) (rest := []) (μ' := μ) (r := (X6_isWithin a2 (0 : Int32) (11 : Int32))) ⟨hx, hb, hml, hown, hts⟩ (mX6_isWithin l D cA base H.size μ a2 (0 : Int32) (11 : Int32) rfl) (va_cwS 3 hts gX6_booth_X6_isWithin rfl rfl rfl (by decide +kernel) ⟨Nat.le_of_ble_eq_true rfl, Nat.le_of_ble_eq_true rfl⟩) hK hN hP hS hz rfl hl.1 (Nat.le_of_ble_eq_true rfl) dX6_booth_15 ⟨Nat.le_of_ble_eq_true rfl, Nat.le_of_ble_eq_true rfl⟩ rfl (fun H locs hP hS => ?_)
    refine lv_if_eq (tgt := 25) hx hb dX6_booth_18 (by decide) (fun c7 => ?_) (fun c7 => ?_)
    · rw [if_pos c7] at hm
      refine lv_iconst (v := (0 : Int32)) hx hb dX6_booth_25 (by decide) ?_
      refine t_chk (rest := []) ⟨hx, hb, hml, hown, hts⟩ (mX6_find l hlt D cA base H.size μ (0 : Int32)) (va_cwS 1 hts gX6_booth_X6_find rfl rfl rfl (by decide +kernel) ⟨Nat.le_of_ble_eq_true rfl, Nat.le_of_ble_eq_true rfl⟩) hK hN hX hP hS rfl hl.1 (Nat.le_of_ble_eq_true rfl) dX6_booth_26 ⟨Nat.le_of_ble_eq_true rfl, Nat.le_of_ble_eq_true rfl⟩ (fun c8 H locs hP hS => ?_) (fun c8 H locs ce q9 hP hS hc1 hc2 hc3 => ?_)
      · exact absurd rfl c8
      cases hm
      refine vx_widen (k := 1) (n := 6) (Nat.le_of_ble_eq_true rfl) (Nat.le_of_ble_eq_true rfl) ?_
      exact vx_out (fun x hx => (hxt x hx).elim) hlocks hc1 hc2 hc3 (fun t ht hA => ⟨(), trivial, ⟨Or.inr (Or.inr ⟨rfl, rfl⟩), tPost_of hP ht⟩, hS.F ht⟩) hS.2.2 (Nat.le_refl _) (Nat.le_refl _)
    · rw [if_neg c7] at hm
      refine lv_iconst (v := (1 : Int32)) hx hb dX6_booth_21 (by decide) ?_
      refine lv_goto (tgt := 26) hx hb dX6_booth_22 (by decide) ?_
      refine t_chk (rest := []) ⟨hx, hb, hml, hown, hts⟩ (mX6_find l hlt D cA base H.size μ (1 : Int32)) (va_cwS 1 hts gX6_booth_X6_find rfl rfl rfl (by decide +kernel) ⟨Nat.le_of_ble_eq_true rfl, Nat.le_of_ble_eq_true rfl⟩) hK hN hX hP hS rfl hl.1 (Nat.le_of_ble_eq_true rfl) dX6_booth_26 ⟨Nat.le_of_ble_eq_true rfl, Nat.le_of_ble_eq_true rfl⟩ (fun c9 H locs hP hS => ?_) (fun c9 H locs ce q9 hP hS hc1 hc2 hc3 => ?_)
      rotate_left
      · exact absurd c9 (by decide)
      refine lv_aload_n hx hb dX6_booth_29 rfl (lv_at hl 0 rfl) ?_
      refine t_getr (C := RX6) (T := TX6) (N := 2) hx hb hts hin6 hown hK hP hq rfl rfl 0 (by decide) (fr6_0 hq) (hts _ (List.mem_of_getElem? (i := 1) rfl)) dX6_booth_30 ?_
      refine lv_iload_n hx hb dX6_booth_33 rfl (lv_at hl 1 rfl) ?_
      refine lv_iload_n hx hb dX6_booth_34 rfl (lv_at hl 2 rfl) ?_
      obtain ⟨r10, μ11, hc12, hm⟩ := bO2_inv hm
      refine t_cVi (As := [.int a1, .int a2]) (rest := []) (μ' := μ11) (r := r10) ⟨hx, hb, hml, hown, hts⟩ (mX5_tellBooth l D cA base H.size μ (kr6_0 hq) a1 a2 hc12) (cwV 2 hts gX6_booth_X5_tellBooth rfl rfl rfl (by decide +kernel) ⟨Nat.le_of_ble_eq_true rfl, Nat.le_of_ble_eq_true rfl⟩) (va_recv hK hP (q0 := RF q 0) rfl (tw_obj (kr6_0 hq) (by decide))) hK hN hP hS hz rfl hl.1 (Nat.le_of_ble_eq_true rfl) dX6_booth_35 ⟨Nat.le_of_ble_eq_true rfl, Nat.le_of_ble_eq_true rfl⟩ rfl (fun H locs hP hS => ?_)
      cases hm
      refine vx_ret ?_
      refine W.widen (k := 1) (n := 6) (Nat.le_of_ble_eq_true rfl) (Nat.le_of_ble_eq_true rfl) ?_
      exact W.iret hx hb hr (fun t ht hW => ⟨⟨_, (), rfl, ⟨rfl, rfl⟩, tPost_of hP ht⟩, hS.F ht⟩) hS.2.2 dX6_booth_38
abbrev rmX6_interpreter : Room := { frames := 7, cells := 1, slots := 6, locals := 102 }
set_option maxHeartbeats 4000000 in
set_option maxRecDepth 100000 in
theorem mX6_interpreter (l : Launch) (hlt : l.stackTraces = false) (D : va_G) (cA : Nat → ClassId) (base sz : Nat) (μ : MM) {q : Nat} (hq : kc q = 6) (a1 : Int32) (a2 : Int32) {kd : Nat} {r : Int32} (hm : X6_interpreter q a1 a2 μ = some (kd, r)) : vx_Met l yX6_interpreter wsX6_interpreter rmX6_interpreter (va_Pc [.ref (base + q), .int a1, .int a2] (tPreX D cA base sz μ)) (va_Qi (fun (x : Int32) (_ : Unit) => kd = 0 ∧ x = r) (fun _ => tPost D cA base μ) (tA base sz)) (vx_X (fun _ : Unit => True) (fun E _ t => exn kd E ∧ tPost D cA base μ t) (tA base sz)) 1 6 (tA base sz) := by
  refine vx_ofW (cc := cX6_interpreter) (maxL := 3) (ret := (some .int)) (by decide) rfl ?_
  intro p e s m args below meth c s₁ B hml hxt hv
  obtain ⟨rfl, ⟨hsz, hP, hK, hN⟩, hX⟩ := hv
  have hx := B.exec
  have hb := B.bytes
  have hr := B.returns
  have hts := atoms_spec (ws := wsX6_interpreter) B.pre
  have hown : s.vm.findClass RX6 = some m.cls := findClass_of_methodNamed B.named
  have hlocks := B.notSynchronized
  have hin5 : ∀ w ∈ wsX50, w ∈ wsX6_interpreter := by decide +kernel
  have hin6 : ∀ w ∈ wsX60, w ∈ wsX6_interpreter := by decide +kernel
  subst hsz
  have hS : va_S (tA base s.heap.size) s.heap s.heap [] := va_S.rf
  have hz : s.heap.size ≤ s.heap.size := Nat.le_refl _
  have hl := lv_entry ([.ref (base + q), .int a1, .int a2]) (n := 3) (Nat.le_of_ble_eq_true rfl)
  rw [lg_entry_eq]
  generalize (lg_sl ([.ref (base + q), .int a1, .int a2]) ++ List.replicate (3 - (lg_sl ([.ref (base + q), .int a1, .int a2])).length) Slot.unset).toArray = ls at hl ⊢
  have hl : lv_has ls 3 [(0, .ref (base + q)), (1, .int a1), (2, .int a2)] := hl
  unfold X6_interpreter at hm
  refine lv_aload_n hx hb dX6_interpreter_0 rfl (lv_at hl 0 rfl) ?_
  refine t_getr (C := RX6) (T := TX6) (N := 2) hx hb hts hin6 hown hK hP hq rfl rfl 0 (by decide) (fr6_0 hq) (hts _ (List.mem_of_getElem? (i := 1) rfl)) dX6_interpreter_1 ?_
  refine lv_iload_n hx hb dX6_interpreter_4 rfl (lv_at hl 1 rfl) ?_
  refine t_cVi (As := [.int a1]) (rest := []) (μ' := μ) (r := (X5_hasInterpreter (RF q 0) a1 μ)) ⟨hx, hb, hml, hown, hts⟩ (mX5_hasInterpreter l D cA base s.heap.size μ (kr6_0 hq) a1 rfl) (cwV 1 hts gX6_interpreter_X5_hasInterpreter rfl rfl rfl (by decide +kernel) ⟨Nat.le_of_ble_eq_true rfl, Nat.le_of_ble_eq_true rfl⟩) (va_recv hK hP (q0 := RF q 0) rfl (tw_obj (kr6_0 hq) (by decide))) hK hN hP hS hz rfl hl.1 (Nat.le_of_ble_eq_true rfl) dX6_interpreter_5 ⟨Nat.le_of_ble_eq_true rfl, Nat.le_of_ble_eq_true rfl⟩ rfl (fun H locs hP hS => ?_)
  refine lv_if_eq (tgt := 25) hx hb dX6_interpreter_8 (by decide) (fun c3 => ?_) (fun c3 => ?_)
  · rw [if_pos c3] at hm
    refine lv_iconst (v := (0 : Int32)) hx hb dX6_interpreter_25 (by decide) ?_
    refine t_chk (rest := []) ⟨hx, hb, hml, hown, hts⟩ (mX6_find l hlt D cA base H.size μ (0 : Int32)) (va_cwS 1 hts gX6_interpreter_X6_find rfl rfl rfl (by decide +kernel) ⟨Nat.le_of_ble_eq_true rfl, Nat.le_of_ble_eq_true rfl⟩) hK hN hX hP hS rfl hl.1 (Nat.le_of_ble_eq_true rfl) dX6_interpreter_26 ⟨Nat.le_of_ble_eq_true rfl, Nat.le_of_ble_eq_true rfl⟩ (fun c4 H locs hP hS => ?_) (fun c4 H locs ce q9 hP hS hc1 hc2 hc3 => ?_)
    · exact absurd rfl c4
    cases hm
    refine vx_widen (k := 1) (n := 6) (Nat.le_of_ble_eq_true rfl) (Nat.le_of_ble_eq_true rfl) ?_
    exact vx_out (fun x hx => (hxt x hx).elim) hlocks hc1 hc2 hc3 (fun t ht hA => ⟨(), trivial, ⟨Or.inr (Or.inr ⟨rfl, rfl⟩), tPost_of hP ht⟩, hS.F ht⟩) hS.2.2 (Nat.le_refl _) (Nat.le_refl _)
  · rw [if_neg c3] at hm
    refine lv_iload_n hx hb dX6_interpreter_11 rfl (lv_at hl 2 rfl) ?_
    refine lv_iconst (v := (0 : Int32)) hx hb dX6_interpreter_12 (by decide) ?_
    refine lv_bipush (v := (6 : Int32)) hx hb dX6_interpreter_13 (by decide) ?_
    refine t_cSi (As := [.int a2, .int (0 : Int32), .int (6 : Int32)]) (rest := []) (μ' := μ) (r := (X6_isWithin a2 (0 : Int32) (6 : Int32))) ⟨hx, hb, hml, hown, hts⟩ (mX6_isWithin l D cA base H.size μ a2 (0 : Int32) (6 : Int32) rfl) (va_cwS 3 hts gX6_interpreter_X6_isWithin rfl rfl rfl (by decide +kernel) ⟨Nat.le_of_ble_eq_true rfl, Nat.le_of_ble_eq_true rfl⟩) hK hN hP hS hz rfl hl.1 (Nat.le_of_ble_eq_true rfl) dX6_interpreter_15 ⟨Nat.le_of_ble_eq_true rfl, Nat.le_of_ble_eq_true rfl⟩ rfl (fun H locs hP hS => ?_)
    refine lv_if_eq (tgt := 25) hx hb dX6_interpreter_18 (by decide) (fun c7 => ?_) (fun c7 => ?_)
    · rw [if_pos c7] at hm
      refine lv_iconst (v := (0 : Int32)) hx hb dX6_interpreter_25 (by decide) ?_
      refine t_chk (rest := []) ⟨hx, hb, hml, hown, hts⟩ (mX6_find l hlt D cA base H.size μ (0 : Int32)) (va_cwS 1 hts gX6_interpreter_X6_find rfl rfl rfl (by decide +kernel) ⟨Nat.le_of_ble_eq_true rfl, Nat.le_of_ble_eq_true rfl⟩) hK hN hX hP hS rfl hl.1 (Nat.le_of_ble_eq_true rfl) dX6_interpreter_26 ⟨Nat.le_of_ble_eq_true rfl, Nat.le_of_ble_eq_true rfl⟩ (fun c8 H locs hP hS => ?_) (fun c8 H locs ce q9 hP hS hc1 hc2 hc3 => ?_)
      · exact absurd rfl c8
      cases hm
      refine vx_widen (k := 1) (n := 6) (Nat.le_of_ble_eq_true rfl) (Nat.le_of_ble_eq_true rfl) ?_
      exact vx_out (fun x hx => (hxt x hx).elim) hlocks hc1 hc2 hc3 (fun t ht hA => ⟨(), trivial, ⟨Or.inr (Or.inr ⟨rfl, rfl⟩), tPost_of hP ht⟩, hS.F ht⟩) hS.2.2 (Nat.le_refl _) (Nat.le_refl _)
    · rw [if_neg c7] at hm
      refine lv_iconst (v := (1 : Int32)) hx hb dX6_interpreter_21 (by decide) ?_
      refine lv_goto (tgt := 26) hx hb dX6_interpreter_22 (by decide) ?_
      refine t_chk (rest := []) ⟨hx, hb, hml, hown, hts⟩ (mX6_find l hlt D cA base H.size μ (1 : Int32)) (va_cwS 1 hts gX6_interpreter_X6_find rfl rfl rfl (by decide +kernel) ⟨Nat.le_of_ble_eq_true rfl, Nat.le_of_ble_eq_true rfl⟩) hK hN hX hP hS rfl hl.1 (Nat.le_of_ble_eq_true rfl) dX6_interpreter_26 ⟨Nat.le_of_ble_eq_true rfl, Nat.le_of_ble_eq_true rfl⟩ (fun c9 H locs hP hS => ?_) (fun c9 H locs ce q9 hP hS hc1 hc2 hc3 => ?_)
      rotate_left
      · exact absurd c9 (by decide)
      refine lv_aload_n hx hb dX6_interpreter_29 rfl (lv_at hl 0 rfl) ?_
      refine t_getr (C := RX6) (T := TX6) (N := 2) hx hb hts hin6 hown hK hP hq rfl rfl 0 (by decide) (fr6_0 hq) (hts _ (List.mem_of_getElem? (i := 1) rfl)) dX6_interpreter_30 ?_
      refine t_getr (C := RX5) (T := TX5) (N := 9) hx hb hts hin5 hown hK hP (kr6_0 hq) rfl rfl 4 (by decide) (fr5_4 (kr6_0 hq)) (hts _ (List.mem_of_getElem? (i := 2) rfl)) dX6_interpreter_33 ?_
      refine lv_iload_n hx hb dX6_interpreter_36 rfl (lv_at hl 1 rfl) ?_
      obtain ⟨hg10, hm⟩ := gd_inv hm
      refine t_aald3 hx hb hK hP (kr5_4 (kr6_0 hq)) hg10 dX6_interpreter_37 ?_
      refine lv_iload_n hx hb dX6_interpreter_38 rfl (lv_at hl 2 rfl) ?_
      refine t_cVi (As := [.int a2]) (rest := []) (μ' := μ) (r := (X2_tell (RF (RF (RF q 0) 4) a1.toNatClampNeg) a2 μ)) ⟨hx, hb, hml, hown, hts⟩ (mX2_tell l D cA base H.size μ (ka103 (kr5_4 (kr6_0 hq)) hg10) a2 rfl) (cwV 1 hts gX6_interpreter_X2_tell rfl rfl rfl (by decide +kernel) ⟨Nat.le_of_ble_eq_true rfl, Nat.le_of_ble_eq_true rfl⟩) (va_recv hK hP (q0 := RF (RF (RF q 0) 4) a1.toNatClampNeg) rfl (tw_obj (ka103 (kr5_4 (kr6_0 hq)) hg10) (by decide))) hK hN hP hS hz rfl hl.1 (Nat.le_of_ble_eq_true rfl) dX6_interpreter_39 ⟨Nat.le_of_ble_eq_true rfl, Nat.le_of_ble_eq_true rfl⟩ rfl (fun H locs hP hS => ?_)
      cases hm
      refine vx_ret ?_
      refine W.widen (k := 1) (n := 6) (Nat.le_of_ble_eq_true rfl) (Nat.le_of_ble_eq_true rfl) ?_
      exact W.iret hx hb hr (fun t ht hW => ⟨⟨_, (), rfl, ⟨rfl, rfl⟩, tPost_of hP ht⟩, hS.F ht⟩) hS.2.2 dX6_interpreter_42
abbrev rmX6_pass : Room := { frames := 7, cells := 2, slots := 12, locals := 153 }
set_option maxHeartbeats 4000000 in
set_option maxRecDepth 100000 in
theorem mX6_pass (l : Launch) (hlt : l.stackTraces = false) (D : va_G) (cA : Nat → ClassId) (base sz : Nat) (μ : MM) {q : Nat} (hq : kc q = 6) (a1 : Int32) {kd : Nat} {r : Int32} {μ' : MM} (hm : X6_pass q a1 μ = some (kd, r, μ')) : vx_Met l yX6_pass wsX6_pass rmX6_pass (va_Pc [.ref (base + q), .int a1] (tPreX D cA base sz μ)) (va_Qi (fun (x : Int32) (_ : Unit) => kd = 0 ∧ x = r) (fun _ => tPost D cA base μ') (tA base sz)) (vx_X (fun _ : Unit => True) (fun E _ t => exn kd E ∧ tPost D cA base μ' t) (tA base sz)) 2 12 (tA base sz) := by
  refine vx_ofW (cc := cX6_pass) (maxL := 2) (ret := (some .int)) (by decide) rfl ?_
  intro p e s m args below meth c s₁ B hml hxt hv
  obtain ⟨rfl, ⟨hsz, hP, hK, hN⟩, hX⟩ := hv
  have hx := B.exec
  have hb := B.bytes
  have hr := B.returns
  have hts := atoms_spec (ws := wsX6_pass) B.pre
  have hown : s.vm.findClass RX6 = some m.cls := findClass_of_methodNamed B.named
  have hlocks := B.notSynchronized
  have hin5 : ∀ w ∈ wsX50, w ∈ wsX6_pass := by decide +kernel
  have hin6 : ∀ w ∈ wsX60, w ∈ wsX6_pass := by decide +kernel
  subst hsz
  have hS : va_S (tA base s.heap.size) s.heap s.heap [] := va_S.rf
  have hz : s.heap.size ≤ s.heap.size := Nat.le_refl _
  have hl := lv_entry ([.ref (base + q), .int a1]) (n := 2) (Nat.le_of_ble_eq_true rfl)
  rw [lg_entry_eq]
  generalize (lg_sl ([.ref (base + q), .int a1]) ++ List.replicate (2 - (lg_sl ([.ref (base + q), .int a1])).length) Slot.unset).toArray = ls at hl ⊢
  have hl : lv_has ls 2 [(0, .ref (base + q)), (1, .int a1)] := hl
  unfold X6_pass at hm
  refine lv_iload_n hx hb dX6_pass_0 rfl (lv_at hl 1 rfl) ?_
  refine lv_iconst (v := (1 : Int32)) hx hb dX6_pass_1 (by decide) ?_
  refine lv_bipush (v := (100 : Int32)) hx hb dX6_pass_2 (by decide) ?_
  refine t_cSi (As := [.int a1, .int (1 : Int32), .int (100 : Int32)]) (rest := []) (μ' := μ) (r := (X6_isWithin a1 (1 : Int32) (100 : Int32))) ⟨hx, hb, hml, hown, hts⟩ (mX6_isWithin l D cA base s.heap.size μ a1 (1 : Int32) (100 : Int32) rfl) (va_cwS 3 hts gX6_pass_X6_isWithin rfl rfl rfl (by decide +kernel) ⟨Nat.le_of_ble_eq_true rfl, Nat.le_of_ble_eq_true rfl⟩) hK hN hP hS hz rfl hl.1 (Nat.le_of_ble_eq_true rfl) dX6_pass_4 ⟨Nat.le_of_ble_eq_true rfl, Nat.le_of_ble_eq_true rfl⟩ rfl (fun H locs hP hS => ?_)
  refine t_chk (rest := []) ⟨hx, hb, hml, hown, hts⟩ (mX6_demand l hlt D cA base H.size μ (X6_isWithin a1 (1 : Int32) (100 : Int32))) (va_cwS 1 hts gX6_pass_X6_demand rfl rfl rfl (by decide +kernel) ⟨Nat.le_of_ble_eq_true rfl, Nat.le_of_ble_eq_true rfl⟩) hK hN hX hP hS rfl hl.1 (Nat.le_of_ble_eq_true rfl) dX6_pass_7 ⟨Nat.le_of_ble_eq_true rfl, Nat.le_of_ble_eq_true rfl⟩ (fun c3 H locs hP hS => ?_) (fun c3 H locs ce q9 hP hS hc1 hc2 hc3 => ?_)
  rotate_left
  · rw [if_pos c3] at hm
    cases hm
    refine vx_widen (k := 2) (n := 12) (Nat.le_of_ble_eq_true rfl) (Nat.le_of_ble_eq_true rfl) ?_
    exact vx_out (fun x hx => (hxt x hx).elim) hlocks hc1 hc2 hc3 (fun t ht hA => ⟨(), trivial, ⟨Or.inl ⟨rfl, rfl⟩, tPost_of hP ht⟩, hS.F ht⟩) hS.2.2 (Nat.le_refl _) (Nat.le_refl _)
  rw [if_neg c3] at hm
  refine lv_aload_n hx hb dX6_pass_10 rfl (lv_at hl 0 rfl) ?_
  refine t_getr (C := RX6) (T := TX6) (N := 2) hx hb hts hin6 hown hK hP hq rfl rfl 0 (by decide) (fr6_0 hq) (hts _ (List.mem_of_getElem? (i := 1) rfl)) dX6_pass_11 ?_
  refine t_geti (C := RX5) (T := TX5) (N := 9) hx hb hts hin5 hown hK hP (kr6_0 hq) rfl rfl 8 (by decide) (fk5_8 (kr6_0 hq)) (hts _ (List.mem_of_getElem? (i := 2) rfl)) dX6_pass_14 ?_
  refine lv_iload_n hx hb dX6_pass_17 rfl (lv_at hl 1 rfl) ?_
  refine lv_iadd hx hb dX6_pass_18 ?_
  refine lv_sipush (v := (400 : Int32)) hx hb dX6_pass_19 (by decide) ?_
  refine lv_icmp_gt (tgt := 29) hx hb dX6_pass_22 (by decide) (fun c4 => ?_) (fun c4 => ?_)
  · rw [if_pos c4] at hm
    refine lv_iconst (v := (0 : Int32)) hx hb dX6_pass_29 (by decide) ?_
    refine t_chk (rest := []) ⟨hx, hb, hml, hown, hts⟩ (mX6_allow l hlt D cA base H.size μ (0 : Int32)) (va_cwS 1 hts gX6_pass_X6_allow rfl rfl rfl (by decide +kernel) ⟨Nat.le_of_ble_eq_true rfl, Nat.le_of_ble_eq_true rfl⟩) hK hN hX hP hS rfl hl.1 (Nat.le_of_ble_eq_true rfl) dX6_pass_30 ⟨Nat.le_of_ble_eq_true rfl, Nat.le_of_ble_eq_true rfl⟩ (fun c5 H locs hP hS => ?_) (fun c5 H locs ce q9 hP hS hc1 hc2 hc3 => ?_)
    · exact absurd rfl c5
    cases hm
    refine vx_widen (k := 2) (n := 12) (Nat.le_of_ble_eq_true rfl) (Nat.le_of_ble_eq_true rfl) ?_
    exact vx_out (fun x hx => (hxt x hx).elim) hlocks hc1 hc2 hc3 (fun t ht hA => ⟨(), trivial, ⟨Or.inr (Or.inl ⟨rfl, rfl⟩), tPost_of hP ht⟩, hS.F ht⟩) hS.2.2 (Nat.le_refl _) (Nat.le_refl _)
  · rw [if_neg c4] at hm
    refine lv_iconst (v := (1 : Int32)) hx hb dX6_pass_25 (by decide) ?_
    refine lv_goto (tgt := 30) hx hb dX6_pass_26 (by decide) ?_
    refine t_chk (rest := []) ⟨hx, hb, hml, hown, hts⟩ (mX6_allow l hlt D cA base H.size μ (1 : Int32)) (va_cwS 1 hts gX6_pass_X6_allow rfl rfl rfl (by decide +kernel) ⟨Nat.le_of_ble_eq_true rfl, Nat.le_of_ble_eq_true rfl⟩) hK hN hX hP hS rfl hl.1 (Nat.le_of_ble_eq_true rfl) dX6_pass_30 ⟨Nat.le_of_ble_eq_true rfl, Nat.le_of_ble_eq_true rfl⟩ (fun c6 H locs hP hS => ?_) (fun c6 H locs ce q9 hP hS hc1 hc2 hc3 => ?_)
    rotate_left
    · exact absurd c6 (by decide)
    refine lv_aload_n hx hb dX6_pass_33 rfl (lv_at hl 0 rfl) ?_
    refine t_getr (C := RX6) (T := TX6) (N := 2) hx hb hts hin6 hown hK hP hq rfl rfl 0 (by decide) (fr6_0 hq) (hts _ (List.mem_of_getElem? (i := 1) rfl)) dX6_pass_34 ?_
    refine lv_iload_n hx hb dX6_pass_37 rfl (lv_at hl 1 rfl) ?_
    obtain ⟨r7, μ8, hc9, hm⟩ := bO2_inv hm
    refine t_cVi (As := [.int a1]) (rest := []) (μ' := μ8) (r := r7) ⟨hx, hb, hml, hown, hts⟩ (mX5_goOn l D cA base H.size μ (kr6_0 hq) a1 hc9) (cwV 1 hts gX6_pass_X5_goOn rfl rfl rfl (by decide +kernel) ⟨Nat.le_of_ble_eq_true rfl, Nat.le_of_ble_eq_true rfl⟩) (va_recv hK hP (q0 := RF q 0) rfl (tw_obj (kr6_0 hq) (by decide))) hK hN hP hS hz rfl hl.1 (Nat.le_of_ble_eq_true rfl) dX6_pass_38 ⟨Nat.le_of_ble_eq_true rfl, Nat.le_of_ble_eq_true rfl⟩ rfl (fun H locs hP hS => ?_)
    cases hm
    refine vx_ret ?_
    refine W.widen (k := 2) (n := 12) (Nat.le_of_ble_eq_true rfl) (Nat.le_of_ble_eq_true rfl) ?_
    exact W.iret hx hb hr (fun t ht hW => ⟨⟨_, (), rfl, ⟨rfl, rfl⟩, tPost_of hP ht⟩, hS.F ht⟩) hS.2.2 dX6_pass_41
abbrev rmX6_said : Room := { frames := 7, cells := 2, slots := 12, locals := 102 }
set_option maxHeartbeats 4000000 in
set_option maxRecDepth 100000 in
theorem mX6_said (l : Launch) (hlt : l.stackTraces = false) (D : va_G) (cA : Nat → ClassId) (base sz : Nat) (μ : MM) {q : Nat} (hq : kc q = 6) (a1 : Int32) (a2 : Int32) (a3 : Int32) {kd : Nat} {r : Int32} (hm : X6_said q a1 a2 a3 μ = some (kd, r)) : vx_Met l yX6_said wsX6_said rmX6_said (va_Pc [.ref (base + q), .int a1, .int a2, .int a3] (tPreX D cA base sz μ)) (va_Qi (fun (x : Int32) (_ : Unit) => kd = 0 ∧ x = r) (fun _ => tPost D cA base μ) (tA base sz)) (vx_X (fun _ : Unit => True) (fun E _ t => exn kd E ∧ tPost D cA base μ t) (tA base sz)) 2 12 (tA base sz) := by
  refine vx_ofW (cc := cX6_said) (maxL := 5) (ret := (some .int)) (by decide) rfl ?_
  intro p e s m args below meth c s₁ B hml hxt hv
  obtain ⟨rfl, ⟨hsz, hP, hK, hN⟩, hX⟩ := hv
  have hx := B.exec
  have hb := B.bytes
  have hr := B.returns
  have hts := atoms_spec (ws := wsX6_said) B.pre
  have hown : s.vm.findClass RX6 = some m.cls := findClass_of_methodNamed B.named
  have hlocks := B.notSynchronized
  have hin4 : ∀ w ∈ wsX40, w ∈ wsX6_said := by decide +kernel
  have hin6 : ∀ w ∈ wsX60, w ∈ wsX6_said := by decide +kernel
  subst hsz
  have hS : va_S (tA base s.heap.size) s.heap s.heap [] := va_S.rf
  have hz : s.heap.size ≤ s.heap.size := Nat.le_refl _
  have hl := lv_entry ([.ref (base + q), .int a1, .int a2, .int a3]) (n := 5) (Nat.le_of_ble_eq_true rfl)
  rw [lg_entry_eq]
  generalize (lg_sl ([.ref (base + q), .int a1, .int a2, .int a3]) ++ List.replicate (5 - (lg_sl ([.ref (base + q), .int a1, .int a2, .int a3])).length) Slot.unset).toArray = ls at hl ⊢
  have hl : lv_has ls 5 [(0, .ref (base + q)), (1, .int a1), (2, .int a2), (3, .int a3)] := hl
  unfold X6_said at hm
  refine lv_iload_n hx hb dX6_said_0 rfl (lv_at hl 1 rfl) ?_
  refine lv_iconst (v := (-1 : Int32)) hx hb dX6_said_1 (by decide) ?_
  refine lv_icmp_eq (tgt := 16) hx hb dX6_said_2 (by decide) (fun c1 => ?_) (fun c1 => ?_)
  · rw [if_pos c1] at hm
    refine lv_iconst (v := (1 : Int32)) hx hb dX6_said_16 (by decide) ?_
    refine lv_goto (tgt := 21) hx hb dX6_said_17 (by decide) ?_
    refine t_chk (rest := []) ⟨hx, hb, hml, hown, hts⟩ (mX6_find l hlt D cA base s.heap.size μ (1 : Int32)) (va_cwS 1 hts gX6_said_X6_find rfl rfl rfl (by decide +kernel) ⟨Nat.le_of_ble_eq_true rfl, Nat.le_of_ble_eq_true rfl⟩) hK hN hX hP hS rfl hl.1 (Nat.le_of_ble_eq_true rfl) dX6_said_21 ⟨Nat.le_of_ble_eq_true rfl, Nat.le_of_ble_eq_true rfl⟩ (fun c2 H locs hP hS => ?_) (fun c2 H locs ce q9 hP hS hc1 hc2 hc3 => ?_)
    rotate_left
    · exact absurd c2 (by decide)
    refine lv_aload_n hx hb dX6_said_24 rfl (lv_at hl 0 rfl) ?_
    refine t_getr (C := RX6) (T := TX6) (N := 2) hx hb hts hin6 hown hK hP hq rfl rfl 0 (by decide) (fr6_0 hq) (hts _ (List.mem_of_getElem? (i := 1) rfl)) dX6_said_25 ?_
    refine lv_iload_n hx hb dX6_said_28 rfl (lv_at hl 1 rfl) ?_
    obtain ⟨r3, hc4, hm⟩ := bO1_inv hm
    refine t_cVr (As := [.int a1]) (rest := []) (μ' := μ) (r := r3) ⟨hx, hb, hml, hown, hts⟩ (mX5_speechOf l D cA base H.size μ (kr6_0 hq) a1 hc4) (cwV 1 hts gX6_said_X5_speechOf rfl rfl rfl (by decide +kernel) ⟨Nat.le_of_ble_eq_true rfl, Nat.le_of_ble_eq_true rfl⟩) (va_recv hK hP (q0 := RF q 0) rfl (tw_obj (kr6_0 hq) (by decide))) hK hN hP hS hz rfl hl.1 (Nat.le_of_ble_eq_true rfl) dX6_said_29 ⟨Nat.le_of_ble_eq_true rfl, Nat.le_of_ble_eq_true rfl⟩ rfl (fun H locs hP hS => ?_)
    refine lv_astore (lv' := [(4, .ref (base + r3)), (0, .ref (base + q)), (1, .int a1), (2, .int a2), (3, .int a3)]) hx hb dX6_said_32 hl (by decide) rfl (fun ls hl => ?_)
    refine lv_iload_n hx hb dX6_said_34 rfl (lv_at hl 3 rfl) ?_
    refine lv_iconst (v := (0 : Int32)) hx hb dX6_said_35 (by decide) ?_
    refine lv_aload hx hb dX6_said_36 (lv_at hl 0 rfl) ?_
    refine t_geti (C := RX4) (T := TX4) (N := 3) hx hb hts hin4 hown hK hP (ktX5_speechOf (kr6_0 hq) hc4) rfl rfl 2 (by decide) (fk4_2 (ktX5_speechOf (kr6_0 hq) hc4)) (hts _ (List.mem_of_getElem? (i := 2) rfl)) dX6_said_38 ?_
    refine lv_iconst (v := (1 : Int32)) hx hb dX6_said_41 (by decide) ?_
    refine lv_isub hx hb dX6_said_42 ?_
    refine t_cSi (As := [.int a2, .int (0 : Int32), .int ((rI μ r3 2) - (1 : Int32))]) (rest := []) (μ' := μ) (r := (X6_isWithin a2 (0 : Int32) ((rI μ r3 2) - (1 : Int32)))) ⟨hx, hb, hml, hown, hts⟩ (mX6_isWithin l D cA base H.size μ a2 (0 : Int32) ((rI μ r3 2) - (1 : Int32)) rfl) (va_cwS 3 hts gX6_said_X6_isWithin rfl rfl rfl (by decide +kernel) ⟨Nat.le_of_ble_eq_true rfl, Nat.le_of_ble_eq_true rfl⟩) hK hN hP hS hz rfl hl.1 (Nat.le_of_ble_eq_true rfl) dX6_said_43 ⟨Nat.le_of_ble_eq_true rfl, Nat.le_of_ble_eq_true rfl⟩ rfl (fun H locs hP hS => ?_)
    refine t_chk (rest := []) ⟨hx, hb, hml, hown, hts⟩ (mX6_find l hlt D cA base H.size μ (X6_isWithin a2 (0 : Int32) ((rI μ r3 2) - (1 : Int32)))) (va_cwS 1 hts gX6_said_X6_find rfl rfl rfl (by decide +kernel) ⟨Nat.le_of_ble_eq_true rfl, Nat.le_of_ble_eq_true rfl⟩) hK hN hX hP hS rfl hl.1 (Nat.le_of_ble_eq_true rfl) dX6_said_46 ⟨Nat.le_of_ble_eq_true rfl, Nat.le_of_ble_eq_true rfl⟩ (fun c7 H locs hP hS => ?_) (fun c7 H locs ce q9 hP hS hc1 hc2 hc3 => ?_)
    rotate_left
    · rw [if_pos c7] at hm
      cases hm
      refine vx_widen (k := 2) (n := 12) (Nat.le_of_ble_eq_true rfl) (Nat.le_of_ble_eq_true rfl) ?_
      exact vx_out (fun x hx => (hxt x hx).elim) hlocks hc1 hc2 hc3 (fun t ht hA => ⟨(), trivial, ⟨Or.inr (Or.inr ⟨rfl, rfl⟩), tPost_of hP ht⟩, hS.F ht⟩) hS.2.2 (Nat.le_refl _) (Nat.le_refl _)
    rw [if_neg c7] at hm
    refine lv_iload_n hx hb dX6_said_49 rfl (lv_at hl 4 rfl) ?_
    refine lv_if_eq (tgt := 62) hx hb dX6_said_50 (by decide) (fun c8 => ?_) (fun c8 => ?_)
    · rw [if_pos c8] at hm
      refine lv_aload hx hb dX6_said_62 (lv_at hl 0 rfl) ?_
      refine lv_iload_n hx hb dX6_said_64 rfl (lv_at hl 3 rfl) ?_
      obtain ⟨r9, hc10, hm⟩ := bO1_inv hm
      refine t_cVi (As := [.int a2]) (rest := []) (μ' := μ) (r := r9) ⟨hx, hb, hml, hown, hts⟩ (mX4_wordAt l D cA base H.size μ (ktX5_speechOf (kr6_0 hq) hc4) a2 hc10) (cwV 1 hts gX6_said_X4_wordAt rfl rfl rfl (by decide +kernel) ⟨Nat.le_of_ble_eq_true rfl, Nat.le_of_ble_eq_true rfl⟩) (va_recv hK hP (q0 := r3) rfl (tw_obj (ktX5_speechOf (kr6_0 hq) hc4) (by decide))) hK hN hP hS hz rfl hl.1 (Nat.le_of_ble_eq_true rfl) dX6_said_65 ⟨Nat.le_of_ble_eq_true rfl, Nat.le_of_ble_eq_true rfl⟩ rfl (fun H locs hP hS => ?_)
      cases hm
      refine vx_ret ?_
      refine W.widen (k := 2) (n := 12) (Nat.le_of_ble_eq_true rfl) (Nat.le_of_ble_eq_true rfl) ?_
      exact W.iret hx hb hr (fun t ht hW => ⟨⟨_, (), rfl, ⟨rfl, rfl⟩, tPost_of hP ht⟩, hS.F ht⟩) hS.2.2 dX6_said_68
    · rw [if_neg c8] at hm
      refine lv_aload hx hb dX6_said_53 (lv_at hl 0 rfl) ?_
      refine lv_iload_n hx hb dX6_said_55 rfl (lv_at hl 3 rfl) ?_
      obtain ⟨r11, hc12, hm⟩ := bO1_inv hm
      refine t_cVi (As := [.int a2]) (rest := []) (μ' := μ) (r := r11) ⟨hx, hb, hml, hown, hts⟩ (mX4_tickAt l D cA base H.size μ (ktX5_speechOf (kr6_0 hq) hc4) a2 hc12) (cwV 1 hts gX6_said_X4_tickAt rfl rfl rfl (by decide +kernel) ⟨Nat.le_of_ble_eq_true rfl, Nat.le_of_ble_eq_true rfl⟩) (va_recv hK hP (q0 := r3) rfl (tw_obj (ktX5_speechOf (kr6_0 hq) hc4) (by decide))) hK hN hP hS hz rfl hl.1 (Nat.le_of_ble_eq_true rfl) dX6_said_56 ⟨Nat.le_of_ble_eq_true rfl, Nat.le_of_ble_eq_true rfl⟩ rfl (fun H locs hP hS => ?_)
      refine lv_goto (tgt := 68) hx hb dX6_said_59 (by decide) ?_
      cases hm
      refine vx_ret ?_
      refine W.widen (k := 2) (n := 12) (Nat.le_of_ble_eq_true rfl) (Nat.le_of_ble_eq_true rfl) ?_
      exact W.iret hx hb hr (fun t ht hW => ⟨⟨_, (), rfl, ⟨rfl, rfl⟩, tPost_of hP ht⟩, hS.F ht⟩) hS.2.2 dX6_said_68
  · rw [if_neg c1] at hm
    refine lv_aload_n hx hb dX6_said_5 rfl (lv_at hl 0 rfl) ?_
    refine t_getr (C := RX6) (T := TX6) (N := 2) hx hb hts hin6 hown hK hP hq rfl rfl 0 (by decide) (fr6_0 hq) (hts _ (List.mem_of_getElem? (i := 1) rfl)) dX6_said_6 ?_
    refine lv_iload_n hx hb dX6_said_9 rfl (lv_at hl 1 rfl) ?_
    refine t_cVi (As := [.int a1]) (rest := []) (μ' := μ) (r := (X5_hasBooth (RF q 0) a1 μ)) ⟨hx, hb, hml, hown, hts⟩ (mX5_hasBooth l D cA base s.heap.size μ (kr6_0 hq) a1 rfl) (cwV 1 hts gX6_said_X5_hasBooth rfl rfl rfl (by decide +kernel) ⟨Nat.le_of_ble_eq_true rfl, Nat.le_of_ble_eq_true rfl⟩) (va_recv hK hP (q0 := RF q 0) rfl (tw_obj (kr6_0 hq) (by decide))) hK hN hP hS hz rfl hl.1 (Nat.le_of_ble_eq_true rfl) dX6_said_10 ⟨Nat.le_of_ble_eq_true rfl, Nat.le_of_ble_eq_true rfl⟩ rfl (fun H locs hP hS => ?_)
    refine lv_if_eq (tgt := 20) hx hb dX6_said_13 (by decide) (fun c15 => ?_) (fun c15 => ?_)
    · rw [if_pos c15] at hm
      refine lv_iconst (v := (0 : Int32)) hx hb dX6_said_20 (by decide) ?_
      refine t_chk (rest := []) ⟨hx, hb, hml, hown, hts⟩ (mX6_find l hlt D cA base H.size μ (0 : Int32)) (va_cwS 1 hts gX6_said_X6_find rfl rfl rfl (by decide +kernel) ⟨Nat.le_of_ble_eq_true rfl, Nat.le_of_ble_eq_true rfl⟩) hK hN hX hP hS rfl hl.1 (Nat.le_of_ble_eq_true rfl) dX6_said_21 ⟨Nat.le_of_ble_eq_true rfl, Nat.le_of_ble_eq_true rfl⟩ (fun c16 H locs hP hS => ?_) (fun c16 H locs ce q9 hP hS hc1 hc2 hc3 => ?_)
      · exact absurd rfl c16
      cases hm
      refine vx_widen (k := 2) (n := 12) (Nat.le_of_ble_eq_true rfl) (Nat.le_of_ble_eq_true rfl) ?_
      exact vx_out (fun x hx => (hxt x hx).elim) hlocks hc1 hc2 hc3 (fun t ht hA => ⟨(), trivial, ⟨Or.inr (Or.inr ⟨rfl, rfl⟩), tPost_of hP ht⟩, hS.F ht⟩) hS.2.2 (Nat.le_refl _) (Nat.le_refl _)
    · rw [if_neg c15] at hm
      refine lv_iconst (v := (1 : Int32)) hx hb dX6_said_16 (by decide) ?_
      refine lv_goto (tgt := 21) hx hb dX6_said_17 (by decide) ?_
      refine t_chk (rest := []) ⟨hx, hb, hml, hown, hts⟩ (mX6_find l hlt D cA base H.size μ (1 : Int32)) (va_cwS 1 hts gX6_said_X6_find rfl rfl rfl (by decide +kernel) ⟨Nat.le_of_ble_eq_true rfl, Nat.le_of_ble_eq_true rfl⟩) hK hN hX hP hS rfl hl.1 (Nat.le_of_ble_eq_true rfl) dX6_said_21 ⟨Nat.le_of_ble_eq_true rfl, Nat.le_of_ble_eq_true rfl⟩ (fun c17 H locs hP hS => ?_) (fun c17 H locs ce q9 hP hS hc1 hc2 hc3 => ?_)
      rotate_left
      · exact absurd c17 (by decide)
      refine lv_aload_n hx hb dX6_said_24 rfl (lv_at hl 0 rfl) ?_
      refine t_getr (C := RX6) (T := TX6) (N := 2) hx hb hts hin6 hown hK hP hq rfl rfl 0 (by decide) (fr6_0 hq) (hts _ (List.mem_of_getElem? (i := 1) rfl)) dX6_said_25 ?_
      refine lv_iload_n hx hb dX6_said_28 rfl (lv_at hl 1 rfl) ?_
      obtain ⟨r18, hc19, hm⟩ := bO1_inv hm
      refine t_cVr (As := [.int a1]) (rest := []) (μ' := μ) (r := r18) ⟨hx, hb, hml, hown, hts⟩ (mX5_speechOf l D cA base H.size μ (kr6_0 hq) a1 hc19) (cwV 1 hts gX6_said_X5_speechOf rfl rfl rfl (by decide +kernel) ⟨Nat.le_of_ble_eq_true rfl, Nat.le_of_ble_eq_true rfl⟩) (va_recv hK hP (q0 := RF q 0) rfl (tw_obj (kr6_0 hq) (by decide))) hK hN hP hS hz rfl hl.1 (Nat.le_of_ble_eq_true rfl) dX6_said_29 ⟨Nat.le_of_ble_eq_true rfl, Nat.le_of_ble_eq_true rfl⟩ rfl (fun H locs hP hS => ?_)
      refine lv_astore (lv' := [(4, .ref (base + r18)), (0, .ref (base + q)), (1, .int a1), (2, .int a2), (3, .int a3)]) hx hb dX6_said_32 hl (by decide) rfl (fun ls hl => ?_)
      refine lv_iload_n hx hb dX6_said_34 rfl (lv_at hl 3 rfl) ?_
      refine lv_iconst (v := (0 : Int32)) hx hb dX6_said_35 (by decide) ?_
      refine lv_aload hx hb dX6_said_36 (lv_at hl 0 rfl) ?_
      refine t_geti (C := RX4) (T := TX4) (N := 3) hx hb hts hin4 hown hK hP (ktX5_speechOf (kr6_0 hq) hc19) rfl rfl 2 (by decide) (fk4_2 (ktX5_speechOf (kr6_0 hq) hc19)) (hts _ (List.mem_of_getElem? (i := 2) rfl)) dX6_said_38 ?_
      refine lv_iconst (v := (1 : Int32)) hx hb dX6_said_41 (by decide) ?_
      refine lv_isub hx hb dX6_said_42 ?_
      refine t_cSi (As := [.int a2, .int (0 : Int32), .int ((rI μ r18 2) - (1 : Int32))]) (rest := []) (μ' := μ) (r := (X6_isWithin a2 (0 : Int32) ((rI μ r18 2) - (1 : Int32)))) ⟨hx, hb, hml, hown, hts⟩ (mX6_isWithin l D cA base H.size μ a2 (0 : Int32) ((rI μ r18 2) - (1 : Int32)) rfl) (va_cwS 3 hts gX6_said_X6_isWithin rfl rfl rfl (by decide +kernel) ⟨Nat.le_of_ble_eq_true rfl, Nat.le_of_ble_eq_true rfl⟩) hK hN hP hS hz rfl hl.1 (Nat.le_of_ble_eq_true rfl) dX6_said_43 ⟨Nat.le_of_ble_eq_true rfl, Nat.le_of_ble_eq_true rfl⟩ rfl (fun H locs hP hS => ?_)
      refine t_chk (rest := []) ⟨hx, hb, hml, hown, hts⟩ (mX6_find l hlt D cA base H.size μ (X6_isWithin a2 (0 : Int32) ((rI μ r18 2) - (1 : Int32)))) (va_cwS 1 hts gX6_said_X6_find rfl rfl rfl (by decide +kernel) ⟨Nat.le_of_ble_eq_true rfl, Nat.le_of_ble_eq_true rfl⟩) hK hN hX hP hS rfl hl.1 (Nat.le_of_ble_eq_true rfl) dX6_said_46 ⟨Nat.le_of_ble_eq_true rfl, Nat.le_of_ble_eq_true rfl⟩ (fun c22 H locs hP hS => ?_) (fun c22 H locs ce q9 hP hS hc1 hc2 hc3 => ?_)
      rotate_left
      · rw [if_pos c22] at hm
        cases hm
        refine vx_widen (k := 2) (n := 12) (Nat.le_of_ble_eq_true rfl) (Nat.le_of_ble_eq_true rfl) ?_
        exact vx_out (fun x hx => (hxt x hx).elim) hlocks hc1 hc2 hc3 (fun t ht hA => ⟨(), trivial, ⟨Or.inr (Or.inr ⟨rfl, rfl⟩), tPost_of hP ht⟩, hS.F ht⟩) hS.2.2 (Nat.le_refl _) (Nat.le_refl _)
      rw [if_neg c22] at hm
      refine lv_iload_n hx hb dX6_said_49 rfl (lv_at hl 4 rfl) ?_
      refine lv_if_eq (tgt := 62) hx hb dX6_said_50 (by decide) (fun c23 => ?_) (fun c23 => ?_)
      · rw [if_pos c23] at hm
        refine lv_aload hx hb dX6_said_62 (lv_at hl 0 rfl) ?_
        refine lv_iload_n hx hb dX6_said_64 rfl (lv_at hl 3 rfl) ?_
        obtain ⟨r24, hc25, hm⟩ := bO1_inv hm
        refine t_cVi (As := [.int a2]) (rest := []) (μ' := μ) (r := r24) ⟨hx, hb, hml, hown, hts⟩ (mX4_wordAt l D cA base H.size μ (ktX5_speechOf (kr6_0 hq) hc19) a2 hc25) (cwV 1 hts gX6_said_X4_wordAt rfl rfl rfl (by decide +kernel) ⟨Nat.le_of_ble_eq_true rfl, Nat.le_of_ble_eq_true rfl⟩) (va_recv hK hP (q0 := r18) rfl (tw_obj (ktX5_speechOf (kr6_0 hq) hc19) (by decide))) hK hN hP hS hz rfl hl.1 (Nat.le_of_ble_eq_true rfl) dX6_said_65 ⟨Nat.le_of_ble_eq_true rfl, Nat.le_of_ble_eq_true rfl⟩ rfl (fun H locs hP hS => ?_)
        cases hm
        refine vx_ret ?_
        refine W.widen (k := 2) (n := 12) (Nat.le_of_ble_eq_true rfl) (Nat.le_of_ble_eq_true rfl) ?_
        exact W.iret hx hb hr (fun t ht hW => ⟨⟨_, (), rfl, ⟨rfl, rfl⟩, tPost_of hP ht⟩, hS.F ht⟩) hS.2.2 dX6_said_68
      · rw [if_neg c23] at hm
        refine lv_aload hx hb dX6_said_53 (lv_at hl 0 rfl) ?_
        refine lv_iload_n hx hb dX6_said_55 rfl (lv_at hl 3 rfl) ?_
        obtain ⟨r26, hc27, hm⟩ := bO1_inv hm
        refine t_cVi (As := [.int a2]) (rest := []) (μ' := μ) (r := r26) ⟨hx, hb, hml, hown, hts⟩ (mX4_tickAt l D cA base H.size μ (ktX5_speechOf (kr6_0 hq) hc19) a2 hc27) (cwV 1 hts gX6_said_X4_tickAt rfl rfl rfl (by decide +kernel) ⟨Nat.le_of_ble_eq_true rfl, Nat.le_of_ble_eq_true rfl⟩) (va_recv hK hP (q0 := r18) rfl (tw_obj (ktX5_speechOf (kr6_0 hq) hc19) (by decide))) hK hN hP hS hz rfl hl.1 (Nat.le_of_ble_eq_true rfl) dX6_said_56 ⟨Nat.le_of_ble_eq_true rfl, Nat.le_of_ble_eq_true rfl⟩ rfl (fun H locs hP hS => ?_)
        refine lv_goto (tgt := 68) hx hb dX6_said_59 (by decide) ?_
        cases hm
        refine vx_ret ?_
        refine W.widen (k := 2) (n := 12) (Nat.le_of_ble_eq_true rfl) (Nat.le_of_ble_eq_true rfl) ?_
        exact W.iret hx hb hr (fun t ht hW => ⟨⟨_, (), rfl, ⟨rfl, rfl⟩, tPost_of hP ht⟩, hS.F ht⟩) hS.2.2 dX6_said_68
abbrev rmX6_count : Room := { frames := 7, cells := 1, slots := 6, locals := 109 }
set_option maxHeartbeats 4000000 in
set_option maxRecDepth 100000 in
theorem mX6_count (l : Launch) (hlt : l.stackTraces = false) (D : va_G) (cA : Nat → ClassId) (base sz : Nat) (μ : MM) {q : Nat} (hq : kc q = 6) (a1 : Int32) {kd : Nat} {r : Int32} (hm : X6_count q a1 μ = some (kd, r)) : vx_Met l yX6_count wsX6_count rmX6_count (va_Pc [.ref (base + q), .int a1] (tPreX D cA base sz μ)) (va_Qi (fun (x : Int32) (_ : Unit) => kd = 0 ∧ x = r) (fun _ => tPost D cA base μ) (tA base sz)) (vx_X (fun _ : Unit => True) (fun E _ t => exn kd E ∧ tPost D cA base μ t) (tA base sz)) 1 6 (tA base sz) := by
  refine vx_ofW (cc := cX6_count) (maxL := 2) (ret := (some .int)) (by decide) rfl ?_
  intro p e s m args below meth c s₁ B hml hxt hv
  obtain ⟨rfl, ⟨hsz, hP, hK, hN⟩, hX⟩ := hv
  have hx := B.exec
  have hb := B.bytes
  have hr := B.returns
  have hts := atoms_spec (ws := wsX6_count) B.pre
  have hown : s.vm.findClass RX6 = some m.cls := findClass_of_methodNamed B.named
  have hlocks := B.notSynchronized
  have hin6 : ∀ w ∈ wsX60, w ∈ wsX6_count := by decide +kernel
  subst hsz
  have hS : va_S (tA base s.heap.size) s.heap s.heap [] := va_S.rf
  have hz : s.heap.size ≤ s.heap.size := Nat.le_refl _
  have hl := lv_entry ([.ref (base + q), .int a1]) (n := 2) (Nat.le_of_ble_eq_true rfl)
  rw [lg_entry_eq]
  generalize (lg_sl ([.ref (base + q), .int a1]) ++ List.replicate (2 - (lg_sl ([.ref (base + q), .int a1])).length) Slot.unset).toArray = ls at hl ⊢
  have hl : lv_has ls 2 [(0, .ref (base + q)), (1, .int a1)] := hl
  unfold X6_count at hm
  refine lv_iload_n hx hb dX6_count_0 rfl (lv_at hl 1 rfl) ?_
  refine lv_iconst (v := (0 : Int32)) hx hb dX6_count_1 (by decide) ?_
  refine lv_bipush (v := (9 : Int32)) hx hb dX6_count_2 (by decide) ?_
  refine t_cSi (As := [.int a1, .int (0 : Int32), .int (9 : Int32)]) (rest := []) (μ' := μ) (r := (X6_isWithin a1 (0 : Int32) (9 : Int32))) ⟨hx, hb, hml, hown, hts⟩ (mX6_isWithin l D cA base s.heap.size μ a1 (0 : Int32) (9 : Int32) rfl) (va_cwS 3 hts gX6_count_X6_isWithin rfl rfl rfl (by decide +kernel) ⟨Nat.le_of_ble_eq_true rfl, Nat.le_of_ble_eq_true rfl⟩) hK hN hP hS hz rfl hl.1 (Nat.le_of_ble_eq_true rfl) dX6_count_4 ⟨Nat.le_of_ble_eq_true rfl, Nat.le_of_ble_eq_true rfl⟩ rfl (fun H locs hP hS => ?_)
  refine t_chk (rest := []) ⟨hx, hb, hml, hown, hts⟩ (mX6_find l hlt D cA base H.size μ (X6_isWithin a1 (0 : Int32) (9 : Int32))) (va_cwS 1 hts gX6_count_X6_find rfl rfl rfl (by decide +kernel) ⟨Nat.le_of_ble_eq_true rfl, Nat.le_of_ble_eq_true rfl⟩) hK hN hX hP hS rfl hl.1 (Nat.le_of_ble_eq_true rfl) dX6_count_7 ⟨Nat.le_of_ble_eq_true rfl, Nat.le_of_ble_eq_true rfl⟩ (fun c3 H locs hP hS => ?_) (fun c3 H locs ce q9 hP hS hc1 hc2 hc3 => ?_)
  rotate_left
  · rw [if_pos c3] at hm
    cases hm
    refine vx_widen (k := 1) (n := 6) (Nat.le_of_ble_eq_true rfl) (Nat.le_of_ble_eq_true rfl) ?_
    exact vx_out (fun x hx => (hxt x hx).elim) hlocks hc1 hc2 hc3 (fun t ht hA => ⟨(), trivial, ⟨Or.inr (Or.inr ⟨rfl, rfl⟩), tPost_of hP ht⟩, hS.F ht⟩) hS.2.2 (Nat.le_refl _) (Nat.le_refl _)
  rw [if_neg c3] at hm
  refine lv_aload_n hx hb dX6_count_10 rfl (lv_at hl 0 rfl) ?_
  refine t_getr (C := RX6) (T := TX6) (N := 2) hx hb hts hin6 hown hK hP hq rfl rfl 0 (by decide) (fr6_0 hq) (hts _ (List.mem_of_getElem? (i := 1) rfl)) dX6_count_11 ?_
  refine lv_iload_n hx hb dX6_count_14 rfl (lv_at hl 1 rfl) ?_
  obtain ⟨r4, hc5, hm⟩ := bO1_inv hm
  refine t_cVi (As := [.int a1]) (rest := []) (μ' := μ) (r := r4) ⟨hx, hb, hml, hown, hts⟩ (mX5_tellCount l D cA base H.size μ (kr6_0 hq) a1 hc5) (cwV 1 hts gX6_count_X5_tellCount rfl rfl rfl (by decide +kernel) ⟨Nat.le_of_ble_eq_true rfl, Nat.le_of_ble_eq_true rfl⟩) (va_recv hK hP (q0 := RF q 0) rfl (tw_obj (kr6_0 hq) (by decide))) hK hN hP hS hz rfl hl.1 (Nat.le_of_ble_eq_true rfl) dX6_count_15 ⟨Nat.le_of_ble_eq_true rfl, Nat.le_of_ble_eq_true rfl⟩ rfl (fun H locs hP hS => ?_)
  cases hm
  refine vx_ret ?_
  refine W.widen (k := 1) (n := 6) (Nat.le_of_ble_eq_true rfl) (Nat.le_of_ble_eq_true rfl) ?_
  exact W.iret hx hb hr (fun t ht hW => ⟨⟨_, (), rfl, ⟨rfl, rfl⟩, tPost_of hP ht⟩, hS.F ht⟩) hS.2.2 dX6_count_18
abbrev rmX6_foresee : Room := { frames := 7, cells := 3, slots := 18, locals := 153 }
set_option maxHeartbeats 4000000 in
set_option maxRecDepth 100000 in
theorem mX6_foresee (l : Launch) (hlt : l.stackTraces = false) (D : va_G) (cA : Nat → ClassId) (base sz : Nat) (μ : MM) {q : Nat} (hq : kc q = 6) (a1 : Int32) (a2 : Int32) (a3 : Int32) {kd : Nat} {r : Int32} {μ' : MM} (hm : X6_foresee q a1 a2 a3 μ = some (kd, r, μ')) : vx_Met l yX6_foresee wsX6_foresee rmX6_foresee (va_Pc [.ref (base + q), .int a1, .int a2, .int a3] (tPreX D cA base sz μ)) (va_Qi (fun (x : Int32) (_ : Unit) => kd = 0 ∧ x = r) (fun _ => tPost D cA base μ') (tA base sz)) (vx_X (fun _ : Unit => True) (fun E _ t => exn kd E ∧ tPost D cA base μ' t) (tA base sz)) 3 18 (tA base sz) := by
  refine vx_ofW (cc := cX6_foresee) (maxL := 4) (ret := (some .int)) (by decide) rfl ?_
  intro p e s m args below meth c s₁ B hml hxt hv
  obtain ⟨rfl, ⟨hsz, hP, hK, hN⟩, hX⟩ := hv
  have hx := B.exec
  have hb := B.bytes
  have hr := B.returns
  have hts := atoms_spec (ws := wsX6_foresee) B.pre
  have hown : s.vm.findClass RX6 = some m.cls := findClass_of_methodNamed B.named
  have hlocks := B.notSynchronized
  have hin0 : ∀ w ∈ wsX00, w ∈ wsX6_foresee := by decide +kernel
  have hin4 : ∀ w ∈ wsX40, w ∈ wsX6_foresee := by decide +kernel
  have hin5 : ∀ w ∈ wsX50, w ∈ wsX6_foresee := by decide +kernel
  have hin6 : ∀ w ∈ wsX60, w ∈ wsX6_foresee := by decide +kernel
  subst hsz
  have hS : va_S (tA base s.heap.size) s.heap s.heap [] := va_S.rf
  have hz : s.heap.size ≤ s.heap.size := Nat.le_refl _
  have hl := lv_entry ([.ref (base + q), .int a1, .int a2, .int a3]) (n := 4) (Nat.le_of_ble_eq_true rfl)
  rw [lg_entry_eq]
  generalize (lg_sl ([.ref (base + q), .int a1, .int a2, .int a3]) ++ List.replicate (4 - (lg_sl ([.ref (base + q), .int a1, .int a2, .int a3])).length) Slot.unset).toArray = ls at hl ⊢
  have hl : lv_has ls 4 [(0, .ref (base + q)), (1, .int a1), (2, .int a2), (3, .int a3)] := hl
  unfold X6_foresee at hm
  refine lv_aload_n hx hb dX6_foresee_0 rfl (lv_at hl 0 rfl) ?_
  refine t_getr (C := RX6) (T := TX6) (N := 2) hx hb hts hin6 hown hK hP hq rfl rfl 0 (by decide) (fr6_0 hq) (hts _ (List.mem_of_getElem? (i := 1) rfl)) dX6_foresee_1 ?_
  refine lv_iload_n hx hb dX6_foresee_4 rfl (lv_at hl 1 rfl) ?_
  refine t_cVi (As := [.int a1]) (rest := []) (μ' := μ) (r := (X5_hasBooth (RF q 0) a1 μ)) ⟨hx, hb, hml, hown, hts⟩ (mX5_hasBooth l D cA base s.heap.size μ (kr6_0 hq) a1 rfl) (cwV 1 hts gX6_foresee_X5_hasBooth rfl rfl rfl (by decide +kernel) ⟨Nat.le_of_ble_eq_true rfl, Nat.le_of_ble_eq_true rfl⟩) (va_recv hK hP (q0 := RF q 0) rfl (tw_obj (kr6_0 hq) (by decide))) hK hN hP hS hz rfl hl.1 (Nat.le_of_ble_eq_true rfl) dX6_foresee_5 ⟨Nat.le_of_ble_eq_true rfl, Nat.le_of_ble_eq_true rfl⟩ rfl (fun H locs hP hS => ?_)
  refine lv_if_eq (tgt := 24) hx hb dX6_foresee_8 (by decide) (fun c3 => ?_) (fun c3 => ?_)
  · rw [if_pos c3] at hm
    refine lv_iconst (v := (0 : Int32)) hx hb dX6_foresee_24 (by decide) ?_
    refine t_chk (rest := []) ⟨hx, hb, hml, hown, hts⟩ (mX6_find l hlt D cA base H.size μ (0 : Int32)) (va_cwS 1 hts gX6_foresee_X6_find rfl rfl rfl (by decide +kernel) ⟨Nat.le_of_ble_eq_true rfl, Nat.le_of_ble_eq_true rfl⟩) hK hN hX hP hS rfl hl.1 (Nat.le_of_ble_eq_true rfl) dX6_foresee_25 ⟨Nat.le_of_ble_eq_true rfl, Nat.le_of_ble_eq_true rfl⟩ (fun c4 H locs hP hS => ?_) (fun c4 H locs ce q9 hP hS hc1 hc2 hc3 => ?_)
    · exact absurd rfl c4
    cases hm
    refine vx_widen (k := 3) (n := 18) (Nat.le_of_ble_eq_true rfl) (Nat.le_of_ble_eq_true rfl) ?_
    exact vx_out (fun x hx => (hxt x hx).elim) hlocks hc1 hc2 hc3 (fun t ht hA => ⟨(), trivial, ⟨Or.inr (Or.inr ⟨rfl, rfl⟩), tPost_of hP ht⟩, hS.F ht⟩) hS.2.2 (Nat.le_refl _) (Nat.le_refl _)
  · rw [if_neg c3] at hm
    refine lv_iload_n hx hb dX6_foresee_11 rfl (lv_at hl 3 rfl) ?_
    refine lv_iconst (v := (0 : Int32)) hx hb dX6_foresee_12 (by decide) ?_
    refine lv_iconst (v := (2 : Int32)) hx hb dX6_foresee_13 (by decide) ?_
    refine t_cSi (As := [.int a3, .int (0 : Int32), .int (2 : Int32)]) (rest := []) (μ' := μ) (r := (X6_isWithin a3 (0 : Int32) (2 : Int32))) ⟨hx, hb, hml, hown, hts⟩ (mX6_isWithin l D cA base H.size μ a3 (0 : Int32) (2 : Int32) rfl) (va_cwS 3 hts gX6_foresee_X6_isWithin rfl rfl rfl (by decide +kernel) ⟨Nat.le_of_ble_eq_true rfl, Nat.le_of_ble_eq_true rfl⟩) hK hN hP hS hz rfl hl.1 (Nat.le_of_ble_eq_true rfl) dX6_foresee_14 ⟨Nat.le_of_ble_eq_true rfl, Nat.le_of_ble_eq_true rfl⟩ rfl (fun H locs hP hS => ?_)
    refine lv_if_eq (tgt := 24) hx hb dX6_foresee_17 (by decide) (fun c7 => ?_) (fun c7 => ?_)
    · rw [if_pos c7] at hm
      refine lv_iconst (v := (0 : Int32)) hx hb dX6_foresee_24 (by decide) ?_
      refine t_chk (rest := []) ⟨hx, hb, hml, hown, hts⟩ (mX6_find l hlt D cA base H.size μ (0 : Int32)) (va_cwS 1 hts gX6_foresee_X6_find rfl rfl rfl (by decide +kernel) ⟨Nat.le_of_ble_eq_true rfl, Nat.le_of_ble_eq_true rfl⟩) hK hN hX hP hS rfl hl.1 (Nat.le_of_ble_eq_true rfl) dX6_foresee_25 ⟨Nat.le_of_ble_eq_true rfl, Nat.le_of_ble_eq_true rfl⟩ (fun c8 H locs hP hS => ?_) (fun c8 H locs ce q9 hP hS hc1 hc2 hc3 => ?_)
      · exact absurd rfl c8
      cases hm
      refine vx_widen (k := 3) (n := 18) (Nat.le_of_ble_eq_true rfl) (Nat.le_of_ble_eq_true rfl) ?_
      exact vx_out (fun x hx => (hxt x hx).elim) hlocks hc1 hc2 hc3 (fun t ht hA => ⟨(), trivial, ⟨Or.inr (Or.inr ⟨rfl, rfl⟩), tPost_of hP ht⟩, hS.F ht⟩) hS.2.2 (Nat.le_refl _) (Nat.le_refl _)
    · rw [if_neg c7] at hm
      refine lv_iconst (v := (1 : Int32)) hx hb dX6_foresee_20 (by decide) ?_
      refine lv_goto (tgt := 25) hx hb dX6_foresee_21 (by decide) ?_
      refine t_chk (rest := []) ⟨hx, hb, hml, hown, hts⟩ (mX6_find l hlt D cA base H.size μ (1 : Int32)) (va_cwS 1 hts gX6_foresee_X6_find rfl rfl rfl (by decide +kernel) ⟨Nat.le_of_ble_eq_true rfl, Nat.le_of_ble_eq_true rfl⟩) hK hN hX hP hS rfl hl.1 (Nat.le_of_ble_eq_true rfl) dX6_foresee_25 ⟨Nat.le_of_ble_eq_true rfl, Nat.le_of_ble_eq_true rfl⟩ (fun c9 H locs hP hS => ?_) (fun c9 H locs ce q9 hP hS hc1 hc2 hc3 => ?_)
      rotate_left
      · exact absurd c9 (by decide)
      refine lv_iload_n hx hb dX6_foresee_28 rfl (lv_at hl 2 rfl) ?_
      refine lv_iconst (v := (1 : Int32)) hx hb dX6_foresee_29 (by decide) ?_
      refine lv_bipush (v := (100 : Int32)) hx hb dX6_foresee_30 (by decide) ?_
      refine t_cSi (As := [.int a2, .int (1 : Int32), .int (100 : Int32)]) (rest := []) (μ' := μ) (r := (X6_isWithin a2 (1 : Int32) (100 : Int32))) ⟨hx, hb, hml, hown, hts⟩ (mX6_isWithin l D cA base H.size μ a2 (1 : Int32) (100 : Int32) rfl) (va_cwS 3 hts gX6_foresee_X6_isWithin rfl rfl rfl (by decide +kernel) ⟨Nat.le_of_ble_eq_true rfl, Nat.le_of_ble_eq_true rfl⟩) hK hN hP hS hz rfl hl.1 (Nat.le_of_ble_eq_true rfl) dX6_foresee_32 ⟨Nat.le_of_ble_eq_true rfl, Nat.le_of_ble_eq_true rfl⟩ rfl (fun H locs hP hS => ?_)
      refine t_chk (rest := []) ⟨hx, hb, hml, hown, hts⟩ (mX6_demand l hlt D cA base H.size μ (X6_isWithin a2 (1 : Int32) (100 : Int32))) (va_cwS 1 hts gX6_foresee_X6_demand rfl rfl rfl (by decide +kernel) ⟨Nat.le_of_ble_eq_true rfl, Nat.le_of_ble_eq_true rfl⟩) hK hN hX hP hS rfl hl.1 (Nat.le_of_ble_eq_true rfl) dX6_foresee_35 ⟨Nat.le_of_ble_eq_true rfl, Nat.le_of_ble_eq_true rfl⟩ (fun c12 H locs hP hS => ?_) (fun c12 H locs ce q9 hP hS hc1 hc2 hc3 => ?_)
      rotate_left
      · rw [if_pos c12] at hm
        cases hm
        refine vx_widen (k := 3) (n := 18) (Nat.le_of_ble_eq_true rfl) (Nat.le_of_ble_eq_true rfl) ?_
        exact vx_out (fun x hx => (hxt x hx).elim) hlocks hc1 hc2 hc3 (fun t ht hA => ⟨(), trivial, ⟨Or.inl ⟨rfl, rfl⟩, tPost_of hP ht⟩, hS.F ht⟩) hS.2.2 (Nat.le_refl _) (Nat.le_refl _)
      rw [if_neg c12] at hm
      refine lv_aload_n hx hb dX6_foresee_38 rfl (lv_at hl 0 rfl) ?_
      refine t_getr (C := RX6) (T := TX6) (N := 2) hx hb hts hin6 hown hK hP hq rfl rfl 0 (by decide) (fr6_0 hq) (hts _ (List.mem_of_getElem? (i := 1) rfl)) dX6_foresee_39 ?_
      refine t_geti (C := RX5) (T := TX5) (N := 9) hx hb hts hin5 hown hK hP (kr6_0 hq) rfl rfl 8 (by decide) (fk5_8 (kr6_0 hq)) (hts _ (List.mem_of_getElem? (i := 2) rfl)) dX6_foresee_42 ?_
      refine lv_iload_n hx hb dX6_foresee_45 rfl (lv_at hl 2 rfl) ?_
      refine lv_iadd hx hb dX6_foresee_46 ?_
      refine lv_sipush (v := (400 : Int32)) hx hb dX6_foresee_47 (by decide) ?_
      refine lv_icmp_gt (tgt := 57) hx hb dX6_foresee_50 (by decide) (fun c13 => ?_) (fun c13 => ?_)
      · rw [if_pos c13] at hm
        refine lv_iconst (v := (0 : Int32)) hx hb dX6_foresee_57 (by decide) ?_
        refine t_chk (rest := []) ⟨hx, hb, hml, hown, hts⟩ (mX6_allow l hlt D cA base H.size μ (0 : Int32)) (va_cwS 1 hts gX6_foresee_X6_allow rfl rfl rfl (by decide +kernel) ⟨Nat.le_of_ble_eq_true rfl, Nat.le_of_ble_eq_true rfl⟩) hK hN hX hP hS rfl hl.1 (Nat.le_of_ble_eq_true rfl) dX6_foresee_58 ⟨Nat.le_of_ble_eq_true rfl, Nat.le_of_ble_eq_true rfl⟩ (fun c14 H locs hP hS => ?_) (fun c14 H locs ce q9 hP hS hc1 hc2 hc3 => ?_)
        · exact absurd rfl c14
        cases hm
        refine vx_widen (k := 3) (n := 18) (Nat.le_of_ble_eq_true rfl) (Nat.le_of_ble_eq_true rfl) ?_
        exact vx_out (fun x hx => (hxt x hx).elim) hlocks hc1 hc2 hc3 (fun t ht hA => ⟨(), trivial, ⟨Or.inr (Or.inl ⟨rfl, rfl⟩), tPost_of hP ht⟩, hS.F ht⟩) hS.2.2 (Nat.le_refl _) (Nat.le_refl _)
      · rw [if_neg c13] at hm
        refine lv_iconst (v := (1 : Int32)) hx hb dX6_foresee_53 (by decide) ?_
        refine lv_goto (tgt := 58) hx hb dX6_foresee_54 (by decide) ?_
        refine t_chk (rest := []) ⟨hx, hb, hml, hown, hts⟩ (mX6_allow l hlt D cA base H.size μ (1 : Int32)) (va_cwS 1 hts gX6_foresee_X6_allow rfl rfl rfl (by decide +kernel) ⟨Nat.le_of_ble_eq_true rfl, Nat.le_of_ble_eq_true rfl⟩) hK hN hX hP hS rfl hl.1 (Nat.le_of_ble_eq_true rfl) dX6_foresee_58 ⟨Nat.le_of_ble_eq_true rfl, Nat.le_of_ble_eq_true rfl⟩ (fun c15 H locs hP hS => ?_) (fun c15 H locs ce q9 hP hS hc1 hc2 hc3 => ?_)
        rotate_left
        · exact absurd c15 (by decide)
        refine lv_aload_n hx hb dX6_foresee_61 rfl (lv_at hl 0 rfl) ?_
        refine t_getr (C := RX6) (T := TX6) (N := 2) hx hb hts hin6 hown hK hP hq rfl rfl 1 (by decide) (fr6_1 hq) (hts _ (List.mem_of_getElem? (i := 3) rfl)) dX6_foresee_62 ?_
        refine lv_aload_n hx hb dX6_foresee_65 rfl (lv_at hl 0 rfl) ?_
        refine t_getr (C := RX6) (T := TX6) (N := 2) hx hb hts hin6 hown hK hP hq rfl rfl 0 (by decide) (fr6_0 hq) (hts _ (List.mem_of_getElem? (i := 1) rfl)) dX6_foresee_66 ?_
        obtain ⟨μ16, hc17, hm⟩ := bO1_inv hm
        refine t_cVv (As := [.ref (base + (RF q 0))]) (rest := []) (μ' := μ16) ⟨hx, hb, hml, hown, hts⟩ (mX5_copyFrom l D cA base H.size μ (kr6_1 hq) (kr6_0 hq) hc17) (cwV 1 hts gX6_foresee_X5_copyFrom rfl rfl rfl (by decide +kernel) ⟨Nat.le_of_ble_eq_true rfl, Nat.le_of_ble_eq_true rfl⟩) (va_recv hK hP (q0 := RF q 1) rfl (tw_obj (kr6_1 hq) (by decide))) hK hN hP hS hz rfl hl.1 (Nat.le_of_ble_eq_true rfl) dX6_foresee_69 ⟨Nat.le_of_ble_eq_true rfl, Nat.le_of_ble_eq_true rfl⟩ rfl (fun H locs hP hS => ?_)
        refine lv_aload_n hx hb dX6_foresee_72 rfl (lv_at hl 0 rfl) ?_
        refine t_getr (C := RX6) (T := TX6) (N := 2) hx hb hts hin6 hown hK hP hq rfl rfl 1 (by decide) (fr6_1 hq) (hts _ (List.mem_of_getElem? (i := 3) rfl)) dX6_foresee_73 ?_
        refine lv_iload_n hx hb dX6_foresee_76 rfl (lv_at hl 2 rfl) ?_
        obtain ⟨r18, μ19, hc20, hm⟩ := bO2_inv hm
        refine t_cVi (As := [.int a2]) (rest := []) (μ' := μ19) (r := r18) ⟨hx, hb, hml, hown, hts⟩ (mX5_goOn l D cA base H.size μ16 (kr6_1 hq) a2 hc20) (cwV 1 hts gX6_foresee_X5_goOn rfl rfl rfl (by decide +kernel) ⟨Nat.le_of_ble_eq_true rfl, Nat.le_of_ble_eq_true rfl⟩) (va_recv hK hP (q0 := RF q 1) rfl (tw_obj (kr6_1 hq) (by decide))) hK hN hP hS hz rfl hl.1 (Nat.le_of_ble_eq_true rfl) dX6_foresee_77 ⟨Nat.le_of_ble_eq_true rfl, Nat.le_of_ble_eq_true rfl⟩ rfl (fun H locs hP hS => ?_)
        refine lv_pop hx hb dX6_foresee_80 rfl ?_
        refine lv_iload_n hx hb dX6_foresee_81 rfl (lv_at hl 3 rfl) ?_
        by_cases c21 : a3 = 0
        · rw [if_pos c21] at hm
          refine lv_lookup (tgt := 108) hx hb dX6_foresee_82 (by decide) (by rw [c21] <;> rfl) (by decide) ?_
          refine lv_aload_n hx hb dX6_foresee_108 rfl (lv_at hl 0 rfl) ?_
          refine t_getr (C := RX6) (T := TX6) (N := 2) hx hb hts hin6 hown hK hP hq rfl rfl 1 (by decide) (fr6_1 hq) (hts _ (List.mem_of_getElem? (i := 3) rfl)) dX6_foresee_109 ?_
          refine lv_iload_n hx hb dX6_foresee_112 rfl (lv_at hl 1 rfl) ?_
          obtain ⟨r22, μ23, hc24, hm⟩ := bO2_inv hm
          refine t_cVi (As := [.int a1]) (rest := []) (μ' := μ23) (r := r22) ⟨hx, hb, hml, hown, hts⟩ (mX5_cameThroughAt l D cA base H.size μ19 (kr6_1 hq) a1 hc24) (cwV 1 hts gX6_foresee_X5_cameThroughAt rfl rfl rfl (by decide +kernel) ⟨Nat.le_of_ble_eq_true rfl, Nat.le_of_ble_eq_true rfl⟩) (va_recv hK hP (q0 := RF q 1) rfl (tw_obj (kr6_1 hq) (by decide))) hK hN hP hS hz rfl hl.1 (Nat.le_of_ble_eq_true rfl) dX6_foresee_113 ⟨Nat.le_of_ble_eq_true rfl, Nat.le_of_ble_eq_true rfl⟩ rfl (fun H locs hP hS => ?_)
          cases hm
          refine vx_ret ?_
          refine W.widen (k := 3) (n := 18) (Nat.le_of_ble_eq_true rfl) (Nat.le_of_ble_eq_true rfl) ?_
          exact W.iret hx hb hr (fun t ht hW => ⟨⟨_, (), rfl, ⟨rfl, rfl⟩, tPost_of hP ht⟩, hS.F ht⟩) hS.2.2 dX6_foresee_116
        · rw [if_neg c21] at hm
          by_cases c25 : a3 = 1
          · rw [if_pos c25] at hm
            refine lv_lookup (tgt := 117) hx hb dX6_foresee_82 (by decide) (by rw [c25] <;> rfl) (by decide) ?_
            refine lv_aload_n hx hb dX6_foresee_117 rfl (lv_at hl 0 rfl) ?_
            refine t_getr (C := RX6) (T := TX6) (N := 2) hx hb hts hin6 hown hK hP hq rfl rfl 1 (by decide) (fr6_1 hq) (hts _ (List.mem_of_getElem? (i := 3) rfl)) dX6_foresee_118 ?_
            refine t_getr (C := RX5) (T := TX5) (N := 9) hx hb hts hin5 hown hK hP (kr6_1 hq) rfl rfl 3 (by decide) (fr5_3 (kr6_1 hq)) (hts _ (List.mem_of_getElem? (i := 4) rfl)) dX6_foresee_121 ?_
            refine lv_iload_n hx hb dX6_foresee_124 rfl (lv_at hl 1 rfl) ?_
            obtain ⟨hg26, hm⟩ := gd_inv hm
            refine t_aald2 hx hb hK hP (kr5_3 (kr6_1 hq)) hg26 dX6_foresee_125 ?_
            refine t_geti (C := RX0) (T := TX0) (N := 10) hx hb hts hin0 hown hK hP (ka102 (kr5_3 (kr6_1 hq)) hg26) rfl rfl 9 (by decide) (fk0_9 (ka102 (kr5_3 (kr6_1 hq)) hg26)) (hts _ (List.mem_of_getElem? (i := 5) rfl)) dX6_foresee_126 ?_
            cases hm
            refine vx_ret ?_
            refine W.widen (k := 3) (n := 18) (Nat.le_of_ble_eq_true rfl) (Nat.le_of_ble_eq_true rfl) ?_
            exact W.iret hx hb hr (fun t ht hW => ⟨⟨_, (), rfl, ⟨rfl, rfl⟩, tPost_of hP ht⟩, hS.F ht⟩) hS.2.2 dX6_foresee_129
          · rw [if_neg c25] at hm
            refine lv_lookup (off := 48) (tgt := 130) hx hb dX6_foresee_82 (by decide) (by have nc21 : (a3).toInt ≠ 0 := fun h => c21 (Int32.toInt_inj.mp (h.trans (by decide))); have nc25 : (a3).toInt ≠ 1 := fun h => c25 (Int32.toInt_inj.mp (h.trans (by decide))); simp [Op.lookupswitch.offset, nc21, nc25, Ne.symm nc21, Ne.symm nc25]) (by decide) ?_
            refine lv_aload_n hx hb dX6_foresee_130 rfl (lv_at hl 0 rfl) ?_
            refine t_getr (C := RX6) (T := TX6) (N := 2) hx hb hts hin6 hown hK hP hq rfl rfl 1 (by decide) (fr6_1 hq) (hts _ (List.mem_of_getElem? (i := 3) rfl)) dX6_foresee_131 ?_
            refine t_getr (C := RX5) (T := TX5) (N := 9) hx hb hts hin5 hown hK hP (kr6_1 hq) rfl rfl 3 (by decide) (fr5_3 (kr6_1 hq)) (hts _ (List.mem_of_getElem? (i := 4) rfl)) dX6_foresee_134 ?_
            refine lv_iload_n hx hb dX6_foresee_137 rfl (lv_at hl 1 rfl) ?_
            obtain ⟨hg27, hm⟩ := gd_inv hm
            refine t_aald2 hx hb hK hP (kr5_3 (kr6_1 hq)) hg27 dX6_foresee_138 ?_
            refine t_getr (C := RX0) (T := TX0) (N := 10) hx hb hts hin0 hown hK hP (ka102 (kr5_3 (kr6_1 hq)) hg27) rfl rfl 2 (by decide) (fr0_2 (ka102 (kr5_3 (kr6_1 hq)) hg27)) (hts _ (List.mem_of_getElem? (i := 6) rfl)) dX6_foresee_139 ?_
            refine t_geti (C := RX4) (T := TX4) (N := 3) hx hb hts hin4 hown hK hP (kr0_2 (ka102 (kr5_3 (kr6_1 hq)) hg27)) rfl rfl 2 (by decide) (fk4_2 (kr0_2 (ka102 (kr5_3 (kr6_1 hq)) hg27))) (hts _ (List.mem_of_getElem? (i := 7) rfl)) dX6_foresee_142 ?_
            cases hm
            refine vx_ret ?_
            refine W.widen (k := 3) (n := 18) (Nat.le_of_ble_eq_true rfl) (Nat.le_of_ble_eq_true rfl) ?_
            exact W.iret hx hb hr (fun t ht hW => ⟨⟨_, (), rfl, ⟨rfl, rfl⟩, tPost_of hP ht⟩, hS.F ht⟩) hS.2.2 dX6_foresee_145
abbrev rmX6_advise : Room := { frames := 7, cells := 3, slots := 18, locals := 176 }
set_option maxHeartbeats 4000000 in
set_option maxRecDepth 100000 in
theorem lX6_advise_L52 {p : Program} {l : Launch} {e : Env} {s : State} {m : MethodId} {args : Array Value} {below : List Frame} {meth : Method} {c : Code} {Q : State → Prop} {D : va_G} {cA : Nat → ClassId} {base sz0 : Nat} {H0 : Heap} (FX : CallFix p m c cX6_advise 8 s args wsX6_advise RX6) (hK : va_K D vwCl (tys cA) s) (hN : tN s) (hz : sz0 ≤ H0.size) {o0 : Nat} (ho0 : kc o0 = 6) (b1 : Int32) (b2 : Int32) {cells slots : Nat} (hcs : cells ≤ 3 ∧ slots ≤ 18) :
    ∀ (n : Nat) (v3 : Int32) (v4 : Int32) (v5 : Int32) (μ : MM) (H : Heap) (locs : List Loc) (ls : Array Slot) (w3 : Int32) (μ' : MM), X6_advise_L52 o0 b1 b2 n v3 v4 v5 μ = some (w3, μ') → va_P D vwCl (tw base cA μ []) H → va_S (tA base sz0) H0 H locs → lv_has ls 8 [(0, .ref (base + o0)), (1, .int b1), (2, .int b2), (3, .int v3), (4, .int v4), (5, .int v5)] → (∀ (H : Heap) (locs : List Loc) (ls : Array Slot), va_P D vwCl (tw base cA μ' []) H → va_S (tA base sz0) H0 H locs → lv_has ls 8 [(3, .int w3)] → W p l e rmX6_advise s m args below meth c H locs cells slots Q (F0 m 121 ls [])) → W p l e rmX6_advise s m args below meth c H locs cells slots Q (F0 m 52 ls []) := by
  obtain ⟨hx, hb, hml, hown, hts⟩ := FX
  have hin2 : ∀ w ∈ wsX20, w ∈ wsX6_advise := by decide +kernel
  have hin5 : ∀ w ∈ wsX50, w ∈ wsX6_advise := by decide +kernel
  have hin6 : ∀ w ∈ wsX60, w ∈ wsX6_advise := by decide +kernel
  intro n
  induction n with
  | zero =>
    intro v3 v4 v5 μ H locs ls w3 μ' hm
    cases hm
  | succ n ih =>
    intro v3 v4 v5 μ H locs ls w3 μ' hm hP hS hl K
    rw [X6_advise_L52_s] at hm
    refine lv_iload hx hb dX6_advise_52 (lv_at hl 5 rfl) ?_
    refine lv_aload_n hx hb dX6_advise_54 rfl (lv_at hl 0 rfl) ?_
    refine t_getr (C := RX6) (T := TX6) (N := 2) hx hb hts hin6 hown hK hP ho0 rfl rfl 0 (by decide) (fr6_0 ho0) (hts _ (List.mem_of_getElem? (i := 1) rfl)) dX6_advise_55 ?_
    refine t_geti (C := RX5) (T := TX5) (N := 9) hx hb hts hin5 hown hK hP (kr6_0 ho0) rfl rfl 7 (by decide) (fk5_7 (kr6_0 ho0)) (hts _ (List.mem_of_getElem? (i := 3) rfl)) dX6_advise_58 ?_
    refine lv_icmp_ge (tgt := 121) hx hb dX6_advise_61 (by decide) (fun c10 => ?_) (fun c10 => ?_)
    · rw [if_pos c10] at hm
      cases hm
      exact K _ _ _ hP hS (lv_sub hl [3] rfl)
    · rw [if_neg c10] at hm
      refine lv_aload_n hx hb dX6_advise_64 rfl (lv_at hl 0 rfl) ?_
      refine t_getr (C := RX6) (T := TX6) (N := 2) hx hb hts hin6 hown hK hP ho0 rfl rfl 0 (by decide) (fr6_0 ho0) (hts _ (List.mem_of_getElem? (i := 1) rfl)) dX6_advise_65 ?_
      refine t_getr (C := RX5) (T := TX5) (N := 9) hx hb hts hin5 hown hK hP (kr6_0 ho0) rfl rfl 4 (by decide) (fr5_4 (kr6_0 ho0)) (hts _ (List.mem_of_getElem? (i := 4) rfl)) dX6_advise_68 ?_
      refine lv_iload hx hb dX6_advise_71 (lv_at hl 5 rfl) ?_
      obtain ⟨hg11, hm⟩ := gd_inv hm
      refine t_aald3 hx hb hK hP (kr5_4 (kr6_0 ho0)) hg11 dX6_advise_73 ?_
      refine t_geti (C := RX2) (T := TX2) (N := 7) hx hb hts hin2 hown hK hP (ka103 (kr5_4 (kr6_0 ho0)) hg11) rfl rfl 2 (by decide) (fk2_2 (ka103 (kr5_4 (kr6_0 ho0)) hg11)) (hts _ (List.mem_of_getElem? (i := 5) rfl)) dX6_advise_74 ?_
      refine lv_topi (fun x12 ex12 => ?_)
      replace hm := bV_of hm ex12
      refine lv_istore (lv' := [(6, .int x12), (0, .ref (base + o0)), (1, .int b1), (2, .int b2), (3, .int v3), (4, .int v4), (5, .int v5)]) hx hb dX6_advise_77 hl (by decide) rfl (fun ls hl => ?_)
      refine lv_iload hx hb dX6_advise_79 (lv_at hl 0 rfl) ?_
      refine lv_iconst (v := (-1 : Int32)) hx hb dX6_advise_81 (by decide) ?_
      refine lv_icmp_eq (tgt := 91) hx hb dX6_advise_82 (by decide) (fun c13 => ?_) (fun c13 => ?_)
      · rw [if_pos c13] at hm
        refine lv_aload_n hx hb dX6_advise_91 rfl (lv_at hl 1 rfl) ?_
        refine lv_iload_n hx hb dX6_advise_92 rfl (lv_at hl 2 rfl) ?_
        refine lv_iload hx hb dX6_advise_93 (lv_at hl 6 rfl) ?_
        refine lv_iload_n hx hb dX6_advise_95 rfl (lv_at hl 3 rfl) ?_
        obtain ⟨r14, μ15, hc16, hm⟩ := bO2_inv hm
        refine t_cVi (As := [.int b1, .int v5, .int b2]) (rest := []) (μ' := μ15) (r := r14) ⟨hx, hb, hml, hown, hts⟩ (mX6_tryOut l D cA base H.size μ ho0 b1 v5 b2 hc16) (cwV 3 hts gX6_advise_X6_tryOut rfl rfl rfl (by decide +kernel) ⟨Nat.le_of_ble_eq_true rfl, Nat.le_of_ble_eq_true rfl⟩) (va_recv hK hP (q0 := o0) rfl (tw_obj ho0 (by decide))) hK hN hP hS hz rfl hl.1 (Nat.le_of_ble_eq_true rfl) dX6_advise_96 hcs rfl (fun H locs hP hS => ?_)
        refine lv_istore (lv' := [(7, .int r14), (6, .int x12), (0, .ref (base + o0)), (1, .int b1), (2, .int b2), (3, .int v3), (4, .int v4), (5, .int v5)]) hx hb dX6_advise_99 hl (by decide) rfl (fun ls hl => ?_)
        refine lv_iload hx hb dX6_advise_101 (lv_at hl 0 rfl) ?_
        refine lv_iload hx hb dX6_advise_103 (lv_at hl 6 rfl) ?_
        refine lv_icmp_le (tgt := 115) hx hb dX6_advise_105 (by decide) (fun c17 => ?_) (fun c17 => ?_)
        · rw [if_pos c17] at hm
          obtain ⟨x18, ex18⟩ : ∃ z : Int32, z = v5 + (1 : Int32) := ⟨_, rfl⟩
          replace hm := bV_of hm ex18
          refine lv_iinc (v := x18) (lv' := [(5, .int x18), (7, .int r14), (6, .int x12), (0, .ref (base + o0)), (1, .int b1), (2, .int b2), (3, .int v3), (4, .int v4)]) hx hb dX6_advise_115 hl (k := 7) rfl (by rw [ex18]; rfl) (by decide) rfl (fun ls hl => ?_)
          refine lv_goto (tgt := 52) hx hb dX6_advise_118 (by decide) ?_
          exact ih v3 v4 x18 μ15 _ _ _ w3 μ' hm hP hS (lv_sub hl [3, 4, 5, 6, 7, 0] rfl) K
        · rw [if_neg c17] at hm
          refine lv_iload hx hb dX6_advise_108 (lv_at hl 0 rfl) ?_
          refine lv_istore (lv' := [(4, .int r14), (7, .int r14), (6, .int x12), (0, .ref (base + o0)), (1, .int b1), (2, .int b2), (3, .int v3), (5, .int v5)]) hx hb dX6_advise_110 hl (by decide) rfl (fun ls hl => ?_)
          refine lv_iload hx hb dX6_advise_112 (lv_at hl 7 rfl) ?_
          refine lv_istore_n (lv' := [(3, .int v5), (4, .int r14), (7, .int r14), (6, .int x12), (0, .ref (base + o0)), (1, .int b1), (2, .int b2), (5, .int v5)]) hx hb dX6_advise_114 rfl hl (by decide) rfl (fun ls hl => ?_)
          obtain ⟨x19, ex19⟩ : ∃ z : Int32, z = v5 + (1 : Int32) := ⟨_, rfl⟩
          replace hm := bV_of hm ex19
          refine lv_iinc (v := x19) (lv' := [(5, .int x19), (3, .int v5), (4, .int r14), (7, .int r14), (6, .int x12), (0, .ref (base + o0)), (1, .int b1), (2, .int b2)]) hx hb dX6_advise_115 hl (k := 7) rfl (by rw [ex19]; rfl) (by decide) rfl (fun ls hl => ?_)
          refine lv_goto (tgt := 52) hx hb dX6_advise_118 (by decide) ?_
          exact ih v5 r14 x19 μ15 _ _ _ w3 μ' hm hP hS (lv_sub hl [5, 6, 7, 1, 2, 0] rfl) K
      · rw [if_neg c13] at hm
        refine lv_iload hx hb dX6_advise_85 (lv_at hl 0 rfl) ?_
        refine lv_iload_n hx hb dX6_advise_87 rfl (lv_at hl 2 rfl) ?_
        refine lv_icmp_ne (tgt := 115) hx hb dX6_advise_88 (by decide) (fun c20 => ?_) (fun c20 => ?_)
        · rw [if_neg c20] at hm
          obtain ⟨x21, ex21⟩ : ∃ z : Int32, z = v5 + (1 : Int32) := ⟨_, rfl⟩
          replace hm := bV_of hm ex21
          refine lv_iinc (v := x21) (lv' := [(5, .int x21), (6, .int x12), (0, .ref (base + o0)), (1, .int b1), (2, .int b2), (3, .int v3), (4, .int v4)]) hx hb dX6_advise_115 hl (k := 6) rfl (by rw [ex21]; rfl) (by decide) rfl (fun ls hl => ?_)
          refine lv_goto (tgt := 52) hx hb dX6_advise_118 (by decide) ?_
          exact ih v3 v4 x21 μ _ _ _ w3 μ' hm hP hS (lv_sub hl [2, 3, 4, 5, 6, 0] rfl) K
        · rw [if_pos c20] at hm
          refine lv_aload_n hx hb dX6_advise_91 rfl (lv_at hl 1 rfl) ?_
          refine lv_iload_n hx hb dX6_advise_92 rfl (lv_at hl 2 rfl) ?_
          refine lv_iload hx hb dX6_advise_93 (lv_at hl 6 rfl) ?_
          refine lv_iload_n hx hb dX6_advise_95 rfl (lv_at hl 3 rfl) ?_
          obtain ⟨r22, μ23, hc24, hm⟩ := bO2_inv hm
          refine t_cVi (As := [.int b1, .int v5, .int b2]) (rest := []) (μ' := μ23) (r := r22) ⟨hx, hb, hml, hown, hts⟩ (mX6_tryOut l D cA base H.size μ ho0 b1 v5 b2 hc24) (cwV 3 hts gX6_advise_X6_tryOut rfl rfl rfl (by decide +kernel) ⟨Nat.le_of_ble_eq_true rfl, Nat.le_of_ble_eq_true rfl⟩) (va_recv hK hP (q0 := o0) rfl (tw_obj ho0 (by decide))) hK hN hP hS hz rfl hl.1 (Nat.le_of_ble_eq_true rfl) dX6_advise_96 hcs rfl (fun H locs hP hS => ?_)
          refine lv_istore (lv' := [(7, .int r22), (6, .int x12), (0, .ref (base + o0)), (1, .int b1), (2, .int b2), (3, .int v3), (4, .int v4), (5, .int v5)]) hx hb dX6_advise_99 hl (by decide) rfl (fun ls hl => ?_)
          refine lv_iload hx hb dX6_advise_101 (lv_at hl 0 rfl) ?_
          refine lv_iload hx hb dX6_advise_103 (lv_at hl 6 rfl) ?_
          refine lv_icmp_le (tgt := 115) hx hb dX6_advise_105 (by decide) (fun c25 => ?_) (fun c25 => ?_)
          · rw [if_pos c25] at hm
            obtain ⟨x26, ex26⟩ : ∃ z : Int32, z = v5 + (1 : Int32) := ⟨_, rfl⟩
            replace hm := bV_of hm ex26
            refine lv_iinc (v := x26) (lv' := [(5, .int x26), (7, .int r22), (6, .int x12), (0, .ref (base + o0)), (1, .int b1), (2, .int b2), (3, .int v3), (4, .int v4)]) hx hb dX6_advise_115 hl (k := 7) rfl (by rw [ex26]; rfl) (by decide) rfl (fun ls hl => ?_)
            refine lv_goto (tgt := 52) hx hb dX6_advise_118 (by decide) ?_
            exact ih v3 v4 x26 μ23 _ _ _ w3 μ' hm hP hS (lv_sub hl [3, 4, 5, 6, 7, 0] rfl) K
          · rw [if_neg c25] at hm
            refine lv_iload hx hb dX6_advise_108 (lv_at hl 0 rfl) ?_
            refine lv_istore (lv' := [(4, .int r22), (7, .int r22), (6, .int x12), (0, .ref (base + o0)), (1, .int b1), (2, .int b2), (3, .int v3), (5, .int v5)]) hx hb dX6_advise_110 hl (by decide) rfl (fun ls hl => ?_)
            refine lv_iload hx hb dX6_advise_112 (lv_at hl 7 rfl) ?_
            refine lv_istore_n (lv' := [(3, .int v5), (4, .int r22), (7, .int r22), (6, .int x12), (0, .ref (base + o0)), (1, .int b1), (2, .int b2), (5, .int v5)]) hx hb dX6_advise_114 rfl hl (by decide) rfl (fun ls hl => ?_)
            obtain ⟨x27, ex27⟩ : ∃ z : Int32, z = v5 + (1 : Int32) := ⟨_, rfl⟩
            replace hm := bV_of hm ex27
            refine lv_iinc (v := x27) (lv' := [(5, .int x27), (3, .int v5), (4, .int r22), (7, .int r22), (6, .int x12), (0, .ref (base + o0)), (1, .int b1), (2, .int b2)]) hx hb dX6_advise_115 hl (k := 7) rfl (by rw [ex27]; rfl) (by decide) rfl (fun ls hl => ?_)
            refine lv_goto (tgt := 52) hx hb dX6_advise_118 (by decide) ?_
            exact ih v5 r22 x27 μ23 _ _ _ w3 μ' hm hP hS (lv_sub hl [5, 6, 7, 1, 2, 0] rfl) K
set_option maxHeartbeats 4000000 in
set_option maxRecDepth 100000 in
theorem mX6_advise (l : Launch) (hlt : l.stackTraces = false) (D : va_G) (cA : Nat → ClassId) (base sz : Nat) (μ : MM) {q : Nat} (hq : kc q = 6) (a1 : Int32) (a2 : Int32) {kd : Nat} {r : Int32} {μ' : MM} (hm : X6_advise q a1 a2 μ = some (kd, r, μ')) : vx_Met l yX6_advise wsX6_advise rmX6_advise (va_Pc [.ref (base + q), .int a1, .int a2] (tPreX D cA base sz μ)) (va_Qi (fun (x : Int32) (_ : Unit) => kd = 0 ∧ x = r) (fun _ => tPost D cA base μ') (tA base sz)) (vx_X (fun _ : Unit => True) (fun E _ t => exn kd E ∧ tPost D cA base μ' t) (tA base sz)) 3 18 (tA base sz) := by
  refine vx_ofW (cc := cX6_advise) (maxL := 8) (ret := (some .int)) (by decide) rfl ?_
  intro p e s m args below meth c s₁ B hml hxt hv
  obtain ⟨rfl, ⟨hsz, hP, hK, hN⟩, hX⟩ := hv
  have hx := B.exec
  have hb := B.bytes
  have hr := B.returns
  have hts := atoms_spec (ws := wsX6_advise) B.pre
  have hown : s.vm.findClass RX6 = some m.cls := findClass_of_methodNamed B.named
  have hlocks := B.notSynchronized
  have hin5 : ∀ w ∈ wsX50, w ∈ wsX6_advise := by decide +kernel
  have hin6 : ∀ w ∈ wsX60, w ∈ wsX6_advise := by decide +kernel
  subst hsz
  have hS : va_S (tA base s.heap.size) s.heap s.heap [] := va_S.rf
  have hz : s.heap.size ≤ s.heap.size := Nat.le_refl _
  have hl := lv_entry ([.ref (base + q), .int a1, .int a2]) (n := 8) (Nat.le_of_ble_eq_true rfl)
  rw [lg_entry_eq]
  generalize (lg_sl ([.ref (base + q), .int a1, .int a2]) ++ List.replicate (8 - (lg_sl ([.ref (base + q), .int a1, .int a2])).length) Slot.unset).toArray = ls at hl ⊢
  have hl : lv_has ls 8 [(0, .ref (base + q)), (1, .int a1), (2, .int a2)] := hl
  unfold X6_advise at hm
  refine lv_aload_n hx hb dX6_advise_0 rfl (lv_at hl 0 rfl) ?_
  refine t_getr (C := RX6) (T := TX6) (N := 2) hx hb hts hin6 hown hK hP hq rfl rfl 0 (by decide) (fr6_0 hq) (hts _ (List.mem_of_getElem? (i := 1) rfl)) dX6_advise_1 ?_
  refine lv_iload_n hx hb dX6_advise_4 rfl (lv_at hl 1 rfl) ?_
  refine t_cVi (As := [.int a1]) (rest := []) (μ' := μ) (r := (X5_hasBooth (RF q 0) a1 μ)) ⟨hx, hb, hml, hown, hts⟩ (mX5_hasBooth l D cA base s.heap.size μ (kr6_0 hq) a1 rfl) (cwV 1 hts gX6_advise_X5_hasBooth rfl rfl rfl (by decide +kernel) ⟨Nat.le_of_ble_eq_true rfl, Nat.le_of_ble_eq_true rfl⟩) (va_recv hK hP (q0 := RF q 0) rfl (tw_obj (kr6_0 hq) (by decide))) hK hN hP hS hz rfl hl.1 (Nat.le_of_ble_eq_true rfl) dX6_advise_5 ⟨Nat.le_of_ble_eq_true rfl, Nat.le_of_ble_eq_true rfl⟩ rfl (fun H locs hP hS => ?_)
  refine t_chk (rest := []) ⟨hx, hb, hml, hown, hts⟩ (mX6_find l hlt D cA base H.size μ (X5_hasBooth (RF q 0) a1 μ)) (va_cwS 1 hts gX6_advise_X6_find rfl rfl rfl (by decide +kernel) ⟨Nat.le_of_ble_eq_true rfl, Nat.le_of_ble_eq_true rfl⟩) hK hN hX hP hS rfl hl.1 (Nat.le_of_ble_eq_true rfl) dX6_advise_8 ⟨Nat.le_of_ble_eq_true rfl, Nat.le_of_ble_eq_true rfl⟩ (fun c3 H locs hP hS => ?_) (fun c3 H locs ce q9 hP hS hc1 hc2 hc3 => ?_)
  rotate_left
  · rw [if_pos c3] at hm
    cases hm
    refine vx_widen (k := 3) (n := 18) (Nat.le_of_ble_eq_true rfl) (Nat.le_of_ble_eq_true rfl) ?_
    exact vx_out (fun x hx => (hxt x hx).elim) hlocks hc1 hc2 hc3 (fun t ht hA => ⟨(), trivial, ⟨Or.inr (Or.inr ⟨rfl, rfl⟩), tPost_of hP ht⟩, hS.F ht⟩) hS.2.2 (Nat.le_refl _) (Nat.le_refl _)
  rw [if_neg c3] at hm
  refine lv_iload_n hx hb dX6_advise_11 rfl (lv_at hl 2 rfl) ?_
  refine lv_iconst (v := (1 : Int32)) hx hb dX6_advise_12 (by decide) ?_
  refine lv_bipush (v := (40 : Int32)) hx hb dX6_advise_13 (by decide) ?_
  refine t_cSi (As := [.int a2, .int (1 : Int32), .int (40 : Int32)]) (rest := []) (μ' := μ) (r := (X6_isWithin a2 (1 : Int32) (40 : Int32))) ⟨hx, hb, hml, hown, hts⟩ (mX6_isWithin l D cA base H.size μ a2 (1 : Int32) (40 : Int32) rfl) (va_cwS 3 hts gX6_advise_X6_isWithin rfl rfl rfl (by decide +kernel) ⟨Nat.le_of_ble_eq_true rfl, Nat.le_of_ble_eq_true rfl⟩) hK hN hP hS hz rfl hl.1 (Nat.le_of_ble_eq_true rfl) dX6_advise_15 ⟨Nat.le_of_ble_eq_true rfl, Nat.le_of_ble_eq_true rfl⟩ rfl (fun H locs hP hS => ?_)
  refine t_chk (rest := []) ⟨hx, hb, hml, hown, hts⟩ (mX6_demand l hlt D cA base H.size μ (X6_isWithin a2 (1 : Int32) (40 : Int32))) (va_cwS 1 hts gX6_advise_X6_demand rfl rfl rfl (by decide +kernel) ⟨Nat.le_of_ble_eq_true rfl, Nat.le_of_ble_eq_true rfl⟩) hK hN hX hP hS rfl hl.1 (Nat.le_of_ble_eq_true rfl) dX6_advise_18 ⟨Nat.le_of_ble_eq_true rfl, Nat.le_of_ble_eq_true rfl⟩ (fun c6 H locs hP hS => ?_) (fun c6 H locs ce q9 hP hS hc1 hc2 hc3 => ?_)
  rotate_left
  · rw [if_pos c6] at hm
    cases hm
    refine vx_widen (k := 3) (n := 18) (Nat.le_of_ble_eq_true rfl) (Nat.le_of_ble_eq_true rfl) ?_
    exact vx_out (fun x hx => (hxt x hx).elim) hlocks hc1 hc2 hc3 (fun t ht hA => ⟨(), trivial, ⟨Or.inl ⟨rfl, rfl⟩, tPost_of hP ht⟩, hS.F ht⟩) hS.2.2 (Nat.le_refl _) (Nat.le_refl _)
  rw [if_neg c6] at hm
  refine lv_aload_n hx hb dX6_advise_21 rfl (lv_at hl 0 rfl) ?_
  refine t_getr (C := RX6) (T := TX6) (N := 2) hx hb hts hin6 hown hK hP hq rfl rfl 0 (by decide) (fr6_0 hq) (hts _ (List.mem_of_getElem? (i := 1) rfl)) dX6_advise_22 ?_
  refine t_geti (C := RX5) (T := TX5) (N := 9) hx hb hts hin5 hown hK hP (kr6_0 hq) rfl rfl 8 (by decide) (fk5_8 (kr6_0 hq)) (hts _ (List.mem_of_getElem? (i := 2) rfl)) dX6_advise_25 ?_
  refine lv_iload_n hx hb dX6_advise_28 rfl (lv_at hl 2 rfl) ?_
  refine lv_iadd hx hb dX6_advise_29 ?_
  refine lv_sipush (v := (400 : Int32)) hx hb dX6_advise_30 (by decide) ?_
  refine lv_icmp_gt (tgt := 40) hx hb dX6_advise_33 (by decide) (fun c7 => ?_) (fun c7 => ?_)
  · rw [if_pos c7] at hm
    refine lv_iconst (v := (0 : Int32)) hx hb dX6_advise_40 (by decide) ?_
    refine t_chk (rest := []) ⟨hx, hb, hml, hown, hts⟩ (mX6_allow l hlt D cA base H.size μ (0 : Int32)) (va_cwS 1 hts gX6_advise_X6_allow rfl rfl rfl (by decide +kernel) ⟨Nat.le_of_ble_eq_true rfl, Nat.le_of_ble_eq_true rfl⟩) hK hN hX hP hS rfl hl.1 (Nat.le_of_ble_eq_true rfl) dX6_advise_41 ⟨Nat.le_of_ble_eq_true rfl, Nat.le_of_ble_eq_true rfl⟩ (fun c8 H locs hP hS => ?_) (fun c8 H locs ce q9 hP hS hc1 hc2 hc3 => ?_)
    · exact absurd rfl c8
    cases hm
    refine vx_widen (k := 3) (n := 18) (Nat.le_of_ble_eq_true rfl) (Nat.le_of_ble_eq_true rfl) ?_
    exact vx_out (fun x hx => (hxt x hx).elim) hlocks hc1 hc2 hc3 (fun t ht hA => ⟨(), trivial, ⟨Or.inr (Or.inl ⟨rfl, rfl⟩), tPost_of hP ht⟩, hS.F ht⟩) hS.2.2 (Nat.le_refl _) (Nat.le_refl _)
  · rw [if_neg c7] at hm
    refine lv_iconst (v := (1 : Int32)) hx hb dX6_advise_36 (by decide) ?_
    refine lv_goto (tgt := 41) hx hb dX6_advise_37 (by decide) ?_
    refine t_chk (rest := []) ⟨hx, hb, hml, hown, hts⟩ (mX6_allow l hlt D cA base H.size μ (1 : Int32)) (va_cwS 1 hts gX6_advise_X6_allow rfl rfl rfl (by decide +kernel) ⟨Nat.le_of_ble_eq_true rfl, Nat.le_of_ble_eq_true rfl⟩) hK hN hX hP hS rfl hl.1 (Nat.le_of_ble_eq_true rfl) dX6_advise_41 ⟨Nat.le_of_ble_eq_true rfl, Nat.le_of_ble_eq_true rfl⟩ (fun c9 H locs hP hS => ?_) (fun c9 H locs ce q9 hP hS hc1 hc2 hc3 => ?_)
    rotate_left
    · exact absurd c9 (by decide)
    refine lv_iconst (v := (-1 : Int32)) hx hb dX6_advise_44 (by decide) ?_
    refine lv_istore_n (lv' := [(3, .int (-1 : Int32)), (0, .ref (base + q)), (1, .int a1), (2, .int a2)]) hx hb dX6_advise_45 rfl hl (by decide) rfl (fun ls hl => ?_)
    refine lv_iconst (v := (-1 : Int32)) hx hb dX6_advise_46 (by decide) ?_
    refine lv_istore (lv' := [(4, .int (-1 : Int32)), (3, .int (-1 : Int32)), (0, .ref (base + q)), (1, .int a1), (2, .int a2)]) hx hb dX6_advise_47 hl (by decide) rfl (fun ls hl => ?_)
    refine lv_iconst (v := (0 : Int32)) hx hb dX6_advise_49 (by decide) ?_
    refine lv_istore (lv' := [(5, .int (0 : Int32)), (4, .int (-1 : Int32)), (3, .int (-1 : Int32)), (0, .ref (base + q)), (1, .int a1), (2, .int a2)]) hx hb dX6_advise_50 hl (by decide) rfl (fun ls hl => ?_)
    obtain ⟨x28, μ29, hc30, hm⟩ := bO2_inv hm
    refine lX6_advise_L52 ⟨hx, hb, hml, hown, hts⟩ hK hN hz hq a1 a2 ⟨Nat.le_of_ble_eq_true rfl, Nat.le_of_ble_eq_true rfl⟩ 1000 (-1 : Int32) (-1 : Int32) (0 : Int32) μ _ _ _ x28 μ29 hc30 hP hS (lv_sub hl [3, 4, 5, 2, 1, 0] rfl) ?_
    intro H locs ls hP hS hl
    refine lv_iload_n hx hb dX6_advise_121 rfl (lv_at hl 0 rfl) ?_
    cases hm
    refine vx_ret ?_
    refine W.widen (k := 3) (n := 18) (Nat.le_of_ble_eq_true rfl) (Nat.le_of_ble_eq_true rfl) ?_
    exact W.iret hx hb hr (fun t ht hW => ⟨⟨_, (), rfl, ⟨rfl, rfl⟩, tPost_of hP ht⟩, hS.F ht⟩) hS.2.2 dX6_advise_122
