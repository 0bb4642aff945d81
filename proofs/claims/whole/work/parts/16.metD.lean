def X6_through_L29 (o0 : Nat) (b1 : Int32) : Nat → Int32 → Int32 → MM → Option (Int32 × MM)
  | 0, _, _, _ => none
  | n + 1, v2, v3, μ =>
    if (rI μ (RF o0 0) 6) ≤ v3 then
    some (v2, μ)
    else
    bO2 (X5_cameThroughAt (RF o0 0) v3 μ) (fun r4 μ5 =>
    bV (v2 + r4) (fun x7 =>
    bV (v3 + (1 : Int32)) (fun x8 =>
    X6_through_L29 o0 b1 n x7 x8 μ5)))
theorem X6_through_L29_s (o0 : Nat) (b1 : Int32) (n : Nat) (v2 : Int32) (v3 : Int32) (μ : MM) : X6_through_L29 o0 b1 (n + 1) v2 v3 μ =
    if (rI μ (RF o0 0) 6) ≤ v3 then
    some (v2, μ)
    else
    bO2 (X5_cameThroughAt (RF o0 0) v3 μ) (fun r4 μ5 =>
    bV (v2 + r4) (fun x7 =>
    bV (v3 + (1 : Int32)) (fun x8 =>
    X6_through_L29 o0 b1 n x7 x8 μ5))) := rfl
def X6_through (q : Nat) (μ : MM) : Option (UInt64 × MM) :=
bV ((rI μ (RF q 0) 6) * (rI μ (RF (RF q 0) 2) 2)) (fun x1 =>
if x1 = 0 then
some (FP.dconst0, μ)
else
bO2 (X6_through_L29 q x1 1000 (0 : Int32) (0 : Int32) μ) (fun x9 μ10 =>
some (FP.ddiv (FP.i2d x9) (FP.i2d x1), μ10)))
abbrev rmX6_through : Room := { frames := 5, cells := 0, slots := 0, locals := 117 }
set_option maxHeartbeats 4000000 in
set_option maxRecDepth 100000 in
theorem lX6_through_L29 {p : Program} {l : Launch} {e : Env} {s : State} {m : MethodId} {args : Array Value} {below : List Frame} {meth : Method} {c : Code} {Q : State → Prop} {D : va_G} {cA : Nat → ClassId} {base sz0 : Nat} {H0 : Heap} (FX : CallFix p m c cX6_through 4 s args wsX6_through RX6) (hK : va_K D vwCl (tys cA) s) (hN : tN s) (hz : sz0 ≤ H0.size) {o0 : Nat} (ho0 : kc o0 = 6) (b1 : Int32) {cells slots : Nat} (hcs : cells ≤ 0 ∧ slots ≤ 0) :
    ∀ (n : Nat) (v2 : Int32) (v3 : Int32) (μ : MM) (H : Heap) (locs : List Loc) (ls : Array Slot) (w2 : Int32) (μ' : MM), X6_through_L29 o0 b1 n v2 v3 μ = some (w2, μ') → va_P D vwCl (tw base cA μ []) H → va_S (tA base sz0) H0 H locs → lv_has ls 4 [(0, .ref (base + o0)), (1, .int b1), (2, .int v2), (3, .int v3)] → (∀ (H : Heap) (locs : List Loc) (ls : Array Slot), va_P D vwCl (tw base cA μ' []) H → va_S (tA base sz0) H0 H locs → lv_has ls 4 [(1, .int b1), (2, .int w2)] → W p l e rmX6_through s m args below meth c H locs cells slots Q (F0 m 57 ls [])) → W p l e rmX6_through s m args below meth c H locs cells slots Q (F0 m 29 ls []) := by
  obtain ⟨hx, hb, hml, hown, hts⟩ := FX
  have hin5 : ∀ w ∈ wsX50, w ∈ wsX6_through := by decide +kernel
  have hin6 : ∀ w ∈ wsX60, w ∈ wsX6_through := by decide +kernel
  intro n
  induction n with
  | zero =>
    intro v2 v3 μ H locs ls w2 μ' hm
    cases hm
  | succ n ih =>
    intro v2 v3 μ H locs ls w2 μ' hm hP hS hl K
    rw [X6_through_L29_s] at hm
    refine lv_iload_n hx hb dX6_through_29 rfl (lv_at hl 3 rfl) ?_
    refine lv_aload_n hx hb dX6_through_30 rfl (lv_at hl 0 rfl) ?_
    refine t_getr (C := RX6) (T := TX6) (N := 2) hx hb hts hin6 hown hK hP ho0 rfl rfl 0 (by decide) (fr6_0 ho0) (hts _ (List.mem_of_getElem? (i := 1) rfl)) dX6_through_31 ?_
    refine t_geti (C := RX5) (T := TX5) (N := 9) hx hb hts hin5 hown hK hP (kr6_0 ho0) rfl rfl 6 (by decide) (fk5_6 (kr6_0 ho0)) (hts _ (List.mem_of_getElem? (i := 2) rfl)) dX6_through_34 ?_
    refine lv_icmp_ge (tgt := 57) hx hb dX6_through_37 (by decide) (fun c3 => ?_) (fun c3 => ?_)
    · rw [if_pos c3] at hm
      cases hm
      exact K _ _ _ hP hS (lv_sub hl [1, 2] rfl)
    · rw [if_neg c3] at hm
      refine lv_iload_n hx hb dX6_through_40 rfl (lv_at hl 2 rfl) ?_
      refine lv_aload_n hx hb dX6_through_41 rfl (lv_at hl 0 rfl) ?_
      refine t_getr (C := RX6) (T := TX6) (N := 2) hx hb hts hin6 hown hK hP ho0 rfl rfl 0 (by decide) (fr6_0 ho0) (hts _ (List.mem_of_getElem? (i := 1) rfl)) dX6_through_42 ?_
      refine lv_iload_n hx hb dX6_through_45 rfl (lv_at hl 3 rfl) ?_
      obtain ⟨r4, μ5, hc6, hm⟩ := bO2_inv hm
      refine t_cVi (As := [.int v3]) (rest := [.int v2]) (μ' := μ5) (r := r4) ⟨hx, hb, hml, hown, hts⟩ (mX5_cameThroughAt l D cA base H.size μ (kr6_0 ho0) v3 hc6) (cwV 1 hts gX6_through_X5_cameThroughAt rfl rfl rfl (by decide +kernel) ⟨Nat.le_of_ble_eq_true rfl, Nat.le_of_ble_eq_true rfl⟩) (va_recv hK hP (q0 := RF o0 0) rfl (tw_obj (kr6_0 ho0) (by decide))) hK hN hP hS hz rfl hl.1 (Nat.le_of_ble_eq_true rfl) dX6_through_46 hcs rfl (fun H locs hP hS => ?_)
      refine lv_iadd hx hb dX6_through_49 ?_
      refine lv_topi (fun x7 ex7 => ?_)
      replace hm := bV_of hm ex7
      refine lv_istore_n (lv' := [(2, .int x7), (0, .ref (base + o0)), (1, .int b1), (3, .int v3)]) hx hb dX6_through_50 rfl hl (by decide) rfl (fun ls hl => ?_)
      obtain ⟨x8, ex8⟩ : ∃ z : Int32, z = v3 + (1 : Int32) := ⟨_, rfl⟩
      replace hm := bV_of hm ex8
      refine lv_iinc (v := x8) (lv' := [(3, .int x8), (2, .int x7), (0, .ref (base + o0)), (1, .int b1)]) hx hb dX6_through_51 hl (k := 3) rfl (by rw [ex8]; rfl) (by decide) rfl (fun ls hl => ?_)
      refine lv_goto (tgt := 29) hx hb dX6_through_54 (by decide) ?_
      exact ih x7 x8 μ5 _ _ _ w2 μ' hm hP hS (lv_sub hl [2, 3, 1, 0] rfl) K
set_option maxHeartbeats 4000000 in
set_option maxRecDepth 100000 in
theorem mX6_through (l : Launch) (D : va_G) (cA : Nat → ClassId) (base sz : Nat) (μ : MM) {q : Nat} (hq : kc q = 6) {r : UInt64} {μ' : MM} (hm : X6_through q μ = some (r, μ')) : MetD lw_cs l yX6_through wsX6_through rmX6_through (va_Pc [.ref (base + q)] (tPre D cA base sz μ)) (va_Qd (fun (x : UInt64) (_ : Unit) => alike64 x r = true) (fun _ => tPost D cA base μ') (tA base sz)) 0 0 (tA base sz) := by
  refine MetD.ofW (cc := cX6_through) (maxL := 4) (ret := (some .double)) (by decide) rfl ?_
  intro p e s m args below meth c s₁ B hml hv hd0
  obtain ⟨rfl, hsz, hP, hK, hN⟩ := hv
  have hx := B.exec
  have hb := B.bytes
  have hr := B.returns
  have hts := atoms_spec (ws := wsX6_through) B.pre
  have hown : s.vm.findClass RX6 = some m.cls := findClass_of_methodNamed B.named
  have hlocks := B.notSynchronized
  have hin4 : ∀ w ∈ wsX40, w ∈ wsX6_through := by decide +kernel
  have hin5 : ∀ w ∈ wsX50, w ∈ wsX6_through := by decide +kernel
  have hin6 : ∀ w ∈ wsX60, w ∈ wsX6_through := by decide +kernel
  subst hsz
  have hS : va_S (tA base s.heap.size) s.heap s.heap [] := va_S.rf
  have hz : s.heap.size ≤ s.heap.size := Nat.le_refl _
  have hl := lv_entry ([.ref (base + q)]) (n := 4) (Nat.le_of_ble_eq_true rfl)
  rw [lg_entry_eq]
  generalize (lg_sl ([.ref (base + q)]) ++ List.replicate (4 - (lg_sl ([.ref (base + q)])).length) Slot.unset).toArray = ls at hl ⊢
  have hl : lv_has ls 4 [(0, .ref (base + q))] := hl
  unfold X6_through at hm
  show W p l e (headSpec wsX6_through rmX6_through).room s m _ below meth c s.heap [] 0 0 _ _
  refine lv_aload_n hx hb dX6_through_0 rfl (lv_at hl 0 rfl) ?_
  refine t_getr (C := RX6) (T := TX6) (N := 2) hx hb hts hin6 hown hK hP hq rfl rfl 0 (by decide) (fr6_0 hq) (hts _ (List.mem_of_getElem? (i := 1) rfl)) dX6_through_1 ?_
  refine t_geti (C := RX5) (T := TX5) (N := 9) hx hb hts hin5 hown hK hP (kr6_0 hq) rfl rfl 6 (by decide) (fk5_6 (kr6_0 hq)) (hts _ (List.mem_of_getElem? (i := 2) rfl)) dX6_through_4 ?_
  refine lv_aload_n hx hb dX6_through_7 rfl (lv_at hl 0 rfl) ?_
  refine t_getr (C := RX6) (T := TX6) (N := 2) hx hb hts hin6 hown hK hP hq rfl rfl 0 (by decide) (fr6_0 hq) (hts _ (List.mem_of_getElem? (i := 1) rfl)) dX6_through_8 ?_
  refine t_getr (C := RX5) (T := TX5) (N := 9) hx hb hts hin5 hown hK hP (kr6_0 hq) rfl rfl 2 (by decide) (fr5_2 (kr6_0 hq)) (hts _ (List.mem_of_getElem? (i := 3) rfl)) dX6_through_11 ?_
  refine t_geti (C := RX4) (T := TX4) (N := 3) hx hb hts hin4 hown hK hP (kr5_2 (kr6_0 hq)) rfl rfl 2 (by decide) (fk4_2 (kr5_2 (kr6_0 hq))) (hts _ (List.mem_of_getElem? (i := 4) rfl)) dX6_through_14 ?_
  refine lv_imul hx hb dX6_through_17 ?_
  refine lv_topi (fun x1 ex1 => ?_)
  replace hm := bV_of hm ex1
  refine lv_istore_n (lv' := [(1, .int x1), (0, .ref (base + q))]) hx hb dX6_through_18 rfl hl (by decide) rfl (fun ls hl => ?_)
  refine lv_iload_n hx hb dX6_through_19 rfl (lv_at hl 0 rfl) ?_
  refine lv_if_ne (tgt := 25) hx hb dX6_through_20 (by decide) (fun c2 => ?_) (fun c2 => ?_)
  · rw [if_neg c2] at hm
    refine lv_iconst (v := (0 : Int32)) hx hb dX6_through_25 (by decide) ?_
    refine lv_istore_n (lv' := [(2, .int (0 : Int32)), (1, .int x1), (0, .ref (base + q))]) hx hb dX6_through_26 rfl hl (by decide) rfl (fun ls hl => ?_)
    refine lv_iconst (v := (0 : Int32)) hx hb dX6_through_27 (by decide) ?_
    refine lv_istore_n (lv' := [(3, .int (0 : Int32)), (2, .int (0 : Int32)), (1, .int x1), (0, .ref (base + q))]) hx hb dX6_through_28 rfl hl (by decide) rfl (fun ls hl => ?_)
    obtain ⟨x9, μ10, hc11, hm⟩ := bO2_inv hm
    refine lX6_through_L29 ⟨hx, hb, hml, hown, hts⟩ hK hN hz hq x1 ⟨Nat.le_of_ble_eq_true rfl, Nat.le_of_ble_eq_true rfl⟩ 1000 (0 : Int32) (0 : Int32) μ _ _ _ x9 μ10 hc11 hP hS (lv_sub hl [3, 2, 1, 0] rfl) ?_
    intro H locs ls hP hS hl
    refine lv_iload_n hx hb dX6_through_57 rfl (lv_at hl 1 rfl) ?_
    refine lv_i2d hx hb dX6_through_58 ?_
    refine lv_iload_n hx hb dX6_through_59 rfl (lv_at hl 0 rfl) ?_
    refine lv_i2d hx hb dX6_through_60 ?_
    refine W.base ?_
    refine lv_ddiv_any hd0 lw_bits hx hb dX6_through_61 (fun rd d1 hal hd1 => ?_)
    cases hm
    refine W.endD hd1 ?_
    exact W.dret hx hb hr (fun t ht hW => ⟨⟨_, (), rfl, hal, tPost_of hP ht⟩, hS.F ht⟩) hS.2.2 dX6_through_62
  · rw [if_pos c2] at hm
    refine lv_dconst0 hx hb dX6_through_23 ?_
    cases hm
    refine W.base ?_
    refine W.endD hd0 ?_
    exact W.dret hx hb hr (fun t ht hW => ⟨⟨_, (), rfl, alike64_refl _, tPost_of hP ht⟩, hS.F ht⟩) hS.2.2 dX6_through_24
def X8_through_L9 (o0 : Nat) : Nat → Int64 → Int32 → MM → Option (Int64 × MM)
  | 0, _, _, _ => none
  | n + 1, v1, v3, μ =>
    if (rI μ (RF o0 1) 11) ≤ v3 then
    some (v1, μ)
    else
    bO2 (X7_through (RF o0 1) v3 μ) (fun r4 μ5 =>
    bV (v1 + r4.toInt64) (fun x7 =>
    bV (v3 + (1 : Int32)) (fun x8 =>
    X8_through_L9 o0 n x7 x8 μ5)))
theorem X8_through_L9_s (o0 : Nat) (n : Nat) (v1 : Int64) (v3 : Int32) (μ : MM) : X8_through_L9 o0 (n + 1) v1 v3 μ =
    if (rI μ (RF o0 1) 11) ≤ v3 then
    some (v1, μ)
    else
    bO2 (X7_through (RF o0 1) v3 μ) (fun r4 μ5 =>
    bV (v1 + r4.toInt64) (fun x7 =>
    bV (v3 + (1 : Int32)) (fun x8 =>
    X8_through_L9 o0 n x7 x8 μ5))) := rfl
def X8_through (q : Nat) (μ : MM) : Option (UInt64 × MM) :=
bV (wI μ q 0 (0 : Int32)) (fun μ1 =>
bV ((0 : Int64)) (fun x2 =>
bO2 (X8_through_L9 q 1000 x2 (0 : Int32) μ1) (fun x9 μ10 =>
if (rI μ10 (RF q 1) 11) = 0 then
some (FP.dconst0, μ10)
else
if inb (0 : Int32) (al (RF (RF q 1) 22)) then
if (rI μ10 (RF (RF q 1) 22) (0 : Int32).toNatClampNeg) = 0 then
some (FP.dconst0, μ10)
else
if inb (0 : Int32) (al (RF (RF q 1) 22)) then
some (FP.ddiv (FP.l2d x9) (FP.i2d ((rI μ10 (RF q 1) 11) * (rI μ10 (RF (RF q 1) 22) (0 : Int32).toNatClampNeg))), μ10)
else none
else none)))
abbrev rmX8_through : Room := { frames := 2, cells := 0, slots := 0, locals := 47 }
set_option maxHeartbeats 4000000 in
set_option maxRecDepth 100000 in
theorem lX8_through_L9 {p : Program} {l : Launch} {e : Env} {s : State} {m : MethodId} {args : Array Value} {below : List Frame} {meth : Method} {c : Code} {Q : State → Prop} {D : va_G} {cA : Nat → ClassId} {base sz0 : Nat} {H0 : Heap} (FX : CallFix p m c cX8_through 4 s args wsX8_through RX8) (hK : va_K D vwCl (tys cA) s) (hN : tN s) (hz : sz0 ≤ H0.size) {o0 : Nat} (ho0 : kc o0 = 8) {cells slots : Nat} (hcs : cells ≤ 0 ∧ slots ≤ 0) :
    ∀ (n : Nat) (v1 : Int64) (v3 : Int32) (μ : MM) (H : Heap) (locs : List Loc) (ls : Array Slot) (w1 : Int64) (μ' : MM), X8_through_L9 o0 n v1 v3 μ = some (w1, μ') → va_P D vwCl (tw base cA μ []) H → va_S (tA base sz0) H0 H locs → lv_has ls 4 [(0, .ref (base + o0)), (1, .long v1), (3, .int v3)] → (∀ (H : Heap) (locs : List Loc) (ls : Array Slot), va_P D vwCl (tw base cA μ' []) H → va_S (tA base sz0) H0 H locs → lv_has ls 4 [(0, .ref (base + o0)), (1, .long w1)] → W p l e rmX8_through s m args below meth c H locs cells slots Q (F0 m 38 ls [])) → W p l e rmX8_through s m args below meth c H locs cells slots Q (F0 m 9 ls []) := by
  obtain ⟨hx, hb, hml, hown, hts⟩ := FX
  have hin7 : ∀ w ∈ wsX70, w ∈ wsX8_through := by decide +kernel
  have hin8 : ∀ w ∈ wsX80, w ∈ wsX8_through := by decide +kernel
  intro n
  induction n with
  | zero =>
    intro v1 v3 μ H locs ls w1 μ' hm
    cases hm
  | succ n ih =>
    intro v1 v3 μ H locs ls w1 μ' hm hP hS hl K
    rw [X8_through_L9_s] at hm
    refine lv_iload_n hx hb dX8_through_9 rfl (lv_at hl 2 rfl) ?_
    refine lv_aload_n hx hb dX8_through_10 rfl (lv_at hl 0 rfl) ?_
    refine t_getr (C := RX8) (T := TX8) (N := 3) hx hb hts hin8 hown hK hP ho0 rfl rfl 1 (by decide) (fr8_1 ho0) (hts _ (List.mem_of_getElem? (i := 2) rfl)) dX8_through_11 ?_
    refine t_getiN (C := RX7) (T := TX7) (N := 26) hx hb hts hin7 hown hK hP (kr8_1 ho0) rfl rfl 11 (by decide) (fk7_11 (kr8_1 ho0)) hN (i := 0) rfl dX8_through_14 ?_
    refine lv_icmp_ge (tgt := 38) hx hb dX8_through_17 (by decide) (fun c3 => ?_) (fun c3 => ?_)
    · rw [if_pos c3] at hm
      cases hm
      exact K _ _ _ hP hS (lv_sub hl [0, 1] rfl)
    · rw [if_neg c3] at hm
      refine lv_lload_n hx hb dX8_through_20 rfl (lv_at hl 1 rfl) ?_
      refine lv_aload_n hx hb dX8_through_21 rfl (lv_at hl 0 rfl) ?_
      refine t_getr (C := RX8) (T := TX8) (N := 3) hx hb hts hin8 hown hK hP ho0 rfl rfl 1 (by decide) (fr8_1 ho0) (hts _ (List.mem_of_getElem? (i := 2) rfl)) dX8_through_22 ?_
      refine lv_iload_n hx hb dX8_through_25 rfl (lv_at hl 2 rfl) ?_
      obtain ⟨r4, μ5, hc6, hm⟩ := bO2_inv hm
      refine t_cVi (As := [.int v3]) (rest := [.long v1]) (μ' := μ5) (r := r4) ⟨hx, hb, hml, hown, hts⟩ (mX7_through l D cA base H.size μ (kr8_1 ho0) v3 hc6) (cwV 1 hts gX8_through_X7_through rfl rfl rfl (by decide +kernel) ⟨Nat.le_of_ble_eq_true rfl, Nat.le_of_ble_eq_true rfl⟩) (va_recv hK hP (q0 := RF o0 1) rfl (tw_obj (kr8_1 ho0) (by decide))) hK hN hP hS hz rfl hl.1 (Nat.le_of_ble_eq_true rfl) dX8_through_26 hcs rfl (fun H locs hP hS => ?_)
      refine lv_i2l (v := r4.toInt64) hx hb dX8_through_29 rfl ?_
      refine lv_ladd hx hb dX8_through_30 ?_
      refine lv_topl (fun x7 ex7 => ?_)
      replace hm := bV_of hm ex7
      refine lv_lstore_n (lv' := [(1, .long x7), (0, .ref (base + o0)), (3, .int v3)]) hx hb dX8_through_31 rfl hl (by decide) rfl (fun ls hl => ?_)
      obtain ⟨x8, ex8⟩ : ∃ z : Int32, z = v3 + (1 : Int32) := ⟨_, rfl⟩
      replace hm := bV_of hm ex8
      refine lv_iinc (v := x8) (lv' := [(3, .int x8), (1, .long x7), (0, .ref (base + o0))]) hx hb dX8_through_32 hl (k := 2) rfl (by rw [ex8]; rfl) (by decide) rfl (fun ls hl => ?_)
      refine lv_goto (tgt := 9) hx hb dX8_through_35 (by decide) ?_
      exact ih x7 x8 μ5 _ _ _ w1 μ' hm hP hS (lv_sub hl [2, 1, 0] rfl) K
set_option maxHeartbeats 4000000 in
set_option maxRecDepth 100000 in
theorem mX8_through (l : Launch) (D : va_G) (cA : Nat → ClassId) (base sz : Nat) (μ : MM) {q : Nat} (hq : kc q = 8) {r : UInt64} {μ' : MM} (hm : X8_through q μ = some (r, μ')) : MetD lw_cs l yX8_through wsX8_through rmX8_through (va_Pc [.ref (base + q)] (tPre D cA base sz μ)) (va_Qd (fun (x : UInt64) (_ : Unit) => alike64 x r = true) (fun _ => tPost D cA base μ') (tA base sz)) 0 0 (tA base sz) := by
  refine MetD.ofW (cc := cX8_through) (maxL := 4) (ret := (some .double)) (by decide) rfl ?_
  intro p e s m args below meth c s₁ B hml hv hd0
  obtain ⟨rfl, hsz, hP, hK, hN⟩ := hv
  have hx := B.exec
  have hb := B.bytes
  have hr := B.returns
  have hts := atoms_spec (ws := wsX8_through) B.pre
  have hown : s.vm.findClass RX8 = some m.cls := findClass_of_methodNamed B.named
  have hlocks := B.notSynchronized
  have hin7 : ∀ w ∈ wsX70, w ∈ wsX8_through := by decide +kernel
  have hin8 : ∀ w ∈ wsX80, w ∈ wsX8_through := by decide +kernel
  subst hsz
  have hS : va_S (tA base s.heap.size) s.heap s.heap [] := va_S.rf
  have hz : s.heap.size ≤ s.heap.size := Nat.le_refl _
  have hl := lv_entry ([.ref (base + q)]) (n := 4) (Nat.le_of_ble_eq_true rfl)
  rw [lg_entry_eq]
  generalize (lg_sl ([.ref (base + q)]) ++ List.replicate (4 - (lg_sl ([.ref (base + q)])).length) Slot.unset).toArray = ls at hl ⊢
  have hl : lv_has ls 4 [(0, .ref (base + q))] := hl
  unfold X8_through at hm
  show W p l e (headSpec wsX8_through rmX8_through).room s m _ below meth c s.heap [] 0 0 _ _
  refine lv_aload_n hx hb dX8_through_0 rfl (lv_at hl 0 rfl) ?_
  refine lv_iconst (v := (0 : Int32)) hx hb dX8_through_1 (by decide) ?_
  refine t_put (C := RX8) (T := TX8) (N := 3) hx hb hts hin8 tyX8 tyX8_ok nmX8 hown hK hP (tD _ _ _ _) hS hq rfl rfl 0 (by decide) (fk8_0 hq) (hts _ (List.mem_of_getElem? (i := 1) rfl)) rfl (by decide +kernel) dX8_through_2 (fun H locs hP hS => ?_)
  obtain ⟨μ1, eμ1⟩ : ∃ z : MM, z = wI μ q 0 (0 : Int32) := ⟨_, rfl⟩
  rw [← eμ1] at hP
  replace hm := bV_of hm eμ1
  refine lv_lconst (v := (0 : Int64)) hx hb dX8_through_5 (by decide) ?_
  refine lv_topl (fun x2 ex2 => ?_)
  replace hm := bV_of hm ex2
  refine lv_lstore_n (lv' := [(1, .long x2), (0, .ref (base + q))]) hx hb dX8_through_6 rfl hl (by decide) rfl (fun ls hl => ?_)
  refine lv_iconst (v := (0 : Int32)) hx hb dX8_through_7 (by decide) ?_
  refine lv_istore_n (lv' := [(3, .int (0 : Int32)), (1, .long x2), (0, .ref (base + q))]) hx hb dX8_through_8 rfl hl (by decide) rfl (fun ls hl => ?_)
  obtain ⟨x9, μ10, hc11, hm⟩ := bO2_inv hm
  refine lX8_through_L9 ⟨hx, hb, hml, hown, hts⟩ hK hN hz hq ⟨Nat.le_of_ble_eq_true rfl, Nat.le_of_ble_eq_true rfl⟩ 1000 x2 (0 : Int32) μ1 _ _ _ x9 μ10 hc11 hP hS (lv_sub hl [2, 1, 0] rfl) ?_
  intro H locs ls hP hS hl
  refine lv_aload_n hx hb dX8_through_38 rfl (lv_at hl 0 rfl) ?_
  refine t_getr (C := RX8) (T := TX8) (N := 3) hx hb hts hin8 hown hK hP hq rfl rfl 1 (by decide) (fr8_1 hq) (hts _ (List.mem_of_getElem? (i := 2) rfl)) dX8_through_39 ?_
  refine t_getiN (C := RX7) (T := TX7) (N := 26) hx hb hts hin7 hown hK hP (kr8_1 hq) rfl rfl 11 (by decide) (fk7_11 (kr8_1 hq)) hN (i := 0) rfl dX8_through_42 ?_
  refine lv_if_eq (tgt := 60) hx hb dX8_through_45 (by decide) (fun c12 => ?_) (fun c12 => ?_)
  · rw [if_pos c12] at hm
    refine lv_dconst0 hx hb dX8_through_60 ?_
    refine lv_goto (tgt := 85) hx hb dX8_through_61 (by decide) ?_
    cases hm
    refine W.base ?_
    refine W.endD hd0 ?_
    exact W.dret hx hb hr (fun t ht hW => ⟨⟨_, (), rfl, alike64_refl _, tPost_of hP ht⟩, hS.F ht⟩) hS.2.2 dX8_through_85
  · rw [if_neg c12] at hm
    refine lv_aload_n hx hb dX8_through_48 rfl (lv_at hl 0 rfl) ?_
    refine t_getr (C := RX8) (T := TX8) (N := 3) hx hb hts hin8 hown hK hP hq rfl rfl 1 (by decide) (fr8_1 hq) (hts _ (List.mem_of_getElem? (i := 2) rfl)) dX8_through_49 ?_
    refine t_getrN (C := RX7) (T := TX7) (N := 26) hx hb hts hin7 hown hK hP (kr8_1 hq) rfl rfl 22 (by decide) (fr7_22 (kr8_1 hq)) hN (i := 14) rfl dX8_through_52 ?_
    refine lv_iconst (v := (0 : Int32)) hx hb dX8_through_55 (by decide) ?_
    obtain ⟨hg13, hm⟩ := gd_inv hm
    refine t_iald hx hb hK hP (kr7_22 (kr8_1 hq)) hg13 dX8_through_56 ?_
    refine lv_if_ne (tgt := 64) hx hb dX8_through_57 (by decide) (fun c14 => ?_) (fun c14 => ?_)
    · rw [if_neg c14] at hm
      refine lv_lload_n hx hb dX8_through_64 rfl (lv_at hl 1 rfl) ?_
      refine lv_l2d hx hb dX8_through_65 ?_
      refine lv_aload_n hx hb dX8_through_66 rfl (lv_at hl 0 rfl) ?_
      refine t_getr (C := RX8) (T := TX8) (N := 3) hx hb hts hin8 hown hK hP hq rfl rfl 1 (by decide) (fr8_1 hq) (hts _ (List.mem_of_getElem? (i := 2) rfl)) dX8_through_67 ?_
      refine t_getiN (C := RX7) (T := TX7) (N := 26) hx hb hts hin7 hown hK hP (kr8_1 hq) rfl rfl 11 (by decide) (fk7_11 (kr8_1 hq)) hN (i := 0) rfl dX8_through_70 ?_
      refine lv_aload_n hx hb dX8_through_73 rfl (lv_at hl 0 rfl) ?_
      refine t_getr (C := RX8) (T := TX8) (N := 3) hx hb hts hin8 hown hK hP hq rfl rfl 1 (by decide) (fr8_1 hq) (hts _ (List.mem_of_getElem? (i := 2) rfl)) dX8_through_74 ?_
      refine t_getrN (C := RX7) (T := TX7) (N := 26) hx hb hts hin7 hown hK hP (kr8_1 hq) rfl rfl 22 (by decide) (fr7_22 (kr8_1 hq)) hN (i := 14) rfl dX8_through_77 ?_
      refine lv_iconst (v := (0 : Int32)) hx hb dX8_through_80 (by decide) ?_
      obtain ⟨hg15, hm⟩ := gd_inv hm
      refine t_iald hx hb hK hP (kr7_22 (kr8_1 hq)) hg15 dX8_through_81 ?_
      refine lv_imul hx hb dX8_through_82 ?_
      refine lv_i2d hx hb dX8_through_83 ?_
      refine W.base ?_
      refine lv_ddiv_any hd0 lw_bits hx hb dX8_through_84 (fun rd d1 hal hd1 => ?_)
      cases hm
      refine W.endD hd1 ?_
      exact W.dret hx hb hr (fun t ht hW => ⟨⟨_, (), rfl, hal, tPost_of hP ht⟩, hS.F ht⟩) hS.2.2 dX8_through_85
    · rw [if_pos c14] at hm
      refine lv_dconst0 hx hb dX8_through_60 ?_
      refine lv_goto (tgt := 85) hx hb dX8_through_61 (by decide) ?_
      cases hm
      refine W.base ?_
      refine W.endD hd0 ?_
      exact W.dret hx hb hr (fun t ht hW => ⟨⟨_, (), rfl, alike64_refl _, tPost_of hP ht⟩, hS.F ht⟩) hS.2.2 dX8_through_85
