/-! The law's entry: the three things that it makes; what the tables say at the start. -/
theorem arr_I {args : Array Value} {s : State} (h : (Cond.arrayClass .int).before args s = true) : ∃ cA : ClassId, ArrOfT s cA .int ∧ va_RA s cA .int := by
  obtain ⟨c, k, comp, h1, h2, h3⟩ := Cond.arrayClass_spec h
  exact ⟨c, fun N z => ⟨(fun k h => by cases h), k, h2, comp, h3⟩, h1⟩
theorem arr_J {args : Array Value} {s : State} (h : (Cond.arrayClass .long).before args s = true) : ∃ cA : ClassId, ArrOfT s cA .long ∧ va_RA s cA .long := by
  obtain ⟨c, k, comp, h1, h2, h3⟩ := Cond.arrayClass_spec h
  exact ⟨c, fun N z => ⟨(fun k h => by cases h), k, h2, comp, h3⟩, h1⟩
theorem arr_O {C : String} {args : Array Value} {s : State} (h : (Cond.arrayOver (.object C)).before args s = true) : ∃ cA : ClassId, ArrOfT s cA (.object C) ∧ va_RA s cA (.object C) := by
  obtain ⟨comp, c, k, h1, h2, h3, h4, h5⟩ := Cond.arrayOver_spec h
  exact ⟨c, fun N z => ⟨(fun k h => by cases h), k, h3, comp, h4⟩, k, comp, h3, h4, h1, h5⟩
theorem str_R {own tx : String} {k : Nat} {args : Array Value} {s : State} (h1 : (Cond.stringRef own k tx).before args s = true) (h2 : (Cond.exactly (.string own k) "java/lang/String").before args s = true) : ∃ a, vk_R own k tx a s := by
  obtain ⟨a, _, _, _, q1, -⟩ := Cond.exactly_spec (args := args) (first := s) (o := none) (s := s) (idx := []) (t := .string own k) (cls := "java/lang/String") h2
  exact ⟨a, vk_R.of h1 q1⟩
theorem xBad_in : ∀ w ∈ xBad, w ∈ lw_tbl := by decide +kernel
theorem nestF_in : ∀ x ∈ nestF, Cond.fieldLinkNest x.1 x.2.1 x.2.2.1 x.2.2.2.1 x.2.2.2.2.1 x.2.2.2.2.2 ∈ lw_tbl := by decide +kernel
theorem nestM_in : ∀ x ∈ nestM, Cond.methodLinkNest x.1 x.2.1 x.2.2.1 x.2.2.2 ∈ lw_tbl := by decide +kernel
set_option maxHeartbeats 4000000 in
set_option maxRecDepth 100000 in
theorem law_start {p : Program} {e : Env} {s : State} {m : MethodId} {below : List Frame} {meth : Method} {c : Code} (l : Launch) (hflags : l.flags = flags0) {b L : Nat} {xs : Nat → Int32} (C0 : lw_At p s m meth c b L xs) (hpure : ∃ μ', L_law_L xs L 600 0 μ0 = some μ') : W p l e room_1 s m #[Value.ref b] below meth c s.heap [] 0 0 (lw_Z below #[Value.ref b] s) (entryFrame m ([Value.ref b] : List Value).toArray 9) := by
  obtain ⟨μ', hpure⟩ := hpure
  obtain ⟨hx, hb, hr, hml, hown, hts9, hX, hbl, hlocks, hgv⟩ := id C0
  have hlt : l.stackTraces = false := by
    unfold Launch.stackTraces
    rw [hflags]
    decide +kernel
  have hts : ∀ w ∈ wsL_law, w.before #[Value.ref b] s = true := fun w h => hts9 w (wsL_law_in w h)
  have hs := flat_of_before _ hgv
  obtain ⟨c0, i0, hk0⟩ := u_known (C := RX0) (T := TX0) (N := 10) (n := 10) hts inlX0 (hts9 (.instantiable RX0 10) (by decide +kernel))
  obtain ⟨c1, i1, hk1⟩ := u_known (C := RX1) (T := TX1) (N := 2) (n := 2) hts inlX1 (hts9 (.instantiable RX1 2) (by decide +kernel))
  obtain ⟨c2, i2, hk2⟩ := u_known (C := RX2) (T := TX2) (N := 7) (n := 7) hts inlX2 (hts9 (.instantiable RX2 7) (by decide +kernel))
  obtain ⟨c3, i3, hk3⟩ := u_known (C := RX3) (T := TX3) (N := 2) (n := 2) hts inlX3 (hts9 (.instantiable RX3 2) (by decide +kernel))
  obtain ⟨c4, i4, hk4⟩ := u_known (C := RX4) (T := TX4) (N := 3) (n := 3) hts inlX4 (hts9 (.instantiable RX4 3) (by decide +kernel))
  obtain ⟨c5, i5, hk5⟩ := u_known (C := RX5) (T := TX5) (N := 9) (n := 9) hts inlX5 (hts9 (.instantiable RX5 9) (by decide +kernel))
  obtain ⟨c6, i6, hk6⟩ := u_known (C := RX6) (T := TX6) (N := 2) (n := 2) hts inlX6 (hts9 (.instantiable RX6 2) (by decide +kernel))
  obtain ⟨c7, i7, hk7⟩ := u_known (C := RX7) (T := TX7) (N := 26) (n := 26) hts inlX7 (hts9 (.instantiable RX7 26) (by decide +kernel))
  obtain ⟨c8, i8, hk8⟩ := u_known (C := RX8) (T := TX8) (N := 3) (n := 3) hts inlX8 (hts9 (.instantiable RX8 3) (by decide +kernel))
  obtain ⟨dC, dI, hKc⟩ : ∃ (dC : Nat → ClassId) (dI : Nat → Nat → Nat), ∀ (k : Nat) (q : vw_C), vwCl[k]? = some q → u_Kn s q.1 q.2.1 q.2.2 (dC k) (dI k) := by
    refine ⟨fun k => match k with | 0 => c0 | 1 => c1 | 2 => c2 | 3 => c3 | 4 => c4 | 5 => c5 | 6 => c6 | 7 => c7 | _ => c8, fun k => match k with | 0 => i0 | 1 => i1 | 2 => i2 | 3 => i3 | 4 => i4 | 5 => i5 | 6 => i6 | 7 => i7 | _ => i8, ?_⟩
    intro k q hq
    match k, hq with
    | 0, hq => cases hq; exact hk0
    | 1, hq => cases hq; exact hk1
    | 2, hq => cases hq; exact hk2
    | 3, hq => cases hq; exact hk3
    | 4, hq => cases hq; exact hk4
    | 5, hq => cases hq; exact hk5
    | 6, hq => cases hq; exact hk6
    | 7, hq => cases hq; exact hk7
    | 8, hq => cases hq; exact hk8
    | k + 9, hq => simp [vwCl] at hq
  obtain ⟨cI, hI1, hI2⟩ := arr_I (hts9 (.arrayClass .int) (by decide +kernel))
  obtain ⟨cJ, hJ1, hJ2⟩ := arr_J (hts9 (.arrayClass .long) (by decide +kernel))
  obtain ⟨cB, hB1, hB2⟩ := arr_O (hts9 (.arrayOver (.object "RelayBooths$Booth")) (by decide +kernel))
  obtain ⟨cN, hN1, hN2⟩ := arr_O (hts9 (.arrayOver (.object "RelayBooths$Interpreter")) (by decide +kernel))
  obtain ⟨cA, hcA0, hcA1, hcA2, hcA3⟩ : ∃ cA : Nat → ClassId, cA 0 = cI ∧ cA 1 = cJ ∧ cA 2 = cB ∧ cA 3 = cN := ⟨fun k => match k with | 0 => cI | 1 => cJ | 2 => cB | _ => cN, rfl, rfl, rfl, rfl⟩
  have hK : va_K (dC, dI) vwCl (tys cA) s := by
    refine ⟨hKc, fun k q h => ?_⟩
    unfold tys at h
    rw [hcA0, hcA1, hcA2, hcA3] at h
    match k, h with
    | 0, h => cases h; exact ⟨hI1, hI2⟩
    | 1, h => cases h; exact ⟨hJ1, hJ2⟩
    | 2, h => cases h; exact ⟨hB1, hB2⟩
    | 3, h => cases h; exact ⟨hN1, hN2⟩
    | k + 4, h => simp at h
  have hN : tN s := ⟨fun x hx => va_Nw.of rfl (hts9 _ (nestF_in x hx)), fun x hx => va_Nw.of rfl (hts9 _ (nestM_in x hx))⟩
  have hQ : tQ s := ⟨va_AO.of (hts9 (.arrayOver (.object "RelayBooths$Booth")) (by decide +kernel)), va_AO.of (hts9 (.arrayOver (.object "RelayBooths$Interpreter")) (by decide +kernel))⟩
  have hnA : ∀ a : Nat, a < s.heap.size → ¬ tA s.heap.size s.heap.size a := fun a ha h => by rcases h with h | h <;> omega
  have hX0 : tX s.heap.size s.heap.size s := by
    refine ⟨⟨str_R (hts9 (.stringRef RX6 169 "there is no such thing") (by decide +kernel)) (hs _ (by decide +kernel)), str_R (hts9 (.stringRef RX6 176 "an argument is not allowed") (by decide +kernel)) (hs _ (by decide +kernel)), str_R (hts9 (.stringRef RX6 181 "there is no room for it") (by decide +kernel)) (hs _ (by decide +kernel))⟩, fun w hw => va_Nw.of (onT_DC (List.all_eq_true.mp xBad_DC w hw)) (hts9 w (xBad_in w hw)), ⟨va_Nc.of (hs (.not (.castable eS eA)) (by decide +kernel)), va_Nc.of (hs (.not (.castable eA eX)) (by decide +kernel)), va_Nc.of (hs (.not (.castable eS eX)) (by decide +kernel))⟩, ?_, ?_⟩
    · exact vx_Zqof (hts9 _ (by decide +kernel)) (hts9 _ (by decide +kernel)) (hs (.isRef (.static "java/lang/Throwable" "UNASSIGNED_STACK" "[Ljava/lang/StackTraceElement;")) (by decide +kernel)) hnA
    · exact vx_Zqof (hts9 _ (by decide +kernel)) (hts9 _ (by decide +kernel)) (hs (.isRef (.static "java/lang/Throwable" "SUPPRESSED_SENTINEL" "Ljava/util/List;")) (by decide +kernel)) hnA
  have hA : ∀ x, s.heap.size ≤ x → tA s.heap.size s.heap.size x := fun x h => Or.inr h
  have hS : va_S (tA s.heap.size s.heap.size) s.heap s.heap [] := va_S.rf
  have hW : CW (dC, dI) s.heap.size [] s.heap (s.heap.size + 0) := ⟨fun k q h => by simp at h, ⟨fun i j p q h => by simp at h, fun k q h => by simp at h⟩, rfl⟩
  have hl := lv_entry ([.ref b]) (n := 9) (Nat.le_of_ble_eq_true rfl)
  rw [lg_entry_eq]
  generalize (lg_sl ([.ref b]) ++ List.replicate (9 - (lg_sl ([.ref b])).length) Slot.unset).toArray = ls at hl ⊢
  have hl : lv_has ls 9 [(0, .ref b)] := hl
  have hq6 : kc 0 = 6 := by decide +kernel
  have hq8 : kc 132 = 8 := by decide +kernel
  refine c_new (ci := 6) (fs := [.null, .null]) (C := RX6) (T := TX6) (N := 2) hx hb hts inlX6 tyX6 tyX6_ok hown (hts9 (.classLink RL 8 RX6) (by decide +kernel)) (hts9 (.instantiable RX6 2) (by decide +kernel)) (hts9 (.initialized RX6) (by decide +kernel)) hK hW hS rfl (fun j hj => by rcases (show j = 0 ∨ j = 1 by omega) with rfl | rfl <;> rfl) (Nat.le_of_ble_eq_true rfl) (Nat.le_of_ble_eq_true rfl) dL_law_0 (fun H hW hE hlt9 hS => ?_)
  refine lv_dup hx hb dL_law_3 rfl ?_
  refine c_call (q := 0) (L := 132) (As := []) (rest := [.ref (s.heap.size + 0)]) ⟨hx, hb, hml, hown, hts⟩ (mX6_init l (dC, dI) cA s.heap.size hq6) (cwI 0 hts gL_law_X6_init rfl rfl rfl (hts9 (.initialized RX6) (by decide +kernel)) (hts9 (.methodLink RL 64 yX6_init) (by decide +kernel)) (hts9 (.instanceMethod yX6_init) (by decide +kernel)) rfl (by decide +kernel) ⟨Nat.le_of_ble_eq_true rfl, Nat.le_of_ble_eq_true rfl⟩) hK hN hQ hW (by omega) hE hlt9 hS (fun x h => hA x (by omega)) rfl hl.1 (Nat.le_of_ble_eq_true rfl) dL_law_4 ⟨Nat.le_of_ble_eq_true rfl, Nat.le_of_ble_eq_true rfl⟩ rfl (fun H locs hW hS => ?_)
  have hW : CW (dC, dI) s.heap.size (sg s.heap.size cA 0 132) H (s.heap.size + 132) := by rw [Nat.zero_add] at hW; exact hW
  refine lv_astore_n (lv' := [(1, .ref (s.heap.size + 0)), (0, .ref b)]) hx hb dL_law_7 rfl hl (by decide) rfl (fun ls hl => ?_)
  refine c_new (ci := 8) (fs := [.int 0, .null, .null]) (C := RX8) (T := TX8) (N := 3) hx hb hts inlX8 tyX8 tyX8_ok hown (hts9 (.classLink RL 65 RX8) (by decide +kernel)) (hts9 (.instantiable RX8 3) (by decide +kernel)) (hts9 (.initialized RX8) (by decide +kernel)) hK hW hS rfl (fun j hj => by rcases (show j = 0 ∨ j = 1 ∨ j = 2 by omega) with rfl | rfl | rfl <;> rfl) (Nat.le_of_ble_eq_true rfl) (Nat.le_of_ble_eq_true rfl) dL_law_8 (fun H hW hE hlt9 hS => ?_)
  refine lv_dup hx hb dL_law_11 rfl ?_
  refine c_call (q := 132) (L := 45) (As := []) (rest := [.ref (s.heap.size + 132)]) ⟨hx, hb, hml, hown, hts⟩ (mX8_init l (dC, dI) cA s.heap.size hq8) (cwI 0 hts gL_law_X8_init rfl rfl rfl (hts9 (.initialized RX8) (by decide +kernel)) (hts9 (.methodLink RL 67 yX8_init) (by decide +kernel)) (hts9 (.instanceMethod yX8_init) (by decide +kernel)) rfl (by decide +kernel) ⟨Nat.le_of_ble_eq_true rfl, Nat.le_of_ble_eq_true rfl⟩) hK hN hQ hW (by omega) hE hlt9 hS (fun x h => hA x (by omega)) rfl hl.1 (Nat.le_of_ble_eq_true rfl) dL_law_12 ⟨Nat.le_of_ble_eq_true rfl, Nat.le_of_ble_eq_true rfl⟩ rfl (fun H locs hW hS => ?_)
  have hW : CW (dC, dI) s.heap.size (sg s.heap.size cA 0 177) H (s.heap.size + 177) := by have h9 := sg_app s.heap.size cA 0 132 45; rw [Nat.zero_add] at h9; rw [h9] at hW; exact hW
  refine lv_astore_n (lv' := [(2, .ref (s.heap.size + 132)), (1, .ref (s.heap.size + 0)), (0, .ref b)]) hx hb dL_law_15 rfl hl (by decide) rfl (fun ls hl => ?_)
  refine lv_iconst (v := (1 : Int32)) hx hb dL_law_16 (by decide) ?_
  refine c_newJ (i := 177) (N := 1) hx hb (hts9 (.arrayClass .long) (by decide +kernel)) hK hW (by omega) (by decide +kernel) (by decide +kernel) hS (by decide) (by decide) (by decide) (Nat.le_of_ble_eq_true rfl) (Nat.le_of_ble_eq_true rfl) dL_law_17 (fun H hW hS => ?_)
  have hW : va_P (dC, dI) vwCl (tw s.heap.size cA μ0 []) H := by have h9 := sg_app s.heap.size cA 0 177 1; rw [Nat.zero_add] at h9; have h8 := hW.1; rw [h9, sg_all] at h8; exact h8
  refine lv_astore_n (lv' := [(3, .ref (s.heap.size + 177)), (2, .ref (s.heap.size + 132)), (1, .ref (s.heap.size + 0)), (0, .ref b)]) hx hb dL_law_19 rfl hl (by decide) rfl (fun ls hl => ?_)
  refine lv_iconst (v := (0 : Int32)) hx hb dL_law_20 (by decide) ?_
  refine lv_istore (lv' := [(4, .int 0), (3, .ref (s.heap.size + 177)), (2, .ref (s.heap.size + 132)), (1, .ref (s.heap.size + 0)), (0, .ref b)]) hx hb dL_law_21 hl (by decide) rfl (fun ls hl => ?_)
  refine W.base ?_
  refine W.widen (k := 178) (n := 25396) (Nat.le_of_ble_eq_true rfl) (Nat.le_of_ble_eq_true rfl) ?_
  exact law_loop l hlt C0 hK hN hX0 600 0 μ0 s.drawn H _ ls 178 25396 (Nat.le_of_ble_eq_true rfl) (Nat.le_of_ble_eq_true rfl) (Drawn.sameBut.refl s.drawn lw_cs) hpure hW hS (lv_sub hl [4, 3, 2, 1, 0] rfl)
