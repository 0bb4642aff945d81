section TR
variable {p : Program} {l : Launch} {e : Env} {R : Room} {s : State} {m : MethodId} {args : Array Value} {below : List Frame} {meth : Method} {c : Code} {H : Heap} {locs : List Loc} {cells slots : Nat} {Q : State → Prop}
variable {cc : ByteArray} {pc : Nat} {ls : Array Slot} {rest : List Value} {D : va_G} {cA : Nat → ClassId} {base : Nat} {μ : MM} {ex : va_W} {H0 : Heap} {A : Nat → Prop}

theorem t_geti (hexec : p.tables.exec = Jvm.exec) (hb : c.code = cc) {own C : String} {T : u_T} {N ci index : Nat} {Ts : List Cond} (hts : ∀ w ∈ Ts, w.before args s = true) (hin : ∀ w ∈ u_ws C T N, w ∈ Ts) (hown : s.vm.findClass own = some m.cls) (hK : va_K D vwCl (tys cA) s) (hP : va_P D vwCl (tw base cA μ ex) H) {q : Nat} (hq : kc q = ci) (hc : vwCl[ci]? = some (C, T, N)) (hci : (decide (ci < 100) && decide (nf ci = N)) = true) (k : Nat) (hk : k < N) (hf : fld q k = none) (hlink : (Cond.fieldLink own index (T k).1 (T k).2.1 (T k).2.2.1).before args s = true) (hdg : decode cc pc = .ok (.getfield index, 3))
    (kk : W p l e R s m args below meth c H locs cells slots Q (F0 m (pc + 3) ls (.int (rI μ q k) :: rest))) : W p l e R s m args below meth c H locs cells slots Q (F0 m pc ls (.ref (base + q) :: rest)) := by
  simp only [Bool.and_eq_true, decide_eq_true_eq] at hci
  exact va_get hexec hb hts hin hown hK hP q (tw_obj hq hci.1) hc k hk hlink (fun _ h => h) (v := .int (rI μ q k)) (by rw [List.getElem?_map, List.getElem?_range (by omega), Option.map_some, tv_int hf]) hdg kk
theorem t_getr (hexec : p.tables.exec = Jvm.exec) (hb : c.code = cc) {own C : String} {T : u_T} {N ci index : Nat} {Ts : List Cond} (hts : ∀ w ∈ Ts, w.before args s = true) (hin : ∀ w ∈ u_ws C T N, w ∈ Ts) (hown : s.vm.findClass own = some m.cls) (hK : va_K D vwCl (tys cA) s) (hP : va_P D vwCl (tw base cA μ ex) H) {q : Nat} (hq : kc q = ci) (hc : vwCl[ci]? = some (C, T, N)) (hci : (decide (ci < 100) && decide (nf ci = N)) = true) (k : Nat) (hk : k < N) (hf : fld q k = some (RF q k)) (hlink : (Cond.fieldLink own index (T k).1 (T k).2.1 (T k).2.2.1).before args s = true) (hdg : decode cc pc = .ok (.getfield index, 3))
    (kk : W p l e R s m args below meth c H locs cells slots Q (F0 m (pc + 3) ls (.ref (base + RF q k) :: rest))) : W p l e R s m args below meth c H locs cells slots Q (F0 m pc ls (.ref (base + q) :: rest)) := by
  simp only [Bool.and_eq_true, decide_eq_true_eq] at hci
  exact va_get hexec hb hts hin hown hK hP q (tw_obj hq hci.1) hc k hk hlink (fun _ h => h) (v := .ref (base + RF q k)) (by rw [List.getElem?_map, List.getElem?_range (by omega), Option.map_some, tv_ref hf]) hdg kk
theorem t_put (hexec : p.tables.exec = Jvm.exec) (hb : c.code = cc) {own C : String} {T : u_T} {N ci index : Nat} {Ts : List Cond} (hts : ∀ w ∈ Ts, w.before args s = true) (hin : ∀ w ∈ u_ws C T N, w ∈ Ts) (ty0 : Nat → FieldType) (hty : ∀ k, k < N → parseFieldDescriptor (T k).2.2.1 = some (ty0 k)) (hnm : ∀ a, a < N → ∀ b, b < N → a ≠ b → (T a).2.1 ≠ (T b).2.1) (hown : s.vm.findClass own = some m.cls) (hK : va_K D vwCl (tys cA) s) (hP : va_P D vwCl (tw base cA μ ex) H) (hD : va_D A (tw base cA μ ex)) (hS : va_S A H0 H locs) {q : Nat} (hq : kc q = ci) (hc : vwCl[ci]? = some (C, T, N)) (hci : (decide (ci < 100) && decide (nf ci = N)) = true) (k : Nat) (hk : k < N) (hf : fld q k = none) (hlink : (Cond.fieldLink own index (T k).1 (T k).2.1 (T k).2.2.1).before args s = true) (hfin : (T k).2.2.2 = false) {v : Int32} (hd : parseFieldDescriptor (T k).2.2.1 = some .int) (hdg : decode cc pc = .ok (.putfield index, 3))
    (kk : ∀ (H1 : Heap) (locs1 : List Loc), va_P D vwCl (tw base cA (wI μ q k v) ex) H1 → va_S A H0 H1 locs1 → W p l e R s m args below meth c H1 locs1 cells slots Q (F0 m (pc + 3) ls (rest))) : W p l e R s m args below meth c H locs cells slots Q (F0 m pc ls (.int v :: .ref (base + q) :: rest)) := by
  simp only [Bool.and_eq_true, decide_eq_true_eq] at hci
  refine va_put hexec hb hts hin ty0 hty hnm hown hK hP hD hS q (tw_obj hq hci.1) hc k hk hlink (fun _ h => h) hfin (v := .int v) hd rfl rfl (by simp; omega) hdg (fun H1 l1 h1 h2 h3 => ?_)
  rw [tw_put hq hci.1 hf] at h1
  exact kk H1 l1 h1 h3
theorem t_getiN (hexec : p.tables.exec = Jvm.exec) (hb : c.code = cc) {own C : String} {T : u_T} {N ci index : Nat} {Ts : List Cond} (hts : ∀ w ∈ Ts, w.before args s = true) (hin : ∀ w ∈ u_ws C T N, w ∈ Ts) (hown : s.vm.findClass own = some m.cls) (hK : va_K D vwCl (tys cA) s) (hP : va_P D vwCl (tw base cA μ ex) H) {q : Nat} (hq : kc q = ci) (hc : vwCl[ci]? = some (C, T, N)) (hci : (decide (ci < 100) && decide (nf ci = N)) = true) (k : Nat) (hk : k < N) (hf : fld q k = none) (hN : tN s) {i : Nat} {host : String} (hlink : nestF[i]? = some (own, index, (T k).1, (T k).2.1, (T k).2.2.1, host)) (hdg : decode cc pc = .ok (.getfield index, 3))
    (kk : W p l e R s m args below meth c H locs cells slots Q (F0 m (pc + 3) ls (.int (rI μ q k) :: rest))) : W p l e R s m args below meth c H locs cells slots Q (F0 m pc ls (.ref (base + q) :: rest)) := by
  simp only [Bool.and_eq_true, decide_eq_true_eq] at hci
  exact va_getN hexec hb hts hin hown hK hP q (tw_obj hq hci.1) hc k hk (va_Nw.use (A := args) rfl (hN.1 _ (List.mem_of_getElem? hlink))) (fun _ h => h) (v := .int (rI μ q k)) (by rw [List.getElem?_map, List.getElem?_range (by omega), Option.map_some, tv_int hf]) hdg kk
theorem t_getrN (hexec : p.tables.exec = Jvm.exec) (hb : c.code = cc) {own C : String} {T : u_T} {N ci index : Nat} {Ts : List Cond} (hts : ∀ w ∈ Ts, w.before args s = true) (hin : ∀ w ∈ u_ws C T N, w ∈ Ts) (hown : s.vm.findClass own = some m.cls) (hK : va_K D vwCl (tys cA) s) (hP : va_P D vwCl (tw base cA μ ex) H) {q : Nat} (hq : kc q = ci) (hc : vwCl[ci]? = some (C, T, N)) (hci : (decide (ci < 100) && decide (nf ci = N)) = true) (k : Nat) (hk : k < N) (hf : fld q k = some (RF q k)) (hN : tN s) {i : Nat} {host : String} (hlink : nestF[i]? = some (own, index, (T k).1, (T k).2.1, (T k).2.2.1, host)) (hdg : decode cc pc = .ok (.getfield index, 3))
    (kk : W p l e R s m args below meth c H locs cells slots Q (F0 m (pc + 3) ls (.ref (base + RF q k) :: rest))) : W p l e R s m args below meth c H locs cells slots Q (F0 m pc ls (.ref (base + q) :: rest)) := by
  simp only [Bool.and_eq_true, decide_eq_true_eq] at hci
  exact va_getN hexec hb hts hin hown hK hP q (tw_obj hq hci.1) hc k hk (va_Nw.use (A := args) rfl (hN.1 _ (List.mem_of_getElem? hlink))) (fun _ h => h) (v := .ref (base + RF q k)) (by rw [List.getElem?_map, List.getElem?_range (by omega), Option.map_some, tv_ref hf]) hdg kk
theorem t_putN (hexec : p.tables.exec = Jvm.exec) (hb : c.code = cc) {own C : String} {T : u_T} {N ci index : Nat} {Ts : List Cond} (hts : ∀ w ∈ Ts, w.before args s = true) (hin : ∀ w ∈ u_ws C T N, w ∈ Ts) (ty0 : Nat → FieldType) (hty : ∀ k, k < N → parseFieldDescriptor (T k).2.2.1 = some (ty0 k)) (hnm : ∀ a, a < N → ∀ b, b < N → a ≠ b → (T a).2.1 ≠ (T b).2.1) (hown : s.vm.findClass own = some m.cls) (hK : va_K D vwCl (tys cA) s) (hP : va_P D vwCl (tw base cA μ ex) H) (hD : va_D A (tw base cA μ ex)) (hS : va_S A H0 H locs) {q : Nat} (hq : kc q = ci) (hc : vwCl[ci]? = some (C, T, N)) (hci : (decide (ci < 100) && decide (nf ci = N)) = true) (k : Nat) (hk : k < N) (hf : fld q k = none) (hN : tN s) {i : Nat} {host : String} (hlink : nestF[i]? = some (own, index, (T k).1, (T k).2.1, (T k).2.2.1, host)) (hfin : (T k).2.2.2 = false) {v : Int32} (hd : parseFieldDescriptor (T k).2.2.1 = some .int) (hdg : decode cc pc = .ok (.putfield index, 3))
    (kk : ∀ (H1 : Heap) (locs1 : List Loc), va_P D vwCl (tw base cA (wI μ q k v) ex) H1 → va_S A H0 H1 locs1 → W p l e R s m args below meth c H1 locs1 cells slots Q (F0 m (pc + 3) ls (rest))) : W p l e R s m args below meth c H locs cells slots Q (F0 m pc ls (.int v :: .ref (base + q) :: rest)) := by
  simp only [Bool.and_eq_true, decide_eq_true_eq] at hci
  refine va_putN hexec hb hts hin ty0 hty hnm hown hK hP hD hS q (tw_obj hq hci.1) hc k hk (va_Nw.use (A := args) rfl (hN.1 _ (List.mem_of_getElem? hlink))) (fun _ h => h) hfin (v := .int v) hd rfl rfl (by simp; omega) hdg (fun H1 l1 h1 h2 h3 => ?_)
  rw [tw_put hq hci.1 hf] at h1
  exact kk H1 l1 h1 h3
theorem t_iald (hexec : p.tables.exec = Jvm.exec) (hb : c.code = cc) (hK : va_K D vwCl (tys cA) s) (hP : va_P D vwCl (tw base cA μ ex) H) {q : Nat} (hq : kc q = 100) {i : Int32} (hin : vp_in i (al q)) (hdg : decode cc pc = .ok (.iaload, 1))
    (kk : W p l e R s m args below meth c H locs cells slots Q (F0 m (pc + 1) ls (.int (rI μ q i.toNatClampNeg) :: rest))) : W p l e R s m args below meth c H locs cells slots Q (F0 m pc ls (.int i :: .ref (base + q) :: rest)) :=
  va_iald hexec hb hK hP q 0 (tw_int hq) rfl hin hdg kk
theorem t_lald (hexec : p.tables.exec = Jvm.exec) (hb : c.code = cc) (hK : va_K D vwCl (tys cA) s) (hP : va_P D vwCl (tw base cA μ ex) H) {q : Nat} (hq : kc q = 101) {i : Int32} (hin : vp_in i (al q)) (hdg : decode cc pc = .ok (.laload, 1))
    (kk : W p l e R s m args below meth c H locs cells slots Q (F0 m (pc + 1) ls (.long (rL μ q i.toNatClampNeg) :: rest))) : W p l e R s m args below meth c H locs cells slots Q (F0 m pc ls (.int i :: .ref (base + q) :: rest)) :=
  va_lald hexec hb hK hP q 1 (tw_long hq) rfl hin hdg kk
theorem t_aald2 (hexec : p.tables.exec = Jvm.exec) (hb : c.code = cc) (hK : va_K D vwCl (tys cA) s) (hP : va_P D vwCl (tw base cA μ ex) H) {q : Nat} (hq : kc q = 102) {i : Int32} (hin : vp_in i (al q)) (hdg : decode cc pc = .ok (.aaload, 1))
    (kk : W p l e R s m args below meth c H locs cells slots Q (F0 m (pc + 1) ls (.ref (base + RF q i.toNatClampNeg) :: rest))) : W p l e R s m args below meth c H locs cells slots Q (F0 m pc ls (.int i :: .ref (base + q) :: rest)) :=
  va_aldq hexec hb hK hP q 2 (C := "RelayBooths$Booth") (tw_ref hq (by decide) (by decide)) rfl hin hdg kk
theorem t_aald3 (hexec : p.tables.exec = Jvm.exec) (hb : c.code = cc) (hK : va_K D vwCl (tys cA) s) (hP : va_P D vwCl (tw base cA μ ex) H) {q : Nat} (hq : kc q = 103) {i : Int32} (hin : vp_in i (al q)) (hdg : decode cc pc = .ok (.aaload, 1))
    (kk : W p l e R s m args below meth c H locs cells slots Q (F0 m (pc + 1) ls (.ref (base + RF q i.toNatClampNeg) :: rest))) : W p l e R s m args below meth c H locs cells slots Q (F0 m pc ls (.int i :: .ref (base + q) :: rest)) :=
  va_aldq hexec hb hK hP q 3 (C := "RelayBooths$Interpreter") (tw_ref hq (by decide) (by decide)) rfl hin hdg kk
theorem t_alen (hexec : p.tables.exec = Jvm.exec) (hb : c.code = cc) (hK : va_K D vwCl (tys cA) s) (hP : va_P D vwCl (tw base cA μ ex) H) {q : Nat} (hq : kc q = 100) (hdg : decode cc pc = .ok (.arraylength, 1))
    (kk : W p l e R s m args below meth c H locs cells slots Q (F0 m (pc + 1) ls (.int (Int32.ofNat (al q)) :: rest))) : W p l e R s m args below meth c H locs cells slots Q (F0 m pc ls (.ref (base + q) :: rest)) :=
  va_alen hexec hb hK hP q 0 (tw_int hq) rfl rfl hdg kk
theorem t_iast (hexec : p.tables.exec = Jvm.exec) (hb : c.code = cc) (hK : va_K D vwCl (tys cA) s) (hP : va_P D vwCl (tw base cA μ ex) H) (hD : va_D A (tw base cA μ ex)) (hS : va_S A H0 H locs) {q : Nat} (hq : kc q = 100) {i x : Int32} (hin : vp_in i (al q)) (hdg : decode cc pc = .ok (.iastore, 1))
    (kk : ∀ (H1 : Heap) (locs1 : List Loc), va_P D vwCl (tw base cA (wI μ q i.toNatClampNeg x) ex) H1 → va_S A H0 H1 locs1 → W p l e R s m args below meth c H1 locs1 cells slots Q (F0 m (pc + 1) ls (rest))) : W p l e R s m args below meth c H locs cells slots Q (F0 m pc ls (.int x :: .int i :: .ref (base + q) :: rest)) := by
  refine va_iast hexec hb hK hP hD hS q 0 (tw_int hq) rfl hin hdg (fun H1 l1 h1 h2 h3 => ?_)
  rw [tw_iast hq] at h1
  exact kk H1 l1 h1 h3
theorem t_last (hexec : p.tables.exec = Jvm.exec) (hb : c.code = cc) (hK : va_K D vwCl (tys cA) s) (hP : va_P D vwCl (tw base cA μ ex) H) (hD : va_D A (tw base cA μ ex)) (hS : va_S A H0 H locs) {q : Nat} (hq : kc q = 101) {i : Int32} {x : Int64} (hin : vp_in i (al q)) (hdg : decode cc pc = .ok (.lastore, 1))
    (kk : ∀ (H1 : Heap) (locs1 : List Loc), va_P D vwCl (tw base cA (wL μ q i.toNatClampNeg x) ex) H1 → va_S A H0 H1 locs1 → W p l e R s m args below meth c H1 locs1 cells slots Q (F0 m (pc + 1) ls (rest))) : W p l e R s m args below meth c H locs cells slots Q (F0 m pc ls (.long x :: .int i :: .ref (base + q) :: rest)) := by
  refine va_last hexec hb hK hP hD hS q 1 (tw_long hq) rfl hin hdg (fun H1 l1 h1 h2 h3 => ?_)
  rw [tw_last hq] at h1
  exact kk H1 l1 h1 h3
/-- the bounds of an arraycopy -/
abbrev cpyOk (n0 n1 : Nat) (sp dp n : Int32) : Prop := (¬ sp < 0 ∧ ¬ dp < 0 ∧ ¬ n < 0) ∧ sp.toNatClampNeg + n.toNatClampNeg ≤ n0 ∧ dp.toNatClampNeg + n.toNatClampNeg ≤ n1
theorem t_cpy (hexec : p.tables.exec = Jvm.exec) (hb : c.code = cc) (hml : c.maxLocals = ls.size) {own : String} {index : Nat} (hown : s.vm.findClass own = some m.cls) (hlink : (Cond.methodLink own index arraycopyName).before args s = true) (hnat : (Cond.native arraycopyName).before args s = true) (hstat : (Cond.static arraycopyName).before args s = true) (hini : (Cond.initialized "java/lang/System").before args s = true) (hK : va_K D vwCl (tys cA) s) (hP : va_P D vwCl (tw base cA μ ex) H) (hD : va_D A (tw base cA μ ex)) (hS : va_S A H0 H locs) {q0 q : Nat} (hq0 : kc q0 = 100) (hq : kc q = 100) {sp dp n : Int32} (hok : cpyOk (al q0) (al q) sp dp n) (hframes : 1 ≤ R.frames) (hlocals : (rest.map fun v => v.category).sum + (nativeFrameWords "java/lang/System" "arraycopy" 5 + 11) ≤ R.locals) (hdg : decode cc pc = .ok (.invokestatic index, 3))
    (kk : ∀ (H1 : Heap) (locs1 : List Loc), va_P D vwCl (tw base cA (wC μ q0 sp.toNatClampNeg q dp.toNatClampNeg n.toNatClampNeg) ex) H1 → va_S A H0 H1 locs1 → W p l e R s m args below meth c H1 locs1 cells slots Q (F0 m (pc + 3) ls (rest))) : W p l e R s m args below meth c H locs cells slots Q (F0 m pc ls (.int n :: .int dp :: .ref (base + q) :: .int sp :: .ref (base + q0) :: rest)) := by
  obtain ⟨⟨h1, h2, h3⟩, h4, h5⟩ := hok
  refine va_copyi hexec hb hml hown hlink hnat hstat hini hK hP hD hS q0 q 0 0 (tw_int hq0) (tw_int hq) rfl rfl rfl h1 h2 h3 h4 h5 (fun _ _ => rfl) hframes hlocals hdg (fun H1 l1 h1 h2 h3 => ?_)
  rw [tw_cpy hq] at h1
  exact kk H1 l1 h1 h3
theorem t_cVi {y : MethodName} {bytes : ByteArray} {maxL nL mc ms n index : Nat} {ret : Option FieldType} {ws : List Cond} {rm : Room} {Ts : List Cond} {own : String} {C : String} {b : Nat} {As : List Value} {μ' : MM} {r : Int32} {sz0 : Nat} (FX : CallFix p m c cc nL s args Ts own) (hM : Met l y ws rm (va_Pc (.ref b :: As) (tPre D cA base H.size μ)) (va_Qi (fun (x : Int32) (_ : Unit) => x = r) (fun _ => tPost D cA base μ') (tA base H.size)) mc ms (tA base H.size)) (cw : CallW R s args own C index y bytes maxL ret ws rm mc ms n) (hrec : ∃ cell : Cell, H[b]? = some cell ∧ cell.vm.isStatics = false ∧ s.vm.findClass C = some cell.cls) (hK : va_K D vwCl (tys cA) s) (hN : tN s) (hP : va_P D vwCl (tw base cA μ []) H) (hS : va_S (tA base sz0) H0 H locs) (hz : sz0 ≤ H0.size) (hn : As.length = n) (hsize : ls.size = nL) (hW : (rest.map fun v => v.category).sum ≤ 8) (hdg : decode cc pc = .ok (.invokevirtual index, 3)) (hf : cells + mc ≤ R.cells ∧ slots + ms ≤ R.slots) {st : List Value} (hst : st = As.reverse ++ .ref b :: rest)
    (kk : ∀ (H1 : Heap) (locs1 : List Loc), va_P D vwCl (tw base cA μ' []) H1 → va_S (tA base sz0) H0 H1 locs1 → W p l e R s m args below meth c H1 locs1 (cells + mc) (slots + ms) Q (F0 m (pc + 3) ls (.int r :: rest))) : W p l e R s m args below meth c H locs cells slots Q (F0 m pc ls (st)) := by
  have hz2 : sz0 ≤ H.size := Nat.le_trans hz hS.1
  refine va_calli (va_runV (As := As) (rest := rest) FX hM cw ⟨tBlind, hrec, tUse hK hN hP⟩ rfl hn hsize hst (lv_room hW) hdg hf) hS (fun q _ h => tA_up hz2 q h) (fun q h => tA_up hz2 q h) (fun x _ t H1 locs1 ht hvm hw hB hz1 hk1 hS1 => ?_)
  subst hw
  exact kk H1 locs1 (by have hB : va_P D vwCl (tw base cA μ' []) t.heap := hB
                        rw [ht] at hB
                        exact hB) hS1
theorem t_cVl {y : MethodName} {bytes : ByteArray} {maxL nL mc ms n index : Nat} {ret : Option FieldType} {ws : List Cond} {rm : Room} {Ts : List Cond} {own : String} {C : String} {b : Nat} {As : List Value} {μ' : MM} {r : Int64} {sz0 : Nat} (FX : CallFix p m c cc nL s args Ts own) (hM : Met l y ws rm (va_Pc (.ref b :: As) (tPre D cA base H.size μ)) (va_Ql (fun (x : Int64) (_ : Unit) => x = r) (fun _ => tPost D cA base μ') (tA base H.size)) mc ms (tA base H.size)) (cw : CallW R s args own C index y bytes maxL ret ws rm mc ms n) (hrec : ∃ cell : Cell, H[b]? = some cell ∧ cell.vm.isStatics = false ∧ s.vm.findClass C = some cell.cls) (hK : va_K D vwCl (tys cA) s) (hN : tN s) (hP : va_P D vwCl (tw base cA μ []) H) (hS : va_S (tA base sz0) H0 H locs) (hz : sz0 ≤ H0.size) (hn : As.length = n) (hsize : ls.size = nL) (hW : (rest.map fun v => v.category).sum ≤ 8) (hdg : decode cc pc = .ok (.invokevirtual index, 3)) (hf : cells + mc ≤ R.cells ∧ slots + ms ≤ R.slots) {st : List Value} (hst : st = As.reverse ++ .ref b :: rest)
    (kk : ∀ (H1 : Heap) (locs1 : List Loc), va_P D vwCl (tw base cA μ' []) H1 → va_S (tA base sz0) H0 H1 locs1 → W p l e R s m args below meth c H1 locs1 (cells + mc) (slots + ms) Q (F0 m (pc + 3) ls (.long r :: rest))) : W p l e R s m args below meth c H locs cells slots Q (F0 m pc ls (st)) := by
  have hz2 : sz0 ≤ H.size := Nat.le_trans hz hS.1
  refine va_calll (va_runV (As := As) (rest := rest) FX hM cw ⟨tBlind, hrec, tUse hK hN hP⟩ rfl hn hsize hst (lv_room hW) hdg hf) hS (fun q _ h => tA_up hz2 q h) (fun q h => tA_up hz2 q h) (fun x _ t H1 locs1 ht hvm hw hB hz1 hk1 hS1 => ?_)
  subst hw
  exact kk H1 locs1 (by have hB : va_P D vwCl (tw base cA μ' []) t.heap := hB
                        rw [ht] at hB
                        exact hB) hS1
theorem t_cVv {y : MethodName} {bytes : ByteArray} {maxL nL mc ms n index : Nat} {ret : Option FieldType} {ws : List Cond} {rm : Room} {Ts : List Cond} {own : String} {C : String} {b : Nat} {As : List Value} {μ' : MM} {sz0 : Nat} (FX : CallFix p m c cc nL s args Ts own) (hM : Met l y ws rm (va_Pc (.ref b :: As) (tPre D cA base H.size μ)) (va_Qv (fun _ : Unit => True) (fun _ => tPost D cA base μ') (tA base H.size)) mc ms (tA base H.size)) (cw : CallW R s args own C index y bytes maxL ret ws rm mc ms n) (hrec : ∃ cell : Cell, H[b]? = some cell ∧ cell.vm.isStatics = false ∧ s.vm.findClass C = some cell.cls) (hK : va_K D vwCl (tys cA) s) (hN : tN s) (hP : va_P D vwCl (tw base cA μ []) H) (hS : va_S (tA base sz0) H0 H locs) (hz : sz0 ≤ H0.size) (hn : As.length = n) (hsize : ls.size = nL) (hW : (rest.map fun v => v.category).sum ≤ 8) (hdg : decode cc pc = .ok (.invokevirtual index, 3)) (hf : cells + mc ≤ R.cells ∧ slots + ms ≤ R.slots) {st : List Value} (hst : st = As.reverse ++ .ref b :: rest)
    (kk : ∀ (H1 : Heap) (locs1 : List Loc), va_P D vwCl (tw base cA μ' []) H1 → va_S (tA base sz0) H0 H1 locs1 → W p l e R s m args below meth c H1 locs1 (cells + mc) (slots + ms) Q (F0 m (pc + 3) ls (rest))) : W p l e R s m args below meth c H locs cells slots Q (F0 m pc ls (st)) := by
  have hz2 : sz0 ≤ H.size := Nat.le_trans hz hS.1
  refine va_callv (va_runV (As := As) (rest := rest) FX hM cw ⟨tBlind, hrec, tUse hK hN hP⟩ rfl hn hsize hst (lv_room hW) hdg hf) hS (fun q _ h => tA_up hz2 q h) (fun q h => tA_up hz2 q h) (fun _ t H1 locs1 ht hvm hw hB hz1 hk1 hS1 => ?_)
  exact kk H1 locs1 (by have hB : va_P D vwCl (tw base cA μ' []) t.heap := hB
                        rw [ht] at hB
                        exact hB) hS1
theorem t_cVr {y : MethodName} {bytes : ByteArray} {maxL nL mc ms n index : Nat} {ret : Option FieldType} {ws : List Cond} {rm : Room} {Ts : List Cond} {own : String} {C : String} {b : Nat} {As : List Value} {μ' : MM} {r : Nat} {sz0 : Nat} (FX : CallFix p m c cc nL s args Ts own) (hM : Met l y ws rm (va_Pc (.ref b :: As) (tPre D cA base H.size μ)) (va_Qr (fun _ : Unit => True) (fun _ a t => a = base + r ∧ tPost D cA base μ' t) (tA base H.size)) mc ms (tA base H.size)) (cw : CallW R s args own C index y bytes maxL ret ws rm mc ms n) (hrec : ∃ cell : Cell, H[b]? = some cell ∧ cell.vm.isStatics = false ∧ s.vm.findClass C = some cell.cls) (hK : va_K D vwCl (tys cA) s) (hN : tN s) (hP : va_P D vwCl (tw base cA μ []) H) (hS : va_S (tA base sz0) H0 H locs) (hz : sz0 ≤ H0.size) (hn : As.length = n) (hsize : ls.size = nL) (hW : (rest.map fun v => v.category).sum ≤ 8) (hdg : decode cc pc = .ok (.invokevirtual index, 3)) (hf : cells + mc ≤ R.cells ∧ slots + ms ≤ R.slots) {st : List Value} (hst : st = As.reverse ++ .ref b :: rest)
    (kk : ∀ (H1 : Heap) (locs1 : List Loc), va_P D vwCl (tw base cA μ' []) H1 → va_S (tA base sz0) H0 H1 locs1 → W p l e R s m args below meth c H1 locs1 (cells + mc) (slots + ms) Q (F0 m (pc + 3) ls (.ref (base + r) :: rest))) : W p l e R s m args below meth c H locs cells slots Q (F0 m pc ls (st)) := by
  have hz2 : sz0 ≤ H.size := Nat.le_trans hz hS.1
  refine va_callr (va_runV (As := As) (rest := rest) FX hM cw ⟨tBlind, hrec, tUse hK hN hP⟩ rfl hn hsize hst (lv_room hW) hdg hf) hS (fun q _ h => tA_up hz2 q h) (fun q h => tA_up hz2 q h) (fun _ a t H1 locs1 ht hvm hw hB hz1 hk1 hS1 => ?_)
  obtain ⟨rfl, hB⟩ := hB
  exact kk H1 locs1 (by have hB : va_P D vwCl (tw base cA μ' []) t.heap := hB
                        rw [ht] at hB
                        exact hB) hS1
theorem t_cSi {y : MethodName} {bytes : ByteArray} {maxL nL mc ms n index : Nat} {ret : Option FieldType} {ws : List Cond} {rm : Room} {Ts : List Cond} {own : String} {As : List Value} {μ' : MM} {r : Int32} {sz0 : Nat} (FX : CallFix p m c cc nL s args Ts own) (hM : Met l y ws rm (va_Pc (As) (tPre D cA base H.size μ)) (va_Qi (fun (x : Int32) (_ : Unit) => x = r) (fun _ => tPost D cA base μ') (tA base H.size)) mc ms (tA base H.size)) (cw : CallB R s args own index y bytes maxL ret ws rm mc ms n ∧ (Cond.static y).before args s = true) (hK : va_K D vwCl (tys cA) s) (hN : tN s) (hP : va_P D vwCl (tw base cA μ []) H) (hS : va_S (tA base sz0) H0 H locs) (hz : sz0 ≤ H0.size) (hn : As.length = n) (hsize : ls.size = nL) (hW : (rest.map fun v => v.category).sum ≤ 8) (hdg : decode cc pc = .ok (.invokestatic index, 3)) (hf : cells + mc ≤ R.cells ∧ slots + ms ≤ R.slots) {st : List Value} (hst : st = As.reverse ++ rest)
    (kk : ∀ (H1 : Heap) (locs1 : List Loc), va_P D vwCl (tw base cA μ' []) H1 → va_S (tA base sz0) H0 H1 locs1 → W p l e R s m args below meth c H1 locs1 (cells + mc) (slots + ms) Q (F0 m (pc + 3) ls (.int r :: rest))) : W p l e R s m args below meth c H locs cells slots Q (F0 m pc ls (st)) := by
  have hz2 : sz0 ≤ H.size := Nat.le_trans hz hS.1
  refine va_calli (va_runS (As := As) (rest := rest) FX hM cw ⟨tBlind, tUse hK hN hP⟩ rfl hn hsize hst (lv_room hW) hdg hf) hS (fun q _ h => tA_up hz2 q h) (fun q h => tA_up hz2 q h) (fun x _ t H1 locs1 ht hvm hw hB hz1 hk1 hS1 => ?_)
  subst hw
  exact kk H1 locs1 (by have hB : va_P D vwCl (tw base cA μ' []) t.heap := hB
                        rw [ht] at hB
                        exact hB) hS1
theorem t_cSl {y : MethodName} {bytes : ByteArray} {maxL nL mc ms n index : Nat} {ret : Option FieldType} {ws : List Cond} {rm : Room} {Ts : List Cond} {own : String} {As : List Value} {μ' : MM} {r : Int64} {sz0 : Nat} (FX : CallFix p m c cc nL s args Ts own) (hM : Met l y ws rm (va_Pc (As) (tPre D cA base H.size μ)) (va_Ql (fun (x : Int64) (_ : Unit) => x = r) (fun _ => tPost D cA base μ') (tA base H.size)) mc ms (tA base H.size)) (cw : CallB R s args own index y bytes maxL ret ws rm mc ms n ∧ (Cond.static y).before args s = true) (hK : va_K D vwCl (tys cA) s) (hN : tN s) (hP : va_P D vwCl (tw base cA μ []) H) (hS : va_S (tA base sz0) H0 H locs) (hz : sz0 ≤ H0.size) (hn : As.length = n) (hsize : ls.size = nL) (hW : (rest.map fun v => v.category).sum ≤ 8) (hdg : decode cc pc = .ok (.invokestatic index, 3)) (hf : cells + mc ≤ R.cells ∧ slots + ms ≤ R.slots) {st : List Value} (hst : st = As.reverse ++ rest)
    (kk : ∀ (H1 : Heap) (locs1 : List Loc), va_P D vwCl (tw base cA μ' []) H1 → va_S (tA base sz0) H0 H1 locs1 → W p l e R s m args below meth c H1 locs1 (cells + mc) (slots + ms) Q (F0 m (pc + 3) ls (.long r :: rest))) : W p l e R s m args below meth c H locs cells slots Q (F0 m pc ls (st)) := by
  have hz2 : sz0 ≤ H.size := Nat.le_trans hz hS.1
  refine va_calll (va_runS (As := As) (rest := rest) FX hM cw ⟨tBlind, tUse hK hN hP⟩ rfl hn hsize hst (lv_room hW) hdg hf) hS (fun q _ h => tA_up hz2 q h) (fun q h => tA_up hz2 q h) (fun x _ t H1 locs1 ht hvm hw hB hz1 hk1 hS1 => ?_)
  subst hw
  exact kk H1 locs1 (by have hB : va_P D vwCl (tw base cA μ' []) t.heap := hB
                        rw [ht] at hB
                        exact hB) hS1
theorem t_cSv {y : MethodName} {bytes : ByteArray} {maxL nL mc ms n index : Nat} {ret : Option FieldType} {ws : List Cond} {rm : Room} {Ts : List Cond} {own : String} {As : List Value} {μ' : MM} {sz0 : Nat} (FX : CallFix p m c cc nL s args Ts own) (hM : Met l y ws rm (va_Pc (As) (tPre D cA base H.size μ)) (va_Qv (fun _ : Unit => True) (fun _ => tPost D cA base μ') (tA base H.size)) mc ms (tA base H.size)) (cw : CallB R s args own index y bytes maxL ret ws rm mc ms n ∧ (Cond.static y).before args s = true) (hK : va_K D vwCl (tys cA) s) (hN : tN s) (hP : va_P D vwCl (tw base cA μ []) H) (hS : va_S (tA base sz0) H0 H locs) (hz : sz0 ≤ H0.size) (hn : As.length = n) (hsize : ls.size = nL) (hW : (rest.map fun v => v.category).sum ≤ 8) (hdg : decode cc pc = .ok (.invokestatic index, 3)) (hf : cells + mc ≤ R.cells ∧ slots + ms ≤ R.slots) {st : List Value} (hst : st = As.reverse ++ rest)
    (kk : ∀ (H1 : Heap) (locs1 : List Loc), va_P D vwCl (tw base cA μ' []) H1 → va_S (tA base sz0) H0 H1 locs1 → W p l e R s m args below meth c H1 locs1 (cells + mc) (slots + ms) Q (F0 m (pc + 3) ls (rest))) : W p l e R s m args below meth c H locs cells slots Q (F0 m pc ls (st)) := by
  have hz2 : sz0 ≤ H.size := Nat.le_trans hz hS.1
  refine va_callv (va_runS (As := As) (rest := rest) FX hM cw ⟨tBlind, tUse hK hN hP⟩ rfl hn hsize hst (lv_room hW) hdg hf) hS (fun q _ h => tA_up hz2 q h) (fun q h => tA_up hz2 q h) (fun _ t H1 locs1 ht hvm hw hB hz1 hk1 hS1 => ?_)
  exact kk H1 locs1 (by have hB : va_P D vwCl (tw base cA μ' []) t.heap := hB
                        rw [ht] at hB
                        exact hB) hS1
theorem t_cSNi {y : MethodName} {bytes : ByteArray} {maxL nL mc ms n index : Nat} {ret : Option FieldType} {ws : List Cond} {rm : Room} {Ts : List Cond} {own : String} {host : String} {As : List Value} {μ' : MM} {r : Int32} {sz0 : Nat} (FX : CallFix p m c cc nL s args Ts own) (hM : Met l y ws rm (va_Pc (As) (tPre D cA base H.size μ)) (va_Qi (fun (x : Int32) (_ : Unit) => x = r) (fun _ => tPost D cA base μ') (tA base H.size)) mc ms (tA base H.size)) (cw : va_CN R s args own index y host bytes maxL ret ws rm mc ms n ∧ (Cond.static y).before args s = true ∧ True) (hK : va_K D vwCl (tys cA) s) (hN : tN s) (hP : va_P D vwCl (tw base cA μ []) H) (hS : va_S (tA base sz0) H0 H locs) (hz : sz0 ≤ H0.size) (hn : As.length = n) (hsize : ls.size = nL) (hW : (rest.map fun v => v.category).sum ≤ 8) (hdg : decode cc pc = .ok (.invokestatic index, 3)) (hf : cells + mc ≤ R.cells ∧ slots + ms ≤ R.slots) {st : List Value} (hst : st = As.reverse ++ rest)
    (kk : ∀ (H1 : Heap) (locs1 : List Loc), va_P D vwCl (tw base cA μ' []) H1 → va_S (tA base sz0) H0 H1 locs1 → W p l e R s m args below meth c H1 locs1 (cells + mc) (slots + ms) Q (F0 m (pc + 3) ls (.int r :: rest))) : W p l e R s m args below meth c H locs cells slots Q (F0 m pc ls (st)) := by
  have hz2 : sz0 ≤ H.size := Nat.le_trans hz hS.1
  refine va_calli (va_runSN (As := As) (rest := rest) FX hM cw ⟨tBlind, tUse hK hN hP⟩ rfl hn hsize hst (lv_room hW) hdg hf) hS (fun q _ h => tA_up hz2 q h) (fun q h => tA_up hz2 q h) (fun x _ t H1 locs1 ht hvm hw hB hz1 hk1 hS1 => ?_)
  subst hw
  exact kk H1 locs1 (by have hB : va_P D vwCl (tw base cA μ' []) t.heap := hB
                        rw [ht] at hB
                        exact hB) hS1
theorem t_cSNl {y : MethodName} {bytes : ByteArray} {maxL nL mc ms n index : Nat} {ret : Option FieldType} {ws : List Cond} {rm : Room} {Ts : List Cond} {own : String} {host : String} {As : List Value} {μ' : MM} {r : Int64} {sz0 : Nat} (FX : CallFix p m c cc nL s args Ts own) (hM : Met l y ws rm (va_Pc (As) (tPre D cA base H.size μ)) (va_Ql (fun (x : Int64) (_ : Unit) => x = r) (fun _ => tPost D cA base μ') (tA base H.size)) mc ms (tA base H.size)) (cw : va_CN R s args own index y host bytes maxL ret ws rm mc ms n ∧ (Cond.static y).before args s = true ∧ True) (hK : va_K D vwCl (tys cA) s) (hN : tN s) (hP : va_P D vwCl (tw base cA μ []) H) (hS : va_S (tA base sz0) H0 H locs) (hz : sz0 ≤ H0.size) (hn : As.length = n) (hsize : ls.size = nL) (hW : (rest.map fun v => v.category).sum ≤ 8) (hdg : decode cc pc = .ok (.invokestatic index, 3)) (hf : cells + mc ≤ R.cells ∧ slots + ms ≤ R.slots) {st : List Value} (hst : st = As.reverse ++ rest)
    (kk : ∀ (H1 : Heap) (locs1 : List Loc), va_P D vwCl (tw base cA μ' []) H1 → va_S (tA base sz0) H0 H1 locs1 → W p l e R s m args below meth c H1 locs1 (cells + mc) (slots + ms) Q (F0 m (pc + 3) ls (.long r :: rest))) : W p l e R s m args below meth c H locs cells slots Q (F0 m pc ls (st)) := by
  have hz2 : sz0 ≤ H.size := Nat.le_trans hz hS.1
  refine va_calll (va_runSN (As := As) (rest := rest) FX hM cw ⟨tBlind, tUse hK hN hP⟩ rfl hn hsize hst (lv_room hW) hdg hf) hS (fun q _ h => tA_up hz2 q h) (fun q h => tA_up hz2 q h) (fun x _ t H1 locs1 ht hvm hw hB hz1 hk1 hS1 => ?_)
  subst hw
  exact kk H1 locs1 (by have hB : va_P D vwCl (tw base cA μ' []) t.heap := hB
                        rw [ht] at hB
                        exact hB) hS1
theorem t_cSNv {y : MethodName} {bytes : ByteArray} {maxL nL mc ms n index : Nat} {ret : Option FieldType} {ws : List Cond} {rm : Room} {Ts : List Cond} {own : String} {host : String} {As : List Value} {μ' : MM} {sz0 : Nat} (FX : CallFix p m c cc nL s args Ts own) (hM : Met l y ws rm (va_Pc (As) (tPre D cA base H.size μ)) (va_Qv (fun _ : Unit => True) (fun _ => tPost D cA base μ') (tA base H.size)) mc ms (tA base H.size)) (cw : va_CN R s args own index y host bytes maxL ret ws rm mc ms n ∧ (Cond.static y).before args s = true ∧ True) (hK : va_K D vwCl (tys cA) s) (hN : tN s) (hP : va_P D vwCl (tw base cA μ []) H) (hS : va_S (tA base sz0) H0 H locs) (hz : sz0 ≤ H0.size) (hn : As.length = n) (hsize : ls.size = nL) (hW : (rest.map fun v => v.category).sum ≤ 8) (hdg : decode cc pc = .ok (.invokestatic index, 3)) (hf : cells + mc ≤ R.cells ∧ slots + ms ≤ R.slots) {st : List Value} (hst : st = As.reverse ++ rest)
    (kk : ∀ (H1 : Heap) (locs1 : List Loc), va_P D vwCl (tw base cA μ' []) H1 → va_S (tA base sz0) H0 H1 locs1 → W p l e R s m args below meth c H1 locs1 (cells + mc) (slots + ms) Q (F0 m (pc + 3) ls (rest))) : W p l e R s m args below meth c H locs cells slots Q (F0 m pc ls (st)) := by
  have hz2 : sz0 ≤ H.size := Nat.le_trans hz hS.1
  refine va_callv (va_runSN (As := As) (rest := rest) FX hM cw ⟨tBlind, tUse hK hN hP⟩ rfl hn hsize hst (lv_room hW) hdg hf) hS (fun q _ h => tA_up hz2 q h) (fun q h => tA_up hz2 q h) (fun _ t H1 locs1 ht hvm hw hB hz1 hk1 hS1 => ?_)
  exact kk H1 locs1 (by have hB : va_P D vwCl (tw base cA μ' []) t.heap := hB
                        rw [ht] at hB
                        exact hB) hS1
theorem tw_drop {D : va_G} {base : Nat} {cA : Nat → ClassId} {μ : MM} {ex : va_W} {H : Heap} (h : va_P D vwCl (tw base cA μ ex) H) : va_P D vwCl (tw base cA μ []) H := by
  intro k q hk
  rcases Nat.lt_or_ge k 178 with hi | hi
  · refine h k q ?_
    rw [tw_at hi] at hk ⊢
    exact hk
  · obtain ⟨j, rfl⟩ : ∃ j, k = 178 + j := ⟨k - 178, by omega⟩
    rw [tw_ex] at hk
    simp at hk
theorem tw_push {base : Nat} {cA : Nat → ClassId} {μ : MM} {x : Nat × va_E} : tw base cA μ [] ++ [x] = tw base cA μ [x] := by
  unfold tw
  simp
theorem t_newi (hexec : p.tables.exec = Jvm.exec) (hb : c.code = cc) (harr : (Cond.arrayClass .int).before args s = true) (hK : va_K D vwCl (tys cA) s) (hP : va_P D vwCl (tw base cA μ []) H) {sz0 : Nat} (hS : va_S (tA base sz0) H0 H locs) (hz : sz0 ≤ H0.size) {n : Int32} {N' : Nat} (hn : ¬ n < 0) (hN : n.toNatClampNeg = N') (hbytes : N' * componentBytes .int ≤ 536870912) (hcells : cells + 1 ≤ R.cells) (hslots : slots + N' ≤ R.slots) (hdg : decode cc pc = .ok (.newarray .int, 2))
    (kk : ∀ (q : Nat) (cT : ClassId) (H1 : Heap), va_K D vwCl (tys cA ++ [(cT, .int)]) s → va_P D vwCl (tw base cA μ [(q, .inl (cT, N', .inl (fun _ => 0)))]) H1 → va_D (tA base sz0) (tw base cA μ [(q, .inl (cT, N', .inl (fun _ => 0)))]) → va_S (tA base sz0) H0 H1 locs → W p l e R s m args below meth c H1 locs (cells + 1) (slots + N') Q (F0 m (pc + 2) ls (.ref q :: rest))) : W p l e R s m args below meth c H locs cells slots Q (F0 m pc ls (.int n :: rest)) := by
  refine va_newa (atype := .int) (a0 := (N', .inl (fun _ => 0))) hexec hb harr rfl hK hP (tD _ _ _ _) hS (fun q h => Or.inr (Nat.le_trans hz h)) (fun _ => rfl) hn hN hbytes hcells hslots hdg (fun q cT H1 h1 h2 h3 h4 => ?_)
  rw [tw_push] at h2 h3
  exact kk q cT H1 h1 h2 h3 h4
theorem t_iastT (hexec : p.tables.exec = Jvm.exec) (hb : c.code = cc) {cT : ClassId} {N qt : Nat} {f : Nat → Int32} (hK : va_K D vwCl (tys cA ++ [(cT, .int)]) s) (hP : va_P D vwCl (tw base cA μ [(qt, .inl (cT, N, .inl f))]) H) (hD : va_D A (tw base cA μ [(qt, .inl (cT, N, .inl f))])) (hS : va_S A H0 H locs) {i x : Int32} (hin : vp_in i N) (hdg : decode cc pc = .ok (.iastore, 1))
    (kk : ∀ (H1 : Heap) (locs1 : List Loc), va_P D vwCl (tw base cA μ [(qt, .inl (cT, N, .inl (upd f i.toNatClampNeg x)))]) H1 → va_D A (tw base cA μ [(qt, .inl (cT, N, .inl (upd f i.toNatClampNeg x)))]) → va_S A H0 H1 locs1 → W p l e R s m args below meth c H1 locs1 cells slots Q (F0 m (pc + 1) ls rest)) : W p l e R s m args below meth c H locs cells slots Q (F0 m pc ls (.int x :: .int i :: .ref qt :: rest)) := by
  refine va_iast hexec hb hK hP hD hS 178 4 (tw_ex 0) rfl hin hdg (fun H1 l1 h1 h2 h3 => ?_)
  have e : (tw base cA μ [(qt, .inl (cT, N, .inl f))]).set 178 (qt, .inl (cT, N, .inl (upd f i.toNatClampNeg x))) = tw base cA μ [(qt, .inl (cT, N, .inl (upd f i.toNatClampNeg x)))] := tw_setex 0 _
  rw [e] at h1 h2
  exact kk H1 l1 h1 h2 h3
theorem t_ialdT (hexec : p.tables.exec = Jvm.exec) (hb : c.code = cc) {cT : ClassId} {N qt : Nat} {f : Nat → Int32} (hK : va_K D vwCl (tys cA ++ [(cT, .int)]) s) (hP : va_P D vwCl (tw base cA μ [(qt, .inl (cT, N, .inl f))]) H) {i : Int32} (hin : vp_in i N) (hdg : decode cc pc = .ok (.iaload, 1))
    (kk : W p l e R s m args below meth c H locs cells slots Q (F0 m (pc + 1) ls (.int (f i.toNatClampNeg) :: rest))) : W p l e R s m args below meth c H locs cells slots Q (F0 m pc ls (.int i :: .ref qt :: rest)) :=
  va_iald hexec hb hK hP 178 4 (tw_ex 0) rfl hin hdg kk
theorem t_cViT {y : MethodName} {bytes : ByteArray} {maxL nL mc ms n index : Nat} {ret : Option FieldType} {ws : List Cond} {rm : Room} {Ts : List Cond} {own C : String} {b : Nat} {As : List Value} {r : Int32} {sz0 qt : Nat} {et : va_E} (FX : CallFix p m c cc nL s args Ts own) (hM : Met l y ws rm (va_Pc (.ref b :: As) (tPre D cA base H.size μ)) (va_Qi (fun (x : Int32) (_ : Unit) => x = r) (fun _ => tPost D cA base μ) (tA base H.size)) mc ms (tA base H.size)) (cw : CallW R s args own C index y bytes maxL ret ws rm mc ms n) (hrec : ∃ cell : Cell, H[b]? = some cell ∧ cell.vm.isStatics = false ∧ s.vm.findClass C = some cell.cls) (hK : va_K D vwCl (tys cA) s) (hN : tN s) (hP : va_P D vwCl (tw base cA μ [(qt, et)]) H) (hD : va_D (tA base sz0) (tw base cA μ [(qt, et)])) (hS : va_S (tA base sz0) H0 H locs) (hz : sz0 ≤ H0.size) (hn : As.length = n) (hsize : ls.size = nL) (hW : (rest.map fun v => v.category).sum ≤ 8) (hdg : decode cc pc = .ok (.invokevirtual index, 3)) (hf : cells + mc ≤ R.cells ∧ slots + ms ≤ R.slots) {st : List Value} (hst : st = As.reverse ++ .ref b :: rest)
    (kk : ∀ (H1 : Heap) (locs1 : List Loc), va_P D vwCl (tw base cA μ [(qt, et)]) H1 → va_D (tA base sz0) (tw base cA μ [(qt, et)]) → va_S (tA base sz0) H0 H1 locs1 → W p l e R s m args below meth c H1 locs1 (cells + mc) (slots + ms) Q (F0 m (pc + 3) ls (.int r :: rest))) : W p l e R s m args below meth c H locs cells slots Q (F0 m pc ls st) := by
  have hz2 : sz0 ≤ H.size := Nat.le_trans hz hS.1
  have hP0 := tw_drop hP
  have hlt : qt < H.size := (hP 178 (qt, et) (tw_ex 0)).lt
  have hno : ¬ tA base H.size qt := by
    intro h
    rcases h with h | h
    · have h1 : (tw base cA μ [(qt, et)])[qt - base]? = some (base + (qt - base), tc base cA μ (qt - base)) := tw_at (by omega)
      have h2 : (tw base cA μ [(qt, et)])[178]? = some (qt, et) := tw_ex 0
      have := hD.1 _ _ _ _ h1 h2 (by show base + (qt - base) = qt; omega)
      omega
    · omega
  refine va_calli (va_runV (As := As) (rest := rest) FX hM cw ⟨tBlind, hrec, tUse hK hN hP0⟩ rfl hn hsize hst (lv_room hW) hdg hf) hS (fun q _ h => tA_up hz2 q h) (fun q h => tA_up hz2 q h) (fun x _ t H1 locs1 ht hvm hw hB hz1 hk1 hS1 => ?_)
  subst hw
  have hB : va_P D vwCl (tw base cA μ []) t.heap := hB
  rw [ht] at hB
  refine kk H1 locs1 (fun k q hk => ?_) hD hS1
  rcases Nat.lt_or_ge k 178 with hi | hi
  · refine hB k q ?_
    rw [tw_at hi] at hk ⊢
    exact hk
  · obtain ⟨j, rfl⟩ : ∃ j, k = 178 + j := ⟨k - 178, by omega⟩
    have h1 := hP _ q hk
    rw [tw_ex] at hk
    match j, hk with
    | 0, hk =>
      cases hk
      exact h1.kept (hk1 qt hlt hno)
    | j + 1, hk => simp at hk
def isDC : Cond → Bool
  | .declares _ => true
  | .castable _ _ => true
  | _ => false
theorem va_Nw.warmDC {w : Cond} (hd : isDC w = true) {s U : State} (hW : s.WarmedH U.vm) (h : va_Nw w s) : va_Nw w U := by
  cases w with
  | declares x => exact va_Nw.warmD hW h
  | castable a b => exact va_Nw.warmC hW h
  | _ => cases hd
theorem onT_DC {w : Cond} (hd : isDC w = true) : w.onTables = true := by
  cases w with
  | declares x => rfl
  | castable a b => rfl
  | _ => cases hd
abbrev eA : String := "java/lang/IllegalArgumentException"
abbrev eS : String := "java/lang/IllegalStateException"
abbrev eX : String := "java/lang/IndexOutOfBoundsException"
abbrev eN : List String := ["java/lang/RuntimeException", "java/lang/Exception"]
def xBad : List Cond := (vx_atS RX6 178 eA eN).filter (fun w => !goodWord w) ++ ((vx_atS RX6 183 eS eN).filter (fun w => !goodWord w) ++ ((vx_atS RX6 171 eX eN).filter (fun w => !goodWord w) ++ [.castable eA eA, .castable eS eS, .castable eX eX]))
theorem xBad_DC : xBad.all isDC = true := by decide +kernel
/-- what the world of a throwing method holds besides -/
def tX (base sz : Nat) (U : State) : Prop := ((∃ a, vk_R RX6 169 "there is no such thing" a U) ∧ (∃ a, vk_R RX6 176 "an argument is not allowed" a U) ∧ (∃ a, vk_R RX6 181 "there is no room for it" a U)) ∧ (∀ w ∈ xBad, va_Nw w U) ∧ (va_Nc eS eA U ∧ va_Nc eA eX U ∧ va_Nc eS eX U) ∧ vx_Zq Bundle.tN "UNASSIGNED_STACK" Bundle.steD (tA base sz) U U.heap ∧ vx_Zq Bundle.tN "SUPPRESSED_SENTINEL" Bundle.listD (tA base sz) U U.heap
theorem tX.use {base : Nat} {s : State} {H : Heap} {locs : List Loc} (h : tX base s.heap.size s) (hS : va_S (tA base s.heap.size) s.heap H locs) : ∀ U : State, U.heap = H → s.WarmedH U.vm → tX base H.size U := by
  intro U hU hW
  obtain ⟨⟨⟨a1, h1⟩, ⟨a2, h2⟩, ⟨a3, h3⟩⟩, h4, ⟨h5, h6, h7⟩, h8, h9⟩ := h
  subst hU
  exact ⟨⟨⟨a1, vk_R.warm hW h1⟩, ⟨a2, vk_R.warm hW h2⟩, ⟨a3, vk_R.warm hW h3⟩⟩, fun w hw => va_Nw.warmDC (List.all_eq_true.mp xBad_DC w hw) hW (h4 w hw), ⟨va_Nc.moved hW.alike h5, va_Nc.moved hW.alike h6, va_Nc.moved hW.alike h7⟩, ((vx_Zq.moved hW.alike h8).kept hS.2.1).narrow (tA_up hS.1), ((vx_Zq.moved hW.alike h9).kept hS.2.1).narrow (tA_up hS.1)⟩
def tPreX (D : va_G) (cA : Nat → ClassId) (base sz : Nat) (μ : MM) : State → Prop := fun U => tPre D cA base sz μ U ∧ tX base sz U
theorem tBlindX {D : va_G} {cA : Nat → ClassId} {base sz : Nat} {μ : MM} {av : List Value} : FrameBlind (va_Pc av (tPreX D cA base sz μ)) := by
  intro a U g mk q
  obtain ⟨q0, q1, q2⟩ := q
  obtain ⟨⟨⟨a1, h1⟩, ⟨a2, h2⟩, ⟨a3, h3⟩⟩, h4, ⟨h5, h6, h7⟩, h8, h9⟩ := q2
  have al : U.vm.Alike (U.calling g mk a).vm := Vm.Alike.refl U.vm
  refine ⟨q0, (tBlind (av := av) a U g mk ⟨q0, q1⟩).2, ⟨⟨a1, vk_R.same (u := U) (U := U.calling g mk a) rfl h1⟩, ⟨a2, vk_R.same (u := U) (U := U.calling g mk a) rfl h2⟩, ⟨a3, vk_R.same (u := U) (U := U.calling g mk a) rfl h3⟩⟩, fun w hw => va_Nw.same (onT_DC (List.all_eq_true.mp xBad_DC w hw)) (u := U) (U := U.calling g mk a) rfl (h4 w hw), ⟨va_Nc.moved al h5, va_Nc.moved al h6, va_Nc.moved al h7⟩, vx_Zq.moved al h8, vx_Zq.moved al h9⟩
theorem tUseX {D : va_G} {cA : Nat → ClassId} {base : Nat} {μ : MM} {av : List Value} {s : State} {H : Heap} {locs : List Loc} (hK : va_K D vwCl (tys cA) s) (hN : tN s) (hX : tX base s.heap.size s) (hP : va_P D vwCl (tw base cA μ []) H) (hS : va_S (tA base s.heap.size) s.heap H locs) : ∀ U : State, U.heap = H → s.WarmedH U.vm → va_Pc av (tPreX D cA base H.size μ) av.toArray U := by
  intro U hU hW
  exact ⟨rfl, (tUse (av := av) hK hN hP U hU hW).2, tX.use hX hS U hU hW⟩
def exn (kd : Nat) (E : String) : Prop := (kd = 1 ∧ E = eA) ∨ (kd = 2 ∧ E = eS) ∨ (kd = 3 ∧ E = eX)
theorem t_chk {y : MethodName} {bytes : ByteArray} {maxL nL mc ms n index : Nat} {ret : Option FieldType} {ws : List Cond} {rm : Room} {Ts : List Cond} {own EN : String} {b : Int32} (FX : CallFix p m c cc nL s args Ts own) (hM : vx_Met l y ws rm (va_Pc [.int b] (tPreX D cA base H.size μ)) (va_Qv (fun _ : Unit => ¬ b = 0) (fun _ => tPost D cA base μ) (tA base H.size)) (vx_X (fun _ : Unit => b = 0) (fun E _ t => E = EN ∧ tPost D cA base μ t) (tA base H.size)) mc ms (tA base H.size)) (cw : CallB R s args own index y bytes maxL ret ws rm mc ms n ∧ (Cond.static y).before args s = true) (hK : va_K D vwCl (tys cA) s) (hN : tN s) (hX : tX base s.heap.size s) (hP : va_P D vwCl (tw base cA μ []) H) (hS : va_S (tA base s.heap.size) s.heap H locs) (hn : 1 = n) (hsize : ls.size = nL) (hW : (rest.map fun v => v.category).sum ≤ 8) (hdg : decode cc pc = .ok (.invokestatic index, 3)) (hf : cells + mc ≤ R.cells ∧ slots + ms ≤ R.slots)
    (kk : ¬ b = 0 → ∀ (H1 : Heap) (locs1 : List Loc), va_P D vwCl (tw base cA μ []) H1 → va_S (tA base s.heap.size) s.heap H1 locs1 → W p l e R s m args below meth c H1 locs1 (cells + mc) (slots + ms) Q (F0 m (pc + 3) ls rest))
    (kx : b = 0 → ∀ (H1 : Heap) (locs1 : List Loc) (ce : Cell) (q9 : Addr), va_P D vwCl (tw base cA μ []) H1 → va_S (tA base s.heap.size) s.heap H1 locs1 → H1[q9]? = some ce → ce.vm = .none → s.vm.findClass EN = some ce.cls → vx_W p l e R s m args below meth c H1 locs1 (cells + mc) (slots + ms) Q (F0 m pc ls rest) q9) : W p l e R s m args below meth c H locs cells slots Q (F0 m pc ls (.int b :: rest)) := by
  refine vx_callv (vx_runS (As := [.int b]) (rest := rest) FX hM cw ⟨tBlindX, tUseX hK hN hX hP hS⟩ rfl hn hsize rfl (lv_room hW) hdg hf) hS (fun q _ h => tA_up hS.1 q h) (fun q h => tA_up hS.1 q h) (fun q _ h => tA_up hS.1 q h) (fun E ce q9 u t H1 locs1 ht hvm hp hB hz1 hk1 hS1 h1 h2 h3 => ?_) (fun u t H1 locs1 ht hvm hp hB hz1 hk1 hS1 => ?_)
  · obtain ⟨rfl, hB⟩ := hB
    have hB : va_P D vwCl (tw base cA μ []) t.heap := hB
    rw [ht] at hB
    exact kx hp H1 locs1 ce q9 hB hS1 h1 h2 h3
  · have hB : va_P D vwCl (tw base cA μ []) t.heap := hB
    rw [ht] at hB
    exact kk hp H1 locs1 hB hS1
theorem t_cVx {y : MethodName} {bytes : ByteArray} {maxL nL mc ms n index : Nat} {ret : Option FieldType} {ws : List Cond} {rm : Room} {Ts : List Cond} {own C : String} {b kd : Nat} {As : List Value} {μ' : MM} {r : Int32} (FX : CallFix p m c cc nL s args Ts own) (hM : vx_Met l y ws rm (va_Pc (.ref b :: As) (tPreX D cA base H.size μ)) (va_Qi (fun (x : Int32) (_ : Unit) => kd = 0 ∧ x = r) (fun _ => tPost D cA base μ') (tA base H.size)) (vx_X (fun _ : Unit => True) (fun E _ t => exn kd E ∧ tPost D cA base μ' t) (tA base H.size)) mc ms (tA base H.size)) (cw : CallW R s args own C index y bytes maxL ret ws rm mc ms n) (hrec : ∃ cell : Cell, H[b]? = some cell ∧ cell.vm.isStatics = false ∧ s.vm.findClass C = some cell.cls) (hK : va_K D vwCl (tys cA) s) (hN : tN s) (hX : tX base s.heap.size s) (hP : va_P D vwCl (tw base cA μ []) H) (hS : va_S (tA base s.heap.size) s.heap H locs) (hn : As.length = n) (hsize : ls.size = nL) (hW : (rest.map fun v => v.category).sum ≤ 8) (hdg : decode cc pc = .ok (.invokevirtual index, 3)) (hf : cells + mc ≤ R.cells ∧ slots + ms ≤ R.slots) {st : List Value} (hst : st = As.reverse ++ .ref b :: rest)
    (kk : kd = 0 → ∀ (H1 : Heap) (locs1 : List Loc), va_P D vwCl (tw base cA μ' []) H1 → va_S (tA base s.heap.size) s.heap H1 locs1 → W p l e R s m args below meth c H1 locs1 (cells + mc) (slots + ms) Q (F0 m (pc + 3) ls (.int r :: rest)))
    (kx : ∀ (E : String) (H1 : Heap) (locs1 : List Loc) (ce : Cell) (q9 : Addr), exn kd E → va_P D vwCl (tw base cA μ' []) H1 → va_S (tA base s.heap.size) s.heap H1 locs1 → H1[q9]? = some ce → ce.vm = .none → s.vm.findClass E = some ce.cls → vx_W p l e R s m args below meth c H1 locs1 (cells + mc) (slots + ms) Q (F0 m pc ls rest) q9) : W p l e R s m args below meth c H locs cells slots Q (F0 m pc ls st) := by
  refine vx_calli (vx_runV (As := As) (rest := rest) FX hM cw ⟨tBlindX, hrec, tUseX hK hN hX hP hS⟩ rfl hn hsize hst (lv_room hW) hdg hf) hS (fun q _ h => tA_up hS.1 q h) (fun q h => tA_up hS.1 q h) (fun q _ h => tA_up hS.1 q h) (fun E ce q9 u t H1 locs1 ht hvm hp hB hz1 hk1 hS1 h1 h2 h3 => ?_) (fun x u t H1 locs1 ht hvm hp hB hz1 hk1 hS1 => ?_)
  · obtain ⟨hE, hB⟩ := hB
    have hB : va_P D vwCl (tw base cA μ' []) t.heap := hB
    rw [ht] at hB
    exact kx E H1 locs1 ce q9 hE hB hS1 h1 h2 h3
  · obtain ⟨hkd, rfl⟩ := hp
    have hB : va_P D vwCl (tw base cA μ' []) t.heap := hB
    rw [ht] at hB
    exact kk hkd H1 locs1 hB hS1
end TR
