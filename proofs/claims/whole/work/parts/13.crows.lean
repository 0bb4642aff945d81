/-! Constructors: cells that come one behind another. -/
/-- the number that stands in a place at first -/
def ini (a b : Nat) : Int32 := if (kc a = 0 ∧ (b = 6 ∨ b = 7 ∨ b = 8)) ∨ (kc a = 2 ∧ b = 2) then -1 else 0
def μ0 : MM := (ini, fun _ _ => 0)
theorem rI_0 (a b : Nat) : rI μ0 a b = ini a b := rfl
theorem ini_arr {q : Nat} (h : kc q = 100) : rI μ0 q = fun _ => 0 := by
  funext b
  show ini q b = 0
  unfold ini
  rw [h, if_neg (by omega)]
def sg (base : Nat) (cA : Nat → ClassId) (i n : Nat) : va_W := (List.range n).map (fun k => (base + (i + k), tc base cA μ0 (i + k)))
theorem sg_0 (base : Nat) (cA : Nat → ClassId) (i : Nat) : sg base cA i 0 = [] := rfl
theorem sg_app (base : Nat) (cA : Nat → ClassId) (i n m : Nat) : sg base cA i n ++ sg base cA (i + n) m = sg base cA i (n + m) := by
  unfold sg
  rw [List.range_add, List.map_append, List.map_map]
  congr 1
  apply List.map_congr_left
  intro k _
  simp only [Function.comp, Nat.add_assoc]
theorem sg_1 (base : Nat) (cA : Nat → ClassId) (i : Nat) : sg base cA i 1 = [(base + i, tc base cA μ0 i)] := rfl
theorem sg_cons (base : Nat) (cA : Nat → ClassId) (i n : Nat) : (base + i, tc base cA μ0 i) :: sg base cA (i + 1) n = sg base cA i (n + 1) := by
  rw [show (base + i, tc base cA μ0 i) :: sg base cA (i + 1) n = sg base cA i 1 ++ sg base cA (i + 1) n from rfl, sg_app, Nat.add_comm 1 n]
theorem sg_get {base : Nat} {cA : Nat → ClassId} {i n k : Nat} (h : k < n) : (sg base cA i n)[k]? = some (base + (i + k), tc base cA μ0 (i + k)) := by
  unfold sg
  simp [h]
theorem sg_all {base : Nat} {cA : Nat → ClassId} : sg base cA 0 178 = tw base cA μ0 [] := by
  unfold sg tw
  rw [List.append_nil]
  apply List.map_congr_left
  intro k _
  rw [Nat.zero_add]
theorem sg_D {base : Nat} {cA : Nat → ClassId} (i n : Nat) : va_D (fun x => base + i ≤ x) (sg base cA i n) := by
  have hlt : ∀ (j : Nat) (p : Nat × va_E), (sg base cA i n)[j]? = some p → p.1 = base + (i + j) := by
    intro j p h
    rcases Nat.lt_or_ge j n with hj | hj
    · rw [sg_get hj] at h
      cases h
      rfl
    · rw [List.getElem?_eq_none (by simp [sg]; omega)] at h
      cases h
  exact ⟨fun a b p q ha hb e => by have := hlt a p ha; have := hlt b q hb; omega, fun k q hk => by have := hlt k q hk; show base + i ≤ q.1; omega⟩
/-- a world that is being made: its cells, apart, from lo on; the heap's size -/
def CW (D : va_G) (lo : Nat) (ws : va_W) (H : Heap) (sz : Nat) : Prop := va_P D vwCl ws H ∧ va_D (fun x => lo ≤ x) ws ∧ H.size = sz
theorem CW.lt {D : va_G} {lo : Nat} {ws : va_W} {H : Heap} {sz : Nat} (h : CW D lo ws H sz) : ∀ (k : Nat) (x : Nat × va_E), ws[k]? = some x → x.1 < sz := fun k x hx => by rw [← h.2.2]; exact (h.1 k x hx).lt
theorem CW.push {D : va_G} {lo : Nat} {ws w2 : va_W} {H H1 : Heap} {sz sz1 : Nat} (h : CW D lo ws H sz) (hlo : lo ≤ sz) (ho : ∀ q : Nat, q < sz → H1[q]? = H[q]?) (h2 : va_P D vwCl w2 H1) (h3 : va_D (fun x => sz ≤ x) w2) (hz : H1.size = sz1) : CW D lo (ws ++ w2) H1 sz1 := by
  have hlt := h.lt
  refine ⟨va_P.app (fun k x hx => (h.1 k x hx).kept (ho x.1 (hlt k x hx))) h2, va_D.app h.2.1 (h3.weaken (fun k x hx hq => Nat.le_trans hlo hq)) (fun i j x y hx hy e => ?_), hz⟩
  have h4 := hlt i x hx
  have h5 := h3.2 j y hy
  have h5 : sz ≤ y.1 := h5
  omega
section CR9
variable {p : Program} {l : Launch} {e : Env} {R : Room} {s : State} {m : MethodId} {args : Array Value} {below : List Frame} {meth : Method} {c : Code} {H : Heap} {locs : List Loc} {cells slots : Nat} {Q : State → Prop}
variable {cc : ByteArray} {pc : Nat} {ls : Array Slot} {rest : List Value} {D : va_G} {cA : Nat → ClassId} {base : Nat} {H0 : Heap} {A : Nat → Prop} {ws : va_W} {lo sz : Nat}
theorem c_new (hexec : p.tables.exec = Jvm.exec) (hb : c.code = cc) {own C : String} {T : u_T} {N ci index : Nat} {Ts : List Cond} (hts : ∀ w ∈ Ts, w.before args s = true) (hin : ∀ w ∈ u_ws C T N, w ∈ Ts) (ty : Nat → FieldType) (hty : ∀ k, k < N → parseFieldDescriptor (T k).2.2.1 = some (ty k)) (hown : s.vm.findClass own = some m.cls) (hcl : (Cond.classLink own index C).before args s = true) (hinst : (Cond.instantiable C N).before args s = true) (hini : (Cond.initialized C).before args s = true) (hK : va_K D vwCl (tys cA) s) (hW : CW D lo ws H sz) (hS : va_S A H0 H locs) (hc : vwCl[ci]? = some (C, T, N)) {fs : List Value} (hfs : ∀ j, j < N → defaultValue (ty j) = vp_V fs j) (hcells : cells + 1 ≤ R.cells) (hslots : slots + N ≤ R.slots) (hdg : decode cc pc = .ok (.new index, 3))
    (kk : ∀ H1 : Heap, CW D lo ws H1 (sz + 1) → va_at D vwCl (sz, .inr (ci, fs)) H1 → (∀ (k : Nat) (x : Nat × va_E), ws[k]? = some x → x.1 < sz) → va_S A H0 H1 locs → W p l e R s m args below meth c H1 locs (cells + 1) (slots + N) Q (F0 m (pc + 3) ls (.ref sz :: rest))) : W p l e R s m args below meth c H locs cells slots Q (F0 m pc ls rest) := by
  have hKn := hK.1 ci _ hc
  have hlt := hW.lt
  obtain ⟨hP, hD, rfl⟩ := hW
  refine W.newcK hexec hb hown hcl hinst hini rfl hdg hcells hslots hKn.2.1 rfl fun H1 kC hkC e1 z1 o1 => ?_
  have hk : ∀ (k : Nat) (x : Nat × va_E), ws[k]? = some x → H1[x.1]? = H[x.1]? := fun k x hx => o1 x.1 ((hP k x hx).lt)
  exact kk H1 ⟨hP.kept hk, hD, z1⟩ ⟨_, hc, (u_born ty hts hin hKn hkC e1 hty).to hfs⟩ hlt ⟨Nat.le_trans hS.1 (by omega), fun x h1 h2 => (o1 x (Nat.lt_of_lt_of_le h1 hS.1)).trans (hS.2.1 x h1 h2), hS.2.2⟩
theorem c_newI (hexec : p.tables.exec = Jvm.exec) (hb : c.code = cc) (harr : (Cond.arrayClass .int).before args s = true) (hK : va_K D vwCl (tys cA) s) {i N : Nat} (hW : CW D lo ws H (base + i)) (hlo : lo ≤ base + i) (hi : kc i = 100) (hal : al i = N) (hS : va_S A H0 H locs) {n : Int32} (hn : ¬ n < 0) (hN : n.toNatClampNeg = N) (hbytes : N * componentBytes .int ≤ 536870912) (hcells : cells + 1 ≤ R.cells) (hslots : slots + N ≤ R.slots) (hdg : decode cc pc = .ok (.newarray .int, 2))
    (kk : ∀ H1 : Heap, CW D lo (ws ++ sg base cA i 1) H1 (base + (i + 1)) → va_S A H0 H1 locs → W p l e R s m args below meth c H1 locs (cells + 1) (slots + N) Q (F0 m (pc + 2) ls (.ref (base + i) :: rest))) : W p l e R s m args below meth c H locs cells slots Q (F0 m pc ls (.int n :: rest)) := by
  refine va_newaK (atype := .int) hexec hb harr rfl hdg rfl hn hN hbytes hcells hslots hW.2.2 fun H1 cT e1 z1 o1 hAr hNm => ?_
  have hc : cT = cA 0 := Option.some.inj (hNm.symm.trans (hK.2 0 (cA 0, .int) rfl).2)
  subst hc
  refine kk H1 (hW.push hlo o1 (fun k x hx => ?_) (sg_D i 1) z1) ⟨Nat.le_trans hS.1 (by rw [hW.2.2]; omega), fun x h1 h2 => (o1 x (by have := hS.1; rw [hW.2.2] at this; omega)).trans (hS.2.1 x h1 h2), hS.2.2⟩
  have hz : k < 1 := (List.getElem?_eq_some_iff.mp hx).1
  rw [show k = 0 by omega] at hx
  cases hx
  show va_at D vwCl (base + i, tc base cA μ0 i) H1
  rw [tc_int hi, hal, ini_arr hi]
  exact e1
theorem c_newJ (hexec : p.tables.exec = Jvm.exec) (hb : c.code = cc) (harr : (Cond.arrayClass .long).before args s = true) (hK : va_K D vwCl (tys cA) s) {i N : Nat} (hW : CW D lo ws H (base + i)) (hlo : lo ≤ base + i) (hi : kc i = 101) (hal : al i = N) (hS : va_S A H0 H locs) {n : Int32} (hn : ¬ n < 0) (hN : n.toNatClampNeg = N) (hbytes : N * componentBytes .long ≤ 536870912) (hcells : cells + 1 ≤ R.cells) (hslots : slots + N ≤ R.slots) (hdg : decode cc pc = .ok (.newarray .long, 2))
    (kk : ∀ H1 : Heap, CW D lo (ws ++ sg base cA i 1) H1 (base + (i + 1)) → va_S A H0 H1 locs → W p l e R s m args below meth c H1 locs (cells + 1) (slots + N) Q (F0 m (pc + 2) ls (.ref (base + i) :: rest))) : W p l e R s m args below meth c H locs cells slots Q (F0 m pc ls (.int n :: rest)) := by
  refine va_newaK (atype := .long) hexec hb harr rfl hdg rfl hn hN hbytes hcells hslots hW.2.2 fun H1 cT e1 z1 o1 hAr hNm => ?_
  have hc : cT = cA 1 := Option.some.inj (hNm.symm.trans (hK.2 1 (cA 1, .long) rfl).2)
  subst hc
  refine kk H1 (hW.push hlo o1 (fun k x hx => ?_) (sg_D i 1) z1) ⟨Nat.le_trans hS.1 (by rw [hW.2.2]; omega), fun x h1 h2 => (o1 x (by have := hS.1; rw [hW.2.2] at this; omega)).trans (hS.2.1 x h1 h2), hS.2.2⟩
  have hz : k < 1 := (List.getElem?_eq_some_iff.mp hx).1
  rw [show k = 0 by omega] at hx
  cases hx
  show va_at D vwCl (base + i, tc base cA μ0 i) H1
  rw [tc_long hi, hal]
  exact e1
/-- a row of references, empty: its class is j of the tables' -/
theorem c_newQ (hexec : p.tables.exec = Jvm.exec) (hb : c.code = cc) {own C : String} {index j : Nat} (hown : s.vm.findClass own = some m.cls) (hclink : (Cond.classLink own index C).before args s = true) (hover : va_AO C s) (hK : va_K D vwCl (tys cA) s) (hj : (tys cA)[j]? = some (cA j, .object C)) {N : Nat} (hW : CW D lo ws H sz) (hlo : lo ≤ sz) (hS : va_S A H0 H locs) {n : Int32} (hn : ¬ n < 0) (hN : n.toNatClampNeg = N) (hbytes : N * 4 ≤ 536870912) (hcells : cells + 1 ≤ R.cells) (hslots : slots + N ≤ R.slots) (hdg : decode cc pc = .ok (.anewarray index, 3))
    (kk : ∀ H1 : Heap, CW D lo (ws ++ [(sz, .inl (cA j, N, .inr (.inr (.inr (.inr (fun _ => none))))))]) H1 (sz + 1) → va_S A H0 H1 locs → W p l e R s m args below meth c H1 locs (cells + 1) (slots + N) Q (F0 m (pc + 3) ls (.ref sz :: rest))) : W p l e R s m args below meth c H locs cells slots Q (F0 m pc ls (.int n :: rest)) := by
  subst hN
  have hsz := hW.2.2
  subst hsz
  refine W.anew hexec hb hown hclink (va_AO.use hover) rfl hdg rfl hn hbytes hcells hslots fun cT kA comp f1 f2 f3 f4 => ?_
  have hc : cT = cA j := by
    obtain ⟨_, _, _, _, _, h4⟩ := (hK.2 j _ hj).2
    exact Option.some.inj (f1.symm.trans h4)
  subst hc
  generalize hH1 : H.push ({ cls := cA j, slots := Array.replicate n.toNatClampNeg .null, vm := .none } : Cell) = H1
  have z1 : H1.size = H.size + 1 := by rw [← hH1, Array.size_push]
  have e1 : H1[H.size]? = some (arrV (cA j) n.toNatClampNeg (fun _ => .null)) := by rw [← hH1, Array.getElem?_push_size, ← arrV_new]
  have o1 : ∀ q : Nat, q < H.size → H1[q]? = H[q]? := fun q hq => by rw [← hH1, Array.getElem?_push, if_neg (Nat.ne_of_lt hq)]
  refine kk H1 (hW.push hlo o1 (fun k x hx => ?_) ⟨fun a b x y ha hb _ => ?_, fun k x hx => ?_⟩ z1) ⟨Nat.le_trans hS.1 (by omega), fun x h1 h2 => (o1 x (Nat.lt_of_lt_of_le h1 hS.1)).trans (hS.2.1 x h1 h2), hS.2.2⟩
  · have hz : k < 1 := (List.getElem?_eq_some_iff.mp hx).1
    rw [show k = 0 by omega] at hx
    cases hx
    show H1[H.size]? = some (vp_cell _ _)
    rw [vp_cell_q]
    exact e1
  · have h1 : a < 1 := (List.getElem?_eq_some_iff.mp ha).1
    have h2 : b < 1 := (List.getElem?_eq_some_iff.mp hb).1
    omega
  · have hz : k < 1 := (List.getElem?_eq_some_iff.mp hx).1
    rw [show k = 0 by omega] at hx
    cases hx
    exact Nat.le_refl _
/-- a field of a cell that is being made -/
theorem c_put (hexec : p.tables.exec = Jvm.exec) (hb : c.code = cc) {a : Nat} {own C : String} {T : u_T} {N ci index : Nat} {Ts : List Cond} (hts : ∀ w ∈ Ts, w.before args s = true) (hin : ∀ w ∈ u_ws C T N, w ∈ Ts) (ty0 : Nat → FieldType) (hty : ∀ k, k < N → parseFieldDescriptor (T k).2.2.1 = some (ty0 k)) (hnm : ∀ a, a < N → ∀ b, b < N → a ≠ b → (T a).2.1 ≠ (T b).2.1) (hown : s.vm.findClass own = some m.cls) (hK : va_K D vwCl (tys cA) s) (hW : CW D lo ws H sz) (hS0 : va_S A H0 H locs) (hA : ∀ x, lo ≤ x → A x) (q0 : Nat) {fs : List Value} (he : ws[q0]? = some (a, .inr (ci, fs))) (hc : vwCl[ci]? = some (C, T, N)) (k : Nat) (hk : k < N) (hlink : (Cond.fieldLink own index (T k).1 (T k).2.1 (T k).2.2.1).before args s = true) (hfin : (T k).2.2.2 = false) {ty : FieldType} {v : Value} (hd : parseFieldDescriptor (T k).2.2.1 = some ty) (hn : narrow ty v = v) (hfit : fits ty v = true) (hl : k < fs.length) (hdg : decode cc pc = .ok (.putfield index, 3))
    (kk : ∀ (H1 : Heap) (locs1 : List Loc), CW D lo (ws.set q0 (a, .inr (ci, fs.set k v))) H1 sz → va_S A H0 H1 locs1 → W p l e R s m args below meth c H1 locs1 cells slots Q (F0 m (pc + 3) ls rest)) : W p l e R s m args below meth c H locs cells slots Q (F0 m pc ls (v :: .ref a :: rest)) := by
  obtain ⟨hP, hD, hz⟩ := hW
  have hap := va_apart (own := own) hts hin ty0 hty hnm hK hc
  obtain ⟨r, h1, cell, q1, q2, q3, q4⟩ := hP q0 _ he
  have hr : r = (C, T, N) := Option.some.inj (h1.symm.trans hc)
  subst hr
  obtain ⟨hS, hfc, kC, hkC, hkind⟩ := hK.1 ci _ hc
  obtain ⟨cf, kf, fi, f, hi, hsl⟩ := hS k hk
  have hlay := hts _ (hin _ (u_in_lay hk))
  unfold u_lay at hlay
  rw [if_neg (by rw [hfin]; decide)] at hlay
  have hst := (u_facts hfc hkC (u_lays hts hin hk) hi).1
  have h6 := u_store hfc hkC hkind hlay hi hd hn hfit
  refine W.putK hexec hb (f := f) ⟨hown, hlink, ⟨_, _, _, hi⟩, hst⟩ (by rw [q2]; exact h6) q1 q3 (by rw [hsl]; exact k2_hasslot (q4 k hk)) rfl rfl hdg fun H' e1 e2 e3 => ?_
  rw [hsl] at e1 ⊢
  exact kk H' _ ⟨hP.set hD he ⟨_, hc, t_OB.to (V := updV (vp_V fs) k v) ⟨_, e1, q2, q3, t_set q4 hap hk v⟩ (fun j _ => vp_updV_set hl v j)⟩ e3, hD.set he, e2.trans hz⟩ (hS0.put e2 e3 (hA _ (hD.2 q0 _ he)))
theorem c_putF (hexec : p.tables.exec = Jvm.exec) (hb : c.code = cc) {a : Nat} {own C : String} {T : u_T} {N ci index : Nat} {Ts : List Cond} (hts : ∀ w ∈ Ts, w.before args s = true) (hin : ∀ w ∈ u_ws C T N, w ∈ Ts) (ty0 : Nat → FieldType) (hty : ∀ k, k < N → parseFieldDescriptor (T k).2.2.1 = some (ty0 k)) (hnm : ∀ a, a < N → ∀ b, b < N → a ≠ b → (T a).2.1 ≠ (T b).2.1) (hown : s.vm.findClass own = some m.cls) (hK : va_K D vwCl (tys cA) s) (hW : CW D lo ws H sz) (hS0 : va_S A H0 H locs) (hA : ∀ x, lo ≤ x → A x) (q0 : Nat) {fs : List Value} (he : ws[q0]? = some (a, .inr (ci, fs))) (hc : vwCl[ci]? = some (C, T, N)) (k : Nat) (hk : k < N) (hlink : (Cond.fieldLink own index (T k).1 (T k).2.1 (T k).2.2.1).before args s = true) (hfin : (T k).2.2.2 = true) (hin2 : meth.name = "<init>") (hdecl : (T k).1 = own) {ty : FieldType} {v : Value} (hd : parseFieldDescriptor (T k).2.2.1 = some ty) (hn : narrow ty v = v) (hfit : fits ty v = true) (hl : k < fs.length) (hdg : decode cc pc = .ok (.putfield index, 3))
    (kk : ∀ (H1 : Heap) (locs1 : List Loc), CW D lo (ws.set q0 (a, .inr (ci, fs.set k v))) H1 sz → va_S A H0 H1 locs1 → W p l e R s m args below meth c H1 locs1 cells slots Q (F0 m (pc + 3) ls rest)) : W p l e R s m args below meth c H locs cells slots Q (F0 m pc ls (v :: .ref a :: rest)) := by
  obtain ⟨hP, hD, hz⟩ := hW
  have hap := va_apart (own := own) hts hin ty0 hty hnm hK hc
  obtain ⟨r, h1, cell, q1, q2, q3, q4⟩ := hP q0 _ he
  have hr : r = (C, T, N) := Option.some.inj (h1.symm.trans hc)
  subst hr
  obtain ⟨hS, hfc, kC, hkC, hkind⟩ := hK.1 ci _ hc
  obtain ⟨cf, kf, fi, f, hi, hsl⟩ := hS k hk
  have hlay := hts _ (hin _ (u_in_lay hk))
  unfold u_lay at hlay
  rw [if_pos hfin] at hlay
  have hst := (u_facts hfc hkC (u_lays hts hin hk) hi).1
  have hcf : m.cls = cf := by
    obtain ⟨_, _, c', _, _, _, -, -, hf', -, -, -, hown2, -⟩ := Cond.laysFinal_spec hlay
    have e1 : c' = cf := by have := hi.symm.trans hf'; simp at this; exact this.1.symm
    rw [hdecl] at hown2
    rw [← e1]; exact Option.some.inj (hown.symm.trans hown2)
  have h6 := u_fits hfc hkC hkind (Or.inr hlay) hi hd hn hfit
  refine W.putFinK hexec hb hown hlink hi hst hcf hin2 (by rw [q2]; exact h6) q1 q3 (by rw [hsl]; exact k2_hasslot (q4 k hk)) rfl rfl hdg fun H' e1 e2 e3 => ?_
  rw [hsl] at e1 ⊢
  exact kk H' _ ⟨hP.set hD he ⟨_, hc, t_OB.to (V := updV (vp_V fs) k v) ⟨_, e1, q2, q3, t_set q4 hap hk v⟩ (fun j _ => vp_updV_set hl v j)⟩ e3, hD.set he, e2.trans hz⟩ (hS0.put e2 e3 (hA _ (hD.2 q0 _ he)))
theorem c_ast (hexec : p.tables.exec = Jvm.exec) (hb : c.code = cc) {a : Nat} (hK : va_K D vwCl (tys cA) s) (hW : CW D lo ws H sz) (hS : va_S A H0 H locs) (hA : ∀ x, lo ≤ x → A x) (q0 t0 qk ci : Nat) {cT : ClassId} {r : vw_C} {n v : Nat} {vs : List Value} {f : Nat → Option Nat} (ha : ws[q0]? = some (a, .inl (cT, n, .inr (.inr (.inr (.inr f)))))) (ht : (tys cA)[t0]? = some (cT, .object r.1)) (hv : ws[qk]? = some (v, .inr (ci, vs))) (hc : vwCl[ci]? = some r) {i : Int32} (hin : vp_in i n) (hdg : decode cc pc = .ok (.aastore, 1))
    (kk : ∀ (H1 : Heap) (locs1 : List Loc), CW D lo (ws.set q0 (a, .inl (cT, n, .inr (.inr (.inr (.inr (va_up f i.toNatClampNeg (some v)))))))) H1 sz → va_S A H0 H1 locs1 → W p l e R s m args below meth c H1 locs1 cells slots Q (F0 m (pc + 1) ls rest)) : W p l e R s m args below meth c H locs cells slots Q (F0 m pc ls (.ref v :: .int i :: .ref a :: rest)) := by
  obtain ⟨hP, hD, hz⟩ := hW
  have hlt : i.toNatClampNeg < n := Nat.not_le.mp fun q => hin (Or.inr q)
  have h0 : ¬ i < 0 := fun q => hin (Or.inl q)
  obtain ⟨r', hr', cellV, g1, g2, g3, -⟩ := hP qk _ hv
  have hcls := (hK.1 ci r hc).2
  obtain ⟨kA, comp, k1, k2, k3, -⟩ := (hK.2 t0 _ ht).2
  obtain ⟨kE, hkE, -⟩ := Vm.findClass_spec k3
  have hcc : D.1 ci = comp := Option.some.inj (hcls.1.symm.trans k3)
  obtain ⟨kC, hkC, -⟩ := hcls.2
  refine W.aast hexec hb (hP q0 _ ha) (fun q h => by cases h) (fun h => by cases h) k1 k2 rfl hkE ⟨h0, by show _ < (arrV _ _ _).slots.size; rw [arrV_size]; exact hlt⟩ g1 (fun q h => by rw [g3] at h; cases h) (by rw [g2]; exact hkC) (by rw [g2, hcc]; exact va_asg _ _) rfl rfl hdg fun H1 e z oq => ?_
  refine kk H1 _ ⟨hP.set hD ha ?_ oq, hD.set ha, z.trans hz⟩ (hS.put z oq (hA _ (hD.2 q0 _ ha)))
  show H1[a]? = some (vp_cell _ _)
  rw [e]
  rw [vp_cell_q, vp_cell_q, arrV_store]
  congr 2
  funext q
  by_cases hq : q = i.toNatClampNeg
  · subst hq
    simp [updV, va_up, va_rf]
  · simp [updV, va_up, hq]
end CR9
/-- a constructor's contract: the cell at q, blank; behind it L cells from q on stand made -/
def tQ (U : State) : Prop := va_AO RX0 U ∧ va_AO RX2 U
def cPre (D : va_G) (cA : Nat → ClassId) (base q ci : Nat) (fs : List Value) : State → Prop := fun U => U.heap.size = base + (q + 1) ∧ va_at D vwCl (base + q, .inr (ci, fs)) U.heap ∧ va_K D vwCl (tys cA) U ∧ tN U ∧ tQ U
def cPost (D : va_G) (cA : Nat → ClassId) (base q L : Nat) : State → Prop := fun t => t.heap.size = base + (q + L) ∧ va_P D vwCl (sg base cA q L) t.heap
theorem cBlind {D : va_G} {cA : Nat → ClassId} {base q ci : Nat} {fs av : List Value} : FrameBlind (va_Pc av (cPre D cA base q ci fs)) := by
  intro a U g mk h
  obtain ⟨q0, q1, q2, q3, q4, q5, q6⟩ := h
  have al : U.vm.Alike (U.calling g mk a).vm := Vm.Alike.refl U.vm
  exact ⟨q0, q1, q2, va_K.moved al q3, tN.same (u := U) (U := U.calling g mk a) rfl q4, va_AO.moved al q5, va_AO.moved al q6⟩
theorem cUse {D : va_G} {cA : Nat → ClassId} {base q ci : Nat} {fs av : List Value} {s : State} {H : Heap} (hK : va_K D vwCl (tys cA) s) (hN : tN s) (hQ : tQ s) (hz : H.size = base + (q + 1)) (hE : va_at D vwCl (base + q, .inr (ci, fs)) H) : ∀ U : State, U.heap = H → s.WarmedH U.vm → va_Pc av (cPre D cA base q ci fs) av.toArray U := by
  intro U hU hW
  exact ⟨rfl, by rw [hU]; exact hz, by rw [hU]; exact hE, va_K.moved hW.alike hK, tN.warm hW hN, va_AO.moved hW.alike hQ.1, va_AO.moved hW.alike hQ.2⟩
section CRC
variable {p : Program} {l : Launch} {e : Env} {R : Room} {s : State} {m : MethodId} {args : Array Value} {below : List Frame} {meth : Method} {c : Code} {H : Heap} {locs : List Loc} {cells slots : Nat} {Q : State → Prop}
variable {cc : ByteArray} {pc : Nat} {ls : Array Slot} {rest : List Value} {D : va_G} {cA : Nat → ClassId} {base : Nat} {H0 : Heap} {A : Nat → Prop} {ws : va_W} {lo : Nat}
theorem c_call {y : MethodName} {bytes : ByteArray} {maxL nL mc ms n index q L ci : Nat} {fs : List Value} {ws9 : List Cond} {rm : Room} {Ts : List Cond} {own : String} {As : List Value} (FX : CallFix p m c cc nL s args Ts own) (hM : Met l y ws9 rm (va_Pc (.ref (base + q) :: As) (cPre D cA base q ci fs)) (va_Qv (fun _ : Unit => True) (fun _ => cPost D cA base q L) (fun x => base + q ≤ x)) mc ms (fun x => base + q ≤ x)) (cw : CallB R s args own index y bytes maxL none ws9 rm mc ms n ∧ y.name = "<init>" ∧ (Cond.instanceMethod y).before args s = true) (hK : va_K D vwCl (tys cA) s) (hN : tN s) (hQ : tQ s) (hW : CW D lo ws H (base + (q + 1))) (hlo : lo ≤ base + q) (hE : va_at D vwCl (base + q, .inr (ci, fs)) H) (hlt : ∀ (k : Nat) (x : Nat × va_E), ws[k]? = some x → x.1 < base + q) (hS : va_S A H0 H locs) (hA : ∀ x, base + q ≤ x → A x) (hn : As.length = n) (hsize : ls.size = nL) (hW8 : (rest.map fun v => v.category).sum ≤ 8) (hdg : decode cc pc = .ok (.invokespecial index, 3)) (hf : cells + mc ≤ R.cells ∧ slots + ms ≤ R.slots) {st : List Value} (hst : st = As.reverse ++ .ref (base + q) :: rest)
    (kk : ∀ (H1 : Heap) (locs1 : List Loc), CW D lo (ws ++ sg base cA q L) H1 (base + (q + L)) → va_S A H0 H1 locs1 → W p l e R s m args below meth c H1 locs1 (cells + mc) (slots + ms) Q (F0 m (pc + 3) ls rest)) : W p l e R s m args below meth c H locs cells slots Q (F0 m pc ls st) := by
  refine va_callv (va_runI (As := As) (rest := rest) FX hM cw ⟨cBlind, cUse hK hN hQ hW.2.2 hE⟩ rfl hn hsize hst (lv_room hW8) hdg hf) hS (fun x _ h => hA x h) (fun x h => hA x h) (fun _ t H1 locs1 ht hvm hw hB hz1 hk1 hS1 => ?_)
  obtain ⟨hz2, hP2⟩ := hB
  rw [ht] at hz2 hP2
  refine kk H1 locs1 ⟨va_P.app (fun k x hx => (hW.1 k x hx).kept (hk1 x.1 (hW.1 k x hx).lt (Nat.not_le.mpr (hlt k x hx)))) hP2, va_D.app hW.2.1 ((sg_D q L).weaken (fun k x hx hq => Nat.le_trans hlo hq)) (fun i j x y hx hy e => ?_), hz2⟩ hS1
  have h4 := hlt i x hx
  have h5 : base + q ≤ y.1 := (sg_D (cA := cA) q L).2 j y hy
  omega
theorem c_callN {y : MethodName} {bytes : ByteArray} {maxL nL mc ms n index q L ci : Nat} {fs : List Value} {ws9 : List Cond} {rm : Room} {Ts : List Cond} {own host : String} {As : List Value} (FX : CallFix p m c cc nL s args Ts own) (hM : Met l y ws9 rm (va_Pc (.ref (base + q) :: As) (cPre D cA base q ci fs)) (va_Qv (fun _ : Unit => True) (fun _ => cPost D cA base q L) (fun x => base + q ≤ x)) mc ms (fun x => base + q ≤ x)) (cw : va_CN R s args own index y host bytes maxL none ws9 rm mc ms n ∧ y.name = "<init>" ∧ (Cond.instanceMethod y).before args s = true) (hK : va_K D vwCl (tys cA) s) (hN : tN s) (hQ : tQ s) (hW : CW D lo ws H (base + (q + 1))) (hlo : lo ≤ base + q) (hE : va_at D vwCl (base + q, .inr (ci, fs)) H) (hlt : ∀ (k : Nat) (x : Nat × va_E), ws[k]? = some x → x.1 < base + q) (hS : va_S A H0 H locs) (hA : ∀ x, base + q ≤ x → A x) (hn : As.length = n) (hsize : ls.size = nL) (hW8 : (rest.map fun v => v.category).sum ≤ 8) (hdg : decode cc pc = .ok (.invokespecial index, 3)) (hf : cells + mc ≤ R.cells ∧ slots + ms ≤ R.slots) {st : List Value} (hst : st = As.reverse ++ .ref (base + q) :: rest)
    (kk : ∀ (H1 : Heap) (locs1 : List Loc), CW D lo (ws ++ sg base cA q L) H1 (base + (q + L)) → va_S A H0 H1 locs1 → W p l e R s m args below meth c H1 locs1 (cells + mc) (slots + ms) Q (F0 m (pc + 3) ls rest)) : W p l e R s m args below meth c H locs cells slots Q (F0 m pc ls st) := by
  refine va_callv (va_runIN (As := As) (rest := rest) FX hM cw ⟨cBlind, cUse hK hN hQ hW.2.2 hE⟩ rfl hn hsize hst (lv_room hW8) hdg hf) hS (fun x _ h => hA x h) (fun x h => hA x h) (fun _ t H1 locs1 ht hvm hw hB hz1 hk1 hS1 => ?_)
  obtain ⟨hz2, hP2⟩ := hB
  rw [ht] at hz2 hP2
  refine kk H1 locs1 ⟨va_P.app (fun k x hx => (hW.1 k x hx).kept (hk1 x.1 (hW.1 k x hx).lt (Nat.not_le.mpr (hlt k x hx)))) hP2, va_D.app hW.2.1 ((sg_D q L).weaken (fun k x hx hq => Nat.le_trans hlo hq)) (fun i j x y hx hy e => ?_), hz2⟩ hS1
  have h4 := hlt i x hx
  have h5 : base + q ≤ y.1 := (sg_D (cA := cA) q L).2 j y hy
  omega
end CRC
