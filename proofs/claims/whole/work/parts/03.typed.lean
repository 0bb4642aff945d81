/-! The static layout of all cells behind the law's entry, and a world of numbers over it. -/
def lay0 : List (Nat × List (Option Nat)) := [(6, [some 4, some 68]), (1, [some 2, some 3]), (101, [some 100]), (101, [some 400]), (5, [some 1, some 5, some 7, some 10, some 11, none, none, none, none]), (3, [some 6, none]), (100, [some 120]), (4, [some 8, some 9, none]), (100, [some 400]), (100, [some 400]), (102, [some 12, some 20, some 28, some 36, some 44, some 52]), (103, [some 60, some 61, some 62, some 63, some 64, some 65, some 66, some 67]), (0, [some 13, some 15, some 17, none, none, none, none, none, none, none]), (3, [some 14, none]), (100, [some 12]), (3, [some 16, none]), (100, [some 12]), (4, [some 18, some 19, none]), (100, [some 400]), (100, [some 400]), (0, [some 21, some 23, some 25, none, none, none, none, none, none, none]), (3, [some 22, none]), (100, [some 12]), (3, [some 24, none]), (100, [some 12]), (4, [some 26, some 27, none]), (100, [some 400]), (100, [some 400]), (0, [some 29, some 31, some 33, none, none, none, none, none, none, none]), (3, [some 30, none])]
def lay1 : List (Nat × List (Option Nat)) := [(100, [some 12]), (3, [some 32, none]), (100, [some 12]), (4, [some 34, some 35, none]), (100, [some 400]), (100, [some 400]), (0, [some 37, some 39, some 41, none, none, none, none, none, none, none]), (3, [some 38, none]), (100, [some 12]), (3, [some 40, none]), (100, [some 12]), (4, [some 42, some 43, none]), (100, [some 400]), (100, [some 400]), (0, [some 45, some 47, some 49, none, none, none, none, none, none, none]), (3, [some 46, none]), (100, [some 12]), (3, [some 48, none]), (100, [some 12]), (4, [some 50, some 51, none]), (100, [some 400]), (100, [some 400]), (0, [some 53, some 55, some 57, none, none, none, none, none, none, none]), (3, [some 54, none]), (100, [some 12]), (3, [some 56, none]), (100, [some 12]), (4, [some 58, some 59, none]), (100, [some 400]), (100, [some 400])]
def lay2 : List (Nat × List (Option Nat)) := [(2, [none, none, none, none, none, none, none]), (2, [none, none, none, none, none, none, none]), (2, [none, none, none, none, none, none, none]), (2, [none, none, none, none, none, none, none]), (2, [none, none, none, none, none, none, none]), (2, [none, none, none, none, none, none, none]), (2, [none, none, none, none, none, none, none]), (2, [none, none, none, none, none, none, none]), (5, [some 1, some 69, some 71, some 74, some 75, none, none, none, none]), (3, [some 70, none]), (100, [some 120]), (4, [some 72, some 73, none]), (100, [some 400]), (100, [some 400]), (102, [some 76, some 84, some 92, some 100, some 108, some 116]), (103, [some 124, some 125, some 126, some 127, some 128, some 129, some 130, some 131]), (0, [some 77, some 79, some 81, none, none, none, none, none, none, none]), (3, [some 78, none]), (100, [some 12]), (3, [some 80, none]), (100, [some 12]), (4, [some 82, some 83, none]), (100, [some 400]), (100, [some 400]), (0, [some 85, some 87, some 89, none, none, none, none, none, none, none]), (3, [some 86, none]), (100, [some 12]), (3, [some 88, none]), (100, [some 12]), (4, [some 90, some 91, none])]
def lay3 : List (Nat × List (Option Nat)) := [(100, [some 400]), (100, [some 400]), (0, [some 93, some 95, some 97, none, none, none, none, none, none, none]), (3, [some 94, none]), (100, [some 12]), (3, [some 96, none]), (100, [some 12]), (4, [some 98, some 99, none]), (100, [some 400]), (100, [some 400]), (0, [some 101, some 103, some 105, none, none, none, none, none, none, none]), (3, [some 102, none]), (100, [some 12]), (3, [some 104, none]), (100, [some 12]), (4, [some 106, some 107, none]), (100, [some 400]), (100, [some 400]), (0, [some 109, some 111, some 113, none, none, none, none, none, none, none]), (3, [some 110, none]), (100, [some 12]), (3, [some 112, none]), (100, [some 12]), (4, [some 114, some 115, none]), (100, [some 400]), (100, [some 400]), (0, [some 117, some 119, some 121, none, none, none, none, none, none, none]), (3, [some 118, none]), (100, [some 12]), (3, [some 120, none])]
def lay4 : List (Nat × List (Option Nat)) := [(100, [some 12]), (4, [some 122, some 123, none]), (100, [some 400]), (100, [some 400]), (2, [none, none, none, none, none, none, none]), (2, [none, none, none, none, none, none, none]), (2, [none, none, none, none, none, none, none]), (2, [none, none, none, none, none, none, none]), (2, [none, none, none, none, none, none, none]), (2, [none, none, none, none, none, none, none]), (2, [none, none, none, none, none, none, none]), (2, [none, none, none, none, none, none, none]), (8, [none, some 133, some 155]), (7, [none, none, some 134, none, none, some 135, some 136, some 137, some 138, some 139, some 140, none, some 141, some 142, some 143, some 144, some 145, some 146, some 147, some 148, some 149, some 150, some 151, some 152, some 153, some 154]), (100, [some 120]), (100, [some 8]), (100, [some 8]), (100, [some 8]), (100, [some 8]), (100, [some 8]), (100, [some 8]), (100, [some 6]), (100, [some 6]), (100, [some 6]), (100, [some 6]), (100, [some 6]), (100, [some 6]), (100, [some 6]), (100, [some 6]), (100, [some 72])]
def lay5 : List (Nat × List (Option Nat)) := [(100, [some 72]), (100, [some 7]), (100, [some 2800]), (100, [some 2800]), (100, [some 401]), (7, [none, none, some 156, none, none, some 157, some 158, some 159, some 160, some 161, some 162, none, some 163, some 164, some 165, some 166, some 167, some 168, some 169, some 170, some 171, some 172, some 173, some 174, some 175, some 176]), (100, [some 120]), (100, [some 8]), (100, [some 8]), (100, [some 8]), (100, [some 8]), (100, [some 8]), (100, [some 8]), (100, [some 6]), (100, [some 6]), (100, [some 6]), (100, [some 6]), (100, [some 6]), (100, [some 6]), (100, [some 6]), (100, [some 6]), (100, [some 72]), (100, [some 72]), (100, [some 7]), (100, [some 2800]), (100, [some 2800]), (100, [some 401]), (101, [some 1])]
def lay : List (Nat × List (Option Nat)) := lay0 ++ lay1 ++ lay2 ++ lay3 ++ lay4 ++ lay5
theorem lay_len : lay.length = 178 := by decide +kernel
def lyq (q : Nat) : Nat × List (Option Nat) := lay.getD q (999, [])
def kc (q : Nat) : Nat := (lyq q).1
def fld (q k : Nat) : Option Nat := (lyq q).2.getD k none
def RF (q k : Nat) : Nat := (fld q k).getD 0
def al (q : Nat) : Nat := if kc q < 102 then RF q 0 else (lyq q).2.length
def nf (c : Nat) : Nat := [10, 2, 7, 2, 3, 9, 2, 26, 3].getD c 0
theorem kc_big {q : Nat} (h : 178 ≤ q) : kc q = 999 := by
  have h1 : lay[q]? = none := List.getElem?_eq_none (by rw [lay_len]; exact h)
  simp [kc, lyq, List.getD, h1]
theorem kc_in {q c : Nat} (h : kc q = c) (hc : c < 999) : q < 178 := by
  rcases Nat.lt_or_ge q 178 with h1 | h1
  · exact h1
  · rw [kc_big h1] at h; omega
/-- numbers by cell and place: ints, longs -/
abbrev MM : Type := (Nat → Nat → Int32) × (Nat → Nat → Int64)
def rI (μ : MM) (q k : Nat) : Int32 := μ.1 q k
def rL (μ : MM) (q k : Nat) : Int64 := μ.2 q k
def wI (μ : MM) (q k : Nat) (v : Int32) : MM := (fun a b => if a = q ∧ b = k then v else μ.1 a b, μ.2)
def wL (μ : MM) (q k : Nat) (v : Int64) : MM := (μ.1, fun a b => if a = q ∧ b = k then v else μ.2 a b)
def wC (μ : MM) (q0 sp q1 dp n : Nat) : MM := (fun a b => if a = q1 then va_cpy (μ.1 q0) (μ.1 q1) sp dp n b else μ.1 a b, μ.2)
theorem rI_wI (μ : MM) (q k : Nat) (v : Int32) (a b : Nat) : rI (wI μ q k v) a b = if a = q ∧ b = k then v else rI μ a b := rfl
theorem rI_wL (μ : MM) (q k : Nat) (v : Int64) (a b : Nat) : rI (wL μ q k v) a b = rI μ a b := rfl
theorem rL_wI (μ : MM) (q k : Nat) (v : Int32) (a b : Nat) : rL (wI μ q k v) a b = rL μ a b := rfl
theorem rL_wL (μ : MM) (q k : Nat) (v : Int64) (a b : Nat) : rL (wL μ q k v) a b = if a = q ∧ b = k then v else rL μ a b := rfl
theorem rL_wC (μ : MM) (q0 sp q1 dp n a b : Nat) : rL (wC μ q0 sp q1 dp n) a b = rL μ a b := rfl
theorem rI_wC (μ : MM) (q0 sp q1 dp n a b : Nat) : rI (wC μ q0 sp q1 dp n) a b = if a = q1 then (if dp ≤ b ∧ b < dp + n then rI μ q0 (sp + (b - dp)) else rI μ q1 b) else rI μ a b := rfl
def tv (base : Nat) (μ : MM) (q k : Nat) : Value := match fld q k with
  | none => .int (rI μ q k)
  | some r => .ref (base + r)
def tc (base : Nat) (cA : Nat → ClassId) (μ : MM) (q : Nat) : va_E :=
  if kc q < 100 then .inr (kc q, (List.range (nf (kc q))).map (tv base μ q))
  else if kc q = 100 then .inl (cA 0, al q, .inl (rI μ q))
  else if kc q = 101 then .inl (cA 1, al q, .inr (.inl (rL μ q)))
  else .inl (cA (kc q - 100), al q, .inr (.inr (.inr (.inr (fun i => some (base + RF q i))))))
def tys (cA : Nat → ClassId) : List (ClassId × FieldType) := [(cA 0, .int), (cA 1, .long), (cA 2, .object "RelayBooths$Booth"), (cA 3, .object "RelayBooths$Interpreter")]
def tw (base : Nat) (cA : Nat → ClassId) (μ : MM) (ex : va_W) : va_W := (List.range 178).map (fun q => (base + q, tc base cA μ q)) ++ ex
theorem tw_at {base : Nat} {cA : Nat → ClassId} {μ : MM} {ex : va_W} {q : Nat} (h : q < 178) : (tw base cA μ ex)[q]? = some (base + q, tc base cA μ q) := by
  unfold tw
  rw [List.getElem?_append_left (by simpa using h)]
  simp [h]
theorem tw_ex {base : Nat} {cA : Nat → ClassId} {μ : MM} {ex : va_W} (i : Nat) : (tw base cA μ ex)[178 + i]? = ex[i]? := by
  unfold tw
  rw [List.getElem?_append_right (by simp)]
  simp
theorem tw_set {base : Nat} {cA : Nat → ClassId} {μ μ' : MM} {ex : va_W} {q : Nat} (h : q < 178) {e : va_E} (h1 : tc base cA μ' q = e) (h2 : ∀ j, j ≠ q → tc base cA μ' j = tc base cA μ j) : (tw base cA μ ex).set q (base + q, e) = tw base cA μ' ex := by
  apply List.ext_getElem?
  intro i
  rw [List.getElem?_set]
  rcases Nat.lt_or_ge i 178 with hi | hi
  · rw [tw_at hi]
    by_cases hq : q = i
    · subst hq
      rw [if_pos rfl, if_pos (by simp [tw]; omega), tw_at hi, h1]
    · rw [if_neg hq, tw_at hi, h2 i (fun h => hq h.symm)]
  · obtain ⟨j, rfl⟩ : ∃ j, i = 178 + j := ⟨i - 178, by omega⟩
    rw [if_neg (by omega), tw_ex, tw_ex]
theorem tw_setex {base : Nat} {cA : Nat → ClassId} {μ : MM} {ex : va_W} (i : Nat) (e : Nat × va_E) : (tw base cA μ ex).set (178 + i) e = tw base cA μ (ex.set i e) := by
  unfold tw
  rw [List.set_append_right _ _ (by simp)]
  simp
theorem tc_obj {base : Nat} {cA : Nat → ClassId} {μ : MM} {q c : Nat} (h : kc q = c) (hc : c < 100) : tc base cA μ q = .inr (c, (List.range (nf c)).map (tv base μ q)) := by
  unfold tc
  rw [h, if_pos hc]
theorem tc_int {base : Nat} {cA : Nat → ClassId} {μ : MM} {q : Nat} (h : kc q = 100) : tc base cA μ q = .inl (cA 0, al q, .inl (rI μ q)) := by
  unfold tc
  rw [h, if_neg (by decide), if_pos rfl]
theorem tc_long {base : Nat} {cA : Nat → ClassId} {μ : MM} {q : Nat} (h : kc q = 101) : tc base cA μ q = .inl (cA 1, al q, .inr (.inl (rL μ q))) := by
  unfold tc
  rw [h, if_neg (by decide), if_neg (by decide), if_pos rfl]
theorem tc_ref {base : Nat} {cA : Nat → ClassId} {μ : MM} {q c : Nat} (h : kc q = c) (hc : 101 < c) : tc base cA μ q = .inl (cA (c - 100), al q, .inr (.inr (.inr (.inr (fun i => some (base + RF q i)))))) := by
  unfold tc
  rw [h, if_neg (by omega), if_neg (by omega), if_neg (by omega)]
theorem tw_obj {base : Nat} {cA : Nat → ClassId} {μ : MM} {ex : va_W} {q c : Nat} (h : kc q = c) (hc : c < 100) : (tw base cA μ ex)[q]? = some (base + q, .inr (c, (List.range (nf c)).map (tv base μ q))) := by
  rw [tw_at (kc_in h (by omega)), tc_obj h hc]
theorem tw_int {base : Nat} {cA : Nat → ClassId} {μ : MM} {ex : va_W} {q : Nat} (h : kc q = 100) : (tw base cA μ ex)[q]? = some (base + q, .inl (cA 0, al q, .inl (rI μ q))) := by
  rw [tw_at (kc_in h (by decide)), tc_int h]
theorem tw_long {base : Nat} {cA : Nat → ClassId} {μ : MM} {ex : va_W} {q : Nat} (h : kc q = 101) : (tw base cA μ ex)[q]? = some (base + q, .inl (cA 1, al q, .inr (.inl (rL μ q)))) := by
  rw [tw_at (kc_in h (by decide)), tc_long h]
theorem tw_ref {base : Nat} {cA : Nat → ClassId} {μ : MM} {ex : va_W} {q c : Nat} (h : kc q = c) (hc : 101 < c) (hc2 : c < 999) : (tw base cA μ ex)[q]? = some (base + q, .inl (cA (c - 100), al q, .inr (.inr (.inr (.inr (fun i => some (base + RF q i))))))) := by
  rw [tw_at (kc_in h hc2), tc_ref h hc]
theorem tv_int {base : Nat} {μ : MM} {q k : Nat} (h : fld q k = none) : tv base μ q k = .int (rI μ q k) := by
  unfold tv
  rw [h]
theorem tv_ref {base : Nat} {μ : MM} {q k : Nat} (h : fld q k = some (RF q k)) : tv base μ q k = .ref (base + RF q k) := by
  unfold tv
  rw [h]
theorem tv_wI_ne {base : Nat} {μ : MM} {q k a b : Nat} {v : Int32} (h : ¬ (a = q ∧ b = k)) : tv base (wI μ q k v) a b = tv base μ a b := by
  unfold tv
  rw [rI_wI, if_neg h]
theorem tc_wI_ne {base : Nat} {cA : Nat → ClassId} {μ : MM} {q k : Nat} {v : Int32} (j : Nat) (h : j ≠ q) : tc base cA (wI μ q k v) j = tc base cA μ j := by
  have e1 : tv base (wI μ q k v) j = tv base μ j := funext fun b => tv_wI_ne (fun c => h c.1)
  have e2 : rI (wI μ q k v) j = rI μ j := funext fun b => by rw [rI_wI, if_neg (fun c => h c.1)]
  have e3 : rL (wI μ q k v) j = rL μ j := rfl
  unfold tc
  rw [e1, e2, e3]
theorem tc_wL_ne {base : Nat} {cA : Nat → ClassId} {μ : MM} {q k : Nat} {v : Int64} (j : Nat) (h : j ≠ q) : tc base cA (wL μ q k v) j = tc base cA μ j := by
  have e1 : tv base (wL μ q k v) j = tv base μ j := rfl
  have e2 : rI (wL μ q k v) j = rI μ j := rfl
  have e3 : rL (wL μ q k v) j = rL μ j := funext fun b => by rw [rL_wL, if_neg (fun c => h c.1)]
  unfold tc
  rw [e1, e2, e3]
theorem tc_wC_ne {base : Nat} {cA : Nat → ClassId} {μ : MM} {q0 sp q1 dp n : Nat} (j : Nat) (h : j ≠ q1) : tc base cA (wC μ q0 sp q1 dp n) j = tc base cA μ j := by
  have e0 : ∀ b, rI (wC μ q0 sp q1 dp n) j b = rI μ j b := fun b => by rw [rI_wC, if_neg h]
  have e1 : tv base (wC μ q0 sp q1 dp n) j = tv base μ j := funext fun b => by unfold tv; rw [e0]
  have e2 : rI (wC μ q0 sp q1 dp n) j = rI μ j := funext e0
  have e3 : rL (wC μ q0 sp q1 dp n) j = rL μ j := rfl
  unfold tc
  rw [e1, e2, e3]
theorem tw_put {base : Nat} {cA : Nat → ClassId} {μ : MM} {ex : va_W} {q c k : Nat} {v : Int32} (h : kc q = c) (hc : c < 100) (hf : fld q k = none) : (tw base cA μ ex).set q (base + q, .inr (c, ((List.range (nf c)).map (tv base μ q)).set k (.int v))) = tw base cA (wI μ q k v) ex := by
  refine tw_set (kc_in h (by omega)) ?_ (fun j hj => tc_wI_ne j hj)
  rw [tc_obj h hc]
  congr 2
  apply List.ext_getElem?
  intro i
  rw [List.getElem?_set]
  by_cases hi : i < nf c
  · by_cases hk : k = i
    · subst hk
      have : tv base (wI μ q k v) q k = .int v := by rw [tv_int hf, rI_wI, if_pos ⟨rfl, rfl⟩]
      simp [hi, this]
    · rw [if_neg hk]
      simp [hi, tv_wI_ne (base := base) (μ := μ) (q := q) (k := k) (a := q) (b := i) (v := v) (fun z => hk z.2.symm)]
  · have h1 : ((List.range (nf c)).map (tv base (wI μ q k v) q))[i]? = none := by simp; omega
    have h2 : ((List.range (nf c)).map (tv base μ q))[i]? = none := by simp; omega
    rw [h1, h2]
    split
    · simp only [List.length_map, List.length_range]
      rw [if_neg (by omega)]
    · rfl
theorem tw_iast {base : Nat} {cA : Nat → ClassId} {μ : MM} {ex : va_W} {q i : Nat} {v : Int32} (h : kc q = 100) : (tw base cA μ ex).set q (base + q, .inl (cA 0, al q, .inl (upd (rI μ q) i v))) = tw base cA (wI μ q i v) ex := by
  refine tw_set (kc_in h (by decide)) ?_ (fun j hj => tc_wI_ne j hj)
  rw [tc_int h]
  have : rI (wI μ q i v) q = upd (rI μ q) i v := funext fun b => by
    rw [rI_wI]
    unfold upd
    by_cases hb : b = i
    · rw [if_pos ⟨rfl, hb⟩, if_pos hb]
    · rw [if_neg (fun z => hb z.2), if_neg hb]
  rw [this]
theorem tw_last {base : Nat} {cA : Nat → ClassId} {μ : MM} {ex : va_W} {q i : Nat} {v : Int64} (h : kc q = 101) : (tw base cA μ ex).set q (base + q, .inl (cA 1, al q, .inr (.inl (vp_updL (rL μ q) i v)))) = tw base cA (wL μ q i v) ex := by
  refine tw_set (kc_in h (by decide)) ?_ (fun j hj => tc_wL_ne j hj)
  rw [tc_long h]
  have : rL (wL μ q i v) q = vp_updL (rL μ q) i v := funext fun b => by
    rw [rL_wL]
    unfold vp_updL
    by_cases hb : b = i
    · rw [if_pos ⟨rfl, hb⟩, if_pos hb]
    · rw [if_neg (fun z => hb z.2), if_neg hb]
  rw [this]
theorem tw_cpy {base : Nat} {cA : Nat → ClassId} {μ : MM} {ex : va_W} {q0 q1 sp dp n : Nat} (h : kc q1 = 100) : (tw base cA μ ex).set q1 (base + q1, .inl (cA 0, al q1, .inl (va_cpy (rI μ q0) (rI μ q1) sp dp n))) = tw base cA (wC μ q0 sp q1 dp n) ex := by
  refine tw_set (kc_in h (by decide)) ?_ (fun j hj => tc_wC_ne j hj)
  rw [tc_int h]
  have : rI (wC μ q0 sp q1 dp n) q1 = va_cpy (rI μ q0) (rI μ q1) sp dp n := funext fun b => by
    rw [rI_wC, if_pos rfl]
    rfl
  rw [this]
/-- what a method may change: the cells of the world, and what is new -/
def tA (base sz : Nat) : Nat → Prop := fun q => (base ≤ q ∧ q < base + 178) ∨ sz ≤ q
theorem tD (base sz : Nat) (cA : Nat → ClassId) (μ : MM) : va_D (tA base sz) (tw base cA μ []) := by
  have hlt : ∀ (i : Nat) (p : Nat × va_E), (tw base cA μ [])[i]? = some p → i < 178 ∧ p.1 = base + i := by
    intro i p h
    rcases Nat.lt_or_ge i 178 with hi | hi
    · rw [tw_at hi] at h
      cases h
      exact ⟨hi, rfl⟩
    · obtain ⟨j, rfl⟩ : ∃ j, i = 178 + j := ⟨i - 178, by omega⟩
      rw [tw_ex] at h
      simp at h
  refine ⟨fun i j p q hi hj hpq => ?_, fun k q hk => ?_⟩
  · have a := hlt i p hi
    have b := hlt j q hj
    omega
  · have a := hlt k q hk
    exact Or.inl ⟨by omega, by omega⟩

/-- links between nest mates: no word of a list, they go with the world -/
def nestF : List (String × Nat × String × String × String × String) := [("RelayBoothsModel", 23, "RelayBoothsModel$State", "booths", "I", "RelayBoothsModel"), ("RelayBoothsModel", 30, "RelayBoothsModel$State", "interpreters", "I", "RelayBoothsModel"), ("RelayBoothsModel", 37, "RelayBoothsModel$State", "language", "I", "RelayBoothsModel"), ("RelayBoothsModel", 40, "RelayBoothsModel$State", "left", "I", "RelayBoothsModel"), ("RelayBoothsModel", 43, "RelayBoothsModel$State", "text", "[I", "RelayBoothsModel"), ("RelayBoothsModel", 48, "RelayBoothsModel$State", "languages", "[I", "RelayBoothsModel"), ("RelayBoothsModel", 51, "RelayBoothsModel$State", "idioms", "[I", "RelayBoothsModel"), ("RelayBoothsModel", 54, "RelayBoothsModel$State", "boothLanguage", "[I", "RelayBoothsModel"), ("RelayBoothsModel", 57, "RelayBoothsModel$State", "lag", "[I", "RelayBoothsModel"), ("RelayBoothsModel", 60, "RelayBoothsModel$State", "memory", "[I", "RelayBoothsModel"), ("RelayBoothsModel", 63, "RelayBoothsModel$State", "source", "[I", "RelayBoothsModel"), ("RelayBoothsModel", 66, "RelayBoothsModel$State", "sitter", "[I", "RelayBoothsModel"), ("RelayBoothsModel", 69, "RelayBoothsModel$State", "second", "[I", "RelayBoothsModel"), ("RelayBoothsModel", 89, "RelayBoothsModel$State", "held", "[I", "RelayBoothsModel"), ("RelayBoothsModel", 92, "RelayBoothsModel$State", "many", "[I", "RelayBoothsModel"), ("RelayBoothsModel", 95, "RelayBoothsModel$State", "lost", "[I", "RelayBoothsModel"), ("RelayBoothsModel", 108, "RelayBoothsModel$State", "fatigue", "[I", "RelayBoothsModel"), ("RelayBoothsModel", 111, "RelayBoothsModel$State", "own", "[I", "RelayBoothsModel"), ("RelayBoothsModel", 114, "RelayBoothsModel$State", "mistakes", "[I", "RelayBoothsModel"), ("RelayBoothsModel", 117, "RelayBoothsModel$State", "other", "[I", "RelayBoothsModel"), ("RelayBoothsModel", 127, "RelayBoothsModel$State", "tick", "I", "RelayBoothsModel"), ("RelayBoothsModel", 133, "RelayBoothsModel$State", "when", "[I", "RelayBoothsModel"), ("RelayBoothsModel", 136, "RelayBoothsModel$State", "said", "[I", "RelayBoothsModel")]
def nestM : List (String × Nat × MethodName × String) := [("RelayBooths", 9, ⟨"RelayBooths$Comparison", "<init>", "()V"⟩, "RelayBooths"), ("RelayBooths$Booth", 25, ⟨"RelayBooths$Speech", "<init>", "()V"⟩, "RelayBooths"), ("RelayBooths$Comparison", 36, ⟨"RelayBooths", "isWithin", "(III)Z"⟩, "RelayBooths"), ("RelayBooths$Speech", 22, ⟨"RelayBooths", "isWithin", "(III)Z"⟩, "RelayBooths"), ("RelayBooths$Summit", 22, ⟨"RelayBooths$Speech", "<init>", "()V"⟩, "RelayBooths"), ("RelayBooths$Summit", 43, ⟨"RelayBooths$Booth", "<init>", "()V"⟩, "RelayBooths"), ("RelayBooths$Summit", 44, ⟨"RelayBooths$Interpreter", "<init>", "()V"⟩, "RelayBooths"), ("RelayBoothsModel", 9, ⟨"RelayBoothsModel$State", "<init>", "()V"⟩, "RelayBoothsModel")]
def tN (U : State) : Prop := (∀ x ∈ nestF, va_Nw (.fieldLinkNest x.1 x.2.1 x.2.2.1 x.2.2.2.1 x.2.2.2.2.1 x.2.2.2.2.2) U) ∧ ∀ x ∈ nestM, va_Nw (.methodLinkNest x.1 x.2.1 x.2.2.1 x.2.2.2) U
theorem tN.warm {s U : State} (hW : s.WarmedH U.vm) (h : tN s) : tN U := ⟨fun x hx => va_Nw.warmF hW (h.1 x hx), fun x hx => va_Nw.warmM hW (h.2 x hx)⟩
theorem tN.same {u U : State} (hv : u.vm = U.vm) (h : tN u) : tN U := ⟨fun x hx => va_Nw.same rfl hv (h.1 x hx), fun x hx => va_Nw.same rfl hv (h.2 x hx)⟩
def tPre (D : va_G) (cA : Nat → ClassId) (base sz : Nat) (μ : MM) : State → Prop := fun U => U.heap.size = sz ∧ va_P D vwCl (tw base cA μ []) U.heap ∧ va_K D vwCl (tys cA) U ∧ tN U
def tPost (D : va_G) (cA : Nat → ClassId) (base : Nat) (μ : MM) : State → Prop := fun t => va_P D vwCl (tw base cA μ []) t.heap
theorem tBlind {D : va_G} {cA : Nat → ClassId} {base sz : Nat} {μ : MM} {av : List Value} : FrameBlind (va_Pc av (tPre D cA base sz μ)) := by
  intro a U g mk q
  obtain ⟨q0, q1, q2, q3, q4⟩ := q
  exact ⟨q0, q1, q2, va_K.moved (u := U) (U := U.calling g mk a) (Vm.Alike.refl U.vm) q3, tN.same (u := U) (U := U.calling g mk a) rfl q4⟩
theorem tUse {D : va_G} {cA : Nat → ClassId} {base : Nat} {μ : MM} {av : List Value} {s : State} {H : Heap} (hK : va_K D vwCl (tys cA) s) (hN : tN s) (hP : va_P D vwCl (tw base cA μ []) H) : ∀ U : State, U.heap = H → s.WarmedH U.vm → va_Pc av (tPre D cA base H.size μ) av.toArray U := by
  intro U hU hW
  exact ⟨rfl, by rw [hU], by rw [hU]; exact hP, va_K.moved hW.alike hK, tN.warm hW hN⟩
theorem t_lt {D : va_G} {cA : Nat → ClassId} {base : Nat} {μ : MM} {ex : va_W} {H : Heap} (hP : va_P D vwCl (tw base cA μ ex) H) : base + 177 < H.size := (hP 177 _ (tw_at (by decide))).lt
theorem tA_up {base sz sz1 : Nat} (h : sz ≤ sz1) : ∀ q, tA base sz1 q → tA base sz q := by
  intro q hq
  rcases hq with h1 | h1
  · exact Or.inl h1
  · exact Or.inr (by omega)

