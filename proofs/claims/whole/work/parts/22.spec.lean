/-! What each call does to the mathematical state. -/
abbrev s_t (A : AS) (v : Nat) : AS := mkA v (a_lf A) (a_ni A) (a_nb A) (a_lang A) (a_tx A) (a_iv A) (a_bv A) (a_src A) (a_sit A) (a_hd A) (a_hw A) (a_hs A) (a_mn A) (a_sw A) (a_st A)
abbrev s_lf (A : AS) (v : Nat) : AS := mkA (a_t A) v (a_ni A) (a_nb A) (a_lang A) (a_tx A) (a_iv A) (a_bv A) (a_src A) (a_sit A) (a_hd A) (a_hw A) (a_hs A) (a_mn A) (a_sw A) (a_st A)
abbrev s_ni (A : AS) (v : Nat) : AS := mkA (a_t A) (a_lf A) v (a_nb A) (a_lang A) (a_tx A) (a_iv A) (a_bv A) (a_src A) (a_sit A) (a_hd A) (a_hw A) (a_hs A) (a_mn A) (a_sw A) (a_st A)
abbrev s_nb (A : AS) (v : Nat) : AS := mkA (a_t A) (a_lf A) (a_ni A) v (a_lang A) (a_tx A) (a_iv A) (a_bv A) (a_src A) (a_sit A) (a_hd A) (a_hw A) (a_hs A) (a_mn A) (a_sw A) (a_st A)
abbrev s_lang (A : AS) (v : Int32) : AS := mkA (a_t A) (a_lf A) (a_ni A) (a_nb A) v (a_tx A) (a_iv A) (a_bv A) (a_src A) (a_sit A) (a_hd A) (a_hw A) (a_hs A) (a_mn A) (a_sw A) (a_st A)
abbrev s_tx (A : AS) (v : Nat → Int32) : AS := mkA (a_t A) (a_lf A) (a_ni A) (a_nb A) (a_lang A) v (a_iv A) (a_bv A) (a_src A) (a_sit A) (a_hd A) (a_hw A) (a_hs A) (a_mn A) (a_sw A) (a_st A)
abbrev s_iv (A : AS) (v : Nat → Nat → Int32) : AS := mkA (a_t A) (a_lf A) (a_ni A) (a_nb A) (a_lang A) (a_tx A) v (a_bv A) (a_src A) (a_sit A) (a_hd A) (a_hw A) (a_hs A) (a_mn A) (a_sw A) (a_st A)
abbrev s_bv (A : AS) (v : Nat → Nat → Int32) : AS := mkA (a_t A) (a_lf A) (a_ni A) (a_nb A) (a_lang A) (a_tx A) (a_iv A) v (a_src A) (a_sit A) (a_hd A) (a_hw A) (a_hs A) (a_mn A) (a_sw A) (a_st A)
abbrev s_src (A : AS) (v : Nat → Option Nat) : AS := mkA (a_t A) (a_lf A) (a_ni A) (a_nb A) (a_lang A) (a_tx A) (a_iv A) (a_bv A) v (a_sit A) (a_hd A) (a_hw A) (a_hs A) (a_mn A) (a_sw A) (a_st A)
abbrev s_sit (A : AS) (v : Nat → Option Nat) : AS := mkA (a_t A) (a_lf A) (a_ni A) (a_nb A) (a_lang A) (a_tx A) (a_iv A) (a_bv A) (a_src A) v (a_hd A) (a_hw A) (a_hs A) (a_mn A) (a_sw A) (a_st A)
abbrev s_hd (A : AS) (v : Nat → Nat) : AS := mkA (a_t A) (a_lf A) (a_ni A) (a_nb A) (a_lang A) (a_tx A) (a_iv A) (a_bv A) (a_src A) (a_sit A) v (a_hw A) (a_hs A) (a_mn A) (a_sw A) (a_st A)
abbrev s_hw (A : AS) (v : Nat → Nat → Int32) : AS := mkA (a_t A) (a_lf A) (a_ni A) (a_nb A) (a_lang A) (a_tx A) (a_iv A) (a_bv A) (a_src A) (a_sit A) (a_hd A) v (a_hs A) (a_mn A) (a_sw A) (a_st A)
abbrev s_hs (A : AS) (v : Nat → Nat → Int32) : AS := mkA (a_t A) (a_lf A) (a_ni A) (a_nb A) (a_lang A) (a_tx A) (a_iv A) (a_bv A) (a_src A) (a_sit A) (a_hd A) (a_hw A) v (a_mn A) (a_sw A) (a_st A)
abbrev s_mn (A : AS) (v : Nat → Nat) : AS := mkA (a_t A) (a_lf A) (a_ni A) (a_nb A) (a_lang A) (a_tx A) (a_iv A) (a_bv A) (a_src A) (a_sit A) (a_hd A) (a_hw A) (a_hs A) v (a_sw A) (a_st A)
abbrev s_sw (A : AS) (v : Nat → Nat → Int32) : AS := mkA (a_t A) (a_lf A) (a_ni A) (a_nb A) (a_lang A) (a_tx A) (a_iv A) (a_bv A) (a_src A) (a_sit A) (a_hd A) (a_hw A) (a_hs A) (a_mn A) v (a_st A)
abbrev s_st (A : AS) (v : Nat → Nat → Int32) : AS := mkA (a_t A) (a_lf A) (a_ni A) (a_nb A) (a_lang A) (a_tx A) (a_iv A) (a_bv A) (a_src A) (a_sit A) (a_hd A) (a_hw A) (a_hs A) (a_mn A) (a_sw A) v
def max0 (x : Int32) : Int32 := if 0 < x then x else 0
def wNum (w : Int32) : Prop := ∃ n : Nat, n < 100 ∧ w = nI n
def langO (A : AS) (x : Option Nat) : Int32 := match x with
  | none => a_lang A
  | some s => a_bv A s 0
def spk (L l : Int32) : Bool := decide ((L >>> (l &&& 31)) &&& 1 = 1)
def ableA (A : AS) (b : Nat) : Bool := match a_sit A b with
  | none => false
  | some i => spk (a_iv A i 0) (a_bv A b 0) && spk (a_iv A i 0) (langO A (a_src A b))
/-- a place says a word now -/
def keepA (A : AS) (a : Nat) (w : Int32) : AS := s_mn (s_st (s_sw A (up2 (a_sw A) a (a_mn A a) w)) (up2 (a_st A) a (a_mn A a) (nI (a_t A)))) (up1 (a_mn A) a (a_mn A a + 1))
def shiftA (A : AS) : AS := s_tx (s_lf A (a_lf A - 1)) (fun j => a_tx A (j + 1))
def floorA (A : AS) : AS := if a_lf A = 0 then A else if a_tx A 0 = -1 then shiftA A else keepA (shiftA A) 0 (a_tx A 0)
def lostA (A : AS) (b : Nat) : AS := s_bv A (up2 (a_bv A) b 3 (a_bv A b 3 + 1))
def badA (A : AS) (i : Nat) (w : Int32) : Bool := decide (20 ≤ a_iv A i 2) && decide (a_iv A i 3 - a_iv A i 3 / 3 * 3 = 0) && decide (w < 80)
def saysA (A : AS) (i : Nat) (w : Int32) : Int32 := if badA A i w = true then (if w = 79 then 0 else w + 1) else w
/-- an able booth says a word: the interpreter i -/
def sayA (A : AS) (b i : Nat) (w : Int32) : AS := keepA (s_iv A (up2 (up2 (up2 (a_iv A) i 4 (a_iv A i 4 + (if badA A i w = true then 1 else 0))) i 3 (a_iv A i 3 + 1)) i 2 (a_iv A i 2 + 1))) (b + 1) (saysA A i w)
def outA (A : AS) (b : Nat) (w : Int32) : AS := match a_sit A b with
  | none => lostA A b
  | some i => if ableA A b = true then sayA A b i w else lostA A b
def popA (A : AS) (b : Nat) : AS := s_hd (s_hw (s_hs A (fun x k => if x = b then a_hs A b (k + 1) else a_hs A x k)) (fun x k => if x = b then a_hw A b (k + 1) else a_hw A x k)) (up1 (a_hd A) b (a_hd A b - 1))
def dueA (A : AS) (b : Nat) : Bool := decide (a_hd A b ≠ 0) && decide (¬ nI (a_t A) - a_hs A b 0 < a_bv A b 1)
/-- an idiom that the interpreter doesn't know -/
def oddA (A : AS) (i : Nat) (w : Int32) : Bool := decide (80 ≤ w) && decide ((a_iv A i 1 >>> ((w - 80) &&& 31)) &&& 1 = 0)
def wordA (A : AS) (b i : Nat) : AS := if oddA A i (a_hw A b 0) = true then sayA (s_iv (s_bv (popA A b) (up2 (a_bv A) b 4 ((a_hw A b 0 - 80) * 4 + 1))) (up2 (a_iv A) i 5 (a_iv A i 5 + 1))) b i ((a_hw A b 0 - 80) * 4) else sayA (popA A b) b i (a_hw A b 0)
def tireA (A : AS) (i : Nat) (by_ : Int32) : AS := s_iv A (up2 (a_iv A) i 2 (max0 (a_iv A i 2 - by_)))
/-- a booth where nobody is able -/
def dumbA (A : AS) (b : Nat) : AS := if a_bv A b 4 = -1 then (if dueA A b = true then lostA (popA A b) b else A) else lostA (s_bv A (up2 (a_bv A) b 4 (-1))) b
def boothA (A : AS) (b : Nat) : AS := match a_sit A b with
  | none => dumbA A b
  | some i => if ableA A b = true then (if a_bv A b 4 = -1 then (if dueA A b = true then wordA A b i else tireA A i 1) else sayA (s_bv A (up2 (a_bv A) b 4 (-1))) b i (a_bv A b 4)) else tireA (dumbA A b) i 1
/-- whether a booth says something in its turn -/
def talkA (A : AS) (b : Nat) : Bool := ableA A b && (decide (a_bv A b 4 ≠ -1) || dueA A b)
def placeOf (x : Option Nat) : Nat := match x with
  | none => 0
  | some s => s + 1
def nowA (A : AS) (a : Nat) : Bool := decide (a_mn A a ≠ 0) && decide (a_st A a (a_mn A a - 1) = nI (a_t A))
def takeA (A : AS) (b : Nat) (w : Int32) : AS := if nI (a_hd A b) = a_bv A b 2 then lostA A b else s_hd (s_hw (s_hs A (up2 (a_hs A) b (a_hd A b) (nI (a_t A)))) (up2 (a_hw A) b (a_hd A b) w)) (up1 (a_hd A) b (a_hd A b + 1))
def hearA (A : AS) (b : Nat) : AS := if nowA A (placeOf (a_src A b)) = true then takeA A b (a_sw A (placeOf (a_src A b)) (a_mn A (placeOf (a_src A b)) - 1)) else A
def restA (A : AS) (i : Nat) : AS := if seatOf (a_sit A) i (a_nb A) = none then tireA A i 2 else A
def itA (f : AS → Nat → AS) : Nat → AS → AS
  | 0, A => A
  | n + 1, A => f (itA f n A) n
def tickA (A : AS) : AS := s_t (itA restA (a_ni A) (itA hearA (a_nb A) (itA boothA (a_nb A) (floorA A)))) (a_t A + 1)
def passA : Nat → AS → AS
  | 0, A => A
  | n + 1, A => tickA (passA n A)
def sumN (f : Nat → Nat) : Nat → Nat
  | 0 => 0
  | n + 1 => sumN f n + f n
/-- how many words the booths have said -/
def allA (A : AS) : Nat := sumN (fun b => a_mn A (b + 1)) (a_nb A)
def lcsA (A : AS) (b : Nat) : Nat := lrw (a_sw A 0) (a_sw A (b + 1)) (a_mn A 0) (a_mn A (b + 1))
