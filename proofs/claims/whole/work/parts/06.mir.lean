/-! The methods of the class and of the reference as functions of numbers: printed by a program of ours (wip/whole/gen) out of the bytecode. -/
def X3_first (q : Nat) (μ : MM) : Option Int32 :=
if (rI μ q 1) ≤ 0 then
some (-1 : Int32)
else
if (Int32.ofNat (al (RF q 0))) < (rI μ q 1) then
some (-1 : Int32)
else
if inb (0 : Int32) (al (RF q 0)) then
some (rI μ (RF q 0) (0 : Int32).toNatClampNeg)
else none
def X0_isFirstWordDue (q : Nat) (a1 : Int32) (μ : MM) : Option Int32 :=
if (rI μ (RF q 0) 1) ≤ 0 then
some (0 : Int32)
else
bO1 (X3_first (RF q 1) μ) (fun r2 =>
if (a1 - r2) < (rI μ q 4) then
some (0 : Int32)
else
some (1 : Int32))
def X3_takeFirst (q : Nat) (μ : MM) : Option (Int32 × MM) :=
if (rI μ q 1) ≤ 0 then
some ((-1 : Int32), μ)
else
if (rI μ q 1) ≤ (Int32.ofNat (al (RF q 0))) then
if inb (0 : Int32) (al (RF q 0)) then
bV (rI μ (RF q 0) (0 : Int32).toNatClampNeg) (fun x4 =>
bV (wI μ q 1 ((rI μ q 1) - (1 : Int32))) (fun μ5 =>
if cpyOk (al (RF q 0)) (al (RF q 0)) (1 : Int32) (0 : Int32) (rI μ5 q 1) then
bV (wC μ5 (RF q 0) (1 : Int32).toNatClampNeg (RF q 0) (0 : Int32).toNatClampNeg (rI μ5 q 1).toNatClampNeg) (fun μ7 =>
some (x4, μ7))
else none))
else none
else
some ((-1 : Int32), μ)
def X0_takeFirstWord (q : Nat) (μ : MM) : Option (Int32 × MM) :=
bO2 (X3_takeFirst (RF q 1) μ) (fun r1 μ2 =>
bO2 (X3_takeFirst (RF q 0) μ2) (fun r4 μ5 =>
some (r4, μ5)))
def X3_add (q : Nat) (a1 : Int32) (μ : MM) : Option MM :=
if (Int32.ofNat (al (RF q 0))) ≤ (rI μ q 1) then
some μ
else
if inb (rI μ q 1) (al (RF q 0)) then
bV (wI μ (RF q 0) (rI μ q 1).toNatClampNeg a1) (fun μ3 =>
bV (wI μ3 q 1 ((rI μ3 q 1) + (1 : Int32))) (fun μ4 =>
some μ4))
else none
def X0_hear (q : Nat) (a1 : Int32) (a2 : Int32) (μ : MM) : Option MM :=
if (rI μ (RF q 0) 1) < (rI μ q 5) then
bO1 (X3_add (RF q 0) a1 μ) (fun μ2 =>
bO1 (X3_add (RF q 1) a2 μ2) (fun μ4 =>
some μ4))
else
bV (wI μ q 9 ((rI μ q 9) + (1 : Int32))) (fun μ6 =>
some μ6)
def X3_copyFrom (q : Nat) (a1 : Nat) (μ : MM) : Option MM :=
bV (wI μ q 1 (if (Int32.ofNat (al (RF q 0))) < (rI μ a1 1) then (Int32.ofNat (al (RF q 0))) else (rI μ a1 1))) (fun μ1 =>
if cpyOk (al (RF a1 0)) (al (RF q 0)) (0 : Int32) (0 : Int32) (rI μ1 q 1) then
bV (wC μ1 (RF a1 0) (0 : Int32).toNatClampNeg (RF q 0) (0 : Int32).toNatClampNeg (rI μ1 q 1).toNatClampNeg) (fun μ3 =>
some μ3)
else none)
def X4_copyFrom (q : Nat) (a1 : Nat) (μ : MM) : Option MM :=
bV (wI μ q 2 (if (400 : Int32) < (rI μ a1 2) then (400 : Int32) else (rI μ a1 2))) (fun μ1 =>
if cpyOk (al (RF a1 0)) (al (RF q 0)) (0 : Int32) (0 : Int32) (rI μ1 q 2) then
bV (wC μ1 (RF a1 0) (0 : Int32).toNatClampNeg (RF q 0) (0 : Int32).toNatClampNeg (rI μ1 q 2).toNatClampNeg) (fun μ3 =>
if cpyOk (al (RF a1 1)) (al (RF q 1)) (0 : Int32) (0 : Int32) (rI μ3 q 2) then
bV (wC μ3 (RF a1 1) (0 : Int32).toNatClampNeg (RF q 1) (0 : Int32).toNatClampNeg (rI μ3 q 2).toNatClampNeg) (fun μ5 =>
some μ5)
else none)
else none)
def X0_copyFrom (q : Nat) (a1 : Nat) (μ : MM) : Option MM :=
bO1 (X3_copyFrom (RF q 0) (RF a1 0) μ) (fun μ1 =>
bO1 (X3_copyFrom (RF q 1) (RF a1 1) μ1) (fun μ3 =>
bO1 (X4_copyFrom (RF q 2) (RF a1 2) μ3) (fun μ5 =>
bV (wI μ5 q 3 (rI μ5 a1 3)) (fun μ7 =>
bV (wI μ7 q 4 (rI μ7 a1 4)) (fun μ8 =>
bV (wI μ8 q 5 (rI μ8 a1 5)) (fun μ9 =>
bV (wI μ9 q 6 (rI μ9 a1 6)) (fun μ10 =>
bV (wI μ10 q 7 (rI μ10 a1 7)) (fun μ11 =>
bV (wI μ11 q 8 (rI μ11 a1 8)) (fun μ12 =>
bV (wI μ12 q 9 (rI μ12 a1 9)) (fun μ13 =>
some μ13))))))))))
def X6_isWithin (a1 : Int32) (a2 : Int32) (a3 : Int32) : Int32 :=
if a1 < a2 then
(0 : Int32)
else
if a3 < a1 then
(0 : Int32)
else
(1 : Int32)
def X4_wordAt (q : Nat) (a1 : Int32) (μ : MM) : Option Int32 :=
if (X6_isWithin a1 (0 : Int32) ((rI μ q 2) - (1 : Int32))) = 0 then
some (-1 : Int32)
else
if inb a1 (al (RF q 0)) then
some (rI μ (RF q 0) a1.toNatClampNeg)
else none
def X1_markPlaces_L2 (o0 : Nat) (o1 : Nat) (b2 : Int32) : Nat → Int32 → MM → Option (MM)
  | 0, _, _ => none
  | n + 1, v3, μ =>
    if (100 : Int32) ≤ v3 then
    some μ
    else
    if inb v3 (al (RF o0 0)) then
    bV (wL μ (RF o0 0) v3.toNatClampNeg (0 : Int64)) (fun μ3 =>
    bV (v3 + (1 : Int32)) (fun x4 =>
    X1_markPlaces_L2 o0 o1 b2 n x4 μ3))
    else none
theorem X1_markPlaces_L2_s (o0 : Nat) (o1 : Nat) (b2 : Int32) (n : Nat) (v3 : Int32) (μ : MM) : X1_markPlaces_L2 o0 o1 b2 (n + 1) v3 μ =
    if (100 : Int32) ≤ v3 then
    some μ
    else
    if inb v3 (al (RF o0 0)) then
    bV (wL μ (RF o0 0) v3.toNatClampNeg (0 : Int64)) (fun μ3 =>
    bV (v3 + (1 : Int32)) (fun x4 =>
    X1_markPlaces_L2 o0 o1 b2 n x4 μ3))
    else none := rfl
def X1_markPlaces_L23 (o0 : Nat) (o1 : Nat) (b2 : Int32) : Nat → Int32 → MM → Option (MM)
  | 0, _, _ => none
  | n + 1, v3, μ =>
    if (60 : Int32) ≤ v3 then
    some μ
    else
    if (rI μ o1 2) ≤ (b2 + v3) then
    some μ
    else
    bO1 (X4_wordAt o1 (b2 + v3) μ) (fun r9 =>
    if (X6_isWithin r9 (0 : Int32) (99 : Int32)) = 0 then
    bV (v3 + (1 : Int32)) (fun x14 =>
    X1_markPlaces_L23 o0 o1 b2 n x14 μ)
    else
    if inb r9 (al (RF o0 0)) then
    if inb r9 (al (RF o0 0)) then
    bV (wL μ (RF o0 0) r9.toNatClampNeg ((rL μ (RF o0 0) r9.toNatClampNeg) ||| ((1 : Int64) <<< (v3.toInt64 &&& 63)))) (fun μ17 =>
    bV (v3 + (1 : Int32)) (fun x18 =>
    X1_markPlaces_L23 o0 o1 b2 n x18 μ17))
    else none
    else none)
theorem X1_markPlaces_L23_s (o0 : Nat) (o1 : Nat) (b2 : Int32) (n : Nat) (v3 : Int32) (μ : MM) : X1_markPlaces_L23 o0 o1 b2 (n + 1) v3 μ =
    if (60 : Int32) ≤ v3 then
    some μ
    else
    if (rI μ o1 2) ≤ (b2 + v3) then
    some μ
    else
    bO1 (X4_wordAt o1 (b2 + v3) μ) (fun r9 =>
    if (X6_isWithin r9 (0 : Int32) (99 : Int32)) = 0 then
    bV (v3 + (1 : Int32)) (fun x14 =>
    X1_markPlaces_L23 o0 o1 b2 n x14 μ)
    else
    if inb r9 (al (RF o0 0)) then
    if inb r9 (al (RF o0 0)) then
    bV (wL μ (RF o0 0) r9.toNatClampNeg ((rL μ (RF o0 0) r9.toNatClampNeg) ||| ((1 : Int64) <<< (v3.toInt64 &&& 63)))) (fun μ17 =>
    bV (v3 + (1 : Int32)) (fun x18 =>
    X1_markPlaces_L23 o0 o1 b2 n x18 μ17))
    else none
    else none) := rfl
def X1_markPlaces (q : Nat) (a1 : Nat) (a2 : Int32) (μ : MM) : Option MM :=
bO1 (X1_markPlaces_L2 q a1 a2 1000 (0 : Int32) μ) (fun μ5 =>
bO1 (X1_markPlaces_L23 q a1 a2 1000 (0 : Int32) μ5) (fun μ19 =>
some μ19))
def J13_bitCount_95d88 (a1 : Int64) : Int32 :=
bV (a1 - (((a1.toUInt64 >>> ((1 : Int32).toInt64.toUInt64 &&& Int64.toUInt64 63)).toInt64) &&& (6148914691236517205 : Int64))) (fun x1 =>
bV ((x1 &&& (3689348814741910323 : Int64)) + (((x1.toUInt64 >>> ((2 : Int32).toInt64.toUInt64 &&& Int64.toUInt64 63)).toInt64) &&& (3689348814741910323 : Int64))) (fun x2 =>
bV ((x2 + ((x2.toUInt64 >>> ((4 : Int32).toInt64.toUInt64 &&& Int64.toUInt64 63)).toInt64)) &&& (1085102592571150095 : Int64)) (fun x3 =>
bV (x3 + ((x3.toUInt64 >>> ((8 : Int32).toInt64.toUInt64 &&& Int64.toUInt64 63)).toInt64)) (fun x4 =>
bV (x4 + ((x4.toUInt64 >>> ((16 : Int32).toInt64.toUInt64 &&& Int64.toUInt64 63)).toInt64)) (fun x5 =>
bV (x5 + ((x5.toUInt64 >>> ((32 : Int32).toInt64.toUInt64 &&& Int64.toUInt64 63)).toInt64)) (fun x6 =>
x6.toInt32 &&& (127 : Int32)))))))
def X1_closedInBlock_L7 (o0 : Nat) (o1 : Nat) : Nat → Int64 → Int32 → MM → Option (Int64 × MM)
  | 0, _, _, _ => none
  | n + 1, v2, v4, μ =>
    if (rI μ o1 2) ≤ v4 then
    some (v2, μ)
    else
    if (400 : Int32) ≤ v4 then
    some (v2, μ)
    else
    bO1 (X4_wordAt o1 v4 μ) (fun r4 =>
    if (X6_isWithin r4 (0 : Int32) (99 : Int32)) = 0 then
    bV ((0 : Int64)) (fun x9 =>
    if inb v4 (al (RF o0 1)) then
    bV ((v2 + x9) + (rL μ (RF o0 1) v4.toNatClampNeg)) (fun x11 =>
    if inb v4 (al (RF o0 1)) then
    bV (wL μ (RF o0 1) v4.toNatClampNeg ((x11.toUInt64 >>> ((60 : Int32).toInt64.toUInt64 &&& Int64.toUInt64 63)).toInt64)) (fun μ13 =>
    bV ((x11 ||| (v2 &&& (x9 ^^^ (-1 : Int64)))) &&& (1152921504606846975 : Int64)) (fun x14 =>
    bV (v4 + (1 : Int32)) (fun x15 =>
    X1_closedInBlock_L7 o0 o1 n x14 x15 μ13)))
    else none)
    else none)
    else
    if inb r4 (al (RF o0 0)) then
    bV (v2 &&& (rL μ (RF o0 0) r4.toNatClampNeg)) (fun x17 =>
    if inb v4 (al (RF o0 1)) then
    bV ((v2 + x17) + (rL μ (RF o0 1) v4.toNatClampNeg)) (fun x19 =>
    if inb v4 (al (RF o0 1)) then
    bV (wL μ (RF o0 1) v4.toNatClampNeg ((x19.toUInt64 >>> ((60 : Int32).toInt64.toUInt64 &&& Int64.toUInt64 63)).toInt64)) (fun μ21 =>
    bV ((x19 ||| (v2 &&& (x17 ^^^ (-1 : Int64)))) &&& (1152921504606846975 : Int64)) (fun x22 =>
    bV (v4 + (1 : Int32)) (fun x23 =>
    X1_closedInBlock_L7 o0 o1 n x22 x23 μ21)))
    else none)
    else none)
    else none)
theorem X1_closedInBlock_L7_s (o0 : Nat) (o1 : Nat) (n : Nat) (v2 : Int64) (v4 : Int32) (μ : MM) : X1_closedInBlock_L7 o0 o1 (n + 1) v2 v4 μ =
    if (rI μ o1 2) ≤ v4 then
    some (v2, μ)
    else
    if (400 : Int32) ≤ v4 then
    some (v2, μ)
    else
    bO1 (X4_wordAt o1 v4 μ) (fun r4 =>
    if (X6_isWithin r4 (0 : Int32) (99 : Int32)) = 0 then
    bV ((0 : Int64)) (fun x9 =>
    if inb v4 (al (RF o0 1)) then
    bV ((v2 + x9) + (rL μ (RF o0 1) v4.toNatClampNeg)) (fun x11 =>
    if inb v4 (al (RF o0 1)) then
    bV (wL μ (RF o0 1) v4.toNatClampNeg ((x11.toUInt64 >>> ((60 : Int32).toInt64.toUInt64 &&& Int64.toUInt64 63)).toInt64)) (fun μ13 =>
    bV ((x11 ||| (v2 &&& (x9 ^^^ (-1 : Int64)))) &&& (1152921504606846975 : Int64)) (fun x14 =>
    bV (v4 + (1 : Int32)) (fun x15 =>
    X1_closedInBlock_L7 o0 o1 n x14 x15 μ13)))
    else none)
    else none)
    else
    if inb r4 (al (RF o0 0)) then
    bV (v2 &&& (rL μ (RF o0 0) r4.toNatClampNeg)) (fun x17 =>
    if inb v4 (al (RF o0 1)) then
    bV ((v2 + x17) + (rL μ (RF o0 1) v4.toNatClampNeg)) (fun x19 =>
    if inb v4 (al (RF o0 1)) then
    bV (wL μ (RF o0 1) v4.toNatClampNeg ((x19.toUInt64 >>> ((60 : Int32).toInt64.toUInt64 &&& Int64.toUInt64 63)).toInt64)) (fun μ21 =>
    bV ((x19 ||| (v2 &&& (x17 ^^^ (-1 : Int64)))) &&& (1152921504606846975 : Int64)) (fun x22 =>
    bV (v4 + (1 : Int32)) (fun x23 =>
    X1_closedInBlock_L7 o0 o1 n x22 x23 μ21)))
    else none)
    else none)
    else none) := rfl
def X1_closedInBlock (q : Nat) (a1 : Nat) (μ : MM) : Option (Int32 × MM) :=
bV ((1152921504606846975 : Int64)) (fun x1 =>
bO2 (X1_closedInBlock_L7 q a1 1000 x1 (0 : Int32) μ) (fun x24 μ25 =>
some ((60 : Int32) - (J13_bitCount_95d88 x24), μ25)))
def X1_mostInCommon_L2 (o0 : Nat) (o1 : Nat) (o2 : Nat) : Nat → Int32 → MM → Option (MM)
  | 0, _, _ => none
  | n + 1, v3, μ =>
    if (400 : Int32) ≤ v3 then
    some μ
    else
    if inb v3 (al (RF o0 1)) then
    bV (wL μ (RF o0 1) v3.toNatClampNeg (0 : Int64)) (fun μ3 =>
    bV (v3 + (1 : Int32)) (fun x4 =>
    X1_mostInCommon_L2 o0 o1 o2 n x4 μ3))
    else none
theorem X1_mostInCommon_L2_s (o0 : Nat) (o1 : Nat) (o2 : Nat) (n : Nat) (v3 : Int32) (μ : MM) : X1_mostInCommon_L2 o0 o1 o2 (n + 1) v3 μ =
    if (400 : Int32) ≤ v3 then
    some μ
    else
    if inb v3 (al (RF o0 1)) then
    bV (wL μ (RF o0 1) v3.toNatClampNeg (0 : Int64)) (fun μ3 =>
    bV (v3 + (1 : Int32)) (fun x4 =>
    X1_mostInCommon_L2 o0 o1 o2 n x4 μ3))
    else none := rfl
def X1_mostInCommon_L27 (o0 : Nat) (o1 : Nat) (o2 : Nat) : Nat → Int32 → Int32 → MM → Option (Int32 × MM)
  | 0, _, _, _ => none
  | n + 1, v3, v4, μ =>
    if (rI μ o1 2) ≤ v4 then
    some (v3, μ)
    else
    bO1 (X1_markPlaces o0 o1 v4 μ) (fun μ8 =>
    bO2 (X1_closedInBlock o0 o2 μ8) (fun r10 μ11 =>
    bV (v3 + r10) (fun x13 =>
    bV (v4 + (60 : Int32)) (fun x14 =>
    X1_mostInCommon_L27 o0 o1 o2 n x13 x14 μ11))))
theorem X1_mostInCommon_L27_s (o0 : Nat) (o1 : Nat) (o2 : Nat) (n : Nat) (v3 : Int32) (v4 : Int32) (μ : MM) : X1_mostInCommon_L27 o0 o1 o2 (n + 1) v3 v4 μ =
    if (rI μ o1 2) ≤ v4 then
    some (v3, μ)
    else
    bO1 (X1_markPlaces o0 o1 v4 μ) (fun μ8 =>
    bO2 (X1_closedInBlock o0 o2 μ8) (fun r10 μ11 =>
    bV (v3 + r10) (fun x13 =>
    bV (v4 + (60 : Int32)) (fun x14 =>
    X1_mostInCommon_L27 o0 o1 o2 n x13 x14 μ11)))) := rfl
def X1_mostInCommon (q : Nat) (a1 : Nat) (a2 : Nat) (μ : MM) : Option (Int32 × MM) :=
bO1 (X1_mostInCommon_L2 q a1 a2 1000 (0 : Int32) μ) (fun μ5 =>
bO2 (X1_mostInCommon_L27 q a1 a2 1000 (0 : Int32) (0 : Int32) μ5) (fun x15 μ16 =>
some (x15, μ16)))
def X2_speaks (q : Nat) (a1 : Int32) (μ : MM) : Int32 :=
if (((rI μ q 0) >>> (a1 &&& 31)) &&& (1 : Int32)) = (1 : Int32) then
(1 : Int32)
else
(0 : Int32)
def X2_isLostFor (q : Nat) (a1 : Int32) (μ : MM) : Int32 :=
if a1 < (80 : Int32) then
(0 : Int32)
else
if (((rI μ q 1) >>> ((a1 - (80 : Int32)) &&& 31)) &&& (1 : Int32)) = 0 then
(1 : Int32)
else
(0 : Int32)
def X2_utter (q : Nat) (a1 : Int32) (μ : MM) : Int32 × MM :=
if (rI μ q 3) < (20 : Int32) then
bV (wI μ q 4 ((rI μ q 4) + (1 : Int32))) (fun μ2 =>
bV (wI μ2 q 3 ((rI μ2 q 3) + (1 : Int32))) (fun μ3 =>
(a1, μ3)))
else
if ((rI μ q 4) - (rI μ q 4) / (3 : Int32) * (3 : Int32)) = 0 then
if (80 : Int32) ≤ a1 then
bV (wI μ q 4 ((rI μ q 4) + (1 : Int32))) (fun μ8 =>
bV (wI μ8 q 3 ((rI μ8 q 3) + (1 : Int32))) (fun μ9 =>
(a1, μ9)))
else
if a1 = (79 : Int32) then
bV (wI μ q 5 ((rI μ q 5) + (1 : Int32))) (fun μ15 =>
bV (wI μ15 q 4 ((rI μ15 q 4) + (1 : Int32))) (fun μ16 =>
bV (wI μ16 q 3 ((rI μ16 q 3) + (1 : Int32))) (fun μ17 =>
((0 : Int32), μ17))))
else
bV (a1 + (1 : Int32)) (fun x11 =>
bV (wI μ q 5 ((rI μ q 5) + (1 : Int32))) (fun μ12 =>
bV (wI μ12 q 4 ((rI μ12 q 4) + (1 : Int32))) (fun μ13 =>
bV (wI μ13 q 3 ((rI μ13 q 3) + (1 : Int32))) (fun μ14 =>
(x11, μ14)))))
else
bV (wI μ q 4 ((rI μ q 4) + (1 : Int32))) (fun μ5 =>
bV (wI μ5 q 3 ((rI μ5 q 3) + (1 : Int32))) (fun μ6 =>
(a1, μ6)))
def X2_recover (q : Nat) (a1 : Int32) (μ : MM) : MM :=
bV (wI μ q 3 (if (0 : Int32) < ((rI μ q 3) - a1) then ((rI μ q 3) - a1) else (0 : Int32))) (fun μ1 =>
μ1)
def X2_tell (q : Nat) (a1 : Int32) (μ : MM) : Int32 :=
if a1 = 0 then
rI μ q 0
else if a1 = 1 then
rI μ q 1
else if a1 = 2 then
rI μ q 2
else if a1 = 3 then
rI μ q 3
else if a1 = 4 then
rI μ q 4
else if a1 = 5 then
rI μ q 5
else 
rI μ q 6
def X2_copyFrom (q : Nat) (a1 : Nat) (μ : MM) : MM :=
bV (wI μ q 0 (rI μ a1 0)) (fun μ1 =>
bV (wI μ1 q 1 (rI μ1 a1 1)) (fun μ2 =>
bV (wI μ2 q 2 (rI μ2 a1 2)) (fun μ3 =>
bV (wI μ3 q 3 (rI μ3 a1 3)) (fun μ4 =>
bV (wI μ4 q 4 (rI μ4 a1 4)) (fun μ5 =>
bV (wI μ5 q 5 (rI μ5 a1 5)) (fun μ6 =>
bV (wI μ6 q 6 (rI μ6 a1 6)) (fun μ7 =>
μ7)))))))
def X4_add (q : Nat) (a1 : Int32) (a2 : Int32) (μ : MM) : Option MM :=
if (400 : Int32) ≤ (rI μ q 2) then
some μ
else
if inb (rI μ q 2) (al (RF q 0)) then
bV (wI μ (RF q 0) (rI μ q 2).toNatClampNeg a1) (fun μ3 =>
if inb (rI μ3 q 2) (al (RF q 1)) then
bV (wI μ3 (RF q 1) (rI μ3 q 2).toNatClampNeg a2) (fun μ5 =>
bV (wI μ5 q 2 ((rI μ5 q 2) + (1 : Int32))) (fun μ6 =>
some μ6))
else none)
else none
def X4_tickAt (q : Nat) (a1 : Int32) (μ : MM) : Option Int32 :=
if (X6_isWithin a1 (0 : Int32) ((rI μ q 2) - (1 : Int32))) = 0 then
some (-1 : Int32)
else
if inb a1 (al (RF q 1)) then
some (rI μ (RF q 1) a1.toNatClampNeg)
else none
def X4_wordOfTick (q : Nat) (a1 : Int32) (μ : MM) : Option Int32 :=
if (rI μ q 2) ≤ 0 then
some (-1 : Int32)
else
bO1 (X4_tickAt q ((rI μ q 2) - (1 : Int32)) μ) (fun r2 =>
if r2 = a1 then
bO1 (X4_wordAt q ((rI μ q 2) - (1 : Int32)) μ) (fun r5 =>
some r5)
else
some (-1 : Int32))
def X4_mixInto_L5 (o0 : Nat) (μ : MM) : Nat → Int64 → Int32 → Option (Int64)
  | 0, _, _ => none
  | n + 1, v3, v5 =>
    if (rI μ o0 2) ≤ v5 then
    some v3
    else
    bO1 (X4_wordAt o0 v5 μ) (fun r2 =>
    bV ((v3 * (31 : Int64)) + r2.toInt64) (fun x4 =>
    bO1 (X4_tickAt o0 v5 μ) (fun r5 =>
    bV ((x4 * (31 : Int64)) + r5.toInt64) (fun x7 =>
    bV (v5 + (1 : Int32)) (fun x8 =>
    X4_mixInto_L5 o0 μ n x7 x8)))))
theorem X4_mixInto_L5_s (o0 : Nat) (μ : MM) (n : Nat) (v3 : Int64) (v5 : Int32) : X4_mixInto_L5 o0 μ (n + 1) v3 v5 =
    if (rI μ o0 2) ≤ v5 then
    some v3
    else
    bO1 (X4_wordAt o0 v5 μ) (fun r2 =>
    bV ((v3 * (31 : Int64)) + r2.toInt64) (fun x4 =>
    bO1 (X4_tickAt o0 v5 μ) (fun r5 =>
    bV ((x4 * (31 : Int64)) + r5.toInt64) (fun x7 =>
    bV (v5 + (1 : Int32)) (fun x8 =>
    X4_mixInto_L5 o0 μ n x7 x8))))) := rfl
def X4_mixInto (q : Nat) (a1 : Int64) (μ : MM) : Option Int64 :=
bO1 (X4_mixInto_L5 q μ 1000 a1 (0 : Int32)) (fun x9 =>
some x9)
def X5_hasBooth (q : Nat) (a1 : Int32) (μ : MM) : Int32 :=
if a1 < 0 then
(0 : Int32)
else
if (rI μ q 6) ≤ a1 then
(0 : Int32)
else
(1 : Int32)
def X5_hasInterpreter (q : Nat) (a1 : Int32) (μ : MM) : Int32 :=
if a1 < 0 then
(0 : Int32)
else
if (rI μ q 7) ≤ a1 then
(0 : Int32)
else
(1 : Int32)
def X5_speechOf (q : Nat) (a1 : Int32) (μ : MM) : Option Nat :=
if (X5_hasBooth q a1 μ) = 0 then
some (RF q 2)
else
if inb a1 (al (RF q 3)) then
some (RF (RF (RF q 3) a1.toNatClampNeg) 2)
else none
theorem ktX5_speechOf {q : Nat} {a1 : Int32} {μ : MM} {r : Nat} (hq : kc q = 5) (h : X5_speechOf q a1 μ = some r) : kc r = 4 := by
  unfold X5_speechOf at h
  split at h
  · cases h
    exact kr5_2 hq
  · obtain ⟨hg, h⟩ := gd_inv h
    cases h
    exact kr0_2 (ka102 (kr5_3 hq) hg)
def X5_languageOf (q : Nat) (a1 : Int32) (μ : MM) : Option Int32 :=
if (X5_hasBooth q a1 μ) = 0 then
some (rI μ q 5)
else
if inb a1 (al (RF q 3)) then
some (rI μ (RF (RF q 3) a1.toNatClampNeg) 3)
else none
def X5_isAble (q : Nat) (a1 : Int32) (μ : MM) : Option Int32 :=
if inb a1 (al (RF q 3)) then
if (X5_hasInterpreter q (rI μ (RF (RF q 3) a1.toNatClampNeg) 7) μ) = 0 then
some (0 : Int32)
else
if inb (rI μ (RF (RF q 3) a1.toNatClampNeg) 7) (al (RF q 4)) then
if (X2_speaks (RF (RF q 4) (rI μ (RF (RF q 3) a1.toNatClampNeg) 7).toNatClampNeg) (rI μ (RF (RF q 3) a1.toNatClampNeg) 3) μ) = 0 then
some (0 : Int32)
else
bO1 (X5_languageOf q (rI μ (RF (RF q 3) a1.toNatClampNeg) 6) μ) (fun r9 =>
if (X2_speaks (RF (RF q 4) (rI μ (RF (RF q 3) a1.toNatClampNeg) 7).toNatClampNeg) r9 μ) = 0 then
some (0 : Int32)
else
some (1 : Int32))
else none
else none
def X5_enrol (q : Nat) (a1 : Int32) (a2 : Int32) (μ : MM) : Option (Int32 × MM) :=
if (rI μ q 7) < (8 : Int32) then
if inb (rI μ q 7) (al (RF q 4)) then
bV (wI μ (RF (RF q 4) (rI μ q 7).toNatClampNeg) 0 a1) (fun μ3 =>
if inb (rI μ3 q 7) (al (RF q 4)) then
bV (wI μ3 (RF (RF q 4) (rI μ3 q 7).toNatClampNeg) 1 a2) (fun μ5 =>
bV (wI μ5 q 7 ((rI μ5 q 7) + (1 : Int32))) (fun μ6 =>
some ((rI μ6 q 7) - (1 : Int32), μ6)))
else none)
else none
else
some ((-1 : Int32), μ)
def X5_build (q : Nat) (a1 : Int32) (a2 : Int32) (a3 : Int32) (μ : MM) : Option (Int32 × MM) :=
if (rI μ q 6) < (6 : Int32) then
if inb (rI μ q 6) (al (RF q 3)) then
bV (wI μ (RF (RF q 3) (rI μ q 6).toNatClampNeg) 3 a1) (fun μ3 =>
if inb (rI μ3 q 6) (al (RF q 3)) then
bV (wI μ3 (RF (RF q 3) (rI μ3 q 6).toNatClampNeg) 4 a2) (fun μ5 =>
if inb (rI μ5 q 6) (al (RF q 3)) then
bV (wI μ5 (RF (RF q 3) (rI μ5 q 6).toNatClampNeg) 5 a3) (fun μ7 =>
bV (wI μ7 q 6 ((rI μ7 q 6) + (1 : Int32))) (fun μ8 =>
some ((rI μ8 q 6) - (1 : Int32), μ8)))
else none)
else none)
else none
else
some ((-1 : Int32), μ)
def X5_seat (q : Nat) (a1 : Int32) (a2 : Int32) (μ : MM) : Option (Int32 × MM) :=
if inb a1 (al (RF q 3)) then
bV (rI μ (RF (RF q 3) a1.toNatClampNeg) 7) (fun x2 =>
if x2 = a2 then
some (x2, μ)
else
if (X5_hasInterpreter q x2 μ) = 0 then
if (X5_hasInterpreter q a2 μ) = 0 then
if inb a1 (al (RF q 3)) then
bV (wI μ (RF (RF q 3) a1.toNatClampNeg) 7 a2) (fun μ11 =>
some (x2, μ11))
else none
else
if inb a2 (al (RF q 4)) then
bV (rI μ (RF (RF q 4) a2.toNatClampNeg) 2) (fun x13 =>
if (X5_hasBooth q x13 μ) = 0 then
if inb a2 (al (RF q 4)) then
bV (wI μ (RF (RF q 4) a2.toNatClampNeg) 2 a1) (fun μ18 =>
if inb a1 (al (RF q 3)) then
bV (wI μ18 (RF (RF q 3) a1.toNatClampNeg) 7 a2) (fun μ20 =>
some (x2, μ20))
else none)
else none
else
if inb x13 (al (RF q 3)) then
bV (wI μ (RF (RF q 3) x13.toNatClampNeg) 7 (-1 : Int32)) (fun μ22 =>
if inb a2 (al (RF q 4)) then
bV (wI μ22 (RF (RF q 4) a2.toNatClampNeg) 2 a1) (fun μ24 =>
if inb a1 (al (RF q 3)) then
bV (wI μ24 (RF (RF q 3) a1.toNatClampNeg) 7 a2) (fun μ26 =>
some (x2, μ26))
else none)
else none)
else none)
else none
else
if inb x2 (al (RF q 4)) then
bV (wI μ (RF (RF q 4) x2.toNatClampNeg) 2 (-1 : Int32)) (fun μ28 =>
if (X5_hasInterpreter q a2 μ28) = 0 then
if inb a1 (al (RF q 3)) then
bV (wI μ28 (RF (RF q 3) a1.toNatClampNeg) 7 a2) (fun μ33 =>
some (x2, μ33))
else none
else
if inb a2 (al (RF q 4)) then
bV (rI μ28 (RF (RF q 4) a2.toNatClampNeg) 2) (fun x35 =>
if (X5_hasBooth q x35 μ28) = 0 then
if inb a2 (al (RF q 4)) then
bV (wI μ28 (RF (RF q 4) a2.toNatClampNeg) 2 a1) (fun μ40 =>
if inb a1 (al (RF q 3)) then
bV (wI μ40 (RF (RF q 3) a1.toNatClampNeg) 7 a2) (fun μ42 =>
some (x2, μ42))
else none)
else none
else
if inb x35 (al (RF q 3)) then
bV (wI μ28 (RF (RF q 3) x35.toNatClampNeg) 7 (-1 : Int32)) (fun μ44 =>
if inb a2 (al (RF q 4)) then
bV (wI μ44 (RF (RF q 4) a2.toNatClampNeg) 2 a1) (fun μ46 =>
if inb a1 (al (RF q 3)) then
bV (wI μ46 (RF (RF q 3) a1.toNatClampNeg) 7 a2) (fun μ48 =>
some (x2, μ48))
else none)
else none)
else none)
else none)
else none)
else none
def X5_chainLength_L4 (o0 : Nat) (μ : MM) : Nat → Int32 → Int32 → Option (Int32)
  | 0, _, _ => none
  | n + 1, v2, v3 =>
    if (X5_hasBooth o0 v3 μ) = 0 then
    some v2
    else
    if (6 : Int32) ≤ v2 then
    some v2
    else
    bV (v2 + (1 : Int32)) (fun x5 =>
    if inb v3 (al (RF o0 3)) then
    bV (rI μ (RF (RF o0 3) v3.toNatClampNeg) 6) (fun x7 =>
    X5_chainLength_L4 o0 μ n x5 x7)
    else none)
theorem X5_chainLength_L4_s (o0 : Nat) (μ : MM) (n : Nat) (v2 : Int32) (v3 : Int32) : X5_chainLength_L4 o0 μ (n + 1) v2 v3 =
    if (X5_hasBooth o0 v3 μ) = 0 then
    some v2
    else
    if (6 : Int32) ≤ v2 then
    some v2
    else
    bV (v2 + (1 : Int32)) (fun x5 =>
    if inb v3 (al (RF o0 3)) then
    bV (rI μ (RF (RF o0 3) v3.toNatClampNeg) 6) (fun x7 =>
    X5_chainLength_L4 o0 μ n x5 x7)
    else none) := rfl
def X5_chainLength (q : Nat) (a1 : Int32) (μ : MM) : Option Int32 :=
bO1 (X5_chainLength_L4 q μ 1000 (0 : Int32) a1) (fun x8 =>
some x8)
def X5_comesBy_L5 (o0 : Nat) (b2 : Int32) (μ : MM) : Nat → Int32 → Int32 → Option (Nat)
  | 0, _, _ => none
  | n + 1, v3, v4 =>
    if (X5_hasBooth o0 v3 μ) = 0 then
    some 1
    else
    if (6 : Int32) ≤ v4 then
    some 1
    else
    if v3 = b2 then
    some 0
    else
    if inb v3 (al (RF o0 3)) then
    bV (rI μ (RF (RF o0 3) v3.toNatClampNeg) 6) (fun x7 =>
    bV (v4 + (1 : Int32)) (fun x8 =>
    X5_comesBy_L5 o0 b2 μ n x7 x8))
    else none
theorem X5_comesBy_L5_s (o0 : Nat) (b2 : Int32) (μ : MM) (n : Nat) (v3 : Int32) (v4 : Int32) : X5_comesBy_L5 o0 b2 μ (n + 1) v3 v4 =
    if (X5_hasBooth o0 v3 μ) = 0 then
    some 1
    else
    if (6 : Int32) ≤ v4 then
    some 1
    else
    if v3 = b2 then
    some 0
    else
    if inb v3 (al (RF o0 3)) then
    bV (rI μ (RF (RF o0 3) v3.toNatClampNeg) 6) (fun x7 =>
    bV (v4 + (1 : Int32)) (fun x8 =>
    X5_comesBy_L5 o0 b2 μ n x7 x8))
    else none := rfl
def X5_comesBy (q : Nat) (a1 : Int32) (a2 : Int32) (μ : MM) : Option Int32 :=
bO1 (X5_comesBy_L5 q a2 μ 1000 a1 (0 : Int32)) (fun tg9 =>
if tg9 = 0 then
some (1 : Int32)
else
some (0 : Int32))
def X5_letFloorSpeak (q : Nat) (μ : MM) : Option MM :=
bO2 (X3_takeFirst (RF q 1) μ) (fun r1 μ2 =>
if r1 = (-1 : Int32) then
some μ2
else
bO1 (X4_add (RF q 2) r1 (rI μ2 q 8) μ2) (fun μ5 =>
some μ5))
def X5_workUnable (q : Nat) (a1 : Nat) (μ : MM) : Option MM :=
if (rI μ a1 8) = (-1 : Int32) then
bO1 (X0_isFirstWordDue a1 (rI μ q 8) μ) (fun r2 =>
if r2 = 0 then
if (X5_hasInterpreter q (rI μ a1 7) μ) = 0 then
some μ
else
if inb (rI μ a1 7) (al (RF q 4)) then
bV (X2_recover (RF (RF q 4) (rI μ a1 7).toNatClampNeg) (1 : Int32) μ) (fun μ9 =>
some μ9)
else none
else
bO2 (X0_takeFirstWord a1 μ) (fun r11 μ12 =>
bV (wI μ12 a1 9 ((rI μ12 a1 9) + (1 : Int32))) (fun μ14 =>
if (X5_hasInterpreter q (rI μ14 a1 7) μ14) = 0 then
some μ14
else
if inb (rI μ14 a1 7) (al (RF q 4)) then
bV (X2_recover (RF (RF q 4) (rI μ14 a1 7).toNatClampNeg) (1 : Int32) μ14) (fun μ19 =>
some μ19)
else none)))
else
bV (wI μ a1 8 (-1 : Int32)) (fun μ21 =>
bV (wI μ21 a1 9 ((rI μ21 a1 9) + (1 : Int32))) (fun μ22 =>
if (X5_hasInterpreter q (rI μ22 a1 7) μ22) = 0 then
some μ22
else
if inb (rI μ22 a1 7) (al (RF q 4)) then
bV (X2_recover (RF (RF q 4) (rI μ22 a1 7).toNatClampNeg) (1 : Int32) μ22) (fun μ27 =>
some μ27)
else none))
def X5_nextWord (q : Nat) (a1 : Nat) (a2 : Nat) (μ : MM) : Option (Int32 × MM) :=
if (rI μ a1 8) = (-1 : Int32) then
bO1 (X0_isFirstWordDue a1 (rI μ q 8) μ) (fun r2 =>
if r2 = 0 then
some ((-1 : Int32), μ)
else
bO2 (X0_takeFirstWord a1 μ) (fun r5 μ6 =>
if (X2_isLostFor a2 r5 μ6) = 0 then
some (r5, μ6)
else
bV ((r5 - (80 : Int32)) * (4 : Int32)) (fun x11 =>
bV (wI μ6 a1 8 (x11 + (1 : Int32))) (fun μ12 =>
bV (wI μ12 a2 6 ((rI μ12 a2 6) + (1 : Int32))) (fun μ13 =>
some (x11, μ13))))))
else
bV (rI μ a1 8) (fun x14 =>
bV (wI μ a1 8 (-1 : Int32)) (fun μ15 =>
some (x14, μ15)))
def X5_work (q : Nat) (a1 : Int32) (μ : MM) : Option (Int32 × MM) :=
if inb a1 (al (RF q 3)) then
bO1 (X5_isAble q a1 μ) (fun r2 =>
if r2 = 0 then
bO1 (X5_workUnable q (RF (RF q 3) a1.toNatClampNeg) μ) (fun μ17 =>
some ((0 : Int32), μ17))
else
if inb (rI μ (RF (RF q 3) a1.toNatClampNeg) 7) (al (RF q 4)) then
bO2 (X5_nextWord q (RF (RF q 3) a1.toNatClampNeg) (RF (RF q 4) (rI μ (RF (RF q 3) a1.toNatClampNeg) 7).toNatClampNeg) μ) (fun r6 μ7 =>
if r6 = (-1 : Int32) then
bV (X2_recover (RF (RF q 4) (rI μ (RF (RF q 3) a1.toNatClampNeg) 7).toNatClampNeg) (1 : Int32) μ7) (fun μ15 =>
some ((0 : Int32), μ15))
else
bP (X2_utter (RF (RF q 4) (rI μ (RF (RF q 3) a1.toNatClampNeg) 7).toNatClampNeg) r6 μ7) (fun r10 μ11 =>
bO1 (X4_add (RF (RF (RF q 3) a1.toNatClampNeg) 2) r10 (rI μ11 q 8) μ11) (fun μ13 =>
some ((1 : Int32), μ13))))
else none)
else none
def X5_letBoothsHear_L2 (o0 : Nat) : Nat → Int32 → MM → Option (MM)
  | 0, _, _ => none
  | n + 1, v1, μ =>
    if (rI μ o0 6) ≤ v1 then
    some μ
    else
    if inb v1 (al (RF o0 3)) then
    bO1 (X5_speechOf o0 (rI μ (RF (RF o0 3) v1.toNatClampNeg) 6) μ) (fun r3 =>
    bO1 (X4_wordOfTick r3 (rI μ o0 8) μ) (fun r5 =>
    if r5 = (-1 : Int32) then
    bV (v1 + (1 : Int32)) (fun x8 =>
    X5_letBoothsHear_L2 o0 n x8 μ)
    else
    if inb v1 (al (RF o0 3)) then
    bO1 (X0_hear (RF (RF o0 3) v1.toNatClampNeg) r5 (rI μ o0 8) μ) (fun μ10 =>
    bV (v1 + (1 : Int32)) (fun x12 =>
    X5_letBoothsHear_L2 o0 n x12 μ10))
    else none))
    else none
theorem X5_letBoothsHear_L2_s (o0 : Nat) (n : Nat) (v1 : Int32) (μ : MM) : X5_letBoothsHear_L2 o0 (n + 1) v1 μ =
    if (rI μ o0 6) ≤ v1 then
    some μ
    else
    if inb v1 (al (RF o0 3)) then
    bO1 (X5_speechOf o0 (rI μ (RF (RF o0 3) v1.toNatClampNeg) 6) μ) (fun r3 =>
    bO1 (X4_wordOfTick r3 (rI μ o0 8) μ) (fun r5 =>
    if r5 = (-1 : Int32) then
    bV (v1 + (1 : Int32)) (fun x8 =>
    X5_letBoothsHear_L2 o0 n x8 μ)
    else
    if inb v1 (al (RF o0 3)) then
    bO1 (X0_hear (RF (RF o0 3) v1.toNatClampNeg) r5 (rI μ o0 8) μ) (fun μ10 =>
    bV (v1 + (1 : Int32)) (fun x12 =>
    X5_letBoothsHear_L2 o0 n x12 μ10))
    else none))
    else none := rfl
def X5_letBoothsHear (q : Nat) (μ : MM) : Option MM :=
bO1 (X5_letBoothsHear_L2 q 1000 (0 : Int32) μ) (fun μ13 =>
some μ13)
def X5_letOthersRecover_L2 (o0 : Nat) : Nat → Int32 → MM → Option (MM)
  | 0, _, _ => none
  | n + 1, v1, μ =>
    if (rI μ o0 7) ≤ v1 then
    some μ
    else
    if inb v1 (al (RF o0 4)) then
    if (rI μ (RF (RF o0 4) v1.toNatClampNeg) 2) = (-1 : Int32) then
    if inb v1 (al (RF o0 4)) then
    bV (X2_recover (RF (RF o0 4) v1.toNatClampNeg) (2 : Int32) μ) (fun μ6 =>
    bV (v1 + (1 : Int32)) (fun x8 =>
    X5_letOthersRecover_L2 o0 n x8 μ6))
    else none
    else
    bV (v1 + (1 : Int32)) (fun x4 =>
    X5_letOthersRecover_L2 o0 n x4 μ)
    else none
theorem X5_letOthersRecover_L2_s (o0 : Nat) (n : Nat) (v1 : Int32) (μ : MM) : X5_letOthersRecover_L2 o0 (n + 1) v1 μ =
    if (rI μ o0 7) ≤ v1 then
    some μ
    else
    if inb v1 (al (RF o0 4)) then
    if (rI μ (RF (RF o0 4) v1.toNatClampNeg) 2) = (-1 : Int32) then
    if inb v1 (al (RF o0 4)) then
    bV (X2_recover (RF (RF o0 4) v1.toNatClampNeg) (2 : Int32) μ) (fun μ6 =>
    bV (v1 + (1 : Int32)) (fun x8 =>
    X5_letOthersRecover_L2 o0 n x8 μ6))
    else none
    else
    bV (v1 + (1 : Int32)) (fun x4 =>
    X5_letOthersRecover_L2 o0 n x4 μ)
    else none := rfl
def X5_letOthersRecover (q : Nat) (μ : MM) : Option MM :=
bO1 (X5_letOthersRecover_L2 q 1000 (0 : Int32) μ) (fun μ9 =>
some μ9)
def X5_goOn_L16 (o0 : Nat) (b1 : Int32) (b3 : Int32) : Nat → Int32 → Int32 → MM → Option (Int32 × MM)
  | 0, _, _, _ => none
  | n + 1, v2, v4, μ =>
    if (rI μ o0 6) ≤ v4 then
    some (v2, μ)
    else
    bO2 (X5_work o0 v4 μ) (fun r5 μ6 =>
    bV (v2 + r5) (fun x8 =>
    bV (v4 + (1 : Int32)) (fun x9 =>
    X5_goOn_L16 o0 b1 b3 n x8 x9 μ6)))
theorem X5_goOn_L16_s (o0 : Nat) (b1 : Int32) (b3 : Int32) (n : Nat) (v2 : Int32) (v4 : Int32) (μ : MM) : X5_goOn_L16 o0 b1 b3 (n + 1) v2 v4 μ =
    if (rI μ o0 6) ≤ v4 then
    some (v2, μ)
    else
    bO2 (X5_work o0 v4 μ) (fun r5 μ6 =>
    bV (v2 + r5) (fun x8 =>
    bV (v4 + (1 : Int32)) (fun x9 =>
    X5_goOn_L16 o0 b1 b3 n x8 x9 μ6))) := rfl
def X5_goOn_L4 (o0 : Nat) (b1 : Int32) : Nat → Int32 → Int32 → MM → Option (Int32 × MM)
  | 0, _, _, _ => none
  | n + 1, v2, v3, μ =>
    if b1 ≤ v3 then
    some (v2, μ)
    else
    bO1 (X5_letFloorSpeak o0 μ) (fun μ2 =>
    bO2 (X5_goOn_L16 o0 b1 v3 1000 v2 (0 : Int32) μ2) (fun x10 μ11 =>
    bO1 (X5_letBoothsHear o0 μ11) (fun μ13 =>
    bO1 (X5_letOthersRecover o0 μ13) (fun μ15 =>
    bV (wI μ15 o0 8 ((rI μ15 o0 8) + (1 : Int32))) (fun μ17 =>
    bV (v3 + (1 : Int32)) (fun x18 =>
    X5_goOn_L4 o0 b1 n x10 x18 μ17))))))
theorem X5_goOn_L4_s (o0 : Nat) (b1 : Int32) (n : Nat) (v2 : Int32) (v3 : Int32) (μ : MM) : X5_goOn_L4 o0 b1 (n + 1) v2 v3 μ =
    if b1 ≤ v3 then
    some (v2, μ)
    else
    bO1 (X5_letFloorSpeak o0 μ) (fun μ2 =>
    bO2 (X5_goOn_L16 o0 b1 v3 1000 v2 (0 : Int32) μ2) (fun x10 μ11 =>
    bO1 (X5_letBoothsHear o0 μ11) (fun μ13 =>
    bO1 (X5_letOthersRecover o0 μ13) (fun μ15 =>
    bV (wI μ15 o0 8 ((rI μ15 o0 8) + (1 : Int32))) (fun μ17 =>
    bV (v3 + (1 : Int32)) (fun x18 =>
    X5_goOn_L4 o0 b1 n x10 x18 μ17)))))) := rfl
def X5_goOn (q : Nat) (a1 : Int32) (μ : MM) : Option (Int32 × MM) :=
bO2 (X5_goOn_L4 q a1 1000 (0 : Int32) (0 : Int32) μ) (fun x19 μ20 =>
some (x19, μ20))
def X5_cameThroughAt (q : Nat) (a1 : Int32) (μ : MM) : Option (Int32 × MM) :=
if inb a1 (al (RF q 3)) then
bO2 (X1_mostInCommon (RF q 0) (RF q 2) (RF (RF (RF q 3) a1.toNatClampNeg) 2) μ) (fun r2 μ3 =>
some (r2, μ3))
else none
def X5_tellBooth (q : Nat) (a1 : Int32) (a2 : Int32) (μ : MM) : Option (Int32 × MM) :=
if inb a1 (al (RF q 3)) then
if a2 = 0 then
some (rI μ (RF (RF q 3) a1.toNatClampNeg) 3, μ)
else if a2 = 1 then
some (rI μ (RF (RF q 3) a1.toNatClampNeg) 4, μ)
else if a2 = 2 then
some (rI μ (RF (RF q 3) a1.toNatClampNeg) 5, μ)
else if a2 = 3 then
some (rI μ (RF (RF q 3) a1.toNatClampNeg) 6, μ)
else if a2 = 4 then
some (rI μ (RF (RF q 3) a1.toNatClampNeg) 7, μ)
else if a2 = 5 then
some (rI μ (RF (RF (RF q 3) a1.toNatClampNeg) 0) 1, μ)
else if a2 = 6 then
some (rI μ (RF (RF (RF q 3) a1.toNatClampNeg) 2) 2, μ)
else if a2 = 7 then
some (rI μ (RF (RF q 3) a1.toNatClampNeg) 9, μ)
else if a2 = 8 then
bO1 (X5_chainLength q a1 μ) (fun r11 =>
some (r11, μ))
else if a2 = 9 then
if (rI μ (RF (RF q 3) a1.toNatClampNeg) 8) = (-1 : Int32) then
some ((0 : Int32), μ)
else
some ((1 : Int32), μ)
else if a2 = 10 then
bO1 (X5_isAble q a1 μ) (fun r16 =>
if r16 = 0 then
some ((0 : Int32), μ)
else
some ((1 : Int32), μ))
else 
bO2 (X5_cameThroughAt q a1 μ) (fun r19 μ20 =>
some (r19, μ20))
else none
def X5_sumOverBooths_L4 (o0 : Nat) (b1 : Int32) (μ : MM) : Nat → Int32 → Int32 → Option (Int32)
  | 0, _, _ => none
  | n + 1, v2, v3 =>
    if (rI μ o0 6) ≤ v3 then
    some v2
    else
    if b1 = 6 then
    if inb v3 (al (RF o0 3)) then
    bV (v2 + (rI μ (RF (RF (RF o0 3) v3.toNatClampNeg) 2) 2)) (fun x4 =>
    bV (v3 + (1 : Int32)) (fun x5 =>
    X5_sumOverBooths_L4 o0 b1 μ n x4 x5))
    else none
    else if b1 = 7 then
    if inb v3 (al (RF o0 3)) then
    bV (v2 + (rI μ (RF (RF o0 3) v3.toNatClampNeg) 9)) (fun x8 =>
    bV (v3 + (1 : Int32)) (fun x9 =>
    X5_sumOverBooths_L4 o0 b1 μ n x8 x9))
    else none
    else if b1 = 8 then
    if inb v3 (al (RF o0 3)) then
    bV (v2 + (rI μ (RF (RF (RF o0 3) v3.toNatClampNeg) 0) 1)) (fun x12 =>
    bV (v3 + (1 : Int32)) (fun x13 =>
    X5_sumOverBooths_L4 o0 b1 μ n x12 x13))
    else none
    else 
    bO1 (X5_isAble o0 v3 μ) (fun r14 =>
    if r14 = 0 then
    bV (v2 + (0 : Int32)) (fun x17 =>
    bV (v3 + (1 : Int32)) (fun x18 =>
    X5_sumOverBooths_L4 o0 b1 μ n x17 x18))
    else
    bV (v2 + (1 : Int32)) (fun x19 =>
    bV (v3 + (1 : Int32)) (fun x20 =>
    X5_sumOverBooths_L4 o0 b1 μ n x19 x20)))
theorem X5_sumOverBooths_L4_s (o0 : Nat) (b1 : Int32) (μ : MM) (n : Nat) (v2 : Int32) (v3 : Int32) : X5_sumOverBooths_L4 o0 b1 μ (n + 1) v2 v3 =
    if (rI μ o0 6) ≤ v3 then
    some v2
    else
    if b1 = 6 then
    if inb v3 (al (RF o0 3)) then
    bV (v2 + (rI μ (RF (RF (RF o0 3) v3.toNatClampNeg) 2) 2)) (fun x4 =>
    bV (v3 + (1 : Int32)) (fun x5 =>
    X5_sumOverBooths_L4 o0 b1 μ n x4 x5))
    else none
    else if b1 = 7 then
    if inb v3 (al (RF o0 3)) then
    bV (v2 + (rI μ (RF (RF o0 3) v3.toNatClampNeg) 9)) (fun x8 =>
    bV (v3 + (1 : Int32)) (fun x9 =>
    X5_sumOverBooths_L4 o0 b1 μ n x8 x9))
    else none
    else if b1 = 8 then
    if inb v3 (al (RF o0 3)) then
    bV (v2 + (rI μ (RF (RF (RF o0 3) v3.toNatClampNeg) 0) 1)) (fun x12 =>
    bV (v3 + (1 : Int32)) (fun x13 =>
    X5_sumOverBooths_L4 o0 b1 μ n x12 x13))
    else none
    else 
    bO1 (X5_isAble o0 v3 μ) (fun r14 =>
    if r14 = 0 then
    bV (v2 + (0 : Int32)) (fun x17 =>
    bV (v3 + (1 : Int32)) (fun x18 =>
    X5_sumOverBooths_L4 o0 b1 μ n x17 x18))
    else
    bV (v2 + (1 : Int32)) (fun x19 =>
    bV (v3 + (1 : Int32)) (fun x20 =>
    X5_sumOverBooths_L4 o0 b1 μ n x19 x20))) := rfl
def X5_sumOverBooths (q : Nat) (a1 : Int32) (μ : MM) : Option Int32 :=
bO1 (X5_sumOverBooths_L4 q a1 μ 1000 (0 : Int32) (0 : Int32)) (fun x21 =>
some x21)
def X5_tellCount (q : Nat) (a1 : Int32) (μ : MM) : Option Int32 :=
if a1 = 0 then
some (rI μ q 8)
else if a1 = 1 then
some (rI μ q 5)
else if a1 = 2 then
some (rI μ (RF q 1) 1)
else if a1 = 3 then
some (rI μ (RF q 2) 2)
else if a1 = 4 then
some (rI μ q 6)
else if a1 = 5 then
some (rI μ q 7)
else 
bO1 (X5_sumOverBooths q a1 μ) (fun r7 =>
some r7)
def X5_copyFrom_L56 (o0 : Nat) (o1 : Nat) : Nat → Int32 → MM → Option (MM)
  | 0, _, _ => none
  | n + 1, v2, μ =>
    if (rI μ o0 6) ≤ v2 then
    some μ
    else
    if inb v2 (al (RF o0 3)) then
    if inb v2 (al (RF o1 3)) then
    bO1 (X0_copyFrom (RF (RF o0 3) v2.toNatClampNeg) (RF (RF o1 3) v2.toNatClampNeg) μ) (fun μ12 =>
    bV (v2 + (1 : Int32)) (fun x14 =>
    X5_copyFrom_L56 o0 o1 n x14 μ12))
    else none
    else none
theorem X5_copyFrom_L56_s (o0 : Nat) (o1 : Nat) (n : Nat) (v2 : Int32) (μ : MM) : X5_copyFrom_L56 o0 o1 (n + 1) v2 μ =
    if (rI μ o0 6) ≤ v2 then
    some μ
    else
    if inb v2 (al (RF o0 3)) then
    if inb v2 (al (RF o1 3)) then
    bO1 (X0_copyFrom (RF (RF o0 3) v2.toNatClampNeg) (RF (RF o1 3) v2.toNatClampNeg) μ) (fun μ12 =>
    bV (v2 + (1 : Int32)) (fun x14 =>
    X5_copyFrom_L56 o0 o1 n x14 μ12))
    else none
    else none := rfl
def X5_copyFrom_L87 (o0 : Nat) (o1 : Nat) : Nat → Int32 → MM → Option (MM)
  | 0, _, _ => none
  | n + 1, v2, μ =>
    if (rI μ o0 7) ≤ v2 then
    some μ
    else
    if inb v2 (al (RF o0 4)) then
    if inb v2 (al (RF o1 4)) then
    bV (X2_copyFrom (RF (RF o0 4) v2.toNatClampNeg) (RF (RF o1 4) v2.toNatClampNeg) μ) (fun μ20 =>
    bV (v2 + (1 : Int32)) (fun x22 =>
    X5_copyFrom_L87 o0 o1 n x22 μ20))
    else none
    else none
theorem X5_copyFrom_L87_s (o0 : Nat) (o1 : Nat) (n : Nat) (v2 : Int32) (μ : MM) : X5_copyFrom_L87 o0 o1 (n + 1) v2 μ =
    if (rI μ o0 7) ≤ v2 then
    some μ
    else
    if inb v2 (al (RF o0 4)) then
    if inb v2 (al (RF o1 4)) then
    bV (X2_copyFrom (RF (RF o0 4) v2.toNatClampNeg) (RF (RF o1 4) v2.toNatClampNeg) μ) (fun μ20 =>
    bV (v2 + (1 : Int32)) (fun x22 =>
    X5_copyFrom_L87 o0 o1 n x22 μ20))
    else none
    else none := rfl
def X5_copyFrom (q : Nat) (a1 : Nat) (μ : MM) : Option MM :=
bO1 (X3_copyFrom (RF q 1) (RF a1 1) μ) (fun μ1 =>
bO1 (X4_copyFrom (RF q 2) (RF a1 2) μ1) (fun μ3 =>
bV (wI μ3 q 5 (rI μ3 a1 5)) (fun μ5 =>
bV (wI μ5 q 6 (rI μ5 a1 6)) (fun μ6 =>
bV (wI μ6 q 7 (rI μ6 a1 7)) (fun μ7 =>
bV (wI μ7 q 8 (rI μ7 a1 8)) (fun μ8 =>
bO1 (X5_copyFrom_L56 q a1 1000 (0 : Int32) μ8) (fun μ15 =>
bO1 (X5_copyFrom_L87 q a1 1000 (0 : Int32) μ15) (fun μ23 =>
some μ23))))))))
def J9_floorMod_7cf53 (a1 : Int32) (a2 : Int32) : Option Int32 :=
if ¬ a2 = 0 then
bV (a1 - a1 / a2 * a2) (fun x1 =>
if 0 ≤ (a1 ^^^ a2) then
some x1
else
if x1 = 0 then
some x1
else
some (x1 + a2))
else none
def X6_tryOut (q : Nat) (a1 : Int32) (a2 : Int32) (a3 : Int32) (μ : MM) : Option (Int32 × MM) :=
bO1 (X5_copyFrom (RF q 1) (RF q 0) μ) (fun μ1 =>
bO2 (X5_seat (RF q 1) a1 a2 μ1) (fun r3 μ4 =>
bO2 (X5_goOn (RF q 1) a3 μ4) (fun r6 μ7 =>
bO2 (X5_cameThroughAt (RF q 1) a1 μ7) (fun r9 μ10 =>
some (r9, μ10)))))
def X6_digest_L6 (o0 : Nat) (μ : MM) : Nat → Int64 → Int32 → Option (Int64)
  | 0, _, _ => none
  | n + 1, v1, v3 =>
    if (10 : Int32) ≤ v3 then
    some v1
    else
    bO1 (X5_tellCount (RF o0 0) v3 μ) (fun r3 =>
    bV ((v1 * (31 : Int64)) + r3.toInt64) (fun x5 =>
    bV (v3 + (1 : Int32)) (fun x6 =>
    X6_digest_L6 o0 μ n x5 x6)))
theorem X6_digest_L6_s (o0 : Nat) (μ : MM) (n : Nat) (v1 : Int64) (v3 : Int32) : X6_digest_L6 o0 μ (n + 1) v1 v3 =
    if (10 : Int32) ≤ v3 then
    some v1
    else
    bO1 (X5_tellCount (RF o0 0) v3 μ) (fun r3 =>
    bV ((v1 * (31 : Int64)) + r3.toInt64) (fun x5 =>
    bV (v3 + (1 : Int32)) (fun x6 =>
    X6_digest_L6 o0 μ n x5 x6))) := rfl
def X6_digest_L50 (o0 : Nat) (b3 : Int32) (μ : MM) : Nat → Int64 → Int32 → Option (Int64)
  | 0, _, _ => none
  | n + 1, v1, v4 =>
    if (7 : Int32) ≤ v4 then
    some v1
    else
    if inb b3 (al (RF (RF o0 0) 4)) then
    bV ((v1 * (31 : Int64)) + ((X2_tell (RF (RF (RF o0 0) 4) b3.toNatClampNeg) v4 μ).toInt64)) (fun x14 =>
    bV (v4 + (1 : Int32)) (fun x15 =>
    X6_digest_L50 o0 b3 μ n x14 x15))
    else none
theorem X6_digest_L50_s (o0 : Nat) (b3 : Int32) (μ : MM) (n : Nat) (v1 : Int64) (v4 : Int32) : X6_digest_L50 o0 b3 μ (n + 1) v1 v4 =
    if (7 : Int32) ≤ v4 then
    some v1
    else
    if inb b3 (al (RF (RF o0 0) 4)) then
    bV ((v1 * (31 : Int64)) + ((X2_tell (RF (RF (RF o0 0) 4) b3.toNatClampNeg) v4 μ).toInt64)) (fun x14 =>
    bV (v4 + (1 : Int32)) (fun x15 =>
    X6_digest_L50 o0 b3 μ n x14 x15))
    else none := rfl
def X6_digest_L36 (o0 : Nat) (μ : MM) : Nat → Int64 → Int32 → Option (Int64)
  | 0, _, _ => none
  | n + 1, v1, v3 =>
    if (rI μ (RF o0 0) 7) ≤ v3 then
    some v1
    else
    bO1 (X6_digest_L50 o0 v3 μ 1000 v1 (0 : Int32)) (fun x16 =>
    bV (v3 + (1 : Int32)) (fun x18 =>
    X6_digest_L36 o0 μ n x16 x18))
theorem X6_digest_L36_s (o0 : Nat) (μ : MM) (n : Nat) (v1 : Int64) (v3 : Int32) : X6_digest_L36 o0 μ (n + 1) v1 v3 =
    if (rI μ (RF o0 0) 7) ≤ v3 then
    some v1
    else
    bO1 (X6_digest_L50 o0 v3 μ 1000 v1 (0 : Int32)) (fun x16 =>
    bV (v3 + (1 : Int32)) (fun x18 =>
    X6_digest_L36 o0 μ n x16 x18)) := rfl
def X6_digest_L107 (o0 : Nat) (b3 : Int32) : Nat → Int64 → Int32 → MM → Option (Int64 × MM)
  | 0, _, _, _ => none
  | n + 1, v1, v4, μ =>
    if (12 : Int32) ≤ v4 then
    some (v1, μ)
    else
    bO2 (X5_tellBooth (RF o0 0) b3 v4 μ) (fun r23 μ24 =>
    bV ((v1 * (31 : Int64)) + r23.toInt64) (fun x26 =>
    bV (v4 + (1 : Int32)) (fun x27 =>
    X6_digest_L107 o0 b3 n x26 x27 μ24)))
theorem X6_digest_L107_s (o0 : Nat) (b3 : Int32) (n : Nat) (v1 : Int64) (v4 : Int32) (μ : MM) : X6_digest_L107 o0 b3 (n + 1) v1 v4 μ =
    if (12 : Int32) ≤ v4 then
    some (v1, μ)
    else
    bO2 (X5_tellBooth (RF o0 0) b3 v4 μ) (fun r23 μ24 =>
    bV ((v1 * (31 : Int64)) + r23.toInt64) (fun x26 =>
    bV (v4 + (1 : Int32)) (fun x27 =>
    X6_digest_L107 o0 b3 n x26 x27 μ24))) := rfl
def X6_digest_L93 (o0 : Nat) : Nat → Int64 → Int32 → MM → Option (Int64 × MM)
  | 0, _, _, _ => none
  | n + 1, v1, v3, μ =>
    if (rI μ (RF o0 0) 6) ≤ v3 then
    some (v1, μ)
    else
    bO2 (X6_digest_L107 o0 v3 1000 v1 (0 : Int32) μ) (fun x28 μ29 =>
    bV (v3 + (1 : Int32)) (fun x31 =>
    X6_digest_L93 o0 n x28 x31 μ29))
theorem X6_digest_L93_s (o0 : Nat) (n : Nat) (v1 : Int64) (v3 : Int32) (μ : MM) : X6_digest_L93 o0 (n + 1) v1 v3 μ =
    if (rI μ (RF o0 0) 6) ≤ v3 then
    some (v1, μ)
    else
    bO2 (X6_digest_L107 o0 v3 1000 v1 (0 : Int32) μ) (fun x28 μ29 =>
    bV (v3 + (1 : Int32)) (fun x31 =>
    X6_digest_L93 o0 n x28 x31 μ29)) := rfl
def X6_digest_L146 (o0 : Nat) (μ : MM) : Nat → Int64 → Int32 → Option (Int64)
  | 0, _, _ => none
  | n + 1, v1, v3 =>
    if (rI μ (RF o0 0) 6) ≤ v3 then
    some v1
    else
    bO1 (X5_speechOf (RF o0 0) v3 μ) (fun r36 =>
    bO1 (X4_mixInto r36 v1 μ) (fun r38 =>
    bV (v3 + (1 : Int32)) (fun x40 =>
    X6_digest_L146 o0 μ n r38 x40)))
theorem X6_digest_L146_s (o0 : Nat) (μ : MM) (n : Nat) (v1 : Int64) (v3 : Int32) : X6_digest_L146 o0 μ (n + 1) v1 v3 =
    if (rI μ (RF o0 0) 6) ≤ v3 then
    some v1
    else
    bO1 (X5_speechOf (RF o0 0) v3 μ) (fun r36 =>
    bO1 (X4_mixInto r36 v1 μ) (fun r38 =>
    bV (v3 + (1 : Int32)) (fun x40 =>
    X6_digest_L146 o0 μ n r38 x40))) := rfl
def X6_digest (q : Nat) (μ : MM) : Option (Int64 × MM) :=
bV ((523 : Int64)) (fun x1 =>
bO1 (X6_digest_L6 q μ 1000 x1 (0 : Int32)) (fun x7 =>
bO1 (X6_digest_L36 q μ 1000 x7 (0 : Int32)) (fun x19 =>
bO2 (X6_digest_L93 q 1000 x19 (0 : Int32) μ) (fun x32 μ33 =>
bO1 (X6_digest_L146 q μ33 1000 x32 (-1 : Int32)) (fun x41 =>
some (x41, μ33))))))
def X7_copy (a1 : Nat) (a2 : Nat) (μ : MM) : Option MM :=
if cpyOk (al a1) (al a2) (0 : Int32) (0 : Int32) (Int32.ofNat (al a1)) then
bV (wC μ a1 (0 : Int32).toNatClampNeg a2 (0 : Int32).toNatClampNeg (Int32.ofNat (al a1)).toNatClampNeg) (fun μ2 =>
some μ2)
else none
def X7_become (q : Nat) (a1 : Nat) (μ : MM) : Option MM :=
bV (wI μ q 0 (rI μ a1 0)) (fun μ1 =>
bV (wI μ1 q 1 (rI μ1 a1 1)) (fun μ2 =>
bV (wI μ2 q 3 (rI μ2 a1 3)) (fun μ3 =>
bV (wI μ3 q 4 (rI μ3 a1 4)) (fun μ4 =>
bV (wI μ4 q 11 (rI μ4 a1 11)) (fun μ5 =>
bO1 (X7_copy (RF a1 2) (RF q 2) μ5) (fun μ6 =>
bO1 (X7_copy (RF a1 5) (RF q 5) μ6) (fun μ8 =>
bO1 (X7_copy (RF a1 6) (RF q 6) μ8) (fun μ10 =>
bO1 (X7_copy (RF a1 7) (RF q 7) μ10) (fun μ12 =>
bO1 (X7_copy (RF a1 8) (RF q 8) μ12) (fun μ14 =>
bO1 (X7_copy (RF a1 9) (RF q 9) μ14) (fun μ16 =>
bO1 (X7_copy (RF a1 10) (RF q 10) μ16) (fun μ18 =>
bO1 (X7_copy (RF a1 12) (RF q 12) μ18) (fun μ20 =>
bO1 (X7_copy (RF a1 13) (RF q 13) μ20) (fun μ22 =>
bO1 (X7_copy (RF a1 14) (RF q 14) μ22) (fun μ24 =>
bO1 (X7_copy (RF a1 15) (RF q 15) μ24) (fun μ26 =>
bO1 (X7_copy (RF a1 16) (RF q 16) μ26) (fun μ28 =>
bO1 (X7_copy (RF a1 17) (RF q 17) μ28) (fun μ30 =>
bO1 (X7_copy (RF a1 18) (RF q 18) μ30) (fun μ32 =>
bO1 (X7_copy (RF a1 19) (RF q 19) μ32) (fun μ34 =>
bO1 (X7_copy (RF a1 20) (RF q 20) μ34) (fun μ36 =>
bO1 (X7_copy (RF a1 21) (RF q 21) μ36) (fun μ38 =>
bO1 (X7_copy (RF a1 22) (RF q 22) μ38) (fun μ40 =>
bO1 (X7_copy (RF a1 23) (RF q 23) μ40) (fun μ42 =>
bO1 (X7_copy (RF a1 24) (RF q 24) μ42) (fun μ44 =>
some μ44)))))))))))))))))))))))))
def X7_isAble (q : Nat) (a1 : Int32) (μ : MM) : Option Int32 :=
if inb a1 (al (RF q 16)) then
bV (rI μ (RF q 16) a1.toNatClampNeg) (fun x2 =>
if inb a1 (al (RF q 15)) then
if (rI μ (RF q 15) a1.toNatClampNeg) = (-1 : Int32) then
bV (rI μ q 1) (fun x14 =>
if x2 = (-1 : Int32) then
some (0 : Int32)
else
if inb x2 (al (RF q 5)) then
if inb a1 (al (RF q 12)) then
if (((rI μ (RF q 5) x2.toNatClampNeg) >>> ((rI μ (RF q 12) a1.toNatClampNeg) &&& 31)) &&& (1 : Int32)) = (1 : Int32) then
if inb x2 (al (RF q 5)) then
if (((rI μ (RF q 5) x2.toNatClampNeg) >>> (x14 &&& 31)) &&& (1 : Int32)) = (1 : Int32) then
some (1 : Int32)
else
some (0 : Int32)
else none
else
some (0 : Int32)
else none
else none)
else
if inb a1 (al (RF q 15)) then
if inb (rI μ (RF q 15) a1.toNatClampNeg) (al (RF q 12)) then
bV (rI μ (RF q 12) (rI μ (RF q 15) a1.toNatClampNeg).toNatClampNeg) (fun x7 =>
if x2 = (-1 : Int32) then
some (0 : Int32)
else
if inb x2 (al (RF q 5)) then
if inb a1 (al (RF q 12)) then
if (((rI μ (RF q 5) x2.toNatClampNeg) >>> ((rI μ (RF q 12) a1.toNatClampNeg) &&& 31)) &&& (1 : Int32)) = (1 : Int32) then
if inb x2 (al (RF q 5)) then
if (((rI μ (RF q 5) x2.toNatClampNeg) >>> (x7 &&& 31)) &&& (1 : Int32)) = (1 : Int32) then
some (1 : Int32)
else
some (0 : Int32)
else none
else
some (0 : Int32)
else none
else none)
else none
else none
else none)
else none
def X7_boothOf_L4 (o0 : Nat) (b1 : Int32) (μ : MM) : Nat → Int32 → Int32 → Option (Int32)
  | 0, _, _ => none
  | n + 1, v2, v3 =>
    if (rI μ o0 11) ≤ v3 then
    some v2
    else
    if inb v3 (al (RF o0 16)) then
    if (rI μ (RF o0 16) v3.toNatClampNeg) = b1 then
    bV (v3 + (1 : Int32)) (fun x5 =>
    X7_boothOf_L4 o0 b1 μ n v3 x5)
    else
    bV (v3 + (1 : Int32)) (fun x4 =>
    X7_boothOf_L4 o0 b1 μ n v2 x4)
    else none
theorem X7_boothOf_L4_s (o0 : Nat) (b1 : Int32) (μ : MM) (n : Nat) (v2 : Int32) (v3 : Int32) : X7_boothOf_L4 o0 b1 μ (n + 1) v2 v3 =
    if (rI μ o0 11) ≤ v3 then
    some v2
    else
    if inb v3 (al (RF o0 16)) then
    if (rI μ (RF o0 16) v3.toNatClampNeg) = b1 then
    bV (v3 + (1 : Int32)) (fun x5 =>
    X7_boothOf_L4 o0 b1 μ n v3 x5)
    else
    bV (v3 + (1 : Int32)) (fun x4 =>
    X7_boothOf_L4 o0 b1 μ n v2 x4)
    else none := rfl
def X7_boothOf (q : Nat) (a1 : Int32) (μ : MM) : Option Int32 :=
bO1 (X7_boothOf_L4 q a1 μ 1000 (-1 : Int32) (0 : Int32)) (fun x6 =>
some x6)
def X7_sit (q : Nat) (a1 : Int32) (a2 : Int32) (μ : MM) : Option MM :=
if a2 = (-1 : Int32) then
if inb a1 (al (RF q 16)) then
bV (wI μ (RF q 16) a1.toNatClampNeg a2) (fun μ3 =>
some μ3)
else none
else
bO1 (X7_boothOf q a2 μ) (fun r4 =>
if r4 = (-1 : Int32) then
if inb a1 (al (RF q 16)) then
bV (wI μ (RF q 16) a1.toNatClampNeg a2) (fun μ8 =>
some μ8)
else none
else
bO1 (X7_boothOf q a2 μ) (fun r9 =>
if inb r9 (al (RF q 16)) then
bV (wI μ (RF q 16) r9.toNatClampNeg (-1 : Int32)) (fun μ12 =>
if inb a1 (al (RF q 16)) then
bV (wI μ12 (RF q 16) a1.toNatClampNeg a2) (fun μ14 =>
some μ14)
else none)
else none))
def X7_keep (q : Nat) (a1 : Int32) (a2 : Int32) (μ : MM) : Option MM :=
if inb a1 (al (RF q 22)) then
if inb (((400 : Int32) * a1) + (rI μ (RF q 22) a1.toNatClampNeg)) (al (RF q 23)) then
bV (wI μ (RF q 23) (((400 : Int32) * a1) + (rI μ (RF q 22) a1.toNatClampNeg)).toNatClampNeg a2) (fun μ3 =>
if inb a1 (al (RF q 22)) then
if inb (((400 : Int32) * a1) + (rI μ3 (RF q 22) a1.toNatClampNeg)) (al (RF q 24)) then
bV (wI μ3 (RF q 24) (((400 : Int32) * a1) + (rI μ3 (RF q 22) a1.toNatClampNeg)).toNatClampNeg (rI μ3 q 0)) (fun μ6 =>
if inb a1 (al (RF q 22)) then
if inb a1 (al (RF q 22)) then
bV (wI μ6 (RF q 22) a1.toNatClampNeg ((rI μ6 (RF q 22) a1.toNatClampNeg) + (1 : Int32))) (fun μ9 =>
some μ9)
else none
else none)
else none
else none)
else none
else none
def X7_saysNow (q : Nat) (a1 : Int32) (μ : MM) : Option Int32 :=
if inb a1 (al (RF q 22)) then
if (rI μ (RF q 22) a1.toNatClampNeg) ≤ 0 then
some (0 : Int32)
else
if inb a1 (al (RF q 22)) then
if inb ((((400 : Int32) * a1) + (rI μ (RF q 22) a1.toNatClampNeg)) - (1 : Int32)) (al (RF q 24)) then
if (rI μ (RF q 24) ((((400 : Int32) * a1) + (rI μ (RF q 22) a1.toNatClampNeg)) - (1 : Int32)).toNatClampNeg) = (rI μ q 0) then
some (1 : Int32)
else
some (0 : Int32)
else none
else none
else none
def X7_all_L4 (o0 : Nat) (μ : MM) : Nat → Int32 → Int32 → Option (Int32)
  | 0, _, _ => none
  | n + 1, v1, v2 =>
    if (rI μ o0 11) ≤ v2 then
    some v1
    else
    if inb (v2 + (1 : Int32)) (al (RF o0 22)) then
    bV (v1 + (rI μ (RF o0 22) (v2 + (1 : Int32)).toNatClampNeg)) (fun x3 =>
    bV (v2 + (1 : Int32)) (fun x4 =>
    X7_all_L4 o0 μ n x3 x4))
    else none
theorem X7_all_L4_s (o0 : Nat) (μ : MM) (n : Nat) (v1 : Int32) (v2 : Int32) : X7_all_L4 o0 μ (n + 1) v1 v2 =
    if (rI μ o0 11) ≤ v2 then
    some v1
    else
    if inb (v2 + (1 : Int32)) (al (RF o0 22)) then
    bV (v1 + (rI μ (RF o0 22) (v2 + (1 : Int32)).toNatClampNeg)) (fun x3 =>
    bV (v2 + (1 : Int32)) (fun x4 =>
    X7_all_L4 o0 μ n x3 x4))
    else none := rfl
def X7_all (q : Nat) (μ : MM) : Option Int32 :=
bO1 (X7_all_L4 q μ 1000 (0 : Int32) (0 : Int32)) (fun x5 =>
some x5)
def X7_say (q : Nat) (a1 : Int32) (a2 : Int32) (μ : MM) : Option MM :=
bO1 (X7_isAble q a1 μ) (fun r1 =>
if r1 = 0 then
if inb a1 (al (RF q 17)) then
if inb a1 (al (RF q 17)) then
bV (wI μ (RF q 17) a1.toNatClampNeg ((rI μ (RF q 17) a1.toNatClampNeg) + (1 : Int32))) (fun μ65 =>
some μ65)
else none
else none
else
if inb a1 (al (RF q 16)) then
bV (rI μ (RF q 16) a1.toNatClampNeg) (fun x5 =>
if inb x5 (al (RF q 7)) then
if (rI μ (RF q 7) x5.toNatClampNeg) < (20 : Int32) then
bO1 (X7_keep q (a1 + (1 : Int32)) a2 μ) (fun μ9 =>
if inb x5 (al (RF q 9)) then
if inb x5 (al (RF q 9)) then
bV (wI μ9 (RF q 9) x5.toNatClampNeg ((rI μ9 (RF q 9) x5.toNatClampNeg) + (0 : Int32))) (fun μ14 =>
if inb x5 (al (RF q 8)) then
if inb x5 (al (RF q 8)) then
bV (wI μ14 (RF q 8) x5.toNatClampNeg ((rI μ14 (RF q 8) x5.toNatClampNeg) + (1 : Int32))) (fun μ17 =>
if inb x5 (al (RF q 7)) then
if inb x5 (al (RF q 7)) then
bV (wI μ17 (RF q 7) x5.toNatClampNeg ((rI μ17 (RF q 7) x5.toNatClampNeg) + (1 : Int32))) (fun μ20 =>
some μ20)
else none
else none)
else none
else none)
else none
else none)
else
if inb x5 (al (RF q 8)) then
if ((rI μ (RF q 8) x5.toNatClampNeg) - (rI μ (RF q 8) x5.toNatClampNeg) / (3 : Int32) * (3 : Int32)) = 0 then
if (80 : Int32) ≤ a2 then
bO1 (X7_keep q (a1 + (1 : Int32)) a2 μ) (fun μ38 =>
if inb x5 (al (RF q 9)) then
if inb x5 (al (RF q 9)) then
bV (wI μ38 (RF q 9) x5.toNatClampNeg ((rI μ38 (RF q 9) x5.toNatClampNeg) + (0 : Int32))) (fun μ43 =>
if inb x5 (al (RF q 8)) then
if inb x5 (al (RF q 8)) then
bV (wI μ43 (RF q 8) x5.toNatClampNeg ((rI μ43 (RF q 8) x5.toNatClampNeg) + (1 : Int32))) (fun μ46 =>
if inb x5 (al (RF q 7)) then
if inb x5 (al (RF q 7)) then
bV (wI μ46 (RF q 7) x5.toNatClampNeg ((rI μ46 (RF q 7) x5.toNatClampNeg) + (1 : Int32))) (fun μ49 =>
some μ49)
else none
else none)
else none
else none)
else none
else none)
else
bO1 (X7_keep q (a1 + (1 : Int32)) ((a2 + (1 : Int32)) - (a2 + (1 : Int32)) / (80 : Int32) * (80 : Int32)) μ) (fun μ51 =>
if inb x5 (al (RF q 9)) then
if inb x5 (al (RF q 9)) then
bV (wI μ51 (RF q 9) x5.toNatClampNeg ((rI μ51 (RF q 9) x5.toNatClampNeg) + (1 : Int32))) (fun μ56 =>
if inb x5 (al (RF q 8)) then
if inb x5 (al (RF q 8)) then
bV (wI μ56 (RF q 8) x5.toNatClampNeg ((rI μ56 (RF q 8) x5.toNatClampNeg) + (1 : Int32))) (fun μ59 =>
if inb x5 (al (RF q 7)) then
if inb x5 (al (RF q 7)) then
bV (wI μ59 (RF q 7) x5.toNatClampNeg ((rI μ59 (RF q 7) x5.toNatClampNeg) + (1 : Int32))) (fun μ62 =>
some μ62)
else none
else none)
else none
else none)
else none
else none)
else
bO1 (X7_keep q (a1 + (1 : Int32)) a2 μ) (fun μ24 =>
if inb x5 (al (RF q 9)) then
if inb x5 (al (RF q 9)) then
bV (wI μ24 (RF q 9) x5.toNatClampNeg ((rI μ24 (RF q 9) x5.toNatClampNeg) + (0 : Int32))) (fun μ29 =>
if inb x5 (al (RF q 8)) then
if inb x5 (al (RF q 8)) then
bV (wI μ29 (RF q 8) x5.toNatClampNeg ((rI μ29 (RF q 8) x5.toNatClampNeg) + (1 : Int32))) (fun μ32 =>
if inb x5 (al (RF q 7)) then
if inb x5 (al (RF q 7)) then
bV (wI μ32 (RF q 7) x5.toNatClampNeg ((rI μ32 (RF q 7) x5.toNatClampNeg) + (1 : Int32))) (fun μ35 =>
some μ35)
else none
else none)
else none
else none)
else none
else none)
else none
else none)
else none)
def X7_act_L89 (o0 : Nat) (b1 : Int32) (b2 : Int32) : Nat → Int32 → MM → Option (MM)
  | 0, _, _ => none
  | n + 1, v3, μ =>
    if inb b1 (al (RF o0 19)) then
    if (((12 : Int32) * b1) + (rI μ (RF o0 19) b1.toNatClampNeg)) ≤ v3 then
    some μ
    else
    if inb (v3 + (1 : Int32)) (al (RF o0 20)) then
    if inb v3 (al (RF o0 20)) then
    bV (wI μ (RF o0 20) v3.toNatClampNeg (rI μ (RF o0 20) (v3 + (1 : Int32)).toNatClampNeg)) (fun μ18 =>
    if inb (v3 + (1 : Int32)) (al (RF o0 21)) then
    if inb v3 (al (RF o0 21)) then
    bV (wI μ18 (RF o0 21) v3.toNatClampNeg (rI μ18 (RF o0 21) (v3 + (1 : Int32)).toNatClampNeg)) (fun μ21 =>
    bV (v3 + (1 : Int32)) (fun x22 =>
    X7_act_L89 o0 b1 b2 n x22 μ21))
    else none
    else none)
    else none
    else none
    else none
theorem X7_act_L89_s (o0 : Nat) (b1 : Int32) (b2 : Int32) (n : Nat) (v3 : Int32) (μ : MM) : X7_act_L89 o0 b1 b2 (n + 1) v3 μ =
    if inb b1 (al (RF o0 19)) then
    if (((12 : Int32) * b1) + (rI μ (RF o0 19) b1.toNatClampNeg)) ≤ v3 then
    some μ
    else
    if inb (v3 + (1 : Int32)) (al (RF o0 20)) then
    if inb v3 (al (RF o0 20)) then
    bV (wI μ (RF o0 20) v3.toNatClampNeg (rI μ (RF o0 20) (v3 + (1 : Int32)).toNatClampNeg)) (fun μ18 =>
    if inb (v3 + (1 : Int32)) (al (RF o0 21)) then
    if inb v3 (al (RF o0 21)) then
    bV (wI μ18 (RF o0 21) v3.toNatClampNeg (rI μ18 (RF o0 21) (v3 + (1 : Int32)).toNatClampNeg)) (fun μ21 =>
    bV (v3 + (1 : Int32)) (fun x22 =>
    X7_act_L89 o0 b1 b2 n x22 μ21))
    else none
    else none)
    else none
    else none
    else none := rfl
def X7_act (q : Nat) (a1 : Int32) (μ : MM) : Option MM :=
if inb a1 (al (RF q 18)) then
if (rI μ (RF q 18) a1.toNatClampNeg) = (-1 : Int32) then
if inb a1 (al (RF q 19)) then
if (rI μ (RF q 19) a1.toNatClampNeg) = 0 then
some μ
else
if inb ((12 : Int32) * a1) (al (RF q 21)) then
if inb a1 (al (RF q 13)) then
if (rI μ (RF q 13) a1.toNatClampNeg) ≤ ((rI μ q 0) - (rI μ (RF q 21) ((12 : Int32) * a1).toNatClampNeg)) then
if inb ((12 : Int32) * a1) (al (RF q 20)) then
bV (rI μ (RF q 20) ((12 : Int32) * a1).toNatClampNeg) (fun x9 =>
if inb a1 (al (RF q 19)) then
if inb a1 (al (RF q 19)) then
bV (wI μ (RF q 19) a1.toNatClampNeg ((rI μ (RF q 19) a1.toNatClampNeg) - (1 : Int32))) (fun μ12 =>
bV ((12 : Int32) * a1) (fun x13 =>
bO1 (X7_act_L89 q a1 x9 1000 x13 μ12) (fun μ23 =>
bO1 (X7_isAble q a1 μ23) (fun r25 =>
if r25 = 0 then
bO1 (X7_say q a1 x9 μ23) (fun μ28 =>
some μ28)
else
if x9 < (80 : Int32) then
bO1 (X7_say q a1 x9 μ23) (fun μ31 =>
some μ31)
else
if inb a1 (al (RF q 16)) then
if inb (rI μ23 (RF q 16) a1.toNatClampNeg) (al (RF q 6)) then
if (((rI μ23 (RF q 6) (rI μ23 (RF q 16) a1.toNatClampNeg).toNatClampNeg) >>> ((x9 - (80 : Int32)) &&& 31)) &&& (1 : Int32)) = 0 then
if inb a1 (al (RF q 16)) then
if inb (rI μ23 (RF q 16) a1.toNatClampNeg) (al (RF q 10)) then
if inb (rI μ23 (RF q 16) a1.toNatClampNeg) (al (RF q 10)) then
bV (wI μ23 (RF q 10) (rI μ23 (RF q 16) a1.toNatClampNeg).toNatClampNeg ((rI μ23 (RF q 10) (rI μ23 (RF q 16) a1.toNatClampNeg).toNatClampNeg) + (1 : Int32))) (fun μ41 =>
bV ((4 : Int32) * (x9 - (80 : Int32))) (fun x42 =>
if inb a1 (al (RF q 18)) then
bV (wI μ41 (RF q 18) a1.toNatClampNeg (x42 + (1 : Int32))) (fun μ44 =>
bO1 (X7_say q a1 x42 μ44) (fun μ45 =>
some μ45))
else none))
else none
else none
else none
else
bO1 (X7_say q a1 x9 μ23) (fun μ36 =>
some μ36)
else none
else none))))
else none
else none)
else none
else
some μ
else none
else none
else none
else
if inb a1 (al (RF q 18)) then
bV (rI μ (RF q 18) a1.toNatClampNeg) (fun x48 =>
if inb a1 (al (RF q 18)) then
bV (wI μ (RF q 18) a1.toNatClampNeg (-1 : Int32)) (fun μ50 =>
bO1 (X7_say q a1 x48 μ50) (fun μ51 =>
some μ51))
else none)
else none
else none
def X7_hear (q : Nat) (a1 : Int32) (a2 : Int32) (μ : MM) : Option MM :=
if inb a1 (al (RF q 19)) then
if inb a1 (al (RF q 14)) then
if (rI μ (RF q 19) a1.toNatClampNeg) = (rI μ (RF q 14) a1.toNatClampNeg) then
if inb a1 (al (RF q 17)) then
if inb a1 (al (RF q 17)) then
bV (wI μ (RF q 17) a1.toNatClampNeg ((rI μ (RF q 17) a1.toNatClampNeg) + (1 : Int32))) (fun μ15 =>
some μ15)
else none
else none
else
if inb a1 (al (RF q 19)) then
if inb (((12 : Int32) * a1) + (rI μ (RF q 19) a1.toNatClampNeg)) (al (RF q 20)) then
bV (wI μ (RF q 20) (((12 : Int32) * a1) + (rI μ (RF q 19) a1.toNatClampNeg)).toNatClampNeg a2) (fun μ6 =>
if inb a1 (al (RF q 19)) then
if inb (((12 : Int32) * a1) + (rI μ6 (RF q 19) a1.toNatClampNeg)) (al (RF q 21)) then
bV (wI μ6 (RF q 21) (((12 : Int32) * a1) + (rI μ6 (RF q 19) a1.toNatClampNeg)).toNatClampNeg (rI μ6 q 0)) (fun μ9 =>
if inb a1 (al (RF q 19)) then
if inb a1 (al (RF q 19)) then
bV (wI μ9 (RF q 19) a1.toNatClampNeg ((rI μ9 (RF q 19) a1.toNatClampNeg) + (1 : Int32))) (fun μ12 =>
some μ12)
else none
else none)
else none
else none)
else none
else none
else none
else none
def X7_pass_L62 (o0 : Nat) (b1 : Int32) : Nat → Int32 → MM → Option (MM)
  | 0, _, _ => none
  | n + 1, v2, μ =>
    if (rI μ o0 11) ≤ v2 then
    some μ
    else
    bO1 (X7_act o0 v2 μ) (fun μ5 =>
    bO1 (X7_saysNow o0 (v2 + (1 : Int32)) μ5) (fun r7 =>
    if r7 = 0 then
    if inb v2 (al (RF o0 16)) then
    if (rI μ5 (RF o0 16) v2.toNatClampNeg) = (-1 : Int32) then
    bV (v2 + (1 : Int32)) (fun x13 =>
    X7_pass_L62 o0 b1 n x13 μ5)
    else
    if inb v2 (al (RF o0 16)) then
    if inb v2 (al (RF o0 16)) then
    if inb (rI μ5 (RF o0 16) v2.toNatClampNeg) (al (RF o0 7)) then
    if inb (rI μ5 (RF o0 16) v2.toNatClampNeg) (al (RF o0 7)) then
    bV (wI μ5 (RF o0 7) (rI μ5 (RF o0 16) v2.toNatClampNeg).toNatClampNeg (if (0 : Int32) < ((rI μ5 (RF o0 7) (rI μ5 (RF o0 16) v2.toNatClampNeg).toNatClampNeg) - (1 : Int32)) then ((rI μ5 (RF o0 7) (rI μ5 (RF o0 16) v2.toNatClampNeg).toNatClampNeg) - (1 : Int32)) else (0 : Int32))) (fun μ18 =>
    bV (v2 + (1 : Int32)) (fun x19 =>
    X7_pass_L62 o0 b1 n x19 μ18))
    else none
    else none
    else none
    else none
    else none
    else
    bV (v2 + (1 : Int32)) (fun x10 =>
    X7_pass_L62 o0 b1 n x10 μ5)))
theorem X7_pass_L62_s (o0 : Nat) (b1 : Int32) (n : Nat) (v2 : Int32) (μ : MM) : X7_pass_L62 o0 b1 (n + 1) v2 μ =
    if (rI μ o0 11) ≤ v2 then
    some μ
    else
    bO1 (X7_act o0 v2 μ) (fun μ5 =>
    bO1 (X7_saysNow o0 (v2 + (1 : Int32)) μ5) (fun r7 =>
    if r7 = 0 then
    if inb v2 (al (RF o0 16)) then
    if (rI μ5 (RF o0 16) v2.toNatClampNeg) = (-1 : Int32) then
    bV (v2 + (1 : Int32)) (fun x13 =>
    X7_pass_L62 o0 b1 n x13 μ5)
    else
    if inb v2 (al (RF o0 16)) then
    if inb v2 (al (RF o0 16)) then
    if inb (rI μ5 (RF o0 16) v2.toNatClampNeg) (al (RF o0 7)) then
    if inb (rI μ5 (RF o0 16) v2.toNatClampNeg) (al (RF o0 7)) then
    bV (wI μ5 (RF o0 7) (rI μ5 (RF o0 16) v2.toNatClampNeg).toNatClampNeg (if (0 : Int32) < ((rI μ5 (RF o0 7) (rI μ5 (RF o0 16) v2.toNatClampNeg).toNatClampNeg) - (1 : Int32)) then ((rI μ5 (RF o0 7) (rI μ5 (RF o0 16) v2.toNatClampNeg).toNatClampNeg) - (1 : Int32)) else (0 : Int32))) (fun μ18 =>
    bV (v2 + (1 : Int32)) (fun x19 =>
    X7_pass_L62 o0 b1 n x19 μ18))
    else none
    else none
    else none
    else none
    else none
    else
    bV (v2 + (1 : Int32)) (fun x10 =>
    X7_pass_L62 o0 b1 n x10 μ5))) := rfl
def X7_pass_L131 (o0 : Nat) (b1 : Int32) : Nat → Int32 → MM → Option (MM)
  | 0, _, _ => none
  | n + 1, v2, μ =>
    if (rI μ o0 11) ≤ v2 then
    some μ
    else
    if inb v2 (al (RF o0 15)) then
    bO1 (X7_saysNow o0 ((rI μ (RF o0 15) v2.toNatClampNeg) + (1 : Int32)) μ) (fun r24 =>
    if r24 = 0 then
    bV (v2 + (1 : Int32)) (fun x27 =>
    X7_pass_L131 o0 b1 n x27 μ)
    else
    if inb v2 (al (RF o0 15)) then
    if inb v2 (al (RF o0 15)) then
    if inb ((rI μ (RF o0 15) v2.toNatClampNeg) + (1 : Int32)) (al (RF o0 22)) then
    if inb ((((400 : Int32) * ((rI μ (RF o0 15) v2.toNatClampNeg) + (1 : Int32))) + (rI μ (RF o0 22) ((rI μ (RF o0 15) v2.toNatClampNeg) + (1 : Int32)).toNatClampNeg)) - (1 : Int32)) (al (RF o0 23)) then
    bO1 (X7_hear o0 v2 (rI μ (RF o0 23) ((((400 : Int32) * ((rI μ (RF o0 15) v2.toNatClampNeg) + (1 : Int32))) + (rI μ (RF o0 22) ((rI μ (RF o0 15) v2.toNatClampNeg) + (1 : Int32)).toNatClampNeg)) - (1 : Int32)).toNatClampNeg) μ) (fun μ32 =>
    bV (v2 + (1 : Int32)) (fun x34 =>
    X7_pass_L131 o0 b1 n x34 μ32))
    else none
    else none
    else none
    else none)
    else none
theorem X7_pass_L131_s (o0 : Nat) (b1 : Int32) (n : Nat) (v2 : Int32) (μ : MM) : X7_pass_L131 o0 b1 (n + 1) v2 μ =
    if (rI μ o0 11) ≤ v2 then
    some μ
    else
    if inb v2 (al (RF o0 15)) then
    bO1 (X7_saysNow o0 ((rI μ (RF o0 15) v2.toNatClampNeg) + (1 : Int32)) μ) (fun r24 =>
    if r24 = 0 then
    bV (v2 + (1 : Int32)) (fun x27 =>
    X7_pass_L131 o0 b1 n x27 μ)
    else
    if inb v2 (al (RF o0 15)) then
    if inb v2 (al (RF o0 15)) then
    if inb ((rI μ (RF o0 15) v2.toNatClampNeg) + (1 : Int32)) (al (RF o0 22)) then
    if inb ((((400 : Int32) * ((rI μ (RF o0 15) v2.toNatClampNeg) + (1 : Int32))) + (rI μ (RF o0 22) ((rI μ (RF o0 15) v2.toNatClampNeg) + (1 : Int32)).toNatClampNeg)) - (1 : Int32)) (al (RF o0 23)) then
    bO1 (X7_hear o0 v2 (rI μ (RF o0 23) ((((400 : Int32) * ((rI μ (RF o0 15) v2.toNatClampNeg) + (1 : Int32))) + (rI μ (RF o0 22) ((rI μ (RF o0 15) v2.toNatClampNeg) + (1 : Int32)).toNatClampNeg)) - (1 : Int32)).toNatClampNeg) μ) (fun μ32 =>
    bV (v2 + (1 : Int32)) (fun x34 =>
    X7_pass_L131 o0 b1 n x34 μ32))
    else none
    else none
    else none
    else none)
    else none := rfl
def X7_pass_L200 (o0 : Nat) (b1 : Int32) : Nat → Int32 → MM → Option (MM)
  | 0, _, _ => none
  | n + 1, v2, μ =>
    if (rI μ o0 4) ≤ v2 then
    some μ
    else
    bO1 (X7_boothOf o0 v2 μ) (fun r38 =>
    if r38 = (-1 : Int32) then
    if inb v2 (al (RF o0 7)) then
    if inb v2 (al (RF o0 7)) then
    bV (wI μ (RF o0 7) v2.toNatClampNeg (if (0 : Int32) < ((rI μ (RF o0 7) v2.toNatClampNeg) - (2 : Int32)) then ((rI μ (RF o0 7) v2.toNatClampNeg) - (2 : Int32)) else (0 : Int32))) (fun μ44 =>
    bV (v2 + (1 : Int32)) (fun x45 =>
    X7_pass_L200 o0 b1 n x45 μ44))
    else none
    else none
    else
    bV (v2 + (1 : Int32)) (fun x41 =>
    X7_pass_L200 o0 b1 n x41 μ))
theorem X7_pass_L200_s (o0 : Nat) (b1 : Int32) (n : Nat) (v2 : Int32) (μ : MM) : X7_pass_L200 o0 b1 (n + 1) v2 μ =
    if (rI μ o0 4) ≤ v2 then
    some μ
    else
    bO1 (X7_boothOf o0 v2 μ) (fun r38 =>
    if r38 = (-1 : Int32) then
    if inb v2 (al (RF o0 7)) then
    if inb v2 (al (RF o0 7)) then
    bV (wI μ (RF o0 7) v2.toNatClampNeg (if (0 : Int32) < ((rI μ (RF o0 7) v2.toNatClampNeg) - (2 : Int32)) then ((rI μ (RF o0 7) v2.toNatClampNeg) - (2 : Int32)) else (0 : Int32))) (fun μ44 =>
    bV (v2 + (1 : Int32)) (fun x45 =>
    X7_pass_L200 o0 b1 n x45 μ44))
    else none
    else none
    else
    bV (v2 + (1 : Int32)) (fun x41 =>
    X7_pass_L200 o0 b1 n x41 μ)) := rfl
def X7_pass (q : Nat) (μ : MM) : Option (Int32 × MM) :=
bO1 (X7_all q μ) (fun r1 =>
if (rI μ q 3) ≤ 0 then
bO1 (X7_pass_L62 q r1 1000 (0 : Int32) μ) (fun μ20 =>
bO1 (X7_pass_L131 q r1 1000 (0 : Int32) μ20) (fun μ35 =>
bO1 (X7_pass_L200 q r1 1000 (0 : Int32) μ35) (fun μ46 =>
bV (wI μ46 q 0 ((rI μ46 q 0) + (1 : Int32))) (fun μ48 =>
bO1 (X7_all q μ48) (fun r49 =>
some (r49 - r1, μ48))))))
else
if inb (0 : Int32) (al (RF q 2)) then
if (rI μ (RF q 2) (0 : Int32).toNatClampNeg) = (-1 : Int32) then
bV (wI μ q 3 ((rI μ q 3) - (1 : Int32))) (fun μ53 =>
if cpyOk (al (RF q 2)) (al (RF q 2)) (1 : Int32) (0 : Int32) (rI μ53 q 3) then
bV (wC μ53 (RF q 2) (1 : Int32).toNatClampNeg (RF q 2) (0 : Int32).toNatClampNeg (rI μ53 q 3).toNatClampNeg) (fun μ55 =>
bO1 (X7_pass_L62 q r1 1000 (0 : Int32) μ55) (fun μ56 =>
bO1 (X7_pass_L131 q r1 1000 (0 : Int32) μ56) (fun μ58 =>
bO1 (X7_pass_L200 q r1 1000 (0 : Int32) μ58) (fun μ60 =>
bV (wI μ60 q 0 ((rI μ60 q 0) + (1 : Int32))) (fun μ62 =>
bO1 (X7_all q μ62) (fun r63 =>
some (r63 - r1, μ62)))))))
else none)
else
if inb (0 : Int32) (al (RF q 2)) then
bO1 (X7_keep q (0 : Int32) (rI μ (RF q 2) (0 : Int32).toNatClampNeg) μ) (fun μ66 =>
bV (wI μ66 q 3 ((rI μ66 q 3) - (1 : Int32))) (fun μ68 =>
if cpyOk (al (RF q 2)) (al (RF q 2)) (1 : Int32) (0 : Int32) (rI μ68 q 3) then
bV (wC μ68 (RF q 2) (1 : Int32).toNatClampNeg (RF q 2) (0 : Int32).toNatClampNeg (rI μ68 q 3).toNatClampNeg) (fun μ70 =>
bO1 (X7_pass_L62 q r1 1000 (0 : Int32) μ70) (fun μ71 =>
bO1 (X7_pass_L131 q r1 1000 (0 : Int32) μ71) (fun μ73 =>
bO1 (X7_pass_L200 q r1 1000 (0 : Int32) μ73) (fun μ75 =>
bV (wI μ75 q 0 ((rI μ75 q 0) + (1 : Int32))) (fun μ77 =>
bO1 (X7_all q μ77) (fun r78 =>
some (r78 - r1, μ77)))))))
else none))
else none
else none)
def X7_through_L11 (o0 : Nat) (b1 : Int32) (b2 : Int32) : Nat → Int32 → MM → Option (MM)
  | 0, _, _ => none
  | n + 1, v3, μ =>
    if b2 < v3 then
    some μ
    else
    if inb v3 (al (RF o0 25)) then
    bV (wI μ (RF o0 25) v3.toNatClampNeg (0 : Int32)) (fun μ5 =>
    bV (v3 + (1 : Int32)) (fun x6 =>
    X7_through_L11 o0 b1 b2 n x6 μ5))
    else none
theorem X7_through_L11_s (o0 : Nat) (b1 : Int32) (b2 : Int32) (n : Nat) (v3 : Int32) (μ : MM) : X7_through_L11 o0 b1 b2 (n + 1) v3 μ =
    if b2 < v3 then
    some μ
    else
    if inb v3 (al (RF o0 25)) then
    bV (wI μ (RF o0 25) v3.toNatClampNeg (0 : Int32)) (fun μ5 =>
    bV (v3 + (1 : Int32)) (fun x6 =>
    X7_through_L11 o0 b1 b2 n x6 μ5))
    else none := rfl
def X7_through_L47 (o0 : Nat) (b1 : Int32) (b2 : Int32) (b3 : Int32) : Nat → Int32 → Int32 → MM → Option (MM)
  | 0, _, _, _ => none
  | n + 1, v4, v5, μ =>
    if b2 < v5 then
    some μ
    else
    if inb v5 (al (RF o0 25)) then
    bV (rI μ (RF o0 25) v5.toNatClampNeg) (fun x13 =>
    if inb b3 (al (RF o0 23)) then
    if inb ((((400 : Int32) * (b1 + (1 : Int32))) + v5) - (1 : Int32)) (al (RF o0 23)) then
    if (rI μ (RF o0 23) b3.toNatClampNeg) = (rI μ (RF o0 23) ((((400 : Int32) * (b1 + (1 : Int32))) + v5) - (1 : Int32)).toNatClampNeg) then
    if inb v5 (al (RF o0 25)) then
    bV (wI μ (RF o0 25) v5.toNatClampNeg (v4 + (1 : Int32))) (fun μ22 =>
    bV (v5 + (1 : Int32)) (fun x23 =>
    X7_through_L47 o0 b1 b2 b3 n x13 x23 μ22))
    else none
    else
    if inb (v5 - (1 : Int32)) (al (RF o0 25)) then
    if inb v5 (al (RF o0 25)) then
    bV (wI μ (RF o0 25) v5.toNatClampNeg (if x13 < (rI μ (RF o0 25) (v5 - (1 : Int32)).toNatClampNeg) then (rI μ (RF o0 25) (v5 - (1 : Int32)).toNatClampNeg) else x13)) (fun μ19 =>
    bV (v5 + (1 : Int32)) (fun x20 =>
    X7_through_L47 o0 b1 b2 b3 n x13 x20 μ19))
    else none
    else none
    else none
    else none)
    else none
theorem X7_through_L47_s (o0 : Nat) (b1 : Int32) (b2 : Int32) (b3 : Int32) (n : Nat) (v4 : Int32) (v5 : Int32) (μ : MM) : X7_through_L47 o0 b1 b2 b3 (n + 1) v4 v5 μ =
    if b2 < v5 then
    some μ
    else
    if inb v5 (al (RF o0 25)) then
    bV (rI μ (RF o0 25) v5.toNatClampNeg) (fun x13 =>
    if inb b3 (al (RF o0 23)) then
    if inb ((((400 : Int32) * (b1 + (1 : Int32))) + v5) - (1 : Int32)) (al (RF o0 23)) then
    if (rI μ (RF o0 23) b3.toNatClampNeg) = (rI μ (RF o0 23) ((((400 : Int32) * (b1 + (1 : Int32))) + v5) - (1 : Int32)).toNatClampNeg) then
    if inb v5 (al (RF o0 25)) then
    bV (wI μ (RF o0 25) v5.toNatClampNeg (v4 + (1 : Int32))) (fun μ22 =>
    bV (v5 + (1 : Int32)) (fun x23 =>
    X7_through_L47 o0 b1 b2 b3 n x13 x23 μ22))
    else none
    else
    if inb (v5 - (1 : Int32)) (al (RF o0 25)) then
    if inb v5 (al (RF o0 25)) then
    bV (wI μ (RF o0 25) v5.toNatClampNeg (if x13 < (rI μ (RF o0 25) (v5 - (1 : Int32)).toNatClampNeg) then (rI μ (RF o0 25) (v5 - (1 : Int32)).toNatClampNeg) else x13)) (fun μ19 =>
    bV (v5 + (1 : Int32)) (fun x20 =>
    X7_through_L47 o0 b1 b2 b3 n x13 x20 μ19))
    else none
    else none
    else none
    else none)
    else none := rfl
def X7_through_L31 (o0 : Nat) (b1 : Int32) (b2 : Int32) : Nat → Int32 → MM → Option (MM)
  | 0, _, _ => none
  | n + 1, v3, μ =>
    if inb (0 : Int32) (al (RF o0 22)) then
    if (rI μ (RF o0 22) (0 : Int32).toNatClampNeg) ≤ v3 then
    some μ
    else
    bO1 (X7_through_L47 o0 b1 b2 v3 1000 (0 : Int32) (1 : Int32) μ) (fun μ24 =>
    bV (v3 + (1 : Int32)) (fun x26 =>
    X7_through_L31 o0 b1 b2 n x26 μ24))
    else none
theorem X7_through_L31_s (o0 : Nat) (b1 : Int32) (b2 : Int32) (n : Nat) (v3 : Int32) (μ : MM) : X7_through_L31 o0 b1 b2 (n + 1) v3 μ =
    if inb (0 : Int32) (al (RF o0 22)) then
    if (rI μ (RF o0 22) (0 : Int32).toNatClampNeg) ≤ v3 then
    some μ
    else
    bO1 (X7_through_L47 o0 b1 b2 v3 1000 (0 : Int32) (1 : Int32) μ) (fun μ24 =>
    bV (v3 + (1 : Int32)) (fun x26 =>
    X7_through_L31 o0 b1 b2 n x26 μ24))
    else none := rfl
def X7_through (q : Nat) (a1 : Int32) (μ : MM) : Option (Int32 × MM) :=
if inb (a1 + (1 : Int32)) (al (RF q 22)) then
bV (rI μ (RF q 22) (a1 + (1 : Int32)).toNatClampNeg) (fun x2 =>
bO1 (X7_through_L11 q a1 x2 1000 (0 : Int32) μ) (fun μ7 =>
bO1 (X7_through_L31 q a1 x2 1000 (0 : Int32) μ7) (fun μ27 =>
if inb x2 (al (RF q 25)) then
some (rI μ27 (RF q 25) x2.toNatClampNeg, μ27)
else none)))
else none
def X8_thrown (q : Nat) (μ : MM) : Int32 :=
rI μ q 0
def X8_no (q : Nat) (a1 : Int32) (μ : MM) : Int32 × MM :=
bV (wI μ q 0 a1) (fun μ1 =>
((0 : Int32), μ1))
def X8_isIn (a1 : Int32) (a2 : Int32) (a3 : Int32) : Int32 :=
if a1 < a2 then
(0 : Int32)
else
if a3 < a1 then
(0 : Int32)
else
(1 : Int32)
theorem X8_isIn_b (a b c : Int32) : X8_isIn a b c = 0 ∨ X8_isIn a b c = 1 := by
  unfold X8_isIn
  repeat' split
  all_goals first | exact Or.inl rfl | exact Or.inr rfl
def X8_isBooth (q : Nat) (a1 : Int32) (μ : MM) : Int32 :=
(X8_isIn a1 (0 : Int32) ((rI μ (RF q 1) 11) - (1 : Int32)))
def X8_isInterpreter (q : Nat) (a1 : Int32) (μ : MM) : Int32 :=
(X8_isIn a1 (0 : Int32) ((rI μ (RF q 1) 4) - (1 : Int32)))
def X8_setFloor (q : Nat) (a1 : Int32) (μ : MM) : Int32 × MM :=
bV (wI μ q 0 (0 : Int32)) (fun μ1 =>
if (X8_isIn a1 (0 : Int32) (7 : Int32)) = 0 then
bP (X8_no q (1 : Int32) μ1) (fun r7 μ8 =>
(r7, μ8))
else
bV (rI μ1 (RF q 1) 1) (fun x5 =>
bV (wI μ1 (RF q 1) 1 a1) (fun μ6 =>
(x5, μ6))))
def X8_speak_L68 (o0 : Nat) (b2 : Int32) (b3 : Int32) : Nat → Int32 → Int32 → MM → Option (MM)
  | 0, _, _, _ => none
  | n + 1, v4, v5, μ =>
    if b3 ≤ v5 then
    some μ
    else
    if inb (rI μ (RF o0 1) 3) (al (RF (RF o0 1) 2)) then
    bV (wI μ (RF (RF o0 1) 2) (rI μ (RF o0 1) 3).toNatClampNeg v4) (fun μ20 =>
    bV (wI μ20 (RF o0 1) 3 ((rI μ20 (RF o0 1) 3) + (1 : Int32))) (fun μ21 =>
    bV (((v4 + b2) + (100 : Int32)) - ((v4 + b2) + (100 : Int32)) / (100 : Int32) * (100 : Int32)) (fun x22 =>
    bV (v5 + (1 : Int32)) (fun x23 =>
    X8_speak_L68 o0 b2 b3 n x22 x23 μ21))))
    else none
theorem X8_speak_L68_s (o0 : Nat) (b2 : Int32) (b3 : Int32) (n : Nat) (v4 : Int32) (v5 : Int32) (μ : MM) : X8_speak_L68 o0 b2 b3 (n + 1) v4 v5 μ =
    if b3 ≤ v5 then
    some μ
    else
    if inb (rI μ (RF o0 1) 3) (al (RF (RF o0 1) 2)) then
    bV (wI μ (RF (RF o0 1) 2) (rI μ (RF o0 1) 3).toNatClampNeg v4) (fun μ20 =>
    bV (wI μ20 (RF o0 1) 3 ((rI μ20 (RF o0 1) 3) + (1 : Int32))) (fun μ21 =>
    bV (((v4 + b2) + (100 : Int32)) - ((v4 + b2) + (100 : Int32)) / (100 : Int32) * (100 : Int32)) (fun x22 =>
    bV (v5 + (1 : Int32)) (fun x23 =>
    X8_speak_L68 o0 b2 b3 n x22 x23 μ21))))
    else none := rfl
def X8_speak (q : Nat) (a1 : Int32) (a2 : Int32) (a3 : Int32) (μ : MM) : Option (Int32 × MM) :=
bV (wI μ q 0 (0 : Int32)) (fun μ1 =>
if (X8_isIn a1 (0 : Int32) (99 : Int32)) = 0 then
bP (X8_no q (1 : Int32) μ1) (fun r5 μ6 =>
some (r5, μ6))
else
if (X8_isIn a2 (-99 : Int32) (99 : Int32)) = 0 then
bP (X8_no q (1 : Int32) μ1) (fun r11 μ12 =>
some (r11, μ12))
else
if (X8_isIn a3 (1 : Int32) (40 : Int32)) = 0 then
bP (X8_no q (1 : Int32) μ1) (fun r29 μ30 =>
some (r29, μ30))
else
if ((rI μ1 (RF q 1) 3) + a3) ≤ (120 : Int32) then
bO1 (X8_speak_L68 q a2 a3 1000 a1 (0 : Int32) μ1) (fun μ24 =>
some (rI μ24 (RF q 1) 3, μ24))
else
bP (X8_no q (2 : Int32) μ1) (fun r26 μ27 =>
some (r26, μ27)))
def X8_rest_L43 (o0 : Nat) (b1 : Int32) : Nat → Int32 → MM → Option (MM)
  | 0, _, _ => none
  | n + 1, v2, μ =>
    if b1 ≤ v2 then
    some μ
    else
    if inb ((rI μ (RF o0 1) 3) + v2) (al (RF (RF o0 1) 2)) then
    bV (wI μ (RF (RF o0 1) 2) ((rI μ (RF o0 1) 3) + v2).toNatClampNeg (-1 : Int32)) (fun μ8 =>
    bV (v2 + (1 : Int32)) (fun x9 =>
    X8_rest_L43 o0 b1 n x9 μ8))
    else none
theorem X8_rest_L43_s (o0 : Nat) (b1 : Int32) (n : Nat) (v2 : Int32) (μ : MM) : X8_rest_L43 o0 b1 (n + 1) v2 μ =
    if b1 ≤ v2 then
    some μ
    else
    if inb ((rI μ (RF o0 1) 3) + v2) (al (RF (RF o0 1) 2)) then
    bV (wI μ (RF (RF o0 1) 2) ((rI μ (RF o0 1) 3) + v2).toNatClampNeg (-1 : Int32)) (fun μ8 =>
    bV (v2 + (1 : Int32)) (fun x9 =>
    X8_rest_L43 o0 b1 n x9 μ8))
    else none := rfl
def X8_rest (q : Nat) (a1 : Int32) (μ : MM) : Option (Int32 × MM) :=
bV (wI μ q 0 (0 : Int32)) (fun μ1 =>
if (X8_isIn a1 (1 : Int32) (40 : Int32)) = 0 then
bP (X8_no q (1 : Int32) μ1) (fun r16 μ17 =>
some (r16, μ17))
else
if ((rI μ1 (RF q 1) 3) + a1) ≤ (120 : Int32) then
bO1 (X8_rest_L43 q a1 1000 (0 : Int32) μ1) (fun μ10 =>
bV (wI μ10 (RF q 1) 3 ((rI μ10 (RF q 1) 3) + a1)) (fun μ12 =>
some (rI μ12 (RF q 1) 3, μ12)))
else
bP (X8_no q (2 : Int32) μ1) (fun r13 μ14 =>
some (r13, μ14)))
def X8_addInterpreter (q : Nat) (a1 : Int32) (a2 : Int32) (μ : MM) : Option (Int32 × MM) :=
bV (wI μ q 0 (0 : Int32)) (fun μ1 =>
if (X8_isIn a1 (0 : Int32) (255 : Int32)) = 0 then
bP (X8_no q (1 : Int32) μ1) (fun r5 μ6 =>
some (r5, μ6))
else
if (X8_isIn a2 (0 : Int32) (1048575 : Int32)) = 0 then
bP (X8_no q (1 : Int32) μ1) (fun r20 μ21 =>
some (r20, μ21))
else
if (rI μ1 (RF q 1) 4) = (8 : Int32) then
bP (X8_no q (2 : Int32) μ1) (fun r17 μ18 =>
some (r17, μ18))
else
if inb (rI μ1 (RF q 1) 4) (al (RF (RF q 1) 5)) then
bV (wI μ1 (RF (RF q 1) 5) (rI μ1 (RF q 1) 4).toNatClampNeg a1) (fun μ13 =>
if inb (rI μ13 (RF q 1) 4) (al (RF (RF q 1) 6)) then
bV (wI μ13 (RF (RF q 1) 6) (rI μ13 (RF q 1) 4).toNatClampNeg a2) (fun μ15 =>
bV (wI μ15 (RF q 1) 4 ((rI μ15 (RF q 1) 4) + (1 : Int32))) (fun μ16 =>
some ((rI μ16 (RF q 1) 4) - (1 : Int32), μ16)))
else none)
else none)
def X8_addBooth (q : Nat) (a1 : Int32) (a2 : Int32) (a3 : Int32) (μ : MM) : Option (Int32 × MM) :=
bV (wI μ q 0 (0 : Int32)) (fun μ1 =>
if (X8_isIn a1 (0 : Int32) (7 : Int32)) = 0 then
bP (X8_no q (1 : Int32) μ1) (fun r5 μ6 =>
some (r5, μ6))
else
if (X8_isIn a2 (1 : Int32) (9 : Int32)) = 0 then
bP (X8_no q (1 : Int32) μ1) (fun r11 μ12 =>
some (r11, μ12))
else
if (X8_isIn a3 (1 : Int32) (12 : Int32)) = 0 then
bP (X8_no q (1 : Int32) μ1) (fun r35 μ36 =>
some (r35, μ36))
else
if (rI μ1 (RF q 1) 11) = (6 : Int32) then
bP (X8_no q (2 : Int32) μ1) (fun r32 μ33 =>
some (r32, μ33))
else
bV (rI μ1 (RF q 1) 11) (fun x18 =>
if inb x18 (al (RF (RF q 1) 12)) then
bV (wI μ1 (RF (RF q 1) 12) x18.toNatClampNeg a1) (fun μ20 =>
if inb x18 (al (RF (RF q 1) 13)) then
bV (wI μ20 (RF (RF q 1) 13) x18.toNatClampNeg a2) (fun μ22 =>
if inb x18 (al (RF (RF q 1) 14)) then
bV (wI μ22 (RF (RF q 1) 14) x18.toNatClampNeg a3) (fun μ24 =>
if inb x18 (al (RF (RF q 1) 15)) then
bV (wI μ24 (RF (RF q 1) 15) x18.toNatClampNeg (-1 : Int32)) (fun μ26 =>
if inb x18 (al (RF (RF q 1) 16)) then
bV (wI μ26 (RF (RF q 1) 16) x18.toNatClampNeg (-1 : Int32)) (fun μ28 =>
if inb x18 (al (RF (RF q 1) 18)) then
bV (wI μ28 (RF (RF q 1) 18) x18.toNatClampNeg (-1 : Int32)) (fun μ30 =>
bV (wI μ30 (RF q 1) 11 ((rI μ30 (RF q 1) 11) + (1 : Int32))) (fun μ31 =>
some (x18, μ31)))
else none)
else none)
else none)
else none)
else none)
else none))
def X8_tune_L34 (o0 : Nat) (b1 : Int32) (b2 : Int32) (μ : MM) : Nat → Int32 → Option (Nat)
  | 0, _ => none
  | n + 1, v3 =>
    if v3 = (-1 : Int32) then
    some 1
    else
    if v3 = b1 then
    some 0
    else
    if inb v3 (al (RF (RF o0 1) 15)) then
    bV (rI μ (RF (RF o0 1) 15) v3.toNatClampNeg) (fun x12 =>
    X8_tune_L34 o0 b1 b2 μ n x12)
    else none
theorem X8_tune_L34_s (o0 : Nat) (b1 : Int32) (b2 : Int32) (μ : MM) (n : Nat) (v3 : Int32) : X8_tune_L34 o0 b1 b2 μ (n + 1) v3 =
    if v3 = (-1 : Int32) then
    some 1
    else
    if v3 = b1 then
    some 0
    else
    if inb v3 (al (RF (RF o0 1) 15)) then
    bV (rI μ (RF (RF o0 1) 15) v3.toNatClampNeg) (fun x12 =>
    X8_tune_L34 o0 b1 b2 μ n x12)
    else none := rfl
def X8_tune (q : Nat) (a1 : Int32) (a2 : Int32) (μ : MM) : Option (Int32 × MM) :=
bV (wI μ q 0 (0 : Int32)) (fun μ1 =>
if (X8_isBooth q a1 μ1) = 0 then
bP (X8_no q (1 : Int32) μ1) (fun r5 μ6 =>
some (r5, μ6))
else
if a2 = (-1 : Int32) then
bO1 (X8_tune_L34 q a1 a2 μ1 1000 a2) (fun tg13 =>
if tg13 = 0 then
bP (X8_no q (2 : Int32) μ1) (fun r15 μ16 =>
some (r15, μ16))
else
if inb a1 (al (RF (RF q 1) 15)) then
bV (rI μ1 (RF (RF q 1) 15) a1.toNatClampNeg) (fun x19 =>
if inb a1 (al (RF (RF q 1) 15)) then
bV (wI μ1 (RF (RF q 1) 15) a1.toNatClampNeg a2) (fun μ21 =>
some (x19, μ21))
else none)
else none)
else
if (X8_isBooth q a2 μ1) = 0 then
bP (X8_no q (1 : Int32) μ1) (fun r34 μ35 =>
some (r34, μ35))
else
bO1 (X8_tune_L34 q a1 a2 μ1 1000 a2) (fun tg25 =>
if tg25 = 0 then
bP (X8_no q (2 : Int32) μ1) (fun r27 μ28 =>
some (r27, μ28))
else
if inb a1 (al (RF (RF q 1) 15)) then
bV (rI μ1 (RF (RF q 1) 15) a1.toNatClampNeg) (fun x31 =>
if inb a1 (al (RF (RF q 1) 15)) then
bV (wI μ1 (RF (RF q 1) 15) a1.toNatClampNeg a2) (fun μ33 =>
some (x31, μ33))
else none)
else none))
def X8_sit (q : Nat) (a1 : Int32) (a2 : Int32) (μ : MM) : Option (Int32 × MM) :=
bV (wI μ q 0 (0 : Int32)) (fun μ1 =>
if (X8_isBooth q a1 μ1) = 0 then
bP (X8_no q (1 : Int32) μ1) (fun r5 μ6 =>
some (r5, μ6))
else
if a2 = (-1 : Int32) then
if inb a1 (al (RF (RF q 1) 16)) then
bV (rI μ1 (RF (RF q 1) 16) a1.toNatClampNeg) (fun x10 =>
bO1 (X7_sit (RF q 1) a1 a2 μ1) (fun μ11 =>
some (x10, μ11)))
else none
else
if (X8_isInterpreter q a2 μ1) = 0 then
bP (X8_no q (1 : Int32) μ1) (fun r20 μ21 =>
some (r20, μ21))
else
if inb a1 (al (RF (RF q 1) 16)) then
bV (rI μ1 (RF (RF q 1) 16) a1.toNatClampNeg) (fun x17 =>
bO1 (X7_sit (RF q 1) a1 a2 μ1) (fun μ18 =>
some (x17, μ18)))
else none)
def X8_swap (q : Nat) (a1 : Int32) (a2 : Int32) (μ : MM) : Option (Int32 × MM) :=
bV (wI μ q 0 (0 : Int32)) (fun μ1 =>
if (X8_isBooth q a1 μ1) = 0 then
bP (X8_no q (1 : Int32) μ1) (fun r5 μ6 =>
some (r5, μ6))
else
if (X8_isBooth q a2 μ1) = 0 then
bP (X8_no q (1 : Int32) μ1) (fun r31 μ32 =>
some (r31, μ32))
else
if a1 = a2 then
bP (X8_no q (2 : Int32) μ1) (fun r28 μ29 =>
some (r28, μ29))
else
if inb a1 (al (RF (RF q 1) 16)) then
bV (rI μ1 (RF (RF q 1) 16) a1.toNatClampNeg) (fun x13 =>
if inb a2 (al (RF (RF q 1) 16)) then
if inb a1 (al (RF (RF q 1) 16)) then
bV (wI μ1 (RF (RF q 1) 16) a1.toNatClampNeg (rI μ1 (RF (RF q 1) 16) a2.toNatClampNeg)) (fun μ16 =>
if inb a2 (al (RF (RF q 1) 16)) then
bV (wI μ16 (RF (RF q 1) 16) a2.toNatClampNeg x13) (fun μ18 =>
bO1 (X7_isAble (RF q 1) a1 μ18) (fun r19 =>
if r19 = 0 then
bO1 (X7_isAble (RF q 1) a2 μ18) (fun r22 =>
if r22 = 0 then
some ((0 : Int32) + (0 : Int32), μ18)
else
some ((0 : Int32) + (1 : Int32), μ18))
else
bO1 (X7_isAble (RF q 1) a2 μ18) (fun r25 =>
if r25 = 0 then
some ((1 : Int32) + (0 : Int32), μ18)
else
some ((1 : Int32) + (1 : Int32), μ18))))
else none)
else none
else none)
else none)
def X8_depth_L4 (o0 : Nat) (μ : MM) : Nat → Int32 → Int32 → Option (Int32)
  | 0, _, _ => none
  | n + 1, v2, v3 =>
    if v3 = (-1 : Int32) then
    some v2
    else
    bV (v2 + (1 : Int32)) (fun x2 =>
    if inb v3 (al (RF (RF o0 1) 15)) then
    bV (rI μ (RF (RF o0 1) 15) v3.toNatClampNeg) (fun x4 =>
    X8_depth_L4 o0 μ n x2 x4)
    else none)
theorem X8_depth_L4_s (o0 : Nat) (μ : MM) (n : Nat) (v2 : Int32) (v3 : Int32) : X8_depth_L4 o0 μ (n + 1) v2 v3 =
    if v3 = (-1 : Int32) then
    some v2
    else
    bV (v2 + (1 : Int32)) (fun x2 =>
    if inb v3 (al (RF (RF o0 1) 15)) then
    bV (rI μ (RF (RF o0 1) 15) v3.toNatClampNeg) (fun x4 =>
    X8_depth_L4 o0 μ n x2 x4)
    else none) := rfl
def X8_depth (q : Nat) (a1 : Int32) (μ : MM) : Option Int32 :=
bO1 (X8_depth_L4 q μ 1000 (0 : Int32) a1) (fun x5 =>
some x5)
def X8_boothTold (q : Nat) (a1 : Int32) (a2 : Int32) (μ : MM) : Option (Int32 × MM) :=
if a2 = (11 : Int32) then
bO2 (X7_through (RF q 1) a1 μ) (fun r24 μ25 =>
some (r24, μ25))
else
if inb a1 (al (RF (RF q 1) 12)) then
if inb a1 (al (RF (RF q 1) 13)) then
if inb a1 (al (RF (RF q 1) 14)) then
if inb a1 (al (RF (RF q 1) 15)) then
if inb a1 (al (RF (RF q 1) 16)) then
if inb a1 (al (RF (RF q 1) 19)) then
if inb (a1 + (1 : Int32)) (al (RF (RF q 1) 22)) then
if inb a1 (al (RF (RF q 1) 17)) then
bO1 (X8_depth q a1 μ) (fun r10 =>
if inb a1 (al (RF (RF q 1) 18)) then
if (rI μ (RF (RF q 1) 18) a1.toNatClampNeg) = (-1 : Int32) then
bO1 (X7_isAble (RF q 1) a1 μ) (fun r19 =>
if r19 = 0 then
if inb a2 11 then
some ((upd (upd (upd (upd (upd (upd (upd (upd (upd (upd (upd (fun _ => 0) (0 : Int32).toNatClampNeg (rI μ (RF (RF q 1) 12) a1.toNatClampNeg)) (1 : Int32).toNatClampNeg (rI μ (RF (RF q 1) 13) a1.toNatClampNeg)) (2 : Int32).toNatClampNeg (rI μ (RF (RF q 1) 14) a1.toNatClampNeg)) (3 : Int32).toNatClampNeg (rI μ (RF (RF q 1) 15) a1.toNatClampNeg)) (4 : Int32).toNatClampNeg (rI μ (RF (RF q 1) 16) a1.toNatClampNeg)) (5 : Int32).toNatClampNeg (rI μ (RF (RF q 1) 19) a1.toNatClampNeg)) (6 : Int32).toNatClampNeg (rI μ (RF (RF q 1) 22) (a1 + (1 : Int32)).toNatClampNeg)) (7 : Int32).toNatClampNeg (rI μ (RF (RF q 1) 17) a1.toNatClampNeg)) (8 : Int32).toNatClampNeg r10) (9 : Int32).toNatClampNeg (0 : Int32)) (10 : Int32).toNatClampNeg (0 : Int32)) a2.toNatClampNeg, μ)
else none
else
if inb a2 11 then
some ((upd (upd (upd (upd (upd (upd (upd (upd (upd (upd (upd (fun _ => 0) (0 : Int32).toNatClampNeg (rI μ (RF (RF q 1) 12) a1.toNatClampNeg)) (1 : Int32).toNatClampNeg (rI μ (RF (RF q 1) 13) a1.toNatClampNeg)) (2 : Int32).toNatClampNeg (rI μ (RF (RF q 1) 14) a1.toNatClampNeg)) (3 : Int32).toNatClampNeg (rI μ (RF (RF q 1) 15) a1.toNatClampNeg)) (4 : Int32).toNatClampNeg (rI μ (RF (RF q 1) 16) a1.toNatClampNeg)) (5 : Int32).toNatClampNeg (rI μ (RF (RF q 1) 19) a1.toNatClampNeg)) (6 : Int32).toNatClampNeg (rI μ (RF (RF q 1) 22) (a1 + (1 : Int32)).toNatClampNeg)) (7 : Int32).toNatClampNeg (rI μ (RF (RF q 1) 17) a1.toNatClampNeg)) (8 : Int32).toNatClampNeg r10) (9 : Int32).toNatClampNeg (0 : Int32)) (10 : Int32).toNatClampNeg (1 : Int32)) a2.toNatClampNeg, μ)
else none)
else
bO1 (X7_isAble (RF q 1) a1 μ) (fun r14 =>
if r14 = 0 then
if inb a2 11 then
some ((upd (upd (upd (upd (upd (upd (upd (upd (upd (upd (upd (fun _ => 0) (0 : Int32).toNatClampNeg (rI μ (RF (RF q 1) 12) a1.toNatClampNeg)) (1 : Int32).toNatClampNeg (rI μ (RF (RF q 1) 13) a1.toNatClampNeg)) (2 : Int32).toNatClampNeg (rI μ (RF (RF q 1) 14) a1.toNatClampNeg)) (3 : Int32).toNatClampNeg (rI μ (RF (RF q 1) 15) a1.toNatClampNeg)) (4 : Int32).toNatClampNeg (rI μ (RF (RF q 1) 16) a1.toNatClampNeg)) (5 : Int32).toNatClampNeg (rI μ (RF (RF q 1) 19) a1.toNatClampNeg)) (6 : Int32).toNatClampNeg (rI μ (RF (RF q 1) 22) (a1 + (1 : Int32)).toNatClampNeg)) (7 : Int32).toNatClampNeg (rI μ (RF (RF q 1) 17) a1.toNatClampNeg)) (8 : Int32).toNatClampNeg r10) (9 : Int32).toNatClampNeg (1 : Int32)) (10 : Int32).toNatClampNeg (0 : Int32)) a2.toNatClampNeg, μ)
else none
else
if inb a2 11 then
some ((upd (upd (upd (upd (upd (upd (upd (upd (upd (upd (upd (fun _ => 0) (0 : Int32).toNatClampNeg (rI μ (RF (RF q 1) 12) a1.toNatClampNeg)) (1 : Int32).toNatClampNeg (rI μ (RF (RF q 1) 13) a1.toNatClampNeg)) (2 : Int32).toNatClampNeg (rI μ (RF (RF q 1) 14) a1.toNatClampNeg)) (3 : Int32).toNatClampNeg (rI μ (RF (RF q 1) 15) a1.toNatClampNeg)) (4 : Int32).toNatClampNeg (rI μ (RF (RF q 1) 16) a1.toNatClampNeg)) (5 : Int32).toNatClampNeg (rI μ (RF (RF q 1) 19) a1.toNatClampNeg)) (6 : Int32).toNatClampNeg (rI μ (RF (RF q 1) 22) (a1 + (1 : Int32)).toNatClampNeg)) (7 : Int32).toNatClampNeg (rI μ (RF (RF q 1) 17) a1.toNatClampNeg)) (8 : Int32).toNatClampNeg r10) (9 : Int32).toNatClampNeg (1 : Int32)) (10 : Int32).toNatClampNeg (1 : Int32)) a2.toNatClampNeg, μ)
else none)
else none)
else none
else none
else none
else none
else none
else none
else none
else none
def X8_booth (q : Nat) (a1 : Int32) (a2 : Int32) (μ : MM) : Option (Int32 × MM) :=
bV (wI μ q 0 (0 : Int32)) (fun μ1 =>
if (X8_isBooth q a1 μ1) = 0 then
bP (X8_no q (1 : Int32) μ1) (fun r5 μ6 =>
some (r5, μ6))
else
if (X8_isIn a2 (0 : Int32) (11 : Int32)) = 0 then
bP (X8_no q (1 : Int32) μ1) (fun r11 μ12 =>
some (r11, μ12))
else
bO2 (X8_boothTold q a1 a2 μ1) (fun r14 μ15 =>
some (r14, μ15)))
def X8_interpreterTold (q : Nat) (a1 : Int32) (a2 : Int32) (μ : MM) : Option Int32 :=
if inb a1 (al (RF (RF q 1) 5)) then
if inb a1 (al (RF (RF q 1) 6)) then
bO1 (X7_boothOf (RF q 1) a1 μ) (fun r3 =>
if inb a1 (al (RF (RF q 1) 7)) then
if inb a1 (al (RF (RF q 1) 8)) then
if inb a1 (al (RF (RF q 1) 9)) then
if inb a1 (al (RF (RF q 1) 10)) then
if inb a2 7 then
some ((upd (upd (upd (upd (upd (upd (upd (fun _ => 0) (0 : Int32).toNatClampNeg (rI μ (RF (RF q 1) 5) a1.toNatClampNeg)) (1 : Int32).toNatClampNeg (rI μ (RF (RF q 1) 6) a1.toNatClampNeg)) (2 : Int32).toNatClampNeg r3) (3 : Int32).toNatClampNeg (rI μ (RF (RF q 1) 7) a1.toNatClampNeg)) (4 : Int32).toNatClampNeg (rI μ (RF (RF q 1) 8) a1.toNatClampNeg)) (5 : Int32).toNatClampNeg (rI μ (RF (RF q 1) 9) a1.toNatClampNeg)) (6 : Int32).toNatClampNeg (rI μ (RF (RF q 1) 10) a1.toNatClampNeg)) a2.toNatClampNeg)
else none
else none
else none
else none
else none)
else none
else none
def X8_interpreter (q : Nat) (a1 : Int32) (a2 : Int32) (μ : MM) : Option (Int32 × MM) :=
bV (wI μ q 0 (0 : Int32)) (fun μ1 =>
if (X8_isInterpreter q a1 μ1) = 0 then
bP (X8_no q (1 : Int32) μ1) (fun r5 μ6 =>
some (r5, μ6))
else
if (X8_isIn a2 (0 : Int32) (6 : Int32)) = 0 then
bP (X8_no q (1 : Int32) μ1) (fun r11 μ12 =>
some (r11, μ12))
else
bO1 (X8_interpreterTold q a1 a2 μ1) (fun r14 =>
some (r14, μ1)))
def X8_pass_L4 (o0 : Nat) (b1 : Int32) : Nat → Int32 → Int32 → MM → Option (Int32 × MM)
  | 0, _, _, _ => none
  | n + 1, v2, v3, μ =>
    if b1 ≤ v3 then
    some (v2, μ)
    else
    bO2 (X7_pass o0 μ) (fun r2 μ3 =>
    bV (v2 + r2) (fun x5 =>
    bV (v3 + (1 : Int32)) (fun x6 =>
    X8_pass_L4 o0 b1 n x5 x6 μ3)))
theorem X8_pass_L4_s (o0 : Nat) (b1 : Int32) (n : Nat) (v2 : Int32) (v3 : Int32) (μ : MM) : X8_pass_L4 o0 b1 (n + 1) v2 v3 μ =
    if b1 ≤ v3 then
    some (v2, μ)
    else
    bO2 (X7_pass o0 μ) (fun r2 μ3 =>
    bV (v2 + r2) (fun x5 =>
    bV (v3 + (1 : Int32)) (fun x6 =>
    X8_pass_L4 o0 b1 n x5 x6 μ3))) := rfl
def X8_pass (a1 : Nat) (a2 : Int32) (μ : MM) : Option (Int32 × MM) :=
bO2 (X8_pass_L4 a1 a2 1000 (0 : Int32) (0 : Int32) μ) (fun x7 μ8 =>
some (x7, μ8))
def X8_pass_ (q : Nat) (a1 : Int32) (μ : MM) : Option (Int32 × MM) :=
bV (wI μ q 0 (0 : Int32)) (fun μ1 =>
if (X8_isIn a1 (1 : Int32) (100 : Int32)) = 0 then
bP (X8_no q (1 : Int32) μ1) (fun r12 μ13 =>
some (r12, μ13))
else
if ((rI μ1 (RF q 1) 0) + a1) ≤ (400 : Int32) then
bO2 (X8_pass (RF q 1) a1 μ1) (fun r6 μ7 =>
some (r6, μ7))
else
bP (X8_no q (2 : Int32) μ1) (fun r9 μ10 =>
some (r9, μ10)))
def X8_said (q : Nat) (a1 : Int32) (a2 : Int32) (a3 : Int32) (μ : MM) : Option (Int32 × MM) :=
bV (wI μ q 0 (0 : Int32)) (fun μ1 =>
if a1 = (-1 : Int32) then
if inb (a1 + (1 : Int32)) (al (RF (RF q 1) 22)) then
if (X8_isIn a2 (0 : Int32) ((rI μ1 (RF (RF q 1) 22) (a1 + (1 : Int32)).toNatClampNeg) - (1 : Int32))) = 0 then
bP (X8_no q (1 : Int32) μ1) (fun r10 μ11 =>
some (r10, μ11))
else
if a3 = 0 then
if inb (((400 : Int32) * (a1 + (1 : Int32))) + a2) (al (RF (RF q 1) 23)) then
some (rI μ1 (RF (RF q 1) 23) (((400 : Int32) * (a1 + (1 : Int32))) + a2).toNatClampNeg, μ1)
else none
else
if inb (((400 : Int32) * (a1 + (1 : Int32))) + a2) (al (RF (RF q 1) 24)) then
some (rI μ1 (RF (RF q 1) 24) (((400 : Int32) * (a1 + (1 : Int32))) + a2).toNatClampNeg, μ1)
else none
else none
else
if (X8_isBooth q a1 μ1) = 0 then
bP (X8_no q (1 : Int32) μ1) (fun r26 μ27 =>
some (r26, μ27))
else
if inb (a1 + (1 : Int32)) (al (RF (RF q 1) 22)) then
if (X8_isIn a2 (0 : Int32) ((rI μ1 (RF (RF q 1) 22) (a1 + (1 : Int32)).toNatClampNeg) - (1 : Int32))) = 0 then
bP (X8_no q (1 : Int32) μ1) (fun r23 μ24 =>
some (r23, μ24))
else
if a3 = 0 then
if inb (((400 : Int32) * (a1 + (1 : Int32))) + a2) (al (RF (RF q 1) 23)) then
some (rI μ1 (RF (RF q 1) 23) (((400 : Int32) * (a1 + (1 : Int32))) + a2).toNatClampNeg, μ1)
else none
else
if inb (((400 : Int32) * (a1 + (1 : Int32))) + a2) (al (RF (RF q 1) 24)) then
some (rI μ1 (RF (RF q 1) 24) (((400 : Int32) * (a1 + (1 : Int32))) + a2).toNatClampNeg, μ1)
else none
else none)
def X8_counted_L10 (o0 : Nat) (b1 : Int32) (μ : MM) : Nat → Int32 → Int32 → Int32 → Int32 → Option (Int32 × Int32 × Int32)
  | 0, _, _, _, _ => none
  | n + 1, v2, v3, v4, v5 =>
    if (rI μ (RF o0 1) 11) ≤ v5 then
    some (v2, v3, v4)
    else
    if inb v5 (al (RF (RF o0 1) 17)) then
    bV (v2 + (rI μ (RF (RF o0 1) 17) v5.toNatClampNeg)) (fun x3 =>
    if inb v5 (al (RF (RF o0 1) 19)) then
    bV (v3 + (rI μ (RF (RF o0 1) 19) v5.toNatClampNeg)) (fun x5 =>
    bO1 (X7_isAble (RF o0 1) v5 μ) (fun r6 =>
    if r6 = 0 then
    bV (v4 + (0 : Int32)) (fun x9 =>
    bV (v5 + (1 : Int32)) (fun x10 =>
    X8_counted_L10 o0 b1 μ n x3 x5 x9 x10))
    else
    bV (v4 + (1 : Int32)) (fun x11 =>
    bV (v5 + (1 : Int32)) (fun x12 =>
    X8_counted_L10 o0 b1 μ n x3 x5 x11 x12))))
    else none)
    else none
theorem X8_counted_L10_s (o0 : Nat) (b1 : Int32) (μ : MM) (n : Nat) (v2 : Int32) (v3 : Int32) (v4 : Int32) (v5 : Int32) : X8_counted_L10 o0 b1 μ (n + 1) v2 v3 v4 v5 =
    if (rI μ (RF o0 1) 11) ≤ v5 then
    some (v2, v3, v4)
    else
    if inb v5 (al (RF (RF o0 1) 17)) then
    bV (v2 + (rI μ (RF (RF o0 1) 17) v5.toNatClampNeg)) (fun x3 =>
    if inb v5 (al (RF (RF o0 1) 19)) then
    bV (v3 + (rI μ (RF (RF o0 1) 19) v5.toNatClampNeg)) (fun x5 =>
    bO1 (X7_isAble (RF o0 1) v5 μ) (fun r6 =>
    if r6 = 0 then
    bV (v4 + (0 : Int32)) (fun x9 =>
    bV (v5 + (1 : Int32)) (fun x10 =>
    X8_counted_L10 o0 b1 μ n x3 x5 x9 x10))
    else
    bV (v4 + (1 : Int32)) (fun x11 =>
    bV (v5 + (1 : Int32)) (fun x12 =>
    X8_counted_L10 o0 b1 μ n x3 x5 x11 x12))))
    else none)
    else none := rfl
def X8_counted (q : Nat) (a1 : Int32) (μ : MM) : Option Int32 :=
bO3 (X8_counted_L10 q a1 μ 1000 (0 : Int32) (0 : Int32) (0 : Int32) (0 : Int32)) (fun x13 x14 x15 =>
if inb (0 : Int32) (al (RF (RF q 1) 22)) then
bO1 (X7_all (RF q 1) μ) (fun r18 =>
if inb a1 10 then
some ((upd (upd (upd (upd (upd (upd (upd (upd (upd (upd (fun _ => 0) (0 : Int32).toNatClampNeg (rI μ (RF q 1) 0)) (1 : Int32).toNatClampNeg (rI μ (RF q 1) 1)) (2 : Int32).toNatClampNeg (rI μ (RF q 1) 3)) (3 : Int32).toNatClampNeg (rI μ (RF (RF q 1) 22) (0 : Int32).toNatClampNeg)) (4 : Int32).toNatClampNeg (rI μ (RF q 1) 11)) (5 : Int32).toNatClampNeg (rI μ (RF q 1) 4)) (6 : Int32).toNatClampNeg r18) (7 : Int32).toNatClampNeg x13) (8 : Int32).toNatClampNeg x14) (9 : Int32).toNatClampNeg x15) a1.toNatClampNeg)
else none)
else none)
def X8_count (q : Nat) (a1 : Int32) (μ : MM) : Option (Int32 × MM) :=
bV (wI μ q 0 (0 : Int32)) (fun μ1 =>
if (X8_isIn a1 (0 : Int32) (9 : Int32)) = 0 then
bP (X8_no q (1 : Int32) μ1) (fun r5 μ6 =>
some (r5, μ6))
else
bO1 (X8_counted q a1 μ1) (fun r8 =>
some (r8, μ1)))
def X8_foresee (q : Nat) (a1 : Int32) (a2 : Int32) (a3 : Int32) (μ : MM) : Option (Int32 × MM) :=
bV (wI μ q 0 (0 : Int32)) (fun μ1 =>
if (X8_isBooth q a1 μ1) = 0 then
bP (X8_no q (1 : Int32) μ1) (fun r5 μ6 =>
some (r5, μ6))
else
if (X8_isIn a3 (0 : Int32) (2 : Int32)) = 0 then
bP (X8_no q (1 : Int32) μ1) (fun r33 μ34 =>
some (r33, μ34))
else
if (X8_isIn a2 (1 : Int32) (100 : Int32)) = 0 then
bP (X8_no q (2 : Int32) μ1) (fun r30 μ31 =>
some (r30, μ31))
else
if ((rI μ1 (RF q 1) 0) + a2) ≤ (400 : Int32) then
bO1 (X7_become (RF q 2) (RF q 1) μ1) (fun μ15 =>
bO2 (X8_pass (RF q 2) a2 μ15) (fun r17 μ18 =>
if a3 = 0 then
bO2 (X7_through (RF q 2) a1 μ18) (fun r24 μ25 =>
some (r24, μ25))
else
if a3 = (1 : Int32) then
if inb a1 (al (RF (RF q 2) 17)) then
some (rI μ18 (RF (RF q 2) 17) a1.toNatClampNeg, μ18)
else none
else
if inb (a1 + (1 : Int32)) (al (RF (RF q 2) 22)) then
some (rI μ18 (RF (RF q 2) 22) (a1 + (1 : Int32)).toNatClampNeg, μ18)
else none))
else
bP (X8_no q (3 : Int32) μ1) (fun r27 μ28 =>
some (r27, μ28)))
def X8_advise_L64 (o0 : Nat) (b1 : Int32) (b2 : Int32) : Nat → Int32 → Int32 → Int32 → MM → Option (Int32 × MM)
  | 0, _, _, _, _ => none
  | n + 1, v3, v4, v5, μ =>
    if (rI μ (RF o0 1) 4) ≤ v5 then
    some (v3, μ)
    else
    bO1 (X7_boothOf (RF o0 1) v5 μ) (fun r10 =>
    if r10 = (-1 : Int32) then
    bO1 (X7_become (RF o0 2) (RF o0 1) μ) (fun μ13 =>
    bO1 (X7_sit (RF o0 2) b1 v5 μ13) (fun μ15 =>
    bO2 (X8_pass (RF o0 2) b2 μ15) (fun r17 μ18 =>
    bO2 (X7_through (RF o0 2) b1 μ18) (fun r20 μ21 =>
    if v4 < r20 then
    bV (v5 + (1 : Int32)) (fun x24 =>
    X8_advise_L64 o0 b1 b2 n v5 r20 x24 μ21)
    else
    bV (v5 + (1 : Int32)) (fun x25 =>
    X8_advise_L64 o0 b1 b2 n v3 v4 x25 μ21)))))
    else
    bO1 (X7_boothOf (RF o0 1) v5 μ) (fun r26 =>
    if r26 = b1 then
    bO1 (X7_become (RF o0 2) (RF o0 1) μ) (fun μ29 =>
    bO1 (X7_sit (RF o0 2) b1 v5 μ29) (fun μ31 =>
    bO2 (X8_pass (RF o0 2) b2 μ31) (fun r33 μ34 =>
    bO2 (X7_through (RF o0 2) b1 μ34) (fun r36 μ37 =>
    if v4 < r36 then
    bV (v5 + (1 : Int32)) (fun x40 =>
    X8_advise_L64 o0 b1 b2 n v5 r36 x40 μ37)
    else
    bV (v5 + (1 : Int32)) (fun x41 =>
    X8_advise_L64 o0 b1 b2 n v3 v4 x41 μ37)))))
    else
    bV (v5 + (1 : Int32)) (fun x42 =>
    X8_advise_L64 o0 b1 b2 n v3 v4 x42 μ)))
theorem X8_advise_L64_s (o0 : Nat) (b1 : Int32) (b2 : Int32) (n : Nat) (v3 : Int32) (v4 : Int32) (v5 : Int32) (μ : MM) : X8_advise_L64 o0 b1 b2 (n + 1) v3 v4 v5 μ =
    if (rI μ (RF o0 1) 4) ≤ v5 then
    some (v3, μ)
    else
    bO1 (X7_boothOf (RF o0 1) v5 μ) (fun r10 =>
    if r10 = (-1 : Int32) then
    bO1 (X7_become (RF o0 2) (RF o0 1) μ) (fun μ13 =>
    bO1 (X7_sit (RF o0 2) b1 v5 μ13) (fun μ15 =>
    bO2 (X8_pass (RF o0 2) b2 μ15) (fun r17 μ18 =>
    bO2 (X7_through (RF o0 2) b1 μ18) (fun r20 μ21 =>
    if v4 < r20 then
    bV (v5 + (1 : Int32)) (fun x24 =>
    X8_advise_L64 o0 b1 b2 n v5 r20 x24 μ21)
    else
    bV (v5 + (1 : Int32)) (fun x25 =>
    X8_advise_L64 o0 b1 b2 n v3 v4 x25 μ21)))))
    else
    bO1 (X7_boothOf (RF o0 1) v5 μ) (fun r26 =>
    if r26 = b1 then
    bO1 (X7_become (RF o0 2) (RF o0 1) μ) (fun μ29 =>
    bO1 (X7_sit (RF o0 2) b1 v5 μ29) (fun μ31 =>
    bO2 (X8_pass (RF o0 2) b2 μ31) (fun r33 μ34 =>
    bO2 (X7_through (RF o0 2) b1 μ34) (fun r36 μ37 =>
    if v4 < r36 then
    bV (v5 + (1 : Int32)) (fun x40 =>
    X8_advise_L64 o0 b1 b2 n v5 r36 x40 μ37)
    else
    bV (v5 + (1 : Int32)) (fun x41 =>
    X8_advise_L64 o0 b1 b2 n v3 v4 x41 μ37)))))
    else
    bV (v5 + (1 : Int32)) (fun x42 =>
    X8_advise_L64 o0 b1 b2 n v3 v4 x42 μ))) := rfl
def X8_advise (q : Nat) (a1 : Int32) (a2 : Int32) (μ : MM) : Option (Int32 × MM) :=
bV (wI μ q 0 (0 : Int32)) (fun μ1 =>
if (X8_isBooth q a1 μ1) = 0 then
bP (X8_no q (1 : Int32) μ1) (fun r52 μ53 =>
some (r52, μ53))
else
if (X8_isIn a2 (1 : Int32) (40 : Int32)) = 0 then
bP (X8_no q (2 : Int32) μ1) (fun r49 μ50 =>
some (r49, μ50))
else
if ((rI μ1 (RF q 1) 0) + a2) ≤ (400 : Int32) then
bO2 (X8_advise_L64 q a1 a2 1000 (-1 : Int32) (-1 : Int32) (0 : Int32) μ1) (fun x43 μ44 =>
some (x43, μ44))
else
bP (X8_no q (3 : Int32) μ1) (fun r46 μ47 =>
some (r46, μ47)))
def X8_digest_L11 (o0 : Nat) (μ : MM) : Nat → Int64 → Int32 → Option (Int64)
  | 0, _, _ => none
  | n + 1, v1, v3 =>
    if (10 : Int32) ≤ v3 then
    some v1
    else
    bO1 (X8_counted o0 v3 μ) (fun r4 =>
    bV ((v1 * (31 : Int64)) + r4.toInt64) (fun x6 =>
    bV (v3 + (1 : Int32)) (fun x7 =>
    X8_digest_L11 o0 μ n x6 x7)))
theorem X8_digest_L11_s (o0 : Nat) (μ : MM) (n : Nat) (v1 : Int64) (v3 : Int32) : X8_digest_L11 o0 μ (n + 1) v1 v3 =
    if (10 : Int32) ≤ v3 then
    some v1
    else
    bO1 (X8_counted o0 v3 μ) (fun r4 =>
    bV ((v1 * (31 : Int64)) + r4.toInt64) (fun x6 =>
    bV (v3 + (1 : Int32)) (fun x7 =>
    X8_digest_L11 o0 μ n x6 x7))) := rfl
def X8_digest_L52 (o0 : Nat) (b3 : Int32) (μ : MM) : Nat → Int64 → Int32 → Option (Int64)
  | 0, _, _ => none
  | n + 1, v1, v4 =>
    if (7 : Int32) ≤ v4 then
    some v1
    else
    bO1 (X8_interpreterTold o0 b3 v4 μ) (fun r12 =>
    bV ((v1 * (31 : Int64)) + r12.toInt64) (fun x14 =>
    bV (v4 + (1 : Int32)) (fun x15 =>
    X8_digest_L52 o0 b3 μ n x14 x15)))
theorem X8_digest_L52_s (o0 : Nat) (b3 : Int32) (μ : MM) (n : Nat) (v1 : Int64) (v4 : Int32) : X8_digest_L52 o0 b3 μ (n + 1) v1 v4 =
    if (7 : Int32) ≤ v4 then
    some v1
    else
    bO1 (X8_interpreterTold o0 b3 v4 μ) (fun r12 =>
    bV ((v1 * (31 : Int64)) + r12.toInt64) (fun x14 =>
    bV (v4 + (1 : Int32)) (fun x15 =>
    X8_digest_L52 o0 b3 μ n x14 x15))) := rfl
def X8_digest_L38 (o0 : Nat) (μ : MM) : Nat → Int64 → Int32 → Option (Int64)
  | 0, _, _ => none
  | n + 1, v1, v3 =>
    if (rI μ (RF o0 1) 4) ≤ v3 then
    some v1
    else
    bO1 (X8_digest_L52 o0 v3 μ 8 v1 (0 : Int32)) (fun x16 =>
    bV (v3 + (1 : Int32)) (fun x18 =>
    X8_digest_L38 o0 μ n x16 x18))
theorem X8_digest_L38_s (o0 : Nat) (μ : MM) (n : Nat) (v1 : Int64) (v3 : Int32) : X8_digest_L38 o0 μ (n + 1) v1 v3 =
    if (rI μ (RF o0 1) 4) ≤ v3 then
    some v1
    else
    bO1 (X8_digest_L52 o0 v3 μ 8 v1 (0 : Int32)) (fun x16 =>
    bV (v3 + (1 : Int32)) (fun x18 =>
    X8_digest_L38 o0 μ n x16 x18)) := rfl
def X8_digest_L102 (o0 : Nat) (b3 : Int32) : Nat → Int64 → Int32 → MM → Option (Int64 × MM)
  | 0, _, _, _ => none
  | n + 1, v1, v4, μ =>
    if (12 : Int32) ≤ v4 then
    some (v1, μ)
    else
    bO2 (X8_boothTold o0 b3 v4 μ) (fun r23 μ24 =>
    bV ((v1 * (31 : Int64)) + r23.toInt64) (fun x26 =>
    bV (v4 + (1 : Int32)) (fun x27 =>
    X8_digest_L102 o0 b3 n x26 x27 μ24)))
theorem X8_digest_L102_s (o0 : Nat) (b3 : Int32) (n : Nat) (v1 : Int64) (v4 : Int32) (μ : MM) : X8_digest_L102 o0 b3 (n + 1) v1 v4 μ =
    if (12 : Int32) ≤ v4 then
    some (v1, μ)
    else
    bO2 (X8_boothTold o0 b3 v4 μ) (fun r23 μ24 =>
    bV ((v1 * (31 : Int64)) + r23.toInt64) (fun x26 =>
    bV (v4 + (1 : Int32)) (fun x27 =>
    X8_digest_L102 o0 b3 n x26 x27 μ24))) := rfl
def X8_digest_L88 (o0 : Nat) : Nat → Int64 → Int32 → MM → Option (Int64 × MM)
  | 0, _, _, _ => none
  | n + 1, v1, v3, μ =>
    if (rI μ (RF o0 1) 11) ≤ v3 then
    some (v1, μ)
    else
    bO2 (X8_digest_L102 o0 v3 13 v1 (0 : Int32) μ) (fun x28 μ29 =>
    bV (v3 + (1 : Int32)) (fun x31 =>
    X8_digest_L88 o0 n x28 x31 μ29))
theorem X8_digest_L88_s (o0 : Nat) (n : Nat) (v1 : Int64) (v3 : Int32) (μ : MM) : X8_digest_L88 o0 (n + 1) v1 v3 μ =
    if (rI μ (RF o0 1) 11) ≤ v3 then
    some (v1, μ)
    else
    bO2 (X8_digest_L102 o0 v3 13 v1 (0 : Int32) μ) (fun x28 μ29 =>
    bV (v3 + (1 : Int32)) (fun x31 =>
    X8_digest_L88 o0 n x28 x31 μ29)) := rfl
def X8_digest_L156 (o0 : Nat) (b3 : Int32) (μ : MM) : Nat → Int64 → Int32 → Option (Int64)
  | 0, _, _ => none
  | n + 1, v1, v4 =>
    if inb b3 (al (RF (RF o0 1) 22)) then
    if (((400 : Int32) * b3) + (rI μ (RF (RF o0 1) 22) b3.toNatClampNeg)) ≤ v4 then
    some v1
    else
    if inb v4 (al (RF (RF o0 1) 23)) then
    if inb v4 (al (RF (RF o0 1) 24)) then
    bV ((((v1 * (31 : Int64)) + ((rI μ (RF (RF o0 1) 23) v4.toNatClampNeg).toInt64)) * (31 : Int64)) + ((rI μ (RF (RF o0 1) 24) v4.toNatClampNeg).toInt64)) (fun x41 =>
    bV (v4 + (1 : Int32)) (fun x42 =>
    X8_digest_L156 o0 b3 μ n x41 x42))
    else none
    else none
    else none
theorem X8_digest_L156_s (o0 : Nat) (b3 : Int32) (μ : MM) (n : Nat) (v1 : Int64) (v4 : Int32) : X8_digest_L156 o0 b3 μ (n + 1) v1 v4 =
    if inb b3 (al (RF (RF o0 1) 22)) then
    if (((400 : Int32) * b3) + (rI μ (RF (RF o0 1) 22) b3.toNatClampNeg)) ≤ v4 then
    some v1
    else
    if inb v4 (al (RF (RF o0 1) 23)) then
    if inb v4 (al (RF (RF o0 1) 24)) then
    bV ((((v1 * (31 : Int64)) + ((rI μ (RF (RF o0 1) 23) v4.toNatClampNeg).toInt64)) * (31 : Int64)) + ((rI μ (RF (RF o0 1) 24) v4.toNatClampNeg).toInt64)) (fun x41 =>
    bV (v4 + (1 : Int32)) (fun x42 =>
    X8_digest_L156 o0 b3 μ n x41 x42))
    else none
    else none
    else none := rfl
def X8_digest_L138 (o0 : Nat) (μ : MM) : Nat → Int64 → Int32 → Option (Int64)
  | 0, _, _ => none
  | n + 1, v1, v3 =>
    if (rI μ (RF o0 1) 11) < v3 then
    some v1
    else
    bV ((400 : Int32) * v3) (fun x36 =>
    bO1 (X8_digest_L156 o0 v3 μ 1000 v1 x36) (fun x43 =>
    bV (v3 + (1 : Int32)) (fun x45 =>
    X8_digest_L138 o0 μ n x43 x45)))
theorem X8_digest_L138_s (o0 : Nat) (μ : MM) (n : Nat) (v1 : Int64) (v3 : Int32) : X8_digest_L138 o0 μ (n + 1) v1 v3 =
    if (rI μ (RF o0 1) 11) < v3 then
    some v1
    else
    bV ((400 : Int32) * v3) (fun x36 =>
    bO1 (X8_digest_L156 o0 v3 μ 1000 v1 x36) (fun x43 =>
    bV (v3 + (1 : Int32)) (fun x45 =>
    X8_digest_L138 o0 μ n x43 x45))) := rfl
def X8_digest (q : Nat) (μ : MM) : Option (Int64 × MM) :=
bV (wI μ q 0 (0 : Int32)) (fun μ1 =>
bV ((523 : Int64)) (fun x2 =>
bO1 (X8_digest_L11 q μ1 11 x2 (0 : Int32)) (fun x8 =>
bO1 (X8_digest_L38 q μ1 9 x8 (0 : Int32)) (fun x19 =>
bO2 (X8_digest_L88 q 7 x19 (0 : Int32) μ1) (fun x32 μ33 =>
bO1 (X8_digest_L138 q μ33 1000 x32 (0 : Int32)) (fun x46 =>
some (x46, μ33)))))))
def X6_setFloor (q : Nat) (a1 : Int32) (μ : MM) : Option (Nat × Int32 × MM) :=
if (X6_isWithin a1 (0 : Int32) (7 : Int32)) = 0 then
some (1, (0 : Int32), μ)
else
bV (rI μ (RF q 0) 5) (fun x4 =>
bV (wI μ (RF q 0) 5 a1) (fun μ5 =>
some (0, x4, μ5)))
def X6_speak_L67 (o0 : Nat) (b1 : Int32) (b2 : Int32) (b3 : Int32) : Nat → Int32 → MM → Option (MM)
  | 0, _, _ => none
  | n + 1, v4, μ =>
    if b3 ≤ v4 then
    some μ
    else
    bO1 (J9_floorMod_7cf53 (b1 + (v4 * b2)) (100 : Int32)) (fun r17 =>
    bO1 (X3_add (RF (RF o0 0) 1) r17 μ) (fun μ19 =>
    bV (v4 + (1 : Int32)) (fun x21 =>
    X6_speak_L67 o0 b1 b2 b3 n x21 μ19)))
theorem X6_speak_L67_s (o0 : Nat) (b1 : Int32) (b2 : Int32) (b3 : Int32) (n : Nat) (v4 : Int32) (μ : MM) : X6_speak_L67 o0 b1 b2 b3 (n + 1) v4 μ =
    if b3 ≤ v4 then
    some μ
    else
    bO1 (J9_floorMod_7cf53 (b1 + (v4 * b2)) (100 : Int32)) (fun r17 =>
    bO1 (X3_add (RF (RF o0 0) 1) r17 μ) (fun μ19 =>
    bV (v4 + (1 : Int32)) (fun x21 =>
    X6_speak_L67 o0 b1 b2 b3 n x21 μ19))) := rfl
def X6_speak (q : Nat) (a1 : Int32) (a2 : Int32) (a3 : Int32) (μ : MM) : Option (Nat × Int32 × MM) :=
if (X6_isWithin a1 (0 : Int32) (99 : Int32)) = 0 then
some (1, (0 : Int32), μ)
else
if (X6_isWithin a2 (-99 : Int32) (99 : Int32)) = 0 then
some (1, (0 : Int32), μ)
else
if (X6_isWithin a3 (1 : Int32) (40 : Int32)) = 0 then
some (1, (0 : Int32), μ)
else
if (120 : Int32) < ((rI μ (RF (RF q 0) 1) 1) + a3) then
some (2, (0 : Int32), μ)
else
bO1 (X6_speak_L67 q a1 a2 a3 1000 (0 : Int32) μ) (fun μ22 =>
some (0, rI μ22 (RF (RF q 0) 1) 1, μ22))
def X6_rest_L37 (o0 : Nat) (b1 : Int32) : Nat → Int32 → MM → Option (MM)
  | 0, _, _ => none
  | n + 1, v2, μ =>
    if b1 ≤ v2 then
    some μ
    else
    bO1 (X3_add (RF (RF o0 0) 1) (-1 : Int32) μ) (fun μ8 =>
    bV (v2 + (1 : Int32)) (fun x10 =>
    X6_rest_L37 o0 b1 n x10 μ8))
theorem X6_rest_L37_s (o0 : Nat) (b1 : Int32) (n : Nat) (v2 : Int32) (μ : MM) : X6_rest_L37 o0 b1 (n + 1) v2 μ =
    if b1 ≤ v2 then
    some μ
    else
    bO1 (X3_add (RF (RF o0 0) 1) (-1 : Int32) μ) (fun μ8 =>
    bV (v2 + (1 : Int32)) (fun x10 =>
    X6_rest_L37 o0 b1 n x10 μ8)) := rfl
def X6_rest (q : Nat) (a1 : Int32) (μ : MM) : Option (Nat × Int32 × MM) :=
if (X6_isWithin a1 (1 : Int32) (40 : Int32)) = 0 then
some (1, (0 : Int32), μ)
else
if (120 : Int32) < ((rI μ (RF (RF q 0) 1) 1) + a1) then
some (2, (0 : Int32), μ)
else
bO1 (X6_rest_L37 q a1 1000 (0 : Int32) μ) (fun μ11 =>
some (0, rI μ11 (RF (RF q 0) 1) 1, μ11))
def X6_addInterpreter (q : Nat) (a1 : Int32) (a2 : Int32) (μ : MM) : Option (Nat × Int32 × MM) :=
if (X6_isWithin a1 (0 : Int32) (255 : Int32)) = 0 then
some (1, (0 : Int32), μ)
else
if (X6_isWithin a2 (0 : Int32) (1048575 : Int32)) = 0 then
some (1, (0 : Int32), μ)
else
if (8 : Int32) ≤ (rI μ (RF q 0) 7) then
some (2, (0 : Int32), μ)
else
bO2 (X5_enrol (RF q 0) a1 a2 μ) (fun r10 μ11 =>
some (0, r10, μ11))
def X6_addBooth (q : Nat) (a1 : Int32) (a2 : Int32) (a3 : Int32) (μ : MM) : Option (Nat × Int32 × MM) :=
if (X6_isWithin a1 (0 : Int32) (7 : Int32)) = 0 then
some (1, (0 : Int32), μ)
else
if (X6_isWithin a2 (1 : Int32) (9 : Int32)) = 0 then
some (1, (0 : Int32), μ)
else
if (X6_isWithin a3 (1 : Int32) (12 : Int32)) = 0 then
some (1, (0 : Int32), μ)
else
if (6 : Int32) ≤ (rI μ (RF q 0) 6) then
some (2, (0 : Int32), μ)
else
bO2 (X5_build (RF q 0) a1 a2 a3 μ) (fun r16 μ17 =>
some (0, r16, μ17))
def X6_tune (q : Nat) (a1 : Int32) (a2 : Int32) (μ : MM) : Option (Nat × Int32 × MM) :=
if (X5_hasBooth (RF q 0) a1 μ) = 0 then
some (3, (0 : Int32), μ)
else
if a2 = (-1 : Int32) then
bO1 (X5_comesBy (RF q 0) a2 a1 μ) (fun r7 =>
if r7 = 0 then
if inb a1 (al (RF (RF q 0) 3)) then
bV (rI μ (RF (RF (RF q 0) 3) a1.toNatClampNeg) 6) (fun x13 =>
if inb a1 (al (RF (RF q 0) 3)) then
bV (wI μ (RF (RF (RF q 0) 3) a1.toNatClampNeg) 6 a2) (fun μ15 =>
some (0, x13, μ15))
else none)
else none
else
some (1, (0 : Int32), μ))
else
if (X5_hasBooth (RF q 0) a2 μ) = 0 then
some (3, (0 : Int32), μ)
else
bO1 (X5_comesBy (RF q 0) a2 a1 μ) (fun r21 =>
if r21 = 0 then
if inb a1 (al (RF (RF q 0) 3)) then
bV (rI μ (RF (RF (RF q 0) 3) a1.toNatClampNeg) 6) (fun x27 =>
if inb a1 (al (RF (RF q 0) 3)) then
bV (wI μ (RF (RF (RF q 0) 3) a1.toNatClampNeg) 6 a2) (fun μ29 =>
some (0, x27, μ29))
else none)
else none
else
some (1, (0 : Int32), μ))
def X6_sit (q : Nat) (a1 : Int32) (a2 : Int32) (μ : MM) : Option (Nat × Int32 × MM) :=
if (X5_hasBooth (RF q 0) a1 μ) = 0 then
some (3, (0 : Int32), μ)
else
if a2 = (-1 : Int32) then
bO2 (X5_seat (RF q 0) a1 a2 μ) (fun r7 μ8 =>
some (0, r7, μ8))
else
if (X5_hasInterpreter (RF q 0) a2 μ) = 0 then
some (3, (0 : Int32), μ)
else
bO2 (X5_seat (RF q 0) a1 a2 μ) (fun r15 μ16 =>
some (0, r15, μ16))
def X6_swap (q : Nat) (a1 : Int32) (a2 : Int32) (μ : MM) : Option (Nat × Int32 × MM) :=
if (X5_hasBooth (RF q 0) a1 μ) = 0 then
some (3, (0 : Int32), μ)
else
if (X5_hasBooth (RF q 0) a2 μ) = 0 then
some (3, (0 : Int32), μ)
else
if a1 = a2 then
some (1, (0 : Int32), μ)
else
bO2 (X5_seat (RF q 0) a1 (-1 : Int32) μ) (fun r13 μ14 =>
bO2 (X5_seat (RF q 0) a2 r13 μ14) (fun r16 μ17 =>
bO2 (X5_seat (RF q 0) a1 r16 μ17) (fun r19 μ20 =>
bO1 (X5_isAble (RF q 0) a1 μ20) (fun r22 =>
if r22 = 0 then
bO1 (X5_isAble (RF q 0) a2 μ20) (fun r25 =>
if r25 = 0 then
some (0, (0 : Int32) + (0 : Int32), μ20)
else
some (0, (0 : Int32) + (1 : Int32), μ20))
else
bO1 (X5_isAble (RF q 0) a2 μ20) (fun r28 =>
if r28 = 0 then
some (0, (1 : Int32) + (0 : Int32), μ20)
else
some (0, (1 : Int32) + (1 : Int32), μ20))))))
def X6_booth (q : Nat) (a1 : Int32) (a2 : Int32) (μ : MM) : Option (Nat × Int32 × MM) :=
if (X5_hasBooth (RF q 0) a1 μ) = 0 then
some (3, (0 : Int32), μ)
else
if (X6_isWithin a2 (0 : Int32) (11 : Int32)) = 0 then
some (3, (0 : Int32), μ)
else
bO2 (X5_tellBooth (RF q 0) a1 a2 μ) (fun r10 μ11 =>
some (0, r10, μ11))
def X6_interpreter (q : Nat) (a1 : Int32) (a2 : Int32) (μ : MM) : Option (Nat × Int32) :=
if (X5_hasInterpreter (RF q 0) a1 μ) = 0 then
some (3, (0 : Int32))
else
if (X6_isWithin a2 (0 : Int32) (6 : Int32)) = 0 then
some (3, (0 : Int32))
else
if inb a1 (al (RF (RF q 0) 4)) then
some (0, (X2_tell (RF (RF (RF q 0) 4) a1.toNatClampNeg) a2 μ))
else none
def X6_pass (q : Nat) (a1 : Int32) (μ : MM) : Option (Nat × Int32 × MM) :=
if (X6_isWithin a1 (1 : Int32) (100 : Int32)) = 0 then
some (1, (0 : Int32), μ)
else
if (400 : Int32) < ((rI μ (RF q 0) 8) + a1) then
some (2, (0 : Int32), μ)
else
bO2 (X5_goOn (RF q 0) a1 μ) (fun r7 μ8 =>
some (0, r7, μ8))
def X6_said (q : Nat) (a1 : Int32) (a2 : Int32) (a3 : Int32) (μ : MM) : Option (Nat × Int32) :=
if a1 = (-1 : Int32) then
bO1 (X5_speechOf (RF q 0) a1 μ) (fun r3 =>
if (X6_isWithin a2 (0 : Int32) ((rI μ r3 2) - (1 : Int32))) = 0 then
some (3, (0 : Int32))
else
if a3 = 0 then
bO1 (X4_wordAt r3 a2 μ) (fun r9 =>
some (0, r9))
else
bO1 (X4_tickAt r3 a2 μ) (fun r11 =>
some (0, r11)))
else
if (X5_hasBooth (RF q 0) a1 μ) = 0 then
some (3, (0 : Int32))
else
bO1 (X5_speechOf (RF q 0) a1 μ) (fun r18 =>
if (X6_isWithin a2 (0 : Int32) ((rI μ r18 2) - (1 : Int32))) = 0 then
some (3, (0 : Int32))
else
if a3 = 0 then
bO1 (X4_wordAt r18 a2 μ) (fun r24 =>
some (0, r24))
else
bO1 (X4_tickAt r18 a2 μ) (fun r26 =>
some (0, r26)))
def X6_count (q : Nat) (a1 : Int32) (μ : MM) : Option (Nat × Int32) :=
if (X6_isWithin a1 (0 : Int32) (9 : Int32)) = 0 then
some (3, (0 : Int32))
else
bO1 (X5_tellCount (RF q 0) a1 μ) (fun r4 =>
some (0, r4))
def X6_foresee (q : Nat) (a1 : Int32) (a2 : Int32) (a3 : Int32) (μ : MM) : Option (Nat × Int32 × MM) :=
if (X5_hasBooth (RF q 0) a1 μ) = 0 then
some (3, (0 : Int32), μ)
else
if (X6_isWithin a3 (0 : Int32) (2 : Int32)) = 0 then
some (3, (0 : Int32), μ)
else
if (X6_isWithin a2 (1 : Int32) (100 : Int32)) = 0 then
some (1, (0 : Int32), μ)
else
if (400 : Int32) < ((rI μ (RF q 0) 8) + a2) then
some (2, (0 : Int32), μ)
else
bO1 (X5_copyFrom (RF q 1) (RF q 0) μ) (fun μ16 =>
bO2 (X5_goOn (RF q 1) a2 μ16) (fun r18 μ19 =>
if a3 = 0 then
bO2 (X5_cameThroughAt (RF q 1) a1 μ19) (fun r22 μ23 =>
some (0, r22, μ23))
else if a3 = 1 then
if inb a1 (al (RF (RF q 1) 3)) then
some (0, rI μ19 (RF (RF (RF q 1) 3) a1.toNatClampNeg) 9, μ19)
else none
else 
if inb a1 (al (RF (RF q 1) 3)) then
some (0, rI μ19 (RF (RF (RF (RF q 1) 3) a1.toNatClampNeg) 2) 2, μ19)
else none))
def X6_advise_L52 (o0 : Nat) (b1 : Int32) (b2 : Int32) : Nat → Int32 → Int32 → Int32 → MM → Option (Int32 × MM)
  | 0, _, _, _, _ => none
  | n + 1, v3, v4, v5, μ =>
    if (rI μ (RF o0 0) 7) ≤ v5 then
    some (v3, μ)
    else
    if inb v5 (al (RF (RF o0 0) 4)) then
    bV (rI μ (RF (RF (RF o0 0) 4) v5.toNatClampNeg) 2) (fun x12 =>
    if x12 = (-1 : Int32) then
    bO2 (X6_tryOut o0 b1 v5 b2 μ) (fun r14 μ15 =>
    if r14 ≤ v4 then
    bV (v5 + (1 : Int32)) (fun x18 =>
    X6_advise_L52 o0 b1 b2 n v3 v4 x18 μ15)
    else
    bV (v5 + (1 : Int32)) (fun x19 =>
    X6_advise_L52 o0 b1 b2 n v5 r14 x19 μ15))
    else
    if x12 = b1 then
    bO2 (X6_tryOut o0 b1 v5 b2 μ) (fun r22 μ23 =>
    if r22 ≤ v4 then
    bV (v5 + (1 : Int32)) (fun x26 =>
    X6_advise_L52 o0 b1 b2 n v3 v4 x26 μ23)
    else
    bV (v5 + (1 : Int32)) (fun x27 =>
    X6_advise_L52 o0 b1 b2 n v5 r22 x27 μ23))
    else
    bV (v5 + (1 : Int32)) (fun x21 =>
    X6_advise_L52 o0 b1 b2 n v3 v4 x21 μ))
    else none
theorem X6_advise_L52_s (o0 : Nat) (b1 : Int32) (b2 : Int32) (n : Nat) (v3 : Int32) (v4 : Int32) (v5 : Int32) (μ : MM) : X6_advise_L52 o0 b1 b2 (n + 1) v3 v4 v5 μ =
    if (rI μ (RF o0 0) 7) ≤ v5 then
    some (v3, μ)
    else
    if inb v5 (al (RF (RF o0 0) 4)) then
    bV (rI μ (RF (RF (RF o0 0) 4) v5.toNatClampNeg) 2) (fun x12 =>
    if x12 = (-1 : Int32) then
    bO2 (X6_tryOut o0 b1 v5 b2 μ) (fun r14 μ15 =>
    if r14 ≤ v4 then
    bV (v5 + (1 : Int32)) (fun x18 =>
    X6_advise_L52 o0 b1 b2 n v3 v4 x18 μ15)
    else
    bV (v5 + (1 : Int32)) (fun x19 =>
    X6_advise_L52 o0 b1 b2 n v5 r14 x19 μ15))
    else
    if x12 = b1 then
    bO2 (X6_tryOut o0 b1 v5 b2 μ) (fun r22 μ23 =>
    if r22 ≤ v4 then
    bV (v5 + (1 : Int32)) (fun x26 =>
    X6_advise_L52 o0 b1 b2 n v3 v4 x26 μ23)
    else
    bV (v5 + (1 : Int32)) (fun x27 =>
    X6_advise_L52 o0 b1 b2 n v5 r22 x27 μ23))
    else
    bV (v5 + (1 : Int32)) (fun x21 =>
    X6_advise_L52 o0 b1 b2 n v3 v4 x21 μ))
    else none := rfl
def X6_advise (q : Nat) (a1 : Int32) (a2 : Int32) (μ : MM) : Option (Nat × Int32 × MM) :=
if (X5_hasBooth (RF q 0) a1 μ) = 0 then
some (3, (0 : Int32), μ)
else
if (X6_isWithin a2 (1 : Int32) (40 : Int32)) = 0 then
some (1, (0 : Int32), μ)
else
if (400 : Int32) < ((rI μ (RF q 0) 8) + a2) then
some (2, (0 : Int32), μ)
else
bO2 (X6_advise_L52 q a1 a2 1000 (-1 : Int32) (-1 : Int32) (0 : Int32) μ) (fun x28 μ29 =>
some (0, x28, μ29))
def L_setFloor (a1 : Nat) (a2 : Int32) (a3 : Nat) (μ : MM) : Option (Int32 × MM) :=
bO3 (X6_setFloor a1 a2 μ) (fun kd r1 μ1 =>
if kd = 0 then
if inb (0 : Int32) (al a3) then
bV (wL μ1 a3 (0 : Int32).toNatClampNeg r1.toInt64) (fun μ2 =>
some ((0 : Int32), μ2))
else none
else if kd = 1 then
some ((1 : Int32), μ1)
else none)
def L_speak (a1 : Nat) (a2 : Int32) (a3 : Int32) (a4 : Int32) (a5 : Nat) (μ : MM) : Option (Int32 × MM) :=
bO3 (X6_speak a1 a2 a3 a4 μ) (fun kd r1 μ1 =>
if kd = 0 then
if inb (0 : Int32) (al a5) then
bV (wL μ1 a5 (0 : Int32).toNatClampNeg r1.toInt64) (fun μ2 =>
some ((0 : Int32), μ2))
else none
else if kd = 1 then
some ((1 : Int32), μ1)
else if kd = 2 then
some ((2 : Int32), μ1)
else none)
def L_rest (a1 : Nat) (a2 : Int32) (a3 : Nat) (μ : MM) : Option (Int32 × MM) :=
bO3 (X6_rest a1 a2 μ) (fun kd r1 μ1 =>
if kd = 0 then
if inb (0 : Int32) (al a3) then
bV (wL μ1 a3 (0 : Int32).toNatClampNeg r1.toInt64) (fun μ2 =>
some ((0 : Int32), μ2))
else none
else if kd = 1 then
some ((1 : Int32), μ1)
else if kd = 2 then
some ((2 : Int32), μ1)
else none)
def L_addInterpreter (a1 : Nat) (a2 : Int32) (a3 : Int32) (a4 : Nat) (μ : MM) : Option (Int32 × MM) :=
bO3 (X6_addInterpreter a1 a2 a3 μ) (fun kd r1 μ1 =>
if kd = 0 then
if inb (0 : Int32) (al a4) then
bV (wL μ1 a4 (0 : Int32).toNatClampNeg r1.toInt64) (fun μ2 =>
some ((0 : Int32), μ2))
else none
else if kd = 1 then
some ((1 : Int32), μ1)
else if kd = 2 then
some ((2 : Int32), μ1)
else none)
def L_addBooth (a1 : Nat) (a2 : Int32) (a3 : Int32) (a4 : Int32) (a5 : Nat) (μ : MM) : Option (Int32 × MM) :=
bO3 (X6_addBooth a1 a2 a3 a4 μ) (fun kd r1 μ1 =>
if kd = 0 then
if inb (0 : Int32) (al a5) then
bV (wL μ1 a5 (0 : Int32).toNatClampNeg r1.toInt64) (fun μ2 =>
some ((0 : Int32), μ2))
else none
else if kd = 1 then
some ((1 : Int32), μ1)
else if kd = 2 then
some ((2 : Int32), μ1)
else none)
def L_tune (a1 : Nat) (a2 : Int32) (a3 : Int32) (a4 : Nat) (μ : MM) : Option (Int32 × MM) :=
bO3 (X6_tune a1 a2 a3 μ) (fun kd r1 μ1 =>
if kd = 0 then
if inb (0 : Int32) (al a4) then
bV (wL μ1 a4 (0 : Int32).toNatClampNeg r1.toInt64) (fun μ2 =>
some ((0 : Int32), μ2))
else none
else if kd = 3 then
some ((1 : Int32), μ1)
else if kd = 1 then
some ((2 : Int32), μ1)
else none)
def L_sit (a1 : Nat) (a2 : Int32) (a3 : Int32) (a4 : Nat) (μ : MM) : Option (Int32 × MM) :=
bO3 (X6_sit a1 a2 a3 μ) (fun kd r1 μ1 =>
if kd = 0 then
if inb (0 : Int32) (al a4) then
bV (wL μ1 a4 (0 : Int32).toNatClampNeg r1.toInt64) (fun μ2 =>
some ((0 : Int32), μ2))
else none
else if kd = 3 then
some ((1 : Int32), μ1)
else none)
def L_swap (a1 : Nat) (a2 : Int32) (a3 : Int32) (a4 : Nat) (μ : MM) : Option (Int32 × MM) :=
bO3 (X6_swap a1 a2 a3 μ) (fun kd r1 μ1 =>
if kd = 0 then
if inb (0 : Int32) (al a4) then
bV (wL μ1 a4 (0 : Int32).toNatClampNeg r1.toInt64) (fun μ2 =>
some ((0 : Int32), μ2))
else none
else if kd = 3 then
some ((1 : Int32), μ1)
else if kd = 1 then
some ((2 : Int32), μ1)
else none)
def L_booth (a1 : Nat) (a2 : Int32) (a3 : Int32) (a4 : Nat) (μ : MM) : Option (Int32 × MM) :=
bO3 (X6_booth a1 a2 a3 μ) (fun kd r1 μ1 =>
if kd = 0 then
if inb (0 : Int32) (al a4) then
bV (wL μ1 a4 (0 : Int32).toNatClampNeg r1.toInt64) (fun μ2 =>
some ((0 : Int32), μ2))
else none
else if kd = 3 then
some ((1 : Int32), μ1)
else none)
def L_interpreter (a1 : Nat) (a2 : Int32) (a3 : Int32) (a4 : Nat) (μ : MM) : Option (Int32 × MM) :=
bO2 (X6_interpreter a1 a2 a3 μ) (fun kd r1 =>
if kd = 0 then
if inb (0 : Int32) (al a4) then
bV (wL μ a4 (0 : Int32).toNatClampNeg r1.toInt64) (fun μ2 =>
some ((0 : Int32), μ2))
else none
else if kd = 3 then
some ((1 : Int32), μ)
else none)
def L_pass (a1 : Nat) (a2 : Int32) (a3 : Nat) (μ : MM) : Option (Int32 × MM) :=
bO3 (X6_pass a1 a2 μ) (fun kd r1 μ1 =>
if kd = 0 then
if inb (0 : Int32) (al a3) then
bV (wL μ1 a3 (0 : Int32).toNatClampNeg r1.toInt64) (fun μ2 =>
some ((0 : Int32), μ2))
else none
else if kd = 1 then
some ((1 : Int32), μ1)
else if kd = 2 then
some ((2 : Int32), μ1)
else none)
def L_said (a1 : Nat) (a2 : Int32) (a3 : Int32) (a4 : Int32) (a5 : Nat) (μ : MM) : Option (Int32 × MM) :=
bO2 (X6_said a1 a2 a3 a4 μ) (fun kd r1 =>
if kd = 0 then
if inb (0 : Int32) (al a5) then
bV (wL μ a5 (0 : Int32).toNatClampNeg r1.toInt64) (fun μ2 =>
some ((0 : Int32), μ2))
else none
else if kd = 3 then
some ((1 : Int32), μ)
else none)
def L_count (a1 : Nat) (a2 : Int32) (a3 : Nat) (μ : MM) : Option (Int32 × MM) :=
bO2 (X6_count a1 a2 μ) (fun kd r1 =>
if kd = 0 then
if inb (0 : Int32) (al a3) then
bV (wL μ a3 (0 : Int32).toNatClampNeg r1.toInt64) (fun μ2 =>
some ((0 : Int32), μ2))
else none
else if kd = 3 then
some ((1 : Int32), μ)
else none)
def L_foresee (a1 : Nat) (a2 : Int32) (a3 : Int32) (a4 : Int32) (a5 : Nat) (μ : MM) : Option (Int32 × MM) :=
bO3 (X6_foresee a1 a2 a3 a4 μ) (fun kd r1 μ1 =>
if kd = 0 then
if inb (0 : Int32) (al a5) then
bV (wL μ1 a5 (0 : Int32).toNatClampNeg r1.toInt64) (fun μ2 =>
some ((0 : Int32), μ2))
else none
else if kd = 3 then
some ((1 : Int32), μ1)
else if kd = 1 then
some ((2 : Int32), μ1)
else if kd = 2 then
some ((3 : Int32), μ1)
else none)
def L_advise (a1 : Nat) (a2 : Int32) (a3 : Int32) (a4 : Nat) (μ : MM) : Option (Int32 × MM) :=
bO3 (X6_advise a1 a2 a3 μ) (fun kd r1 μ1 =>
if kd = 0 then
if inb (0 : Int32) (al a4) then
bV (wL μ1 a4 (0 : Int32).toNatClampNeg r1.toInt64) (fun μ2 =>
some ((0 : Int32), μ2))
else none
else if kd = 3 then
some ((1 : Int32), μ1)
else if kd = 1 then
some ((2 : Int32), μ1)
else if kd = 2 then
some ((3 : Int32), μ1)
else none)
