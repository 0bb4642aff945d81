def L_law_L (xs : Nat → Int32) (L : Nat) : Nat → Int32 → MM → Option MM
  | 0, _, _ => none
  | n + 1, i, μ =>
    if ((Int32.ofNat L) - (4 : Int32)) < i then
    some μ
    else
    if inb i L then
    if ((xs i.toNatClampNeg) &&& (31 : Int32)) = 0 then
    if inb (i + (1 : Int32)) L then
    bO2 (L_setFloor 0 (xs (i + (1 : Int32)).toNatClampNeg) 177 μ) (fun r5 μ6 =>
    if inb (i + (1 : Int32)) L then
    bP (X8_setFloor 132 (xs (i + (1 : Int32)).toNatClampNeg) μ6) (fun r9 μ10 =>
    if (X8_thrown 132 μ10) = r5 then
    if r5 = 0 then
    if inb (0 : Int32) (al 177) then
    if (lg_cmp (rL μ10 177 (0 : Int32).toNatClampNeg) r9.toInt64) = 0 then
    bV (i + (4 : Int32)) (fun x19 =>
    L_law_L xs L n x19 μ10)
    else
    none
    else none
    else
    bV (i + (4 : Int32)) (fun x16 =>
    L_law_L xs L n x16 μ10)
    else
    none)
    else none)
    else none
    else if ((xs i.toNatClampNeg) &&& (31 : Int32)) = 1 then
    if inb (i + (1 : Int32)) L then
    if inb (i + (2 : Int32)) L then
    if inb (i + (3 : Int32)) L then
    bO2 (L_speak 0 (xs (i + (1 : Int32)).toNatClampNeg) (xs (i + (2 : Int32)).toNatClampNeg) (xs (i + (3 : Int32)).toNatClampNeg) 177 μ) (fun r24 μ25 =>
    if inb (i + (1 : Int32)) L then
    if inb (i + (2 : Int32)) L then
    if inb (i + (3 : Int32)) L then
    bO2 (X8_speak 132 (xs (i + (1 : Int32)).toNatClampNeg) (xs (i + (2 : Int32)).toNatClampNeg) (xs (i + (3 : Int32)).toNatClampNeg) μ25) (fun r30 μ31 =>
    if (X8_thrown 132 μ31) = r24 then
    if r24 = 0 then
    if inb (0 : Int32) (al 177) then
    if (lg_cmp (rL μ31 177 (0 : Int32).toNatClampNeg) r30.toInt64) = 0 then
    bV (i + (4 : Int32)) (fun x40 =>
    L_law_L xs L n x40 μ31)
    else
    none
    else none
    else
    bV (i + (4 : Int32)) (fun x37 =>
    L_law_L xs L n x37 μ31)
    else
    none)
    else none
    else none
    else none)
    else none
    else none
    else none
    else if ((xs i.toNatClampNeg) &&& (31 : Int32)) = 2 then
    if inb (i + (1 : Int32)) L then
    bO2 (L_rest 0 (xs (i + (1 : Int32)).toNatClampNeg) 177 μ) (fun r43 μ44 =>
    if inb (i + (1 : Int32)) L then
    bO2 (X8_rest 132 (xs (i + (1 : Int32)).toNatClampNeg) μ44) (fun r47 μ48 =>
    if (X8_thrown 132 μ48) = r43 then
    if r43 = 0 then
    if inb (0 : Int32) (al 177) then
    if (lg_cmp (rL μ48 177 (0 : Int32).toNatClampNeg) r47.toInt64) = 0 then
    bV (i + (4 : Int32)) (fun x57 =>
    L_law_L xs L n x57 μ48)
    else
    none
    else none
    else
    bV (i + (4 : Int32)) (fun x54 =>
    L_law_L xs L n x54 μ48)
    else
    none)
    else none)
    else none
    else if ((xs i.toNatClampNeg) &&& (31 : Int32)) = 3 then
    if inb (i + (1 : Int32)) L then
    if inb (i + (2 : Int32)) L then
    bO2 (L_addInterpreter 0 (xs (i + (1 : Int32)).toNatClampNeg) (xs (i + (2 : Int32)).toNatClampNeg) 177 μ) (fun r61 μ62 =>
    if inb (i + (1 : Int32)) L then
    if inb (i + (2 : Int32)) L then
    bO2 (X8_addInterpreter 132 (xs (i + (1 : Int32)).toNatClampNeg) (xs (i + (2 : Int32)).toNatClampNeg) μ62) (fun r66 μ67 =>
    if (X8_thrown 132 μ67) = r61 then
    if r61 = 0 then
    if inb (0 : Int32) (al 177) then
    if (lg_cmp (rL μ67 177 (0 : Int32).toNatClampNeg) r66.toInt64) = 0 then
    bV (i + (4 : Int32)) (fun x76 =>
    L_law_L xs L n x76 μ67)
    else
    none
    else none
    else
    bV (i + (4 : Int32)) (fun x73 =>
    L_law_L xs L n x73 μ67)
    else
    none)
    else none
    else none)
    else none
    else none
    else if ((xs i.toNatClampNeg) &&& (31 : Int32)) = 4 then
    if inb (i + (1 : Int32)) L then
    if inb (i + (2 : Int32)) L then
    if inb (i + (3 : Int32)) L then
    bO2 (L_addBooth 0 (xs (i + (1 : Int32)).toNatClampNeg) (xs (i + (2 : Int32)).toNatClampNeg) (xs (i + (3 : Int32)).toNatClampNeg) 177 μ) (fun r81 μ82 =>
    if inb (i + (1 : Int32)) L then
    if inb (i + (2 : Int32)) L then
    if inb (i + (3 : Int32)) L then
    bO2 (X8_addBooth 132 (xs (i + (1 : Int32)).toNatClampNeg) (xs (i + (2 : Int32)).toNatClampNeg) (xs (i + (3 : Int32)).toNatClampNeg) μ82) (fun r87 μ88 =>
    if (X8_thrown 132 μ88) = r81 then
    if r81 = 0 then
    if inb (0 : Int32) (al 177) then
    if (lg_cmp (rL μ88 177 (0 : Int32).toNatClampNeg) r87.toInt64) = 0 then
    bV (i + (4 : Int32)) (fun x97 =>
    L_law_L xs L n x97 μ88)
    else
    none
    else none
    else
    bV (i + (4 : Int32)) (fun x94 =>
    L_law_L xs L n x94 μ88)
    else
    none)
    else none
    else none
    else none)
    else none
    else none
    else none
    else if ((xs i.toNatClampNeg) &&& (31 : Int32)) = 5 then
    if inb (i + (1 : Int32)) L then
    if inb (i + (2 : Int32)) L then
    bO2 (L_tune 0 (xs (i + (1 : Int32)).toNatClampNeg) (xs (i + (2 : Int32)).toNatClampNeg) 177 μ) (fun r101 μ102 =>
    if inb (i + (1 : Int32)) L then
    if inb (i + (2 : Int32)) L then
    bO2 (X8_tune 132 (xs (i + (1 : Int32)).toNatClampNeg) (xs (i + (2 : Int32)).toNatClampNeg) μ102) (fun r106 μ107 =>
    if (X8_thrown 132 μ107) = r101 then
    if r101 = 0 then
    if inb (0 : Int32) (al 177) then
    if (lg_cmp (rL μ107 177 (0 : Int32).toNatClampNeg) r106.toInt64) = 0 then
    bV (i + (4 : Int32)) (fun x116 =>
    L_law_L xs L n x116 μ107)
    else
    none
    else none
    else
    bV (i + (4 : Int32)) (fun x113 =>
    L_law_L xs L n x113 μ107)
    else
    none)
    else none
    else none)
    else none
    else none
    else if ((xs i.toNatClampNeg) &&& (31 : Int32)) = 6 then
    if inb (i + (1 : Int32)) L then
    if inb (i + (2 : Int32)) L then
    bO2 (L_sit 0 (xs (i + (1 : Int32)).toNatClampNeg) (xs (i + (2 : Int32)).toNatClampNeg) 177 μ) (fun r120 μ121 =>
    if inb (i + (1 : Int32)) L then
    if inb (i + (2 : Int32)) L then
    bO2 (X8_sit 132 (xs (i + (1 : Int32)).toNatClampNeg) (xs (i + (2 : Int32)).toNatClampNeg) μ121) (fun r125 μ126 =>
    if (X8_thrown 132 μ126) = r120 then
    if r120 = 0 then
    if inb (0 : Int32) (al 177) then
    if (lg_cmp (rL μ126 177 (0 : Int32).toNatClampNeg) r125.toInt64) = 0 then
    bV (i + (4 : Int32)) (fun x135 =>
    L_law_L xs L n x135 μ126)
    else
    none
    else none
    else
    bV (i + (4 : Int32)) (fun x132 =>
    L_law_L xs L n x132 μ126)
    else
    none)
    else none
    else none)
    else none
    else none
    else if ((xs i.toNatClampNeg) &&& (31 : Int32)) = 7 then
    if inb (i + (1 : Int32)) L then
    if inb (i + (2 : Int32)) L then
    bO2 (L_swap 0 (xs (i + (1 : Int32)).toNatClampNeg) (xs (i + (2 : Int32)).toNatClampNeg) 177 μ) (fun r139 μ140 =>
    if inb (i + (1 : Int32)) L then
    if inb (i + (2 : Int32)) L then
    bO2 (X8_swap 132 (xs (i + (1 : Int32)).toNatClampNeg) (xs (i + (2 : Int32)).toNatClampNeg) μ140) (fun r144 μ145 =>
    if (X8_thrown 132 μ145) = r139 then
    if r139 = 0 then
    if inb (0 : Int32) (al 177) then
    if (lg_cmp (rL μ145 177 (0 : Int32).toNatClampNeg) r144.toInt64) = 0 then
    bV (i + (4 : Int32)) (fun x154 =>
    L_law_L xs L n x154 μ145)
    else
    none
    else none
    else
    bV (i + (4 : Int32)) (fun x151 =>
    L_law_L xs L n x151 μ145)
    else
    none)
    else none
    else none)
    else none
    else none
    else if ((xs i.toNatClampNeg) &&& (31 : Int32)) = 8 then
    if inb (i + (1 : Int32)) L then
    if inb (i + (2 : Int32)) L then
    bO2 (L_booth 0 (xs (i + (1 : Int32)).toNatClampNeg) (xs (i + (2 : Int32)).toNatClampNeg) 177 μ) (fun r158 μ159 =>
    if inb (i + (1 : Int32)) L then
    if inb (i + (2 : Int32)) L then
    bO2 (X8_booth 132 (xs (i + (1 : Int32)).toNatClampNeg) (xs (i + (2 : Int32)).toNatClampNeg) μ159) (fun r163 μ164 =>
    if (X8_thrown 132 μ164) = r158 then
    if r158 = 0 then
    if inb (0 : Int32) (al 177) then
    if (lg_cmp (rL μ164 177 (0 : Int32).toNatClampNeg) r163.toInt64) = 0 then
    bV (i + (4 : Int32)) (fun x173 =>
    L_law_L xs L n x173 μ164)
    else
    none
    else none
    else
    bV (i + (4 : Int32)) (fun x170 =>
    L_law_L xs L n x170 μ164)
    else
    none)
    else none
    else none)
    else none
    else none
    else if ((xs i.toNatClampNeg) &&& (31 : Int32)) = 9 then
    if inb (i + (1 : Int32)) L then
    if inb (i + (2 : Int32)) L then
    bO2 (L_interpreter 0 (xs (i + (1 : Int32)).toNatClampNeg) (xs (i + (2 : Int32)).toNatClampNeg) 177 μ) (fun r177 μ178 =>
    if inb (i + (1 : Int32)) L then
    if inb (i + (2 : Int32)) L then
    bO2 (X8_interpreter 132 (xs (i + (1 : Int32)).toNatClampNeg) (xs (i + (2 : Int32)).toNatClampNeg) μ178) (fun r182 μ183 =>
    if (X8_thrown 132 μ183) = r177 then
    if r177 = 0 then
    if inb (0 : Int32) (al 177) then
    if (lg_cmp (rL μ183 177 (0 : Int32).toNatClampNeg) r182.toInt64) = 0 then
    bV (i + (4 : Int32)) (fun x192 =>
    L_law_L xs L n x192 μ183)
    else
    none
    else none
    else
    bV (i + (4 : Int32)) (fun x189 =>
    L_law_L xs L n x189 μ183)
    else
    none)
    else none
    else none)
    else none
    else none
    else if ((xs i.toNatClampNeg) &&& (31 : Int32)) = 10 then
    if inb (i + (1 : Int32)) L then
    bO2 (L_pass 0 (xs (i + (1 : Int32)).toNatClampNeg) 177 μ) (fun r195 μ196 =>
    if inb (i + (1 : Int32)) L then
    bO2 (X8_pass_ 132 (xs (i + (1 : Int32)).toNatClampNeg) μ196) (fun r199 μ200 =>
    if (X8_thrown 132 μ200) = r195 then
    if r195 = 0 then
    if inb (0 : Int32) (al 177) then
    if (lg_cmp (rL μ200 177 (0 : Int32).toNatClampNeg) r199.toInt64) = 0 then
    bV (i + (4 : Int32)) (fun x209 =>
    L_law_L xs L n x209 μ200)
    else
    none
    else none
    else
    bV (i + (4 : Int32)) (fun x206 =>
    L_law_L xs L n x206 μ200)
    else
    none)
    else none)
    else none
    else if ((xs i.toNatClampNeg) &&& (31 : Int32)) = 11 then
    if inb (i + (1 : Int32)) L then
    if inb (i + (2 : Int32)) L then
    if inb (i + (3 : Int32)) L then
    if (xs (i + (3 : Int32)).toNatClampNeg) = 0 then
    bO2 (L_said 0 (xs (i + (1 : Int32)).toNatClampNeg) (xs (i + (2 : Int32)).toNatClampNeg) (0 : Int32) 177 μ) (fun r215 μ216 =>
    if inb (i + (1 : Int32)) L then
    if inb (i + (2 : Int32)) L then
    if inb (i + (3 : Int32)) L then
    if (xs (i + (3 : Int32)).toNatClampNeg) = 0 then
    bO2 (X8_said 132 (xs (i + (1 : Int32)).toNatClampNeg) (xs (i + (2 : Int32)).toNatClampNeg) (0 : Int32) μ216) (fun r222 μ223 =>
    if (X8_thrown 132 μ223) = r215 then
    if r215 = 0 then
    if inb (0 : Int32) (al 177) then
    if (lg_cmp (rL μ223 177 (0 : Int32).toNatClampNeg) r222.toInt64) = 0 then
    bV (i + (4 : Int32)) (fun x232 =>
    L_law_L xs L n x232 μ223)
    else
    none
    else none
    else
    bV (i + (4 : Int32)) (fun x229 =>
    L_law_L xs L n x229 μ223)
    else
    none)
    else
    bO2 (X8_said 132 (xs (i + (1 : Int32)).toNatClampNeg) (xs (i + (2 : Int32)).toNatClampNeg) (1 : Int32) μ216) (fun r233 μ234 =>
    if (X8_thrown 132 μ234) = r215 then
    if r215 = 0 then
    if inb (0 : Int32) (al 177) then
    if (lg_cmp (rL μ234 177 (0 : Int32).toNatClampNeg) r233.toInt64) = 0 then
    bV (i + (4 : Int32)) (fun x243 =>
    L_law_L xs L n x243 μ234)
    else
    none
    else none
    else
    bV (i + (4 : Int32)) (fun x240 =>
    L_law_L xs L n x240 μ234)
    else
    none)
    else none
    else none
    else none)
    else
    bO2 (L_said 0 (xs (i + (1 : Int32)).toNatClampNeg) (xs (i + (2 : Int32)).toNatClampNeg) (1 : Int32) 177 μ) (fun r244 μ245 =>
    if inb (i + (1 : Int32)) L then
    if inb (i + (2 : Int32)) L then
    if inb (i + (3 : Int32)) L then
    if (xs (i + (3 : Int32)).toNatClampNeg) = 0 then
    bO2 (X8_said 132 (xs (i + (1 : Int32)).toNatClampNeg) (xs (i + (2 : Int32)).toNatClampNeg) (0 : Int32) μ245) (fun r251 μ252 =>
    if (X8_thrown 132 μ252) = r244 then
    if r244 = 0 then
    if inb (0 : Int32) (al 177) then
    if (lg_cmp (rL μ252 177 (0 : Int32).toNatClampNeg) r251.toInt64) = 0 then
    bV (i + (4 : Int32)) (fun x261 =>
    L_law_L xs L n x261 μ252)
    else
    none
    else none
    else
    bV (i + (4 : Int32)) (fun x258 =>
    L_law_L xs L n x258 μ252)
    else
    none)
    else
    bO2 (X8_said 132 (xs (i + (1 : Int32)).toNatClampNeg) (xs (i + (2 : Int32)).toNatClampNeg) (1 : Int32) μ245) (fun r262 μ263 =>
    if (X8_thrown 132 μ263) = r244 then
    if r244 = 0 then
    if inb (0 : Int32) (al 177) then
    if (lg_cmp (rL μ263 177 (0 : Int32).toNatClampNeg) r262.toInt64) = 0 then
    bV (i + (4 : Int32)) (fun x272 =>
    L_law_L xs L n x272 μ263)
    else
    none
    else none
    else
    bV (i + (4 : Int32)) (fun x269 =>
    L_law_L xs L n x269 μ263)
    else
    none)
    else none
    else none
    else none)
    else none
    else none
    else none
    else if ((xs i.toNatClampNeg) &&& (31 : Int32)) = 12 then
    if inb (i + (1 : Int32)) L then
    bO2 (L_count 0 (xs (i + (1 : Int32)).toNatClampNeg) 177 μ) (fun r275 μ276 =>
    if inb (i + (1 : Int32)) L then
    bO2 (X8_count 132 (xs (i + (1 : Int32)).toNatClampNeg) μ276) (fun r279 μ280 =>
    if (X8_thrown 132 μ280) = r275 then
    if r275 = 0 then
    if inb (0 : Int32) (al 177) then
    if (lg_cmp (rL μ280 177 (0 : Int32).toNatClampNeg) r279.toInt64) = 0 then
    bV (i + (4 : Int32)) (fun x289 =>
    L_law_L xs L n x289 μ280)
    else
    none
    else none
    else
    bV (i + (4 : Int32)) (fun x286 =>
    L_law_L xs L n x286 μ280)
    else
    none)
    else none)
    else none
    else if ((xs i.toNatClampNeg) &&& (31 : Int32)) = 13 then
    if inb (i + (1 : Int32)) L then
    if inb (i + (2 : Int32)) L then
    if inb (i + (3 : Int32)) L then
    bO2 (L_foresee 0 (xs (i + (1 : Int32)).toNatClampNeg) (xs (i + (2 : Int32)).toNatClampNeg) (xs (i + (3 : Int32)).toNatClampNeg) 177 μ) (fun r294 μ295 =>
    if inb (i + (1 : Int32)) L then
    if inb (i + (2 : Int32)) L then
    if inb (i + (3 : Int32)) L then
    bO2 (X8_foresee 132 (xs (i + (1 : Int32)).toNatClampNeg) (xs (i + (2 : Int32)).toNatClampNeg) (xs (i + (3 : Int32)).toNatClampNeg) μ295) (fun r300 μ301 =>
    if (X8_thrown 132 μ301) = r294 then
    if r294 = 0 then
    if inb (0 : Int32) (al 177) then
    if (lg_cmp (rL μ301 177 (0 : Int32).toNatClampNeg) r300.toInt64) = 0 then
    bV (i + (4 : Int32)) (fun x310 =>
    L_law_L xs L n x310 μ301)
    else
    none
    else none
    else
    bV (i + (4 : Int32)) (fun x307 =>
    L_law_L xs L n x307 μ301)
    else
    none)
    else none
    else none
    else none)
    else none
    else none
    else none
    else if ((xs i.toNatClampNeg) &&& (31 : Int32)) = 14 then
    if inb (i + (1 : Int32)) L then
    if inb (i + (2 : Int32)) L then
    bO2 (L_advise 0 (xs (i + (1 : Int32)).toNatClampNeg) (xs (i + (2 : Int32)).toNatClampNeg) 177 μ) (fun r314 μ315 =>
    if inb (i + (1 : Int32)) L then
    if inb (i + (2 : Int32)) L then
    bO2 (X8_advise 132 (xs (i + (1 : Int32)).toNatClampNeg) (xs (i + (2 : Int32)).toNatClampNeg) μ315) (fun r319 μ320 =>
    if (X8_thrown 132 μ320) = r314 then
    if r314 = 0 then
    if inb (0 : Int32) (al 177) then
    if (lg_cmp (rL μ320 177 (0 : Int32).toNatClampNeg) r319.toInt64) = 0 then
    bV (i + (4 : Int32)) (fun x329 =>
    L_law_L xs L n x329 μ320)
    else
    none
    else none
    else
    bV (i + (4 : Int32)) (fun x326 =>
    L_law_L xs L n x326 μ320)
    else
    none)
    else none
    else none)
    else none
    else none
    else if ((xs i.toNatClampNeg) &&& (31 : Int32)) = 15 then
    bO2 (X6_through 0 μ) (fun r331 μ332 =>
    bO2 (X8_through 132 μ332) (fun r337 μ338 =>
    if r331 = r337 then
    bV (i + (4 : Int32)) (fun x343 =>
    L_law_L xs L n x343 μ338)
    else none))
    else if ((xs i.toNatClampNeg) &&& (31 : Int32)) = 16 then
    bO2 (X6_digest 0 μ) (fun r345 μ346 =>
    bO2 (X8_digest 132 μ346) (fun r348 μ349 =>
    if (lg_cmp r345 r348) = 0 then
    bV (i + (4 : Int32)) (fun x352 =>
    L_law_L xs L n x352 μ349)
    else
    none))
    else 
    bV (i + (4 : Int32)) (fun x353 =>
    L_law_L xs L n x353 μ)
    else none
theorem L_law_L_s (xs : Nat → Int32) (L n : Nat) (i : Int32) (μ : MM) : L_law_L xs L (n + 1) i μ =
    if ((Int32.ofNat L) - (4 : Int32)) < i then
    some μ
    else
    if inb i L then
    if ((xs i.toNatClampNeg) &&& (31 : Int32)) = 0 then
    if inb (i + (1 : Int32)) L then
    bO2 (L_setFloor 0 (xs (i + (1 : Int32)).toNatClampNeg) 177 μ) (fun r5 μ6 =>
    if inb (i + (1 : Int32)) L then
    bP (X8_setFloor 132 (xs (i + (1 : Int32)).toNatClampNeg) μ6) (fun r9 μ10 =>
    if (X8_thrown 132 μ10) = r5 then
    if r5 = 0 then
    if inb (0 : Int32) (al 177) then
    if (lg_cmp (rL μ10 177 (0 : Int32).toNatClampNeg) r9.toInt64) = 0 then
    bV (i + (4 : Int32)) (fun x19 =>
    L_law_L xs L n x19 μ10)
    else
    none
    else none
    else
    bV (i + (4 : Int32)) (fun x16 =>
    L_law_L xs L n x16 μ10)
    else
    none)
    else none)
    else none
    else if ((xs i.toNatClampNeg) &&& (31 : Int32)) = 1 then
    if inb (i + (1 : Int32)) L then
    if inb (i + (2 : Int32)) L then
    if inb (i + (3 : Int32)) L then
    bO2 (L_speak 0 (xs (i + (1 : Int32)).toNatClampNeg) (xs (i + (2 : Int32)).toNatClampNeg) (xs (i + (3 : Int32)).toNatClampNeg) 177 μ) (fun r24 μ25 =>
    if inb (i + (1 : Int32)) L then
    if inb (i + (2 : Int32)) L then
    if inb (i + (3 : Int32)) L then
    bO2 (X8_speak 132 (xs (i + (1 : Int32)).toNatClampNeg) (xs (i + (2 : Int32)).toNatClampNeg) (xs (i + (3 : Int32)).toNatClampNeg) μ25) (fun r30 μ31 =>
    if (X8_thrown 132 μ31) = r24 then
    if r24 = 0 then
    if inb (0 : Int32) (al 177) then
    if (lg_cmp (rL μ31 177 (0 : Int32).toNatClampNeg) r30.toInt64) = 0 then
    bV (i + (4 : Int32)) (fun x40 =>
    L_law_L xs L n x40 μ31)
    else
    none
    else none
    else
    bV (i + (4 : Int32)) (fun x37 =>
    L_law_L xs L n x37 μ31)
    else
    none)
    else none
    else none
    else none)
    else none
    else none
    else none
    else if ((xs i.toNatClampNeg) &&& (31 : Int32)) = 2 then
    if inb (i + (1 : Int32)) L then
    bO2 (L_rest 0 (xs (i + (1 : Int32)).toNatClampNeg) 177 μ) (fun r43 μ44 =>
    if inb (i + (1 : Int32)) L then
    bO2 (X8_rest 132 (xs (i + (1 : Int32)).toNatClampNeg) μ44) (fun r47 μ48 =>
    if (X8_thrown 132 μ48) = r43 then
    if r43 = 0 then
    if inb (0 : Int32) (al 177) then
    if (lg_cmp (rL μ48 177 (0 : Int32).toNatClampNeg) r47.toInt64) = 0 then
    bV (i + (4 : Int32)) (fun x57 =>
    L_law_L xs L n x57 μ48)
    else
    none
    else none
    else
    bV (i + (4 : Int32)) (fun x54 =>
    L_law_L xs L n x54 μ48)
    else
    none)
    else none)
    else none
    else if ((xs i.toNatClampNeg) &&& (31 : Int32)) = 3 then
    if inb (i + (1 : Int32)) L then
    if inb (i + (2 : Int32)) L then
    bO2 (L_addInterpreter 0 (xs (i + (1 : Int32)).toNatClampNeg) (xs (i + (2 : Int32)).toNatClampNeg) 177 μ) (fun r61 μ62 =>
    if inb (i + (1 : Int32)) L then
    if inb (i + (2 : Int32)) L then
    bO2 (X8_addInterpreter 132 (xs (i + (1 : Int32)).toNatClampNeg) (xs (i + (2 : Int32)).toNatClampNeg) μ62) (fun r66 μ67 =>
    if (X8_thrown 132 μ67) = r61 then
    if r61 = 0 then
    if inb (0 : Int32) (al 177) then
    if (lg_cmp (rL μ67 177 (0 : Int32).toNatClampNeg) r66.toInt64) = 0 then
    bV (i + (4 : Int32)) (fun x76 =>
    L_law_L xs L n x76 μ67)
    else
    none
    else none
    else
    bV (i + (4 : Int32)) (fun x73 =>
    L_law_L xs L n x73 μ67)
    else
    none)
    else none
    else none)
    else none
    else none
    else if ((xs i.toNatClampNeg) &&& (31 : Int32)) = 4 then
    if inb (i + (1 : Int32)) L then
    if inb (i + (2 : Int32)) L then
    if inb (i + (3 : Int32)) L then
    bO2 (L_addBooth 0 (xs (i + (1 : Int32)).toNatClampNeg) (xs (i + (2 : Int32)).toNatClampNeg) (xs (i + (3 : Int32)).toNatClampNeg) 177 μ) (fun r81 μ82 =>
    if inb (i + (1 : Int32)) L then
    if inb (i + (2 : Int32)) L then
    if inb (i + (3 : Int32)) L then
    bO2 (X8_addBooth 132 (xs (i + (1 : Int32)).toNatClampNeg) (xs (i + (2 : Int32)).toNatClampNeg) (xs (i + (3 : Int32)).toNatClampNeg) μ82) (fun r87 μ88 =>
    if (X8_thrown 132 μ88) = r81 then
    if r81 = 0 then
    if inb (0 : Int32) (al 177) then
    if (lg_cmp (rL μ88 177 (0 : Int32).toNatClampNeg) r87.toInt64) = 0 then
    bV (i + (4 : Int32)) (fun x97 =>
    L_law_L xs L n x97 μ88)
    else
    none
    else none
    else
    bV (i + (4 : Int32)) (fun x94 =>
    L_law_L xs L n x94 μ88)
    else
    none)
    else none
    else none
    else none)
    else none
    else none
    else none
    else if ((xs i.toNatClampNeg) &&& (31 : Int32)) = 5 then
    if inb (i + (1 : Int32)) L then
    if inb (i + (2 : Int32)) L then
    bO2 (L_tune 0 (xs (i + (1 : Int32)).toNatClampNeg) (xs (i + (2 : Int32)).toNatClampNeg) 177 μ) (fun r101 μ102 =>
    if inb (i + (1 : Int32)) L then
    if inb (i + (2 : Int32)) L then
    bO2 (X8_tune 132 (xs (i + (1 : Int32)).toNatClampNeg) (xs (i + (2 : Int32)).toNatClampNeg) μ102) (fun r106 μ107 =>
    if (X8_thrown 132 μ107) = r101 then
    if r101 = 0 then
    if inb (0 : Int32) (al 177) then
    if (lg_cmp (rL μ107 177 (0 : Int32).toNatClampNeg) r106.toInt64) = 0 then
    bV (i + (4 : Int32)) (fun x116 =>
    L_law_L xs L n x116 μ107)
    else
    none
    else none
    else
    bV (i + (4 : Int32)) (fun x113 =>
    L_law_L xs L n x113 μ107)
    else
    none)
    else none
    else none)
    else none
    else none
    else if ((xs i.toNatClampNeg) &&& (31 : Int32)) = 6 then
    if inb (i + (1 : Int32)) L then
    if inb (i + (2 : Int32)) L then
    bO2 (L_sit 0 (xs (i + (1 : Int32)).toNatClampNeg) (xs (i + (2 : Int32)).toNatClampNeg) 177 μ) (fun r120 μ121 =>
    if inb (i + (1 : Int32)) L then
    if inb (i + (2 : Int32)) L then
    bO2 (X8_sit 132 (xs (i + (1 : Int32)).toNatClampNeg) (xs (i + (2 : Int32)).toNatClampNeg) μ121) (fun r125 μ126 =>
    if (X8_thrown 132 μ126) = r120 then
    if r120 = 0 then
    if inb (0 : Int32) (al 177) then
    if (lg_cmp (rL μ126 177 (0 : Int32).toNatClampNeg) r125.toInt64) = 0 then
    bV (i + (4 : Int32)) (fun x135 =>
    L_law_L xs L n x135 μ126)
    else
    none
    else none
    else
    bV (i + (4 : Int32)) (fun x132 =>
    L_law_L xs L n x132 μ126)
    else
    none)
    else none
    else none)
    else none
    else none
    else if ((xs i.toNatClampNeg) &&& (31 : Int32)) = 7 then
    if inb (i + (1 : Int32)) L then
    if inb (i + (2 : Int32)) L then
    bO2 (L_swap 0 (xs (i + (1 : Int32)).toNatClampNeg) (xs (i + (2 : Int32)).toNatClampNeg) 177 μ) (fun r139 μ140 =>
    if inb (i + (1 : Int32)) L then
    if inb (i + (2 : Int32)) L then
    bO2 (X8_swap 132 (xs (i + (1 : Int32)).toNatClampNeg) (xs (i + (2 : Int32)).toNatClampNeg) μ140) (fun r144 μ145 =>
    if (X8_thrown 132 μ145) = r139 then
    if r139 = 0 then
    if inb (0 : Int32) (al 177) then
    if (lg_cmp (rL μ145 177 (0 : Int32).toNatClampNeg) r144.toInt64) = 0 then
    bV (i + (4 : Int32)) (fun x154 =>
    L_law_L xs L n x154 μ145)
    else
    none
    else none
    else
    bV (i + (4 : Int32)) (fun x151 =>
    L_law_L xs L n x151 μ145)
    else
    none)
    else none
    else none)
    else none
    else none
    else if ((xs i.toNatClampNeg) &&& (31 : Int32)) = 8 then
    if inb (i + (1 : Int32)) L then
    if inb (i + (2 : Int32)) L then
    bO2 (L_booth 0 (xs (i + (1 : Int32)).toNatClampNeg) (xs (i + (2 : Int32)).toNatClampNeg) 177 μ) (fun r158 μ159 =>
    if inb (i + (1 : Int32)) L then
    if inb (i + (2 : Int32)) L then
    bO2 (X8_booth 132 (xs (i + (1 : Int32)).toNatClampNeg) (xs (i + (2 : Int32)).toNatClampNeg) μ159) (fun r163 μ164 =>
    if (X8_thrown 132 μ164) = r158 then
    if r158 = 0 then
    if inb (0 : Int32) (al 177) then
    if (lg_cmp (rL μ164 177 (0 : Int32).toNatClampNeg) r163.toInt64) = 0 then
    bV (i + (4 : Int32)) (fun x173 =>
    L_law_L xs L n x173 μ164)
    else
    none
    else none
    else
    bV (i + (4 : Int32)) (fun x170 =>
    L_law_L xs L n x170 μ164)
    else
    none)
    else none
    else none)
    else none
    else none
    else if ((xs i.toNatClampNeg) &&& (31 : Int32)) = 9 then
    if inb (i + (1 : Int32)) L then
    if inb (i + (2 : Int32)) L then
    bO2 (L_interpreter 0 (xs (i + (1 : Int32)).toNatClampNeg) (xs (i + (2 : Int32)).toNatClampNeg) 177 μ) (fun r177 μ178 =>
    if inb (i + (1 : Int32)) L then
    if inb (i + (2 : Int32)) L then
    bO2 (X8_interpreter 132 (xs (i + (1 : Int32)).toNatClampNeg) (xs (i + (2 : Int32)).toNatClampNeg) μ178) (fun r182 μ183 =>
    if (X8_thrown 132 μ183) = r177 then
    if r177 = 0 then
    if inb (0 : Int32) (al 177) then
    if (lg_cmp (rL μ183 177 (0 : Int32).toNatClampNeg) r182.toInt64) = 0 then
    bV (i + (4 : Int32)) (fun x192 =>
    L_law_L xs L n x192 μ183)
    else
    none
    else none
    else
    bV (i + (4 : Int32)) (fun x189 =>
    L_law_L xs L n x189 μ183)
    else
    none)
    else none
    else none)
    else none
    else none
    else if ((xs i.toNatClampNeg) &&& (31 : Int32)) = 10 then
    if inb (i + (1 : Int32)) L then
    bO2 (L_pass 0 (xs (i + (1 : Int32)).toNatClampNeg) 177 μ) (fun r195 μ196 =>
    if inb (i + (1 : Int32)) L then
    bO2 (X8_pass_ 132 (xs (i + (1 : Int32)).toNatClampNeg) μ196) (fun r199 μ200 =>
    if (X8_thrown 132 μ200) = r195 then
    if r195 = 0 then
    if inb (0 : Int32) (al 177) then
    if (lg_cmp (rL μ200 177 (0 : Int32).toNatClampNeg) r199.toInt64) = 0 then
    bV (i + (4 : Int32)) (fun x209 =>
    L_law_L xs L n x209 μ200)
    else
    none
    else none
    else
    bV (i + (4 : Int32)) (fun x206 =>
    L_law_L xs L n x206 μ200)
    else
    none)
    else none)
    else none
    else if ((xs i.toNatClampNeg) &&& (31 : Int32)) = 11 then
    if inb (i + (1 : Int32)) L then
    if inb (i + (2 : Int32)) L then
    if inb (i + (3 : Int32)) L then
    if (xs (i + (3 : Int32)).toNatClampNeg) = 0 then
    bO2 (L_said 0 (xs (i + (1 : Int32)).toNatClampNeg) (xs (i + (2 : Int32)).toNatClampNeg) (0 : Int32) 177 μ) (fun r215 μ216 =>
    if inb (i + (1 : Int32)) L then
    if inb (i + (2 : Int32)) L then
    if inb (i + (3 : Int32)) L then
    if (xs (i + (3 : Int32)).toNatClampNeg) = 0 then
    bO2 (X8_said 132 (xs (i + (1 : Int32)).toNatClampNeg) (xs (i + (2 : Int32)).toNatClampNeg) (0 : Int32) μ216) (fun r222 μ223 =>
    if (X8_thrown 132 μ223) = r215 then
    if r215 = 0 then
    if inb (0 : Int32) (al 177) then
    if (lg_cmp (rL μ223 177 (0 : Int32).toNatClampNeg) r222.toInt64) = 0 then
    bV (i + (4 : Int32)) (fun x232 =>
    L_law_L xs L n x232 μ223)
    else
    none
    else none
    else
    bV (i + (4 : Int32)) (fun x229 =>
    L_law_L xs L n x229 μ223)
    else
    none)
    else
    bO2 (X8_said 132 (xs (i + (1 : Int32)).toNatClampNeg) (xs (i + (2 : Int32)).toNatClampNeg) (1 : Int32) μ216) (fun r233 μ234 =>
    if (X8_thrown 132 μ234) = r215 then
    if r215 = 0 then
    if inb (0 : Int32) (al 177) then
    if (lg_cmp (rL μ234 177 (0 : Int32).toNatClampNeg) r233.toInt64) = 0 then
    bV (i + (4 : Int32)) (fun x243 =>
    L_law_L xs L n x243 μ234)
    else
    none
    else none
    else
    bV (i + (4 : Int32)) (fun x240 =>
    L_law_L xs L n x240 μ234)
    else
    none)
    else none
    else none
    else none)
    else
    bO2 (L_said 0 (xs (i + (1 : Int32)).toNatClampNeg) (xs (i + (2 : Int32)).toNatClampNeg) (1 : Int32) 177 μ) (fun r244 μ245 =>
    if inb (i + (1 : Int32)) L then
    if inb (i + (2 : Int32)) L then
    if inb (i + (3 : Int32)) L then
    if (xs (i + (3 : Int32)).toNatClampNeg) = 0 then
    bO2 (X8_said 132 (xs (i + (1 : Int32)).toNatClampNeg) (xs (i + (2 : Int32)).toNatClampNeg) (0 : Int32) μ245) (fun r251 μ252 =>
    if (X8_thrown 132 μ252) = r244 then
    if r244 = 0 then
    if inb (0 : Int32) (al 177) then
    if (lg_cmp (rL μ252 177 (0 : Int32).toNatClampNeg) r251.toInt64) = 0 then
    bV (i + (4 : Int32)) (fun x261 =>
    L_law_L xs L n x261 μ252)
    else
    none
    else none
    else
    bV (i + (4 : Int32)) (fun x258 =>
    L_law_L xs L n x258 μ252)
    else
    none)
    else
    bO2 (X8_said 132 (xs (i + (1 : Int32)).toNatClampNeg) (xs (i + (2 : Int32)).toNatClampNeg) (1 : Int32) μ245) (fun r262 μ263 =>
    if (X8_thrown 132 μ263) = r244 then
    if r244 = 0 then
    if inb (0 : Int32) (al 177) then
    if (lg_cmp (rL μ263 177 (0 : Int32).toNatClampNeg) r262.toInt64) = 0 then
    bV (i + (4 : Int32)) (fun x272 =>
    L_law_L xs L n x272 μ263)
    else
    none
    else none
    else
    bV (i + (4 : Int32)) (fun x269 =>
    L_law_L xs L n x269 μ263)
    else
    none)
    else none
    else none
    else none)
    else none
    else none
    else none
    else if ((xs i.toNatClampNeg) &&& (31 : Int32)) = 12 then
    if inb (i + (1 : Int32)) L then
    bO2 (L_count 0 (xs (i + (1 : Int32)).toNatClampNeg) 177 μ) (fun r275 μ276 =>
    if inb (i + (1 : Int32)) L then
    bO2 (X8_count 132 (xs (i + (1 : Int32)).toNatClampNeg) μ276) (fun r279 μ280 =>
    if (X8_thrown 132 μ280) = r275 then
    if r275 = 0 then
    if inb (0 : Int32) (al 177) then
    if (lg_cmp (rL μ280 177 (0 : Int32).toNatClampNeg) r279.toInt64) = 0 then
    bV (i + (4 : Int32)) (fun x289 =>
    L_law_L xs L n x289 μ280)
    else
    none
    else none
    else
    bV (i + (4 : Int32)) (fun x286 =>
    L_law_L xs L n x286 μ280)
    else
    none)
    else none)
    else none
    else if ((xs i.toNatClampNeg) &&& (31 : Int32)) = 13 then
    if inb (i + (1 : Int32)) L then
    if inb (i + (2 : Int32)) L then
    if inb (i + (3 : Int32)) L then
    bO2 (L_foresee 0 (xs (i + (1 : Int32)).toNatClampNeg) (xs (i + (2 : Int32)).toNatClampNeg) (xs (i + (3 : Int32)).toNatClampNeg) 177 μ) (fun r294 μ295 =>
    if inb (i + (1 : Int32)) L then
    if inb (i + (2 : Int32)) L then
    if inb (i + (3 : Int32)) L then
    bO2 (X8_foresee 132 (xs (i + (1 : Int32)).toNatClampNeg) (xs (i + (2 : Int32)).toNatClampNeg) (xs (i + (3 : Int32)).toNatClampNeg) μ295) (fun r300 μ301 =>
    if (X8_thrown 132 μ301) = r294 then
    if r294 = 0 then
    if inb (0 : Int32) (al 177) then
    if (lg_cmp (rL μ301 177 (0 : Int32).toNatClampNeg) r300.toInt64) = 0 then
    bV (i + (4 : Int32)) (fun x310 =>
    L_law_L xs L n x310 μ301)
    else
    none
    else none
    else
    bV (i + (4 : Int32)) (fun x307 =>
    L_law_L xs L n x307 μ301)
    else
    none)
    else none
    else none
    else none)
    else none
    else none
    else none
    else if ((xs i.toNatClampNeg) &&& (31 : Int32)) = 14 then
    if inb (i + (1 : Int32)) L then
    if inb (i + (2 : Int32)) L then
    bO2 (L_advise 0 (xs (i + (1 : Int32)).toNatClampNeg) (xs (i + (2 : Int32)).toNatClampNeg) 177 μ) (fun r314 μ315 =>
    if inb (i + (1 : Int32)) L then
    if inb (i + (2 : Int32)) L then
    bO2 (X8_advise 132 (xs (i + (1 : Int32)).toNatClampNeg) (xs (i + (2 : Int32)).toNatClampNeg) μ315) (fun r319 μ320 =>
    if (X8_thrown 132 μ320) = r314 then
    if r314 = 0 then
    if inb (0 : Int32) (al 177) then
    if (lg_cmp (rL μ320 177 (0 : Int32).toNatClampNeg) r319.toInt64) = 0 then
    bV (i + (4 : Int32)) (fun x329 =>
    L_law_L xs L n x329 μ320)
    else
    none
    else none
    else
    bV (i + (4 : Int32)) (fun x326 =>
    L_law_L xs L n x326 μ320)
    else
    none)
    else none
    else none)
    else none
    else none
    else if ((xs i.toNatClampNeg) &&& (31 : Int32)) = 15 then
    bO2 (X6_through 0 μ) (fun r331 μ332 =>
    bO2 (X8_through 132 μ332) (fun r337 μ338 =>
    if r331 = r337 then
    bV (i + (4 : Int32)) (fun x343 =>
    L_law_L xs L n x343 μ338)
    else none))
    else if ((xs i.toNatClampNeg) &&& (31 : Int32)) = 16 then
    bO2 (X6_digest 0 μ) (fun r345 μ346 =>
    bO2 (X8_digest 132 μ346) (fun r348 μ349 =>
    if (lg_cmp r345 r348) = 0 then
    bV (i + (4 : Int32)) (fun x352 =>
    L_law_L xs L n x352 μ349)
    else
    none))
    else 
    bV (i + (4 : Int32)) (fun x353 =>
    L_law_L xs L n x353 μ)
    else none := rfl
section TRL
variable {p : Program} {l : Launch} {e : Env} {R : Room} {s : State} {m : MethodId} {args : Array Value} {below : List Frame} {meth : Method} {c : Code} {H : Heap} {locs : List Loc} {cells slots : Nat} {Q : State → Prop}
variable {cc : ByteArray} {pc : Nat} {ls : Array Slot} {rest : List Value} {D : va_G} {cA : Nat → ClassId} {base : Nat} {μ : MM}
theorem t_cL {y : MethodName} {bytes : ByteArray} {maxL nL mc ms n index : Nat} {ret : Option FieldType} {hh : List (Nat × Nat × Nat × Nat)} {ws : List Cond} {rm : Room} {Ts : List Cond} {own : String} {As : List Value} {μ' : MM} {r : Int32} (FX : CallFix p m c cc nL s args Ts own) (hM : vx_Met l y ws rm (va_Pc As (tPreX D cA base H.size μ)) (va_Qi (fun (x : Int32) (_ : Unit) => x = r) (fun _ => tPost D cA base μ') (tA base H.size)) (vx_X (fun _ : Unit => False) (fun _ _ _ => True) (tA base H.size)) mc ms (tA base H.size)) (cw : vx_CSW R s args own index y bytes maxL ret hh ws rm mc ms n) (hK : va_K D vwCl (tys cA) s) (hN : tN s) (hX : tX base s.heap.size s) (hP : va_P D vwCl (tw base cA μ []) H) (hS : va_S (tA base s.heap.size) s.heap H locs) (hn : As.length = n) (hsize : ls.size = nL) (hW : (rest.map fun v => v.category).sum ≤ 8) (hdg : decode cc pc = .ok (.invokestatic index, 3)) (hf : cells + mc ≤ R.cells ∧ slots + ms ≤ R.slots) {st : List Value} (hst : st = As.reverse ++ rest)
    (kk : ∀ (H1 : Heap) (locs1 : List Loc), va_P D vwCl (tw base cA μ' []) H1 → va_S (tA base s.heap.size) s.heap H1 locs1 → W p l e R s m args below meth c H1 locs1 (cells + mc) (slots + ms) Q (F0 m (pc + 3) ls (.int r :: rest))) : W p l e R s m args below meth c H locs cells slots Q (F0 m pc ls st) := by
  refine vx_calli (vx_runSX (hh := hh) (As := As) (rest := rest) FX hM cw ⟨tBlindX, tUseX hK hN hX hP hS⟩ rfl hn hsize hst (lv_room hW) hdg hf) hS (fun q _ h => tA_up hS.1 q h) (fun q h => tA_up hS.1 q h) (fun q _ h => tA_up hS.1 q h) (fun E ce q9 u t H1 locs1 ht hvm hp hB hz1 hk1 hS1 h1 h2 h3 => hp.elim) (fun x u t H1 locs1 ht hvm hp hB hz1 hk1 hS1 => ?_)
  subst hp
  have hB : va_P D vwCl (tw base cA μ' []) t.heap := hB
  rw [ht] at hB
  exact kk H1 locs1 hB hS1
theorem t_cVd {d0 : Drawn} (hd0 : s.drawn.sameBut d0 lw_cs) {y : MethodName} {bytes : ByteArray} {maxL nL mc ms index : Nat} {ret : Option FieldType} {ws : List Cond} {rm : Room} {Ts : List Cond} {own C : String} {b : Nat} {μ' : MM} {r : UInt64} {sz0 : Nat} {H0 : Heap} (FX : CallFix p m c cc nL (s.setDrawn d0) args Ts own) (hM : MetD lw_cs l y ws rm (va_Pc [.ref b] (tPre D cA base H.size μ)) (va_Qd (fun (x : UInt64) (_ : Unit) => alike64 x r = true) (fun _ => tPost D cA base μ') (tA base H.size)) mc ms (tA base H.size)) (cw : CallW R (s.setDrawn d0) args own C index y bytes maxL ret ws rm mc ms 0) (hrec : ∃ cell : Cell, H[b]? = some cell ∧ cell.vm.isStatics = false ∧ (s.setDrawn d0).vm.findClass C = some cell.cls) (hK : va_K D vwCl (tys cA) (s.setDrawn d0)) (hN : tN (s.setDrawn d0)) (hP : va_P D vwCl (tw base cA μ []) H) (hS : va_S (tA base sz0) H0 H locs) (hz : sz0 ≤ H0.size) (hsize : ls.size = nL) (hW : (rest.map fun v => v.category).sum ≤ 8) (hdg : decode cc pc = .ok (.invokevirtual index, 3)) (hf : cells + mc ≤ R.cells ∧ slots + ms ≤ R.slots) {st : List Value} (hst : st = .ref b :: rest)
    (kk : ∀ (x : UInt64) (d' : Drawn) (H1 : Heap) (locs1 : List Loc), alike64 x r = true → s.drawn.sameBut d' lw_cs → va_P D vwCl (tw base cA μ' []) H1 → va_S (tA base sz0) H0 H1 locs1 → W p l e R (s.setDrawn d') m args below meth c H1 locs1 (cells + mc) (slots + ms) Q (F0 m (pc + 3) ls (.double x :: rest))) : W p l e R (s.setDrawn d0) m args below meth c H locs cells slots Q (F0 m pc ls st) := by
  have hz2 : sz0 ≤ H.size := Nat.le_trans hz hS.1
  refine va_calldD hd0 (va_runV_D (As := []) (rest := rest) FX hM cw ⟨tBlind, hrec, tUse hK hN hP⟩ rfl rfl hsize hst (lv_room hW) hdg hf) hS (fun q _ h => tA_up hz2 q h) (fun q h => tA_up hz2 q h) (fun x _ t H1 locs1 ht hvm hw hB hz1 hk1 hS1 d' hd' => ?_)
  have hB : va_P D vwCl (tw base cA μ' []) t.heap := hB
  rw [ht] at hB
  exact kk x d' H1 locs1 hw hd' hB hS1
end TRL
theorem tX.drawn {base sz : Nat} {s : State} (d : Drawn) (h : tX base sz s) : tX base sz (s.setDrawn d) := by
  obtain ⟨⟨⟨a1, h1⟩, ⟨a2, h2⟩, ⟨a3, h3⟩⟩, h4, ⟨h5, h6, h7⟩, h8, h9⟩ := h
  have al : s.vm.Alike (s.setDrawn d).vm := Vm.Alike.refl s.vm
  exact ⟨⟨⟨a1, vk_R.same (u := s) (U := s.setDrawn d) rfl h1⟩, ⟨a2, vk_R.same (u := s) (U := s.setDrawn d) rfl h2⟩, ⟨a3, vk_R.same (u := s) (U := s.setDrawn d) rfl h3⟩⟩, fun w hw => va_Nw.same (onT_DC (List.all_eq_true.mp xBad_DC w hw)) (u := s) (U := s.setDrawn d) rfl (h4 w hw), ⟨va_Nc.moved al h5, va_Nc.moved al h6, va_Nc.moved al h7⟩, vx_Zq.moved al h8, vx_Zq.moved al h9⟩
theorem nan_dec {x : UInt64} (h : isNaN64 x = true) : Jvm.FP.Core.decode Jvm.FP.Core.b64 x.toNat = .nan := by
  rw [isNaN64_iff] at h
  rw [Jvm.FP.Core.decode_nan]
  have e1 : Jvm.FP.Core.infBits Jvm.FP.Core.b64 = 0x7ff0000000000000 := by decide +kernel
  have e2 : Jvm.FP.Core.half Jvm.FP.Core.b64 = 2 ^ 63 := by decide +kernel
  unfold Jvm.FP.Core.mag
  rw [e1, e2]
  have e3 : x.toNat &&& 0x7fffffffffffffff = x.toNat % 2 ^ 63 := Nat.and_two_pow_sub_one_eq_mod x.toNat 63
  rw [← e3]
  exact h
theorem nan_cmp {x y : UInt64} (h : isNaN64 x = true) (_ : isNaN64 y = true) : FP.dcmp x y = none := by
  show Jvm.FP.Core.order (Jvm.FP.Core.decode Jvm.FP.Core.b64 x.toNat) (Jvm.FP.Core.decode Jvm.FP.Core.b64 y.toNat) = none
  rw [nan_dec h]
  rfl
theorem dbl_ok {x y r : UInt64} (hx : alike64 x r = true) (hy : alike64 y r = true) (h : ¬ Op.cmpValue (FP.dcmp x y) .l = 0) : ¬ Op.cmpValue (FP.dcmp x x) .l = 0 ∧ ¬ Op.cmpValue (FP.dcmp y y) .l = 0 := by
  unfold alike64 at hx hy
  simp only [Bool.or_eq_true, decide_eq_true_eq, Bool.and_eq_true] at hx hy
  rcases hx with rfl | ⟨h1, h2⟩
  · rcases hy with rfl | ⟨h3, h4⟩
    · exact ⟨h, h⟩
    · rw [nan_cmp h4 h4, nan_cmp h3 h3]
      exact ⟨by decide, by decide⟩
  · rcases hy with rfl | ⟨h3, h4⟩
    · rw [nan_cmp h1 h1, nan_cmp h2 h2]
      exact ⟨by decide, by decide⟩
    · rw [nan_cmp h1 h1, nan_cmp h3 h3]
      exact ⟨by decide, by decide⟩
set_option maxHeartbeats 8000000 in
set_option maxRecDepth 100000 in
theorem law_loop {p : Program} {e : Env} {s : State} {m : MethodId} {below : List Frame} {meth : Method} {c : Code} (l : Launch) (hlt : l.stackTraces = false) {b L : Nat} {xs : Nat → Int32} (C0 : lw_At p s m meth c b L xs) {D : va_G} {cA : Nat → ClassId} (hK0 : va_K D vwCl (tys cA) s) (hN0 : tN s) (hX0 : tX s.heap.size s.heap.size s) :
    ∀ (n : Nat) (i : Int32) (μ : MM) (d0 : Drawn) (H : Heap) (locs : List Loc) (ls : Array Slot) (k0 n0 : Nat) {μ' : MM}, k0 + n * 180 ≤ 601024 → n0 + n * 1700 ≤ 7293034 → s.drawn.sameBut d0 lw_cs → L_law_L xs L n i μ = some μ' → va_P D vwCl (tw s.heap.size cA μ []) H → va_S (tA s.heap.size s.heap.size) s.heap H locs → lv_has ls 9 [(0, .ref b), (1, .ref (s.heap.size + 0)), (2, .ref (s.heap.size + 132)), (3, .ref (s.heap.size + 177)), (4, .int i)] →
      W p l e room_1 (s.setDrawn d0) m #[Value.ref b] below meth c H locs k0 n0 (lw_Z below #[Value.ref b] s) (F0 m 23 ls []) := by
  obtain ⟨hx, hb, hr, hml, hown0, hts9, hSc0, hbl, hlocks, hgv⟩ := id C0
  have hts0 : ∀ w ∈ wsL_law, w.before #[Value.ref b] s = true := fun w h => hts9 w (wsL_law_in w h)
  have hbA : ¬ tA s.heap.size s.heap.size b := fun h => by rcases h with h | h <;> omega
  have hq0 : kc 0 = 6 := by decide +kernel
  have hq8 : kc 132 = 8 := by decide +kernel
  have hqo : kc 177 = 101 := by decide +kernel
  intro n
  induction n with
  | zero =>
    intro i μ d0 H locs ls k0 n0 μ' hk0 hn0 hd0 hm
    cases hm
  | succ n ih =>
    intro i μ d0 H locs ls k0 n0 μ' hk0 hn0 hd0 hm hP hS hl
    rw [L_law_L_s] at hm
    have hK : va_K D vwCl (tys cA) (s.setDrawn d0) := hK0
    have hN : tN (s.setDrawn d0) := hN0
    have hX : tX s.heap.size (s.setDrawn d0).heap.size (s.setDrawn d0) := hX0.drawn d0
    have hts : ∀ w ∈ wsL_law, w.before #[Value.ref b] (s.setDrawn d0) = true := dr_words hts0 _
    have hown : (s.setDrawn d0).vm.findClass RL = some m.cls := hown0
    have hSc : va_X b L xs (s.setDrawn d0) s.heap := hSc0
    refine lv_iload hx hb dL_law_23 (lv_at hl 4 rfl) ?_
    refine lv_aload_n hx hb dL_law_25 rfl (lv_at hl 0 rfl) ?_
    refine va_slen hx hb hSc hbl hbA hS dL_law_26 ?_
    refine lv_iconst (v := (4 : Int32)) hx hb dL_law_27 (by decide) ?_
    refine lv_isub hx hb dL_law_28 ?_
    refine lv_icmp_gt (tgt := 1217) hx hb dL_law_29 (by decide) (fun c1 => ?_) (fun c1 => ?_)
    · rw [if_pos c1] at hm
      cases hm
      refine lv_iconst (v := (1 : Int32)) hx hb dL_law_1217 (by decide) ?_
      refine va_forget (fun q hq => ?_) ?_
      · have h9 := hS.2.2 q hq
        rcases h9 with h9 | h9
        · exact h9.1
        · exact h9
      refine W.widen (k := 601024) (n := 7293034) (by omega) (by omega) ?_
      exact lw_ret hd0 hx hb hr hlocks dL_law_1218
    · rw [if_neg c1] at hm
      refine lv_aload_n hx hb dL_law_32 rfl (lv_at hl 0 rfl) ?_
      refine lv_iload hx hb dL_law_33 (lv_at hl 4 rfl) ?_
      obtain ⟨hg2, hm⟩ := gd_inv hm
      refine va_sld hx hb hSc hbl hbA hS hg2 dL_law_35 ?_
      refine lv_bipush (v := (31 : Int32)) hx hb dL_law_36 (by decide) ?_
      refine lv_iand hx hb dL_law_38 ?_
      by_cases c3 : ((xs i.toNatClampNeg) &&& (31 : Int32)) = 0
      · rw [if_pos c3] at hm
        refine lv_tableIn (tgt := 120) hx hb dL_law_39 (by rw [c3]; decide) (by rw [c3]; decide) (by rw [c3]; rfl) (by decide) ?_
        refine lv_aload_n hx hb dL_law_120 rfl (lv_at hl 1 rfl) ?_
        refine lv_aload_n hx hb dL_law_121 rfl (lv_at hl 0 rfl) ?_
        refine lv_iload hx hb dL_law_122 (lv_at hl 4 rfl) ?_
        refine lv_iconst (v := (1 : Int32)) hx hb dL_law_124 (by decide) ?_
        refine lv_iadd hx hb dL_law_125 ?_
        obtain ⟨hg4, hm⟩ := gd_inv hm
        refine va_sld hx hb hSc hbl hbA hS hg4 dL_law_126 ?_
        refine lv_aload_n hx hb dL_law_127 rfl (lv_at hl 3 rfl) ?_
        obtain ⟨r5, μ6, hc7, hm⟩ := bO2_inv hm
        refine t_cL (As := [.ref (s.heap.size + 0), .int (xs (i + (1 : Int32)).toNatClampNeg), .ref (s.heap.size + 177)]) (rest := []) (μ' := μ6) (r := r5) ⟨hx, hb, hml, hown, hts⟩ (mL_setFloor l hlt D cA s.heap.size H.size μ hq0 (xs (i + (1 : Int32)).toNatClampNeg) hqo hc7) (vx_cwSW 3 hts gL_law_L_setFloor rfl rfl rfl (by decide +kernel) ⟨Nat.le_of_ble_eq_true rfl, Nat.le_of_ble_eq_true rfl⟩) hK hN hX hP hS rfl hl.1 (Nat.le_of_ble_eq_true rfl) dL_law_128 ⟨(show k0 + 1 ≤ 601024 by omega), (show n0 + 6 ≤ 7293034 by omega)⟩ rfl (fun H locs hP hS => ?_)
        refine lv_istore (lv' := [(5, .int r5), (0, .ref b), (1, .ref (s.heap.size + 0)), (2, .ref (s.heap.size + 132)), (3, .ref (s.heap.size + 177)), (4, .int i)]) hx hb dL_law_131 hl (by decide) rfl (fun ls hl => ?_)
        refine lv_aload_n hx hb dL_law_133 rfl (lv_at hl 3 rfl) ?_
        refine lv_aload_n hx hb dL_law_134 rfl (lv_at hl 1 rfl) ?_
        refine lv_iload hx hb dL_law_135 (lv_at hl 5 rfl) ?_
        refine lv_iconst (v := (1 : Int32)) hx hb dL_law_137 (by decide) ?_
        refine lv_iadd hx hb dL_law_138 ?_
        obtain ⟨hg8, hm⟩ := gd_inv hm
        refine va_sld hx hb hSc hbl hbA hS hg8 dL_law_139 ?_
        obtain ⟨⟨r9, μ10⟩, hc11⟩ : ∃ z, X8_setFloor 132 (xs (i + (1 : Int32)).toNatClampNeg) μ6 = z := ⟨_, rfl⟩
        replace hm := bP_of hm hc11
        refine t_cVi (As := [.int (xs (i + (1 : Int32)).toNatClampNeg)]) (rest := []) (μ' := μ10) (r := r9) ⟨hx, hb, hml, hown, hts⟩ (mX8_setFloor l D cA s.heap.size H.size μ6 hq8 (xs (i + (1 : Int32)).toNatClampNeg) hc11) (cwV 1 hts gL_law_X8_setFloor rfl rfl rfl (by decide +kernel) ⟨Nat.le_of_ble_eq_true rfl, Nat.le_of_ble_eq_true rfl⟩) (va_recv hK hP (q0 := 132) rfl (tw_obj hq8 (by decide))) hK hN hP hS (Nat.le_refl _) rfl hl.1 (Nat.le_of_ble_eq_true rfl) dL_law_140 ⟨(show k0 + 1 + 0 ≤ 601024 by omega), (show n0 + 6 + 0 ≤ 7293034 by omega)⟩ rfl (fun H locs hP hS => ?_)
        refine lv_istore (lv' := [(6, .int r9), (5, .int r5), (0, .ref b), (1, .ref (s.heap.size + 0)), (2, .ref (s.heap.size + 132)), (3, .ref (s.heap.size + 177)), (4, .int i)]) hx hb dL_law_143 hl (by decide) rfl (fun ls hl => ?_)
        refine lv_aload_n hx hb dL_law_145 rfl (lv_at hl 4 rfl) ?_
        refine t_cVi (As := []) (rest := []) (μ' := μ10) (r := (X8_thrown 132 μ10)) ⟨hx, hb, hml, hown, hts⟩ (mX8_thrown l D cA s.heap.size H.size μ10 hq8 rfl) (cwV 0 hts gL_law_X8_thrown rfl rfl rfl (by decide +kernel) ⟨Nat.le_of_ble_eq_true rfl, Nat.le_of_ble_eq_true rfl⟩) (va_recv hK hP (q0 := 132) rfl (tw_obj hq8 (by decide))) hK hN hP hS (Nat.le_refl _) rfl hl.1 (Nat.le_of_ble_eq_true rfl) dL_law_146 ⟨(show k0 + 1 + 0 + 0 ≤ 601024 by omega), (show n0 + 6 + 0 + 0 ≤ 7293034 by omega)⟩ rfl (fun H locs hP hS => ?_)
        refine lv_iload hx hb dL_law_149 (lv_at hl 1 rfl) ?_
        refine lv_icmp_eq (tgt := 156) hx hb dL_law_151 (by decide) (fun c14 => ?_) (fun c14 => ?_)
        · rw [if_pos c14] at hm
          refine lv_iload hx hb dL_law_156 (lv_at hl 1 rfl) ?_
          refine lv_if_ne (tgt := 173) hx hb dL_law_158 (by decide) (fun c15 => ?_) (fun c15 => ?_)
          · rw [if_neg c15] at hm
            refine lv_goto (tgt := 1211) hx hb dL_law_173 (by decide) ?_
            obtain ⟨x16, ex16⟩ : ∃ z : Int32, z = i + (4 : Int32) := ⟨_, rfl⟩
            replace hm := bV_of hm ex16
            refine lv_iinc (v := x16) (lv' := [(4, .int x16), (6, .int r9), (5, .int r5), (0, .ref b), (1, .ref (s.heap.size + 0)), (2, .ref (s.heap.size + 132)), (3, .ref (s.heap.size + 177))]) hx hb dL_law_1211 hl (k := 6) rfl (by rw [ex16]; rfl) (by decide) rfl (fun ls hl => ?_)
            refine lv_goto (tgt := 23) hx hb dL_law_1214 (by decide) ?_
            exact ih x16 μ10 _ _ _ _ (k0 + 1 + 0 + 0) (n0 + 6 + 0 + 0) (by omega) (by omega) hd0 hm hP hS (lv_sub hl [3, 4, 5, 6, 0] rfl)
          · rw [if_pos c15] at hm
            refine lv_aload_n hx hb dL_law_161 rfl (lv_at hl 5 rfl) ?_
            refine lv_iconst (v := (0 : Int32)) hx hb dL_law_162 (by decide) ?_
            obtain ⟨hg17, hm⟩ := gd_inv hm
            refine t_lald hx hb hK hP hqo hg17 dL_law_163 ?_
            refine lv_iload hx hb dL_law_164 (lv_at hl 0 rfl) ?_
            refine lv_i2l (v := r9.toInt64) hx hb dL_law_166 rfl ?_
            refine W.lcmp hx hb dL_law_167 ?_
            refine lv_if_eq (tgt := 173) hx hb dL_law_168 (by decide) (fun c18 => ?_) (fun c18 => ?_)
            · rw [if_pos c18] at hm
              refine lv_goto (tgt := 1211) hx hb dL_law_173 (by decide) ?_
              obtain ⟨x19, ex19⟩ : ∃ z : Int32, z = i + (4 : Int32) := ⟨_, rfl⟩
              replace hm := bV_of hm ex19
              refine lv_iinc (v := x19) (lv' := [(4, .int x19), (6, .int r9), (5, .int r5), (0, .ref b), (1, .ref (s.heap.size + 0)), (2, .ref (s.heap.size + 132)), (3, .ref (s.heap.size + 177))]) hx hb dL_law_1211 hl (k := 6) rfl (by rw [ex19]; rfl) (by decide) rfl (fun ls hl => ?_)
              refine lv_goto (tgt := 23) hx hb dL_law_1214 (by decide) ?_
              exact ih x19 μ10 _ _ _ _ (k0 + 1 + 0 + 0) (n0 + 6 + 0 + 0) (by omega) (by omega) hd0 hm hP hS (lv_sub hl [3, 4, 5, 6, 0] rfl)
            · rw [if_neg c18] at hm
              refine lv_iconst (v := (0 : Int32)) hx hb dL_law_171 (by decide) ?_
              cases hm
        · rw [if_neg c14] at hm
          refine lv_iconst (v := (0 : Int32)) hx hb dL_law_154 (by decide) ?_
          cases hm
      · rw [if_neg c3] at hm
        by_cases c20 : ((xs i.toNatClampNeg) &&& (31 : Int32)) = 1
        · rw [if_pos c20] at hm
          refine lv_tableIn (tgt := 176) hx hb dL_law_39 (by rw [c20]; decide) (by rw [c20]; decide) (by rw [c20]; rfl) (by decide) ?_
          refine lv_aload_n hx hb dL_law_176 rfl (lv_at hl 1 rfl) ?_
          refine lv_aload_n hx hb dL_law_177 rfl (lv_at hl 0 rfl) ?_
          refine lv_iload hx hb dL_law_178 (lv_at hl 4 rfl) ?_
          refine lv_iconst (v := (1 : Int32)) hx hb dL_law_180 (by decide) ?_
          refine lv_iadd hx hb dL_law_181 ?_
          obtain ⟨hg21, hm⟩ := gd_inv hm
          refine va_sld hx hb hSc hbl hbA hS hg21 dL_law_182 ?_
          refine lv_aload_n hx hb dL_law_183 rfl (lv_at hl 0 rfl) ?_
          refine lv_iload hx hb dL_law_184 (lv_at hl 4 rfl) ?_
          refine lv_iconst (v := (2 : Int32)) hx hb dL_law_186 (by decide) ?_
          refine lv_iadd hx hb dL_law_187 ?_
          obtain ⟨hg22, hm⟩ := gd_inv hm
          refine va_sld hx hb hSc hbl hbA hS hg22 dL_law_188 ?_
          refine lv_aload_n hx hb dL_law_189 rfl (lv_at hl 0 rfl) ?_
          refine lv_iload hx hb dL_law_190 (lv_at hl 4 rfl) ?_
          refine lv_iconst (v := (3 : Int32)) hx hb dL_law_192 (by decide) ?_
          refine lv_iadd hx hb dL_law_193 ?_
          obtain ⟨hg23, hm⟩ := gd_inv hm
          refine va_sld hx hb hSc hbl hbA hS hg23 dL_law_194 ?_
          refine lv_aload_n hx hb dL_law_195 rfl (lv_at hl 3 rfl) ?_
          obtain ⟨r24, μ25, hc26, hm⟩ := bO2_inv hm
          refine t_cL (As := [.ref (s.heap.size + 0), .int (xs (i + (1 : Int32)).toNatClampNeg), .int (xs (i + (2 : Int32)).toNatClampNeg), .int (xs (i + (3 : Int32)).toNatClampNeg), .ref (s.heap.size + 177)]) (rest := []) (μ' := μ25) (r := r24) ⟨hx, hb, hml, hown, hts⟩ (mL_speak l hlt D cA s.heap.size H.size μ hq0 (xs (i + (1 : Int32)).toNatClampNeg) (xs (i + (2 : Int32)).toNatClampNeg) (xs (i + (3 : Int32)).toNatClampNeg) hqo hc26) (vx_cwSW 5 hts gL_law_L_speak rfl rfl rfl (by decide +kernel) ⟨Nat.le_of_ble_eq_true rfl, Nat.le_of_ble_eq_true rfl⟩) hK hN hX hP hS rfl hl.1 (Nat.le_of_ble_eq_true rfl) dL_law_196 ⟨(show k0 + 3 ≤ 601024 by omega), (show n0 + 18 ≤ 7293034 by omega)⟩ rfl (fun H locs hP hS => ?_)
          refine lv_istore (lv' := [(5, .int r24), (0, .ref b), (1, .ref (s.heap.size + 0)), (2, .ref (s.heap.size + 132)), (3, .ref (s.heap.size + 177)), (4, .int i)]) hx hb dL_law_199 hl (by decide) rfl (fun ls hl => ?_)
          refine lv_aload_n hx hb dL_law_201 rfl (lv_at hl 3 rfl) ?_
          refine lv_aload_n hx hb dL_law_202 rfl (lv_at hl 1 rfl) ?_
          refine lv_iload hx hb dL_law_203 (lv_at hl 5 rfl) ?_
          refine lv_iconst (v := (1 : Int32)) hx hb dL_law_205 (by decide) ?_
          refine lv_iadd hx hb dL_law_206 ?_
          obtain ⟨hg27, hm⟩ := gd_inv hm
          refine va_sld hx hb hSc hbl hbA hS hg27 dL_law_207 ?_
          refine lv_aload_n hx hb dL_law_208 rfl (lv_at hl 1 rfl) ?_
          refine lv_iload hx hb dL_law_209 (lv_at hl 5 rfl) ?_
          refine lv_iconst (v := (2 : Int32)) hx hb dL_law_211 (by decide) ?_
          refine lv_iadd hx hb dL_law_212 ?_
          obtain ⟨hg28, hm⟩ := gd_inv hm
          refine va_sld hx hb hSc hbl hbA hS hg28 dL_law_213 ?_
          refine lv_aload_n hx hb dL_law_214 rfl (lv_at hl 1 rfl) ?_
          refine lv_iload hx hb dL_law_215 (lv_at hl 5 rfl) ?_
          refine lv_iconst (v := (3 : Int32)) hx hb dL_law_217 (by decide) ?_
          refine lv_iadd hx hb dL_law_218 ?_
          obtain ⟨hg29, hm⟩ := gd_inv hm
          refine va_sld hx hb hSc hbl hbA hS hg29 dL_law_219 ?_
          obtain ⟨r30, μ31, hc32, hm⟩ := bO2_inv hm
          refine t_cVi (As := [.int (xs (i + (1 : Int32)).toNatClampNeg), .int (xs (i + (2 : Int32)).toNatClampNeg), .int (xs (i + (3 : Int32)).toNatClampNeg)]) (rest := []) (μ' := μ31) (r := r30) ⟨hx, hb, hml, hown, hts⟩ (mX8_speak l D cA s.heap.size H.size μ25 hq8 (xs (i + (1 : Int32)).toNatClampNeg) (xs (i + (2 : Int32)).toNatClampNeg) (xs (i + (3 : Int32)).toNatClampNeg) hc32) (cwV 3 hts gL_law_X8_speak rfl rfl rfl (by decide +kernel) ⟨Nat.le_of_ble_eq_true rfl, Nat.le_of_ble_eq_true rfl⟩) (va_recv hK hP (q0 := 132) rfl (tw_obj hq8 (by decide))) hK hN hP hS (Nat.le_refl _) rfl hl.1 (Nat.le_of_ble_eq_true rfl) dL_law_220 ⟨(show k0 + 3 + 0 ≤ 601024 by omega), (show n0 + 18 + 0 ≤ 7293034 by omega)⟩ rfl (fun H locs hP hS => ?_)
          refine lv_istore (lv' := [(6, .int r30), (5, .int r24), (0, .ref b), (1, .ref (s.heap.size + 0)), (2, .ref (s.heap.size + 132)), (3, .ref (s.heap.size + 177)), (4, .int i)]) hx hb dL_law_223 hl (by decide) rfl (fun ls hl => ?_)
          refine lv_aload_n hx hb dL_law_225 rfl (lv_at hl 4 rfl) ?_
          refine t_cVi (As := []) (rest := []) (μ' := μ31) (r := (X8_thrown 132 μ31)) ⟨hx, hb, hml, hown, hts⟩ (mX8_thrown l D cA s.heap.size H.size μ31 hq8 rfl) (cwV 0 hts gL_law_X8_thrown rfl rfl rfl (by decide +kernel) ⟨Nat.le_of_ble_eq_true rfl, Nat.le_of_ble_eq_true rfl⟩) (va_recv hK hP (q0 := 132) rfl (tw_obj hq8 (by decide))) hK hN hP hS (Nat.le_refl _) rfl hl.1 (Nat.le_of_ble_eq_true rfl) dL_law_226 ⟨(show k0 + 3 + 0 + 0 ≤ 601024 by omega), (show n0 + 18 + 0 + 0 ≤ 7293034 by omega)⟩ rfl (fun H locs hP hS => ?_)
          refine lv_iload hx hb dL_law_229 (lv_at hl 1 rfl) ?_
          refine lv_icmp_eq (tgt := 236) hx hb dL_law_231 (by decide) (fun c35 => ?_) (fun c35 => ?_)
          · rw [if_pos c35] at hm
            refine lv_iload hx hb dL_law_236 (lv_at hl 1 rfl) ?_
            refine lv_if_ne (tgt := 253) hx hb dL_law_238 (by decide) (fun c36 => ?_) (fun c36 => ?_)
            · rw [if_neg c36] at hm
              refine lv_goto (tgt := 1211) hx hb dL_law_253 (by decide) ?_
              obtain ⟨x37, ex37⟩ : ∃ z : Int32, z = i + (4 : Int32) := ⟨_, rfl⟩
              replace hm := bV_of hm ex37
              refine lv_iinc (v := x37) (lv' := [(4, .int x37), (6, .int r30), (5, .int r24), (0, .ref b), (1, .ref (s.heap.size + 0)), (2, .ref (s.heap.size + 132)), (3, .ref (s.heap.size + 177))]) hx hb dL_law_1211 hl (k := 6) rfl (by rw [ex37]; rfl) (by decide) rfl (fun ls hl => ?_)
              refine lv_goto (tgt := 23) hx hb dL_law_1214 (by decide) ?_
              exact ih x37 μ31 _ _ _ _ (k0 + 3 + 0 + 0) (n0 + 18 + 0 + 0) (by omega) (by omega) hd0 hm hP hS (lv_sub hl [3, 4, 5, 6, 0] rfl)
            · rw [if_pos c36] at hm
              refine lv_aload_n hx hb dL_law_241 rfl (lv_at hl 5 rfl) ?_
              refine lv_iconst (v := (0 : Int32)) hx hb dL_law_242 (by decide) ?_
              obtain ⟨hg38, hm⟩ := gd_inv hm
              refine t_lald hx hb hK hP hqo hg38 dL_law_243 ?_
              refine lv_iload hx hb dL_law_244 (lv_at hl 0 rfl) ?_
              refine lv_i2l (v := r30.toInt64) hx hb dL_law_246 rfl ?_
              refine W.lcmp hx hb dL_law_247 ?_
              refine lv_if_eq (tgt := 253) hx hb dL_law_248 (by decide) (fun c39 => ?_) (fun c39 => ?_)
              · rw [if_pos c39] at hm
                refine lv_goto (tgt := 1211) hx hb dL_law_253 (by decide) ?_
                obtain ⟨x40, ex40⟩ : ∃ z : Int32, z = i + (4 : Int32) := ⟨_, rfl⟩
                replace hm := bV_of hm ex40
                refine lv_iinc (v := x40) (lv' := [(4, .int x40), (6, .int r30), (5, .int r24), (0, .ref b), (1, .ref (s.heap.size + 0)), (2, .ref (s.heap.size + 132)), (3, .ref (s.heap.size + 177))]) hx hb dL_law_1211 hl (k := 6) rfl (by rw [ex40]; rfl) (by decide) rfl (fun ls hl => ?_)
                refine lv_goto (tgt := 23) hx hb dL_law_1214 (by decide) ?_
                exact ih x40 μ31 _ _ _ _ (k0 + 3 + 0 + 0) (n0 + 18 + 0 + 0) (by omega) (by omega) hd0 hm hP hS (lv_sub hl [3, 4, 5, 6, 0] rfl)
              · rw [if_neg c39] at hm
                refine lv_iconst (v := (0 : Int32)) hx hb dL_law_251 (by decide) ?_
                cases hm
          · rw [if_neg c35] at hm
            refine lv_iconst (v := (0 : Int32)) hx hb dL_law_234 (by decide) ?_
            cases hm
        · rw [if_neg c20] at hm
          by_cases c41 : ((xs i.toNatClampNeg) &&& (31 : Int32)) = 2
          · rw [if_pos c41] at hm
            refine lv_tableIn (tgt := 256) hx hb dL_law_39 (by rw [c41]; decide) (by rw [c41]; decide) (by rw [c41]; rfl) (by decide) ?_
            refine lv_aload_n hx hb dL_law_256 rfl (lv_at hl 1 rfl) ?_
            refine lv_aload_n hx hb dL_law_257 rfl (lv_at hl 0 rfl) ?_
            refine lv_iload hx hb dL_law_258 (lv_at hl 4 rfl) ?_
            refine lv_iconst (v := (1 : Int32)) hx hb dL_law_260 (by decide) ?_
            refine lv_iadd hx hb dL_law_261 ?_
            obtain ⟨hg42, hm⟩ := gd_inv hm
            refine va_sld hx hb hSc hbl hbA hS hg42 dL_law_262 ?_
            refine lv_aload_n hx hb dL_law_263 rfl (lv_at hl 3 rfl) ?_
            obtain ⟨r43, μ44, hc45, hm⟩ := bO2_inv hm
            refine t_cL (As := [.ref (s.heap.size + 0), .int (xs (i + (1 : Int32)).toNatClampNeg), .ref (s.heap.size + 177)]) (rest := []) (μ' := μ44) (r := r43) ⟨hx, hb, hml, hown, hts⟩ (mL_rest l hlt D cA s.heap.size H.size μ hq0 (xs (i + (1 : Int32)).toNatClampNeg) hqo hc45) (vx_cwSW 3 hts gL_law_L_rest rfl rfl rfl (by decide +kernel) ⟨Nat.le_of_ble_eq_true rfl, Nat.le_of_ble_eq_true rfl⟩) hK hN hX hP hS rfl hl.1 (Nat.le_of_ble_eq_true rfl) dL_law_264 ⟨(show k0 + 2 ≤ 601024 by omega), (show n0 + 12 ≤ 7293034 by omega)⟩ rfl (fun H locs hP hS => ?_)
            refine lv_istore (lv' := [(5, .int r43), (0, .ref b), (1, .ref (s.heap.size + 0)), (2, .ref (s.heap.size + 132)), (3, .ref (s.heap.size + 177)), (4, .int i)]) hx hb dL_law_267 hl (by decide) rfl (fun ls hl => ?_)
            refine lv_aload_n hx hb dL_law_269 rfl (lv_at hl 3 rfl) ?_
            refine lv_aload_n hx hb dL_law_270 rfl (lv_at hl 1 rfl) ?_
            refine lv_iload hx hb dL_law_271 (lv_at hl 5 rfl) ?_
            refine lv_iconst (v := (1 : Int32)) hx hb dL_law_273 (by decide) ?_
            refine lv_iadd hx hb dL_law_274 ?_
            obtain ⟨hg46, hm⟩ := gd_inv hm
            refine va_sld hx hb hSc hbl hbA hS hg46 dL_law_275 ?_
            obtain ⟨r47, μ48, hc49, hm⟩ := bO2_inv hm
            refine t_cVi (As := [.int (xs (i + (1 : Int32)).toNatClampNeg)]) (rest := []) (μ' := μ48) (r := r47) ⟨hx, hb, hml, hown, hts⟩ (mX8_rest l D cA s.heap.size H.size μ44 hq8 (xs (i + (1 : Int32)).toNatClampNeg) hc49) (cwV 1 hts gL_law_X8_rest rfl rfl rfl (by decide +kernel) ⟨Nat.le_of_ble_eq_true rfl, Nat.le_of_ble_eq_true rfl⟩) (va_recv hK hP (q0 := 132) rfl (tw_obj hq8 (by decide))) hK hN hP hS (Nat.le_refl _) rfl hl.1 (Nat.le_of_ble_eq_true rfl) dL_law_276 ⟨(show k0 + 2 + 0 ≤ 601024 by omega), (show n0 + 12 + 0 ≤ 7293034 by omega)⟩ rfl (fun H locs hP hS => ?_)
            refine lv_istore (lv' := [(6, .int r47), (5, .int r43), (0, .ref b), (1, .ref (s.heap.size + 0)), (2, .ref (s.heap.size + 132)), (3, .ref (s.heap.size + 177)), (4, .int i)]) hx hb dL_law_279 hl (by decide) rfl (fun ls hl => ?_)
            refine lv_aload_n hx hb dL_law_281 rfl (lv_at hl 4 rfl) ?_
            refine t_cVi (As := []) (rest := []) (μ' := μ48) (r := (X8_thrown 132 μ48)) ⟨hx, hb, hml, hown, hts⟩ (mX8_thrown l D cA s.heap.size H.size μ48 hq8 rfl) (cwV 0 hts gL_law_X8_thrown rfl rfl rfl (by decide +kernel) ⟨Nat.le_of_ble_eq_true rfl, Nat.le_of_ble_eq_true rfl⟩) (va_recv hK hP (q0 := 132) rfl (tw_obj hq8 (by decide))) hK hN hP hS (Nat.le_refl _) rfl hl.1 (Nat.le_of_ble_eq_true rfl) dL_law_282 ⟨(show k0 + 2 + 0 + 0 ≤ 601024 by omega), (show n0 + 12 + 0 + 0 ≤ 7293034 by omega)⟩ rfl (fun H locs hP hS => ?_)
            refine lv_iload hx hb dL_law_285 (lv_at hl 1 rfl) ?_
            refine lv_icmp_eq (tgt := 292) hx hb dL_law_287 (by decide) (fun c52 => ?_) (fun c52 => ?_)
            · rw [if_pos c52] at hm
              refine lv_iload hx hb dL_law_292 (lv_at hl 1 rfl) ?_
              refine lv_if_ne (tgt := 309) hx hb dL_law_294 (by decide) (fun c53 => ?_) (fun c53 => ?_)
              · rw [if_neg c53] at hm
                refine lv_goto (tgt := 1211) hx hb dL_law_309 (by decide) ?_
                obtain ⟨x54, ex54⟩ : ∃ z : Int32, z = i + (4 : Int32) := ⟨_, rfl⟩
                replace hm := bV_of hm ex54
                refine lv_iinc (v := x54) (lv' := [(4, .int x54), (6, .int r47), (5, .int r43), (0, .ref b), (1, .ref (s.heap.size + 0)), (2, .ref (s.heap.size + 132)), (3, .ref (s.heap.size + 177))]) hx hb dL_law_1211 hl (k := 6) rfl (by rw [ex54]; rfl) (by decide) rfl (fun ls hl => ?_)
                refine lv_goto (tgt := 23) hx hb dL_law_1214 (by decide) ?_
                exact ih x54 μ48 _ _ _ _ (k0 + 2 + 0 + 0) (n0 + 12 + 0 + 0) (by omega) (by omega) hd0 hm hP hS (lv_sub hl [3, 4, 5, 6, 0] rfl)
              · rw [if_pos c53] at hm
                refine lv_aload_n hx hb dL_law_297 rfl (lv_at hl 5 rfl) ?_
                refine lv_iconst (v := (0 : Int32)) hx hb dL_law_298 (by decide) ?_
                obtain ⟨hg55, hm⟩ := gd_inv hm
                refine t_lald hx hb hK hP hqo hg55 dL_law_299 ?_
                refine lv_iload hx hb dL_law_300 (lv_at hl 0 rfl) ?_
                refine lv_i2l (v := r47.toInt64) hx hb dL_law_302 rfl ?_
                refine W.lcmp hx hb dL_law_303 ?_
                refine lv_if_eq (tgt := 309) hx hb dL_law_304 (by decide) (fun c56 => ?_) (fun c56 => ?_)
                · rw [if_pos c56] at hm
                  refine lv_goto (tgt := 1211) hx hb dL_law_309 (by decide) ?_
                  obtain ⟨x57, ex57⟩ : ∃ z : Int32, z = i + (4 : Int32) := ⟨_, rfl⟩
                  replace hm := bV_of hm ex57
                  refine lv_iinc (v := x57) (lv' := [(4, .int x57), (6, .int r47), (5, .int r43), (0, .ref b), (1, .ref (s.heap.size + 0)), (2, .ref (s.heap.size + 132)), (3, .ref (s.heap.size + 177))]) hx hb dL_law_1211 hl (k := 6) rfl (by rw [ex57]; rfl) (by decide) rfl (fun ls hl => ?_)
                  refine lv_goto (tgt := 23) hx hb dL_law_1214 (by decide) ?_
                  exact ih x57 μ48 _ _ _ _ (k0 + 2 + 0 + 0) (n0 + 12 + 0 + 0) (by omega) (by omega) hd0 hm hP hS (lv_sub hl [3, 4, 5, 6, 0] rfl)
                · rw [if_neg c56] at hm
                  refine lv_iconst (v := (0 : Int32)) hx hb dL_law_307 (by decide) ?_
                  cases hm
            · rw [if_neg c52] at hm
              refine lv_iconst (v := (0 : Int32)) hx hb dL_law_290 (by decide) ?_
              cases hm
          · rw [if_neg c41] at hm
            by_cases c58 : ((xs i.toNatClampNeg) &&& (31 : Int32)) = 3
            · rw [if_pos c58] at hm
              refine lv_tableIn (tgt := 312) hx hb dL_law_39 (by rw [c58]; decide) (by rw [c58]; decide) (by rw [c58]; rfl) (by decide) ?_
              refine lv_aload_n hx hb dL_law_312 rfl (lv_at hl 1 rfl) ?_
              refine lv_aload_n hx hb dL_law_313 rfl (lv_at hl 0 rfl) ?_
              refine lv_iload hx hb dL_law_314 (lv_at hl 4 rfl) ?_
              refine lv_iconst (v := (1 : Int32)) hx hb dL_law_316 (by decide) ?_
              refine lv_iadd hx hb dL_law_317 ?_
              obtain ⟨hg59, hm⟩ := gd_inv hm
              refine va_sld hx hb hSc hbl hbA hS hg59 dL_law_318 ?_
              refine lv_aload_n hx hb dL_law_319 rfl (lv_at hl 0 rfl) ?_
              refine lv_iload hx hb dL_law_320 (lv_at hl 4 rfl) ?_
              refine lv_iconst (v := (2 : Int32)) hx hb dL_law_322 (by decide) ?_
              refine lv_iadd hx hb dL_law_323 ?_
              obtain ⟨hg60, hm⟩ := gd_inv hm
              refine va_sld hx hb hSc hbl hbA hS hg60 dL_law_324 ?_
              refine lv_aload_n hx hb dL_law_325 rfl (lv_at hl 3 rfl) ?_
              obtain ⟨r61, μ62, hc63, hm⟩ := bO2_inv hm
              refine t_cL (As := [.ref (s.heap.size + 0), .int (xs (i + (1 : Int32)).toNatClampNeg), .int (xs (i + (2 : Int32)).toNatClampNeg), .ref (s.heap.size + 177)]) (rest := []) (μ' := μ62) (r := r61) ⟨hx, hb, hml, hown, hts⟩ (mL_addInterpreter l hlt D cA s.heap.size H.size μ hq0 (xs (i + (1 : Int32)).toNatClampNeg) (xs (i + (2 : Int32)).toNatClampNeg) hqo hc63) (vx_cwSW 4 hts gL_law_L_addInterpreter rfl rfl rfl (by decide +kernel) ⟨Nat.le_of_ble_eq_true rfl, Nat.le_of_ble_eq_true rfl⟩) hK hN hX hP hS rfl hl.1 (Nat.le_of_ble_eq_true rfl) dL_law_326 ⟨(show k0 + 3 ≤ 601024 by omega), (show n0 + 18 ≤ 7293034 by omega)⟩ rfl (fun H locs hP hS => ?_)
              refine lv_istore (lv' := [(5, .int r61), (0, .ref b), (1, .ref (s.heap.size + 0)), (2, .ref (s.heap.size + 132)), (3, .ref (s.heap.size + 177)), (4, .int i)]) hx hb dL_law_329 hl (by decide) rfl (fun ls hl => ?_)
              refine lv_aload_n hx hb dL_law_331 rfl (lv_at hl 3 rfl) ?_
              refine lv_aload_n hx hb dL_law_332 rfl (lv_at hl 1 rfl) ?_
              refine lv_iload hx hb dL_law_333 (lv_at hl 5 rfl) ?_
              refine lv_iconst (v := (1 : Int32)) hx hb dL_law_335 (by decide) ?_
              refine lv_iadd hx hb dL_law_336 ?_
              obtain ⟨hg64, hm⟩ := gd_inv hm
              refine va_sld hx hb hSc hbl hbA hS hg64 dL_law_337 ?_
              refine lv_aload_n hx hb dL_law_338 rfl (lv_at hl 1 rfl) ?_
              refine lv_iload hx hb dL_law_339 (lv_at hl 5 rfl) ?_
              refine lv_iconst (v := (2 : Int32)) hx hb dL_law_341 (by decide) ?_
              refine lv_iadd hx hb dL_law_342 ?_
              obtain ⟨hg65, hm⟩ := gd_inv hm
              refine va_sld hx hb hSc hbl hbA hS hg65 dL_law_343 ?_
              obtain ⟨r66, μ67, hc68, hm⟩ := bO2_inv hm
              refine t_cVi (As := [.int (xs (i + (1 : Int32)).toNatClampNeg), .int (xs (i + (2 : Int32)).toNatClampNeg)]) (rest := []) (μ' := μ67) (r := r66) ⟨hx, hb, hml, hown, hts⟩ (mX8_addInterpreter l D cA s.heap.size H.size μ62 hq8 (xs (i + (1 : Int32)).toNatClampNeg) (xs (i + (2 : Int32)).toNatClampNeg) hc68) (cwV 2 hts gL_law_X8_addInterpreter rfl rfl rfl (by decide +kernel) ⟨Nat.le_of_ble_eq_true rfl, Nat.le_of_ble_eq_true rfl⟩) (va_recv hK hP (q0 := 132) rfl (tw_obj hq8 (by decide))) hK hN hP hS (Nat.le_refl _) rfl hl.1 (Nat.le_of_ble_eq_true rfl) dL_law_344 ⟨(show k0 + 3 + 0 ≤ 601024 by omega), (show n0 + 18 + 0 ≤ 7293034 by omega)⟩ rfl (fun H locs hP hS => ?_)
              refine lv_istore (lv' := [(6, .int r66), (5, .int r61), (0, .ref b), (1, .ref (s.heap.size + 0)), (2, .ref (s.heap.size + 132)), (3, .ref (s.heap.size + 177)), (4, .int i)]) hx hb dL_law_347 hl (by decide) rfl (fun ls hl => ?_)
              refine lv_aload_n hx hb dL_law_349 rfl (lv_at hl 4 rfl) ?_
              refine t_cVi (As := []) (rest := []) (μ' := μ67) (r := (X8_thrown 132 μ67)) ⟨hx, hb, hml, hown, hts⟩ (mX8_thrown l D cA s.heap.size H.size μ67 hq8 rfl) (cwV 0 hts gL_law_X8_thrown rfl rfl rfl (by decide +kernel) ⟨Nat.le_of_ble_eq_true rfl, Nat.le_of_ble_eq_true rfl⟩) (va_recv hK hP (q0 := 132) rfl (tw_obj hq8 (by decide))) hK hN hP hS (Nat.le_refl _) rfl hl.1 (Nat.le_of_ble_eq_true rfl) dL_law_350 ⟨(show k0 + 3 + 0 + 0 ≤ 601024 by omega), (show n0 + 18 + 0 + 0 ≤ 7293034 by omega)⟩ rfl (fun H locs hP hS => ?_)
              refine lv_iload hx hb dL_law_353 (lv_at hl 1 rfl) ?_
              refine lv_icmp_eq (tgt := 360) hx hb dL_law_355 (by decide) (fun c71 => ?_) (fun c71 => ?_)
              · rw [if_pos c71] at hm
                refine lv_iload hx hb dL_law_360 (lv_at hl 1 rfl) ?_
                refine lv_if_ne (tgt := 377) hx hb dL_law_362 (by decide) (fun c72 => ?_) (fun c72 => ?_)
                · rw [if_neg c72] at hm
                  refine lv_goto (tgt := 1211) hx hb dL_law_377 (by decide) ?_
                  obtain ⟨x73, ex73⟩ : ∃ z : Int32, z = i + (4 : Int32) := ⟨_, rfl⟩
                  replace hm := bV_of hm ex73
                  refine lv_iinc (v := x73) (lv' := [(4, .int x73), (6, .int r66), (5, .int r61), (0, .ref b), (1, .ref (s.heap.size + 0)), (2, .ref (s.heap.size + 132)), (3, .ref (s.heap.size + 177))]) hx hb dL_law_1211 hl (k := 6) rfl (by rw [ex73]; rfl) (by decide) rfl (fun ls hl => ?_)
                  refine lv_goto (tgt := 23) hx hb dL_law_1214 (by decide) ?_
                  exact ih x73 μ67 _ _ _ _ (k0 + 3 + 0 + 0) (n0 + 18 + 0 + 0) (by omega) (by omega) hd0 hm hP hS (lv_sub hl [3, 4, 5, 6, 0] rfl)
                · rw [if_pos c72] at hm
                  refine lv_aload_n hx hb dL_law_365 rfl (lv_at hl 5 rfl) ?_
                  refine lv_iconst (v := (0 : Int32)) hx hb dL_law_366 (by decide) ?_
                  obtain ⟨hg74, hm⟩ := gd_inv hm
                  refine t_lald hx hb hK hP hqo hg74 dL_law_367 ?_
                  refine lv_iload hx hb dL_law_368 (lv_at hl 0 rfl) ?_
                  refine lv_i2l (v := r66.toInt64) hx hb dL_law_370 rfl ?_
                  refine W.lcmp hx hb dL_law_371 ?_
                  refine lv_if_eq (tgt := 377) hx hb dL_law_372 (by decide) (fun c75 => ?_) (fun c75 => ?_)
                  · rw [if_pos c75] at hm
                    refine lv_goto (tgt := 1211) hx hb dL_law_377 (by decide) ?_
                    obtain ⟨x76, ex76⟩ : ∃ z : Int32, z = i + (4 : Int32) := ⟨_, rfl⟩
                    replace hm := bV_of hm ex76
                    refine lv_iinc (v := x76) (lv' := [(4, .int x76), (6, .int r66), (5, .int r61), (0, .ref b), (1, .ref (s.heap.size + 0)), (2, .ref (s.heap.size + 132)), (3, .ref (s.heap.size + 177))]) hx hb dL_law_1211 hl (k := 6) rfl (by rw [ex76]; rfl) (by decide) rfl (fun ls hl => ?_)
                    refine lv_goto (tgt := 23) hx hb dL_law_1214 (by decide) ?_
                    exact ih x76 μ67 _ _ _ _ (k0 + 3 + 0 + 0) (n0 + 18 + 0 + 0) (by omega) (by omega) hd0 hm hP hS (lv_sub hl [3, 4, 5, 6, 0] rfl)
                  · rw [if_neg c75] at hm
                    refine lv_iconst (v := (0 : Int32)) hx hb dL_law_375 (by decide) ?_
                    cases hm
              · rw [if_neg c71] at hm
                refine lv_iconst (v := (0 : Int32)) hx hb dL_law_358 (by decide) ?_
                cases hm
            · rw [if_neg c58] at hm
              by_cases c77 : ((xs i.toNatClampNeg) &&& (31 : Int32)) = 4
              · rw [if_pos c77] at hm
                refine lv_tableIn (tgt := 380) hx hb dL_law_39 (by rw [c77]; decide) (by rw [c77]; decide) (by rw [c77]; rfl) (by decide) ?_
                refine lv_aload_n hx hb dL_law_380 rfl (lv_at hl 1 rfl) ?_
                refine lv_aload_n hx hb dL_law_381 rfl (lv_at hl 0 rfl) ?_
                refine lv_iload hx hb dL_law_382 (lv_at hl 4 rfl) ?_
                refine lv_iconst (v := (1 : Int32)) hx hb dL_law_384 (by decide) ?_
                refine lv_iadd hx hb dL_law_385 ?_
                obtain ⟨hg78, hm⟩ := gd_inv hm
                refine va_sld hx hb hSc hbl hbA hS hg78 dL_law_386 ?_
                refine lv_aload_n hx hb dL_law_387 rfl (lv_at hl 0 rfl) ?_
                refine lv_iload hx hb dL_law_388 (lv_at hl 4 rfl) ?_
                refine lv_iconst (v := (2 : Int32)) hx hb dL_law_390 (by decide) ?_
                refine lv_iadd hx hb dL_law_391 ?_
                obtain ⟨hg79, hm⟩ := gd_inv hm
                refine va_sld hx hb hSc hbl hbA hS hg79 dL_law_392 ?_
                refine lv_aload_n hx hb dL_law_393 rfl (lv_at hl 0 rfl) ?_
                refine lv_iload hx hb dL_law_394 (lv_at hl 4 rfl) ?_
                refine lv_iconst (v := (3 : Int32)) hx hb dL_law_396 (by decide) ?_
                refine lv_iadd hx hb dL_law_397 ?_
                obtain ⟨hg80, hm⟩ := gd_inv hm
                refine va_sld hx hb hSc hbl hbA hS hg80 dL_law_398 ?_
                refine lv_aload_n hx hb dL_law_399 rfl (lv_at hl 3 rfl) ?_
                obtain ⟨r81, μ82, hc83, hm⟩ := bO2_inv hm
                refine t_cL (As := [.ref (s.heap.size + 0), .int (xs (i + (1 : Int32)).toNatClampNeg), .int (xs (i + (2 : Int32)).toNatClampNeg), .int (xs (i + (3 : Int32)).toNatClampNeg), .ref (s.heap.size + 177)]) (rest := []) (μ' := μ82) (r := r81) ⟨hx, hb, hml, hown, hts⟩ (mL_addBooth l hlt D cA s.heap.size H.size μ hq0 (xs (i + (1 : Int32)).toNatClampNeg) (xs (i + (2 : Int32)).toNatClampNeg) (xs (i + (3 : Int32)).toNatClampNeg) hqo hc83) (vx_cwSW 5 hts gL_law_L_addBooth rfl rfl rfl (by decide +kernel) ⟨Nat.le_of_ble_eq_true rfl, Nat.le_of_ble_eq_true rfl⟩) hK hN hX hP hS rfl hl.1 (Nat.le_of_ble_eq_true rfl) dL_law_400 ⟨(show k0 + 3 ≤ 601024 by omega), (show n0 + 18 ≤ 7293034 by omega)⟩ rfl (fun H locs hP hS => ?_)
                refine lv_istore (lv' := [(5, .int r81), (0, .ref b), (1, .ref (s.heap.size + 0)), (2, .ref (s.heap.size + 132)), (3, .ref (s.heap.size + 177)), (4, .int i)]) hx hb dL_law_403 hl (by decide) rfl (fun ls hl => ?_)
                refine lv_aload_n hx hb dL_law_405 rfl (lv_at hl 3 rfl) ?_
                refine lv_aload_n hx hb dL_law_406 rfl (lv_at hl 1 rfl) ?_
                refine lv_iload hx hb dL_law_407 (lv_at hl 5 rfl) ?_
                refine lv_iconst (v := (1 : Int32)) hx hb dL_law_409 (by decide) ?_
                refine lv_iadd hx hb dL_law_410 ?_
                obtain ⟨hg84, hm⟩ := gd_inv hm
                refine va_sld hx hb hSc hbl hbA hS hg84 dL_law_411 ?_
                refine lv_aload_n hx hb dL_law_412 rfl (lv_at hl 1 rfl) ?_
                refine lv_iload hx hb dL_law_413 (lv_at hl 5 rfl) ?_
                refine lv_iconst (v := (2 : Int32)) hx hb dL_law_415 (by decide) ?_
                refine lv_iadd hx hb dL_law_416 ?_
                obtain ⟨hg85, hm⟩ := gd_inv hm
                refine va_sld hx hb hSc hbl hbA hS hg85 dL_law_417 ?_
                refine lv_aload_n hx hb dL_law_418 rfl (lv_at hl 1 rfl) ?_
                refine lv_iload hx hb dL_law_419 (lv_at hl 5 rfl) ?_
                refine lv_iconst (v := (3 : Int32)) hx hb dL_law_421 (by decide) ?_
                refine lv_iadd hx hb dL_law_422 ?_
                obtain ⟨hg86, hm⟩ := gd_inv hm
                refine va_sld hx hb hSc hbl hbA hS hg86 dL_law_423 ?_
                obtain ⟨r87, μ88, hc89, hm⟩ := bO2_inv hm
                refine t_cVi (As := [.int (xs (i + (1 : Int32)).toNatClampNeg), .int (xs (i + (2 : Int32)).toNatClampNeg), .int (xs (i + (3 : Int32)).toNatClampNeg)]) (rest := []) (μ' := μ88) (r := r87) ⟨hx, hb, hml, hown, hts⟩ (mX8_addBooth l D cA s.heap.size H.size μ82 hq8 (xs (i + (1 : Int32)).toNatClampNeg) (xs (i + (2 : Int32)).toNatClampNeg) (xs (i + (3 : Int32)).toNatClampNeg) hc89) (cwV 3 hts gL_law_X8_addBooth rfl rfl rfl (by decide +kernel) ⟨Nat.le_of_ble_eq_true rfl, Nat.le_of_ble_eq_true rfl⟩) (va_recv hK hP (q0 := 132) rfl (tw_obj hq8 (by decide))) hK hN hP hS (Nat.le_refl _) rfl hl.1 (Nat.le_of_ble_eq_true rfl) dL_law_424 ⟨(show k0 + 3 + 0 ≤ 601024 by omega), (show n0 + 18 + 0 ≤ 7293034 by omega)⟩ rfl (fun H locs hP hS => ?_)
                refine lv_istore (lv' := [(6, .int r87), (5, .int r81), (0, .ref b), (1, .ref (s.heap.size + 0)), (2, .ref (s.heap.size + 132)), (3, .ref (s.heap.size + 177)), (4, .int i)]) hx hb dL_law_427 hl (by decide) rfl (fun ls hl => ?_)
                refine lv_aload_n hx hb dL_law_429 rfl (lv_at hl 4 rfl) ?_
                refine t_cVi (As := []) (rest := []) (μ' := μ88) (r := (X8_thrown 132 μ88)) ⟨hx, hb, hml, hown, hts⟩ (mX8_thrown l D cA s.heap.size H.size μ88 hq8 rfl) (cwV 0 hts gL_law_X8_thrown rfl rfl rfl (by decide +kernel) ⟨Nat.le_of_ble_eq_true rfl, Nat.le_of_ble_eq_true rfl⟩) (va_recv hK hP (q0 := 132) rfl (tw_obj hq8 (by decide))) hK hN hP hS (Nat.le_refl _) rfl hl.1 (Nat.le_of_ble_eq_true rfl) dL_law_430 ⟨(show k0 + 3 + 0 + 0 ≤ 601024 by omega), (show n0 + 18 + 0 + 0 ≤ 7293034 by omega)⟩ rfl (fun H locs hP hS => ?_)
                refine lv_iload hx hb dL_law_433 (lv_at hl 1 rfl) ?_
                refine lv_icmp_eq (tgt := 440) hx hb dL_law_435 (by decide) (fun c92 => ?_) (fun c92 => ?_)
                · rw [if_pos c92] at hm
                  refine lv_iload hx hb dL_law_440 (lv_at hl 1 rfl) ?_
                  refine lv_if_ne (tgt := 457) hx hb dL_law_442 (by decide) (fun c93 => ?_) (fun c93 => ?_)
                  · rw [if_neg c93] at hm
                    refine lv_goto (tgt := 1211) hx hb dL_law_457 (by decide) ?_
                    obtain ⟨x94, ex94⟩ : ∃ z : Int32, z = i + (4 : Int32) := ⟨_, rfl⟩
                    replace hm := bV_of hm ex94
                    refine lv_iinc (v := x94) (lv' := [(4, .int x94), (6, .int r87), (5, .int r81), (0, .ref b), (1, .ref (s.heap.size + 0)), (2, .ref (s.heap.size + 132)), (3, .ref (s.heap.size + 177))]) hx hb dL_law_1211 hl (k := 6) rfl (by rw [ex94]; rfl) (by decide) rfl (fun ls hl => ?_)
                    refine lv_goto (tgt := 23) hx hb dL_law_1214 (by decide) ?_
                    exact ih x94 μ88 _ _ _ _ (k0 + 3 + 0 + 0) (n0 + 18 + 0 + 0) (by omega) (by omega) hd0 hm hP hS (lv_sub hl [3, 4, 5, 6, 0] rfl)
                  · rw [if_pos c93] at hm
                    refine lv_aload_n hx hb dL_law_445 rfl (lv_at hl 5 rfl) ?_
                    refine lv_iconst (v := (0 : Int32)) hx hb dL_law_446 (by decide) ?_
                    obtain ⟨hg95, hm⟩ := gd_inv hm
                    refine t_lald hx hb hK hP hqo hg95 dL_law_447 ?_
                    refine lv_iload hx hb dL_law_448 (lv_at hl 0 rfl) ?_
                    refine lv_i2l (v := r87.toInt64) hx hb dL_law_450 rfl ?_
                    refine W.lcmp hx hb dL_law_451 ?_
                    refine lv_if_eq (tgt := 457) hx hb dL_law_452 (by decide) (fun c96 => ?_) (fun c96 => ?_)
                    · rw [if_pos c96] at hm
                      refine lv_goto (tgt := 1211) hx hb dL_law_457 (by decide) ?_
                      obtain ⟨x97, ex97⟩ : ∃ z : Int32, z = i + (4 : Int32) := ⟨_, rfl⟩
                      replace hm := bV_of hm ex97
                      refine lv_iinc (v := x97) (lv' := [(4, .int x97), (6, .int r87), (5, .int r81), (0, .ref b), (1, .ref (s.heap.size + 0)), (2, .ref (s.heap.size + 132)), (3, .ref (s.heap.size + 177))]) hx hb dL_law_1211 hl (k := 6) rfl (by rw [ex97]; rfl) (by decide) rfl (fun ls hl => ?_)
                      refine lv_goto (tgt := 23) hx hb dL_law_1214 (by decide) ?_
                      exact ih x97 μ88 _ _ _ _ (k0 + 3 + 0 + 0) (n0 + 18 + 0 + 0) (by omega) (by omega) hd0 hm hP hS (lv_sub hl [3, 4, 5, 6, 0] rfl)
                    · rw [if_neg c96] at hm
                      refine lv_iconst (v := (0 : Int32)) hx hb dL_law_455 (by decide) ?_
                      cases hm
                · rw [if_neg c92] at hm
                  refine lv_iconst (v := (0 : Int32)) hx hb dL_law_438 (by decide) ?_
                  cases hm
              · rw [if_neg c77] at hm
                by_cases c98 : ((xs i.toNatClampNeg) &&& (31 : Int32)) = 5
                · rw [if_pos c98] at hm
                  refine lv_tableIn (tgt := 460) hx hb dL_law_39 (by rw [c98]; decide) (by rw [c98]; decide) (by rw [c98]; rfl) (by decide) ?_
                  refine lv_aload_n hx hb dL_law_460 rfl (lv_at hl 1 rfl) ?_
                  refine lv_aload_n hx hb dL_law_461 rfl (lv_at hl 0 rfl) ?_
                  refine lv_iload hx hb dL_law_462 (lv_at hl 4 rfl) ?_
                  refine lv_iconst (v := (1 : Int32)) hx hb dL_law_464 (by decide) ?_
                  refine lv_iadd hx hb dL_law_465 ?_
                  obtain ⟨hg99, hm⟩ := gd_inv hm
                  refine va_sld hx hb hSc hbl hbA hS hg99 dL_law_466 ?_
                  refine lv_aload_n hx hb dL_law_467 rfl (lv_at hl 0 rfl) ?_
                  refine lv_iload hx hb dL_law_468 (lv_at hl 4 rfl) ?_
                  refine lv_iconst (v := (2 : Int32)) hx hb dL_law_470 (by decide) ?_
                  refine lv_iadd hx hb dL_law_471 ?_
                  obtain ⟨hg100, hm⟩ := gd_inv hm
                  refine va_sld hx hb hSc hbl hbA hS hg100 dL_law_472 ?_
                  refine lv_aload_n hx hb dL_law_473 rfl (lv_at hl 3 rfl) ?_
                  obtain ⟨r101, μ102, hc103, hm⟩ := bO2_inv hm
                  refine t_cL (As := [.ref (s.heap.size + 0), .int (xs (i + (1 : Int32)).toNatClampNeg), .int (xs (i + (2 : Int32)).toNatClampNeg), .ref (s.heap.size + 177)]) (rest := []) (μ' := μ102) (r := r101) ⟨hx, hb, hml, hown, hts⟩ (mL_tune l hlt D cA s.heap.size H.size μ hq0 (xs (i + (1 : Int32)).toNatClampNeg) (xs (i + (2 : Int32)).toNatClampNeg) hqo hc103) (vx_cwSW 4 hts gL_law_L_tune rfl rfl rfl (by decide +kernel) ⟨Nat.le_of_ble_eq_true rfl, Nat.le_of_ble_eq_true rfl⟩) hK hN hX hP hS rfl hl.1 (Nat.le_of_ble_eq_true rfl) dL_law_474 ⟨(show k0 + 2 ≤ 601024 by omega), (show n0 + 12 ≤ 7293034 by omega)⟩ rfl (fun H locs hP hS => ?_)
                  refine lv_istore (lv' := [(5, .int r101), (0, .ref b), (1, .ref (s.heap.size + 0)), (2, .ref (s.heap.size + 132)), (3, .ref (s.heap.size + 177)), (4, .int i)]) hx hb dL_law_477 hl (by decide) rfl (fun ls hl => ?_)
                  refine lv_aload_n hx hb dL_law_479 rfl (lv_at hl 3 rfl) ?_
                  refine lv_aload_n hx hb dL_law_480 rfl (lv_at hl 1 rfl) ?_
                  refine lv_iload hx hb dL_law_481 (lv_at hl 5 rfl) ?_
                  refine lv_iconst (v := (1 : Int32)) hx hb dL_law_483 (by decide) ?_
                  refine lv_iadd hx hb dL_law_484 ?_
                  obtain ⟨hg104, hm⟩ := gd_inv hm
                  refine va_sld hx hb hSc hbl hbA hS hg104 dL_law_485 ?_
                  refine lv_aload_n hx hb dL_law_486 rfl (lv_at hl 1 rfl) ?_
                  refine lv_iload hx hb dL_law_487 (lv_at hl 5 rfl) ?_
                  refine lv_iconst (v := (2 : Int32)) hx hb dL_law_489 (by decide) ?_
                  refine lv_iadd hx hb dL_law_490 ?_
                  obtain ⟨hg105, hm⟩ := gd_inv hm
                  refine va_sld hx hb hSc hbl hbA hS hg105 dL_law_491 ?_
                  obtain ⟨r106, μ107, hc108, hm⟩ := bO2_inv hm
                  refine t_cVi (As := [.int (xs (i + (1 : Int32)).toNatClampNeg), .int (xs (i + (2 : Int32)).toNatClampNeg)]) (rest := []) (μ' := μ107) (r := r106) ⟨hx, hb, hml, hown, hts⟩ (mX8_tune l D cA s.heap.size H.size μ102 hq8 (xs (i + (1 : Int32)).toNatClampNeg) (xs (i + (2 : Int32)).toNatClampNeg) hc108) (cwV 2 hts gL_law_X8_tune rfl rfl rfl (by decide +kernel) ⟨Nat.le_of_ble_eq_true rfl, Nat.le_of_ble_eq_true rfl⟩) (va_recv hK hP (q0 := 132) rfl (tw_obj hq8 (by decide))) hK hN hP hS (Nat.le_refl _) rfl hl.1 (Nat.le_of_ble_eq_true rfl) dL_law_492 ⟨(show k0 + 2 + 0 ≤ 601024 by omega), (show n0 + 12 + 0 ≤ 7293034 by omega)⟩ rfl (fun H locs hP hS => ?_)
                  refine lv_istore (lv' := [(6, .int r106), (5, .int r101), (0, .ref b), (1, .ref (s.heap.size + 0)), (2, .ref (s.heap.size + 132)), (3, .ref (s.heap.size + 177)), (4, .int i)]) hx hb dL_law_495 hl (by decide) rfl (fun ls hl => ?_)
                  refine lv_aload_n hx hb dL_law_497 rfl (lv_at hl 4 rfl) ?_
                  refine t_cVi (As := []) (rest := []) (μ' := μ107) (r := (X8_thrown 132 μ107)) ⟨hx, hb, hml, hown, hts⟩ (mX8_thrown l D cA s.heap.size H.size μ107 hq8 rfl) (cwV 0 hts gL_law_X8_thrown rfl rfl rfl (by decide +kernel) ⟨Nat.le_of_ble_eq_true rfl, Nat.le_of_ble_eq_true rfl⟩) (va_recv hK hP (q0 := 132) rfl (tw_obj hq8 (by decide))) hK hN hP hS (Nat.le_refl _) rfl hl.1 (Nat.le_of_ble_eq_true rfl) dL_law_498 ⟨(show k0 + 2 + 0 + 0 ≤ 601024 by omega), (show n0 + 12 + 0 + 0 ≤ 7293034 by omega)⟩ rfl (fun H locs hP hS => ?_)
                  refine lv_iload hx hb dL_law_501 (lv_at hl 1 rfl) ?_
                  refine lv_icmp_eq (tgt := 508) hx hb dL_law_503 (by decide) (fun c111 => ?_) (fun c111 => ?_)
                  · rw [if_pos c111] at hm
                    refine lv_iload hx hb dL_law_508 (lv_at hl 1 rfl) ?_
                    refine lv_if_ne (tgt := 525) hx hb dL_law_510 (by decide) (fun c112 => ?_) (fun c112 => ?_)
                    · rw [if_neg c112] at hm
                      refine lv_goto (tgt := 1211) hx hb dL_law_525 (by decide) ?_
                      obtain ⟨x113, ex113⟩ : ∃ z : Int32, z = i + (4 : Int32) := ⟨_, rfl⟩
                      replace hm := bV_of hm ex113
                      refine lv_iinc (v := x113) (lv' := [(4, .int x113), (6, .int r106), (5, .int r101), (0, .ref b), (1, .ref (s.heap.size + 0)), (2, .ref (s.heap.size + 132)), (3, .ref (s.heap.size + 177))]) hx hb dL_law_1211 hl (k := 6) rfl (by rw [ex113]; rfl) (by decide) rfl (fun ls hl => ?_)
                      refine lv_goto (tgt := 23) hx hb dL_law_1214 (by decide) ?_
                      exact ih x113 μ107 _ _ _ _ (k0 + 2 + 0 + 0) (n0 + 12 + 0 + 0) (by omega) (by omega) hd0 hm hP hS (lv_sub hl [3, 4, 5, 6, 0] rfl)
                    · rw [if_pos c112] at hm
                      refine lv_aload_n hx hb dL_law_513 rfl (lv_at hl 5 rfl) ?_
                      refine lv_iconst (v := (0 : Int32)) hx hb dL_law_514 (by decide) ?_
                      obtain ⟨hg114, hm⟩ := gd_inv hm
                      refine t_lald hx hb hK hP hqo hg114 dL_law_515 ?_
                      refine lv_iload hx hb dL_law_516 (lv_at hl 0 rfl) ?_
                      refine lv_i2l (v := r106.toInt64) hx hb dL_law_518 rfl ?_
                      refine W.lcmp hx hb dL_law_519 ?_
                      refine lv_if_eq (tgt := 525) hx hb dL_law_520 (by decide) (fun c115 => ?_) (fun c115 => ?_)
                      · rw [if_pos c115] at hm
                        refine lv_goto (tgt := 1211) hx hb dL_law_525 (by decide) ?_
                        obtain ⟨x116, ex116⟩ : ∃ z : Int32, z = i + (4 : Int32) := ⟨_, rfl⟩
                        replace hm := bV_of hm ex116
                        refine lv_iinc (v := x116) (lv' := [(4, .int x116), (6, .int r106), (5, .int r101), (0, .ref b), (1, .ref (s.heap.size + 0)), (2, .ref (s.heap.size + 132)), (3, .ref (s.heap.size + 177))]) hx hb dL_law_1211 hl (k := 6) rfl (by rw [ex116]; rfl) (by decide) rfl (fun ls hl => ?_)
                        refine lv_goto (tgt := 23) hx hb dL_law_1214 (by decide) ?_
                        exact ih x116 μ107 _ _ _ _ (k0 + 2 + 0 + 0) (n0 + 12 + 0 + 0) (by omega) (by omega) hd0 hm hP hS (lv_sub hl [3, 4, 5, 6, 0] rfl)
                      · rw [if_neg c115] at hm
                        refine lv_iconst (v := (0 : Int32)) hx hb dL_law_523 (by decide) ?_
                        cases hm
                  · rw [if_neg c111] at hm
                    refine lv_iconst (v := (0 : Int32)) hx hb dL_law_506 (by decide) ?_
                    cases hm
                · rw [if_neg c98] at hm
                  by_cases c117 : ((xs i.toNatClampNeg) &&& (31 : Int32)) = 6
                  · rw [if_pos c117] at hm
                    refine lv_tableIn (tgt := 528) hx hb dL_law_39 (by rw [c117]; decide) (by rw [c117]; decide) (by rw [c117]; rfl) (by decide) ?_
                    refine lv_aload_n hx hb dL_law_528 rfl (lv_at hl 1 rfl) ?_
                    refine lv_aload_n hx hb dL_law_529 rfl (lv_at hl 0 rfl) ?_
                    refine lv_iload hx hb dL_law_530 (lv_at hl 4 rfl) ?_
                    refine lv_iconst (v := (1 : Int32)) hx hb dL_law_532 (by decide) ?_
                    refine lv_iadd hx hb dL_law_533 ?_
                    obtain ⟨hg118, hm⟩ := gd_inv hm
                    refine va_sld hx hb hSc hbl hbA hS hg118 dL_law_534 ?_
                    refine lv_aload_n hx hb dL_law_535 rfl (lv_at hl 0 rfl) ?_
                    refine lv_iload hx hb dL_law_536 (lv_at hl 4 rfl) ?_
                    refine lv_iconst (v := (2 : Int32)) hx hb dL_law_538 (by decide) ?_
                    refine lv_iadd hx hb dL_law_539 ?_
                    obtain ⟨hg119, hm⟩ := gd_inv hm
                    refine va_sld hx hb hSc hbl hbA hS hg119 dL_law_540 ?_
                    refine lv_aload_n hx hb dL_law_541 rfl (lv_at hl 3 rfl) ?_
                    obtain ⟨r120, μ121, hc122, hm⟩ := bO2_inv hm
                    refine t_cL (As := [.ref (s.heap.size + 0), .int (xs (i + (1 : Int32)).toNatClampNeg), .int (xs (i + (2 : Int32)).toNatClampNeg), .ref (s.heap.size + 177)]) (rest := []) (μ' := μ121) (r := r120) ⟨hx, hb, hml, hown, hts⟩ (mL_sit l hlt D cA s.heap.size H.size μ hq0 (xs (i + (1 : Int32)).toNatClampNeg) (xs (i + (2 : Int32)).toNatClampNeg) hqo hc122) (vx_cwSW 4 hts gL_law_L_sit rfl rfl rfl (by decide +kernel) ⟨Nat.le_of_ble_eq_true rfl, Nat.le_of_ble_eq_true rfl⟩) hK hN hX hP hS rfl hl.1 (Nat.le_of_ble_eq_true rfl) dL_law_542 ⟨(show k0 + 1 ≤ 601024 by omega), (show n0 + 6 ≤ 7293034 by omega)⟩ rfl (fun H locs hP hS => ?_)
                    refine lv_istore (lv' := [(5, .int r120), (0, .ref b), (1, .ref (s.heap.size + 0)), (2, .ref (s.heap.size + 132)), (3, .ref (s.heap.size + 177)), (4, .int i)]) hx hb dL_law_545 hl (by decide) rfl (fun ls hl => ?_)
                    refine lv_aload_n hx hb dL_law_547 rfl (lv_at hl 3 rfl) ?_
                    refine lv_aload_n hx hb dL_law_548 rfl (lv_at hl 1 rfl) ?_
                    refine lv_iload hx hb dL_law_549 (lv_at hl 5 rfl) ?_
                    refine lv_iconst (v := (1 : Int32)) hx hb dL_law_551 (by decide) ?_
                    refine lv_iadd hx hb dL_law_552 ?_
                    obtain ⟨hg123, hm⟩ := gd_inv hm
                    refine va_sld hx hb hSc hbl hbA hS hg123 dL_law_553 ?_
                    refine lv_aload_n hx hb dL_law_554 rfl (lv_at hl 1 rfl) ?_
                    refine lv_iload hx hb dL_law_555 (lv_at hl 5 rfl) ?_
                    refine lv_iconst (v := (2 : Int32)) hx hb dL_law_557 (by decide) ?_
                    refine lv_iadd hx hb dL_law_558 ?_
                    obtain ⟨hg124, hm⟩ := gd_inv hm
                    refine va_sld hx hb hSc hbl hbA hS hg124 dL_law_559 ?_
                    obtain ⟨r125, μ126, hc127, hm⟩ := bO2_inv hm
                    refine t_cVi (As := [.int (xs (i + (1 : Int32)).toNatClampNeg), .int (xs (i + (2 : Int32)).toNatClampNeg)]) (rest := []) (μ' := μ126) (r := r125) ⟨hx, hb, hml, hown, hts⟩ (mX8_sit l D cA s.heap.size H.size μ121 hq8 (xs (i + (1 : Int32)).toNatClampNeg) (xs (i + (2 : Int32)).toNatClampNeg) hc127) (cwV 2 hts gL_law_X8_sit rfl rfl rfl (by decide +kernel) ⟨Nat.le_of_ble_eq_true rfl, Nat.le_of_ble_eq_true rfl⟩) (va_recv hK hP (q0 := 132) rfl (tw_obj hq8 (by decide))) hK hN hP hS (Nat.le_refl _) rfl hl.1 (Nat.le_of_ble_eq_true rfl) dL_law_560 ⟨(show k0 + 1 + 0 ≤ 601024 by omega), (show n0 + 6 + 0 ≤ 7293034 by omega)⟩ rfl (fun H locs hP hS => ?_)
                    refine lv_istore (lv' := [(6, .int r125), (5, .int r120), (0, .ref b), (1, .ref (s.heap.size + 0)), (2, .ref (s.heap.size + 132)), (3, .ref (s.heap.size + 177)), (4, .int i)]) hx hb dL_law_563 hl (by decide) rfl (fun ls hl => ?_)
                    refine lv_aload_n hx hb dL_law_565 rfl (lv_at hl 4 rfl) ?_
                    refine t_cVi (As := []) (rest := []) (μ' := μ126) (r := (X8_thrown 132 μ126)) ⟨hx, hb, hml, hown, hts⟩ (mX8_thrown l D cA s.heap.size H.size μ126 hq8 rfl) (cwV 0 hts gL_law_X8_thrown rfl rfl rfl (by decide +kernel) ⟨Nat.le_of_ble_eq_true rfl, Nat.le_of_ble_eq_true rfl⟩) (va_recv hK hP (q0 := 132) rfl (tw_obj hq8 (by decide))) hK hN hP hS (Nat.le_refl _) rfl hl.1 (Nat.le_of_ble_eq_true rfl) dL_law_566 ⟨(show k0 + 1 + 0 + 0 ≤ 601024 by omega), (show n0 + 6 + 0 + 0 ≤ 7293034 by omega)⟩ rfl (fun H locs hP hS => ?_)
                    refine lv_iload hx hb dL_law_569 (lv_at hl 1 rfl) ?_
                    refine lv_icmp_eq (tgt := 576) hx hb dL_law_571 (by decide) (fun c130 => ?_) (fun c130 => ?_)
                    · rw [if_pos c130] at hm
                      refine lv_iload hx hb dL_law_576 (lv_at hl 1 rfl) ?_
                      refine lv_if_ne (tgt := 593) hx hb dL_law_578 (by decide) (fun c131 => ?_) (fun c131 => ?_)
                      · rw [if_neg c131] at hm
                        refine lv_goto (tgt := 1211) hx hb dL_law_593 (by decide) ?_
                        obtain ⟨x132, ex132⟩ : ∃ z : Int32, z = i + (4 : Int32) := ⟨_, rfl⟩
                        replace hm := bV_of hm ex132
                        refine lv_iinc (v := x132) (lv' := [(4, .int x132), (6, .int r125), (5, .int r120), (0, .ref b), (1, .ref (s.heap.size + 0)), (2, .ref (s.heap.size + 132)), (3, .ref (s.heap.size + 177))]) hx hb dL_law_1211 hl (k := 6) rfl (by rw [ex132]; rfl) (by decide) rfl (fun ls hl => ?_)
                        refine lv_goto (tgt := 23) hx hb dL_law_1214 (by decide) ?_
                        exact ih x132 μ126 _ _ _ _ (k0 + 1 + 0 + 0) (n0 + 6 + 0 + 0) (by omega) (by omega) hd0 hm hP hS (lv_sub hl [3, 4, 5, 6, 0] rfl)
                      · rw [if_pos c131] at hm
                        refine lv_aload_n hx hb dL_law_581 rfl (lv_at hl 5 rfl) ?_
                        refine lv_iconst (v := (0 : Int32)) hx hb dL_law_582 (by decide) ?_
                        obtain ⟨hg133, hm⟩ := gd_inv hm
                        refine t_lald hx hb hK hP hqo hg133 dL_law_583 ?_
                        refine lv_iload hx hb dL_law_584 (lv_at hl 0 rfl) ?_
                        refine lv_i2l (v := r125.toInt64) hx hb dL_law_586 rfl ?_
                        refine W.lcmp hx hb dL_law_587 ?_
                        refine lv_if_eq (tgt := 593) hx hb dL_law_588 (by decide) (fun c134 => ?_) (fun c134 => ?_)
                        · rw [if_pos c134] at hm
                          refine lv_goto (tgt := 1211) hx hb dL_law_593 (by decide) ?_
                          obtain ⟨x135, ex135⟩ : ∃ z : Int32, z = i + (4 : Int32) := ⟨_, rfl⟩
                          replace hm := bV_of hm ex135
                          refine lv_iinc (v := x135) (lv' := [(4, .int x135), (6, .int r125), (5, .int r120), (0, .ref b), (1, .ref (s.heap.size + 0)), (2, .ref (s.heap.size + 132)), (3, .ref (s.heap.size + 177))]) hx hb dL_law_1211 hl (k := 6) rfl (by rw [ex135]; rfl) (by decide) rfl (fun ls hl => ?_)
                          refine lv_goto (tgt := 23) hx hb dL_law_1214 (by decide) ?_
                          exact ih x135 μ126 _ _ _ _ (k0 + 1 + 0 + 0) (n0 + 6 + 0 + 0) (by omega) (by omega) hd0 hm hP hS (lv_sub hl [3, 4, 5, 6, 0] rfl)
                        · rw [if_neg c134] at hm
                          refine lv_iconst (v := (0 : Int32)) hx hb dL_law_591 (by decide) ?_
                          cases hm
                    · rw [if_neg c130] at hm
                      refine lv_iconst (v := (0 : Int32)) hx hb dL_law_574 (by decide) ?_
                      cases hm
                  · rw [if_neg c117] at hm
                    by_cases c136 : ((xs i.toNatClampNeg) &&& (31 : Int32)) = 7
                    · rw [if_pos c136] at hm
                      refine lv_tableIn (tgt := 596) hx hb dL_law_39 (by rw [c136]; decide) (by rw [c136]; decide) (by rw [c136]; rfl) (by decide) ?_
                      refine lv_aload_n hx hb dL_law_596 rfl (lv_at hl 1 rfl) ?_
                      refine lv_aload_n hx hb dL_law_597 rfl (lv_at hl 0 rfl) ?_
                      refine lv_iload hx hb dL_law_598 (lv_at hl 4 rfl) ?_
                      refine lv_iconst (v := (1 : Int32)) hx hb dL_law_600 (by decide) ?_
                      refine lv_iadd hx hb dL_law_601 ?_
                      obtain ⟨hg137, hm⟩ := gd_inv hm
                      refine va_sld hx hb hSc hbl hbA hS hg137 dL_law_602 ?_
                      refine lv_aload_n hx hb dL_law_603 rfl (lv_at hl 0 rfl) ?_
                      refine lv_iload hx hb dL_law_604 (lv_at hl 4 rfl) ?_
                      refine lv_iconst (v := (2 : Int32)) hx hb dL_law_606 (by decide) ?_
                      refine lv_iadd hx hb dL_law_607 ?_
                      obtain ⟨hg138, hm⟩ := gd_inv hm
                      refine va_sld hx hb hSc hbl hbA hS hg138 dL_law_608 ?_
                      refine lv_aload_n hx hb dL_law_609 rfl (lv_at hl 3 rfl) ?_
                      obtain ⟨r139, μ140, hc141, hm⟩ := bO2_inv hm
                      refine t_cL (As := [.ref (s.heap.size + 0), .int (xs (i + (1 : Int32)).toNatClampNeg), .int (xs (i + (2 : Int32)).toNatClampNeg), .ref (s.heap.size + 177)]) (rest := []) (μ' := μ140) (r := r139) ⟨hx, hb, hml, hown, hts⟩ (mL_swap l hlt D cA s.heap.size H.size μ hq0 (xs (i + (1 : Int32)).toNatClampNeg) (xs (i + (2 : Int32)).toNatClampNeg) hqo hc141) (vx_cwSW 4 hts gL_law_L_swap rfl rfl rfl (by decide +kernel) ⟨Nat.le_of_ble_eq_true rfl, Nat.le_of_ble_eq_true rfl⟩) hK hN hX hP hS rfl hl.1 (Nat.le_of_ble_eq_true rfl) dL_law_610 ⟨(show k0 + 2 ≤ 601024 by omega), (show n0 + 12 ≤ 7293034 by omega)⟩ rfl (fun H locs hP hS => ?_)
                      refine lv_istore (lv' := [(5, .int r139), (0, .ref b), (1, .ref (s.heap.size + 0)), (2, .ref (s.heap.size + 132)), (3, .ref (s.heap.size + 177)), (4, .int i)]) hx hb dL_law_613 hl (by decide) rfl (fun ls hl => ?_)
                      refine lv_aload_n hx hb dL_law_615 rfl (lv_at hl 3 rfl) ?_
                      refine lv_aload_n hx hb dL_law_616 rfl (lv_at hl 1 rfl) ?_
                      refine lv_iload hx hb dL_law_617 (lv_at hl 5 rfl) ?_
                      refine lv_iconst (v := (1 : Int32)) hx hb dL_law_619 (by decide) ?_
                      refine lv_iadd hx hb dL_law_620 ?_
                      obtain ⟨hg142, hm⟩ := gd_inv hm
                      refine va_sld hx hb hSc hbl hbA hS hg142 dL_law_621 ?_
                      refine lv_aload_n hx hb dL_law_622 rfl (lv_at hl 1 rfl) ?_
                      refine lv_iload hx hb dL_law_623 (lv_at hl 5 rfl) ?_
                      refine lv_iconst (v := (2 : Int32)) hx hb dL_law_625 (by decide) ?_
                      refine lv_iadd hx hb dL_law_626 ?_
                      obtain ⟨hg143, hm⟩ := gd_inv hm
                      refine va_sld hx hb hSc hbl hbA hS hg143 dL_law_627 ?_
                      obtain ⟨r144, μ145, hc146, hm⟩ := bO2_inv hm
                      refine t_cVi (As := [.int (xs (i + (1 : Int32)).toNatClampNeg), .int (xs (i + (2 : Int32)).toNatClampNeg)]) (rest := []) (μ' := μ145) (r := r144) ⟨hx, hb, hml, hown, hts⟩ (mX8_swap l D cA s.heap.size H.size μ140 hq8 (xs (i + (1 : Int32)).toNatClampNeg) (xs (i + (2 : Int32)).toNatClampNeg) hc146) (cwV 2 hts gL_law_X8_swap rfl rfl rfl (by decide +kernel) ⟨Nat.le_of_ble_eq_true rfl, Nat.le_of_ble_eq_true rfl⟩) (va_recv hK hP (q0 := 132) rfl (tw_obj hq8 (by decide))) hK hN hP hS (Nat.le_refl _) rfl hl.1 (Nat.le_of_ble_eq_true rfl) dL_law_628 ⟨(show k0 + 2 + 0 ≤ 601024 by omega), (show n0 + 12 + 0 ≤ 7293034 by omega)⟩ rfl (fun H locs hP hS => ?_)
                      refine lv_istore (lv' := [(6, .int r144), (5, .int r139), (0, .ref b), (1, .ref (s.heap.size + 0)), (2, .ref (s.heap.size + 132)), (3, .ref (s.heap.size + 177)), (4, .int i)]) hx hb dL_law_631 hl (by decide) rfl (fun ls hl => ?_)
                      refine lv_aload_n hx hb dL_law_633 rfl (lv_at hl 4 rfl) ?_
                      refine t_cVi (As := []) (rest := []) (μ' := μ145) (r := (X8_thrown 132 μ145)) ⟨hx, hb, hml, hown, hts⟩ (mX8_thrown l D cA s.heap.size H.size μ145 hq8 rfl) (cwV 0 hts gL_law_X8_thrown rfl rfl rfl (by decide +kernel) ⟨Nat.le_of_ble_eq_true rfl, Nat.le_of_ble_eq_true rfl⟩) (va_recv hK hP (q0 := 132) rfl (tw_obj hq8 (by decide))) hK hN hP hS (Nat.le_refl _) rfl hl.1 (Nat.le_of_ble_eq_true rfl) dL_law_634 ⟨(show k0 + 2 + 0 + 0 ≤ 601024 by omega), (show n0 + 12 + 0 + 0 ≤ 7293034 by omega)⟩ rfl (fun H locs hP hS => ?_)
                      refine lv_iload hx hb dL_law_637 (lv_at hl 1 rfl) ?_
                      refine lv_icmp_eq (tgt := 644) hx hb dL_law_639 (by decide) (fun c149 => ?_) (fun c149 => ?_)
                      · rw [if_pos c149] at hm
                        refine lv_iload hx hb dL_law_644 (lv_at hl 1 rfl) ?_
                        refine lv_if_ne (tgt := 661) hx hb dL_law_646 (by decide) (fun c150 => ?_) (fun c150 => ?_)
                        · rw [if_neg c150] at hm
                          refine lv_goto (tgt := 1211) hx hb dL_law_661 (by decide) ?_
                          obtain ⟨x151, ex151⟩ : ∃ z : Int32, z = i + (4 : Int32) := ⟨_, rfl⟩
                          replace hm := bV_of hm ex151
                          refine lv_iinc (v := x151) (lv' := [(4, .int x151), (6, .int r144), (5, .int r139), (0, .ref b), (1, .ref (s.heap.size + 0)), (2, .ref (s.heap.size + 132)), (3, .ref (s.heap.size + 177))]) hx hb dL_law_1211 hl (k := 6) rfl (by rw [ex151]; rfl) (by decide) rfl (fun ls hl => ?_)
                          refine lv_goto (tgt := 23) hx hb dL_law_1214 (by decide) ?_
                          exact ih x151 μ145 _ _ _ _ (k0 + 2 + 0 + 0) (n0 + 12 + 0 + 0) (by omega) (by omega) hd0 hm hP hS (lv_sub hl [3, 4, 5, 6, 0] rfl)
                        · rw [if_pos c150] at hm
                          refine lv_aload_n hx hb dL_law_649 rfl (lv_at hl 5 rfl) ?_
                          refine lv_iconst (v := (0 : Int32)) hx hb dL_law_650 (by decide) ?_
                          obtain ⟨hg152, hm⟩ := gd_inv hm
                          refine t_lald hx hb hK hP hqo hg152 dL_law_651 ?_
                          refine lv_iload hx hb dL_law_652 (lv_at hl 0 rfl) ?_
                          refine lv_i2l (v := r144.toInt64) hx hb dL_law_654 rfl ?_
                          refine W.lcmp hx hb dL_law_655 ?_
                          refine lv_if_eq (tgt := 661) hx hb dL_law_656 (by decide) (fun c153 => ?_) (fun c153 => ?_)
                          · rw [if_pos c153] at hm
                            refine lv_goto (tgt := 1211) hx hb dL_law_661 (by decide) ?_
                            obtain ⟨x154, ex154⟩ : ∃ z : Int32, z = i + (4 : Int32) := ⟨_, rfl⟩
                            replace hm := bV_of hm ex154
                            refine lv_iinc (v := x154) (lv' := [(4, .int x154), (6, .int r144), (5, .int r139), (0, .ref b), (1, .ref (s.heap.size + 0)), (2, .ref (s.heap.size + 132)), (3, .ref (s.heap.size + 177))]) hx hb dL_law_1211 hl (k := 6) rfl (by rw [ex154]; rfl) (by decide) rfl (fun ls hl => ?_)
                            refine lv_goto (tgt := 23) hx hb dL_law_1214 (by decide) ?_
                            exact ih x154 μ145 _ _ _ _ (k0 + 2 + 0 + 0) (n0 + 12 + 0 + 0) (by omega) (by omega) hd0 hm hP hS (lv_sub hl [3, 4, 5, 6, 0] rfl)
                          · rw [if_neg c153] at hm
                            refine lv_iconst (v := (0 : Int32)) hx hb dL_law_659 (by decide) ?_
                            cases hm
                      · rw [if_neg c149] at hm
                        refine lv_iconst (v := (0 : Int32)) hx hb dL_law_642 (by decide) ?_
                        cases hm
                    · rw [if_neg c136] at hm
                      by_cases c155 : ((xs i.toNatClampNeg) &&& (31 : Int32)) = 8
                      · rw [if_pos c155] at hm
                        refine lv_tableIn (tgt := 664) hx hb dL_law_39 (by rw [c155]; decide) (by rw [c155]; decide) (by rw [c155]; rfl) (by decide) ?_
                        refine lv_aload_n hx hb dL_law_664 rfl (lv_at hl 1 rfl) ?_
                        refine lv_aload_n hx hb dL_law_665 rfl (lv_at hl 0 rfl) ?_
                        refine lv_iload hx hb dL_law_666 (lv_at hl 4 rfl) ?_
                        refine lv_iconst (v := (1 : Int32)) hx hb dL_law_668 (by decide) ?_
                        refine lv_iadd hx hb dL_law_669 ?_
                        obtain ⟨hg156, hm⟩ := gd_inv hm
                        refine va_sld hx hb hSc hbl hbA hS hg156 dL_law_670 ?_
                        refine lv_aload_n hx hb dL_law_671 rfl (lv_at hl 0 rfl) ?_
                        refine lv_iload hx hb dL_law_672 (lv_at hl 4 rfl) ?_
                        refine lv_iconst (v := (2 : Int32)) hx hb dL_law_674 (by decide) ?_
                        refine lv_iadd hx hb dL_law_675 ?_
                        obtain ⟨hg157, hm⟩ := gd_inv hm
                        refine va_sld hx hb hSc hbl hbA hS hg157 dL_law_676 ?_
                        refine lv_aload_n hx hb dL_law_677 rfl (lv_at hl 3 rfl) ?_
                        obtain ⟨r158, μ159, hc160, hm⟩ := bO2_inv hm
                        refine t_cL (As := [.ref (s.heap.size + 0), .int (xs (i + (1 : Int32)).toNatClampNeg), .int (xs (i + (2 : Int32)).toNatClampNeg), .ref (s.heap.size + 177)]) (rest := []) (μ' := μ159) (r := r158) ⟨hx, hb, hml, hown, hts⟩ (mL_booth l hlt D cA s.heap.size H.size μ hq0 (xs (i + (1 : Int32)).toNatClampNeg) (xs (i + (2 : Int32)).toNatClampNeg) hqo hc160) (vx_cwSW 4 hts gL_law_L_booth rfl rfl rfl (by decide +kernel) ⟨Nat.le_of_ble_eq_true rfl, Nat.le_of_ble_eq_true rfl⟩) hK hN hX hP hS rfl hl.1 (Nat.le_of_ble_eq_true rfl) dL_law_678 ⟨(show k0 + 1 ≤ 601024 by omega), (show n0 + 6 ≤ 7293034 by omega)⟩ rfl (fun H locs hP hS => ?_)
                        refine lv_istore (lv' := [(5, .int r158), (0, .ref b), (1, .ref (s.heap.size + 0)), (2, .ref (s.heap.size + 132)), (3, .ref (s.heap.size + 177)), (4, .int i)]) hx hb dL_law_681 hl (by decide) rfl (fun ls hl => ?_)
                        refine lv_aload_n hx hb dL_law_683 rfl (lv_at hl 3 rfl) ?_
                        refine lv_aload_n hx hb dL_law_684 rfl (lv_at hl 1 rfl) ?_
                        refine lv_iload hx hb dL_law_685 (lv_at hl 5 rfl) ?_
                        refine lv_iconst (v := (1 : Int32)) hx hb dL_law_687 (by decide) ?_
                        refine lv_iadd hx hb dL_law_688 ?_
                        obtain ⟨hg161, hm⟩ := gd_inv hm
                        refine va_sld hx hb hSc hbl hbA hS hg161 dL_law_689 ?_
                        refine lv_aload_n hx hb dL_law_690 rfl (lv_at hl 1 rfl) ?_
                        refine lv_iload hx hb dL_law_691 (lv_at hl 5 rfl) ?_
                        refine lv_iconst (v := (2 : Int32)) hx hb dL_law_693 (by decide) ?_
                        refine lv_iadd hx hb dL_law_694 ?_
                        obtain ⟨hg162, hm⟩ := gd_inv hm
                        refine va_sld hx hb hSc hbl hbA hS hg162 dL_law_695 ?_
                        obtain ⟨r163, μ164, hc165, hm⟩ := bO2_inv hm
                        refine t_cVi (As := [.int (xs (i + (1 : Int32)).toNatClampNeg), .int (xs (i + (2 : Int32)).toNatClampNeg)]) (rest := []) (μ' := μ164) (r := r163) ⟨hx, hb, hml, hown, hts⟩ (mX8_booth l D cA s.heap.size H.size μ159 hq8 (xs (i + (1 : Int32)).toNatClampNeg) (xs (i + (2 : Int32)).toNatClampNeg) hc165) (cwV 2 hts gL_law_X8_booth rfl rfl rfl (by decide +kernel) ⟨Nat.le_of_ble_eq_true rfl, Nat.le_of_ble_eq_true rfl⟩) (va_recv hK hP (q0 := 132) rfl (tw_obj hq8 (by decide))) hK hN hP hS (Nat.le_refl _) rfl hl.1 (Nat.le_of_ble_eq_true rfl) dL_law_696 ⟨(show k0 + 1 + 1 ≤ 601024 by omega), (show n0 + 6 + 11 ≤ 7293034 by omega)⟩ rfl (fun H locs hP hS => ?_)
                        refine lv_istore (lv' := [(6, .int r163), (5, .int r158), (0, .ref b), (1, .ref (s.heap.size + 0)), (2, .ref (s.heap.size + 132)), (3, .ref (s.heap.size + 177)), (4, .int i)]) hx hb dL_law_699 hl (by decide) rfl (fun ls hl => ?_)
                        refine lv_aload_n hx hb dL_law_701 rfl (lv_at hl 4 rfl) ?_
                        refine t_cVi (As := []) (rest := []) (μ' := μ164) (r := (X8_thrown 132 μ164)) ⟨hx, hb, hml, hown, hts⟩ (mX8_thrown l D cA s.heap.size H.size μ164 hq8 rfl) (cwV 0 hts gL_law_X8_thrown rfl rfl rfl (by decide +kernel) ⟨Nat.le_of_ble_eq_true rfl, Nat.le_of_ble_eq_true rfl⟩) (va_recv hK hP (q0 := 132) rfl (tw_obj hq8 (by decide))) hK hN hP hS (Nat.le_refl _) rfl hl.1 (Nat.le_of_ble_eq_true rfl) dL_law_702 ⟨(show k0 + 1 + 1 + 0 ≤ 601024 by omega), (show n0 + 6 + 11 + 0 ≤ 7293034 by omega)⟩ rfl (fun H locs hP hS => ?_)
                        refine lv_iload hx hb dL_law_705 (lv_at hl 1 rfl) ?_
                        refine lv_icmp_eq (tgt := 712) hx hb dL_law_707 (by decide) (fun c168 => ?_) (fun c168 => ?_)
                        · rw [if_pos c168] at hm
                          refine lv_iload hx hb dL_law_712 (lv_at hl 1 rfl) ?_
                          refine lv_if_ne (tgt := 729) hx hb dL_law_714 (by decide) (fun c169 => ?_) (fun c169 => ?_)
                          · rw [if_neg c169] at hm
                            refine lv_goto (tgt := 1211) hx hb dL_law_729 (by decide) ?_
                            obtain ⟨x170, ex170⟩ : ∃ z : Int32, z = i + (4 : Int32) := ⟨_, rfl⟩
                            replace hm := bV_of hm ex170
                            refine lv_iinc (v := x170) (lv' := [(4, .int x170), (6, .int r163), (5, .int r158), (0, .ref b), (1, .ref (s.heap.size + 0)), (2, .ref (s.heap.size + 132)), (3, .ref (s.heap.size + 177))]) hx hb dL_law_1211 hl (k := 6) rfl (by rw [ex170]; rfl) (by decide) rfl (fun ls hl => ?_)
                            refine lv_goto (tgt := 23) hx hb dL_law_1214 (by decide) ?_
                            exact ih x170 μ164 _ _ _ _ (k0 + 1 + 1 + 0) (n0 + 6 + 11 + 0) (by omega) (by omega) hd0 hm hP hS (lv_sub hl [3, 4, 5, 6, 0] rfl)
                          · rw [if_pos c169] at hm
                            refine lv_aload_n hx hb dL_law_717 rfl (lv_at hl 5 rfl) ?_
                            refine lv_iconst (v := (0 : Int32)) hx hb dL_law_718 (by decide) ?_
                            obtain ⟨hg171, hm⟩ := gd_inv hm
                            refine t_lald hx hb hK hP hqo hg171 dL_law_719 ?_
                            refine lv_iload hx hb dL_law_720 (lv_at hl 0 rfl) ?_
                            refine lv_i2l (v := r163.toInt64) hx hb dL_law_722 rfl ?_
                            refine W.lcmp hx hb dL_law_723 ?_
                            refine lv_if_eq (tgt := 729) hx hb dL_law_724 (by decide) (fun c172 => ?_) (fun c172 => ?_)
                            · rw [if_pos c172] at hm
                              refine lv_goto (tgt := 1211) hx hb dL_law_729 (by decide) ?_
                              obtain ⟨x173, ex173⟩ : ∃ z : Int32, z = i + (4 : Int32) := ⟨_, rfl⟩
                              replace hm := bV_of hm ex173
                              refine lv_iinc (v := x173) (lv' := [(4, .int x173), (6, .int r163), (5, .int r158), (0, .ref b), (1, .ref (s.heap.size + 0)), (2, .ref (s.heap.size + 132)), (3, .ref (s.heap.size + 177))]) hx hb dL_law_1211 hl (k := 6) rfl (by rw [ex173]; rfl) (by decide) rfl (fun ls hl => ?_)
                              refine lv_goto (tgt := 23) hx hb dL_law_1214 (by decide) ?_
                              exact ih x173 μ164 _ _ _ _ (k0 + 1 + 1 + 0) (n0 + 6 + 11 + 0) (by omega) (by omega) hd0 hm hP hS (lv_sub hl [3, 4, 5, 6, 0] rfl)
                            · rw [if_neg c172] at hm
                              refine lv_iconst (v := (0 : Int32)) hx hb dL_law_727 (by decide) ?_
                              cases hm
                        · rw [if_neg c168] at hm
                          refine lv_iconst (v := (0 : Int32)) hx hb dL_law_710 (by decide) ?_
                          cases hm
                      · rw [if_neg c155] at hm
                        by_cases c174 : ((xs i.toNatClampNeg) &&& (31 : Int32)) = 9
                        · rw [if_pos c174] at hm
                          refine lv_tableIn (tgt := 732) hx hb dL_law_39 (by rw [c174]; decide) (by rw [c174]; decide) (by rw [c174]; rfl) (by decide) ?_
                          refine lv_aload_n hx hb dL_law_732 rfl (lv_at hl 1 rfl) ?_
                          refine lv_aload_n hx hb dL_law_733 rfl (lv_at hl 0 rfl) ?_
                          refine lv_iload hx hb dL_law_734 (lv_at hl 4 rfl) ?_
                          refine lv_iconst (v := (1 : Int32)) hx hb dL_law_736 (by decide) ?_
                          refine lv_iadd hx hb dL_law_737 ?_
                          obtain ⟨hg175, hm⟩ := gd_inv hm
                          refine va_sld hx hb hSc hbl hbA hS hg175 dL_law_738 ?_
                          refine lv_aload_n hx hb dL_law_739 rfl (lv_at hl 0 rfl) ?_
                          refine lv_iload hx hb dL_law_740 (lv_at hl 4 rfl) ?_
                          refine lv_iconst (v := (2 : Int32)) hx hb dL_law_742 (by decide) ?_
                          refine lv_iadd hx hb dL_law_743 ?_
                          obtain ⟨hg176, hm⟩ := gd_inv hm
                          refine va_sld hx hb hSc hbl hbA hS hg176 dL_law_744 ?_
                          refine lv_aload_n hx hb dL_law_745 rfl (lv_at hl 3 rfl) ?_
                          obtain ⟨r177, μ178, hc179, hm⟩ := bO2_inv hm
                          refine t_cL (As := [.ref (s.heap.size + 0), .int (xs (i + (1 : Int32)).toNatClampNeg), .int (xs (i + (2 : Int32)).toNatClampNeg), .ref (s.heap.size + 177)]) (rest := []) (μ' := μ178) (r := r177) ⟨hx, hb, hml, hown, hts⟩ (mL_interpreter l hlt D cA s.heap.size H.size μ hq0 (xs (i + (1 : Int32)).toNatClampNeg) (xs (i + (2 : Int32)).toNatClampNeg) hqo hc179) (vx_cwSW 4 hts gL_law_L_interpreter rfl rfl rfl (by decide +kernel) ⟨Nat.le_of_ble_eq_true rfl, Nat.le_of_ble_eq_true rfl⟩) hK hN hX hP hS rfl hl.1 (Nat.le_of_ble_eq_true rfl) dL_law_746 ⟨(show k0 + 1 ≤ 601024 by omega), (show n0 + 6 ≤ 7293034 by omega)⟩ rfl (fun H locs hP hS => ?_)
                          refine lv_istore (lv' := [(5, .int r177), (0, .ref b), (1, .ref (s.heap.size + 0)), (2, .ref (s.heap.size + 132)), (3, .ref (s.heap.size + 177)), (4, .int i)]) hx hb dL_law_749 hl (by decide) rfl (fun ls hl => ?_)
                          refine lv_aload_n hx hb dL_law_751 rfl (lv_at hl 3 rfl) ?_
                          refine lv_aload_n hx hb dL_law_752 rfl (lv_at hl 1 rfl) ?_
                          refine lv_iload hx hb dL_law_753 (lv_at hl 5 rfl) ?_
                          refine lv_iconst (v := (1 : Int32)) hx hb dL_law_755 (by decide) ?_
                          refine lv_iadd hx hb dL_law_756 ?_
                          obtain ⟨hg180, hm⟩ := gd_inv hm
                          refine va_sld hx hb hSc hbl hbA hS hg180 dL_law_757 ?_
                          refine lv_aload_n hx hb dL_law_758 rfl (lv_at hl 1 rfl) ?_
                          refine lv_iload hx hb dL_law_759 (lv_at hl 5 rfl) ?_
                          refine lv_iconst (v := (2 : Int32)) hx hb dL_law_761 (by decide) ?_
                          refine lv_iadd hx hb dL_law_762 ?_
                          obtain ⟨hg181, hm⟩ := gd_inv hm
                          refine va_sld hx hb hSc hbl hbA hS hg181 dL_law_763 ?_
                          obtain ⟨r182, μ183, hc184, hm⟩ := bO2_inv hm
                          refine t_cVi (As := [.int (xs (i + (1 : Int32)).toNatClampNeg), .int (xs (i + (2 : Int32)).toNatClampNeg)]) (rest := []) (μ' := μ183) (r := r182) ⟨hx, hb, hml, hown, hts⟩ (mX8_interpreter l D cA s.heap.size H.size μ178 hq8 (xs (i + (1 : Int32)).toNatClampNeg) (xs (i + (2 : Int32)).toNatClampNeg) hc184) (cwV 2 hts gL_law_X8_interpreter rfl rfl rfl (by decide +kernel) ⟨Nat.le_of_ble_eq_true rfl, Nat.le_of_ble_eq_true rfl⟩) (va_recv hK hP (q0 := 132) rfl (tw_obj hq8 (by decide))) hK hN hP hS (Nat.le_refl _) rfl hl.1 (Nat.le_of_ble_eq_true rfl) dL_law_764 ⟨(show k0 + 1 + 1 ≤ 601024 by omega), (show n0 + 6 + 7 ≤ 7293034 by omega)⟩ rfl (fun H locs hP hS => ?_)
                          refine lv_istore (lv' := [(6, .int r182), (5, .int r177), (0, .ref b), (1, .ref (s.heap.size + 0)), (2, .ref (s.heap.size + 132)), (3, .ref (s.heap.size + 177)), (4, .int i)]) hx hb dL_law_767 hl (by decide) rfl (fun ls hl => ?_)
                          refine lv_aload_n hx hb dL_law_769 rfl (lv_at hl 4 rfl) ?_
                          refine t_cVi (As := []) (rest := []) (μ' := μ183) (r := (X8_thrown 132 μ183)) ⟨hx, hb, hml, hown, hts⟩ (mX8_thrown l D cA s.heap.size H.size μ183 hq8 rfl) (cwV 0 hts gL_law_X8_thrown rfl rfl rfl (by decide +kernel) ⟨Nat.le_of_ble_eq_true rfl, Nat.le_of_ble_eq_true rfl⟩) (va_recv hK hP (q0 := 132) rfl (tw_obj hq8 (by decide))) hK hN hP hS (Nat.le_refl _) rfl hl.1 (Nat.le_of_ble_eq_true rfl) dL_law_770 ⟨(show k0 + 1 + 1 + 0 ≤ 601024 by omega), (show n0 + 6 + 7 + 0 ≤ 7293034 by omega)⟩ rfl (fun H locs hP hS => ?_)
                          refine lv_iload hx hb dL_law_773 (lv_at hl 1 rfl) ?_
                          refine lv_icmp_eq (tgt := 780) hx hb dL_law_775 (by decide) (fun c187 => ?_) (fun c187 => ?_)
                          · rw [if_pos c187] at hm
                            refine lv_iload hx hb dL_law_780 (lv_at hl 1 rfl) ?_
                            refine lv_if_ne (tgt := 797) hx hb dL_law_782 (by decide) (fun c188 => ?_) (fun c188 => ?_)
                            · rw [if_neg c188] at hm
                              refine lv_goto (tgt := 1211) hx hb dL_law_797 (by decide) ?_
                              obtain ⟨x189, ex189⟩ : ∃ z : Int32, z = i + (4 : Int32) := ⟨_, rfl⟩
                              replace hm := bV_of hm ex189
                              refine lv_iinc (v := x189) (lv' := [(4, .int x189), (6, .int r182), (5, .int r177), (0, .ref b), (1, .ref (s.heap.size + 0)), (2, .ref (s.heap.size + 132)), (3, .ref (s.heap.size + 177))]) hx hb dL_law_1211 hl (k := 6) rfl (by rw [ex189]; rfl) (by decide) rfl (fun ls hl => ?_)
                              refine lv_goto (tgt := 23) hx hb dL_law_1214 (by decide) ?_
                              exact ih x189 μ183 _ _ _ _ (k0 + 1 + 1 + 0) (n0 + 6 + 7 + 0) (by omega) (by omega) hd0 hm hP hS (lv_sub hl [3, 4, 5, 6, 0] rfl)
                            · rw [if_pos c188] at hm
                              refine lv_aload_n hx hb dL_law_785 rfl (lv_at hl 5 rfl) ?_
                              refine lv_iconst (v := (0 : Int32)) hx hb dL_law_786 (by decide) ?_
                              obtain ⟨hg190, hm⟩ := gd_inv hm
                              refine t_lald hx hb hK hP hqo hg190 dL_law_787 ?_
                              refine lv_iload hx hb dL_law_788 (lv_at hl 0 rfl) ?_
                              refine lv_i2l (v := r182.toInt64) hx hb dL_law_790 rfl ?_
                              refine W.lcmp hx hb dL_law_791 ?_
                              refine lv_if_eq (tgt := 797) hx hb dL_law_792 (by decide) (fun c191 => ?_) (fun c191 => ?_)
                              · rw [if_pos c191] at hm
                                refine lv_goto (tgt := 1211) hx hb dL_law_797 (by decide) ?_
                                obtain ⟨x192, ex192⟩ : ∃ z : Int32, z = i + (4 : Int32) := ⟨_, rfl⟩
                                replace hm := bV_of hm ex192
                                refine lv_iinc (v := x192) (lv' := [(4, .int x192), (6, .int r182), (5, .int r177), (0, .ref b), (1, .ref (s.heap.size + 0)), (2, .ref (s.heap.size + 132)), (3, .ref (s.heap.size + 177))]) hx hb dL_law_1211 hl (k := 6) rfl (by rw [ex192]; rfl) (by decide) rfl (fun ls hl => ?_)
                                refine lv_goto (tgt := 23) hx hb dL_law_1214 (by decide) ?_
                                exact ih x192 μ183 _ _ _ _ (k0 + 1 + 1 + 0) (n0 + 6 + 7 + 0) (by omega) (by omega) hd0 hm hP hS (lv_sub hl [3, 4, 5, 6, 0] rfl)
                              · rw [if_neg c191] at hm
                                refine lv_iconst (v := (0 : Int32)) hx hb dL_law_795 (by decide) ?_
                                cases hm
                          · rw [if_neg c187] at hm
                            refine lv_iconst (v := (0 : Int32)) hx hb dL_law_778 (by decide) ?_
                            cases hm
                        · rw [if_neg c174] at hm
                          by_cases c193 : ((xs i.toNatClampNeg) &&& (31 : Int32)) = 10
                          · rw [if_pos c193] at hm
                            refine lv_tableIn (tgt := 800) hx hb dL_law_39 (by rw [c193]; decide) (by rw [c193]; decide) (by rw [c193]; rfl) (by decide) ?_
                            refine lv_aload_n hx hb dL_law_800 rfl (lv_at hl 1 rfl) ?_
                            refine lv_aload_n hx hb dL_law_801 rfl (lv_at hl 0 rfl) ?_
                            refine lv_iload hx hb dL_law_802 (lv_at hl 4 rfl) ?_
                            refine lv_iconst (v := (1 : Int32)) hx hb dL_law_804 (by decide) ?_
                            refine lv_iadd hx hb dL_law_805 ?_
                            obtain ⟨hg194, hm⟩ := gd_inv hm
                            refine va_sld hx hb hSc hbl hbA hS hg194 dL_law_806 ?_
                            refine lv_aload_n hx hb dL_law_807 rfl (lv_at hl 3 rfl) ?_
                            obtain ⟨r195, μ196, hc197, hm⟩ := bO2_inv hm
                            refine t_cL (As := [.ref (s.heap.size + 0), .int (xs (i + (1 : Int32)).toNatClampNeg), .ref (s.heap.size + 177)]) (rest := []) (μ' := μ196) (r := r195) ⟨hx, hb, hml, hown, hts⟩ (mL_pass l hlt D cA s.heap.size H.size μ hq0 (xs (i + (1 : Int32)).toNatClampNeg) hqo hc197) (vx_cwSW 3 hts gL_law_L_pass rfl rfl rfl (by decide +kernel) ⟨Nat.le_of_ble_eq_true rfl, Nat.le_of_ble_eq_true rfl⟩) hK hN hX hP hS rfl hl.1 (Nat.le_of_ble_eq_true rfl) dL_law_808 ⟨(show k0 + 2 ≤ 601024 by omega), (show n0 + 12 ≤ 7293034 by omega)⟩ rfl (fun H locs hP hS => ?_)
                            refine lv_istore (lv' := [(5, .int r195), (0, .ref b), (1, .ref (s.heap.size + 0)), (2, .ref (s.heap.size + 132)), (3, .ref (s.heap.size + 177)), (4, .int i)]) hx hb dL_law_811 hl (by decide) rfl (fun ls hl => ?_)
                            refine lv_aload_n hx hb dL_law_813 rfl (lv_at hl 3 rfl) ?_
                            refine lv_aload_n hx hb dL_law_814 rfl (lv_at hl 1 rfl) ?_
                            refine lv_iload hx hb dL_law_815 (lv_at hl 5 rfl) ?_
                            refine lv_iconst (v := (1 : Int32)) hx hb dL_law_817 (by decide) ?_
                            refine lv_iadd hx hb dL_law_818 ?_
                            obtain ⟨hg198, hm⟩ := gd_inv hm
                            refine va_sld hx hb hSc hbl hbA hS hg198 dL_law_819 ?_
                            obtain ⟨r199, μ200, hc201, hm⟩ := bO2_inv hm
                            refine t_cVi (As := [.int (xs (i + (1 : Int32)).toNatClampNeg)]) (rest := []) (μ' := μ200) (r := r199) ⟨hx, hb, hml, hown, hts⟩ (mX8_pass_ l D cA s.heap.size H.size μ196 hq8 (xs (i + (1 : Int32)).toNatClampNeg) hc201) (cwV 1 hts gL_law_X8_pass_ rfl rfl rfl (by decide +kernel) ⟨Nat.le_of_ble_eq_true rfl, Nat.le_of_ble_eq_true rfl⟩) (va_recv hK hP (q0 := 132) rfl (tw_obj hq8 (by decide))) hK hN hP hS (Nat.le_refl _) rfl hl.1 (Nat.le_of_ble_eq_true rfl) dL_law_820 ⟨(show k0 + 2 + 0 ≤ 601024 by omega), (show n0 + 12 + 0 ≤ 7293034 by omega)⟩ rfl (fun H locs hP hS => ?_)
                            refine lv_istore (lv' := [(6, .int r199), (5, .int r195), (0, .ref b), (1, .ref (s.heap.size + 0)), (2, .ref (s.heap.size + 132)), (3, .ref (s.heap.size + 177)), (4, .int i)]) hx hb dL_law_823 hl (by decide) rfl (fun ls hl => ?_)
                            refine lv_aload_n hx hb dL_law_825 rfl (lv_at hl 4 rfl) ?_
                            refine t_cVi (As := []) (rest := []) (μ' := μ200) (r := (X8_thrown 132 μ200)) ⟨hx, hb, hml, hown, hts⟩ (mX8_thrown l D cA s.heap.size H.size μ200 hq8 rfl) (cwV 0 hts gL_law_X8_thrown rfl rfl rfl (by decide +kernel) ⟨Nat.le_of_ble_eq_true rfl, Nat.le_of_ble_eq_true rfl⟩) (va_recv hK hP (q0 := 132) rfl (tw_obj hq8 (by decide))) hK hN hP hS (Nat.le_refl _) rfl hl.1 (Nat.le_of_ble_eq_true rfl) dL_law_826 ⟨(show k0 + 2 + 0 + 0 ≤ 601024 by omega), (show n0 + 12 + 0 + 0 ≤ 7293034 by omega)⟩ rfl (fun H locs hP hS => ?_)
                            refine lv_iload hx hb dL_law_829 (lv_at hl 1 rfl) ?_
                            refine lv_icmp_eq (tgt := 836) hx hb dL_law_831 (by decide) (fun c204 => ?_) (fun c204 => ?_)
                            · rw [if_pos c204] at hm
                              refine lv_iload hx hb dL_law_836 (lv_at hl 1 rfl) ?_
                              refine lv_if_ne (tgt := 853) hx hb dL_law_838 (by decide) (fun c205 => ?_) (fun c205 => ?_)
                              · rw [if_neg c205] at hm
                                refine lv_goto (tgt := 1211) hx hb dL_law_853 (by decide) ?_
                                obtain ⟨x206, ex206⟩ : ∃ z : Int32, z = i + (4 : Int32) := ⟨_, rfl⟩
                                replace hm := bV_of hm ex206
                                refine lv_iinc (v := x206) (lv' := [(4, .int x206), (6, .int r199), (5, .int r195), (0, .ref b), (1, .ref (s.heap.size + 0)), (2, .ref (s.heap.size + 132)), (3, .ref (s.heap.size + 177))]) hx hb dL_law_1211 hl (k := 6) rfl (by rw [ex206]; rfl) (by decide) rfl (fun ls hl => ?_)
                                refine lv_goto (tgt := 23) hx hb dL_law_1214 (by decide) ?_
                                exact ih x206 μ200 _ _ _ _ (k0 + 2 + 0 + 0) (n0 + 12 + 0 + 0) (by omega) (by omega) hd0 hm hP hS (lv_sub hl [3, 4, 5, 6, 0] rfl)
                              · rw [if_pos c205] at hm
                                refine lv_aload_n hx hb dL_law_841 rfl (lv_at hl 5 rfl) ?_
                                refine lv_iconst (v := (0 : Int32)) hx hb dL_law_842 (by decide) ?_
                                obtain ⟨hg207, hm⟩ := gd_inv hm
                                refine t_lald hx hb hK hP hqo hg207 dL_law_843 ?_
                                refine lv_iload hx hb dL_law_844 (lv_at hl 0 rfl) ?_
                                refine lv_i2l (v := r199.toInt64) hx hb dL_law_846 rfl ?_
                                refine W.lcmp hx hb dL_law_847 ?_
                                refine lv_if_eq (tgt := 853) hx hb dL_law_848 (by decide) (fun c208 => ?_) (fun c208 => ?_)
                                · rw [if_pos c208] at hm
                                  refine lv_goto (tgt := 1211) hx hb dL_law_853 (by decide) ?_
                                  obtain ⟨x209, ex209⟩ : ∃ z : Int32, z = i + (4 : Int32) := ⟨_, rfl⟩
                                  replace hm := bV_of hm ex209
                                  refine lv_iinc (v := x209) (lv' := [(4, .int x209), (6, .int r199), (5, .int r195), (0, .ref b), (1, .ref (s.heap.size + 0)), (2, .ref (s.heap.size + 132)), (3, .ref (s.heap.size + 177))]) hx hb dL_law_1211 hl (k := 6) rfl (by rw [ex209]; rfl) (by decide) rfl (fun ls hl => ?_)
                                  refine lv_goto (tgt := 23) hx hb dL_law_1214 (by decide) ?_
                                  exact ih x209 μ200 _ _ _ _ (k0 + 2 + 0 + 0) (n0 + 12 + 0 + 0) (by omega) (by omega) hd0 hm hP hS (lv_sub hl [3, 4, 5, 6, 0] rfl)
                                · rw [if_neg c208] at hm
                                  refine lv_iconst (v := (0 : Int32)) hx hb dL_law_851 (by decide) ?_
                                  cases hm
                            · rw [if_neg c204] at hm
                              refine lv_iconst (v := (0 : Int32)) hx hb dL_law_834 (by decide) ?_
                              cases hm
                          · rw [if_neg c193] at hm
                            by_cases c210 : ((xs i.toNatClampNeg) &&& (31 : Int32)) = 11
                            · rw [if_pos c210] at hm
                              refine lv_tableIn (tgt := 856) hx hb dL_law_39 (by rw [c210]; decide) (by rw [c210]; decide) (by rw [c210]; rfl) (by decide) ?_
                              refine lv_aload_n hx hb dL_law_856 rfl (lv_at hl 1 rfl) ?_
                              refine lv_aload_n hx hb dL_law_857 rfl (lv_at hl 0 rfl) ?_
                              refine lv_iload hx hb dL_law_858 (lv_at hl 4 rfl) ?_
                              refine lv_iconst (v := (1 : Int32)) hx hb dL_law_860 (by decide) ?_
                              refine lv_iadd hx hb dL_law_861 ?_
                              obtain ⟨hg211, hm⟩ := gd_inv hm
                              refine va_sld hx hb hSc hbl hbA hS hg211 dL_law_862 ?_
                              refine lv_aload_n hx hb dL_law_863 rfl (lv_at hl 0 rfl) ?_
                              refine lv_iload hx hb dL_law_864 (lv_at hl 4 rfl) ?_
                              refine lv_iconst (v := (2 : Int32)) hx hb dL_law_866 (by decide) ?_
                              refine lv_iadd hx hb dL_law_867 ?_
                              obtain ⟨hg212, hm⟩ := gd_inv hm
                              refine va_sld hx hb hSc hbl hbA hS hg212 dL_law_868 ?_
                              refine lv_aload_n hx hb dL_law_869 rfl (lv_at hl 0 rfl) ?_
                              refine lv_iload hx hb dL_law_870 (lv_at hl 4 rfl) ?_
                              refine lv_iconst (v := (3 : Int32)) hx hb dL_law_872 (by decide) ?_
                              refine lv_iadd hx hb dL_law_873 ?_
                              obtain ⟨hg213, hm⟩ := gd_inv hm
                              refine va_sld hx hb hSc hbl hbA hS hg213 dL_law_874 ?_
                              refine lv_if_eq (tgt := 882) hx hb dL_law_875 (by decide) (fun c214 => ?_) (fun c214 => ?_)
                              · rw [if_pos c214] at hm
                                refine lv_iconst (v := (0 : Int32)) hx hb dL_law_882 (by decide) ?_
                                refine lv_aload_n hx hb dL_law_883 rfl (lv_at hl 3 rfl) ?_
                                obtain ⟨r215, μ216, hc217, hm⟩ := bO2_inv hm
                                refine t_cL (As := [.ref (s.heap.size + 0), .int (xs (i + (1 : Int32)).toNatClampNeg), .int (xs (i + (2 : Int32)).toNatClampNeg), .int (0 : Int32), .ref (s.heap.size + 177)]) (rest := []) (μ' := μ216) (r := r215) ⟨hx, hb, hml, hown, hts⟩ (mL_said l hlt D cA s.heap.size H.size μ hq0 (xs (i + (1 : Int32)).toNatClampNeg) (xs (i + (2 : Int32)).toNatClampNeg) (0 : Int32) hqo hc217) (vx_cwSW 5 hts gL_law_L_said rfl rfl rfl (by decide +kernel) ⟨Nat.le_of_ble_eq_true rfl, Nat.le_of_ble_eq_true rfl⟩) hK hN hX hP hS rfl hl.1 (Nat.le_of_ble_eq_true rfl) dL_law_884 ⟨(show k0 + 2 ≤ 601024 by omega), (show n0 + 12 ≤ 7293034 by omega)⟩ rfl (fun H locs hP hS => ?_)
                                refine lv_istore (lv' := [(5, .int r215), (0, .ref b), (1, .ref (s.heap.size + 0)), (2, .ref (s.heap.size + 132)), (3, .ref (s.heap.size + 177)), (4, .int i)]) hx hb dL_law_887 hl (by decide) rfl (fun ls hl => ?_)
                                refine lv_aload_n hx hb dL_law_889 rfl (lv_at hl 3 rfl) ?_
                                refine lv_aload_n hx hb dL_law_890 rfl (lv_at hl 1 rfl) ?_
                                refine lv_iload hx hb dL_law_891 (lv_at hl 5 rfl) ?_
                                refine lv_iconst (v := (1 : Int32)) hx hb dL_law_893 (by decide) ?_
                                refine lv_iadd hx hb dL_law_894 ?_
                                obtain ⟨hg218, hm⟩ := gd_inv hm
                                refine va_sld hx hb hSc hbl hbA hS hg218 dL_law_895 ?_
                                refine lv_aload_n hx hb dL_law_896 rfl (lv_at hl 1 rfl) ?_
                                refine lv_iload hx hb dL_law_897 (lv_at hl 5 rfl) ?_
                                refine lv_iconst (v := (2 : Int32)) hx hb dL_law_899 (by decide) ?_
                                refine lv_iadd hx hb dL_law_900 ?_
                                obtain ⟨hg219, hm⟩ := gd_inv hm
                                refine va_sld hx hb hSc hbl hbA hS hg219 dL_law_901 ?_
                                refine lv_aload_n hx hb dL_law_902 rfl (lv_at hl 1 rfl) ?_
                                refine lv_iload hx hb dL_law_903 (lv_at hl 5 rfl) ?_
                                refine lv_iconst (v := (3 : Int32)) hx hb dL_law_905 (by decide) ?_
                                refine lv_iadd hx hb dL_law_906 ?_
                                obtain ⟨hg220, hm⟩ := gd_inv hm
                                refine va_sld hx hb hSc hbl hbA hS hg220 dL_law_907 ?_
                                refine lv_if_eq (tgt := 915) hx hb dL_law_908 (by decide) (fun c221 => ?_) (fun c221 => ?_)
                                · rw [if_pos c221] at hm
                                  refine lv_iconst (v := (0 : Int32)) hx hb dL_law_915 (by decide) ?_
                                  obtain ⟨r222, μ223, hc224, hm⟩ := bO2_inv hm
                                  refine t_cVi (As := [.int (xs (i + (1 : Int32)).toNatClampNeg), .int (xs (i + (2 : Int32)).toNatClampNeg), .int (0 : Int32)]) (rest := []) (μ' := μ223) (r := r222) ⟨hx, hb, hml, hown, hts⟩ (mX8_said l D cA s.heap.size H.size μ216 hq8 (xs (i + (1 : Int32)).toNatClampNeg) (xs (i + (2 : Int32)).toNatClampNeg) (0 : Int32) hc224) (cwV 3 hts gL_law_X8_said rfl rfl rfl (by decide +kernel) ⟨Nat.le_of_ble_eq_true rfl, Nat.le_of_ble_eq_true rfl⟩) (va_recv hK hP (q0 := 132) rfl (tw_obj hq8 (by decide))) hK hN hP hS (Nat.le_refl _) rfl hl.1 (Nat.le_of_ble_eq_true rfl) dL_law_916 ⟨(show k0 + 2 + 0 ≤ 601024 by omega), (show n0 + 12 + 0 ≤ 7293034 by omega)⟩ rfl (fun H locs hP hS => ?_)
                                  refine lv_istore (lv' := [(6, .int r222), (5, .int r215), (0, .ref b), (1, .ref (s.heap.size + 0)), (2, .ref (s.heap.size + 132)), (3, .ref (s.heap.size + 177)), (4, .int i)]) hx hb dL_law_919 hl (by decide) rfl (fun ls hl => ?_)
                                  refine lv_aload_n hx hb dL_law_921 rfl (lv_at hl 4 rfl) ?_
                                  refine t_cVi (As := []) (rest := []) (μ' := μ223) (r := (X8_thrown 132 μ223)) ⟨hx, hb, hml, hown, hts⟩ (mX8_thrown l D cA s.heap.size H.size μ223 hq8 rfl) (cwV 0 hts gL_law_X8_thrown rfl rfl rfl (by decide +kernel) ⟨Nat.le_of_ble_eq_true rfl, Nat.le_of_ble_eq_true rfl⟩) (va_recv hK hP (q0 := 132) rfl (tw_obj hq8 (by decide))) hK hN hP hS (Nat.le_refl _) rfl hl.1 (Nat.le_of_ble_eq_true rfl) dL_law_922 ⟨(show k0 + 2 + 0 + 0 ≤ 601024 by omega), (show n0 + 12 + 0 + 0 ≤ 7293034 by omega)⟩ rfl (fun H locs hP hS => ?_)
                                  refine lv_iload hx hb dL_law_925 (lv_at hl 1 rfl) ?_
                                  refine lv_icmp_eq (tgt := 932) hx hb dL_law_927 (by decide) (fun c227 => ?_) (fun c227 => ?_)
                                  · rw [if_pos c227] at hm
                                    refine lv_iload hx hb dL_law_932 (lv_at hl 1 rfl) ?_
                                    refine lv_if_ne (tgt := 949) hx hb dL_law_934 (by decide) (fun c228 => ?_) (fun c228 => ?_)
                                    · rw [if_neg c228] at hm
                                      refine lv_goto (tgt := 1211) hx hb dL_law_949 (by decide) ?_
                                      obtain ⟨x229, ex229⟩ : ∃ z : Int32, z = i + (4 : Int32) := ⟨_, rfl⟩
                                      replace hm := bV_of hm ex229
                                      refine lv_iinc (v := x229) (lv' := [(4, .int x229), (6, .int r222), (5, .int r215), (0, .ref b), (1, .ref (s.heap.size + 0)), (2, .ref (s.heap.size + 132)), (3, .ref (s.heap.size + 177))]) hx hb dL_law_1211 hl (k := 6) rfl (by rw [ex229]; rfl) (by decide) rfl (fun ls hl => ?_)
                                      refine lv_goto (tgt := 23) hx hb dL_law_1214 (by decide) ?_
                                      exact ih x229 μ223 _ _ _ _ (k0 + 2 + 0 + 0) (n0 + 12 + 0 + 0) (by omega) (by omega) hd0 hm hP hS (lv_sub hl [3, 4, 5, 6, 0] rfl)
                                    · rw [if_pos c228] at hm
                                      refine lv_aload_n hx hb dL_law_937 rfl (lv_at hl 5 rfl) ?_
                                      refine lv_iconst (v := (0 : Int32)) hx hb dL_law_938 (by decide) ?_
                                      obtain ⟨hg230, hm⟩ := gd_inv hm
                                      refine t_lald hx hb hK hP hqo hg230 dL_law_939 ?_
                                      refine lv_iload hx hb dL_law_940 (lv_at hl 0 rfl) ?_
                                      refine lv_i2l (v := r222.toInt64) hx hb dL_law_942 rfl ?_
                                      refine W.lcmp hx hb dL_law_943 ?_
                                      refine lv_if_eq (tgt := 949) hx hb dL_law_944 (by decide) (fun c231 => ?_) (fun c231 => ?_)
                                      · rw [if_pos c231] at hm
                                        refine lv_goto (tgt := 1211) hx hb dL_law_949 (by decide) ?_
                                        obtain ⟨x232, ex232⟩ : ∃ z : Int32, z = i + (4 : Int32) := ⟨_, rfl⟩
                                        replace hm := bV_of hm ex232
                                        refine lv_iinc (v := x232) (lv' := [(4, .int x232), (6, .int r222), (5, .int r215), (0, .ref b), (1, .ref (s.heap.size + 0)), (2, .ref (s.heap.size + 132)), (3, .ref (s.heap.size + 177))]) hx hb dL_law_1211 hl (k := 6) rfl (by rw [ex232]; rfl) (by decide) rfl (fun ls hl => ?_)
                                        refine lv_goto (tgt := 23) hx hb dL_law_1214 (by decide) ?_
                                        exact ih x232 μ223 _ _ _ _ (k0 + 2 + 0 + 0) (n0 + 12 + 0 + 0) (by omega) (by omega) hd0 hm hP hS (lv_sub hl [3, 4, 5, 6, 0] rfl)
                                      · rw [if_neg c231] at hm
                                        refine lv_iconst (v := (0 : Int32)) hx hb dL_law_947 (by decide) ?_
                                        cases hm
                                  · rw [if_neg c227] at hm
                                    refine lv_iconst (v := (0 : Int32)) hx hb dL_law_930 (by decide) ?_
                                    cases hm
                                · rw [if_neg c221] at hm
                                  refine lv_iconst (v := (1 : Int32)) hx hb dL_law_911 (by decide) ?_
                                  refine lv_goto (tgt := 916) hx hb dL_law_912 (by decide) ?_
                                  obtain ⟨r233, μ234, hc235, hm⟩ := bO2_inv hm
                                  refine t_cVi (As := [.int (xs (i + (1 : Int32)).toNatClampNeg), .int (xs (i + (2 : Int32)).toNatClampNeg), .int (1 : Int32)]) (rest := []) (μ' := μ234) (r := r233) ⟨hx, hb, hml, hown, hts⟩ (mX8_said l D cA s.heap.size H.size μ216 hq8 (xs (i + (1 : Int32)).toNatClampNeg) (xs (i + (2 : Int32)).toNatClampNeg) (1 : Int32) hc235) (cwV 3 hts gL_law_X8_said rfl rfl rfl (by decide +kernel) ⟨Nat.le_of_ble_eq_true rfl, Nat.le_of_ble_eq_true rfl⟩) (va_recv hK hP (q0 := 132) rfl (tw_obj hq8 (by decide))) hK hN hP hS (Nat.le_refl _) rfl hl.1 (Nat.le_of_ble_eq_true rfl) dL_law_916 ⟨(show k0 + 2 + 0 ≤ 601024 by omega), (show n0 + 12 + 0 ≤ 7293034 by omega)⟩ rfl (fun H locs hP hS => ?_)
                                  refine lv_istore (lv' := [(6, .int r233), (5, .int r215), (0, .ref b), (1, .ref (s.heap.size + 0)), (2, .ref (s.heap.size + 132)), (3, .ref (s.heap.size + 177)), (4, .int i)]) hx hb dL_law_919 hl (by decide) rfl (fun ls hl => ?_)
                                  refine lv_aload_n hx hb dL_law_921 rfl (lv_at hl 4 rfl) ?_
                                  refine t_cVi (As := []) (rest := []) (μ' := μ234) (r := (X8_thrown 132 μ234)) ⟨hx, hb, hml, hown, hts⟩ (mX8_thrown l D cA s.heap.size H.size μ234 hq8 rfl) (cwV 0 hts gL_law_X8_thrown rfl rfl rfl (by decide +kernel) ⟨Nat.le_of_ble_eq_true rfl, Nat.le_of_ble_eq_true rfl⟩) (va_recv hK hP (q0 := 132) rfl (tw_obj hq8 (by decide))) hK hN hP hS (Nat.le_refl _) rfl hl.1 (Nat.le_of_ble_eq_true rfl) dL_law_922 ⟨(show k0 + 2 + 0 + 0 ≤ 601024 by omega), (show n0 + 12 + 0 + 0 ≤ 7293034 by omega)⟩ rfl (fun H locs hP hS => ?_)
                                  refine lv_iload hx hb dL_law_925 (lv_at hl 1 rfl) ?_
                                  refine lv_icmp_eq (tgt := 932) hx hb dL_law_927 (by decide) (fun c238 => ?_) (fun c238 => ?_)
                                  · rw [if_pos c238] at hm
                                    refine lv_iload hx hb dL_law_932 (lv_at hl 1 rfl) ?_
                                    refine lv_if_ne (tgt := 949) hx hb dL_law_934 (by decide) (fun c239 => ?_) (fun c239 => ?_)
                                    · rw [if_neg c239] at hm
                                      refine lv_goto (tgt := 1211) hx hb dL_law_949 (by decide) ?_
                                      obtain ⟨x240, ex240⟩ : ∃ z : Int32, z = i + (4 : Int32) := ⟨_, rfl⟩
                                      replace hm := bV_of hm ex240
                                      refine lv_iinc (v := x240) (lv' := [(4, .int x240), (6, .int r233), (5, .int r215), (0, .ref b), (1, .ref (s.heap.size + 0)), (2, .ref (s.heap.size + 132)), (3, .ref (s.heap.size + 177))]) hx hb dL_law_1211 hl (k := 6) rfl (by rw [ex240]; rfl) (by decide) rfl (fun ls hl => ?_)
                                      refine lv_goto (tgt := 23) hx hb dL_law_1214 (by decide) ?_
                                      exact ih x240 μ234 _ _ _ _ (k0 + 2 + 0 + 0) (n0 + 12 + 0 + 0) (by omega) (by omega) hd0 hm hP hS (lv_sub hl [3, 4, 5, 6, 0] rfl)
                                    · rw [if_pos c239] at hm
                                      refine lv_aload_n hx hb dL_law_937 rfl (lv_at hl 5 rfl) ?_
                                      refine lv_iconst (v := (0 : Int32)) hx hb dL_law_938 (by decide) ?_
                                      obtain ⟨hg241, hm⟩ := gd_inv hm
                                      refine t_lald hx hb hK hP hqo hg241 dL_law_939 ?_
                                      refine lv_iload hx hb dL_law_940 (lv_at hl 0 rfl) ?_
                                      refine lv_i2l (v := r233.toInt64) hx hb dL_law_942 rfl ?_
                                      refine W.lcmp hx hb dL_law_943 ?_
                                      refine lv_if_eq (tgt := 949) hx hb dL_law_944 (by decide) (fun c242 => ?_) (fun c242 => ?_)
                                      · rw [if_pos c242] at hm
                                        refine lv_goto (tgt := 1211) hx hb dL_law_949 (by decide) ?_
                                        obtain ⟨x243, ex243⟩ : ∃ z : Int32, z = i + (4 : Int32) := ⟨_, rfl⟩
                                        replace hm := bV_of hm ex243
                                        refine lv_iinc (v := x243) (lv' := [(4, .int x243), (6, .int r233), (5, .int r215), (0, .ref b), (1, .ref (s.heap.size + 0)), (2, .ref (s.heap.size + 132)), (3, .ref (s.heap.size + 177))]) hx hb dL_law_1211 hl (k := 6) rfl (by rw [ex243]; rfl) (by decide) rfl (fun ls hl => ?_)
                                        refine lv_goto (tgt := 23) hx hb dL_law_1214 (by decide) ?_
                                        exact ih x243 μ234 _ _ _ _ (k0 + 2 + 0 + 0) (n0 + 12 + 0 + 0) (by omega) (by omega) hd0 hm hP hS (lv_sub hl [3, 4, 5, 6, 0] rfl)
                                      · rw [if_neg c242] at hm
                                        refine lv_iconst (v := (0 : Int32)) hx hb dL_law_947 (by decide) ?_
                                        cases hm
                                  · rw [if_neg c238] at hm
                                    refine lv_iconst (v := (0 : Int32)) hx hb dL_law_930 (by decide) ?_
                                    cases hm
                              · rw [if_neg c214] at hm
                                refine lv_iconst (v := (1 : Int32)) hx hb dL_law_878 (by decide) ?_
                                refine lv_goto (tgt := 883) hx hb dL_law_879 (by decide) ?_
                                refine lv_aload_n hx hb dL_law_883 rfl (lv_at hl 3 rfl) ?_
                                obtain ⟨r244, μ245, hc246, hm⟩ := bO2_inv hm
                                refine t_cL (As := [.ref (s.heap.size + 0), .int (xs (i + (1 : Int32)).toNatClampNeg), .int (xs (i + (2 : Int32)).toNatClampNeg), .int (1 : Int32), .ref (s.heap.size + 177)]) (rest := []) (μ' := μ245) (r := r244) ⟨hx, hb, hml, hown, hts⟩ (mL_said l hlt D cA s.heap.size H.size μ hq0 (xs (i + (1 : Int32)).toNatClampNeg) (xs (i + (2 : Int32)).toNatClampNeg) (1 : Int32) hqo hc246) (vx_cwSW 5 hts gL_law_L_said rfl rfl rfl (by decide +kernel) ⟨Nat.le_of_ble_eq_true rfl, Nat.le_of_ble_eq_true rfl⟩) hK hN hX hP hS rfl hl.1 (Nat.le_of_ble_eq_true rfl) dL_law_884 ⟨(show k0 + 2 ≤ 601024 by omega), (show n0 + 12 ≤ 7293034 by omega)⟩ rfl (fun H locs hP hS => ?_)
                                refine lv_istore (lv' := [(5, .int r244), (0, .ref b), (1, .ref (s.heap.size + 0)), (2, .ref (s.heap.size + 132)), (3, .ref (s.heap.size + 177)), (4, .int i)]) hx hb dL_law_887 hl (by decide) rfl (fun ls hl => ?_)
                                refine lv_aload_n hx hb dL_law_889 rfl (lv_at hl 3 rfl) ?_
                                refine lv_aload_n hx hb dL_law_890 rfl (lv_at hl 1 rfl) ?_
                                refine lv_iload hx hb dL_law_891 (lv_at hl 5 rfl) ?_
                                refine lv_iconst (v := (1 : Int32)) hx hb dL_law_893 (by decide) ?_
                                refine lv_iadd hx hb dL_law_894 ?_
                                obtain ⟨hg247, hm⟩ := gd_inv hm
                                refine va_sld hx hb hSc hbl hbA hS hg247 dL_law_895 ?_
                                refine lv_aload_n hx hb dL_law_896 rfl (lv_at hl 1 rfl) ?_
                                refine lv_iload hx hb dL_law_897 (lv_at hl 5 rfl) ?_
                                refine lv_iconst (v := (2 : Int32)) hx hb dL_law_899 (by decide) ?_
                                refine lv_iadd hx hb dL_law_900 ?_
                                obtain ⟨hg248, hm⟩ := gd_inv hm
                                refine va_sld hx hb hSc hbl hbA hS hg248 dL_law_901 ?_
                                refine lv_aload_n hx hb dL_law_902 rfl (lv_at hl 1 rfl) ?_
                                refine lv_iload hx hb dL_law_903 (lv_at hl 5 rfl) ?_
                                refine lv_iconst (v := (3 : Int32)) hx hb dL_law_905 (by decide) ?_
                                refine lv_iadd hx hb dL_law_906 ?_
                                obtain ⟨hg249, hm⟩ := gd_inv hm
                                refine va_sld hx hb hSc hbl hbA hS hg249 dL_law_907 ?_
                                refine lv_if_eq (tgt := 915) hx hb dL_law_908 (by decide) (fun c250 => ?_) (fun c250 => ?_)
                                · rw [if_pos c250] at hm
                                  refine lv_iconst (v := (0 : Int32)) hx hb dL_law_915 (by decide) ?_
                                  obtain ⟨r251, μ252, hc253, hm⟩ := bO2_inv hm
                                  refine t_cVi (As := [.int (xs (i + (1 : Int32)).toNatClampNeg), .int (xs (i + (2 : Int32)).toNatClampNeg), .int (0 : Int32)]) (rest := []) (μ' := μ252) (r := r251) ⟨hx, hb, hml, hown, hts⟩ (mX8_said l D cA s.heap.size H.size μ245 hq8 (xs (i + (1 : Int32)).toNatClampNeg) (xs (i + (2 : Int32)).toNatClampNeg) (0 : Int32) hc253) (cwV 3 hts gL_law_X8_said rfl rfl rfl (by decide +kernel) ⟨Nat.le_of_ble_eq_true rfl, Nat.le_of_ble_eq_true rfl⟩) (va_recv hK hP (q0 := 132) rfl (tw_obj hq8 (by decide))) hK hN hP hS (Nat.le_refl _) rfl hl.1 (Nat.le_of_ble_eq_true rfl) dL_law_916 ⟨(show k0 + 2 + 0 ≤ 601024 by omega), (show n0 + 12 + 0 ≤ 7293034 by omega)⟩ rfl (fun H locs hP hS => ?_)
                                  refine lv_istore (lv' := [(6, .int r251), (5, .int r244), (0, .ref b), (1, .ref (s.heap.size + 0)), (2, .ref (s.heap.size + 132)), (3, .ref (s.heap.size + 177)), (4, .int i)]) hx hb dL_law_919 hl (by decide) rfl (fun ls hl => ?_)
                                  refine lv_aload_n hx hb dL_law_921 rfl (lv_at hl 4 rfl) ?_
                                  refine t_cVi (As := []) (rest := []) (μ' := μ252) (r := (X8_thrown 132 μ252)) ⟨hx, hb, hml, hown, hts⟩ (mX8_thrown l D cA s.heap.size H.size μ252 hq8 rfl) (cwV 0 hts gL_law_X8_thrown rfl rfl rfl (by decide +kernel) ⟨Nat.le_of_ble_eq_true rfl, Nat.le_of_ble_eq_true rfl⟩) (va_recv hK hP (q0 := 132) rfl (tw_obj hq8 (by decide))) hK hN hP hS (Nat.le_refl _) rfl hl.1 (Nat.le_of_ble_eq_true rfl) dL_law_922 ⟨(show k0 + 2 + 0 + 0 ≤ 601024 by omega), (show n0 + 12 + 0 + 0 ≤ 7293034 by omega)⟩ rfl (fun H locs hP hS => ?_)
                                  refine lv_iload hx hb dL_law_925 (lv_at hl 1 rfl) ?_
                                  refine lv_icmp_eq (tgt := 932) hx hb dL_law_927 (by decide) (fun c256 => ?_) (fun c256 => ?_)
                                  · rw [if_pos c256] at hm
                                    refine lv_iload hx hb dL_law_932 (lv_at hl 1 rfl) ?_
                                    refine lv_if_ne (tgt := 949) hx hb dL_law_934 (by decide) (fun c257 => ?_) (fun c257 => ?_)
                                    · rw [if_neg c257] at hm
                                      refine lv_goto (tgt := 1211) hx hb dL_law_949 (by decide) ?_
                                      obtain ⟨x258, ex258⟩ : ∃ z : Int32, z = i + (4 : Int32) := ⟨_, rfl⟩
                                      replace hm := bV_of hm ex258
                                      refine lv_iinc (v := x258) (lv' := [(4, .int x258), (6, .int r251), (5, .int r244), (0, .ref b), (1, .ref (s.heap.size + 0)), (2, .ref (s.heap.size + 132)), (3, .ref (s.heap.size + 177))]) hx hb dL_law_1211 hl (k := 6) rfl (by rw [ex258]; rfl) (by decide) rfl (fun ls hl => ?_)
                                      refine lv_goto (tgt := 23) hx hb dL_law_1214 (by decide) ?_
                                      exact ih x258 μ252 _ _ _ _ (k0 + 2 + 0 + 0) (n0 + 12 + 0 + 0) (by omega) (by omega) hd0 hm hP hS (lv_sub hl [3, 4, 5, 6, 0] rfl)
                                    · rw [if_pos c257] at hm
                                      refine lv_aload_n hx hb dL_law_937 rfl (lv_at hl 5 rfl) ?_
                                      refine lv_iconst (v := (0 : Int32)) hx hb dL_law_938 (by decide) ?_
                                      obtain ⟨hg259, hm⟩ := gd_inv hm
                                      refine t_lald hx hb hK hP hqo hg259 dL_law_939 ?_
                                      refine lv_iload hx hb dL_law_940 (lv_at hl 0 rfl) ?_
                                      refine lv_i2l (v := r251.toInt64) hx hb dL_law_942 rfl ?_
                                      refine W.lcmp hx hb dL_law_943 ?_
                                      refine lv_if_eq (tgt := 949) hx hb dL_law_944 (by decide) (fun c260 => ?_) (fun c260 => ?_)
                                      · rw [if_pos c260] at hm
                                        refine lv_goto (tgt := 1211) hx hb dL_law_949 (by decide) ?_
                                        obtain ⟨x261, ex261⟩ : ∃ z : Int32, z = i + (4 : Int32) := ⟨_, rfl⟩
                                        replace hm := bV_of hm ex261
                                        refine lv_iinc (v := x261) (lv' := [(4, .int x261), (6, .int r251), (5, .int r244), (0, .ref b), (1, .ref (s.heap.size + 0)), (2, .ref (s.heap.size + 132)), (3, .ref (s.heap.size + 177))]) hx hb dL_law_1211 hl (k := 6) rfl (by rw [ex261]; rfl) (by decide) rfl (fun ls hl => ?_)
                                        refine lv_goto (tgt := 23) hx hb dL_law_1214 (by decide) ?_
                                        exact ih x261 μ252 _ _ _ _ (k0 + 2 + 0 + 0) (n0 + 12 + 0 + 0) (by omega) (by omega) hd0 hm hP hS (lv_sub hl [3, 4, 5, 6, 0] rfl)
                                      · rw [if_neg c260] at hm
                                        refine lv_iconst (v := (0 : Int32)) hx hb dL_law_947 (by decide) ?_
                                        cases hm
                                  · rw [if_neg c256] at hm
                                    refine lv_iconst (v := (0 : Int32)) hx hb dL_law_930 (by decide) ?_
                                    cases hm
                                · rw [if_neg c250] at hm
                                  refine lv_iconst (v := (1 : Int32)) hx hb dL_law_911 (by decide) ?_
                                  refine lv_goto (tgt := 916) hx hb dL_law_912 (by decide) ?_
                                  obtain ⟨r262, μ263, hc264, hm⟩ := bO2_inv hm
                                  refine t_cVi (As := [.int (xs (i + (1 : Int32)).toNatClampNeg), .int (xs (i + (2 : Int32)).toNatClampNeg), .int (1 : Int32)]) (rest := []) (μ' := μ263) (r := r262) ⟨hx, hb, hml, hown, hts⟩ (mX8_said l D cA s.heap.size H.size μ245 hq8 (xs (i + (1 : Int32)).toNatClampNeg) (xs (i + (2 : Int32)).toNatClampNeg) (1 : Int32) hc264) (cwV 3 hts gL_law_X8_said rfl rfl rfl (by decide +kernel) ⟨Nat.le_of_ble_eq_true rfl, Nat.le_of_ble_eq_true rfl⟩) (va_recv hK hP (q0 := 132) rfl (tw_obj hq8 (by decide))) hK hN hP hS (Nat.le_refl _) rfl hl.1 (Nat.le_of_ble_eq_true rfl) dL_law_916 ⟨(show k0 + 2 + 0 ≤ 601024 by omega), (show n0 + 12 + 0 ≤ 7293034 by omega)⟩ rfl (fun H locs hP hS => ?_)
                                  refine lv_istore (lv' := [(6, .int r262), (5, .int r244), (0, .ref b), (1, .ref (s.heap.size + 0)), (2, .ref (s.heap.size + 132)), (3, .ref (s.heap.size + 177)), (4, .int i)]) hx hb dL_law_919 hl (by decide) rfl (fun ls hl => ?_)
                                  refine lv_aload_n hx hb dL_law_921 rfl (lv_at hl 4 rfl) ?_
                                  refine t_cVi (As := []) (rest := []) (μ' := μ263) (r := (X8_thrown 132 μ263)) ⟨hx, hb, hml, hown, hts⟩ (mX8_thrown l D cA s.heap.size H.size μ263 hq8 rfl) (cwV 0 hts gL_law_X8_thrown rfl rfl rfl (by decide +kernel) ⟨Nat.le_of_ble_eq_true rfl, Nat.le_of_ble_eq_true rfl⟩) (va_recv hK hP (q0 := 132) rfl (tw_obj hq8 (by decide))) hK hN hP hS (Nat.le_refl _) rfl hl.1 (Nat.le_of_ble_eq_true rfl) dL_law_922 ⟨(show k0 + 2 + 0 + 0 ≤ 601024 by omega), (show n0 + 12 + 0 + 0 ≤ 7293034 by omega)⟩ rfl (fun H locs hP hS => ?_)
                                  refine lv_iload hx hb dL_law_925 (lv_at hl 1 rfl) ?_
                                  refine lv_icmp_eq (tgt := 932) hx hb dL_law_927 (by decide) (fun c267 => ?_) (fun c267 => ?_)
                                  · rw [if_pos c267] at hm
                                    refine lv_iload hx hb dL_law_932 (lv_at hl 1 rfl) ?_
                                    refine lv_if_ne (tgt := 949) hx hb dL_law_934 (by decide) (fun c268 => ?_) (fun c268 => ?_)
                                    · rw [if_neg c268] at hm
                                      refine lv_goto (tgt := 1211) hx hb dL_law_949 (by decide) ?_
                                      obtain ⟨x269, ex269⟩ : ∃ z : Int32, z = i + (4 : Int32) := ⟨_, rfl⟩
                                      replace hm := bV_of hm ex269
                                      refine lv_iinc (v := x269) (lv' := [(4, .int x269), (6, .int r262), (5, .int r244), (0, .ref b), (1, .ref (s.heap.size + 0)), (2, .ref (s.heap.size + 132)), (3, .ref (s.heap.size + 177))]) hx hb dL_law_1211 hl (k := 6) rfl (by rw [ex269]; rfl) (by decide) rfl (fun ls hl => ?_)
                                      refine lv_goto (tgt := 23) hx hb dL_law_1214 (by decide) ?_
                                      exact ih x269 μ263 _ _ _ _ (k0 + 2 + 0 + 0) (n0 + 12 + 0 + 0) (by omega) (by omega) hd0 hm hP hS (lv_sub hl [3, 4, 5, 6, 0] rfl)
                                    · rw [if_pos c268] at hm
                                      refine lv_aload_n hx hb dL_law_937 rfl (lv_at hl 5 rfl) ?_
                                      refine lv_iconst (v := (0 : Int32)) hx hb dL_law_938 (by decide) ?_
                                      obtain ⟨hg270, hm⟩ := gd_inv hm
                                      refine t_lald hx hb hK hP hqo hg270 dL_law_939 ?_
                                      refine lv_iload hx hb dL_law_940 (lv_at hl 0 rfl) ?_
                                      refine lv_i2l (v := r262.toInt64) hx hb dL_law_942 rfl ?_
                                      refine W.lcmp hx hb dL_law_943 ?_
                                      refine lv_if_eq (tgt := 949) hx hb dL_law_944 (by decide) (fun c271 => ?_) (fun c271 => ?_)
                                      · rw [if_pos c271] at hm
                                        refine lv_goto (tgt := 1211) hx hb dL_law_949 (by decide) ?_
                                        obtain ⟨x272, ex272⟩ : ∃ z : Int32, z = i + (4 : Int32) := ⟨_, rfl⟩
                                        replace hm := bV_of hm ex272
                                        refine lv_iinc (v := x272) (lv' := [(4, .int x272), (6, .int r262), (5, .int r244), (0, .ref b), (1, .ref (s.heap.size + 0)), (2, .ref (s.heap.size + 132)), (3, .ref (s.heap.size + 177))]) hx hb dL_law_1211 hl (k := 6) rfl (by rw [ex272]; rfl) (by decide) rfl (fun ls hl => ?_)
                                        refine lv_goto (tgt := 23) hx hb dL_law_1214 (by decide) ?_
                                        exact ih x272 μ263 _ _ _ _ (k0 + 2 + 0 + 0) (n0 + 12 + 0 + 0) (by omega) (by omega) hd0 hm hP hS (lv_sub hl [3, 4, 5, 6, 0] rfl)
                                      · rw [if_neg c271] at hm
                                        refine lv_iconst (v := (0 : Int32)) hx hb dL_law_947 (by decide) ?_
                                        cases hm
                                  · rw [if_neg c267] at hm
                                    refine lv_iconst (v := (0 : Int32)) hx hb dL_law_930 (by decide) ?_
                                    cases hm
                            · rw [if_neg c210] at hm
                              by_cases c273 : ((xs i.toNatClampNeg) &&& (31 : Int32)) = 12
                              · rw [if_pos c273] at hm
                                refine lv_tableIn (tgt := 952) hx hb dL_law_39 (by rw [c273]; decide) (by rw [c273]; decide) (by rw [c273]; rfl) (by decide) ?_
                                refine lv_aload_n hx hb dL_law_952 rfl (lv_at hl 1 rfl) ?_
                                refine lv_aload_n hx hb dL_law_953 rfl (lv_at hl 0 rfl) ?_
                                refine lv_iload hx hb dL_law_954 (lv_at hl 4 rfl) ?_
                                refine lv_iconst (v := (1 : Int32)) hx hb dL_law_956 (by decide) ?_
                                refine lv_iadd hx hb dL_law_957 ?_
                                obtain ⟨hg274, hm⟩ := gd_inv hm
                                refine va_sld hx hb hSc hbl hbA hS hg274 dL_law_958 ?_
                                refine lv_aload_n hx hb dL_law_959 rfl (lv_at hl 3 rfl) ?_
                                obtain ⟨r275, μ276, hc277, hm⟩ := bO2_inv hm
                                refine t_cL (As := [.ref (s.heap.size + 0), .int (xs (i + (1 : Int32)).toNatClampNeg), .ref (s.heap.size + 177)]) (rest := []) (μ' := μ276) (r := r275) ⟨hx, hb, hml, hown, hts⟩ (mL_count l hlt D cA s.heap.size H.size μ hq0 (xs (i + (1 : Int32)).toNatClampNeg) hqo hc277) (vx_cwSW 3 hts gL_law_L_count rfl rfl rfl (by decide +kernel) ⟨Nat.le_of_ble_eq_true rfl, Nat.le_of_ble_eq_true rfl⟩) hK hN hX hP hS rfl hl.1 (Nat.le_of_ble_eq_true rfl) dL_law_960 ⟨(show k0 + 1 ≤ 601024 by omega), (show n0 + 6 ≤ 7293034 by omega)⟩ rfl (fun H locs hP hS => ?_)
                                refine lv_istore (lv' := [(5, .int r275), (0, .ref b), (1, .ref (s.heap.size + 0)), (2, .ref (s.heap.size + 132)), (3, .ref (s.heap.size + 177)), (4, .int i)]) hx hb dL_law_963 hl (by decide) rfl (fun ls hl => ?_)
                                refine lv_aload_n hx hb dL_law_965 rfl (lv_at hl 3 rfl) ?_
                                refine lv_aload_n hx hb dL_law_966 rfl (lv_at hl 1 rfl) ?_
                                refine lv_iload hx hb dL_law_967 (lv_at hl 5 rfl) ?_
                                refine lv_iconst (v := (1 : Int32)) hx hb dL_law_969 (by decide) ?_
                                refine lv_iadd hx hb dL_law_970 ?_
                                obtain ⟨hg278, hm⟩ := gd_inv hm
                                refine va_sld hx hb hSc hbl hbA hS hg278 dL_law_971 ?_
                                obtain ⟨r279, μ280, hc281, hm⟩ := bO2_inv hm
                                refine t_cVi (As := [.int (xs (i + (1 : Int32)).toNatClampNeg)]) (rest := []) (μ' := μ280) (r := r279) ⟨hx, hb, hml, hown, hts⟩ (mX8_count l D cA s.heap.size H.size μ276 hq8 (xs (i + (1 : Int32)).toNatClampNeg) hc281) (cwV 1 hts gL_law_X8_count rfl rfl rfl (by decide +kernel) ⟨Nat.le_of_ble_eq_true rfl, Nat.le_of_ble_eq_true rfl⟩) (va_recv hK hP (q0 := 132) rfl (tw_obj hq8 (by decide))) hK hN hP hS (Nat.le_refl _) rfl hl.1 (Nat.le_of_ble_eq_true rfl) dL_law_972 ⟨(show k0 + 1 + 1 ≤ 601024 by omega), (show n0 + 6 + 10 ≤ 7293034 by omega)⟩ rfl (fun H locs hP hS => ?_)
                                refine lv_istore (lv' := [(6, .int r279), (5, .int r275), (0, .ref b), (1, .ref (s.heap.size + 0)), (2, .ref (s.heap.size + 132)), (3, .ref (s.heap.size + 177)), (4, .int i)]) hx hb dL_law_975 hl (by decide) rfl (fun ls hl => ?_)
                                refine lv_aload_n hx hb dL_law_977 rfl (lv_at hl 4 rfl) ?_
                                refine t_cVi (As := []) (rest := []) (μ' := μ280) (r := (X8_thrown 132 μ280)) ⟨hx, hb, hml, hown, hts⟩ (mX8_thrown l D cA s.heap.size H.size μ280 hq8 rfl) (cwV 0 hts gL_law_X8_thrown rfl rfl rfl (by decide +kernel) ⟨Nat.le_of_ble_eq_true rfl, Nat.le_of_ble_eq_true rfl⟩) (va_recv hK hP (q0 := 132) rfl (tw_obj hq8 (by decide))) hK hN hP hS (Nat.le_refl _) rfl hl.1 (Nat.le_of_ble_eq_true rfl) dL_law_978 ⟨(show k0 + 1 + 1 + 0 ≤ 601024 by omega), (show n0 + 6 + 10 + 0 ≤ 7293034 by omega)⟩ rfl (fun H locs hP hS => ?_)
                                refine lv_iload hx hb dL_law_981 (lv_at hl 1 rfl) ?_
                                refine lv_icmp_eq (tgt := 988) hx hb dL_law_983 (by decide) (fun c284 => ?_) (fun c284 => ?_)
                                · rw [if_pos c284] at hm
                                  refine lv_iload hx hb dL_law_988 (lv_at hl 1 rfl) ?_
                                  refine lv_if_ne (tgt := 1005) hx hb dL_law_990 (by decide) (fun c285 => ?_) (fun c285 => ?_)
                                  · rw [if_neg c285] at hm
                                    refine lv_goto (tgt := 1211) hx hb dL_law_1005 (by decide) ?_
                                    obtain ⟨x286, ex286⟩ : ∃ z : Int32, z = i + (4 : Int32) := ⟨_, rfl⟩
                                    replace hm := bV_of hm ex286
                                    refine lv_iinc (v := x286) (lv' := [(4, .int x286), (6, .int r279), (5, .int r275), (0, .ref b), (1, .ref (s.heap.size + 0)), (2, .ref (s.heap.size + 132)), (3, .ref (s.heap.size + 177))]) hx hb dL_law_1211 hl (k := 6) rfl (by rw [ex286]; rfl) (by decide) rfl (fun ls hl => ?_)
                                    refine lv_goto (tgt := 23) hx hb dL_law_1214 (by decide) ?_
                                    exact ih x286 μ280 _ _ _ _ (k0 + 1 + 1 + 0) (n0 + 6 + 10 + 0) (by omega) (by omega) hd0 hm hP hS (lv_sub hl [3, 4, 5, 6, 0] rfl)
                                  · rw [if_pos c285] at hm
                                    refine lv_aload_n hx hb dL_law_993 rfl (lv_at hl 5 rfl) ?_
                                    refine lv_iconst (v := (0 : Int32)) hx hb dL_law_994 (by decide) ?_
                                    obtain ⟨hg287, hm⟩ := gd_inv hm
                                    refine t_lald hx hb hK hP hqo hg287 dL_law_995 ?_
                                    refine lv_iload hx hb dL_law_996 (lv_at hl 0 rfl) ?_
                                    refine lv_i2l (v := r279.toInt64) hx hb dL_law_998 rfl ?_
                                    refine W.lcmp hx hb dL_law_999 ?_
                                    refine lv_if_eq (tgt := 1005) hx hb dL_law_1000 (by decide) (fun c288 => ?_) (fun c288 => ?_)
                                    · rw [if_pos c288] at hm
                                      refine lv_goto (tgt := 1211) hx hb dL_law_1005 (by decide) ?_
                                      obtain ⟨x289, ex289⟩ : ∃ z : Int32, z = i + (4 : Int32) := ⟨_, rfl⟩
                                      replace hm := bV_of hm ex289
                                      refine lv_iinc (v := x289) (lv' := [(4, .int x289), (6, .int r279), (5, .int r275), (0, .ref b), (1, .ref (s.heap.size + 0)), (2, .ref (s.heap.size + 132)), (3, .ref (s.heap.size + 177))]) hx hb dL_law_1211 hl (k := 6) rfl (by rw [ex289]; rfl) (by decide) rfl (fun ls hl => ?_)
                                      refine lv_goto (tgt := 23) hx hb dL_law_1214 (by decide) ?_
                                      exact ih x289 μ280 _ _ _ _ (k0 + 1 + 1 + 0) (n0 + 6 + 10 + 0) (by omega) (by omega) hd0 hm hP hS (lv_sub hl [3, 4, 5, 6, 0] rfl)
                                    · rw [if_neg c288] at hm
                                      refine lv_iconst (v := (0 : Int32)) hx hb dL_law_1003 (by decide) ?_
                                      cases hm
                                · rw [if_neg c284] at hm
                                  refine lv_iconst (v := (0 : Int32)) hx hb dL_law_986 (by decide) ?_
                                  cases hm
                              · rw [if_neg c273] at hm
                                by_cases c290 : ((xs i.toNatClampNeg) &&& (31 : Int32)) = 13
                                · rw [if_pos c290] at hm
                                  refine lv_tableIn (tgt := 1008) hx hb dL_law_39 (by rw [c290]; decide) (by rw [c290]; decide) (by rw [c290]; rfl) (by decide) ?_
                                  refine lv_aload_n hx hb dL_law_1008 rfl (lv_at hl 1 rfl) ?_
                                  refine lv_aload_n hx hb dL_law_1009 rfl (lv_at hl 0 rfl) ?_
                                  refine lv_iload hx hb dL_law_1010 (lv_at hl 4 rfl) ?_
                                  refine lv_iconst (v := (1 : Int32)) hx hb dL_law_1012 (by decide) ?_
                                  refine lv_iadd hx hb dL_law_1013 ?_
                                  obtain ⟨hg291, hm⟩ := gd_inv hm
                                  refine va_sld hx hb hSc hbl hbA hS hg291 dL_law_1014 ?_
                                  refine lv_aload_n hx hb dL_law_1015 rfl (lv_at hl 0 rfl) ?_
                                  refine lv_iload hx hb dL_law_1016 (lv_at hl 4 rfl) ?_
                                  refine lv_iconst (v := (2 : Int32)) hx hb dL_law_1018 (by decide) ?_
                                  refine lv_iadd hx hb dL_law_1019 ?_
                                  obtain ⟨hg292, hm⟩ := gd_inv hm
                                  refine va_sld hx hb hSc hbl hbA hS hg292 dL_law_1020 ?_
                                  refine lv_aload_n hx hb dL_law_1021 rfl (lv_at hl 0 rfl) ?_
                                  refine lv_iload hx hb dL_law_1022 (lv_at hl 4 rfl) ?_
                                  refine lv_iconst (v := (3 : Int32)) hx hb dL_law_1024 (by decide) ?_
                                  refine lv_iadd hx hb dL_law_1025 ?_
                                  obtain ⟨hg293, hm⟩ := gd_inv hm
                                  refine va_sld hx hb hSc hbl hbA hS hg293 dL_law_1026 ?_
                                  refine lv_aload_n hx hb dL_law_1027 rfl (lv_at hl 3 rfl) ?_
                                  obtain ⟨r294, μ295, hc296, hm⟩ := bO2_inv hm
                                  refine t_cL (As := [.ref (s.heap.size + 0), .int (xs (i + (1 : Int32)).toNatClampNeg), .int (xs (i + (2 : Int32)).toNatClampNeg), .int (xs (i + (3 : Int32)).toNatClampNeg), .ref (s.heap.size + 177)]) (rest := []) (μ' := μ295) (r := r294) ⟨hx, hb, hml, hown, hts⟩ (mL_foresee l hlt D cA s.heap.size H.size μ hq0 (xs (i + (1 : Int32)).toNatClampNeg) (xs (i + (2 : Int32)).toNatClampNeg) (xs (i + (3 : Int32)).toNatClampNeg) hqo hc296) (vx_cwSW 5 hts gL_law_L_foresee rfl rfl rfl (by decide +kernel) ⟨Nat.le_of_ble_eq_true rfl, Nat.le_of_ble_eq_true rfl⟩) hK hN hX hP hS rfl hl.1 (Nat.le_of_ble_eq_true rfl) dL_law_1028 ⟨(show k0 + 3 ≤ 601024 by omega), (show n0 + 18 ≤ 7293034 by omega)⟩ rfl (fun H locs hP hS => ?_)
                                  refine lv_istore (lv' := [(5, .int r294), (0, .ref b), (1, .ref (s.heap.size + 0)), (2, .ref (s.heap.size + 132)), (3, .ref (s.heap.size + 177)), (4, .int i)]) hx hb dL_law_1031 hl (by decide) rfl (fun ls hl => ?_)
                                  refine lv_aload_n hx hb dL_law_1033 rfl (lv_at hl 3 rfl) ?_
                                  refine lv_aload_n hx hb dL_law_1034 rfl (lv_at hl 1 rfl) ?_
                                  refine lv_iload hx hb dL_law_1035 (lv_at hl 5 rfl) ?_
                                  refine lv_iconst (v := (1 : Int32)) hx hb dL_law_1037 (by decide) ?_
                                  refine lv_iadd hx hb dL_law_1038 ?_
                                  obtain ⟨hg297, hm⟩ := gd_inv hm
                                  refine va_sld hx hb hSc hbl hbA hS hg297 dL_law_1039 ?_
                                  refine lv_aload_n hx hb dL_law_1040 rfl (lv_at hl 1 rfl) ?_
                                  refine lv_iload hx hb dL_law_1041 (lv_at hl 5 rfl) ?_
                                  refine lv_iconst (v := (2 : Int32)) hx hb dL_law_1043 (by decide) ?_
                                  refine lv_iadd hx hb dL_law_1044 ?_
                                  obtain ⟨hg298, hm⟩ := gd_inv hm
                                  refine va_sld hx hb hSc hbl hbA hS hg298 dL_law_1045 ?_
                                  refine lv_aload_n hx hb dL_law_1046 rfl (lv_at hl 1 rfl) ?_
                                  refine lv_iload hx hb dL_law_1047 (lv_at hl 5 rfl) ?_
                                  refine lv_iconst (v := (3 : Int32)) hx hb dL_law_1049 (by decide) ?_
                                  refine lv_iadd hx hb dL_law_1050 ?_
                                  obtain ⟨hg299, hm⟩ := gd_inv hm
                                  refine va_sld hx hb hSc hbl hbA hS hg299 dL_law_1051 ?_
                                  obtain ⟨r300, μ301, hc302, hm⟩ := bO2_inv hm
                                  refine t_cVi (As := [.int (xs (i + (1 : Int32)).toNatClampNeg), .int (xs (i + (2 : Int32)).toNatClampNeg), .int (xs (i + (3 : Int32)).toNatClampNeg)]) (rest := []) (μ' := μ301) (r := r300) ⟨hx, hb, hml, hown, hts⟩ (mX8_foresee l D cA s.heap.size H.size μ295 hq8 (xs (i + (1 : Int32)).toNatClampNeg) (xs (i + (2 : Int32)).toNatClampNeg) (xs (i + (3 : Int32)).toNatClampNeg) hc302) (cwV 3 hts gL_law_X8_foresee rfl rfl rfl (by decide +kernel) ⟨Nat.le_of_ble_eq_true rfl, Nat.le_of_ble_eq_true rfl⟩) (va_recv hK hP (q0 := 132) rfl (tw_obj hq8 (by decide))) hK hN hP hS (Nat.le_refl _) rfl hl.1 (Nat.le_of_ble_eq_true rfl) dL_law_1052 ⟨(show k0 + 3 + 0 ≤ 601024 by omega), (show n0 + 18 + 0 ≤ 7293034 by omega)⟩ rfl (fun H locs hP hS => ?_)
                                  refine lv_istore (lv' := [(6, .int r300), (5, .int r294), (0, .ref b), (1, .ref (s.heap.size + 0)), (2, .ref (s.heap.size + 132)), (3, .ref (s.heap.size + 177)), (4, .int i)]) hx hb dL_law_1055 hl (by decide) rfl (fun ls hl => ?_)
                                  refine lv_aload_n hx hb dL_law_1057 rfl (lv_at hl 4 rfl) ?_
                                  refine t_cVi (As := []) (rest := []) (μ' := μ301) (r := (X8_thrown 132 μ301)) ⟨hx, hb, hml, hown, hts⟩ (mX8_thrown l D cA s.heap.size H.size μ301 hq8 rfl) (cwV 0 hts gL_law_X8_thrown rfl rfl rfl (by decide +kernel) ⟨Nat.le_of_ble_eq_true rfl, Nat.le_of_ble_eq_true rfl⟩) (va_recv hK hP (q0 := 132) rfl (tw_obj hq8 (by decide))) hK hN hP hS (Nat.le_refl _) rfl hl.1 (Nat.le_of_ble_eq_true rfl) dL_law_1058 ⟨(show k0 + 3 + 0 + 0 ≤ 601024 by omega), (show n0 + 18 + 0 + 0 ≤ 7293034 by omega)⟩ rfl (fun H locs hP hS => ?_)
                                  refine lv_iload hx hb dL_law_1061 (lv_at hl 1 rfl) ?_
                                  refine lv_icmp_eq (tgt := 1068) hx hb dL_law_1063 (by decide) (fun c305 => ?_) (fun c305 => ?_)
                                  · rw [if_pos c305] at hm
                                    refine lv_iload hx hb dL_law_1068 (lv_at hl 1 rfl) ?_
                                    refine lv_if_ne (tgt := 1085) hx hb dL_law_1070 (by decide) (fun c306 => ?_) (fun c306 => ?_)
                                    · rw [if_neg c306] at hm
                                      refine lv_goto (tgt := 1211) hx hb dL_law_1085 (by decide) ?_
                                      obtain ⟨x307, ex307⟩ : ∃ z : Int32, z = i + (4 : Int32) := ⟨_, rfl⟩
                                      replace hm := bV_of hm ex307
                                      refine lv_iinc (v := x307) (lv' := [(4, .int x307), (6, .int r300), (5, .int r294), (0, .ref b), (1, .ref (s.heap.size + 0)), (2, .ref (s.heap.size + 132)), (3, .ref (s.heap.size + 177))]) hx hb dL_law_1211 hl (k := 6) rfl (by rw [ex307]; rfl) (by decide) rfl (fun ls hl => ?_)
                                      refine lv_goto (tgt := 23) hx hb dL_law_1214 (by decide) ?_
                                      exact ih x307 μ301 _ _ _ _ (k0 + 3 + 0 + 0) (n0 + 18 + 0 + 0) (by omega) (by omega) hd0 hm hP hS (lv_sub hl [3, 4, 5, 6, 0] rfl)
                                    · rw [if_pos c306] at hm
                                      refine lv_aload_n hx hb dL_law_1073 rfl (lv_at hl 5 rfl) ?_
                                      refine lv_iconst (v := (0 : Int32)) hx hb dL_law_1074 (by decide) ?_
                                      obtain ⟨hg308, hm⟩ := gd_inv hm
                                      refine t_lald hx hb hK hP hqo hg308 dL_law_1075 ?_
                                      refine lv_iload hx hb dL_law_1076 (lv_at hl 0 rfl) ?_
                                      refine lv_i2l (v := r300.toInt64) hx hb dL_law_1078 rfl ?_
                                      refine W.lcmp hx hb dL_law_1079 ?_
                                      refine lv_if_eq (tgt := 1085) hx hb dL_law_1080 (by decide) (fun c309 => ?_) (fun c309 => ?_)
                                      · rw [if_pos c309] at hm
                                        refine lv_goto (tgt := 1211) hx hb dL_law_1085 (by decide) ?_
                                        obtain ⟨x310, ex310⟩ : ∃ z : Int32, z = i + (4 : Int32) := ⟨_, rfl⟩
                                        replace hm := bV_of hm ex310
                                        refine lv_iinc (v := x310) (lv' := [(4, .int x310), (6, .int r300), (5, .int r294), (0, .ref b), (1, .ref (s.heap.size + 0)), (2, .ref (s.heap.size + 132)), (3, .ref (s.heap.size + 177))]) hx hb dL_law_1211 hl (k := 6) rfl (by rw [ex310]; rfl) (by decide) rfl (fun ls hl => ?_)
                                        refine lv_goto (tgt := 23) hx hb dL_law_1214 (by decide) ?_
                                        exact ih x310 μ301 _ _ _ _ (k0 + 3 + 0 + 0) (n0 + 18 + 0 + 0) (by omega) (by omega) hd0 hm hP hS (lv_sub hl [3, 4, 5, 6, 0] rfl)
                                      · rw [if_neg c309] at hm
                                        refine lv_iconst (v := (0 : Int32)) hx hb dL_law_1083 (by decide) ?_
                                        cases hm
                                  · rw [if_neg c305] at hm
                                    refine lv_iconst (v := (0 : Int32)) hx hb dL_law_1066 (by decide) ?_
                                    cases hm
                                · rw [if_neg c290] at hm
                                  by_cases c311 : ((xs i.toNatClampNeg) &&& (31 : Int32)) = 14
                                  · rw [if_pos c311] at hm
                                    refine lv_tableIn (tgt := 1088) hx hb dL_law_39 (by rw [c311]; decide) (by rw [c311]; decide) (by rw [c311]; rfl) (by decide) ?_
                                    refine lv_aload_n hx hb dL_law_1088 rfl (lv_at hl 1 rfl) ?_
                                    refine lv_aload_n hx hb dL_law_1089 rfl (lv_at hl 0 rfl) ?_
                                    refine lv_iload hx hb dL_law_1090 (lv_at hl 4 rfl) ?_
                                    refine lv_iconst (v := (1 : Int32)) hx hb dL_law_1092 (by decide) ?_
                                    refine lv_iadd hx hb dL_law_1093 ?_
                                    obtain ⟨hg312, hm⟩ := gd_inv hm
                                    refine va_sld hx hb hSc hbl hbA hS hg312 dL_law_1094 ?_
                                    refine lv_aload_n hx hb dL_law_1095 rfl (lv_at hl 0 rfl) ?_
                                    refine lv_iload hx hb dL_law_1096 (lv_at hl 4 rfl) ?_
                                    refine lv_iconst (v := (2 : Int32)) hx hb dL_law_1098 (by decide) ?_
                                    refine lv_iadd hx hb dL_law_1099 ?_
                                    obtain ⟨hg313, hm⟩ := gd_inv hm
                                    refine va_sld hx hb hSc hbl hbA hS hg313 dL_law_1100 ?_
                                    refine lv_aload_n hx hb dL_law_1101 rfl (lv_at hl 3 rfl) ?_
                                    obtain ⟨r314, μ315, hc316, hm⟩ := bO2_inv hm
                                    refine t_cL (As := [.ref (s.heap.size + 0), .int (xs (i + (1 : Int32)).toNatClampNeg), .int (xs (i + (2 : Int32)).toNatClampNeg), .ref (s.heap.size + 177)]) (rest := []) (μ' := μ315) (r := r314) ⟨hx, hb, hml, hown, hts⟩ (mL_advise l hlt D cA s.heap.size H.size μ hq0 (xs (i + (1 : Int32)).toNatClampNeg) (xs (i + (2 : Int32)).toNatClampNeg) hqo hc316) (vx_cwSW 4 hts gL_law_L_advise rfl rfl rfl (by decide +kernel) ⟨Nat.le_of_ble_eq_true rfl, Nat.le_of_ble_eq_true rfl⟩) hK hN hX hP hS rfl hl.1 (Nat.le_of_ble_eq_true rfl) dL_law_1102 ⟨(show k0 + 3 ≤ 601024 by omega), (show n0 + 18 ≤ 7293034 by omega)⟩ rfl (fun H locs hP hS => ?_)
                                    refine lv_istore (lv' := [(5, .int r314), (0, .ref b), (1, .ref (s.heap.size + 0)), (2, .ref (s.heap.size + 132)), (3, .ref (s.heap.size + 177)), (4, .int i)]) hx hb dL_law_1105 hl (by decide) rfl (fun ls hl => ?_)
                                    refine lv_aload_n hx hb dL_law_1107 rfl (lv_at hl 3 rfl) ?_
                                    refine lv_aload_n hx hb dL_law_1108 rfl (lv_at hl 1 rfl) ?_
                                    refine lv_iload hx hb dL_law_1109 (lv_at hl 5 rfl) ?_
                                    refine lv_iconst (v := (1 : Int32)) hx hb dL_law_1111 (by decide) ?_
                                    refine lv_iadd hx hb dL_law_1112 ?_
                                    obtain ⟨hg317, hm⟩ := gd_inv hm
                                    refine va_sld hx hb hSc hbl hbA hS hg317 dL_law_1113 ?_
                                    refine lv_aload_n hx hb dL_law_1114 rfl (lv_at hl 1 rfl) ?_
                                    refine lv_iload hx hb dL_law_1115 (lv_at hl 5 rfl) ?_
                                    refine lv_iconst (v := (2 : Int32)) hx hb dL_law_1117 (by decide) ?_
                                    refine lv_iadd hx hb dL_law_1118 ?_
                                    obtain ⟨hg318, hm⟩ := gd_inv hm
                                    refine va_sld hx hb hSc hbl hbA hS hg318 dL_law_1119 ?_
                                    obtain ⟨r319, μ320, hc321, hm⟩ := bO2_inv hm
                                    refine t_cVi (As := [.int (xs (i + (1 : Int32)).toNatClampNeg), .int (xs (i + (2 : Int32)).toNatClampNeg)]) (rest := []) (μ' := μ320) (r := r319) ⟨hx, hb, hml, hown, hts⟩ (mX8_advise l D cA s.heap.size H.size μ315 hq8 (xs (i + (1 : Int32)).toNatClampNeg) (xs (i + (2 : Int32)).toNatClampNeg) hc321) (cwV 2 hts gL_law_X8_advise rfl rfl rfl (by decide +kernel) ⟨Nat.le_of_ble_eq_true rfl, Nat.le_of_ble_eq_true rfl⟩) (va_recv hK hP (q0 := 132) rfl (tw_obj hq8 (by decide))) hK hN hP hS (Nat.le_refl _) rfl hl.1 (Nat.le_of_ble_eq_true rfl) dL_law_1120 ⟨(show k0 + 3 + 0 ≤ 601024 by omega), (show n0 + 18 + 0 ≤ 7293034 by omega)⟩ rfl (fun H locs hP hS => ?_)
                                    refine lv_istore (lv' := [(6, .int r319), (5, .int r314), (0, .ref b), (1, .ref (s.heap.size + 0)), (2, .ref (s.heap.size + 132)), (3, .ref (s.heap.size + 177)), (4, .int i)]) hx hb dL_law_1123 hl (by decide) rfl (fun ls hl => ?_)
                                    refine lv_aload_n hx hb dL_law_1125 rfl (lv_at hl 4 rfl) ?_
                                    refine t_cVi (As := []) (rest := []) (μ' := μ320) (r := (X8_thrown 132 μ320)) ⟨hx, hb, hml, hown, hts⟩ (mX8_thrown l D cA s.heap.size H.size μ320 hq8 rfl) (cwV 0 hts gL_law_X8_thrown rfl rfl rfl (by decide +kernel) ⟨Nat.le_of_ble_eq_true rfl, Nat.le_of_ble_eq_true rfl⟩) (va_recv hK hP (q0 := 132) rfl (tw_obj hq8 (by decide))) hK hN hP hS (Nat.le_refl _) rfl hl.1 (Nat.le_of_ble_eq_true rfl) dL_law_1126 ⟨(show k0 + 3 + 0 + 0 ≤ 601024 by omega), (show n0 + 18 + 0 + 0 ≤ 7293034 by omega)⟩ rfl (fun H locs hP hS => ?_)
                                    refine lv_iload hx hb dL_law_1129 (lv_at hl 1 rfl) ?_
                                    refine lv_icmp_eq (tgt := 1136) hx hb dL_law_1131 (by decide) (fun c324 => ?_) (fun c324 => ?_)
                                    · rw [if_pos c324] at hm
                                      refine lv_iload hx hb dL_law_1136 (lv_at hl 1 rfl) ?_
                                      refine lv_if_ne (tgt := 1153) hx hb dL_law_1138 (by decide) (fun c325 => ?_) (fun c325 => ?_)
                                      · rw [if_neg c325] at hm
                                        refine lv_goto (tgt := 1211) hx hb dL_law_1153 (by decide) ?_
                                        obtain ⟨x326, ex326⟩ : ∃ z : Int32, z = i + (4 : Int32) := ⟨_, rfl⟩
                                        replace hm := bV_of hm ex326
                                        refine lv_iinc (v := x326) (lv' := [(4, .int x326), (6, .int r319), (5, .int r314), (0, .ref b), (1, .ref (s.heap.size + 0)), (2, .ref (s.heap.size + 132)), (3, .ref (s.heap.size + 177))]) hx hb dL_law_1211 hl (k := 6) rfl (by rw [ex326]; rfl) (by decide) rfl (fun ls hl => ?_)
                                        refine lv_goto (tgt := 23) hx hb dL_law_1214 (by decide) ?_
                                        exact ih x326 μ320 _ _ _ _ (k0 + 3 + 0 + 0) (n0 + 18 + 0 + 0) (by omega) (by omega) hd0 hm hP hS (lv_sub hl [3, 4, 5, 6, 0] rfl)
                                      · rw [if_pos c325] at hm
                                        refine lv_aload_n hx hb dL_law_1141 rfl (lv_at hl 5 rfl) ?_
                                        refine lv_iconst (v := (0 : Int32)) hx hb dL_law_1142 (by decide) ?_
                                        obtain ⟨hg327, hm⟩ := gd_inv hm
                                        refine t_lald hx hb hK hP hqo hg327 dL_law_1143 ?_
                                        refine lv_iload hx hb dL_law_1144 (lv_at hl 0 rfl) ?_
                                        refine lv_i2l (v := r319.toInt64) hx hb dL_law_1146 rfl ?_
                                        refine W.lcmp hx hb dL_law_1147 ?_
                                        refine lv_if_eq (tgt := 1153) hx hb dL_law_1148 (by decide) (fun c328 => ?_) (fun c328 => ?_)
                                        · rw [if_pos c328] at hm
                                          refine lv_goto (tgt := 1211) hx hb dL_law_1153 (by decide) ?_
                                          obtain ⟨x329, ex329⟩ : ∃ z : Int32, z = i + (4 : Int32) := ⟨_, rfl⟩
                                          replace hm := bV_of hm ex329
                                          refine lv_iinc (v := x329) (lv' := [(4, .int x329), (6, .int r319), (5, .int r314), (0, .ref b), (1, .ref (s.heap.size + 0)), (2, .ref (s.heap.size + 132)), (3, .ref (s.heap.size + 177))]) hx hb dL_law_1211 hl (k := 6) rfl (by rw [ex329]; rfl) (by decide) rfl (fun ls hl => ?_)
                                          refine lv_goto (tgt := 23) hx hb dL_law_1214 (by decide) ?_
                                          exact ih x329 μ320 _ _ _ _ (k0 + 3 + 0 + 0) (n0 + 18 + 0 + 0) (by omega) (by omega) hd0 hm hP hS (lv_sub hl [3, 4, 5, 6, 0] rfl)
                                        · rw [if_neg c328] at hm
                                          refine lv_iconst (v := (0 : Int32)) hx hb dL_law_1151 (by decide) ?_
                                          cases hm
                                    · rw [if_neg c324] at hm
                                      refine lv_iconst (v := (0 : Int32)) hx hb dL_law_1134 (by decide) ?_
                                      cases hm
                                  · rw [if_neg c311] at hm
                                    by_cases c330 : ((xs i.toNatClampNeg) &&& (31 : Int32)) = 15
                                    · rw [if_pos c330] at hm
                                      refine lv_tableIn (tgt := 1156) hx hb dL_law_39 (by rw [c330]; decide) (by rw [c330]; decide) (by rw [c330]; rfl) (by decide) ?_
                                      refine lv_aload_n hx hb dL_law_1156 rfl (lv_at hl 1 rfl) ?_
                                      obtain ⟨r331, μ332, hc333, hm⟩ := bO2_inv hm
                                      refine t_cVd hd0 (rest := []) (μ' := μ332) (r := r331) ⟨hx, hb, hml, hown, hts⟩ (mX6_through l D cA s.heap.size H.size μ hq0 hc333) (cwV 0 hts gL_law_X6_through rfl rfl rfl (by decide +kernel) ⟨Nat.le_of_ble_eq_true rfl, Nat.le_of_ble_eq_true rfl⟩) (va_recv hK hP (q0 := 0) rfl (tw_obj hq0 (by decide))) hK hN hP hS (Nat.le_refl _) hl.1 (Nat.le_of_ble_eq_true rfl) dL_law_1157 ⟨(show k0 + 0 ≤ 601024 by omega), (show n0 + 0 ≤ 7293034 by omega)⟩ rfl (fun x334 dr336 H locs ha335 hd0 hP hS => ?_)
                                      have hK : va_K D vwCl (tys cA) (s.setDrawn dr336) := hK
                                      have hN : tN (s.setDrawn dr336) := hN
                                      have hts : ∀ w ∈ wsL_law, w.before #[Value.ref b] (s.setDrawn dr336) = true := dr_words hts0 _
                                      have hown : (s.setDrawn dr336).vm.findClass RL = some m.cls := hown
                                      refine lv_dstore (lv' := [(5, .double x334), (0, .ref b), (1, .ref (s.heap.size + 0)), (2, .ref (s.heap.size + 132)), (3, .ref (s.heap.size + 177)), (4, .int i)]) hx hb dL_law_1160 hl (by decide) rfl (fun ls hl => ?_)
                                      refine lv_aload_n hx hb dL_law_1162 rfl (lv_at hl 3 rfl) ?_
                                      obtain ⟨r337, μ338, hc339, hm⟩ := bO2_inv hm
                                      refine t_cVd hd0 (rest := []) (μ' := μ338) (r := r337) ⟨hx, hb, hml, hown, hts⟩ (mX8_through l D cA s.heap.size H.size μ332 hq8 hc339) (cwV 0 hts gL_law_X8_through rfl rfl rfl (by decide +kernel) ⟨Nat.le_of_ble_eq_true rfl, Nat.le_of_ble_eq_true rfl⟩) (va_recv hK hP (q0 := 132) rfl (tw_obj hq8 (by decide))) hK hN hP hS (Nat.le_refl _) hl.1 (Nat.le_of_ble_eq_true rfl) dL_law_1163 ⟨(show k0 + 0 + 0 ≤ 601024 by omega), (show n0 + 0 + 0 ≤ 7293034 by omega)⟩ rfl (fun x340 dr342 H locs ha341 hd0 hP hS => ?_)
                                      have hK : va_K D vwCl (tys cA) (s.setDrawn dr342) := hK
                                      have hN : tN (s.setDrawn dr342) := hN
                                      have hts : ∀ w ∈ wsL_law, w.before #[Value.ref b] (s.setDrawn dr342) = true := dr_words hts0 _
                                      have hown : (s.setDrawn dr342).vm.findClass RL = some m.cls := hown
                                      refine lv_dstore (lv' := [(7, .double x340), (5, .double x334), (0, .ref b), (1, .ref (s.heap.size + 0)), (2, .ref (s.heap.size + 132)), (3, .ref (s.heap.size + 177)), (4, .int i)]) hx hb dL_law_1166 hl (by decide) rfl (fun ls hl => ?_)
                                      obtain ⟨hg, hm⟩ := gd_inv hm
                                      rw [← hg] at ha341
                                      refine lv_dload hx hb dL_law_1168 (lv_at hl 1 rfl) ?_
                                      refine lv_dload hx hb dL_law_1170 (lv_at hl 0 rfl) ?_
                                      refine lv_dcmp hx hb dL_law_1172 ?_
                                      refine lv_if_eq (tgt := 1194) hx hb dL_law_1173 (by decide) (fun c1 => ?_) (fun c1 => ?_)
                                      · skip
                                        refine lv_goto (tgt := 1211) hx hb dL_law_1194 (by decide) ?_
                                        obtain ⟨x343, ex343⟩ : ∃ z : Int32, z = i + (4 : Int32) := ⟨_, rfl⟩
                                        replace hm := bV_of hm ex343
                                        refine lv_iinc (v := x343) (lv' := [(4, .int x343), (7, .double x340), (5, .double x334), (0, .ref b), (1, .ref (s.heap.size + 0)), (2, .ref (s.heap.size + 132)), (3, .ref (s.heap.size + 177))]) hx hb dL_law_1211 hl (k := 6) rfl (by rw [ex343]; rfl) (by decide) rfl (fun ls hl => ?_)
                                        refine lv_goto (tgt := 23) hx hb dL_law_1214 (by decide) ?_
                                        exact ih x343 μ338 _ _ _ _ (k0 + 0 + 0) (n0 + 0 + 0) (by omega) (by omega) hd0 hm hP hS (lv_sub hl [3, 4, 5, 6, 0] rfl)
                                      · have hn := dbl_ok ha335 ha341 c1
                                        refine lv_dload hx hb dL_law_1176 (lv_at hl 1 rfl) ?_
                                        refine lv_dload hx hb dL_law_1178 (lv_at hl 1 rfl) ?_
                                        refine lv_dcmp hx hb dL_law_1180 ?_
                                        refine lv_if_eq (tgt := 1192) hx hb dL_law_1181 (by decide) (fun c2 => absurd c2 hn.1) (fun c2 => ?_)
                                        refine lv_dload hx hb dL_law_1184 (lv_at hl 0 rfl) ?_
                                        refine lv_dload hx hb dL_law_1186 (lv_at hl 0 rfl) ?_
                                        refine lv_dcmp hx hb dL_law_1188 ?_
                                        refine lv_if_ne (tgt := 1194) hx hb dL_law_1189 (by decide) (fun c3 => ?_) (fun c3 => absurd c3 hn.2)
                                        refine lv_goto (tgt := 1211) hx hb dL_law_1194 (by decide) ?_
                                        obtain ⟨x343, ex343⟩ : ∃ z : Int32, z = i + (4 : Int32) := ⟨_, rfl⟩
                                        replace hm := bV_of hm ex343
                                        refine lv_iinc (v := x343) (lv' := [(4, .int x343), (7, .double x340), (5, .double x334), (0, .ref b), (1, .ref (s.heap.size + 0)), (2, .ref (s.heap.size + 132)), (3, .ref (s.heap.size + 177))]) hx hb dL_law_1211 hl (k := 6) rfl (by rw [ex343]; rfl) (by decide) rfl (fun ls hl => ?_)
                                        refine lv_goto (tgt := 23) hx hb dL_law_1214 (by decide) ?_
                                        exact ih x343 μ338 _ _ _ _ (k0 + 0 + 0) (n0 + 0 + 0) (by omega) (by omega) hd0 hm hP hS (lv_sub hl [3, 4, 5, 6, 0] rfl)
                                    · rw [if_neg c330] at hm
                                      by_cases c344 : ((xs i.toNatClampNeg) &&& (31 : Int32)) = 16
                                      · rw [if_pos c344] at hm
                                        refine lv_tableIn (tgt := 1197) hx hb dL_law_39 (by rw [c344]; decide) (by rw [c344]; decide) (by rw [c344]; rfl) (by decide) ?_
                                        refine lv_aload_n hx hb dL_law_1197 rfl (lv_at hl 1 rfl) ?_
                                        obtain ⟨r345, μ346, hc347, hm⟩ := bO2_inv hm
                                        refine t_cVl (As := []) (rest := []) (μ' := μ346) (r := r345) ⟨hx, hb, hml, hown, hts⟩ (mX6_digest l D cA s.heap.size H.size μ hq0 hc347) (cwV 0 hts gL_law_X6_digest rfl rfl rfl (by decide +kernel) ⟨Nat.le_of_ble_eq_true rfl, Nat.le_of_ble_eq_true rfl⟩) (va_recv hK hP (q0 := 0) rfl (tw_obj hq0 (by decide))) hK hN hP hS (Nat.le_refl _) rfl hl.1 (Nat.le_of_ble_eq_true rfl) dL_law_1198 ⟨(show k0 + 0 ≤ 601024 by omega), (show n0 + 0 ≤ 7293034 by omega)⟩ rfl (fun H locs hP hS => ?_)
                                        refine lv_aload_n hx hb dL_law_1201 rfl (lv_at hl 2 rfl) ?_
                                        obtain ⟨r348, μ349, hc350, hm⟩ := bO2_inv hm
                                        refine t_cVl (As := []) (rest := [.long r345]) (μ' := μ349) (r := r348) ⟨hx, hb, hml, hown, hts⟩ (mX8_digest l D cA s.heap.size H.size μ346 hq8 hc350) (cwV 0 hts gL_law_X8_digest rfl rfl rfl (by decide +kernel) ⟨Nat.le_of_ble_eq_true rfl, Nat.le_of_ble_eq_true rfl⟩) (va_recv hK hP (q0 := 132) rfl (tw_obj hq8 (by decide))) hK hN hP hS (Nat.le_refl _) rfl hl.1 (Nat.le_of_ble_eq_true rfl) dL_law_1202 ⟨(show k0 + 0 + 174 ≤ 601024 by omega), (show n0 + 0 + 1615 ≤ 7293034 by omega)⟩ rfl (fun H locs hP hS => ?_)
                                        refine W.lcmp hx hb dL_law_1205 ?_
                                        refine lv_if_eq (tgt := 1211) hx hb dL_law_1206 (by decide) (fun c351 => ?_) (fun c351 => ?_)
                                        · rw [if_pos c351] at hm
                                          obtain ⟨x352, ex352⟩ : ∃ z : Int32, z = i + (4 : Int32) := ⟨_, rfl⟩
                                          replace hm := bV_of hm ex352
                                          refine lv_iinc (v := x352) (lv' := [(4, .int x352), (0, .ref b), (1, .ref (s.heap.size + 0)), (2, .ref (s.heap.size + 132)), (3, .ref (s.heap.size + 177))]) hx hb dL_law_1211 hl (k := 4) rfl (by rw [ex352]; rfl) (by decide) rfl (fun ls hl => ?_)
                                          refine lv_goto (tgt := 23) hx hb dL_law_1214 (by decide) ?_
                                          exact ih x352 μ349 _ _ _ _ (k0 + 0 + 174) (n0 + 0 + 1615) (by omega) (by omega) hd0 hm hP hS (lv_sub hl [1, 2, 3, 4, 0] rfl)
                                        · rw [if_neg c351] at hm
                                          refine lv_iconst (v := (0 : Int32)) hx hb dL_law_1209 (by decide) ?_
                                          cases hm
                                      · rw [if_neg c344] at hm
                                        refine lv_tableOut (tgt := 1211) hx hb dL_law_39 (by have nc3 : (((xs i.toNatClampNeg) &&& (31 : Int32))).toInt ≠ 0 := fun h => c3 (Int32.toInt_inj.mp (h.trans (by decide))); have nc20 : (((xs i.toNatClampNeg) &&& (31 : Int32))).toInt ≠ 1 := fun h => c20 (Int32.toInt_inj.mp (h.trans (by decide))); have nc41 : (((xs i.toNatClampNeg) &&& (31 : Int32))).toInt ≠ 2 := fun h => c41 (Int32.toInt_inj.mp (h.trans (by decide))); have nc58 : (((xs i.toNatClampNeg) &&& (31 : Int32))).toInt ≠ 3 := fun h => c58 (Int32.toInt_inj.mp (h.trans (by decide))); have nc77 : (((xs i.toNatClampNeg) &&& (31 : Int32))).toInt ≠ 4 := fun h => c77 (Int32.toInt_inj.mp (h.trans (by decide))); have nc98 : (((xs i.toNatClampNeg) &&& (31 : Int32))).toInt ≠ 5 := fun h => c98 (Int32.toInt_inj.mp (h.trans (by decide))); have nc117 : (((xs i.toNatClampNeg) &&& (31 : Int32))).toInt ≠ 6 := fun h => c117 (Int32.toInt_inj.mp (h.trans (by decide))); have nc136 : (((xs i.toNatClampNeg) &&& (31 : Int32))).toInt ≠ 7 := fun h => c136 (Int32.toInt_inj.mp (h.trans (by decide))); have nc155 : (((xs i.toNatClampNeg) &&& (31 : Int32))).toInt ≠ 8 := fun h => c155 (Int32.toInt_inj.mp (h.trans (by decide))); have nc174 : (((xs i.toNatClampNeg) &&& (31 : Int32))).toInt ≠ 9 := fun h => c174 (Int32.toInt_inj.mp (h.trans (by decide))); have nc193 : (((xs i.toNatClampNeg) &&& (31 : Int32))).toInt ≠ 10 := fun h => c193 (Int32.toInt_inj.mp (h.trans (by decide))); have nc210 : (((xs i.toNatClampNeg) &&& (31 : Int32))).toInt ≠ 11 := fun h => c210 (Int32.toInt_inj.mp (h.trans (by decide))); have nc273 : (((xs i.toNatClampNeg) &&& (31 : Int32))).toInt ≠ 12 := fun h => c273 (Int32.toInt_inj.mp (h.trans (by decide))); have nc290 : (((xs i.toNatClampNeg) &&& (31 : Int32))).toInt ≠ 13 := fun h => c290 (Int32.toInt_inj.mp (h.trans (by decide))); have nc311 : (((xs i.toNatClampNeg) &&& (31 : Int32))).toInt ≠ 14 := fun h => c311 (Int32.toInt_inj.mp (h.trans (by decide))); have nc330 : (((xs i.toNatClampNeg) &&& (31 : Int32))).toInt ≠ 15 := fun h => c330 (Int32.toInt_inj.mp (h.trans (by decide))); have nc344 : (((xs i.toNatClampNeg) &&& (31 : Int32))).toInt ≠ 16 := fun h => c344 (Int32.toInt_inj.mp (h.trans (by decide))); omega) (by decide) ?_
                                        obtain ⟨x353, ex353⟩ : ∃ z : Int32, z = i + (4 : Int32) := ⟨_, rfl⟩
                                        replace hm := bV_of hm ex353
                                        refine lv_iinc (v := x353) (lv' := [(4, .int x353), (0, .ref b), (1, .ref (s.heap.size + 0)), (2, .ref (s.heap.size + 132)), (3, .ref (s.heap.size + 177))]) hx hb dL_law_1211 hl (k := 4) rfl (by rw [ex353]; rfl) (by decide) rfl (fun ls hl => ?_)
                                        refine lv_goto (tgt := 23) hx hb dL_law_1214 (by decide) ?_
                                        exact ih x353 μ _ _ _ _ (k0) (n0) (by omega) (by omega) hd0 hm hP hS (lv_sub hl [1, 2, 3, 4, 0] rfl)
