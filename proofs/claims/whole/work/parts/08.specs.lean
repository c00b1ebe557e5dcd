theorem fit_z {v : Int32} (h : v = 0 ∨ v = 1) : fits .boolean (.int v) = true := by rcases h with rfl | rfl <;> decide
def sp_X10_isOutside (p0 : Int32) (p1 : Int32) (p2 : Int32) (M : Mm) : Option (Int32 × Mm) := if p0 < p1 then (some ((1 : Int32), M)) else (if p2 < p0 then (some ((1 : Int32), M)) else (some ((0 : Int32), M)))
def rm_X10_isOutside : Room := { frames := 0, cells := 0, slots := 0, locals := 0 }
def sp_X10_put (c0 : Nat) (p1 : Int32) (p2 : Int32) (M : Mm) : Option (Unit × Mm) := if p1 < 0 then (some ((), M)) else (if p1 < (nI (ln c0)) then (wrI M c0 p1 p2 (fun M13 => some ((), M13))) else (some ((), M)))
def rm_X10_put : Room := { frames := 0, cells := 0, slots := 0, locals := 0 }
def sp_X5_add (p1 : Int32) (M : Mm) : Option (Unit × Mm) := bd (sp_X10_put 2 (gI M 1 1) p1 M) (fun _ M9 => bl (sI M9 1 1 ((gI M9 1 1) + (1 : Int32))) (fun M19 => some ((), M19)))
def rm_X5_add : Room := { frames := 1, cells := 0, slots := 0, locals := 22 }
def sp_X10_letter (p1 : Int32) (M : Mm) : Option (Int32 × Mm) := bd (sp_X10_isOutside p1 (1 : Int32) (126 : Int32) M) (fun r4 M4 => if r4 = 0 then (if (gI M4 1 1) < (22 : Int32) then (bd (sp_X5_add p1 M4) (fun _ M33 => some (gI M33 1 1, M33))) else (some ((-104 : Int32), M4))) else (some ((-102 : Int32), M4)))
def rm_X10_letter : Room := { frames := 2, cells := 0, slots := 0, locals := 43 }
def sp_X5_clear (M : Mm) : Option (Unit × Mm) := bl (sI M 1 1 (0 : Int32)) (fun M2 => some ((), M2))
def rm_X5_clear : Room := { frames := 0, cells := 0, slots := 0, locals := 0 }
def sp_X10_blank (M : Mm) : Option (Int32 × Mm) := bl (gI M 1 1) (fun y7 => bd (sp_X5_clear M) (fun _ M12 => some (y7, M12)))
def rm_X10_blank : Room := { frames := 1, cells := 0, slots := 0, locals := 20 }
def sp_X10_at (c0 : Nat) (p1 : Int32) (M : Mm) : Option (Int32 × Mm) := if p1 < 0 then (some ((0 : Int32), M)) else (if p1 < (nI (ln c0)) then (rdI M c0 p1 (fun a12 => some (a12, M))) else (some ((0 : Int32), M)))
def rm_X10_at : Room := { frames := 0, cells := 0, slots := 0, locals := 0 }
def sp_X5_letterAt (p1 : Int32) (M : Mm) : Option (Int32 × Mm) := bd (sp_X10_at 2 p1 M) (fun r5 M5 => some (r5, M5))
def rm_X5_letterAt : Room := { frames := 1, cells := 0, slots := 0, locals := 21 }
def sp_X5_digitAt (p1 : Int32) (M : Mm) : Option (Int32 × Mm) := bd (sp_X10_at 2 p1 M) (fun r5 M5 => some (r5 - (48 : Int32), M5))
def rm_X5_digitAt : Room := { frames := 1, cells := 0, slots := 0, locals := 21 }
def sp_X5_gustsTo_L4 (p1 : Int32) : Nat → Int32 → Int32 → Mm → Option (Int32 × Mm)
  | 0, _, _, _ => none
  | n4 + 1, v2_4, v3_4, M_4 => if p1 < v3_4 then (some (v2_4, M_4)) else (bd (sp_X5_digitAt v3_4 M_4) (fun r12 M12 => bl (v2_4 + r12) (fun y16 => sp_X5_gustsTo_L4 p1 n4 y16 (v3_4 + 1) M12)))
def sp_X5_gustsTo (p1 : Int32) (M : Mm) : Option (Int32 × Mm) := sp_X5_gustsTo_L4 p1 fu (0 : Int32) (5 : Int32) M
def rm_X5_gustsTo : Room := { frames := 2, cells := 0, slots := 0, locals := 42 }
def sp_X5_fits (p1 : Int32) (M : Mm) : Option (Int32 × Mm) := jn (bd (sp_X5_letterAt p1 M) (fun r18 M18 => if r18 = (58 : Int32) then (some ((1 : Int32), M18)) else (some ((0 : Int32), M18)))) (fun (K16 : Option (Int32 × Mm)) => if p1 = (2 : Int32) then (K16) else (if p1 = (4 : Int32) then (K16) else (if p1 = (8 : Int32) then (K16) else (bd (sp_X5_digitAt p1 M) (fun r34 M34 => bd (sp_X10_isOutside r34 (0 : Int32) (9 : Int32) M34) (fun r40 M40 => if r40 = 0 then (if p1 = 0 then (bd (sp_X5_digitAt (0 : Int32) M40) (fun r86 M86 => if r86 = 0 then (some ((0 : Int32), M86)) else (some ((1 : Int32), M86)))) else (if p1 = 6 then (bd (sp_X5_gustsTo p1 M40) (fun r100 M100 => if (10 : Int32) < r100 then (some ((0 : Int32), M100)) else (some ((1 : Int32), M100)))) else (if p1 = 7 then (bd (sp_X5_gustsTo p1 M40) (fun r116 M116 => if r116 = (10 : Int32) then (some ((1 : Int32), M116)) else (some ((0 : Int32), M116)))) else (if p1 < (19 : Int32) then (some ((1 : Int32), M40)) else (some ((0 : Int32), M40)))))) else (some ((0 : Int32), M40))))))))
def rm_X5_fits : Room := { frames := 3, cells := 0, slots := 0, locals := 65 }
def sp_X5_faultPlace_L2 : Nat → Int32 → Mm → Option (Int32 × Mm)
  | 0, _, _ => none
  | n2 + 1, v1_2, M_2 => if v1_2 < (gI M_2 1 1) then (bd (sp_X5_fits v1_2 M_2) (fun r12 M12 => if r12 = 0 then (some (v1_2, M12)) else (sp_X5_faultPlace_L2 n2 (v1_2 + 1) M12))) else (some (gI M_2 1 1, M_2))
def sp_X5_faultPlace (M : Mm) : Option (Int32 × Mm) := sp_X5_faultPlace_L2 fu (0 : Int32) M
def rm_X5_faultPlace : Room := { frames := 4, cells := 0, slots := 0, locals := 86 }
def sp_X10_fault (M : Mm) : Option (Int32 × Mm) := bd (sp_X5_faultPlace M) (fun r4 M4 => some (r4, M4))
def rm_X10_fault : Room := { frames := 5, cells := 0, slots := 0, locals := 107 }
def sp_X5_isNight (M : Mm) : Option (Int32 × Mm) := if (9 : Int32) < (gI M 1 1) then (bd (sp_X5_faultPlace M) (fun r10 M10 => if r10 = (gI M10 1 1) then (some ((1 : Int32), M10)) else (some ((0 : Int32), M10)))) else (some ((0 : Int32), M))
def rm_X5_isNight : Room := { frames := 5, cells := 0, slots := 0, locals := 107 }
def sp_X7_read_L72 : Nat → Int32 → Mm → Option (Unit × Mm)
  | 0, _, _ => none
  | n72 + 1, v2_72, M_72 => if v2_72 < (gI M_72 3 1) then (bd (sp_X5_digitAt ((9 : Int32) + v2_72) M_72) (fun r90 M90 => bd (sp_X10_put 5 v2_72 r90 M90) (fun _ M93 => sp_X7_read_L72 n72 (v2_72 + 1) M93))) else (some ((), M_72))
def sp_X7_read_L29 (K59 : Mm → Option (Unit × Mm)) : Nat → Int32 → Mm → Option (Unit × Mm)
  | 0, _, _ => none
  | n29 + 1, v2_29, M_29 => if v2_29 < (3 : Int32) then (bd (sp_X5_digitAt ((5 : Int32) + v2_29) M_29) (fun r47 M47 => bd (sp_X10_put 4 v2_29 r47 M47) (fun _ M50 => sp_X7_read_L29 K59 n29 (v2_29 + 1) M50))) else (K59 M_29)
def sp_X7_read (M : Mm) : Option (Unit × Mm) := bd (sp_X5_digitAt (0 : Int32) M) (fun r5 M5 => bd (sp_X5_digitAt (1 : Int32) M5) (fun r11 M11 => bl (sI M11 3 0 (((10 : Int32) * r5) + r11)) (fun M15 => bd (sp_X5_digitAt (3 : Int32) M15) (fun r21 M21 => bl (sI M21 3 2 r21) (fun M24 => jn (fun (M_59 : Mm) => bl (sI M_59 3 1 ((gI M_59 1 1) - (9 : Int32))) (fun M67 => sp_X7_read_L72 fu (0 : Int32) M67)) (fun (K59 : Mm → Option (Unit × Mm)) => sp_X7_read_L29 K59 fu (0 : Int32) M24))))))
def rm_X7_read : Room := { frames := 2, cells := 0, slots := 0, locals := 42 }
def sp_X6_clear (M : Mm) : Option (Unit × Mm) := bl (sI M 6 0 (0 : Int32)) (fun M2 => some ((), M2))
def rm_X6_clear : Room := { frames := 0, cells := 0, slots := 0, locals := 0 }
def sp_J7_fill_53178_L5 (y4 : Int32) (c0 : Nat) (p1 : Int32) : Nat → Int32 → Mm → Option (Unit × Mm)
  | 0, _, _ => none
  | n5 + 1, v2_5, M_5 => if v2_5 < y4 then (wrI M_5 c0 v2_5 p1 (fun M13 => sp_J7_fill_53178_L5 y4 c0 p1 n5 (v2_5 + 1) M13)) else (some ((), M_5))
def sp_J7_fill_53178 (c0 : Nat) (p1 : Int32) (M : Mm) : Option (Unit × Mm) := bl (nI (ln c0)) (fun y4 => sp_J7_fill_53178_L5 y4 c0 p1 fu (0 : Int32) M)
def rm_J7_fill_53178 : Room := { frames := 0, cells := 0, slots := 0, locals := 0 }
def sp_X2_clear (M : Mm) : Option (Unit × Mm) := bl (sI M 9 0 (0 : Int32)) (fun M2 => bd (sp_J7_fill_53178 12 (0 : Int32) M2) (fun _ M10 => some ((), M10)))
def rm_X2_clear : Room := { frames := 1, cells := 0, slots := 0, locals := 23 }
def sp_X1_clear (M : Mm) : Option (Unit × Mm) := bl (sI M 13 0 (0 : Int32)) (fun M2 => bl (sI M2 13 1 (0 : Int32)) (fun M7 => bl (sI M7 13 2 (0 : Int32)) (fun M12 => bl (sI M12 13 3 (0 : Int32)) (fun M17 => bl (sI M17 13 4 (0 : Int32)) (fun M22 => bl (sI M22 13 5 (60 : Int32)) (fun M28 => bl (sI M28 13 6 (0 : Int32)) (fun M33 => bl (sI M33 13 7 (0 : Int32)) (fun M38 => bd (sp_J7_fill_53178 15 (0 : Int32) M38) (fun _ M46 => some ((), M46))))))))))
def rm_X1_clear : Room := { frames := 1, cells := 0, slots := 0, locals := 23 }
def sp_X10_night (M : Mm) : Option (Int32 × Mm) := bd (sp_X5_isNight M) (fun r4 M4 => if r4 = 0 then (some ((-103 : Int32), M4)) else (bd (sp_X7_read M4) (fun _ M21 => bd (sp_X5_clear M21) (fun _ M28 => bd (sp_X6_clear M28) (fun _ M35 => bd (sp_X2_clear M35) (fun _ M42 => bd (sp_X1_clear M42) (fun _ M49 => bl (sI M49 0 10 ((gI M49 0 10) + (1 : Int32))) (fun M59 => some (gI M59 3 1, M59)))))))))
def rm_X10_night : Room := { frames := 6, cells := 0, slots := 0, locals := 127 }
def sp_X10_hasNight (M : Mm) : Option (Int32 × Mm) := if 0 < (gI M 0 10) then (some ((1 : Int32), M)) else (some ((0 : Int32), M))
def rm_X10_hasNight : Room := { frames := 0, cells := 0, slots := 0, locals := 0 }
def sp_X7_tell (p1 : Int32) (M : Mm) : Option (Int32 × Mm) := if p1 = 0 then (some (gI M 3 0, M)) else (if p1 = (1 : Int32) then (some (gI M 3 2, M)) else (if p1 < (10 : Int32) then (bd (sp_X10_at 4 (p1 - (2 : Int32)) M) (fun r32 M32 => some (r32, M32))) else (if (p1 - (10 : Int32)) < (gI M 3 1) then (bd (sp_X10_at 5 (p1 - (10 : Int32)) M) (fun r55 M55 => some (r55, M55))) else (some ((-1 : Int32), M)))))
def rm_X7_tell : Room := { frames := 1, cells := 0, slots := 0, locals := 21 }
def sp_X10_sea (p1 : Int32) (M : Mm) : Option (Int32 × Mm) := bd (sp_X10_isOutside p1 (0 : Int32) (4 : Int32) M) (fun r3 M3 => jn (fun (M_23 : Mm) => bd (sp_X10_hasNight M_23) (fun r24 M24 => if r24 = 0 then (some ((-103 : Int32), M24)) else (bd (sp_X7_tell p1 M24) (fun r38 M38 => some (r38, M38))))) (fun (K23 : Mm → Option (Int32 × Mm)) => if r3 = 0 then (K23 M3) else (bd (sp_X10_isOutside p1 (10 : Int32) (19 : Int32) M3) (fun r14 M14 => if r14 = 0 then (K23 M14) else (some ((-102 : Int32), M14))))))
def rm_X10_sea : Room := { frames := 2, cells := 0, slots := 0, locals := 42 }
def sp_X6_add (p1 : Int32) (p2 : Int32) (M : Mm) : Option (Int32 × Mm) := bd (sp_X10_put 7 (gI M 6 0) p1 M) (fun _ M9 => bd (sp_X10_put 8 (gI M9 6 0) p2 M9) (fun _ M21 => bl (sI M21 6 0 ((gI M21 6 0) + (1 : Int32))) (fun M31 => some ((gI M31 6 0) - (1 : Int32), M31))))
def rm_X6_add : Room := { frames := 1, cells := 0, slots := 0, locals := 22 }
def sp_X10_rocket (p1 : Int32) (p2 : Int32) (M : Mm) : Option (Int32 × Mm) := bd (sp_X10_isOutside p1 (10 : Int32) (120 : Int32) M) (fun r5 M5 => if r5 = 0 then (bd (sp_X10_isOutside p2 (0 : Int32) (9 : Int32) M5) (fun r15 M15 => if r15 = 0 then (bd (sp_X10_hasNight M15) (fun r25 M25 => if r25 = 0 then (some ((-103 : Int32), M25)) else (if (gI M25 6 0) < (6 : Int32) then (bd (sp_X6_add p1 p2 M25) (fun r55 M55 => some (r55, M55))) else (some ((-104 : Int32), M25))))) else (some ((-102 : Int32), M15)))) else (some ((-102 : Int32), M5)))
def rm_X10_rocket : Room := { frames := 2, cells := 0, slots := 0, locals := 44 }
def sp_X6_has (p1 : Int32) (M : Mm) : Option (Int32 × Mm) := if p1 < 0 then (some ((0 : Int32), M)) else (if p1 < (gI M 6 0) then (some ((1 : Int32), M)) else (some ((0 : Int32), M)))
def rm_X6_has : Room := { frames := 0, cells := 0, slots := 0, locals := 0 }
def sp_X10_isIn (p0 : Int32) (p1 : Int32) (M : Mm) : Option (Int32 × Mm) := if ((p0 >>> (p1 &&& 31)) &&& (1 : Int32)) = 0 then (some ((0 : Int32), M)) else (some ((1 : Int32), M))
def rm_X10_isIn : Room := { frames := 0, cells := 0, slots := 0, locals := 0 }
def sp_X1_stage (M : Mm) : Option (Int32 × Mm) := some ((gI M 13 0) / (5 : Int32), M)
def rm_X1_stage : Room := { frames := 0, cells := 0, slots := 0, locals := 0 }
def sp_X7_drift (p1 : Int32) (M : Mm) : Option (Int32 × Mm) := some (p1 * (gI M 3 2), M)
def rm_X7_drift : Room := { frames := 0, cells := 0, slots := 0, locals := 0 }
def sp_X6_fallsAt (p1 : Int32) (p2 : Int32) (p3 : Int32) (M : Mm) : Option (Int32 × Mm) := bd (sp_X10_at 7 p1 M) (fun r5 M5 => bd (sp_X10_at 8 p1 M5) (fun r13 M13 => bd (sp_X7_drift p3 M13) (fun r22 M22 => some ((r5 - (r13 * p2)) + r22, M22))))
def rm_X6_fallsAt : Room := { frames := 1, cells := 0, slots := 0, locals := 21 }
def sp_X10_with (p0 : Int32) (p1 : Int32) (M : Mm) : Option (Int32 × Mm) := some (p0 ||| ((1 : Int32) <<< (p1 &&& 31)), M)
def rm_X10_with : Room := { frames := 0, cells := 0, slots := 0, locals := 0 }
def sp_X7_isRight (p1 : Int32) (M : Mm) : Option (Int32 × Mm) := if p1 < (gI M 3 0) then (some ((0 : Int32), M)) else (if ((gI M 3 0) + (5 : Int32)) < p1 then (some ((0 : Int32), M)) else (some ((1 : Int32), M)))
def rm_X7_isRight : Room := { frames := 0, cells := 0, slots := 0, locals := 0 }
def sp_X10_fire (p1 : Int32) (p2 : Int32) (M : Mm) : Option (Int32 × Mm) := bd (sp_X6_has p1 M) (fun r5 M5 => if r5 = 0 then (some ((-101 : Int32), M5)) else (bd (sp_X10_isOutside p2 (-1 : Int32) (1 : Int32) M5) (fun r17 M17 => if r17 = 0 then (bd (sp_X10_isIn (gI M17 13 3) p1 M17) (fun r34 M34 => if r34 = 0 then (if (gI M34 13 2) = 0 then (bd (sp_X1_stage M34) (fun r62 M62 => bd (sp_X6_fallsAt p1 r62 p2 M62) (fun r70 M70 => bd (sp_X10_with (gI M70 13 3) p1 M70) (fun r86 M86 => bl (sI M86 13 3 r86) (fun M89 => bd (sp_X7_isRight r70 M89) (fun r97 M97 => if r97 = 0 then (some (r70, M97)) else (bl (sI M97 13 1 (1 : Int32)) (fun M108 => some (r70, M108))))))))) else (some ((-103 : Int32), M34))) else (some ((-103 : Int32), M34)))) else (some ((-102 : Int32), M17)))))
def rm_X10_fire : Room := { frames := 2, cells := 0, slots := 0, locals := 45 }
def sp_X7_gustTenths (p1 : Int32) (M : Mm) : Option (Int32 × Mm) := bd (sp_X10_at 4 (p1 + (1 : Int32)) M) (fun r7 M7 => some (r7, M7))
def rm_X7_gustTenths : Room := { frames := 1, cells := 0, slots := 0, locals := 21 }
def sp_X6_hitTenths_L6 (p1 : Int32) (p2 : Int32) : Nat → Int32 → Int32 → Mm → Option (Int32 × Mm)
  | 0, _, _, _ => none
  | n6 + 1, v4_6, v5_6, M_6 => if (1 : Int32) < v5_6 then (some (v4_6, M_6)) else (bd (sp_X6_fallsAt p1 p2 v5_6 M_6) (fun r19 M19 => bd (sp_X7_isRight r19 M19) (fun r22 M22 => if r22 = 0 then (sp_X6_hitTenths_L6 p1 p2 n6 v4_6 (v5_6 + 1) M22) else (bd (sp_X7_gustTenths v5_6 M22) (fun r33 M33 => bl (v4_6 + r33) (fun y37 => sp_X6_hitTenths_L6 p1 p2 n6 y37 (v5_6 + 1) M33))))))
def sp_X6_hitTenths (p1 : Int32) (p2 : Int32) (M : Mm) : Option (Int32 × Mm) := sp_X6_hitTenths_L6 p1 p2 fu (0 : Int32) (-1 : Int32) M
def rm_X6_hitTenths : Room := { frames := 2, cells := 0, slots := 0, locals := 45 }
def sp_X10_commonDivisor_L9 (M : Mm) : Nat → Int64 → Int64 → Int32 → Option (Int64 × Mm)
  | 0, _, _, _ => none
  | n9 + 1, v4_9, v6_9, v8_9 => if v8_9 < (100 : Int32) then (if v6_9 = (0 : Int64) then (some (v4_9, M)) else (nzJ v6_9 (bl (v4_9 - v4_9 / v6_9 * v6_9) (fun y28 => sp_X10_commonDivisor_L9 M n9 v6_9 y28 (v8_9 + 1))))) else (some (v4_9, M))
def sp_X10_commonDivisor (p0 : Int64) (p2 : Int64) (M : Mm) : Option (Int64 × Mm) := sp_X10_commonDivisor_L9 M fu p0 p2 (0 : Int32)
def rm_X10_commonDivisor : Room := { frames := 0, cells := 0, slots := 0, locals := 0 }
def sp_X10_inLowestTerms (p0 : Int64) (p2 : Int64) (p4 : Int32) (M : Mm) : Option (Int64 × Mm) := bd (sp_X10_commonDivisor p0 p2 M) (fun r2 M2 => if (0 : Int64) < r2 then (if p4 = 0 then (nzJ r2 (some (p0 / r2, M2))) else (nzJ r2 (some (p2 / r2, M2)))) else (some ((0 : Int64), M2)))
def rm_X10_inLowestTerms : Room := { frames := 1, cells := 0, slots := 0, locals := 30 }
def sp_X10_hits (p1 : Int32) (p2 : Int32) (p3 : Int32) (M : Mm) : Option (Int64 × Mm) := bd (sp_X6_has p1 M) (fun r5 M5 => if r5 = 0 then (some ((-101 : Int64), M5)) else (bd (sp_X10_isOutside p2 (0 : Int32) (9 : Int32) M5) (fun r19 M19 => if r19 = 0 then (bd (sp_X10_isOutside p3 (0 : Int32) (1 : Int32) M19) (fun r28 M28 => if r28 = 0 then (bd (sp_X6_hitTenths p1 p2 M28) (fun r48 M48 => bd (sp_X10_inLowestTerms (r48.toInt64) (10 : Int64) p3 M48) (fun r56 M56 => some (r56, M56)))) else (some ((-102 : Int64), M28)))) else (some ((-102 : Int64), M19)))))
def rm_X10_hits : Room := { frames := 3, cells := 0, slots := 0, locals := 70 }
def sp_X10_isAfloat (M : Mm) : Option (Int32 × Mm) := bd (sp_X10_hasNight M) (fun r1 M1 => if r1 = 0 then (some ((0 : Int32), M1)) else (if (gI M1 13 2) = 0 then (some ((1 : Int32), M1)) else (some ((0 : Int32), M1))))
def rm_X10_isAfloat : Room := { frames := 1, cells := 0, slots := 0, locals := 20 }
def sp_X10_canAim (M : Mm) : Option (Int32 × Mm) := bd (sp_X10_isAfloat M) (fun r1 M1 => if r1 = 0 then (some ((0 : Int32), M1)) else (if (gI M1 13 1) = 0 then (some ((1 : Int32), M1)) else (some ((0 : Int32), M1))))
def rm_X10_canAim : Room := { frames := 2, cells := 0, slots := 0, locals := 40 }
def sp_J7_fill_d0a16_L6 (y4 : Int32) (c0 : Nat) (p1 : Int64) : Nat → Int32 → Mm → Option (Unit × Mm)
  | 0, _, _ => none
  | n6 + 1, v3_6, M_6 => if v3_6 < y4 then (wrJ M_6 c0 v3_6 p1 (fun M15 => sp_J7_fill_d0a16_L6 y4 c0 p1 n6 (v3_6 + 1) M15)) else (some ((), M_6))
def sp_J7_fill_d0a16 (c0 : Nat) (p1 : Int64) (M : Mm) : Option (Unit × Mm) := bl (nI (ln c0)) (fun y4 => sp_J7_fill_d0a16_L6 y4 c0 p1 fu (0 : Int32) M)
def rm_J7_fill_d0a16 : Room := { frames := 0, cells := 0, slots := 0, locals := 0 }
def sp_X6_left (p1 : Int32) (M : Mm) : Option (Int32 × Mm) := some ((((1 : Int32) <<< ((gI M 6 0) &&& 31)) - (1 : Int32)) &&& (p1 ^^^ (-1 : Int32)), M)
def rm_X6_left : Room := { frames := 0, cells := 0, slots := 0, locals := 0 }
def sp_X7_breakTenths (p1 : Int32) (M : Mm) : Option (Int32 × Mm) := bd (sp_X10_at 5 p1 M) (fun r5 M5 => some (r5, M5))
def rm_X7_breakTenths : Room := { frames := 1, cells := 0, slots := 0, locals := 21 }
def sp_X10_at_ (c0 : Nat) (p1 : Int32) (M : Mm) : Option (Int64 × Mm) := if p1 < 0 then (some ((0 : Int64), M)) else (if p1 < (nI (ln c0)) then (rdJ M c0 p1 (fun a12 => some (a12, M))) else (some ((0 : Int64), M)))
def rm_X10_at_ : Room := { frames := 0, cells := 0, slots := 0, locals := 0 }
def sp_X0_chance (p1 : Int32) (p2 : Int32) (p3 : Int64) (M : Mm) : Option (Int64 × Mm) := some (((((10 : Int32) * p1).toInt64) * (gJ M 22 1)) + (((((10 : Int32) - p1) * p2).toInt64) * p3), M)
def rm_X0_chance : Room := { frames := 0, cells := 0, slots := 0, locals := 0 }
def sp_X10_without (p0 : Int32) (p1 : Int32) (M : Mm) : Option (Int32 × Mm) := some (p0 &&& (((1 : Int32) <<< (p1 &&& 31)) ^^^ (-1 : Int32)), M)
def rm_X10_without : Room := { frames := 0, cells := 0, slots := 0, locals := 0 }
def sp_X0_findBest_L38 (p3 : Int32) (p4 : Int32) (y9 : Int32) : Nat → Int32 → Mm → Option (Unit × Mm)
  | 0, _, _ => none
  | n38 + 1, v6_38, M_38 => if v6_38 < (gI M_38 6 0) then (bd (sp_X10_isIn p3 v6_38 M_38) (fun r50 M50 => if r50 = 0 then (sp_X0_findBest_L38 p3 p4 y9 n38 (v6_38 + 1) M50) else (bd (sp_X6_hitTenths v6_38 p4 M50) (fun r62 M62 => bd (sp_X10_without p3 v6_38 M62) (fun r79 M79 => bd (sp_X10_at_ 23 r79 M79) (fun r82 M82 => bd (sp_X0_chance r62 y9 r82 M82) (fun r85 M85 => if (gJ M85 22 0) < r85 then (bl (sJ M85 22 0 r85) (fun M103 => bl (sI M103 22 2 v6_38) (fun M109 => sp_X0_findBest_L38 p3 p4 y9 n38 (v6_38 + 1) M109))) else (sp_X0_findBest_L38 p3 p4 y9 n38 (v6_38 + 1) M85)))))))) else (some ((), M_38))
def sp_X0_findBest (p3 : Int32) (p4 : Int32) (M : Mm) : Option (Unit × Mm) := bd (sp_X7_breakTenths p4 M) (fun r5 M5 => bl ((10 : Int32) - r5) (fun y9 => bd (sp_X10_at_ 23 p3 M5) (fun r21 M21 => bd (sp_X0_chance (0 : Int32) y9 r21 M21) (fun r24 M24 => bl (sJ M24 22 0 r24) (fun M27 => bl (sI M27 22 2 (-1 : Int32)) (fun M32 => sp_X0_findBest_L38 p3 p4 y9 fu (0 : Int32) M32))))))
def rm_X0_findBest : Room := { frames := 3, cells := 0, slots := 0, locals := 70 }
def sp_X10_put_ (c0 : Nat) (p1 : Int32) (p2 : Int64) (M : Mm) : Option (Unit × Mm) := if p1 < 0 then (some ((), M)) else (if p1 < (nI (ln c0)) then (wrJ M c0 p1 p2 (fun M13 => some ((), M13))) else (some ((), M)))
def rm_X10_put_ : Room := { frames := 0, cells := 0, slots := 0, locals := 0 }
def sp_X0_search_L56 (K90 : Mm → Option (Unit × Mm)) (v7_39 : Int32) : Nat → Int32 → Mm → Option (Unit × Mm)
  | 0, _, _ => none
  | n56 + 1, v8_56, M_56 => if v8_56 < 0 then (K90 M_56) else (bd (sp_X0_findBest v8_56 v7_39 M_56) (fun _ M68 => bd (sp_X10_put_ 23 v8_56 (gJ M68 22 0) M68) (fun _ M81 => sp_X0_search_L56 K90 v7_39 n56 (v8_56 + (-1)) M81)))
def sp_X0_search_L39 (r1 : Int32) (K108 : Mm → Option (Unit × Mm)) : Nat → Int32 → Mm → Option (Unit × Mm)
  | 0, _, _ => none
  | n39 + 1, v7_39, M_39 => if r1 < v7_39 then (bl (((1 : Int32) <<< ((gI M_39 6 0) &&& 31)) - (1 : Int32)) (fun y54 => jn (fun (M_90 : Mm) => bl (sJ M_90 22 1 ((gJ M_90 22 1) * (100 : Int64))) (fun M99 => sp_X0_search_L39 r1 K108 n39 (v7_39 + (-1)) M99)) (fun (K90 : Mm → Option (Unit × Mm)) => sp_X0_search_L56 K90 v7_39 fu y54 M_39))) else (K108 M_39)
def sp_X0_search (p4 : Int32) (M : Mm) : Option (Unit × Mm) := bd (sp_X1_stage M) (fun r1 M1 => bl (if (gI M1 3 1) < (r1 + p4) then (gI M1 3 1) else (r1 + p4)) (fun y18 => bd (sp_J7_fill_d0a16 23 (0 : Int64) M1) (fun _ M25 => bl (sJ M25 22 1 (1 : Int64)) (fun M30 => bl (y18 - (1 : Int32)) (fun y37 => jn (fun (M_108 : Mm) => bd (sp_X6_left (gI M_108 13 3) M_108) (fun r116 M116 => bd (sp_X0_findBest r116 r1 M116) (fun _ M121 => bl (sJ M121 22 1 ((gJ M121 22 1) * (100 : Int64))) (fun M133 => some ((), M133))))) (fun (K108 : Mm → Option (Unit × Mm)) => sp_X0_search_L39 r1 K108 fu y37 M30))))))
def rm_X0_search : Room := { frames := 4, cells := 0, slots := 0, locals := 99 }
def sp_X10_aim (p1 : Int32) (p2 : Int32) (M : Mm) : Option (Int64 × Mm) := bd (sp_X10_isOutside p1 (1 : Int32) (4 : Int32) M) (fun r3 M3 => if r3 = 0 then (bd (sp_X10_isOutside p2 (0 : Int32) (1 : Int32) M3) (fun r12 M12 => if r12 = 0 then (bd (sp_X10_canAim M12) (fun r23 M23 => if r23 = 0 then (some ((-103 : Int64), M23)) else (bd (sp_X0_search p1 M23) (fun _ M50 => bd (sp_X10_inLowestTerms (gJ M50 22 0) (gJ M50 22 1) p2 M50) (fun r68 M68 => some (r68, M68)))))) else (some ((-102 : Int64), M12)))) else (some ((-102 : Int64), M3)))
def rm_X10_aim : Room := { frames := 5, cells := 0, slots := 0, locals := 127 }
def sp_X10_which (p1 : Int32) (M : Mm) : Option (Int32 × Mm) := bd (sp_X10_isOutside p1 (1 : Int32) (4 : Int32) M) (fun r3 M3 => if r3 = 0 then (bd (sp_X10_canAim M3) (fun r13 M13 => if r13 = 0 then (some ((-103 : Int32), M13)) else (bd (sp_X0_search p1 M13) (fun _ M39 => some (gI M39 22 2, M39))))) else (some ((-102 : Int32), M3)))
def rm_X10_which : Room := { frames := 5, cells := 0, slots := 0, locals := 127 }
def sp_X2_add (p1 : Int32) (p2 : Int32) (M : Mm) : Option (Int32 × Mm) := bd (sp_X10_put 10 (gI M 9 0) p1 M) (fun _ M9 => bd (sp_X10_put 11 (gI M9 9 0) p2 M9) (fun _ M21 => bl (sI M21 9 0 ((gI M21 9 0) + (1 : Int32))) (fun M31 => some ((gI M31 9 0) - (1 : Int32), M31))))
def rm_X2_add : Room := { frames := 1, cells := 0, slots := 0, locals := 22 }
def sp_X10_man (p1 : Int32) (p2 : Int32) (M : Mm) : Option (Int32 × Mm) := bd (sp_X10_isOutside p1 (0 : Int32) (4 : Int32) M) (fun r3 M3 => if r3 = 0 then (bd (sp_X10_isOutside p2 (1 : Int32) (30 : Int32) M3) (fun r13 M13 => if r13 = 0 then (bd (sp_X10_hasNight M13) (fun r23 M23 => if r23 = 0 then (some ((-103 : Int32), M23)) else (if (gI M23 9 0) < (6 : Int32) then (bd (sp_X2_add p1 p2 M23) (fun r53 M53 => some (r53, M53))) else (some ((-104 : Int32), M23))))) else (some ((-102 : Int32), M13)))) else (some ((-102 : Int32), M3)))
def rm_X10_man : Room := { frames := 2, cells := 0, slots := 0, locals := 44 }
def sp_X2_has (p1 : Int32) (M : Mm) : Option (Int32 × Mm) := if p1 < 0 then (some ((0 : Int32), M)) else (if p1 < (gI M 9 0) then (some ((1 : Int32), M)) else (some ((0 : Int32), M)))
def rm_X2_has : Room := { frames := 0, cells := 0, slots := 0, locals := 0 }
def sp_X2_kind (p1 : Int32) (M : Mm) : Option (Int32 × Mm) := bd (sp_X10_at 10 p1 M) (fun r5 M5 => some (r5, M5))
def rm_X2_kind : Room := { frames := 1, cells := 0, slots := 0, locals := 21 }
def sp_X2_weight (p1 : Int32) (M : Mm) : Option (Int32 × Mm) := bd (sp_X10_at 11 p1 M) (fun r5 M5 => some (r5, M5))
def rm_X2_weight : Room := { frames := 1, cells := 0, slots := 0, locals := 21 }
def sp_X2_sags (p1 : Int32) (p2 : Int32) (p3 : Int32) (M : Mm) : Option (Int32 × Mm) := bd (sp_X2_weight p1 M) (fun r2 M2 => if p3 < ((r2 * p2) / (50 : Int32)) then (some ((1 : Int32), M2)) else (some ((0 : Int32), M2)))
def rm_X2_sags : Room := { frames := 2, cells := 0, slots := 0, locals := 42 }
def sp_X2_takes (p1 : Int32) (p2 : Int32) (p3 : Int32) (M : Mm) : Option (Int32 × Mm) := bd (sp_X2_weight p1 M) (fun r3 M3 => bl ((2 : Int32) + (r3 / (5 : Int32))) (fun y9 => bd (sp_X2_kind p1 M3) (fun r13 M13 => jn (fun (v4_28 : Int32) => bd (sp_X2_kind p1 M13) (fun r30 M30 => jn (fun (v4_40 : Int32) => bd (sp_X2_sags p1 p2 p3 M30) (fun r44 M44 => if r44 = 0 then (some (v4_40, M44)) else (some (v4_40 + (2 : Int32), M44)))) (fun (K40 : Int32 → Option (Int32 × Mm)) => if r30 = (3 : Int32) then (K40 (v4_28 + 3)) else (K40 v4_28)))) (fun (K28 : Int32 → Option (Int32 × Mm)) => if r13 = (1 : Int32) then (bl ((y9 + (1 : Int32)) / (2 : Int32)) (fun y26 => K28 y26)) else (K28 y9)))))
def rm_X2_takes : Room := { frames := 3, cells := 0, slots := 0, locals := 65 }
def sp_X10_asNumber (p0 : Int32) (M : Mm) : Option (Int32 × Mm) := if p0 = 0 then (some ((0 : Int32), M)) else (some ((1 : Int32), M))
def rm_X10_asNumber : Room := { frames := 0, cells := 0, slots := 0, locals := 0 }
def sp_X1_overMinute (p1 : Int32) (M : Mm) : Option (Int32 × Mm) := bd (sp_X10_isIn (gI M 13 4) p1 M) (fun r5 M5 => if r5 = 0 then (some ((-1 : Int32), M5)) else (bd (sp_X10_at 14 p1 M5) (fun r16 M16 => some (r16, M16))))
def rm_X1_overMinute : Room := { frames := 1, cells := 0, slots := 0, locals := 21 }
def sp_X2_allButCaptains_L4 : Nat → Int32 → Int32 → Mm → Option (Int32 × Mm)
  | 0, _, _, _ => none
  | n4 + 1, v1_4, v2_4, M_4 => if v2_4 < (gI M_4 9 0) then (bd (sp_X2_kind v2_4 M_4) (fun r14 M14 => if r14 = (4 : Int32) then (sp_X2_allButCaptains_L4 n4 v1_4 (v2_4 + 1) M14) else (bd (sp_X10_with v1_4 v2_4 M14) (fun r23 M23 => sp_X2_allButCaptains_L4 n4 r23 (v2_4 + 1) M23)))) else (some (v1_4, M_4))
def sp_X2_allButCaptains (M : Mm) : Option (Int32 × Mm) := sp_X2_allButCaptains_L4 fu (0 : Int32) (0 : Int32) M
def rm_X2_allButCaptains : Room := { frames := 2, cells := 0, slots := 0, locals := 42 }
def sp_X2_ahead (p1 : Int32) (M : Mm) : Option (Int32 × Mm) := bd (sp_X10_at 12 p1 M) (fun r5 M5 => bd (sp_X2_kind p1 M5) (fun r11 M11 => if r11 = (4 : Int32) then (bd (sp_X2_allButCaptains M11) (fun r20 M20 => some (r5 ||| r20, M20))) else (some (r5, M11))))
def rm_X2_ahead : Room := { frames := 3, cells := 0, slots := 0, locals := 64 }
def sp_X10_holdsAll (p0 : Int32) (p1 : Int32) (M : Mm) : Option (Int32 × Mm) := if (p1 &&& (p0 ^^^ (-1 : Int32))) = 0 then (some ((1 : Int32), M)) else (some ((0 : Int32), M))
def rm_X10_holdsAll : Room := { frames := 0, cells := 0, slots := 0, locals := 0 }
def sp_X7_endMinute (M : Mm) : Option (Int32 × Mm) := some ((gI M 3 1) * (5 : Int32), M)
def rm_X7_endMinute : Room := { frames := 0, cells := 0, slots := 0, locals := 0 }
def sp_X10_mayCome (p1 : Int32) (M : Mm) : Option (Int32 × Mm) := if (gI M 13 1) = 0 then (some ((0 : Int32), M)) else (if (gI M 13 2) = 0 then (bd (sp_X10_isIn (gI M 13 4) p1 M) (fun r28 M28 => if r28 = 0 then (bd (sp_X2_ahead p1 M28) (fun r46 M46 => bd (sp_X10_holdsAll (gI M28 13 4) r46 M46) (fun r49 M49 => if r49 = 0 then (some ((0 : Int32), M49)) else (bd (sp_X2_takes p1 (gI M49 3 0) (gI M49 13 5) M49) (fun r81 M81 => bd (sp_X7_endMinute M81) (fun r89 M89 => if ((gI M49 13 0) + r81) < r89 then (some ((1 : Int32), M89)) else (some ((0 : Int32), M89)))))))) else (some ((0 : Int32), M28)))) else (some ((0 : Int32), M)))
def rm_X10_mayCome : Room := { frames := 4, cells := 0, slots := 0, locals := 89 }
def sp_X10_about (p1 : Int32) (p2 : Int32) (M : Mm) : Option (Int32 × Mm) := bd (sp_X2_has p1 M) (fun r5 M5 => if r5 = 0 then (some ((-101 : Int32), M5)) else (if p2 = 0 then (bd (sp_X2_kind p1 M5) (fun r61 M61 => some (r61, M61))) else (if p2 = 1 then (bd (sp_X2_weight p1 M5) (fun r70 M70 => some (r70, M70))) else (if p2 = 2 then (bd (sp_X2_takes p1 (gI M5 3 0) (gI M5 13 5) M5) (fun r93 M93 => some (r93, M93))) else (if p2 = 3 then (bd (sp_X2_sags p1 (gI M5 3 0) (gI M5 13 5) M5) (fun r116 M116 => bd (sp_X10_asNumber r116 M116) (fun r119 M119 => some (r119, M119)))) else (if p2 = 4 then (bd (sp_X10_isIn (gI M5 13 4) p1 M5) (fun r131 M131 => bd (sp_X10_asNumber r131 M131) (fun r134 M134 => some (r134, M134)))) else (if p2 = 5 then (bd (sp_X1_overMinute p1 M5) (fun r143 M143 => some (r143, M143))) else (if p2 = 6 then (bd (sp_X10_mayCome p1 M5) (fun r149 M149 => bd (sp_X10_asNumber r149 M149) (fun r152 M152 => some (r152, M152)))) else (some ((-102 : Int32), M5))))))))))
def rm_X10_about : Room := { frames := 5, cells := 0, slots := 0, locals := 110 }
def sp_X2_isOf (p1 : Int32) (p2 : Int32) (M : Mm) : Option (Int32 × Mm) := bd (sp_X2_kind p1 M) (fun r2 M2 => if p2 = 0 then (some ((1 : Int32), M2)) else (if p2 = r2 then (some ((1 : Int32), M2)) else (if p2 = (2 : Int32) then (if r2 = (4 : Int32) then (some ((1 : Int32), M2)) else (some ((0 : Int32), M2))) else (some ((0 : Int32), M2)))))
def rm_X2_isOf : Room := { frames := 2, cells := 0, slots := 0, locals := 42 }
def sp_X10_as (p1 : Int32) (p2 : Int32) (M : Mm) : Option (Int32 × Mm) := bd (sp_X2_has p1 M) (fun r5 M5 => if r5 = 0 then (some ((-101 : Int32), M5)) else (bd (sp_X10_isOutside p2 (0 : Int32) (4 : Int32) M5) (fun r17 M17 => if r17 = 0 then (bd (sp_X2_isOf p1 p2 M17) (fun r32 M32 => if r32 = 0 then (some ((-1 : Int32), M32)) else (some (p1, M32)))) else (some ((-102 : Int32), M17)))))
def rm_X10_as : Room := { frames := 3, cells := 0, slots := 0, locals := 65 }
def sp_X10_areTwoMen (p1 : Int32) (p2 : Int32) (M : Mm) : Option (Int32 × Mm) := if p1 = p2 then (some ((0 : Int32), M)) else (bd (sp_X2_has p1 M) (fun r10 M10 => if r10 = 0 then (some ((0 : Int32), M10)) else (bd (sp_X2_has p2 M10) (fun r21 M21 => if r21 = 0 then (some ((0 : Int32), M21)) else (some ((1 : Int32), M21))))))
def rm_X10_areTwoMen : Room := { frames := 1, cells := 0, slots := 0, locals := 21 }
def sp_X2_putBehind (p1 : Int32) (p2 : Int32) (p3 : Int32) (M : Mm) : Option (Int32 × Mm) := bd (sp_X10_at 12 p1 M) (fun r5 M5 => jn (fun (t0_34 : Int32) (M_34 : Mm) => bd (sp_X10_put 12 p1 t0_34 M_34) (fun _ M34 => bd (sp_X10_isIn r5 p2 M34) (fun r40 M40 => zb r40 (some (r40, M40))))) (fun (K34 : Int32 → Mm → Option (Int32 × Mm)) => if p3 = 0 then (bd (sp_X10_without r5 p2 M5) (fun r31 M31 => K34 r31 M31)) else (bd (sp_X10_with r5 p2 M5) (fun r22 M22 => K34 r22 M22))))
def rm_X2_putBehind : Room := { frames := 1, cells := 0, slots := 0, locals := 22 }
def sp_X10_behind (p1 : Int32) (p2 : Int32) (p3 : Int32) (M : Mm) : Option (Int32 × Mm) := bd (sp_X10_areTwoMen p1 p2 M) (fun r3 M3 => if r3 = 0 then (some ((-101 : Int32), M3)) else (bd (sp_X2_putBehind p1 p2 p3 M3) (fun r19 M19 => bd (sp_X10_asNumber r19 M19) (fun r22 M22 => some (r22, M22)))))
def rm_X10_behind : Room := { frames := 2, cells := 0, slots := 0, locals := 46 }
def sp_X10_hawser (p1 : Int32) (M : Mm) : Option (Int32 × Mm) := bd (sp_X10_isOutside p1 (0 : Int32) (60 : Int32) M) (fun r4 M4 => if r4 = 0 then (bd (sp_X10_hasNight M4) (fun r14 M14 => if r14 = 0 then (some ((-103 : Int32), M14)) else (bl (gI M14 13 5) (fun y30 => bl (sI M14 13 5 p1) (fun M36 => some (y30, M36)))))) else (some ((-102 : Int32), M4)))
def rm_X10_hawser : Room := { frames := 1, cells := 0, slots := 0, locals := 22 }
def sp_X1_bringOver (p1 : Int32) (p2 : Int32) (M : Mm) : Option (Unit × Mm) := bl (sI M 13 0 ((gI M 13 0) + p2)) (fun M7 => bd (sp_X10_with (gI M7 13 4) p1 M7) (fun r16 M16 => bl (sI M16 13 4 r16) (fun M19 => bd (sp_X10_put 14 p1 (gI M19 13 0) M19) (fun _ M31 => some ((), M31)))))
def rm_X1_bringOver : Room := { frames := 1, cells := 0, slots := 0, locals := 22 }
def sp_X10_come (p1 : Int32) (M : Mm) : Option (Int32 × Mm) := bd (sp_X2_has p1 M) (fun r5 M5 => if r5 = 0 then (some ((-101 : Int32), M5)) else (bd (sp_X10_mayCome p1 M5) (fun r16 M16 => if r16 = 0 then (some ((-103 : Int32), M16)) else (bd (sp_X2_takes p1 (gI M16 3 0) (gI M16 13 5) M16) (fun r49 M49 => bd (sp_X1_bringOver p1 r49 M49) (fun _ M52 => some (gI M52 13 0, M52)))))))
def rm_X10_come : Room := { frames := 5, cells := 0, slots := 0, locals := 110 }
def sp_X10_minutes (p1 : Int32) (M : Mm) : Option (Int32 × Mm) := bd (sp_X10_isOutside p1 (1 : Int32) (50 : Int32) M) (fun r4 M4 => if r4 = 0 then (bd (sp_X10_isAfloat M4) (fun r14 M14 => if r14 = 0 then (some ((-103 : Int32), M14)) else (bd (sp_X7_endMinute M14) (fun r33 M33 => if ((gI M14 13 0) + p1) < r33 then (bl (sI M33 13 0 ((gI M33 13 0) + p1)) (fun M52 => some (gI M52 13 0, M52))) else (some ((-103 : Int32), M33)))))) else (some ((-102 : Int32), M4)))
def rm_X10_minutes : Room := { frames := 2, cells := 0, slots := 0, locals := 40 }
def sp_J6_bitCount_0f7a4 (p0 : Int32) (M : Mm) : Option (Int32 × Mm) := bl (p0 - (((p0.toUInt32 >>> ((1 : Int32).toUInt32 &&& Int32.toUInt32 31)).toInt32) &&& (1431655765 : Int32))) (fun y9 => bl ((y9 &&& (858993459 : Int32)) + (((y9.toUInt32 >>> ((2 : Int32).toUInt32 &&& Int32.toUInt32 31)).toInt32) &&& (858993459 : Int32))) (fun y23 => bl ((y23 + ((y23.toUInt32 >>> ((4 : Int32).toUInt32 &&& Int32.toUInt32 31)).toInt32)) &&& (252645135 : Int32)) (fun y33 => bl (y33 + ((y33.toUInt32 >>> ((8 : Int32).toUInt32 &&& Int32.toUInt32 31)).toInt32)) (fun y40 => bl (y40 + ((y40.toUInt32 >>> ((16 : Int32).toUInt32 &&& Int32.toUInt32 31)).toInt32)) (fun y47 => some (y47 &&& (63 : Int32), M))))))
def rm_J6_bitCount_0f7a4 : Room := { frames := 0, cells := 0, slots := 0, locals := 0 }
def sp_X10_breaks (M : Mm) : Option (Int32 × Mm) := bd (sp_X10_isAfloat M) (fun r1 M1 => if r1 = 0 then (some ((-103 : Int32), M1)) else (bl (sI M1 13 2 (1 : Int32)) (fun M15 => bd (sp_J6_bitCount_0f7a4 (gI M15 13 4) M15) (fun r32 M32 => some ((gI M15 9 0) - r32, M32)))))
def rm_X10_breaks : Room := { frames := 2, cells := 0, slots := 0, locals := 40 }
def sp_X2_all (M : Mm) : Option (Int32 × Mm) := some (((1 : Int32) <<< ((gI M 9 0) &&& 31)) - (1 : Int32), M)
def rm_X2_all : Room := { frames := 0, cells := 0, slots := 0, locals := 0 }
def sp_X4_findNext_L30 (p2 : Int32) : Nat → Int32 → Mm → Option (Unit × Mm)
  | 0, _, _ => none
  | n30 + 1, v3_30, M_30 => if v3_30 < (gI M_30 9 0) then (bd (sp_X10_isIn p2 v3_30 M_30) (fun r40 M40 => if r40 = 0 then (bd (sp_X2_ahead v3_30 M40) (fun r49 M49 => bd (sp_X10_holdsAll p2 r49 M49) (fun r52 M52 => if r52 = 0 then (sp_X4_findNext_L30 p2 n30 (v3_30 + 1) M52) else (bd (sp_X10_with p2 v3_30 M52) (fun r64 M64 => bd (sp_X10_at_ 25 r64 M64) (fun r67 M67 => if (gJ M67 24 0) < r67 then (bl (sJ M67 24 0 r67) (fun M85 => bd (sp_X10_put 26 p2 v3_30 M85) (fun _ M94 => sp_X4_findNext_L30 p2 n30 (v3_30 + 1) M94))) else (sp_X4_findNext_L30 p2 n30 (v3_30 + 1) M67))))))) else (sp_X4_findNext_L30 p2 n30 (v3_30 + 1) M40))) else (some ((), M_30))
def sp_X4_findNext (p2 : Int32) (M : Mm) : Option (Unit × Mm) := bd (sp_X2_all M) (fun r3 M3 => jn (fun (t0_16 : Int64) => bl (sJ M3 24 0 t0_16) (fun M16 => bd (sp_X10_put 26 p2 (-1 : Int32) M16) (fun _ M25 => sp_X4_findNext_L30 p2 fu (0 : Int32) M25))) (fun (K16 : Int64 → Option (Unit × Mm)) => if p2 = r3 then (K16 (0 : Int64)) else (K16 (-1 : Int64))))
def rm_X4_findNext : Room := { frames := 4, cells := 0, slots := 0, locals := 86 }
def sp_X4_minuteWith_L9 (p3 : Int32) : Nat → Int32 → Int32 → Mm → Option (Int32 × Mm)
  | 0, _, _, _ => none
  | n9 + 1, v4_9, v5_9, M_9 => if v5_9 < (gI M_9 9 0) then (bd (sp_X10_isIn p3 v5_9 M_9) (fun r21 M21 => if r21 = 0 then (sp_X4_minuteWith_L9 p3 n9 v4_9 (v5_9 + 1) M21) else (bd (sp_X10_isIn (gI M21 13 4) v5_9 M21) (fun r33 M33 => if r33 = 0 then (bd (sp_X2_takes v5_9 (gI M33 3 0) (gI M33 13 5) M33) (fun r52 M52 => bl (v4_9 + r52) (fun y56 => sp_X4_minuteWith_L9 p3 n9 y56 (v5_9 + 1) M52))) else (sp_X4_minuteWith_L9 p3 n9 v4_9 (v5_9 + 1) M33))))) else (some (v4_9, M_9))
def sp_X4_minuteWith (p3 : Int32) (M : Mm) : Option (Int32 × Mm) := bl (gI M 13 0) (fun y4 => sp_X4_minuteWith_L9 p3 fu y4 (0 : Int32) M)
def rm_X4_minuteWith : Room := { frames := 4, cells := 0, slots := 0, locals := 89 }
def sp_X4_holding_L10 (p2 : Int32) : Nat → Int64 → Int32 → Mm → Option (Int64 × Mm)
  | 0, _, _, _ => none
  | n10 + 1, v3_10, v5_10, M_10 => if v5_10 < (gI M_10 3 1) then (if p2 < ((v5_10 + (1 : Int32)) * (5 : Int32)) then (some (v3_10, M_10)) else (bd (sp_X7_breakTenths v5_10 M_10) (fun r41 M41 => bl ((v3_10 / (10 : Int64)) * (((10 : Int32) - r41).toInt64)) (fun y47 => sp_X4_holding_L10 p2 n10 y47 (v5_10 + 1) M41)))) else (some ((0 : Int64), M_10))
def sp_X4_holding (p2 : Int32) (M : Mm) : Option (Int64 × Mm) := bd (sp_X1_stage M) (fun r5 M5 => sp_X4_holding_L10 p2 fu (1000000000 : Int64) r5 M5)
def rm_X4_holding : Room := { frames := 2, cells := 0, slots := 0, locals := 42 }
def sp_X4_isThere (M : Mm) : Option (Int32 × Mm) := if (gJ M 24 0) = (-1 : Int64) then (some ((0 : Int32), M)) else (some ((1 : Int32), M))
def rm_X4_isThere : Room := { frames := 0, cells := 0, slots := 0, locals := 0 }
def sp_X4_search_L14 : Nat → Int32 → Mm → Option (Unit × Mm)
  | 0, _, _ => none
  | n14 + 1, v4_14, M_14 => if v4_14 < 0 then (some ((), M_14)) else (bd (sp_X10_holdsAll v4_14 (gI M_14 24 1) M_14) (fun r25 M25 => if r25 = 0 then (sp_X4_search_L14 n14 (v4_14 + (-1)) M25) else (bd (sp_X4_findNext v4_14 M25) (fun _ M35 => bd (sp_X4_minuteWith v4_14 M35) (fun r45 M45 => bd (sp_X4_holding r45 M45) (fun r48 M48 => bd (sp_X4_isThere M48) (fun r60 M60 => jn (fun (t0_79 : Int64) => bd (sp_X10_put_ 25 v4_14 t0_79 M60) (fun _ M79 => sp_X4_search_L14 n14 (v4_14 + (-1)) M79)) (fun (K79 : Int64 → Option (Unit × Mm)) => if r60 = 0 then (K79 (-1 : Int64)) else (K79 (r48 + (gJ M60 24 0)))))))))))
def sp_X4_search (M : Mm) : Option (Unit × Mm) := bl (sI M 24 1 (gI M 13 4)) (fun M5 => bd (sp_X2_all M5) (fun r9 M9 => sp_X4_search_L14 fu r9 M9))
def rm_X4_search : Room := { frames := 5, cells := 0, slots := 0, locals := 114 }
def sp_X4_most (M : Mm) : Option (Int64 × Mm) := some (gJ M 24 0, M)
def rm_X4_most : Room := { frames := 0, cells := 0, slots := 0, locals := 0 }
def sp_X4_manAt_L10 (p1 : Int32) : Nat → Int32 → Int32 → Int32 → Mm → Option (Int32 × Mm)
  | 0, _, _, _, _ => none
  | n10 + 1, v2_10, v3_10, v4_10, M_10 => if p1 < v4_10 then (some (v3_10, M_10)) else (bd (sp_X10_at 26 v2_10 M_10) (fun r21 M21 => if r21 = (-1 : Int32) then (some ((-1 : Int32), M21)) else (bd (sp_X10_with v2_10 r21 M21) (fun r34 M34 => sp_X4_manAt_L10 p1 n10 r34 r21 (v4_10 + 1) M34))))
def sp_X4_manAt (p1 : Int32) (M : Mm) : Option (Int32 × Mm) := bl (gI M 24 1) (fun y4 => sp_X4_manAt_L10 p1 fu y4 (-1 : Int32) (0 : Int32) M)
def rm_X4_manAt : Room := { frames := 1, cells := 0, slots := 0, locals := 21 }
def sp_X10_order (p1 : Int32) (M : Mm) : Option (Int64 × Mm) := bd (sp_X10_isOutside p1 (0 : Int32) (1 : Int32) M) (fun r3 M3 => jn (fun (M_24 : Mm) => bd (sp_X10_isAfloat M_24) (fun r25 M25 => if r25 = 0 then (some ((-103 : Int64), M25)) else (if (gI M25 0 11) < (30 : Int32) then (bl (sI M25 0 11 ((gI M25 0 11) + (1 : Int32))) (fun M51 => bd (sp_X4_search M51) (fun _ M70 => if p1 < (10 : Int32) then (bd (sp_X4_isThere M70) (fun r96 M96 => if r96 = 0 then (if p1 = 0 then (some ((-1 : Int64), M96)) else (some ((1 : Int64), M96))) else (bd (sp_X4_most M96) (fun r118 M118 => bd (sp_X10_inLowestTerms r118 (1000000000 : Int64) p1 M118) (fun r125 M125 => some (r125, M125)))))) else (bd (sp_X4_manAt (p1 - (10 : Int32)) M70) (fun r87 M87 => some (r87.toInt64, M87)))))) else (some ((-103 : Int64), M25))))) (fun (K24 : Mm → Option (Int64 × Mm)) => if r3 = 0 then (K24 M3) else (bd (sp_X10_isOutside p1 (10 : Int32) (15 : Int32) M3) (fun r14 M14 => if r14 = 0 then (K24 M14) else (some ((-102 : Int64), M14))))))
def rm_X10_order : Room := { frames := 6, cells := 0, slots := 0, locals := 140 }
def sp_X1_say (p1 : Int32) (p2 : Int32) (M : Mm) : Option (Unit × Mm) := bd (sp_X10_at 15 p2 M) (fun r10 M10 => bd (sp_X10_with r10 p1 M10) (fun r14 M14 => bd (sp_X10_put 15 p2 r14 M14) (fun _ M17 => bl (sI M17 13 6 ((gI M17 13 6) + (1 : Int32))) (fun M27 => some ((), M27)))))
def rm_X1_say : Room := { frames := 1, cells := 0, slots := 0, locals := 22 }
def sp_X10_said (p1 : Int32) (p2 : Int32) (M : Mm) : Option (Int32 × Mm) := bd (sp_X10_areTwoMen p1 p2 M) (fun r3 M3 => if r3 = 0 then (some ((-101 : Int32), M3)) else (if (gI M3 13 6) < (15 : Int32) then (bd (sp_X1_say p1 p2 M3) (fun _ M33 => some (gI M33 13 6, M33))) else (some ((-104 : Int32), M3))))
def rm_X10_said : Room := { frames := 2, cells := 0, slots := 0, locals := 44 }
def sp_X8_mayFollow (p1 : Int32) (p2 : Int32) (M : Mm) : Option (Int32 × Mm) := bd (sp_X10_isIn p1 p2 M) (fun r2 M2 => if r2 = 0 then (bd (sp_X10_at 28 p2 M2) (fun r14 M14 => bd (sp_X10_holdsAll p1 r14 M14) (fun r17 M17 => if r17 = 0 then (some ((0 : Int32), M17)) else (some ((1 : Int32), M17))))) else (some ((0 : Int32), M2)))
def rm_X8_mayFollow : Room := { frames := 1, cells := 0, slots := 0, locals := 21 }
def sp_X8_countWays_L29 (v1_19 : Int32) (K83 : Mm → Option (Unit × Mm)) : Nat → Int32 → Mm → Option (Unit × Mm)
  | 0, _, _ => none
  | n29 + 1, v2_29, M_29 => if v2_29 < (gI M_29 27 0) then (bd (sp_X8_mayFollow v1_19 v2_29 M_29) (fun r40 M40 => if r40 = 0 then (sp_X8_countWays_L29 v1_19 K83 n29 (v2_29 + 1) M40) else (bd (sp_X10_with v1_19 v2_29 M40) (fun r48 M48 => bd (sp_X10_at 29 r48 M48) (fun r62 M62 => bd (sp_X10_at 29 v1_19 M62) (fun r70 M70 => bd (sp_X10_put 29 r48 (r62 + r70) M70) (fun _ M74 => sp_X8_countWays_L29 v1_19 K83 n29 (v2_29 + 1) M74))))))) else (K83 M_29)
def sp_X8_countWays_L19 : Nat → Int32 → Mm → Option (Unit × Mm)
  | 0, _, _ => none
  | n19 + 1, v1_19, M_19 => if (gI M_19 27 1) < v1_19 then (some ((), M_19)) else (jn (fun (M_83 : Mm) => sp_X8_countWays_L19 n19 (v1_19 + 1) M_83) (fun (K83 : Mm → Option (Unit × Mm)) => sp_X8_countWays_L29 v1_19 K83 fu (0 : Int32) M_19))
def sp_X8_countWays (M : Mm) : Option (Unit × Mm) := bd (sp_J7_fill_53178 29 (0 : Int32) M) (fun _ M5 => bd (sp_X10_put 29 (0 : Int32) (1 : Int32) M5) (fun _ M14 => sp_X8_countWays_L19 fu (0 : Int32) M14))
def rm_X8_countWays : Room := { frames := 2, cells := 0, slots := 0, locals := 43 }
def sp_X8_countRests_L31 (v1_25 : Int32) (K83 : Mm → Option (Unit × Mm)) : Nat → Int32 → Mm → Option (Unit × Mm)
  | 0, _, _ => none
  | n31 + 1, v2_31, M_31 => if v2_31 < (gI M_31 27 0) then (bd (sp_X8_mayFollow v1_25 v2_31 M_31) (fun r42 M42 => if r42 = 0 then (sp_X8_countRests_L31 v1_25 K83 n31 (v2_31 + 1) M42) else (bd (sp_X10_at 30 v1_25 M42) (fun r58 M58 => bd (sp_X10_with v1_25 v2_31 M58) (fun r67 M67 => bd (sp_X10_at 30 r67 M67) (fun r70 M70 => bd (sp_X10_put 30 v1_25 (r58 + r70) M70) (fun _ M74 => sp_X8_countRests_L31 v1_25 K83 n31 (v2_31 + 1) M74))))))) else (K83 M_31)
def sp_X8_countRests_L25 : Nat → Int32 → Mm → Option (Unit × Mm)
  | 0, _, _ => none
  | n25 + 1, v1_25, M_25 => if v1_25 < 0 then (some ((), M_25)) else (jn (fun (M_83 : Mm) => sp_X8_countRests_L25 n25 (v1_25 + (-1)) M_83) (fun (K83 : Mm → Option (Unit × Mm)) => sp_X8_countRests_L31 v1_25 K83 fu (0 : Int32) M_25))
def sp_X8_countRests (M : Mm) : Option (Unit × Mm) := bd (sp_J7_fill_53178 30 (0 : Int32) M) (fun _ M5 => bd (sp_X10_put 30 (gI M5 27 1) (1 : Int32) M5) (fun _ M17 => bl (gI M17 27 1) (fun y24 => sp_X8_countRests_L25 fu y24 M17)))
def rm_X8_countRests : Room := { frames := 2, cells := 0, slots := 0, locals := 43 }
def sp_X1_saidAhead (p1 : Int32) (M : Mm) : Option (Int32 × Mm) := bd (sp_X10_at 15 p1 M) (fun r5 M5 => some (r5, M5))
def rm_X1_saidAhead : Room := { frames := 1, cells := 0, slots := 0, locals := 21 }
def sp_X8_search_L18 (K51 : Mm → Option (Unit × Mm)) : Nat → Int32 → Mm → Option (Unit × Mm)
  | 0, _, _ => none
  | n18 + 1, v3_18, M_18 => if v3_18 < (gI M_18 27 0) then (bd (sp_X2_ahead v3_18 M_18) (fun r33 M33 => bd (sp_X1_saidAhead v3_18 M33) (fun r38 M38 => bd (sp_X10_put 28 v3_18 (r33 ||| r38) M38) (fun _ M42 => sp_X8_search_L18 K51 n18 (v3_18 + 1) M42)))) else (K51 M_18)
def sp_X8_search (M : Mm) : Option (Unit × Mm) := bl (sI M 27 0 (gI M 9 0)) (fun M5 => bd (sp_X2_all M5) (fun r10 M10 => bl (sI M10 27 1 r10) (fun M13 => jn (fun (M_51 : Mm) => bd (sp_X8_countWays M_51) (fun _ M52 => bd (sp_X8_countRests M52) (fun _ M56 => some ((), M56)))) (fun (K51 : Mm → Option (Unit × Mm)) => sp_X8_search_L18 K51 fu (0 : Int32) M13))))
def rm_X8_search : Room := { frames := 4, cells := 0, slots := 0, locals := 86 }
def sp_X8_total (M : Mm) : Option (Int32 × Mm) := bd (sp_X10_at 30 (0 : Int32) M) (fun r5 M5 => some (r5, M5))
def rm_X8_total : Room := { frames := 1, cells := 0, slots := 0, locals := 21 }
def sp_X10_orders (M : Mm) : Option (Int32 × Mm) := bd (sp_X8_search M) (fun _ M12 => bd (sp_X8_total M12) (fun r19 M19 => some (r19, M19)))
def rm_X10_orders : Room := { frames := 5, cells := 0, slots := 0, locals := 109 }
def sp_X8_surePlace_L4 (p1 : Int32) : Nat → Int32 → Int32 → Mm → Option (Int32 × Mm)
  | 0, _, _, _ => none
  | n4 + 1, v2_4, v3_4, M_4 => if (gI M_4 27 1) < v3_4 then (some (v2_4, M_4)) else (bd (sp_X8_mayFollow v3_4 p1 M_4) (fun r15 M15 => if r15 = 0 then (sp_X8_surePlace_L4 p1 n4 v2_4 (v3_4 + 1) M15) else (bd (sp_X10_at 29 v3_4 M15) (fun r26 M26 => if 0 < r26 then (bd (sp_X10_with v3_4 p1 M26) (fun r38 M38 => bd (sp_X10_at 30 r38 M38) (fun r41 M41 => if 0 < r41 then (bd (sp_J6_bitCount_0f7a4 v3_4 M41) (fun r48 M48 => if v2_4 = (-1 : Int32) then (sp_X8_surePlace_L4 p1 n4 r48 (v3_4 + 1) M48) else (if v2_4 = r48 then (sp_X8_surePlace_L4 p1 n4 r48 (v3_4 + 1) M48) else (some ((-1 : Int32), M48))))) else (sp_X8_surePlace_L4 p1 n4 v2_4 (v3_4 + 1) M41)))) else (sp_X8_surePlace_L4 p1 n4 v2_4 (v3_4 + 1) M26)))))
def sp_X8_surePlace (p1 : Int32) (M : Mm) : Option (Int32 × Mm) := sp_X8_surePlace_L4 p1 fu (-1 : Int32) (0 : Int32) M
def rm_X8_surePlace : Room := { frames := 2, cells := 0, slots := 0, locals := 43 }
def sp_X10_sure (p1 : Int32) (M : Mm) : Option (Int32 × Mm) := bd (sp_X2_has p1 M) (fun r5 M5 => if r5 = 0 then (some ((-101 : Int32), M5)) else (bd (sp_X8_search M5) (fun _ M26 => bd (sp_X8_surePlace p1 M26) (fun r34 M34 => some (r34, M34)))))
def rm_X10_sure : Room := { frames := 5, cells := 0, slots := 0, locals := 109 }
def sp_X1_addWreck (p1 : Int32) (M : Mm) : Option (Unit × Mm) := bd (sp_X10_put 16 (gI M 13 7) p1 M) (fun _ M9 => bl (sI M9 13 7 ((gI M9 13 7) + (1 : Int32))) (fun M19 => some ((), M19)))
def rm_X1_addWreck : Room := { frames := 1, cells := 0, slots := 0, locals := 22 }
def sp_X10_wreck (p1 : Int32) (M : Mm) : Option (Int32 × Mm) := bd (sp_X10_isOutside p1 (0 : Int32) (99 : Int32) M) (fun r4 M4 => if r4 = 0 then (bd (sp_X10_hasNight M4) (fun r14 M14 => if r14 = 0 then (some ((-103 : Int32), M14)) else (if (gI M14 13 7) < (8 : Int32) then (bd (sp_X1_addWreck p1 M14) (fun _ M43 => some (gI M43 13 7, M43))) else (some ((-104 : Int32), M14))))) else (some ((-102 : Int32), M4)))
def rm_X10_wreck : Room := { frames := 2, cells := 0, slots := 0, locals := 43 }
def sp_X1_leastWreckFrom_L5 (p1 : Int32) : Nat → Int32 → Int32 → Mm → Option (Int32 × Mm)
  | 0, _, _, _ => none
  | n5 + 1, v2_5, v3_5, M_5 => if v3_5 < (gI M_5 13 7) then (bd (sp_X10_at 16 v3_5 M_5) (fun r18 M18 => if r18 < p1 then (sp_X1_leastWreckFrom_L5 p1 n5 v2_5 (v3_5 + 1) M18) else (if r18 < v2_5 then (sp_X1_leastWreckFrom_L5 p1 n5 r18 (v3_5 + 1) M18) else (sp_X1_leastWreckFrom_L5 p1 n5 v2_5 (v3_5 + 1) M18)))) else (some (v2_5, M_5))
def sp_X1_leastWreckFrom (p1 : Int32) (M : Mm) : Option (Int32 × Mm) := sp_X1_leastWreckFrom_L5 p1 fu (100 : Int32) (0 : Int32) M
def rm_X1_leastWreckFrom : Room := { frames := 1, cells := 0, slots := 0, locals := 21 }
def sp_X1_stationFor (p1 : Int32) (p2 : Int32) (M : Mm) : Option (Int32 × Mm) := some (if (99 : Int32) < (p1 + p2) then (99 : Int32) else (p1 + p2), M)
def rm_X1_stationFor : Room := { frames := 1, cells := 0, slots := 0, locals := 13 }
def sp_X1_fewestStations_L7 (p1 : Int32) : Nat → Int32 → Int32 → Int32 → Mm → Option (Int32 × Mm)
  | 0, _, _, _, _ => none
  | n7 + 1, v2_7, v3_7, v4_7, M_7 => if v4_7 < (gI M_7 13 7) then (bd (sp_X1_leastWreckFrom v3_7 M_7) (fun r18 M18 => if (99 : Int32) < r18 then (some (v2_7, M18)) else (bd (sp_X1_stationFor r18 p1 M18) (fun r36 M36 => bl ((r36 + p1) + (1 : Int32)) (fun y43 => sp_X1_fewestStations_L7 p1 n7 (v2_7 + 1) y43 (v4_7 + 1) M36))))) else (some (v2_7, M_7))
def sp_X1_fewestStations (p1 : Int32) (M : Mm) : Option (Int32 × Mm) := sp_X1_fewestStations_L7 p1 fu (0 : Int32) (0 : Int32) (0 : Int32) M
def rm_X1_fewestStations : Room := { frames := 2, cells := 0, slots := 0, locals := 45 }
def sp_X1_firstStation (p1 : Int32) (M : Mm) : Option (Int32 × Mm) := if (gI M 13 7) = 0 then (some ((-1 : Int32), M)) else (bd (sp_X1_leastWreckFrom (0 : Int32) M) (fun r14 M14 => bd (sp_X1_stationFor r14 p1 M14) (fun r18 M18 => some (r18, M18))))
def rm_X1_firstStation : Room := { frames := 2, cells := 0, slots := 0, locals := 45 }
def sp_X10_stations (p1 : Int32) (p2 : Int32) (M : Mm) : Option (Int32 × Mm) := bd (sp_X10_isOutside p1 (0 : Int32) (50 : Int32) M) (fun r4 M4 => if r4 = 0 then (bd (sp_X10_isOutside p2 (0 : Int32) (1 : Int32) M4) (fun r13 M13 => if r13 = 0 then (if p2 = 0 then (bd (sp_X1_fewestStations p1 M13) (fun r31 M31 => some (r31, M31))) else (bd (sp_X1_firstStation p1 M13) (fun r42 M42 => some (r42, M42)))) else (some ((-102 : Int32), M13)))) else (some ((-102 : Int32), M4)))
def rm_X10_stations : Room := { frames := 3, cells := 0, slots := 0, locals := 70 }
def sp_X6_leastOf_L2 (p1 : Int32) : Nat → Int32 → Mm → Option (Int32 × Mm)
  | 0, _, _ => none
  | n2 + 1, v2_2, M_2 => if v2_2 < (gI M_2 6 0) then (bd (sp_X10_isIn p1 v2_2 M_2) (fun r12 M12 => if r12 = 0 then (sp_X6_leastOf_L2 p1 n2 (v2_2 + 1) M12) else (some (v2_2, M12)))) else (some ((-1 : Int32), M_2))
def sp_X6_leastOf (p1 : Int32) (M : Mm) : Option (Int32 × Mm) := sp_X6_leastOf_L2 p1 fu (0 : Int32) M
def rm_X6_leastOf : Room := { frames := 1, cells := 0, slots := 0, locals := 21 }
def sp_X9_draw (M : Mm) : Option (Int32 × Mm) := bl (sJ M 31 0 ((((1103515245 : Int64) * (gJ M 31 0)) + (12345 : Int64)) - (((1103515245 : Int64) * (gJ M 31 0)) + (12345 : Int64)) / (2147483648 : Int64) * (2147483648 : Int64))) (fun M17 => some ((((gJ M17 31 0) / (65536 : Int64)) - ((gJ M17 31 0) / (65536 : Int64)) / (10 : Int64) * (10 : Int64)).toInt32, M17))
def rm_X9_draw : Room := { frames := 0, cells := 0, slots := 0, locals := 0 }
def sp_X9_drawGust (M : Mm) : Option (Int32 × Mm) := bd (sp_X9_draw M) (fun r1 M1 => bd (sp_X7_gustTenths (-1 : Int32) M1) (fun r8 M8 => if r1 < r8 then (some ((-1 : Int32), M8)) else (bd (sp_X7_gustTenths (-1 : Int32) M8) (fun r19 M19 => bd (sp_X7_gustTenths (0 : Int32) M19) (fun r24 M24 => if r1 < (r19 + r24) then (some ((0 : Int32), M24)) else (some ((1 : Int32), M24)))))))
def rm_X9_drawGust : Room := { frames := 2, cells := 0, slots := 0, locals := 42 }
def sp_X7_isLast (p1 : Int32) (M : Mm) : Option (Int32 × Mm) := if p1 < ((gI M 3 1) - (1 : Int32)) then (some ((0 : Int32), M)) else (some ((1 : Int32), M))
def rm_X7_isLast : Room := { frames := 0, cells := 0, slots := 0, locals := 0 }
def sp_X9_run_L44 : Nat → Int32 → Int32 → Mm → Option (Unit × Mm)
  | 0, _, _, _ => none
  | n44 + 1, v5_44, v6_44, M_44 => if v6_44 < (gI M_44 3 1) then (if (gI M_44 31 2) = 0 then (if (gI M_44 31 3) = 0 then (if v5_44 = 0 then (some ((), M_44)) else (bd (sp_X6_leastOf v5_44 M_44) (fun r76 M76 => bd (sp_X10_without v5_44 r76 M76) (fun r85 M85 => bl (sI M85 31 1 ((gI M85 31 1) + (1 : Int32))) (fun M97 => bd (sp_X9_drawGust M97) (fun r109 M109 => bd (sp_X6_fallsAt r76 v6_44 r109 M109) (fun r113 M113 => bd (sp_X7_isRight r113 M113) (fun r116 M116 => zb r116 (bl (sI M116 31 2 r116) (fun M119 => if (gI M119 31 2) = 0 then (bd (sp_X9_draw M119) (fun r130 M130 => bd (sp_X7_isLast v6_44 M130) (fun r139 M139 => jn (fun (M_156 : Mm) => bl (sI M_156 31 3 (1 : Int32)) (fun M161 => sp_X9_run_L44 n44 r85 (v6_44 + 1) M161)) (fun (K156 : Mm → Option (Unit × Mm)) => if r139 = 0 then (bd (sp_X7_breakTenths v6_44 M139) (fun r150 M150 => if r130 < r150 then (K156 M150) else (bl (sI M150 31 3 (0 : Int32)) (fun M161 => sp_X9_run_L44 n44 r85 (v6_44 + 1) M161)))) else (K156 M139))))) else (sp_X9_run_L44 n44 r85 (v6_44 + 1) M119))))))))))) else (some ((), M_44))) else (some ((), M_44))) else (some ((), M_44))
def sp_X9_run (p4 : Int32) (M : Mm) : Option (Unit × Mm) := bl (sJ M 31 0 (p4.toInt64)) (fun M4 => bl (sI M4 31 1 (0 : Int32)) (fun M9 => zb (gI M9 13 1) (bl (sI M9 31 2 (gI M9 13 1)) (fun M17 => zb (gI M17 13 2) (bl (sI M17 31 3 (gI M17 13 2)) (fun M25 => bd (sp_X6_left (gI M25 13 3) M25) (fun r33 M33 => bd (sp_X1_stage M33) (fun r39 M39 => sp_X9_run_L44 fu r33 r39 M39))))))))
def rm_X9_run : Room := { frames := 3, cells := 0, slots := 0, locals := 64 }
def sp_X10_nights (p1 : Int32) (p2 : Int32) (M : Mm) : Option (Int32 × Mm) := if p1 < 0 then (some ((-102 : Int32), M)) else (bd (sp_X10_isOutside p2 (0 : Int32) (3 : Int32) M) (fun r7 M7 => if r7 = 0 then (bd (sp_X10_isAfloat M7) (fun r17 M17 => if r17 = 0 then (some ((-103 : Int32), M17)) else (bd (sp_X9_run p1 M17) (fun _ M43 => if p2 = 0 then (bd (sp_X10_asNumber (gI M43 31 2) M43) (fun r79 M79 => some (r79, M79))) else (if p2 = 1 then (some (gI M43 31 1, M43)) else (if p2 = 2 then (bd (sp_X10_asNumber (gI M43 31 3) M43) (fun r98 M98 => some (r98, M98))) else (some ((gJ M43 31 0).toInt32, M43)))))))) else (some ((-102 : Int32), M7))))
def rm_X10_nights : Room := { frames := 4, cells := 0, slots := 0, locals := 92 }
def sp_X1_takeFrom_18_13_L112 : Nat → Int32 → Mm → Option (Unit × Mm)
  | 0, _, _ => none
  | n112 + 1, v2_112, M_112 => if v2_112 < (8 : Int32) then (bd (sp_X10_at 16 v2_112 M_112) (fun r128 M128 => bd (sp_X10_put 21 v2_112 r128 M128) (fun _ M131 => sp_X1_takeFrom_18_13_L112 n112 (v2_112 + 1) M131))) else (some ((), M_112))
def sp_X1_takeFrom_18_13_L66 (K110 : Mm → Option (Unit × Mm)) : Nat → Int32 → Mm → Option (Unit × Mm)
  | 0, _, _ => none
  | n66 + 1, v2_66, M_66 => if v2_66 < (6 : Int32) then (bd (sp_X10_at 14 v2_66 M_66) (fun r82 M82 => bd (sp_X10_put 19 v2_66 r82 M82) (fun _ M85 => bd (sp_X10_at 15 v2_66 M85) (fun r98 M98 => bd (sp_X10_put 20 v2_66 r98 M98) (fun _ M101 => sp_X1_takeFrom_18_13_L66 K110 n66 (v2_66 + 1) M101))))) else (K110 M_66)
def sp_X1_takeFrom_18_13 (M : Mm) : Option (Unit × Mm) := bl (sI M 18 0 (gI M 13 0)) (fun M5 => zb (gI M5 13 1) (bl (sI M5 18 1 (gI M5 13 1)) (fun M13 => zb (gI M13 13 2) (bl (sI M13 18 2 (gI M13 13 2)) (fun M21 => bl (sI M21 18 3 (gI M21 13 3)) (fun M29 => bl (sI M29 18 4 (gI M29 13 4)) (fun M37 => bl (sI M37 18 5 (gI M37 13 5)) (fun M45 => bl (sI M45 18 6 (gI M45 13 6)) (fun M53 => bl (sI M53 18 7 (gI M53 13 7)) (fun M61 => jn (fun (M_110 : Mm) => sp_X1_takeFrom_18_13_L112 fu (0 : Int32) M_110) (fun (K110 : Mm → Option (Unit × Mm)) => sp_X1_takeFrom_18_13_L66 K110 fu (0 : Int32) M61)))))))))))
def rm_X1_takeFrom_18_13 : Room := { frames := 1, cells := 0, slots := 0, locals := 22 }
def sp_X10_image (M : Mm) : Option (Int32 × Mm) := bd (sp_X10_hasNight M) (fun r1 M1 => if r1 = 0 then (some ((-103 : Int32), M1)) else (bd (sp_X1_takeFrom_18_13 M1) (fun _ M21 => bl (sI M21 17 1 (gI M21 0 10)) (fun M32 => bl (sI M32 17 2 (gI M32 6 0)) (fun M46 => bl (sI M46 17 3 (gI M46 9 0)) (fun M60 => some (gI M60 13 0, M60)))))))
def rm_X10_image : Room := { frames := 2, cells := 0, slots := 0, locals := 44 }
def sp_X1_takeFrom_13_18_L112 : Nat → Int32 → Mm → Option (Unit × Mm)
  | 0, _, _ => none
  | n112 + 1, v2_112, M_112 => if v2_112 < (8 : Int32) then (bd (sp_X10_at 21 v2_112 M_112) (fun r128 M128 => bd (sp_X10_put 16 v2_112 r128 M128) (fun _ M131 => sp_X1_takeFrom_13_18_L112 n112 (v2_112 + 1) M131))) else (some ((), M_112))
def sp_X1_takeFrom_13_18_L66 (K110 : Mm → Option (Unit × Mm)) : Nat → Int32 → Mm → Option (Unit × Mm)
  | 0, _, _ => none
  | n66 + 1, v2_66, M_66 => if v2_66 < (6 : Int32) then (bd (sp_X10_at 19 v2_66 M_66) (fun r82 M82 => bd (sp_X10_put 14 v2_66 r82 M82) (fun _ M85 => bd (sp_X10_at 20 v2_66 M85) (fun r98 M98 => bd (sp_X10_put 15 v2_66 r98 M98) (fun _ M101 => sp_X1_takeFrom_13_18_L66 K110 n66 (v2_66 + 1) M101))))) else (K110 M_66)
def sp_X1_takeFrom_13_18 (M : Mm) : Option (Unit × Mm) := bl (sI M 13 0 (gI M 18 0)) (fun M5 => zb (gI M5 18 1) (bl (sI M5 13 1 (gI M5 18 1)) (fun M13 => zb (gI M13 18 2) (bl (sI M13 13 2 (gI M13 18 2)) (fun M21 => bl (sI M21 13 3 (gI M21 18 3)) (fun M29 => bl (sI M29 13 4 (gI M29 18 4)) (fun M37 => bl (sI M37 13 5 (gI M37 18 5)) (fun M45 => bl (sI M45 13 6 (gI M45 18 6)) (fun M53 => bl (sI M53 13 7 (gI M53 18 7)) (fun M61 => jn (fun (M_110 : Mm) => sp_X1_takeFrom_13_18_L112 fu (0 : Int32) M_110) (fun (K110 : Mm → Option (Unit × Mm)) => sp_X1_takeFrom_13_18_L66 K110 fu (0 : Int32) M61)))))))))))
def rm_X1_takeFrom_13_18 : Room := { frames := 1, cells := 0, slots := 0, locals := 22 }
def sp_X10_restore (M : Mm) : Option (Int32 × Mm) := bd (sp_X10_hasNight M) (fun r1 M1 => if r1 = 0 then (some ((-103 : Int32), M1)) else (if (gI M1 17 1) = (gI M1 0 10) then (if (gI M1 17 2) = (gI M1 6 0) then (if (gI M1 17 3) = (gI M1 9 0) then (bd (sp_X1_takeFrom_13_18 M1) (fun _ M69 => some (gI M69 13 0, M69))) else (some ((-103 : Int32), M1))) else (some ((-103 : Int32), M1))) else (some ((-103 : Int32), M1))))
def rm_X10_restore : Room := { frames := 2, cells := 0, slots := 0, locals := 44 }
def sp_X10_count (p1 : Int32) (M : Mm) : Option (Int32 × Mm) := if p1 = 0 then (some (gI M 6 0, M)) else (if p1 = 1 then (bd (sp_J6_bitCount_0f7a4 (gI M 13 3) M) (fun r87 M87 => some (r87, M87))) else (if p1 = 2 then (some (gI M 9 0, M)) else (if p1 = 3 then (bd (sp_J6_bitCount_0f7a4 (gI M 13 4) M) (fun r106 M106 => some (r106, M106))) else (if p1 = 4 then (some (gI M 13 0, M)) else (if p1 = 5 then (bd (sp_X10_asNumber (gI M 13 1) M) (fun r125 M125 => some (r125, M125))) else (if p1 = 6 then (bd (sp_X10_asNumber (gI M 13 2) M) (fun r136 M136 => some (r136, M136))) else (if p1 = 7 then (some (gI M 3 1, M)) else (if p1 = 8 then (some (gI M 13 5, M)) else (if p1 = 9 then (some (gI M 13 6, M)) else (if p1 = 10 then (some (gI M 13 7, M)) else (if p1 = 11 then (some (gI M 1 1, M)) else (if p1 = 12 then (some (gI M 0 10, M)) else (if p1 = 13 then (some (gI M 0 11, M)) else (some ((-102 : Int32), M)))))))))))))))
def rm_X10_count : Room := { frames := 1, cells := 0, slots := 0, locals := 20 }
def sp_X10_mix (p0 : Int64) (p2 : Int64) (M : Mm) : Option (Int64 × Mm) := some (((31 : Int64) * p0) + p2, M)
def rm_X10_mix : Room := { frames := 0, cells := 0, slots := 0, locals := 0 }
def sp_X10_mixSea_L33 : Nat → Int64 → Int32 → Mm → Option (Int64 × Mm)
  | 0, _, _, _ => none
  | n33 + 1, v3_33, v5_33, M_33 => if (19 : Int32) < v5_33 then (some (v3_33, M_33)) else (bd (sp_X10_sea v5_33 M_33) (fun r44 M44 => bd (sp_X10_mix v3_33 (r44.toInt64) M44) (fun r48 M48 => sp_X10_mixSea_L33 n33 r48 (v5_33 + 1) M48)))
def sp_X10_mixSea_L5 (K29 : Int64 → Mm → Option (Int64 × Mm)) : Nat → Int64 → Int32 → Mm → Option (Int64 × Mm)
  | 0, _, _, _ => none
  | n5 + 1, v3_5, v5_5, M_5 => if (4 : Int32) < v5_5 then (K29 v3_5 M_5) else (bd (sp_X10_sea v5_5 M_5) (fun r15 M15 => bd (sp_X10_mix v3_5 (r15.toInt64) M15) (fun r19 M19 => sp_X10_mixSea_L5 K29 n5 r19 (v5_5 + 1) M19)))
def sp_X10_mixSea (p1 : Int64) (M : Mm) : Option (Int64 × Mm) := jn (fun (v3_29 : Int64) (M_29 : Mm) => sp_X10_mixSea_L33 fu v3_29 (10 : Int32) M_29) (fun (K29 : Int64 → Mm → Option (Int64 × Mm)) => sp_X10_mixSea_L5 K29 fu p1 (0 : Int32) M)
def rm_X10_mixSea : Room := { frames := 3, cells := 0, slots := 0, locals := 63 }
def sp_X10_digest_L189 : Nat → Int64 → Int32 → Mm → Option (Int64 × Mm)
  | 0, _, _, _ => none
  | n189 + 1, v1_189, v3_189, M_189 => if (13 : Int32) < v3_189 then (some (v1_189, M_189)) else (bd (sp_X10_count v3_189 M_189) (fun r198 M198 => bd (sp_X10_mix v1_189 (r198.toInt64) M198) (fun r202 M202 => sp_X10_digest_L189 n189 r202 (v3_189 + 1) M202)))
def sp_X10_digest_L156 (K187 : Int64 → Mm → Option (Int64 × Mm)) : Nat → Int64 → Int32 → Mm → Option (Int64 × Mm)
  | 0, _, _, _ => none
  | n156 + 1, v1_156, v3_156, M_156 => if v3_156 < (gI M_156 1 1) then (bd (sp_X5_letterAt v3_156 M_156) (fun r173 M173 => bd (sp_X10_mix v1_156 (r173.toInt64) M173) (fun r177 M177 => sp_X10_digest_L156 K187 n156 r177 (v3_156 + 1) M177))) else (K187 v1_156 M_156)
def sp_X10_digest_L76 (K102 : Int64 → Mm → Option (Int64 × Mm)) (v3_62 : Int32) : Nat → Int64 → Int32 → Mm → Option (Int64 × Mm)
  | 0, _, _, _ => none
  | n76 + 1, v1_76, v4_76, M_76 => if (6 : Int32) < v4_76 then (K102 v1_76 M_76) else (bd (sp_X10_about v3_62 v4_76 M_76) (fun r88 M88 => bd (sp_X10_mix v1_76 (r88.toInt64) M88) (fun r92 M92 => sp_X10_digest_L76 K102 v3_62 n76 r92 (v4_76 + 1) M92)))
def sp_X10_digest_L62 (K108 : Int64 → Mm → Option (Int64 × Mm)) : Nat → Int64 → Int32 → Mm → Option (Int64 × Mm)
  | 0, _, _, _ => none
  | n62 + 1, v1_62, v3_62, M_62 => if v3_62 < (gI M_62 9 0) then (jn (fun (v1_102 : Int64) (M_102 : Mm) => sp_X10_digest_L62 K108 n62 v1_102 (v3_62 + 1) M_102) (fun (K102 : Int64 → Mm → Option (Int64 × Mm)) => sp_X10_digest_L76 K102 v3_62 fu v1_62 (0 : Int32) M_62)) else (K108 v1_62 M_62)
def sp_X10_digest_L19 (K60 : Int64 → Mm → Option (Int64 × Mm)) : Nat → Int64 → Int32 → Mm → Option (Int64 × Mm)
  | 0, _, _, _ => none
  | n19 + 1, v1_19, v3_19, M_19 => if v3_19 < (gI M_19 6 0) then (bd (sp_X10_hits v3_19 (0 : Int32) (0 : Int32) M_19) (fun r35 M35 => bd (sp_X10_mix v1_19 r35 M35) (fun r38 M38 => bd (sp_X10_hits v3_19 (0 : Int32) (1 : Int32) M38) (fun r47 M47 => bd (sp_X10_mix r38 r47 M47) (fun r50 M50 => sp_X10_digest_L19 K60 n19 r50 (v3_19 + 1) M50))))) else (K60 v1_19 M_19)
def sp_X10_digest (M : Mm) : Option (Int64 × Mm) := bd (sp_X10_hasNight M) (fun r5 M5 => jn (fun (v1_17 : Int64) (M_17 : Mm) => jn (fun (v1_60 : Int64) (M_60 : Mm) => jn (fun (v1_108 : Int64) (M_108 : Mm) => bd (sp_X10_orders M_108) (fun r110 M110 => bd (sp_X10_mix v1_108 (r110.toInt64) M110) (fun r114 M114 => jn (fun (v1_154 : Int64) (M_154 : Mm) => jn (fun (v1_187 : Int64) (M_187 : Mm) => sp_X10_digest_L189 fu v1_187 (0 : Int32) M_187) (fun (K187 : Int64 → Mm → Option (Int64 × Mm)) => sp_X10_digest_L156 K187 fu v1_154 (0 : Int32) M_154)) (fun (K154 : Int64 → Mm → Option (Int64 × Mm)) => if 0 < (gI M114 13 7) then (bd (sp_X10_stations (10 : Int32) (0 : Int32) M114) (fun r133 M133 => bd (sp_X10_mix r114 (r133.toInt64) M133) (fun r137 M137 => bd (sp_X10_stations (10 : Int32) (1 : Int32) M137) (fun r146 M146 => bd (sp_X10_mix r137 (r146.toInt64) M146) (fun r150 M150 => K154 r150 M150))))) else (K154 r114 M114))))) (fun (K108 : Int64 → Mm → Option (Int64 × Mm)) => sp_X10_digest_L62 K108 fu v1_60 (0 : Int32) M_60)) (fun (K60 : Int64 → Mm → Option (Int64 × Mm)) => sp_X10_digest_L19 K60 fu v1_17 (0 : Int32) M_17)) (fun (K17 : Int64 → Mm → Option (Int64 × Mm)) => if r5 = 0 then (K17 (701 : Int64) M5) else (bd (sp_X10_mixSea (701 : Int64) M5) (fun r13 M13 => K17 r13 M13))))
def rm_X10_digest : Room := { frames := 6, cells := 0, slots := 0, locals := 132 }
def sp_X11_in (p0 : Int64) (p2 : Int64) (p4 : Int64) (M : Mm) : Option (Int32 × Mm) := if p0 < p2 then (some ((0 : Int32), M)) else (if p4 < p0 then (some ((0 : Int32), M)) else (some ((1 : Int32), M)))
def rm_X11_in : Room := { frames := 0, cells := 0, slots := 0, locals := 0 }
def sp_X11_letter (p1 : Int32) (M : Mm) : Option (Int32 × Mm) := bd (sp_X11_in (p1.toInt64) (1 : Int64) (126 : Int64) M) (fun r6 M6 => if r6 = 0 then (some ((-102 : Int32), M6)) else (if (gI M6 32 1) = (22 : Int32) then (some ((-104 : Int32), M6)) else (wrI M6 33 (gI M6 32 1) p1 (fun M36 => bl (sI M36 32 1 ((gI M36 32 1) + (1 : Int32))) (fun M44 => some (gI M44 32 1, M44))))))
def rm_X11_letter : Room := { frames := 1, cells := 0, slots := 0, locals := 25 }
def sp_X11_blank (M : Mm) : Option (Int32 × Mm) := bl (gI M 32 1) (fun y4 => bl (sI M 32 1 (0 : Int32)) (fun M7 => some (y4, M7)))
def rm_X11_blank : Room := { frames := 0, cells := 0, slots := 0, locals := 0 }
def sp_X11_goGust_L5 (p1 : Int32) (M : Mm) (K27 : Int32 → Option (Int32 × Mm)) : Nat → Int32 → Int32 → Option (Int32 × Mm)
  | 0, _, _ => none
  | n5 + 1, v3_5, v4_5 => if v4_5 < p1 then (rdI M 34 v4_5 (fun a18 => bl (v3_5 + a18) (fun y20 => sp_X11_goGust_L5 p1 M K27 n5 y20 (v4_5 + 1)))) else (K27 v3_5)
def sp_X11_goGust (p1 : Int32) (p2 : Int32) (M : Mm) : Option (Int32 × Mm) := jn (fun (v3_27 : Int32) => wrI M 34 p1 p2 (fun M33 => bd (sp_X11_in (p2.toInt64) (0 : Int64) (9 : Int64) M33) (fun r40 M40 => if r40 = 0 then (some ((0 : Int32), M40)) else (if (10 : Int32) < v3_27 then (some ((0 : Int32), M40)) else (if p1 < (2 : Int32) then (some ((1 : Int32), M40)) else (if v3_27 = (10 : Int32) then (some ((1 : Int32), M40)) else (some ((0 : Int32), M40)))))))) (fun (K27 : Int32 → Option (Int32 × Mm)) => sp_X11_goGust_L5 p1 M K27 fu p2 (0 : Int32))
def rm_X11_goGust : Room := { frames := 1, cells := 0, slots := 0, locals := 25 }
def sp_X11_go (p1 : Int32) (p2 : Int32) (M : Mm) : Option (Int32 × Mm) := bl (p2 - (48 : Int32)) (fun y4 => if p1 = 0 then (bl (sI M 32 2 y4) (fun M58 => bd (sp_X11_in (y4.toInt64) (1 : Int64) (9 : Int64) M58) (fun r67 M67 => zb r67 (some (r67, M67))))) else (if p1 = 1 then (bl (sI M 32 2 (((10 : Int32) * (gI M 32 2)) + y4)) (fun M81 => bd (sp_X11_in (y4.toInt64) (0 : Int64) (9 : Int64) M81) (fun r90 M90 => zb r90 (some (r90, M90))))) else (if p1 = 2 then (if p2 = (58 : Int32) then (some ((1 : Int32), M)) else (some ((0 : Int32), M))) else (if p1 = 3 then (bl (sI M 32 3 y4) (fun M108 => bd (sp_X11_in (y4.toInt64) (0 : Int64) (9 : Int64) M108) (fun r117 M117 => zb r117 (some (r117, M117))))) else (if p1 = 4 then (if p2 = (58 : Int32) then (some ((1 : Int32), M)) else (some ((0 : Int32), M))) else (if p1 = 5 then (bd (sp_X11_goGust (p1 - (5 : Int32)) y4 M) (fun r126 M126 => zb r126 (some (r126, M126)))) else (if p1 = 6 then (bd (sp_X11_goGust (p1 - (5 : Int32)) y4 M) (fun r126 M126 => zb r126 (some (r126, M126)))) else (if p1 = 7 then (bd (sp_X11_goGust (p1 - (5 : Int32)) y4 M) (fun r126 M126 => zb r126 (some (r126, M126)))) else (if p1 = 8 then (if p2 = (58 : Int32) then (some ((1 : Int32), M)) else (some ((0 : Int32), M))) else (if (gI M 32 6) = (10 : Int32) then (some ((0 : Int32), M)) else (bd (sp_X11_in (y4.toInt64) (0 : Int64) (9 : Int64) M) (fun r145 M145 => if r145 = 0 then (some ((0 : Int32), M145)) else (wrI M145 35 (gI M145 32 6) y4 (fun M162 => bl (sI M162 32 6 ((gI M162 32 6) + (1 : Int32))) (fun M170 => some ((1 : Int32), M170))))))))))))))))
def rm_X11_go : Room := { frames := 2, cells := 0, slots := 0, locals := 49 }
def sp_X11_faultOf_L7 : Nat → Int32 → Mm → Option (Int32 × Mm)
  | 0, _, _ => none
  | n7 + 1, v1_7, M_7 => if v1_7 < (gI M_7 32 1) then (rdI M_7 33 v1_7 (fun a22 => bd (sp_X11_go v1_7 a22 M_7) (fun r23 M23 => if r23 = 0 then (some (v1_7, M23)) else (sp_X11_faultOf_L7 n7 (v1_7 + 1) M23)))) else (some (v1_7, M_7))
def sp_X11_faultOf (M : Mm) : Option (Int32 × Mm) := bl (sI M 32 6 (0 : Int32)) (fun M2 => sp_X11_faultOf_L7 fu (0 : Int32) M2)
def rm_X11_faultOf : Room := { frames := 3, cells := 0, slots := 0, locals := 72 }
def sp_X11_fault (M : Mm) : Option (Int32 × Mm) := bd (sp_X11_faultOf M) (fun r1 M1 => some (r1, M1))
def rm_X11_fault : Room := { frames := 4, cells := 0, slots := 0, locals := 93 }
def sp_X11_night_L72 (K108 : Mm → Option (Int32 × Mm)) : Nat → Int32 → Mm → Option (Int32 × Mm)
  | 0, _, _ => none
  | n72 + 1, v1_72, M_72 => if v1_72 < (10 : Int32) then (if v1_72 < (gI M_72 32 7) then (rdI M_72 35 v1_72 (fun a96 => wrI M_72 37 v1_72 a96 (fun M101 => sp_X11_night_L72 K108 n72 (v1_72 + 1) M101))) else (wrI M_72 37 v1_72 (-1 : Int32) (fun M101 => sp_X11_night_L72 K108 n72 (v1_72 + 1) M101))) else (K108 M_72)
def sp_X11_night_L47 (K70 : Mm → Option (Int32 × Mm)) : Nat → Int32 → Mm → Option (Int32 × Mm)
  | 0, _, _ => none
  | n47 + 1, v1_47, M_47 => if v1_47 < (3 : Int32) then (rdI M_47 34 v1_47 (fun a62 => wrI M_47 36 v1_47 a62 (fun M63 => sp_X11_night_L47 K70 n47 (v1_47 + 1) M63))) else (K70 M_47)
def sp_X11_night (M : Mm) : Option (Int32 × Mm) := bd (sp_X11_faultOf M) (fun r1 M1 => if r1 < (gI M1 32 1) then (some ((-103 : Int32), M1)) else (if (gI M1 32 6) = 0 then (some ((-103 : Int32), M1)) else (bl (sI M1 32 7 (gI M1 32 6)) (fun M26 => bl (sI M26 32 8 (gI M26 32 2)) (fun M34 => bl (sI M34 32 9 (gI M34 32 3)) (fun M42 => jn (fun (M_70 : Mm) => jn (fun (M_108 : Mm) => bl (sI M_108 32 10 (0 : Int32)) (fun M110 => bl (sI M110 32 11 (0 : Int32)) (fun M115 => bl (sI M115 32 12 (0 : Int32)) (fun M120 => bl (sI M120 32 13 (60 : Int32)) (fun M126 => bl (sI M126 32 17 (0 : Int32)) (fun M131 => bl (sI M131 32 22 (0 : Int32)) (fun M136 => bl (sI M136 32 29 (0 : Int32)) (fun M141 => bl (sI M141 32 32 (0 : Int32)) (fun M146 => bl (sI M146 32 14 ((gI M146 32 14) + (1 : Int32))) (fun M156 => bl (sI M156 32 1 (0 : Int32)) (fun M161 => some (gI M161 32 7, M161)))))))))))) (fun (K108 : Mm → Option (Int32 × Mm)) => sp_X11_night_L72 K108 fu (0 : Int32) M_70)) (fun (K70 : Mm → Option (Int32 × Mm)) => sp_X11_night_L47 K70 fu (0 : Int32) M42)))))))
def rm_X11_night : Room := { frames := 4, cells := 0, slots := 0, locals := 93 }
def sp_X11_lacks (M : Mm) : Option (Int32 × Mm) := if (gI M 32 7) = 0 then (some ((1 : Int32), M)) else (some ((0 : Int32), M))
def rm_X11_lacks : Room := { frames := 0, cells := 0, slots := 0, locals := 0 }
def sp_X11_tellSea (p1 : Int32) (M : Mm) : Option (Int32 × Mm) := if p1 = 0 then (some (gI M 32 8, M)) else (if p1 = (1 : Int32) then (some (gI M 32 9, M)) else (if p1 < (5 : Int32) then (rdI M 36 (p1 - (2 : Int32)) (fun a35 => some (a35, M))) else (rdI M 37 (p1 - (10 : Int32)) (fun a47 => some (a47, M)))))
def rm_X11_tellSea : Room := { frames := 0, cells := 0, slots := 0, locals := 0 }
def sp_X11_sea (p1 : Int32) (M : Mm) : Option (Int32 × Mm) := bd (sp_X11_in (p1.toInt64) (0 : Int64) (4 : Int64) M) (fun r6 M6 => jn (fun (M_29 : Mm) => bd (sp_X11_lacks M_29) (fun r30 M30 => if r30 = 0 then (bd (sp_X11_tellSea p1 M30) (fun r43 M43 => some (r43, M43))) else (some ((-103 : Int32), M30)))) (fun (K29 : Mm → Option (Int32 × Mm)) => if r6 = 0 then (bd (sp_X11_in (p1.toInt64) (10 : Int64) (19 : Int64) M6) (fun r20 M20 => if r20 = 0 then (some ((-102 : Int32), M20)) else (K29 M20))) else (K29 M6)))
def rm_X11_sea : Room := { frames := 1, cells := 0, slots := 0, locals := 25 }
def sp_X11_rocket (p1 : Int32) (p2 : Int32) (M : Mm) : Option (Int32 × Mm) := bd (sp_X11_in (p1.toInt64) (10 : Int64) (120 : Int64) M) (fun r8 M8 => if r8 = 0 then (some ((-102 : Int32), M8)) else (bd (sp_X11_in (p2.toInt64) (0 : Int64) (9 : Int64) M8) (fun r20 M20 => if r20 = 0 then (some ((-102 : Int32), M20)) else (bd (sp_X11_lacks M20) (fun r30 M30 => if r30 = 0 then (if (gI M30 32 17) = (6 : Int32) then (some ((-104 : Int32), M30)) else (wrI M30 38 ((3 : Int32) * (gI M30 32 17)) p1 (fun M62 => wrI M62 38 (((3 : Int32) * (gI M62 32 17)) + (1 : Int32)) p2 (fun M76 => wrI M76 38 (((3 : Int32) * (gI M76 32 17)) + (2 : Int32)) (0 : Int32) (fun M90 => bl (sI M90 32 17 ((gI M90 32 17) + (1 : Int32))) (fun M98 => some ((gI M98 32 17) - (1 : Int32), M98))))))) else (some ((-103 : Int32), M30)))))))
def rm_X11_rocket : Room := { frames := 1, cells := 0, slots := 0, locals := 25 }
def sp_X11_isRocket (p1 : Int32) (M : Mm) : Option (Int32 × Mm) := bd (sp_X11_in (p1.toInt64) (0 : Int64) (((gI M 32 17) - (1 : Int32)).toInt64) M) (fun r10 M10 => zb r10 (some (r10, M10)))
def rm_X11_isRocket : Room := { frames := 1, cells := 0, slots := 0, locals := 25 }
def sp_X11_stageNow (M : Mm) : Option (Int32 × Mm) := some ((gI M 32 10) / (5 : Int32), M)
def rm_X11_stageNow : Room := { frames := 0, cells := 0, slots := 0, locals := 0 }
def sp_X11_fallsAt (p1 : Int32) (p2 : Int32) (p3 : Int32) (M : Mm) : Option (Int32 × Mm) := rdI M 38 ((3 : Int32) * p1) (fun a7 => rdI M 38 (((3 : Int32) * p1) + (1 : Int32)) (fun a17 => some ((a7 - (a17 * p2)) + (p3 * (gI M 32 9)), M)))
def rm_X11_fallsAt : Room := { frames := 0, cells := 0, slots := 0, locals := 0 }
def sp_X11_isRight (p1 : Int32) (M : Mm) : Option (Int32 × Mm) := bd (sp_X11_in (p1.toInt64) ((gI M 32 8).toInt64) (((gI M 32 8) + (5 : Int32)).toInt64) M) (fun r14 M14 => zb r14 (some (r14, M14)))
def rm_X11_isRight : Room := { frames := 1, cells := 0, slots := 0, locals := 25 }
def sp_X11_fire (p1 : Int32) (p2 : Int32) (M : Mm) : Option (Int32 × Mm) := bd (sp_X11_isRocket p1 M) (fun r2 M2 => if r2 = 0 then (some ((-101 : Int32), M2)) else (bd (sp_X11_in (p2.toInt64) (-1 : Int64) (1 : Int64) M2) (fun r17 M17 => if r17 = 0 then (some ((-102 : Int32), M17)) else (rdI M17 38 (((3 : Int32) * p1) + (2 : Int32)) (fun a35 => if a35 = (1 : Int32) then (some ((-103 : Int32), M17)) else (if (gI M17 32 12) = (1 : Int32) then (some ((-103 : Int32), M17)) else (bd (sp_X11_stageNow M17) (fun r49 M49 => if r49 < (gI M49 32 7) then (wrI M49 38 (((3 : Int32) * p1) + (2 : Int32)) (1 : Int32) (fun M72 => bd (sp_X11_stageNow M72) (fun r76 M76 => bd (sp_X11_fallsAt p1 r76 p2 M76) (fun r80 M80 => bd (sp_X11_isRight r80 M80) (fun r87 M87 => if r87 = 0 then (bl (sI M87 32 11 (gI M87 32 11)) (fun M101 => some (r80, M101))) else (bl (sI M87 32 11 (1 : Int32)) (fun M101 => some (r80, M101)))))))) else (some ((-103 : Int32), M49))))))))))
def rm_X11_fire : Room := { frames := 2, cells := 0, slots := 0, locals := 46 }
def sp_X11_hitTenths_L5 (p1 : Int32) (p2 : Int32) : Nat → Int32 → Int32 → Mm → Option (Int32 × Mm)
  | 0, _, _, _ => none
  | n5 + 1, v3_5, v4_5, M_5 => if v4_5 < (2 : Int32) then (bd (sp_X11_fallsAt p1 p2 v4_5 M_5) (fun r18 M18 => bd (sp_X11_isRight r18 M18) (fun r21 M21 => if r21 = 0 then (bl (v3_5 + (0 : Int32)) (fun y41 => sp_X11_hitTenths_L5 p1 p2 n5 y41 (v4_5 + 1) M21)) else (rdI M21 36 (v4_5 + (1 : Int32)) (fun a35 => bl (v3_5 + a35) (fun y41 => sp_X11_hitTenths_L5 p1 p2 n5 y41 (v4_5 + 1) M21)))))) else (some (v3_5, M_5))
def sp_X11_hitTenths (p1 : Int32) (p2 : Int32) (M : Mm) : Option (Int32 × Mm) := sp_X11_hitTenths_L5 p1 p2 fu (0 : Int32) (-1 : Int32) M
def rm_X11_hitTenths : Room := { frames := 2, cells := 0, slots := 0, locals := 46 }
def sp_X11_term_L6 (K31 : Int64 → Option (Int64 × Mm)) : Nat → Int64 → Int64 → Option (Int64 × Mm)
  | 0, _, _ => none
  | n6 + 1, v5_6, v7_6 => if v5_6 = (0 : Int64) then (K31 v7_6) else (nzJ v5_6 (bl (v7_6 - v7_6 / v5_6 * v5_6) (fun y18 => sp_X11_term_L6 K31 n6 y18 v5_6)))
def sp_X11_term (p0 : Int64) (p2 : Int64) (p4 : Int32) (M : Mm) : Option (Int64 × Mm) := jn (fun (v7_31 : Int64) => if p4 = 0 then (nzJ v7_31 (some (p0 / v7_31, M))) else (nzJ v7_31 (some (p2 / v7_31, M)))) (fun (K31 : Int64 → Option (Int64 × Mm)) => sp_X11_term_L6 K31 fu p0 p2)
def rm_X11_term : Room := { frames := 0, cells := 0, slots := 0, locals := 0 }
def sp_X11_hits (p1 : Int32) (p2 : Int32) (p3 : Int32) (M : Mm) : Option (Int64 × Mm) := bd (sp_X11_isRocket p1 M) (fun r2 M2 => if r2 = 0 then (some ((-101 : Int64), M2)) else (bd (sp_X11_in (p2.toInt64) (0 : Int64) (9 : Int64) M2) (fun r18 M18 => if r18 = 0 then (some ((-102 : Int64), M18)) else (bd (sp_X11_in (p3.toInt64) (0 : Int64) (1 : Int64) M18) (fun r28 M28 => if r28 = 0 then (some ((-102 : Int64), M28)) else (bd (sp_X11_hitTenths p1 p2 M28) (fun r41 M41 => bd (sp_X11_term (r41.toInt64) (10 : Int64) p3 M41) (fun r49 M49 => some (r49, M49)))))))))
def rm_X11_hits : Room := { frames := 3, cells := 0, slots := 0, locals := 70 }
def sp_X11_isAiming (M : Mm) : Option (Int32 × Mm) := bd (sp_X11_lacks M) (fun r1 M1 => if r1 = 0 then (if (gI M1 32 11) = 0 then (if (gI M1 32 12) = 0 then (bd (sp_X11_stageNow M1) (fun r22 M22 => if r22 < (gI M22 32 7) then (some ((1 : Int32), M22)) else (some ((0 : Int32), M22)))) else (some ((0 : Int32), M1))) else (some ((0 : Int32), M1))) else (some ((0 : Int32), M1)))
def rm_X11_isAiming : Room := { frames := 1, cells := 0, slots := 0, locals := 20 }
def sp_X11_leftBits_L4 (M : Mm) : Nat → Int32 → Int32 → Option (Int32 × Mm)
  | 0, _, _ => none
  | n4 + 1, v1_4, v2_4 => if v2_4 < (gI M 32 17) then (rdI M 38 (((3 : Int32) * v2_4) + (2 : Int32)) (fun a22 => if a22 = 0 then (bl (v1_4 ||| ((1 : Int32) <<< (v2_4 &&& 31))) (fun y34 => sp_X11_leftBits_L4 M n4 y34 (v2_4 + 1))) else (bl (v1_4 ||| (0 : Int32)) (fun y34 => sp_X11_leftBits_L4 M n4 y34 (v2_4 + 1))))) else (some (v1_4, M))
def sp_X11_leftBits (M : Mm) : Option (Int32 × Mm) := sp_X11_leftBits_L4 M fu (0 : Int32) (0 : Int32)
def rm_X11_leftBits : Room := { frames := 0, cells := 0, slots := 0, locals := 0 }
def sp_X11_bestOf_L37 (p4 : Int32) (p1 : Int32) (p2 : Int64) (y11 : Int64) : Nat → Int64 → Int32 → Mm → Option (Int64 × Mm)
  | 0, _, _, _ => none
  | n37 + 1, v7_37, v9_37, M_37 => if v9_37 < (gI M_37 32 17) then (if ((p4 >>> (v9_37 &&& 31)) &&& (1 : Int32)) = (1 : Int32) then (bd (sp_X11_hitTenths v9_37 p1 M_37) (fun r61 M61 => bl (r61.toInt64) (fun y65 => rdJ M61 39 (p4 &&& (((1 : Int32) <<< (v9_37 &&& 31)) ^^^ (-1 : Int32))) (fun a97 => bl ((((10 : Int64) * y65) * p2) + ((((10 : Int64) - y65) * y11) * a97)) (fun y100 => jn (fun (t0_120 : Int32) => bl (sI M61 32 21 t0_120) (fun M120 => if v7_37 < y100 then (sp_X11_bestOf_L37 p4 p1 p2 y11 n37 y100 (v9_37 + 1) M120) else (sp_X11_bestOf_L37 p4 p1 p2 y11 n37 v7_37 (v9_37 + 1) M120))) (fun (K120 : Int32 → Option (Int64 × Mm)) => if v7_37 < y100 then (K120 v9_37) else (K120 (gI M61 32 21)))))))) else (sp_X11_bestOf_L37 p4 p1 p2 y11 n37 v7_37 (v9_37 + 1) M_37)) else (some (v7_37, M_37))
def sp_X11_bestOf (p1 : Int32) (p2 : Int64) (p4 : Int32) (M : Mm) : Option (Int64 × Mm) := rdI M 37 p1 (fun a8 => bl ((10 : Int64) - (a8.toInt64)) (fun y11 => bl (sI M 32 21 (-1 : Int32)) (fun M15 => rdJ M15 39 p4 (fun a30 => bl (((10 : Int64) * y11) * a30) (fun y32 => sp_X11_bestOf_L37 p4 p1 p2 y11 fu y32 (0 : Int32) M15)))))
def rm_X11_bestOf : Room := { frames := 3, cells := 0, slots := 0, locals := 70 }
def sp_X11_aimOf_L128 (K155 : Mm → Option (Int64 × Mm)) : Nat → Int32 → Mm → Option (Int64 × Mm)
  | 0, _, _ => none
  | n128 + 1, v7_128, M_128 => if v7_128 < (64 : Int32) then (rdJ M_128 40 v7_128 (fun a147 => wrJ M_128 39 v7_128 a147 (fun M148 => sp_X11_aimOf_L128 K155 n128 (v7_128 + 1) M148))) else (K155 M_128)
def sp_X11_aimOf_L96 (v6_86 : Int32) (v2_86 : Int64) (K125 : Mm → Option (Int64 × Mm)) : Nat → Int32 → Mm → Option (Int64 × Mm)
  | 0, _, _ => none
  | n96 + 1, v7_96, M_96 => if v7_96 < (64 : Int32) then (bd (sp_X11_bestOf v6_86 v2_86 v7_96 M_96) (fun r115 M115 => wrJ M115 40 v7_96 r115 (fun M118 => sp_X11_aimOf_L96 v6_86 v2_86 K125 n96 (v7_96 + 1) M118))) else (K125 M_96)
def sp_X11_aimOf_L86 (r24 : Int32) (K167 : Mm → Option (Int64 × Mm)) : Nat → Int64 → Int32 → Mm → Option (Int64 × Mm)
  | 0, _, _, _ => none
  | n86 + 1, v2_86, v6_86, M_86 => if v6_86 < r24 then (K167 M_86) else (jn (fun (M_125 : Mm) => jn (fun (M_155 : Mm) => bl (v2_86 * (100 : Int64)) (fun y160 => sp_X11_aimOf_L86 r24 K167 n86 y160 (v6_86 + (-1)) M_155)) (fun (K155 : Mm → Option (Int64 × Mm)) => sp_X11_aimOf_L128 K155 fu (0 : Int32) M_125)) (fun (K125 : Mm → Option (Int64 × Mm)) => sp_X11_aimOf_L96 v6_86 v2_86 K125 fu (0 : Int32) M_86))
def sp_X11_aimOf_L56 (p1 : Int32) (t0_51 : Int32) (r24 : Int32) (K80 : Int64 → Option (Int64 × Mm)) : Nat → Int64 → Int32 → Option (Int64 × Mm)
  | 0, _, _ => none
  | n56 + 1, v2_56, v6_56 => if v6_56 < (p1 - (t0_51 - r24)) then (bl (v2_56 * (100 : Int64)) (fun y73 => sp_X11_aimOf_L56 p1 t0_51 r24 K80 n56 y73 (v6_56 + 1))) else (K80 v2_56)
def sp_X11_aimOf_L2 (K21 : Mm → Option (Int64 × Mm)) : Nat → Int32 → Mm → Option (Int64 × Mm)
  | 0, _, _ => none
  | n2 + 1, v2_2, M_2 => if v2_2 < (64 : Int32) then (wrJ M_2 39 v2_2 (0 : Int64) (fun M14 => sp_X11_aimOf_L2 K21 n2 (v2_2 + 1) M14)) else (K21 M_2)
def sp_X11_aimOf (p1 : Int32) (M : Mm) : Option (Int64 × Mm) := jn (fun (M_21 : Mm) => bd (sp_X11_stageNow M_21) (fun r24 M24 => jn (fun (t0_51 : Int32) => jn (fun (v2_80 : Int64) => bl (t0_51 - (1 : Int32)) (fun y84 => jn (fun (M_167 : Mm) => bd (sp_X11_leftBits M_167) (fun r172 M172 => rdJ M172 39 r172 (fun a175 => some (a175, M172)))) (fun (K167 : Mm → Option (Int64 × Mm)) => sp_X11_aimOf_L86 r24 K167 fu v2_80 y84 M24))) (fun (K80 : Int64 → Option (Int64 × Mm)) => sp_X11_aimOf_L56 p1 t0_51 r24 K80 fu (1 : Int64) (0 : Int32))) (fun (K51 : Int32 → Option (Int64 × Mm)) => if (r24 + p1) < (gI M24 32 7) then (K51 (r24 + p1)) else (K51 (gI M24 32 7))))) (fun (K21 : Mm → Option (Int64 × Mm)) => sp_X11_aimOf_L2 K21 fu (0 : Int32) M)
def rm_X11_aimOf : Room := { frames := 4, cells := 0, slots := 0, locals := 103 }
def sp_X11_hundreds_L4 (p0 : Int32) (M : Mm) : Nat → Int64 → Int32 → Option (Int64 × Mm)
  | 0, _, _ => none
  | n4 + 1, v1_4, v3_4 => if v3_4 < p0 then (bl (v1_4 * (100 : Int64)) (fun y14 => sp_X11_hundreds_L4 p0 M n4 y14 (v3_4 + 1))) else (some (v1_4, M))
def sp_X11_hundreds (p0 : Int32) (M : Mm) : Option (Int64 × Mm) := sp_X11_hundreds_L4 p0 M fu (1 : Int64) (0 : Int32)
def rm_X11_hundreds : Room := { frames := 0, cells := 0, slots := 0, locals := 0 }
def sp_X11_aim (p1 : Int32) (p2 : Int32) (M : Mm) : Option (Int64 × Mm) := bd (sp_X11_in (p1.toInt64) (1 : Int64) (4 : Int64) M) (fun r6 M6 => if r6 = 0 then (some ((-102 : Int64), M6)) else (bd (sp_X11_in (p2.toInt64) (0 : Int64) (1 : Int64) M6) (fun r16 M16 => if r16 = 0 then (some ((-102 : Int64), M16)) else (bd (sp_X11_isAiming M16) (fun r27 M27 => if r27 = 0 then (some ((-103 : Int64), M27)) else (bd (sp_X11_aimOf p1 M27) (fun r35 M35 => bd (sp_X11_hundreds p1 M35) (fun r39 M39 => bd (sp_X11_term r35 r39 p2 M39) (fun r43 M43 => some (r43, M43))))))))))
def rm_X11_aim : Room := { frames := 5, cells := 0, slots := 0, locals := 130 }
def sp_X11_layLater_L136 (K163 : Mm → Option (Unit × Mm)) : Nat → Int32 → Mm → Option (Unit × Mm)
  | 0, _, _ => none
  | n136 + 1, v7_136, M_136 => if v7_136 < (64 : Int32) then (rdJ M_136 40 v7_136 (fun a155 => wrJ M_136 39 v7_136 a155 (fun M156 => sp_X11_layLater_L136 K163 n136 (v7_136 + 1) M156))) else (K163 M_136)
def sp_X11_layLater_L104 (v6_94 : Int32) (v2_94 : Int64) (K133 : Mm → Option (Unit × Mm)) : Nat → Int32 → Mm → Option (Unit × Mm)
  | 0, _, _ => none
  | n104 + 1, v7_104, M_104 => if v7_104 < (64 : Int32) then (bd (sp_X11_bestOf v6_94 v2_94 v7_104 M_104) (fun r123 M123 => wrJ M123 40 v7_104 r123 (fun M126 => sp_X11_layLater_L104 v6_94 v2_94 K133 n104 (v7_104 + 1) M126))) else (K133 M_104)
def sp_X11_layLater_L94 (y29 : Int32) : Nat → Int64 → Int32 → Mm → Option (Unit × Mm)
  | 0, _, _, _ => none
  | n94 + 1, v2_94, v6_94, M_94 => if v6_94 < y29 then (some ((), M_94)) else (jn (fun (M_133 : Mm) => jn (fun (M_163 : Mm) => bl (v2_94 * (100 : Int64)) (fun y168 => sp_X11_layLater_L94 y29 n94 y168 (v6_94 + (-1)) M_163)) (fun (K163 : Mm → Option (Unit × Mm)) => sp_X11_layLater_L136 K163 fu (0 : Int32) M_133)) (fun (K133 : Mm → Option (Unit × Mm)) => sp_X11_layLater_L104 v6_94 v2_94 K133 fu (0 : Int32) M_94))
def sp_X11_layLater_L62 (p1 : Int32) (t0_57 : Int32) (y29 : Int32) (K88 : Int64 → Option (Unit × Mm)) : Nat → Int64 → Int32 → Option (Unit × Mm)
  | 0, _, _ => none
  | n62 + 1, v2_62, v6_62 => if v6_62 < ((p1 - (1 : Int32)) - (t0_57 - y29)) then (bl (v2_62 * (100 : Int64)) (fun y81 => sp_X11_layLater_L62 p1 t0_57 y29 K88 n62 y81 (v6_62 + 1))) else (K88 v2_62)
def sp_X11_layLater_L2 (K21 : Mm → Option (Unit × Mm)) : Nat → Int32 → Mm → Option (Unit × Mm)
  | 0, _, _ => none
  | n2 + 1, v2_2, M_2 => if v2_2 < (64 : Int32) then (wrJ M_2 39 v2_2 (0 : Int64) (fun M14 => sp_X11_layLater_L2 K21 n2 (v2_2 + 1) M14)) else (K21 M_2)
def sp_X11_layLater (p1 : Int32) (M : Mm) : Option (Unit × Mm) := jn (fun (M_21 : Mm) => bd (sp_X11_stageNow M_21) (fun r24 M24 => bl (r24 + (1 : Int32)) (fun y29 => bd (sp_X11_stageNow M24) (fun r32 M32 => jn (fun (t0_57 : Int32) (M_57 : Mm) => jn (fun (v2_88 : Int64) => bl (t0_57 - (1 : Int32)) (fun y92 => sp_X11_layLater_L94 y29 fu v2_88 y92 M_57)) (fun (K88 : Int64 → Option (Unit × Mm)) => sp_X11_layLater_L62 p1 t0_57 y29 K88 fu (1 : Int64) (0 : Int32))) (fun (K57 : Int32 → Mm → Option (Unit × Mm)) => if (r32 + p1) < (gI M32 32 7) then (bd (sp_X11_stageNow M32) (fun r45 M45 => K57 (r45 + p1) M45)) else (K57 (gI M32 32 7) M32)))))) (fun (K21 : Mm → Option (Unit × Mm)) => sp_X11_layLater_L2 K21 fu (0 : Int32) M)
def rm_X11_layLater : Room := { frames := 4, cells := 0, slots := 0, locals := 103 }
def sp_X11_which (p1 : Int32) (M : Mm) : Option (Int32 × Mm) := bd (sp_X11_in (p1.toInt64) (1 : Int64) (4 : Int64) M) (fun r6 M6 => if r6 = 0 then (some ((-102 : Int32), M6)) else (bd (sp_X11_isAiming M6) (fun r16 M16 => if r16 = 0 then (some ((-103 : Int32), M16)) else (bd (sp_X11_layLater p1 M16) (fun _ M27 => bd (sp_X11_stageNow M27) (fun r32 M32 => bd (sp_X11_hundreds (p1 - (1 : Int32)) M32) (fun r38 M38 => bd (sp_X11_leftBits M38) (fun r42 M42 => bd (sp_X11_bestOf r32 r38 r42 M42) (fun r45 M45 => if r45 < (0 : Int64) then (some ((-1 : Int32), M45)) else (some (gI M45 32 21, M45)))))))))))
def rm_X11_which : Room := { frames := 5, cells := 0, slots := 0, locals := 130 }
def sp_X11_man (p1 : Int32) (p2 : Int32) (M : Mm) : Option (Int32 × Mm) := bd (sp_X11_in (p1.toInt64) (0 : Int64) (4 : Int64) M) (fun r6 M6 => if r6 = 0 then (some ((-102 : Int32), M6)) else (bd (sp_X11_in (p2.toInt64) (1 : Int64) (30 : Int64) M6) (fun r18 M18 => if r18 = 0 then (some ((-102 : Int32), M18)) else (bd (sp_X11_lacks M18) (fun r28 M28 => if r28 = 0 then (if (gI M28 32 22) = (6 : Int32) then (some ((-104 : Int32), M28)) else (wrI M28 41 ((3 : Int32) * (gI M28 32 22)) p1 (fun M60 => wrI M60 41 (((3 : Int32) * (gI M60 32 22)) + (1 : Int32)) p2 (fun M74 => wrI M74 41 (((3 : Int32) * (gI M74 32 22)) + (2 : Int32)) (-1 : Int32) (fun M88 => wrI M88 42 (gI M88 32 22) (0 : Int32) (fun M98 => bl (sI M98 32 22 ((gI M98 32 22) + (1 : Int32))) (fun M106 => some ((gI M106 32 22) - (1 : Int32), M106)))))))) else (some ((-103 : Int32), M28)))))))
def rm_X11_man : Room := { frames := 1, cells := 0, slots := 0, locals := 25 }
def sp_X11_isMan (p1 : Int32) (M : Mm) : Option (Int32 × Mm) := bd (sp_X11_in (p1.toInt64) (0 : Int64) (((gI M 32 22) - (1 : Int32)).toInt64) M) (fun r10 M10 => zb r10 (some (r10, M10)))
def rm_X11_isMan : Room := { frames := 1, cells := 0, slots := 0, locals := 25 }
def sp_X11_sags (p1 : Int32) (M : Mm) : Option (Int32 × Mm) := rdI M 41 (((3 : Int32) * p1) + (1 : Int32)) (fun a9 => if (gI M 32 13) < ((a9 * (gI M 32 8)) / (50 : Int32)) then (some ((1 : Int32), M)) else (some ((0 : Int32), M)))
def rm_X11_sags : Room := { frames := 0, cells := 0, slots := 0, locals := 0 }
def sp_X11_takes (p1 : Int32) (M : Mm) : Option (Int32 × Mm) := rdI M 41 ((3 : Int32) * p1) (fun a7 => rdI M 41 (((3 : Int32) * p1) + (1 : Int32)) (fun a19 => bl ((2 : Int32) + (a19 / (5 : Int32))) (fun y23 => jn (fun (t0_49 : Int32) => bd (sp_X11_sags p1 M) (fun r52 M52 => if r52 = 0 then (some (t0_49, M52)) else (some (t0_49 + (2 : Int32), M52)))) (fun (K49 : Int32 → Option (Int32 × Mm)) => if a7 = (1 : Int32) then (K49 ((y23 + (1 : Int32)) / (2 : Int32))) else (if a7 = (3 : Int32) then (K49 (y23 + (3 : Int32))) else (K49 y23))))))
def rm_X11_takes : Room := { frames := 1, cells := 0, slots := 0, locals := 21 }
def sp_X11_overBits_L4 (M : Mm) : Nat → Int32 → Int32 → Option (Int32 × Mm)
  | 0, _, _ => none
  | n4 + 1, v1_4, v2_4 => if v2_4 < (gI M 32 22) then (rdI M 41 (((3 : Int32) * v2_4) + (2 : Int32)) (fun a22 => if a22 = (-1 : Int32) then (bl (v1_4 ||| (0 : Int32)) (fun y35 => sp_X11_overBits_L4 M n4 y35 (v2_4 + 1))) else (bl (v1_4 ||| ((1 : Int32) <<< (v2_4 &&& 31))) (fun y35 => sp_X11_overBits_L4 M n4 y35 (v2_4 + 1))))) else (some (v1_4, M))
def sp_X11_overBits (M : Mm) : Option (Int32 × Mm) := sp_X11_overBits_L4 M fu (0 : Int32) (0 : Int32)
def rm_X11_overBits : Room := { frames := 0, cells := 0, slots := 0, locals := 0 }
def sp_X11_canCome_L30 (M : Mm) (p1 : Int32) (p2 : Int32) : Nat → Int32 → Int32 → Option (Int32 × Mm)
  | 0, _, _ => none
  | n30 + 1, v3_30, v4_30 => if v4_30 < (gI M 32 22) then (if v3_30 = 0 then (sp_X11_canCome_L30 M p1 p2 n30 (0 : Int32) (v4_30 + 1)) else (rdI M 41 ((3 : Int32) * p1) (fun a50 => jn (sp_X11_canCome_L30 M p1 p2 n30 (1 : Int32) (v4_30 + 1)) (fun (K78 : Option (Int32 × Mm)) => if a50 = (4 : Int32) then (rdI M 41 ((3 : Int32) * v4_30) (fun a63 => if a63 = (4 : Int32) then (K78) else (if ((p2 >>> (v4_30 &&& 31)) &&& (1 : Int32)) = (1 : Int32) then (K78) else (sp_X11_canCome_L30 M p1 p2 n30 (0 : Int32) (v4_30 + 1))))) else (K78))))) else (zb v3_30 (some (v3_30, M)))
def sp_X11_canCome (p1 : Int32) (p2 : Int32) (M : Mm) : Option (Int32 × Mm) := jn (fun (t0_26 : Int32) => sp_X11_canCome_L30 M p1 p2 fu t0_26 (0 : Int32)) (fun (K26 : Int32 → Option (Int32 × Mm)) => if ((p2 >>> (p1 &&& 31)) &&& (1 : Int32)) = 0 then (rdI M 42 p1 (fun a13 => if (a13 &&& (p2 ^^^ (-1 : Int32))) = 0 then (K26 (1 : Int32)) else (K26 (0 : Int32)))) else (K26 (0 : Int32)))
def rm_X11_canCome : Room := { frames := 0, cells := 0, slots := 0, locals := 0 }
def sp_X11_mayCome (p1 : Int32) (M : Mm) : Option (Int32 × Mm) := if (gI M 32 11) = (1 : Int32) then (if (gI M 32 12) = 0 then (bd (sp_X11_overBits M) (fun r18 M18 => bd (sp_X11_canCome p1 r18 M18) (fun r21 M21 => if r21 = 0 then (some ((0 : Int32), M21)) else (bd (sp_X11_takes p1 M21) (fun r33 M33 => if ((gI M21 32 10) + r33) < ((5 : Int32) * (gI M33 32 7)) then (some ((1 : Int32), M33)) else (some ((0 : Int32), M33))))))) else (some ((0 : Int32), M))) else (some ((0 : Int32), M))
def rm_X11_mayCome : Room := { frames := 2, cells := 0, slots := 0, locals := 44 }
def sp_X11_tellMan (p1 : Int32) (p2 : Int32) (M : Mm) : Option (Int32 × Mm) := if p2 = 0 then (rdI M 41 (((3 : Int32) * p1) + p2) (fun a53 => some (a53, M))) else (if p2 = 1 then (rdI M 41 (((3 : Int32) * p1) + p2) (fun a53 => some (a53, M))) else (if p2 = 2 then (bd (sp_X11_takes p1 M) (fun r57 M57 => some (r57, M57))) else (if p2 = 3 then (bd (sp_X11_sags p1 M) (fun r63 M63 => if r63 = 0 then (some ((0 : Int32), M63)) else (some ((1 : Int32), M63)))) else (if p2 = 4 then (rdI M 41 (((3 : Int32) * p1) + (2 : Int32)) (fun a84 => if a84 = (-1 : Int32) then (some ((0 : Int32), M)) else (some ((1 : Int32), M)))) else (if p2 = 5 then (rdI M 41 (((3 : Int32) * p1) + (2 : Int32)) (fun a104 => some (a104, M))) else (if p2 = 6 then (bd (sp_X11_mayCome p1 M) (fun r108 M108 => if r108 = 0 then (some ((0 : Int32), M108)) else (some ((1 : Int32), M108)))) else (some ((-102 : Int32), M))))))))
def rm_X11_tellMan : Room := { frames := 3, cells := 0, slots := 0, locals := 65 }
def sp_X11_about (p1 : Int32) (p2 : Int32) (M : Mm) : Option (Int32 × Mm) := bd (sp_X11_isMan p1 M) (fun r2 M2 => if r2 = 0 then (some ((-101 : Int32), M2)) else (bd (sp_X11_tellMan p1 p2 M2) (fun r11 M11 => some (r11, M11))))
def rm_X11_about : Room := { frames := 4, cells := 0, slots := 0, locals := 87 }
def sp_X11_as (p1 : Int32) (p2 : Int32) (M : Mm) : Option (Int32 × Mm) := bd (sp_X11_isMan p1 M) (fun r2 M2 => if r2 = 0 then (some ((-101 : Int32), M2)) else (bd (sp_X11_in (p2.toInt64) (0 : Int64) (4 : Int64) M2) (fun r17 M17 => if r17 = 0 then (some ((-102 : Int32), M17)) else (rdI M17 41 ((3 : Int32) * p1) (fun a33 => jn (fun (t0_59 : Int32) => if t0_59 = 0 then (some ((-1 : Int32), M17)) else (some (p1, M17))) (fun (K59 : Int32 → Option (Int32 × Mm)) => if p2 = 0 then (K59 (1 : Int32)) else (if p2 = a33 then (K59 (1 : Int32)) else (if p2 = (2 : Int32) then (if a33 = (4 : Int32) then (K59 (1 : Int32)) else (K59 (0 : Int32))) else (K59 (0 : Int32))))))))))
def rm_X11_as : Room := { frames := 2, cells := 0, slots := 0, locals := 46 }
def sp_X11_behind (p1 : Int32) (p2 : Int32) (p3 : Int32) (M : Mm) : Option (Int32 × Mm) := bd (sp_X11_isMan p1 M) (fun r2 M2 => if r2 = 0 then (some ((-101 : Int32), M2)) else (bd (sp_X11_isMan p2 M2) (fun r10 M10 => if r10 = 0 then (some ((-101 : Int32), M10)) else (if p1 = p2 then (some ((-101 : Int32), M10)) else (rdI M10 42 p1 (fun a29 => bl ((a29 >>> (p2 &&& 31)) &&& (1 : Int32)) (fun y34 => if p3 = 0 then (rdI M10 42 p1 (fun a63 => wrI M10 42 p1 (a63 &&& (((1 : Int32) <<< (p2 &&& 31)) ^^^ (-1 : Int32))) (fun M70 => some (y34, M70)))) else (rdI M10 42 p1 (fun a50 => wrI M10 42 p1 (a50 ||| ((1 : Int32) <<< (p2 &&& 31))) (fun M70 => some (y34, M70)))))))))))
def rm_X11_behind : Room := { frames := 2, cells := 0, slots := 0, locals := 46 }
def sp_X11_hawser (p1 : Int32) (M : Mm) : Option (Int32 × Mm) := bd (sp_X11_in (p1.toInt64) (0 : Int64) (60 : Int64) M) (fun r6 M6 => if r6 = 0 then (some ((-102 : Int32), M6)) else (bd (sp_X11_lacks M6) (fun r16 M16 => if r16 = 0 then (bl (gI M16 32 13) (fun y29 => bl (sI M16 32 13 p1) (fun M32 => some (y29, M32)))) else (some ((-103 : Int32), M16)))))
def rm_X11_hawser : Room := { frames := 1, cells := 0, slots := 0, locals := 25 }
def sp_X11_come (p1 : Int32) (M : Mm) : Option (Int32 × Mm) := bd (sp_X11_isMan p1 M) (fun r2 M2 => if r2 = 0 then (some ((-101 : Int32), M2)) else (bd (sp_X11_mayCome p1 M2) (fun r13 M13 => if r13 = 0 then (some ((-103 : Int32), M13)) else (bd (sp_X11_takes p1 M13) (fun r29 M29 => bl (sI M29 32 10 ((gI M13 32 10) + r29)) (fun M33 => wrI M33 41 (((3 : Int32) * p1) + (2 : Int32)) (gI M33 32 10) (fun M49 => some (gI M49 32 10, M49))))))))
def rm_X11_come : Room := { frames := 3, cells := 0, slots := 0, locals := 65 }
def sp_X11_minutes (p1 : Int32) (M : Mm) : Option (Int32 × Mm) := bd (sp_X11_in (p1.toInt64) (1 : Int64) (50 : Int64) M) (fun r6 M6 => if r6 = 0 then (some ((-102 : Int32), M6)) else (bd (sp_X11_lacks M6) (fun r16 M16 => if r16 = 0 then (if (gI M16 32 12) = (1 : Int32) then (some ((-103 : Int32), M16)) else (if ((gI M16 32 10) + p1) < ((5 : Int32) * (gI M16 32 7)) then (bl (sI M16 32 10 ((gI M16 32 10) + p1)) (fun M55 => some (gI M55 32 10, M55))) else (some ((-103 : Int32), M16)))) else (some ((-103 : Int32), M16)))))
def rm_X11_minutes : Room := { frames := 1, cells := 0, slots := 0, locals := 25 }
def sp_X11_ones_L4 (p0 : Int32) (M : Mm) : Nat → Int32 → Int32 → Option (Int32 × Mm)
  | 0, _, _ => none
  | n4 + 1, v1_4, v2_4 => if v2_4 < (6 : Int32) then (bl (v1_4 + ((p0 >>> (v2_4 &&& 31)) &&& (1 : Int32))) (fun y17 => sp_X11_ones_L4 p0 M n4 y17 (v2_4 + 1))) else (some (v1_4, M))
def sp_X11_ones (p0 : Int32) (M : Mm) : Option (Int32 × Mm) := sp_X11_ones_L4 p0 M fu (0 : Int32) (0 : Int32)
def rm_X11_ones : Room := { frames := 0, cells := 0, slots := 0, locals := 0 }
def sp_X11_breaks (M : Mm) : Option (Int32 × Mm) := bd (sp_X11_lacks M) (fun r1 M1 => if r1 = 0 then (if (gI M1 32 12) = (1 : Int32) then (some ((-103 : Int32), M1)) else (bl (sI M1 32 12 (1 : Int32)) (fun M20 => bd (sp_X11_overBits M20) (fun r28 M28 => bd (sp_X11_ones r28 M28) (fun r31 M31 => some ((gI M20 32 22) - r31, M31)))))) else (some ((-103 : Int32), M1)))
def rm_X11_breaks : Room := { frames := 1, cells := 0, slots := 0, locals := 22 }
def sp_X11_firstOrder_L7 (p1 : Int32) : Nat → Int32 → Mm → Option (Unit × Mm)
  | 0, _, _ => none
  | n7 + 1, v2_7, M_7 => if v2_7 < (gI M_7 32 22) then (if ((p1 >>> (v2_7 &&& 31)) &&& (1 : Int32)) = (1 : Int32) then (wrI M_7 43 (gI M_7 32 28) v2_7 (fun M33 => bl (sI M33 32 28 ((gI M33 32 28) + (1 : Int32))) (fun M41 => sp_X11_firstOrder_L7 p1 n7 (v2_7 + 1) M41))) else (sp_X11_firstOrder_L7 p1 n7 (v2_7 + 1) M_7)) else (some ((), M_7))
def sp_X11_firstOrder (p1 : Int32) (M : Mm) : Option (Unit × Mm) := bl (sI M 32 28 (0 : Int32)) (fun M2 => sp_X11_firstOrder_L7 p1 fu (0 : Int32) M2)
def rm_X11_firstOrder : Room := { frames := 0, cells := 0, slots := 0, locals := 0 }
def sp_X11_holds_L10 (M5 : Mm) (p1 : Int32) : Nat → Int64 → Int32 → Option (Int64 × Mm)
  | 0, _, _ => none
  | n10 + 1, v2_10, v4_10 => if v4_10 < (gI M5 32 7) then (if p1 < (((5 : Int32) * v4_10) + (5 : Int32)) then (sp_X11_holds_L10 M5 p1 n10 v2_10 (v4_10 + 1)) else (if v4_10 = ((gI M5 32 7) - (1 : Int32)) then (sp_X11_holds_L10 M5 p1 n10 (0 : Int64) (v4_10 + 1)) else (rdI M5 37 v4_10 (fun a58 => bl ((v2_10 / (10 : Int64)) * ((10 : Int64) - (a58.toInt64))) (fun y62 => sp_X11_holds_L10 M5 p1 n10 y62 (v4_10 + 1)))))) else (some (v2_10, M5))
def sp_X11_holds (p1 : Int32) (M : Mm) : Option (Int64 × Mm) := bd (sp_X11_stageNow M) (fun r5 M5 => sp_X11_holds_L10 M5 p1 fu (10000000000 : Int64) r5)
def rm_X11_holds : Room := { frames := 1, cells := 0, slots := 0, locals := 20 }
def sp_X11_meanOf_L15 : Nat → Int32 → Int32 → Int64 → Int32 → Mm → Option (Int64 × Mm)
  | 0, _, _, _, _, _ => none
  | n15 + 1, v1_15, v2_15, v3_15, v5_15, M_15 => if v5_15 < (gI M_15 32 28) then (rdI M_15 43 v5_15 (fun a31 => bd (sp_X11_canCome a31 v1_15 M_15) (fun r33 M33 => if r33 = 0 then (some ((-1 : Int64), M33)) else (rdI M33 43 v5_15 (fun a51 => bl (v1_15 ||| ((1 : Int32) <<< (a51 &&& 31))) (fun y54 => rdI M33 43 v5_15 (fun a63 => bd (sp_X11_takes a63 M33) (fun r64 M64 => bl (v2_15 + r64) (fun y68 => bd (sp_X11_holds y68 M64) (fun r72 M72 => bl (v3_15 + r72) (fun y76 => sp_X11_meanOf_L15 n15 y54 y68 y76 (v5_15 + 1) M72))))))))))) else (some (v3_15, M_15))
def sp_X11_meanOf (M : Mm) : Option (Int64 × Mm) := bd (sp_X11_overBits M) (fun r1 M1 => bl (gI M1 32 10) (fun y9 => sp_X11_meanOf_L15 fu r1 y9 (0 : Int64) (0 : Int32) M1))
def rm_X11_meanOf : Room := { frames := 2, cells := 0, slots := 0, locals := 44 }
def sp_X11_nextOrder_L107 : Nat → Int32 → Int32 → Mm → Option (Int32 × Mm)
  | 0, _, _, _ => none
  | n107 + 1, v4_107, v5_107, M_107 => if v5_107 < v4_107 then (rdI M_107 43 v5_107 (fun a120 => rdI M_107 43 v4_107 (fun a134 => wrI M_107 43 v5_107 a134 (fun M135 => wrI M135 43 v4_107 a120 (fun M143 => sp_X11_nextOrder_L107 n107 (v4_107 + (-1)) (v5_107 + 1) M143))))) else (some ((1 : Int32), M_107))
def sp_X11_nextOrder_L47 (M : Mm) (v1_34 : Int32) (K68 : Int32 → Option (Int32 × Mm)) : Nat → Int32 → Option (Int32 × Mm)
  | 0, _ => none
  | n47 + 1, v2_47 => rdI M 43 v2_47 (fun a52 => rdI M 43 v1_34 (fun a58 => if a52 < a58 then (sp_X11_nextOrder_L47 M v1_34 K68 n47 (v2_47 + (-1))) else (K68 v2_47)))
def sp_X11_nextOrder_L7 (K34 : Int32 → Option (Int32 × Mm)) (M : Mm) : Nat → Int32 → Option (Int32 × Mm)
  | 0, _ => none
  | n7 + 1, v1_7 => if v1_7 < 0 then (K34 v1_7) else (rdI M 43 v1_7 (fun a16 => rdI M 43 (v1_7 + (1 : Int32)) (fun a24 => if a24 < a16 then (sp_X11_nextOrder_L7 K34 M n7 (v1_7 + (-1))) else (K34 v1_7))))
def sp_X11_nextOrder (M : Mm) : Option (Int32 × Mm) := bl ((gI M 32 28) - (2 : Int32)) (fun y6 => jn (fun (v1_34 : Int32) => if v1_34 < 0 then (some ((0 : Int32), M)) else (bl ((gI M 32 28) - (1 : Int32)) (fun y46 => jn (fun (v2_68 : Int32) => rdI M 43 v1_34 (fun a73 => rdI M 43 v2_68 (fun a85 => wrI M 43 v1_34 a85 (fun M86 => wrI M86 43 v2_68 a73 (fun M93 => bl ((gI M93 32 28) - (1 : Int32)) (fun y100 => bl (v1_34 + (1 : Int32)) (fun y105 => sp_X11_nextOrder_L107 fu y100 y105 M93))))))) (fun (K68 : Int32 → Option (Int32 × Mm)) => sp_X11_nextOrder_L47 M v1_34 K68 fu y46)))) (fun (K34 : Int32 → Option (Int32 × Mm)) => sp_X11_nextOrder_L7 K34 M fu y6))
def rm_X11_nextOrder : Room := { frames := 0, cells := 0, slots := 0, locals := 0 }
def sp_X11_order_L116 (K145 : Int64 → Mm → Option (Int64 × Mm)) (r98 : Int64) : Nat → Int32 → Mm → Option (Int64 × Mm)
  | 0, _, _ => none
  | n116 + 1, v7_116, M_116 => if v7_116 < (gI M_116 32 28) then (rdI M_116 43 v7_116 (fun a137 => wrI M_116 44 v7_116 a137 (fun M138 => sp_X11_order_L116 K145 r98 n116 (v7_116 + 1) M138))) else (K145 r98 M_116)
def sp_X11_order_L92 (K154 : Int64 → Mm → Option (Int64 × Mm)) : Nat → Int64 → Int32 → Mm → Option (Int64 × Mm)
  | 0, _, _, _ => none
  | n92 + 1, v2_92, v4_92, M_92 => if v4_92 = 0 then (K154 v2_92 M_92) else (bd (sp_X11_meanOf M_92) (fun r98 M98 => jn (fun (v2_145 : Int64) (M_145 : Mm) => bd (sp_X11_nextOrder M_145) (fun r146 M146 => sp_X11_order_L92 K154 n92 v2_145 r146 M146)) (fun (K145 : Int64 → Mm → Option (Int64 × Mm)) => if v2_92 < r98 then (sp_X11_order_L116 K145 r98 fu (0 : Int32) M98) else (K145 v2_92 M98))))
def sp_X11_order (p1 : Int32) (M : Mm) : Option (Int64 × Mm) := bd (sp_X11_in (p1.toInt64) (0 : Int64) (1 : Int64) M) (fun r4 M4 => jn (fun (M_28 : Mm) => bd (sp_X11_lacks M_28) (fun r29 M29 => if r29 = 0 then (if (gI M29 32 12) = (1 : Int32) then (some ((-103 : Int64), M29)) else (if (gI M29 32 25) = (30 : Int32) then (some ((-103 : Int64), M29)) else (bl (sI M29 32 25 ((gI M29 32 25) + (1 : Int32))) (fun M63 => bd (sp_X11_overBits M63) (fun r76 M76 => bd (sp_X11_firstOrder ((((1 : Int32) <<< ((gI M63 32 22) &&& 31)) - (1 : Int32)) &&& (r76 ^^^ (-1 : Int32))) M76) (fun _ M82 => jn (fun (v2_154 : Int64) (M_154 : Mm) => if v2_154 = (-1 : Int64) then (if p1 = (1 : Int32) then (some ((1 : Int64), M_154)) else (some ((-1 : Int64), M_154))) else (if p1 < (2 : Int32) then (bd (sp_X11_term v2_154 (10000000000 : Int64) p1 M_154) (fun r185 M185 => some (r185, M185))) else (if (p1 - (10 : Int32)) < (gI M_154 32 28) then (rdI M_154 44 (p1 - (10 : Int32)) (fun a208 => some (a208.toInt64, M_154))) else (some ((-1 : Int64), M_154))))) (fun (K154 : Int64 → Mm → Option (Int64 × Mm)) => sp_X11_order_L92 K154 fu (-1 : Int64) (1 : Int32) M82))))))) else (some ((-103 : Int64), M29)))) (fun (K28 : Mm → Option (Int64 × Mm)) => if r4 = 0 then (bd (sp_X11_in (p1.toInt64) (10 : Int64) (15 : Int64) M4) (fun r18 M18 => if r18 = 0 then (some ((-102 : Int64), M18)) else (K28 M18))) else (K28 M4)))
def rm_X11_order : Room := { frames := 3, cells := 0, slots := 0, locals := 69 }
def sp_X11_said (p1 : Int32) (p2 : Int32) (M : Mm) : Option (Int32 × Mm) := bd (sp_X11_isMan p1 M) (fun r2 M2 => if r2 = 0 then (some ((-101 : Int32), M2)) else (bd (sp_X11_isMan p2 M2) (fun r10 M10 => if r10 = 0 then (some ((-101 : Int32), M10)) else (if p1 = p2 then (some ((-101 : Int32), M10)) else (if (gI M10 32 29) = (15 : Int32) then (some ((-104 : Int32), M10)) else (wrI M10 45 ((2 : Int32) * (gI M10 32 29)) p1 (fun M47 => wrI M47 45 (((2 : Int32) * (gI M47 32 29)) + (1 : Int32)) p2 (fun M61 => bl (sI M61 32 29 ((gI M61 32 29) + (1 : Int32))) (fun M69 => some (gI M69 32 29, M69))))))))))
def rm_X11_said : Room := { frames := 2, cells := 0, slots := 0, locals := 46 }
def sp_X11_placeOf_L4 (M : Mm) (p1 : Int32) : Nat → Int32 → Int32 → Option (Int32 × Mm)
  | 0, _, _ => none
  | n4 + 1, v2_4, v3_4 => if v3_4 < (gI M 32 28) then (rdI M 43 v3_4 (fun a17 => if a17 = p1 then (sp_X11_placeOf_L4 M p1 n4 v3_4 (v3_4 + 1)) else (sp_X11_placeOf_L4 M p1 n4 v2_4 (v3_4 + 1)))) else (some (v2_4, M))
def sp_X11_placeOf (p1 : Int32) (M : Mm) : Option (Int32 × Mm) := sp_X11_placeOf_L4 M p1 fu (-1 : Int32) (0 : Int32)
def rm_X11_placeOf : Room := { frames := 0, cells := 0, slots := 0, locals := 0 }
def sp_X11_isSaidSo_L59 : Nat → Int32 → Int32 → Mm → Option (Int32 × Mm)
  | 0, _, _, _ => none
  | n59 + 1, v1_59, v2_59, M_59 => if v2_59 < (36 : Int32) then (bl (v2_59 / (6 : Int32)) (fun y69 => bl (v2_59 - v2_59 / (6 : Int32) * (6 : Int32)) (fun y74 => jn (fun (t0_138 : Int32) => if v1_59 = 0 then (sp_X11_isSaidSo_L59 n59 (0 : Int32) (v2_59 + 1) M_59) else (jn (fun (M_163 : Mm) => sp_X11_isSaidSo_L59 n59 (1 : Int32) (v2_59 + 1) M_163) (fun (K163 : Mm → Option (Int32 × Mm)) => if t0_138 = 0 then (K163 M_59) else (bd (sp_X11_placeOf y74 M_59) (fun r152 M152 => bd (sp_X11_placeOf y69 M152) (fun r157 M157 => if r152 < r157 then (K163 M157) else (sp_X11_isSaidSo_L59 n59 (0 : Int32) (v2_59 + 1) M157))))))) (fun (K138 : Int32 → Option (Int32 × Mm)) => if y69 < (gI M_59 32 22) then (if y74 < (gI M_59 32 22) then (rdI M_59 42 y69 (fun a98 => if ((a98 >>> (y74 &&& 31)) &&& (1 : Int32)) = (1 : Int32) then (K138 (1 : Int32)) else (rdI M_59 41 ((3 : Int32) * y69) (fun a115 => if a115 = (4 : Int32) then (rdI M_59 41 ((3 : Int32) * y74) (fun a128 => if a128 = (4 : Int32) then (K138 (0 : Int32)) else (K138 (1 : Int32)))) else (K138 (0 : Int32)))))) else (K138 (0 : Int32))) else (K138 (0 : Int32)))))) else (zb v1_59 (some (v1_59, M_59)))
def sp_X11_isSaidSo_L4 (K57 : Int32 → Mm → Option (Int32 × Mm)) : Nat → Int32 → Int32 → Mm → Option (Int32 × Mm)
  | 0, _, _, _ => none
  | n4 + 1, v1_4, v2_4, M_4 => if v2_4 < (gI M_4 32 29) then (if v1_4 = 0 then (sp_X11_isSaidSo_L4 K57 n4 (0 : Int32) (v2_4 + 1) M_4) else (rdI M_4 45 ((2 : Int32) * v2_4) (fun a24 => bd (sp_X11_placeOf a24 M_4) (fun r25 M25 => rdI M25 45 (((2 : Int32) * v2_4) + (1 : Int32)) (fun a38 => bd (sp_X11_placeOf a38 M25) (fun r39 M39 => if r25 < r39 then (sp_X11_isSaidSo_L4 K57 n4 (1 : Int32) (v2_4 + 1) M39) else (sp_X11_isSaidSo_L4 K57 n4 (0 : Int32) (v2_4 + 1) M39))))))) else (K57 v1_4 M_4)
def sp_X11_isSaidSo (M : Mm) : Option (Int32 × Mm) := jn (fun (v1_57 : Int32) (M_57 : Mm) => sp_X11_isSaidSo_L59 fu v1_57 (0 : Int32) M_57) (fun (K57 : Int32 → Mm → Option (Int32 × Mm)) => sp_X11_isSaidSo_L4 K57 fu (1 : Int32) (0 : Int32) M)
def rm_X11_isSaidSo : Room := { frames := 1, cells := 0, slots := 0, locals := 23 }
def sp_X11_layOrders_L53 (K84 : Int32 → Mm → Option (Int32 × Mm)) (v1_37 : Int32) : Nat → Int32 → Mm → Option (Int32 × Mm)
  | 0, _, _ => none
  | n53 + 1, v3_53, M_53 => if v3_53 < (gI M_53 32 28) then (rdI M_53 43 v3_53 (fun a70 => rdI M_53 46 a70 (fun a72 => wrI M_53 46 a70 (a72 ||| ((1 : Int32) <<< (v3_53 &&& 31))) (fun M77 => sp_X11_layOrders_L53 K84 v1_37 n53 (v3_53 + 1) M77)))) else (K84 (v1_37 + 1) M_53)
def sp_X11_layOrders_L37 : Nat → Int32 → Int32 → Mm → Option (Int32 × Mm)
  | 0, _, _, _ => none
  | n37 + 1, v1_37, v2_37, M_37 => if v2_37 = 0 then (some (v1_37, M_37)) else (bd (sp_X11_isSaidSo M_37) (fun r42 M42 => jn (fun (v1_84 : Int32) (M_84 : Mm) => bd (sp_X11_nextOrder M_84) (fun r85 M85 => sp_X11_layOrders_L37 n37 v1_84 r85 M85)) (fun (K84 : Int32 → Mm → Option (Int32 × Mm)) => if r42 = 0 then (K84 v1_37 M42) else (sp_X11_layOrders_L53 K84 v1_37 fu (0 : Int32) M42))))
def sp_X11_layOrders_L2 (K21 : Mm → Option (Int32 × Mm)) : Nat → Int32 → Mm → Option (Int32 × Mm)
  | 0, _, _ => none
  | n2 + 1, v1_2, M_2 => if v1_2 < (6 : Int32) then (wrI M_2 46 v1_2 (0 : Int32) (fun M14 => sp_X11_layOrders_L2 K21 n2 (v1_2 + 1) M14)) else (K21 M_2)
def sp_X11_layOrders (M : Mm) : Option (Int32 × Mm) := jn (fun (M_21 : Mm) => bd (sp_X11_firstOrder (((1 : Int32) <<< ((gI M_21 32 22) &&& 31)) - (1 : Int32)) M_21) (fun _ M30 => sp_X11_layOrders_L37 fu (0 : Int32) (1 : Int32) M30)) (fun (K21 : Mm → Option (Int32 × Mm)) => sp_X11_layOrders_L2 K21 fu (0 : Int32) M)
def rm_X11_layOrders : Room := { frames := 2, cells := 0, slots := 0, locals := 48 }
def sp_X11_orders (M : Mm) : Option (Int32 × Mm) := bd (sp_X11_layOrders M) (fun r1 M1 => some (r1, M1))
def rm_X11_orders : Room := { frames := 3, cells := 0, slots := 0, locals := 71 }
def sp_X11_sure_L18 (M12 : Mm) (p1 : Int32) : Nat → Int32 → Option (Int32 × Mm)
  | 0, _ => none
  | n18 + 1, v3_18 => if v3_18 < (6 : Int32) then (rdI M12 46 p1 (fun a29 => if a29 = ((1 : Int32) <<< (v3_18 &&& 31)) then (some (v3_18, M12)) else (sp_X11_sure_L18 M12 p1 n18 (v3_18 + 1)))) else (some ((-1 : Int32), M12))
def sp_X11_sure (p1 : Int32) (M : Mm) : Option (Int32 × Mm) := bd (sp_X11_isMan p1 M) (fun r2 M2 => if r2 = 0 then (some ((-101 : Int32), M2)) else (bd (sp_X11_layOrders M2) (fun r12 M12 => sp_X11_sure_L18 M12 p1 fu (0 : Int32))))
def rm_X11_sure : Room := { frames := 3, cells := 0, slots := 0, locals := 71 }
def sp_X11_wreck (p1 : Int32) (M : Mm) : Option (Int32 × Mm) := bd (sp_X11_in (p1.toInt64) (0 : Int64) (99 : Int64) M) (fun r6 M6 => if r6 = 0 then (some ((-102 : Int32), M6)) else (bd (sp_X11_lacks M6) (fun r16 M16 => if r16 = 0 then (if (gI M16 32 32) = (8 : Int32) then (some ((-104 : Int32), M16)) else (wrI M16 47 (gI M16 32 32) p1 (fun M46 => bl (sI M46 32 32 ((gI M46 32 32) + (1 : Int32))) (fun M54 => some (gI M54 32 32, M54))))) else (some ((-103 : Int32), M16)))))
def rm_X11_wreck : Room := { frames := 1, cells := 0, slots := 0, locals := 25 }
def sp_X11_stationsOf_L24 (M : Mm) (v6_11 : Int32) (K63 : Int32 → Option (Int32 × Mm)) : Nat → Int32 → Int32 → Option (Int32 × Mm)
  | 0, _, _ => none
  | n24 + 1, v7_24, v8_24 => if v8_24 < (gI M 32 32) then (jn (sp_X11_stationsOf_L24 M v6_11 K63 n24 (1 : Int32) (v8_24 + 1)) (fun (K50 : Option (Int32 × Mm)) => if v7_24 = 0 then (rdI M 47 v8_24 (fun a44 => if a44 = v6_11 then (K50) else (sp_X11_stationsOf_L24 M v6_11 K63 n24 (0 : Int32) (v8_24 + 1)))) else (K50))) else (K63 v7_24)
def sp_X11_stationsOf_L11 (p1 : Int32) (M : Mm) (K123 : Int32 → Int32 → Option (Int32 × Mm)) : Nat → Int32 → Int32 → Int32 → Int32 → Option (Int32 × Mm)
  | 0, _, _, _, _ => none
  | n11 + 1, v3_11, v4_11, v5_11, v6_11 => if v6_11 < (100 : Int32) then (jn (fun (v7_63 : Int32) => if v7_63 = 0 then (sp_X11_stationsOf_L11 p1 M K123 n11 v3_11 v4_11 v5_11 (v6_11 + 1)) else (if v5_11 < v6_11 then (jn (fun (t0_93 : Int32) => jn (fun (t0_106 : Int32) => bl (t0_93 + p1) (fun y115 => sp_X11_stationsOf_L11 p1 M K123 n11 (v3_11 + 1) t0_106 y115 (v6_11 + 1))) (fun (K106 : Int32 → Option (Int32 × Mm)) => if v3_11 = 0 then (K106 t0_93) else (K106 v4_11))) (fun (K93 : Int32 → Option (Int32 × Mm)) => if (99 : Int32) < (v6_11 + p1) then (K93 (99 : Int32)) else (K93 (v6_11 + p1)))) else (sp_X11_stationsOf_L11 p1 M K123 n11 v3_11 v4_11 v5_11 (v6_11 + 1)))) (fun (K63 : Int32 → Option (Int32 × Mm)) => sp_X11_stationsOf_L24 M v6_11 K63 fu (0 : Int32) (0 : Int32))) else (K123 v3_11 v4_11)
def sp_X11_stationsOf (p1 : Int32) (p2 : Int32) (M : Mm) : Option (Int32 × Mm) := jn (fun (v3_123 : Int32) (v4_123 : Int32) => if p2 = 0 then (some (v3_123, M)) else (some (v4_123, M))) (fun (K123 : Int32 → Int32 → Option (Int32 × Mm)) => sp_X11_stationsOf_L11 p1 M K123 fu (0 : Int32) (-1 : Int32) (-1 : Int32) (0 : Int32))
def rm_X11_stationsOf : Room := { frames := 0, cells := 0, slots := 0, locals := 0 }
def sp_X11_stations (p1 : Int32) (p2 : Int32) (M : Mm) : Option (Int32 × Mm) := bd (sp_X11_in (p1.toInt64) (0 : Int64) (50 : Int64) M) (fun r6 M6 => if r6 = 0 then (some ((-102 : Int32), M6)) else (bd (sp_X11_in (p2.toInt64) (0 : Int64) (1 : Int64) M6) (fun r16 M16 => if r16 = 0 then (some ((-102 : Int32), M16)) else (bd (sp_X11_stationsOf p1 p2 M16) (fun r25 M25 => some (r25, M25))))))
def rm_X11_stations : Room := { frames := 1, cells := 0, slots := 0, locals := 28 }
def sp_X11_draw (p1 : Int32) (M : Mm) : Option (Int32 × Mm) := bl (sI M 32 34 (((((1103515245 : Int64) * ((gI M 32 34).toInt64)) + (12345 : Int64)) &&& (2147483647 : Int64)).toInt32)) (fun M19 => nzI p1 (some (((gI M19 32 34) / (65536 : Int32)) - ((gI M19 32 34) / (65536 : Int32)) / p1 * p1, M19)))
def rm_X11_draw : Room := { frames := 0, cells := 0, slots := 0, locals := 0 }
def sp_X11_nights_L93 (v4_76 : Int32) (K109 : Int32 → Option (Int32 × Mm)) : Nat → Int32 → Option (Int32 × Mm)
  | 0, _ => none
  | n93 + 1, v8_93 => if ((v4_76 >>> (v8_93 &&& 31)) &&& (1 : Int32)) = 0 then (sp_X11_nights_L93 v4_76 K109 n93 (v8_93 + 1)) else (K109 v8_93)
def sp_X11_nights_L76 (K242 : Int32 → Int32 → Int32 → Mm → Option (Int32 × Mm)) : Nat → Int32 → Int32 → Int32 → Int32 → Int32 → Mm → Option (Int32 × Mm)
  | 0, _, _, _, _, _, _ => none
  | n76 + 1, v3_76, v4_76, v5_76, v6_76, v7_76, M_76 => if v3_76 = 0 then (if v4_76 = 0 then (K242 v3_76 v5_76 v6_76 M_76) else (if v6_76 = 0 then (jn (fun (v8_109 : Int32) => bl (v4_76 &&& (((1 : Int32) <<< (v8_109 &&& 31)) ^^^ (-1 : Int32))) (fun y118 => bd (sp_X11_draw (10 : Int32) M_76) (fun r126 M126 => rdI M126 36 (0 : Int32) (fun a138 => jn (fun (t0_169 : Int32) => bd (sp_X11_fallsAt v8_109 v7_76 t0_169 M126) (fun r179 M179 => bd (sp_X11_isRight r179 M179) (fun r182 M182 => jn (fun (t0_193 : Int32) => if t0_193 = 0 then (bd (sp_X11_draw (10 : Int32) M182) (fun r201 M201 => rdI M201 37 v7_76 (fun a214 => jn (sp_X11_nights_L76 K242 n76 t0_193 y118 (v5_76 + 1) (1 : Int32) (v7_76 + 1) M201) (fun (K229 : Option (Int32 × Mm)) => if r201 < a214 then (K229) else (if v7_76 = ((gI M201 32 7) - (1 : Int32)) then (K229) else (sp_X11_nights_L76 K242 n76 t0_193 y118 (v5_76 + 1) (0 : Int32) (v7_76 + 1) M201)))))) else (sp_X11_nights_L76 K242 n76 t0_193 y118 (v5_76 + 1) v6_76 v7_76 M182)) (fun (K193 : Int32 → Option (Int32 × Mm)) => if r182 = 0 then (K193 (0 : Int32)) else (K193 (1 : Int32)))))) (fun (K169 : Int32 → Option (Int32 × Mm)) => if r126 < a138 then (K169 (-1 : Int32)) else (rdI M126 36 (0 : Int32) (fun a153 => rdI M126 36 (1 : Int32) (fun a159 => if r126 < (a153 + a159) then (K169 (0 : Int32)) else (K169 (1 : Int32)))))))))) (fun (K109 : Int32 → Option (Int32 × Mm)) => sp_X11_nights_L93 v4_76 K109 fu (0 : Int32))) else (K242 v3_76 v5_76 v6_76 M_76))) else (K242 v3_76 v5_76 v6_76 M_76)
def sp_X11_nights (p1 : Int32) (p2 : Int32) (M : Mm) : Option (Int32 × Mm) := if p1 < 0 then (some ((-102 : Int32), M)) else (bd (sp_X11_in (p2.toInt64) (0 : Int64) (3 : Int64) M) (fun r10 M10 => if r10 = 0 then (some ((-102 : Int32), M10)) else (bd (sp_X11_lacks M10) (fun r20 M20 => if r20 = 0 then (if (gI M20 32 12) = (1 : Int32) then (some ((-103 : Int32), M20)) else (bd (sp_X11_stageNow M20) (fun r35 M35 => if r35 < (gI M35 32 7) then (bl (sI M35 32 34 p1) (fun M50 => bl (gI M50 32 11) (fun y57 => bd (sp_X11_leftBits M50) (fun r59 M59 => bd (sp_X11_stageNow M59) (fun r71 M71 => jn (fun (v3_242 : Int32) (v5_242 : Int32) (v6_242 : Int32) (M_242 : Mm) => if p2 = 0 then (some (v3_242, M_242)) else (if p2 = (1 : Int32) then (some (v5_242, M_242)) else (if p2 = (2 : Int32) then (some (v6_242, M_242)) else (some (gI M_242 32 34, M_242))))) (fun (K242 : Int32 → Int32 → Int32 → Mm → Option (Int32 × Mm)) => sp_X11_nights_L76 K242 fu y57 r59 (0 : Int32) (0 : Int32) r71 M71)))))) else (some ((-103 : Int32), M35))))) else (some ((-103 : Int32), M20))))))
def rm_X11_nights : Room := { frames := 2, cells := 0, slots := 0, locals := 46 }
def sp_X11_copy_L2 (c0 : Nat) (c1 : Nat) : Nat → Int32 → Mm → Option (Unit × Mm)
  | 0, _, _ => none
  | n2 + 1, v2_2, M_2 => if v2_2 < (nI (ln c0)) then (rdI M_2 c0 v2_2 (fun a12 => wrI M_2 c1 v2_2 a12 (fun M13 => sp_X11_copy_L2 c0 c1 n2 (v2_2 + 1) M13))) else (some ((), M_2))
def sp_X11_copy (c0 : Nat) (c1 : Nat) (M : Mm) : Option (Unit × Mm) := sp_X11_copy_L2 c0 c1 fu (0 : Int32) M
def rm_X11_copy : Room := { frames := 0, cells := 0, slots := 0, locals := 0 }
def sp_X11_image (M : Mm) : Option (Int32 × Mm) := bd (sp_X11_lacks M) (fun r1 M1 => if r1 = 0 then (bd (sp_X11_copy 38 48 M1) (fun _ M18 => bd (sp_X11_copy 41 49 M18) (fun _ M29 => bd (sp_X11_copy 45 50 M29) (fun _ M40 => bd (sp_X11_copy 47 51 M40) (fun _ M51 => bl (sI M51 32 36 (gI M51 32 10)) (fun M59 => bl (sI M59 32 37 (gI M59 32 11)) (fun M67 => bl (sI M67 32 38 (gI M67 32 12)) (fun M75 => bl (sI M75 32 39 (gI M75 32 13)) (fun M83 => bl (sI M83 32 40 (gI M83 32 29)) (fun M91 => bl (sI M91 32 41 (gI M91 32 32)) (fun M99 => bl (sI M99 32 42 (gI M99 32 17)) (fun M107 => bl (sI M107 32 43 (gI M107 32 22)) (fun M115 => bl (sI M115 32 35 (gI M115 32 14)) (fun M123 => some (gI M123 32 10, M123))))))))))))))) else (some ((-103 : Int32), M1)))
def rm_X11_image : Room := { frames := 1, cells := 0, slots := 0, locals := 22 }
def sp_X11_restore (M : Mm) : Option (Int32 × Mm) := if (gI M 32 35) = (gI M 32 14) then (if (gI M 32 42) = (gI M 32 17) then (if (gI M 32 43) = (gI M 32 22) then (bd (sp_X11_copy 48 38 M) (fun _ M44 => bd (sp_X11_copy 49 41 M44) (fun _ M55 => bd (sp_X11_copy 50 45 M55) (fun _ M66 => bd (sp_X11_copy 51 47 M66) (fun _ M77 => bl (sI M77 32 10 (gI M77 32 36)) (fun M85 => bl (sI M85 32 11 (gI M85 32 37)) (fun M93 => bl (sI M93 32 12 (gI M93 32 38)) (fun M101 => bl (sI M101 32 13 (gI M101 32 39)) (fun M109 => bl (sI M109 32 29 (gI M109 32 40)) (fun M117 => bl (sI M117 32 32 (gI M117 32 41)) (fun M125 => some (gI M125 32 10, M125)))))))))))) else (some ((-103 : Int32), M))) else (some ((-103 : Int32), M))) else (some ((-103 : Int32), M))
def rm_X11_restore : Room := { frames := 1, cells := 0, slots := 0, locals := 22 }
def sp_X11_countOf (p1 : Int32) (M : Mm) : Option (Int32 × Mm) := if p1 = 0 then (some (gI M 32 17, M)) else (if p1 = 1 then (bd (sp_X11_leftBits M) (fun r82 M82 => bd (sp_X11_ones r82 M82) (fun r85 M85 => some ((gI M 32 17) - r85, M85)))) else (if p1 = 2 then (some (gI M 32 22, M)) else (if p1 = 3 then (bd (sp_X11_overBits M) (fun r96 M96 => bd (sp_X11_ones r96 M96) (fun r99 M99 => some (r99, M99)))) else (if p1 = 4 then (some (gI M 32 10, M)) else (if p1 = 5 then (some (gI M 32 11, M)) else (if p1 = 6 then (some (gI M 32 12, M)) else (if p1 = 7 then (some (gI M 32 7, M)) else (if p1 = 8 then (some (gI M 32 13, M)) else (if p1 = 9 then (some (gI M 32 29, M)) else (if p1 = 10 then (some (gI M 32 32, M)) else (if p1 = 11 then (some (gI M 32 1, M)) else (if p1 = 12 then (some (gI M 32 14, M)) else (if p1 = 13 then (some (gI M 32 25, M)) else (some ((-102 : Int32), M)))))))))))))))
def rm_X11_countOf : Room := { frames := 1, cells := 0, slots := 0, locals := 22 }
def sp_X11_count (p1 : Int32) (M : Mm) : Option (Int32 × Mm) := bd (sp_X11_countOf p1 M) (fun r2 M2 => some (r2, M2))
def rm_X11_count : Room := { frames := 2, cells := 0, slots := 0, locals := 43 }
def sp_X11_say (p1 : Int64) (M : Mm) : Option (Unit × Mm) := bl (sJ M 32 48 (((31 : Int64) * (gJ M 32 48)) + p1)) (fun M11 => some ((), M11))
def rm_X11_say : Room := { frames := 0, cells := 0, slots := 0, locals := 0 }
def sp_X11_digest_L211 : Nat → Int32 → Mm → Option (Int64 × Mm)
  | 0, _, _ => none
  | n211 + 1, v1_211, M_211 => if v1_211 < (14 : Int32) then (bd (sp_X11_countOf v1_211 M_211) (fun r220 M220 => bd (sp_X11_say (r220.toInt64) M220) (fun _ M224 => sp_X11_digest_L211 n211 (v1_211 + 1) M224))) else (some (gJ M_211 32 48, M_211))
def sp_X11_digest_L184 (K209 : Mm → Option (Int64 × Mm)) : Nat → Int32 → Mm → Option (Int64 × Mm)
  | 0, _, _ => none
  | n184 + 1, v1_184, M_184 => if v1_184 < (gI M_184 32 1) then (rdI M_184 33 v1_184 (fun a198 => bd (sp_X11_say (a198.toInt64) M_184) (fun _ M200 => sp_X11_digest_L184 K209 n184 (v1_184 + 1) M200))) else (K209 M_184)
def sp_X11_digest_L113 (v1_103 : Int32) (K136 : Mm → Option (Int64 × Mm)) : Nat → Int32 → Mm → Option (Int64 × Mm)
  | 0, _, _ => none
  | n113 + 1, v2_113, M_113 => if v2_113 < (7 : Int32) then (bd (sp_X11_tellMan v1_103 v2_113 M_113) (fun r123 M123 => bd (sp_X11_say (r123.toInt64) M123) (fun _ M127 => sp_X11_digest_L113 v1_103 K136 n113 (v2_113 + 1) M127))) else (K136 M_113)
def sp_X11_digest_L103 (K142 : Mm → Option (Int64 × Mm)) : Nat → Int32 → Mm → Option (Int64 × Mm)
  | 0, _, _ => none
  | n103 + 1, v1_103, M_103 => if v1_103 < (gI M_103 32 22) then (jn (fun (M_136 : Mm) => sp_X11_digest_L103 K142 n103 (v1_103 + 1) M_136) (fun (K136 : Mm → Option (Int64 × Mm)) => sp_X11_digest_L113 v1_103 K136 fu (0 : Int32) M_103)) else (K142 M_103)
def sp_X11_digest_L51 (K101 : Mm → Option (Int64 × Mm)) : Nat → Int32 → Mm → Option (Int64 × Mm)
  | 0, _, _ => none
  | n51 + 1, v1_51, M_51 => if v1_51 < (gI M_51 32 17) then (bd (sp_X11_hitTenths v1_51 (0 : Int32) M_51) (fun r63 M63 => bd (sp_X11_term (r63.toInt64) (10 : Int64) (0 : Int32) M63) (fun r71 M71 => bd (sp_X11_say r71 M71) (fun _ M74 => bd (sp_X11_hitTenths v1_51 (0 : Int32) M74) (fun r81 M81 => bd (sp_X11_term (r81.toInt64) (10 : Int64) (1 : Int32) M81) (fun r89 M89 => bd (sp_X11_say r89 M89) (fun _ M92 => sp_X11_digest_L51 K101 n51 (v1_51 + 1) M92))))))) else (K101 M_51)
def sp_X11_digest_L9 (K49 : Mm → Option (Int64 × Mm)) : Nat → Int32 → Mm → Option (Int64 × Mm)
  | 0, _, _ => none
  | n9 + 1, v1_9, M_9 => if v1_9 < (20 : Int32) then (bd (sp_X11_lacks M_9) (fun r16 M16 => if r16 = 0 then (jn (bd (sp_X11_tellSea v1_9 M16) (fun r36 M36 => bd (sp_X11_say (r36.toInt64) M36) (fun _ M40 => sp_X11_digest_L9 K49 n9 (v1_9 + 1) M40))) (fun (K33 : Option (Int64 × Mm)) => if v1_9 < (5 : Int32) then (K33) else (if (9 : Int32) < v1_9 then (K33) else (sp_X11_digest_L9 K49 n9 (v1_9 + 1) M16)))) else (K49 M16))) else (K49 M_9)
def sp_X11_digest (M : Mm) : Option (Int64 × Mm) := bl (sJ M 32 48 (701 : Int64)) (fun M4 => jn (fun (M_49 : Mm) => jn (fun (M_101 : Mm) => jn (fun (M_142 : Mm) => bd (sp_X11_layOrders M_142) (fun r144 M144 => bd (sp_X11_say (r144.toInt64) M144) (fun _ M148 => jn (fun (M_182 : Mm) => jn (fun (M_209 : Mm) => sp_X11_digest_L211 fu (0 : Int32) M_209) (fun (K209 : Mm → Option (Int64 × Mm)) => sp_X11_digest_L184 K209 fu (0 : Int32) M_182)) (fun (K182 : Mm → Option (Int64 × Mm)) => if 0 < (gI M148 32 32) then (bd (sp_X11_stationsOf (10 : Int32) (0 : Int32) M148) (fun r163 M163 => bd (sp_X11_say (r163.toInt64) M163) (fun _ M167 => bd (sp_X11_stationsOf (10 : Int32) (1 : Int32) M167) (fun r175 M175 => bd (sp_X11_say (r175.toInt64) M175) (fun _ M179 => K182 M179))))) else (K182 M148))))) (fun (K142 : Mm → Option (Int64 × Mm)) => sp_X11_digest_L103 K142 fu (0 : Int32) M_101)) (fun (K101 : Mm → Option (Int64 × Mm)) => sp_X11_digest_L51 K101 fu (0 : Int32) M_49)) (fun (K49 : Mm → Option (Int64 × Mm)) => sp_X11_digest_L9 K49 fu (0 : Int32) M4))
def rm_X11_digest : Room := { frames := 4, cells := 0, slots := 0, locals := 87 }
