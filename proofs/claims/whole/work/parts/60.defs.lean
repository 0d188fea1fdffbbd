/-! what each method does, as a program over memories; printed by wip/gen/emit.py out of the bytecode -/
def f_X4_clear (I : MI) (pl : Nat) : Option (MI) :=
  lt (st2 I pl 4 0) (fun I1 => lt (st2 I1 pl 5 0) (fun I2 => fix2 (fun (r12 : Int32 → MI → Option (MI)) (x3 : Int32) (I4 : MI) => if 3 ≤ x3 then (some (I4)) else (gd (inb x3 3) (lt (st2 I4 (pl + 2) (ix x3) 0) (fun I5 => gd (inb x3 3) (lt (st2 I5 (pl + 3) (ix x3) 0) (fun I6 => lt (x3 + 1) (fun x7 => r12 x7 I6))))))) FU 0 I2))

def f_X0_clear (I : MI) (pb : Nat) : Option (MI) :=
  lt (st2 I pb 11 0) (fun I1 => lt (st2 I1 pb 12 0) (fun I2 => lt (st2 I2 pb 13 0) (fun I3 => lt (st2 I3 pb 14 0) (fun I4 => lt (st2 I4 pb 15 (-1)) (fun I5 => lt (st2 I5 pb 16 (-1)) (fun I6 => lt (fun (I7 : MI) => bd1 (f_X4_clear I7 ((pb + 11))) (fun I8 => some (I8))) (fun j51 => fix2 (fun (r32 : Int32 → MI → Option (MI)) (x9 : Int32) (I10 : MI) => if 100 ≤ x9 then (j51 I10) else (gd (inb x9 100) (lt (st2 I10 (pb + 10) (ix x9) (-1)) (fun I11 => lt (x9 + 1) (fun x12 => r32 x12 I11))))) FU 0 I6)))))))

def f_X0_settle (I : MI) (pb : Nat) : Option (MI) :=
  lt (fun (I1 : MI) => lt (fun (I2 : MI) => lt (st2 I2 pb 17 0) (fun I3 => lt (st2 I3 pb 18 0) (fun I4 => lt (st2 I4 pb 19 (-1)) (fun I5 => fix2 (fun (r44 : Int32 → MI → Option (MI)) (x6 : Int32) (I7 : MI) => if (I7 pb 11) ≤ x6 then (some (I7)) else (gd (inb x6 6) (lt (fun (I8 : MI) => lt (x6 + 1) (fun x9 => r44 x9 I8)) (fun j117 => if (I7 (pb + 3) (ix x6)) ≤ 0 then (j117 I7) else (gd (inb x6 6) (lt (st2 I7 pb 17 ((I7 pb 17) + (I7 (pb + 3) (ix x6)))) (fun I10 => lt (st2 I10 pb 18 ((I10 pb 18) + 1)) (fun I11 => lt (lt (st2 I11 pb 19 x6) (fun I12 => j117 I12)) (fun j112 => if (I11 pb 19) = (-1) then j112 else (gd (inb x6 6) (gd (inb (I11 pb 19) 6) (if (I11 (pb + 3) (ix x6)) ≤ (I11 (pb + 3) (ix (I11 pb 19))) then (j117 I11) else j112)))))))))))) FU 0 I5)))) (fun j27 => if (I1 pb 16) = (-1) then (lt (st2 I1 pb 16 0) (fun I13 => j27 I13)) else (j27 I1))) (fun j14 => if (I pb 15) = (-1) then (lt (st2 I pb 15 30) (fun I14 => j14 I14)) else (j14 I))

def f_X0_placeOf (I : MI) (a1 : Int32) (pa : Nat) (na : Nat) (a3 : Int32) : Option (Int32) :=
  lt (some ((-1))) (fun j28 => fix1 (fun (r2 : Int32 → Option (Int32)) (x1 : Int32) => if a3 ≤ x1 then j28 else (if (Int32.ofNat na) ≤ x1 then j28 else (gd (inb x1 na) (if (I pa (ix x1)) = a1 then (some (x1)) else (lt (x1 + 1) (fun x2 => r2 x2)))))) FU 0)

def f_X0_kindNamed (I : MI) (pb : Nat) (a1 : Int32) : Option (Int32) :=
  bd1 (f_X0_placeOf I a1 ((pb + 1)) 6 ((I pb 11))) (fun x1 => some (x1))

def f_X0_houseNamed (I : MI) (pb : Nat) (a1 : Int32) : Option (Int32) :=
  bd1 (f_X0_placeOf I a1 ((pb + 4)) 6 ((I pb 12))) (fun x1 => some (x1))

def f_X10_isWithin (a1 : Int32) (a2 : Int32) (a3 : Int32) : Option (Bool) :=
  lt (fun (x1 : Bool) => some (x1)) (fun j15 => lt (j15 false) (fun j14 => if a1 < a2 then j14 else (if a3 < a1 then j14 else (j15 true))))

def f_X10_isToldDay (a1 : Int32) : Option (Bool) :=
  bd1 (f_X10_isWithin a1 0 99) (fun x1 => some (x1))

def f_X0_kindTold (I : MI) (pb : Nat) (a1 : Int32) : Option (Int32) :=
  bd1 (f_X10_isToldDay a1) (fun x1 => lt (fun (x2 : Int32) => some (x2)) (fun j17 => if x1 = true then (gd (inb a1 100) (j17 (I (pb + 10) (ix a1)))) else (j17 (-1))))

def f_X0_kindAsItGoes (I : MI) (pb : Nat) (a1 : Int32) : Option (Int32) :=
  bd1 (f_X0_kindTold I pb a1) (fun x1 => lt (fun (x2 : Int32) => some (x2)) (fun j19 => if x1 = (-1) then (j19 (I pb 19)) else (j19 x1)))

def f_X0_kindByNumber (I : MI) (pb : Nat) (a1 : Int32) : Option (Int32) :=
  if 0 < (I pb 17) then (gd (nz (I pb 17)) (lt (irem a1 (I pb 17)) (fun x1 => fix2 (fun (r18 : Int32 → Int32 → Option (Int32)) (x2 : Int32) (x3 : Int32) => if (I pb 11) ≤ x3 then (some ((-1))) else (gd (inb x3 6) (lt (x2 - (I (pb + 3) (ix x3))) (fun x4 => if 0 ≤ x4 then (lt (x3 + 1) (fun x5 => r18 x4 x5)) else (some (x3)))))) FU x1 0))) else (some ((-1)))

def f_X0_alone (I : MI) (pb : Nat) (a1 : Int32) (a2 : Int32) : Option (Int32) :=
  gd (inb a2 6) (gd (inb a1 6) (some ((I (pb + 2) (ix a2)) * (I (pb + 6) (ix a1)))))

def f_X0_daysToTerm (I : MI) (pb : Nat) (a1 : Int32) : Option (Int32) :=
  lt (fun (x1 : Int32) => some (x1)) (fun j22 => if (I pb 15) ≤ 0 then (j22 1) else (gd (nz (I pb 15)) (j22 ((I pb 15) - (irem a1 (I pb 15))))))

def f_X1_plain (I : MI) : Option (MI) :=
  gd (is01 0) (lt (st2 I 62 1 0) (fun I1 => gd (is01 0) (lt (st2 I1 62 2 0) (fun I2 => gd (is01 0) (lt (st2 I2 62 3 0) (fun I3 => gd (is01 0) (lt (st2 I3 62 4 0) (fun I4 => some (I4)))))))))

def f_X8_nextNumber (I : MI) (pt : Nat) : Option (Int32 × MI) :=
  lt (st2 I pt 10 ((((I pt 10) * 1103515245) + 12345) &&& 2147483647)) (fun I1 => gd (nz 65536) (some ((I1 pt 10) / 65536, I1)))

def f_X1_kindOf (I : MI) (pb : Nat) (pt : Nat) : Option (Int32 × MI) :=
  if (I pt 9) = (-1) then (bd1 (f_X0_kindTold I pb ((I pt 8))) (fun x1 => if x1 = (-1) then (lt (some (I pb 19, I)) (fun j44 => if (I 62 1) = 0 then j44 else (if 2 ≤ (I pb 18) then (bd2 (f_X8_nextNumber I pt) (fun x2 I3 => bd1 (f_X0_kindByNumber I3 pb x2) (fun x4 => some (x4, I3)))) else j44))) else (some (x1, I)))) else (some (I pt 9, I))

def f_X1_isMeant (a1 : Int32) (a2 : Int32) : Option (Bool) :=
  lt (fun (x1 : Bool) => some (x1)) (fun j15 => lt (j15 true) (fun j10 => if a2 = (-1) then j10 else (if a2 = a1 then j10 else (j15 false))))

def f_X1_worth (I : MI) (pb : Nat) (a2 : Int32) : Option (Int32) :=
  lt (fun (x1 : Int32) => some (x1)) (fun j17 => if (I 62 2) = 0 then (gd (inb a2 6) (j17 (I (pb + 2) (ix a2)))) else (j17 0))

def f_X1_eager (I : MI) (pb : Nat) (a2 : Int32) : Option (Int32) :=
  lt (fun (x1 : Int32) => some (x1)) (fun j18 => if (I 62 3) = 0 then (gd (inb a2 6) (j18 (I (pb + 6) (ix a2)))) else (j18 9))

def f_X1_name (I : MI) (J : MJ) (pb : Nat) (pt : Nat) (a3 : Int32) (a4 : Int32) : Option (MJ) :=
  bd1 (f_X1_worth I pb a4) (fun x1 => gd (inb 0 7) (lt (st2 J 63 (ix 0) (Int32.toInt64 x1)) (fun J2 => bd1 (f_X1_eager I pb a3) (fun x3 => gd (inb 1 7) (lt (st2 J2 63 (ix 1) (Int32.toInt64 x3)) (fun J4 => gd (inb a3 6) (gd (inb 2 7) (lt (st2 J4 63 (ix 2) (Int32.toInt64 (I (pt + 1) (ix a3)))) (fun J5 => gd (inb a3 6) (gd (inb 3 7) (lt (st2 J5 63 (ix 3) (Int32.toInt64 (I (pt + 2) (ix a3)))) (fun J6 => gd (inb a3 6) (gd (inb 4 7) (lt (st2 J6 63 (ix 4) (Int32.toInt64 (I (pt + 3) (ix a3)))) (fun J7 => gd (inb a4 6) (gd (inb 5 7) (lt (st2 J7 63 (ix 5) (Int32.toInt64 (I (pb + 3) (ix a4)))) (fun J8 => gd (inb 6 7) (lt (st2 J8 63 (ix 6) (Int32.toInt64 (I pt 8))) (fun J9 => some (J9)))))))))))))))))))))

def f_X4_operand (J : MJ) (a1 : Int32) (pa : Nat) (na : Nat) : Option (Int64) :=
  lt (a1 - 10000) (fun x1 => lt (fun (x2 : Int64) => some (x2)) (fun j24 => lt (j24 (Int32.toInt64 a1)) (fun j22 => if x1 < 0 then j22 else (if (Int32.ofNat na) ≤ x1 then j22 else (gd (inb x1 na) (j24 (J pa (ix x1))))))))

def f_X4_truth (a1 : Int32) : Option (Int64) :=
  lt (fun (x1 : Int64) => some (x1)) (fun j9 => if a1 = 0 then (j9 0) else (j9 1))

def f_X4_limited (a1 : Int64) : Option (Int64) :=
  lt (fun (x1 : Int64) => some (x1)) (fun j23 => lt (j23 (-9223372036854775808)) (fun j16 => if 1000000000000 < a1 then j16 else (if (-1000000000000) ≤ a1 then (j23 a1) else j16)))

def f_X4_product (a1 : Int64) (a2 : Int64) : Option (Int64) :=
  if a1 = 0 then (some (0)) else (lt (fun (x1 : Int64) => gd (nzl x1) (lt (1000000000000 / x1) (fun x2 => lt (fun (x3 : Int64) => some (x3)) (fun j54 => lt (j54 (-9223372036854775808)) (fun j45 => if x2 < a2 then j45 else (if (-x2) ≤ a2 then (j54 (a1 * a2)) else j45)))))) (fun j20 => if 0 ≤ a1 then (j20 a1) else (j20 (-a1))))

def f_X4_joined (a1 : Int32) (a2 : Int64) (a3 : Int64) : Option (Int64) :=
  sw a1 [(10, lt (fun (x1 : Bool) => bd1 (f_X4_truth ((bi x1))) (fun x2 => some (x2))) (fun j121 => lt (j121 true) (fun j116 => if a2 = 0 then (if a3 = 0 then (j121 false) else j116) else j116))), (11, lt (fun (x3 : Bool) => bd1 (f_X4_truth ((bi x3))) (fun x4 => some (x4))) (fun j142 => lt (j142 false) (fun j141 => if a2 = 0 then j141 else (if a3 = 0 then j141 else (j142 true))))), (23, lt (fun (x5 : Bool) => bd1 (f_X4_truth ((bi x5))) (fun x6 => some (x6))) (fun j157 => if a3 ≤ a2 then (j157 false) else (j157 true))), (24, lt (fun (x7 : Bool) => bd1 (f_X4_truth ((bi x7))) (fun x8 => some (x8))) (fun j172 => if a3 < a2 then (j172 false) else (j172 true))), (25, lt (fun (x9 : Bool) => bd1 (f_X4_truth ((bi x9))) (fun x10 => some (x10))) (fun j187 => if a2 = a3 then (j187 true) else (j187 false))), (26, lt (fun (x11 : Bool) => bd1 (f_X4_truth ((bi x11))) (fun x12 => some (x12))) (fun j202 => if a2 = a3 then (j202 false) else (j202 true))), (27, lt (fun (x13 : Bool) => bd1 (f_X4_truth ((bi x13))) (fun x14 => some (x14))) (fun j217 => if a2 < a3 then (j217 false) else (j217 true))), (28, lt (fun (x15 : Bool) => bd1 (f_X4_truth ((bi x15))) (fun x16 => some (x16))) (fun j232 => if a2 ≤ a3 then (j232 false) else (j232 true))), (29, bd1 (f_X4_limited ((a2 + a3))) (fun x17 => some (x17))), (30, bd1 (f_X4_limited ((a2 - a3))) (fun x18 => some (x18))), (31, bd1 (f_X4_product a2 a3) (fun x19 => some (x19)))] (lt (fun (x20 : Int64) => some (x20)) (fun j271 => if a3 = 0 then (j271 (-9223372036854775808)) else (gd (nzl a3) (j271 (a2 / a3)))))

def f_X4_value (I : MI) (J : MJ) (pl : Nat) (a1 : Int32) (pa : Nat) (na : Nat) : Option (Int64 × MJ) :=
  gd (inb a1 3) (gd (inb a1 3) (lt (imin ((I (pl + 2) (ix a1)) + (I (pl + 3) (ix a1))) 64) (fun x1 => gd (inb a1 3) (lt (I (pl + 2) (ix a1)) (fun x2 => lt (fun (x3 : Int32) (J4 : MJ) => lt (fun (x5 : Int64) => some (x5, J4)) (fun j216 => if x3 = 1 then (gd (inb 0 64) (j216 (J4 (pl + 4) (ix 0)))) else (j216 (-9223372036854775808)))) (fun j199 => fix3 (fun (r30 : Int32 → Int32 → MJ → Option (Int64 × MJ)) (x6 : Int32) (x7 : Int32) (J8 : MJ) => if x1 ≤ x7 then (j199 x6 J8) else (gd (inb x7 64) (lt (I (pl + 1) (ix x7)) (fun x9 => lt (fun (x10 : Int32) (J11 : MJ) => lt (x7 + 1) (fun x12 => r30 x10 x12 J11)) (fun j193 => if 20000 ≤ x9 then (if x9 = 20012 then (if 1 ≤ x6 then (gd (inb (x6 - 1) 64) (lt (fun (x13 : Bool) (x14 : Int32) => bd1 (f_X4_truth ((bi x13))) (fun x15 => gd (inb x14 64) (lt (st2 J8 (pl + 4) (ix x14) x15) (fun J16 => j193 x6 J16)))) (fun j124 => if (J8 (pl + 4) (ix (x6 - 1))) = 0 then (j124 true (x6 - 1)) else (j124 false (x6 - 1))))) else (some ((-9223372036854775808), J8))) else (if 2 ≤ x6 then (lt (x6 + (-1)) (fun x17 => gd (inb (x17 - 1) 64) (gd (inb x17 64) (bd1 (f_X4_joined ((x9 - 20000)) ((J8 (pl + 4) (ix (x17 - 1)))) ((J8 (pl + 4) (ix x17)))) (fun x18 => gd (inb (x17 - 1) 64) (lt (st2 J8 (pl + 4) (ix (x17 - 1)) x18) (fun J19 => gd (inb (x17 - 1) 64) (if (J19 (pl + 4) (ix (x17 - 1))) = (-9223372036854775808) then (some ((-9223372036854775808), J19)) else (j193 x17 J19))))))))) else (some ((-9223372036854775808), J8)))) else (if x6 < 64 then (bd1 (f_X4_operand J8 x9 pa na) (fun x20 => gd (inb x6 64) (lt (st2 J8 (pl + 4) (ix x6) x20) (fun J21 => lt (x6 + 1) (fun x22 => j193 x22 J21))))) else (some ((-9223372036854775808), J8)))))))) FU 0 x2 J))))))

def f_X1_clamped (a1 : Int64) (a2 : Int32) (a3 : Int32) : Option (Int32) :=
  some (Int64.toInt32 (lmax (Int32.toInt64 a2) (lmin (Int32.toInt64 a3) a1)))

def f_X1_look (I : MI) (J : MJ) (pb : Nat) (pt : Nat) (a3 : Int32) (a4 : Int32) : Option (MI × MJ) :=
  bd1 (f_X1_name I J pb pt a3 a4) (fun J1 => bd2 (f_X4_value I J1 ((pb + 11)) 0 63 7) (fun x2 J3 => if x2 = 0 then (some (I, J3)) else (gd (inb a3 6) (gd (inb a3 6) (lt (st2 I (pt + 4) (ix a3) ((I (pt + 4) (ix a3)) + 1)) (fun I4 => bd2 (f_X4_value I4 J3 ((pb + 11)) 1 63 7) (fun x5 J6 => lt (fun (x7 : Int32) => gd (inb a3 6) (gd (inb a3 6) (lt (st2 I4 (pt + 3) (ix a3) (imin 99999 ((I4 (pt + 3) (ix a3)) + x7))) (fun I8 => gd (inb a3 6) (gd (inb 4 7) (lt (st2 J6 63 (ix 4) (Int32.toInt64 (I8 (pt + 3) (ix a3)))) (fun J9 => bd2 (f_X4_value I8 J9 ((pb + 11)) 2 63 7) (fun x10 J11 => lt (fun (x12 : Int32) => gd (inb a3 6) (bd1 (f_X1_clamped ((Int32.toInt64 ((I8 (pt + 2) (ix a3)) + x12))) (-99999) 99999) (fun x13 => gd (inb a3 6) (lt (st2 I8 (pt + 2) (ix a3) x13) (fun I14 => some (I14, J11)))))) (fun j159 => if x10 = (-9223372036854775808) then (bd1 (f_X1_worth I8 pb a4) (fun x15 => j159 (x15 * x7))) else (bd1 (f_X1_clamped x10 (-999) 999) (fun x16 => j159 x16))))))))))) (fun j77 => if x5 = (-9223372036854775808) then (bd1 (f_X1_eager I4 pb a3) (fun x17 => j77 x17)) else (bd1 (f_X1_clamped x5 0 99) (fun x18 => j77 x18))))))))))

def f_X1_pay (I : MI) (pb : Nat) (pt : Nat) (a3 : Int32) : Option (MI) :=
  gd (inb a3 6) (gd (inb a3 6) (gd (inb a3 6) (lt (((I (pt + 1) (ix a3)) + (I (pb + 7) (ix a3))) - (I (pt + 2) (ix a3))) (fun x1 => gd (inb a3 6) (lt (st2 I (pt + 1) (ix a3) (imin 99999 x1)) (fun I2 => gd (inb a3 6) (lt (st2 I2 (pt + 2) (ix a3) 0) (fun I3 => lt (fun (x4 : Bool) (x5 : Int32) => gd (is01 (bi x4)) (gd (inb x5 6) (lt (st2 I3 (pt + 5) (ix x5) (bi x4)) (fun I6 => some (I6))))) (fun j54 => if 0 ≤ x1 then (j54 false a3) else (j54 true a3))))))))))

def f_X1_pass (I : MI) (J : MJ) (pb : Nat) (pt : Nat) (a3 : Int32) : Option (MI × MJ) :=
  bd2 (f_X1_kindOf I pb pt) (fun x1 I2 => lt (fun (I3 : MI) (J4 : MJ) => lt (fun (I5 : MI) => lt (st2 I5 pt 8 ((I5 pt 8) + 1)) (fun I6 => lt (st2 I6 pt 9 (-1)) (fun I7 => some (I7, J4)))) (fun j158 => if (I3 62 4) = 0 then (bd1 (f_X0_daysToTerm I3 pb ((I3 pt 8))) (fun x8 => if x8 = 1 then (fix2 (fun (r117 : Int32 → MI → Option (MI × MJ)) (x9 : Int32) (I10 : MI) => if (I10 pb 12) ≤ x9 then (j158 I10) else (bd1 (f_X1_isMeant x9 a3) (fun x11 => lt (fun (I12 : MI) => lt (x9 + 1) (fun x13 => r117 x13 I12)) (fun j152 => if x11 = true then (gd (inb x9 6) (if (I10 (pt + 5) (ix x9)) = 0 then (bd1 (f_X1_pay I10 pb pt x9) (fun I14 => j152 I14)) else (j152 I10))) else (j152 I10))))) FU 0 I3) else (j158 I3))) else (j158 I3))) (fun j95 => if x1 = (-1) then (lt (st2 I2 pt 7 ((I2 pt 7) + 1)) (fun I15 => j95 I15 J)) else (gd (inb x1 6) (gd (inb x1 6) (lt (st2 I2 (pt + 7) (ix x1) ((I2 (pt + 7) (ix x1)) + 1)) (fun I16 => fix3 (fun (r41 : Int32 → MI → MJ → Option (MI × MJ)) (x17 : Int32) (I18 : MI) (J19 : MJ) => if (I18 pb 12) ≤ x17 then (j95 I18 J19) else (bd1 (f_X1_isMeant x17 a3) (fun x20 => lt (fun (I21 : MI) (J22 : MJ) => lt (x17 + 1) (fun x23 => r41 x23 I21 J22)) (fun j89 => if x20 = true then (gd (inb x17 6) (if (I18 (pt + 5) (ix x17)) = 0 then (gd (inb x17 6) (if (I18 (pt + 6) (ix x17)) = 0 then (bd2 (f_X1_look I18 J19 pb pt x17 x1) (fun I24 J25 => j89 I24 J25)) else (j89 I18 J19))) else (j89 I18 J19))) else (j89 I18 J19))))) FU 0 I16 J))))))

def f_X2_clear (I : MI) : Option (MI) :=
  lt (st2 I 70 5 0) (fun I1 => lt (st2 I1 70 6 (-1)) (fun I2 => some (I2)))

def f_X2_knownCount (I : MI) : Option (Int32) :=
  lt (fun (x1 : Int32) => some (x1)) (fun j19 => if (I 70 6) = (-1) then (j19 (I 70 5)) else (j19 (I 70 6)))

def f_X2_addNote (I : MI) (a1 : Int32) (a2 : Int32) (a3 : Int32) (a4 : Int32) : Option (Int32 × MI) :=
  if (I 70 5) < 24 then (gd (inb (I 70 5) 24) (lt (st2 I 71 (ix (I 70 5)) a1) (fun I1 => gd (inb (I1 70 5) 24) (lt (st2 I1 72 (ix (I1 70 5)) a2) (fun I2 => gd (inb (I2 70 5) 24) (lt (st2 I2 73 (ix (I2 70 5)) a3) (fun I3 => gd (is01 a4) (gd (inb (I3 70 5) 24) (lt (st2 I3 74 (ix (I3 70 5)) a4) (fun I4 => lt (st2 I4 70 5 ((I4 70 5) + 1)) (fun I5 => some ((I5 70 5) - 1, I5)))))))))))) else (some ((-1), I))

def f_X2_addStrike (I : MI) (a1 : Int32) : Option (Int32 × MI) :=
  bd1 (f_X10_isWithin a1 0 (((I 70 5) - 1))) (fun x1 => lt (fun (x2 : Int32) (I3 : MI) => some (x2, I3)) (fun j26 => if x1 = true then (bd2 (f_X2_addNote I (-1) a1 0 0) (fun x4 I5 => j26 x4 I5)) else (j26 (-1) I)))

def f_X2_findStruck (I : MI) : Option (MI) :=
  lt (fun (I1 : MI) => bd1 (f_X2_knownCount I1) (fun x2 => lt (x2 - 1) (fun x3 => fix2 (fun (r28 : Int32 → MI → Option (MI)) (x4 : Int32) (I5 : MI) => if x4 < 0 then (some (I5)) else (gd (inb x4 24) (lt (fun (I6 : MI) => lt (x4 + (-1)) (fun x7 => r28 x7 I6)) (fun j63 => if (I5 71 (ix x4)) = (-1) then (gd (inb x4 24) (if (I5 75 (ix x4)) = 0 then (gd (inb x4 24) (gd (is01 1) (gd (inb (I5 72 (ix x4)) 24) (lt (st2 I5 75 (ix (I5 72 (ix x4))) 1) (fun I8 => j63 I8))))) else (j63 I5))) else (j63 I5))))) FU x3 I1))) (fun j21 => fix2 (fun (r2 : Int32 → MI → Option (MI)) (x9 : Int32) (I10 : MI) => if 24 ≤ x9 then (j21 I10) else (gd (is01 0) (gd (inb x9 24) (lt (st2 I10 75 (ix x9) 0) (fun I11 => lt (x9 + 1) (fun x12 => r2 x12 I11)))))) FU 0 I)

def f_X2_isFitting (I : MI) (pb : Nat) (a2 : Int32) (a3 : Int32) : Option (Bool) :=
  fix1 (fun (r3 : Int32 → Option (Bool)) (x1 : Int32) => bd1 (f_X2_knownCount I) (fun x2 => if x2 ≤ x1 then (some (true)) else (gd (inb x1 24) (lt (lt (x1 + 1) (fun x3 => r3 x3)) (fun j76 => if (I 71 (ix x1)) = a2 then (gd (inb x1 24) (if (I 75 (ix x1)) = 0 then (gd (inb x1 24) (bd1 (f_X0_alone I pb ((I 72 (ix x1))) a3) (fun x4 => gd (inb x1 24) (lt (fun (x5 : Bool) => lt (bi x5) (fun x6 => gd (inb x1 24) (if x6 = (I 74 (ix x1)) then j76 else (some (false))))) (fun j60 => if (I 73 (ix x1)) < x4 then (j60 false) else (j60 true)))))) else j76)) else j76))))) FU 0

def f_X2_fitting (I : MI) (pb : Nat) (a2 : Int32) : Option (Int32 × MI) :=
  bd1 (f_X2_findStruck I) (fun I1 => fix2 (fun (r9 : Int32 → Int32 → Option (Int32 × MI)) (x2 : Int32) (x3 : Int32) => if (I1 pb 11) ≤ x3 then (some (x2, I1)) else (bd1 (f_X2_isFitting I1 pb a2 x3) (fun x4 => lt (fun (x5 : Int32) => lt (x3 + 1) (fun x6 => r9 x5 x6)) (fun j36 => if x4 = true then (lt (x2 ||| (1 <<< (x3 &&& 31))) (fun x7 => j36 x7)) else (j36 x2))))) FU 0 0)

def f_X3_commonOf (a1 : Int64) (a2 : Int64) : Option (Int64) :=
  lt (fun (x1 : Int64) => some (x1)) (fun j45 => fix3 (fun (r9 : Int64 → Int64 → Int32 → Option (Int64)) (x2 : Int64) (x3 : Int64) (x4 : Int32) => if 200 ≤ x4 then (j45 x2) else (if x3 = 0 then (j45 x2) else (gd (nzl x3) (lt (lrem x2 x3) (fun x5 => lt (x4 + 1) (fun x6 => r9 x3 x5 x6)))))) FU a1 a2 0)

def f_X3_put (J : MJ) (a1 : Int64) (a2 : Int64) : Option (MJ) :=
  bd1 (f_X3_commonOf a1 a2) (fun x1 => lt (fun (J2 : MJ) => some (J2)) (fun j30 => if x1 ≤ 0 then (j30 J) else (gd (nzl x1) (lt (st2 J 80 0 (a1 / x1)) (fun J3 => gd (nzl x1) (lt (st2 J3 80 1 (a2 / x1)) (fun J4 => j30 J4)))))))

def f_X3_told (J : MJ) (a1 : Int32) : Option (Int64) :=
  lt (fun (x1 : Int64) => some (x1)) (fun j15 => if a1 = 0 then (j15 (J 80 0)) else (j15 (J 80 1)))

def f_X4_has (I : MI) (pl : Nat) (a1 : Int32) : Option (Bool) :=
  gd (inb a1 3) (lt (fun (x1 : Bool) => some (x1)) (fun j14 => if (I (pl + 3) (ix a1)) ≤ 0 then (j14 false) else (j14 true)))

def f_X4_begin (I : MI) (pl : Nat) (a1 : Int32) : Option (MI) :=
  gd (inb a1 3) (lt (st2 I (pl + 2) (ix a1) (I pl 5)) (fun I1 => some (I1)))

def f_X4_end (I : MI) (pl : Nat) (a1 : Int32) : Option (MI) :=
  gd (inb a1 3) (gd (inb a1 3) (lt (st2 I (pl + 3) (ix a1) ((I pl 5) - (I (pl + 2) (ix a1)))) (fun I1 => some (I1))))

def f_X4_add (I : MI) (pl : Nat) (a1 : Int32) : Option (MI) :=
  lt (fun (I1 : MI) => some (I1)) (fun j29 => if 64 ≤ (I pl 5) then (j29 I) else (gd (inb (I pl 5) 64) (lt (st2 I (pl + 1) (ix (I pl 5)) a1) (fun I2 => lt (st2 I2 pl 5 ((I2 pl 5) + 1)) (fun I3 => j29 I3)))))

def f_X10_isAmong (a1 : Int32) (a2 : Int32) : Option (Bool) :=
  lt (fun (x1 : Bool) => some (x1)) (fun j14 => if ((a2 >>> (a1 &&& 31)) &&& 1) = 1 then (j14 true) else (j14 false))

def f_X5_isFree (I : MI) (pb : Nat) (a2 : Int32) (a3 : Int32) (a4 : Int32) : Option (Bool) :=
  bd1 (f_X10_isAmong a3 a4) (fun x1 => lt (fun (x2 : Bool) => some (x2)) (fun j29 => lt (j29 false) (fun j28 => if x1 = true then j28 else (gd (inb a3 8) (gd (inb a2 6) (if (I 77 (ix a3)) = (I (pb + 9) (ix a2)) then (j29 true) else j28))))))

def f_X5_cost (I : MI) (pb : Nat) (a2 : Int32) : Option (Int32) :=
  gd (inb a2 6) (gd (inb a2 6) (bd1 (f_X0_alone I pb ((I (pb + 8) (ix a2))) ((I (pb + 9) (ix a2)))) (fun x1 => some (x1))))

def f_X5_bestOn (I : MI) (pb : Nat) (a2 : Int32) (a3 : Int32) (a4 : Int32) : Option (Int32) :=
  bd1 (f_X5_cost I pb a2) (fun x1 => gd (inb (((a2 + 1) * 256) + (a4 ||| (1 <<< (a3 &&& 31)))) 1792) (some ((10000 - x1) + (I 78 (ix (((a2 + 1) * 256) + (a4 ||| (1 <<< (a3 &&& 31)))))))))

def f_X5_bestOf (I : MI) (pb : Nat) (a2 : Int32) (a3 : Int32) (a4 : Int32) : Option (Int32) :=
  gd (inb (((a3 + 1) * 256) + a4) 1792) (lt (I 78 (ix (((a3 + 1) * 256) + a4))) (fun x1 => fix2 (fun (r20 : Int32 → Int32 → Option (Int32)) (x2 : Int32) (x3 : Int32) => if a2 ≤ x3 then (some (x2)) else (bd1 (f_X5_isFree I pb a3 x3 a4) (fun x4 => lt (fun (x5 : Int32) => lt (x3 + 1) (fun x6 => r20 x5 x6)) (fun j56 => if x4 = true then (bd1 (f_X5_bestOn I pb a3 x3 a4) (fun x7 => lt (imax x2 x7) (fun x8 => j56 x8))) else (j56 x2))))) FU x1 0))

def f_X5_choose (I : MI) (pb : Nat) (a2 : Int32) : Option (MI) :=
  lt (st2 I 76 3 0) (fun I1 => lt (st2 I1 76 4 0) (fun I2 => fix3 (fun (r15 : Int32 → Int32 → MI → Option (MI)) (x3 : Int32) (x4 : Int32) (I5 : MI) => if (I5 pb 13) ≤ x4 then (some (I5)) else (gd (inb x4 6) (lt (st2 I5 79 (ix x4) (-2)) (fun I6 => lt (fun (I7 : MI) => gd (inb x4 6) (lt (fun (x8 : Int32) (I9 : MI) => lt (x4 + 1) (fun x10 => r15 x8 x10 I9)) (fun j157 => if (I7 79 (ix x4)) = (-2) then (j157 x3 I7) else (gd (inb x4 6) (lt (x3 ||| (1 <<< ((I7 79 (ix x4)) &&& 31))) (fun x11 => lt (st2 I7 76 3 ((I7 76 3) + 1)) (fun I12 => bd1 (f_X5_cost I12 pb x4) (fun x13 => lt (st2 I12 76 4 ((I12 76 4) + x13)) (fun I14 => j157 x11 I14))))))))) (fun j108 => fix2 (fun (r36 : Int32 → MI → Option (MI)) (x15 : Int32) (I16 : MI) => if a2 ≤ x15 then (j108 I16) else (gd (inb x4 6) (if (I16 79 (ix x4)) = (-2) then (bd1 (f_X5_isFree I16 pb x4 x15 x3) (fun x17 => lt (fun (I18 : MI) => lt (x15 + 1) (fun x19 => r36 x19 I18)) (fun j102 => if x17 = true then (bd1 (f_X5_bestOn I16 pb x4 x15 x3) (fun x20 => gd (inb ((x4 * 256) + x3) 1792) (if x20 = (I16 78 (ix ((x4 * 256) + x3))) then (gd (inb x4 6) (lt (st2 I16 79 (ix x4) x15) (fun I21 => j102 I21))) else (j102 I16)))) else (j102 I16)))) else (j108 I16)))) FU 0 I6))))) FU 0 0 I2))

def f_X5_lay (I : MI) (pb : Nat) (a2 : Int32) : Option (MI) :=
  lt (fun (I1 : MI) => lt ((I1 pb 13) - 1) (fun x2 => lt (fun (I3 : MI) => bd1 (f_X5_choose I3 pb a2) (fun I4 => some (I4))) (fun j87 => fix2 (fun (r38 : Int32 → MI → Option (MI)) (x5 : Int32) (I6 : MI) => if x5 < 0 then (j87 I6) else (lt (fun (I7 : MI) => lt (x5 + (-1)) (fun x8 => r38 x8 I7)) (fun j81 => fix2 (fun (r45 : Int32 → MI → Option (MI)) (x9 : Int32) (I10 : MI) => if (1 <<< (a2 &&& 31)) ≤ x9 then (j81 I10) else (bd1 (f_X5_bestOf I10 pb a2 x5 x9) (fun x11 => gd (inb ((x5 * 256) + x9) 1792) (lt (st2 I10 78 (ix ((x5 * 256) + x9)) x11) (fun I12 => lt (x9 + 1) (fun x13 => r45 x13 I12)))))) FU 0 I6))) FU x2 I1))) (fun j31 => fix2 (fun (r2 : Int32 → MI → Option (MI)) (x14 : Int32) (I15 : MI) => if 256 ≤ x14 then (j31 I15) else (gd (inb (((I15 pb 13) * 256) + x14) 1792) (lt (st2 I15 78 (ix (((I15 pb 13) * 256) + x14)) 0) (fun I16 => lt (x14 + 1) (fun x17 => r2 x17 I16))))) FU 0 I)

def f_X7_begin (I : MI) (a1 : Int32) : Option (MI) :=
  lt (st2 I 36 2 a1) (fun I1 => lt (st2 I1 36 3 0) (fun I2 => some (I2)))

def f_X7_signAt (I : MI) (a1 : Int32) : Option (Int32) :=
  lt (fun (x1 : Int32) => some (x1)) (fun j35 => lt (j35 0) (fun j34 => if a1 < 0 then j34 else (if (I 36 2) ≤ a1 then j34 else (if 700 ≤ a1 then j34 else (gd (inb a1 700) (j35 ((I 1 (ix a1)) &&& 255)))))))

def f_X7_isLetter (a1 : Int32) : Option (Bool) :=
  lt (fun (x1 : Bool) => some (x1)) (fun j17 => lt (j17 false) (fun j16 => if a1 < 97 then j16 else (if 122 < a1 then j16 else (j17 true))))

def f_X7_letter (a1 : Int32) (a2 : Int32) : Option (Int32) :=
  some (((a1 - 97) + 1) <<< ((5 * (5 - a2)) &&& 31))

def f_X7_stepWord (I : MI) : Option (MI) :=
  lt (fun (x1 : Int32) (x2 : Int32) (I3 : MI) => lt (st2 I3 36 6 x1) (fun I4 => lt (fun (x5 : Int32) => lt (st2 I4 36 4 x5) (fun I6 => lt (fun (I7 : MI) => some (I7)) (fun j126 => fix2 (fun (r90 : Int32 → MI → Option (MI)) (x8 : Int32) (I9 : MI) => if 20 ≤ x8 then (j126 I9) else (if (I9 36 4) = 34 then (gd (inb x8 20) (lt (fun (I10 : MI) => lt (x8 + 1) (fun x11 => r90 x11 I10)) (fun j120 => if (I9 37 (ix x8)) = x1 then (lt (st2 I9 36 4 x8) (fun I12 => j120 I12)) else (j120 I9)))) else (j126 I9))) FU 0 I6))) (fun j85 => if x2 ≤ 6 then (j85 34) else (j85 36)))) (fun j66 => fix3 (fun (r4 : Int32 → Int32 → MI → Option (MI)) (x13 : Int32) (x14 : Int32) (I15 : MI) => if (I15 36 2) ≤ (I15 36 3) then (j66 x13 x14 I15) else (bd1 (f_X7_signAt I15 ((I15 36 3))) (fun x16 => bd1 (f_X7_isLetter x16) (fun x17 => if x17 = true then (lt (fun (x18 : Int32) => lt (x14 + 1) (fun x19 => lt (st2 I15 36 3 ((I15 36 3) + 1)) (fun I20 => r4 x18 x19 I20))) (fun j50 => if 6 ≤ x14 then (j50 x13) else (bd1 (f_X7_signAt I15 ((I15 36 3))) (fun x21 => bd1 (f_X7_letter x21 x14) (fun x22 => lt (x13 ||| x22) (fun x23 => j50 x23)))))) else (j66 x13 x14 I15))))) FU 0 0 I)

def f_X7_isDigit (a1 : Int32) : Option (Bool) :=
  lt (fun (x1 : Bool) => some (x1)) (fun j17 => lt (j17 false) (fun j16 => if a1 < 48 then j16 else (if 57 < a1 then j16 else (j17 true))))

def f_X7_stepNumber (I : MI) : Option (MI) :=
  lt (st2 I 36 6 0) (fun I1 => lt (fun (I2 : MI) => lt (st2 I2 36 4 33) (fun I3 => some (I3))) (fun j71 => fix1 (fun (r5 : MI → Option (MI)) (I4 : MI) => if (I4 36 2) ≤ (I4 36 3) then (j71 I4) else (bd1 (f_X7_signAt I4 ((I4 36 3))) (fun x5 => bd1 (f_X7_isDigit x5) (fun x6 => if x6 = true then (bd1 (f_X7_signAt I4 ((I4 36 3))) (fun x7 => lt (st2 I4 36 6 (imin 1000000 ((((I4 36 6) * 10) + x7) - 48))) (fun I8 => lt (st2 I8 36 3 ((I8 36 3) + 1)) (fun I9 => r5 I9)))) else (j71 I4))))) FU I1))

def f_X7_signToken (a1 : Int32) (a2 : Int32) : Option (Int32) :=
  sw a1 [(40, some (21)), (41, some (22)), (42, some (31)), (43, some (29)), (45, some (30)), (47, some (32)), (59, some (20)), (60, lt (fun (x1 : Int32) => some (x1)) (fun j141 => if a2 = 61 then (j141 24) else (if a2 = 62 then (j141 26) else (j141 23)))), (61, some (25)), (62, lt (fun (x2 : Int32) => some (x2)) (fun j158 => if a2 = 61 then (j158 27) else (j158 28)))] (some (36))

def f_X7_step (I : MI) : Option (MI) :=
  lt (fun (I1 : MI) => lt (st2 I1 36 5 (I1 36 3)) (fun I2 => bd1 (f_X7_signAt I2 ((I2 36 3))) (fun x3 => lt (fun (I4 : MI) => some (I4)) (fun j178 => if (I2 36 3) < (I2 36 2) then (bd1 (f_X7_isLetter x3) (fun x5 => if x5 = true then (bd1 (f_X7_stepWord I2) (fun I6 => j178 I6)) else (bd1 (f_X7_isDigit x3) (fun x7 => if x7 = true then (bd1 (f_X7_stepNumber I2) (fun I8 => j178 I8)) else (lt (st2 I2 36 3 ((I2 36 3) + 1)) (fun I9 => bd1 (f_X7_signAt I9 ((I9 36 3))) (fun x10 => bd1 (f_X7_signToken x3 x10) (fun x11 => lt (st2 I9 36 4 x11) (fun I12 => lt (lt (st2 I12 36 3 ((I12 36 3) + 1)) (fun I13 => j178 I13)) (fun j168 => if (I12 36 4) = 24 then j168 else (if (I12 36 4) = 27 then j168 else (if (I12 36 4) = 26 then j168 else (j178 I12))))))))))))) else (lt (st2 I2 36 4 35) (fun I14 => j178 I14)))))) (fun j50 => fix1 (fun (r0 : MI → Option (MI)) (I15 : MI) => if (I15 36 2) ≤ (I15 36 3) then (j50 I15) else (bd1 (f_X7_signAt I15 ((I15 36 3))) (fun x16 => lt (lt (st2 I15 36 3 ((I15 36 3) + 1)) (fun I17 => r0 I17)) (fun j37 => if x16 = 32 then j37 else (bd1 (f_X7_signAt I15 ((I15 36 3))) (fun x18 => if x18 = 10 then j37 else (j50 I15))))))) FU I)

def f_X6_fails (I : MI) (a1 : Int32) : Option (Bool × MI) :=
  lt (st2 I 34 5 a1) (fun I1 => lt (st2 I1 34 6 (I1 36 5)) (fun I2 => some (false, I2)))

def f_X6_isWord (I : MI) : Option (Bool × MI) :=
  bd1 (f_X7_step I) (fun I1 => lt (fun (x2 : Bool) (I3 : MI) => some (x2, I3)) (fun j32 => lt (fun (I4 : MI) => j32 true I4) (fun j27 => if (I1 36 4) = 34 then (j27 I1) else (bd2 (f_X6_fails I1 1) (fun x5 I6 => if x5 = true then (j27 I6) else (j32 false I6))))))

def f_X6_isNumber (I : MI) (a1 : Int32) (a2 : Int32) : Option (Bool × MI) :=
  bd1 (f_X7_step I) (fun I1 => if (I1 36 4) = 33 then (bd1 (f_X10_isWithin ((I1 36 6)) a1 a2) (fun x2 => lt (fun (x3 : Bool) (I4 : MI) => some (x3, I4)) (fun j53 => lt (fun (I5 : MI) => j53 true I5) (fun j48 => if x2 = true then (j48 I1) else (bd2 (f_X6_fails I1 2) (fun x6 I7 => if x6 = true then (j48 I7) else (j53 false I7))))))) else (bd2 (f_X6_fails I1 1) (fun x8 I9 => some (x8, I9))))

def f_X6_readKind (it : Nat) (I : MI) : Option (Bool × MI) :=
  lt (I it 11) (fun x1 => if x1 < 6 then (bd2 (f_X6_isWord I) (fun x2 I3 => if x2 = true then (bd1 (f_X0_kindNamed I3 it ((I3 36 6))) (fun x4 => if x4 = (-1) then (gd (inb x1 6) (lt (st2 I3 (it + 1) (ix x1) (I3 36 6)) (fun I5 => bd2 (f_X6_isNumber I5 0 99) (fun x6 I7 => if x6 = true then (gd (inb x1 6) (lt (st2 I7 (it + 2) (ix x1) (I7 36 6)) (fun I8 => bd2 (f_X6_isNumber I8 0 99) (fun x9 I10 => if x9 = true then (gd (inb x1 6) (lt (st2 I10 (it + 3) (ix x1) (I10 36 6)) (fun I11 => lt (st2 I11 it 11 ((I11 it 11) + 1)) (fun I12 => some (true, I12))))) else (some (false, I10)))))) else (some (false, I7)))))) else (bd2 (f_X6_fails I3 3) (fun x13 I14 => some (x13, I14))))) else (some (false, I3)))) else (bd2 (f_X6_fails I 2) (fun x15 I16 => some (x15, I16))))

def f_X6_isEnd (I : MI) : Option (Bool × MI) :=
  bd1 (f_X7_step I) (fun I1 => lt (fun (x2 : Bool) (I3 : MI) => some (x2, I3)) (fun j32 => lt (fun (I4 : MI) => j32 true I4) (fun j27 => if (I1 36 4) = 20 then (j27 I1) else (bd2 (f_X6_fails I1 1) (fun x5 I6 => if x5 = true then (j27 I6) else (j32 false I6))))))

def f_X6_readHouse (it : Nat) (I : MI) : Option (Bool × MI) :=
  lt (I it 12) (fun x1 => if x1 < 6 then (bd2 (f_X6_isWord I) (fun x2 I3 => if x2 = true then (bd1 (f_X0_houseNamed I3 it ((I3 36 6))) (fun x4 => if x4 = (-1) then (gd (inb x1 6) (lt (st2 I3 (it + 4) (ix x1) (I3 36 6)) (fun I5 => bd2 (f_X6_isNumber I5 0 999) (fun x6 I7 => if x6 = true then (gd (inb x1 6) (lt (st2 I7 (it + 5) (ix x1) (I7 36 6)) (fun I8 => bd2 (f_X6_isNumber I8 0 9) (fun x9 I10 => if x9 = true then (gd (inb x1 6) (lt (st2 I10 (it + 6) (ix x1) (I10 36 6)) (fun I11 => bd2 (f_X6_isNumber I11 0 99) (fun x12 I13 => if x12 = true then (gd (inb x1 6) (lt (st2 I13 (it + 7) (ix x1) (I13 36 6)) (fun I14 => lt (st2 I14 it 12 ((I14 it 12) + 1)) (fun I15 => some (true, I15))))) else (some (false, I13)))))) else (some (false, I10)))))) else (some (false, I7)))))) else (bd2 (f_X6_fails I3 3) (fun x16 I17 => some (x16, I17))))) else (some (false, I3)))) else (bd2 (f_X6_fails I 2) (fun x18 I19 => some (x18, I19))))

def f_X6_readDay (it : Nat) (I : MI) : Option (Bool × MI) :=
  if (I it 14) < 20 then (bd2 (f_X6_isNumber I 0 99) (fun x1 I2 => if x1 = true then (lt (I2 36 6) (fun x3 => bd1 (f_X0_kindTold I2 it x3) (fun x4 => if x4 = (-1) then (bd2 (f_X6_isWord I2) (fun x5 I6 => if x5 = true then (bd1 (f_X0_kindNamed I6 it ((I6 36 6))) (fun x7 => if x7 = (-1) then (bd2 (f_X6_fails I6 4) (fun x8 I9 => some (x8, I9))) else (gd (inb x3 100) (lt (st2 I6 (it + 10) (ix x3) x7) (fun I10 => lt (st2 I10 it 14 ((I10 it 14) + 1)) (fun I11 => some (true, I11))))))) else (some (false, I6)))) else (bd2 (f_X6_fails I2 3) (fun x12 I13 => some (x12, I13)))))) else (some (false, I2)))) else (bd2 (f_X6_fails I 2) (fun x14 I15 => some (x14, I15)))

def f_X6_readWork (it : Nat) (I : MI) : Option (Bool × MI) :=
  lt (I it 13) (fun x1 => if x1 < 6 then (bd2 (f_X6_isWord I) (fun x2 I3 => if x2 = true then (bd1 (f_X0_houseNamed I3 it ((I3 36 6))) (fun x4 => gd (inb x1 6) (lt (st2 I3 (it + 8) (ix x1) x4) (fun I5 => gd (inb x1 6) (if (I5 (it + 8) (ix x1)) = (-1) then (bd2 (f_X6_fails I5 4) (fun x6 I7 => some (x6, I7))) else (bd2 (f_X6_isWord I5) (fun x8 I9 => if x8 = true then (bd1 (f_X0_kindNamed I9 it ((I9 36 6))) (fun x10 => gd (inb x1 6) (lt (st2 I9 (it + 9) (ix x1) x10) (fun I11 => gd (inb x1 6) (if (I11 (it + 9) (ix x1)) = (-1) then (bd2 (f_X6_fails I11 4) (fun x12 I13 => some (x12, I13))) else (lt (st2 I11 it 13 ((I11 it 13) + 1)) (fun I14 => some (true, I14)))))))) else (some (false, I9))))))))) else (some (false, I3)))) else (bd2 (f_X6_fails I 2) (fun x15 I16 => some (x15, I16))))

def f_X6_readTerm (it : Nat) (I : MI) : Option (Bool × MI) :=
  if (I it 15) = (-1) then (bd2 (f_X6_isNumber I 1 99) (fun x1 I2 => if x1 = true then (lt (st2 I2 it 15 (I2 36 6)) (fun I3 => some (true, I3))) else (some (false, I2)))) else (bd2 (f_X6_fails I 3) (fun x4 I5 => some (x4, I5)))

def f_X6_readSeed (it : Nat) (I : MI) : Option (Bool × MI) :=
  if (I it 16) = (-1) then (bd2 (f_X6_isNumber I 0 99999) (fun x1 I2 => if x1 = true then (lt (st2 I2 it 16 (I2 36 6)) (fun I3 => some (true, I3))) else (some (false, I2)))) else (bd2 (f_X6_fails I 3) (fun x4 I5 => some (x4, I5)))

def f_X6_rankOf (a1 : Int32) : Option (Int32) :=
  lt (some (5)) (fun j114 => lt (some (6)) (fun j116 => sw a1 [(10, some (1)), (11, some (2)), (12, some (3)), (29, j114), (30, j114), (31, j116), (32, j116)] (lt (fun (x1 : Int32) => some (x1)) (fun j136 => lt (j136 0) (fun j135 => if a1 < 23 then j135 else (if 28 < a1 then j135 else (j136 4)))))))

def f_X6_release (it : Nat) (I : MI) (a1 : Int32) : Option (MI) :=
  lt (fun (I1 : MI) => some (I1)) (fun j61 => fix1 (fun (r0 : MI → Option (MI)) (I2 : MI) => if (I2 34 2) ≤ 0 then (j61 I2) else (gd (inb ((I2 34 2) - 1) 72) (bd1 (f_X6_rankOf ((I2 35 (ix ((I2 34 2) - 1))))) (fun x3 => if x3 < a1 then (j61 I2) else (lt (st2 I2 34 2 ((I2 34 2) - 1)) (fun I4 => gd (inb (I4 34 2) 72) (bd1 (f_X4_add I4 ((it + 11)) ((20000 + (I4 35 (ix (I4 34 2)))))) (fun I5 => r0 I5)))))))) FU I)

def f_X6_rankOfLatest (I : MI) : Option (Int32) :=
  lt (fun (x1 : Int32) => some (x1)) (fun j25 => if (I 34 2) ≤ 0 then (j25 0) else (gd (inb ((I 34 2) - 1) 72) (bd1 (f_X6_rankOf ((I 35 (ix ((I 34 2) - 1))))) (fun x2 => j25 x2))))

def f_X6_isKnot (it : Nat) (I : MI) : Option (Bool × MI) :=
  if (I (it + 11) 4) < 64 then (lt (st2 I (it + 11) 4 ((I (it + 11) 4) + 1)) (fun I1 => some (true, I1))) else (bd2 (f_X6_fails I 2) (fun x2 I3 => some (x2, I3)))

def f_X6_holds (I : MI) (a1 : Int32) : Option (Bool × MI) :=
  lt (fun (I1 : MI) => some (true, I1)) (fun j32 => if 72 ≤ (I 34 2) then (j32 I) else (gd (inb (I 34 2) 72) (lt (st2 I 35 (ix (I 34 2)) a1) (fun I2 => lt (st2 I2 34 2 ((I2 34 2) + 1)) (fun I3 => j32 I3)))))

def f_X6_readBehindValue (it : Nat) (I : MI) : Option (Bool × MI) :=
  lt (bd1 (f_X6_rankOf ((I 36 4))) (fun x1 => lt (bd2 (f_X6_fails I 1) (fun x2 I3 => some (x2, I3))) (fun j73 => if x1 = 0 then j73 else (if (I 36 4) = 12 then j73 else (lt (fun (x4 : Int32) => bd1 (f_X6_release it I x4) (fun I5 => lt (bd2 (f_X6_isKnot it I5) (fun x6 I7 => lt (fun (x8 : Bool) (I9 : MI) => some (x8, I9)) (fun j138 => lt (fun (I10 : MI) => j138 false I10) (fun j137 => if x6 = true then (bd2 (f_X6_holds I7 ((I7 36 4))) (fun x11 I12 => if x11 = true then (j138 true I12) else (j137 I12))) else (j137 I7))))) (fun j112 => if x1 = 4 then (bd1 (f_X6_rankOfLatest I5) (fun x13 => if x13 = 4 then (bd2 (f_X6_fails I5 1) (fun x14 I15 => some (x14, I15))) else j112)) else j112))) (fun j90 => if x1 = 4 then (j90 5) else (j90 x1))))))) (fun j46 => if (I 36 4) = 22 then (if (I 34 3) ≤ 0 then j46 else (bd1 (f_X6_release it I 1) (fun I16 => lt (st2 I16 34 2 ((I16 34 2) - 1)) (fun I17 => lt (st2 I17 34 3 ((I17 34 3) - 1)) (fun I18 => some (true, I18)))))) else j46)

def f_X6_puts (it : Nat) (I : MI) (a1 : Int32) : Option (Bool × MI) :=
  bd1 (f_X4_add I ((it + 11)) a1) (fun I1 => some (true, I1))

def f_X7_isName (I : MI) : Option (Bool) :=
  lt (fun (x1 : Bool) => some (x1)) (fun j23 => lt (j23 false) (fun j22 => if (I 36 4) < 13 then j22 else (if 19 < (I 36 4) then j22 else (j23 true))))

def f_X6_readValue (it : Nat) (I : MI) : Option (Bool × MI) :=
  if (I 36 4) = 33 then (bd2 (f_X6_isKnot it I) (fun x1 I2 => lt (fun (x3 : Bool) (I4 : MI) => some (x3, I4)) (fun j59 => lt (fun (I5 : MI) => j59 false I5) (fun j58 => if x1 = true then (lt (fun (I6 : MI) => bd2 (f_X6_puts it I6 ((I6 36 6))) (fun x7 I8 => if x7 = true then (j59 true I8) else (j58 I8))) (fun j40 => if (I2 36 6) ≤ 9999 then (j40 I2) else (bd2 (f_X6_fails I2 2) (fun x9 I10 => if x9 = true then (j40 I10) else (j58 I10))))) else (j58 I2))))) else (bd1 (f_X7_isName I) (fun x11 => if x11 = true then (bd2 (f_X6_isKnot it I) (fun x12 I13 => lt (fun (x14 : Bool) (I15 : MI) => some (x14, I15)) (fun j103 => lt (fun (I16 : MI) => j103 false I16) (fun j102 => if x12 = true then (bd2 (f_X6_puts it I13 (((10000 + (I13 36 4)) - 13))) (fun x17 I18 => if x17 = true then (j103 true I18) else (j102 I18))) else (j102 I13))))) else (if (I 36 4) = 21 then (if (I 34 3) < 8 then (lt (st2 I 34 3 ((I 34 3) + 1)) (fun I19 => bd2 (f_X6_holds I19 21) (fun x20 I21 => some (x20, I21)))) else (bd2 (f_X6_fails I 2) (fun x22 I23 => some (x22, I23)))) else (lt (bd2 (f_X6_fails I 1) (fun x24 I25 => some (x24, I25))) (fun j190 => if (I 36 4) = 12 then (bd1 (f_X6_rankOfLatest I) (fun x26 => if 4 ≤ x26 then j190 else (bd2 (f_X6_isKnot it I) (fun x27 I28 => lt (fun (x29 : Bool) (I30 : MI) => some (x29, I30)) (fun j189 => lt (fun (I31 : MI) => j189 false I31) (fun j188 => if x27 = true then (bd2 (f_X6_holds I28 12) (fun x32 I33 => if x32 = true then (j189 true I33) else (j188 I33))) else (j188 I28))))))) else j190)))))

def f_X6_readFormula (it : Nat) (I : MI) : Option (Bool × MI) :=
  lt (st2 I 34 2 0) (fun I1 => lt (st2 I1 34 3 0) (fun I2 => lt (fun (I3 : MI) => bd2 (f_X6_fails I3 1) (fun x4 I5 => some (x4, I5))) (fun j126 => lt (fun (I6 : MI) => bd1 (f_X6_release it I6 1) (fun I7 => some (true, I7))) (fun j51 => fix3 (fun (r14 : Int32 → Int32 → MI → Option (Bool × MI)) (x8 : Int32) (x9 : Int32) (I10 : MI) => if 700 ≤ x9 then (j126 I10) else (bd1 (f_X7_step I10) (fun I11 => lt (lt (fun (x12 : Bool) (I13 : MI) => lt (bi x12) (fun x14 => if x14 = 0 then (some (false, I13)) else (lt (fun (x15 : Bool) => lt (bi x15) (fun x16 => lt (x9 + 1) (fun x17 => r14 x16 x17 I13))) (fun j119 => lt (fun (x18 : Int32) => j119 true) (fun j114 => if (I13 36 4) = 33 then (j114 x9) else (if (I13 36 4) = 22 then (j114 x9) else (bd1 (f_X7_isName I13) (fun x19 => if x19 = true then (j114 x9) else (j119 false))))))))) (fun j73 => if x8 = 0 then (bd2 (f_X6_readValue it I11) (fun x20 I21 => j73 x20 I21)) else (bd2 (f_X6_readBehindValue it I11) (fun x22 I23 => j73 x22 I23)))) (fun j58 => if x8 = 0 then j58 else (if (I11 36 4) = 20 then (if (I11 34 3) = 0 then (j51 I11) else j58) else j58))))) FU 0 0 I2))))

def f_X6_readLaw (it : Nat) (I : MI) : Option (Bool × MI) :=
  bd1 (f_X7_step I) (fun I1 => lt (bd2 (f_X6_fails I1 1) (fun x2 I3 => some (x2, I3))) (fun j31 => if (I1 36 4) < 7 then j31 else (if (I1 36 4) ≤ 9 then (lt ((I1 36 4) - 7) (fun x4 => bd1 (f_X4_has I1 ((it + 11)) x4) (fun x5 => if x5 = true then (bd2 (f_X6_fails I1 3) (fun x6 I7 => some (x6, I7))) else (bd1 (f_X4_begin I1 ((it + 11)) x4) (fun I8 => bd2 (f_X6_readFormula it I8) (fun x9 I10 => if x9 = true then (bd1 (f_X4_end I10 ((it + 11)) x4) (fun I11 => some (true, I11))) else (some (false, I10)))))))) else j31)))

def f_X6_readLine (it : Nat) (I : MI) : Option (Bool × MI) :=
  sw (I 36 4) [(0, bd2 (f_X6_readKind it I) (fun x1 I2 => lt (fun (x3 : Bool) (I4 : MI) => some (x3, I4)) (fun j67 => lt (fun (I5 : MI) => j67 false I5) (fun j66 => if x1 = true then (bd2 (f_X6_isEnd I2) (fun x6 I7 => if x6 = true then (j67 true I7) else (j66 I7))) else (j66 I2))))), (1, bd2 (f_X6_readHouse it I) (fun x8 I9 => lt (fun (x10 : Bool) (I11 : MI) => some (x10, I11)) (fun j87 => lt (fun (I12 : MI) => j87 false I12) (fun j86 => if x8 = true then (bd2 (f_X6_isEnd I9) (fun x13 I14 => if x13 = true then (j87 true I14) else (j86 I14))) else (j86 I9))))), (2, bd2 (f_X6_readDay it I) (fun x15 I16 => lt (fun (x17 : Bool) (I18 : MI) => some (x17, I18)) (fun j107 => lt (fun (I19 : MI) => j107 false I19) (fun j106 => if x15 = true then (bd2 (f_X6_isEnd I16) (fun x20 I21 => if x20 = true then (j107 true I21) else (j106 I21))) else (j106 I16))))), (3, bd2 (f_X6_readWork it I) (fun x22 I23 => lt (fun (x24 : Bool) (I25 : MI) => some (x24, I25)) (fun j127 => lt (fun (I26 : MI) => j127 false I26) (fun j126 => if x22 = true then (bd2 (f_X6_isEnd I23) (fun x27 I28 => if x27 = true then (j127 true I28) else (j126 I28))) else (j126 I23))))), (4, bd2 (f_X6_readTerm it I) (fun x29 I30 => lt (fun (x31 : Bool) (I32 : MI) => some (x31, I32)) (fun j147 => lt (fun (I33 : MI) => j147 false I33) (fun j146 => if x29 = true then (bd2 (f_X6_isEnd I30) (fun x34 I35 => if x34 = true then (j147 true I35) else (j146 I35))) else (j146 I30))))), (5, bd2 (f_X6_readSeed it I) (fun x36 I37 => lt (fun (x38 : Bool) (I39 : MI) => some (x38, I39)) (fun j167 => lt (fun (I40 : MI) => j167 false I40) (fun j166 => if x36 = true then (bd2 (f_X6_isEnd I37) (fun x41 I42 => if x41 = true then (j167 true I42) else (j166 I42))) else (j166 I37))))), (6, bd2 (f_X6_readLaw it I) (fun x43 I44 => some (x43, I44)))] (bd2 (f_X6_fails I 1) (fun x45 I46 => some (x45, I46)))

def f_X6_read (it : Nat) (I : MI) (a1 : Int32) (pb : Nat) : Option (Bool × Nat × MI) :=
  bd1 (f_X0_clear I pb) (fun I1 => bd1 (f_X7_begin I1 a1) (fun I2 => lt (st2 I2 34 4 0) (fun I3 => lt (st2 I3 34 5 0) (fun I4 => lt (st2 I4 34 6 (-1)) (fun I5 => bd1 (f_X7_step I5) (fun I6 => lt (fun (I7 : MI) => bd1 (f_X0_settle I7 pb) (fun I8 => some (true, pb, I8))) (fun j93 => fix1 (fun (r42 : MI → Option (Bool × Nat × MI)) (I9 : MI) => if (I9 36 4) = 35 then (j93 I9) else (if 700 ≤ (I9 34 4) then (j93 I9) else (bd2 (f_X6_readLine pb I9) (fun x10 I11 => if x10 = true then (lt (st2 I11 34 4 ((I11 34 4) + 1)) (fun I12 => bd1 (f_X7_step I12) (fun I13 => r42 I13))) else (some (false, pb, I11)))))) FU I6)))))))

def f_X8_start (I : MI) (pt : Nat) (pb : Nat) : Option (MI) :=
  lt (fun (I1 : MI) => lt (st2 I1 pt 7 0) (fun I2 => lt (st2 I2 pt 8 0) (fun I3 => lt (st2 I3 pt 9 (-1)) (fun I4 => lt (st2 I4 pt 10 (I4 pb 16)) (fun I5 => some (I5)))))) (fun j80 => fix2 (fun (r2 : Int32 → MI → Option (MI)) (x6 : Int32) (I7 : MI) => if 6 ≤ x6 then (j80 I7) else (lt (fun (x8 : Int32) (x9 : Int32) => gd (inb x9 6) (lt (st2 I7 (pt + 1) (ix x9) x8) (fun I10 => gd (inb x6 6) (lt (st2 I10 (pt + 2) (ix x6) 0) (fun I11 => gd (inb x6 6) (lt (st2 I11 (pt + 3) (ix x6) 0) (fun I12 => gd (inb x6 6) (lt (st2 I12 (pt + 4) (ix x6) 0) (fun I13 => gd (is01 0) (gd (inb x6 6) (lt (st2 I13 (pt + 5) (ix x6) 0) (fun I14 => gd (is01 0) (gd (inb x6 6) (lt (st2 I14 (pt + 6) (ix x6) 0) (fun I15 => gd (inb x6 6) (lt (st2 I15 (pt + 7) (ix x6) 0) (fun I16 => lt (x6 + 1) (fun x17 => r2 x17 I16)))))))))))))))))) (fun j31 => if (I7 pb 12) ≤ x6 then (j31 0 x6) else (gd (inb x6 6) (j31 (I7 (pb + 5) (ix x6)) x6))))) FU 0 I)

def f_X8_takeFrom (I : MI) (pt : Nat) (po : Nat) : Option (MI) :=
  lt (fun (I1 : MI) => lt (st2 I1 pt 7 (I1 po 7)) (fun I2 => lt (st2 I2 pt 8 (I2 po 8)) (fun I3 => lt (st2 I3 pt 9 (I3 po 9)) (fun I4 => lt (st2 I4 pt 10 (I4 po 10)) (fun I5 => some (I5)))))) (fun j98 => fix2 (fun (r2 : Int32 → MI → Option (MI)) (x6 : Int32) (I7 : MI) => if 6 ≤ x6 then (j98 I7) else (gd (inb x6 6) (gd (inb x6 6) (lt (st2 I7 (pt + 1) (ix x6) (I7 (po + 1) (ix x6))) (fun I8 => gd (inb x6 6) (gd (inb x6 6) (lt (st2 I8 (pt + 2) (ix x6) (I8 (po + 2) (ix x6))) (fun I9 => gd (inb x6 6) (gd (inb x6 6) (lt (st2 I9 (pt + 3) (ix x6) (I9 (po + 3) (ix x6))) (fun I10 => gd (inb x6 6) (gd (inb x6 6) (lt (st2 I10 (pt + 4) (ix x6) (I10 (po + 4) (ix x6))) (fun I11 => gd (inb x6 6) (gd (is01 (I11 (po + 5) (ix x6))) (gd (inb x6 6) (lt (st2 I11 (pt + 5) (ix x6) (I11 (po + 5) (ix x6))) (fun I12 => gd (inb x6 6) (gd (is01 (I12 (po + 6) (ix x6))) (gd (inb x6 6) (lt (st2 I12 (pt + 6) (ix x6) (I12 (po + 6) (ix x6))) (fun I13 => gd (inb x6 6) (gd (inb x6 6) (lt (st2 I13 (pt + 7) (ix x6) (I13 (po + 7) (ix x6))) (fun I14 => lt (x6 + 1) (fun x15 => r2 x15 I14)))))))))))))))))))))))))) FU 0 I)

def f_X8_worthOf (I : MI) (pt : Nat) (a1 : Int32) : Option (Int32) :=
  gd (inb a1 6) (gd (inb a1 6) (some ((I (pt + 1) (ix a1)) - (I (pt + 2) (ix a1)))))

def f_X8_howManySoldUp (I : MI) (pt : Nat) : Option (Int32) :=
  fix2 (fun (r13 : Int32 → Int32 → Option (Int32)) (x1 : Int32) (x2 : Int32) => if 6 ≤ x2 then (some (x1)) else (gd (inb x2 6) (lt (I (pt + 5) (ix x2)) (fun x3 => lt (fun (x4 : Int32) => lt (x2 + 1) (fun x5 => r13 x4 x5)) (fun j33 => if x3 = 0 then (j33 x1) else (lt (x1 + 1) (fun x6 => j33 x6))))))) FU 0 0

def f_X8_shows (I : MI) (pt : Nat) (a1 : Int32) (a2 : Int32) : Option (Bool) :=
  sw a1 [(0, gd (inb a2 6) (gd (is01 (I (pt + 5) (ix a2))) (some (decide (I (pt + 5) (ix a2) = 1))))), (1, gd (inb a2 6) (lt (fun (x1 : Bool) => some (x1)) (fun j49 => if 0 ≤ (I (pt + 2) (ix a2)) then (j49 false) else (j49 true))))] (bd1 (f_X8_worthOf I pt a2) (fun x2 => lt (fun (x3 : Bool) => some (x3)) (fun j63 => if 0 ≤ x2 then (j63 false) else (j63 true))))

def f_X9_clear (I : MI) : Option (MI) :=
  lt (st2 I 64 5 0) (fun I1 => some (I1))

def f_X9_forgetFirst (I : MI) : Option (MI) :=
  fix2 (fun (r2 : Int32 → MI → Option (MI)) (x1 : Int32) (I2 : MI) => if 20 ≤ x1 then (lt (st2 I2 64 5 19) (fun I3 => some (I3))) else (gd (inb x1 20) (gd (inb (x1 - 1) 20) (lt (st2 I2 65 (ix (x1 - 1)) (I2 65 (ix x1))) (fun I4 => gd (inb x1 20) (gd (inb (x1 - 1) 20) (lt (st2 I4 66 (ix (x1 - 1)) (I4 66 (ix x1))) (fun I5 => gd (inb x1 20) (gd (inb (x1 - 1) 20) (lt (st2 I5 67 (ix (x1 - 1)) (I5 67 (ix x1))) (fun I6 => gd (inb x1 20) (gd (inb (x1 - 1) 20) (lt (st2 I6 68 (ix (x1 - 1)) (I6 68 (ix x1))) (fun I7 => gd (inb x1 20) (gd (inb (x1 - 1) 20) (lt (st2 I7 69 (ix (x1 - 1)) (I7 69 (ix x1))) (fun I8 => lt (x1 + 1) (fun x9 => r2 x9 I8)))))))))))))))))) FU 1 I

def f_X9_add (I : MI) (a1 : Int32) (a2 : Int32) : Option (MI) :=
  lt (fun (I1 : MI) => gd (inb (I1 64 5) 20) (lt (st2 I1 65 (ix (I1 64 5)) a1) (fun I2 => gd (inb (I2 64 5) 20) (lt (st2 I2 66 (ix (I2 64 5)) a2) (fun I3 => lt (st2 I3 64 5 ((I3 64 5) + 1)) (fun I4 => some (I4))))))) (fun j13 => if (I 64 5) < 20 then (j13 I) else (bd1 (f_X9_forgetFirst I) (fun I5 => j13 I5)))

def f_X9_drew (I : MI) (a1 : Int32) : Option (MI) :=
  bd1 (f_X9_add I 0 a1) (fun I1 => some (I1))

def f_X9_sent (I : MI) (a1 : Int32) : Option (MI) :=
  bd1 (f_X9_add I 1 a1) (fun I1 => some (I1))

def f_X9_lent (I : MI) (pt : Nat) (a2 : Int32) (a3 : Int32) : Option (MI) :=
  bd1 (f_X9_add I 2 a2) (fun I1 => gd (inb ((I1 64 5) - 1) 20) (lt (st2 I1 67 (ix ((I1 64 5) - 1)) a3) (fun I2 => gd (inb a2 6) (gd (inb ((I2 64 5) - 1) 20) (lt (st2 I2 68 (ix ((I2 64 5) - 1)) (I2 (pt + 1) (ix a2))) (fun I3 => gd (inb a3 6) (gd (inb ((I3 64 5) - 1) 20) (lt (st2 I3 69 (ix ((I3 64 5) - 1)) (I3 (pt + 1) (ix a3))) (fun I4 => some (I4))))))))))

def f_X9_undoLatest (I : MI) (pt : Nat) : Option (Bool × MI) :=
  if 1 ≤ (I 64 5) then (lt (st2 I 64 5 ((I 64 5) - 1)) (fun I1 => gd (inb (I1 64 5) 20) (lt (I1 66 (ix (I1 64 5))) (fun x2 => gd (inb (I1 64 5) 20) (lt (fun (I3 : MI) => some (true, I3)) (fun j133 => sw (I1 65 (ix (I1 64 5))) [(0, gd (inb x2 6) (lt (fun (x4 : Bool) (x5 : Int32) => gd (is01 (bi x4)) (gd (inb x5 6) (lt (st2 I1 (pt + 6) (ix x5) (bi x4)) (fun I6 => j133 I6)))) (fun j83 => if (I1 (pt + 6) (ix x2)) = 0 then (j83 true x2) else (j83 false x2)))), (1, lt (st2 I1 pt 9 x2) (fun I7 => j133 I7))] (gd (inb (I1 64 5) 20) (gd (inb x2 6) (lt (st2 I1 (pt + 1) (ix x2) (I1 68 (ix (I1 64 5)))) (fun I8 => gd (inb (I8 64 5) 20) (gd (inb (I8 64 5) 20) (gd (inb (I8 67 (ix (I8 64 5))) 6) (lt (st2 I8 (pt + 1) (ix (I8 67 (ix (I8 64 5)))) (I8 69 (ix (I8 64 5)))) (fun I9 => j133 I9)))))))))))))) else (some (false, I))

def f_X10_putNumber (I : MI) (a1 : Int32) : Option (MI) :=
  lt (fun (I1 : MI) => some (I1)) (fun j46 => fix2 (fun (r3 : Int32 → MI → Option (MI)) (x2 : Int32) (I3 : MI) => if x2 < 0 then (j46 I3) else (if 700 ≤ (I3 0 1) then (j46 I3) else (gd (inb (I3 0 1) 700) (lt (st2 I3 1 (ix (I3 0 1)) (i2b (i2b (a1 >>> (x2 &&& 31))))) (fun I4 => lt (st2 I4 0 1 ((I4 0 1) + 1)) (fun I5 => lt (x2 + (-8)) (fun x6 => r3 x6 I5))))))) FU 24 I)

def f_X10_feed (I : MI) (a1 : Int32) (a2 : Int32) (a3 : Int32) (a4 : Int32) (a5 : Int32) : Option (Int32 × MI) :=
  if ((I 0 1) + 20) ≤ 700 then (bd1 (f_X10_putNumber I a1) (fun I1 => bd1 (f_X10_putNumber I1 a2) (fun I2 => bd1 (f_X10_putNumber I2 a3) (fun I3 => bd1 (f_X10_putNumber I3 a4) (fun I4 => bd1 (f_X10_putNumber I4 a5) (fun I5 => some (I5 0 1, I5))))))) else (some ((-1), I))

def f_X10_text (bk : Nat) (dr : Nat) (it : Nat) (I : MI) (a1 : Int32) : Option (Int32 × Nat × Nat × Nat × MI) :=
  lt (some ((-2), bk, dr, it, I)) (fun j12 => if a1 < 0 then j12 else (if a1 ≤ (I 0 1) then (lt (st2 I 0 1 0) (fun I1 => bd3 (f_X6_read it I1 a1 dr) (fun x2 it3 I4 => if x2 = true then (bd1 (f_X8_start I4 38 dr) (fun I5 => bd1 (f_X2_clear I5) (fun I6 => bd1 (f_X9_clear I6) (fun I7 => gd (is01 0) (lt (st2 I7 0 8 0) (fun I8 => some (I8 34 4, dr, bk, it3, I8))))))) else (some ((-1), bk, dr, it3, I4))))) else j12))

def f_X10_fault (I : MI) (a1 : Int32) : Option (Int32) :=
  sw a1 [(0, some (I 34 5)), (1, some (I 34 6))] (some ((-1)))

def f_X10_named (bk : Nat) (I : MI) (a1 : Int32) (a2 : Int32) : Option (Int32) :=
  sw a1 [(0, bd1 (f_X0_kindNamed I bk a2) (fun x1 => some (x1))), (1, bd1 (f_X0_houseNamed I bk a2) (fun x2 => some (x2)))] (some ((-1)))

def f_X10_isKind (bk : Nat) (I : MI) (a1 : Int32) : Option (Bool) :=
  bd1 (f_X10_isWithin a1 0 (((I bk 11) - 1))) (fun x1 => some (x1))

def f_X10_kind (bk : Nat) (I : MI) (a1 : Int32) (a2 : Int32) : Option (Int32) :=
  bd1 (f_X10_isKind bk I a1) (fun x1 => if x1 = true then (sw a2 [(0, gd (inb a1 6) (some (I (bk + 2) (ix a1)))), (1, gd (inb a1 6) (some (I (bk + 3) (ix a1)))), (2, gd (inb a1 6) (some (I 45 (ix a1))))] (some ((-1)))) else (some ((-1))))

def f_X10_kindIn (bk : Nat) (I : MI) (a1 : Int32) : Option (Int32) :=
  lt (fun (x1 : Int32) => some (x1)) (fun j41 => lt (bd1 (f_X0_kindAsItGoes I bk (((I 38 8) + a1))) (fun x2 => j41 x2)) (fun j25 => if a1 = 0 then (if (I 38 9) = (-1) then j25 else (j41 (I 38 9))) else j25))

def f_X10_weather (bk : Nat) (I : MI) (a1 : Int32) : Option (Int32) :=
  bd1 (f_X10_isWithin a1 0 200) (fun x1 => if x1 = true then (bd1 (f_X10_kindIn bk I a1) (fun x2 => lt (fun (x3 : Int32) => some (x3)) (fun j30 => if x2 = (-1) then (j30 (-2)) else (j30 x2)))) else (some ((-1))))

def f_X10_isHouse (bk : Nat) (I : MI) (a1 : Int32) : Option (Bool) :=
  bd1 (f_X10_isWithin a1 0 (((I bk 12) - 1))) (fun x1 => some (x1))

def f_X10_law (bk : Nat) (I : MI) (J : MJ) (a1 : Int32) (a2 : Int32) (a3 : Int32) : Option (Int64 × MI × MJ) :=
  bd1 (f_X10_isWithin a1 0 2) (fun x1 => lt (some ((-9223372036854775808), I, J)) (fun j25 => if x1 = true then (bd1 (f_X10_isHouse bk I a2) (fun x2 => if x2 = true then (bd1 (f_X10_isKind bk I a3) (fun x3 => if x3 = true then (bd1 (f_X1_plain I) (fun I4 => bd1 (f_X1_name I4 J bk 38 a2 a3) (fun J5 => bd2 (f_X4_value I4 J5 ((bk + 11)) a1 63 7) (fun x6 J7 => some (x6, I4, J7))))) else j25)) else j25)) else j25))

def f_X10_richest (bk : Nat) (I : MI) : Option (Int32) :=
  fix2 (fun (r5 : Int32 → Int32 → Option (Int32)) (x1 : Int32) (x2 : Int32) => if (I bk 12) ≤ x2 then (some (x1)) else (gd (inb x2 6) (lt (fun (x3 : Int32) => lt (x2 + 1) (fun x4 => r5 x3 x4)) (fun j55 => if (I 43 (ix x2)) = 0 then (lt (j55 x2) (fun j53 => if x1 = (-2) then j53 else (bd1 (f_X8_worthOf I 38 x2) (fun x5 => bd1 (f_X8_worthOf I 38 x1) (fun x6 => if x5 ≤ x6 then (j55 x1) else j53))))) else (j55 x1))))) FU (-2) 0

def f_X10_dearest (bk : Nat) (I : MI) : Option (Int32) :=
  fix2 (fun (r5 : Int32 → Int32 → Option (Int32)) (x1 : Int32) (x2 : Int32) => if (I bk 11) ≤ x2 then (some (x1)) else (lt (fun (x3 : Int32) => lt (x2 + 1) (fun x4 => r5 x3 x4)) (fun j65 => lt (fun (x5 : Int32) => j65 x5) (fun j63 => if x1 = (-2) then (j63 x2) else (gd (inb x2 6) (gd (inb x2 6) (gd (inb x1 6) (gd (inb x1 6) (if ((I (bk + 2) (ix x2)) * (I (bk + 3) (ix x2))) ≤ ((I (bk + 2) (ix x1)) * (I (bk + 3) (ix x1))) then (j65 x1) else (j63 x2)))))))))) FU (-2) 0

def f_X10_areHouses (bk : Nat) (I : MI) (a1 : Int32) : Option (Bool) :=
  bd1 (f_X10_isWithin a1 0 (((1 <<< ((I bk 12) &&& 31)) - 1))) (fun x1 => some (x1))

def f_X10_sumOf (bk : Nat) (I : MI) (a1 : Int32) : Option (Int32) :=
  fix2 (fun (r4 : Int32 → Int32 → Option (Int32)) (x1 : Int32) (x2 : Int32) => if (I bk 12) ≤ x2 then (some (x1)) else (bd1 (f_X10_isAmong x2 a1) (fun x3 => lt (fun (x4 : Int32) => lt (x2 + 1) (fun x5 => r4 x4 x5)) (fun j34 => if x3 = true then (bd1 (f_X8_worthOf I 38 x2) (fun x6 => lt (x1 + x6) (fun x7 => j34 x7))) else (j34 x1))))) FU 0 0

def f_X10_have (bk : Nat) (I : MI) (a1 : Int32) : Option (Int32) :=
  bd1 (f_X10_areHouses bk I a1) (fun x1 => lt (fun (x2 : Int32) => some (x2)) (fun j18 => if x1 = true then (bd1 (f_X10_sumOf bk I a1) (fun x3 => j18 x3)) else (j18 (-2147483648))))

def f_J6_bitCount_0f7a4 (a1 : Int32) : Option (Int32) :=
  lt (a1 - ((iushr a1 1) &&& 1431655765)) (fun x1 => lt ((x1 &&& 858993459) + ((iushr x1 2) &&& 858993459)) (fun x2 => lt ((x2 + (iushr x2 4)) &&& 252645135) (fun x3 => lt (x3 + (iushr x3 8)) (fun x4 => lt (x4 + (iushr x4 16)) (fun x5 => some (x5 &&& 63))))))

def f_X10_noneSoldUp (bk : Nat) (I : MI) (a1 : Int32) : Option (Bool) :=
  fix1 (fun (r2 : Int32 → Option (Bool)) (x1 : Int32) => if (I bk 12) ≤ x1 then (some (true)) else (bd1 (f_X10_isAmong x1 a1) (fun x2 => lt (lt (x1 + 1) (fun x3 => r2 x3)) (fun j35 => if x2 = true then (gd (inb x1 6) (if (I 43 (ix x1)) = 0 then j35 else (some (false)))) else j35)))) FU 0

def f_X10_among (bk : Nat) (I : MI) (a1 : Int32) : Option (Int32) :=
  bd1 (f_X10_isWithin a1 1 9999) (fun x1 => if x1 = true then (fix2 (fun (r18 : Int32 → Int32 → Option (Int32)) (x2 : Int32) (x3 : Int32) => if (1 <<< ((I bk 12) &&& 31)) ≤ x3 then (some (x2)) else (lt (fun (x4 : Bool) => lt (bi x4) (fun x5 => lt (fun (x6 : Int32) => lt (x3 + 1) (fun x7 => r18 x6 x7)) (fun j79 => if x5 = 0 then (j79 x2) else (bd1 (f_X10_noneSoldUp bk I x3) (fun x8 => if x8 = true then (bd1 (f_X10_sumOf bk I x3) (fun x9 => if x9 < a1 then (j79 x2) else (j79 x3))) else (j79 x2)))))) (fun j53 => lt (fun (x10 : Int32) (x11 : Int32) => j53 true) (fun j48 => if x2 = (-2) then (j48 x2 x3) else (bd1 (f_J6_bitCount_0f7a4 x3) (fun x12 => bd1 (f_J6_bitCount_0f7a4 x2) (fun x13 => if x13 ≤ x12 then (j53 false) else (j48 x2 x3)))))))) FU (-2) 1) else (some ((-1))))

def f_X10_termIn (bk : Nat) (I : MI) : Option (Int32) :=
  bd1 (f_X0_daysToTerm I bk ((I 38 8))) (fun x1 => some (x1))

def f_X10_sumOfRow (I : MI) (pa : Nat) (na : Nat) : Option (Int32) :=
  lt (Int32.ofNat na) (fun x1 => fix2 (fun (r10 : Int32 → Int32 → Option (Int32)) (x2 : Int32) (x3 : Int32) => if x1 ≤ x3 then (some (x2)) else (gd (inb x3 na) (lt (I pa (ix x3)) (fun x4 => lt (x2 + x4) (fun x5 => lt (x3 + 1) (fun x6 => r10 x5 x6)))))) FU 0 0)

def f_X10_count (bk : Nat) (I : MI) (a1 : Int32) : Option (Int32) :=
  sw a1 [(0, some (I bk 11)), (1, some (I bk 12)), (2, some (I bk 13)), (3, some (I (bk + 11) 4)), (4, some (I 38 8)), (5, bd1 (f_X8_howManySoldUp I 38) (fun x1 => some (x1))), (6, bd1 (f_X10_sumOfRow I 39 6) (fun x2 => some (x2))), (7, bd1 (f_X10_sumOfRow I 40 6) (fun x3 => some (x3))), (8, bd1 (f_X10_sumOfRow I 42 6) (fun x4 => some (x4))), (9, some (I 38 7)), (10, some (I 70 5)), (11, bd1 (f_X2_knownCount I) (fun x5 => some (x5))), (12, some (I 64 5))] (some ((-1)))

def f_X10_blind (bk : Nat) (I : MI) (a1 : Int32) : Option (Int32 × MI) :=
  bd1 (f_X10_isHouse bk I a1) (fun x1 => if x1 = true then (bd1 (f_X9_drew I a1) (fun I2 => gd (inb a1 6) (lt (fun (x3 : Bool) (x4 : Int32) => gd (is01 (bi x3)) (gd (inb x4 6) (lt (st2 I2 44 (ix x4) (bi x3)) (fun I5 => gd (inb a1 6) (lt (fun (x6 : Bool) => some (bi x6, I5)) (fun j61 => if (I5 44 (ix a1)) = 0 then (j61 false) else (j61 true))))))) (fun j43 => if (I2 44 (ix a1)) = 0 then (j43 true a1) else (j43 false a1))))) else (some ((-1), I)))

def f_X10_send (bk : Nat) (I : MI) (a1 : Int32) : Option (Bool × MI) :=
  bd1 (f_X10_isKind bk I a1) (fun x1 => if x1 = true then (bd1 (f_X9_sent I ((I 38 9))) (fun I2 => lt (st2 I2 38 9 a1) (fun I3 => some (true, I3)))) else (some (false, I)))

def f_X10_lend (bk : Nat) (I : MI) (a1 : Int32) (a2 : Int32) (a3 : Int32) : Option (Int32 × MI) :=
  bd1 (f_X10_isHouse bk I a1) (fun x1 => lt (some ((-1), I)) (fun j32 => if x1 = true then (bd1 (f_X10_isHouse bk I a2) (fun x2 => if x2 = true then (if a1 = a2 then j32 else (bd1 (f_X10_isWithin a3 1 999) (fun x3 => if x3 = true then (gd (inb a1 6) (lt (some ((-2), I)) (fun j71 => if (I 43 (ix a1)) = 0 then (gd (inb a2 6) (if (I 43 (ix a2)) = 0 then (gd (inb a1 6) (if a3 ≤ (I 39 (ix a1)) then (bd1 (f_X9_lent I 38 a1 a2) (fun I4 => gd (inb a1 6) (gd (inb a1 6) (lt (st2 I4 39 (ix a1) ((I4 39 (ix a1)) - a3)) (fun I5 => gd (inb a2 6) (gd (inb a2 6) (lt (st2 I5 39 (ix a2) (imin 99999 ((I5 39 (ix a2)) + a3))) (fun I6 => gd (inb a2 6) (some (I6 39 (ix a2), I6)))))))))) else j71)) else j71)) else j71))) else j32))) else j32)) else j32))

def f_X10_go (bk : Nat) (I : MI) (J : MJ) (a1 : Int32) : Option (Int32 × MI × MJ) :=
  bd1 (f_X10_isWithin a1 0 200) (fun x1 => lt (some ((-1), I, J)) (fun j26 => if x1 = true then (if ((I 38 8) + a1) ≤ 9000 then (bd1 (f_X1_plain I) (fun I2 => gd (is01 1) (lt (st2 I2 62 1 1) (fun I3 => lt (fun (I4 : MI) (J5 : MJ) => lt (fun (I6 : MI) => some (I6 38 8, I6, J5)) (fun j83 => if a1 ≤ 0 then (j83 I4) else (bd1 (f_X9_clear I4) (fun I7 => j83 I7)))) (fun j72 => fix3 (fun (r45 : Int32 → MI → MJ → Option (Int32 × MI × MJ)) (x8 : Int32) (I9 : MI) (J10 : MJ) => if a1 ≤ x8 then (j72 I9 J10) else (bd2 (f_X1_pass I9 J10 bk 38 (-1)) (fun I11 J12 => lt (x8 + 1) (fun x13 => r45 x13 I11 J12)))) FU 0 I3 J))))) else j26) else j26))

def f_X10_undo (I : MI) : Option (Int32 × MI) :=
  bd2 (f_X9_undoLatest I 38) (fun x1 I2 => lt (fun (x3 : Int32) => some (x3, I2)) (fun j25 => if x1 = true then (j25 (I2 64 5)) else (j25 (-1))))

def f_X10_keep (I : MI) : Option (Int32 × MI) :=
  bd1 (f_X8_takeFrom I 54 38) (fun I1 => gd (is01 1) (lt (st2 I1 0 8 1) (fun I2 => some (I2 38 8, I2))))

def f_X10_back (I : MI) : Option (Int32 × MI) :=
  if (I 0 8) = 0 then (some ((-1), I)) else (bd1 (f_X8_takeFrom I 38 54) (fun I1 => bd1 (f_X9_clear I1) (fun I2 => some (I2 38 8, I2))))

def f_X10_rehearse (I : MI) : Option (MI) :=
  bd1 (f_X1_plain I) (fun I1 => bd1 (f_X8_takeFrom I1 46 38) (fun I2 => some (I2)))

def f_X10_passTrial (bk : Nat) (I : MI) (J : MJ) (a1 : Int32) (a2 : Int32) : Option (MI × MJ) :=
  fix3 (fun (r2 : Int32 → MI → MJ → Option (MI × MJ)) (x1 : Int32) (I2 : MI) (J3 : MJ) => if a1 ≤ x1 then (some (I2, J3)) else (bd2 (f_X1_pass I2 J3 bk 46 a2) (fun I4 J5 => lt (x1 + 1) (fun x6 => r2 x6 I4 J5)))) FU 0 I J

def f_X10_ahead (bk : Nat) (I : MI) (J : MJ) (a1 : Int32) (a2 : Int32) (a3 : Int32) : Option (Int32 × MI × MJ) :=
  bd1 (f_X10_isWithin a1 0 200) (fun x1 => lt (some ((-2147483648), I, J)) (fun j33 => if x1 = true then (bd1 (f_X10_isWithin a2 0 4) (fun x2 => if x2 = true then (lt (bd1 (f_X10_rehearse I) (fun I3 => lt (fun (x4 : Int32) (x5 : Int32) => bd2 (f_X10_passTrial bk I3 J x5 x4) (fun I6 J7 => sw a2 [(0, gd (inb a3 6) (some (I6 47 (ix a3), I6, J7))), (1, gd (inb a3 6) (some (I6 48 (ix a3), I6, J7))), (2, gd (inb a3 6) (some (I6 49 (ix a3), I6, J7))), (3, bd1 (f_X8_howManySoldUp I6 46) (fun x8 => some (x8, I6, J7)))] (bd1 (f_X10_sumOfRow I6 50 6) (fun x9 => bd1 (f_X10_sumOfRow I6 42 6) (fun x10 => some (x9 - x10, I6, J7)))))) (fun j52 => if 3 ≤ a2 then (j52 (-1) a1) else (j52 a3 a1)))) (fun j36 => if 3 ≤ a2 then j36 else (bd1 (f_X10_isHouse bk I a3) (fun x11 => if x11 = true then j36 else j33)))) else j33)) else j33))

def f_X10_daysUntil (bk : Nat) (I : MI) (J : MJ) (a1 : Int32) (a2 : Int32) : Option (Int32 × MI × MJ) :=
  bd1 (f_X10_isHouse bk I a2) (fun x1 => if x1 = true then (bd1 (f_X10_rehearse I) (fun I2 => fix3 (fun (r16 : Int32 → MI → MJ → Option (Int32 × MI × MJ)) (x3 : Int32) (I4 : MI) (J5 : MJ) => if 200 ≤ x3 then (some ((-2), I4, J5)) else (bd1 (f_X8_shows I4 46 a1 a2) (fun x6 => if x6 = true then (some (x3, I4, J5)) else (bd2 (f_X1_pass I4 J5 bk 46 a2) (fun I7 J8 => lt (x3 + 1) (fun x9 => r16 x9 I7 J8)))))) FU 0 I2 J)) else (some ((-1), I, J)))

def f_X10_sold (bk : Nat) (I : MI) (J : MJ) (a1 : Int32) : Option (Int32 × MI × MJ) :=
  bd3 (f_X10_daysUntil bk I J 0 a1) (fun x1 I2 J3 => some (x1, I2, J3))

def f_X10_credit (bk : Nat) (I : MI) (J : MJ) (a1 : Int32) : Option (Int32 × MI × MJ) :=
  bd3 (f_X10_daysUntil bk I J 1 a1) (fun x1 I2 J3 => some (x1, I2, J3))

def f_X10_owes (bk : Nat) (I : MI) (J : MJ) (a1 : Int32) : Option (Int32 × MI × MJ) :=
  bd3 (f_X10_daysUntil bk I J 2 a1) (fun x1 I2 J3 => some (x1, I2, J3))

def f_X10_often (bk : Nat) (I : MI) (a1 : Int32) (a2 : Int32) : Option (Int32) :=
  bd1 (f_X10_isKind bk I a1) (fun x1 => lt (some ((-1))) (fun j19 => if x1 = true then (bd1 (f_X10_isWithin a2 0 200) (fun x2 => if x2 = true then (fix2 (fun (r26 : Int32 → Int32 → Option (Int32)) (x3 : Int32) (x4 : Int32) => if a2 ≤ x4 then (some (x3)) else (bd1 (f_X10_kindIn bk I x4) (fun x5 => lt (fun (x6 : Int32) => lt (x4 + 1) (fun x7 => r26 x6 x7)) (fun j45 => if x5 = a1 then (lt (x3 + 1) (fun x8 => j45 x8)) else (j45 x3))))) FU 0 0) else j19)) else j19))

def f_X10_plan (bk : Nat) (I : MI) (a1 : Int32) (a2 : Int32) : Option (Int32 × MI) :=
  bd1 (f_X10_isWithin a1 0 8) (fun x1 => lt (some ((-1), I)) (fun j20 => if x1 = true then (bd1 (f_X10_isWithin a2 0 7) (fun x2 => if x2 = true then (lt (fun (I3 : MI) => bd1 (f_X5_lay I3 bk a1) (fun I4 => if a2 = 6 then (some (I4 76 3, I4)) else (if a2 = 7 then (some (I4 76 4, I4)) else (lt (fun (x5 : Int32) => some (x5, I4)) (fun j114 => if (I4 bk 13) ≤ a2 then (j114 (-2)) else (gd (inb a2 6) (j114 (I4 79 (ix a2))))))))) (fun j49 => fix2 (fun (r24 : Int32 → MI → Option (Int32 × MI)) (x6 : Int32) (I7 : MI) => if a1 ≤ x6 then (j49 I7) else (bd1 (f_X10_kindIn bk I7 x6) (fun x8 => gd (inb x6 8) (lt (st2 I7 77 (ix x6) x8) (fun I9 => lt (x6 + 1) (fun x10 => r24 x10 I9)))))) FU 0 I)) else j20)) else j20))

def f_X10_isSoldUpIn (bk : Nat) (I : MI) (J : MJ) (a1 : Int32) (a2 : Int32) (a3 : Int32) : Option (Bool × MI × MJ) :=
  bd1 (f_X10_rehearse I) (fun I1 => gd (is01 a3) (gd (inb a2 6) (lt (st2 I1 52 (ix a2) a3) (fun I2 => bd2 (f_X10_passTrial bk I2 J a1 a2) (fun I3 J4 => gd (inb a2 6) (gd (is01 (I3 51 (ix a2))) (some (decide (I3 51 (ix a2) = 1), I3, J4))))))))

def f_X10_blinds (bk : Nat) (I : MI) (J : MJ) (a1 : Int32) (a2 : Int32) : Option (Int32 × MI × MJ) :=
  bd1 (f_X10_isWithin a1 0 60) (fun x1 => lt (some ((-1), I, J)) (fun j19 => if x1 = true then (bd1 (f_X10_isWithin a2 0 1) (fun x2 => if x2 = true then (lt (fun (x3 : Int32) (x4 : Int32) (I5 : MI) (J6 : MJ) => lt (fun (x7 : Int32) => some (x7, I5, J6)) (fun j101 => if a2 = 0 then (j101 x3) else (j101 x4))) (fun j91 => fix5 (fun (r29 : Int32 → Int32 → Int32 → MI → MJ → Option (Int32 × MI × MJ)) (x8 : Int32) (x9 : Int32) (x10 : Int32) (I11 : MI) (J12 : MJ) => if (I11 bk 12) ≤ x10 then (j91 x8 x9 I11 J12) else (gd (inb x10 6) (bd3 (f_X10_isSoldUpIn bk I11 J12 a1 x10 ((I11 44 (ix x10)))) (fun x13 I14 J15 => lt (fun (x16 : Int32) (x17 : Int32) (I18 : MI) (J19 : MJ) => lt (x10 + 1) (fun x20 => r29 x16 x17 x20 I18 J19)) (fun j85 => if x13 = true then (bd3 (f_X10_isSoldUpIn bk I14 J15 a1 x10 1) (fun x21 I22 J23 => if x21 = true then (lt (x9 + 1) (fun x24 => j85 x8 x24 I22 J23)) else (lt (x8 ||| (1 <<< (x10 &&& 31))) (fun x25 => j85 x25 x9 I22 J23)))) else (j85 x8 x9 I14 J15)))))) FU 0 0 0 I J)) else j19)) else j19))

def f_X10_rescue (bk : Nat) (I : MI) (J : MJ) : Option (Int32 × MI × MJ) :=
  bd1 (f_X10_rehearse I) (fun I1 => bd1 (f_X10_termIn bk I1) (fun x2 => bd2 (f_X10_passTrial bk I1 J x2 (-1)) (fun I3 J4 => lt (fun (x5 : Int32) (x6 : Int32) => lt (fun (x7 : Int32) => some (x7, I3, J4)) (fun j98 => if x5 ≤ x6 then (j98 x5) else (j98 (-2)))) (fun j87 => fix3 (fun (r19 : Int32 → Int32 → Int32 → Option (Int32 × MI × MJ)) (x8 : Int32) (x9 : Int32) (x10 : Int32) => if (I3 bk 12) ≤ x10 then (j87 x8 x9) else (gd (inb x10 6) (lt (fun (x11 : Int32) (x12 : Int32) => lt (x10 + 1) (fun x13 => r19 x11 x12 x13)) (fun j81 => if (I3 51 (ix x10)) = 0 then (gd (inb x10 6) (lt (x9 + (I3 47 (ix x10))) (fun x14 => j81 x8 x14))) else (gd (inb x10 6) (if (I3 43 (ix x10)) = 0 then (gd (inb x10 6) (lt (x8 - (I3 47 (ix x10))) (fun x15 => j81 x15 x9))) else (j81 x8 x9))))))) FU 0 0 0))))

def f_X10_chance (bk : Nat) (I : MI) (J : MJ) (a1 : Int32) (a2 : Int32) (a3 : Int32) : Option (Int32 × MI × MJ) :=
  lt (some ((-1), I, J)) (fun j22 => if a1 < 0 then j22 else (bd1 (f_X10_isWithin a2 1 99) (fun x1 => if x1 = true then (bd1 (f_X10_isHouse bk I a3) (fun x2 => if x2 = true then (fix5 (fun (r33 : Int32 → Int32 → Int32 → MI → MJ → Option (Int32 × MI × MJ)) (x3 : Int32) (x4 : Int32) (x5 : Int32) (I6 : MI) (J7 : MJ) => if 10 ≤ x5 then (some (x3, I6, J7)) else (bd1 (f_X10_rehearse I6) (fun I8 => gd (is01 1) (lt (st2 I8 62 1 1) (fun I9 => lt (st2 I9 46 10 x4) (fun I10 => bd2 (f_X10_passTrial bk I10 J7 a2 a3) (fun I11 J12 => lt (I11 46 10) (fun x13 => gd (inb a3 6) (lt (fun (x14 : Int32) => lt (x5 + 1) (fun x15 => r33 x14 x13 x15 I11 J12)) (fun j91 => if (I11 51 (ix a3)) = 0 then (j91 x3) else (lt (x3 + 1) (fun x16 => j91 x16)))))))))))) FU 0 a1 0 I J) else j22)) else j22)))

def f_X10_tried (bk : Nat) (I : MI) (J : MJ) (a1 : Int32) (a2 : Int32) (a3 : Int32) : Option (Int32 × MI × MJ) :=
  lt (fun (x1 : Bool) => lt (bi x1) (fun x2 => bd1 (f_X10_isWithin a1 0 4) (fun x3 => lt (some ((-2147483648), I, J)) (fun j49 => if x3 = true then (if x2 = 0 then j49 else (bd1 (f_X10_isWithin a3 0 200) (fun x4 => if x4 = true then (bd1 (f_X10_rehearse I) (fun I5 => lt (fun (I6 : MI) => lt (fun (x7 : Bool) => gd (is01 (bi x7)) (lt (st2 I6 62 2 (bi x7)) (fun I8 => lt (fun (x9 : Bool) => gd (is01 (bi x9)) (lt (st2 I8 62 3 (bi x9)) (fun I10 => lt (fun (x11 : Bool) => gd (is01 (bi x11)) (lt (st2 I10 62 4 (bi x11)) (fun I12 => bd2 (f_X10_passTrial bk I12 J a3 (-1)) (fun I13 J14 => bd1 (f_X10_sumOfRow I13 47 6) (fun x15 => bd1 (f_X10_sumOfRow I13 48 6) (fun x16 => some (x15 - x16, I13, J14))))))) (fun j151 => if a1 = 4 then (j151 true) else (j151 false))))) (fun j134 => if a1 = 3 then (j134 true) else (j134 false))))) (fun j117 => if a1 = 1 then (j117 true) else (j117 false))) (fun j103 => fix2 (fun (r59 : Int32 → MI → Option (Int32 × MI × MJ)) (x17 : Int32) (I18 : MI) => if (I18 bk 12) ≤ x17 then (j103 I18) else (lt (fun (I19 : MI) => lt (x17 + 1) (fun x20 => r59 x20 I19)) (fun j97 => lt (fun (x21 : Int32) => gd (is01 1) (gd (inb x21 6) (lt (st2 I18 52 (ix x21) 1) (fun I22 => j97 I22)))) (fun j86 => if a1 = 0 then (j86 x17) else (if a1 = 2 then (if x17 = a2 then (j86 x17) else (j97 I18)) else (j97 I18)))))) FU 0 I5))) else j49))) else j49)))) (fun j22 => if a1 = 2 then (bd1 (f_X10_isHouse bk I a2) (fun x23 => j22 x23)) else (if a2 = 0 then (j22 true) else (j22 false)))

def f_X10_partsOf (bk : Nat) (I : MI) (a1 : Int32) (a2 : Int32) (a3 : Int32) : Option (Int32) :=
  bd1 (f_X0_alone I bk a2 a3) (fun x1 => fix2 (fun (r17 : Int32 → Int32 → Option (Int32)) (x2 : Int32) (x3 : Int32) => if x1 < x3 then (some (x2)) else (lt (fun (x4 : Int32) => lt (fun (x5 : Int32) => lt (x3 + 1) (fun x6 => r17 x5 x6)) (fun j90 => if x4 ≤ 0 then (j90 x2) else (gd (nz x4) (lt (x2 + (60 / x4)) (fun x7 => j90 x7))))) (fun j75 => fix2 (fun (r30 : Int32 → Int32 → Option (Int32)) (x8 : Int32) (x9 : Int32) => if (I bk 12) ≤ x9 then (j75 x8) else (bd1 (f_X10_isAmong x9 a1) (fun x10 => lt (fun (x11 : Int32) => lt (x9 + 1) (fun x12 => r30 x11 x12)) (fun j69 => if x10 = true then (bd1 (f_X0_alone I bk x9 a3) (fun x13 => if x13 < x3 then (j69 x8) else (lt (x8 + 1) (fun x14 => j69 x14)))) else (j69 x8))))) FU 0 0))) FU 0 1)

def f_X10_share (bk : Nat) (I : MI) (J : MJ) (a1 : Int32) (a2 : Int32) (a3 : Int32) (a4 : Int32) : Option (Int32 × MJ) :=
  bd1 (f_X10_areHouses bk I a1) (fun x1 => lt (some ((-1), J)) (fun j34 => if x1 = true then (bd1 (f_X10_isHouse bk I a2) (fun x2 => if x2 = true then (bd1 (f_X10_isKind bk I a3) (fun x3 => if x3 = true then (bd1 (f_X10_isWithin a4 0 1) (fun x4 => if x4 = true then (bd1 (f_X10_isAmong a2 a1) (fun x5 => lt (fun (x6 : Int64) => bd1 (f_X3_put J x6 60) (fun J7 => bd1 (f_X3_told J7 a4) (fun x8 => some (Int64.toInt32 x8, J7)))) (fun j60 => if x5 = true then (bd1 (f_X10_partsOf bk I a1 a2 a3) (fun x9 => j60 (Int32.toInt64 x9))) else (j60 0)))) else j34)) else j34)) else j34)) else j34))

def f_X10_mostOf (bk : Nat) (I : MI) (a1 : Int32) (a2 : Int32) : Option (Int32) :=
  fix2 (fun (r5 : Int32 → Int32 → Option (Int32)) (x1 : Int32) (x2 : Int32) => if (I bk 12) ≤ x2 then (some (x1)) else (bd1 (f_X10_isAmong x2 a1) (fun x3 => lt (fun (x4 : Int32) => lt (x2 + 1) (fun x5 => r5 x4 x5)) (fun j41 => if x3 = true then (bd1 (f_X0_alone I bk x2 a2) (fun x6 => lt (imax x1 x6) (fun x7 => j41 x7))) else (j41 x1))))) FU 0 0

def f_X10_leave (bk : Nat) (I : MI) (a1 : Int32) (a2 : Int32) : Option (Int32) :=
  lt (some ((-1))) (fun j21 => if a1 < 1 then j21 else (bd1 (f_X10_areHouses bk I a1) (fun x1 => if x1 = true then (bd1 (f_X10_isKind bk I a2) (fun x2 => if x2 = true then (bd1 (f_J6_bitCount_0f7a4 a1) (fun x3 => bd1 (f_X10_mostOf bk I a1 a2) (fun x4 => fix1 (fun (r39 : Int32 → Option (Int32)) (x5 : Int32) => if a1 < x5 then (some ((-2))) else (lt (fun (x6 : Bool) => lt (bi x6) (fun x7 => lt (lt (x5 + 1) (fun x8 => r39 x8)) (fun j89 => if x7 = 0 then j89 else (bd1 (f_X10_mostOf bk I x5 a2) (fun x9 => bd1 (f_J6_bitCount_0f7a4 x5) (fun x10 => if (x10 * x4) ≤ (x9 * x3) then j89 else (some (x5)))))))) (fun j59 => if (x5 &&& a1) = x5 then (j59 true) else (j59 false)))) FU 1))) else j21)) else j21)))

def f_X10_sumOfBetter (bk : Nat) (I : MI) (J : MJ) : Option (Int64) :=
  fix2 (fun (r5 : Int64 → Int32 → Option (Int64)) (x1 : Int64) (x2 : Int32) => if (I bk 11) ≤ x2 then (some (x1)) else (gd (inb x2 6) (gd (inb x2 6) (lt (x1 + ((Int32.toInt64 (I (bk + 3) (ix x2))) * (lmax ((Int32.toInt64 (I (bk + 2) (ix x2))) * (J 80 1)) (J 80 0)))) (fun x3 => lt (x2 + 1) (fun x4 => r5 x3 x4)))))) FU 0 0

def f_X10_waits (bk : Nat) (I : MI) (J : MJ) (a1 : Int32) (a2 : Int32) : Option (Int64 × MJ) :=
  bd1 (f_X10_isWithin a1 0 6) (fun x1 => lt (some ((-1), J)) (fun j19 => if x1 = true then (bd1 (f_X10_isWithin a2 0 1) (fun x2 => if x2 = true then (bd1 (f_X3_put J 0 1) (fun J3 => lt (fun (J4 : MJ) => bd1 (f_X3_told J4 a2) (fun x5 => some (x5, J4))) (fun j86 => fix2 (fun (r34 : Int32 → MJ → Option (Int64 × MJ)) (x6 : Int32) (J7 : MJ) => if a1 ≤ x6 then (j86 J7) else (if (I bk 17) ≤ 0 then (j86 J7) else (bd1 (f_X10_sumOfBetter bk I J7) (fun x8 => bd1 (f_X3_put J7 x8 (((J7 80 1) * (Int32.toInt64 (I bk 17))))) (fun J9 => lt (x6 + 1) (fun x10 => r34 x10 J9)))))) FU 0 J3))) else j19)) else j19))

def f_X10_power (a1 : Int32) (a2 : Int32) : Option (Int64) :=
  fix2 (fun (r5 : Int64 → Int32 → Option (Int64)) (x1 : Int64) (x2 : Int32) => if a2 ≤ x2 then (some (x1)) else (lt (x1 * (Int32.toInt64 a1)) (fun x3 => lt (x2 + 1) (fun x4 => r5 x3 x4)))) FU 1 0

def f_X10_sumOfKinds (bk : Nat) (I : MI) (a1 : Int32) (a2 : Int32) (a3 : Int32) : Option (Int32) :=
  lt (fun (x1 : Int32) => some (x1)) (fun j66 => fix3 (fun (r9 : Int32 → Int32 → Int32 → Option (Int32)) (x2 : Int32) (x3 : Int32) (x4 : Int32) => if a2 ≤ x4 then (j66 x2) else (if (I bk 11) ≤ 0 then (j66 x2) else (gd (nz (I bk 11)) (bd1 (f_X0_alone I bk a3 ((irem x3 (I bk 11)))) (fun x5 => lt (x2 + x5) (fun x6 => gd (nz (I bk 11)) (lt (x3 / (I bk 11)) (fun x7 => lt (x4 + 1) (fun x8 => r9 x6 x7 x8))))))))) FU 0 a1 0)

def f_X10_came (bk : Nat) (I : MI) (a1 : Int32) (a2 : Int32) (a3 : Int32) : Option (Int32) :=
  bd1 (f_X10_isHouse bk I a1) (fun x1 => lt (some ((-1))) (fun j28 => if x1 = true then (bd1 (f_X10_isWithin a2 0 5) (fun x2 => if x2 = true then (bd1 (f_X10_isWithin a3 0 9999) (fun x3 => if x3 = true then (bd1 (f_X10_power ((I bk 11)) a2) (fun x4 => lt (Int64.toInt32 x4) (fun x5 => fix2 (fun (r50 : Int32 → Int32 → Option (Int32)) (x6 : Int32) (x7 : Int32) => if x5 ≤ x7 then (some (x6)) else (bd1 (f_X10_sumOfKinds bk I x7 a2 a1) (fun x8 => lt (fun (x9 : Int32) => lt (x7 + 1) (fun x10 => r50 x9 x10)) (fun j72 => if x8 = a3 then (lt (x6 + 1) (fun x11 => j72 x11)) else (j72 x6))))) FU 0 0))) else j28)) else j28)) else j28))

def f_X10_likely (bk : Nat) (I : MI) (J : MJ) (a1 : Int32) (a2 : Int32) (a3 : Int32) : Option (Int64 × MJ) :=
  bd1 (f_X10_isKind bk I a1) (fun x1 => lt (some ((-1), J)) (fun j26 => if x1 = true then (bd1 (f_X10_isWithin a2 0 5) (fun x2 => if x2 = true then (bd1 (f_X10_isWithin a3 0 1) (fun x3 => if x3 = true then (lt (fun (J4 : MJ) => bd1 (f_X3_told J4 a3) (fun x5 => some (x5, J4))) (fun j98 => if (I bk 17) = 0 then (bd1 (f_X3_put J 0 1) (fun J6 => j98 J6)) else (bd1 (f_X10_power ((I bk 17)) a2) (fun x7 => gd (inb a1 6) (bd1 (f_X10_power (((I bk 17) - (I (bk + 3) (ix a1)))) a2) (fun x8 => bd1 (f_X3_put J ((x7 - x8)) x7) (fun J9 => j98 J9))))))) else j26)) else j26)) else j26))

def f_X10_isView (bk : Nat) (I : MI) (a1 : Int32) (a2 : Int32) (a3 : Int32) : Option (Bool) :=
  bd1 (f_X10_isHouse bk I a1) (fun x1 => lt (fun (x2 : Bool) => some (x2)) (fun j34 => lt (j34 false) (fun j33 => if x1 = true then (bd1 (f_X10_isHouse bk I a2) (fun x3 => if x3 = true then (if a1 = a2 then j33 else (bd1 (f_X10_isKind bk I a3) (fun x4 => if x4 = true then (j34 true) else j33))) else j33)) else j33)))

def f_X10_gain (bk : Nat) (I : MI) (a1 : Int32) (a2 : Int32) (a3 : Int32) (a4 : Int32) : Option (Int32) :=
  gd (inb a1 6) (lt (I (bk + 6) (ix a1)) (fun x1 => gd (inb a2 6) (lt (I (bk + 2) (ix a2)) (fun x2 => if a3 = 0 then (lt (fun (x3 : Int32) => some (x3)) (fun j53 => if a4 = 0 then (gd (nz 10) (j53 ((x1 + (x2 / 10)) - 2))) else (gd (nz 5) (j53 ((x1 + (x2 / 5)) - 3))))) else (lt (fun (x4 : Int32) => some (x4)) (fun j67 => if a4 = 0 then (j67 1) else (gd (nz 2) (j67 (x1 / 2)))))))))

def f_X10_isRest (bk : Nat) (I : MI) (a1 : Int32) (a2 : Int32) (a3 : Int32) (a4 : Int32) : Option (Bool) :=
  lt (a4 >>> (1 &&& 31)) (fun x1 => lt (a4 &&& 1) (fun x2 => bd1 (f_X10_gain bk I a1 a3 x1 x2) (fun x3 => bd1 (f_X10_gain bk I a1 a3 ((1 - x1)) x2) (fun x4 => lt (fun (x5 : Bool) => some (x5)) (fun j67 => lt (j67 false) (fun j66 => if x3 < x4 then j66 else (bd1 (f_X10_gain bk I a2 a3 x2 x1) (fun x6 => bd1 (f_X10_gain bk I a2 a3 ((1 - x2)) x1) (fun x7 => if x6 < x7 then j66 else (j67 true))))))))))

def f_X10_rests (bk : Nat) (I : MI) (a1 : Int32) (a2 : Int32) (a3 : Int32) : Option (Int32) :=
  bd1 (f_X10_isView bk I a1 a2 a3) (fun x1 => if x1 = true then (fix2 (fun (r18 : Int32 → Int32 → Option (Int32)) (x2 : Int32) (x3 : Int32) => if 4 ≤ x3 then (some (x2)) else (bd1 (f_X10_isRest bk I a1 a2 a3 x3) (fun x4 => lt (fun (x5 : Int32) => lt (x3 + 1) (fun x6 => r18 x5 x6)) (fun j39 => if x4 = true then (lt (x2 + 1) (fun x7 => j39 x7)) else (j39 x2))))) FU 0 0) else (some ((-1))))

def f_X10_rest (bk : Nat) (I : MI) (a1 : Int32) (a2 : Int32) (a3 : Int32) (a4 : Int32) : Option (Int32) :=
  bd1 (f_X10_isView bk I a1 a2 a3) (fun x1 => lt (some ((-1))) (fun j15 => if x1 = true then (if 0 ≤ a4 then (lt (fun (x2 : Int32) => some ((10 * (x2 >>> (1 &&& 31))) + (x2 &&& 1))) (fun j48 => fix2 (fun (r23 : Int32 → Int32 → Option (Int32)) (x3 : Int32) (x4 : Int32) => if 4 ≤ x4 then (some ((-2))) else (bd1 (f_X10_isRest bk I a1 a2 a3 x4) (fun x5 => lt (fun (x6 : Int32) => lt (x4 + 1) (fun x7 => r23 x6 x7)) (fun j64 => if x5 = true then (if x3 = a4 then (j48 x4) else (lt (x3 + 1) (fun x8 => j64 x8))) else (j64 x3))))) FU 0 0)) else j15) else j15))

def f_X10_note (bk : Nat) (I : MI) (a1 : Int32) (a2 : Int32) (a3 : Int32) (a4 : Int32) : Option (Int32 × MI) :=
  bd1 (f_X10_isToldDay a1) (fun x1 => lt (some ((-1), I)) (fun j26 => if x1 = true then (bd1 (f_X10_isHouse bk I a2) (fun x2 => if x2 = true then (bd1 (f_X10_isWithin a3 0 999) (fun x3 => if x3 = true then (bd2 (f_X2_addNote I a1 a2 a3 a4) (fun x4 I5 => some (x4, I5))) else j26)) else j26)) else j26))

def f_X10_strike (I : MI) (a1 : Int32) : Option (Int32 × MI) :=
  bd2 (f_X2_addStrike I a1) (fun x1 I2 => some (x1, I2))

def f_X10_known (I : MI) (a1 : Int32) : Option (Bool × MI) :=
  bd1 (f_X10_isWithin a1 (-1) ((I 70 5))) (fun x1 => if x1 = true then (lt (st2 I 70 6 a1) (fun I2 => some (true, I2))) else (some (false, I)))

def f_X10_fits (bk : Nat) (I : MI) (a1 : Int32) : Option (Int32 × MI) :=
  bd1 (f_X10_isToldDay a1) (fun x1 => lt (fun (x2 : Int32) (I3 : MI) => some (x2, I3)) (fun j23 => if x1 = true then (bd2 (f_X2_fitting I bk a1) (fun x4 I5 => j23 x4 I5)) else (j23 (-1) I)))

def f_X10_leftAtWorst (bk : Nat) (I : MI) (a1 : Int32) (a2 : Int32) : Option (Int32) :=
  fix2 (fun (r5 : Int32 → Int32 → Option (Int32)) (x1 : Int32) (x2 : Int32) => if (I bk 11) ≤ x2 then (some (x1)) else (lt (fun (x3 : Int32) => bd1 (f_X10_isAmong x2 a1) (fun x4 => lt (fun (x5 : Int32) => lt (x2 + 1) (fun x6 => r5 x5 x6)) (fun j92 => if x4 = true then (lt (imax x1 x3) (fun x7 => j92 x7)) else (j92 x1)))) (fun j76 => fix2 (fun (r23 : Int32 → Int32 → Option (Int32)) (x8 : Int32) (x9 : Int32) => if (I bk 11) ≤ x9 then (j76 x8) else (bd1 (f_X10_isAmong x9 a1) (fun x10 => lt (fun (x11 : Int32) => lt (x9 + 1) (fun x12 => r23 x11 x12)) (fun j70 => if x10 = true then (bd1 (f_X0_alone I bk a2 x9) (fun x13 => bd1 (f_X0_alone I bk a2 x2) (fun x14 => if x13 = x14 then (lt (x8 + 1) (fun x15 => j70 x15)) else (j70 x8)))) else (j70 x8))))) FU 0 0))) FU 0 0

def f_X10_ask (bk : Nat) (I : MI) (a1 : Int32) (a2 : Int32) : Option (Int32 × MI) :=
  bd1 (f_X10_isToldDay a1) (fun x1 => lt (some ((-1), I)) (fun j16 => if x1 = true then (bd1 (f_X10_isWithin a2 0 1) (fun x2 => if x2 = true then (if (I bk 12) = 0 then (some ((-2), I)) else (bd2 (f_X2_fitting I bk a1) (fun x3 I4 => lt (fun (x5 : Int32) => lt (fun (x6 : Int32) => some (x6, I4)) (fun j105 => if a2 = 0 then (j105 x5) else (bd1 (f_X10_leftAtWorst bk I4 x3 x5) (fun x7 => j105 x7)))) (fun j89 => fix2 (fun (r50 : Int32 → Int32 → Option (Int32 × MI)) (x8 : Int32) (x9 : Int32) => if (I4 bk 12) ≤ x9 then (j89 x8) else (bd1 (f_X10_leftAtWorst bk I4 x3 x9) (fun x10 => bd1 (f_X10_leftAtWorst bk I4 x3 x8) (fun x11 => lt (fun (x12 : Int32) => lt (x9 + 1) (fun x13 => r50 x12 x13)) (fun j83 => if x11 ≤ x10 then (j83 x8) else (j83 x9)))))) FU 0 1)))) else j16)) else j16))

def f_X11_thrown (I : MI) : Option (Int32) :=
  some (I 0 2)

def f_X11_feed (I : MI) (a1 : Int32) (a2 : Int32) (a3 : Int32) (a4 : Int32) (a5 : Int32) : Option (Int32 × MI) :=
  lt (st2 I 0 2 0) (fun I1 => if ((I1 0 1) + 20) ≤ 700 then (lt (fun (I2 : MI) => lt (st2 I2 0 1 ((I2 0 1) + 20)) (fun I3 => some (I3 0 1, I3))) (fun j113 => fix2 (fun (r23 : Int32 → MI → Option (Int32 × MI)) (x4 : Int32) (I5 : MI) => if 20 ≤ x4 then (j113 I5) else (lt (fun (x6 : Int32) => gd (nz 4) (gd (inb ((I5 0 1) + x4) 700) (lt (st2 I5 1 (ix ((I5 0 1) + x4)) ((x6 >>> ((24 - (8 * (irem x4 4))) &&& 31)) &&& 255)) (fun I7 => lt (x4 + 1) (fun x8 => r23 x8 I7))))) (fun j76 => if 4 ≤ x4 then (if 8 ≤ x4 then (if 12 ≤ x4 then (if 16 ≤ x4 then (j76 a5) else (j76 a4)) else (j76 a3)) else (j76 a2)) else (j76 a1)))) FU 0 I1)) else (some ((-1), I1)))

def f_X11_isIn (a1 : Int32) (a2 : Int32) (a3 : Int32) : Option (Bool) :=
  lt (fun (x1 : Bool) => some (x1)) (fun j15 => lt (j15 false) (fun j14 => if a1 < a2 then j14 else (if a3 < a1 then j14 else (j15 true))))

def f_X11_isOf (a1 : Int32) (a2 : Int32) : Option (Bool) :=
  lt (fun (x1 : Bool) => some (x1)) (fun j14 => if ((a1 >>> (a2 &&& 31)) &&& 1) = 1 then (j14 true) else (j14 false))

def f_X11_wrong (I : MI) (a1 : Int32) : Option (Bool × MI) :=
  lt (st2 I 0 4 a1) (fun I1 => lt (st2 I1 0 5 (I1 0 10)) (fun I2 => some (false, I2)))

def f_X11_wordAt (I : MI) (a1 : Int32) (a2 : Int32) : Option (Int32) :=
  fix2 (fun (r5 : Int32 → Int32 → Option (Int32)) (x1 : Int32) (x2 : Int32) => if 100 ≤ x2 then (some ((-1))) else (lt (fun (x3 : Int32) => lt (fun (x4 : Bool) => lt (bi x4) (fun x5 => lt (fun (x6 : Int32) => if x6 = 0 then (lt (x2 + (x3 + 1)) (fun x7 => lt (x1 + 1) (fun x8 => r5 x8 x7))) else (some (x1))) (fun j104 => fix2 (fun (r57 : Int32 → Int32 → Option (Int32)) (x9 : Int32) (x10 : Int32) => if x3 ≤ x10 then (j104 x9) else (if x9 = 0 then (j104 x9) else (gd (inb (x2 + x10) 100) (gd (inb (a1 + x10) 700) (lt (fun (x11 : Bool) => lt (bi x11) (fun x12 => lt (x10 + 1) (fun x13 => r57 x12 x13))) (fun j96 => if (I 2 (ix (x2 + x10))) = (I 1 (ix (a1 + x10))) then (j96 true) else (j96 false))))))) FU x5 0))) (fun j52 => if x3 = (a2 - a1) then (j52 true) else (j52 false))) (fun j39 => fix1 (fun (r18 : Int32 → Option (Int32)) (x14 : Int32) => gd (inb (x2 + x14) 100) (if (I 2 (ix (x2 + x14))) = 32 then (j39 x14) else (lt (x14 + 1) (fun x15 => r18 x15)))) FU 0))) FU 0 0

def f_X11_isSmall (I : MI) (a1 : Int32) : Option (Bool) :=
  lt (fun (x1 : Bool) => some (x1)) (fun j35 => lt (j35 false) (fun j34 => if (I 0 6) ≤ a1 then j34 else (gd (inb a1 700) (if (I 1 (ix a1)) < 97 then j34 else (gd (inb a1 700) (if 122 < (I 1 (ix a1)) then j34 else (j35 true)))))))

def f_X11_isDigit (I : MI) (a1 : Int32) : Option (Bool) :=
  lt (fun (x1 : Bool) => some (x1)) (fun j35 => lt (j35 false) (fun j34 => if (I 0 6) ≤ a1 then j34 else (gd (inb a1 700) (if (I 1 (ix a1)) < 48 then j34 else (gd (inb a1 700) (if 57 < (I 1 (ix a1)) then j34 else (j35 true)))))))

def f_X11_packed (I : MI) (a1 : Int32) (a2 : Int32) : Option (Int32) :=
  fix2 (fun (r5 : Int32 → Int32 → Option (Int32)) (x1 : Int32) (x2 : Int32) => if (a1 + 6) ≤ x2 then (some (x1)) else (lt (fun (x3 : Int32) (x4 : Int32) => lt (x4 ||| x3) (fun x5 => lt (x2 + 1) (fun x6 => r5 x5 x6))) (fun j37 => if a2 ≤ x2 then (j37 0 (x1 <<< (5 &&& 31))) else (gd (inb x2 700) (j37 ((I 1 (ix x2)) - 96) (x1 <<< (5 &&& 31))))))) FU 0 a1

def f_X11_signToken (I : MI) : Option (MI) :=
  gd (inb (I 0 7) 700) (lt (st2 I 0 9 (I 1 (ix (I 0 7)))) (fun I1 => lt (st2 I1 0 7 ((I1 0 7) + 1)) (fun I2 => lt (fun (I3 : MI) => some (I3)) (fun j290 => lt (lt (fun (x4 : Int32) => lt (fun (x5 : Bool) => lt (bi x5) (fun x6 => lt (fun (x7 : Bool) => lt (bi x7) (fun x8 => lt (fun (I9 : MI) => lt (st2 I9 0 8 5) (fun I10 => lt (fun (x11 : Int32) => lt (st2 I10 0 9 x11) (fun I12 => j290 I12)) (fun j192 => if (I10 0 9) = 61 then (j192 2) else (if (I10 0 9) = 60 then (if x6 = 0 then (if x8 = 0 then (j192 0) else (j192 3)) else (j192 1)) else (if x6 = 0 then (j192 5) else (j192 4)))))) (fun j135 => lt (lt (st2 I2 0 7 ((I2 0 7) + 1)) (fun I13 => j135 I13)) (fun j125 => if x6 = 0 then (if x8 = 0 then (j135 I2) else j125) else j125)))) (fun j116 => lt (j116 false) (fun j115 => if (I2 0 9) = 60 then (if x4 = 62 then (j116 true) else j115) else j115)))) (fun j95 => lt (j95 false) (fun j94 => if (I2 0 9) = 61 then j94 else (if x4 = 61 then (j95 true) else j94)))) (fun j74 => if (I2 0 6) ≤ (I2 0 7) then (j74 0) else (gd (inb (I2 0 7) 700) (j74 (I2 1 (ix (I2 0 7))))))) (fun j50 => if (I2 0 9) = 60 then j50 else (if (I2 0 9) = 62 then j50 else (if (I2 0 9) = 61 then j50 else (lt (fun (x14 : Bool) => lt (bi x14) (fun x15 => lt (fun (x16 : Int32) => lt (st2 I2 0 8 x16) (fun I17 => j290 I17)) (fun j287 => if x15 = 0 then (j287 6) else (j287 4)))) (fun j275 => lt (j275 true) (fun j270 => if (I2 0 9) = 59 then j270 else (if (I2 0 9) = 40 then j270 else (if (I2 0 9) = 41 then j270 else (if (I2 0 9) = 43 then j270 else (if (I2 0 9) = 45 then j270 else (if (I2 0 9) = 42 then j270 else (if (I2 0 9) = 47 then j270 else (if (I2 0 9) = 37 then j270 else (j275 false))))))))))))))))))

def f_X11_token (I : MI) : Option (MI) :=
  lt (fun (I1 : MI) => lt (st2 I1 0 10 (I1 0 7)) (fun I2 => lt (fun (I3 : MI) => some (I3)) (fun j281 => if (I2 0 7) = (I2 0 6) then (lt (st2 I2 0 8 0) (fun I4 => j281 I4)) else (bd1 (f_X11_isSmall I2 ((I2 0 7))) (fun x5 => if x5 = true then (lt (fun (I6 : MI) => bd1 (f_X11_wordAt I6 ((I6 0 10)) ((I6 0 7))) (fun x7 => lt (st2 I6 0 9 x7) (fun I8 => lt (fun (x9 : Int32) => lt (st2 I8 0 8 x9) (fun I10 => if (I10 0 8) = 2 then (bd1 (f_X11_packed I10 ((I10 0 10)) ((I10 0 7))) (fun x11 => lt (st2 I10 0 9 x11) (fun I12 => j281 I12))) else (j281 I10))) (fun j162 => if (I8 0 9) < 0 then (if ((I8 0 7) - (I8 0 10)) ≤ 6 then (j162 2) else (j162 6)) else (j162 1))))) (fun j114 => fix1 (fun (r90 : MI → Option (MI)) (I13 : MI) => bd1 (f_X11_isSmall I13 ((I13 0 7))) (fun x14 => if x14 = true then (lt (st2 I13 0 7 ((I13 0 7) + 1)) (fun I15 => r90 I15)) else (j114 I13))) FU I2)) else (bd1 (f_X11_isDigit I2 ((I2 0 7))) (fun x16 => if x16 = true then (lt (st2 I2 0 8 3) (fun I17 => lt (st2 I17 0 9 0) (fun I18 => fix1 (fun (r213 : MI → Option (MI)) (I19 : MI) => bd1 (f_X11_isDigit I19 ((I19 0 7))) (fun x20 => if x20 = true then (lt (fun (x21 : Int32) => lt (st2 I19 0 9 x21) (fun I22 => lt (st2 I22 0 7 ((I22 0 7) + 1)) (fun I23 => r213 I23))) (fun j261 => if (I19 0 9) ≤ 99999 then (gd (inb (I19 0 7) 700) (j261 (((10 * (I19 0 9)) + (I19 1 (ix (I19 0 7)))) - 48))) else (j261 (I19 0 9)))) else (j281 I19))) FU I18))) else (bd1 (f_X11_signToken I2) (fun I24 => j281 I24))))))))) (fun j52 => fix1 (fun (r0 : MI → Option (MI)) (I25 : MI) => if (I25 0 6) ≤ (I25 0 7) then (j52 I25) else (gd (inb (I25 0 7) 700) (lt (lt (st2 I25 0 7 ((I25 0 7) + 1)) (fun I26 => r0 I26)) (fun j39 => if (I25 1 (ix (I25 0 7))) = 10 then j39 else (gd (inb (I25 0 7) 700) (if (I25 1 (ix (I25 0 7))) = 32 then j39 else (j52 I25))))))) FU I)

def f_X11_isKey (I : MI) (a1 : Int32) : Option (Bool) :=
  lt (fun (x1 : Bool) => some (x1)) (fun j21 => lt (j21 false) (fun j20 => if (I 0 8) = 1 then (if (I 0 9) = a1 then (j21 true) else j20) else j20))

def f_X11_isSign (I : MI) (a1 : Int32) : Option (Bool) :=
  lt (fun (x1 : Bool) => some (x1)) (fun j21 => lt (j21 false) (fun j20 => if (I 0 8) = 4 then (if (I 0 9) = a1 then (j21 true) else j20) else j20))

def f_X11_number (I : MI) (a1 : Int32) (a2 : Int32) : Option (Bool × MI) :=
  if (I 0 8) = 3 then (bd1 (f_X11_isIn ((I 0 9)) a1 a2) (fun x1 => if x1 = true then (lt (st2 I 0 11 (I 0 9)) (fun I2 => bd1 (f_X11_token I2) (fun I3 => some (true, I3)))) else (bd2 (f_X11_wrong I 2) (fun x4 I5 => some (x4, I5))))) else (bd2 (f_X11_wrong I 1) (fun x6 I7 => some (x6, I7)))

def f_X11_plain (I : MI) : Option (MI) :=
  lt (st2 I 0 17 0) (fun I1 => lt (st2 I1 0 18 0) (fun I2 => lt (st2 I2 0 19 0) (fun I3 => lt (st2 I3 0 20 0) (fun I4 => lt (st2 I4 0 21 0) (fun I5 => lt (st2 I5 0 46 0) (fun I6 => gd (is01 0) (gd (inb 0 2) (lt (st2 I6 3 (ix 0) 0) (fun I7 => gd (is01 0) (gd (inb 1 2) (lt (st2 I7 3 (ix 1) 0) (fun I8 => gd (inb 2 4) (lt (st2 I8 4 (ix 2) 30) (fun I9 => gd (inb 3 4) (lt (st2 I9 4 (ix 3) 0) (fun I10 => fix2 (fun (r61 : Int32 → MI → Option (MI)) (x11 : Int32) (I12 : MI) => if 6 ≤ x11 then (some (I12)) else (gd (is01 0) (gd (inb x11 6) (lt (st2 I12 16 (ix x11) 0) (fun I13 => lt (x11 + 1) (fun x14 => r61 x14 I13)))))) FU 3 I10))))))))))))))))

def f_X11_copies (I : MI) (pa : Nat) (na : Nat) (a2 : Int32) : Option (MI) :=
  fix2 (fun (r2 : Int32 → MI → Option (MI)) (x1 : Int32) (I2 : MI) => if a2 ≤ x1 then (some (I2)) else (gd (inb (a2 + x1) na) (gd (inb x1 na) (lt (st2 I2 pa (ix x1) (I2 pa (ix (a2 + x1)))) (fun I3 => lt (x1 + 1) (fun x4 => r2 x4 I3)))))) FU 0 I

def f_X11_plainTried (I : MI) : Option (MI) :=
  gd (is01 0) (lt (st2 I 0 63 0) (fun I1 => gd (is01 0) (lt (st2 I1 0 64 0) (fun I2 => gd (is01 0) (lt (st2 I2 0 65 0) (fun I3 => gd (is01 0) (lt (st2 I3 0 66 0) (fun I4 => some (I4)))))))))

def f_X11_begin (I : MI) (J : MJ) : Option (MI × MJ) :=
  lt (fun (I1 : MI) => gd (inb 0 2) (lt (st2 I1 31 (ix 0) 0) (fun I2 => gd (inb 0 2) (lt (st2 I2 32 (ix 0) 0) (fun I3 => gd (inb 0 2) (lt (st2 I3 33 (ix 0) (-1)) (fun I4 => gd (inb 0 2) (lt (st2 I4 34 (ix 0) 0) (fun I5 => gd (inb 0 2) (lt (st2 I5 35 (ix 0) 0) (fun I6 => gd (inb 1 4) (lt (st2 J 0 62 (Int32.toInt64 (I6 4 (ix 1)))) (fun J7 => bd1 (f_X11_plainTried I6) (fun I8 => lt (st2 I8 0 70 0) (fun I9 => lt (st2 I9 0 71 (-1)) (fun I10 => lt (st2 I10 0 74 0) (fun I11 => gd (is01 0) (lt (st2 I11 0 76 0) (fun I12 => some (I12, J7)))))))))))))))))))) (fun j54 => fix2 (fun (r2 : Int32 → MI → Option (MI × MJ)) (x13 : Int32) (I14 : MI) => if 6 ≤ x13 then (j54 I14) else (gd (inb x13 12) (gd (inb x13 12) (lt (st2 I14 26 (ix x13) (I14 9 (ix x13))) (fun I15 => gd (inb x13 12) (lt (st2 I15 27 (ix x13) 0) (fun I16 => gd (inb x13 12) (lt (st2 I16 28 (ix x13) 0) (fun I17 => gd (inb x13 12) (lt (st2 I17 29 (ix x13) 0) (fun I18 => gd (inb x13 12) (lt (st2 I18 30 (ix x13) 0) (fun I19 => lt (x13 + 1) (fun x20 => r2 x20 I19)))))))))))))) FU 0 I)

def f_X11_keepText (I : MI) (J : MJ) : Option (MI × MJ) :=
  lt (st2 I 0 12 (I 0 17)) (fun I1 => lt (st2 I1 0 13 (I1 0 18)) (fun I2 => lt (st2 I2 0 14 (I2 0 19)) (fun I3 => lt (st2 I3 0 15 (I3 0 20)) (fun I4 => lt (st2 I4 0 16 (I4 0 21)) (fun I5 => bd1 (f_X11_copies I5 4 4 2) (fun I6 => bd1 (f_X11_copies I6 5 12 6) (fun I7 => bd1 (f_X11_copies I7 6 12 6) (fun I8 => bd1 (f_X11_copies I8 7 12 6) (fun I9 => bd1 (f_X11_copies I9 8 12 6) (fun I10 => bd1 (f_X11_copies I10 9 12 6) (fun I11 => bd1 (f_X11_copies I11 10 12 6) (fun I12 => bd1 (f_X11_copies I12 11 12 6) (fun I13 => bd1 (f_X11_copies I13 12 40 20) (fun I14 => bd1 (f_X11_copies I14 13 40 20) (fun I15 => bd1 (f_X11_copies I15 14 12 6) (fun I16 => bd1 (f_X11_copies I16 15 12 6) (fun I17 => lt (fun (I18 : MI) => bd1 (f_X11_copies I18 17 6 3) (fun I19 => bd1 (f_X11_copies I19 18 6 3) (fun I20 => bd1 (f_X11_copies I20 19 128 64) (fun I21 => bd1 (f_X11_copies I21 20 128 64) (fun I22 => bd1 (f_X11_copies I22 21 128 64) (fun I23 => bd2 (f_X11_begin I23 J) (fun I24 J25 => some (I24, J25)))))))) (fun j174 => fix2 (fun (r149 : Int32 → MI → Option (MI × MJ)) (x26 : Int32) (I27 : MI) => if 3 ≤ x26 then (j174 I27) else (gd (inb (3 + x26) 6) (gd (is01 (I27 16 (ix (3 + x26)))) (gd (inb x26 6) (lt (st2 I27 16 (ix x26) (I27 16 (ix (3 + x26)))) (fun I28 => lt (x26 + 1) (fun x29 => r149 x29 I28))))))) FU 0 I17))))))))))))))))))

def f_X11_find (I : MI) (pa : Nat) (na : Nat) (a2 : Int32) (a3 : Int32) (a4 : Int32) : Option (Int32) :=
  fix1 (fun (r3 : Int32 → Option (Int32)) (x1 : Int32) => if a3 ≤ x1 then (some ((-1))) else (gd (inb (a2 + x1) na) (if (I pa (ix (a2 + x1))) = a4 then (some (x1)) else (lt (x1 + 1) (fun x2 => r3 x2))))) FU 0

def f_X11_newName (I : MI) (pa : Nat) (na : Nat) (a2 : Int32) (a3 : Int32) : Option (Bool × MI) :=
  if (I 0 8) = 2 then (bd1 (f_X11_find I pa na a2 a3 ((I 0 9))) (fun x1 => if x1 < 0 then (gd (inb (a2 + a3) na) (lt (st2 I pa (ix (a2 + a3)) (I 0 9)) (fun I2 => bd1 (f_X11_token I2) (fun I3 => some (true, I3))))) else (bd2 (f_X11_wrong I 3) (fun x4 I5 => some (x4, I5))))) else (bd2 (f_X11_wrong I 1) (fun x6 I7 => some (x6, I7)))

def f_X11_thereIn (I : MI) (pa : Nat) (na : Nat) (a2 : Int32) (a3 : Int32) : Option (Bool × MI) :=
  if (I 0 8) = 2 then (bd1 (f_X11_find I pa na a2 a3 ((I 0 9))) (fun x1 => if 0 ≤ x1 then (bd1 (f_X11_token I) (fun I2 => lt (st2 I2 0 11 x1) (fun I3 => some (true, I3)))) else (bd2 (f_X11_wrong I 4) (fun x4 I5 => some (x4, I5))))) else (bd2 (f_X11_wrong I 1) (fun x6 I7 => some (x6, I7)))

def f_X11_kindLine (I : MI) : Option (Bool × MI) :=
  if (I 0 17) = 6 then (bd2 (f_X11_wrong I 2) (fun x1 I2 => some (x1, I2))) else (bd1 (f_X11_token I) (fun I3 => bd2 (f_X11_newName I3 5 12 6 ((I3 0 17))) (fun x4 I5 => if x4 = true then (lt (6 + (I5 0 17)) (fun x6 => bd2 (f_X11_number I5 0 99) (fun x7 I8 => if x7 = true then (gd (inb x6 12) (lt (st2 I8 6 (ix x6) (I8 0 11)) (fun I9 => bd2 (f_X11_number I9 0 99) (fun x10 I11 => if x10 = true then (gd (inb x6 12) (lt (st2 I11 7 (ix x6) (I11 0 11)) (fun I12 => lt (st2 I12 0 17 ((I12 0 17) + 1)) (fun I13 => some (true, I13))))) else (some (false, I11)))))) else (some (false, I8))))) else (some (false, I5)))))

def f_X11_houseLine (I : MI) : Option (Bool × MI) :=
  if (I 0 18) = 6 then (bd2 (f_X11_wrong I 2) (fun x1 I2 => some (x1, I2))) else (bd1 (f_X11_token I) (fun I3 => bd2 (f_X11_newName I3 8 12 6 ((I3 0 18))) (fun x4 I5 => if x4 = true then (lt (6 + (I5 0 18)) (fun x6 => bd2 (f_X11_number I5 0 999) (fun x7 I8 => if x7 = true then (gd (inb x6 12) (lt (st2 I8 9 (ix x6) (I8 0 11)) (fun I9 => bd2 (f_X11_number I9 0 9) (fun x10 I11 => if x10 = true then (gd (inb x6 12) (lt (st2 I11 10 (ix x6) (I11 0 11)) (fun I12 => bd2 (f_X11_number I12 0 99) (fun x13 I14 => if x13 = true then (gd (inb x6 12) (lt (st2 I14 11 (ix x6) (I14 0 11)) (fun I15 => lt (st2 I15 0 18 ((I15 0 18) + 1)) (fun I16 => some (true, I16))))) else (some (false, I14)))))) else (some (false, I11)))))) else (some (false, I8))))) else (some (false, I5)))))

def f_X11_dayLine (I : MI) : Option (Bool × MI) :=
  if (I 0 19) = 20 then (bd2 (f_X11_wrong I 2) (fun x1 I2 => some (x1, I2))) else (bd1 (f_X11_token I) (fun I3 => lt (I3 0 10) (fun x4 => bd2 (f_X11_number I3 0 99) (fun x5 I6 => if x5 = true then (lt (20 + (I6 0 19)) (fun x7 => gd (inb x7 40) (lt (st2 I6 12 (ix x7) (I6 0 11)) (fun I8 => bd1 (f_X11_find I8 12 40 20 ((I8 0 19)) ((I8 0 11))) (fun x9 => if x9 < 0 then (bd2 (f_X11_thereIn I8 5 12 6 ((I8 0 17))) (fun x10 I11 => if x10 = true then (gd (inb x7 40) (lt (st2 I11 13 (ix x7) (I11 0 11)) (fun I12 => lt (st2 I12 0 19 ((I12 0 19) + 1)) (fun I13 => some (true, I13))))) else (some (false, I11)))) else (lt (st2 I8 0 10 x4) (fun I14 => bd2 (f_X11_wrong I14 3) (fun x15 I16 => some (x15, I16))))))))) else (some (false, I6))))))

def f_X11_workLine (I : MI) : Option (Bool × MI) :=
  if (I 0 20) = 6 then (bd2 (f_X11_wrong I 2) (fun x1 I2 => some (x1, I2))) else (bd1 (f_X11_token I) (fun I3 => lt (6 + (I3 0 20)) (fun x4 => bd2 (f_X11_thereIn I3 8 12 6 ((I3 0 18))) (fun x5 I6 => if x5 = true then (gd (inb x4 12) (lt (st2 I6 14 (ix x4) (I6 0 11)) (fun I7 => bd2 (f_X11_thereIn I7 5 12 6 ((I7 0 17))) (fun x8 I9 => if x8 = true then (gd (inb x4 12) (lt (st2 I9 15 (ix x4) (I9 0 11)) (fun I10 => lt (st2 I10 0 20 ((I10 0 20) + 1)) (fun I11 => some (true, I11))))) else (some (false, I9)))))) else (some (false, I6))))))

def f_X11_onceLine (I : MI) (a1 : Int32) (a2 : Int32) (a3 : Int32) : Option (Bool × MI) :=
  gd (inb a1 2) (if (I 3 (ix a1)) = 0 then (gd (is01 1) (gd (inb a1 2) (lt (st2 I 3 (ix a1) 1) (fun I1 => bd1 (f_X11_token I1) (fun I2 => bd2 (f_X11_number I2 a2 a3) (fun x3 I4 => if x3 = true then (gd (inb (2 + a1) 4) (lt (st2 I4 4 (ix (2 + a1)) (I4 0 11)) (fun I5 => some (true, I5)))) else (some (false, I4)))))))) else (bd2 (f_X11_wrong I 3) (fun x6 I7 => some (x6, I7))))

def f_X11_waitsFor (I : MI) (a1 : Int32) : Option (MI) :=
  gd (inb (I 0 43) 96) (lt (st2 I 22 (ix (I 0 43)) a1) (fun I1 => lt (st2 I1 0 43 ((I1 0 43) + 1)) (fun I2 => some (I2))))

def f_X11_isCounted (I : MI) : Option (Bool × MI) :=
  if (I 0 46) = 64 then (bd2 (f_X11_wrong I 2) (fun x1 I2 => some (x1, I2))) else (lt (st2 I 0 46 ((I 0 46) + 1)) (fun I3 => some (true, I3)))

def f_X11_nameMet (I : MI) : Option (Int32) :=
  lt (fun (x1 : Int32) => some (x1)) (fun j28 => lt (j28 (-1)) (fun j27 => if (I 0 8) = 1 then (if (I 0 9) < 13 then j27 else (j28 ((I 0 9) - 13))) else j27))

def f_X11_grown (I : MI) (a1 : Int32) (a2 : Int32) (a3 : Int32) : Option (MI) :=
  gd (inb (64 + (I 0 21)) 128) (lt (st2 I 19 (ix (64 + (I 0 21))) a1) (fun I1 => gd (inb (64 + (I1 0 21)) 128) (lt (st2 I1 20 (ix (64 + (I1 0 21))) a2) (fun I2 => gd (inb (64 + (I2 0 21)) 128) (lt (st2 I2 21 (ix (64 + (I2 0 21))) a3) (fun I3 => gd (inb (I3 0 44) 96) (lt (st2 I3 23 (ix (I3 0 44)) (I3 0 21)) (fun I4 => lt (st2 I4 0 44 ((I4 0 44) + 1)) (fun I5 => lt (st2 I5 0 21 ((I5 0 21) + 1)) (fun I6 => some (I6)))))))))))

def f_X11_leafRead (I : MI) : Option (Bool × MI) :=
  bd1 (f_X11_isSign I 40) (fun x1 => if x1 = true then (if (I 0 45) = 8 then (bd2 (f_X11_wrong I 2) (fun x2 I3 => some (x2, I3))) else (lt (st2 I 0 45 ((I 0 45) + 1)) (fun I4 => bd1 (f_X11_waitsFor I4 0) (fun I5 => gd (is01 1) (lt (st2 I5 0 48 1) (fun I6 => bd1 (f_X11_token I6) (fun I7 => some (true, I7)))))))) else (bd1 (f_X11_isKey I 12) (fun x8 => lt (bd1 (f_X11_nameMet I) (fun x9 => lt (lt (bd2 (f_X11_isCounted I) (fun x10 I11 => if x10 = true then (lt (fun (x12 : Bool) => lt (fun (x13 : Int32) (x14 : Bool) => bd1 (f_X11_grown I11 ((bi x14)) x13 0) (fun I15 => gd (is01 0) (lt (st2 I15 0 47 0) (fun I16 => bd1 (f_X11_token I16) (fun I17 => some (true, I17)))))) (fun j160 => if x9 < 0 then (j160 (I11 0 9) x12) else (j160 x9 x12))) (fun j148 => if x9 < 0 then (j148 false) else (j148 true))) else (some (false, I11)))) (fun j129 => if 0 ≤ x9 then j129 else (if (I 0 9) ≤ 9999 then j129 else (bd2 (f_X11_wrong I 2) (fun x18 I19 => some (x18, I19)))))) (fun j109 => if 0 ≤ x9 then j109 else (if (I 0 8) = 3 then j109 else (bd2 (f_X11_wrong I 1) (fun x20 I21 => some (x20, I21))))))) (fun j86 => if x8 = true then (if (I 0 48) = 0 then j86 else (bd2 (f_X11_isCounted I) (fun x22 I23 => if x22 = true then (bd1 (f_X11_waitsFor I23 2) (fun I24 => bd1 (f_X11_token I24) (fun I25 => some (true, I25)))) else (some (false, I23))))) else j86))))

def f_X11_standing (a1 : Int32) : Option (Int32) :=
  lt (fun (x1 : Int32) => some (x1)) (fun j58 => if a1 < 13 then (if a1 < 11 then (if a1 < 5 then (if a1 = 2 then (j58 3) else (if a1 = 3 then (j58 2) else (if a1 = 4 then (j58 1) else (j58 0)))) else (j58 4)) else (j58 5)) else (j58 6))

def f_X11_dropHeld (I : MI) : Option (Int32 × MI) :=
  lt (st2 I 0 44 ((I 0 44) - 1)) (fun I1 => gd (inb (I1 0 44) 96) (some (I1 23 (ix (I1 0 44)), I1)))

def f_X11_bind (I : MI) (a1 : Int32) : Option (MI) :=
  lt (fun (I1 : MI) => some (I1)) (fun j76 => fix1 (fun (r0 : MI → Option (MI)) (I2 : MI) => if (I2 0 43) ≤ 0 then (j76 I2) else (gd (inb ((I2 0 43) - 1) 96) (bd1 (f_X11_standing ((I2 22 (ix ((I2 0 43) - 1))))) (fun x3 => if x3 < a1 then (j76 I2) else (lt (st2 I2 0 43 ((I2 0 43) - 1)) (fun I4 => gd (inb (I4 0 43) 96) (lt (I4 22 (ix (I4 0 43))) (fun x5 => lt (fun (x6 : Int32) (I7 : MI) => bd2 (f_X11_dropHeld I7) (fun x8 I9 => bd1 (f_X11_grown I9 x5 x8 x6) (fun I10 => r0 I10))) (fun j58 => if x5 = 2 then (j58 (-1) I4) else (bd2 (f_X11_dropHeld I4) (fun x11 I12 => j58 x11 I12))))))))))) FU I)

def f_X11_signs (I : MI) : Option (Bool × MI) :=
  bd1 (f_X11_isSign I 41) (fun x1 => lt (bd1 (f_X11_isKey I 10) (fun x2 => lt (fun (x3 : Int32) => if x3 = 0 then (bd2 (f_X11_wrong I 1) (fun x4 I5 => some (x4, I5))) else (bd1 (f_X11_standing x3) (fun x6 => lt (fun (x7 : Int32) => bd1 (f_X11_bind I x7) (fun I8 => bd1 (f_X11_standing x3) (fun x9 => lt (bd2 (f_X11_isCounted I8) (fun x10 I11 => if x10 = true then (bd1 (f_X11_waitsFor I11 x3) (fun I12 => gd (is01 1) (lt (st2 I12 0 47 1) (fun I13 => bd1 (f_X11_standing x3) (fun x14 => lt (fun (x15 : Bool) => gd (is01 (bi x15)) (lt (st2 I13 0 48 (bi x15)) (fun I16 => bd1 (f_X11_token I16) (fun I17 => some (true, I17))))) (fun j250 => if 3 ≤ x14 then (j250 false) else (j250 true))))))) else (some (false, I11)))) (fun j217 => if x9 = 4 then (if (I8 0 43) ≤ 0 then j217 else (gd (inb ((I8 0 43) - 1) 96) (bd1 (f_X11_standing ((I8 22 (ix ((I8 0 43) - 1))))) (fun x18 => if x18 = 4 then (bd2 (f_X11_wrong I8 1) (fun x19 I20 => some (x19, I20))) else j217)))) else j217)))) (fun j175 => if x6 = 4 then (j175 5) else (bd1 (f_X11_standing x3) (fun x21 => j175 x21)))))) (fun j147 => if x2 = true then (j147 3) else (bd1 (f_X11_isKey I 11) (fun x22 => if x22 = true then (j147 4) else (if (I 0 8) = 5 then (j147 (5 + (I 0 9))) else (bd1 (f_X11_isSign I 43) (fun x23 => if x23 = true then (j147 11) else (bd1 (f_X11_isSign I 45) (fun x24 => if x24 = true then (j147 12) else (bd1 (f_X11_isSign I 42) (fun x25 => if x25 = true then (j147 13) else (bd1 (f_X11_isSign I 47) (fun x26 => if x26 = true then (j147 14) else (j147 0))))))))))))))) (fun j47 => if x1 = true then (if (I 0 45) ≤ 0 then j47 else (bd1 (f_X11_bind I 1) (fun I27 => lt (st2 I27 0 43 ((I27 0 43) - 1)) (fun I28 => lt (st2 I28 0 45 ((I28 0 45) - 1)) (fun I29 => bd1 (f_X11_token I29) (fun I30 => some (true, I30))))))) else j47))

def f_X11_sumRead (I : MI) : Option (Bool × MI) :=
  lt (st2 I 0 43 0) (fun I1 => lt (st2 I1 0 44 0) (fun I2 => lt (st2 I2 0 45 0) (fun I3 => gd (is01 1) (lt (st2 I3 0 47 1) (fun I4 => gd (is01 1) (lt (st2 I4 0 48 1) (fun I5 => lt (fun (I6 : MI) => some (false, I6)) (fun j72 => lt (fun (I7 : MI) => bd1 (f_X11_bind I7 1) (fun I8 => some (true, I8))) (fun j74 => fix1 (fun (r25 : MI → Option (Bool × MI)) (I9 : MI) => bd1 (f_X11_isSign I9 59) (fun x10 => lt (if (I9 0 47) = 0 then (bd2 (f_X11_signs I9) (fun x11 I12 => if x11 = true then (r25 I12) else (j72 I12))) else (bd2 (f_X11_leafRead I9) (fun x13 I14 => if x13 = true then (r25 I14) else (j72 I14)))) (fun j48 => if x10 = true then (if (I9 0 47) = 0 then (if (I9 0 45) ≤ 0 then (j74 I9) else j48) else j48) else j48))) FU I5)))))))))

def f_X11_lineRead (I : MI) : Option (Bool × MI) :=
  lt (bd2 (f_X11_wrong I 1) (fun x1 I2 => some (x1, I2))) (fun j17 => if (I 0 8) = 1 then (if (I 0 9) ≤ 6 then (lt (fun (x3 : Int32) (I4 : MI) => if x3 = 0 then (some (false, I4)) else (bd1 (f_X11_isSign I4 59) (fun x5 => if x5 = true then (bd1 (f_X11_token I4) (fun I6 => some (true, I6))) else (bd2 (f_X11_wrong I4 1) (fun x7 I8 => some (x7, I8)))))) (fun j217 => sw (I 0 9) [(0, bd2 (f_X11_kindLine I) (fun x9 I10 => lt (bi x9) (fun x11 => j217 x11 I10))), (1, bd2 (f_X11_houseLine I) (fun x12 I13 => lt (bi x12) (fun x14 => j217 x14 I13))), (2, bd2 (f_X11_dayLine I) (fun x15 I16 => lt (bi x15) (fun x17 => j217 x17 I16))), (3, bd2 (f_X11_workLine I) (fun x18 I19 => lt (bi x18) (fun x20 => j217 x20 I19))), (4, bd2 (f_X11_onceLine I 0 1 99) (fun x21 I22 => lt (bi x21) (fun x23 => j217 x23 I22))), (5, bd2 (f_X11_onceLine I 1 0 99999) (fun x24 I25 => lt (bi x24) (fun x26 => j217 x26 I25)))] (bd1 (f_X11_token I) (fun I27 => lt (bd2 (f_X11_wrong I27 1) (fun x28 I29 => some (x28, I29))) (fun j150 => if (I27 0 8) = 1 then (if (I27 0 9) < 7 then j150 else (if (I27 0 9) ≤ 9 then (lt ((3 + (I27 0 9)) - 7) (fun x30 => gd (inb x30 6) (if (I27 16 (ix x30)) = 0 then (gd (is01 1) (gd (inb x30 6) (lt (st2 I27 16 (ix x30) 1) (fun I31 => bd1 (f_X11_token I31) (fun I32 => gd (inb x30 6) (lt (st2 I32 17 (ix x30) (I32 0 21)) (fun I33 => bd2 (f_X11_sumRead I33) (fun x34 I35 => lt (bi x34) (fun x36 => gd (inb x30 6) (lt (st2 I35 18 (ix x30) (I35 0 21)) (fun I37 => j217 x36 I37))))))))))) else (bd2 (f_X11_wrong I27 3) (fun x38 I39 => some (x38, I39)))))) else j150)) else j150))))) else j17) else j17)

def f_X11_text (I : MI) (J : MJ) (a1 : Int32) : Option (Int32 × MI × MJ) :=
  lt (st2 I 0 2 0) (fun I1 => lt (some ((-2), I1, J)) (fun j17 => if a1 < 0 then j17 else (if a1 ≤ (I1 0 1) then (lt (st2 I1 0 6 a1) (fun I2 => lt (st2 I2 0 1 0) (fun I3 => lt (st2 I3 0 4 0) (fun I4 => lt (st2 I4 0 5 (-1)) (fun I5 => lt (st2 I5 0 7 0) (fun I6 => bd1 (f_X11_plain I6) (fun I7 => bd1 (f_X11_token I7) (fun I8 => lt (fun (x9 : Int32) (I10 : MI) => bd2 (f_X11_keepText I10 J) (fun I11 J12 => some (x9, I11, J12))) (fun j77 => fix2 (fun (r55 : Int32 → MI → Option (Int32 × MI × MJ)) (x13 : Int32) (I14 : MI) => if (I14 0 8) = 0 then (j77 x13 I14) else (bd2 (f_X11_lineRead I14) (fun x15 I16 => if x15 = true then (lt (x13 + 1) (fun x17 => r55 x17 I16)) else (some ((-1), I16, J))))) FU 0 I8))))))))) else j17)))

def f_X11_fault (I : MI) (a1 : Int32) : Option (Int32 × MI) :=
  lt (st2 I 0 2 0) (fun I1 => lt (fun (x2 : Int32) => some (x2, I1)) (fun j29 => if a1 = 0 then (j29 (I1 0 4)) else (if a1 = 1 then (j29 (I1 0 5)) else (j29 (-1)))))

def f_X11_named (I : MI) (a1 : Int32) (a2 : Int32) : Option (Int32 × MI) :=
  lt (st2 I 0 2 0) (fun I1 => lt (fun (x2 : Int32) => some (x2, I1)) (fun j47 => if a1 = 0 then (bd1 (f_X11_find I1 5 12 0 ((I1 0 12)) a2) (fun x3 => j47 x3)) else (if a1 = 1 then (bd1 (f_X11_find I1 8 12 0 ((I1 0 13)) a2) (fun x4 => j47 x4)) else (j47 (-1)))))

def f_X11_bounded (I : MI) (a1 : Int64) : Option (Int64 × MI) :=
  lt (fun (x1 : Bool) => gd (is01 (bi x1)) (lt (st2 I 0 51 (bi x1)) (fun I2 => lt (fun (x3 : Int64) => some (x3, I2)) (fun j44 => if (I2 0 51) = 0 then (j44 a1) else (j44 0))))) (fun j29 => lt (j29 true) (fun j24 => if (I 0 51) = 0 then (if 1000000000000 < a1 then j24 else (if (-1000000000000) ≤ a1 then (j29 false) else j24)) else j24))

def f_X11_compares (a1 : Int32) (a2 : Int64) (a3 : Int64) : Option (Bool) :=
  sw a1 [(5, lt (fun (x1 : Bool) => some (x1)) (fun j47 => if a3 ≤ a2 then (j47 false) else (j47 true))), (6, lt (fun (x2 : Bool) => some (x2)) (fun j59 => if a3 < a2 then (j59 false) else (j59 true))), (7, lt (fun (x3 : Bool) => some (x3)) (fun j71 => if a2 = a3 then (j71 true) else (j71 false))), (8, lt (fun (x4 : Bool) => some (x4)) (fun j83 => if a2 = a3 then (j83 false) else (j83 true))), (9, lt (fun (x5 : Bool) => some (x5)) (fun j95 => if a2 < a3 then (j95 false) else (j95 true)))] (lt (fun (x6 : Bool) => some (x6)) (fun j107 => if a2 ≤ a3 then (j107 false) else (j107 true)))

def f_X11_times (I : MI) (a1 : Int64) (a2 : Int64) : Option (Int64 × MI) :=
  lt (fun (x1 : Bool) => lt (bi x1) (fun x2 => lt (fun (x3 : Bool) => gd (is01 (bi x3)) (lt (st2 I 0 51 (bi x3)) (fun I4 => lt (fun (x5 : Int64) => some (x5, I4)) (fun j86 => if (I4 0 51) = 0 then (j86 (a1 * a2)) else (j86 0))))) (fun j69 => lt (j69 true) (fun j64 => if (I 0 51) = 0 then (if x2 = 0 then (j69 false) else j64) else j64)))) (fun j49 => lt (j49 false) (fun j48 => if a1 = 0 then j48 else (if a2 = 0 then j48 else (lt (fun (x6 : Int64) => lt (fun (x7 : Int64) (x8 : Int64) (x9 : Int64) => gd (nzl x7) (if x9 ≤ (x8 / x7) then j48 else (j49 true))) (fun j39 => if 0 ≤ a1 then (j39 a1 1000000000000 x6) else (j39 (-a1) 1000000000000 x6))) (fun j24 => if 0 ≤ a2 then (j24 a2) else (j24 (-a2)))))))

def f_X11_valueOf (I : MI) (J : MJ) (a1 : Int32) : Option (Int64 × MI) :=
  gd (inb a1 128) (if (I 19 (ix a1)) = 0 then (gd (inb a1 128) (some (Int32.toInt64 (I 20 (ix a1)), I))) else (gd (inb a1 128) (if (I 19 (ix a1)) = 1 then (gd (inb a1 128) (gd (inb (I 20 (ix a1)) 7) (some (J 24 (ix (I 20 (ix a1))), I)))) else (gd (inb a1 128) (gd (inb (I 20 (ix a1)) 64) (lt (J 25 (ix (I 20 (ix a1)))) (fun x1 => gd (inb a1 128) (if (I 19 (ix a1)) = 2 then (lt (fun (x2 : Int64) => some (x2, I)) (fun j72 => if x1 = 0 then (j72 1) else (j72 0))) else (gd (inb a1 128) (gd (inb (I 21 (ix a1)) 64) (lt (J 25 (ix (I 21 (ix a1)))) (fun x3 => gd (inb a1 128) (sw (I 19 (ix a1)) [(3, lt (fun (x4 : Int64) => some (x4, I)) (fun j174 => lt (j174 0) (fun j173 => if x1 = 0 then j173 else (if x3 = 0 then j173 else (j174 1))))), (4, lt (fun (x5 : Int64) => some (x5, I)) (fun j193 => lt (j193 1) (fun j188 => if x1 = 0 then (if x3 = 0 then (j193 0) else j188) else j188))), (11, bd2 (f_X11_bounded I ((x1 + x3))) (fun x6 I7 => some (x6, I7))), (12, bd2 (f_X11_bounded I ((x1 - x3))) (fun x8 I9 => some (x8, I9))), (13, bd2 (f_X11_times I x1 x3) (fun x10 I11 => some (x10, I11))), (14, lt (fun (x12 : Bool) => gd (is01 (bi x12)) (lt (st2 I 0 51 (bi x12)) (fun I13 => lt (fun (x14 : Int64) => some (x14, I13)) (fun j258 => if (I13 0 51) = 0 then (gd (nzl x3) (j258 (x1 / x3))) else (j258 0))))) (fun j240 => lt (j240 true) (fun j235 => if (I 0 51) = 0 then (if x3 = 0 then j235 else (j240 false)) else j235)))] (gd (inb a1 128) (bd1 (f_X11_compares ((I 19 (ix a1))) x1 x3) (fun x15 => lt (fun (x16 : Int64) => some (x16, I)) (fun j279 => if x15 = true then (j279 1) else (j279 0))))))))))))))))))

def f_X11_layTried (I : MI) : Option (MI) :=
  lt (fun (I1 : MI) => gd (inb 0 2) (gd (inb 1 2) (lt (st2 I1 31 (ix 1) (I1 31 (ix 0))) (fun I2 => gd (inb 0 2) (gd (inb 1 2) (lt (st2 I2 32 (ix 1) (I2 32 (ix 0))) (fun I3 => gd (inb 0 2) (gd (inb 1 2) (lt (st2 I3 33 (ix 1) (I3 33 (ix 0))) (fun I4 => gd (inb 0 2) (gd (inb 1 2) (lt (st2 I4 34 (ix 1) (I4 34 (ix 0))) (fun I5 => gd (inb 0 2) (gd (inb 1 2) (lt (st2 I5 35 (ix 1) (I5 35 (ix 0))) (fun I6 => bd1 (f_X11_plainTried I6) (fun I7 => some (I7)))))))))))))))))) (fun j89 => fix2 (fun (r2 : Int32 → MI → Option (MI)) (x8 : Int32) (I9 : MI) => if 6 ≤ x8 then (j89 I9) else (gd (inb x8 12) (gd (inb (6 + x8) 12) (lt (st2 I9 26 (ix (6 + x8)) (I9 26 (ix x8))) (fun I10 => gd (inb x8 12) (gd (inb (6 + x8) 12) (lt (st2 I10 27 (ix (6 + x8)) (I10 27 (ix x8))) (fun I11 => gd (inb x8 12) (gd (inb (6 + x8) 12) (lt (st2 I11 28 (ix (6 + x8)) (I11 28 (ix x8))) (fun I12 => gd (inb x8 12) (gd (inb (6 + x8) 12) (lt (st2 I12 29 (ix (6 + x8)) (I12 29 (ix x8))) (fun I13 => gd (inb x8 12) (gd (inb (6 + x8) 12) (lt (st2 I13 30 (ix (6 + x8)) (I13 30 (ix x8))) (fun I14 => lt (x8 + 1) (fun x15 => r2 x15 I14)))))))))))))))))) FU 0 I)

def f_X11_isKind (I : MI) (a1 : Int32) : Option (Bool) :=
  lt (fun (x1 : Bool) => some (x1)) (fun j17 => lt (j17 false) (fun j16 => if a1 < 0 then j16 else (if (I 0 12) ≤ a1 then j16 else (j17 true))))

def f_X11_isHouse (I : MI) (a1 : Int32) : Option (Bool) :=
  lt (fun (x1 : Bool) => some (x1)) (fun j17 => lt (j17 false) (fun j16 => if a1 < 0 then j16 else (if (I 0 13) ≤ a1 then j16 else (j17 true))))

def f_X11_areHouses (I : MI) (a1 : Int32) : Option (Bool) :=
  lt (fun (x1 : Bool) => some (x1)) (fun j18 => lt (j18 false) (fun j17 => if a1 < 0 then j17 else (if (a1 >>> ((I 0 13) &&& 31)) = 0 then (j18 true) else j17)))

def f_X11_manyOf (a1 : Int32) : Option (Int32) :=
  fix2 (fun (r4 : Int32 → Int32 → Option (Int32)) (x1 : Int32) (x2 : Int32) => if 8 ≤ x2 then (some (x1)) else (lt (x1 + ((a1 >>> (x2 &&& 31)) &&& 1)) (fun x3 => lt (x2 + 1) (fun x4 => r4 x3 x4)))) FU 0 0

def f_X11_worthOf (I : MI) (a1 : Int32) : Option (Int32) :=
  lt (fun (x1 : Int32) => some (x1)) (fun j17 => if (I 0 64) = 0 then (gd (inb a1 12) (j17 (I 6 (ix a1)))) else (j17 0))

def f_X11_eagerOf (I : MI) (a1 : Int32) : Option (Int32) :=
  lt (fun (x1 : Int32) => some (x1)) (fun j18 => if (I 0 65) = 0 then (gd (inb a1 12) (j18 (I 10 (ix a1)))) else (j18 9))

def f_X11_lay (I : MI) (J : MJ) (a1 : Int32) (a2 : Int32) (a3 : Int32) : Option (MJ) :=
  bd1 (f_X11_worthOf I a3) (fun x1 => gd (inb 0 7) (lt (st2 J 24 (ix 0) (Int32.toInt64 x1)) (fun J2 => bd1 (f_X11_eagerOf I a2) (fun x3 => gd (inb 1 7) (lt (st2 J2 24 (ix 1) (Int32.toInt64 x3)) (fun J4 => gd (inb ((6 * a1) + a2) 12) (gd (inb 2 7) (lt (st2 J4 24 (ix 2) (Int32.toInt64 (I 26 (ix ((6 * a1) + a2))))) (fun J5 => gd (inb ((6 * a1) + a2) 12) (gd (inb 3 7) (lt (st2 J5 24 (ix 3) (Int32.toInt64 (I 27 (ix ((6 * a1) + a2))))) (fun J6 => gd (inb ((6 * a1) + a2) 12) (gd (inb 4 7) (lt (st2 J6 24 (ix 4) (Int32.toInt64 (I 28 (ix ((6 * a1) + a2))))) (fun J7 => gd (inb a3 12) (gd (inb 5 7) (lt (st2 J7 24 (ix 5) (Int32.toInt64 (I 7 (ix a3)))) (fun J8 => gd (inb a1 2) (gd (inb 6 7) (lt (st2 J8 24 (ix 6) (Int32.toInt64 (I 35 (ix a1)))) (fun J9 => some (J9))))))))))))))))))))))

def f_X11_lawOf (I : MI) (J : MJ) (a1 : Int32) : Option (Int64 × MI × MJ) :=
  gd (is01 0) (lt (st2 I 0 51 0) (fun I1 => gd (inb a1 6) (lt (I1 17 (ix a1)) (fun x2 => lt (fun (I3 : MI) (J4 : MJ) => lt (fun (x5 : Int64) => some (x5, I3, J4)) (fun j63 => if (I3 0 51) = 0 then (gd (inb a1 6) (gd (inb ((I3 18 (ix a1)) - 1) 64) (j63 (J4 25 (ix ((I3 18 (ix a1)) - 1)))))) else (j63 0))) (fun j39 => fix3 (fun (r12 : Int32 → MI → MJ → Option (Int64 × MI × MJ)) (x6 : Int32) (I7 : MI) (J8 : MJ) => gd (inb a1 6) (if (I7 18 (ix a1)) ≤ x6 then (j39 I7 J8) else (bd2 (f_X11_valueOf I7 J8 x6) (fun x9 I10 => gd (inb x6 64) (lt (st2 J8 25 (ix x6) x9) (fun J11 => lt (x6 + 1) (fun x12 => r12 x12 I10 J11))))))) FU x2 I1 J)))))

def f_X11_boundLaw (I : MI) (J : MJ) (a1 : Int32) (a2 : Int32) (a3 : Int32) (a4 : Int32) : Option (Int32 × MI × MJ) :=
  gd (inb a1 6) (if (I 16 (ix a1)) = 0 then (some (a2, I, J)) else (bd3 (f_X11_lawOf I J a1) (fun x1 I2 J3 => if (I2 0 51) = 0 then (lt (fun (x4 : Int32) => some (x4, I2, J3)) (fun j56 => if (Int32.toInt64 a3) ≤ x1 then (if x1 ≤ (Int32.toInt64 a4) then (j56 (Int64.toInt32 x1)) else (j56 a4)) else (j56 a3))) else (some (a2, I2, J3)))))

def f_X11_number1 (J : MJ) (a1 : Int32) : Option (Int32 × MJ) :=
  lt (st2 J 0 62 ((((J 0 62) * 1103515245) + 12345) &&& 2147483647)) (fun J1 => gd (nzl 65536) (gd (nzl (Int32.toInt64 a1)) (some (Int64.toInt32 (lrem ((J1 0 62) / 65536) (Int32.toInt64 a1)), J1))))

def f_X11_weightAll (I : MI) : Option (Int32) :=
  fix2 (fun (r4 : Int32 → Int32 → Option (Int32)) (x1 : Int32) (x2 : Int32) => if (I 0 12) ≤ x2 then (some (x1)) else (gd (inb x2 12) (lt (x1 + (I 7 (ix x2))) (fun x3 => lt (x2 + 1) (fun x4 => r4 x3 x4))))) FU 0 0

def f_X11_heaviest (I : MI) : Option (Int32) :=
  fix2 (fun (r4 : Int32 → Int32 → Option (Int32)) (x1 : Int32) (x2 : Int32) => if (I 0 12) ≤ x2 then (some (x1)) else (gd (inb x2 12) (lt (fun (x3 : Int32) (x4 : Int32) => lt (fun (x5 : Int32) => lt (x2 + 1) (fun x6 => r4 x5 x6)) (fun j37 => if x4 ≤ x3 then (j37 x1) else (j37 x2))) (fun j32 => if 0 ≤ x1 then (gd (inb x1 12) (j32 (I 7 (ix x1)) (I 7 (ix x2)))) else (j32 0 (I 7 (ix x2))))))) FU (-1) 0

def f_X11_drawnKind (I : MI) (J : MJ) : Option (Int32 × MJ) :=
  bd1 (f_X11_weightAll I) (fun x1 => bd1 (f_X11_heaviest I) (fun x2 => lt (some (x2, J)) (fun j24 => if x1 = 0 then j24 else (gd (inb x2 12) (if (I 7 (ix x2)) = x1 then j24 else (bd2 (f_X11_number1 J x1) (fun x3 J4 => gd (inb 0 12) (lt (I 7 (ix 0)) (fun x5 => fix2 (fun (r43 : Int32 → Int32 → Option (Int32 × MJ)) (x6 : Int32) (x7 : Int32) => if x3 < x7 then (some (x6, J4)) else (lt (x6 + 1) (fun x8 => gd (inb x8 12) (lt (x7 + (I 7 (ix x8))) (fun x9 => r43 x8 x9))))) FU 0 x5)))))))))

def f_X11_weatherOf (I : MI) (J : MJ) (a1 : Int32) : Option (Int32 × MJ) :=
  gd (inb a1 2) (if (I 33 (ix a1)) < 0 then (gd (inb a1 2) (bd1 (f_X11_find I 12 40 0 ((I 0 14)) ((I 35 (ix a1)))) (fun x1 => lt (fun (x2 : Int32) (J3 : MJ) => some (x2, J3)) (fun j66 => if x1 < 0 then (if (I 0 63) = 0 then (bd1 (f_X11_heaviest I) (fun x4 => j66 x4 J)) else (bd2 (f_X11_drawnKind I J) (fun x5 J6 => j66 x5 J6))) else (gd (inb x1 40) (j66 (I 13 (ix x1)) J)))))) else (gd (inb a1 2) (some (I 33 (ix a1), J))))

def f_X11_bounded_ (a1 : Int32) (a2 : Int32) (a3 : Int32) : Option (Int32) :=
  lt (fun (x1 : Int32) => some (x1)) (fun j19 => if a2 ≤ a1 then (if a1 ≤ a3 then (j19 a1) else (j19 a3)) else (j19 a2))

def f_X11_looks (I : MI) (J : MJ) (a1 : Int32) (a2 : Int32) (a3 : Int32) : Option (MI × MJ) :=
  lt ((6 * a1) + a2) (fun x1 => bd1 (f_X11_lay I J a1 a2 a3) (fun J2 => gd (inb 0 6) (lt (fun (I3 : MI) (J4 : MJ) => gd (inb x1 12) (gd (inb x1 12) (lt (st2 I3 29 (ix x1) ((I3 29 (ix x1)) + 1)) (fun I5 => bd1 (f_X11_eagerOf I5 a2) (fun x6 => bd3 (f_X11_boundLaw I5 J4 1 x6 0 99) (fun x7 I8 J9 => gd (inb x1 12) (bd1 (f_X11_bounded_ (((I8 28 (ix x1)) + x7)) 0 99999) (fun x10 => gd (inb x1 12) (lt (st2 I8 28 (ix x1) x10) (fun I11 => bd1 (f_X11_lay I11 J9 a1 a2 a3) (fun J12 => gd (inb x1 12) (bd1 (f_X11_worthOf I11 a3) (fun x13 => bd3 (f_X11_boundLaw I11 J12 2 ((x13 * x7)) (-999) 999) (fun x14 I15 J16 => bd1 (f_X11_bounded_ (((I11 27 (ix x1)) + x14)) (-99999) 99999) (fun x17 => gd (inb x1 12) (lt (st2 I15 27 (ix x1) x17) (fun I18 => some (I18, J16)))))))))))))))))) (fun j42 => if (I 16 (ix 0)) = 0 then (j42 I J2) else (bd3 (f_X11_lawOf I J2 0) (fun x19 I20 J21 => if x19 = 0 then (if (I20 0 51) = 0 then (some (I20, J21)) else (j42 I20 J21)) else (j42 I20 J21)))))))

def f_X11_pays (I : MI) (a1 : Int32) (a2 : Int32) : Option (MI) :=
  lt ((6 * a1) + a2) (fun x1 => gd (inb x1 12) (gd (inb a2 12) (gd (inb x1 12) (lt (((I 26 (ix x1)) + (I 11 (ix a2))) - (I 27 (ix x1))) (fun x2 => lt (fun (x3 : Int32) (x4 : Int32) => gd (inb x4 12) (lt (st2 I 26 (ix x4) x3) (fun I5 => gd (inb x1 12) (lt (st2 I5 27 (ix x1) 0) (fun I6 => lt (fun (I7 : MI) => some (I7)) (fun j73 => if 0 ≤ x2 then (j73 I6) else (gd (inb a1 2) (gd (inb a1 2) (lt (st2 I6 31 (ix a1) ((I6 31 (ix a1)) ||| (1 <<< (a2 &&& 31)))) (fun I8 => j73 I8)))))))))) (fun j48 => if x2 ≤ 99999 then (j48 x2 x1) else (j48 99999 x1)))))))

def f_X11_dayGoes (I : MI) (J : MJ) (a1 : Int32) : Option (MI × MJ) :=
  bd2 (f_X11_weatherOf I J a1) (fun x1 J2 => lt (fun (I3 : MI) => lt (fun (I4 : MI) (J5 : MJ) => lt (fun (I6 : MI) => gd (inb a1 2) (lt (st2 I6 33 (ix a1) (-1)) (fun I7 => gd (inb a1 2) (gd (inb a1 2) (lt (st2 I7 35 (ix a1) ((I7 35 (ix a1)) + 1)) (fun I8 => some (I8, J5))))))) (fun j145 => fix2 (fun (r87 : Int32 → MI → Option (MI × MJ)) (x9 : Int32) (I10 : MI) => if (I10 0 13) ≤ x9 then (j145 I10) else (if (I10 0 66) = 0 then (gd (inb a1 2) (gd (inb 0 4) (gd (nz (I10 4 (ix 0))) (if (irem ((I10 35 (ix a1)) + 1) (I10 4 (ix 0))) = 0 then (gd (inb a1 2) (bd1 (f_X11_isOf ((I10 31 (ix a1))) x9) (fun x11 => lt (fun (I12 : MI) => lt (x9 + 1) (fun x13 => r87 x13 I12)) (fun j139 => if x11 = true then (j139 I10) else (bd1 (f_X11_pays I10 a1 x9) (fun I14 => j139 I14)))))) else (j145 I10))))) else (j145 I10))) FU 0 I4)) (fun j85 => fix3 (fun (r40 : Int32 → MI → MJ → Option (MI × MJ)) (x15 : Int32) (I16 : MI) (J17 : MJ) => if (I16 0 13) ≤ x15 then (j85 I16 J17) else (if x1 < 0 then (j85 I16 J17) else (gd (inb a1 2) (gd (inb a1 2) (bd1 (f_X11_isOf (((I16 31 (ix a1)) ||| (I16 32 (ix a1)))) x15) (fun x18 => lt (fun (I19 : MI) (J20 : MJ) => lt (x15 + 1) (fun x21 => r40 x21 I19 J20)) (fun j79 => if x18 = true then (j79 I16 J17) else (bd2 (f_X11_looks I16 J17 a1 x15 x1) (fun I22 J23 => j79 I22 J23))))))))) FU 0 I3 J2)) (fun j38 => if 0 ≤ x1 then (gd (inb ((6 * a1) + x1) 12) (gd (inb ((6 * a1) + x1) 12) (lt (st2 I 30 (ix ((6 * a1) + x1)) ((I 30 (ix ((6 * a1) + x1))) + 1)) (fun I24 => j38 I24)))) else (gd (inb a1 2) (gd (inb a1 2) (lt (st2 I 34 (ix a1) ((I 34 (ix a1)) + 1)) (fun I25 => j38 I25))))))

def f_X11_goMany (I : MI) (J : MJ) (a1 : Int32) : Option (MI × MJ) :=
  fix3 (fun (r2 : Int32 → MI → MJ → Option (MI × MJ)) (x1 : Int32) (I2 : MI) (J3 : MJ) => if a1 ≤ x1 then (some (I2, J3)) else (bd2 (f_X11_dayGoes I2 J3 1) (fun I4 J5 => lt (x1 + 1) (fun x6 => r2 x6 I4 J5)))) FU 0 I J

def f_X11_lookedAll (I : MI) (a1 : Int32) : Option (Int32) :=
  fix2 (fun (r4 : Int32 → Int32 → Option (Int32)) (x1 : Int32) (x2 : Int32) => if (I 0 13) ≤ x2 then (some (x1)) else (gd (inb ((6 * a1) + x2) 12) (lt (x1 + (I 29 (ix ((6 * a1) + x2)))) (fun x3 => lt (x2 + 1) (fun x4 => r4 x3 x4))))) FU 0 0

def f_X11_hasOf (I : MI) (a1 : Int32) (a2 : Int32) : Option (Int32) :=
  gd (inb ((6 * a1) + a2) 12) (gd (inb ((6 * a1) + a2) 12) (some ((I 26 (ix ((6 * a1) + a2))) - (I 27 (ix ((6 * a1) + a2))))))

def f_X11_fails (I : MI) (a1 : Int32) : Option (Int32 × MI) :=
  lt (st2 I 0 2 a1) (fun I1 => some (0, I1))

def f_X11_house (I : MI) (a1 : Int32) (a2 : Int32) : Option (Int32 × MI) :=
  lt (st2 I 0 2 0) (fun I1 => bd1 (f_X11_isHouse I1 a1) (fun x2 => if x2 = true then (sw a2 [(0, gd (inb a1 12) (some (I1 26 (ix a1), I1))), (1, gd (inb a1 12) (some (I1 27 (ix a1), I1))), (2, gd (inb a1 12) (some (I1 28 (ix a1), I1))), (3, gd (inb a1 12) (some (I1 10 (ix a1), I1))), (4, gd (inb a1 12) (some (I1 29 (ix a1), I1))), (5, gd (inb 0 2) (some (((I1 31 (ix 0)) >>> (a1 &&& 31)) &&& 1, I1))), (6, gd (inb 0 2) (some (((I1 32 (ix 0)) >>> (a1 &&& 31)) &&& 1, I1)))] (bd2 (f_X11_fails I1 2) (fun x3 I4 => some (x3, I4)))) else (bd2 (f_X11_fails I1 1) (fun x5 I6 => some (x5, I6)))))

def f_X11_kind (I : MI) (a1 : Int32) (a2 : Int32) : Option (Int32 × MI) :=
  lt (st2 I 0 2 0) (fun I1 => bd1 (f_X11_isKind I1 a1) (fun x2 => if x2 = true then (lt (fun (x3 : Int32) => some (x3, I1)) (fun j57 => if a2 = 0 then (gd (inb a1 12) (j57 (I1 6 (ix a1)))) else (if a2 = 1 then (gd (inb a1 12) (j57 (I1 7 (ix a1)))) else (if a2 = 2 then (gd (inb a1 12) (j57 (I1 30 (ix a1)))) else (j57 (-1)))))) else (some ((-1), I1))))

def f_X11_weatherIn (I : MI) (a1 : Int32) : Option (Int32) :=
  lt (gd (inb 0 2) (bd1 (f_X11_find I 12 40 0 ((I 0 14)) (((I 35 (ix 0)) + a1))) (fun x1 => lt (fun (x2 : Int32) => some (x2)) (fun j58 => if x1 < 0 then (bd1 (f_X11_heaviest I) (fun x3 => j58 x3)) else (gd (inb x1 40) (j58 (I 13 (ix x1)))))))) (fun j20 => if a1 = 0 then (gd (inb 0 2) (if (I 33 (ix 0)) < 0 then j20 else (gd (inb 0 2) (some (I 33 (ix 0)))))) else j20)

def f_X11_weather (I : MI) (a1 : Int32) : Option (Int32 × MI) :=
  lt (st2 I 0 2 0) (fun I1 => bd1 (f_X11_isIn a1 0 200) (fun x2 => if x2 = true then (bd1 (f_X11_weatherIn I1 a1) (fun x3 => lt (fun (x4 : Int32) => some (x4, I1)) (fun j34 => if 0 ≤ x3 then (j34 x3) else (j34 (-2))))) else (some ((-1), I1))))

def f_X11_law (I : MI) (J : MJ) (a1 : Int32) (a2 : Int32) (a3 : Int32) : Option (Int64 × MI × MJ) :=
  lt (st2 I 0 2 0) (fun I1 => bd1 (f_X11_isIn a1 0 2) (fun x2 => lt (some ((-9223372036854775808), I1, J)) (fun j39 => if x2 = true then (gd (inb a1 6) (if (I1 16 (ix a1)) = 0 then j39 else (bd1 (f_X11_isHouse I1 a2) (fun x3 => if x3 = true then (bd1 (f_X11_isKind I1 a3) (fun x4 => if x4 = true then (bd1 (f_X11_plainTried I1) (fun I5 => bd1 (f_X11_lay I5 J 0 a2 a3) (fun J6 => bd3 (f_X11_lawOf I5 J6 a1) (fun x7 I8 J9 => lt (fun (x10 : Int64) => some (x10, I8, J9)) (fun j76 => if (I8 0 51) = 0 then (j76 x7) else (j76 (-9223372036854775808))))))) else j39)) else j39)))) else j39)))

def f_X11_put (I : MI) (pa : Nat) (na : Nat) (a2 : Int32) : Option (MI) :=
  gd (inb 0 2) (gd (inb a2 na) (lt (st2 I pa (ix a2) (I 32 (ix 0))) (fun I1 => gd (inb 0 2) (gd (inb (a2 + 1) na) (lt (st2 I1 pa (ix (a2 + 1)) (I1 33 (ix 0))) (fun I2 => fix2 (fun (r22 : Int32 → MI → Option (MI)) (x3 : Int32) (I4 : MI) => if 6 ≤ x3 then (some (I4)) else (gd (inb x3 12) (gd (inb ((a2 + 2) + x3) na) (lt (st2 I4 pa (ix ((a2 + 2) + x3)) (I4 26 (ix x3))) (fun I5 => lt (x3 + 1) (fun x6 => r22 x6 I5)))))) FU 0 I2))))))

def f_X11_remember (I : MI) : Option (MI) :=
  lt (fun (I1 : MI) => bd1 (f_X11_put I1 40 160 ((8 * (I1 0 74)))) (fun I2 => lt (st2 I2 0 74 ((I2 0 74) + 1)) (fun I3 => some (I3)))) (fun j49 => if (I 0 74) = 20 then (lt (fun (I4 : MI) => lt (st2 I4 0 74 ((I4 0 74) - 1)) (fun I5 => j49 I5)) (fun j39 => fix2 (fun (r11 : Int32 → MI → Option (MI)) (x6 : Int32) (I7 : MI) => if 152 ≤ x6 then (j39 I7) else (gd (inb (x6 + 8) 160) (gd (inb x6 160) (lt (st2 I7 40 (ix x6) (I7 40 (ix (x6 + 8)))) (fun I8 => lt (x6 + 1) (fun x9 => r11 x9 I8)))))) FU 0 I)) else (j49 I))

def f_X11_blind (I : MI) (a1 : Int32) : Option (Int32 × MI) :=
  lt (st2 I 0 2 0) (fun I1 => bd1 (f_X11_isHouse I1 a1) (fun x2 => if x2 = true then (bd1 (f_X11_remember I1) (fun I3 => gd (inb 0 2) (gd (inb 0 2) (lt (st2 I3 32 (ix 0) ((I3 32 (ix 0)) ^^^ (1 <<< (a1 &&& 31)))) (fun I4 => gd (inb 0 2) (some (((I4 32 (ix 0)) >>> (a1 &&& 31)) &&& 1, I4))))))) else (some ((-1), I1))))

def f_X11_send (I : MI) (a1 : Int32) : Option (Bool × MI) :=
  lt (st2 I 0 2 0) (fun I1 => bd1 (f_X11_isKind I1 a1) (fun x2 => if x2 = true then (bd1 (f_X11_remember I1) (fun I3 => gd (inb 0 2) (lt (st2 I3 33 (ix 0) a1) (fun I4 => some (true, I4))))) else (some (false, I1))))

def f_X11_lend (I : MI) (a1 : Int32) (a2 : Int32) (a3 : Int32) : Option (Int32 × MI) :=
  lt (st2 I 0 2 0) (fun I1 => bd1 (f_X11_isHouse I1 a1) (fun x2 => lt (some ((-1), I1)) (fun j37 => if x2 = true then (bd1 (f_X11_isHouse I1 a2) (fun x3 => if x3 = true then (if a1 = a2 then j37 else (bd1 (f_X11_isIn a3 1 999) (fun x4 => if x4 = true then (gd (inb 0 2) (bd1 (f_X11_isOf ((I1 31 (ix 0))) a1) (fun x5 => lt (some ((-2), I1)) (fun j75 => if x5 = true then j75 else (gd (inb 0 2) (bd1 (f_X11_isOf ((I1 31 (ix 0))) a2) (fun x6 => if x6 = true then j75 else (gd (inb a1 12) (if a3 ≤ (I1 26 (ix a1)) then (bd1 (f_X11_remember I1) (fun I7 => gd (inb a1 12) (gd (inb a1 12) (lt (st2 I7 26 (ix a1) ((I7 26 (ix a1)) - a3)) (fun I8 => gd (inb a2 12) (bd1 (f_X11_bounded_ (((I8 26 (ix a2)) + a3)) (-99999) 99999) (fun x9 => gd (inb a2 12) (lt (st2 I8 26 (ix a2) x9) (fun I10 => gd (inb a2 12) (some (I10 26 (ix a2), I10))))))))))) else j75))))))))) else j37))) else j37)) else j37)))

def f_X11_go (I : MI) (J : MJ) (a1 : Int32) : Option (Int32 × MI × MJ) :=
  lt (st2 I 0 2 0) (fun I1 => bd1 (f_X11_isIn a1 0 200) (fun x2 => lt (some ((-1), I1, J)) (fun j30 => if x2 = true then (gd (inb 0 2) (if ((I1 35 (ix 0)) + a1) ≤ 9000 then (bd1 (f_X11_plainTried I1) (fun I3 => gd (is01 1) (lt (st2 I3 0 63 1) (fun I4 => lt (fun (I5 : MI) (J6 : MJ) => gd (is01 0) (lt (st2 I5 0 63 0) (fun I7 => lt (fun (x8 : Int32) => lt (st2 I7 0 74 x8) (fun I9 => gd (inb 0 2) (some (I9 35 (ix 0), I9, J6)))) (fun j77 => if a1 ≤ 0 then (j77 (I7 0 74)) else (j77 0))))) (fun j59 => fix3 (fun (r43 : Int32 → MI → MJ → Option (Int32 × MI × MJ)) (x10 : Int32) (I11 : MI) (J12 : MJ) => if a1 ≤ x10 then (j59 I11 J12) else (bd2 (f_X11_dayGoes I11 J12 0) (fun I13 J14 => lt (x10 + 1) (fun x15 => r43 x15 I13 J14)))) FU 0 I4 J))))) else j30)) else j30)))

def f_X11_ahead (I : MI) (J : MJ) (a1 : Int32) (a2 : Int32) (a3 : Int32) : Option (Int32 × MI × MJ) :=
  lt (st2 I 0 2 0) (fun I1 => bd1 (f_X11_isIn a1 0 200) (fun x2 => lt (some ((-2147483648), I1, J)) (fun j38 => if x2 = true then (bd1 (f_X11_isIn a2 0 4) (fun x3 => if x3 = true then (lt (bd1 (f_X11_layTried I1) (fun I4 => bd2 (f_X11_goMany I4 J a1) (fun I5 J6 => sw a2 [(0, gd (inb (6 + a3) 12) (some (I5 26 (ix (6 + a3)), I5, J6))), (1, gd (inb (6 + a3) 12) (some (I5 27 (ix (6 + a3)), I5, J6))), (2, gd (inb (6 + a3) 12) (some (I5 28 (ix (6 + a3)), I5, J6))), (3, gd (inb 1 2) (bd1 (f_X11_manyOf ((I5 31 (ix 1)))) (fun x7 => some (x7, I5, J6))))] (bd1 (f_X11_lookedAll I5 1) (fun x8 => bd1 (f_X11_lookedAll I5 0) (fun x9 => some (x8 - x9, I5, J6))))))) (fun j42 => if 3 ≤ a2 then j42 else (bd1 (f_X11_isHouse I1 a3) (fun x10 => if x10 = true then j42 else j38)))) else j38)) else j38)))

def f_X11_daysTo (I : MI) (J : MJ) (a1 : Int32) (a2 : Int32) : Option (Int32 × MI × MJ) :=
  bd1 (f_X11_layTried I) (fun I1 => fix3 (fun (r6 : Int32 → MI → MJ → Option (Int32 × MI × MJ)) (x2 : Int32) (I3 : MI) (J4 : MJ) => if 200 ≤ x2 then (some ((-2), I3, J4)) else (lt (fun (x5 : Bool) => lt (bi x5) (fun x6 => if x6 = 0 then (bd2 (f_X11_dayGoes I3 J4 1) (fun I7 J8 => lt (x2 + 1) (fun x9 => r6 x9 I7 J8))) else (some (x2, I3, J4)))) (fun j69 => if a1 = 0 then (gd (inb 1 2) (bd1 (f_X11_isOf ((I3 31 (ix 1))) a2) (fun x10 => j69 x10))) else (if a1 = 1 then (gd (inb (6 + a2) 12) (if 0 ≤ (I3 27 (ix (6 + a2))) then (j69 false) else (j69 true))) else (bd1 (f_X11_hasOf I3 1 a2) (fun x11 => if 0 ≤ x11 then (j69 false) else (j69 true))))))) FU 0 I1 J)

def f_X11_sold (I : MI) (J : MJ) (a1 : Int32) : Option (Int32 × MI × MJ) :=
  lt (st2 I 0 2 0) (fun I1 => bd1 (f_X11_isHouse I1 a1) (fun x2 => lt (fun (x3 : Int32) (I4 : MI) (J5 : MJ) => some (x3, I4, J5)) (fun j23 => if x2 = true then (bd3 (f_X11_daysTo I1 J 0 a1) (fun x6 I7 J8 => j23 x6 I7 J8)) else (j23 (-1) I1 J))))

def f_X11_credit (I : MI) (J : MJ) (a1 : Int32) : Option (Int32 × MI × MJ) :=
  lt (st2 I 0 2 0) (fun I1 => bd1 (f_X11_isHouse I1 a1) (fun x2 => lt (fun (x3 : Int32) (I4 : MI) (J5 : MJ) => some (x3, I4, J5)) (fun j23 => if x2 = true then (bd3 (f_X11_daysTo I1 J 1 a1) (fun x6 I7 J8 => j23 x6 I7 J8)) else (j23 (-1) I1 J))))

def f_X11_owes (I : MI) (J : MJ) (a1 : Int32) : Option (Int32 × MI × MJ) :=
  lt (st2 I 0 2 0) (fun I1 => bd1 (f_X11_isHouse I1 a1) (fun x2 => lt (fun (x3 : Int32) (I4 : MI) (J5 : MJ) => some (x3, I4, J5)) (fun j23 => if x2 = true then (bd3 (f_X11_daysTo I1 J 2 a1) (fun x6 I7 J8 => j23 x6 I7 J8)) else (j23 (-1) I1 J))))

def f_X11_termIn (I : MI) : Option (Int32 × MI) :=
  lt (st2 I 0 2 0) (fun I1 => gd (inb 0 4) (gd (inb 0 2) (gd (inb 0 4) (gd (nz (I1 4 (ix 0))) (some ((I1 4 (ix 0)) - (irem (I1 35 (ix 0)) (I1 4 (ix 0))), I1))))))

def f_X11_often (I : MI) (a1 : Int32) (a2 : Int32) : Option (Int32 × MI) :=
  lt (st2 I 0 2 0) (fun I1 => bd1 (f_X11_isKind I1 a1) (fun x2 => lt (some ((-1), I1)) (fun j24 => if x2 = true then (bd1 (f_X11_isIn a2 0 200) (fun x3 => if x3 = true then (fix2 (fun (r31 : Int32 → Int32 → Option (Int32 × MI)) (x4 : Int32) (x5 : Int32) => if a2 ≤ x5 then (some (x4, I1)) else (bd1 (f_X11_weatherIn I1 x5) (fun x6 => lt (fun (x7 : Bool) (x8 : Int32) => lt (x8 + (bi x7)) (fun x9 => lt (x5 + 1) (fun x10 => r31 x9 x10))) (fun j53 => if x6 = a1 then (j53 true x4) else (j53 false x4))))) FU 0 0) else j24)) else j24)))

def f_X11_suits (I : MI) (a1 : Int32) (a2 : Int32) : Option (Bool) :=
  lt (fun (x1 : Bool) => some (x1)) (fun j27 => lt (j27 false) (fun j26 => if (I 0 69) ≤ a2 then j26 else (bd1 (f_X11_weatherIn I a2) (fun x2 => gd (inb a1 12) (if x2 = (I 15 (ix a1)) then (j27 true) else j26)))))

def f_X11_costOf (I : MI) (a1 : Int32) : Option (Int32) :=
  gd (inb a1 12) (gd (inb (I 15 (ix a1)) 12) (gd (inb a1 12) (gd (inb (I 14 (ix a1)) 12) (some ((I 6 (ix (I 15 (ix a1)))) * (I 10 (ix (I 14 (ix a1)))))))))

def f_X11_layPlan (I : MI) : Option (MI) :=
  lt (fun (I1 : MI) => lt ((I1 0 15) - 1) (fun x2 => fix2 (fun (r54 : Int32 → MI → Option (MI)) (x3 : Int32) (I4 : MI) => if x3 < 0 then (some (I4)) else (lt (fun (I5 : MI) => lt (x3 + (-1)) (fun x6 => r54 x6 I5)) (fun j255 => fix2 (fun (r60 : Int32 → MI → Option (MI)) (x7 : Int32) (I8 : MI) => if 256 ≤ x7 then (j255 I8) else (lt ((256 * x3) + x7) (fun x9 => gd (inb (x9 + 256) 1792) (gd (inb x9 1792) (lt (st2 I8 36 (ix x9) (I8 36 (ix (x9 + 256)))) (fun I10 => gd (inb (x9 + 256) 1792) (gd (inb x9 1792) (lt (st2 I10 37 (ix x9) (I10 37 (ix (x9 + 256)))) (fun I11 => lt (fun (I12 : MI) => lt (x7 + 1) (fun x13 => r60 x13 I12)) (fun j249 => fix2 (fun (r110 : Int32 → MI → Option (MI)) (x14 : Int32) (I15 : MI) => if 8 ≤ x14 then (j249 I15) else (bd1 (f_X11_isOf x7 x14) (fun x16 => lt (fun (I17 : MI) => lt (x14 + 1) (fun x18 => r110 x18 I17)) (fun j243 => if x16 = true then (j243 I15) else (bd1 (f_X11_suits I15 x3 x14) (fun x19 => if x19 = true then (lt ((256 * (x3 + 1)) + (x7 ||| (1 <<< (x14 &&& 31)))) (fun x20 => gd (inb x20 1792) (bd1 (f_X11_costOf I15 x3) (fun x21 => lt ((I15 37 (ix x20)) + x21) (fun x22 => gd (inb x20 1792) (gd (inb x9 1792) (if ((I15 36 (ix x20)) + 1) < (I15 36 (ix x9)) then (j243 I15) else (gd (inb x20 1792) (gd (inb x9 1792) (lt (gd (inb x20 1792) (gd (inb x9 1792) (lt (st2 I15 36 (ix x9) ((I15 36 (ix x20)) + 1)) (fun I23 => gd (inb x9 1792) (lt (st2 I23 37 (ix x9) x22) (fun I24 => j243 I24)))))) (fun j220 => if ((I15 36 (ix x20)) + 1) = (I15 36 (ix x9)) then (gd (inb x9 1792) (if x22 < (I15 37 (ix x9)) then j220 else (j243 I15))) else j220))))))))))) else (j243 I15))))))) FU 0 I11)))))))))) FU 0 I4))) FU x2 I1)) (fun j47 => fix2 (fun (r2 : Int32 → MI → Option (MI)) (x25 : Int32) (I26 : MI) => if 256 ≤ x25 then (j47 I26) else (gd (inb ((256 * (I26 0 15)) + x25) 1792) (lt (st2 I26 36 (ix ((256 * (I26 0 15)) + x25)) 0) (fun I27 => gd (inb ((256 * (I27 0 15)) + x25) 1792) (lt (st2 I27 37 (ix ((256 * (I27 0 15)) + x25)) 0) (fun I28 => lt (x25 + 1) (fun x29 => r2 x29 I28))))))) FU 0 I)

def f_X11_dayFor (I : MI) (a1 : Int32) (a2 : Int32) : Option (Int32) :=
  lt ((256 * a1) + a2) (fun x1 => fix1 (fun (r11 : Int32 → Option (Int32)) (x2 : Int32) => if 8 ≤ x2 then (some ((-1))) else (bd1 (f_X11_isOf a2 x2) (fun x3 => lt (lt (x2 + 1) (fun x4 => r11 x4)) (fun j99 => if x3 = true then j99 else (bd1 (f_X11_suits I a1 x2) (fun x5 => if x5 = true then (lt ((256 * (a1 + 1)) + (a2 ||| (1 <<< (x2 &&& 31)))) (fun x6 => gd (inb x6 1792) (gd (inb x1 1792) (if ((I 36 (ix x6)) + 1) = (I 36 (ix x1)) then (gd (inb x6 1792) (bd1 (f_X11_costOf I a1) (fun x7 => gd (inb x1 1792) (if ((I 37 (ix x6)) + x7) = (I 37 (ix x1)) then (some (x2)) else j99)))) else j99)))) else j99)))))) FU 0)

def f_X11_plan (I : MI) (a1 : Int32) (a2 : Int32) : Option (Int32 × MI) :=
  lt (st2 I 0 2 0) (fun I1 => bd1 (f_X11_isIn a1 0 8) (fun x2 => lt (some ((-1), I1)) (fun j25 => if x2 = true then (bd1 (f_X11_isIn a2 0 7) (fun x3 => if x3 = true then (lt (lt (st2 I1 0 69 a1) (fun I4 => bd1 (f_X11_layPlan I4) (fun I5 => if a2 ≤ 5 then (lt (fun (x6 : Int32) => bd1 (f_X11_dayFor I5 a2 x6) (fun x7 => lt (fun (x8 : Int32) => some (x8, I5)) (fun j142 => if 0 ≤ x7 then (j142 x7) else (j142 (-2))))) (fun j122 => fix2 (fun (r85 : Int32 → Int32 → Option (Int32 × MI)) (x9 : Int32) (x10 : Int32) => if a2 ≤ x10 then (j122 x9) else (bd1 (f_X11_dayFor I5 x10 x9) (fun x11 => lt (fun (x12 : Int32) (x13 : Int32) => lt (x13 ||| x12) (fun x14 => lt (x10 + 1) (fun x15 => r85 x14 x15))) (fun j114 => if 0 ≤ x11 then (j114 (1 <<< (x11 &&& 31)) x9) else (j114 0 x9))))) FU 0 0)) else (lt (fun (x16 : Int32) => some (x16, I5)) (fun j79 => if a2 = 6 then (gd (inb 0 1792) (j79 (I5 36 (ix 0)))) else (gd (inb 0 1792) (j79 (I5 37 (ix 0))))))))) (fun j44 => if 6 ≤ a2 then j44 else (if a2 < (I1 0 15) then j44 else (some ((-2), I1))))) else j25)) else j25)))

def f_X11_shared (a1 : Int64) (a2 : Int64) : Option (Int64) :=
  fix2 (fun (r0 : Int64 → Int64 → Option (Int64)) (x1 : Int64) (x2 : Int64) => if x2 = 0 then (some (x1)) else (gd (nzl x2) (lt (lrem x1 x2) (fun x3 => r0 x2 x3)))) FU a1 a2

def f_X11_least (a1 : Int64) (a2 : Int64) (a3 : Int32) : Option (Int64) :=
  bd1 (f_X11_shared a2 a1) (fun x1 => lt (fun (x2 : Int64) => some (x2)) (fun j23 => if a3 = 0 then (gd (nzl x1) (j23 (a1 / x1))) else (gd (nzl x1) (j23 (a2 / x1)))))

def f_X11_paysOf (I : MI) (a1 : Int32) (a2 : Int32) : Option (Int32) :=
  gd (inb a2 12) (gd (inb a1 12) (some ((I 6 (ix a2)) * (I 10 (ix a1)))))

def f_X11_share (I : MI) (a1 : Int32) (a2 : Int32) (a3 : Int32) (a4 : Int32) : Option (Int32 × MI) :=
  lt (st2 I 0 2 0) (fun I1 => bd1 (f_X11_areHouses I1 a1) (fun x2 => lt (some ((-1), I1)) (fun j39 => if x2 = true then (bd1 (f_X11_isHouse I1 a2) (fun x3 => if x3 = true then (bd1 (f_X11_isKind I1 a3) (fun x4 => if x4 = true then (bd1 (f_X11_isIn a4 0 1) (fun x5 => if x5 = true then (lt (fun (x6 : Int32) => bd1 (f_X11_least ((Int32.toInt64 x6)) 60 a4) (fun x7 => some (Int64.toInt32 x7, I1))) (fun j171 => fix2 (fun (r47 : Int32 → Int32 → Option (Int32 × MI)) (x8 : Int32) (x9 : Int32) => bd1 (f_X11_isOf a1 a2) (fun x10 => if x10 = true then (bd1 (f_X11_paysOf I1 a2 a3) (fun x11 => if x11 ≤ x8 then (j171 x9) else (bd1 (f_X11_paysOf I1 a2 a3) (fun x12 => lt (fun (x13 : Int32) (x14 : Int32) => gd (nz x14) (lt (x9 + ((x13 - x8) * (60 / x14))) (fun x15 => r47 x13 x15))) (fun j148 => fix3 (fun (r80 : Int32 → Int32 → Int32 → Option (Int32 × MI)) (x16 : Int32) (x17 : Int32) (x18 : Int32) => if (I1 0 13) ≤ x18 then (j148 x16 x17) else (bd1 (f_X11_isOf a1 x18) (fun x19 => lt (fun (x20 : Int32) (x21 : Int32) => lt (x18 + 1) (fun x22 => r80 x20 x21 x22)) (fun j142 => if x19 = true then (bd1 (f_X11_paysOf I1 x18 a3) (fun x23 => if x8 < x23 then (bd1 (f_X11_paysOf I1 x18 a3) (fun x24 => lt (fun (x25 : Int32) => lt (x17 + 1) (fun x26 => j142 x25 x26)) (fun j137 => if x16 ≤ x24 then (j137 x16) else (bd1 (f_X11_paysOf I1 x18 a3) (fun x27 => j137 x27))))) else (j142 x16 x17))) else (j142 x16 x17))))) FU x12 0 0))))) else (j171 x9))) FU 0 0)) else j39)) else j39)) else j39)) else j39)))

def f_X11_waits (I : MI) (a1 : Int32) (a2 : Int32) : Option (Int64 × MI) :=
  lt (st2 I 0 2 0) (fun I1 => bd1 (f_X11_isIn a1 0 6) (fun x2 => lt (some ((-1), I1)) (fun j24 => if x2 = true then (bd1 (f_X11_isIn a2 0 1) (fun x3 => if x3 = true then (lt (fun (x4 : Int64) (x5 : Int64) => lt (fun (x6 : Int64) => some (x6, I1)) (fun j155 => if a2 = 0 then (j155 x4) else (j155 x5))) (fun j145 => fix3 (fun (r36 : Int64 → Int64 → Int32 → Option (Int64 × MI)) (x7 : Int64) (x8 : Int64) (x9 : Int32) => if a1 ≤ x9 then (j145 x7 x8) else (bd1 (f_X11_weightAll I1) (fun x10 => if x10 ≤ 0 then (j145 x7 x8) else (lt (fun (x11 : Int64) => bd1 (f_X11_weightAll I1) (fun x12 => lt (x8 * (Int32.toInt64 x12)) (fun x13 => bd1 (f_X11_least x11 x13 0) (fun x14 => bd1 (f_X11_least x11 x13 1) (fun x15 => lt (x9 + 1) (fun x16 => r36 x14 x15 x16)))))) (fun j110 => fix2 (fun (r55 : Int64 → Int32 → Option (Int64 × MI)) (x17 : Int64) (x18 : Int32) => if (I1 0 12) ≤ x18 then (j110 x17) else (gd (inb x18 12) (lt ((Int32.toInt64 (I1 6 (ix x18))) * x8) (fun x19 => gd (inb x18 12) (lt (fun (x20 : Int64) (x21 : Int64) (x22 : Int64) => lt (x22 + (x21 * x20)) (fun x23 => lt (x18 + 1) (fun x24 => r55 x23 x24))) (fun j100 => if x19 ≤ x7 then (j100 x7 (Int32.toInt64 (I1 7 (ix x18))) x17) else (j100 x19 (Int32.toInt64 (I1 7 (ix x18))) x17))))))) FU 0 0))))) FU 0 1 0)) else j24)) else j24)))

def f_X11_came (I : MI) (a1 : Int32) (a2 : Int32) (a3 : Int32) : Option (Int32 × MI) :=
  lt (st2 I 0 2 0) (fun I1 => bd1 (f_X11_isHouse I1 a1) (fun x2 => lt (some ((-1), I1)) (fun j33 => if x2 = true then (bd1 (f_X11_isIn a2 0 5) (fun x3 => if x3 = true then (bd1 (f_X11_isIn a3 0 9999) (fun x4 => if x4 = true then (lt (fun (x5 : Int32) => fix2 (fun (r68 : Int32 → Int32 → Option (Int32 × MI)) (x6 : Int32) (x7 : Int32) => if x5 ≤ x7 then (some (x6, I1)) else (lt (fun (x8 : Int32) => lt (fun (x9 : Bool) (x10 : Int32) => lt (x10 + (bi x9)) (fun x11 => lt (x7 + 1) (fun x12 => r68 x11 x12))) (fun j136 => if x8 = a3 then (j136 true x6) else (j136 false x6))) (fun j123 => fix3 (fun (r85 : Int32 → Int32 → Int32 → Option (Int32 × MI)) (x13 : Int32) (x14 : Int32) (x15 : Int32) => if a2 ≤ x15 then (j123 x14) else (gd (nz (I1 0 12)) (bd1 (f_X11_paysOf I1 a1 ((irem x13 (I1 0 12)))) (fun x16 => lt (x14 + x16) (fun x17 => gd (nz (I1 0 12)) (lt (x13 / (I1 0 12)) (fun x18 => lt (x15 + 1) (fun x19 => r85 x18 x17 x19)))))))) FU x7 0 0))) FU 0 0) (fun j62 => fix2 (fun (r41 : Int32 → Int32 → Option (Int32 × MI)) (x20 : Int32) (x21 : Int32) => if a2 ≤ x21 then (j62 x20) else (lt (x20 * (I1 0 12)) (fun x22 => lt (x21 + 1) (fun x23 => r41 x22 x23)))) FU 1 0)) else j33)) else j33)) else j33)))

def f_X11_likely (I : MI) (a1 : Int32) (a2 : Int32) (a3 : Int32) : Option (Int64 × MI) :=
  lt (st2 I 0 2 0) (fun I1 => bd1 (f_X11_isKind I1 a1) (fun x2 => lt (some ((-1), I1)) (fun j31 => if x2 = true then (bd1 (f_X11_isIn a2 0 5) (fun x3 => if x3 = true then (bd1 (f_X11_isIn a3 0 1) (fun x4 => if x4 = true then (lt (fun (x5 : Int64) (x6 : Int64) => bd1 (f_X11_least ((x5 - x6)) x5 a3) (fun x7 => some (x7, I1))) (fun j90 => fix3 (fun (r44 : Int64 → Int64 → Int32 → Option (Int64 × MI)) (x8 : Int64) (x9 : Int64) (x10 : Int32) => if a2 ≤ x10 then (j90 x8 x9) else (bd1 (f_X11_weightAll I1) (fun x11 => if x11 ≤ 0 then (j90 x8 x9) else (bd1 (f_X11_weightAll I1) (fun x12 => lt (x8 * (Int32.toInt64 x12)) (fun x13 => bd1 (f_X11_weightAll I1) (fun x14 => gd (inb a1 12) (lt (x9 * (Int32.toInt64 (x14 - (I1 7 (ix a1))))) (fun x15 => lt (x10 + 1) (fun x16 => r44 x13 x15 x16)))))))))) FU 1 1 0)) else j31)) else j31)) else j31)))

def f_X11_hasBy (I : MI) (a1 : Int32) (a2 : Int32) (a3 : Int32) (a4 : Int32) : Option (Int32) :=
  if a3 = 0 then (lt (fun (x1 : Int32) => some (x1)) (fun j47 => if a4 = 0 then (gd (inb a1 12) (gd (inb a2 12) (gd (nz 10) (j47 (((I 10 (ix a1)) + ((I 6 (ix a2)) / 10)) - 2))))) else (gd (inb a1 12) (gd (inb a2 12) (gd (nz 5) (j47 (((I 10 (ix a1)) + ((I 6 (ix a2)) / 5)) - 3))))))) else (lt (fun (x2 : Int32) => some (x2)) (fun j65 => if a4 = 0 then (j65 1) else (gd (inb a1 12) (gd (nz 2) (j65 ((I 10 (ix a1)) / 2))))))

def f_X11_restAt (I : MI) (a1 : Int32) (a2 : Int32) (a3 : Int32) (a4 : Int32) : Option (Int32) :=
  lt (fun (x1 : Int32) => lt (fun (x2 : Int32) => some (x2)) (fun j114 => if 0 ≤ a4 then (j114 (-2)) else (j114 x1))) (fun j102 => fix2 (fun (r6 : Int32 → Int32 → Option (Int32)) (x3 : Int32) (x4 : Int32) => if 4 ≤ x4 then (j102 x3) else (gd (nz 2) (lt (x4 / 2) (fun x5 => gd (nz 2) (lt (irem x4 2) (fun x6 => bd1 (f_X11_hasBy I a1 a3 ((1 - x5)) x6) (fun x7 => bd1 (f_X11_hasBy I a1 a3 x5 x6) (fun x8 => lt (fun (x9 : Int32) => lt (x4 + 1) (fun x10 => r6 x9 x10)) (fun j96 => if x8 < x7 then (j96 x3) else (bd1 (f_X11_hasBy I a2 a3 ((1 - x6)) x5) (fun x11 => bd1 (f_X11_hasBy I a2 a3 x6 x5) (fun x12 => if x11 ≤ x12 then (if x3 = a4 then (some ((10 * x5) + x6)) else (lt (x3 + 1) (fun x13 => j96 x13))) else (j96 x3))))))))))))) FU 0 0)

def f_X11_areTwo (I : MI) (a1 : Int32) (a2 : Int32) (a3 : Int32) : Option (Bool) :=
  bd1 (f_X11_isHouse I a1) (fun x1 => lt (fun (x2 : Bool) => some (x2)) (fun j34 => lt (j34 false) (fun j33 => if x1 = true then (bd1 (f_X11_isHouse I a2) (fun x3 => if x3 = true then (if a1 = a2 then j33 else (bd1 (f_X11_isKind I a3) (fun x4 => if x4 = true then (j34 true) else j33))) else j33)) else j33)))

def f_X11_rests (I : MI) (a1 : Int32) (a2 : Int32) (a3 : Int32) : Option (Int32 × MI) :=
  lt (st2 I 0 2 0) (fun I1 => bd1 (f_X11_areTwo I1 a1 a2 a3) (fun x2 => lt (fun (x3 : Int32) => some (x3, I1)) (fun j27 => if x2 = true then (bd1 (f_X11_restAt I1 a1 a2 a3 (-1)) (fun x4 => j27 x4)) else (j27 (-1)))))

def f_X11_rest (I : MI) (a1 : Int32) (a2 : Int32) (a3 : Int32) (a4 : Int32) : Option (Int32 × MI) :=
  lt (st2 I 0 2 0) (fun I1 => bd1 (f_X11_areTwo I1 a1 a2 a3) (fun x2 => lt (fun (x3 : Int32) => some (x3, I1)) (fun j33 => lt (j33 (-1)) (fun j32 => if x2 = true then (if a4 < 0 then j32 else (bd1 (f_X11_restAt I1 a1 a2 a3 a4) (fun x4 => j33 x4))) else j32))))

def f_X11_richest (I : MI) : Option (Int32 × MI) :=
  lt (st2 I 0 2 0) (fun I1 => fix2 (fun (r10 : Int32 → Int32 → Option (Int32 × MI)) (x2 : Int32) (x3 : Int32) => if (I1 0 13) ≤ x3 then (some (x2, I1)) else (gd (inb 0 2) (bd1 (f_X11_isOf ((I1 31 (ix 0))) x3) (fun x4 => lt (fun (x5 : Int32) => lt (x3 + 1) (fun x6 => r10 x5 x6)) (fun j52 => if x4 = true then (j52 x2) else (lt (j52 x3) (fun j50 => if x2 < 0 then j50 else (bd1 (f_X11_hasOf I1 0 x3) (fun x7 => bd1 (f_X11_hasOf I1 0 x2) (fun x8 => if x7 ≤ x8 then (j52 x2) else j50)))))))))) FU (-2) 0)

def f_X11_mostOf (I : MI) (a1 : Int32) (a2 : Int32) : Option (Int32) :=
  fix2 (fun (r5 : Int32 → Int32 → Option (Int32)) (x1 : Int32) (x2 : Int32) => if (I 0 13) ≤ x2 then (some (x1)) else (bd1 (f_X11_isOf a1 x2) (fun x3 => lt (fun (x4 : Int32) => lt (x2 + 1) (fun x5 => r5 x4 x5)) (fun j45 => lt (fun (x6 : Int32) (x7 : Int32) => j45 x6) (fun j44 => if x3 = true then (bd1 (f_X11_paysOf I x2 a2) (fun x8 => if x8 ≤ x1 then (j44 x1 x2) else (bd1 (f_X11_paysOf I x2 a2) (fun x9 => j45 x9)))) else (j44 x1 x2)))))) FU 0 0

def f_X11_leave (I : MI) (a1 : Int32) (a2 : Int32) : Option (Int32 × MI) :=
  lt (st2 I 0 2 0) (fun I1 => bd1 (f_X11_areHouses I1 a1) (fun x2 => lt (some ((-1), I1)) (fun j25 => if x2 = true then (if a1 = 0 then j25 else (bd1 (f_X11_isKind I1 a2) (fun x3 => if x3 = true then (fix1 (fun (r29 : Int32 → Option (Int32 × MI)) (x4 : Int32) => if a1 < x4 then (some ((-2), I1)) else (lt (lt (x4 + 1) (fun x5 => r29 x5)) (fun j69 => if (x4 &&& (a1 ^^^ (-1))) = 0 then (bd1 (f_X11_mostOf I1 x4 a2) (fun x6 => bd1 (f_X11_manyOf a1) (fun x7 => bd1 (f_X11_mostOf I1 a1 a2) (fun x8 => bd1 (f_X11_manyOf x4) (fun x9 => if (x8 * x9) ≤ (x6 * x7) then j69 else (some (x4, I1))))))) else j69))) FU 1) else j25))) else j25)))

def f_X11_blinds (I : MI) (J : MJ) (a1 : Int32) (a2 : Int32) : Option (Int32 × MI × MJ) :=
  lt (st2 I 0 2 0) (fun I1 => bd1 (f_X11_isIn a1 0 60) (fun x2 => lt (some ((-1), I1, J)) (fun j24 => if x2 = true then (bd1 (f_X11_isIn a2 0 1) (fun x3 => if x3 = true then (lt (fun (x4 : Int32) (x5 : Int32) (I6 : MI) (J7 : MJ) => lt (fun (x8 : Int32) => some (x8, I6, J7)) (fun j154 => if a2 = 0 then (j154 x4) else (j154 x5))) (fun j144 => fix5 (fun (r34 : Int32 → Int32 → Int32 → MI → MJ → Option (Int32 × MI × MJ)) (x9 : Int32) (x10 : Int32) (x11 : Int32) (I12 : MI) (J13 : MJ) => if (1 <<< ((I12 0 13) &&& 31)) ≤ x11 then (j144 x9 x10 I12 J13) else (gd (inb 0 2) (gd (inb 0 2) (lt (fun (x14 : Int32) (x15 : Int32) (I16 : MI) (J17 : MJ) => lt (x11 + 1) (fun x18 => r34 x14 x15 x18 I16 J17)) (fun j138 => if (x11 &&& ((I12 31 (ix 0)) ||| (I12 32 (ix 0)))) = 0 then (bd1 (f_X11_layTried I12) (fun I19 => gd (inb 1 2) (gd (inb 1 2) (lt (st2 I19 32 (ix 1) ((I19 32 (ix 1)) ||| x11)) (fun I20 => bd2 (f_X11_goMany I20 J13 a1) (fun I21 J22 => gd (inb 1 2) (bd1 (f_X11_manyOf ((I21 31 (ix 1)))) (fun x23 => lt (j138 x11 x23 I21 J22) (fun j131 => if x9 < 0 then j131 else (if x10 < x23 then (j138 x9 x10 I21 J22) else (if x23 = x10 then (bd1 (f_X11_manyOf x11) (fun x24 => bd1 (f_X11_manyOf x9) (fun x25 => if x24 < x25 then j131 else (j138 x9 x10 I21 J22)))) else j131))))))))))) else (j138 x9 x10 I12 J13)))))) FU (-1) 0 0 I1 J)) else j24)) else j24)))

def f_X11_sumOf (I : MI) (a1 : Int32) : Option (Int32) :=
  fix2 (fun (r4 : Int32 → Int32 → Option (Int32)) (x1 : Int32) (x2 : Int32) => if (I 0 13) ≤ x2 then (some (x1)) else (bd1 (f_X11_isOf a1 x2) (fun x3 => lt (fun (x4 : Int32) (x5 : Int32) => lt (x5 + x4) (fun x6 => lt (x2 + 1) (fun x7 => r4 x6 x7))) (fun j31 => if x3 = true then (bd1 (f_X11_hasOf I 0 x2) (fun x8 => j31 x8 x1)) else (j31 0 x1))))) FU 0 0

def f_X11_among (I : MI) (a1 : Int32) : Option (Int32 × MI) :=
  lt (st2 I 0 2 0) (fun I1 => bd1 (f_X11_isIn a1 1 9999) (fun x2 => if x2 = true then (fix2 (fun (r23 : Int32 → Int32 → Option (Int32 × MI)) (x3 : Int32) (x4 : Int32) => if (1 <<< ((I1 0 13) &&& 31)) ≤ x4 then (some (x3, I1)) else (gd (inb 0 2) (lt (fun (x5 : Int32) => lt (x4 + 1) (fun x6 => r23 x5 x6)) (fun j73 => if (x4 &&& (I1 31 (ix 0))) = 0 then (bd1 (f_X11_sumOf I1 x4) (fun x7 => if a1 ≤ x7 then (lt (j73 x4) (fun j71 => if x3 < 0 then j71 else (bd1 (f_X11_manyOf x4) (fun x8 => bd1 (f_X11_manyOf x3) (fun x9 => if x9 ≤ x8 then (j73 x3) else j71))))) else (j73 x3))) else (j73 x3))))) FU (-2) 0) else (some ((-1), I1))))

def f_X11_rescue (I : MI) (J : MJ) : Option (Int32 × MI × MJ) :=
  lt (st2 I 0 2 0) (fun I1 => bd1 (f_X11_layTried I1) (fun I2 => gd (inb 0 4) (gd (inb 0 2) (gd (inb 0 4) (gd (nz (I2 4 (ix 0))) (bd2 (f_X11_goMany I2 J (((I2 4 (ix 0)) - (irem (I2 35 (ix 0)) (I2 4 (ix 0)))))) (fun I3 J4 => lt (fun (x5 : Int32) (x6 : Int32) => lt (fun (x7 : Int32) => some (x7, I3, J4)) (fun j121 => if x5 ≤ x6 then (j121 x5) else (j121 (-2)))) (fun j110 => fix3 (fun (r39 : Int32 → Int32 → Int32 → Option (Int32 × MI × MJ)) (x8 : Int32) (x9 : Int32) (x10 : Int32) => if (I3 0 13) ≤ x10 then (j110 x8 x9) else (gd (inb 1 2) (bd1 (f_X11_isOf ((I3 31 (ix 1))) x10) (fun x11 => lt (fun (x12 : Int32) (x13 : Int32) => lt (x10 + 1) (fun x14 => r39 x12 x13 x14)) (fun j104 => if x11 = true then (gd (inb 0 2) (bd1 (f_X11_isOf ((I3 31 (ix 0))) x10) (fun x15 => lt (fun (x16 : Int32) (x17 : Int32) => lt (x17 - x16) (fun x18 => j104 x18 x9)) (fun j87 => if x15 = true then (j87 0 x8) else (gd (inb (6 + x10) 12) (j87 (I3 26 (ix (6 + x10))) x8)))))) else (gd (inb (6 + x10) 12) (lt (x9 + (I3 26 (ix (6 + x10)))) (fun x19 => j104 x8 x19)))))))) FU 0 0 0))))))))

def f_X11_have (I : MI) (a1 : Int32) : Option (Int32 × MI) :=
  lt (st2 I 0 2 0) (fun I1 => bd1 (f_X11_areHouses I1 a1) (fun x2 => lt (fun (x3 : Int32) => some (x3, I1)) (fun j24 => if x2 = true then (bd1 (f_X11_sumOf I1 a1) (fun x4 => j24 x4)) else (j24 (-2147483648)))))

def f_X11_dearest (I : MI) : Option (Int32 × MI) :=
  lt (st2 I 0 2 0) (fun I1 => fix2 (fun (r10 : Int32 → Int32 → Option (Int32 × MI)) (x2 : Int32) (x3 : Int32) => if (I1 0 12) ≤ x3 then (some (x2, I1)) else (lt (fun (x4 : Int32) => lt (x3 + 1) (fun x5 => r10 x4 x5)) (fun j53 => lt (fun (x6 : Int32) => j53 x6) (fun j51 => if x2 < 0 then (j51 x3) else (gd (inb x3 12) (gd (inb x3 12) (gd (inb x2 12) (gd (inb x2 12) (if ((I1 6 (ix x3)) * (I1 7 (ix x3))) ≤ ((I1 6 (ix x2)) * (I1 7 (ix x2))) then (j53 x2) else (j51 x3)))))))))) FU (-2) 0)

def f_X11_notes1 (I : MI) (a1 : Int32) (a2 : Int32) (a3 : Int32) (a4 : Int32) : Option (Int32 × MI) :=
  if (I 0 70) = 24 then (some ((-1), I)) else (lt (4 * (I 0 70)) (fun x1 => gd (inb x1 96) (lt (st2 I 38 (ix x1) a1) (fun I2 => gd (inb (x1 + 1) 96) (lt (st2 I2 38 (ix (x1 + 1)) a2) (fun I3 => gd (inb (x1 + 2) 96) (lt (st2 I3 38 (ix (x1 + 2)) a3) (fun I4 => gd (inb (x1 + 3) 96) (lt (st2 I4 38 (ix (x1 + 3)) a4) (fun I5 => lt (st2 I5 0 70 ((I5 0 70) + 1)) (fun I6 => some ((I6 0 70) - 1, I6))))))))))))

def f_X11_note (I : MI) (a1 : Int32) (a2 : Int32) (a3 : Int32) (a4 : Int32) : Option (Int32 × MI) :=
  lt (st2 I 0 2 0) (fun I1 => bd1 (f_X11_isIn a1 0 99) (fun x2 => lt (fun (x3 : Int32) (I4 : MI) => some (x3, I4)) (fun j55 => lt (j55 (-1) I1) (fun j54 => if x2 = true then (bd1 (f_X11_isHouse I1 a2) (fun x5 => if x5 = true then (bd1 (f_X11_isIn a3 0 999) (fun x6 => if x6 = true then (lt (fun (x7 : Bool) (x8 : Int32) (x9 : Int32) (x10 : Int32) => bd2 (f_X11_notes1 I1 x10 x9 x8 ((bi x7))) (fun x11 I12 => j55 x11 I12)) (fun j48 => if a4 = 0 then (j48 false a3 a2 a1) else (j48 true a3 a2 a1))) else j54)) else j54)) else j54))))

def f_X11_strike (I : MI) (a1 : Int32) : Option (Int32 × MI) :=
  lt (st2 I 0 2 0) (fun I1 => lt (fun (x2 : Int32) (I3 : MI) => some (x2, I3)) (fun j29 => lt (j29 (-1) I1) (fun j17 => if a1 < 0 then j17 else (if a1 < (I1 0 70) then (bd2 (f_X11_notes1 I1 (-1) a1 0 0) (fun x4 I5 => j29 x4 I5)) else j17))))

def f_X11_known (I : MI) (a1 : Int32) : Option (Bool × MI) :=
  lt (st2 I 0 2 0) (fun I1 => bd1 (f_X11_isIn a1 (-1) ((I1 0 70))) (fun x2 => if x2 = true then (lt (st2 I1 0 71 a1) (fun I3 => some (true, I3))) else (some (false, I1))))

def f_X11_knownBy (I : MI) : Option (Int32) :=
  lt (fun (x1 : Int32) => some (x1)) (fun j18 => if 0 ≤ (I 0 71) then (j18 (I 0 71)) else (j18 (I 0 70)))

def f_X11_fitsOf (I : MI) (a1 : Int32) : Option (Int32 × MI) :=
  lt (fun (I1 : MI) => bd1 (f_X11_knownBy I1) (fun x2 => lt (x2 - 1) (fun x3 => lt (fun (I4 : MI) => fix2 (fun (r80 : Int32 → Int32 → Option (Int32 × MI)) (x5 : Int32) (x6 : Int32) => if (I4 0 12) ≤ x6 then (some (x5, I4)) else (lt (fun (x7 : Int32) => lt (fun (x8 : Int32) (x9 : Int32) => lt (x9 ||| x8) (fun x10 => lt (x6 + 1) (fun x11 => r80 x10 x11))) (fun j216 => if x7 = 0 then (j216 0 x5) else (j216 (1 <<< (x6 &&& 31)) x5))) (fun j203 => fix2 (fun (r94 : Int32 → Int32 → Option (Int32 × MI)) (x12 : Int32) (x13 : Int32) => bd1 (f_X11_knownBy I4) (fun x14 => if x14 ≤ x13 then (j203 x12) else (lt (4 * x13) (fun x15 => gd (inb x13 24) (lt (fun (x16 : Int32) => lt (x13 + 1) (fun x17 => r94 x16 x17)) (fun j197 => if (I4 39 (ix x13)) = 0 then (j197 x12) else (gd (inb x15 96) (if (I4 38 (ix x15)) = a1 then (lt (fun (x18 : Bool) => lt (bi x18) (fun x19 => j197 x19)) (fun j195 => lt (j195 false) (fun j194 => if x12 = 0 then j194 else (gd (inb (x15 + 1) 96) (bd1 (f_X11_paysOf I4 ((I4 38 (ix (x15 + 1)))) x6) (fun x20 => gd (inb (x15 + 2) 96) (lt (fun (x21 : Bool) => gd (inb (x15 + 3) 96) (lt (fun (x22 : Bool) (x23 : Bool) => if (bi x23) = (bi x22) then (j195 true) else j194) (fun j187 => if (I4 38 (ix (x15 + 3))) = 1 then (j187 true x21) else (j187 false x21)))) (fun j169 => if (I4 38 (ix (x15 + 2))) < x20 then (j169 false) else (j169 true))))))))) else (j197 x12))))))))) FU 1 0))) FU 0 0) (fun j76 => fix2 (fun (r30 : Int32 → MI → Option (Int32 × MI)) (x24 : Int32) (I25 : MI) => if x24 < 0 then (j76 I25) else (gd (inb x24 24) (lt (fun (I26 : MI) => lt (x24 + (-1)) (fun x27 => r30 x27 I26)) (fun j70 => if (I25 39 (ix x24)) = 0 then (j70 I25) else (gd (inb (4 * x24) 96) (if 0 ≤ (I25 38 (ix (4 * x24))) then (j70 I25) else (gd (inb ((4 * x24) + 1) 96) (gd (is01 0) (gd (inb (I25 38 (ix ((4 * x24) + 1))) 24) (lt (st2 I25 39 (ix (I25 38 (ix ((4 * x24) + 1)))) 0) (fun I28 => j70 I28))))))))))) FU x3 I1)))) (fun j23 => fix2 (fun (r2 : Int32 → MI → Option (Int32 × MI)) (x29 : Int32) (I30 : MI) => bd1 (f_X11_knownBy I30) (fun x31 => if x31 ≤ x29 then (j23 I30) else (gd (is01 1) (gd (inb x29 24) (lt (st2 I30 39 (ix x29) 1) (fun I32 => lt (x29 + 1) (fun x33 => r2 x33 I32))))))) FU 0 I)

def f_X11_fits (I : MI) (a1 : Int32) : Option (Int32 × MI) :=
  lt (st2 I 0 2 0) (fun I1 => bd1 (f_X11_isIn a1 0 99) (fun x2 => lt (fun (x3 : Int32) (I4 : MI) => some (x3, I4)) (fun j24 => if x2 = true then (bd2 (f_X11_fitsOf I1 a1) (fun x5 I6 => j24 x5 I6)) else (j24 (-1) I1))))

def f_X11_worstBy (I : MI) (a1 : Int32) (a2 : Int32) : Option (Int32) :=
  fix2 (fun (r5 : Int32 → Int32 → Option (Int32)) (x1 : Int32) (x2 : Int32) => if (I 0 12) ≤ x2 then (some (x1)) else (lt (fun (x3 : Int32) => lt (fun (x4 : Int32) => lt (x2 + 1) (fun x5 => r5 x4 x5)) (fun j92 => if x3 ≤ x1 then (j92 x1) else (j92 x3))) (fun j80 => fix2 (fun (r20 : Int32 → Int32 → Option (Int32)) (x6 : Int32) (x7 : Int32) => if (I 0 12) ≤ x7 then (j80 x6) else (bd1 (f_X11_isOf a2 x2) (fun x8 => lt (fun (x9 : Bool) (x10 : Int32) => lt (x10 + (bi x9)) (fun x11 => lt (x7 + 1) (fun x12 => r20 x11 x12))) (fun j71 => lt (fun (x13 : Int32) (x14 : Int32) => j71 false x14) (fun j70 => if x8 = true then (bd1 (f_X11_isOf a2 x7) (fun x15 => if x15 = true then (bd1 (f_X11_paysOf I a1 x7) (fun x16 => bd1 (f_X11_paysOf I a1 x2) (fun x17 => if x16 = x17 then (j71 true x6) else (j70 x7 x6)))) else (j70 x7 x6))) else (j70 x7 x6)))))) FU 0 0))) FU 0 0

def f_X11_ask (I : MI) (a1 : Int32) (a2 : Int32) : Option (Int32 × MI) :=
  lt (st2 I 0 2 0) (fun I1 => bd1 (f_X11_isIn a1 0 99) (fun x2 => lt (some ((-1), I1)) (fun j24 => if x2 = true then (bd1 (f_X11_isIn a2 0 1) (fun x3 => if x3 = true then (if (I1 0 13) = 0 then (some ((-2), I1)) else (bd2 (f_X11_fitsOf I1 a1) (fun x4 I5 => lt (fun (x6 : Int32) => lt (fun (x7 : Int32) => some (x7, I5)) (fun j105 => if a2 = 0 then (j105 x6) else (bd1 (f_X11_worstBy I5 x6 x4) (fun x8 => j105 x8)))) (fun j89 => fix2 (fun (r48 : Int32 → Int32 → Option (Int32 × MI)) (x9 : Int32) (x10 : Int32) => if (I5 0 13) ≤ x10 then (j89 x9) else (bd1 (f_X11_worstBy I5 x10 x4) (fun x11 => bd1 (f_X11_worstBy I5 x9 x4) (fun x12 => lt (fun (x13 : Int32) => lt (x10 + 1) (fun x14 => r48 x13 x14)) (fun j81 => if x12 ≤ x11 then (j81 x9) else (j81 x10)))))) FU 0 1)))) else j24)) else j24)))

def f_X11_chance (I : MI) (J : MJ) (a1 : Int32) (a2 : Int32) (a3 : Int32) : Option (Int32 × MI × MJ) :=
  lt (st2 I 0 2 0) (fun I1 => lt (some ((-1), I1, J)) (fun j27 => if a1 < 0 then j27 else (bd1 (f_X11_isIn a2 1 99) (fun x2 => if x2 = true then (bd1 (f_X11_isHouse I1 a3) (fun x3 => if x3 = true then (lt (J 0 62) (fun x4 => lt (st2 J 0 62 (Int32.toInt64 a1)) (fun J5 => fix4 (fun (r47 : Int32 → Int32 → MI → MJ → Option (Int32 × MI × MJ)) (x6 : Int32) (x7 : Int32) (I8 : MI) (J9 : MJ) => if 10 ≤ x7 then (gd (is01 0) (lt (st2 I8 0 63 0) (fun I10 => lt (st2 J9 0 62 x4) (fun J11 => some (x6, I10, J11))))) else (bd1 (f_X11_layTried I8) (fun I12 => gd (is01 1) (lt (st2 I12 0 63 1) (fun I13 => bd2 (f_X11_goMany I13 J9 a2) (fun I14 J15 => gd (inb 1 2) (lt (x6 + (((I14 31 (ix 1)) >>> (a3 &&& 31)) &&& 1)) (fun x16 => lt (x7 + 1) (fun x17 => r47 x16 x17 I14 J15))))))))) FU 0 0 I1 J5))) else j27)) else j27))))

def f_X11_tried (I : MI) (J : MJ) (a1 : Int32) (a2 : Int32) (a3 : Int32) : Option (Int32 × MI × MJ) :=
  lt (st2 I 0 2 0) (fun I1 => bd1 (f_X11_isIn a1 0 4) (fun x2 => lt (some ((-2147483648), I1, J)) (fun j45 => if x2 = true then (bd1 (f_X11_isIn a3 0 200) (fun x3 => if x3 = true then (lt (bd1 (f_X11_layTried I1) (fun I4 => lt (fun (I5 : MI) => lt (fun (I6 : MI) => lt (fun (x7 : Bool) => gd (is01 (bi x7)) (lt (st2 I6 0 64 (bi x7)) (fun I8 => lt (fun (x9 : Bool) => gd (is01 (bi x9)) (lt (st2 I8 0 65 (bi x9)) (fun I10 => lt (fun (x11 : Bool) => gd (is01 (bi x11)) (lt (st2 I10 0 66 (bi x11)) (fun I12 => bd2 (f_X11_goMany I12 J a3) (fun I13 J14 => bd1 (f_X11_plainTried I13) (fun I15 => fix2 (fun (r139 : Int32 → Int32 → Option (Int32 × MI × MJ)) (x16 : Int32) (x17 : Int32) => if (I15 0 13) ≤ x17 then (some (x16, I15, J14)) else (bd1 (f_X11_hasOf I15 1 x17) (fun x18 => lt (x16 + x18) (fun x19 => lt (x17 + 1) (fun x20 => r139 x19 x20))))) FU 0 0))))) (fun j121 => if a1 = 4 then (j121 true) else (j121 false))))) (fun j107 => if a1 = 3 then (j107 true) else (j107 false))))) (fun j93 => if a1 = 1 then (j93 true) else (j93 false))) (fun j82 => if a1 = 2 then (gd (inb 1 2) (gd (inb 1 2) (lt (st2 I5 32 (ix 1) ((I5 32 (ix 1)) ||| (1 <<< (a2 &&& 31)))) (fun I21 => j82 I21)))) else (j82 I5))) (fun j65 => if a1 = 0 then (gd (inb 1 2) (lt (st2 I4 32 (ix 1) 63) (fun I22 => j65 I22))) else (j65 I4)))) (fun j49 => if a1 = 2 then (bd1 (f_X11_isHouse I1 a2) (fun x23 => if x23 = true then j49 else j45)) else (if a2 = 0 then j49 else j45))) else j45)) else j45)))

def f_X11_take (I : MI) (pa : Nat) (na : Nat) (a2 : Int32) : Option (MI) :=
  gd (inb a2 na) (gd (inb 0 2) (lt (st2 I 32 (ix 0) (I pa (ix a2))) (fun I1 => gd (inb (a2 + 1) na) (gd (inb 0 2) (lt (st2 I1 33 (ix 0) (I1 pa (ix (a2 + 1)))) (fun I2 => fix2 (fun (r22 : Int32 → MI → Option (MI)) (x3 : Int32) (I4 : MI) => if 6 ≤ x3 then (some (I4)) else (gd (inb ((a2 + 2) + x3) na) (gd (inb x3 12) (lt (st2 I4 26 (ix x3) (I4 pa (ix ((a2 + 2) + x3)))) (fun I5 => lt (x3 + 1) (fun x6 => r22 x6 I5)))))) FU 0 I2))))))

def f_X11_undo (I : MI) : Option (Int32 × MI) :=
  lt (st2 I 0 2 0) (fun I1 => if (I1 0 74) = 0 then (some ((-1), I1)) else (lt (st2 I1 0 74 ((I1 0 74) - 1)) (fun I2 => bd1 (f_X11_take I2 40 160 ((8 * (I2 0 74)))) (fun I3 => some (I3 0 74, I3)))))

def f_X11_keep (I : MI) (J : MJ) : Option (Int32 × MI × MJ) :=
  lt (st2 I 0 2 0) (fun I1 => gd (is01 1) (lt (st2 I1 0 76 1) (fun I2 => bd1 (f_X11_put I2 41 8 0) (fun I3 => lt (fun (I4 : MI) => gd (inb 0 2) (gd (inb 24 27) (lt (st2 I4 42 (ix 24) (I4 31 (ix 0))) (fun I5 => gd (inb 0 2) (gd (inb 25 27) (lt (st2 I5 42 (ix 25) (I5 34 (ix 0))) (fun I6 => gd (inb 0 2) (gd (inb 26 27) (lt (st2 I6 42 (ix 26) (I6 35 (ix 0))) (fun I7 => lt (st2 J 0 79 (J 0 62)) (fun J8 => gd (inb 0 2) (some (I7 35 (ix 0), I7, J8))))))))))))) (fun j90 => fix2 (fun (r21 : Int32 → MI → Option (Int32 × MI × MJ)) (x9 : Int32) (I10 : MI) => if 6 ≤ x9 then (j90 I10) else (gd (inb x9 12) (gd (inb x9 27) (lt (st2 I10 42 (ix x9) (I10 27 (ix x9))) (fun I11 => gd (inb x9 12) (gd (inb (6 + x9) 27) (lt (st2 I11 42 (ix (6 + x9)) (I11 28 (ix x9))) (fun I12 => gd (inb x9 12) (gd (inb (12 + x9) 27) (lt (st2 I12 42 (ix (12 + x9)) (I12 29 (ix x9))) (fun I13 => gd (inb x9 12) (gd (inb (18 + x9) 27) (lt (st2 I13 42 (ix (18 + x9)) (I13 30 (ix x9))) (fun I14 => lt (x9 + 1) (fun x15 => r21 x15 I14))))))))))))))) FU 0 I3)))))

def f_X11_back (I : MI) (J : MJ) : Option (Int32 × MI × MJ) :=
  lt (st2 I 0 2 0) (fun I1 => if (I1 0 76) = 0 then (some ((-1), I1, J)) else (bd1 (f_X11_take I1 41 8 0) (fun I2 => lt (fun (I3 : MI) => gd (inb 24 27) (gd (inb 0 2) (lt (st2 I3 31 (ix 0) (I3 42 (ix 24))) (fun I4 => gd (inb 25 27) (gd (inb 0 2) (lt (st2 I4 34 (ix 0) (I4 42 (ix 25))) (fun I5 => gd (inb 26 27) (gd (inb 0 2) (lt (st2 I5 35 (ix 0) (I5 42 (ix 26))) (fun I6 => lt (st2 J 0 62 (J 0 79)) (fun J7 => lt (st2 I6 0 74 0) (fun I8 => gd (inb 0 2) (some (I8 35 (ix 0), I8, J7)))))))))))))) (fun j94 => fix2 (fun (r25 : Int32 → MI → Option (Int32 × MI × MJ)) (x9 : Int32) (I10 : MI) => if 6 ≤ x9 then (j94 I10) else (gd (inb x9 27) (gd (inb x9 12) (lt (st2 I10 27 (ix x9) (I10 42 (ix x9))) (fun I11 => gd (inb (6 + x9) 27) (gd (inb x9 12) (lt (st2 I11 28 (ix x9) (I11 42 (ix (6 + x9)))) (fun I12 => gd (inb (12 + x9) 27) (gd (inb x9 12) (lt (st2 I12 29 (ix x9) (I12 42 (ix (12 + x9)))) (fun I13 => gd (inb (18 + x9) 27) (gd (inb x9 12) (lt (st2 I13 30 (ix x9) (I13 42 (ix (18 + x9)))) (fun I14 => lt (x9 + 1) (fun x15 => r25 x15 I14))))))))))))))) FU 0 I2))))

def f_X11_count (I : MI) (a1 : Int32) : Option (Int32 × MI) :=
  lt (st2 I 0 2 0) (fun I1 => sw a1 [(0, some (I1 0 12, I1)), (1, some (I1 0 13, I1)), (2, some (I1 0 15, I1)), (3, some (I1 0 16, I1)), (4, gd (inb 0 2) (some (I1 35 (ix 0), I1))), (5, gd (inb 0 2) (bd1 (f_X11_manyOf ((I1 31 (ix 0)))) (fun x2 => some (x2, I1)))), (6, fix2 (fun (r115 : Int32 → Int32 → Option (Int32 × MI)) (x3 : Int32) (x4 : Int32) => if (I1 0 13) ≤ x4 then (some (x3, I1)) else (gd (inb x4 12) (lt (x3 + (I1 26 (ix x4))) (fun x5 => lt (x4 + 1) (fun x6 => r115 x5 x6))))) FU 0 0), (7, fix2 (fun (r142 : Int32 → Int32 → Option (Int32 × MI)) (x7 : Int32) (x8 : Int32) => if (I1 0 13) ≤ x8 then (some (x7, I1)) else (gd (inb x8 12) (lt (x7 + (I1 27 (ix x8))) (fun x9 => lt (x8 + 1) (fun x10 => r142 x9 x10))))) FU 0 0), (8, bd1 (f_X11_lookedAll I1 0) (fun x11 => some (x11, I1))), (9, gd (inb 0 2) (some (I1 34 (ix 0), I1))), (10, some (I1 0 70, I1)), (11, bd1 (f_X11_knownBy I1) (fun x12 => some (x12, I1))), (12, some (I1 0 74, I1))] (some ((-1), I1)))
