/-! SunBills.house, and the law's house that catches what it throws -/
def f_X10_house (bk : Nat) (I : MI) (a1 a2 : Int32) : Option (Int32 ⊕ Nat) :=
  bd1 (f_X10_isHouse bk I a1) (fun x1 => if x1 = true then (sw a2 [(0, gd (inb a1 6) (some (.inl (I 39 (ix a1))))), (1, gd (inb a1 6) (some (.inl (I 40 (ix a1))))), (2, gd (inb a1 6) (some (.inl (I 41 (ix a1))))), (3, gd (inb a1 6) (some (.inl (I (bk + 6) (ix a1))))), (4, gd (inb a1 6) (some (.inl (I 42 (ix a1))))), (5, gd (inb a1 6) (lt (fun (x2 : Bool) => some (.inl (bi x2))) (fun j127 => if (I 43 (ix a1)) = (0 : Int32) then (j127 false) else (j127 true)))), (6, gd (inb a1 6) (lt (fun (x3 : Bool) => some (.inl (bi x3))) (fun j145 => if (I 44 (ix a1)) = (0 : Int32) then (j145 false) else (j145 true))))] (some (.inr 2))) else (some (.inr 1)))
def f_L_house (bk : Nat) (I : MI) (J3 : MJ) (a1 a2 : Int32) : Option (Int32 × MJ) := (f_X10_house bk I a1 a2).bind fun r => match r with
  | .inl v => gd (inb (0 : Int32) 1) (lt (st2 J3 0 (ix (0 : Int32)) v.toInt64) (fun J4 => some (0, J4)))
  | .inr k => some (if k = 1 then 1 else 2, J3)
