/-! layouts of the two systems; words of the tables by their places -/
theorem tin_1 {w : Cond} (h : w ∈ tables_1_1) : w ∈ lw_tbl := List.mem_append_right _ (show w ∈ tables_1 from List.mem_append_left _ h)
theorem tin_2 {w : Cond} (h : w ∈ tables_1_2) : w ∈ lw_tbl := List.mem_append_right _ (show w ∈ tables_1 from List.mem_append_right _ (List.mem_append_left _ h))
theorem tin_3 {w : Cond} (h : w ∈ tables_1_3) : w ∈ lw_tbl := List.mem_append_right _ (show w ∈ tables_1 from List.mem_append_right _ (List.mem_append_right _ (List.mem_append_left _ h)))
theorem tin_4 {w : Cond} (h : w ∈ tables_1_4) : w ∈ lw_tbl := List.mem_append_right _ (show w ∈ tables_1 from List.mem_append_right _ (List.mem_append_right _ (List.mem_append_right _ (List.mem_append_left _ h))))
theorem tin_5 {w : Cond} (h : w ∈ tables_1_5) : w ∈ lw_tbl := List.mem_append_right _ (show w ∈ tables_1 from List.mem_append_right _ (List.mem_append_right _ (List.mem_append_right _ (List.mem_append_right _ (List.mem_append_left _ h)))))
theorem tin_6 {w : Cond} (h : w ∈ tables_1_6) : w ∈ lw_tbl := List.mem_append_right _ (show w ∈ tables_1 from List.mem_append_right _ (List.mem_append_right _ (List.mem_append_right _ (List.mem_append_right _ (List.mem_append_right _ (List.mem_append_left _ h))))))
theorem tin_7 {w : Cond} (h : w ∈ tables_1_7) : w ∈ lw_tbl := List.mem_append_right _ (show w ∈ tables_1 from List.mem_append_right _ (List.mem_append_right _ (List.mem_append_right _ (List.mem_append_right _ (List.mem_append_right _ (List.mem_append_right _ (List.mem_append_left _ h)))))))
theorem tin_8 {w : Cond} (h : w ∈ tables_1_8) : w ∈ lw_tbl := List.mem_append_right _ (show w ∈ tables_1 from List.mem_append_right _ (List.mem_append_right _ (List.mem_append_right _ (List.mem_append_right _ (List.mem_append_right _ (List.mem_append_right _ (List.mem_append_right _ (List.mem_append_left _ h))))))))
theorem tin_9 {w : Cond} (h : w ∈ tables_1_9) : w ∈ lw_tbl := List.mem_append_right _ (show w ∈ tables_1 from List.mem_append_right _ (List.mem_append_right _ (List.mem_append_right _ (List.mem_append_right _ (List.mem_append_right _ (List.mem_append_right _ (List.mem_append_right _ (List.mem_append_right _ (h)))))))))
def Lc : List Kd := [.inl 10, .inr (2, 700), .inl 0, .inr (0, 6), .inr (0, 6), .inr (0, 6), .inr (0, 6), .inr (0, 6), .inr (0, 6), .inr (0, 6), .inr (0, 6), .inr (0, 6), .inr (0, 100), .inl 4, .inr (0, 64), .inr (0, 3), .inr (0, 3), .inr (1, 64), .inl 0, .inr (0, 6), .inr (0, 6), .inr (0, 6), .inr (0, 6), .inr (0, 6), .inr (0, 6), .inr (0, 6), .inr (0, 6), .inr (0, 6), .inr (0, 100), .inl 4, .inr (0, 64), .inr (0, 3), .inr (0, 3), .inr (1, 64), .inl 6, .inr (0, 72), .inl 7, .inr (0, 20), .inl 8, .inr (0, 6), .inr (0, 6), .inr (0, 6), .inr (0, 6), .inr (3, 6), .inr (3, 6), .inr (0, 6), .inl 8, .inr (0, 6), .inr (0, 6), .inr (0, 6), .inr (0, 6), .inr (3, 6), .inr (3, 6), .inr (0, 6), .inl 8, .inr (0, 6), .inr (0, 6), .inr (0, 6), .inr (0, 6), .inr (3, 6), .inr (3, 6), .inr (0, 6), .inl 1, .inr (1, 7), .inl 9, .inr (0, 20), .inr (0, 20), .inr (0, 20), .inr (0, 20), .inr (0, 20), .inl 2, .inr (0, 24), .inr (0, 24), .inr (0, 24), .inr (3, 24), .inr (3, 24), .inl 5, .inr (0, 8), .inr (0, 6), .inl 3]
def Lm : List Kd := [.inl 11, .inr (0, 700), .inr (0, 100), .inr (3, 2), .inr (0, 4), .inr (0, 12), .inr (0, 12), .inr (0, 12), .inr (0, 12), .inr (0, 12), .inr (0, 12), .inr (0, 12), .inr (0, 40), .inr (0, 40), .inr (0, 12), .inr (0, 12), .inr (3, 6), .inr (0, 6), .inr (0, 6), .inr (0, 128), .inr (0, 128), .inr (0, 128), .inr (0, 96), .inr (0, 96), .inr (1, 7), .inr (1, 64), .inr (0, 12), .inr (0, 12), .inr (0, 12), .inr (0, 12), .inr (0, 12), .inr (0, 2), .inr (0, 2), .inr (0, 2), .inr (0, 2), .inr (0, 2), .inr (0, 1792), .inr (0, 1792), .inr (0, 96), .inr (3, 24), .inr (0, 160), .inr (0, 8), .inr (0, 27)]
def rvv (b : Nat) : Nat → Value
  | 0 => .null
  | q + 1 => .ref (b + q)
def RcT (bk dr it : Nat) : List (List Nat) := [[2, 0, bk + 1, dr + 1, 35, 39, 47, 55, 0, 63, 65, 71, 77, 80], [], [4, 5, 6, 7, 8, 9, 10, 11, 12, 13, 14], [], [], [], [], [], [], [], [], [], [], [15, 16, 17, 18], [], [], [], [], [20, 21, 22, 23, 24, 25, 26, 27, 28, 29, 30], [], [], [], [], [], [], [], [], [], [], [31, 32, 33, 34], [], [], [], [], [37, 36, 0, 0, 0, 0, 0, it + 1], [], [2, 38], [], [40, 41, 42, 43, 44, 45, 46], [], [], [], [], [], [], [], [48, 49, 50, 51, 52, 53, 54], [], [], [], [], [], [], [], [56, 57, 58, 59, 60, 61, 62], [], [], [], [], [], [], [], [64], [], [66, 67, 68, 69, 70], [], [], [], [], [], [72, 73, 74, 75, 76], [], [], [], [], [], [78, 79], [], [], []]
def RmT : List (List Nat) := [[2, 0, 0, 3, 0, 0, 0, 0, 0, 0, 0, 0, 0, 0, 0, 0, 0, 0, 0, 0, 0, 0, 4, 5, 6, 7, 8, 9, 10, 11, 12, 13, 14, 15, 16, 17, 18, 19, 20, 21, 22, 23, 24, 0, 0, 0, 0, 0, 0, 25, 26, 0, 27, 28, 29, 30, 31, 32, 33, 34, 35, 36, 0, 0, 0, 0, 0, 37, 38, 0, 0, 0, 39, 40, 0, 41, 0, 42, 43]]
def Rc (b bk dr it : Nat) : MR := fun p k => rvv b (((RcT bk dr it).getD p []).getD k 0)
def Rm (b : Nat) : MR := fun p k => rvv b ((RmT.getD p []).getD k 0)
theorem lc_0 : Lc[0]? = some (.inl 10) := rfl
theorem lc_1 : Lc[1]? = some (.inr (2, 700)) := rfl
theorem lc_2 : Lc[2]? = some (.inl 0) := rfl
theorem lc_3 : Lc[3]? = some (.inr (0, 6)) := rfl
theorem lc_4 : Lc[4]? = some (.inr (0, 6)) := rfl
theorem lc_5 : Lc[5]? = some (.inr (0, 6)) := rfl
theorem lc_6 : Lc[6]? = some (.inr (0, 6)) := rfl
theorem lc_7 : Lc[7]? = some (.inr (0, 6)) := rfl
theorem lc_8 : Lc[8]? = some (.inr (0, 6)) := rfl
theorem lc_9 : Lc[9]? = some (.inr (0, 6)) := rfl
theorem lc_10 : Lc[10]? = some (.inr (0, 6)) := rfl
theorem lc_11 : Lc[11]? = some (.inr (0, 6)) := rfl
theorem lc_12 : Lc[12]? = some (.inr (0, 100)) := rfl
theorem lc_13 : Lc[13]? = some (.inl 4) := rfl
theorem lc_14 : Lc[14]? = some (.inr (0, 64)) := rfl
theorem lc_15 : Lc[15]? = some (.inr (0, 3)) := rfl
theorem lc_16 : Lc[16]? = some (.inr (0, 3)) := rfl
theorem lc_17 : Lc[17]? = some (.inr (1, 64)) := rfl
theorem lc_18 : Lc[18]? = some (.inl 0) := rfl
theorem lc_19 : Lc[19]? = some (.inr (0, 6)) := rfl
theorem lc_20 : Lc[20]? = some (.inr (0, 6)) := rfl
theorem lc_21 : Lc[21]? = some (.inr (0, 6)) := rfl
theorem lc_22 : Lc[22]? = some (.inr (0, 6)) := rfl
theorem lc_23 : Lc[23]? = some (.inr (0, 6)) := rfl
theorem lc_24 : Lc[24]? = some (.inr (0, 6)) := rfl
theorem lc_25 : Lc[25]? = some (.inr (0, 6)) := rfl
theorem lc_26 : Lc[26]? = some (.inr (0, 6)) := rfl
theorem lc_27 : Lc[27]? = some (.inr (0, 6)) := rfl
theorem lc_28 : Lc[28]? = some (.inr (0, 100)) := rfl
theorem lc_29 : Lc[29]? = some (.inl 4) := rfl
theorem lc_30 : Lc[30]? = some (.inr (0, 64)) := rfl
theorem lc_31 : Lc[31]? = some (.inr (0, 3)) := rfl
theorem lc_32 : Lc[32]? = some (.inr (0, 3)) := rfl
theorem lc_33 : Lc[33]? = some (.inr (1, 64)) := rfl
theorem lc_34 : Lc[34]? = some (.inl 6) := rfl
theorem lc_35 : Lc[35]? = some (.inr (0, 72)) := rfl
theorem lc_36 : Lc[36]? = some (.inl 7) := rfl
theorem lc_37 : Lc[37]? = some (.inr (0, 20)) := rfl
theorem lc_38 : Lc[38]? = some (.inl 8) := rfl
theorem lc_39 : Lc[39]? = some (.inr (0, 6)) := rfl
theorem lc_40 : Lc[40]? = some (.inr (0, 6)) := rfl
theorem lc_41 : Lc[41]? = some (.inr (0, 6)) := rfl
theorem lc_42 : Lc[42]? = some (.inr (0, 6)) := rfl
theorem lc_43 : Lc[43]? = some (.inr (3, 6)) := rfl
theorem lc_44 : Lc[44]? = some (.inr (3, 6)) := rfl
theorem lc_45 : Lc[45]? = some (.inr (0, 6)) := rfl
theorem lc_46 : Lc[46]? = some (.inl 8) := rfl
theorem lc_47 : Lc[47]? = some (.inr (0, 6)) := rfl
theorem lc_48 : Lc[48]? = some (.inr (0, 6)) := rfl
theorem lc_49 : Lc[49]? = some (.inr (0, 6)) := rfl
theorem lc_50 : Lc[50]? = some (.inr (0, 6)) := rfl
theorem lc_51 : Lc[51]? = some (.inr (3, 6)) := rfl
theorem lc_52 : Lc[52]? = some (.inr (3, 6)) := rfl
theorem lc_53 : Lc[53]? = some (.inr (0, 6)) := rfl
theorem lc_54 : Lc[54]? = some (.inl 8) := rfl
theorem lc_55 : Lc[55]? = some (.inr (0, 6)) := rfl
theorem lc_56 : Lc[56]? = some (.inr (0, 6)) := rfl
theorem lc_57 : Lc[57]? = some (.inr (0, 6)) := rfl
theorem lc_58 : Lc[58]? = some (.inr (0, 6)) := rfl
theorem lc_59 : Lc[59]? = some (.inr (3, 6)) := rfl
theorem lc_60 : Lc[60]? = some (.inr (3, 6)) := rfl
theorem lc_61 : Lc[61]? = some (.inr (0, 6)) := rfl
theorem lc_62 : Lc[62]? = some (.inl 1) := rfl
theorem lc_63 : Lc[63]? = some (.inr (1, 7)) := rfl
theorem lc_64 : Lc[64]? = some (.inl 9) := rfl
theorem lc_65 : Lc[65]? = some (.inr (0, 20)) := rfl
theorem lc_66 : Lc[66]? = some (.inr (0, 20)) := rfl
theorem lc_67 : Lc[67]? = some (.inr (0, 20)) := rfl
theorem lc_68 : Lc[68]? = some (.inr (0, 20)) := rfl
theorem lc_69 : Lc[69]? = some (.inr (0, 20)) := rfl
theorem lc_70 : Lc[70]? = some (.inl 2) := rfl
theorem lc_71 : Lc[71]? = some (.inr (0, 24)) := rfl
theorem lc_72 : Lc[72]? = some (.inr (0, 24)) := rfl
theorem lc_73 : Lc[73]? = some (.inr (0, 24)) := rfl
theorem lc_74 : Lc[74]? = some (.inr (3, 24)) := rfl
theorem lc_75 : Lc[75]? = some (.inr (3, 24)) := rfl
theorem lc_76 : Lc[76]? = some (.inl 5) := rfl
theorem lc_77 : Lc[77]? = some (.inr (0, 8)) := rfl
theorem lc_78 : Lc[78]? = some (.inr (0, 6)) := rfl
theorem lc_79 : Lc[79]? = some (.inl 3) := rfl
theorem lm_0 : Lm[0]? = some (.inl 11) := rfl
theorem lm_1 : Lm[1]? = some (.inr (0, 700)) := rfl
theorem lm_2 : Lm[2]? = some (.inr (0, 100)) := rfl
theorem lm_3 : Lm[3]? = some (.inr (3, 2)) := rfl
theorem lm_4 : Lm[4]? = some (.inr (0, 4)) := rfl
theorem lm_5 : Lm[5]? = some (.inr (0, 12)) := rfl
theorem lm_6 : Lm[6]? = some (.inr (0, 12)) := rfl
theorem lm_7 : Lm[7]? = some (.inr (0, 12)) := rfl
theorem lm_8 : Lm[8]? = some (.inr (0, 12)) := rfl
theorem lm_9 : Lm[9]? = some (.inr (0, 12)) := rfl
theorem lm_10 : Lm[10]? = some (.inr (0, 12)) := rfl
theorem lm_11 : Lm[11]? = some (.inr (0, 12)) := rfl
theorem lm_12 : Lm[12]? = some (.inr (0, 40)) := rfl
theorem lm_13 : Lm[13]? = some (.inr (0, 40)) := rfl
theorem lm_14 : Lm[14]? = some (.inr (0, 12)) := rfl
theorem lm_15 : Lm[15]? = some (.inr (0, 12)) := rfl
theorem lm_16 : Lm[16]? = some (.inr (3, 6)) := rfl
theorem lm_17 : Lm[17]? = some (.inr (0, 6)) := rfl
theorem lm_18 : Lm[18]? = some (.inr (0, 6)) := rfl
theorem lm_19 : Lm[19]? = some (.inr (0, 128)) := rfl
theorem lm_20 : Lm[20]? = some (.inr (0, 128)) := rfl
theorem lm_21 : Lm[21]? = some (.inr (0, 128)) := rfl
theorem lm_22 : Lm[22]? = some (.inr (0, 96)) := rfl
theorem lm_23 : Lm[23]? = some (.inr (0, 96)) := rfl
theorem lm_24 : Lm[24]? = some (.inr (1, 7)) := rfl
theorem lm_25 : Lm[25]? = some (.inr (1, 64)) := rfl
theorem lm_26 : Lm[26]? = some (.inr (0, 12)) := rfl
theorem lm_27 : Lm[27]? = some (.inr (0, 12)) := rfl
theorem lm_28 : Lm[28]? = some (.inr (0, 12)) := rfl
theorem lm_29 : Lm[29]? = some (.inr (0, 12)) := rfl
theorem lm_30 : Lm[30]? = some (.inr (0, 12)) := rfl
theorem lm_31 : Lm[31]? = some (.inr (0, 2)) := rfl
theorem lm_32 : Lm[32]? = some (.inr (0, 2)) := rfl
theorem lm_33 : Lm[33]? = some (.inr (0, 2)) := rfl
theorem lm_34 : Lm[34]? = some (.inr (0, 2)) := rfl
theorem lm_35 : Lm[35]? = some (.inr (0, 2)) := rfl
theorem lm_36 : Lm[36]? = some (.inr (0, 1792)) := rfl
theorem lm_37 : Lm[37]? = some (.inr (0, 1792)) := rfl
theorem lm_38 : Lm[38]? = some (.inr (0, 96)) := rfl
theorem lm_39 : Lm[39]? = some (.inr (3, 24)) := rfl
theorem lm_40 : Lm[40]? = some (.inr (0, 160)) := rfl
theorem lm_41 : Lm[41]? = some (.inr (0, 8)) := rfl
theorem lm_42 : Lm[42]? = some (.inr (0, 27)) := rfl
theorem rc_0_0 {b bk dr it : Nat} : Rc b bk dr it 0 0 = .ref (b + 1) := rfl
theorem rc_0_2 {b bk dr it : Nat} : Rc b bk dr it 0 2 = .ref (b + bk) := rfl
theorem rc_0_3 {b bk dr it : Nat} : Rc b bk dr it 0 3 = .ref (b + dr) := rfl
theorem rc_0_4 {b bk dr it : Nat} : Rc b bk dr it 0 4 = .ref (b + 34) := rfl
theorem rc_0_5 {b bk dr it : Nat} : Rc b bk dr it 0 5 = .ref (b + 38) := rfl
theorem rc_0_6 {b bk dr it : Nat} : Rc b bk dr it 0 6 = .ref (b + 46) := rfl
theorem rc_0_7 {b bk dr it : Nat} : Rc b bk dr it 0 7 = .ref (b + 54) := rfl
theorem rc_0_9 {b bk dr it : Nat} : Rc b bk dr it 0 9 = .ref (b + 62) := rfl
theorem rc_0_10 {b bk dr it : Nat} : Rc b bk dr it 0 10 = .ref (b + 64) := rfl
theorem rc_0_11 {b bk dr it : Nat} : Rc b bk dr it 0 11 = .ref (b + 70) := rfl
theorem rc_0_12 {b bk dr it : Nat} : Rc b bk dr it 0 12 = .ref (b + 76) := rfl
theorem rc_0_13 {b bk dr it : Nat} : Rc b bk dr it 0 13 = .ref (b + 79) := rfl
theorem rc_2_0 {b bk dr it : Nat} : Rc b bk dr it 2 0 = .ref (b + 3) := rfl
theorem rc_2_1 {b bk dr it : Nat} : Rc b bk dr it 2 1 = .ref (b + 4) := rfl
theorem rc_2_2 {b bk dr it : Nat} : Rc b bk dr it 2 2 = .ref (b + 5) := rfl
theorem rc_2_3 {b bk dr it : Nat} : Rc b bk dr it 2 3 = .ref (b + 6) := rfl
theorem rc_2_4 {b bk dr it : Nat} : Rc b bk dr it 2 4 = .ref (b + 7) := rfl
theorem rc_2_5 {b bk dr it : Nat} : Rc b bk dr it 2 5 = .ref (b + 8) := rfl
theorem rc_2_6 {b bk dr it : Nat} : Rc b bk dr it 2 6 = .ref (b + 9) := rfl
theorem rc_2_7 {b bk dr it : Nat} : Rc b bk dr it 2 7 = .ref (b + 10) := rfl
theorem rc_2_8 {b bk dr it : Nat} : Rc b bk dr it 2 8 = .ref (b + 11) := rfl
theorem rc_2_9 {b bk dr it : Nat} : Rc b bk dr it 2 9 = .ref (b + 12) := rfl
theorem rc_2_10 {b bk dr it : Nat} : Rc b bk dr it 2 10 = .ref (b + 13) := rfl
theorem rc_13_0 {b bk dr it : Nat} : Rc b bk dr it 13 0 = .ref (b + 14) := rfl
theorem rc_13_1 {b bk dr it : Nat} : Rc b bk dr it 13 1 = .ref (b + 15) := rfl
theorem rc_13_2 {b bk dr it : Nat} : Rc b bk dr it 13 2 = .ref (b + 16) := rfl
theorem rc_13_3 {b bk dr it : Nat} : Rc b bk dr it 13 3 = .ref (b + 17) := rfl
theorem rc_18_0 {b bk dr it : Nat} : Rc b bk dr it 18 0 = .ref (b + 19) := rfl
theorem rc_18_1 {b bk dr it : Nat} : Rc b bk dr it 18 1 = .ref (b + 20) := rfl
theorem rc_18_2 {b bk dr it : Nat} : Rc b bk dr it 18 2 = .ref (b + 21) := rfl
theorem rc_18_3 {b bk dr it : Nat} : Rc b bk dr it 18 3 = .ref (b + 22) := rfl
theorem rc_18_4 {b bk dr it : Nat} : Rc b bk dr it 18 4 = .ref (b + 23) := rfl
theorem rc_18_5 {b bk dr it : Nat} : Rc b bk dr it 18 5 = .ref (b + 24) := rfl
theorem rc_18_6 {b bk dr it : Nat} : Rc b bk dr it 18 6 = .ref (b + 25) := rfl
theorem rc_18_7 {b bk dr it : Nat} : Rc b bk dr it 18 7 = .ref (b + 26) := rfl
theorem rc_18_8 {b bk dr it : Nat} : Rc b bk dr it 18 8 = .ref (b + 27) := rfl
theorem rc_18_9 {b bk dr it : Nat} : Rc b bk dr it 18 9 = .ref (b + 28) := rfl
theorem rc_18_10 {b bk dr it : Nat} : Rc b bk dr it 18 10 = .ref (b + 29) := rfl
theorem rc_29_0 {b bk dr it : Nat} : Rc b bk dr it 29 0 = .ref (b + 30) := rfl
theorem rc_29_1 {b bk dr it : Nat} : Rc b bk dr it 29 1 = .ref (b + 31) := rfl
theorem rc_29_2 {b bk dr it : Nat} : Rc b bk dr it 29 2 = .ref (b + 32) := rfl
theorem rc_29_3 {b bk dr it : Nat} : Rc b bk dr it 29 3 = .ref (b + 33) := rfl
theorem rc_34_0 {b bk dr it : Nat} : Rc b bk dr it 34 0 = .ref (b + 36) := rfl
theorem rc_34_1 {b bk dr it : Nat} : Rc b bk dr it 34 1 = .ref (b + 35) := rfl
theorem rc_34_7 {b bk dr it : Nat} : Rc b bk dr it 34 7 = .ref (b + it) := rfl
theorem rc_36_0 {b bk dr it : Nat} : Rc b bk dr it 36 0 = .ref (b + 1) := rfl
theorem rc_36_1 {b bk dr it : Nat} : Rc b bk dr it 36 1 = .ref (b + 37) := rfl
theorem rc_38_0 {b bk dr it : Nat} : Rc b bk dr it 38 0 = .ref (b + 39) := rfl
theorem rc_38_1 {b bk dr it : Nat} : Rc b bk dr it 38 1 = .ref (b + 40) := rfl
theorem rc_38_2 {b bk dr it : Nat} : Rc b bk dr it 38 2 = .ref (b + 41) := rfl
theorem rc_38_3 {b bk dr it : Nat} : Rc b bk dr it 38 3 = .ref (b + 42) := rfl
theorem rc_38_4 {b bk dr it : Nat} : Rc b bk dr it 38 4 = .ref (b + 43) := rfl
theorem rc_38_5 {b bk dr it : Nat} : Rc b bk dr it 38 5 = .ref (b + 44) := rfl
theorem rc_38_6 {b bk dr it : Nat} : Rc b bk dr it 38 6 = .ref (b + 45) := rfl
theorem rc_46_0 {b bk dr it : Nat} : Rc b bk dr it 46 0 = .ref (b + 47) := rfl
theorem rc_46_1 {b bk dr it : Nat} : Rc b bk dr it 46 1 = .ref (b + 48) := rfl
theorem rc_46_2 {b bk dr it : Nat} : Rc b bk dr it 46 2 = .ref (b + 49) := rfl
theorem rc_46_3 {b bk dr it : Nat} : Rc b bk dr it 46 3 = .ref (b + 50) := rfl
theorem rc_46_4 {b bk dr it : Nat} : Rc b bk dr it 46 4 = .ref (b + 51) := rfl
theorem rc_46_5 {b bk dr it : Nat} : Rc b bk dr it 46 5 = .ref (b + 52) := rfl
theorem rc_46_6 {b bk dr it : Nat} : Rc b bk dr it 46 6 = .ref (b + 53) := rfl
theorem rc_54_0 {b bk dr it : Nat} : Rc b bk dr it 54 0 = .ref (b + 55) := rfl
theorem rc_54_1 {b bk dr it : Nat} : Rc b bk dr it 54 1 = .ref (b + 56) := rfl
theorem rc_54_2 {b bk dr it : Nat} : Rc b bk dr it 54 2 = .ref (b + 57) := rfl
theorem rc_54_3 {b bk dr it : Nat} : Rc b bk dr it 54 3 = .ref (b + 58) := rfl
theorem rc_54_4 {b bk dr it : Nat} : Rc b bk dr it 54 4 = .ref (b + 59) := rfl
theorem rc_54_5 {b bk dr it : Nat} : Rc b bk dr it 54 5 = .ref (b + 60) := rfl
theorem rc_54_6 {b bk dr it : Nat} : Rc b bk dr it 54 6 = .ref (b + 61) := rfl
theorem rc_62_0 {b bk dr it : Nat} : Rc b bk dr it 62 0 = .ref (b + 63) := rfl
theorem rc_64_0 {b bk dr it : Nat} : Rc b bk dr it 64 0 = .ref (b + 65) := rfl
theorem rc_64_1 {b bk dr it : Nat} : Rc b bk dr it 64 1 = .ref (b + 66) := rfl
theorem rc_64_2 {b bk dr it : Nat} : Rc b bk dr it 64 2 = .ref (b + 67) := rfl
theorem rc_64_3 {b bk dr it : Nat} : Rc b bk dr it 64 3 = .ref (b + 68) := rfl
theorem rc_64_4 {b bk dr it : Nat} : Rc b bk dr it 64 4 = .ref (b + 69) := rfl
theorem rc_70_0 {b bk dr it : Nat} : Rc b bk dr it 70 0 = .ref (b + 71) := rfl
theorem rc_70_1 {b bk dr it : Nat} : Rc b bk dr it 70 1 = .ref (b + 72) := rfl
theorem rc_70_2 {b bk dr it : Nat} : Rc b bk dr it 70 2 = .ref (b + 73) := rfl
theorem rc_70_3 {b bk dr it : Nat} : Rc b bk dr it 70 3 = .ref (b + 74) := rfl
theorem rc_70_4 {b bk dr it : Nat} : Rc b bk dr it 70 4 = .ref (b + 75) := rfl
theorem rc_76_0 {b bk dr it : Nat} : Rc b bk dr it 76 0 = .ref (b + 77) := rfl
theorem rc_76_1 {b bk dr it : Nat} : Rc b bk dr it 76 1 = .ref (b + 78) := rfl
theorem rm_0_0 {b : Nat} : Rm b 0 0 = .ref (b + 1) := rfl
theorem rm_0_3 {b : Nat} : Rm b 0 3 = .ref (b + 2) := rfl
theorem rm_0_22 {b : Nat} : Rm b 0 22 = .ref (b + 3) := rfl
theorem rm_0_23 {b : Nat} : Rm b 0 23 = .ref (b + 4) := rfl
theorem rm_0_24 {b : Nat} : Rm b 0 24 = .ref (b + 5) := rfl
theorem rm_0_25 {b : Nat} : Rm b 0 25 = .ref (b + 6) := rfl
theorem rm_0_26 {b : Nat} : Rm b 0 26 = .ref (b + 7) := rfl
theorem rm_0_27 {b : Nat} : Rm b 0 27 = .ref (b + 8) := rfl
theorem rm_0_28 {b : Nat} : Rm b 0 28 = .ref (b + 9) := rfl
theorem rm_0_29 {b : Nat} : Rm b 0 29 = .ref (b + 10) := rfl
theorem rm_0_30 {b : Nat} : Rm b 0 30 = .ref (b + 11) := rfl
theorem rm_0_31 {b : Nat} : Rm b 0 31 = .ref (b + 12) := rfl
theorem rm_0_32 {b : Nat} : Rm b 0 32 = .ref (b + 13) := rfl
theorem rm_0_33 {b : Nat} : Rm b 0 33 = .ref (b + 14) := rfl
theorem rm_0_34 {b : Nat} : Rm b 0 34 = .ref (b + 15) := rfl
theorem rm_0_35 {b : Nat} : Rm b 0 35 = .ref (b + 16) := rfl
theorem rm_0_36 {b : Nat} : Rm b 0 36 = .ref (b + 17) := rfl
theorem rm_0_37 {b : Nat} : Rm b 0 37 = .ref (b + 18) := rfl
theorem rm_0_38 {b : Nat} : Rm b 0 38 = .ref (b + 19) := rfl
theorem rm_0_39 {b : Nat} : Rm b 0 39 = .ref (b + 20) := rfl
theorem rm_0_40 {b : Nat} : Rm b 0 40 = .ref (b + 21) := rfl
theorem rm_0_41 {b : Nat} : Rm b 0 41 = .ref (b + 22) := rfl
theorem rm_0_42 {b : Nat} : Rm b 0 42 = .ref (b + 23) := rfl
theorem rm_0_49 {b : Nat} : Rm b 0 49 = .ref (b + 24) := rfl
theorem rm_0_50 {b : Nat} : Rm b 0 50 = .ref (b + 25) := rfl
theorem rm_0_52 {b : Nat} : Rm b 0 52 = .ref (b + 26) := rfl
theorem rm_0_53 {b : Nat} : Rm b 0 53 = .ref (b + 27) := rfl
theorem rm_0_54 {b : Nat} : Rm b 0 54 = .ref (b + 28) := rfl
theorem rm_0_55 {b : Nat} : Rm b 0 55 = .ref (b + 29) := rfl
theorem rm_0_56 {b : Nat} : Rm b 0 56 = .ref (b + 30) := rfl
theorem rm_0_57 {b : Nat} : Rm b 0 57 = .ref (b + 31) := rfl
theorem rm_0_58 {b : Nat} : Rm b 0 58 = .ref (b + 32) := rfl
theorem rm_0_59 {b : Nat} : Rm b 0 59 = .ref (b + 33) := rfl
theorem rm_0_60 {b : Nat} : Rm b 0 60 = .ref (b + 34) := rfl
theorem rm_0_61 {b : Nat} : Rm b 0 61 = .ref (b + 35) := rfl
theorem rm_0_67 {b : Nat} : Rm b 0 67 = .ref (b + 36) := rfl
theorem rm_0_68 {b : Nat} : Rm b 0 68 = .ref (b + 37) := rfl
theorem rm_0_72 {b : Nat} : Rm b 0 72 = .ref (b + 38) := rfl
theorem rm_0_73 {b : Nat} : Rm b 0 73 = .ref (b + 39) := rfl
theorem rm_0_75 {b : Nat} : Rm b 0 75 = .ref (b + 40) := rfl
theorem rm_0_77 {b : Nat} : Rm b 0 77 = .ref (b + 41) := rfl
theorem rm_0_78 {b : Nat} : Rm b 0 78 = .ref (b + 42) := rfl
def LawsAt (b : Nat) (L : List Kd) (R : MR) (p : Nat) : Prop := L[p]? = some (.inl 4) ∧ L[p + 1]? = some (.inr (0, 64)) ∧ R p 0 = .ref (b + (p + 1)) ∧ L[p + 2]? = some (.inr (0, 3)) ∧ R p 1 = .ref (b + (p + 2)) ∧ L[p + 3]? = some (.inr (0, 3)) ∧ R p 2 = .ref (b + (p + 3)) ∧ L[p + 4]? = some (.inr (1, 64)) ∧ R p 3 = .ref (b + (p + 4))
theorem LawsAt.o {b : Nat} {L : List Kd} {R : MR} {p : Nat} (h : LawsAt b L R p) : L[p]? = some (.inl 4) := h.1
theorem LawsAt.l0 {b : Nat} {L : List Kd} {R : MR} {p : Nat} (h : LawsAt b L R p) : L[p + 1]? = some (.inr (0, 64)) := h.2.1
theorem LawsAt.r0 {b : Nat} {L : List Kd} {R : MR} {p : Nat} (h : LawsAt b L R p) : R p 0 = .ref (b + (p + 1)) := h.2.2.1
theorem LawsAt.l1 {b : Nat} {L : List Kd} {R : MR} {p : Nat} (h : LawsAt b L R p) : L[p + 2]? = some (.inr (0, 3)) := h.2.2.2.1
theorem LawsAt.r1 {b : Nat} {L : List Kd} {R : MR} {p : Nat} (h : LawsAt b L R p) : R p 1 = .ref (b + (p + 2)) := h.2.2.2.2.1
theorem LawsAt.l2 {b : Nat} {L : List Kd} {R : MR} {p : Nat} (h : LawsAt b L R p) : L[p + 3]? = some (.inr (0, 3)) := h.2.2.2.2.2.1
theorem LawsAt.r2 {b : Nat} {L : List Kd} {R : MR} {p : Nat} (h : LawsAt b L R p) : R p 2 = .ref (b + (p + 3)) := h.2.2.2.2.2.2.1
theorem LawsAt.l3 {b : Nat} {L : List Kd} {R : MR} {p : Nat} (h : LawsAt b L R p) : L[p + 4]? = some (.inr (1, 64)) := h.2.2.2.2.2.2.2.1
theorem LawsAt.r3 {b : Nat} {L : List Kd} {R : MR} {p : Nat} (h : LawsAt b L R p) : R p 3 = .ref (b + (p + 4)) := h.2.2.2.2.2.2.2.2
def BookAt (b : Nat) (L : List Kd) (R : MR) (p : Nat) : Prop := L[p]? = some (.inl 0) ∧ L[p + 1]? = some (.inr (0, 6)) ∧ R p 0 = .ref (b + (p + 1)) ∧ L[p + 2]? = some (.inr (0, 6)) ∧ R p 1 = .ref (b + (p + 2)) ∧ L[p + 3]? = some (.inr (0, 6)) ∧ R p 2 = .ref (b + (p + 3)) ∧ L[p + 4]? = some (.inr (0, 6)) ∧ R p 3 = .ref (b + (p + 4)) ∧ L[p + 5]? = some (.inr (0, 6)) ∧ R p 4 = .ref (b + (p + 5)) ∧ L[p + 6]? = some (.inr (0, 6)) ∧ R p 5 = .ref (b + (p + 6)) ∧ L[p + 7]? = some (.inr (0, 6)) ∧ R p 6 = .ref (b + (p + 7)) ∧ L[p + 8]? = some (.inr (0, 6)) ∧ R p 7 = .ref (b + (p + 8)) ∧ L[p + 9]? = some (.inr (0, 6)) ∧ R p 8 = .ref (b + (p + 9)) ∧ L[p + 10]? = some (.inr (0, 100)) ∧ R p 9 = .ref (b + (p + 10)) ∧ R p 10 = .ref (b + (p + 11)) ∧ LawsAt b L R (p + 11)
theorem BookAt.o {b : Nat} {L : List Kd} {R : MR} {p : Nat} (h : BookAt b L R p) : L[p]? = some (.inl 0) := h.1
theorem BookAt.l0 {b : Nat} {L : List Kd} {R : MR} {p : Nat} (h : BookAt b L R p) : L[p + 1]? = some (.inr (0, 6)) := h.2.1
theorem BookAt.r0 {b : Nat} {L : List Kd} {R : MR} {p : Nat} (h : BookAt b L R p) : R p 0 = .ref (b + (p + 1)) := h.2.2.1
theorem BookAt.l1 {b : Nat} {L : List Kd} {R : MR} {p : Nat} (h : BookAt b L R p) : L[p + 2]? = some (.inr (0, 6)) := h.2.2.2.1
theorem BookAt.r1 {b : Nat} {L : List Kd} {R : MR} {p : Nat} (h : BookAt b L R p) : R p 1 = .ref (b + (p + 2)) := h.2.2.2.2.1
theorem BookAt.l2 {b : Nat} {L : List Kd} {R : MR} {p : Nat} (h : BookAt b L R p) : L[p + 3]? = some (.inr (0, 6)) := h.2.2.2.2.2.1
theorem BookAt.r2 {b : Nat} {L : List Kd} {R : MR} {p : Nat} (h : BookAt b L R p) : R p 2 = .ref (b + (p + 3)) := h.2.2.2.2.2.2.1
theorem BookAt.l3 {b : Nat} {L : List Kd} {R : MR} {p : Nat} (h : BookAt b L R p) : L[p + 4]? = some (.inr (0, 6)) := h.2.2.2.2.2.2.2.1
theorem BookAt.r3 {b : Nat} {L : List Kd} {R : MR} {p : Nat} (h : BookAt b L R p) : R p 3 = .ref (b + (p + 4)) := h.2.2.2.2.2.2.2.2.1
theorem BookAt.l4 {b : Nat} {L : List Kd} {R : MR} {p : Nat} (h : BookAt b L R p) : L[p + 5]? = some (.inr (0, 6)) := h.2.2.2.2.2.2.2.2.2.1
theorem BookAt.r4 {b : Nat} {L : List Kd} {R : MR} {p : Nat} (h : BookAt b L R p) : R p 4 = .ref (b + (p + 5)) := h.2.2.2.2.2.2.2.2.2.2.1
theorem BookAt.l5 {b : Nat} {L : List Kd} {R : MR} {p : Nat} (h : BookAt b L R p) : L[p + 6]? = some (.inr (0, 6)) := h.2.2.2.2.2.2.2.2.2.2.2.1
theorem BookAt.r5 {b : Nat} {L : List Kd} {R : MR} {p : Nat} (h : BookAt b L R p) : R p 5 = .ref (b + (p + 6)) := h.2.2.2.2.2.2.2.2.2.2.2.2.1
theorem BookAt.l6 {b : Nat} {L : List Kd} {R : MR} {p : Nat} (h : BookAt b L R p) : L[p + 7]? = some (.inr (0, 6)) := h.2.2.2.2.2.2.2.2.2.2.2.2.2.1
theorem BookAt.r6 {b : Nat} {L : List Kd} {R : MR} {p : Nat} (h : BookAt b L R p) : R p 6 = .ref (b + (p + 7)) := h.2.2.2.2.2.2.2.2.2.2.2.2.2.2.1
theorem BookAt.l7 {b : Nat} {L : List Kd} {R : MR} {p : Nat} (h : BookAt b L R p) : L[p + 8]? = some (.inr (0, 6)) := h.2.2.2.2.2.2.2.2.2.2.2.2.2.2.2.1
theorem BookAt.r7 {b : Nat} {L : List Kd} {R : MR} {p : Nat} (h : BookAt b L R p) : R p 7 = .ref (b + (p + 8)) := h.2.2.2.2.2.2.2.2.2.2.2.2.2.2.2.2.1
theorem BookAt.l8 {b : Nat} {L : List Kd} {R : MR} {p : Nat} (h : BookAt b L R p) : L[p + 9]? = some (.inr (0, 6)) := h.2.2.2.2.2.2.2.2.2.2.2.2.2.2.2.2.2.1
theorem BookAt.r8 {b : Nat} {L : List Kd} {R : MR} {p : Nat} (h : BookAt b L R p) : R p 8 = .ref (b + (p + 9)) := h.2.2.2.2.2.2.2.2.2.2.2.2.2.2.2.2.2.2.1
theorem BookAt.l9 {b : Nat} {L : List Kd} {R : MR} {p : Nat} (h : BookAt b L R p) : L[p + 10]? = some (.inr (0, 100)) := h.2.2.2.2.2.2.2.2.2.2.2.2.2.2.2.2.2.2.2.1
theorem BookAt.r9 {b : Nat} {L : List Kd} {R : MR} {p : Nat} (h : BookAt b L R p) : R p 9 = .ref (b + (p + 10)) := h.2.2.2.2.2.2.2.2.2.2.2.2.2.2.2.2.2.2.2.2.1
theorem BookAt.r10 {b : Nat} {L : List Kd} {R : MR} {p : Nat} (h : BookAt b L R p) : R p 10 = .ref (b + (p + 11)) := h.2.2.2.2.2.2.2.2.2.2.2.2.2.2.2.2.2.2.2.2.2.1
theorem BookAt.laws {b : Nat} {L : List Kd} {R : MR} {p : Nat} (h : BookAt b L R p) : LawsAt b L R (p + 11) := h.2.2.2.2.2.2.2.2.2.2.2.2.2.2.2.2.2.2.2.2.2.2
def TownAt (b : Nat) (L : List Kd) (R : MR) (p : Nat) : Prop := L[p]? = some (.inl 8) ∧ L[p + 1]? = some (.inr (0, 6)) ∧ R p 0 = .ref (b + (p + 1)) ∧ L[p + 2]? = some (.inr (0, 6)) ∧ R p 1 = .ref (b + (p + 2)) ∧ L[p + 3]? = some (.inr (0, 6)) ∧ R p 2 = .ref (b + (p + 3)) ∧ L[p + 4]? = some (.inr (0, 6)) ∧ R p 3 = .ref (b + (p + 4)) ∧ L[p + 5]? = some (.inr (3, 6)) ∧ R p 4 = .ref (b + (p + 5)) ∧ L[p + 6]? = some (.inr (3, 6)) ∧ R p 5 = .ref (b + (p + 6)) ∧ L[p + 7]? = some (.inr (0, 6)) ∧ R p 6 = .ref (b + (p + 7))
theorem TownAt.o {b : Nat} {L : List Kd} {R : MR} {p : Nat} (h : TownAt b L R p) : L[p]? = some (.inl 8) := h.1
theorem TownAt.l0 {b : Nat} {L : List Kd} {R : MR} {p : Nat} (h : TownAt b L R p) : L[p + 1]? = some (.inr (0, 6)) := h.2.1
theorem TownAt.r0 {b : Nat} {L : List Kd} {R : MR} {p : Nat} (h : TownAt b L R p) : R p 0 = .ref (b + (p + 1)) := h.2.2.1
theorem TownAt.l1 {b : Nat} {L : List Kd} {R : MR} {p : Nat} (h : TownAt b L R p) : L[p + 2]? = some (.inr (0, 6)) := h.2.2.2.1
theorem TownAt.r1 {b : Nat} {L : List Kd} {R : MR} {p : Nat} (h : TownAt b L R p) : R p 1 = .ref (b + (p + 2)) := h.2.2.2.2.1
theorem TownAt.l2 {b : Nat} {L : List Kd} {R : MR} {p : Nat} (h : TownAt b L R p) : L[p + 3]? = some (.inr (0, 6)) := h.2.2.2.2.2.1
theorem TownAt.r2 {b : Nat} {L : List Kd} {R : MR} {p : Nat} (h : TownAt b L R p) : R p 2 = .ref (b + (p + 3)) := h.2.2.2.2.2.2.1
theorem TownAt.l3 {b : Nat} {L : List Kd} {R : MR} {p : Nat} (h : TownAt b L R p) : L[p + 4]? = some (.inr (0, 6)) := h.2.2.2.2.2.2.2.1
theorem TownAt.r3 {b : Nat} {L : List Kd} {R : MR} {p : Nat} (h : TownAt b L R p) : R p 3 = .ref (b + (p + 4)) := h.2.2.2.2.2.2.2.2.1
theorem TownAt.l4 {b : Nat} {L : List Kd} {R : MR} {p : Nat} (h : TownAt b L R p) : L[p + 5]? = some (.inr (3, 6)) := h.2.2.2.2.2.2.2.2.2.1
theorem TownAt.r4 {b : Nat} {L : List Kd} {R : MR} {p : Nat} (h : TownAt b L R p) : R p 4 = .ref (b + (p + 5)) := h.2.2.2.2.2.2.2.2.2.2.1
theorem TownAt.l5 {b : Nat} {L : List Kd} {R : MR} {p : Nat} (h : TownAt b L R p) : L[p + 6]? = some (.inr (3, 6)) := h.2.2.2.2.2.2.2.2.2.2.2.1
theorem TownAt.r5 {b : Nat} {L : List Kd} {R : MR} {p : Nat} (h : TownAt b L R p) : R p 5 = .ref (b + (p + 6)) := h.2.2.2.2.2.2.2.2.2.2.2.2.1
theorem TownAt.l6 {b : Nat} {L : List Kd} {R : MR} {p : Nat} (h : TownAt b L R p) : L[p + 7]? = some (.inr (0, 6)) := h.2.2.2.2.2.2.2.2.2.2.2.2.2.1
theorem TownAt.r6 {b : Nat} {L : List Kd} {R : MR} {p : Nat} (h : TownAt b L R p) : R p 6 = .ref (b + (p + 7)) := h.2.2.2.2.2.2.2.2.2.2.2.2.2.2
theorem bookAt_2 {b bk dr it : Nat} : BookAt b Lc (Rc b bk dr it) 2 := ⟨rfl, rfl, rfl, rfl, rfl, rfl, rfl, rfl, rfl, rfl, rfl, rfl, rfl, rfl, rfl, rfl, rfl, rfl, rfl, rfl, rfl, rfl, ⟨rfl, rfl, rfl, rfl, rfl, rfl, rfl, rfl, rfl⟩⟩
theorem bookAt_18 {b bk dr it : Nat} : BookAt b Lc (Rc b bk dr it) 18 := ⟨rfl, rfl, rfl, rfl, rfl, rfl, rfl, rfl, rfl, rfl, rfl, rfl, rfl, rfl, rfl, rfl, rfl, rfl, rfl, rfl, rfl, rfl, ⟨rfl, rfl, rfl, rfl, rfl, rfl, rfl, rfl, rfl⟩⟩
theorem bookAt_c {b bk dr it p : Nat} (h : isBk p = true) : BookAt b Lc (Rc b bk dr it) p := by
  simp only [isBk, Bool.or_eq_true, decide_eq_true_eq] at h
  rcases h with rfl | rfl
  · exact bookAt_2
  · exact bookAt_18
theorem townAt_38 {b bk dr it : Nat} : TownAt b Lc (Rc b bk dr it) 38 := ⟨rfl, rfl, rfl, rfl, rfl, rfl, rfl, rfl, rfl, rfl, rfl, rfl, rfl, rfl, rfl⟩
theorem isTn_38 : isTn 38 = true := rfl
theorem townAt_46 {b bk dr it : Nat} : TownAt b Lc (Rc b bk dr it) 46 := ⟨rfl, rfl, rfl, rfl, rfl, rfl, rfl, rfl, rfl, rfl, rfl, rfl, rfl, rfl, rfl⟩
theorem isTn_46 : isTn 46 = true := rfl
theorem townAt_54 {b bk dr it : Nat} : TownAt b Lc (Rc b bk dr it) 54 := ⟨rfl, rfl, rfl, rfl, rfl, rfl, rfl, rfl, rfl, rfl, rfl, rfl, rfl, rfl, rfl⟩
theorem isTn_54 : isTn 54 = true := rfl
theorem townAt_c {b bk dr it p : Nat} (h : isTn p = true) : TownAt b Lc (Rc b bk dr it) p := by
  simp only [isTn, Bool.or_eq_true, decide_eq_true_eq] at h
  rcases h with (rfl | rfl) | rfl
  · exact townAt_38
  · exact townAt_46
  · exact townAt_54
theorem rp_bk_k {b bk dr it x : Nat} : ∀ j, j ≠ 2 → Rc b x dr it 0 j = Rc b bk dr it 0 j := fun j hj => match j, hj with
  | 0, _ => rfl
  | 1, _ => rfl
  | 2, h => absurd rfl h
  | 3, _ => rfl
  | 4, _ => rfl
  | 5, _ => rfl
  | 6, _ => rfl
  | 7, _ => rfl
  | 8, _ => rfl
  | 9, _ => rfl
  | 10, _ => rfl
  | 11, _ => rfl
  | 12, _ => rfl
  | 13, _ => rfl
  | j + 14, _ => rfl
theorem rp_bk_p {b bk dr it x : Nat} : ∀ q, q ≠ 0 → Rc b x dr it q = Rc b bk dr it q := fun q hq => match q, hq with
  | 0, h => absurd rfl h
  | 1, _ => rfl
  | 2, _ => rfl
  | 3, _ => rfl
  | 4, _ => rfl
  | 5, _ => rfl
  | 6, _ => rfl
  | 7, _ => rfl
  | 8, _ => rfl
  | 9, _ => rfl
  | 10, _ => rfl
  | 11, _ => rfl
  | 12, _ => rfl
  | 13, _ => rfl
  | 14, _ => rfl
  | 15, _ => rfl
  | 16, _ => rfl
  | 17, _ => rfl
  | 18, _ => rfl
  | 19, _ => rfl
  | 20, _ => rfl
  | 21, _ => rfl
  | 22, _ => rfl
  | 23, _ => rfl
  | 24, _ => rfl
  | 25, _ => rfl
  | 26, _ => rfl
  | 27, _ => rfl
  | 28, _ => rfl
  | 29, _ => rfl
  | 30, _ => rfl
  | 31, _ => rfl
  | 32, _ => rfl
  | 33, _ => rfl
  | 34, _ => rfl
  | 35, _ => rfl
  | 36, _ => rfl
  | 37, _ => rfl
  | 38, _ => rfl
  | 39, _ => rfl
  | 40, _ => rfl
  | 41, _ => rfl
  | 42, _ => rfl
  | 43, _ => rfl
  | 44, _ => rfl
  | 45, _ => rfl
  | 46, _ => rfl
  | 47, _ => rfl
  | 48, _ => rfl
  | 49, _ => rfl
  | 50, _ => rfl
  | 51, _ => rfl
  | 52, _ => rfl
  | 53, _ => rfl
  | 54, _ => rfl
  | 55, _ => rfl
  | 56, _ => rfl
  | 57, _ => rfl
  | 58, _ => rfl
  | 59, _ => rfl
  | 60, _ => rfl
  | 61, _ => rfl
  | 62, _ => rfl
  | 63, _ => rfl
  | 64, _ => rfl
  | 65, _ => rfl
  | 66, _ => rfl
  | 67, _ => rfl
  | 68, _ => rfl
  | 69, _ => rfl
  | 70, _ => rfl
  | 71, _ => rfl
  | 72, _ => rfl
  | 73, _ => rfl
  | 74, _ => rfl
  | 75, _ => rfl
  | 76, _ => rfl
  | 77, _ => rfl
  | 78, _ => rfl
  | 79, _ => rfl
  | 80, _ => rfl
  | j + 81, _ => rfl
theorem rp_dr_k {b bk dr it x : Nat} : ∀ j, j ≠ 3 → Rc b bk x it 0 j = Rc b bk dr it 0 j := fun j hj => match j, hj with
  | 0, _ => rfl
  | 1, _ => rfl
  | 2, _ => rfl
  | 3, h => absurd rfl h
  | 4, _ => rfl
  | 5, _ => rfl
  | 6, _ => rfl
  | 7, _ => rfl
  | 8, _ => rfl
  | 9, _ => rfl
  | 10, _ => rfl
  | 11, _ => rfl
  | 12, _ => rfl
  | 13, _ => rfl
  | j + 14, _ => rfl
theorem rp_dr_p {b bk dr it x : Nat} : ∀ q, q ≠ 0 → Rc b bk x it q = Rc b bk dr it q := fun q hq => match q, hq with
  | 0, h => absurd rfl h
  | 1, _ => rfl
  | 2, _ => rfl
  | 3, _ => rfl
  | 4, _ => rfl
  | 5, _ => rfl
  | 6, _ => rfl
  | 7, _ => rfl
  | 8, _ => rfl
  | 9, _ => rfl
  | 10, _ => rfl
  | 11, _ => rfl
  | 12, _ => rfl
  | 13, _ => rfl
  | 14, _ => rfl
  | 15, _ => rfl
  | 16, _ => rfl
  | 17, _ => rfl
  | 18, _ => rfl
  | 19, _ => rfl
  | 20, _ => rfl
  | 21, _ => rfl
  | 22, _ => rfl
  | 23, _ => rfl
  | 24, _ => rfl
  | 25, _ => rfl
  | 26, _ => rfl
  | 27, _ => rfl
  | 28, _ => rfl
  | 29, _ => rfl
  | 30, _ => rfl
  | 31, _ => rfl
  | 32, _ => rfl
  | 33, _ => rfl
  | 34, _ => rfl
  | 35, _ => rfl
  | 36, _ => rfl
  | 37, _ => rfl
  | 38, _ => rfl
  | 39, _ => rfl
  | 40, _ => rfl
  | 41, _ => rfl
  | 42, _ => rfl
  | 43, _ => rfl
  | 44, _ => rfl
  | 45, _ => rfl
  | 46, _ => rfl
  | 47, _ => rfl
  | 48, _ => rfl
  | 49, _ => rfl
  | 50, _ => rfl
  | 51, _ => rfl
  | 52, _ => rfl
  | 53, _ => rfl
  | 54, _ => rfl
  | 55, _ => rfl
  | 56, _ => rfl
  | 57, _ => rfl
  | 58, _ => rfl
  | 59, _ => rfl
  | 60, _ => rfl
  | 61, _ => rfl
  | 62, _ => rfl
  | 63, _ => rfl
  | 64, _ => rfl
  | 65, _ => rfl
  | 66, _ => rfl
  | 67, _ => rfl
  | 68, _ => rfl
  | 69, _ => rfl
  | 70, _ => rfl
  | 71, _ => rfl
  | 72, _ => rfl
  | 73, _ => rfl
  | 74, _ => rfl
  | 75, _ => rfl
  | 76, _ => rfl
  | 77, _ => rfl
  | 78, _ => rfl
  | 79, _ => rfl
  | 80, _ => rfl
  | j + 81, _ => rfl
theorem rp_it_k {b bk dr it x : Nat} : ∀ j, j ≠ 7 → Rc b bk dr x 34 j = Rc b bk dr it 34 j := fun j hj => match j, hj with
  | 0, _ => rfl
  | 1, _ => rfl
  | 2, _ => rfl
  | 3, _ => rfl
  | 4, _ => rfl
  | 5, _ => rfl
  | 6, _ => rfl
  | 7, h => absurd rfl h
  | j + 8, _ => rfl
theorem rp_it_p {b bk dr it x : Nat} : ∀ q, q ≠ 34 → Rc b bk dr x q = Rc b bk dr it q := fun q hq => match q, hq with
  | 0, _ => rfl
  | 1, _ => rfl
  | 2, _ => rfl
  | 3, _ => rfl
  | 4, _ => rfl
  | 5, _ => rfl
  | 6, _ => rfl
  | 7, _ => rfl
  | 8, _ => rfl
  | 9, _ => rfl
  | 10, _ => rfl
  | 11, _ => rfl
  | 12, _ => rfl
  | 13, _ => rfl
  | 14, _ => rfl
  | 15, _ => rfl
  | 16, _ => rfl
  | 17, _ => rfl
  | 18, _ => rfl
  | 19, _ => rfl
  | 20, _ => rfl
  | 21, _ => rfl
  | 22, _ => rfl
  | 23, _ => rfl
  | 24, _ => rfl
  | 25, _ => rfl
  | 26, _ => rfl
  | 27, _ => rfl
  | 28, _ => rfl
  | 29, _ => rfl
  | 30, _ => rfl
  | 31, _ => rfl
  | 32, _ => rfl
  | 33, _ => rfl
  | 34, h => absurd rfl h
  | 35, _ => rfl
  | 36, _ => rfl
  | 37, _ => rfl
  | 38, _ => rfl
  | 39, _ => rfl
  | 40, _ => rfl
  | 41, _ => rfl
  | 42, _ => rfl
  | 43, _ => rfl
  | 44, _ => rfl
  | 45, _ => rfl
  | 46, _ => rfl
  | 47, _ => rfl
  | 48, _ => rfl
  | 49, _ => rfl
  | 50, _ => rfl
  | 51, _ => rfl
  | 52, _ => rfl
  | 53, _ => rfl
  | 54, _ => rfl
  | 55, _ => rfl
  | 56, _ => rfl
  | 57, _ => rfl
  | 58, _ => rfl
  | 59, _ => rfl
  | 60, _ => rfl
  | 61, _ => rfl
  | 62, _ => rfl
  | 63, _ => rfl
  | 64, _ => rfl
  | 65, _ => rfl
  | 66, _ => rfl
  | 67, _ => rfl
  | 68, _ => rfl
  | 69, _ => rfl
  | 70, _ => rfl
  | 71, _ => rfl
  | 72, _ => rfl
  | 73, _ => rfl
  | 74, _ => rfl
  | 75, _ => rfl
  | 76, _ => rfl
  | 77, _ => rfl
  | 78, _ => rfl
  | 79, _ => rfl
  | 80, _ => rfl
  | j + 81, _ => rfl
theorem ic_m8 : Int32.ofInt (-8) = (-8) := by decide
theorem ic_m1 : Int32.ofInt (-1) = (-1) := by decide
theorem ic_0 : Int32.ofInt 0 = 0 := by decide
theorem ic_1 : Int32.ofInt 1 = 1 := by decide
theorem ic_2 : Int32.ofInt 2 = 2 := by decide
theorem ic_3 : Int32.ofInt 3 = 3 := by decide
theorem ic_4 : Int32.ofInt 4 = 4 := by decide
theorem ic_5 : Int32.ofInt 5 = 5 := by decide
theorem bp_m2 : (Int8.ofInt (-2)).toInt32 = (-2) := by decide
theorem bp_6 : (Int8.ofInt 6).toInt32 = 6 := by decide
theorem bp_7 : (Int8.ofInt 7).toInt32 = 7 := by decide
theorem bp_8 : (Int8.ofInt 8).toInt32 = 8 := by decide
theorem bp_9 : (Int8.ofInt 9).toInt32 = 9 := by decide
theorem bp_10 : (Int8.ofInt 10).toInt32 = 10 := by decide
theorem bp_11 : (Int8.ofInt 11).toInt32 = 11 := by decide
theorem bp_12 : (Int8.ofInt 12).toInt32 = 12 := by decide
theorem bp_13 : (Int8.ofInt 13).toInt32 = 13 := by decide
theorem bp_14 : (Int8.ofInt 14).toInt32 = 14 := by decide
theorem bp_16 : (Int8.ofInt 16).toInt32 = 16 := by decide
theorem bp_18 : (Int8.ofInt 18).toInt32 = 18 := by decide
theorem bp_19 : (Int8.ofInt 19).toInt32 = 19 := by decide
theorem bp_20 : (Int8.ofInt 20).toInt32 = 20 := by decide
theorem bp_21 : (Int8.ofInt 21).toInt32 = 21 := by decide
theorem bp_22 : (Int8.ofInt 22).toInt32 = 22 := by decide
theorem bp_23 : (Int8.ofInt 23).toInt32 = 23 := by decide
theorem bp_24 : (Int8.ofInt 24).toInt32 = 24 := by decide
theorem bp_25 : (Int8.ofInt 25).toInt32 = 25 := by decide
theorem bp_26 : (Int8.ofInt 26).toInt32 = 26 := by decide
theorem bp_27 : (Int8.ofInt 27).toInt32 = 27 := by decide
theorem bp_28 : (Int8.ofInt 28).toInt32 = 28 := by decide
theorem bp_29 : (Int8.ofInt 29).toInt32 = 29 := by decide
theorem bp_30 : (Int8.ofInt 30).toInt32 = 30 := by decide
theorem bp_31 : (Int8.ofInt 31).toInt32 = 31 := by decide
theorem bp_32 : (Int8.ofInt 32).toInt32 = 32 := by decide
theorem bp_33 : (Int8.ofInt 33).toInt32 = 33 := by decide
theorem bp_34 : (Int8.ofInt 34).toInt32 = 34 := by decide
theorem bp_35 : (Int8.ofInt 35).toInt32 = 35 := by decide
theorem bp_36 : (Int8.ofInt 36).toInt32 = 36 := by decide
theorem bp_37 : (Int8.ofInt 37).toInt32 = 37 := by decide
theorem bp_40 : (Int8.ofInt 40).toInt32 = 40 := by decide
theorem bp_41 : (Int8.ofInt 41).toInt32 = 41 := by decide
theorem bp_42 : (Int8.ofInt 42).toInt32 = 42 := by decide
theorem bp_43 : (Int8.ofInt 43).toInt32 = 43 := by decide
theorem bp_45 : (Int8.ofInt 45).toInt32 = 45 := by decide
theorem bp_47 : (Int8.ofInt 47).toInt32 = 47 := by decide
theorem bp_48 : (Int8.ofInt 48).toInt32 = 48 := by decide
theorem bp_57 : (Int8.ofInt 57).toInt32 = 57 := by decide
theorem bp_59 : (Int8.ofInt 59).toInt32 = 59 := by decide
theorem bp_60 : (Int8.ofInt 60).toInt32 = 60 := by decide
theorem bp_61 : (Int8.ofInt 61).toInt32 = 61 := by decide
theorem bp_62 : (Int8.ofInt 62).toInt32 = 62 := by decide
theorem bp_63 : (Int8.ofInt 63).toInt32 = 63 := by decide
theorem bp_64 : (Int8.ofInt 64).toInt32 = 64 := by decide
theorem bp_96 : (Int8.ofInt 96).toInt32 = 96 := by decide
theorem bp_97 : (Int8.ofInt 97).toInt32 = 97 := by decide
theorem bp_99 : (Int8.ofInt 99).toInt32 = 99 := by decide
theorem bp_100 : (Int8.ofInt 100).toInt32 = 100 := by decide
theorem bp_122 : (Int8.ofInt 122).toInt32 = 122 := by decide
theorem sp_m999 : (Int16.ofInt (-999)).toInt32 = (-999) := by decide
theorem sp_152 : (Int16.ofInt 152).toInt32 = 152 := by decide
theorem sp_200 : (Int16.ofInt 200).toInt32 = 200 := by decide
theorem sp_255 : (Int16.ofInt 255).toInt32 = 255 := by decide
theorem sp_256 : (Int16.ofInt 256).toInt32 = 256 := by decide
theorem sp_700 : (Int16.ofInt 700).toInt32 = 700 := by decide
theorem sp_999 : (Int16.ofInt 999).toInt32 = 999 := by decide
theorem sp_9000 : (Int16.ofInt 9000).toInt32 = 9000 := by decide
theorem sp_9999 : (Int16.ofInt 9999).toInt32 = 9999 := by decide
theorem sp_10000 : (Int16.ofInt 10000).toInt32 = 10000 := by decide
theorem sp_12345 : (Int16.ofInt 12345).toInt32 = 12345 := by decide
theorem sp_20000 : (Int16.ofInt 20000).toInt32 = 20000 := by decide
theorem sp_20012 : (Int16.ofInt 20012).toInt32 = 20012 := by decide
theorem lk_J6_265 : Cond.constant RJ6 265 1431655765 ∈ UW := uw_in (tin_4 (List.mem_of_getElem? (i := 110) (by decide +kernel))) (by decide +kernel)
theorem lk_J6_266 : Cond.constant RJ6 266 858993459 ∈ UW := uw_in (tin_4 (List.mem_of_getElem? (i := 111) (by decide +kernel))) (by decide +kernel)
theorem lk_J6_267 : Cond.constant RJ6 267 252645135 ∈ UW := uw_in (tin_4 (List.mem_of_getElem? (i := 112) (by decide +kernel))) (by decide +kernel)
theorem lk_X1_131 : Cond.constantLong RX1 131 (-9223372036854775808) ∈ UW := uw_in (tin_4 (List.mem_of_getElem? (i := 207) (by decide +kernel))) (by decide +kernel)
theorem lk_X1_137 : Cond.constant RX1 137 99999 ∈ UW := uw_in (tin_4 (List.mem_of_getElem? (i := 217) (by decide +kernel))) (by decide +kernel)
theorem lk_X1_144 : Cond.constant RX1 144 (-99999) ∈ UW := uw_in (tin_4 (List.mem_of_getElem? (i := 219) (by decide +kernel))) (by decide +kernel)
theorem lk_X10_180 : Cond.constantLong RX10 180 (-9223372036854775808) ∈ UW := uw_in (tin_4 (List.mem_of_getElem? (i := 35) (by decide +kernel))) (by decide +kernel)
theorem lk_X10_220 : Cond.constant RX10 220 (-2147483648) ∈ UW := uw_in (tin_4 (List.mem_of_getElem? (i := 102) (by decide +kernel))) (by decide +kernel)
theorem lk_X10_274 : Cond.constant RX10 274 99999 ∈ UW := uw_in (tin_4 (List.mem_of_getElem? (i := 172) (by decide +kernel))) (by decide +kernel)
theorem lk_X10_350 : Cond.constantLong RX10 350 60 ∈ UW := uw_in (tin_5 (List.mem_of_getElem? (i := 98) (by decide +kernel))) (by decide +kernel)
theorem lk_X10_369 : Cond.constantLong RX10 369 (-1) ∈ UW := uw_in (tin_5 (List.mem_of_getElem? (i := 125) (by decide +kernel))) (by decide +kernel)
theorem lk_X11_189 : Cond.constant RX11 189 99999 ∈ UW := uw_in (tin_7 (List.mem_of_getElem? (i := 124) (by decide +kernel))) (by decide +kernel)
theorem lk_X11_339 : Cond.constantLong RX11 339 1000000000000 ∈ UW := uw_in (tin_8 (List.mem_of_getElem? (i := 51) (by decide +kernel))) (by decide +kernel)
theorem lk_X11_341 : Cond.constantLong RX11 341 (-1000000000000) ∈ UW := uw_in (tin_8 (List.mem_of_getElem? (i := 52) (by decide +kernel))) (by decide +kernel)
theorem lk_X11_396 : Cond.constantLong RX11 396 1103515245 ∈ UW := uw_in (tin_8 (List.mem_of_getElem? (i := 111) (by decide +kernel))) (by decide +kernel)
theorem lk_X11_398 : Cond.constantLong RX11 398 12345 ∈ UW := uw_in (tin_8 (List.mem_of_getElem? (i := 112) (by decide +kernel))) (by decide +kernel)
theorem lk_X11_400 : Cond.constantLong RX11 400 2147483647 ∈ UW := uw_in (tin_8 (List.mem_of_getElem? (i := 113) (by decide +kernel))) (by decide +kernel)
theorem lk_X11_402 : Cond.constantLong RX11 402 65536 ∈ UW := uw_in (tin_8 (List.mem_of_getElem? (i := 114) (by decide +kernel))) (by decide +kernel)
theorem lk_X11_426 : Cond.constant RX11 426 (-99999) ∈ UW := uw_in (tin_8 (List.mem_of_getElem? (i := 83) (by decide +kernel))) (by decide +kernel)
theorem lk_X11_455 : Cond.constantLong RX11 455 (-9223372036854775808) ∈ UW := uw_in (tin_8 (List.mem_of_getElem? (i := 26) (by decide +kernel))) (by decide +kernel)
theorem lk_X11_460 : Cond.constant RX11 460 (-2147483648) ∈ UW := uw_in (tin_8 (List.mem_of_getElem? (i := 131) (by decide +kernel))) (by decide +kernel)
theorem lk_X11_503 : Cond.constantLong RX11 503 60 ∈ UW := uw_in (tin_8 (List.mem_of_getElem? (i := 207) (by decide +kernel))) (by decide +kernel)
theorem lk_X11_509 : Cond.constantLong RX11 509 (-1) ∈ UW := uw_in (tin_8 (List.mem_of_getElem? (i := 218) (by decide +kernel))) (by decide +kernel)
theorem lk_X4_38 : Cond.constantLong RX4 38 (-9223372036854775808) ∈ UW := uw_in (tin_4 (List.mem_of_getElem? (i := 57) (by decide +kernel))) (by decide +kernel)
theorem lk_X4_62 : Cond.constantLong RX4 62 1000000000000 ∈ UW := uw_in (tin_4 (List.mem_of_getElem? (i := 70) (by decide +kernel))) (by decide +kernel)
theorem lk_X4_64 : Cond.constantLong RX4 64 (-1000000000000) ∈ UW := uw_in (tin_4 (List.mem_of_getElem? (i := 71) (by decide +kernel))) (by decide +kernel)
theorem lk_X6_165 : Cond.constant RX6 165 99999 ∈ UW := uw_in (tin_3 (List.mem_of_getElem? (i := 167) (by decide +kernel))) (by decide +kernel)
theorem lk_X7_68 : Cond.constant RX7 68 1000000 ∈ UW := uw_in (tin_3 (List.mem_of_getElem? (i := 94) (by decide +kernel))) (by decide +kernel)
theorem lk_X8_60 : Cond.constant RX8 60 1103515245 ∈ UW := uw_in (tin_4 (List.mem_of_getElem? (i := 191) (by decide +kernel))) (by decide +kernel)
theorem lk_X8_63 : Cond.constant RX8 63 2147483647 ∈ UW := uw_in (tin_4 (List.mem_of_getElem? (i := 192) (by decide +kernel))) (by decide +kernel)
theorem lk_X8_64 : Cond.constant RX8 64 65536 ∈ UW := uw_in (tin_4 (List.mem_of_getElem? (i := 193) (by decide +kernel))) (by decide +kernel)
theorem fr_X0_9 : FR RX0 9 0 0 := ⟨FL.of rfl (by decide) (uw_in (tin_1 (List.mem_of_getElem? (i := 80) (by decide +kernel))) (by decide +kernel)), rfl⟩
theorem fr_X0_15 : FR RX0 15 0 1 := ⟨FL.of rfl (by decide) (uw_in (tin_1 (List.mem_of_getElem? (i := 82) (by decide +kernel))) (by decide +kernel)), rfl⟩
theorem fr_X0_18 : FR RX0 18 0 2 := ⟨FL.of rfl (by decide) (uw_in (tin_1 (List.mem_of_getElem? (i := 86) (by decide +kernel))) (by decide +kernel)), rfl⟩
theorem fr_X0_21 : FR RX0 21 0 3 := ⟨FL.of rfl (by decide) (uw_in (tin_1 (List.mem_of_getElem? (i := 90) (by decide +kernel))) (by decide +kernel)), rfl⟩
theorem fr_X0_27 : FR RX0 27 0 5 := ⟨FL.of rfl (by decide) (uw_in (tin_1 (List.mem_of_getElem? (i := 95) (by decide +kernel))) (by decide +kernel)), rfl⟩
theorem fr_X0_39 : FR RX0 39 0 9 := ⟨FL.of rfl (by decide) (uw_in (tin_1 (List.mem_of_getElem? (i := 108) (by decide +kernel))) (by decide +kernel)), rfl⟩
theorem fr_X0_45 : FR RX0 45 0 10 := ⟨FL.of rfl (by decide) (uw_in (tin_1 (List.mem_of_getElem? (i := 110) (by decide +kernel))) (by decide +kernel)), rfl⟩
theorem fr_X0_55 : FI RX0 55 0 11 := ⟨FL.of rfl (by decide) (uw_in (tin_1 (List.mem_of_getElem? (i := 114) (by decide +kernel))) (by decide +kernel)), rfl⟩
theorem fr_X0_59 : FI RX0 59 0 12 := ⟨FL.of rfl (by decide) (uw_in (tin_1 (List.mem_of_getElem? (i := 118) (by decide +kernel))) (by decide +kernel)), rfl⟩
theorem fr_X0_62 : FI RX0 62 0 13 := ⟨FL.of rfl (by decide) (uw_in (tin_1 (List.mem_of_getElem? (i := 123) (by decide +kernel))) (by decide +kernel)), rfl⟩
theorem fr_X0_65 : FI RX0 65 0 14 := ⟨FL.of rfl (by decide) (uw_in (tin_1 (List.mem_of_getElem? (i := 127) (by decide +kernel))) (by decide +kernel)), rfl⟩
theorem fr_X0_68 : FI RX0 68 0 15 := ⟨FL.of rfl (by decide) (uw_in (tin_1 (List.mem_of_getElem? (i := 129) (by decide +kernel))) (by decide +kernel)), rfl⟩
theorem fr_X0_71 : FI RX0 71 0 16 := ⟨FL.of rfl (by decide) (uw_in (tin_1 (List.mem_of_getElem? (i := 131) (by decide +kernel))) (by decide +kernel)), rfl⟩
theorem fr_X0_75 : FI RX0 75 0 17 := ⟨FL.of rfl (by decide) (uw_in (tin_1 (List.mem_of_getElem? (i := 134) (by decide +kernel))) (by decide +kernel)), rfl⟩
theorem fr_X0_78 : FI RX0 78 0 18 := ⟨FL.of rfl (by decide) (uw_in (tin_1 (List.mem_of_getElem? (i := 136) (by decide +kernel))) (by decide +kernel)), rfl⟩
theorem fr_X0_81 : FI RX0 81 0 19 := ⟨FL.of rfl (by decide) (uw_in (tin_1 (List.mem_of_getElem? (i := 138) (by decide +kernel))) (by decide +kernel)), rfl⟩
theorem fr_X1_9 : FR RX1 9 1 0 := ⟨FL.of rfl (by decide) (uw_in (tin_2 (List.mem_of_getElem? (i := 129) (by decide +kernel))) (by decide +kernel)), rfl⟩
theorem fr_X1_15 : FI RX1 15 1 1 := ⟨FL.of rfl (by decide) (uw_in (tin_2 (List.mem_of_getElem? (i := 131) (by decide +kernel))) (by decide +kernel)), rfl⟩
theorem fr_X1_19 : FI RX1 19 1 2 := ⟨FL.of rfl (by decide) (uw_in (tin_2 (List.mem_of_getElem? (i := 133) (by decide +kernel))) (by decide +kernel)), rfl⟩
theorem fr_X1_22 : FI RX1 22 1 3 := ⟨FL.of rfl (by decide) (uw_in (tin_2 (List.mem_of_getElem? (i := 135) (by decide +kernel))) (by decide +kernel)), rfl⟩
theorem fr_X1_25 : FI RX1 25 1 4 := ⟨FL.of rfl (by decide) (uw_in (tin_2 (List.mem_of_getElem? (i := 137) (by decide +kernel))) (by decide +kernel)), rfl⟩
theorem fr_X1_32 : FI RX1 32 8 7 := ⟨FL.of rfl (by decide) (uw_in (tin_2 (List.mem_of_getElem? (i := 88) (by decide +kernel))) (by decide +kernel)), rfl⟩
theorem fr_X1_38 : FR RX1 38 8 6 := ⟨FL.of rfl (by decide) (uw_in (tin_2 (List.mem_of_getElem? (i := 85) (by decide +kernel))) (by decide +kernel)), rfl⟩
theorem fr_X1_42 : FI RX1 42 0 12 := ⟨FL.of rfl (by decide) (uw_in (tin_1 (List.mem_of_getElem? (i := 120) (by decide +kernel))) (by decide +kernel)), rfl⟩
theorem fr_X1_51 : FR RX1 51 8 4 := ⟨FL.of rfl (by decide) (uw_in (tin_2 (List.mem_of_getElem? (i := 78) (by decide +kernel))) (by decide +kernel)), rfl⟩
theorem fr_X1_55 : FR RX1 55 8 5 := ⟨FL.of rfl (by decide) (uw_in (tin_2 (List.mem_of_getElem? (i := 81) (by decide +kernel))) (by decide +kernel)), rfl⟩
theorem fr_X1_62 : FI RX1 62 8 8 := ⟨FL.of rfl (by decide) (uw_in (tin_2 (List.mem_of_getElem? (i := 91) (by decide +kernel))) (by decide +kernel)), rfl⟩
theorem fr_X1_73 : FI RX1 73 8 9 := ⟨FL.of rfl (by decide) (uw_in (tin_2 (List.mem_of_getElem? (i := 94) (by decide +kernel))) (by decide +kernel)), rfl⟩
theorem fr_X1_79 : FI RX1 79 0 18 := ⟨FL.of rfl (by decide) (uw_in (tin_1 (List.mem_of_getElem? (i := 137) (by decide +kernel))) (by decide +kernel)), rfl⟩
theorem fr_X1_82 : FI RX1 82 0 19 := ⟨FL.of rfl (by decide) (uw_in (tin_1 (List.mem_of_getElem? (i := 139) (by decide +kernel))) (by decide +kernel)), rfl⟩
theorem fr_X1_92 : FR RX1 92 0 1 := ⟨FL.of rfl (by decide) (uw_in (tin_1 (List.mem_of_getElem? (i := 83) (by decide +kernel))) (by decide +kernel)), rfl⟩
theorem fr_X1_95 : FR RX1 95 0 5 := ⟨FL.of rfl (by decide) (uw_in (tin_1 (List.mem_of_getElem? (i := 96) (by decide +kernel))) (by decide +kernel)), rfl⟩
theorem fr_X1_103 : FR RX1 103 8 0 := ⟨FL.of rfl (by decide) (uw_in (tin_2 (List.mem_of_getElem? (i := 67) (by decide +kernel))) (by decide +kernel)), rfl⟩
theorem fr_X1_106 : FR RX1 106 8 1 := ⟨FL.of rfl (by decide) (uw_in (tin_2 (List.mem_of_getElem? (i := 70) (by decide +kernel))) (by decide +kernel)), rfl⟩
theorem fr_X1_109 : FR RX1 109 8 2 := ⟨FL.of rfl (by decide) (uw_in (tin_2 (List.mem_of_getElem? (i := 73) (by decide +kernel))) (by decide +kernel)), rfl⟩
theorem fr_X1_112 : FR RX1 112 0 2 := ⟨FL.of rfl (by decide) (uw_in (tin_1 (List.mem_of_getElem? (i := 88) (by decide +kernel))) (by decide +kernel)), rfl⟩
theorem fr_X1_118 : FR RX1 118 0 10 := ⟨FL.of rfl (by decide) (uw_in (tin_1 (List.mem_of_getElem? (i := 111) (by decide +kernel))) (by decide +kernel)), rfl⟩
theorem fr_X1_128 : FR RX1 128 8 3 := ⟨FL.of rfl (by decide) (uw_in (tin_2 (List.mem_of_getElem? (i := 76) (by decide +kernel))) (by decide +kernel)), rfl⟩
theorem fr_X1_151 : FR RX1 151 0 6 := ⟨FL.of rfl (by decide) (uw_in (tin_1 (List.mem_of_getElem? (i := 101) (by decide +kernel))) (by decide +kernel)), rfl⟩
theorem fr_X10_11 : FR RX10 11 10 0 := ⟨FL.of rfl (by decide) (uw_in (tin_3 (List.mem_of_getElem? (i := 8) (by decide +kernel))) (by decide +kernel)), rfl⟩
theorem fr_X10_18 : FR RX10 18 10 2 := ⟨FL.of rfl (by decide) (uw_in (tin_3 (List.mem_of_getElem? (i := 10) (by decide +kernel))) (by decide +kernel)), rfl⟩
theorem fr_X10_22 : FR RX10 22 10 3 := ⟨FL.of rfl (by decide) (uw_in (tin_3 (List.mem_of_getElem? (i := 11) (by decide +kernel))) (by decide +kernel)), rfl⟩
theorem fr_X10_30 : FR RX10 30 10 4 := ⟨FL.of rfl (by decide) (uw_in (tin_3 (List.mem_of_getElem? (i := 12) (by decide +kernel))) (by decide +kernel)), rfl⟩
theorem fr_X10_37 : FR RX10 37 10 5 := ⟨FL.of rfl (by decide) (uw_in (tin_3 (List.mem_of_getElem? (i := 13) (by decide +kernel))) (by decide +kernel)), rfl⟩
theorem fr_X10_41 : FR RX10 41 10 6 := ⟨FL.of rfl (by decide) (uw_in (tin_3 (List.mem_of_getElem? (i := 14) (by decide +kernel))) (by decide +kernel)), rfl⟩
theorem fr_X10_44 : FR RX10 44 10 7 := ⟨FL.of rfl (by decide) (uw_in (tin_3 (List.mem_of_getElem? (i := 15) (by decide +kernel))) (by decide +kernel)), rfl⟩
theorem fr_X10_50 : FR RX10 50 10 9 := ⟨FL.of rfl (by decide) (uw_in (tin_3 (List.mem_of_getElem? (i := 17) (by decide +kernel))) (by decide +kernel)), rfl⟩
theorem fr_X10_57 : FR RX10 57 10 10 := ⟨FL.of rfl (by decide) (uw_in (tin_3 (List.mem_of_getElem? (i := 18) (by decide +kernel))) (by decide +kernel)), rfl⟩
theorem fr_X10_64 : FR RX10 64 10 11 := ⟨FL.of rfl (by decide) (uw_in (tin_3 (List.mem_of_getElem? (i := 19) (by decide +kernel))) (by decide +kernel)), rfl⟩
theorem fr_X10_71 : FR RX10 71 10 12 := ⟨FL.of rfl (by decide) (uw_in (tin_3 (List.mem_of_getElem? (i := 20) (by decide +kernel))) (by decide +kernel)), rfl⟩
theorem fr_X10_78 : FR RX10 78 10 13 := ⟨FL.of rfl (by decide) (uw_in (tin_3 (List.mem_of_getElem? (i := 21) (by decide +kernel))) (by decide +kernel)), rfl⟩
theorem fr_X10_86 : FI RX10 86 10 1 := ⟨FL.of rfl (by decide) (uw_in (tin_3 (List.mem_of_getElem? (i := 9) (by decide +kernel))) (by decide +kernel)), rfl⟩
theorem fr_X10_102 : FI RX10 102 10 8 := ⟨FL.of rfl (by decide) (uw_in (tin_3 (List.mem_of_getElem? (i := 16) (by decide +kernel))) (by decide +kernel)), rfl⟩
theorem fr_X10_106 : FI RX10 106 6 4 := ⟨FL.of rfl (by decide) (uw_in (tin_2 (List.mem_of_getElem? (i := 35) (by decide +kernel))) (by decide +kernel)), rfl⟩
theorem fr_X10_109 : FI RX10 109 6 5 := ⟨FL.of rfl (by decide) (uw_in (tin_2 (List.mem_of_getElem? (i := 37) (by decide +kernel))) (by decide +kernel)), rfl⟩
theorem fr_X10_112 : FI RX10 112 6 6 := ⟨FL.of rfl (by decide) (uw_in (tin_2 (List.mem_of_getElem? (i := 39) (by decide +kernel))) (by decide +kernel)), rfl⟩
theorem fr_X10_133 : FR RX10 133 8 0 := ⟨FL.of rfl (by decide) (uw_in (tin_2 (List.mem_of_getElem? (i := 66) (by decide +kernel))) (by decide +kernel)), rfl⟩
theorem fr_X10_137 : FR RX10 137 8 1 := ⟨FL.of rfl (by decide) (uw_in (tin_2 (List.mem_of_getElem? (i := 69) (by decide +kernel))) (by decide +kernel)), rfl⟩
theorem fr_X10_140 : FR RX10 140 8 2 := ⟨FL.of rfl (by decide) (uw_in (tin_2 (List.mem_of_getElem? (i := 72) (by decide +kernel))) (by decide +kernel)), rfl⟩
theorem fr_X10_143 : FR RX10 143 0 5 := ⟨FL.of rfl (by decide) (uw_in (tin_1 (List.mem_of_getElem? (i := 97) (by decide +kernel))) (by decide +kernel)), rfl⟩
theorem fr_X10_146 : FR RX10 146 8 3 := ⟨FL.of rfl (by decide) (uw_in (tin_2 (List.mem_of_getElem? (i := 75) (by decide +kernel))) (by decide +kernel)), rfl⟩
theorem fr_X10_149 : FR RX10 149 8 4 := ⟨FL.of rfl (by decide) (uw_in (tin_2 (List.mem_of_getElem? (i := 79) (by decide +kernel))) (by decide +kernel)), rfl⟩
theorem fr_X10_153 : FR RX10 153 8 5 := ⟨FL.of rfl (by decide) (uw_in (tin_2 (List.mem_of_getElem? (i := 82) (by decide +kernel))) (by decide +kernel)), rfl⟩
theorem fr_X10_164 : FR RX10 164 0 1 := ⟨FL.of rfl (by decide) (uw_in (tin_1 (List.mem_of_getElem? (i := 84) (by decide +kernel))) (by decide +kernel)), rfl⟩
theorem fr_X10_167 : FR RX10 167 0 2 := ⟨FL.of rfl (by decide) (uw_in (tin_1 (List.mem_of_getElem? (i := 87) (by decide +kernel))) (by decide +kernel)), rfl⟩
theorem fr_X10_170 : FR RX10 170 8 6 := ⟨FL.of rfl (by decide) (uw_in (tin_2 (List.mem_of_getElem? (i := 86) (by decide +kernel))) (by decide +kernel)), rfl⟩
theorem fr_X10_189 : FR RX10 189 0 10 := ⟨FL.of rfl (by decide) (uw_in (tin_1 (List.mem_of_getElem? (i := 112) (by decide +kernel))) (by decide +kernel)), rfl⟩
theorem fr_X10_193 : FR RX10 193 1 0 := ⟨FL.of rfl (by decide) (uw_in (tin_2 (List.mem_of_getElem? (i := 130) (by decide +kernel))) (by decide +kernel)), rfl⟩
theorem fr_X10_203 : FI RX10 203 0 12 := ⟨FL.of rfl (by decide) (uw_in (tin_1 (List.mem_of_getElem? (i := 122) (by decide +kernel))) (by decide +kernel)), rfl⟩
theorem fr_X10_209 : FI RX10 209 0 11 := ⟨FL.of rfl (by decide) (uw_in (tin_1 (List.mem_of_getElem? (i := 117) (by decide +kernel))) (by decide +kernel)), rfl⟩
theorem fr_X10_231 : FI RX10 231 8 8 := ⟨FL.of rfl (by decide) (uw_in (tin_2 (List.mem_of_getElem? (i := 92) (by decide +kernel))) (by decide +kernel)), rfl⟩
theorem fr_X10_237 : FI RX10 237 0 13 := ⟨FL.of rfl (by decide) (uw_in (tin_1 (List.mem_of_getElem? (i := 126) (by decide +kernel))) (by decide +kernel)), rfl⟩
theorem fr_X10_240 : FI RX10 240 4 4 := ⟨FL.of rfl (by decide) (uw_in (tin_1 (List.mem_of_getElem? (i := 50) (by decide +kernel))) (by decide +kernel)), rfl⟩
theorem fr_X10_251 : FI RX10 251 8 7 := ⟨FL.of rfl (by decide) (uw_in (tin_2 (List.mem_of_getElem? (i := 89) (by decide +kernel))) (by decide +kernel)), rfl⟩
theorem fr_X10_254 : FI RX10 254 2 5 := ⟨FL.of rfl (by decide) (uw_in (tin_2 (List.mem_of_getElem? (i := 188) (by decide +kernel))) (by decide +kernel)), rfl⟩
theorem fr_X10_260 : FI RX10 260 9 5 := ⟨FL.of rfl (by decide) (uw_in (tin_2 (List.mem_of_getElem? (i := 162) (by decide +kernel))) (by decide +kernel)), rfl⟩
theorem fr_X10_264 : FI RX10 264 8 9 := ⟨FL.of rfl (by decide) (uw_in (tin_2 (List.mem_of_getElem? (i := 96) (by decide +kernel))) (by decide +kernel)), rfl⟩
theorem fr_X10_281 : FI RX10 281 1 1 := ⟨FL.of rfl (by decide) (uw_in (tin_2 (List.mem_of_getElem? (i := 132) (by decide +kernel))) (by decide +kernel)), rfl⟩
theorem fr_X10_312 : FR RX10 312 5 0 := ⟨FL.of rfl (by decide) (uw_in (tin_2 (List.mem_of_getElem? (i := 213) (by decide +kernel))) (by decide +kernel)), rfl⟩
theorem fr_X10_318 : FI RX10 318 5 2 := ⟨FL.of rfl (by decide) (uw_in (tin_2 (List.mem_of_getElem? (i := 217) (by decide +kernel))) (by decide +kernel)), rfl⟩
theorem fr_X10_321 : FI RX10 321 5 3 := ⟨FL.of rfl (by decide) (uw_in (tin_2 (List.mem_of_getElem? (i := 219) (by decide +kernel))) (by decide +kernel)), rfl⟩
theorem fr_X10_324 : FR RX10 324 5 1 := ⟨FL.of rfl (by decide) (uw_in (tin_2 (List.mem_of_getElem? (i := 215) (by decide +kernel))) (by decide +kernel)), rfl⟩
theorem fr_X10_334 : FI RX10 334 8 10 := ⟨FL.of rfl (by decide) (uw_in (tin_2 (List.mem_of_getElem? (i := 98) (by decide +kernel))) (by decide +kernel)), rfl⟩
theorem fr_X10_337 : FI RX10 337 1 2 := ⟨FL.of rfl (by decide) (uw_in (tin_2 (List.mem_of_getElem? (i := 134) (by decide +kernel))) (by decide +kernel)), rfl⟩
theorem fr_X10_340 : FI RX10 340 1 3 := ⟨FL.of rfl (by decide) (uw_in (tin_2 (List.mem_of_getElem? (i := 136) (by decide +kernel))) (by decide +kernel)), rfl⟩
theorem fr_X10_343 : FI RX10 343 1 4 := ⟨FL.of rfl (by decide) (uw_in (tin_2 (List.mem_of_getElem? (i := 138) (by decide +kernel))) (by decide +kernel)), rfl⟩
theorem fr_X10_371 : FI RX10 371 0 17 := ⟨FL.of rfl (by decide) (uw_in (tin_1 (List.mem_of_getElem? (i := 135) (by decide +kernel))) (by decide +kernel)), rfl⟩
theorem fr_X10_378 : FJ RX10 378 3 1 := ⟨FL.of rfl (by decide) (uw_in (tin_2 (List.mem_of_getElem? (i := 238) (by decide +kernel))) (by decide +kernel)), rfl⟩
theorem fr_X10_382 : FJ RX10 382 3 0 := ⟨FL.of rfl (by decide) (uw_in (tin_2 (List.mem_of_getElem? (i := 236) (by decide +kernel))) (by decide +kernel)), rfl⟩
theorem fr_X10_416 : FI RX10 416 2 6 := ⟨FL.of rfl (by decide) (uw_in (tin_2 (List.mem_of_getElem? (i := 190) (by decide +kernel))) (by decide +kernel)), rfl⟩
theorem fr_X11_7 : FR RX11 7 11 0 := ⟨FL.of rfl (by decide) (uw_in (tin_6 (List.mem_of_getElem? (i := 91) (by decide +kernel))) (by decide +kernel)), rfl⟩
theorem fr_X11_13 : FR RX11 13 11 3 := ⟨FL.of rfl (by decide) (uw_in (tin_6 (List.mem_of_getElem? (i := 94) (by decide +kernel))) (by decide +kernel)), rfl⟩
theorem fr_X11_16 : FI RX11 16 11 5 := ⟨FL.of rfl (by decide) (uw_in (tin_6 (List.mem_of_getElem? (i := 96) (by decide +kernel))) (by decide +kernel)), rfl⟩
theorem fr_X11_20 : FR RX11 20 11 22 := ⟨FL.of rfl (by decide) (uw_in (tin_6 (List.mem_of_getElem? (i := 113) (by decide +kernel))) (by decide +kernel)), rfl⟩
theorem fr_X11_24 : FR RX11 24 11 23 := ⟨FL.of rfl (by decide) (uw_in (tin_6 (List.mem_of_getElem? (i := 114) (by decide +kernel))) (by decide +kernel)), rfl⟩
theorem fr_X11_27 : FR RX11 27 11 24 := ⟨FL.of rfl (by decide) (uw_in (tin_6 (List.mem_of_getElem? (i := 115) (by decide +kernel))) (by decide +kernel)), rfl⟩
theorem fr_X11_30 : FR RX11 30 11 25 := ⟨FL.of rfl (by decide) (uw_in (tin_6 (List.mem_of_getElem? (i := 116) (by decide +kernel))) (by decide +kernel)), rfl⟩
theorem fr_X11_33 : FR RX11 33 11 26 := ⟨FL.of rfl (by decide) (uw_in (tin_6 (List.mem_of_getElem? (i := 117) (by decide +kernel))) (by decide +kernel)), rfl⟩
theorem fr_X11_36 : FR RX11 36 11 27 := ⟨FL.of rfl (by decide) (uw_in (tin_6 (List.mem_of_getElem? (i := 118) (by decide +kernel))) (by decide +kernel)), rfl⟩
theorem fr_X11_39 : FR RX11 39 11 28 := ⟨FL.of rfl (by decide) (uw_in (tin_6 (List.mem_of_getElem? (i := 119) (by decide +kernel))) (by decide +kernel)), rfl⟩
theorem fr_X11_42 : FR RX11 42 11 29 := ⟨FL.of rfl (by decide) (uw_in (tin_6 (List.mem_of_getElem? (i := 120) (by decide +kernel))) (by decide +kernel)), rfl⟩
theorem fr_X11_45 : FR RX11 45 11 30 := ⟨FL.of rfl (by decide) (uw_in (tin_6 (List.mem_of_getElem? (i := 121) (by decide +kernel))) (by decide +kernel)), rfl⟩
theorem fr_X11_48 : FR RX11 48 11 31 := ⟨FL.of rfl (by decide) (uw_in (tin_6 (List.mem_of_getElem? (i := 122) (by decide +kernel))) (by decide +kernel)), rfl⟩
theorem fr_X11_51 : FR RX11 51 11 32 := ⟨FL.of rfl (by decide) (uw_in (tin_6 (List.mem_of_getElem? (i := 123) (by decide +kernel))) (by decide +kernel)), rfl⟩
theorem fr_X11_54 : FR RX11 54 11 33 := ⟨FL.of rfl (by decide) (uw_in (tin_6 (List.mem_of_getElem? (i := 124) (by decide +kernel))) (by decide +kernel)), rfl⟩
theorem fr_X11_57 : FR RX11 57 11 34 := ⟨FL.of rfl (by decide) (uw_in (tin_6 (List.mem_of_getElem? (i := 125) (by decide +kernel))) (by decide +kernel)), rfl⟩
theorem fr_X11_60 : FR RX11 60 11 35 := ⟨FL.of rfl (by decide) (uw_in (tin_6 (List.mem_of_getElem? (i := 126) (by decide +kernel))) (by decide +kernel)), rfl⟩
theorem fr_X11_63 : FR RX11 63 11 36 := ⟨FL.of rfl (by decide) (uw_in (tin_6 (List.mem_of_getElem? (i := 127) (by decide +kernel))) (by decide +kernel)), rfl⟩
theorem fr_X11_66 : FR RX11 66 11 37 := ⟨FL.of rfl (by decide) (uw_in (tin_6 (List.mem_of_getElem? (i := 128) (by decide +kernel))) (by decide +kernel)), rfl⟩
theorem fr_X11_69 : FR RX11 69 11 38 := ⟨FL.of rfl (by decide) (uw_in (tin_6 (List.mem_of_getElem? (i := 129) (by decide +kernel))) (by decide +kernel)), rfl⟩
theorem fr_X11_72 : FR RX11 72 11 39 := ⟨FL.of rfl (by decide) (uw_in (tin_6 (List.mem_of_getElem? (i := 130) (by decide +kernel))) (by decide +kernel)), rfl⟩
theorem fr_X11_75 : FR RX11 75 11 40 := ⟨FL.of rfl (by decide) (uw_in (tin_6 (List.mem_of_getElem? (i := 131) (by decide +kernel))) (by decide +kernel)), rfl⟩
theorem fr_X11_78 : FR RX11 78 11 41 := ⟨FL.of rfl (by decide) (uw_in (tin_6 (List.mem_of_getElem? (i := 132) (by decide +kernel))) (by decide +kernel)), rfl⟩
theorem fr_X11_81 : FR RX11 81 11 42 := ⟨FL.of rfl (by decide) (uw_in (tin_6 (List.mem_of_getElem? (i := 133) (by decide +kernel))) (by decide +kernel)), rfl⟩
theorem fr_X11_84 : FR RX11 84 11 49 := ⟨FL.of rfl (by decide) (uw_in (tin_6 (List.mem_of_getElem? (i := 140) (by decide +kernel))) (by decide +kernel)), rfl⟩
theorem fr_X11_88 : FR RX11 88 11 50 := ⟨FL.of rfl (by decide) (uw_in (tin_6 (List.mem_of_getElem? (i := 141) (by decide +kernel))) (by decide +kernel)), rfl⟩
theorem fr_X11_91 : FR RX11 91 11 52 := ⟨FL.of rfl (by decide) (uw_in (tin_6 (List.mem_of_getElem? (i := 143) (by decide +kernel))) (by decide +kernel)), rfl⟩
theorem fr_X11_94 : FR RX11 94 11 53 := ⟨FL.of rfl (by decide) (uw_in (tin_6 (List.mem_of_getElem? (i := 144) (by decide +kernel))) (by decide +kernel)), rfl⟩
theorem fr_X11_97 : FR RX11 97 11 54 := ⟨FL.of rfl (by decide) (uw_in (tin_6 (List.mem_of_getElem? (i := 145) (by decide +kernel))) (by decide +kernel)), rfl⟩
theorem fr_X11_100 : FR RX11 100 11 55 := ⟨FL.of rfl (by decide) (uw_in (tin_6 (List.mem_of_getElem? (i := 146) (by decide +kernel))) (by decide +kernel)), rfl⟩
theorem fr_X11_103 : FR RX11 103 11 56 := ⟨FL.of rfl (by decide) (uw_in (tin_6 (List.mem_of_getElem? (i := 147) (by decide +kernel))) (by decide +kernel)), rfl⟩
theorem fr_X11_106 : FR RX11 106 11 57 := ⟨FL.of rfl (by decide) (uw_in (tin_6 (List.mem_of_getElem? (i := 148) (by decide +kernel))) (by decide +kernel)), rfl⟩
theorem fr_X11_109 : FR RX11 109 11 58 := ⟨FL.of rfl (by decide) (uw_in (tin_6 (List.mem_of_getElem? (i := 149) (by decide +kernel))) (by decide +kernel)), rfl⟩
theorem fr_X11_112 : FR RX11 112 11 59 := ⟨FL.of rfl (by decide) (uw_in (tin_6 (List.mem_of_getElem? (i := 150) (by decide +kernel))) (by decide +kernel)), rfl⟩
theorem fr_X11_115 : FR RX11 115 11 60 := ⟨FL.of rfl (by decide) (uw_in (tin_6 (List.mem_of_getElem? (i := 151) (by decide +kernel))) (by decide +kernel)), rfl⟩
theorem fr_X11_118 : FR RX11 118 11 61 := ⟨FL.of rfl (by decide) (uw_in (tin_6 (List.mem_of_getElem? (i := 152) (by decide +kernel))) (by decide +kernel)), rfl⟩
theorem fr_X11_121 : FR RX11 121 11 67 := ⟨FL.of rfl (by decide) (uw_in (tin_6 (List.mem_of_getElem? (i := 158) (by decide +kernel))) (by decide +kernel)), rfl⟩
theorem fr_X11_124 : FR RX11 124 11 68 := ⟨FL.of rfl (by decide) (uw_in (tin_6 (List.mem_of_getElem? (i := 159) (by decide +kernel))) (by decide +kernel)), rfl⟩
theorem fr_X11_127 : FI RX11 127 11 71 := ⟨FL.of rfl (by decide) (uw_in (tin_6 (List.mem_of_getElem? (i := 162) (by decide +kernel))) (by decide +kernel)), rfl⟩
theorem fr_X11_130 : FR RX11 130 11 72 := ⟨FL.of rfl (by decide) (uw_in (tin_6 (List.mem_of_getElem? (i := 163) (by decide +kernel))) (by decide +kernel)), rfl⟩
theorem fr_X11_133 : FR RX11 133 11 73 := ⟨FL.of rfl (by decide) (uw_in (tin_6 (List.mem_of_getElem? (i := 164) (by decide +kernel))) (by decide +kernel)), rfl⟩
theorem fr_X11_136 : FR RX11 136 11 75 := ⟨FL.of rfl (by decide) (uw_in (tin_6 (List.mem_of_getElem? (i := 166) (by decide +kernel))) (by decide +kernel)), rfl⟩
theorem fr_X11_139 : FR RX11 139 11 77 := ⟨FL.of rfl (by decide) (uw_in (tin_6 (List.mem_of_getElem? (i := 168) (by decide +kernel))) (by decide +kernel)), rfl⟩
theorem fr_X11_142 : FR RX11 142 11 78 := ⟨FL.of rfl (by decide) (uw_in (tin_6 (List.mem_of_getElem? (i := 169) (by decide +kernel))) (by decide +kernel)), rfl⟩
theorem fr_X11_151 : FI RX11 151 11 2 := ⟨FL.of rfl (by decide) (uw_in (tin_6 (List.mem_of_getElem? (i := 93) (by decide +kernel))) (by decide +kernel)), rfl⟩
theorem fr_X11_154 : FI RX11 154 11 1 := ⟨FL.of rfl (by decide) (uw_in (tin_6 (List.mem_of_getElem? (i := 92) (by decide +kernel))) (by decide +kernel)), rfl⟩
theorem fr_X11_157 : FI RX11 157 11 4 := ⟨FL.of rfl (by decide) (uw_in (tin_6 (List.mem_of_getElem? (i := 95) (by decide +kernel))) (by decide +kernel)), rfl⟩
theorem fr_X11_160 : FI RX11 160 11 10 := ⟨FL.of rfl (by decide) (uw_in (tin_6 (List.mem_of_getElem? (i := 101) (by decide +kernel))) (by decide +kernel)), rfl⟩
theorem fr_X11_163 : FI RX11 163 11 6 := ⟨FL.of rfl (by decide) (uw_in (tin_6 (List.mem_of_getElem? (i := 97) (by decide +kernel))) (by decide +kernel)), rfl⟩
theorem fr_X11_166 : FI RX11 166 11 7 := ⟨FL.of rfl (by decide) (uw_in (tin_6 (List.mem_of_getElem? (i := 98) (by decide +kernel))) (by decide +kernel)), rfl⟩
theorem fr_X11_169 : FI RX11 169 11 8 := ⟨FL.of rfl (by decide) (uw_in (tin_6 (List.mem_of_getElem? (i := 99) (by decide +kernel))) (by decide +kernel)), rfl⟩
theorem fr_X11_180 : FI RX11 180 11 9 := ⟨FL.of rfl (by decide) (uw_in (tin_6 (List.mem_of_getElem? (i := 100) (by decide +kernel))) (by decide +kernel)), rfl⟩
theorem fr_X11_200 : FI RX11 200 11 11 := ⟨FL.of rfl (by decide) (uw_in (tin_6 (List.mem_of_getElem? (i := 102) (by decide +kernel))) (by decide +kernel)), rfl⟩
theorem fr_X11_213 : FI RX11 213 11 17 := ⟨FL.of rfl (by decide) (uw_in (tin_6 (List.mem_of_getElem? (i := 108) (by decide +kernel))) (by decide +kernel)), rfl⟩
theorem fr_X11_216 : FI RX11 216 11 18 := ⟨FL.of rfl (by decide) (uw_in (tin_6 (List.mem_of_getElem? (i := 109) (by decide +kernel))) (by decide +kernel)), rfl⟩
theorem fr_X11_219 : FI RX11 219 11 19 := ⟨FL.of rfl (by decide) (uw_in (tin_6 (List.mem_of_getElem? (i := 110) (by decide +kernel))) (by decide +kernel)), rfl⟩
theorem fr_X11_222 : FI RX11 222 11 20 := ⟨FL.of rfl (by decide) (uw_in (tin_6 (List.mem_of_getElem? (i := 111) (by decide +kernel))) (by decide +kernel)), rfl⟩
theorem fr_X11_225 : FI RX11 225 11 21 := ⟨FL.of rfl (by decide) (uw_in (tin_6 (List.mem_of_getElem? (i := 112) (by decide +kernel))) (by decide +kernel)), rfl⟩
theorem fr_X11_228 : FI RX11 228 11 46 := ⟨FL.of rfl (by decide) (uw_in (tin_6 (List.mem_of_getElem? (i := 137) (by decide +kernel))) (by decide +kernel)), rfl⟩
theorem fr_X11_231 : FI RX11 231 11 12 := ⟨FL.of rfl (by decide) (uw_in (tin_6 (List.mem_of_getElem? (i := 103) (by decide +kernel))) (by decide +kernel)), rfl⟩
theorem fr_X11_234 : FI RX11 234 11 13 := ⟨FL.of rfl (by decide) (uw_in (tin_6 (List.mem_of_getElem? (i := 104) (by decide +kernel))) (by decide +kernel)), rfl⟩
theorem fr_X11_237 : FI RX11 237 11 14 := ⟨FL.of rfl (by decide) (uw_in (tin_6 (List.mem_of_getElem? (i := 105) (by decide +kernel))) (by decide +kernel)), rfl⟩
theorem fr_X11_240 : FI RX11 240 11 15 := ⟨FL.of rfl (by decide) (uw_in (tin_6 (List.mem_of_getElem? (i := 106) (by decide +kernel))) (by decide +kernel)), rfl⟩
theorem fr_X11_243 : FI RX11 243 11 16 := ⟨FL.of rfl (by decide) (uw_in (tin_6 (List.mem_of_getElem? (i := 107) (by decide +kernel))) (by decide +kernel)), rfl⟩
theorem fr_X11_286 : FI RX11 286 11 44 := ⟨FL.of rfl (by decide) (uw_in (tin_6 (List.mem_of_getElem? (i := 135) (by decide +kernel))) (by decide +kernel)), rfl⟩
theorem fr_X11_289 : FI RX11 289 11 43 := ⟨FL.of rfl (by decide) (uw_in (tin_6 (List.mem_of_getElem? (i := 134) (by decide +kernel))) (by decide +kernel)), rfl⟩
theorem fr_X11_304 : FI RX11 304 11 45 := ⟨FL.of rfl (by decide) (uw_in (tin_6 (List.mem_of_getElem? (i := 136) (by decide +kernel))) (by decide +kernel)), rfl⟩
theorem fr_X11_311 : FI RX11 311 11 48 := ⟨FL.of rfl (by decide) (uw_in (tin_6 (List.mem_of_getElem? (i := 139) (by decide +kernel))) (by decide +kernel)), rfl⟩
theorem fr_X11_324 : FI RX11 324 11 47 := ⟨FL.of rfl (by decide) (uw_in (tin_6 (List.mem_of_getElem? (i := 138) (by decide +kernel))) (by decide +kernel)), rfl⟩
theorem fr_X11_336 : FI RX11 336 11 51 := ⟨FL.of rfl (by decide) (uw_in (tin_6 (List.mem_of_getElem? (i := 142) (by decide +kernel))) (by decide +kernel)), rfl⟩
theorem fr_X11_355 : FJ RX11 355 11 62 := ⟨FL.of rfl (by decide) (uw_in (tin_6 (List.mem_of_getElem? (i := 153) (by decide +kernel))) (by decide +kernel)), rfl⟩
theorem fr_X11_362 : FI RX11 362 11 70 := ⟨FL.of rfl (by decide) (uw_in (tin_6 (List.mem_of_getElem? (i := 161) (by decide +kernel))) (by decide +kernel)), rfl⟩
theorem fr_X11_365 : FI RX11 365 11 74 := ⟨FL.of rfl (by decide) (uw_in (tin_6 (List.mem_of_getElem? (i := 165) (by decide +kernel))) (by decide +kernel)), rfl⟩
theorem fr_X11_368 : FI RX11 368 11 76 := ⟨FL.of rfl (by decide) (uw_in (tin_6 (List.mem_of_getElem? (i := 167) (by decide +kernel))) (by decide +kernel)), rfl⟩
theorem fr_X11_371 : FI RX11 371 11 63 := ⟨FL.of rfl (by decide) (uw_in (tin_6 (List.mem_of_getElem? (i := 154) (by decide +kernel))) (by decide +kernel)), rfl⟩
theorem fr_X11_374 : FI RX11 374 11 64 := ⟨FL.of rfl (by decide) (uw_in (tin_6 (List.mem_of_getElem? (i := 155) (by decide +kernel))) (by decide +kernel)), rfl⟩
theorem fr_X11_377 : FI RX11 377 11 65 := ⟨FL.of rfl (by decide) (uw_in (tin_6 (List.mem_of_getElem? (i := 156) (by decide +kernel))) (by decide +kernel)), rfl⟩
theorem fr_X11_380 : FI RX11 380 11 66 := ⟨FL.of rfl (by decide) (uw_in (tin_6 (List.mem_of_getElem? (i := 157) (by decide +kernel))) (by decide +kernel)), rfl⟩
theorem fr_X11_479 : FI RX11 479 11 69 := ⟨FL.of rfl (by decide) (uw_in (tin_6 (List.mem_of_getElem? (i := 160) (by decide +kernel))) (by decide +kernel)), rfl⟩
theorem fr_X11_544 : FJ RX11 544 11 79 := ⟨FL.of rfl (by decide) (uw_in (tin_6 (List.mem_of_getElem? (i := 170) (by decide +kernel))) (by decide +kernel)), rfl⟩
theorem fr_X2_11 : FR RX2 11 2 0 := ⟨FL.of rfl (by decide) (uw_in (tin_2 (List.mem_of_getElem? (i := 182) (by decide +kernel))) (by decide +kernel)), rfl⟩
theorem fr_X2_15 : FR RX2 15 2 1 := ⟨FL.of rfl (by decide) (uw_in (tin_2 (List.mem_of_getElem? (i := 183) (by decide +kernel))) (by decide +kernel)), rfl⟩
theorem fr_X2_18 : FR RX2 18 2 2 := ⟨FL.of rfl (by decide) (uw_in (tin_2 (List.mem_of_getElem? (i := 184) (by decide +kernel))) (by decide +kernel)), rfl⟩
theorem fr_X2_21 : FR RX2 21 2 3 := ⟨FL.of rfl (by decide) (uw_in (tin_2 (List.mem_of_getElem? (i := 185) (by decide +kernel))) (by decide +kernel)), rfl⟩
theorem fr_X2_25 : FR RX2 25 2 4 := ⟨FL.of rfl (by decide) (uw_in (tin_2 (List.mem_of_getElem? (i := 186) (by decide +kernel))) (by decide +kernel)), rfl⟩
theorem fr_X2_28 : FI RX2 28 2 6 := ⟨FL.of rfl (by decide) (uw_in (tin_2 (List.mem_of_getElem? (i := 189) (by decide +kernel))) (by decide +kernel)), rfl⟩
theorem fr_X2_32 : FI RX2 32 2 5 := ⟨FL.of rfl (by decide) (uw_in (tin_2 (List.mem_of_getElem? (i := 187) (by decide +kernel))) (by decide +kernel)), rfl⟩
theorem fr_X2_50 : FI RX2 50 0 11 := ⟨FL.of rfl (by decide) (uw_in (tin_1 (List.mem_of_getElem? (i := 115) (by decide +kernel))) (by decide +kernel)), rfl⟩
theorem fr_X3_7 : FJ RX3 7 3 1 := ⟨FL.of rfl (by decide) (uw_in (tin_2 (List.mem_of_getElem? (i := 237) (by decide +kernel))) (by decide +kernel)), rfl⟩
theorem fr_X3_17 : FJ RX3 17 3 0 := ⟨FL.of rfl (by decide) (uw_in (tin_2 (List.mem_of_getElem? (i := 235) (by decide +kernel))) (by decide +kernel)), rfl⟩
theorem fr_X4_11 : FR RX4 11 4 0 := ⟨FL.of rfl (by decide) (uw_in (tin_1 (List.mem_of_getElem? (i := 44) (by decide +kernel))) (by decide +kernel)), rfl⟩
theorem fr_X4_15 : FR RX4 15 4 1 := ⟨FL.of rfl (by decide) (uw_in (tin_1 (List.mem_of_getElem? (i := 45) (by decide +kernel))) (by decide +kernel)), rfl⟩
theorem fr_X4_18 : FR RX4 18 4 2 := ⟨FL.of rfl (by decide) (uw_in (tin_1 (List.mem_of_getElem? (i := 46) (by decide +kernel))) (by decide +kernel)), rfl⟩
theorem fr_X4_21 : FR RX4 21 4 3 := ⟨FL.of rfl (by decide) (uw_in (tin_1 (List.mem_of_getElem? (i := 47) (by decide +kernel))) (by decide +kernel)), rfl⟩
theorem fr_X4_25 : FI RX4 25 4 4 := ⟨FL.of rfl (by decide) (uw_in (tin_1 (List.mem_of_getElem? (i := 48) (by decide +kernel))) (by decide +kernel)), rfl⟩
theorem fr_X4_29 : FI RX4 29 4 5 := ⟨FL.of rfl (by decide) (uw_in (tin_1 (List.mem_of_getElem? (i := 51) (by decide +kernel))) (by decide +kernel)), rfl⟩
theorem fr_X5_11 : FR RX5 11 5 0 := ⟨FL.of rfl (by decide) (uw_in (tin_2 (List.mem_of_getElem? (i := 212) (by decide +kernel))) (by decide +kernel)), rfl⟩
theorem fr_X5_15 : FR RX5 15 5 1 := ⟨FL.of rfl (by decide) (uw_in (tin_2 (List.mem_of_getElem? (i := 214) (by decide +kernel))) (by decide +kernel)), rfl⟩
theorem fr_X5_18 : FI RX5 18 5 2 := ⟨FL.of rfl (by decide) (uw_in (tin_2 (List.mem_of_getElem? (i := 216) (by decide +kernel))) (by decide +kernel)), rfl⟩
theorem fr_X5_22 : FI RX5 22 5 3 := ⟨FL.of rfl (by decide) (uw_in (tin_2 (List.mem_of_getElem? (i := 218) (by decide +kernel))) (by decide +kernel)), rfl⟩
theorem fr_X5_25 : FI RX5 25 0 13 := ⟨FL.of rfl (by decide) (uw_in (tin_1 (List.mem_of_getElem? (i := 124) (by decide +kernel))) (by decide +kernel)), rfl⟩
theorem fr_X5_42 : FR RX5 42 0 8 := ⟨FL.of rfl (by decide) (uw_in (tin_1 (List.mem_of_getElem? (i := 106) (by decide +kernel))) (by decide +kernel)), rfl⟩
theorem fr_X5_52 : FR RX5 52 0 7 := ⟨FL.of rfl (by decide) (uw_in (tin_1 (List.mem_of_getElem? (i := 103) (by decide +kernel))) (by decide +kernel)), rfl⟩
theorem fr_X6_13 : FR RX6 13 6 1 := ⟨FL.of rfl (by decide) (uw_in (tin_2 (List.mem_of_getElem? (i := 31) (by decide +kernel))) (by decide +kernel)), rfl⟩
theorem fr_X6_17 : FI RX6 17 6 6 := ⟨FL.of rfl (by decide) (uw_in (tin_2 (List.mem_of_getElem? (i := 38) (by decide +kernel))) (by decide +kernel)), rfl⟩
theorem fr_X6_26 : FR RX6 26 6 0 := ⟨FL.of rfl (by decide) (uw_in (tin_2 (List.mem_of_getElem? (i := 30) (by decide +kernel))) (by decide +kernel)), rfl⟩
theorem fr_X6_30 : FR RX6 30 6 7 := ⟨FL.of rfl (by decide) (uw_in (tin_2 (List.mem_of_getElem? (i := 40) (by decide +kernel))) (by decide +kernel)), rfl⟩
theorem fr_X6_43 : FI RX6 43 6 4 := ⟨FL.of rfl (by decide) (uw_in (tin_2 (List.mem_of_getElem? (i := 34) (by decide +kernel))) (by decide +kernel)), rfl⟩
theorem fr_X6_46 : FI RX6 46 6 5 := ⟨FL.of rfl (by decide) (uw_in (tin_2 (List.mem_of_getElem? (i := 36) (by decide +kernel))) (by decide +kernel)), rfl⟩
theorem fr_X6_52 : FI RX6 52 7 4 := ⟨FL.of rfl (by decide) (uw_in (tin_2 (List.mem_of_getElem? (i := 9) (by decide +kernel))) (by decide +kernel)), rfl⟩
theorem fr_X6_90 : FI RX6 90 7 5 := ⟨FL.of rfl (by decide) (uw_in (tin_2 (List.mem_of_getElem? (i := 11) (by decide +kernel))) (by decide +kernel)), rfl⟩
theorem fr_X6_93 : FI RX6 93 7 6 := ⟨FL.of rfl (by decide) (uw_in (tin_2 (List.mem_of_getElem? (i := 13) (by decide +kernel))) (by decide +kernel)), rfl⟩
theorem fr_X6_100 : FI RX6 100 0 11 := ⟨FL.of rfl (by decide) (uw_in (tin_1 (List.mem_of_getElem? (i := 116) (by decide +kernel))) (by decide +kernel)), rfl⟩
theorem fr_X6_110 : FR RX6 110 0 0 := ⟨FL.of rfl (by decide) (uw_in (tin_1 (List.mem_of_getElem? (i := 81) (by decide +kernel))) (by decide +kernel)), rfl⟩
theorem fr_X6_117 : FR RX6 117 0 1 := ⟨FL.of rfl (by decide) (uw_in (tin_1 (List.mem_of_getElem? (i := 85) (by decide +kernel))) (by decide +kernel)), rfl⟩
theorem fr_X6_120 : FR RX6 120 0 2 := ⟨FL.of rfl (by decide) (uw_in (tin_1 (List.mem_of_getElem? (i := 89) (by decide +kernel))) (by decide +kernel)), rfl⟩
theorem fr_X6_123 : FI RX6 123 0 12 := ⟨FL.of rfl (by decide) (uw_in (tin_1 (List.mem_of_getElem? (i := 121) (by decide +kernel))) (by decide +kernel)), rfl⟩
theorem fr_X6_129 : FR RX6 129 0 3 := ⟨FL.of rfl (by decide) (uw_in (tin_1 (List.mem_of_getElem? (i := 91) (by decide +kernel))) (by decide +kernel)), rfl⟩
theorem fr_X6_132 : FR RX6 132 0 4 := ⟨FL.of rfl (by decide) (uw_in (tin_1 (List.mem_of_getElem? (i := 94) (by decide +kernel))) (by decide +kernel)), rfl⟩
theorem fr_X6_135 : FR RX6 135 0 5 := ⟨FL.of rfl (by decide) (uw_in (tin_1 (List.mem_of_getElem? (i := 98) (by decide +kernel))) (by decide +kernel)), rfl⟩
theorem fr_X6_138 : FR RX6 138 0 6 := ⟨FL.of rfl (by decide) (uw_in (tin_1 (List.mem_of_getElem? (i := 100) (by decide +kernel))) (by decide +kernel)), rfl⟩
theorem fr_X6_141 : FI RX6 141 0 14 := ⟨FL.of rfl (by decide) (uw_in (tin_1 (List.mem_of_getElem? (i := 128) (by decide +kernel))) (by decide +kernel)), rfl⟩
theorem fr_X6_147 : FR RX6 147 0 9 := ⟨FL.of rfl (by decide) (uw_in (tin_1 (List.mem_of_getElem? (i := 109) (by decide +kernel))) (by decide +kernel)), rfl⟩
theorem fr_X6_150 : FI RX6 150 0 13 := ⟨FL.of rfl (by decide) (uw_in (tin_1 (List.mem_of_getElem? (i := 125) (by decide +kernel))) (by decide +kernel)), rfl⟩
theorem fr_X6_153 : FR RX6 153 0 7 := ⟨FL.of rfl (by decide) (uw_in (tin_1 (List.mem_of_getElem? (i := 104) (by decide +kernel))) (by decide +kernel)), rfl⟩
theorem fr_X6_156 : FR RX6 156 0 8 := ⟨FL.of rfl (by decide) (uw_in (tin_1 (List.mem_of_getElem? (i := 107) (by decide +kernel))) (by decide +kernel)), rfl⟩
theorem fr_X6_159 : FI RX6 159 0 15 := ⟨FL.of rfl (by decide) (uw_in (tin_1 (List.mem_of_getElem? (i := 130) (by decide +kernel))) (by decide +kernel)), rfl⟩
theorem fr_X6_162 : FI RX6 162 0 16 := ⟨FL.of rfl (by decide) (uw_in (tin_1 (List.mem_of_getElem? (i := 133) (by decide +kernel))) (by decide +kernel)), rfl⟩
theorem fr_X6_166 : FR RX6 166 0 10 := ⟨FL.of rfl (by decide) (uw_in (tin_1 (List.mem_of_getElem? (i := 113) (by decide +kernel))) (by decide +kernel)), rfl⟩
theorem fr_X6_180 : FI RX6 180 6 2 := ⟨FL.of rfl (by decide) (uw_in (tin_2 (List.mem_of_getElem? (i := 32) (by decide +kernel))) (by decide +kernel)), rfl⟩
theorem fr_X6_183 : FI RX6 183 6 3 := ⟨FL.of rfl (by decide) (uw_in (tin_2 (List.mem_of_getElem? (i := 33) (by decide +kernel))) (by decide +kernel)), rfl⟩
theorem fr_X6_214 : FI RX6 214 4 4 := ⟨FL.of rfl (by decide) (uw_in (tin_1 (List.mem_of_getElem? (i := 49) (by decide +kernel))) (by decide +kernel)), rfl⟩
theorem fr_X7_9 : FR RX7 9 7 1 := ⟨FL.of rfl (by decide) (uw_in (tin_2 (List.mem_of_getElem? (i := 6) (by decide +kernel))) (by decide +kernel)), rfl⟩
theorem fr_X7_13 : FR RX7 13 7 0 := ⟨FL.of rfl (by decide) (uw_in (tin_2 (List.mem_of_getElem? (i := 5) (by decide +kernel))) (by decide +kernel)), rfl⟩
theorem fr_X7_33 : FI RX7 33 7 2 := ⟨FL.of rfl (by decide) (uw_in (tin_2 (List.mem_of_getElem? (i := 7) (by decide +kernel))) (by decide +kernel)), rfl⟩
theorem fr_X7_36 : FI RX7 36 7 3 := ⟨FL.of rfl (by decide) (uw_in (tin_2 (List.mem_of_getElem? (i := 8) (by decide +kernel))) (by decide +kernel)), rfl⟩
theorem fr_X7_39 : FI RX7 39 7 4 := ⟨FL.of rfl (by decide) (uw_in (tin_2 (List.mem_of_getElem? (i := 10) (by decide +kernel))) (by decide +kernel)), rfl⟩
theorem fr_X7_46 : FI RX7 46 7 5 := ⟨FL.of rfl (by decide) (uw_in (tin_2 (List.mem_of_getElem? (i := 12) (by decide +kernel))) (by decide +kernel)), rfl⟩
theorem fr_X7_65 : FI RX7 65 7 6 := ⟨FL.of rfl (by decide) (uw_in (tin_2 (List.mem_of_getElem? (i := 14) (by decide +kernel))) (by decide +kernel)), rfl⟩
theorem fr_X8_9 : FR RX8 9 8 0 := ⟨FL.of rfl (by decide) (uw_in (tin_2 (List.mem_of_getElem? (i := 64) (by decide +kernel))) (by decide +kernel)), rfl⟩
theorem fr_X8_15 : FR RX8 15 8 1 := ⟨FL.of rfl (by decide) (uw_in (tin_2 (List.mem_of_getElem? (i := 68) (by decide +kernel))) (by decide +kernel)), rfl⟩
theorem fr_X8_18 : FR RX8 18 8 2 := ⟨FL.of rfl (by decide) (uw_in (tin_2 (List.mem_of_getElem? (i := 71) (by decide +kernel))) (by decide +kernel)), rfl⟩
theorem fr_X8_21 : FR RX8 21 8 3 := ⟨FL.of rfl (by decide) (uw_in (tin_2 (List.mem_of_getElem? (i := 74) (by decide +kernel))) (by decide +kernel)), rfl⟩
theorem fr_X8_24 : FR RX8 24 8 4 := ⟨FL.of rfl (by decide) (uw_in (tin_2 (List.mem_of_getElem? (i := 77) (by decide +kernel))) (by decide +kernel)), rfl⟩
theorem fr_X8_28 : FR RX8 28 8 5 := ⟨FL.of rfl (by decide) (uw_in (tin_2 (List.mem_of_getElem? (i := 80) (by decide +kernel))) (by decide +kernel)), rfl⟩
theorem fr_X8_31 : FR RX8 31 8 6 := ⟨FL.of rfl (by decide) (uw_in (tin_2 (List.mem_of_getElem? (i := 84) (by decide +kernel))) (by decide +kernel)), rfl⟩
theorem fr_X8_34 : FI RX8 34 8 9 := ⟨FL.of rfl (by decide) (uw_in (tin_2 (List.mem_of_getElem? (i := 93) (by decide +kernel))) (by decide +kernel)), rfl⟩
theorem fr_X8_38 : FI RX8 38 0 12 := ⟨FL.of rfl (by decide) (uw_in (tin_1 (List.mem_of_getElem? (i := 119) (by decide +kernel))) (by decide +kernel)), rfl⟩
theorem fr_X8_43 : FR RX8 43 0 4 := ⟨FL.of rfl (by decide) (uw_in (tin_1 (List.mem_of_getElem? (i := 93) (by decide +kernel))) (by decide +kernel)), rfl⟩
theorem fr_X8_44 : FI RX8 44 8 7 := ⟨FL.of rfl (by decide) (uw_in (tin_2 (List.mem_of_getElem? (i := 87) (by decide +kernel))) (by decide +kernel)), rfl⟩
theorem fr_X8_47 : FI RX8 47 8 8 := ⟨FL.of rfl (by decide) (uw_in (tin_2 (List.mem_of_getElem? (i := 90) (by decide +kernel))) (by decide +kernel)), rfl⟩
theorem fr_X8_50 : FI RX8 50 0 16 := ⟨FL.of rfl (by decide) (uw_in (tin_1 (List.mem_of_getElem? (i := 132) (by decide +kernel))) (by decide +kernel)), rfl⟩
theorem fr_X8_53 : FI RX8 53 8 10 := ⟨FL.of rfl (by decide) (uw_in (tin_2 (List.mem_of_getElem? (i := 97) (by decide +kernel))) (by decide +kernel)), rfl⟩
theorem fr_X9_9 : FR RX9 9 9 0 := ⟨FL.of rfl (by decide) (uw_in (tin_2 (List.mem_of_getElem? (i := 156) (by decide +kernel))) (by decide +kernel)), rfl⟩
theorem fr_X9_13 : FR RX9 13 9 1 := ⟨FL.of rfl (by decide) (uw_in (tin_2 (List.mem_of_getElem? (i := 157) (by decide +kernel))) (by decide +kernel)), rfl⟩
theorem fr_X9_16 : FR RX9 16 9 2 := ⟨FL.of rfl (by decide) (uw_in (tin_2 (List.mem_of_getElem? (i := 158) (by decide +kernel))) (by decide +kernel)), rfl⟩
theorem fr_X9_19 : FR RX9 19 9 3 := ⟨FL.of rfl (by decide) (uw_in (tin_2 (List.mem_of_getElem? (i := 159) (by decide +kernel))) (by decide +kernel)), rfl⟩
theorem fr_X9_22 : FR RX9 22 9 4 := ⟨FL.of rfl (by decide) (uw_in (tin_2 (List.mem_of_getElem? (i := 160) (by decide +kernel))) (by decide +kernel)), rfl⟩
theorem fr_X9_25 : FI RX9 25 9 5 := ⟨FL.of rfl (by decide) (uw_in (tin_2 (List.mem_of_getElem? (i := 161) (by decide +kernel))) (by decide +kernel)), rfl⟩
theorem fr_X9_33 : FR RX9 33 8 0 := ⟨FL.of rfl (by decide) (uw_in (tin_2 (List.mem_of_getElem? (i := 65) (by decide +kernel))) (by decide +kernel)), rfl⟩
theorem fr_X9_41 : FR RX9 41 8 5 := ⟨FL.of rfl (by decide) (uw_in (tin_2 (List.mem_of_getElem? (i := 83) (by decide +kernel))) (by decide +kernel)), rfl⟩
theorem fr_X9_45 : FI RX9 45 8 9 := ⟨FL.of rfl (by decide) (uw_in (tin_2 (List.mem_of_getElem? (i := 95) (by decide +kernel))) (by decide +kernel)), rfl⟩
theorem ml_X0_74 : Cond.methodLink RX0 74 yX4_clear ∈ UW := uw_in (tin_1 (List.mem_of_getElem? (i := 72) (by decide +kernel))) (by decide +kernel)
theorem ml_X0_84 : Cond.methodLink RX0 84 yX0_placeOf ∈ UW := uw_in (tin_3 (List.mem_of_getElem? (i := 121) (by decide +kernel))) (by decide +kernel)
theorem ml_X0_88 : Cond.methodLinkNest RX0 88 yX10_isToldDay "SunBills" ∈ NWl := by decide +kernel
theorem ml_X0_92 : Cond.methodLink RX0 92 yX0_kindTold ∈ UW := uw_in (tin_4 (List.mem_of_getElem? (i := 26) (by decide +kernel))) (by decide +kernel)
theorem ml_X1_28 : Cond.methodLink RX1 28 yX1_kindOf ∈ UW := uw_in (tin_4 (List.mem_of_getElem? (i := 182) (by decide +kernel))) (by decide +kernel)
theorem ml_X1_47 : Cond.methodLink RX1 47 yX1_isMeant ∈ UW := uw_in (tin_4 (List.mem_of_getElem? (i := 198) (by decide +kernel))) (by decide +kernel)
theorem ml_X1_58 : Cond.methodLink RX1 58 yX1_look ∈ UW := uw_in (tin_4 (List.mem_of_getElem? (i := 201) (by decide +kernel))) (by decide +kernel)
theorem ml_X1_65 : Cond.methodLink RX1 65 yX0_daysToTerm ∈ UW := uw_in (tin_4 (List.mem_of_getElem? (i := 220) (by decide +kernel))) (by decide +kernel)
theorem ml_X1_69 : Cond.methodLink RX1 69 yX1_pay ∈ UW := uw_in (tin_4 (List.mem_of_getElem? (i := 221) (by decide +kernel))) (by decide +kernel)
theorem ml_X1_76 : Cond.methodLink RX1 76 yX0_kindTold ∈ UW := uw_in (tin_4 (List.mem_of_getElem? (i := 186) (by decide +kernel))) (by decide +kernel)
theorem ml_X1_85 : Cond.methodLink RX1 85 yX8_nextNumber ∈ UW := uw_in (tin_4 (List.mem_of_getElem? (i := 187) (by decide +kernel))) (by decide +kernel)
theorem ml_X1_89 : Cond.methodLink RX1 89 yX0_kindByNumber ∈ UW := uw_in (tin_4 (List.mem_of_getElem? (i := 194) (by decide +kernel))) (by decide +kernel)
theorem ml_X1_98 : Cond.methodLink RX1 98 yX1_worth ∈ UW := uw_in (tin_4 (List.mem_of_getElem? (i := 44) (by decide +kernel))) (by decide +kernel)
theorem ml_X1_101 : Cond.methodLink RX1 101 yX1_eager ∈ UW := uw_in (tin_4 (List.mem_of_getElem? (i := 48) (by decide +kernel))) (by decide +kernel)
theorem ml_X1_115 : Cond.methodLink RX1 115 yX1_name ∈ UW := uw_in (tin_4 (List.mem_of_getElem? (i := 205) (by decide +kernel))) (by decide +kernel)
theorem ml_X1_122 : Cond.methodLink RX1 122 yX4_value ∈ UW := uw_in (tin_4 (List.mem_of_getElem? (i := 206) (by decide +kernel))) (by decide +kernel)
theorem ml_X1_133 : Cond.methodLink RX1 133 yX1_clamped ∈ UW := uw_in (tin_4 (List.mem_of_getElem? (i := 208) (by decide +kernel))) (by decide +kernel)
theorem ml_X1_138 : Cond.methodLink RX1 138 Lib.Math.min.name ∈ UW := uw_in (tin_4 (List.mem_of_getElem? (i := 218) (by decide +kernel))) (by decide +kernel)
theorem ml_X1_145 : Cond.methodLink RX1 145 Lib.MathLoose.min_long.x ∈ UW := uw_in (tin_4 (List.mem_of_getElem? (i := 211) (by decide +kernel))) (by decide +kernel)
theorem ml_X1_148 : Cond.methodLink RX1 148 Lib.MathLoose.max_long.x ∈ UW := uw_in (tin_4 (List.mem_of_getElem? (i := 214) (by decide +kernel))) (by decide +kernel)
theorem ml_X10_82 : Cond.methodLink RX10 82 yX8_start ∈ UW := uw_in (tin_3 (List.mem_of_getElem? (i := 4) (by decide +kernel))) (by decide +kernel)
theorem ml_X10_90 : Cond.methodLink RX10 90 yX10_putNumber ∈ UW := uw_in (tin_3 (List.mem_of_getElem? (i := 55) (by decide +kernel))) (by decide +kernel)
theorem ml_X10_94 : Cond.methodLink RX10 94 yX6_read ∈ UW := uw_in (tin_3 (List.mem_of_getElem? (i := 63) (by decide +kernel))) (by decide +kernel)
theorem ml_X10_98 : Cond.methodLink RX10 98 yX2_clear ∈ UW := uw_in (tin_3 (List.mem_of_getElem? (i := 228) (by decide +kernel))) (by decide +kernel)
theorem ml_X10_101 : Cond.methodLink RX10 101 yX9_clear ∈ UW := uw_in (tin_3 (List.mem_of_getElem? (i := 232) (by decide +kernel))) (by decide +kernel)
theorem ml_X10_115 : Cond.methodLink RX10 115 yX0_kindNamed ∈ UW := uw_in (tin_4 (List.mem_of_getElem? (i := 4) (by decide +kernel))) (by decide +kernel)
theorem ml_X10_119 : Cond.methodLink RX10 119 yX0_houseNamed ∈ UW := uw_in (tin_4 (List.mem_of_getElem? (i := 5) (by decide +kernel))) (by decide +kernel)
theorem ml_X10_122 : Cond.methodLink RX10 122 yX10_isHouse ∈ UW := uw_in (tin_4 (List.mem_of_getElem? (i := 31) (by decide +kernel))) (by decide +kernel)
theorem ml_X10_161 : Cond.methodLink RX10 161 yX10_isKind ∈ UW := uw_in (tin_4 (List.mem_of_getElem? (i := 10) (by decide +kernel))) (by decide +kernel)
theorem ml_X10_173 : Cond.methodLink RX10 173 yX10_isWithin ∈ UW := uw_in (tin_3 (List.mem_of_getElem? (i := 154) (by decide +kernel))) (by decide +kernel)
theorem ml_X10_177 : Cond.methodLink RX10 177 yX10_kindIn ∈ UW := uw_in (tin_4 (List.mem_of_getElem? (i := 18) (by decide +kernel))) (by decide +kernel)
theorem ml_X10_182 : Cond.methodLink RX10 182 yX1_plain ∈ UW := uw_in (tin_4 (List.mem_of_getElem? (i := 36) (by decide +kernel))) (by decide +kernel)
theorem ml_X10_185 : Cond.methodLink RX10 185 yX1_name ∈ UW := uw_in (tin_4 (List.mem_of_getElem? (i := 40) (by decide +kernel))) (by decide +kernel)
theorem ml_X10_197 : Cond.methodLink RX10 197 yX4_value ∈ UW := uw_in (tin_4 (List.mem_of_getElem? (i := 52) (by decide +kernel))) (by decide +kernel)
theorem ml_X10_206 : Cond.methodLink RX10 206 yX8_worthOf ∈ UW := uw_in (tin_4 (List.mem_of_getElem? (i := 79) (by decide +kernel))) (by decide +kernel)
theorem ml_X10_212 : Cond.methodLink RX10 212 yX10_areHouses ∈ UW := uw_in (tin_4 (List.mem_of_getElem? (i := 91) (by decide +kernel))) (by decide +kernel)
theorem ml_X10_215 : Cond.methodLink RX10 215 yX10_sumOf ∈ UW := uw_in (tin_4 (List.mem_of_getElem? (i := 95) (by decide +kernel))) (by decide +kernel)
theorem ml_X10_221 : Cond.methodLink RX10 221 yJ6_bitCount_0f7a4 ∈ UW := uw_in (tin_4 (List.mem_of_getElem? (i := 107) (by decide +kernel))) (by decide +kernel)
theorem ml_X10_224 : Cond.methodLink RX10 224 yX10_noneSoldUp ∈ UW := uw_in (tin_4 (List.mem_of_getElem? (i := 113) (by decide +kernel))) (by decide +kernel)
theorem ml_X10_227 : Cond.methodLink RX10 227 yX10_isAmong ∈ UW := uw_in (tin_4 (List.mem_of_getElem? (i := 99) (by decide +kernel))) (by decide +kernel)
theorem ml_X10_234 : Cond.methodLink RX10 234 yX0_daysToTerm ∈ UW := uw_in (tin_4 (List.mem_of_getElem? (i := 121) (by decide +kernel))) (by decide +kernel)
theorem ml_X10_243 : Cond.methodLink RX10 243 yX8_howManySoldUp ∈ UW := uw_in (tin_4 (List.mem_of_getElem? (i := 129) (by decide +kernel))) (by decide +kernel)
theorem ml_X10_247 : Cond.methodLink RX10 247 yX10_sumOfRow ∈ UW := uw_in (tin_4 (List.mem_of_getElem? (i := 133) (by decide +kernel))) (by decide +kernel)
theorem ml_X10_257 : Cond.methodLink RX10 257 yX2_knownCount ∈ UW := uw_in (tin_4 (List.mem_of_getElem? (i := 136) (by decide +kernel))) (by decide +kernel)
theorem ml_X10_261 : Cond.methodLink RX10 261 yX9_drew ∈ UW := uw_in (tin_4 (List.mem_of_getElem? (i := 144) (by decide +kernel))) (by decide +kernel)
theorem ml_X10_267 : Cond.methodLink RX10 267 yX9_sent ∈ UW := uw_in (tin_4 (List.mem_of_getElem? (i := 160) (by decide +kernel))) (by decide +kernel)
theorem ml_X10_270 : Cond.methodLink RX10 270 yX9_lent ∈ UW := uw_in (tin_4 (List.mem_of_getElem? (i := 168) (by decide +kernel))) (by decide +kernel)
theorem ml_X10_275 : Cond.methodLink RX10 275 Lib.Math.min.name ∈ UW := uw_in (tin_4 (List.mem_of_getElem? (i := 173) (by decide +kernel))) (by decide +kernel)
theorem ml_X10_284 : Cond.methodLink RX10 284 yX1_pass ∈ UW := uw_in (tin_4 (List.mem_of_getElem? (i := 178) (by decide +kernel))) (by decide +kernel)
theorem ml_X10_288 : Cond.methodLink RX10 288 yX9_undoLatest ∈ UW := uw_in (tin_4 (List.mem_of_getElem? (i := 228) (by decide +kernel))) (by decide +kernel)
theorem ml_X10_292 : Cond.methodLink RX10 292 yX8_takeFrom ∈ UW := uw_in (tin_4 (List.mem_of_getElem? (i := 236) (by decide +kernel))) (by decide +kernel)
theorem ml_X10_296 : Cond.methodLink RX10 296 yX0_kindAsItGoes ∈ UW := uw_in (tin_4 (List.mem_of_getElem? (i := 22) (by decide +kernel))) (by decide +kernel)
theorem ml_X10_299 : Cond.methodLink RX10 299 yX10_rehearse ∈ UW := uw_in (tin_5 (List.mem_of_getElem? (i := 8) (by decide +kernel))) (by decide +kernel)
theorem ml_X10_302 : Cond.methodLink RX10 302 yX10_passTrial ∈ UW := uw_in (tin_5 (List.mem_of_getElem? (i := 12) (by decide +kernel))) (by decide +kernel)
theorem ml_X10_306 : Cond.methodLink RX10 306 yX10_daysUntil ∈ UW := uw_in (tin_5 (List.mem_of_getElem? (i := 20) (by decide +kernel))) (by decide +kernel)
theorem ml_X10_309 : Cond.methodLink RX10 309 yX8_shows ∈ UW := uw_in (tin_5 (List.mem_of_getElem? (i := 24) (by decide +kernel))) (by decide +kernel)
theorem ml_X10_314 : Cond.methodLink RX10 314 yX5_lay ∈ UW := uw_in (tin_5 (List.mem_of_getElem? (i := 45) (by decide +kernel))) (by decide +kernel)
theorem ml_X10_327 : Cond.methodLink RX10 327 yX10_isSoldUpIn ∈ UW := uw_in (tin_5 (List.mem_of_getElem? (i := 72) (by decide +kernel))) (by decide +kernel)
theorem ml_X10_331 : Cond.methodLink RX10 331 yX10_termIn ∈ UW := uw_in (tin_5 (List.mem_of_getElem? (i := 80) (by decide +kernel))) (by decide +kernel)
theorem ml_X10_346 : Cond.methodLink RX10 346 yX10_partsOf ∈ UW := uw_in (tin_5 (List.mem_of_getElem? (i := 93) (by decide +kernel))) (by decide +kernel)
theorem ml_X10_352 : Cond.methodLink RX10 352 yX3_put ∈ UW := uw_in (tin_5 (List.mem_of_getElem? (i := 99) (by decide +kernel))) (by decide +kernel)
theorem ml_X10_356 : Cond.methodLink RX10 356 yX3_told ∈ UW := uw_in (tin_5 (List.mem_of_getElem? (i := 106) (by decide +kernel))) (by decide +kernel)
theorem ml_X10_360 : Cond.methodLink RX10 360 yX0_alone ∈ UW := uw_in (tin_5 (List.mem_of_getElem? (i := 97) (by decide +kernel))) (by decide +kernel)
theorem ml_X10_363 : Cond.methodLink RX10 363 yX10_mostOf ∈ UW := uw_in (tin_5 (List.mem_of_getElem? (i := 114) (by decide +kernel))) (by decide +kernel)
theorem ml_X10_366 : Cond.methodLink RX10 366 Lib.Math.max.name ∈ UW := uw_in (tin_5 (List.mem_of_getElem? (i := 118) (by decide +kernel))) (by decide +kernel)
theorem ml_X10_374 : Cond.methodLink RX10 374 yX10_sumOfBetter ∈ UW := uw_in (tin_5 (List.mem_of_getElem? (i := 126) (by decide +kernel))) (by decide +kernel)
theorem ml_X10_385 : Cond.methodLink RX10 385 Lib.MathLoose.max_long.x ∈ UW := uw_in (tin_5 (List.mem_of_getElem? (i := 130) (by decide +kernel))) (by decide +kernel)
theorem ml_X10_388 : Cond.methodLink RX10 388 yX10_power ∈ UW := uw_in (tin_5 (List.mem_of_getElem? (i := 135) (by decide +kernel))) (by decide +kernel)
theorem ml_X10_392 : Cond.methodLink RX10 392 yX10_sumOfKinds ∈ UW := uw_in (tin_5 (List.mem_of_getElem? (i := 138) (by decide +kernel))) (by decide +kernel)
theorem ml_X10_395 : Cond.methodLink RX10 395 yX10_isView ∈ UW := uw_in (tin_5 (List.mem_of_getElem? (i := 150) (by decide +kernel))) (by decide +kernel)
theorem ml_X10_398 : Cond.methodLink RX10 398 yX10_isRest ∈ UW := uw_in (tin_5 (List.mem_of_getElem? (i := 154) (by decide +kernel))) (by decide +kernel)
theorem ml_X10_402 : Cond.methodLink RX10 402 yX10_gain ∈ UW := uw_in (tin_5 (List.mem_of_getElem? (i := 158) (by decide +kernel))) (by decide +kernel)
theorem ml_X10_406 : Cond.methodLink RX10 406 yX10_isToldDay ∈ UW := uw_in (tin_5 (List.mem_of_getElem? (i := 170) (by decide +kernel))) (by decide +kernel)
theorem ml_X10_409 : Cond.methodLink RX10 409 yX2_addNote ∈ UW := uw_in (tin_5 (List.mem_of_getElem? (i := 171) (by decide +kernel))) (by decide +kernel)
theorem ml_X10_413 : Cond.methodLink RX10 413 yX2_addStrike ∈ UW := uw_in (tin_5 (List.mem_of_getElem? (i := 179) (by decide +kernel))) (by decide +kernel)
theorem ml_X10_419 : Cond.methodLink RX10 419 yX2_fitting ∈ UW := uw_in (tin_5 (List.mem_of_getElem? (i := 193) (by decide +kernel))) (by decide +kernel)
theorem ml_X10_423 : Cond.methodLink RX10 423 yX10_leftAtWorst ∈ UW := uw_in (tin_5 (List.mem_of_getElem? (i := 211) (by decide +kernel))) (by decide +kernel)
theorem ml_X11_145 : Cond.methodLink RX11 145 yX11_plain ∈ UW := uw_in (tin_6 (List.mem_of_getElem? (i := 72) (by decide +kernel))) (by decide +kernel)
theorem ml_X11_148 : Cond.methodLink RX11 148 yX11_keepText ∈ UW := uw_in (tin_6 (List.mem_of_getElem? (i := 76) (by decide +kernel))) (by decide +kernel)
theorem ml_X11_172 : Cond.methodLink RX11 172 yX11_isSmall ∈ UW := uw_in (tin_7 (List.mem_of_getElem? (i := 108) (by decide +kernel))) (by decide +kernel)
theorem ml_X11_176 : Cond.methodLink RX11 176 yX11_wordAt ∈ UW := uw_in (tin_7 (List.mem_of_getElem? (i := 112) (by decide +kernel))) (by decide +kernel)
theorem ml_X11_183 : Cond.methodLink RX11 183 yX11_packed ∈ UW := uw_in (tin_7 (List.mem_of_getElem? (i := 116) (by decide +kernel))) (by decide +kernel)
theorem ml_X11_186 : Cond.methodLink RX11 186 yX11_isDigit ∈ UW := uw_in (tin_7 (List.mem_of_getElem? (i := 120) (by decide +kernel))) (by decide +kernel)
theorem ml_X11_190 : Cond.methodLink RX11 190 yX11_signToken ∈ UW := uw_in (tin_7 (List.mem_of_getElem? (i := 125) (by decide +kernel))) (by decide +kernel)
theorem ml_X11_193 : Cond.methodLink RX11 193 yX11_wrong ∈ UW := uw_in (tin_7 (List.mem_of_getElem? (i := 133) (by decide +kernel))) (by decide +kernel)
theorem ml_X11_196 : Cond.methodLink RX11 196 yX11_isIn ∈ UW := uw_in (tin_7 (List.mem_of_getElem? (i := 152) (by decide +kernel))) (by decide +kernel)
theorem ml_X11_203 : Cond.methodLink RX11 203 yX11_token ∈ UW := uw_in (tin_7 (List.mem_of_getElem? (i := 104) (by decide +kernel))) (by decide +kernel)
theorem ml_X11_206 : Cond.methodLink RX11 206 yX11_isSign ∈ UW := uw_in (tin_7 (List.mem_of_getElem? (i := 179) (by decide +kernel))) (by decide +kernel)
theorem ml_X11_209 : Cond.methodLink RX11 209 yX11_number ∈ UW := uw_in (tin_7 (List.mem_of_getElem? (i := 148) (by decide +kernel))) (by decide +kernel)
theorem ml_X11_246 : Cond.methodLink RX11 246 yX11_copies ∈ UW := uw_in (tin_6 (List.mem_of_getElem? (i := 80) (by decide +kernel))) (by decide +kernel)
theorem ml_X11_250 : Cond.methodLink RX11 250 yX11_begin ∈ UW := uw_in (tin_6 (List.mem_of_getElem? (i := 83) (by decide +kernel))) (by decide +kernel)
theorem ml_X11_253 : Cond.methodLink RX11 253 yX11_find ∈ UW := uw_in (tin_7 (List.mem_of_getElem? (i := 145) (by decide +kernel))) (by decide +kernel)
theorem ml_X11_257 : Cond.methodLink RX11 257 yX11_newName ∈ UW := uw_in (tin_7 (List.mem_of_getElem? (i := 141) (by decide +kernel))) (by decide +kernel)
theorem ml_X11_261 : Cond.methodLink RX11 261 yX11_thereIn ∈ UW := uw_in (tin_7 (List.mem_of_getElem? (i := 163) (by decide +kernel))) (by decide +kernel)
theorem ml_X11_264 : Cond.methodLink RX11 264 yX11_kindLine ∈ UW := uw_in (tin_7 (List.mem_of_getElem? (i := 137) (by decide +kernel))) (by decide +kernel)
theorem ml_X11_268 : Cond.methodLink RX11 268 yX11_houseLine ∈ UW := uw_in (tin_7 (List.mem_of_getElem? (i := 155) (by decide +kernel))) (by decide +kernel)
theorem ml_X11_271 : Cond.methodLink RX11 271 yX11_dayLine ∈ UW := uw_in (tin_7 (List.mem_of_getElem? (i := 159) (by decide +kernel))) (by decide +kernel)
theorem ml_X11_274 : Cond.methodLink RX11 274 yX11_workLine ∈ UW := uw_in (tin_7 (List.mem_of_getElem? (i := 167) (by decide +kernel))) (by decide +kernel)
theorem ml_X11_277 : Cond.methodLink RX11 277 yX11_onceLine ∈ UW := uw_in (tin_7 (List.mem_of_getElem? (i := 171) (by decide +kernel))) (by decide +kernel)
theorem ml_X11_280 : Cond.methodLink RX11 280 yX11_sumRead ∈ UW := uw_in (tin_7 (List.mem_of_getElem? (i := 175) (by decide +kernel))) (by decide +kernel)
theorem ml_X11_283 : Cond.methodLink RX11 283 yX11_lineRead ∈ UW := uw_in (tin_7 (List.mem_of_getElem? (i := 129) (by decide +kernel))) (by decide +kernel)
theorem ml_X11_292 : Cond.methodLink RX11 292 yX11_standing ∈ UW := uw_in (tin_7 (List.mem_of_getElem? (i := 215) (by decide +kernel))) (by decide +kernel)
theorem ml_X11_296 : Cond.methodLink RX11 296 yX11_dropHeld ∈ UW := uw_in (tin_7 (List.mem_of_getElem? (i := 218) (by decide +kernel))) (by decide +kernel)
theorem ml_X11_300 : Cond.methodLink RX11 300 yX11_grown ∈ UW := uw_in (tin_7 (List.mem_of_getElem? (i := 203) (by decide +kernel))) (by decide +kernel)
theorem ml_X11_307 : Cond.methodLink RX11 307 yX11_waitsFor ∈ UW := uw_in (tin_7 (List.mem_of_getElem? (i := 187) (by decide +kernel))) (by decide +kernel)
theorem ml_X11_315 : Cond.methodLink RX11 315 yX11_isKey ∈ UW := uw_in (tin_7 (List.mem_of_getElem? (i := 191) (by decide +kernel))) (by decide +kernel)
theorem ml_X11_318 : Cond.methodLink RX11 318 yX11_isCounted ∈ UW := uw_in (tin_7 (List.mem_of_getElem? (i := 195) (by decide +kernel))) (by decide +kernel)
theorem ml_X11_321 : Cond.methodLink RX11 321 yX11_nameMet ∈ UW := uw_in (tin_7 (List.mem_of_getElem? (i := 199) (by decide +kernel))) (by decide +kernel)
theorem ml_X11_327 : Cond.methodLink RX11 327 yX11_bind ∈ UW := uw_in (tin_7 (List.mem_of_getElem? (i := 211) (by decide +kernel))) (by decide +kernel)
theorem ml_X11_330 : Cond.methodLink RX11 330 yX11_leafRead ∈ UW := uw_in (tin_7 (List.mem_of_getElem? (i := 183) (by decide +kernel))) (by decide +kernel)
theorem ml_X11_333 : Cond.methodLink RX11 333 yX11_signs ∈ UW := uw_in (tin_7 (List.mem_of_getElem? (i := 207) (by decide +kernel))) (by decide +kernel)
theorem ml_X11_343 : Cond.methodLink RX11 343 yX11_bounded ∈ UW := uw_in (tin_8 (List.mem_of_getElem? (i := 47) (by decide +kernel))) (by decide +kernel)
theorem ml_X11_347 : Cond.methodLink RX11 347 yX11_times ∈ UW := uw_in (tin_8 (List.mem_of_getElem? (i := 53) (by decide +kernel))) (by decide +kernel)
theorem ml_X11_351 : Cond.methodLink RX11 351 yX11_compares ∈ UW := uw_in (tin_8 (List.mem_of_getElem? (i := 57) (by decide +kernel))) (by decide +kernel)
theorem ml_X11_359 : Cond.methodLink RX11 359 yX11_plainTried ∈ UW := uw_in (tin_6 (List.mem_of_getElem? (i := 87) (by decide +kernel))) (by decide +kernel)
theorem ml_X11_383 : Cond.methodLink RX11 383 yX11_worthOf ∈ UW := uw_in (tin_8 (List.mem_of_getElem? (i := 31) (by decide +kernel))) (by decide +kernel)
theorem ml_X11_386 : Cond.methodLink RX11 386 yX11_eagerOf ∈ UW := uw_in (tin_8 (List.mem_of_getElem? (i := 35) (by decide +kernel))) (by decide +kernel)
theorem ml_X11_389 : Cond.methodLink RX11 389 yX11_valueOf ∈ UW := uw_in (tin_8 (List.mem_of_getElem? (i := 43) (by decide +kernel))) (by decide +kernel)
theorem ml_X11_393 : Cond.methodLink RX11 393 yX11_lawOf ∈ UW := uw_in (tin_8 (List.mem_of_getElem? (i := 39) (by decide +kernel))) (by decide +kernel)
theorem ml_X11_404 : Cond.methodLink RX11 404 yX11_weightAll ∈ UW := uw_in (tin_8 (List.mem_of_getElem? (i := 103) (by decide +kernel))) (by decide +kernel)
theorem ml_X11_407 : Cond.methodLink RX11 407 yX11_heaviest ∈ UW := uw_in (tin_8 (List.mem_of_getElem? (i := 18) (by decide +kernel))) (by decide +kernel)
theorem ml_X11_410 : Cond.methodLink RX11 410 yX11_number1 ∈ UW := uw_in (tin_8 (List.mem_of_getElem? (i := 107) (by decide +kernel))) (by decide +kernel)
theorem ml_X11_413 : Cond.methodLink RX11 413 yX11_drawnKind ∈ UW := uw_in (tin_8 (List.mem_of_getElem? (i := 99) (by decide +kernel))) (by decide +kernel)
theorem ml_X11_416 : Cond.methodLink RX11 416 yX11_lay ∈ UW := uw_in (tin_8 (List.mem_of_getElem? (i := 27) (by decide +kernel))) (by decide +kernel)
theorem ml_X11_419 : Cond.methodLink RX11 419 yX11_boundLaw ∈ UW := uw_in (tin_8 (List.mem_of_getElem? (i := 119) (by decide +kernel))) (by decide +kernel)
theorem ml_X11_423 : Cond.methodLink RX11 423 yX11_bounded_ ∈ UW := uw_in (tin_8 (List.mem_of_getElem? (i := 84) (by decide +kernel))) (by decide +kernel)
theorem ml_X11_427 : Cond.methodLink RX11 427 yX11_weatherOf ∈ UW := uw_in (tin_8 (List.mem_of_getElem? (i := 95) (by decide +kernel))) (by decide +kernel)
theorem ml_X11_430 : Cond.methodLink RX11 430 yX11_isOf ∈ UW := uw_in (tin_8 (List.mem_of_getElem? (i := 80) (by decide +kernel))) (by decide +kernel)
theorem ml_X11_433 : Cond.methodLink RX11 433 yX11_looks ∈ UW := uw_in (tin_8 (List.mem_of_getElem? (i := 115) (by decide +kernel))) (by decide +kernel)
theorem ml_X11_436 : Cond.methodLink RX11 436 yX11_pays ∈ UW := uw_in (tin_8 (List.mem_of_getElem? (i := 123) (by decide +kernel))) (by decide +kernel)
theorem ml_X11_440 : Cond.methodLink RX11 440 yX11_dayGoes ∈ UW := uw_in (tin_8 (List.mem_of_getElem? (i := 91) (by decide +kernel))) (by decide +kernel)
theorem ml_X11_443 : Cond.methodLink RX11 443 yX11_isHouse ∈ UW := uw_in (tin_7 (List.mem_of_getElem? (i := 234) (by decide +kernel))) (by decide +kernel)
theorem ml_X11_446 : Cond.methodLink RX11 446 yX11_fails ∈ UW := uw_in (tin_7 (List.mem_of_getElem? (i := 238) (by decide +kernel))) (by decide +kernel)
theorem ml_X11_449 : Cond.methodLink RX11 449 yX11_isKind ∈ UW := uw_in (tin_8 (List.mem_of_getElem? (i := 6) (by decide +kernel))) (by decide +kernel)
theorem ml_X11_452 : Cond.methodLink RX11 452 yX11_weatherIn ∈ UW := uw_in (tin_8 (List.mem_of_getElem? (i := 14) (by decide +kernel))) (by decide +kernel)
theorem ml_X11_457 : Cond.methodLink RX11 457 yX11_remember ∈ UW := uw_in (tin_8 (List.mem_of_getElem? (i := 64) (by decide +kernel))) (by decide +kernel)
theorem ml_X11_461 : Cond.methodLink RX11 461 yX11_layTried ∈ UW := uw_in (tin_8 (List.mem_of_getElem? (i := 132) (by decide +kernel))) (by decide +kernel)
theorem ml_X11_464 : Cond.methodLink RX11 464 yX11_goMany ∈ UW := uw_in (tin_8 (List.mem_of_getElem? (i := 136) (by decide +kernel))) (by decide +kernel)
theorem ml_X11_467 : Cond.methodLink RX11 467 yX11_manyOf ∈ UW := uw_in (tin_8 (List.mem_of_getElem? (i := 140) (by decide +kernel))) (by decide +kernel)
theorem ml_X11_470 : Cond.methodLink RX11 470 yX11_lookedAll ∈ UW := uw_in (tin_8 (List.mem_of_getElem? (i := 143) (by decide +kernel))) (by decide +kernel)
theorem ml_X11_473 : Cond.methodLink RX11 473 yX11_hasOf ∈ UW := uw_in (tin_8 (List.mem_of_getElem? (i := 155) (by decide +kernel))) (by decide +kernel)
theorem ml_X11_476 : Cond.methodLink RX11 476 yX11_daysTo ∈ UW := uw_in (tin_8 (List.mem_of_getElem? (i := 151) (by decide +kernel))) (by decide +kernel)
theorem ml_X11_482 : Cond.methodLink RX11 482 yX11_suits ∈ UW := uw_in (tin_8 (List.mem_of_getElem? (i := 183) (by decide +kernel))) (by decide +kernel)
theorem ml_X11_485 : Cond.methodLink RX11 485 yX11_costOf ∈ UW := uw_in (tin_8 (List.mem_of_getElem? (i := 187) (by decide +kernel))) (by decide +kernel)
theorem ml_X11_488 : Cond.methodLink RX11 488 yX11_layPlan ∈ UW := uw_in (tin_8 (List.mem_of_getElem? (i := 179) (by decide +kernel))) (by decide +kernel)
theorem ml_X11_491 : Cond.methodLink RX11 491 yX11_dayFor ∈ UW := uw_in (tin_8 (List.mem_of_getElem? (i := 191) (by decide +kernel))) (by decide +kernel)
theorem ml_X11_494 : Cond.methodLink RX11 494 yX11_shared ∈ UW := uw_in (tin_8 (List.mem_of_getElem? (i := 211) (by decide +kernel))) (by decide +kernel)
theorem ml_X11_497 : Cond.methodLink RX11 497 yX11_areHouses ∈ UW := uw_in (tin_8 (List.mem_of_getElem? (i := 199) (by decide +kernel))) (by decide +kernel)
theorem ml_X11_500 : Cond.methodLink RX11 500 yX11_paysOf ∈ UW := uw_in (tin_8 (List.mem_of_getElem? (i := 203) (by decide +kernel))) (by decide +kernel)
theorem ml_X11_505 : Cond.methodLink RX11 505 yX11_least ∈ UW := uw_in (tin_8 (List.mem_of_getElem? (i := 208) (by decide +kernel))) (by decide +kernel)
theorem ml_X11_511 : Cond.methodLink RX11 511 yX11_hasBy ∈ UW := uw_in (tin_8 (List.mem_of_getElem? (i := 239) (by decide +kernel))) (by decide +kernel)
theorem ml_X11_514 : Cond.methodLink RX11 514 yX11_areTwo ∈ UW := uw_in (tin_8 (List.mem_of_getElem? (i := 231) (by decide +kernel))) (by decide +kernel)
theorem ml_X11_517 : Cond.methodLink RX11 517 yX11_restAt ∈ UW := uw_in (tin_8 (List.mem_of_getElem? (i := 235) (by decide +kernel))) (by decide +kernel)
theorem ml_X11_520 : Cond.methodLink RX11 520 yX11_mostOf ∈ UW := uw_in (tin_9 (List.mem_of_getElem? (i := 15) (by decide +kernel))) (by decide +kernel)
theorem ml_X11_523 : Cond.methodLink RX11 523 yX11_sumOf ∈ UW := uw_in (tin_9 (List.mem_of_getElem? (i := 27) (by decide +kernel))) (by decide +kernel)
theorem ml_X11_526 : Cond.methodLink RX11 526 yX11_notes1 ∈ UW := uw_in (tin_9 (List.mem_of_getElem? (i := 47) (by decide +kernel))) (by decide +kernel)
theorem ml_X11_529 : Cond.methodLink RX11 529 yX11_knownBy ∈ UW := uw_in (tin_9 (List.mem_of_getElem? (i := 67) (by decide +kernel))) (by decide +kernel)
theorem ml_X11_532 : Cond.methodLink RX11 532 yX11_fitsOf ∈ UW := uw_in (tin_9 (List.mem_of_getElem? (i := 63) (by decide +kernel))) (by decide +kernel)
theorem ml_X11_535 : Cond.methodLink RX11 535 yX11_worstBy ∈ UW := uw_in (tin_9 (List.mem_of_getElem? (i := 75) (by decide +kernel))) (by decide +kernel)
theorem ml_X11_538 : Cond.methodLink RX11 538 yX11_put ∈ UW := uw_in (tin_8 (List.mem_of_getElem? (i := 68) (by decide +kernel))) (by decide +kernel)
theorem ml_X11_541 : Cond.methodLink RX11 541 yX11_take ∈ UW := uw_in (tin_9 (List.mem_of_getElem? (i := 91) (by decide +kernel))) (by decide +kernel)
theorem ml_X2_35 : Cond.methodLinkNest RX2 35 yX10_isWithin "SunBills" ∈ NWl := by decide +kernel
theorem ml_X2_39 : Cond.methodLink RX2 39 yX2_addNote ∈ UW := uw_in (tin_5 (List.mem_of_getElem? (i := 184) (by decide +kernel))) (by decide +kernel)
theorem ml_X2_43 : Cond.methodLink RX2 43 yX2_knownCount ∈ UW := uw_in (tin_5 (List.mem_of_getElem? (i := 201) (by decide +kernel))) (by decide +kernel)
theorem ml_X2_47 : Cond.methodLink RX2 47 yX2_findStruck ∈ UW := uw_in (tin_5 (List.mem_of_getElem? (i := 197) (by decide +kernel))) (by decide +kernel)
theorem ml_X2_55 : Cond.methodLink RX2 55 yX2_isFitting ∈ UW := uw_in (tin_5 (List.mem_of_getElem? (i := 202) (by decide +kernel))) (by decide +kernel)
theorem ml_X2_59 : Cond.methodLink RX2 59 yX0_alone ∈ UW := uw_in (tin_5 (List.mem_of_getElem? (i := 206) (by decide +kernel))) (by decide +kernel)
theorem ml_X3_13 : Cond.methodLink RX3 13 yX3_commonOf ∈ UW := uw_in (tin_5 (List.mem_of_getElem? (i := 103) (by decide +kernel))) (by decide +kernel)
theorem ml_X4_32 : Cond.methodLink RX4 32 Lib.Math.min.name ∈ UW := uw_in (tin_4 (List.mem_of_getElem? (i := 56) (by decide +kernel))) (by decide +kernel)
theorem ml_X4_40 : Cond.methodLink RX4 40 yX4_operand ∈ UW := uw_in (tin_4 (List.mem_of_getElem? (i := 58) (by decide +kernel))) (by decide +kernel)
theorem ml_X4_46 : Cond.methodLink RX4 46 yX4_truth ∈ UW := uw_in (tin_4 (List.mem_of_getElem? (i := 61) (by decide +kernel))) (by decide +kernel)
theorem ml_X4_50 : Cond.methodLink RX4 50 yX4_joined ∈ UW := uw_in (tin_4 (List.mem_of_getElem? (i := 64) (by decide +kernel))) (by decide +kernel)
theorem ml_X4_54 : Cond.methodLink RX4 54 yX4_limited ∈ UW := uw_in (tin_4 (List.mem_of_getElem? (i := 67) (by decide +kernel))) (by decide +kernel)
theorem ml_X4_58 : Cond.methodLink RX4 58 yX4_product ∈ UW := uw_in (tin_4 (List.mem_of_getElem? (i := 72) (by decide +kernel))) (by decide +kernel)
theorem ml_X5_30 : Cond.methodLink RX5 30 yX5_hasDay ∈ UW := uw_in (tin_5 (List.mem_of_getElem? (i := 49) (by decide +kernel))) (by decide +kernel)
theorem ml_X5_34 : Cond.methodLink RX5 34 yX5_firstFree ∈ UW := uw_in (tin_5 (List.mem_of_getElem? (i := 63) (by decide +kernel))) (by decide +kernel)
theorem ml_X5_38 : Cond.methodLink RX5 38 yX5_cost ∈ UW := uw_in (tin_5 (List.mem_of_getElem? (i := 56) (by decide +kernel))) (by decide +kernel)
theorem ml_X5_45 : Cond.methodLink RX5 45 yX5_comesAhead ∈ UW := uw_in (tin_5 (List.mem_of_getElem? (i := 53) (by decide +kernel))) (by decide +kernel)
theorem ml_X5_48 : Cond.methodLinkNest RX5 48 yX10_isAmong "SunBills" ∈ NWl := by decide +kernel
theorem ml_X5_55 : Cond.methodLink RX5 55 yX0_alone ∈ UW := uw_in (tin_5 (List.mem_of_getElem? (i := 59) (by decide +kernel))) (by decide +kernel)
theorem ml_X6_34 : Cond.methodLink RX6 34 yX0_clear ∈ UW := uw_in (tin_3 (List.mem_of_getElem? (i := 67) (by decide +kernel))) (by decide +kernel)
theorem ml_X6_39 : Cond.methodLink RX6 39 yX7_begin ∈ UW := uw_in (tin_3 (List.mem_of_getElem? (i := 68) (by decide +kernel))) (by decide +kernel)
theorem ml_X6_49 : Cond.methodLink RX6 49 yX7_step ∈ UW := uw_in (tin_3 (List.mem_of_getElem? (i := 72) (by decide +kernel))) (by decide +kernel)
theorem ml_X6_55 : Cond.methodLink RX6 55 yX6_readLine ∈ UW := uw_in (tin_3 (List.mem_of_getElem? (i := 101) (by decide +kernel))) (by decide +kernel)
theorem ml_X6_59 : Cond.methodLink RX6 59 yX0_settle ∈ UW := uw_in (tin_3 (List.mem_of_getElem? (i := 227) (by decide +kernel))) (by decide +kernel)
theorem ml_X6_62 : Cond.methodLink RX6 62 yX6_readKind ∈ UW := uw_in (tin_3 (List.mem_of_getElem? (i := 105) (by decide +kernel))) (by decide +kernel)
theorem ml_X6_65 : Cond.methodLink RX6 65 yX6_isEnd ∈ UW := uw_in (tin_3 (List.mem_of_getElem? (i := 131) (by decide +kernel))) (by decide +kernel)
theorem ml_X6_68 : Cond.methodLink RX6 68 yX6_readHouse ∈ UW := uw_in (tin_3 (List.mem_of_getElem? (i := 135) (by decide +kernel))) (by decide +kernel)
theorem ml_X6_71 : Cond.methodLink RX6 71 yX6_readDay ∈ UW := uw_in (tin_3 (List.mem_of_getElem? (i := 143) (by decide +kernel))) (by decide +kernel)
theorem ml_X6_74 : Cond.methodLink RX6 74 yX6_readWork ∈ UW := uw_in (tin_3 (List.mem_of_getElem? (i := 155) (by decide +kernel))) (by decide +kernel)
theorem ml_X6_77 : Cond.methodLink RX6 77 yX6_readTerm ∈ UW := uw_in (tin_3 (List.mem_of_getElem? (i := 159) (by decide +kernel))) (by decide +kernel)
theorem ml_X6_80 : Cond.methodLink RX6 80 yX6_readSeed ∈ UW := uw_in (tin_3 (List.mem_of_getElem? (i := 163) (by decide +kernel))) (by decide +kernel)
theorem ml_X6_83 : Cond.methodLink RX6 83 yX6_readLaw ∈ UW := uw_in (tin_3 (List.mem_of_getElem? (i := 168) (by decide +kernel))) (by decide +kernel)
theorem ml_X6_86 : Cond.methodLink RX6 86 yX6_fails ∈ UW := uw_in (tin_3 (List.mem_of_getElem? (i := 109) (by decide +kernel))) (by decide +kernel)
theorem ml_X6_96 : Cond.methodLinkNest RX6 96 yX10_isWithin "SunBills" ∈ NWl := by decide +kernel
theorem ml_X6_103 : Cond.methodLink RX6 103 yX6_isWord ∈ UW := uw_in (tin_3 (List.mem_of_getElem? (i := 113) (by decide +kernel))) (by decide +kernel)
theorem ml_X6_106 : Cond.methodLink RX6 106 yX0_kindNamed ∈ UW := uw_in (tin_3 (List.mem_of_getElem? (i := 117) (by decide +kernel))) (by decide +kernel)
theorem ml_X6_113 : Cond.methodLink RX6 113 yX6_isNumber ∈ UW := uw_in (tin_3 (List.mem_of_getElem? (i := 124) (by decide +kernel))) (by decide +kernel)
theorem ml_X6_126 : Cond.methodLink RX6 126 yX0_houseNamed ∈ UW := uw_in (tin_3 (List.mem_of_getElem? (i := 139) (by decide +kernel))) (by decide +kernel)
theorem ml_X6_144 : Cond.methodLink RX6 144 yX0_kindTold ∈ UW := uw_in (tin_3 (List.mem_of_getElem? (i := 147) (by decide +kernel))) (by decide +kernel)
theorem ml_X6_170 : Cond.methodLink RX6 170 yX4_has ∈ UW := uw_in (tin_3 (List.mem_of_getElem? (i := 172) (by decide +kernel))) (by decide +kernel)
theorem ml_X6_173 : Cond.methodLink RX6 173 yX4_begin ∈ UW := uw_in (tin_3 (List.mem_of_getElem? (i := 176) (by decide +kernel))) (by decide +kernel)
theorem ml_X6_174 : Cond.methodLink RX6 174 yX6_readFormula ∈ UW := uw_in (tin_3 (List.mem_of_getElem? (i := 180) (by decide +kernel))) (by decide +kernel)
theorem ml_X6_177 : Cond.methodLink RX6 177 yX4_end ∈ UW := uw_in (tin_3 (List.mem_of_getElem? (i := 223) (by decide +kernel))) (by decide +kernel)
theorem ml_X6_186 : Cond.methodLink RX6 186 yX6_release ∈ UW := uw_in (tin_3 (List.mem_of_getElem? (i := 184) (by decide +kernel))) (by decide +kernel)
theorem ml_X6_189 : Cond.methodLink RX6 189 yX6_readBehindValue ∈ UW := uw_in (tin_3 (List.mem_of_getElem? (i := 195) (by decide +kernel))) (by decide +kernel)
theorem ml_X6_192 : Cond.methodLink RX6 192 yX6_readValue ∈ UW := uw_in (tin_3 (List.mem_of_getElem? (i := 211) (by decide +kernel))) (by decide +kernel)
theorem ml_X6_195 : Cond.methodLink RX6 195 yX7_isName ∈ UW := uw_in (tin_3 (List.mem_of_getElem? (i := 219) (by decide +kernel))) (by decide +kernel)
theorem ml_X6_198 : Cond.methodLink RX6 198 yX6_isKnot ∈ UW := uw_in (tin_3 (List.mem_of_getElem? (i := 203) (by decide +kernel))) (by decide +kernel)
theorem ml_X6_201 : Cond.methodLink RX6 201 yX6_puts ∈ UW := uw_in (tin_3 (List.mem_of_getElem? (i := 215) (by decide +kernel))) (by decide +kernel)
theorem ml_X6_204 : Cond.methodLink RX6 204 yX6_holds ∈ UW := uw_in (tin_3 (List.mem_of_getElem? (i := 207) (by decide +kernel))) (by decide +kernel)
theorem ml_X6_207 : Cond.methodLink RX6 207 yX6_rankOfLatest ∈ UW := uw_in (tin_3 (List.mem_of_getElem? (i := 199) (by decide +kernel))) (by decide +kernel)
theorem ml_X6_211 : Cond.methodLink RX6 211 yX6_rankOf ∈ UW := uw_in (tin_3 (List.mem_of_getElem? (i := 188) (by decide +kernel))) (by decide +kernel)
theorem ml_X6_217 : Cond.methodLink RX6 217 yX4_add ∈ UW := uw_in (tin_3 (List.mem_of_getElem? (i := 191) (by decide +kernel))) (by decide +kernel)
theorem ml_X7_29 : Cond.methodLink RX7 29 yX7_letter ∈ UW := uw_in (tin_2 (List.mem_of_getElem? (i := 2) (by decide +kernel))) (by decide +kernel)
theorem ml_X7_42 : Cond.methodLink RX7 42 yX7_signAt ∈ UW := uw_in (tin_3 (List.mem_of_getElem? (i := 76) (by decide +kernel))) (by decide +kernel)
theorem ml_X7_49 : Cond.methodLink RX7 49 yX7_isLetter ∈ UW := uw_in (tin_3 (List.mem_of_getElem? (i := 80) (by decide +kernel))) (by decide +kernel)
theorem ml_X7_53 : Cond.methodLink RX7 53 yX7_stepWord ∈ UW := uw_in (tin_3 (List.mem_of_getElem? (i := 83) (by decide +kernel))) (by decide +kernel)
theorem ml_X7_56 : Cond.methodLink RX7 56 yX7_isDigit ∈ UW := uw_in (tin_3 (List.mem_of_getElem? (i := 87) (by decide +kernel))) (by decide +kernel)
theorem ml_X7_59 : Cond.methodLink RX7 59 yX7_stepNumber ∈ UW := uw_in (tin_3 (List.mem_of_getElem? (i := 90) (by decide +kernel))) (by decide +kernel)
theorem ml_X7_62 : Cond.methodLink RX7 62 yX7_signToken ∈ UW := uw_in (tin_3 (List.mem_of_getElem? (i := 98) (by decide +kernel))) (by decide +kernel)
theorem ml_X7_69 : Cond.methodLink RX7 69 Lib.Math.min.name ∈ UW := uw_in (tin_3 (List.mem_of_getElem? (i := 95) (by decide +kernel))) (by decide +kernel)
theorem ml_X8_56 : Cond.methodLink RX8 56 yX8_worthOf ∈ UW := uw_in (tin_5 (List.mem_of_getElem? (i := 28) (by decide +kernel))) (by decide +kernel)
theorem ml_X9_29 : Cond.methodLink RX9 29 yX9_add ∈ UW := uw_in (tin_4 (List.mem_of_getElem? (i := 148) (by decide +kernel))) (by decide +kernel)
theorem ml_X9_38 : Cond.methodLink RX9 38 yX9_forgetFirst ∈ UW := uw_in (tin_4 (List.mem_of_getElem? (i := 152) (by decide +kernel))) (by decide +kernel)
theorem mw_X0_clear : MWc yX0_clear cX0_clear 2 none 0 := ⟨uw_in (tin_1 (List.mem_of_getElem? (i := 71) rfl)) rfl, uw_in (tin_1 (List.mem_of_getElem? (i := 2) (by decide +kernel))) (by decide +kernel), by decide +kernel, by decide +kernel, by decide +kernel⟩
theorem mv_X0_clear : MWv yX0_clear 0 := ⟨uw_in (tin_1 (List.mem_of_getElem? (i := 69) (by decide +kernel))) (by decide +kernel), uw_in (tin_1 (List.mem_of_getElem? (i := 70) (by decide +kernel))) (by decide +kernel), rfl⟩
theorem mw_X0_settle : MWc yX0_settle cX0_settle 2 none 0 := ⟨uw_in (tin_1 (List.mem_of_getElem? (i := 79) rfl)) rfl, uw_in (tin_1 (List.mem_of_getElem? (i := 2) (by decide +kernel))) (by decide +kernel), by decide +kernel, by decide +kernel, by decide +kernel⟩
theorem mv_X0_settle : MWv yX0_settle 0 := ⟨uw_in (tin_1 (List.mem_of_getElem? (i := 77) (by decide +kernel))) (by decide +kernel), uw_in (tin_1 (List.mem_of_getElem? (i := 78) (by decide +kernel))) (by decide +kernel), rfl⟩
theorem mw_X0_kindNamed : MWc yX0_kindNamed cX0_kindNamed 2 (some .int) 1 := ⟨uw_in (tin_3 (List.mem_of_getElem? (i := 120) rfl)) rfl, uw_in (tin_1 (List.mem_of_getElem? (i := 2) (by decide +kernel))) (by decide +kernel), by decide +kernel, by decide +kernel, by decide +kernel⟩
theorem mv_X0_kindNamed : MWv yX0_kindNamed 0 := ⟨uw_in (tin_3 (List.mem_of_getElem? (i := 118) (by decide +kernel))) (by decide +kernel), uw_in (tin_3 (List.mem_of_getElem? (i := 119) (by decide +kernel))) (by decide +kernel), rfl⟩
theorem mw_X0_houseNamed : MWc yX0_houseNamed cX0_houseNamed 2 (some .int) 1 := ⟨uw_in (tin_3 (List.mem_of_getElem? (i := 142) rfl)) rfl, uw_in (tin_1 (List.mem_of_getElem? (i := 2) (by decide +kernel))) (by decide +kernel), by decide +kernel, by decide +kernel, by decide +kernel⟩
theorem mv_X0_houseNamed : MWv yX0_houseNamed 0 := ⟨uw_in (tin_3 (List.mem_of_getElem? (i := 140) (by decide +kernel))) (by decide +kernel), uw_in (tin_3 (List.mem_of_getElem? (i := 141) (by decide +kernel))) (by decide +kernel), rfl⟩
theorem mw_X0_placeOf : MWc yX0_placeOf cX0_placeOf 4 (some .int) 3 := ⟨uw_in (tin_3 (List.mem_of_getElem? (i := 123) rfl)) rfl, uw_in (tin_1 (List.mem_of_getElem? (i := 2) (by decide +kernel))) (by decide +kernel), by decide +kernel, by decide +kernel, by decide +kernel⟩
theorem mst_X0_placeOf : Cond.static yX0_placeOf ∈ UW := uw_in (tin_3 (List.mem_of_getElem? (i := 122) (by decide +kernel))) (by decide +kernel)
theorem mw_X0_kindTold : MWc yX0_kindTold cX0_kindTold 2 (some .int) 1 := ⟨uw_in (tin_3 (List.mem_of_getElem? (i := 150) rfl)) rfl, uw_in (tin_1 (List.mem_of_getElem? (i := 2) (by decide +kernel))) (by decide +kernel), by decide +kernel, by decide +kernel, by decide +kernel⟩
theorem mv_X0_kindTold : MWv yX0_kindTold 0 := ⟨uw_in (tin_3 (List.mem_of_getElem? (i := 148) (by decide +kernel))) (by decide +kernel), uw_in (tin_3 (List.mem_of_getElem? (i := 149) (by decide +kernel))) (by decide +kernel), rfl⟩
theorem mw_X0_kindAsItGoes : MWc yX0_kindAsItGoes cX0_kindAsItGoes 3 (some .int) 1 := ⟨uw_in (tin_4 (List.mem_of_getElem? (i := 25) rfl)) rfl, uw_in (tin_1 (List.mem_of_getElem? (i := 2) (by decide +kernel))) (by decide +kernel), by decide +kernel, by decide +kernel, by decide +kernel⟩
theorem mv_X0_kindAsItGoes : MWv yX0_kindAsItGoes 0 := ⟨uw_in (tin_4 (List.mem_of_getElem? (i := 23) (by decide +kernel))) (by decide +kernel), uw_in (tin_4 (List.mem_of_getElem? (i := 24) (by decide +kernel))) (by decide +kernel), rfl⟩
theorem mw_X0_kindByNumber : MWc yX0_kindByNumber cX0_kindByNumber 4 (some .int) 1 := ⟨uw_in (tin_4 (List.mem_of_getElem? (i := 197) rfl)) rfl, uw_in (tin_1 (List.mem_of_getElem? (i := 2) (by decide +kernel))) (by decide +kernel), by decide +kernel, by decide +kernel, by decide +kernel⟩
theorem mv_X0_kindByNumber : MWv yX0_kindByNumber 0 := ⟨uw_in (tin_4 (List.mem_of_getElem? (i := 195) (by decide +kernel))) (by decide +kernel), uw_in (tin_4 (List.mem_of_getElem? (i := 196) (by decide +kernel))) (by decide +kernel), rfl⟩
theorem mw_X0_alone : MWc yX0_alone cX0_alone 3 (some .int) 2 := ⟨uw_in (tin_5 (List.mem_of_getElem? (i := 62) rfl)) rfl, uw_in (tin_1 (List.mem_of_getElem? (i := 2) (by decide +kernel))) (by decide +kernel), by decide +kernel, by decide +kernel, by decide +kernel⟩
theorem mv_X0_alone : MWv yX0_alone 0 := ⟨uw_in (tin_5 (List.mem_of_getElem? (i := 60) (by decide +kernel))) (by decide +kernel), uw_in (tin_5 (List.mem_of_getElem? (i := 61) (by decide +kernel))) (by decide +kernel), rfl⟩
theorem mw_X0_daysToTerm : MWc yX0_daysToTerm cX0_daysToTerm 2 (some .int) 1 := ⟨uw_in (tin_4 (List.mem_of_getElem? (i := 124) rfl)) rfl, uw_in (tin_1 (List.mem_of_getElem? (i := 2) (by decide +kernel))) (by decide +kernel), by decide +kernel, by decide +kernel, by decide +kernel⟩
theorem mv_X0_daysToTerm : MWv yX0_daysToTerm 0 := ⟨uw_in (tin_4 (List.mem_of_getElem? (i := 122) (by decide +kernel))) (by decide +kernel), uw_in (tin_4 (List.mem_of_getElem? (i := 123) (by decide +kernel))) (by decide +kernel), rfl⟩
theorem mw_X1_plain : MWc yX1_plain cX1_plain 1 none 0 := ⟨uw_in (tin_4 (List.mem_of_getElem? (i := 39) rfl)) rfl, uw_in (tin_1 (List.mem_of_getElem? (i := 11) (by decide +kernel))) (by decide +kernel), by decide +kernel, by decide +kernel, by decide +kernel⟩
theorem mv_X1_plain : MWv yX1_plain 1 := ⟨uw_in (tin_4 (List.mem_of_getElem? (i := 37) (by decide +kernel))) (by decide +kernel), uw_in (tin_4 (List.mem_of_getElem? (i := 38) (by decide +kernel))) (by decide +kernel), rfl⟩
theorem mw_X1_pass : MWc yX1_pass cX1_pass 6 none 3 := ⟨uw_in (tin_4 (List.mem_of_getElem? (i := 181) rfl)) rfl, uw_in (tin_1 (List.mem_of_getElem? (i := 11) (by decide +kernel))) (by decide +kernel), by decide +kernel, by decide +kernel, by decide +kernel⟩
theorem mv_X1_pass : MWv yX1_pass 1 := ⟨uw_in (tin_4 (List.mem_of_getElem? (i := 179) (by decide +kernel))) (by decide +kernel), uw_in (tin_4 (List.mem_of_getElem? (i := 180) (by decide +kernel))) (by decide +kernel), rfl⟩
theorem mw_X1_isMeant : MWc yX1_isMeant cX1_isMeant 2 (some .boolean) 2 := ⟨uw_in (tin_4 (List.mem_of_getElem? (i := 200) rfl)) rfl, uw_in (tin_1 (List.mem_of_getElem? (i := 11) (by decide +kernel))) (by decide +kernel), by decide +kernel, by decide +kernel, by decide +kernel⟩
theorem mst_X1_isMeant : Cond.static yX1_isMeant ∈ UW := uw_in (tin_4 (List.mem_of_getElem? (i := 199) (by decide +kernel))) (by decide +kernel)
theorem mw_X1_kindOf : MWc yX1_kindOf cX1_kindOf 4 (some .int) 2 := ⟨uw_in (tin_4 (List.mem_of_getElem? (i := 185) rfl)) rfl, uw_in (tin_1 (List.mem_of_getElem? (i := 11) (by decide +kernel))) (by decide +kernel), by decide +kernel, by decide +kernel, by decide +kernel⟩
theorem mv_X1_kindOf : MWv yX1_kindOf 1 := ⟨uw_in (tin_4 (List.mem_of_getElem? (i := 184) (by decide +kernel))) (by decide +kernel), uw_in (List.mem_of_getElem? (i := 34) (by decide +kernel)) (by decide +kernel), rfl⟩
theorem mw_X1_worth : MWc yX1_worth cX1_worth 3 (some .int) 2 := ⟨uw_in (tin_4 (List.mem_of_getElem? (i := 47) rfl)) rfl, uw_in (tin_1 (List.mem_of_getElem? (i := 11) (by decide +kernel))) (by decide +kernel), by decide +kernel, by decide +kernel, by decide +kernel⟩
theorem mv_X1_worth : MWv yX1_worth 1 := ⟨uw_in (tin_4 (List.mem_of_getElem? (i := 46) (by decide +kernel))) (by decide +kernel), uw_in (List.mem_of_getElem? (i := 27) (by decide +kernel)) (by decide +kernel), rfl⟩
theorem mw_X1_eager : MWc yX1_eager cX1_eager 3 (some .int) 2 := ⟨uw_in (tin_4 (List.mem_of_getElem? (i := 51) rfl)) rfl, uw_in (tin_1 (List.mem_of_getElem? (i := 11) (by decide +kernel))) (by decide +kernel), by decide +kernel, by decide +kernel, by decide +kernel⟩
theorem mv_X1_eager : MWv yX1_eager 1 := ⟨uw_in (tin_4 (List.mem_of_getElem? (i := 50) (by decide +kernel))) (by decide +kernel), uw_in (List.mem_of_getElem? (i := 28) (by decide +kernel)) (by decide +kernel), rfl⟩
theorem mw_X1_name : MWc yX1_name cX1_name 5 none 4 := ⟨uw_in (tin_4 (List.mem_of_getElem? (i := 43) rfl)) rfl, uw_in (tin_1 (List.mem_of_getElem? (i := 11) (by decide +kernel))) (by decide +kernel), by decide +kernel, by decide +kernel, by decide +kernel⟩
theorem mv_X1_name : MWv yX1_name 1 := ⟨uw_in (tin_4 (List.mem_of_getElem? (i := 41) (by decide +kernel))) (by decide +kernel), uw_in (tin_4 (List.mem_of_getElem? (i := 42) (by decide +kernel))) (by decide +kernel), rfl⟩
theorem mw_X1_look : MWc yX1_look cX1_look 11 none 4 := ⟨uw_in (tin_4 (List.mem_of_getElem? (i := 204) rfl)) rfl, uw_in (tin_1 (List.mem_of_getElem? (i := 11) (by decide +kernel))) (by decide +kernel), by decide +kernel, by decide +kernel, by decide +kernel⟩
theorem mv_X1_look : MWv yX1_look 1 := ⟨uw_in (tin_4 (List.mem_of_getElem? (i := 203) (by decide +kernel))) (by decide +kernel), uw_in (List.mem_of_getElem? (i := 35) (by decide +kernel)) (by decide +kernel), rfl⟩
theorem mw_X1_clamped : MWc yX1_clamped cX1_clamped 4 (some .int) 3 := ⟨uw_in (tin_4 (List.mem_of_getElem? (i := 210) rfl)) rfl, uw_in (tin_1 (List.mem_of_getElem? (i := 11) (by decide +kernel))) (by decide +kernel), by decide +kernel, by decide +kernel, by decide +kernel⟩
theorem mst_X1_clamped : Cond.static yX1_clamped ∈ UW := uw_in (tin_4 (List.mem_of_getElem? (i := 209) (by decide +kernel))) (by decide +kernel)
theorem mw_X1_pay : MWc yX1_pay cX1_pay 4 none 3 := ⟨uw_in (tin_4 (List.mem_of_getElem? (i := 223) rfl)) rfl, uw_in (tin_1 (List.mem_of_getElem? (i := 11) (by decide +kernel))) (by decide +kernel), by decide +kernel, by decide +kernel, by decide +kernel⟩
theorem mst_X1_pay : Cond.static yX1_pay ∈ UW := uw_in (tin_4 (List.mem_of_getElem? (i := 222) (by decide +kernel))) (by decide +kernel)
theorem mw_X2_clear : MWc yX2_clear cX2_clear 1 none 0 := ⟨uw_in (tin_3 (List.mem_of_getElem? (i := 231) rfl)) rfl, uw_in (tin_1 (List.mem_of_getElem? (i := 13) (by decide +kernel))) (by decide +kernel), by decide +kernel, by decide +kernel, by decide +kernel⟩
theorem mv_X2_clear : MWv yX2_clear 2 := ⟨uw_in (tin_3 (List.mem_of_getElem? (i := 229) (by decide +kernel))) (by decide +kernel), uw_in (tin_3 (List.mem_of_getElem? (i := 230) (by decide +kernel))) (by decide +kernel), rfl⟩
theorem mw_X2_knownCount : MWc yX2_knownCount cX2_knownCount 1 (some .int) 0 := ⟨uw_in (tin_4 (List.mem_of_getElem? (i := 139) rfl)) rfl, uw_in (tin_1 (List.mem_of_getElem? (i := 13) (by decide +kernel))) (by decide +kernel), by decide +kernel, by decide +kernel, by decide +kernel⟩
theorem mv_X2_knownCount : MWv yX2_knownCount 2 := ⟨uw_in (tin_4 (List.mem_of_getElem? (i := 137) (by decide +kernel))) (by decide +kernel), uw_in (tin_4 (List.mem_of_getElem? (i := 138) (by decide +kernel))) (by decide +kernel), rfl⟩
theorem mw_X2_addNote : MWc yX2_addNote cX2_addNote 5 (some .int) 4 := ⟨uw_in (tin_5 (List.mem_of_getElem? (i := 174) rfl)) rfl, uw_in (tin_1 (List.mem_of_getElem? (i := 13) (by decide +kernel))) (by decide +kernel), by decide +kernel, by decide +kernel, by decide +kernel⟩
theorem mv_X2_addNote : MWv yX2_addNote 2 := ⟨uw_in (tin_5 (List.mem_of_getElem? (i := 172) (by decide +kernel))) (by decide +kernel), uw_in (tin_5 (List.mem_of_getElem? (i := 173) (by decide +kernel))) (by decide +kernel), rfl⟩
theorem mw_X2_addStrike : MWc yX2_addStrike cX2_addStrike 2 (some .int) 1 := ⟨uw_in (tin_5 (List.mem_of_getElem? (i := 182) rfl)) rfl, uw_in (tin_1 (List.mem_of_getElem? (i := 13) (by decide +kernel))) (by decide +kernel), by decide +kernel, by decide +kernel, by decide +kernel⟩
theorem mv_X2_addStrike : MWv yX2_addStrike 2 := ⟨uw_in (tin_5 (List.mem_of_getElem? (i := 180) (by decide +kernel))) (by decide +kernel), uw_in (tin_5 (List.mem_of_getElem? (i := 181) (by decide +kernel))) (by decide +kernel), rfl⟩
theorem mw_X2_findStruck : MWc yX2_findStruck cX2_findStruck 2 none 0 := ⟨uw_in (tin_5 (List.mem_of_getElem? (i := 200) rfl)) rfl, uw_in (tin_1 (List.mem_of_getElem? (i := 13) (by decide +kernel))) (by decide +kernel), by decide +kernel, by decide +kernel, by decide +kernel⟩
theorem mv_X2_findStruck : MWv yX2_findStruck 2 := ⟨uw_in (tin_5 (List.mem_of_getElem? (i := 199) (by decide +kernel))) (by decide +kernel), uw_in (List.mem_of_getElem? (i := 49) (by decide +kernel)) (by decide +kernel), rfl⟩
theorem mw_X2_fitting : MWc yX2_fitting cX2_fitting 5 (some .int) 2 := ⟨uw_in (tin_5 (List.mem_of_getElem? (i := 196) rfl)) rfl, uw_in (tin_1 (List.mem_of_getElem? (i := 13) (by decide +kernel))) (by decide +kernel), by decide +kernel, by decide +kernel, by decide +kernel⟩
theorem mv_X2_fitting : MWv yX2_fitting 2 := ⟨uw_in (tin_5 (List.mem_of_getElem? (i := 194) (by decide +kernel))) (by decide +kernel), uw_in (tin_5 (List.mem_of_getElem? (i := 195) (by decide +kernel))) (by decide +kernel), rfl⟩
theorem mw_X2_isFitting : MWc yX2_isFitting cX2_isFitting 6 (some .boolean) 3 := ⟨uw_in (tin_5 (List.mem_of_getElem? (i := 205) rfl)) rfl, uw_in (tin_1 (List.mem_of_getElem? (i := 13) (by decide +kernel))) (by decide +kernel), by decide +kernel, by decide +kernel, by decide +kernel⟩
theorem mv_X2_isFitting : MWv yX2_isFitting 2 := ⟨uw_in (tin_5 (List.mem_of_getElem? (i := 204) (by decide +kernel))) (by decide +kernel), uw_in (List.mem_of_getElem? (i := 50) (by decide +kernel)) (by decide +kernel), rfl⟩
theorem mw_X3_put : MWc yX3_put cX3_put 7 none 2 := ⟨uw_in (tin_5 (List.mem_of_getElem? (i := 102) rfl)) rfl, uw_in (tin_1 (List.mem_of_getElem? (i := 15) (by decide +kernel))) (by decide +kernel), by decide +kernel, by decide +kernel, by decide +kernel⟩
theorem mv_X3_put : MWv yX3_put 3 := ⟨uw_in (tin_5 (List.mem_of_getElem? (i := 100) (by decide +kernel))) (by decide +kernel), uw_in (tin_5 (List.mem_of_getElem? (i := 101) (by decide +kernel))) (by decide +kernel), rfl⟩
theorem mw_X3_told : MWc yX3_told cX3_told 2 (some .long) 1 := ⟨uw_in (tin_5 (List.mem_of_getElem? (i := 109) rfl)) rfl, uw_in (tin_1 (List.mem_of_getElem? (i := 15) (by decide +kernel))) (by decide +kernel), by decide +kernel, by decide +kernel, by decide +kernel⟩
theorem mv_X3_told : MWv yX3_told 3 := ⟨uw_in (tin_5 (List.mem_of_getElem? (i := 107) (by decide +kernel))) (by decide +kernel), uw_in (tin_5 (List.mem_of_getElem? (i := 108) (by decide +kernel))) (by decide +kernel), rfl⟩
theorem mw_X3_commonOf : MWc yX3_commonOf cX3_commonOf 11 (some .long) 2 := ⟨uw_in (tin_5 (List.mem_of_getElem? (i := 105) rfl)) rfl, uw_in (tin_1 (List.mem_of_getElem? (i := 15) (by decide +kernel))) (by decide +kernel), by decide +kernel, by decide +kernel, by decide +kernel⟩
theorem mst_X3_commonOf : Cond.static yX3_commonOf ∈ UW := uw_in (tin_5 (List.mem_of_getElem? (i := 104) (by decide +kernel))) (by decide +kernel)
theorem mw_X4_clear : MWc yX4_clear cX4_clear 2 none 0 := ⟨uw_in (tin_1 (List.mem_of_getElem? (i := 75) rfl)) rfl, uw_in (tin_1 (List.mem_of_getElem? (i := 3) (by decide +kernel))) (by decide +kernel), by decide +kernel, by decide +kernel, by decide +kernel⟩
theorem mv_X4_clear : MWv yX4_clear 4 := ⟨uw_in (tin_1 (List.mem_of_getElem? (i := 73) (by decide +kernel))) (by decide +kernel), uw_in (tin_1 (List.mem_of_getElem? (i := 74) (by decide +kernel))) (by decide +kernel), rfl⟩
theorem mw_X4_has : MWc yX4_has cX4_has 2 (some .boolean) 1 := ⟨uw_in (tin_3 (List.mem_of_getElem? (i := 175) rfl)) rfl, uw_in (tin_1 (List.mem_of_getElem? (i := 3) (by decide +kernel))) (by decide +kernel), by decide +kernel, by decide +kernel, by decide +kernel⟩
theorem mv_X4_has : MWv yX4_has 4 := ⟨uw_in (tin_3 (List.mem_of_getElem? (i := 173) (by decide +kernel))) (by decide +kernel), uw_in (tin_3 (List.mem_of_getElem? (i := 174) (by decide +kernel))) (by decide +kernel), rfl⟩
theorem mw_X4_begin : MWc yX4_begin cX4_begin 2 none 1 := ⟨uw_in (tin_3 (List.mem_of_getElem? (i := 179) rfl)) rfl, uw_in (tin_1 (List.mem_of_getElem? (i := 3) (by decide +kernel))) (by decide +kernel), by decide +kernel, by decide +kernel, by decide +kernel⟩
theorem mv_X4_begin : MWv yX4_begin 4 := ⟨uw_in (tin_3 (List.mem_of_getElem? (i := 177) (by decide +kernel))) (by decide +kernel), uw_in (tin_3 (List.mem_of_getElem? (i := 178) (by decide +kernel))) (by decide +kernel), rfl⟩
theorem mw_X4_end : MWc yX4_end cX4_end 2 none 1 := ⟨uw_in (tin_3 (List.mem_of_getElem? (i := 226) rfl)) rfl, uw_in (tin_1 (List.mem_of_getElem? (i := 3) (by decide +kernel))) (by decide +kernel), by decide +kernel, by decide +kernel, by decide +kernel⟩
theorem mv_X4_end : MWv yX4_end 4 := ⟨uw_in (tin_3 (List.mem_of_getElem? (i := 224) (by decide +kernel))) (by decide +kernel), uw_in (tin_3 (List.mem_of_getElem? (i := 225) (by decide +kernel))) (by decide +kernel), rfl⟩
theorem mw_X4_add : MWc yX4_add cX4_add 2 none 1 := ⟨uw_in (tin_3 (List.mem_of_getElem? (i := 194) rfl)) rfl, uw_in (tin_1 (List.mem_of_getElem? (i := 3) (by decide +kernel))) (by decide +kernel), by decide +kernel, by decide +kernel, by decide +kernel⟩
theorem mv_X4_add : MWv yX4_add 4 := ⟨uw_in (tin_3 (List.mem_of_getElem? (i := 192) (by decide +kernel))) (by decide +kernel), uw_in (tin_3 (List.mem_of_getElem? (i := 193) (by decide +kernel))) (by decide +kernel), rfl⟩
theorem mw_X4_value : MWc yX4_value cX4_value 7 (some .long) 2 := ⟨uw_in (tin_4 (List.mem_of_getElem? (i := 55) rfl)) rfl, uw_in (tin_1 (List.mem_of_getElem? (i := 3) (by decide +kernel))) (by decide +kernel), by decide +kernel, by decide +kernel, by decide +kernel⟩
theorem mv_X4_value : MWv yX4_value 4 := ⟨uw_in (tin_4 (List.mem_of_getElem? (i := 53) (by decide +kernel))) (by decide +kernel), uw_in (tin_4 (List.mem_of_getElem? (i := 54) (by decide +kernel))) (by decide +kernel), rfl⟩
theorem mw_X4_operand : MWc yX4_operand cX4_operand 3 (some .long) 2 := ⟨uw_in (tin_4 (List.mem_of_getElem? (i := 60) rfl)) rfl, uw_in (tin_1 (List.mem_of_getElem? (i := 3) (by decide +kernel))) (by decide +kernel), by decide +kernel, by decide +kernel, by decide +kernel⟩
theorem mst_X4_operand : Cond.static yX4_operand ∈ UW := uw_in (tin_4 (List.mem_of_getElem? (i := 59) (by decide +kernel))) (by decide +kernel)
theorem mw_X4_truth : MWc yX4_truth cX4_truth 1 (some .long) 1 := ⟨uw_in (tin_4 (List.mem_of_getElem? (i := 63) rfl)) rfl, uw_in (tin_1 (List.mem_of_getElem? (i := 3) (by decide +kernel))) (by decide +kernel), by decide +kernel, by decide +kernel, by decide +kernel⟩
theorem mst_X4_truth : Cond.static yX4_truth ∈ UW := uw_in (tin_4 (List.mem_of_getElem? (i := 62) (by decide +kernel))) (by decide +kernel)
theorem mw_X4_joined : MWc yX4_joined cX4_joined 5 (some .long) 3 := ⟨uw_in (tin_4 (List.mem_of_getElem? (i := 66) rfl)) rfl, uw_in (tin_1 (List.mem_of_getElem? (i := 3) (by decide +kernel))) (by decide +kernel), by decide +kernel, by decide +kernel, by decide +kernel⟩
theorem mst_X4_joined : Cond.static yX4_joined ∈ UW := uw_in (tin_4 (List.mem_of_getElem? (i := 65) (by decide +kernel))) (by decide +kernel)
theorem mw_X4_limited : MWc yX4_limited cX4_limited 2 (some .long) 1 := ⟨uw_in (tin_4 (List.mem_of_getElem? (i := 69) rfl)) rfl, uw_in (tin_1 (List.mem_of_getElem? (i := 3) (by decide +kernel))) (by decide +kernel), by decide +kernel, by decide +kernel, by decide +kernel⟩
theorem mst_X4_limited : Cond.static yX4_limited ∈ UW := uw_in (tin_4 (List.mem_of_getElem? (i := 68) (by decide +kernel))) (by decide +kernel)
theorem mw_X4_product : MWc yX4_product cX4_product 8 (some .long) 2 := ⟨uw_in (tin_4 (List.mem_of_getElem? (i := 74) rfl)) rfl, uw_in (tin_1 (List.mem_of_getElem? (i := 3) (by decide +kernel))) (by decide +kernel), by decide +kernel, by decide +kernel, by decide +kernel⟩
theorem mst_X4_product : Cond.static yX4_product ∈ UW := uw_in (tin_4 (List.mem_of_getElem? (i := 73) (by decide +kernel))) (by decide +kernel)
theorem mw_X5_lay : MWc yX5_lay cX5_lay 5 none 2 := ⟨uw_in (tin_5 (List.mem_of_getElem? (i := 48) rfl)) rfl, uw_in (tin_1 (List.mem_of_getElem? (i := 14) (by decide +kernel))) (by decide +kernel), by decide +kernel, by decide +kernel, by decide +kernel⟩
theorem mv_X5_lay : MWv yX5_lay 5 := ⟨uw_in (tin_5 (List.mem_of_getElem? (i := 46) (by decide +kernel))) (by decide +kernel), uw_in (tin_5 (List.mem_of_getElem? (i := 47) (by decide +kernel))) (by decide +kernel), rfl⟩
theorem mw_X5_hasDay : MWc yX5_hasDay cX5_hasDay 6 (some .boolean) 3 := ⟨uw_in (tin_5 (List.mem_of_getElem? (i := 52) rfl)) rfl, uw_in (tin_1 (List.mem_of_getElem? (i := 14) (by decide +kernel))) (by decide +kernel), by decide +kernel, by decide +kernel, by decide +kernel⟩
theorem mv_X5_hasDay : MWv yX5_hasDay 5 := ⟨uw_in (tin_5 (List.mem_of_getElem? (i := 51) (by decide +kernel))) (by decide +kernel), uw_in (List.mem_of_getElem? (i := 39) (by decide +kernel)) (by decide +kernel), rfl⟩
theorem mw_X5_comesAhead : MWc yX5_comesAhead cX5_comesAhead 4 (some .boolean) 3 := ⟨uw_in (tin_5 (List.mem_of_getElem? (i := 55) rfl)) rfl, uw_in (tin_1 (List.mem_of_getElem? (i := 14) (by decide +kernel))) (by decide +kernel), by decide +kernel, by decide +kernel, by decide +kernel⟩
theorem mst_X5_comesAhead : Cond.static yX5_comesAhead ∈ UW := uw_in (tin_5 (List.mem_of_getElem? (i := 54) (by decide +kernel))) (by decide +kernel)
theorem mw_X5_firstFree : MWc yX5_firstFree cX5_firstFree 6 (some .int) 4 := ⟨uw_in (tin_5 (List.mem_of_getElem? (i := 66) rfl)) rfl, uw_in (tin_1 (List.mem_of_getElem? (i := 14) (by decide +kernel))) (by decide +kernel), by decide +kernel, by decide +kernel, by decide +kernel⟩
theorem mv_X5_firstFree : MWv yX5_firstFree 5 := ⟨uw_in (tin_5 (List.mem_of_getElem? (i := 65) (by decide +kernel))) (by decide +kernel), uw_in (List.mem_of_getElem? (i := 40) (by decide +kernel)) (by decide +kernel), rfl⟩
theorem mw_X5_cost : MWc yX5_cost cX5_cost 2 (some .int) 2 := ⟨uw_in (tin_5 (List.mem_of_getElem? (i := 58) rfl)) rfl, uw_in (tin_1 (List.mem_of_getElem? (i := 14) (by decide +kernel))) (by decide +kernel), by decide +kernel, by decide +kernel, by decide +kernel⟩
theorem mst_X5_cost : Cond.static yX5_cost ∈ UW := uw_in (tin_5 (List.mem_of_getElem? (i := 57) (by decide +kernel))) (by decide +kernel)
theorem mw_X6_read : MWc yX6_read cX6_read 3 (some .boolean) 2 := ⟨uw_in (tin_3 (List.mem_of_getElem? (i := 66) rfl)) rfl, uw_in (tin_1 (List.mem_of_getElem? (i := 4) (by decide +kernel))) (by decide +kernel), by decide +kernel, by decide +kernel, by decide +kernel⟩
theorem mv_X6_read : MWv yX6_read 6 := ⟨uw_in (tin_3 (List.mem_of_getElem? (i := 64) (by decide +kernel))) (by decide +kernel), uw_in (tin_3 (List.mem_of_getElem? (i := 65) (by decide +kernel))) (by decide +kernel), rfl⟩
theorem mw_X6_readLine : MWc yX6_readLine cX6_readLine 1 (some .boolean) 0 := ⟨uw_in (tin_3 (List.mem_of_getElem? (i := 104) rfl)) rfl, uw_in (tin_1 (List.mem_of_getElem? (i := 4) (by decide +kernel))) (by decide +kernel), by decide +kernel, by decide +kernel, by decide +kernel⟩
theorem mv_X6_readLine : MWv yX6_readLine 6 := ⟨uw_in (tin_3 (List.mem_of_getElem? (i := 103) (by decide +kernel))) (by decide +kernel), uw_in (List.mem_of_getElem? (i := 4) (by decide +kernel)) (by decide +kernel), rfl⟩
theorem mw_X6_fails : MWc yX6_fails cX6_fails 2 (some .boolean) 1 := ⟨uw_in (tin_3 (List.mem_of_getElem? (i := 112) rfl)) rfl, uw_in (tin_1 (List.mem_of_getElem? (i := 4) (by decide +kernel))) (by decide +kernel), by decide +kernel, by decide +kernel, by decide +kernel⟩
theorem mv_X6_fails : MWv yX6_fails 6 := ⟨uw_in (tin_3 (List.mem_of_getElem? (i := 111) (by decide +kernel))) (by decide +kernel), uw_in (List.mem_of_getElem? (i := 6) (by decide +kernel)) (by decide +kernel), rfl⟩
theorem mw_X6_isEnd : MWc yX6_isEnd cX6_isEnd 1 (some .boolean) 0 := ⟨uw_in (tin_3 (List.mem_of_getElem? (i := 134) rfl)) rfl, uw_in (tin_1 (List.mem_of_getElem? (i := 4) (by decide +kernel))) (by decide +kernel), by decide +kernel, by decide +kernel, by decide +kernel⟩
theorem mv_X6_isEnd : MWv yX6_isEnd 6 := ⟨uw_in (tin_3 (List.mem_of_getElem? (i := 133) (by decide +kernel))) (by decide +kernel), uw_in (List.mem_of_getElem? (i := 9) (by decide +kernel)) (by decide +kernel), rfl⟩
theorem mw_X6_isWord : MWc yX6_isWord cX6_isWord 1 (some .boolean) 0 := ⟨uw_in (tin_3 (List.mem_of_getElem? (i := 116) rfl)) rfl, uw_in (tin_1 (List.mem_of_getElem? (i := 4) (by decide +kernel))) (by decide +kernel), by decide +kernel, by decide +kernel, by decide +kernel⟩
theorem mv_X6_isWord : MWv yX6_isWord 6 := ⟨uw_in (tin_3 (List.mem_of_getElem? (i := 115) (by decide +kernel))) (by decide +kernel), uw_in (List.mem_of_getElem? (i := 7) (by decide +kernel)) (by decide +kernel), rfl⟩
theorem mw_X6_isNumber : MWc yX6_isNumber cX6_isNumber 3 (some .boolean) 2 := ⟨uw_in (tin_3 (List.mem_of_getElem? (i := 127) rfl)) rfl, uw_in (tin_1 (List.mem_of_getElem? (i := 4) (by decide +kernel))) (by decide +kernel), by decide +kernel, by decide +kernel, by decide +kernel⟩
theorem mv_X6_isNumber : MWv yX6_isNumber 6 := ⟨uw_in (tin_3 (List.mem_of_getElem? (i := 126) (by decide +kernel))) (by decide +kernel), uw_in (List.mem_of_getElem? (i := 8) (by decide +kernel)) (by decide +kernel), rfl⟩
theorem mw_X6_readKind : MWc yX6_readKind cX6_readKind 2 (some .boolean) 0 := ⟨uw_in (tin_3 (List.mem_of_getElem? (i := 108) rfl)) rfl, uw_in (tin_1 (List.mem_of_getElem? (i := 4) (by decide +kernel))) (by decide +kernel), by decide +kernel, by decide +kernel, by decide +kernel⟩
theorem mv_X6_readKind : MWv yX6_readKind 6 := ⟨uw_in (tin_3 (List.mem_of_getElem? (i := 107) (by decide +kernel))) (by decide +kernel), uw_in (List.mem_of_getElem? (i := 5) (by decide +kernel)) (by decide +kernel), rfl⟩
theorem mw_X6_readHouse : MWc yX6_readHouse cX6_readHouse 2 (some .boolean) 0 := ⟨uw_in (tin_3 (List.mem_of_getElem? (i := 138) rfl)) rfl, uw_in (tin_1 (List.mem_of_getElem? (i := 4) (by decide +kernel))) (by decide +kernel), by decide +kernel, by decide +kernel, by decide +kernel⟩
theorem mv_X6_readHouse : MWv yX6_readHouse 6 := ⟨uw_in (tin_3 (List.mem_of_getElem? (i := 137) (by decide +kernel))) (by decide +kernel), uw_in (List.mem_of_getElem? (i := 10) (by decide +kernel)) (by decide +kernel), rfl⟩
theorem mw_X6_readDay : MWc yX6_readDay cX6_readDay 3 (some .boolean) 0 := ⟨uw_in (tin_3 (List.mem_of_getElem? (i := 146) rfl)) rfl, uw_in (tin_1 (List.mem_of_getElem? (i := 4) (by decide +kernel))) (by decide +kernel), by decide +kernel, by decide +kernel, by decide +kernel⟩
theorem mv_X6_readDay : MWv yX6_readDay 6 := ⟨uw_in (tin_3 (List.mem_of_getElem? (i := 145) (by decide +kernel))) (by decide +kernel), uw_in (List.mem_of_getElem? (i := 11) (by decide +kernel)) (by decide +kernel), rfl⟩
theorem mw_X6_readWork : MWc yX6_readWork cX6_readWork 2 (some .boolean) 0 := ⟨uw_in (tin_3 (List.mem_of_getElem? (i := 158) rfl)) rfl, uw_in (tin_1 (List.mem_of_getElem? (i := 4) (by decide +kernel))) (by decide +kernel), by decide +kernel, by decide +kernel, by decide +kernel⟩
theorem mv_X6_readWork : MWv yX6_readWork 6 := ⟨uw_in (tin_3 (List.mem_of_getElem? (i := 157) (by decide +kernel))) (by decide +kernel), uw_in (List.mem_of_getElem? (i := 12) (by decide +kernel)) (by decide +kernel), rfl⟩
theorem mw_X6_readTerm : MWc yX6_readTerm cX6_readTerm 1 (some .boolean) 0 := ⟨uw_in (tin_3 (List.mem_of_getElem? (i := 162) rfl)) rfl, uw_in (tin_1 (List.mem_of_getElem? (i := 4) (by decide +kernel))) (by decide +kernel), by decide +kernel, by decide +kernel, by decide +kernel⟩
theorem mv_X6_readTerm : MWv yX6_readTerm 6 := ⟨uw_in (tin_3 (List.mem_of_getElem? (i := 161) (by decide +kernel))) (by decide +kernel), uw_in (List.mem_of_getElem? (i := 13) (by decide +kernel)) (by decide +kernel), rfl⟩
theorem mw_X6_readSeed : MWc yX6_readSeed cX6_readSeed 1 (some .boolean) 0 := ⟨uw_in (tin_3 (List.mem_of_getElem? (i := 166) rfl)) rfl, uw_in (tin_1 (List.mem_of_getElem? (i := 4) (by decide +kernel))) (by decide +kernel), by decide +kernel, by decide +kernel, by decide +kernel⟩
theorem mv_X6_readSeed : MWv yX6_readSeed 6 := ⟨uw_in (tin_3 (List.mem_of_getElem? (i := 165) (by decide +kernel))) (by decide +kernel), uw_in (List.mem_of_getElem? (i := 14) (by decide +kernel)) (by decide +kernel), rfl⟩
theorem mw_X6_readLaw : MWc yX6_readLaw cX6_readLaw 2 (some .boolean) 0 := ⟨uw_in (tin_3 (List.mem_of_getElem? (i := 171) rfl)) rfl, uw_in (tin_1 (List.mem_of_getElem? (i := 4) (by decide +kernel))) (by decide +kernel), by decide +kernel, by decide +kernel, by decide +kernel⟩
theorem mv_X6_readLaw : MWv yX6_readLaw 6 := ⟨uw_in (tin_3 (List.mem_of_getElem? (i := 170) (by decide +kernel))) (by decide +kernel), uw_in (List.mem_of_getElem? (i := 15) (by decide +kernel)) (by decide +kernel), rfl⟩
theorem mw_X6_readFormula : MWc yX6_readFormula cX6_readFormula 4 (some .boolean) 0 := ⟨uw_in (tin_3 (List.mem_of_getElem? (i := 183) rfl)) rfl, uw_in (tin_1 (List.mem_of_getElem? (i := 4) (by decide +kernel))) (by decide +kernel), by decide +kernel, by decide +kernel, by decide +kernel⟩
theorem mv_X6_readFormula : MWv yX6_readFormula 6 := ⟨uw_in (tin_3 (List.mem_of_getElem? (i := 182) (by decide +kernel))) (by decide +kernel), uw_in (List.mem_of_getElem? (i := 16) (by decide +kernel)) (by decide +kernel), rfl⟩
theorem mw_X6_readValue : MWc yX6_readValue cX6_readValue 1 (some .boolean) 0 := ⟨uw_in (tin_3 (List.mem_of_getElem? (i := 214) rfl)) rfl, uw_in (tin_1 (List.mem_of_getElem? (i := 4) (by decide +kernel))) (by decide +kernel), by decide +kernel, by decide +kernel, by decide +kernel⟩
theorem mv_X6_readValue : MWv yX6_readValue 6 := ⟨uw_in (tin_3 (List.mem_of_getElem? (i := 213) (by decide +kernel))) (by decide +kernel), uw_in (List.mem_of_getElem? (i := 22) (by decide +kernel)) (by decide +kernel), rfl⟩
theorem mw_X6_readBehindValue : MWc yX6_readBehindValue cX6_readBehindValue 2 (some .boolean) 0 := ⟨uw_in (tin_3 (List.mem_of_getElem? (i := 198) rfl)) rfl, uw_in (tin_1 (List.mem_of_getElem? (i := 4) (by decide +kernel))) (by decide +kernel), by decide +kernel, by decide +kernel, by decide +kernel⟩
theorem mv_X6_readBehindValue : MWv yX6_readBehindValue 6 := ⟨uw_in (tin_3 (List.mem_of_getElem? (i := 197) (by decide +kernel))) (by decide +kernel), uw_in (List.mem_of_getElem? (i := 18) (by decide +kernel)) (by decide +kernel), rfl⟩
theorem mw_X6_isKnot : MWc yX6_isKnot cX6_isKnot 1 (some .boolean) 0 := ⟨uw_in (tin_3 (List.mem_of_getElem? (i := 206) rfl)) rfl, uw_in (tin_1 (List.mem_of_getElem? (i := 4) (by decide +kernel))) (by decide +kernel), by decide +kernel, by decide +kernel, by decide +kernel⟩
theorem mv_X6_isKnot : MWv yX6_isKnot 6 := ⟨uw_in (tin_3 (List.mem_of_getElem? (i := 205) (by decide +kernel))) (by decide +kernel), uw_in (List.mem_of_getElem? (i := 20) (by decide +kernel)) (by decide +kernel), rfl⟩
theorem mw_X6_puts : MWc yX6_puts cX6_puts 2 (some .boolean) 1 := ⟨uw_in (tin_3 (List.mem_of_getElem? (i := 218) rfl)) rfl, uw_in (tin_1 (List.mem_of_getElem? (i := 4) (by decide +kernel))) (by decide +kernel), by decide +kernel, by decide +kernel, by decide +kernel⟩
theorem mv_X6_puts : MWv yX6_puts 6 := ⟨uw_in (tin_3 (List.mem_of_getElem? (i := 217) (by decide +kernel))) (by decide +kernel), uw_in (List.mem_of_getElem? (i := 23) (by decide +kernel)) (by decide +kernel), rfl⟩
theorem mw_X6_holds : MWc yX6_holds cX6_holds 2 (some .boolean) 1 := ⟨uw_in (tin_3 (List.mem_of_getElem? (i := 210) rfl)) rfl, uw_in (tin_1 (List.mem_of_getElem? (i := 4) (by decide +kernel))) (by decide +kernel), by decide +kernel, by decide +kernel, by decide +kernel⟩
theorem mv_X6_holds : MWv yX6_holds 6 := ⟨uw_in (tin_3 (List.mem_of_getElem? (i := 209) (by decide +kernel))) (by decide +kernel), uw_in (List.mem_of_getElem? (i := 21) (by decide +kernel)) (by decide +kernel), rfl⟩
theorem mw_X6_rankOfLatest : MWc yX6_rankOfLatest cX6_rankOfLatest 1 (some .int) 0 := ⟨uw_in (tin_3 (List.mem_of_getElem? (i := 202) rfl)) rfl, uw_in (tin_1 (List.mem_of_getElem? (i := 4) (by decide +kernel))) (by decide +kernel), by decide +kernel, by decide +kernel, by decide +kernel⟩
theorem mv_X6_rankOfLatest : MWv yX6_rankOfLatest 6 := ⟨uw_in (tin_3 (List.mem_of_getElem? (i := 201) (by decide +kernel))) (by decide +kernel), uw_in (List.mem_of_getElem? (i := 19) (by decide +kernel)) (by decide +kernel), rfl⟩
theorem mw_X6_release : MWc yX6_release cX6_release 2 none 1 := ⟨uw_in (tin_3 (List.mem_of_getElem? (i := 187) rfl)) rfl, uw_in (tin_1 (List.mem_of_getElem? (i := 4) (by decide +kernel))) (by decide +kernel), by decide +kernel, by decide +kernel, by decide +kernel⟩
theorem mv_X6_release : MWv yX6_release 6 := ⟨uw_in (tin_3 (List.mem_of_getElem? (i := 186) (by decide +kernel))) (by decide +kernel), uw_in (List.mem_of_getElem? (i := 17) (by decide +kernel)) (by decide +kernel), rfl⟩
theorem mw_X6_rankOf : MWc yX6_rankOf cX6_rankOf 1 (some .int) 1 := ⟨uw_in (tin_3 (List.mem_of_getElem? (i := 190) rfl)) rfl, uw_in (tin_1 (List.mem_of_getElem? (i := 4) (by decide +kernel))) (by decide +kernel), by decide +kernel, by decide +kernel, by decide +kernel⟩
theorem mst_X6_rankOf : Cond.static yX6_rankOf ∈ UW := uw_in (tin_3 (List.mem_of_getElem? (i := 189) (by decide +kernel))) (by decide +kernel)
theorem mw_X7_letter : MWc yX7_letter cX7_letter 2 (some .int) 2 := ⟨uw_in (tin_2 (List.mem_of_getElem? (i := 4) rfl)) rfl, uw_in (tin_1 (List.mem_of_getElem? (i := 5) (by decide +kernel))) (by decide +kernel), by decide +kernel, by decide +kernel, by decide +kernel⟩
theorem mst_X7_letter : Cond.static yX7_letter ∈ UW := uw_in (tin_2 (List.mem_of_getElem? (i := 3) (by decide +kernel))) (by decide +kernel)
theorem mw_X7_begin : MWc yX7_begin cX7_begin 2 none 1 := ⟨uw_in (tin_3 (List.mem_of_getElem? (i := 71) rfl)) rfl, uw_in (tin_1 (List.mem_of_getElem? (i := 5) (by decide +kernel))) (by decide +kernel), by decide +kernel, by decide +kernel, by decide +kernel⟩
theorem mv_X7_begin : MWv yX7_begin 7 := ⟨uw_in (tin_3 (List.mem_of_getElem? (i := 69) (by decide +kernel))) (by decide +kernel), uw_in (tin_3 (List.mem_of_getElem? (i := 70) (by decide +kernel))) (by decide +kernel), rfl⟩
theorem mw_X7_isName : MWc yX7_isName cX7_isName 1 (some .boolean) 0 := ⟨uw_in (tin_3 (List.mem_of_getElem? (i := 222) rfl)) rfl, uw_in (tin_1 (List.mem_of_getElem? (i := 5) (by decide +kernel))) (by decide +kernel), by decide +kernel, by decide +kernel, by decide +kernel⟩
theorem mv_X7_isName : MWv yX7_isName 7 := ⟨uw_in (tin_3 (List.mem_of_getElem? (i := 220) (by decide +kernel))) (by decide +kernel), uw_in (tin_3 (List.mem_of_getElem? (i := 221) (by decide +kernel))) (by decide +kernel), rfl⟩
theorem mw_X7_signAt : MWc yX7_signAt cX7_signAt 2 (some .int) 1 := ⟨uw_in (tin_3 (List.mem_of_getElem? (i := 79) rfl)) rfl, uw_in (tin_1 (List.mem_of_getElem? (i := 5) (by decide +kernel))) (by decide +kernel), by decide +kernel, by decide +kernel, by decide +kernel⟩
theorem mv_X7_signAt : MWv yX7_signAt 7 := ⟨uw_in (tin_3 (List.mem_of_getElem? (i := 78) (by decide +kernel))) (by decide +kernel), uw_in (List.mem_of_getElem? (i := 1) (by decide +kernel)) (by decide +kernel), rfl⟩
theorem mw_X7_isLetter : MWc yX7_isLetter cX7_isLetter 1 (some .boolean) 1 := ⟨uw_in (tin_3 (List.mem_of_getElem? (i := 82) rfl)) rfl, uw_in (tin_1 (List.mem_of_getElem? (i := 5) (by decide +kernel))) (by decide +kernel), by decide +kernel, by decide +kernel, by decide +kernel⟩
theorem mst_X7_isLetter : Cond.static yX7_isLetter ∈ UW := uw_in (tin_3 (List.mem_of_getElem? (i := 81) (by decide +kernel))) (by decide +kernel)
theorem mw_X7_isDigit : MWc yX7_isDigit cX7_isDigit 1 (some .boolean) 1 := ⟨uw_in (tin_3 (List.mem_of_getElem? (i := 89) rfl)) rfl, uw_in (tin_1 (List.mem_of_getElem? (i := 5) (by decide +kernel))) (by decide +kernel), by decide +kernel, by decide +kernel, by decide +kernel⟩
theorem mst_X7_isDigit : Cond.static yX7_isDigit ∈ UW := uw_in (tin_3 (List.mem_of_getElem? (i := 88) (by decide +kernel))) (by decide +kernel)
theorem mw_X7_step : MWc yX7_step cX7_step 2 none 0 := ⟨uw_in (tin_3 (List.mem_of_getElem? (i := 75) rfl)) rfl, uw_in (tin_1 (List.mem_of_getElem? (i := 5) (by decide +kernel))) (by decide +kernel), by decide +kernel, by decide +kernel, by decide +kernel⟩
theorem mv_X7_step : MWv yX7_step 7 := ⟨uw_in (tin_3 (List.mem_of_getElem? (i := 73) (by decide +kernel))) (by decide +kernel), uw_in (tin_3 (List.mem_of_getElem? (i := 74) (by decide +kernel))) (by decide +kernel), rfl⟩
theorem mw_X7_stepWord : MWc yX7_stepWord cX7_stepWord 4 none 0 := ⟨uw_in (tin_3 (List.mem_of_getElem? (i := 86) rfl)) rfl, uw_in (tin_1 (List.mem_of_getElem? (i := 5) (by decide +kernel))) (by decide +kernel), by decide +kernel, by decide +kernel, by decide +kernel⟩
theorem mv_X7_stepWord : MWv yX7_stepWord 7 := ⟨uw_in (tin_3 (List.mem_of_getElem? (i := 85) (by decide +kernel))) (by decide +kernel), uw_in (List.mem_of_getElem? (i := 2) (by decide +kernel)) (by decide +kernel), rfl⟩
theorem mw_X7_stepNumber : MWc yX7_stepNumber cX7_stepNumber 1 none 0 := ⟨uw_in (tin_3 (List.mem_of_getElem? (i := 93) rfl)) rfl, uw_in (tin_1 (List.mem_of_getElem? (i := 5) (by decide +kernel))) (by decide +kernel), by decide +kernel, by decide +kernel, by decide +kernel⟩
theorem mv_X7_stepNumber : MWv yX7_stepNumber 7 := ⟨uw_in (tin_3 (List.mem_of_getElem? (i := 92) (by decide +kernel))) (by decide +kernel), uw_in (List.mem_of_getElem? (i := 3) (by decide +kernel)) (by decide +kernel), rfl⟩
theorem mw_X7_signToken : MWc yX7_signToken cX7_signToken 2 (some .int) 2 := ⟨uw_in (tin_3 (List.mem_of_getElem? (i := 100) rfl)) rfl, uw_in (tin_1 (List.mem_of_getElem? (i := 5) (by decide +kernel))) (by decide +kernel), by decide +kernel, by decide +kernel, by decide +kernel⟩
theorem mst_X7_signToken : Cond.static yX7_signToken ∈ UW := uw_in (tin_3 (List.mem_of_getElem? (i := 99) (by decide +kernel))) (by decide +kernel)
theorem mw_X8_start : MWc yX8_start cX8_start 3 none 1 := ⟨uw_in (tin_3 (List.mem_of_getElem? (i := 7) rfl)) rfl, uw_in (tin_1 (List.mem_of_getElem? (i := 10) (by decide +kernel))) (by decide +kernel), by decide +kernel, by decide +kernel, by decide +kernel⟩
theorem mv_X8_start : MWv yX8_start 8 := ⟨uw_in (tin_3 (List.mem_of_getElem? (i := 5) (by decide +kernel))) (by decide +kernel), uw_in (tin_3 (List.mem_of_getElem? (i := 6) (by decide +kernel))) (by decide +kernel), rfl⟩
theorem mw_X8_takeFrom : MWc yX8_takeFrom cX8_takeFrom 3 none 1 := ⟨uw_in (tin_4 (List.mem_of_getElem? (i := 239) rfl)) rfl, uw_in (tin_1 (List.mem_of_getElem? (i := 10) (by decide +kernel))) (by decide +kernel), by decide +kernel, by decide +kernel, by decide +kernel⟩
theorem mv_X8_takeFrom : MWv yX8_takeFrom 8 := ⟨uw_in (tin_4 (List.mem_of_getElem? (i := 237) (by decide +kernel))) (by decide +kernel), uw_in (tin_4 (List.mem_of_getElem? (i := 238) (by decide +kernel))) (by decide +kernel), rfl⟩
theorem mw_X8_worthOf : MWc yX8_worthOf cX8_worthOf 2 (some .int) 1 := ⟨uw_in (tin_4 (List.mem_of_getElem? (i := 82) rfl)) rfl, uw_in (tin_1 (List.mem_of_getElem? (i := 10) (by decide +kernel))) (by decide +kernel), by decide +kernel, by decide +kernel, by decide +kernel⟩
theorem mv_X8_worthOf : MWv yX8_worthOf 8 := ⟨uw_in (tin_4 (List.mem_of_getElem? (i := 80) (by decide +kernel))) (by decide +kernel), uw_in (tin_4 (List.mem_of_getElem? (i := 81) (by decide +kernel))) (by decide +kernel), rfl⟩
theorem mw_X8_howManySoldUp : MWc yX8_howManySoldUp cX8_howManySoldUp 6 (some .int) 0 := ⟨uw_in (tin_4 (List.mem_of_getElem? (i := 132) rfl)) rfl, uw_in (tin_1 (List.mem_of_getElem? (i := 10) (by decide +kernel))) (by decide +kernel), by decide +kernel, by decide +kernel, by decide +kernel⟩
theorem mv_X8_howManySoldUp : MWv yX8_howManySoldUp 8 := ⟨uw_in (tin_4 (List.mem_of_getElem? (i := 130) (by decide +kernel))) (by decide +kernel), uw_in (tin_4 (List.mem_of_getElem? (i := 131) (by decide +kernel))) (by decide +kernel), rfl⟩
theorem mw_X8_shows : MWc yX8_shows cX8_shows 3 (some .boolean) 2 := ⟨uw_in (tin_5 (List.mem_of_getElem? (i := 27) rfl)) rfl, uw_in (tin_1 (List.mem_of_getElem? (i := 10) (by decide +kernel))) (by decide +kernel), by decide +kernel, by decide +kernel, by decide +kernel⟩
theorem mv_X8_shows : MWv yX8_shows 8 := ⟨uw_in (tin_5 (List.mem_of_getElem? (i := 25) (by decide +kernel))) (by decide +kernel), uw_in (tin_5 (List.mem_of_getElem? (i := 26) (by decide +kernel))) (by decide +kernel), rfl⟩
theorem mw_X8_nextNumber : MWc yX8_nextNumber cX8_nextNumber 1 (some .int) 0 := ⟨uw_in (tin_4 (List.mem_of_getElem? (i := 190) rfl)) rfl, uw_in (tin_1 (List.mem_of_getElem? (i := 10) (by decide +kernel))) (by decide +kernel), by decide +kernel, by decide +kernel, by decide +kernel⟩
theorem mv_X8_nextNumber : MWv yX8_nextNumber 8 := ⟨uw_in (tin_4 (List.mem_of_getElem? (i := 188) (by decide +kernel))) (by decide +kernel), uw_in (tin_4 (List.mem_of_getElem? (i := 189) (by decide +kernel))) (by decide +kernel), rfl⟩
theorem mw_X9_clear : MWc yX9_clear cX9_clear 1 none 0 := ⟨uw_in (tin_3 (List.mem_of_getElem? (i := 235) rfl)) rfl, uw_in (tin_1 (List.mem_of_getElem? (i := 12) (by decide +kernel))) (by decide +kernel), by decide +kernel, by decide +kernel, by decide +kernel⟩
theorem mv_X9_clear : MWv yX9_clear 9 := ⟨uw_in (tin_3 (List.mem_of_getElem? (i := 233) (by decide +kernel))) (by decide +kernel), uw_in (tin_3 (List.mem_of_getElem? (i := 234) (by decide +kernel))) (by decide +kernel), rfl⟩
theorem mw_X9_drew : MWc yX9_drew cX9_drew 2 none 1 := ⟨uw_in (tin_4 (List.mem_of_getElem? (i := 147) rfl)) rfl, uw_in (tin_1 (List.mem_of_getElem? (i := 12) (by decide +kernel))) (by decide +kernel), by decide +kernel, by decide +kernel, by decide +kernel⟩
theorem mv_X9_drew : MWv yX9_drew 9 := ⟨uw_in (tin_4 (List.mem_of_getElem? (i := 145) (by decide +kernel))) (by decide +kernel), uw_in (tin_4 (List.mem_of_getElem? (i := 146) (by decide +kernel))) (by decide +kernel), rfl⟩
theorem mw_X9_sent : MWc yX9_sent cX9_sent 2 none 1 := ⟨uw_in (tin_4 (List.mem_of_getElem? (i := 163) rfl)) rfl, uw_in (tin_1 (List.mem_of_getElem? (i := 12) (by decide +kernel))) (by decide +kernel), by decide +kernel, by decide +kernel, by decide +kernel⟩
theorem mv_X9_sent : MWv yX9_sent 9 := ⟨uw_in (tin_4 (List.mem_of_getElem? (i := 161) (by decide +kernel))) (by decide +kernel), uw_in (tin_4 (List.mem_of_getElem? (i := 162) (by decide +kernel))) (by decide +kernel), rfl⟩
theorem mw_X9_lent : MWc yX9_lent cX9_lent 4 none 3 := ⟨uw_in (tin_4 (List.mem_of_getElem? (i := 171) rfl)) rfl, uw_in (tin_1 (List.mem_of_getElem? (i := 12) (by decide +kernel))) (by decide +kernel), by decide +kernel, by decide +kernel, by decide +kernel⟩
theorem mv_X9_lent : MWv yX9_lent 9 := ⟨uw_in (tin_4 (List.mem_of_getElem? (i := 169) (by decide +kernel))) (by decide +kernel), uw_in (tin_4 (List.mem_of_getElem? (i := 170) (by decide +kernel))) (by decide +kernel), rfl⟩
theorem mw_X9_add : MWc yX9_add cX9_add 3 none 2 := ⟨uw_in (tin_4 (List.mem_of_getElem? (i := 151) rfl)) rfl, uw_in (tin_1 (List.mem_of_getElem? (i := 12) (by decide +kernel))) (by decide +kernel), by decide +kernel, by decide +kernel, by decide +kernel⟩
theorem mv_X9_add : MWv yX9_add 9 := ⟨uw_in (tin_4 (List.mem_of_getElem? (i := 150) (by decide +kernel))) (by decide +kernel), uw_in (List.mem_of_getElem? (i := 32) (by decide +kernel)) (by decide +kernel), rfl⟩
theorem mw_X9_forgetFirst : MWc yX9_forgetFirst cX9_forgetFirst 2 none 0 := ⟨uw_in (tin_4 (List.mem_of_getElem? (i := 155) rfl)) rfl, uw_in (tin_1 (List.mem_of_getElem? (i := 12) (by decide +kernel))) (by decide +kernel), by decide +kernel, by decide +kernel, by decide +kernel⟩
theorem mv_X9_forgetFirst : MWv yX9_forgetFirst 9 := ⟨uw_in (tin_4 (List.mem_of_getElem? (i := 154) (by decide +kernel))) (by decide +kernel), uw_in (List.mem_of_getElem? (i := 33) (by decide +kernel)) (by decide +kernel), rfl⟩
theorem mw_X9_undoLatest : MWc yX9_undoLatest cX9_undoLatest 3 (some .boolean) 1 := ⟨uw_in (tin_4 (List.mem_of_getElem? (i := 231) rfl)) rfl, uw_in (tin_1 (List.mem_of_getElem? (i := 12) (by decide +kernel))) (by decide +kernel), by decide +kernel, by decide +kernel, by decide +kernel⟩
theorem mv_X9_undoLatest : MWv yX9_undoLatest 9 := ⟨uw_in (tin_4 (List.mem_of_getElem? (i := 229) (by decide +kernel))) (by decide +kernel), uw_in (tin_4 (List.mem_of_getElem? (i := 230) (by decide +kernel))) (by decide +kernel), rfl⟩
theorem mw_X10_feed : MWc yX10_feed cX10_feed 6 (some .int) 5 := ⟨uw_in (tin_3 (List.mem_of_getElem? (i := 54) rfl)) rfl, uw_in (tin_1 (List.mem_of_getElem? (i := 1) (by decide +kernel))) (by decide +kernel), by decide +kernel, by decide +kernel, by decide +kernel⟩
theorem mv_X10_feed : MWv yX10_feed 10 := ⟨uw_in (tin_3 (List.mem_of_getElem? (i := 52) (by decide +kernel))) (by decide +kernel), uw_in (tin_3 (List.mem_of_getElem? (i := 53) (by decide +kernel))) (by decide +kernel), rfl⟩
theorem mw_X10_putNumber : MWc yX10_putNumber cX10_putNumber 3 none 1 := ⟨uw_in (tin_3 (List.mem_of_getElem? (i := 58) rfl)) rfl, uw_in (tin_1 (List.mem_of_getElem? (i := 1) (by decide +kernel))) (by decide +kernel), by decide +kernel, by decide +kernel, by decide +kernel⟩
theorem mv_X10_putNumber : MWv yX10_putNumber 10 := ⟨uw_in (tin_3 (List.mem_of_getElem? (i := 57) (by decide +kernel))) (by decide +kernel), uw_in (List.mem_of_getElem? (i := 0) (by decide +kernel)) (by decide +kernel), rfl⟩
theorem mw_X10_text : MWc yX10_text cX10_text 3 (some .int) 1 := ⟨uw_in (tin_3 (List.mem_of_getElem? (i := 62) rfl)) rfl, uw_in (tin_1 (List.mem_of_getElem? (i := 1) (by decide +kernel))) (by decide +kernel), by decide +kernel, by decide +kernel, by decide +kernel⟩
theorem mv_X10_text : MWv yX10_text 10 := ⟨uw_in (tin_3 (List.mem_of_getElem? (i := 60) (by decide +kernel))) (by decide +kernel), uw_in (tin_3 (List.mem_of_getElem? (i := 61) (by decide +kernel))) (by decide +kernel), rfl⟩
theorem mw_X10_fault : MWc yX10_fault cX10_fault 2 (some .int) 1 := ⟨uw_in (tin_3 (List.mem_of_getElem? (i := 239) rfl)) rfl, uw_in (tin_1 (List.mem_of_getElem? (i := 1) (by decide +kernel))) (by decide +kernel), by decide +kernel, by decide +kernel, by decide +kernel⟩
theorem mv_X10_fault : MWv yX10_fault 10 := ⟨uw_in (tin_3 (List.mem_of_getElem? (i := 237) (by decide +kernel))) (by decide +kernel), uw_in (tin_3 (List.mem_of_getElem? (i := 238) (by decide +kernel))) (by decide +kernel), rfl⟩
theorem mw_X10_named : MWc yX10_named cX10_named 3 (some .int) 2 := ⟨uw_in (tin_4 (List.mem_of_getElem? (i := 3) rfl)) rfl, uw_in (tin_1 (List.mem_of_getElem? (i := 1) (by decide +kernel))) (by decide +kernel), by decide +kernel, by decide +kernel, by decide +kernel⟩
theorem mv_X10_named : MWv yX10_named 10 := ⟨uw_in (tin_4 (List.mem_of_getElem? (i := 1) (by decide +kernel))) (by decide +kernel), uw_in (tin_4 (List.mem_of_getElem? (i := 2) (by decide +kernel))) (by decide +kernel), rfl⟩
theorem mw_X10_kind : MWc yX10_kind cX10_kind 3 (some .int) 2 := ⟨uw_in (tin_4 (List.mem_of_getElem? (i := 9) rfl)) rfl, uw_in (tin_1 (List.mem_of_getElem? (i := 1) (by decide +kernel))) (by decide +kernel), by decide +kernel, by decide +kernel, by decide +kernel⟩
theorem mv_X10_kind : MWv yX10_kind 10 := ⟨uw_in (tin_4 (List.mem_of_getElem? (i := 7) (by decide +kernel))) (by decide +kernel), uw_in (tin_4 (List.mem_of_getElem? (i := 8) (by decide +kernel))) (by decide +kernel), rfl⟩
theorem mw_X10_weather : MWc yX10_weather cX10_weather 3 (some .int) 1 := ⟨uw_in (tin_4 (List.mem_of_getElem? (i := 17) rfl)) rfl, uw_in (tin_1 (List.mem_of_getElem? (i := 1) (by decide +kernel))) (by decide +kernel), by decide +kernel, by decide +kernel, by decide +kernel⟩
theorem mv_X10_weather : MWv yX10_weather 10 := ⟨uw_in (tin_4 (List.mem_of_getElem? (i := 15) (by decide +kernel))) (by decide +kernel), uw_in (tin_4 (List.mem_of_getElem? (i := 16) (by decide +kernel))) (by decide +kernel), rfl⟩
theorem mw_X10_law : MWc yX10_law cX10_law 4 (some .long) 3 := ⟨uw_in (tin_4 (List.mem_of_getElem? (i := 30) rfl)) rfl, uw_in (tin_1 (List.mem_of_getElem? (i := 1) (by decide +kernel))) (by decide +kernel), by decide +kernel, by decide +kernel, by decide +kernel⟩
theorem mv_X10_law : MWv yX10_law 10 := ⟨uw_in (tin_4 (List.mem_of_getElem? (i := 28) (by decide +kernel))) (by decide +kernel), uw_in (tin_4 (List.mem_of_getElem? (i := 29) (by decide +kernel))) (by decide +kernel), rfl⟩
theorem mw_X10_richest : MWc yX10_richest cX10_richest 3 (some .int) 0 := ⟨uw_in (tin_4 (List.mem_of_getElem? (i := 78) rfl)) rfl, uw_in (tin_1 (List.mem_of_getElem? (i := 1) (by decide +kernel))) (by decide +kernel), by decide +kernel, by decide +kernel, by decide +kernel⟩
theorem mv_X10_richest : MWv yX10_richest 10 := ⟨uw_in (tin_4 (List.mem_of_getElem? (i := 76) (by decide +kernel))) (by decide +kernel), uw_in (tin_4 (List.mem_of_getElem? (i := 77) (by decide +kernel))) (by decide +kernel), rfl⟩
theorem mw_X10_dearest : MWc yX10_dearest cX10_dearest 3 (some .int) 0 := ⟨uw_in (tin_4 (List.mem_of_getElem? (i := 86) rfl)) rfl, uw_in (tin_1 (List.mem_of_getElem? (i := 1) (by decide +kernel))) (by decide +kernel), by decide +kernel, by decide +kernel, by decide +kernel⟩
theorem mv_X10_dearest : MWv yX10_dearest 10 := ⟨uw_in (tin_4 (List.mem_of_getElem? (i := 84) (by decide +kernel))) (by decide +kernel), uw_in (tin_4 (List.mem_of_getElem? (i := 85) (by decide +kernel))) (by decide +kernel), rfl⟩
theorem mw_X10_have : MWc yX10_have cX10_have 2 (some .int) 1 := ⟨uw_in (tin_4 (List.mem_of_getElem? (i := 90) rfl)) rfl, uw_in (tin_1 (List.mem_of_getElem? (i := 1) (by decide +kernel))) (by decide +kernel), by decide +kernel, by decide +kernel, by decide +kernel⟩
theorem mv_X10_have : MWv yX10_have 10 := ⟨uw_in (tin_4 (List.mem_of_getElem? (i := 88) (by decide +kernel))) (by decide +kernel), uw_in (tin_4 (List.mem_of_getElem? (i := 89) (by decide +kernel))) (by decide +kernel), rfl⟩
theorem mw_X10_among : MWc yX10_among cX10_among 5 (some .int) 1 := ⟨uw_in (tin_4 (List.mem_of_getElem? (i := 106) rfl)) rfl, uw_in (tin_1 (List.mem_of_getElem? (i := 1) (by decide +kernel))) (by decide +kernel), by decide +kernel, by decide +kernel, by decide +kernel⟩
theorem mv_X10_among : MWv yX10_among 10 := ⟨uw_in (tin_4 (List.mem_of_getElem? (i := 104) (by decide +kernel))) (by decide +kernel), uw_in (tin_4 (List.mem_of_getElem? (i := 105) (by decide +kernel))) (by decide +kernel), rfl⟩
theorem mw_X10_noneSoldUp : MWc yX10_noneSoldUp cX10_noneSoldUp 3 (some .boolean) 1 := ⟨uw_in (tin_4 (List.mem_of_getElem? (i := 116) rfl)) rfl, uw_in (tin_1 (List.mem_of_getElem? (i := 1) (by decide +kernel))) (by decide +kernel), by decide +kernel, by decide +kernel, by decide +kernel⟩
theorem mv_X10_noneSoldUp : MWv yX10_noneSoldUp 10 := ⟨uw_in (tin_4 (List.mem_of_getElem? (i := 115) (by decide +kernel))) (by decide +kernel), uw_in (List.mem_of_getElem? (i := 31) (by decide +kernel)) (by decide +kernel), rfl⟩
theorem mw_X10_sumOf : MWc yX10_sumOf cX10_sumOf 4 (some .int) 1 := ⟨uw_in (tin_4 (List.mem_of_getElem? (i := 98) rfl)) rfl, uw_in (tin_1 (List.mem_of_getElem? (i := 1) (by decide +kernel))) (by decide +kernel), by decide +kernel, by decide +kernel, by decide +kernel⟩
theorem mv_X10_sumOf : MWv yX10_sumOf 10 := ⟨uw_in (tin_4 (List.mem_of_getElem? (i := 97) (by decide +kernel))) (by decide +kernel), uw_in (List.mem_of_getElem? (i := 30) (by decide +kernel)) (by decide +kernel), rfl⟩
theorem mw_X10_termIn : MWc yX10_termIn cX10_termIn 1 (some .int) 0 := ⟨uw_in (tin_4 (List.mem_of_getElem? (i := 120) rfl)) rfl, uw_in (tin_1 (List.mem_of_getElem? (i := 1) (by decide +kernel))) (by decide +kernel), by decide +kernel, by decide +kernel, by decide +kernel⟩
theorem mv_X10_termIn : MWv yX10_termIn 10 := ⟨uw_in (tin_4 (List.mem_of_getElem? (i := 118) (by decide +kernel))) (by decide +kernel), uw_in (tin_4 (List.mem_of_getElem? (i := 119) (by decide +kernel))) (by decide +kernel), rfl⟩
theorem mw_X10_count : MWc yX10_count cX10_count 2 (some .int) 1 := ⟨uw_in (tin_4 (List.mem_of_getElem? (i := 128) rfl)) rfl, uw_in (tin_1 (List.mem_of_getElem? (i := 1) (by decide +kernel))) (by decide +kernel), by decide +kernel, by decide +kernel, by decide +kernel⟩
theorem mv_X10_count : MWv yX10_count 10 := ⟨uw_in (tin_4 (List.mem_of_getElem? (i := 126) (by decide +kernel))) (by decide +kernel), uw_in (tin_4 (List.mem_of_getElem? (i := 127) (by decide +kernel))) (by decide +kernel), rfl⟩
theorem mw_X10_sumOfRow : MWc yX10_sumOfRow cX10_sumOfRow 6 (some .int) 1 := ⟨uw_in (tin_4 (List.mem_of_getElem? (i := 135) rfl)) rfl, uw_in (tin_1 (List.mem_of_getElem? (i := 1) (by decide +kernel))) (by decide +kernel), by decide +kernel, by decide +kernel, by decide +kernel⟩
theorem mst_X10_sumOfRow : Cond.static yX10_sumOfRow ∈ UW := uw_in (tin_4 (List.mem_of_getElem? (i := 134) (by decide +kernel))) (by decide +kernel)
theorem mw_X10_blind : MWc yX10_blind cX10_blind 2 (some .int) 1 := ⟨uw_in (tin_4 (List.mem_of_getElem? (i := 143) rfl)) rfl, uw_in (tin_1 (List.mem_of_getElem? (i := 1) (by decide +kernel))) (by decide +kernel), by decide +kernel, by decide +kernel, by decide +kernel⟩
theorem mv_X10_blind : MWv yX10_blind 10 := ⟨uw_in (tin_4 (List.mem_of_getElem? (i := 141) (by decide +kernel))) (by decide +kernel), uw_in (tin_4 (List.mem_of_getElem? (i := 142) (by decide +kernel))) (by decide +kernel), rfl⟩
theorem mw_X10_send : MWc yX10_send cX10_send 2 (some .boolean) 1 := ⟨uw_in (tin_4 (List.mem_of_getElem? (i := 159) rfl)) rfl, uw_in (tin_1 (List.mem_of_getElem? (i := 1) (by decide +kernel))) (by decide +kernel), by decide +kernel, by decide +kernel, by decide +kernel⟩
theorem mv_X10_send : MWv yX10_send 10 := ⟨uw_in (tin_4 (List.mem_of_getElem? (i := 157) (by decide +kernel))) (by decide +kernel), uw_in (tin_4 (List.mem_of_getElem? (i := 158) (by decide +kernel))) (by decide +kernel), rfl⟩
theorem mw_X10_lend : MWc yX10_lend cX10_lend 4 (some .int) 3 := ⟨uw_in (tin_4 (List.mem_of_getElem? (i := 167) rfl)) rfl, uw_in (tin_1 (List.mem_of_getElem? (i := 1) (by decide +kernel))) (by decide +kernel), by decide +kernel, by decide +kernel, by decide +kernel⟩
theorem mv_X10_lend : MWv yX10_lend 10 := ⟨uw_in (tin_4 (List.mem_of_getElem? (i := 165) (by decide +kernel))) (by decide +kernel), uw_in (tin_4 (List.mem_of_getElem? (i := 166) (by decide +kernel))) (by decide +kernel), rfl⟩
theorem mw_X10_go : MWc yX10_go cX10_go 3 (some .int) 1 := ⟨uw_in (tin_4 (List.mem_of_getElem? (i := 177) rfl)) rfl, uw_in (tin_1 (List.mem_of_getElem? (i := 1) (by decide +kernel))) (by decide +kernel), by decide +kernel, by decide +kernel, by decide +kernel⟩
theorem mv_X10_go : MWv yX10_go 10 := ⟨uw_in (tin_4 (List.mem_of_getElem? (i := 175) (by decide +kernel))) (by decide +kernel), uw_in (tin_4 (List.mem_of_getElem? (i := 176) (by decide +kernel))) (by decide +kernel), rfl⟩
theorem mw_X10_undo : MWc yX10_undo cX10_undo 1 (some .int) 0 := ⟨uw_in (tin_4 (List.mem_of_getElem? (i := 227) rfl)) rfl, uw_in (tin_1 (List.mem_of_getElem? (i := 1) (by decide +kernel))) (by decide +kernel), by decide +kernel, by decide +kernel, by decide +kernel⟩
theorem mv_X10_undo : MWv yX10_undo 10 := ⟨uw_in (tin_4 (List.mem_of_getElem? (i := 225) (by decide +kernel))) (by decide +kernel), uw_in (tin_4 (List.mem_of_getElem? (i := 226) (by decide +kernel))) (by decide +kernel), rfl⟩
theorem mw_X10_keep : MWc yX10_keep cX10_keep 1 (some .int) 0 := ⟨uw_in (tin_4 (List.mem_of_getElem? (i := 235) rfl)) rfl, uw_in (tin_1 (List.mem_of_getElem? (i := 1) (by decide +kernel))) (by decide +kernel), by decide +kernel, by decide +kernel, by decide +kernel⟩
theorem mv_X10_keep : MWv yX10_keep 10 := ⟨uw_in (tin_4 (List.mem_of_getElem? (i := 233) (by decide +kernel))) (by decide +kernel), uw_in (tin_4 (List.mem_of_getElem? (i := 234) (by decide +kernel))) (by decide +kernel), rfl⟩
theorem mw_X10_back : MWc yX10_back cX10_back 1 (some .int) 0 := ⟨uw_in (tin_5 (List.mem_of_getElem? (i := 3) rfl)) rfl, uw_in (tin_1 (List.mem_of_getElem? (i := 1) (by decide +kernel))) (by decide +kernel), by decide +kernel, by decide +kernel, by decide +kernel⟩
theorem mv_X10_back : MWv yX10_back 10 := ⟨uw_in (tin_5 (List.mem_of_getElem? (i := 1) (by decide +kernel))) (by decide +kernel), uw_in (tin_5 (List.mem_of_getElem? (i := 2) (by decide +kernel))) (by decide +kernel), rfl⟩
theorem mw_X10_kindIn : MWc yX10_kindIn cX10_kindIn 2 (some .int) 1 := ⟨uw_in (tin_4 (List.mem_of_getElem? (i := 21) rfl)) rfl, uw_in (tin_1 (List.mem_of_getElem? (i := 1) (by decide +kernel))) (by decide +kernel), by decide +kernel, by decide +kernel, by decide +kernel⟩
theorem mv_X10_kindIn : MWv yX10_kindIn 10 := ⟨uw_in (tin_4 (List.mem_of_getElem? (i := 20) (by decide +kernel))) (by decide +kernel), uw_in (List.mem_of_getElem? (i := 25) (by decide +kernel)) (by decide +kernel), rfl⟩
theorem mw_X10_rehearse : MWc yX10_rehearse cX10_rehearse 1 none 0 := ⟨uw_in (tin_5 (List.mem_of_getElem? (i := 11) rfl)) rfl, uw_in (tin_1 (List.mem_of_getElem? (i := 1) (by decide +kernel))) (by decide +kernel), by decide +kernel, by decide +kernel, by decide +kernel⟩
theorem mv_X10_rehearse : MWv yX10_rehearse 10 := ⟨uw_in (tin_5 (List.mem_of_getElem? (i := 10) (by decide +kernel))) (by decide +kernel), uw_in (List.mem_of_getElem? (i := 36) (by decide +kernel)) (by decide +kernel), rfl⟩
theorem mw_X10_passTrial : MWc yX10_passTrial cX10_passTrial 4 none 2 := ⟨uw_in (tin_5 (List.mem_of_getElem? (i := 15) rfl)) rfl, uw_in (tin_1 (List.mem_of_getElem? (i := 1) (by decide +kernel))) (by decide +kernel), by decide +kernel, by decide +kernel, by decide +kernel⟩
theorem mv_X10_passTrial : MWv yX10_passTrial 10 := ⟨uw_in (tin_5 (List.mem_of_getElem? (i := 14) (by decide +kernel))) (by decide +kernel), uw_in (List.mem_of_getElem? (i := 37) (by decide +kernel)) (by decide +kernel), rfl⟩
theorem mw_X10_ahead : MWc yX10_ahead cX10_ahead 4 (some .int) 3 := ⟨uw_in (tin_5 (List.mem_of_getElem? (i := 7) rfl)) rfl, uw_in (tin_1 (List.mem_of_getElem? (i := 1) (by decide +kernel))) (by decide +kernel), by decide +kernel, by decide +kernel, by decide +kernel⟩
theorem mv_X10_ahead : MWv yX10_ahead 10 := ⟨uw_in (tin_5 (List.mem_of_getElem? (i := 5) (by decide +kernel))) (by decide +kernel), uw_in (tin_5 (List.mem_of_getElem? (i := 6) (by decide +kernel))) (by decide +kernel), rfl⟩
theorem mw_X10_sold : MWc yX10_sold cX10_sold 2 (some .int) 1 := ⟨uw_in (tin_5 (List.mem_of_getElem? (i := 19) rfl)) rfl, uw_in (tin_1 (List.mem_of_getElem? (i := 1) (by decide +kernel))) (by decide +kernel), by decide +kernel, by decide +kernel, by decide +kernel⟩
theorem mv_X10_sold : MWv yX10_sold 10 := ⟨uw_in (tin_5 (List.mem_of_getElem? (i := 17) (by decide +kernel))) (by decide +kernel), uw_in (tin_5 (List.mem_of_getElem? (i := 18) (by decide +kernel))) (by decide +kernel), rfl⟩
theorem mw_X10_credit : MWc yX10_credit cX10_credit 2 (some .int) 1 := ⟨uw_in (tin_5 (List.mem_of_getElem? (i := 32) rfl)) rfl, uw_in (tin_1 (List.mem_of_getElem? (i := 1) (by decide +kernel))) (by decide +kernel), by decide +kernel, by decide +kernel, by decide +kernel⟩
theorem mv_X10_credit : MWv yX10_credit 10 := ⟨uw_in (tin_5 (List.mem_of_getElem? (i := 30) (by decide +kernel))) (by decide +kernel), uw_in (tin_5 (List.mem_of_getElem? (i := 31) (by decide +kernel))) (by decide +kernel), rfl⟩
theorem mw_X10_owes : MWc yX10_owes cX10_owes 2 (some .int) 1 := ⟨uw_in (tin_5 (List.mem_of_getElem? (i := 36) rfl)) rfl, uw_in (tin_1 (List.mem_of_getElem? (i := 1) (by decide +kernel))) (by decide +kernel), by decide +kernel, by decide +kernel, by decide +kernel⟩
theorem mv_X10_owes : MWv yX10_owes 10 := ⟨uw_in (tin_5 (List.mem_of_getElem? (i := 34) (by decide +kernel))) (by decide +kernel), uw_in (tin_5 (List.mem_of_getElem? (i := 35) (by decide +kernel))) (by decide +kernel), rfl⟩
theorem mw_X10_daysUntil : MWc yX10_daysUntil cX10_daysUntil 4 (some .int) 2 := ⟨uw_in (tin_5 (List.mem_of_getElem? (i := 23) rfl)) rfl, uw_in (tin_1 (List.mem_of_getElem? (i := 1) (by decide +kernel))) (by decide +kernel), by decide +kernel, by decide +kernel, by decide +kernel⟩
theorem mv_X10_daysUntil : MWv yX10_daysUntil 10 := ⟨uw_in (tin_5 (List.mem_of_getElem? (i := 22) (by decide +kernel))) (by decide +kernel), uw_in (List.mem_of_getElem? (i := 38) (by decide +kernel)) (by decide +kernel), rfl⟩
theorem mw_X10_often : MWc yX10_often cX10_often 5 (some .int) 2 := ⟨uw_in (tin_5 (List.mem_of_getElem? (i := 40) rfl)) rfl, uw_in (tin_1 (List.mem_of_getElem? (i := 1) (by decide +kernel))) (by decide +kernel), by decide +kernel, by decide +kernel, by decide +kernel⟩
theorem mv_X10_often : MWv yX10_often 10 := ⟨uw_in (tin_5 (List.mem_of_getElem? (i := 38) (by decide +kernel))) (by decide +kernel), uw_in (tin_5 (List.mem_of_getElem? (i := 39) (by decide +kernel))) (by decide +kernel), rfl⟩
theorem mw_X10_plan : MWc yX10_plan cX10_plan 4 (some .int) 2 := ⟨uw_in (tin_5 (List.mem_of_getElem? (i := 44) rfl)) rfl, uw_in (tin_1 (List.mem_of_getElem? (i := 1) (by decide +kernel))) (by decide +kernel), by decide +kernel, by decide +kernel, by decide +kernel⟩
theorem mv_X10_plan : MWv yX10_plan 10 := ⟨uw_in (tin_5 (List.mem_of_getElem? (i := 42) (by decide +kernel))) (by decide +kernel), uw_in (tin_5 (List.mem_of_getElem? (i := 43) (by decide +kernel))) (by decide +kernel), rfl⟩
theorem mw_X10_blinds : MWc yX10_blinds cX10_blinds 6 (some .int) 2 := ⟨uw_in (tin_5 (List.mem_of_getElem? (i := 71) rfl)) rfl, uw_in (tin_1 (List.mem_of_getElem? (i := 1) (by decide +kernel))) (by decide +kernel), by decide +kernel, by decide +kernel, by decide +kernel⟩
theorem mv_X10_blinds : MWv yX10_blinds 10 := ⟨uw_in (tin_5 (List.mem_of_getElem? (i := 69) (by decide +kernel))) (by decide +kernel), uw_in (tin_5 (List.mem_of_getElem? (i := 70) (by decide +kernel))) (by decide +kernel), rfl⟩
theorem mw_X10_isSoldUpIn : MWc yX10_isSoldUpIn cX10_isSoldUpIn 4 (some .boolean) 3 := ⟨uw_in (tin_5 (List.mem_of_getElem? (i := 75) rfl)) rfl, uw_in (tin_1 (List.mem_of_getElem? (i := 1) (by decide +kernel))) (by decide +kernel), by decide +kernel, by decide +kernel, by decide +kernel⟩
theorem mv_X10_isSoldUpIn : MWv yX10_isSoldUpIn 10 := ⟨uw_in (tin_5 (List.mem_of_getElem? (i := 74) (by decide +kernel))) (by decide +kernel), uw_in (List.mem_of_getElem? (i := 41) (by decide +kernel)) (by decide +kernel), rfl⟩
theorem mw_X10_rescue : MWc yX10_rescue cX10_rescue 4 (some .int) 0 := ⟨uw_in (tin_5 (List.mem_of_getElem? (i := 79) rfl)) rfl, uw_in (tin_1 (List.mem_of_getElem? (i := 1) (by decide +kernel))) (by decide +kernel), by decide +kernel, by decide +kernel, by decide +kernel⟩
theorem mv_X10_rescue : MWv yX10_rescue 10 := ⟨uw_in (tin_5 (List.mem_of_getElem? (i := 77) (by decide +kernel))) (by decide +kernel), uw_in (tin_5 (List.mem_of_getElem? (i := 78) (by decide +kernel))) (by decide +kernel), rfl⟩
theorem mw_X10_chance : MWc yX10_chance cX10_chance 7 (some .int) 3 := ⟨uw_in (tin_5 (List.mem_of_getElem? (i := 84) rfl)) rfl, uw_in (tin_1 (List.mem_of_getElem? (i := 1) (by decide +kernel))) (by decide +kernel), by decide +kernel, by decide +kernel, by decide +kernel⟩
theorem mv_X10_chance : MWv yX10_chance 10 := ⟨uw_in (tin_5 (List.mem_of_getElem? (i := 82) (by decide +kernel))) (by decide +kernel), uw_in (tin_5 (List.mem_of_getElem? (i := 83) (by decide +kernel))) (by decide +kernel), rfl⟩
theorem mw_X10_tried : MWc yX10_tried cX10_tried 6 (some .int) 3 := ⟨uw_in (tin_5 (List.mem_of_getElem? (i := 88) rfl)) rfl, uw_in (tin_1 (List.mem_of_getElem? (i := 1) (by decide +kernel))) (by decide +kernel), by decide +kernel, by decide +kernel, by decide +kernel⟩
theorem mv_X10_tried : MWv yX10_tried 10 := ⟨uw_in (tin_5 (List.mem_of_getElem? (i := 86) (by decide +kernel))) (by decide +kernel), uw_in (tin_5 (List.mem_of_getElem? (i := 87) (by decide +kernel))) (by decide +kernel), rfl⟩
theorem mw_X10_share : MWc yX10_share cX10_share 5 (some .int) 4 := ⟨uw_in (tin_5 (List.mem_of_getElem? (i := 92) rfl)) rfl, uw_in (tin_1 (List.mem_of_getElem? (i := 1) (by decide +kernel))) (by decide +kernel), by decide +kernel, by decide +kernel, by decide +kernel⟩
theorem mv_X10_share : MWv yX10_share 10 := ⟨uw_in (tin_5 (List.mem_of_getElem? (i := 90) (by decide +kernel))) (by decide +kernel), uw_in (tin_5 (List.mem_of_getElem? (i := 91) (by decide +kernel))) (by decide +kernel), rfl⟩
theorem mw_X10_partsOf : MWc yX10_partsOf cX10_partsOf 9 (some .int) 3 := ⟨uw_in (tin_5 (List.mem_of_getElem? (i := 96) rfl)) rfl, uw_in (tin_1 (List.mem_of_getElem? (i := 1) (by decide +kernel))) (by decide +kernel), by decide +kernel, by decide +kernel, by decide +kernel⟩
theorem mv_X10_partsOf : MWv yX10_partsOf 10 := ⟨uw_in (tin_5 (List.mem_of_getElem? (i := 95) (by decide +kernel))) (by decide +kernel), uw_in (List.mem_of_getElem? (i := 42) (by decide +kernel)) (by decide +kernel), rfl⟩
theorem mw_X10_leave : MWc yX10_leave cX10_leave 7 (some .int) 2 := ⟨uw_in (tin_5 (List.mem_of_getElem? (i := 113) rfl)) rfl, uw_in (tin_1 (List.mem_of_getElem? (i := 1) (by decide +kernel))) (by decide +kernel), by decide +kernel, by decide +kernel, by decide +kernel⟩
theorem mv_X10_leave : MWv yX10_leave 10 := ⟨uw_in (tin_5 (List.mem_of_getElem? (i := 111) (by decide +kernel))) (by decide +kernel), uw_in (tin_5 (List.mem_of_getElem? (i := 112) (by decide +kernel))) (by decide +kernel), rfl⟩
theorem mw_X10_mostOf : MWc yX10_mostOf cX10_mostOf 5 (some .int) 2 := ⟨uw_in (tin_5 (List.mem_of_getElem? (i := 117) rfl)) rfl, uw_in (tin_1 (List.mem_of_getElem? (i := 1) (by decide +kernel))) (by decide +kernel), by decide +kernel, by decide +kernel, by decide +kernel⟩
theorem mv_X10_mostOf : MWv yX10_mostOf 10 := ⟨uw_in (tin_5 (List.mem_of_getElem? (i := 116) (by decide +kernel))) (by decide +kernel), uw_in (List.mem_of_getElem? (i := 43) (by decide +kernel)) (by decide +kernel), rfl⟩
theorem mw_X10_waits : MWc yX10_waits cX10_waits 4 (some .long) 2 := ⟨uw_in (tin_5 (List.mem_of_getElem? (i := 124) rfl)) rfl, uw_in (tin_1 (List.mem_of_getElem? (i := 1) (by decide +kernel))) (by decide +kernel), by decide +kernel, by decide +kernel, by decide +kernel⟩
theorem mv_X10_waits : MWv yX10_waits 10 := ⟨uw_in (tin_5 (List.mem_of_getElem? (i := 122) (by decide +kernel))) (by decide +kernel), uw_in (tin_5 (List.mem_of_getElem? (i := 123) (by decide +kernel))) (by decide +kernel), rfl⟩
theorem mw_X10_sumOfBetter : MWc yX10_sumOfBetter cX10_sumOfBetter 5 (some .long) 1 := ⟨uw_in (tin_5 (List.mem_of_getElem? (i := 129) rfl)) rfl, uw_in (tin_1 (List.mem_of_getElem? (i := 1) (by decide +kernel))) (by decide +kernel), by decide +kernel, by decide +kernel, by decide +kernel⟩
theorem mv_X10_sumOfBetter : MWv yX10_sumOfBetter 10 := ⟨uw_in (tin_5 (List.mem_of_getElem? (i := 128) (by decide +kernel))) (by decide +kernel), uw_in (List.mem_of_getElem? (i := 44) (by decide +kernel)) (by decide +kernel), rfl⟩
theorem mw_X10_came : MWc yX10_came cX10_came 7 (some .int) 3 := ⟨uw_in (tin_5 (List.mem_of_getElem? (i := 134) rfl)) rfl, uw_in (tin_1 (List.mem_of_getElem? (i := 1) (by decide +kernel))) (by decide +kernel), by decide +kernel, by decide +kernel, by decide +kernel⟩
theorem mv_X10_came : MWv yX10_came 10 := ⟨uw_in (tin_5 (List.mem_of_getElem? (i := 132) (by decide +kernel))) (by decide +kernel), uw_in (tin_5 (List.mem_of_getElem? (i := 133) (by decide +kernel))) (by decide +kernel), rfl⟩
theorem mw_X10_sumOfKinds : MWc yX10_sumOfKinds cX10_sumOfKinds 7 (some .int) 3 := ⟨uw_in (tin_5 (List.mem_of_getElem? (i := 141) rfl)) rfl, uw_in (tin_1 (List.mem_of_getElem? (i := 1) (by decide +kernel))) (by decide +kernel), by decide +kernel, by decide +kernel, by decide +kernel⟩
theorem mv_X10_sumOfKinds : MWv yX10_sumOfKinds 10 := ⟨uw_in (tin_5 (List.mem_of_getElem? (i := 140) (by decide +kernel))) (by decide +kernel), uw_in (List.mem_of_getElem? (i := 45) (by decide +kernel)) (by decide +kernel), rfl⟩
theorem mw_X10_likely : MWc yX10_likely cX10_likely 6 (some .long) 3 := ⟨uw_in (tin_5 (List.mem_of_getElem? (i := 145) rfl)) rfl, uw_in (tin_1 (List.mem_of_getElem? (i := 1) (by decide +kernel))) (by decide +kernel), by decide +kernel, by decide +kernel, by decide +kernel⟩
theorem mv_X10_likely : MWv yX10_likely 10 := ⟨uw_in (tin_5 (List.mem_of_getElem? (i := 143) (by decide +kernel))) (by decide +kernel), uw_in (tin_5 (List.mem_of_getElem? (i := 144) (by decide +kernel))) (by decide +kernel), rfl⟩
theorem mw_X10_power : MWc yX10_power cX10_power 5 (some .long) 2 := ⟨uw_in (tin_5 (List.mem_of_getElem? (i := 137) rfl)) rfl, uw_in (tin_1 (List.mem_of_getElem? (i := 1) (by decide +kernel))) (by decide +kernel), by decide +kernel, by decide +kernel, by decide +kernel⟩
theorem mst_X10_power : Cond.static yX10_power ∈ UW := uw_in (tin_5 (List.mem_of_getElem? (i := 136) (by decide +kernel))) (by decide +kernel)
theorem mw_X10_rests : MWc yX10_rests cX10_rests 6 (some .int) 3 := ⟨uw_in (tin_5 (List.mem_of_getElem? (i := 149) rfl)) rfl, uw_in (tin_1 (List.mem_of_getElem? (i := 1) (by decide +kernel))) (by decide +kernel), by decide +kernel, by decide +kernel, by decide +kernel⟩
theorem mv_X10_rests : MWv yX10_rests 10 := ⟨uw_in (tin_5 (List.mem_of_getElem? (i := 147) (by decide +kernel))) (by decide +kernel), uw_in (tin_5 (List.mem_of_getElem? (i := 148) (by decide +kernel))) (by decide +kernel), rfl⟩
theorem mw_X10_rest : MWc yX10_rest cX10_rest 7 (some .int) 4 := ⟨uw_in (tin_5 (List.mem_of_getElem? (i := 165) rfl)) rfl, uw_in (tin_1 (List.mem_of_getElem? (i := 1) (by decide +kernel))) (by decide +kernel), by decide +kernel, by decide +kernel, by decide +kernel⟩
theorem mv_X10_rest : MWv yX10_rest 10 := ⟨uw_in (tin_5 (List.mem_of_getElem? (i := 163) (by decide +kernel))) (by decide +kernel), uw_in (tin_5 (List.mem_of_getElem? (i := 164) (by decide +kernel))) (by decide +kernel), rfl⟩
theorem mw_X10_isView : MWc yX10_isView cX10_isView 4 (some .boolean) 3 := ⟨uw_in (tin_5 (List.mem_of_getElem? (i := 153) rfl)) rfl, uw_in (tin_1 (List.mem_of_getElem? (i := 1) (by decide +kernel))) (by decide +kernel), by decide +kernel, by decide +kernel, by decide +kernel⟩
theorem mv_X10_isView : MWv yX10_isView 10 := ⟨uw_in (tin_5 (List.mem_of_getElem? (i := 152) (by decide +kernel))) (by decide +kernel), uw_in (List.mem_of_getElem? (i := 46) (by decide +kernel)) (by decide +kernel), rfl⟩
theorem mw_X10_isRest : MWc yX10_isRest cX10_isRest 7 (some .boolean) 4 := ⟨uw_in (tin_5 (List.mem_of_getElem? (i := 157) rfl)) rfl, uw_in (tin_1 (List.mem_of_getElem? (i := 1) (by decide +kernel))) (by decide +kernel), by decide +kernel, by decide +kernel, by decide +kernel⟩
theorem mv_X10_isRest : MWv yX10_isRest 10 := ⟨uw_in (tin_5 (List.mem_of_getElem? (i := 156) (by decide +kernel))) (by decide +kernel), uw_in (List.mem_of_getElem? (i := 47) (by decide +kernel)) (by decide +kernel), rfl⟩
theorem mw_X10_gain : MWc yX10_gain cX10_gain 7 (some .int) 4 := ⟨uw_in (tin_5 (List.mem_of_getElem? (i := 161) rfl)) rfl, uw_in (tin_1 (List.mem_of_getElem? (i := 1) (by decide +kernel))) (by decide +kernel), by decide +kernel, by decide +kernel, by decide +kernel⟩
theorem mv_X10_gain : MWv yX10_gain 10 := ⟨uw_in (tin_5 (List.mem_of_getElem? (i := 160) (by decide +kernel))) (by decide +kernel), uw_in (List.mem_of_getElem? (i := 48) (by decide +kernel)) (by decide +kernel), rfl⟩
theorem mw_X10_note : MWc yX10_note cX10_note 5 (some .int) 4 := ⟨uw_in (tin_5 (List.mem_of_getElem? (i := 169) rfl)) rfl, uw_in (tin_1 (List.mem_of_getElem? (i := 1) (by decide +kernel))) (by decide +kernel), by decide +kernel, by decide +kernel, by decide +kernel⟩
theorem mv_X10_note : MWv yX10_note 10 := ⟨uw_in (tin_5 (List.mem_of_getElem? (i := 167) (by decide +kernel))) (by decide +kernel), uw_in (tin_5 (List.mem_of_getElem? (i := 168) (by decide +kernel))) (by decide +kernel), rfl⟩
theorem mw_X10_strike : MWc yX10_strike cX10_strike 2 (some .int) 1 := ⟨uw_in (tin_5 (List.mem_of_getElem? (i := 178) rfl)) rfl, uw_in (tin_1 (List.mem_of_getElem? (i := 1) (by decide +kernel))) (by decide +kernel), by decide +kernel, by decide +kernel, by decide +kernel⟩
theorem mv_X10_strike : MWv yX10_strike 10 := ⟨uw_in (tin_5 (List.mem_of_getElem? (i := 176) (by decide +kernel))) (by decide +kernel), uw_in (tin_5 (List.mem_of_getElem? (i := 177) (by decide +kernel))) (by decide +kernel), rfl⟩
theorem mw_X10_known : MWc yX10_known cX10_known 2 (some .boolean) 1 := ⟨uw_in (tin_5 (List.mem_of_getElem? (i := 188) rfl)) rfl, uw_in (tin_1 (List.mem_of_getElem? (i := 1) (by decide +kernel))) (by decide +kernel), by decide +kernel, by decide +kernel, by decide +kernel⟩
theorem mv_X10_known : MWv yX10_known 10 := ⟨uw_in (tin_5 (List.mem_of_getElem? (i := 186) (by decide +kernel))) (by decide +kernel), uw_in (tin_5 (List.mem_of_getElem? (i := 187) (by decide +kernel))) (by decide +kernel), rfl⟩
theorem mw_X10_fits : MWc yX10_fits cX10_fits 2 (some .int) 1 := ⟨uw_in (tin_5 (List.mem_of_getElem? (i := 192) rfl)) rfl, uw_in (tin_1 (List.mem_of_getElem? (i := 1) (by decide +kernel))) (by decide +kernel), by decide +kernel, by decide +kernel, by decide +kernel⟩
theorem mv_X10_fits : MWv yX10_fits 10 := ⟨uw_in (tin_5 (List.mem_of_getElem? (i := 190) (by decide +kernel))) (by decide +kernel), uw_in (tin_5 (List.mem_of_getElem? (i := 191) (by decide +kernel))) (by decide +kernel), rfl⟩
theorem mw_X10_ask : MWc yX10_ask cX10_ask 6 (some .int) 2 := ⟨uw_in (tin_5 (List.mem_of_getElem? (i := 210) rfl)) rfl, uw_in (tin_1 (List.mem_of_getElem? (i := 1) (by decide +kernel))) (by decide +kernel), by decide +kernel, by decide +kernel, by decide +kernel⟩
theorem mv_X10_ask : MWv yX10_ask 10 := ⟨uw_in (tin_5 (List.mem_of_getElem? (i := 208) (by decide +kernel))) (by decide +kernel), uw_in (tin_5 (List.mem_of_getElem? (i := 209) (by decide +kernel))) (by decide +kernel), rfl⟩
theorem mw_X10_leftAtWorst : MWc yX10_leftAtWorst cX10_leftAtWorst 7 (some .int) 2 := ⟨uw_in (tin_5 (List.mem_of_getElem? (i := 214) rfl)) rfl, uw_in (tin_1 (List.mem_of_getElem? (i := 1) (by decide +kernel))) (by decide +kernel), by decide +kernel, by decide +kernel, by decide +kernel⟩
theorem mv_X10_leftAtWorst : MWv yX10_leftAtWorst 10 := ⟨uw_in (tin_5 (List.mem_of_getElem? (i := 213) (by decide +kernel))) (by decide +kernel), uw_in (List.mem_of_getElem? (i := 51) (by decide +kernel)) (by decide +kernel), rfl⟩
theorem mw_X10_isWithin : MWc yX10_isWithin cX10_isWithin 3 (some .boolean) 3 := ⟨uw_in (tin_3 (List.mem_of_getElem? (i := 130) rfl)) rfl, uw_in (tin_1 (List.mem_of_getElem? (i := 1) (by decide +kernel))) (by decide +kernel), by decide +kernel, by decide +kernel, by decide +kernel⟩
theorem mst_X10_isWithin : Cond.static yX10_isWithin ∈ UW := uw_in (tin_3 (List.mem_of_getElem? (i := 129) (by decide +kernel))) (by decide +kernel)
theorem mw_X10_isToldDay : MWc yX10_isToldDay cX10_isToldDay 1 (some .boolean) 1 := ⟨uw_in (tin_3 (List.mem_of_getElem? (i := 153) rfl)) rfl, uw_in (tin_1 (List.mem_of_getElem? (i := 1) (by decide +kernel))) (by decide +kernel), by decide +kernel, by decide +kernel, by decide +kernel⟩
theorem mst_X10_isToldDay : Cond.static yX10_isToldDay ∈ UW := uw_in (tin_3 (List.mem_of_getElem? (i := 152) (by decide +kernel))) (by decide +kernel)
theorem mw_X10_isAmong : MWc yX10_isAmong cX10_isAmong 2 (some .boolean) 2 := ⟨uw_in (tin_4 (List.mem_of_getElem? (i := 101) rfl)) rfl, uw_in (tin_1 (List.mem_of_getElem? (i := 1) (by decide +kernel))) (by decide +kernel), by decide +kernel, by decide +kernel, by decide +kernel⟩
theorem mst_X10_isAmong : Cond.static yX10_isAmong ∈ UW := uw_in (tin_4 (List.mem_of_getElem? (i := 100) (by decide +kernel))) (by decide +kernel)
theorem mw_X10_isKind : MWc yX10_isKind cX10_isKind 2 (some .boolean) 1 := ⟨uw_in (tin_4 (List.mem_of_getElem? (i := 13) rfl)) rfl, uw_in (tin_1 (List.mem_of_getElem? (i := 1) (by decide +kernel))) (by decide +kernel), by decide +kernel, by decide +kernel, by decide +kernel⟩
theorem mv_X10_isKind : MWv yX10_isKind 10 := ⟨uw_in (tin_4 (List.mem_of_getElem? (i := 12) (by decide +kernel))) (by decide +kernel), uw_in (List.mem_of_getElem? (i := 24) (by decide +kernel)) (by decide +kernel), rfl⟩
theorem mw_X10_isHouse : MWc yX10_isHouse cX10_isHouse 2 (some .boolean) 1 := ⟨uw_in (tin_4 (List.mem_of_getElem? (i := 34) rfl)) rfl, uw_in (tin_1 (List.mem_of_getElem? (i := 1) (by decide +kernel))) (by decide +kernel), by decide +kernel, by decide +kernel, by decide +kernel⟩
theorem mv_X10_isHouse : MWv yX10_isHouse 10 := ⟨uw_in (tin_4 (List.mem_of_getElem? (i := 33) (by decide +kernel))) (by decide +kernel), uw_in (List.mem_of_getElem? (i := 26) (by decide +kernel)) (by decide +kernel), rfl⟩
theorem mw_X10_areHouses : MWc yX10_areHouses cX10_areHouses 2 (some .boolean) 1 := ⟨uw_in (tin_4 (List.mem_of_getElem? (i := 94) rfl)) rfl, uw_in (tin_1 (List.mem_of_getElem? (i := 1) (by decide +kernel))) (by decide +kernel), by decide +kernel, by decide +kernel, by decide +kernel⟩
theorem mv_X10_areHouses : MWv yX10_areHouses 10 := ⟨uw_in (tin_4 (List.mem_of_getElem? (i := 93) (by decide +kernel))) (by decide +kernel), uw_in (List.mem_of_getElem? (i := 29) (by decide +kernel)) (by decide +kernel), rfl⟩
theorem mw_X11_thrown : MWc yX11_thrown cX11_thrown 1 (some .int) 0 := ⟨uw_in (tin_7 (List.mem_of_getElem? (i := 95) rfl)) rfl, uw_in (tin_1 (List.mem_of_getElem? (i := 16) (by decide +kernel))) (by decide +kernel), by decide +kernel, by decide +kernel, by decide +kernel⟩
theorem mv_X11_thrown : MWv yX11_thrown 11 := ⟨uw_in (tin_7 (List.mem_of_getElem? (i := 93) (by decide +kernel))) (by decide +kernel), uw_in (tin_7 (List.mem_of_getElem? (i := 94) (by decide +kernel))) (by decide +kernel), rfl⟩
theorem mw_X11_feed : MWc yX11_feed cX11_feed 8 (some .int) 5 := ⟨uw_in (tin_7 (List.mem_of_getElem? (i := 99) rfl)) rfl, uw_in (tin_1 (List.mem_of_getElem? (i := 16) (by decide +kernel))) (by decide +kernel), by decide +kernel, by decide +kernel, by decide +kernel⟩
theorem mv_X11_feed : MWv yX11_feed 11 := ⟨uw_in (tin_7 (List.mem_of_getElem? (i := 97) (by decide +kernel))) (by decide +kernel), uw_in (tin_7 (List.mem_of_getElem? (i := 98) (by decide +kernel))) (by decide +kernel), rfl⟩
theorem mw_X11_isIn : MWc yX11_isIn cX11_isIn 3 (some .boolean) 3 := ⟨uw_in (tin_7 (List.mem_of_getElem? (i := 154) rfl)) rfl, uw_in (tin_1 (List.mem_of_getElem? (i := 16) (by decide +kernel))) (by decide +kernel), by decide +kernel, by decide +kernel, by decide +kernel⟩
theorem mst_X11_isIn : Cond.static yX11_isIn ∈ UW := uw_in (tin_7 (List.mem_of_getElem? (i := 153) (by decide +kernel))) (by decide +kernel)
theorem mw_X11_isOf : MWc yX11_isOf cX11_isOf 2 (some .boolean) 2 := ⟨uw_in (tin_8 (List.mem_of_getElem? (i := 82) rfl)) rfl, uw_in (tin_1 (List.mem_of_getElem? (i := 16) (by decide +kernel))) (by decide +kernel), by decide +kernel, by decide +kernel, by decide +kernel⟩
theorem mst_X11_isOf : Cond.static yX11_isOf ∈ UW := uw_in (tin_8 (List.mem_of_getElem? (i := 81) (by decide +kernel))) (by decide +kernel)
theorem mw_X11_wrong : MWc yX11_wrong cX11_wrong 2 (some .boolean) 1 := ⟨uw_in (tin_7 (List.mem_of_getElem? (i := 136) rfl)) rfl, uw_in (tin_1 (List.mem_of_getElem? (i := 16) (by decide +kernel))) (by decide +kernel), by decide +kernel, by decide +kernel, by decide +kernel⟩
theorem mv_X11_wrong : MWv yX11_wrong 11 := ⟨uw_in (tin_7 (List.mem_of_getElem? (i := 135) (by decide +kernel))) (by decide +kernel), uw_in (List.mem_of_getElem? (i := 64) (by decide +kernel)) (by decide +kernel), rfl⟩
theorem mw_X11_wordAt : MWc yX11_wordAt cX11_wordAt 8 (some .int) 2 := ⟨uw_in (tin_7 (List.mem_of_getElem? (i := 115) rfl)) rfl, uw_in (tin_1 (List.mem_of_getElem? (i := 16) (by decide +kernel))) (by decide +kernel), by decide +kernel, by decide +kernel, by decide +kernel⟩
theorem mv_X11_wordAt : MWv yX11_wordAt 11 := ⟨uw_in (tin_7 (List.mem_of_getElem? (i := 114) (by decide +kernel))) (by decide +kernel), uw_in (List.mem_of_getElem? (i := 59) (by decide +kernel)) (by decide +kernel), rfl⟩
theorem mw_X11_isSmall : MWc yX11_isSmall cX11_isSmall 2 (some .boolean) 1 := ⟨uw_in (tin_7 (List.mem_of_getElem? (i := 111) rfl)) rfl, uw_in (tin_1 (List.mem_of_getElem? (i := 16) (by decide +kernel))) (by decide +kernel), by decide +kernel, by decide +kernel, by decide +kernel⟩
theorem mv_X11_isSmall : MWv yX11_isSmall 11 := ⟨uw_in (tin_7 (List.mem_of_getElem? (i := 110) (by decide +kernel))) (by decide +kernel), uw_in (List.mem_of_getElem? (i := 58) (by decide +kernel)) (by decide +kernel), rfl⟩
theorem mw_X11_isDigit : MWc yX11_isDigit cX11_isDigit 2 (some .boolean) 1 := ⟨uw_in (tin_7 (List.mem_of_getElem? (i := 123) rfl)) rfl, uw_in (tin_1 (List.mem_of_getElem? (i := 16) (by decide +kernel))) (by decide +kernel), by decide +kernel, by decide +kernel, by decide +kernel⟩
theorem mv_X11_isDigit : MWv yX11_isDigit 11 := ⟨uw_in (tin_7 (List.mem_of_getElem? (i := 122) (by decide +kernel))) (by decide +kernel), uw_in (List.mem_of_getElem? (i := 61) (by decide +kernel)) (by decide +kernel), rfl⟩
theorem mw_X11_token : MWc yX11_token cX11_token 1 none 0 := ⟨uw_in (tin_7 (List.mem_of_getElem? (i := 107) rfl)) rfl, uw_in (tin_1 (List.mem_of_getElem? (i := 16) (by decide +kernel))) (by decide +kernel), by decide +kernel, by decide +kernel, by decide +kernel⟩
theorem mv_X11_token : MWv yX11_token 11 := ⟨uw_in (tin_7 (List.mem_of_getElem? (i := 106) (by decide +kernel))) (by decide +kernel), uw_in (List.mem_of_getElem? (i := 57) (by decide +kernel)) (by decide +kernel), rfl⟩
theorem mw_X11_signToken : MWc yX11_signToken cX11_signToken 4 none 0 := ⟨uw_in (tin_7 (List.mem_of_getElem? (i := 128) rfl)) rfl, uw_in (tin_1 (List.mem_of_getElem? (i := 16) (by decide +kernel))) (by decide +kernel), by decide +kernel, by decide +kernel, by decide +kernel⟩
theorem mv_X11_signToken : MWv yX11_signToken 11 := ⟨uw_in (tin_7 (List.mem_of_getElem? (i := 127) (by decide +kernel))) (by decide +kernel), uw_in (List.mem_of_getElem? (i := 62) (by decide +kernel)) (by decide +kernel), rfl⟩
theorem mw_X11_packed : MWc yX11_packed cX11_packed 5 (some .int) 2 := ⟨uw_in (tin_7 (List.mem_of_getElem? (i := 119) rfl)) rfl, uw_in (tin_1 (List.mem_of_getElem? (i := 16) (by decide +kernel))) (by decide +kernel), by decide +kernel, by decide +kernel, by decide +kernel⟩
theorem mv_X11_packed : MWv yX11_packed 11 := ⟨uw_in (tin_7 (List.mem_of_getElem? (i := 118) (by decide +kernel))) (by decide +kernel), uw_in (List.mem_of_getElem? (i := 60) (by decide +kernel)) (by decide +kernel), rfl⟩
theorem mw_X11_isKey : MWc yX11_isKey cX11_isKey 2 (some .boolean) 1 := ⟨uw_in (tin_7 (List.mem_of_getElem? (i := 194) rfl)) rfl, uw_in (tin_1 (List.mem_of_getElem? (i := 16) (by decide +kernel))) (by decide +kernel), by decide +kernel, by decide +kernel, by decide +kernel⟩
theorem mv_X11_isKey : MWv yX11_isKey 11 := ⟨uw_in (tin_7 (List.mem_of_getElem? (i := 193) (by decide +kernel))) (by decide +kernel), uw_in (List.mem_of_getElem? (i := 77) (by decide +kernel)) (by decide +kernel), rfl⟩
theorem mw_X11_isSign : MWc yX11_isSign cX11_isSign 2 (some .boolean) 1 := ⟨uw_in (tin_7 (List.mem_of_getElem? (i := 182) rfl)) rfl, uw_in (tin_1 (List.mem_of_getElem? (i := 16) (by decide +kernel))) (by decide +kernel), by decide +kernel, by decide +kernel, by decide +kernel⟩
theorem mv_X11_isSign : MWv yX11_isSign 11 := ⟨uw_in (tin_7 (List.mem_of_getElem? (i := 181) (by decide +kernel))) (by decide +kernel), uw_in (List.mem_of_getElem? (i := 74) (by decide +kernel)) (by decide +kernel), rfl⟩
theorem mw_X11_number : MWc yX11_number cX11_number 3 (some .boolean) 2 := ⟨uw_in (tin_7 (List.mem_of_getElem? (i := 151) rfl)) rfl, uw_in (tin_1 (List.mem_of_getElem? (i := 16) (by decide +kernel))) (by decide +kernel), by decide +kernel, by decide +kernel, by decide +kernel⟩
theorem mv_X11_number : MWv yX11_number 11 := ⟨uw_in (tin_7 (List.mem_of_getElem? (i := 150) (by decide +kernel))) (by decide +kernel), uw_in (List.mem_of_getElem? (i := 67) (by decide +kernel)) (by decide +kernel), rfl⟩
theorem mw_X11_plain : MWc yX11_plain cX11_plain 2 none 0 := ⟨uw_in (tin_6 (List.mem_of_getElem? (i := 75) rfl)) rfl, uw_in (tin_1 (List.mem_of_getElem? (i := 16) (by decide +kernel))) (by decide +kernel), by decide +kernel, by decide +kernel, by decide +kernel⟩
theorem mv_X11_plain : MWv yX11_plain 11 := ⟨uw_in (tin_6 (List.mem_of_getElem? (i := 74) (by decide +kernel))) (by decide +kernel), uw_in (List.mem_of_getElem? (i := 53) (by decide +kernel)) (by decide +kernel), rfl⟩
theorem mw_X11_copies : MWc yX11_copies cX11_copies 3 none 2 := ⟨uw_in (tin_6 (List.mem_of_getElem? (i := 82) rfl)) rfl, uw_in (tin_1 (List.mem_of_getElem? (i := 16) (by decide +kernel))) (by decide +kernel), by decide +kernel, by decide +kernel, by decide +kernel⟩
theorem mst_X11_copies : Cond.static yX11_copies ∈ UW := uw_in (tin_6 (List.mem_of_getElem? (i := 81) (by decide +kernel))) (by decide +kernel)
theorem mw_X11_keepText : MWc yX11_keepText cX11_keepText 2 none 0 := ⟨uw_in (tin_6 (List.mem_of_getElem? (i := 79) rfl)) rfl, uw_in (tin_1 (List.mem_of_getElem? (i := 16) (by decide +kernel))) (by decide +kernel), by decide +kernel, by decide +kernel, by decide +kernel⟩
theorem mv_X11_keepText : MWv yX11_keepText 11 := ⟨uw_in (tin_6 (List.mem_of_getElem? (i := 78) (by decide +kernel))) (by decide +kernel), uw_in (List.mem_of_getElem? (i := 54) (by decide +kernel)) (by decide +kernel), rfl⟩
theorem mw_X11_find : MWc yX11_find cX11_find 5 (some .int) 4 := ⟨uw_in (tin_7 (List.mem_of_getElem? (i := 147) rfl)) rfl, uw_in (tin_1 (List.mem_of_getElem? (i := 16) (by decide +kernel))) (by decide +kernel), by decide +kernel, by decide +kernel, by decide +kernel⟩
theorem mst_X11_find : Cond.static yX11_find ∈ UW := uw_in (tin_7 (List.mem_of_getElem? (i := 146) (by decide +kernel))) (by decide +kernel)
theorem mw_X11_newName : MWc yX11_newName cX11_newName 4 (some .boolean) 3 := ⟨uw_in (tin_7 (List.mem_of_getElem? (i := 144) rfl)) rfl, uw_in (tin_1 (List.mem_of_getElem? (i := 16) (by decide +kernel))) (by decide +kernel), by decide +kernel, by decide +kernel, by decide +kernel⟩
theorem mv_X11_newName : MWv yX11_newName 11 := ⟨uw_in (tin_7 (List.mem_of_getElem? (i := 143) (by decide +kernel))) (by decide +kernel), uw_in (List.mem_of_getElem? (i := 66) (by decide +kernel)) (by decide +kernel), rfl⟩
theorem mw_X11_thereIn : MWc yX11_thereIn cX11_thereIn 5 (some .boolean) 3 := ⟨uw_in (tin_7 (List.mem_of_getElem? (i := 166) rfl)) rfl, uw_in (tin_1 (List.mem_of_getElem? (i := 16) (by decide +kernel))) (by decide +kernel), by decide +kernel, by decide +kernel, by decide +kernel⟩
theorem mv_X11_thereIn : MWv yX11_thereIn 11 := ⟨uw_in (tin_7 (List.mem_of_getElem? (i := 165) (by decide +kernel))) (by decide +kernel), uw_in (List.mem_of_getElem? (i := 70) (by decide +kernel)) (by decide +kernel), rfl⟩
theorem mw_X11_kindLine : MWc yX11_kindLine cX11_kindLine 2 (some .boolean) 0 := ⟨uw_in (tin_7 (List.mem_of_getElem? (i := 140) rfl)) rfl, uw_in (tin_1 (List.mem_of_getElem? (i := 16) (by decide +kernel))) (by decide +kernel), by decide +kernel, by decide +kernel, by decide +kernel⟩
theorem mv_X11_kindLine : MWv yX11_kindLine 11 := ⟨uw_in (tin_7 (List.mem_of_getElem? (i := 139) (by decide +kernel))) (by decide +kernel), uw_in (List.mem_of_getElem? (i := 65) (by decide +kernel)) (by decide +kernel), rfl⟩
theorem mw_X11_houseLine : MWc yX11_houseLine cX11_houseLine 2 (some .boolean) 0 := ⟨uw_in (tin_7 (List.mem_of_getElem? (i := 158) rfl)) rfl, uw_in (tin_1 (List.mem_of_getElem? (i := 16) (by decide +kernel))) (by decide +kernel), by decide +kernel, by decide +kernel, by decide +kernel⟩
theorem mv_X11_houseLine : MWv yX11_houseLine 11 := ⟨uw_in (tin_7 (List.mem_of_getElem? (i := 157) (by decide +kernel))) (by decide +kernel), uw_in (List.mem_of_getElem? (i := 68) (by decide +kernel)) (by decide +kernel), rfl⟩
theorem mw_X11_dayLine : MWc yX11_dayLine cX11_dayLine 3 (some .boolean) 0 := ⟨uw_in (tin_7 (List.mem_of_getElem? (i := 162) rfl)) rfl, uw_in (tin_1 (List.mem_of_getElem? (i := 16) (by decide +kernel))) (by decide +kernel), by decide +kernel, by decide +kernel, by decide +kernel⟩
theorem mv_X11_dayLine : MWv yX11_dayLine 11 := ⟨uw_in (tin_7 (List.mem_of_getElem? (i := 161) (by decide +kernel))) (by decide +kernel), uw_in (List.mem_of_getElem? (i := 69) (by decide +kernel)) (by decide +kernel), rfl⟩
theorem mw_X11_workLine : MWc yX11_workLine cX11_workLine 2 (some .boolean) 0 := ⟨uw_in (tin_7 (List.mem_of_getElem? (i := 170) rfl)) rfl, uw_in (tin_1 (List.mem_of_getElem? (i := 16) (by decide +kernel))) (by decide +kernel), by decide +kernel, by decide +kernel, by decide +kernel⟩
theorem mv_X11_workLine : MWv yX11_workLine 11 := ⟨uw_in (tin_7 (List.mem_of_getElem? (i := 169) (by decide +kernel))) (by decide +kernel), uw_in (List.mem_of_getElem? (i := 71) (by decide +kernel)) (by decide +kernel), rfl⟩
theorem mw_X11_onceLine : MWc yX11_onceLine cX11_onceLine 4 (some .boolean) 3 := ⟨uw_in (tin_7 (List.mem_of_getElem? (i := 174) rfl)) rfl, uw_in (tin_1 (List.mem_of_getElem? (i := 16) (by decide +kernel))) (by decide +kernel), by decide +kernel, by decide +kernel, by decide +kernel⟩
theorem mv_X11_onceLine : MWv yX11_onceLine 11 := ⟨uw_in (tin_7 (List.mem_of_getElem? (i := 173) (by decide +kernel))) (by decide +kernel), uw_in (List.mem_of_getElem? (i := 72) (by decide +kernel)) (by decide +kernel), rfl⟩
theorem mw_X11_lineRead : MWc yX11_lineRead cX11_lineRead 3 (some .boolean) 0 := ⟨uw_in (tin_7 (List.mem_of_getElem? (i := 132) rfl)) rfl, uw_in (tin_1 (List.mem_of_getElem? (i := 16) (by decide +kernel))) (by decide +kernel), by decide +kernel, by decide +kernel, by decide +kernel⟩
theorem mv_X11_lineRead : MWv yX11_lineRead 11 := ⟨uw_in (tin_7 (List.mem_of_getElem? (i := 131) (by decide +kernel))) (by decide +kernel), uw_in (List.mem_of_getElem? (i := 63) (by decide +kernel)) (by decide +kernel), rfl⟩
theorem mw_X11_text : MWc yX11_text cX11_text 3 (some .int) 1 := ⟨uw_in (tin_7 (List.mem_of_getElem? (i := 103) rfl)) rfl, uw_in (tin_1 (List.mem_of_getElem? (i := 16) (by decide +kernel))) (by decide +kernel), by decide +kernel, by decide +kernel, by decide +kernel⟩
theorem mv_X11_text : MWv yX11_text 11 := ⟨uw_in (tin_7 (List.mem_of_getElem? (i := 101) (by decide +kernel))) (by decide +kernel), uw_in (tin_7 (List.mem_of_getElem? (i := 102) (by decide +kernel))) (by decide +kernel), rfl⟩
theorem mw_X11_fault : MWc yX11_fault cX11_fault 2 (some .int) 1 := ⟨uw_in (tin_7 (List.mem_of_getElem? (i := 225) rfl)) rfl, uw_in (tin_1 (List.mem_of_getElem? (i := 16) (by decide +kernel))) (by decide +kernel), by decide +kernel, by decide +kernel, by decide +kernel⟩
theorem mv_X11_fault : MWv yX11_fault 11 := ⟨uw_in (tin_7 (List.mem_of_getElem? (i := 223) (by decide +kernel))) (by decide +kernel), uw_in (tin_7 (List.mem_of_getElem? (i := 224) (by decide +kernel))) (by decide +kernel), rfl⟩
theorem mw_X11_named : MWc yX11_named cX11_named 3 (some .int) 2 := ⟨uw_in (tin_7 (List.mem_of_getElem? (i := 229) rfl)) rfl, uw_in (tin_1 (List.mem_of_getElem? (i := 16) (by decide +kernel))) (by decide +kernel), by decide +kernel, by decide +kernel, by decide +kernel⟩
theorem mv_X11_named : MWv yX11_named 11 := ⟨uw_in (tin_7 (List.mem_of_getElem? (i := 227) (by decide +kernel))) (by decide +kernel), uw_in (tin_7 (List.mem_of_getElem? (i := 228) (by decide +kernel))) (by decide +kernel), rfl⟩
theorem mw_X11_standing : MWc yX11_standing cX11_standing 1 (some .int) 1 := ⟨uw_in (tin_7 (List.mem_of_getElem? (i := 217) rfl)) rfl, uw_in (tin_1 (List.mem_of_getElem? (i := 16) (by decide +kernel))) (by decide +kernel), by decide +kernel, by decide +kernel, by decide +kernel⟩
theorem mst_X11_standing : Cond.static yX11_standing ∈ UW := uw_in (tin_7 (List.mem_of_getElem? (i := 216) (by decide +kernel))) (by decide +kernel)
theorem mw_X11_grown : MWc yX11_grown cX11_grown 4 none 3 := ⟨uw_in (tin_7 (List.mem_of_getElem? (i := 206) rfl)) rfl, uw_in (tin_1 (List.mem_of_getElem? (i := 16) (by decide +kernel))) (by decide +kernel), by decide +kernel, by decide +kernel, by decide +kernel⟩
theorem mv_X11_grown : MWv yX11_grown 11 := ⟨uw_in (tin_7 (List.mem_of_getElem? (i := 205) (by decide +kernel))) (by decide +kernel), uw_in (List.mem_of_getElem? (i := 80) (by decide +kernel)) (by decide +kernel), rfl⟩
theorem mw_X11_dropHeld : MWc yX11_dropHeld cX11_dropHeld 1 (some .int) 0 := ⟨uw_in (tin_7 (List.mem_of_getElem? (i := 221) rfl)) rfl, uw_in (tin_1 (List.mem_of_getElem? (i := 16) (by decide +kernel))) (by decide +kernel), by decide +kernel, by decide +kernel, by decide +kernel⟩
theorem mv_X11_dropHeld : MWv yX11_dropHeld 11 := ⟨uw_in (tin_7 (List.mem_of_getElem? (i := 220) (by decide +kernel))) (by decide +kernel), uw_in (List.mem_of_getElem? (i := 83) (by decide +kernel)) (by decide +kernel), rfl⟩
theorem mw_X11_bind : MWc yX11_bind cX11_bind 5 none 1 := ⟨uw_in (tin_7 (List.mem_of_getElem? (i := 214) rfl)) rfl, uw_in (tin_1 (List.mem_of_getElem? (i := 16) (by decide +kernel))) (by decide +kernel), by decide +kernel, by decide +kernel, by decide +kernel⟩
theorem mv_X11_bind : MWv yX11_bind 11 := ⟨uw_in (tin_7 (List.mem_of_getElem? (i := 213) (by decide +kernel))) (by decide +kernel), uw_in (List.mem_of_getElem? (i := 82) (by decide +kernel)) (by decide +kernel), rfl⟩
theorem mw_X11_isCounted : MWc yX11_isCounted cX11_isCounted 1 (some .boolean) 0 := ⟨uw_in (tin_7 (List.mem_of_getElem? (i := 198) rfl)) rfl, uw_in (tin_1 (List.mem_of_getElem? (i := 16) (by decide +kernel))) (by decide +kernel), by decide +kernel, by decide +kernel, by decide +kernel⟩
theorem mv_X11_isCounted : MWv yX11_isCounted 11 := ⟨uw_in (tin_7 (List.mem_of_getElem? (i := 197) (by decide +kernel))) (by decide +kernel), uw_in (List.mem_of_getElem? (i := 78) (by decide +kernel)) (by decide +kernel), rfl⟩
theorem mw_X11_waitsFor : MWc yX11_waitsFor cX11_waitsFor 2 none 1 := ⟨uw_in (tin_7 (List.mem_of_getElem? (i := 190) rfl)) rfl, uw_in (tin_1 (List.mem_of_getElem? (i := 16) (by decide +kernel))) (by decide +kernel), by decide +kernel, by decide +kernel, by decide +kernel⟩
theorem mv_X11_waitsFor : MWv yX11_waitsFor 11 := ⟨uw_in (tin_7 (List.mem_of_getElem? (i := 189) (by decide +kernel))) (by decide +kernel), uw_in (List.mem_of_getElem? (i := 76) (by decide +kernel)) (by decide +kernel), rfl⟩
theorem mw_X11_nameMet : MWc yX11_nameMet cX11_nameMet 1 (some .int) 0 := ⟨uw_in (tin_7 (List.mem_of_getElem? (i := 202) rfl)) rfl, uw_in (tin_1 (List.mem_of_getElem? (i := 16) (by decide +kernel))) (by decide +kernel), by decide +kernel, by decide +kernel, by decide +kernel⟩
theorem mv_X11_nameMet : MWv yX11_nameMet 11 := ⟨uw_in (tin_7 (List.mem_of_getElem? (i := 201) (by decide +kernel))) (by decide +kernel), uw_in (List.mem_of_getElem? (i := 79) (by decide +kernel)) (by decide +kernel), rfl⟩
theorem mw_X11_leafRead : MWc yX11_leafRead cX11_leafRead 2 (some .boolean) 0 := ⟨uw_in (tin_7 (List.mem_of_getElem? (i := 186) rfl)) rfl, uw_in (tin_1 (List.mem_of_getElem? (i := 16) (by decide +kernel))) (by decide +kernel), by decide +kernel, by decide +kernel, by decide +kernel⟩
theorem mv_X11_leafRead : MWv yX11_leafRead 11 := ⟨uw_in (tin_7 (List.mem_of_getElem? (i := 185) (by decide +kernel))) (by decide +kernel), uw_in (List.mem_of_getElem? (i := 75) (by decide +kernel)) (by decide +kernel), rfl⟩
theorem mw_X11_signs : MWc yX11_signs cX11_signs 2 (some .boolean) 0 := ⟨uw_in (tin_7 (List.mem_of_getElem? (i := 210) rfl)) rfl, uw_in (tin_1 (List.mem_of_getElem? (i := 16) (by decide +kernel))) (by decide +kernel), by decide +kernel, by decide +kernel, by decide +kernel⟩
theorem mv_X11_signs : MWv yX11_signs 11 := ⟨uw_in (tin_7 (List.mem_of_getElem? (i := 209) (by decide +kernel))) (by decide +kernel), uw_in (List.mem_of_getElem? (i := 81) (by decide +kernel)) (by decide +kernel), rfl⟩
theorem mw_X11_sumRead : MWc yX11_sumRead cX11_sumRead 1 (some .boolean) 0 := ⟨uw_in (tin_7 (List.mem_of_getElem? (i := 178) rfl)) rfl, uw_in (tin_1 (List.mem_of_getElem? (i := 16) (by decide +kernel))) (by decide +kernel), by decide +kernel, by decide +kernel, by decide +kernel⟩
theorem mv_X11_sumRead : MWv yX11_sumRead 11 := ⟨uw_in (tin_7 (List.mem_of_getElem? (i := 177) (by decide +kernel))) (by decide +kernel), uw_in (List.mem_of_getElem? (i := 73) (by decide +kernel)) (by decide +kernel), rfl⟩
theorem mw_X11_bounded : MWc yX11_bounded cX11_bounded 3 (some .long) 1 := ⟨uw_in (tin_8 (List.mem_of_getElem? (i := 50) rfl)) rfl, uw_in (tin_1 (List.mem_of_getElem? (i := 16) (by decide +kernel))) (by decide +kernel), by decide +kernel, by decide +kernel, by decide +kernel⟩
theorem mv_X11_bounded : MWv yX11_bounded 11 := ⟨uw_in (tin_8 (List.mem_of_getElem? (i := 49) (by decide +kernel))) (by decide +kernel), uw_in (List.mem_of_getElem? (i := 94) (by decide +kernel)) (by decide +kernel), rfl⟩
theorem mw_X11_compares : MWc yX11_compares cX11_compares 5 (some .boolean) 3 := ⟨uw_in (tin_8 (List.mem_of_getElem? (i := 59) rfl)) rfl, uw_in (tin_1 (List.mem_of_getElem? (i := 16) (by decide +kernel))) (by decide +kernel), by decide +kernel, by decide +kernel, by decide +kernel⟩
theorem mst_X11_compares : Cond.static yX11_compares ∈ UW := uw_in (tin_8 (List.mem_of_getElem? (i := 58) (by decide +kernel))) (by decide +kernel)
theorem mw_X11_times : MWc yX11_times cX11_times 6 (some .long) 2 := ⟨uw_in (tin_8 (List.mem_of_getElem? (i := 56) rfl)) rfl, uw_in (tin_1 (List.mem_of_getElem? (i := 16) (by decide +kernel))) (by decide +kernel), by decide +kernel, by decide +kernel, by decide +kernel⟩
theorem mv_X11_times : MWv yX11_times 11 := ⟨uw_in (tin_8 (List.mem_of_getElem? (i := 55) (by decide +kernel))) (by decide +kernel), uw_in (List.mem_of_getElem? (i := 95) (by decide +kernel)) (by decide +kernel), rfl⟩
theorem mw_X11_valueOf : MWc yX11_valueOf cX11_valueOf 6 (some .long) 1 := ⟨uw_in (tin_8 (List.mem_of_getElem? (i := 46) rfl)) rfl, uw_in (tin_1 (List.mem_of_getElem? (i := 16) (by decide +kernel))) (by decide +kernel), by decide +kernel, by decide +kernel, by decide +kernel⟩
theorem mv_X11_valueOf : MWv yX11_valueOf 11 := ⟨uw_in (tin_8 (List.mem_of_getElem? (i := 45) (by decide +kernel))) (by decide +kernel), uw_in (List.mem_of_getElem? (i := 93) (by decide +kernel)) (by decide +kernel), rfl⟩
theorem mw_X11_begin : MWc yX11_begin cX11_begin 2 none 0 := ⟨uw_in (tin_6 (List.mem_of_getElem? (i := 86) rfl)) rfl, uw_in (tin_1 (List.mem_of_getElem? (i := 16) (by decide +kernel))) (by decide +kernel), by decide +kernel, by decide +kernel, by decide +kernel⟩
theorem mv_X11_begin : MWv yX11_begin 11 := ⟨uw_in (tin_6 (List.mem_of_getElem? (i := 85) (by decide +kernel))) (by decide +kernel), uw_in (List.mem_of_getElem? (i := 55) (by decide +kernel)) (by decide +kernel), rfl⟩
theorem mw_X11_plainTried : MWc yX11_plainTried cX11_plainTried 1 none 0 := ⟨uw_in (tin_6 (List.mem_of_getElem? (i := 90) rfl)) rfl, uw_in (tin_1 (List.mem_of_getElem? (i := 16) (by decide +kernel))) (by decide +kernel), by decide +kernel, by decide +kernel, by decide +kernel⟩
theorem mv_X11_plainTried : MWv yX11_plainTried 11 := ⟨uw_in (tin_6 (List.mem_of_getElem? (i := 89) (by decide +kernel))) (by decide +kernel), uw_in (List.mem_of_getElem? (i := 56) (by decide +kernel)) (by decide +kernel), rfl⟩
theorem mw_X11_layTried : MWc yX11_layTried cX11_layTried 2 none 0 := ⟨uw_in (tin_8 (List.mem_of_getElem? (i := 135) rfl)) rfl, uw_in (tin_1 (List.mem_of_getElem? (i := 16) (by decide +kernel))) (by decide +kernel), by decide +kernel, by decide +kernel, by decide +kernel⟩
theorem mv_X11_layTried : MWv yX11_layTried 11 := ⟨uw_in (tin_8 (List.mem_of_getElem? (i := 134) (by decide +kernel))) (by decide +kernel), uw_in (List.mem_of_getElem? (i := 106) (by decide +kernel)) (by decide +kernel), rfl⟩
theorem mw_X11_isKind : MWc yX11_isKind cX11_isKind 2 (some .boolean) 1 := ⟨uw_in (tin_8 (List.mem_of_getElem? (i := 9) rfl)) rfl, uw_in (tin_1 (List.mem_of_getElem? (i := 16) (by decide +kernel))) (by decide +kernel), by decide +kernel, by decide +kernel, by decide +kernel⟩
theorem mv_X11_isKind : MWv yX11_isKind 11 := ⟨uw_in (tin_8 (List.mem_of_getElem? (i := 8) (by decide +kernel))) (by decide +kernel), uw_in (List.mem_of_getElem? (i := 86) (by decide +kernel)) (by decide +kernel), rfl⟩
theorem mw_X11_isHouse : MWc yX11_isHouse cX11_isHouse 2 (some .boolean) 1 := ⟨uw_in (tin_7 (List.mem_of_getElem? (i := 237) rfl)) rfl, uw_in (tin_1 (List.mem_of_getElem? (i := 16) (by decide +kernel))) (by decide +kernel), by decide +kernel, by decide +kernel, by decide +kernel⟩
theorem mv_X11_isHouse : MWv yX11_isHouse 11 := ⟨uw_in (tin_7 (List.mem_of_getElem? (i := 236) (by decide +kernel))) (by decide +kernel), uw_in (List.mem_of_getElem? (i := 84) (by decide +kernel)) (by decide +kernel), rfl⟩
theorem mw_X11_areHouses : MWc yX11_areHouses cX11_areHouses 2 (some .boolean) 1 := ⟨uw_in (tin_8 (List.mem_of_getElem? (i := 202) rfl)) rfl, uw_in (tin_1 (List.mem_of_getElem? (i := 16) (by decide +kernel))) (by decide +kernel), by decide +kernel, by decide +kernel, by decide +kernel⟩
theorem mv_X11_areHouses : MWv yX11_areHouses 11 := ⟨uw_in (tin_8 (List.mem_of_getElem? (i := 201) (by decide +kernel))) (by decide +kernel), uw_in (List.mem_of_getElem? (i := 115) (by decide +kernel)) (by decide +kernel), rfl⟩
theorem mw_X11_manyOf : MWc yX11_manyOf cX11_manyOf 3 (some .int) 1 := ⟨uw_in (tin_8 (List.mem_of_getElem? (i := 142) rfl)) rfl, uw_in (tin_1 (List.mem_of_getElem? (i := 16) (by decide +kernel))) (by decide +kernel), by decide +kernel, by decide +kernel, by decide +kernel⟩
theorem mst_X11_manyOf : Cond.static yX11_manyOf ∈ UW := uw_in (tin_8 (List.mem_of_getElem? (i := 141) (by decide +kernel))) (by decide +kernel)
theorem mw_X11_worthOf : MWc yX11_worthOf cX11_worthOf 2 (some .int) 1 := ⟨uw_in (tin_8 (List.mem_of_getElem? (i := 34) rfl)) rfl, uw_in (tin_1 (List.mem_of_getElem? (i := 16) (by decide +kernel))) (by decide +kernel), by decide +kernel, by decide +kernel, by decide +kernel⟩
theorem mv_X11_worthOf : MWv yX11_worthOf 11 := ⟨uw_in (tin_8 (List.mem_of_getElem? (i := 33) (by decide +kernel))) (by decide +kernel), uw_in (List.mem_of_getElem? (i := 90) (by decide +kernel)) (by decide +kernel), rfl⟩
theorem mw_X11_eagerOf : MWc yX11_eagerOf cX11_eagerOf 2 (some .int) 1 := ⟨uw_in (tin_8 (List.mem_of_getElem? (i := 38) rfl)) rfl, uw_in (tin_1 (List.mem_of_getElem? (i := 16) (by decide +kernel))) (by decide +kernel), by decide +kernel, by decide +kernel, by decide +kernel⟩
theorem mv_X11_eagerOf : MWv yX11_eagerOf 11 := ⟨uw_in (tin_8 (List.mem_of_getElem? (i := 37) (by decide +kernel))) (by decide +kernel), uw_in (List.mem_of_getElem? (i := 91) (by decide +kernel)) (by decide +kernel), rfl⟩
theorem mw_X11_lay : MWc yX11_lay cX11_lay 4 none 3 := ⟨uw_in (tin_8 (List.mem_of_getElem? (i := 30) rfl)) rfl, uw_in (tin_1 (List.mem_of_getElem? (i := 16) (by decide +kernel))) (by decide +kernel), by decide +kernel, by decide +kernel, by decide +kernel⟩
theorem mv_X11_lay : MWv yX11_lay 11 := ⟨uw_in (tin_8 (List.mem_of_getElem? (i := 29) (by decide +kernel))) (by decide +kernel), uw_in (List.mem_of_getElem? (i := 89) (by decide +kernel)) (by decide +kernel), rfl⟩
theorem mw_X11_lawOf : MWc yX11_lawOf cX11_lawOf 3 (some .long) 1 := ⟨uw_in (tin_8 (List.mem_of_getElem? (i := 42) rfl)) rfl, uw_in (tin_1 (List.mem_of_getElem? (i := 16) (by decide +kernel))) (by decide +kernel), by decide +kernel, by decide +kernel, by decide +kernel⟩
theorem mv_X11_lawOf : MWv yX11_lawOf 11 := ⟨uw_in (tin_8 (List.mem_of_getElem? (i := 41) (by decide +kernel))) (by decide +kernel), uw_in (List.mem_of_getElem? (i := 92) (by decide +kernel)) (by decide +kernel), rfl⟩
theorem mw_X11_boundLaw : MWc yX11_boundLaw cX11_boundLaw 7 (some .int) 4 := ⟨uw_in (tin_8 (List.mem_of_getElem? (i := 122) rfl)) rfl, uw_in (tin_1 (List.mem_of_getElem? (i := 16) (by decide +kernel))) (by decide +kernel), by decide +kernel, by decide +kernel, by decide +kernel⟩
theorem mv_X11_boundLaw : MWv yX11_boundLaw 11 := ⟨uw_in (tin_8 (List.mem_of_getElem? (i := 121) (by decide +kernel))) (by decide +kernel), uw_in (List.mem_of_getElem? (i := 104) (by decide +kernel)) (by decide +kernel), rfl⟩
theorem mw_X11_number1 : MWc yX11_number1 cX11_number1 2 (some .int) 1 := ⟨uw_in (tin_8 (List.mem_of_getElem? (i := 110) rfl)) rfl, uw_in (tin_1 (List.mem_of_getElem? (i := 16) (by decide +kernel))) (by decide +kernel), by decide +kernel, by decide +kernel, by decide +kernel⟩
theorem mv_X11_number1 : MWv yX11_number1 11 := ⟨uw_in (tin_8 (List.mem_of_getElem? (i := 109) (by decide +kernel))) (by decide +kernel), uw_in (List.mem_of_getElem? (i := 102) (by decide +kernel)) (by decide +kernel), rfl⟩
theorem mw_X11_weightAll : MWc yX11_weightAll cX11_weightAll 3 (some .int) 0 := ⟨uw_in (tin_8 (List.mem_of_getElem? (i := 106) rfl)) rfl, uw_in (tin_1 (List.mem_of_getElem? (i := 16) (by decide +kernel))) (by decide +kernel), by decide +kernel, by decide +kernel, by decide +kernel⟩
theorem mv_X11_weightAll : MWv yX11_weightAll 11 := ⟨uw_in (tin_8 (List.mem_of_getElem? (i := 105) (by decide +kernel))) (by decide +kernel), uw_in (List.mem_of_getElem? (i := 101) (by decide +kernel)) (by decide +kernel), rfl⟩
theorem mw_X11_heaviest : MWc yX11_heaviest cX11_heaviest 3 (some .int) 0 := ⟨uw_in (tin_8 (List.mem_of_getElem? (i := 21) rfl)) rfl, uw_in (tin_1 (List.mem_of_getElem? (i := 16) (by decide +kernel))) (by decide +kernel), by decide +kernel, by decide +kernel, by decide +kernel⟩
theorem mv_X11_heaviest : MWv yX11_heaviest 11 := ⟨uw_in (tin_8 (List.mem_of_getElem? (i := 20) (by decide +kernel))) (by decide +kernel), uw_in (List.mem_of_getElem? (i := 88) (by decide +kernel)) (by decide +kernel), rfl⟩
theorem mw_X11_drawnKind : MWc yX11_drawnKind cX11_drawnKind 6 (some .int) 0 := ⟨uw_in (tin_8 (List.mem_of_getElem? (i := 102) rfl)) rfl, uw_in (tin_1 (List.mem_of_getElem? (i := 16) (by decide +kernel))) (by decide +kernel), by decide +kernel, by decide +kernel, by decide +kernel⟩
theorem mv_X11_drawnKind : MWv yX11_drawnKind 11 := ⟨uw_in (tin_8 (List.mem_of_getElem? (i := 101) (by decide +kernel))) (by decide +kernel), uw_in (List.mem_of_getElem? (i := 100) (by decide +kernel)) (by decide +kernel), rfl⟩
theorem mw_X11_weatherOf : MWc yX11_weatherOf cX11_weatherOf 3 (some .int) 1 := ⟨uw_in (tin_8 (List.mem_of_getElem? (i := 98) rfl)) rfl, uw_in (tin_1 (List.mem_of_getElem? (i := 16) (by decide +kernel))) (by decide +kernel), by decide +kernel, by decide +kernel, by decide +kernel⟩
theorem mv_X11_weatherOf : MWv yX11_weatherOf 11 := ⟨uw_in (tin_8 (List.mem_of_getElem? (i := 97) (by decide +kernel))) (by decide +kernel), uw_in (List.mem_of_getElem? (i := 99) (by decide +kernel)) (by decide +kernel), rfl⟩
theorem mw_X11_bounded_ : MWc yX11_bounded_ cX11_bounded_ 3 (some .int) 3 := ⟨uw_in (tin_8 (List.mem_of_getElem? (i := 86) rfl)) rfl, uw_in (tin_1 (List.mem_of_getElem? (i := 16) (by decide +kernel))) (by decide +kernel), by decide +kernel, by decide +kernel, by decide +kernel⟩
theorem mst_X11_bounded_ : Cond.static yX11_bounded_ ∈ UW := uw_in (tin_8 (List.mem_of_getElem? (i := 85) (by decide +kernel))) (by decide +kernel)
theorem mw_X11_looks : MWc yX11_looks cX11_looks 6 none 3 := ⟨uw_in (tin_8 (List.mem_of_getElem? (i := 118) rfl)) rfl, uw_in (tin_1 (List.mem_of_getElem? (i := 16) (by decide +kernel))) (by decide +kernel), by decide +kernel, by decide +kernel, by decide +kernel⟩
theorem mv_X11_looks : MWv yX11_looks 11 := ⟨uw_in (tin_8 (List.mem_of_getElem? (i := 117) (by decide +kernel))) (by decide +kernel), uw_in (List.mem_of_getElem? (i := 103) (by decide +kernel)) (by decide +kernel), rfl⟩
theorem mw_X11_pays : MWc yX11_pays cX11_pays 5 none 2 := ⟨uw_in (tin_8 (List.mem_of_getElem? (i := 126) rfl)) rfl, uw_in (tin_1 (List.mem_of_getElem? (i := 16) (by decide +kernel))) (by decide +kernel), by decide +kernel, by decide +kernel, by decide +kernel⟩
theorem mv_X11_pays : MWv yX11_pays 11 := ⟨uw_in (tin_8 (List.mem_of_getElem? (i := 125) (by decide +kernel))) (by decide +kernel), uw_in (List.mem_of_getElem? (i := 105) (by decide +kernel)) (by decide +kernel), rfl⟩
theorem mw_X11_dayGoes : MWc yX11_dayGoes cX11_dayGoes 4 none 1 := ⟨uw_in (tin_8 (List.mem_of_getElem? (i := 94) rfl)) rfl, uw_in (tin_1 (List.mem_of_getElem? (i := 16) (by decide +kernel))) (by decide +kernel), by decide +kernel, by decide +kernel, by decide +kernel⟩
theorem mv_X11_dayGoes : MWv yX11_dayGoes 11 := ⟨uw_in (tin_8 (List.mem_of_getElem? (i := 93) (by decide +kernel))) (by decide +kernel), uw_in (List.mem_of_getElem? (i := 98) (by decide +kernel)) (by decide +kernel), rfl⟩
theorem mw_X11_goMany : MWc yX11_goMany cX11_goMany 3 none 1 := ⟨uw_in (tin_8 (List.mem_of_getElem? (i := 139) rfl)) rfl, uw_in (tin_1 (List.mem_of_getElem? (i := 16) (by decide +kernel))) (by decide +kernel), by decide +kernel, by decide +kernel, by decide +kernel⟩
theorem mv_X11_goMany : MWv yX11_goMany 11 := ⟨uw_in (tin_8 (List.mem_of_getElem? (i := 138) (by decide +kernel))) (by decide +kernel), uw_in (List.mem_of_getElem? (i := 107) (by decide +kernel)) (by decide +kernel), rfl⟩
theorem mw_X11_lookedAll : MWc yX11_lookedAll cX11_lookedAll 4 (some .int) 1 := ⟨uw_in (tin_8 (List.mem_of_getElem? (i := 146) rfl)) rfl, uw_in (tin_1 (List.mem_of_getElem? (i := 16) (by decide +kernel))) (by decide +kernel), by decide +kernel, by decide +kernel, by decide +kernel⟩
theorem mv_X11_lookedAll : MWv yX11_lookedAll 11 := ⟨uw_in (tin_8 (List.mem_of_getElem? (i := 145) (by decide +kernel))) (by decide +kernel), uw_in (List.mem_of_getElem? (i := 108) (by decide +kernel)) (by decide +kernel), rfl⟩
theorem mw_X11_hasOf : MWc yX11_hasOf cX11_hasOf 3 (some .int) 2 := ⟨uw_in (tin_8 (List.mem_of_getElem? (i := 158) rfl)) rfl, uw_in (tin_1 (List.mem_of_getElem? (i := 16) (by decide +kernel))) (by decide +kernel), by decide +kernel, by decide +kernel, by decide +kernel⟩
theorem mv_X11_hasOf : MWv yX11_hasOf 11 := ⟨uw_in (tin_8 (List.mem_of_getElem? (i := 157) (by decide +kernel))) (by decide +kernel), uw_in (List.mem_of_getElem? (i := 110) (by decide +kernel)) (by decide +kernel), rfl⟩
theorem mw_X11_fails : MWc yX11_fails cX11_fails 2 (some .int) 1 := ⟨uw_in (tin_8 (List.mem_of_getElem? (i := 1) rfl)) rfl, uw_in (tin_1 (List.mem_of_getElem? (i := 16) (by decide +kernel))) (by decide +kernel), by decide +kernel, by decide +kernel, by decide +kernel⟩
theorem mv_X11_fails : MWv yX11_fails 11 := ⟨uw_in (tin_8 (List.mem_of_getElem? (i := 0) (by decide +kernel))) (by decide +kernel), uw_in (List.mem_of_getElem? (i := 85) (by decide +kernel)) (by decide +kernel), rfl⟩
theorem mw_X11_house : MWc yX11_house cX11_house 3 (some .int) 2 := ⟨uw_in (tin_7 (List.mem_of_getElem? (i := 233) rfl)) rfl, uw_in (tin_1 (List.mem_of_getElem? (i := 16) (by decide +kernel))) (by decide +kernel), by decide +kernel, by decide +kernel, by decide +kernel⟩
theorem mv_X11_house : MWv yX11_house 11 := ⟨uw_in (tin_7 (List.mem_of_getElem? (i := 231) (by decide +kernel))) (by decide +kernel), uw_in (tin_7 (List.mem_of_getElem? (i := 232) (by decide +kernel))) (by decide +kernel), rfl⟩
theorem mw_X11_kind : MWc yX11_kind cX11_kind 3 (some .int) 2 := ⟨uw_in (tin_8 (List.mem_of_getElem? (i := 5) rfl)) rfl, uw_in (tin_1 (List.mem_of_getElem? (i := 16) (by decide +kernel))) (by decide +kernel), by decide +kernel, by decide +kernel, by decide +kernel⟩
theorem mv_X11_kind : MWv yX11_kind 11 := ⟨uw_in (tin_8 (List.mem_of_getElem? (i := 3) (by decide +kernel))) (by decide +kernel), uw_in (tin_8 (List.mem_of_getElem? (i := 4) (by decide +kernel))) (by decide +kernel), rfl⟩
theorem mw_X11_weatherIn : MWc yX11_weatherIn cX11_weatherIn 3 (some .int) 1 := ⟨uw_in (tin_8 (List.mem_of_getElem? (i := 17) rfl)) rfl, uw_in (tin_1 (List.mem_of_getElem? (i := 16) (by decide +kernel))) (by decide +kernel), by decide +kernel, by decide +kernel, by decide +kernel⟩
theorem mv_X11_weatherIn : MWv yX11_weatherIn 11 := ⟨uw_in (tin_8 (List.mem_of_getElem? (i := 16) (by decide +kernel))) (by decide +kernel), uw_in (List.mem_of_getElem? (i := 87) (by decide +kernel)) (by decide +kernel), rfl⟩
theorem mw_X11_weather : MWc yX11_weather cX11_weather 3 (some .int) 1 := ⟨uw_in (tin_8 (List.mem_of_getElem? (i := 13) rfl)) rfl, uw_in (tin_1 (List.mem_of_getElem? (i := 16) (by decide +kernel))) (by decide +kernel), by decide +kernel, by decide +kernel, by decide +kernel⟩
theorem mv_X11_weather : MWv yX11_weather 11 := ⟨uw_in (tin_8 (List.mem_of_getElem? (i := 11) (by decide +kernel))) (by decide +kernel), uw_in (tin_8 (List.mem_of_getElem? (i := 12) (by decide +kernel))) (by decide +kernel), rfl⟩
theorem mw_X11_law : MWc yX11_law cX11_law 6 (some .long) 3 := ⟨uw_in (tin_8 (List.mem_of_getElem? (i := 25) rfl)) rfl, uw_in (tin_1 (List.mem_of_getElem? (i := 16) (by decide +kernel))) (by decide +kernel), by decide +kernel, by decide +kernel, by decide +kernel⟩
theorem mv_X11_law : MWv yX11_law 11 := ⟨uw_in (tin_8 (List.mem_of_getElem? (i := 23) (by decide +kernel))) (by decide +kernel), uw_in (tin_8 (List.mem_of_getElem? (i := 24) (by decide +kernel))) (by decide +kernel), rfl⟩
theorem mw_X11_blind : MWc yX11_blind cX11_blind 2 (some .int) 1 := ⟨uw_in (tin_8 (List.mem_of_getElem? (i := 63) rfl)) rfl, uw_in (tin_1 (List.mem_of_getElem? (i := 16) (by decide +kernel))) (by decide +kernel), by decide +kernel, by decide +kernel, by decide +kernel⟩
theorem mv_X11_blind : MWv yX11_blind 11 := ⟨uw_in (tin_8 (List.mem_of_getElem? (i := 61) (by decide +kernel))) (by decide +kernel), uw_in (tin_8 (List.mem_of_getElem? (i := 62) (by decide +kernel))) (by decide +kernel), rfl⟩
theorem mw_X11_send : MWc yX11_send cX11_send 2 (some .boolean) 1 := ⟨uw_in (tin_8 (List.mem_of_getElem? (i := 75) rfl)) rfl, uw_in (tin_1 (List.mem_of_getElem? (i := 16) (by decide +kernel))) (by decide +kernel), by decide +kernel, by decide +kernel, by decide +kernel⟩
theorem mv_X11_send : MWv yX11_send 11 := ⟨uw_in (tin_8 (List.mem_of_getElem? (i := 73) (by decide +kernel))) (by decide +kernel), uw_in (tin_8 (List.mem_of_getElem? (i := 74) (by decide +kernel))) (by decide +kernel), rfl⟩
theorem mw_X11_lend : MWc yX11_lend cX11_lend 4 (some .int) 3 := ⟨uw_in (tin_8 (List.mem_of_getElem? (i := 79) rfl)) rfl, uw_in (tin_1 (List.mem_of_getElem? (i := 16) (by decide +kernel))) (by decide +kernel), by decide +kernel, by decide +kernel, by decide +kernel⟩
theorem mv_X11_lend : MWv yX11_lend 11 := ⟨uw_in (tin_8 (List.mem_of_getElem? (i := 77) (by decide +kernel))) (by decide +kernel), uw_in (tin_8 (List.mem_of_getElem? (i := 78) (by decide +kernel))) (by decide +kernel), rfl⟩
theorem mw_X11_go : MWc yX11_go cX11_go 3 (some .int) 1 := ⟨uw_in (tin_8 (List.mem_of_getElem? (i := 90) rfl)) rfl, uw_in (tin_1 (List.mem_of_getElem? (i := 16) (by decide +kernel))) (by decide +kernel), by decide +kernel, by decide +kernel, by decide +kernel⟩
theorem mv_X11_go : MWv yX11_go 11 := ⟨uw_in (tin_8 (List.mem_of_getElem? (i := 88) (by decide +kernel))) (by decide +kernel), uw_in (tin_8 (List.mem_of_getElem? (i := 89) (by decide +kernel))) (by decide +kernel), rfl⟩
theorem mw_X11_ahead : MWc yX11_ahead cX11_ahead 4 (some .int) 3 := ⟨uw_in (tin_8 (List.mem_of_getElem? (i := 130) rfl)) rfl, uw_in (tin_1 (List.mem_of_getElem? (i := 16) (by decide +kernel))) (by decide +kernel), by decide +kernel, by decide +kernel, by decide +kernel⟩
theorem mv_X11_ahead : MWv yX11_ahead 11 := ⟨uw_in (tin_8 (List.mem_of_getElem? (i := 128) (by decide +kernel))) (by decide +kernel), uw_in (tin_8 (List.mem_of_getElem? (i := 129) (by decide +kernel))) (by decide +kernel), rfl⟩
theorem mw_X11_daysTo : MWc yX11_daysTo cX11_daysTo 5 (some .int) 2 := ⟨uw_in (tin_8 (List.mem_of_getElem? (i := 154) rfl)) rfl, uw_in (tin_1 (List.mem_of_getElem? (i := 16) (by decide +kernel))) (by decide +kernel), by decide +kernel, by decide +kernel, by decide +kernel⟩
theorem mv_X11_daysTo : MWv yX11_daysTo 11 := ⟨uw_in (tin_8 (List.mem_of_getElem? (i := 153) (by decide +kernel))) (by decide +kernel), uw_in (List.mem_of_getElem? (i := 109) (by decide +kernel)) (by decide +kernel), rfl⟩
theorem mw_X11_sold : MWc yX11_sold cX11_sold 2 (some .int) 1 := ⟨uw_in (tin_8 (List.mem_of_getElem? (i := 150) rfl)) rfl, uw_in (tin_1 (List.mem_of_getElem? (i := 16) (by decide +kernel))) (by decide +kernel), by decide +kernel, by decide +kernel, by decide +kernel⟩
theorem mv_X11_sold : MWv yX11_sold 11 := ⟨uw_in (tin_8 (List.mem_of_getElem? (i := 148) (by decide +kernel))) (by decide +kernel), uw_in (tin_8 (List.mem_of_getElem? (i := 149) (by decide +kernel))) (by decide +kernel), rfl⟩
theorem mw_X11_credit : MWc yX11_credit cX11_credit 2 (some .int) 1 := ⟨uw_in (tin_8 (List.mem_of_getElem? (i := 162) rfl)) rfl, uw_in (tin_1 (List.mem_of_getElem? (i := 16) (by decide +kernel))) (by decide +kernel), by decide +kernel, by decide +kernel, by decide +kernel⟩
theorem mv_X11_credit : MWv yX11_credit 11 := ⟨uw_in (tin_8 (List.mem_of_getElem? (i := 160) (by decide +kernel))) (by decide +kernel), uw_in (tin_8 (List.mem_of_getElem? (i := 161) (by decide +kernel))) (by decide +kernel), rfl⟩
theorem mw_X11_owes : MWc yX11_owes cX11_owes 2 (some .int) 1 := ⟨uw_in (tin_8 (List.mem_of_getElem? (i := 166) rfl)) rfl, uw_in (tin_1 (List.mem_of_getElem? (i := 16) (by decide +kernel))) (by decide +kernel), by decide +kernel, by decide +kernel, by decide +kernel⟩
theorem mv_X11_owes : MWv yX11_owes 11 := ⟨uw_in (tin_8 (List.mem_of_getElem? (i := 164) (by decide +kernel))) (by decide +kernel), uw_in (tin_8 (List.mem_of_getElem? (i := 165) (by decide +kernel))) (by decide +kernel), rfl⟩
theorem mw_X11_termIn : MWc yX11_termIn cX11_termIn 1 (some .int) 0 := ⟨uw_in (tin_8 (List.mem_of_getElem? (i := 170) rfl)) rfl, uw_in (tin_1 (List.mem_of_getElem? (i := 16) (by decide +kernel))) (by decide +kernel), by decide +kernel, by decide +kernel, by decide +kernel⟩
theorem mv_X11_termIn : MWv yX11_termIn 11 := ⟨uw_in (tin_8 (List.mem_of_getElem? (i := 168) (by decide +kernel))) (by decide +kernel), uw_in (tin_8 (List.mem_of_getElem? (i := 169) (by decide +kernel))) (by decide +kernel), rfl⟩
theorem mw_X11_often : MWc yX11_often cX11_often 5 (some .int) 2 := ⟨uw_in (tin_8 (List.mem_of_getElem? (i := 174) rfl)) rfl, uw_in (tin_1 (List.mem_of_getElem? (i := 16) (by decide +kernel))) (by decide +kernel), by decide +kernel, by decide +kernel, by decide +kernel⟩
theorem mv_X11_often : MWv yX11_often 11 := ⟨uw_in (tin_8 (List.mem_of_getElem? (i := 172) (by decide +kernel))) (by decide +kernel), uw_in (tin_8 (List.mem_of_getElem? (i := 173) (by decide +kernel))) (by decide +kernel), rfl⟩
theorem mw_X11_suits : MWc yX11_suits cX11_suits 3 (some .boolean) 2 := ⟨uw_in (tin_8 (List.mem_of_getElem? (i := 186) rfl)) rfl, uw_in (tin_1 (List.mem_of_getElem? (i := 16) (by decide +kernel))) (by decide +kernel), by decide +kernel, by decide +kernel, by decide +kernel⟩
theorem mv_X11_suits : MWv yX11_suits 11 := ⟨uw_in (tin_8 (List.mem_of_getElem? (i := 185) (by decide +kernel))) (by decide +kernel), uw_in (List.mem_of_getElem? (i := 112) (by decide +kernel)) (by decide +kernel), rfl⟩
theorem mw_X11_costOf : MWc yX11_costOf cX11_costOf 2 (some .int) 1 := ⟨uw_in (tin_8 (List.mem_of_getElem? (i := 190) rfl)) rfl, uw_in (tin_1 (List.mem_of_getElem? (i := 16) (by decide +kernel))) (by decide +kernel), by decide +kernel, by decide +kernel, by decide +kernel⟩
theorem mv_X11_costOf : MWv yX11_costOf 11 := ⟨uw_in (tin_8 (List.mem_of_getElem? (i := 189) (by decide +kernel))) (by decide +kernel), uw_in (List.mem_of_getElem? (i := 113) (by decide +kernel)) (by decide +kernel), rfl⟩
theorem mw_X11_layPlan : MWc yX11_layPlan cX11_layPlan 7 none 0 := ⟨uw_in (tin_8 (List.mem_of_getElem? (i := 182) rfl)) rfl, uw_in (tin_1 (List.mem_of_getElem? (i := 16) (by decide +kernel))) (by decide +kernel), by decide +kernel, by decide +kernel, by decide +kernel⟩
theorem mv_X11_layPlan : MWv yX11_layPlan 11 := ⟨uw_in (tin_8 (List.mem_of_getElem? (i := 181) (by decide +kernel))) (by decide +kernel), uw_in (List.mem_of_getElem? (i := 111) (by decide +kernel)) (by decide +kernel), rfl⟩
theorem mw_X11_dayFor : MWc yX11_dayFor cX11_dayFor 6 (some .int) 2 := ⟨uw_in (tin_8 (List.mem_of_getElem? (i := 194) rfl)) rfl, uw_in (tin_1 (List.mem_of_getElem? (i := 16) (by decide +kernel))) (by decide +kernel), by decide +kernel, by decide +kernel, by decide +kernel⟩
theorem mv_X11_dayFor : MWv yX11_dayFor 11 := ⟨uw_in (tin_8 (List.mem_of_getElem? (i := 193) (by decide +kernel))) (by decide +kernel), uw_in (List.mem_of_getElem? (i := 114) (by decide +kernel)) (by decide +kernel), rfl⟩
theorem mw_X11_plan : MWc yX11_plan cX11_plan 6 (some .int) 2 := ⟨uw_in (tin_8 (List.mem_of_getElem? (i := 178) rfl)) rfl, uw_in (tin_1 (List.mem_of_getElem? (i := 16) (by decide +kernel))) (by decide +kernel), by decide +kernel, by decide +kernel, by decide +kernel⟩
theorem mv_X11_plan : MWv yX11_plan 11 := ⟨uw_in (tin_8 (List.mem_of_getElem? (i := 176) (by decide +kernel))) (by decide +kernel), uw_in (tin_8 (List.mem_of_getElem? (i := 177) (by decide +kernel))) (by decide +kernel), rfl⟩
theorem mw_X11_shared : MWc yX11_shared cX11_shared 6 (some .long) 2 := ⟨uw_in (tin_8 (List.mem_of_getElem? (i := 213) rfl)) rfl, uw_in (tin_1 (List.mem_of_getElem? (i := 16) (by decide +kernel))) (by decide +kernel), by decide +kernel, by decide +kernel, by decide +kernel⟩
theorem mst_X11_shared : Cond.static yX11_shared ∈ UW := uw_in (tin_8 (List.mem_of_getElem? (i := 212) (by decide +kernel))) (by decide +kernel)
theorem mw_X11_least : MWc yX11_least cX11_least 7 (some .long) 3 := ⟨uw_in (tin_8 (List.mem_of_getElem? (i := 210) rfl)) rfl, uw_in (tin_1 (List.mem_of_getElem? (i := 16) (by decide +kernel))) (by decide +kernel), by decide +kernel, by decide +kernel, by decide +kernel⟩
theorem mst_X11_least : Cond.static yX11_least ∈ UW := uw_in (tin_8 (List.mem_of_getElem? (i := 209) (by decide +kernel))) (by decide +kernel)
theorem mw_X11_paysOf : MWc yX11_paysOf cX11_paysOf 3 (some .int) 2 := ⟨uw_in (tin_8 (List.mem_of_getElem? (i := 206) rfl)) rfl, uw_in (tin_1 (List.mem_of_getElem? (i := 16) (by decide +kernel))) (by decide +kernel), by decide +kernel, by decide +kernel, by decide +kernel⟩
theorem mv_X11_paysOf : MWv yX11_paysOf 11 := ⟨uw_in (tin_8 (List.mem_of_getElem? (i := 205) (by decide +kernel))) (by decide +kernel), uw_in (List.mem_of_getElem? (i := 116) (by decide +kernel)) (by decide +kernel), rfl⟩
theorem mw_X11_share : MWc yX11_share cX11_share 10 (some .int) 4 := ⟨uw_in (tin_8 (List.mem_of_getElem? (i := 198) rfl)) rfl, uw_in (tin_1 (List.mem_of_getElem? (i := 16) (by decide +kernel))) (by decide +kernel), by decide +kernel, by decide +kernel, by decide +kernel⟩
theorem mv_X11_share : MWv yX11_share 11 := ⟨uw_in (tin_8 (List.mem_of_getElem? (i := 196) (by decide +kernel))) (by decide +kernel), uw_in (tin_8 (List.mem_of_getElem? (i := 197) (by decide +kernel))) (by decide +kernel), rfl⟩
theorem mw_X11_waits : MWc yX11_waits cX11_waits 13 (some .long) 2 := ⟨uw_in (tin_8 (List.mem_of_getElem? (i := 217) rfl)) rfl, uw_in (tin_1 (List.mem_of_getElem? (i := 16) (by decide +kernel))) (by decide +kernel), by decide +kernel, by decide +kernel, by decide +kernel⟩
theorem mv_X11_waits : MWv yX11_waits 11 := ⟨uw_in (tin_8 (List.mem_of_getElem? (i := 215) (by decide +kernel))) (by decide +kernel), uw_in (tin_8 (List.mem_of_getElem? (i := 216) (by decide +kernel))) (by decide +kernel), rfl⟩
theorem mw_X11_came : MWc yX11_came cX11_came 10 (some .int) 3 := ⟨uw_in (tin_8 (List.mem_of_getElem? (i := 222) rfl)) rfl, uw_in (tin_1 (List.mem_of_getElem? (i := 16) (by decide +kernel))) (by decide +kernel), by decide +kernel, by decide +kernel, by decide +kernel⟩
theorem mv_X11_came : MWv yX11_came 11 := ⟨uw_in (tin_8 (List.mem_of_getElem? (i := 220) (by decide +kernel))) (by decide +kernel), uw_in (tin_8 (List.mem_of_getElem? (i := 221) (by decide +kernel))) (by decide +kernel), rfl⟩
theorem mw_X11_likely : MWc yX11_likely cX11_likely 9 (some .long) 3 := ⟨uw_in (tin_8 (List.mem_of_getElem? (i := 226) rfl)) rfl, uw_in (tin_1 (List.mem_of_getElem? (i := 16) (by decide +kernel))) (by decide +kernel), by decide +kernel, by decide +kernel, by decide +kernel⟩
theorem mv_X11_likely : MWv yX11_likely 11 := ⟨uw_in (tin_8 (List.mem_of_getElem? (i := 224) (by decide +kernel))) (by decide +kernel), uw_in (tin_8 (List.mem_of_getElem? (i := 225) (by decide +kernel))) (by decide +kernel), rfl⟩
theorem mw_X11_hasBy : MWc yX11_hasBy cX11_hasBy 5 (some .int) 4 := ⟨uw_in (tin_9 (List.mem_of_getElem? (i := 2) rfl)) rfl, uw_in (tin_1 (List.mem_of_getElem? (i := 16) (by decide +kernel))) (by decide +kernel), by decide +kernel, by decide +kernel, by decide +kernel⟩
theorem mv_X11_hasBy : MWv yX11_hasBy 11 := ⟨uw_in (tin_9 (List.mem_of_getElem? (i := 1) (by decide +kernel))) (by decide +kernel), uw_in (List.mem_of_getElem? (i := 119) (by decide +kernel)) (by decide +kernel), rfl⟩
theorem mw_X11_restAt : MWc yX11_restAt cX11_restAt 9 (some .int) 4 := ⟨uw_in (tin_8 (List.mem_of_getElem? (i := 238) rfl)) rfl, uw_in (tin_1 (List.mem_of_getElem? (i := 16) (by decide +kernel))) (by decide +kernel), by decide +kernel, by decide +kernel, by decide +kernel⟩
theorem mv_X11_restAt : MWv yX11_restAt 11 := ⟨uw_in (tin_8 (List.mem_of_getElem? (i := 237) (by decide +kernel))) (by decide +kernel), uw_in (List.mem_of_getElem? (i := 118) (by decide +kernel)) (by decide +kernel), rfl⟩
theorem mw_X11_areTwo : MWc yX11_areTwo cX11_areTwo 4 (some .boolean) 3 := ⟨uw_in (tin_8 (List.mem_of_getElem? (i := 234) rfl)) rfl, uw_in (tin_1 (List.mem_of_getElem? (i := 16) (by decide +kernel))) (by decide +kernel), by decide +kernel, by decide +kernel, by decide +kernel⟩
theorem mv_X11_areTwo : MWv yX11_areTwo 11 := ⟨uw_in (tin_8 (List.mem_of_getElem? (i := 233) (by decide +kernel))) (by decide +kernel), uw_in (List.mem_of_getElem? (i := 117) (by decide +kernel)) (by decide +kernel), rfl⟩
theorem mw_X11_rests : MWc yX11_rests cX11_rests 4 (some .int) 3 := ⟨uw_in (tin_8 (List.mem_of_getElem? (i := 230) rfl)) rfl, uw_in (tin_1 (List.mem_of_getElem? (i := 16) (by decide +kernel))) (by decide +kernel), by decide +kernel, by decide +kernel, by decide +kernel⟩
theorem mv_X11_rests : MWv yX11_rests 11 := ⟨uw_in (tin_8 (List.mem_of_getElem? (i := 228) (by decide +kernel))) (by decide +kernel), uw_in (tin_8 (List.mem_of_getElem? (i := 229) (by decide +kernel))) (by decide +kernel), rfl⟩
theorem mw_X11_rest : MWc yX11_rest cX11_rest 5 (some .int) 4 := ⟨uw_in (tin_9 (List.mem_of_getElem? (i := 6) rfl)) rfl, uw_in (tin_1 (List.mem_of_getElem? (i := 16) (by decide +kernel))) (by decide +kernel), by decide +kernel, by decide +kernel, by decide +kernel⟩
theorem mv_X11_rest : MWv yX11_rest 11 := ⟨uw_in (tin_9 (List.mem_of_getElem? (i := 4) (by decide +kernel))) (by decide +kernel), uw_in (tin_9 (List.mem_of_getElem? (i := 5) (by decide +kernel))) (by decide +kernel), rfl⟩
theorem mw_X11_richest : MWc yX11_richest cX11_richest 3 (some .int) 0 := ⟨uw_in (tin_9 (List.mem_of_getElem? (i := 10) rfl)) rfl, uw_in (tin_1 (List.mem_of_getElem? (i := 16) (by decide +kernel))) (by decide +kernel), by decide +kernel, by decide +kernel, by decide +kernel⟩
theorem mv_X11_richest : MWv yX11_richest 11 := ⟨uw_in (tin_9 (List.mem_of_getElem? (i := 8) (by decide +kernel))) (by decide +kernel), uw_in (tin_9 (List.mem_of_getElem? (i := 9) (by decide +kernel))) (by decide +kernel), rfl⟩
theorem mw_X11_mostOf : MWc yX11_mostOf cX11_mostOf 5 (some .int) 2 := ⟨uw_in (tin_9 (List.mem_of_getElem? (i := 18) rfl)) rfl, uw_in (tin_1 (List.mem_of_getElem? (i := 16) (by decide +kernel))) (by decide +kernel), by decide +kernel, by decide +kernel, by decide +kernel⟩
theorem mv_X11_mostOf : MWv yX11_mostOf 11 := ⟨uw_in (tin_9 (List.mem_of_getElem? (i := 17) (by decide +kernel))) (by decide +kernel), uw_in (List.mem_of_getElem? (i := 120) (by decide +kernel)) (by decide +kernel), rfl⟩
theorem mw_X11_leave : MWc yX11_leave cX11_leave 4 (some .int) 2 := ⟨uw_in (tin_9 (List.mem_of_getElem? (i := 14) rfl)) rfl, uw_in (tin_1 (List.mem_of_getElem? (i := 16) (by decide +kernel))) (by decide +kernel), by decide +kernel, by decide +kernel, by decide +kernel⟩
theorem mv_X11_leave : MWv yX11_leave 11 := ⟨uw_in (tin_9 (List.mem_of_getElem? (i := 12) (by decide +kernel))) (by decide +kernel), uw_in (tin_9 (List.mem_of_getElem? (i := 13) (by decide +kernel))) (by decide +kernel), rfl⟩
theorem mw_X11_blinds : MWc yX11_blinds cX11_blinds 7 (some .int) 2 := ⟨uw_in (tin_9 (List.mem_of_getElem? (i := 22) rfl)) rfl, uw_in (tin_1 (List.mem_of_getElem? (i := 16) (by decide +kernel))) (by decide +kernel), by decide +kernel, by decide +kernel, by decide +kernel⟩
theorem mv_X11_blinds : MWv yX11_blinds 11 := ⟨uw_in (tin_9 (List.mem_of_getElem? (i := 20) (by decide +kernel))) (by decide +kernel), uw_in (tin_9 (List.mem_of_getElem? (i := 21) (by decide +kernel))) (by decide +kernel), rfl⟩
theorem mw_X11_sumOf : MWc yX11_sumOf cX11_sumOf 4 (some .int) 1 := ⟨uw_in (tin_9 (List.mem_of_getElem? (i := 30) rfl)) rfl, uw_in (tin_1 (List.mem_of_getElem? (i := 16) (by decide +kernel))) (by decide +kernel), by decide +kernel, by decide +kernel, by decide +kernel⟩
theorem mv_X11_sumOf : MWv yX11_sumOf 11 := ⟨uw_in (tin_9 (List.mem_of_getElem? (i := 29) (by decide +kernel))) (by decide +kernel), uw_in (List.mem_of_getElem? (i := 121) (by decide +kernel)) (by decide +kernel), rfl⟩
theorem mw_X11_among : MWc yX11_among cX11_among 4 (some .int) 1 := ⟨uw_in (tin_9 (List.mem_of_getElem? (i := 26) rfl)) rfl, uw_in (tin_1 (List.mem_of_getElem? (i := 16) (by decide +kernel))) (by decide +kernel), by decide +kernel, by decide +kernel, by decide +kernel⟩
theorem mv_X11_among : MWv yX11_among 11 := ⟨uw_in (tin_9 (List.mem_of_getElem? (i := 24) (by decide +kernel))) (by decide +kernel), uw_in (tin_9 (List.mem_of_getElem? (i := 25) (by decide +kernel))) (by decide +kernel), rfl⟩
theorem mw_X11_rescue : MWc yX11_rescue cX11_rescue 4 (some .int) 0 := ⟨uw_in (tin_9 (List.mem_of_getElem? (i := 34) rfl)) rfl, uw_in (tin_1 (List.mem_of_getElem? (i := 16) (by decide +kernel))) (by decide +kernel), by decide +kernel, by decide +kernel, by decide +kernel⟩
theorem mv_X11_rescue : MWv yX11_rescue 11 := ⟨uw_in (tin_9 (List.mem_of_getElem? (i := 32) (by decide +kernel))) (by decide +kernel), uw_in (tin_9 (List.mem_of_getElem? (i := 33) (by decide +kernel))) (by decide +kernel), rfl⟩
theorem mw_X11_have : MWc yX11_have cX11_have 2 (some .int) 1 := ⟨uw_in (tin_9 (List.mem_of_getElem? (i := 38) rfl)) rfl, uw_in (tin_1 (List.mem_of_getElem? (i := 16) (by decide +kernel))) (by decide +kernel), by decide +kernel, by decide +kernel, by decide +kernel⟩
theorem mv_X11_have : MWv yX11_have 11 := ⟨uw_in (tin_9 (List.mem_of_getElem? (i := 36) (by decide +kernel))) (by decide +kernel), uw_in (tin_9 (List.mem_of_getElem? (i := 37) (by decide +kernel))) (by decide +kernel), rfl⟩
theorem mw_X11_dearest : MWc yX11_dearest cX11_dearest 3 (some .int) 0 := ⟨uw_in (tin_9 (List.mem_of_getElem? (i := 42) rfl)) rfl, uw_in (tin_1 (List.mem_of_getElem? (i := 16) (by decide +kernel))) (by decide +kernel), by decide +kernel, by decide +kernel, by decide +kernel⟩
theorem mv_X11_dearest : MWv yX11_dearest 11 := ⟨uw_in (tin_9 (List.mem_of_getElem? (i := 40) (by decide +kernel))) (by decide +kernel), uw_in (tin_9 (List.mem_of_getElem? (i := 41) (by decide +kernel))) (by decide +kernel), rfl⟩
theorem mw_X11_notes1 : MWc yX11_notes1 cX11_notes1 6 (some .int) 4 := ⟨uw_in (tin_9 (List.mem_of_getElem? (i := 50) rfl)) rfl, uw_in (tin_1 (List.mem_of_getElem? (i := 16) (by decide +kernel))) (by decide +kernel), by decide +kernel, by decide +kernel, by decide +kernel⟩
theorem mv_X11_notes1 : MWv yX11_notes1 11 := ⟨uw_in (tin_9 (List.mem_of_getElem? (i := 49) (by decide +kernel))) (by decide +kernel), uw_in (List.mem_of_getElem? (i := 122) (by decide +kernel)) (by decide +kernel), rfl⟩
theorem mw_X11_note : MWc yX11_note cX11_note 5 (some .int) 4 := ⟨uw_in (tin_9 (List.mem_of_getElem? (i := 46) rfl)) rfl, uw_in (tin_1 (List.mem_of_getElem? (i := 16) (by decide +kernel))) (by decide +kernel), by decide +kernel, by decide +kernel, by decide +kernel⟩
theorem mv_X11_note : MWv yX11_note 11 := ⟨uw_in (tin_9 (List.mem_of_getElem? (i := 44) (by decide +kernel))) (by decide +kernel), uw_in (tin_9 (List.mem_of_getElem? (i := 45) (by decide +kernel))) (by decide +kernel), rfl⟩
theorem mw_X11_strike : MWc yX11_strike cX11_strike 2 (some .int) 1 := ⟨uw_in (tin_9 (List.mem_of_getElem? (i := 54) rfl)) rfl, uw_in (tin_1 (List.mem_of_getElem? (i := 16) (by decide +kernel))) (by decide +kernel), by decide +kernel, by decide +kernel, by decide +kernel⟩
theorem mv_X11_strike : MWv yX11_strike 11 := ⟨uw_in (tin_9 (List.mem_of_getElem? (i := 52) (by decide +kernel))) (by decide +kernel), uw_in (tin_9 (List.mem_of_getElem? (i := 53) (by decide +kernel))) (by decide +kernel), rfl⟩
theorem mw_X11_known : MWc yX11_known cX11_known 2 (some .boolean) 1 := ⟨uw_in (tin_9 (List.mem_of_getElem? (i := 58) rfl)) rfl, uw_in (tin_1 (List.mem_of_getElem? (i := 16) (by decide +kernel))) (by decide +kernel), by decide +kernel, by decide +kernel, by decide +kernel⟩
theorem mv_X11_known : MWv yX11_known 11 := ⟨uw_in (tin_9 (List.mem_of_getElem? (i := 56) (by decide +kernel))) (by decide +kernel), uw_in (tin_9 (List.mem_of_getElem? (i := 57) (by decide +kernel))) (by decide +kernel), rfl⟩
theorem mw_X11_knownBy : MWc yX11_knownBy cX11_knownBy 1 (some .int) 0 := ⟨uw_in (tin_9 (List.mem_of_getElem? (i := 70) rfl)) rfl, uw_in (tin_1 (List.mem_of_getElem? (i := 16) (by decide +kernel))) (by decide +kernel), by decide +kernel, by decide +kernel, by decide +kernel⟩
theorem mv_X11_knownBy : MWv yX11_knownBy 11 := ⟨uw_in (tin_9 (List.mem_of_getElem? (i := 69) (by decide +kernel))) (by decide +kernel), uw_in (List.mem_of_getElem? (i := 124) (by decide +kernel)) (by decide +kernel), rfl⟩
theorem mw_X11_fitsOf : MWc yX11_fitsOf cX11_fitsOf 7 (some .int) 1 := ⟨uw_in (tin_9 (List.mem_of_getElem? (i := 66) rfl)) rfl, uw_in (tin_1 (List.mem_of_getElem? (i := 16) (by decide +kernel))) (by decide +kernel), by decide +kernel, by decide +kernel, by decide +kernel⟩
theorem mv_X11_fitsOf : MWv yX11_fitsOf 11 := ⟨uw_in (tin_9 (List.mem_of_getElem? (i := 65) (by decide +kernel))) (by decide +kernel), uw_in (List.mem_of_getElem? (i := 123) (by decide +kernel)) (by decide +kernel), rfl⟩
theorem mw_X11_fits : MWc yX11_fits cX11_fits 2 (some .int) 1 := ⟨uw_in (tin_9 (List.mem_of_getElem? (i := 62) rfl)) rfl, uw_in (tin_1 (List.mem_of_getElem? (i := 16) (by decide +kernel))) (by decide +kernel), by decide +kernel, by decide +kernel, by decide +kernel⟩
theorem mv_X11_fits : MWv yX11_fits 11 := ⟨uw_in (tin_9 (List.mem_of_getElem? (i := 60) (by decide +kernel))) (by decide +kernel), uw_in (tin_9 (List.mem_of_getElem? (i := 61) (by decide +kernel))) (by decide +kernel), rfl⟩
theorem mw_X11_worstBy : MWc yX11_worstBy cX11_worstBy 7 (some .int) 2 := ⟨uw_in (tin_9 (List.mem_of_getElem? (i := 78) rfl)) rfl, uw_in (tin_1 (List.mem_of_getElem? (i := 16) (by decide +kernel))) (by decide +kernel), by decide +kernel, by decide +kernel, by decide +kernel⟩
theorem mv_X11_worstBy : MWv yX11_worstBy 11 := ⟨uw_in (tin_9 (List.mem_of_getElem? (i := 77) (by decide +kernel))) (by decide +kernel), uw_in (List.mem_of_getElem? (i := 125) (by decide +kernel)) (by decide +kernel), rfl⟩
theorem mw_X11_ask : MWc yX11_ask cX11_ask 6 (some .int) 2 := ⟨uw_in (tin_9 (List.mem_of_getElem? (i := 74) rfl)) rfl, uw_in (tin_1 (List.mem_of_getElem? (i := 16) (by decide +kernel))) (by decide +kernel), by decide +kernel, by decide +kernel, by decide +kernel⟩
theorem mv_X11_ask : MWv yX11_ask 11 := ⟨uw_in (tin_9 (List.mem_of_getElem? (i := 72) (by decide +kernel))) (by decide +kernel), uw_in (tin_9 (List.mem_of_getElem? (i := 73) (by decide +kernel))) (by decide +kernel), rfl⟩
theorem mw_X11_chance : MWc yX11_chance cX11_chance 8 (some .int) 3 := ⟨uw_in (tin_9 (List.mem_of_getElem? (i := 82) rfl)) rfl, uw_in (tin_1 (List.mem_of_getElem? (i := 16) (by decide +kernel))) (by decide +kernel), by decide +kernel, by decide +kernel, by decide +kernel⟩
theorem mv_X11_chance : MWv yX11_chance 11 := ⟨uw_in (tin_9 (List.mem_of_getElem? (i := 80) (by decide +kernel))) (by decide +kernel), uw_in (tin_9 (List.mem_of_getElem? (i := 81) (by decide +kernel))) (by decide +kernel), rfl⟩
theorem mw_X11_tried : MWc yX11_tried cX11_tried 6 (some .int) 3 := ⟨uw_in (tin_9 (List.mem_of_getElem? (i := 86) rfl)) rfl, uw_in (tin_1 (List.mem_of_getElem? (i := 16) (by decide +kernel))) (by decide +kernel), by decide +kernel, by decide +kernel, by decide +kernel⟩
theorem mv_X11_tried : MWv yX11_tried 11 := ⟨uw_in (tin_9 (List.mem_of_getElem? (i := 84) (by decide +kernel))) (by decide +kernel), uw_in (tin_9 (List.mem_of_getElem? (i := 85) (by decide +kernel))) (by decide +kernel), rfl⟩
theorem mw_X11_put : MWc yX11_put cX11_put 4 none 2 := ⟨uw_in (tin_8 (List.mem_of_getElem? (i := 71) rfl)) rfl, uw_in (tin_1 (List.mem_of_getElem? (i := 16) (by decide +kernel))) (by decide +kernel), by decide +kernel, by decide +kernel, by decide +kernel⟩
theorem mv_X11_put : MWv yX11_put 11 := ⟨uw_in (tin_8 (List.mem_of_getElem? (i := 70) (by decide +kernel))) (by decide +kernel), uw_in (List.mem_of_getElem? (i := 97) (by decide +kernel)) (by decide +kernel), rfl⟩
theorem mw_X11_take : MWc yX11_take cX11_take 4 none 2 := ⟨uw_in (tin_9 (List.mem_of_getElem? (i := 94) rfl)) rfl, uw_in (tin_1 (List.mem_of_getElem? (i := 16) (by decide +kernel))) (by decide +kernel), by decide +kernel, by decide +kernel, by decide +kernel⟩
theorem mv_X11_take : MWv yX11_take 11 := ⟨uw_in (tin_9 (List.mem_of_getElem? (i := 93) (by decide +kernel))) (by decide +kernel), uw_in (List.mem_of_getElem? (i := 126) (by decide +kernel)) (by decide +kernel), rfl⟩
theorem mw_X11_remember : MWc yX11_remember cX11_remember 2 none 0 := ⟨uw_in (tin_8 (List.mem_of_getElem? (i := 67) rfl)) rfl, uw_in (tin_1 (List.mem_of_getElem? (i := 16) (by decide +kernel))) (by decide +kernel), by decide +kernel, by decide +kernel, by decide +kernel⟩
theorem mv_X11_remember : MWv yX11_remember 11 := ⟨uw_in (tin_8 (List.mem_of_getElem? (i := 66) (by decide +kernel))) (by decide +kernel), uw_in (List.mem_of_getElem? (i := 96) (by decide +kernel)) (by decide +kernel), rfl⟩
theorem mw_X11_undo : MWc yX11_undo cX11_undo 1 (some .int) 0 := ⟨uw_in (tin_9 (List.mem_of_getElem? (i := 90) rfl)) rfl, uw_in (tin_1 (List.mem_of_getElem? (i := 16) (by decide +kernel))) (by decide +kernel), by decide +kernel, by decide +kernel, by decide +kernel⟩
theorem mv_X11_undo : MWv yX11_undo 11 := ⟨uw_in (tin_9 (List.mem_of_getElem? (i := 88) (by decide +kernel))) (by decide +kernel), uw_in (tin_9 (List.mem_of_getElem? (i := 89) (by decide +kernel))) (by decide +kernel), rfl⟩
theorem mw_X11_keep : MWc yX11_keep cX11_keep 2 (some .int) 0 := ⟨uw_in (tin_9 (List.mem_of_getElem? (i := 98) rfl)) rfl, uw_in (tin_1 (List.mem_of_getElem? (i := 16) (by decide +kernel))) (by decide +kernel), by decide +kernel, by decide +kernel, by decide +kernel⟩
theorem mv_X11_keep : MWv yX11_keep 11 := ⟨uw_in (tin_9 (List.mem_of_getElem? (i := 96) (by decide +kernel))) (by decide +kernel), uw_in (tin_9 (List.mem_of_getElem? (i := 97) (by decide +kernel))) (by decide +kernel), rfl⟩
theorem mw_X11_back : MWc yX11_back cX11_back 2 (some .int) 0 := ⟨uw_in (tin_9 (List.mem_of_getElem? (i := 102) rfl)) rfl, uw_in (tin_1 (List.mem_of_getElem? (i := 16) (by decide +kernel))) (by decide +kernel), by decide +kernel, by decide +kernel, by decide +kernel⟩
theorem mv_X11_back : MWv yX11_back 11 := ⟨uw_in (tin_9 (List.mem_of_getElem? (i := 100) (by decide +kernel))) (by decide +kernel), uw_in (tin_9 (List.mem_of_getElem? (i := 101) (by decide +kernel))) (by decide +kernel), rfl⟩
theorem mw_X11_count : MWc yX11_count cX11_count 4 (some .int) 1 := ⟨uw_in (tin_9 (List.mem_of_getElem? (i := 106) rfl)) rfl, uw_in (tin_1 (List.mem_of_getElem? (i := 16) (by decide +kernel))) (by decide +kernel), by decide +kernel, by decide +kernel, by decide +kernel⟩
theorem mv_X11_count : MWv yX11_count 11 := ⟨uw_in (tin_9 (List.mem_of_getElem? (i := 104) (by decide +kernel))) (by decide +kernel), uw_in (tin_9 (List.mem_of_getElem? (i := 105) (by decide +kernel))) (by decide +kernel), rfl⟩
theorem mw_J6_bitCount_0f7a4 : MWc yJ6_bitCount_0f7a4 cJ6_bitCount_0f7a4 1 (some .int) 1 := ⟨uw_in (tin_4 (List.mem_of_getElem? (i := 109) rfl)) rfl, uw_in (tin_1 (List.mem_of_getElem? (i := 23) (by decide +kernel))) (by decide +kernel), by decide +kernel, by decide +kernel, by decide +kernel⟩
theorem mst_J6_bitCount_0f7a4 : Cond.static yJ6_bitCount_0f7a4 ∈ UW := uw_in (tin_4 (List.mem_of_getElem? (i := 108) (by decide +kernel))) (by decide +kernel)
theorem mm_mmax : MM_mmax := ⟨uw_in (tin_5 (List.mem_of_getElem? (i := 119) (by decide +kernel))) (by decide +kernel), uw_in (tin_1 (List.mem_of_getElem? (i := 17) (by decide +kernel))) (by decide +kernel), uw_in (tin_5 (List.mem_of_getElem? (i := 120) (by decide +kernel))) (by decide +kernel)⟩
theorem mm_mmin : MM_mmin := ⟨uw_in (tin_3 (List.mem_of_getElem? (i := 96) (by decide +kernel))) (by decide +kernel), uw_in (tin_1 (List.mem_of_getElem? (i := 17) (by decide +kernel))) (by decide +kernel), uw_in (tin_3 (List.mem_of_getElem? (i := 97) (by decide +kernel))) (by decide +kernel)⟩
theorem mm_mmaxl : MM_mmaxl := ⟨uw_in (tin_4 (List.mem_of_getElem? (i := 215) (by decide +kernel))) (by decide +kernel), uw_in (tin_1 (List.mem_of_getElem? (i := 17) (by decide +kernel))) (by decide +kernel), uw_in (tin_4 (List.mem_of_getElem? (i := 216) (by decide +kernel))) (by decide +kernel)⟩
theorem mm_mminl : MM_mminl := ⟨uw_in (tin_4 (List.mem_of_getElem? (i := 212) (by decide +kernel))) (by decide +kernel), uw_in (tin_1 (List.mem_of_getElem? (i := 17) (by decide +kernel))) (by decide +kernel), uw_in (tin_4 (List.mem_of_getElem? (i := 213) (by decide +kernel))) (by decide +kernel)⟩
