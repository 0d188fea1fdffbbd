set_option maxHeartbeats 4000000 in
set_option maxRecDepth 100000 in
theorem ct_X7_init_36 {G : Gx} {l0 : Launch} {A : Nat → Prop} {b : Nat} {K V : Nat → Nat} (hA : ∀ k, A (b + k)) (I : MI) (J : MJ) : CtE G l0 K V A yX7_init cX7_init 4 none { frames := 4, cells := 1, slots := 20, locals := 85 } [.ref (b + 36), .ref (b + 1)] (fun H => Rg G b (Lc.take 37) (Rt b [[2, 0, 3, 19], [], [4, 5, 6, 7, 8, 9, 10, 11, 12, 13, 14], [], [], [], [], [], [], [], [], [], [], [15, 16, 17, 18], [], [], [], [], [20, 21, 22, 23, 24, 25, 26, 27, 28, 29, 30], [], [], [], [], [], [], [], [], [], [], [31, 32, 33, 34], [], [], [], [], [0, 36], [], [], [], [], [], [], [], [], [], [], [], [], [], [], [], [], [], [], [], [], [], [], [], [], [], [], [], [], [], [], [], [], [], [], [], [], [], [], [], [], [], [], [], [], []]) I J H ∧ H.size = b + 37) (iv2 (fun (I' : MI) (J' : MJ) => Rg G b (Lc.take 38) (Rt b [[2, 0, 3, 19], [], [4, 5, 6, 7, 8, 9, 10, 11, 12, 13, 14], [], [], [], [], [], [], [], [], [], [], [15, 16, 17, 18], [], [], [], [], [20, 21, 22, 23, 24, 25, 26, 27, 28, 29, 30], [], [], [], [], [], [], [], [], [], [], [31, 32, 33, 34], [], [], [], [], [0, 36], [], [2, 38], [], [], [], [], [], [], [], [], [], [], [], [], [], [], [], [], [], [], [], [], [], [], [], [], [], [], [], [], [], [], [], [], [], [], [], [], [], [], [], [], [], [], []]) I' J')) (f_X7_init_36 I J) := by
  refine CtE.ofN rfl rfl (Nat.le_of_ble_eq_true rfl) ?_
  intro X hok hI hE
  replace hok : Ok G l0 X RX7 cX7_init 4 { frames := 4, cells := 1, slots := 20, locals := 85 } none := hok
  delta f_X7_init_36
  show T X A (Zm X A (iv2 (fun (I' : MI) (J' : MJ) => Rg G b (Lc.take 38) (Rt b [[2, 0, 3, 19], [], [4, 5, 6, 7, 8, 9, 10, 11, 12, 13, 14], [], [], [], [], [], [], [], [], [], [], [15, 16, 17, 18], [], [], [], [], [20, 21, 22, 23, 24, 25, 26, 27, 28, 29, 30], [], [], [], [], [], [], [], [], [], [], [31, 32, 33, 34], [], [], [], [], [0, 36], [], [2, 38], [], [], [], [], [], [], [], [], [], [], [], [], [], [], [], [], [], [], [], [], [], [], [], [], [], [], [], [], [], [], [], [], [], [], [], [], [], [], [], [], [], [], []]) I' J'))) 4 0 0 0 [(0, .ref (b + 36)), (1, .ref (b + 1))] [] (Rg G b (Lc.take 37) (Rt b [[2, 0, 3, 19], [], [4, 5, 6, 7, 8, 9, 10, 11, 12, 13, 14], [], [], [], [], [], [], [], [], [], [], [15, 16, 17, 18], [], [], [], [], [20, 21, 22, 23, 24, 25, 26, 27, 28, 29, 30], [], [], [], [], [], [], [], [], [], [], [31, 32, 33, 34], [], [], [], [], [0, 36], [], [], [], [], [], [], [], [], [], [], [], [], [], [], [], [], [], [], [], [], [], [], [], [], [], [], [], [], [], [], [], [], [], [], [], [], [], [], [], [], [], [], [], [], []]) I J) _
  refine T_aload_n hok 0 rfl rfl dX7_init_0 ?_
  refine T_oinit hok oi_X7_1 oim oic dX7_init_1 (Nat.le_of_ble_eq_true rfl) (Nat.le_of_ble_eq_true rfl) ?_
  refine T_aload_n hok 0 rfl rfl dX7_init_4 ?_
  refine T_bipush hok bp_20 dX7_init_5 ?_
  refine T_newI (b := b) (kc := 0) (ks := 0) (t := 0) (N := 20) (x := (20 : Int32)) (ty := .int) (L' := (Lc.take 38)) (kc' := 1) (ks' := 20) (n := 37) hok hI rfl rfl (fun _ => rfl) rfl (by decide) rfl rfl (by decide) rfl rfl rfl ac_int (Nat.le_of_ble_eq_true rfl) (Nat.le_of_ble_eq_true rfl) (by decide) (by decide) (by decide) dX7_init_7 ?_
  intro I1
  refine T_putFR (tab' := [[2, 0, 3, 19], [], [4, 5, 6, 7, 8, 9, 10, 11, 12, 13, 14], [], [], [], [], [], [], [], [], [], [], [15, 16, 17, 18], [], [], [], [], [20, 21, 22, 23, 24, 25, 26, 27, 28, 29, 30], [], [], [], [], [], [], [], [], [], [], [31, 32, 33, 34], [], [], [], [], [0, 36], [], [0, 38], [], [], [], [], [], [], [], [], [], [], [], [], [], [], [], [], [], [], [], [], [], [], [], [], [], [], [], [], [], [], [], [], [], [], [], [], [], [], [], [], [], [], []]) hok hI hA fr_X7_9 rfl rfl (show (Lc.take 38)[36]? = some _ from rfl) rfl rfl (by decide) rfl dX7_init_9 ?_
  refine T_aload_n hok 0 rfl rfl dX7_init_12 ?_
  refine T_aload_n hok 1 rfl rfl dX7_init_13 ?_
  refine T_putFR (tab' := [[2, 0, 3, 19], [], [4, 5, 6, 7, 8, 9, 10, 11, 12, 13, 14], [], [], [], [], [], [], [], [], [], [], [15, 16, 17, 18], [], [], [], [], [20, 21, 22, 23, 24, 25, 26, 27, 28, 29, 30], [], [], [], [], [], [], [], [], [], [], [31, 32, 33, 34], [], [], [], [], [0, 36], [], [2, 38], [], [], [], [], [], [], [], [], [], [], [], [], [], [], [], [], [], [], [], [], [], [], [], [], [], [], [], [], [], [], [], [], [], [], [], [], [], [], [], [], [], [], []]) hok hI hA fr_X7_13 rfl rfl (show (Lc.take 38)[36]? = some _ from rfl) rfl rfl (by decide) rfl dX7_init_14 ?_
  refine T_iconst hok ic_0 dX7_init_17 ?_
  refine T_istore_n (lv' := [(2, .int (0 : Int32)), (0, .ref (b + 36)), (1, .ref (b + 1))]) hok rfl (by decide) rfl dX7_init_18 ?_
  refine T_jp _ (fun (j73 : MI → Option (MI × MJ)) => ∀ (I2 : MI), T X A (Zm X A (iv2 (fun (I' : MI) (J' : MJ) => Rg G b (Lc.take 38) (Rt b [[2, 0, 3, 19], [], [4, 5, 6, 7, 8, 9, 10, 11, 12, 13, 14], [], [], [], [], [], [], [], [], [], [], [15, 16, 17, 18], [], [], [], [], [20, 21, 22, 23, 24, 25, 26, 27, 28, 29, 30], [], [], [], [], [], [], [], [], [], [], [31, 32, 33, 34], [], [], [], [], [0, 36], [], [2, 38], [], [], [], [], [], [], [], [], [], [], [], [], [], [], [], [], [], [], [], [], [], [], [], [], [], [], [], [], [], [], [], [], [], [], [], [], [], [], [], [], [], [], []]) I' J'))) 4 1 20 73 [] [] (Rg G b (Lc.take 38) (Rt b [[2, 0, 3, 19], [], [4, 5, 6, 7, 8, 9, 10, 11, 12, 13, 14], [], [], [], [], [], [], [], [], [], [], [15, 16, 17, 18], [], [], [], [], [20, 21, 22, 23, 24, 25, 26, 27, 28, 29, 30], [], [], [], [], [], [], [], [], [], [], [31, 32, 33, 34], [], [], [], [], [0, 36], [], [2, 38], [], [], [], [], [], [], [], [], [], [], [], [], [], [], [], [], [], [], [], [], [], [], [], [], [], [], [], [], [], [], [], [], [], [], [], [], [], [], [], [], [], [], []]) I2 J) (j73 I2)) _ ?_ ?_
  · intro I2
    exact T_vret hok dX7_init_73 (Nat.le_of_ble_eq_true rfl) (Nat.le_of_ble_eq_true rfl) rfl
  intro j73 hj73
  refine T_sub (lv' := [(0, .ref (b + 36)), (2, .int (0 : Int32))]) [1, 0] rfl ?_
  refine T_fix2 _ (fun (x3 : Int32) (I4 : MI) => [(0, .ref (b + 36)), (2, .int x3)]) (fun (x3 : Int32) (I4 : MI) => Rg G b (Lc.take 38) (Rt b [[2, 0, 3, 19], [], [4, 5, 6, 7, 8, 9, 10, 11, 12, 13, 14], [], [], [], [], [], [], [], [], [], [], [15, 16, 17, 18], [], [], [], [], [20, 21, 22, 23, 24, 25, 26, 27, 28, 29, 30], [], [], [], [], [], [], [], [], [], [], [31, 32, 33, 34], [], [], [], [], [0, 36], [], [2, 38], [], [], [], [], [], [], [], [], [], [], [], [], [], [], [], [], [], [], [], [], [], [], [], [], [], [], [], [], [], [], [], [], [], [], [], [], [], [], [], [], [], [], []]) I4 J) ?_ FU (0 : Int32) I1
  intro r19 hr19 x3 I4
  refine T_iload_n hok 1 rfl rfl dX7_init_19 ?_
  refine T_ldcS (q := K 0) (tx := tx0) hok hE (fun s H h => h.1.1) dX7_init_20 ?_
  refine T_ci0 (CR_VE (kc := 1) (ks := 20) (rest := [.int x3]) hok hE ct_strLen rfl mw_J0_length_8abf5 mi_J0_length_8abf5 ms_J0_length_8abf5 mj_len dX7_init_22 rfl rfl (roomOk rfl) rfl) (kc' := 1) (ks' := 20) rfl rfl ?_
  intro x5
  refine T_icmp_ge (tgt := 73) hok dX7_init_25 rfl ?_ ?_
  · refine T_sub (lv' := []) [] rfl ?_
    exact hj73 I4
  refine T_iload_n hok 1 rfl rfl dX7_init_28 ?_
  refine T_bipush hok bp_120 dX7_init_29 ?_
  refine T_icmp_ge (tgt := 73) hok dX7_init_31 rfl ?_ ?_
  · refine T_sub (lv' := []) [] rfl ?_
    exact hj73 I4
  refine T_ldcS (q := K 0) (tx := tx0) hok hE (fun s H h => h.1.1) dX7_init_34 ?_
  refine T_iload_n hok 1 rfl rfl dX7_init_36 ?_
  refine T_ci0 (CR_VE (kc := 1) (ks := 20) (rest := []) hok hE (ct_strAt x3) rfl mw_J0_charAt_5068e mi_J0_charAt_5068e ms_J0_charAt_5068e mj_at dX7_init_37 rfl rfl (roomOk rfl) rfl) (kc' := 1) (ks' := 20) rfl rfl ?_
  intro x6
  refine T_istore_n (lv' := [(3, .int x6), (0, .ref (b + 36)), (2, .int x3)]) hok rfl (by decide) rfl dX7_init_40 ?_
  refine T_iload_n hok 0 rfl rfl dX7_init_41 ?_
  refine T_bipush hok bp_32 dX7_init_42 ?_
  refine T_jp _ (fun (j67 : MI → Option (MI × MJ)) => ∀ (I7 : MI), T X A (Zm X A (iv2 (fun (I' : MI) (J' : MJ) => Rg G b (Lc.take 38) (Rt b [[2, 0, 3, 19], [], [4, 5, 6, 7, 8, 9, 10, 11, 12, 13, 14], [], [], [], [], [], [], [], [], [], [], [15, 16, 17, 18], [], [], [], [], [20, 21, 22, 23, 24, 25, 26, 27, 28, 29, 30], [], [], [], [], [], [], [], [], [], [], [31, 32, 33, 34], [], [], [], [], [0, 36], [], [2, 38], [], [], [], [], [], [], [], [], [], [], [], [], [], [], [], [], [], [], [], [], [], [], [], [], [], [], [], [], [], [], [], [], [], [], [], [], [], [], [], [], [], [], []]) I' J'))) 4 1 20 67 [(0, .ref (b + 36)), (2, .int x3)] [] (Rg G b (Lc.take 38) (Rt b [[2, 0, 3, 19], [], [4, 5, 6, 7, 8, 9, 10, 11, 12, 13, 14], [], [], [], [], [], [], [], [], [], [], [15, 16, 17, 18], [], [], [], [], [20, 21, 22, 23, 24, 25, 26, 27, 28, 29, 30], [], [], [], [], [], [], [], [], [], [], [31, 32, 33, 34], [], [], [], [], [0, 36], [], [2, 38], [], [], [], [], [], [], [], [], [], [], [], [], [], [], [], [], [], [], [], [], [], [], [], [], [], [], [], [], [], [], [], [], [], [], [], [], [], [], [], [], [], [], []]) I7 J) (j67 I7)) _ ?_ ?_
  · intro I7
    refine T_iinc (lvs := fun x8 => [(2, .int x8), (0, .ref (b + 36))]) hok 1 rfl ic_1 (by decide) (fun _ => rfl) dX7_init_67 ?_
    intro x8
    refine T_goto (tgt := 19) hok dX7_init_70 rfl ?_
    refine T_sub (lv' := [(0, .ref (b + 36)), (2, .int x8)]) [1, 0] rfl ?_
    exact hr19 x8 I7
  intro j67 hj67
  refine T_icmp_eq (tgt := 67) hok dX7_init_44 rfl ?_ ?_
  · refine T_sub (lv' := [(0, .ref (b + 36)), (2, .int x3)]) [1, 2] rfl ?_
    exact hj67 I4
  refine T_aload_n hok 1 rfl rfl dX7_init_47 ?_
  refine T_getR (x := b + 37) hok fr_X7_9 (show (Lc.take 38)[36]? = some _ from rfl) rfl dX7_init_48 ?_
  refine T_iload_n hok 2 rfl rfl dX7_init_51 ?_
  refine T_bipush hok bp_6 dX7_init_52 ?_
  refine T_idiv hok dX7_init_54 ?_
  refine T_dup2 hok rfl rfl dX7_init_55 ?_
  refine T_iald hok (show (Lc.take 38)[37]? = some _ from rfl) dX7_init_56 ?_
  refine T_iload_n hok 0 rfl rfl dX7_init_57 ?_
  refine T_iload_n hok 2 rfl rfl dX7_init_58 ?_
  refine T_bipush hok bp_6 dX7_init_59 ?_
  refine T_irem hok dX7_init_61 ?_
  refine T_ci0 (CR_S (rest := [.int (I4 37 (ix (x3 / (6 : Int32)))), .int (x3 / (6 : Int32)), .ref (b + 37)]) hok (ct_X7_letter x6 (irem x3 (6 : Int32))) mw_X7_letter mst_X7_letter ml_X7_29 dX7_init_62 rfl rfl (roomOk rfl) rfl) (kc' := 1) (ks' := 20) rfl rfl ?_
  intro x9
  refine T_ior hok dX7_init_65 ?_
  refine T_iast hok (fun k _ => hA k) (show (Lc.take 38)[37]? = some _ from rfl) dX7_init_66 ?_
  intro I10
  refine T_sub (lv' := [(0, .ref (b + 36)), (2, .int x3)]) [1, 2] rfl ?_
  exact hj67 I10

set_option maxHeartbeats 4000000 in
set_option maxRecDepth 100000 in
theorem ct_X6_init_34 {G : Gx} {l0 : Launch} {A : Nat → Prop} {b : Nat} {K V : Nat → Nat} (hA : ∀ k, A (b + k)) (I : MI) (J : MJ) : CtE G l0 K V A yX6_init cX6_init 3 none { frames := 5, cells := 3, slots := 99, locals := 108 } [.ref (b + 34), .ref (b + 1), .ref (b + 18)] (fun H => Rg G b (Lc.take 35) (Rt b [[2, 0, 3, 19], [], [4, 5, 6, 7, 8, 9, 10, 11, 12, 13, 14], [], [], [], [], [], [], [], [], [], [], [15, 16, 17, 18], [], [], [], [], [20, 21, 22, 23, 24, 25, 26, 27, 28, 29, 30], [], [], [], [], [], [], [], [], [], [], [31, 32, 33, 34], [], [], [], [], [], [], [], [], [], [], [], [], [], [], [], [], [], [], [], [], [], [], [], [], [], [], [], [], [], [], [], [], [], [], [], [], [], [], [], [], [], [], [], [], [], [], [], [], [], []]) I J H ∧ H.size = b + 35) (iv2 (fun (I' : MI) (J' : MJ) => Rg G b (Lc.take 38) (Rt b [[2, 0, 3, 19], [], [4, 5, 6, 7, 8, 9, 10, 11, 12, 13, 14], [], [], [], [], [], [], [], [], [], [], [15, 16, 17, 18], [], [], [], [], [20, 21, 22, 23, 24, 25, 26, 27, 28, 29, 30], [], [], [], [], [], [], [], [], [], [], [31, 32, 33, 34], [], [], [], [], [37, 36, 0, 0, 0, 0, 0, 19], [], [2, 38], [], [], [], [], [], [], [], [], [], [], [], [], [], [], [], [], [], [], [], [], [], [], [], [], [], [], [], [], [], [], [], [], [], [], [], [], [], [], [], [], [], [], []]) I' J')) (f_X6_init_34 I J) := by
  refine CtE.ofN rfl rfl (Nat.le_of_ble_eq_true rfl) ?_
  intro X hok hI hE
  replace hok : Ok G l0 X RX6 cX6_init 3 { frames := 5, cells := 3, slots := 99, locals := 108 } none := hok
  delta f_X6_init_34
  show T X A (Zm X A (iv2 (fun (I' : MI) (J' : MJ) => Rg G b (Lc.take 38) (Rt b [[2, 0, 3, 19], [], [4, 5, 6, 7, 8, 9, 10, 11, 12, 13, 14], [], [], [], [], [], [], [], [], [], [], [15, 16, 17, 18], [], [], [], [], [20, 21, 22, 23, 24, 25, 26, 27, 28, 29, 30], [], [], [], [], [], [], [], [], [], [], [31, 32, 33, 34], [], [], [], [], [37, 36, 0, 0, 0, 0, 0, 19], [], [2, 38], [], [], [], [], [], [], [], [], [], [], [], [], [], [], [], [], [], [], [], [], [], [], [], [], [], [], [], [], [], [], [], [], [], [], [], [], [], [], [], [], [], [], []]) I' J'))) 3 0 0 0 [(0, .ref (b + 34)), (1, .ref (b + 1)), (2, .ref (b + 18))] [] (Rg G b (Lc.take 35) (Rt b [[2, 0, 3, 19], [], [4, 5, 6, 7, 8, 9, 10, 11, 12, 13, 14], [], [], [], [], [], [], [], [], [], [], [15, 16, 17, 18], [], [], [], [], [20, 21, 22, 23, 24, 25, 26, 27, 28, 29, 30], [], [], [], [], [], [], [], [], [], [], [31, 32, 33, 34], [], [], [], [], [], [], [], [], [], [], [], [], [], [], [], [], [], [], [], [], [], [], [], [], [], [], [], [], [], [], [], [], [], [], [], [], [], [], [], [], [], [], [], [], [], [], [], [], [], []]) I J) _
  refine T_aload_n hok 0 rfl rfl dX6_init_0 ?_
  refine T_oinit hok oi_X6_3 oim oic dX6_init_1 (Nat.le_of_ble_eq_true rfl) (Nat.le_of_ble_eq_true rfl) ?_
  refine T_aload_n hok 0 rfl rfl dX6_init_4 ?_
  refine T_bipush hok bp_72 dX6_init_5 ?_
  refine T_newI (b := b) (kc := 0) (ks := 0) (t := 0) (N := 72) (x := (72 : Int32)) (ty := .int) (L' := (Lc.take 36)) (kc' := 1) (ks' := 72) (n := 35) hok hI rfl rfl (fun _ => rfl) rfl (by decide) rfl rfl (by decide) rfl rfl rfl ac_int (Nat.le_of_ble_eq_true rfl) (Nat.le_of_ble_eq_true rfl) (by decide) (by decide) (by decide) dX6_init_7 ?_
  intro I1
  refine T_putFR (tab' := [[2, 0, 3, 19], [], [4, 5, 6, 7, 8, 9, 10, 11, 12, 13, 14], [], [], [], [], [], [], [], [], [], [], [15, 16, 17, 18], [], [], [], [], [20, 21, 22, 23, 24, 25, 26, 27, 28, 29, 30], [], [], [], [], [], [], [], [], [], [], [31, 32, 33, 34], [], [], [], [], [0, 36], [], [], [], [], [], [], [], [], [], [], [], [], [], [], [], [], [], [], [], [], [], [], [], [], [], [], [], [], [], [], [], [], [], [], [], [], [], [], [], [], [], [], [], [], []]) hok hI hA fr_X6_13 rfl rfl (show (Lc.take 36)[34]? = some _ from rfl) rfl rfl (by decide) rfl dX6_init_9 ?_
  refine T_aload_n hok 0 rfl rfl dX6_init_12 ?_
  refine T_iconst hok ic_m1 dX6_init_13 ?_
  refine T_putI hok (fun k _ => hA k) fr_X6_17 rfl rfl (show (Lc.take 36)[34]? = some _ from rfl) dX6_init_14 ?_
  intro I2
  refine T_aload_n hok 0 rfl rfl dX6_init_17 ?_
  refine T_new (b := b) (kc := 1) (ks := 72) (ci := 7) (L' := (Lc.take 37)) (kc' := 2) (ks' := 79) (n := 36) hok hI rfl rfl rfl (by decide) rfl (Rt_out rfl) (by decide) rfl rfl cl_X6_21 ins_X7 ini_X7 (Nat.le_of_ble_eq_true rfl) (Nat.le_of_ble_eq_true rfl) dX6_init_18 ?_
  intro I3 J4
  refine T_dup hok rfl dX6_init_21 ?_
  refine T_aload_n hok 1 rfl rfl dX6_init_22 ?_
  refine T_cv2 (CR_IE (b := b) (kc := 2) (ks := 79) (rest := [.ref (b + 36), .ref (b + 34)]) hok hI hE (ct_X7_init_36 hA I3 J4) mw_X7_init mi_X7_init rfl ml_X6_23 rfl rfl (by decide) dX6_init_23 rfl rfl (roomOk rfl) rfl) (kc' := 3) (ks' := 99) rfl rfl ?_
  intro I5 J6
  refine T_putFR (tab' := [[2, 0, 3, 19], [], [4, 5, 6, 7, 8, 9, 10, 11, 12, 13, 14], [], [], [], [], [], [], [], [], [], [], [15, 16, 17, 18], [], [], [], [], [20, 21, 22, 23, 24, 25, 26, 27, 28, 29, 30], [], [], [], [], [], [], [], [], [], [], [31, 32, 33, 34], [], [], [], [], [37, 36], [], [2, 38], [], [], [], [], [], [], [], [], [], [], [], [], [], [], [], [], [], [], [], [], [], [], [], [], [], [], [], [], [], [], [], [], [], [], [], [], [], [], [], [], [], [], []]) hok hI hA fr_X6_26 rfl rfl (show (Lc.take 38)[34]? = some _ from rfl) rfl rfl (by decide) rfl dX6_init_26 ?_
  refine T_aload_n hok 0 rfl rfl dX6_init_29 ?_
  refine T_aload_n hok 2 rfl rfl dX6_init_30 ?_
  refine T_putNR (tab' := [[2, 0, 3, 19], [], [4, 5, 6, 7, 8, 9, 10, 11, 12, 13, 14], [], [], [], [], [], [], [], [], [], [], [15, 16, 17, 18], [], [], [], [], [20, 21, 22, 23, 24, 25, 26, 27, 28, 29, 30], [], [], [], [], [], [], [], [], [], [], [31, 32, 33, 34], [], [], [], [], [37, 36, 0, 0, 0, 0, 0, 19], [], [2, 38], [], [], [], [], [], [], [], [], [], [], [], [], [], [], [], [], [], [], [], [], [], [], [], [], [], [], [], [], [], [], [], [], [], [], [], [], [], [], [], [], [], [], []]) hok hA fr_X6_30 rfl (show (Lc.take 38)[34]? = some _ from rfl) rfl rfl (by decide) rfl dX6_init_31 ?_
  exact T_vret hok dX6_init_34 (Nat.le_of_ble_eq_true rfl) (Nat.le_of_ble_eq_true rfl) rfl

set_option maxHeartbeats 4000000 in
set_option maxRecDepth 100000 in
theorem ct_X10_init_0 {G : Gx} {l0 : Launch} {A : Nat → Prop} {b : Nat} {K V : Nat → Nat} (hA : ∀ k, A (b + k)) (I : MI) (J : MJ) : CtE G l0 K V A yX10_init cX10_init 1 none { frames := 6, cells := 79, slots := 1859, locals := 130 } [.ref (b + 0)] (fun H => Rg G b (Lc.take 1) (Rt b [[], [], [], [], [], [], [], [], [], [], [], [], [], [], [], [], [], [], [], [], [], [], [], [], [], [], [], [], [], [], [], [], [], [], [], [], [], [], [], [], [], [], [], [], [], [], [], [], [], [], [], [], [], [], [], [], [], [], [], [], [], [], [], [], [], [], [], [], [], [], [], [], [], [], [], [], [], [], [], []]) I J H ∧ H.size = b + 1) (iv2 (fun (I' : MI) (J' : MJ) => Rg G b Lc (Rc b 2 18 18) I' J')) (f_X10_init_0 I J) := by
  refine CtE.ofN rfl rfl (Nat.le_of_ble_eq_true rfl) ?_
  intro X hok hI hE
  replace hok : Ok G l0 X RX10 cX10_init 1 { frames := 6, cells := 79, slots := 1859, locals := 130 } none := hok
  delta f_X10_init_0
  show T X A (Zm X A (iv2 (fun (I' : MI) (J' : MJ) => Rg G b Lc (Rc b 2 18 18) I' J'))) 1 0 0 0 [(0, .ref (b + 0))] [] (Rg G b (Lc.take 1) (Rt b [[], [], [], [], [], [], [], [], [], [], [], [], [], [], [], [], [], [], [], [], [], [], [], [], [], [], [], [], [], [], [], [], [], [], [], [], [], [], [], [], [], [], [], [], [], [], [], [], [], [], [], [], [], [], [], [], [], [], [], [], [], [], [], [], [], [], [], [], [], [], [], [], [], [], [], [], [], [], [], []]) I J) _
  refine T_aload_n hok 0 rfl rfl dX10_init_0 ?_
  refine T_oinit hok oi_X10_3 oim oic dX10_init_1 (Nat.le_of_ble_eq_true rfl) (Nat.le_of_ble_eq_true rfl) ?_
  refine T_aload_n hok 0 rfl rfl dX10_init_4 ?_
  refine T_sipush hok sp_700 dX10_init_5 ?_
  refine T_newI (b := b) (kc := 0) (ks := 0) (t := 2) (N := 700) (x := (700 : Int32)) (ty := .byte) (L' := (Lc.take 2)) (kc' := 1) (ks' := 700) (n := 1) hok hI rfl rfl (fun _ => rfl) rfl (by decide) rfl rfl (by decide) rfl rfl rfl ac_byte (Nat.le_of_ble_eq_true rfl) (Nat.le_of_ble_eq_true rfl) (by decide) (by decide) (by decide) dX10_init_8 ?_
  intro I1
  refine T_putFR (tab' := [[2], [], [], [], [], [], [], [], [], [], [], [], [], [], [], [], [], [], [], [], [], [], [], [], [], [], [], [], [], [], [], [], [], [], [], [], [], [], [], [], [], [], [], [], [], [], [], [], [], [], [], [], [], [], [], [], [], [], [], [], [], [], [], [], [], [], [], [], [], [], [], [], [], [], [], [], [], [], [], []]) hok hI hA fr_X10_11 rfl rfl (show (Lc.take 2)[0]? = some _ from rfl) rfl rfl (by decide) rfl dX10_init_10 ?_
  refine T_aload_n hok 0 rfl rfl dX10_init_13 ?_
  refine T_new (b := b) (kc := 1) (ks := 700) (ci := 0) (L' := (Lc.take 3)) (kc' := 2) (ks' := 720) (n := 2) hok hI rfl rfl rfl (by decide) rfl (Rt_out rfl) (by decide) rfl rfl cl_X10_15 ins_X0 ini_X0 (Nat.le_of_ble_eq_true rfl) (Nat.le_of_ble_eq_true rfl) dX10_init_14 ?_
  intro I2 J3
  refine T_dup hok rfl dX10_init_17 ?_
  refine T_cv2 (CR_I (b := b) (kc := 2) (ks := 720) (rest := [.ref (b + 2), .ref (b + 0)]) hok hI (ct_X0_init_2 hA I2 J3) mw_X0_init mi_X0_init rfl ml_X10_17 rfl rfl (by decide) dX10_init_18 rfl rfl (roomOk rfl) rfl) (kc' := 17) (ks' := 1014) rfl rfl ?_
  intro I4 J5
  refine T_putNR (tab' := [[2, 0, 3], [], [4, 5, 6, 7, 8, 9, 10, 11, 12, 13, 14], [], [], [], [], [], [], [], [], [], [], [15, 16, 17, 18], [], [], [], [], [], [], [], [], [], [], [], [], [], [], [], [], [], [], [], [], [], [], [], [], [], [], [], [], [], [], [], [], [], [], [], [], [], [], [], [], [], [], [], [], [], [], [], [], [], [], [], [], [], [], [], [], [], [], [], [], [], [], [], [], [], []]) hok hA fr_X10_18 rfl (show (Lc.take 18)[0]? = some _ from rfl) rfl rfl (by decide) rfl dX10_init_21 ?_
  refine T_aload_n hok 0 rfl rfl dX10_init_24 ?_
  refine T_new (b := b) (kc := 17) (ks := 1014) (ci := 0) (L' := (Lc.take 19)) (kc' := 18) (ks' := 1034) (n := 18) hok hI rfl rfl rfl (by decide) rfl (Rt_out rfl) (by decide) rfl rfl cl_X10_15 ins_X0 ini_X0 (Nat.le_of_ble_eq_true rfl) (Nat.le_of_ble_eq_true rfl) dX10_init_25 ?_
  intro I6 J7
  refine T_dup hok rfl dX10_init_28 ?_
  refine T_cv2 (CR_I (b := b) (kc := 18) (ks := 1034) (rest := [.ref (b + 18), .ref (b + 0)]) hok hI (ct_X0_init_18 hA I6 J7) mw_X0_init mi_X0_init rfl ml_X10_17 rfl rfl (by decide) dX10_init_29 rfl rfl (roomOk rfl) rfl) (kc' := 33) (ks' := 1328) rfl rfl ?_
  intro I8 J9
  refine T_putNR (tab' := [[2, 0, 3, 19], [], [4, 5, 6, 7, 8, 9, 10, 11, 12, 13, 14], [], [], [], [], [], [], [], [], [], [], [15, 16, 17, 18], [], [], [], [], [20, 21, 22, 23, 24, 25, 26, 27, 28, 29, 30], [], [], [], [], [], [], [], [], [], [], [31, 32, 33, 34], [], [], [], [], [], [], [], [], [], [], [], [], [], [], [], [], [], [], [], [], [], [], [], [], [], [], [], [], [], [], [], [], [], [], [], [], [], [], [], [], [], [], [], [], [], [], [], [], [], []]) hok hA fr_X10_22 rfl (show (Lc.take 34)[0]? = some _ from rfl) rfl rfl (by decide) rfl dX10_init_32 ?_
  refine T_aload_n hok 0 rfl rfl dX10_init_35 ?_
  refine T_new (b := b) (kc := 33) (ks := 1328) (ci := 6) (L' := (Lc.take 35)) (kc' := 34) (ks' := 1336) (n := 34) hok hI rfl rfl rfl (by decide) rfl (Rt_out rfl) (by decide) rfl rfl cl_X10_25 ins_X6 ini_X6 (Nat.le_of_ble_eq_true rfl) (Nat.le_of_ble_eq_true rfl) dX10_init_36 ?_
  intro I10 J11
  refine T_dup hok rfl dX10_init_39 ?_
  refine T_aload_n hok 0 rfl rfl dX10_init_40 ?_
  refine T_getR (x := b + 1) hok fr_X10_11 (show (Lc.take 35)[0]? = some _ from rfl) rfl dX10_init_41 ?_
  refine T_aload_n hok 0 rfl rfl dX10_init_44 ?_
  refine T_getR (x := b + 18) hok fr_X10_22 (show (Lc.take 35)[0]? = some _ from rfl) rfl dX10_init_45 ?_
  refine T_cv2 (CR_IE (b := b) (kc := 34) (ks := 1336) (rest := [.ref (b + 34), .ref (b + 0)]) hok hI hE (ct_X6_init_34 hA I10 J11) mw_X6_init mi_X6_init rfl ml_X10_27 rfl rfl (by decide) dX10_init_48 rfl rfl (roomOk rfl) rfl) (kc' := 37) (ks' := 1435) rfl rfl ?_
  intro I12 J13
  refine T_putFR (tab' := [[2, 0, 3, 19, 35], [], [4, 5, 6, 7, 8, 9, 10, 11, 12, 13, 14], [], [], [], [], [], [], [], [], [], [], [15, 16, 17, 18], [], [], [], [], [20, 21, 22, 23, 24, 25, 26, 27, 28, 29, 30], [], [], [], [], [], [], [], [], [], [], [31, 32, 33, 34], [], [], [], [], [37, 36, 0, 0, 0, 0, 0, 19], [], [2, 38], [], [], [], [], [], [], [], [], [], [], [], [], [], [], [], [], [], [], [], [], [], [], [], [], [], [], [], [], [], [], [], [], [], [], [], [], [], [], [], [], [], [], []]) hok hI hA fr_X10_30 rfl rfl (show (Lc.take 38)[0]? = some _ from rfl) rfl rfl (by decide) rfl dX10_init_51 ?_
  refine T_aload_n hok 0 rfl rfl dX10_init_54 ?_
  refine T_new (b := b) (kc := 37) (ks := 1435) (ci := 8) (L' := (Lc.take 39)) (kc' := 38) (ks' := 1446) (n := 38) hok hI rfl rfl rfl (by decide) rfl (Rt_out rfl) (by decide) rfl rfl cl_X10_34 ins_X8 ini_X8 (Nat.le_of_ble_eq_true rfl) (Nat.le_of_ble_eq_true rfl) dX10_init_55 ?_
  intro I14 J15
  refine T_dup hok rfl dX10_init_58 ?_
  refine T_cv2 (CR_IN (b := b) (kc := 38) (ks := 1446) (rest := [.ref (b + 38), .ref (b + 0)]) hok hI (ct_X8_init_38 hA I14 J15) mw_X8_init mi_X8_init rfl ml_X10_36 rfl rfl (by decide) dX10_init_59 rfl rfl (roomOk rfl) rfl) (kc' := 45) (ks' := 1488) rfl rfl ?_
  intro I16 J17
  refine T_putFR (tab' := [[2, 0, 3, 19, 35, 39], [], [4, 5, 6, 7, 8, 9, 10, 11, 12, 13, 14], [], [], [], [], [], [], [], [], [], [], [15, 16, 17, 18], [], [], [], [], [20, 21, 22, 23, 24, 25, 26, 27, 28, 29, 30], [], [], [], [], [], [], [], [], [], [], [31, 32, 33, 34], [], [], [], [], [37, 36, 0, 0, 0, 0, 0, 19], [], [2, 38], [], [40, 41, 42, 43, 44, 45, 46], [], [], [], [], [], [], [], [], [], [], [], [], [], [], [], [], [], [], [], [], [], [], [], [], [], [], [], [], [], [], [], [], [], [], [], [], [], [], [], [], []]) hok hI hA fr_X10_37 rfl rfl (show (Lc.take 46)[0]? = some _ from rfl) rfl rfl (by decide) rfl dX10_init_62 ?_
  refine T_aload_n hok 0 rfl rfl dX10_init_65 ?_
  refine T_new (b := b) (kc := 45) (ks := 1488) (ci := 8) (L' := (Lc.take 47)) (kc' := 46) (ks' := 1499) (n := 46) hok hI rfl rfl rfl (by decide) rfl (Rt_out rfl) (by decide) rfl rfl cl_X10_34 ins_X8 ini_X8 (Nat.le_of_ble_eq_true rfl) (Nat.le_of_ble_eq_true rfl) dX10_init_66 ?_
  intro I18 J19
  refine T_dup hok rfl dX10_init_69 ?_
  refine T_cv2 (CR_IN (b := b) (kc := 46) (ks := 1499) (rest := [.ref (b + 46), .ref (b + 0)]) hok hI (ct_X8_init_46 hA I18 J19) mw_X8_init mi_X8_init rfl ml_X10_36 rfl rfl (by decide) dX10_init_70 rfl rfl (roomOk rfl) rfl) (kc' := 53) (ks' := 1541) rfl rfl ?_
  intro I20 J21
  refine T_putFR (tab' := [[2, 0, 3, 19, 35, 39, 47], [], [4, 5, 6, 7, 8, 9, 10, 11, 12, 13, 14], [], [], [], [], [], [], [], [], [], [], [15, 16, 17, 18], [], [], [], [], [20, 21, 22, 23, 24, 25, 26, 27, 28, 29, 30], [], [], [], [], [], [], [], [], [], [], [31, 32, 33, 34], [], [], [], [], [37, 36, 0, 0, 0, 0, 0, 19], [], [2, 38], [], [40, 41, 42, 43, 44, 45, 46], [], [], [], [], [], [], [], [48, 49, 50, 51, 52, 53, 54], [], [], [], [], [], [], [], [], [], [], [], [], [], [], [], [], [], [], [], [], [], [], [], [], [], [], [], [], [], [], [], [], []]) hok hI hA fr_X10_41 rfl rfl (show (Lc.take 54)[0]? = some _ from rfl) rfl rfl (by decide) rfl dX10_init_73 ?_
  refine T_aload_n hok 0 rfl rfl dX10_init_76 ?_
  refine T_new (b := b) (kc := 53) (ks := 1541) (ci := 8) (L' := (Lc.take 55)) (kc' := 54) (ks' := 1552) (n := 54) hok hI rfl rfl rfl (by decide) rfl (Rt_out rfl) (by decide) rfl rfl cl_X10_34 ins_X8 ini_X8 (Nat.le_of_ble_eq_true rfl) (Nat.le_of_ble_eq_true rfl) dX10_init_77 ?_
  intro I22 J23
  refine T_dup hok rfl dX10_init_80 ?_
  refine T_cv2 (CR_IN (b := b) (kc := 54) (ks := 1552) (rest := [.ref (b + 54), .ref (b + 0)]) hok hI (ct_X8_init_54 hA I22 J23) mw_X8_init mi_X8_init rfl ml_X10_36 rfl rfl (by decide) dX10_init_81 rfl rfl (roomOk rfl) rfl) (kc' := 61) (ks' := 1594) rfl rfl ?_
  intro I24 J25
  refine T_putFR (tab' := [[2, 0, 3, 19, 35, 39, 47, 55], [], [4, 5, 6, 7, 8, 9, 10, 11, 12, 13, 14], [], [], [], [], [], [], [], [], [], [], [15, 16, 17, 18], [], [], [], [], [20, 21, 22, 23, 24, 25, 26, 27, 28, 29, 30], [], [], [], [], [], [], [], [], [], [], [31, 32, 33, 34], [], [], [], [], [37, 36, 0, 0, 0, 0, 0, 19], [], [2, 38], [], [40, 41, 42, 43, 44, 45, 46], [], [], [], [], [], [], [], [48, 49, 50, 51, 52, 53, 54], [], [], [], [], [], [], [], [56, 57, 58, 59, 60, 61, 62], [], [], [], [], [], [], [], [], [], [], [], [], [], [], [], [], [], [], [], [], [], [], [], [], []]) hok hI hA fr_X10_44 rfl rfl (show (Lc.take 62)[0]? = some _ from rfl) rfl rfl (by decide) rfl dX10_init_84 ?_
  refine T_aload_n hok 0 rfl rfl dX10_init_87 ?_
  refine T_new (b := b) (kc := 61) (ks := 1594) (ci := 1) (L' := (Lc.take 63)) (kc' := 62) (ks' := 1599) (n := 62) hok hI rfl rfl rfl (by decide) rfl (Rt_out rfl) (by decide) rfl rfl cl_X10_47 ins_X1 ini_X1 (Nat.le_of_ble_eq_true rfl) (Nat.le_of_ble_eq_true rfl) dX10_init_88 ?_
  intro I26 J27
  refine T_dup hok rfl dX10_init_91 ?_
  refine T_cv2 (CR_IN (b := b) (kc := 62) (ks := 1599) (rest := [.ref (b + 62), .ref (b + 0)]) hok hI (ct_X1_init_62 hA I26 J27) mw_X1_init mi_X1_init rfl ml_X10_49 rfl rfl (by decide) dX10_init_92 rfl rfl (roomOk rfl) rfl) (kc' := 63) (ks' := 1606) rfl rfl ?_
  intro I28 J29
  refine T_putFR (tab' := [[2, 0, 3, 19, 35, 39, 47, 55, 0, 63], [], [4, 5, 6, 7, 8, 9, 10, 11, 12, 13, 14], [], [], [], [], [], [], [], [], [], [], [15, 16, 17, 18], [], [], [], [], [20, 21, 22, 23, 24, 25, 26, 27, 28, 29, 30], [], [], [], [], [], [], [], [], [], [], [31, 32, 33, 34], [], [], [], [], [37, 36, 0, 0, 0, 0, 0, 19], [], [2, 38], [], [40, 41, 42, 43, 44, 45, 46], [], [], [], [], [], [], [], [48, 49, 50, 51, 52, 53, 54], [], [], [], [], [], [], [], [56, 57, 58, 59, 60, 61, 62], [], [], [], [], [], [], [], [64], [], [], [], [], [], [], [], [], [], [], [], [], [], [], [], [], []]) hok hI hA fr_X10_50 rfl rfl (show (Lc.take 64)[0]? = some _ from rfl) rfl rfl (by decide) rfl dX10_init_95 ?_
  refine T_aload_n hok 0 rfl rfl dX10_init_98 ?_
  refine T_new (b := b) (kc := 63) (ks := 1606) (ci := 9) (L' := (Lc.take 65)) (kc' := 64) (ks' := 1612) (n := 64) hok hI rfl rfl rfl (by decide) rfl (Rt_out rfl) (by decide) rfl rfl cl_X10_54 ins_X9 ini_X9 (Nat.le_of_ble_eq_true rfl) (Nat.le_of_ble_eq_true rfl) dX10_init_99 ?_
  intro I30 J31
  refine T_dup hok rfl dX10_init_102 ?_
  refine T_cv2 (CR_IN (b := b) (kc := 64) (ks := 1612) (rest := [.ref (b + 64), .ref (b + 0)]) hok hI (ct_X9_init_64 hA I30 J31) mw_X9_init mi_X9_init rfl ml_X10_56 rfl rfl (by decide) dX10_init_103 rfl rfl (roomOk rfl) rfl) (kc' := 69) (ks' := 1712) rfl rfl ?_
  intro I32 J33
  refine T_putFR (tab' := [[2, 0, 3, 19, 35, 39, 47, 55, 0, 63, 65], [], [4, 5, 6, 7, 8, 9, 10, 11, 12, 13, 14], [], [], [], [], [], [], [], [], [], [], [15, 16, 17, 18], [], [], [], [], [20, 21, 22, 23, 24, 25, 26, 27, 28, 29, 30], [], [], [], [], [], [], [], [], [], [], [31, 32, 33, 34], [], [], [], [], [37, 36, 0, 0, 0, 0, 0, 19], [], [2, 38], [], [40, 41, 42, 43, 44, 45, 46], [], [], [], [], [], [], [], [48, 49, 50, 51, 52, 53, 54], [], [], [], [], [], [], [], [56, 57, 58, 59, 60, 61, 62], [], [], [], [], [], [], [], [64], [], [66, 67, 68, 69, 70], [], [], [], [], [], [], [], [], [], [], [], [], [], [], []]) hok hI hA fr_X10_57 rfl rfl (show (Lc.take 70)[0]? = some _ from rfl) rfl rfl (by decide) rfl dX10_init_106 ?_
  refine T_aload_n hok 0 rfl rfl dX10_init_109 ?_
  refine T_new (b := b) (kc := 69) (ks := 1712) (ci := 2) (L' := (Lc.take 71)) (kc' := 70) (ks' := 1719) (n := 70) hok hI rfl rfl rfl (by decide) rfl (Rt_out rfl) (by decide) rfl rfl cl_X10_61 ins_X2 ini_X2 (Nat.le_of_ble_eq_true rfl) (Nat.le_of_ble_eq_true rfl) dX10_init_110 ?_
  intro I34 J35
  refine T_dup hok rfl dX10_init_113 ?_
  refine T_cv2 (CR_IN (b := b) (kc := 70) (ks := 1719) (rest := [.ref (b + 70), .ref (b + 0)]) hok hI (ct_X2_init_70 hA I34 J35) mw_X2_init mi_X2_init rfl ml_X10_63 rfl rfl (by decide) dX10_init_114 rfl rfl (roomOk rfl) rfl) (kc' := 75) (ks' := 1839) rfl rfl ?_
  intro I36 J37
  refine T_putFR (tab' := [[2, 0, 3, 19, 35, 39, 47, 55, 0, 63, 65, 71], [], [4, 5, 6, 7, 8, 9, 10, 11, 12, 13, 14], [], [], [], [], [], [], [], [], [], [], [15, 16, 17, 18], [], [], [], [], [20, 21, 22, 23, 24, 25, 26, 27, 28, 29, 30], [], [], [], [], [], [], [], [], [], [], [31, 32, 33, 34], [], [], [], [], [37, 36, 0, 0, 0, 0, 0, 19], [], [2, 38], [], [40, 41, 42, 43, 44, 45, 46], [], [], [], [], [], [], [], [48, 49, 50, 51, 52, 53, 54], [], [], [], [], [], [], [], [56, 57, 58, 59, 60, 61, 62], [], [], [], [], [], [], [], [64], [], [66, 67, 68, 69, 70], [], [], [], [], [], [72, 73, 74, 75, 76], [], [], [], [], [], [], [], [], []]) hok hI hA fr_X10_64 rfl rfl (show (Lc.take 76)[0]? = some _ from rfl) rfl rfl (by decide) rfl dX10_init_117 ?_
  refine T_aload_n hok 0 rfl rfl dX10_init_120 ?_
  refine T_new (b := b) (kc := 75) (ks := 1839) (ci := 5) (L' := (Lc.take 77)) (kc' := 76) (ks' := 1843) (n := 76) hok hI rfl rfl rfl (by decide) rfl (Rt_out rfl) (by decide) rfl rfl cl_X10_68 ins_X5 ini_X5 (Nat.le_of_ble_eq_true rfl) (Nat.le_of_ble_eq_true rfl) dX10_init_121 ?_
  intro I38 J39
  refine T_dup hok rfl dX10_init_124 ?_
  refine T_cv2 (CR_IN (b := b) (kc := 76) (ks := 1843) (rest := [.ref (b + 76), .ref (b + 0)]) hok hI (ct_X5_init_76 hA I38 J39) mw_X5_init mi_X5_init rfl ml_X10_70 rfl rfl (by decide) dX10_init_125 rfl rfl (roomOk rfl) rfl) (kc' := 78) (ks' := 1857) rfl rfl ?_
  intro I40 J41
  refine T_putFR (tab' := [[2, 0, 3, 19, 35, 39, 47, 55, 0, 63, 65, 71, 77], [], [4, 5, 6, 7, 8, 9, 10, 11, 12, 13, 14], [], [], [], [], [], [], [], [], [], [], [15, 16, 17, 18], [], [], [], [], [20, 21, 22, 23, 24, 25, 26, 27, 28, 29, 30], [], [], [], [], [], [], [], [], [], [], [31, 32, 33, 34], [], [], [], [], [37, 36, 0, 0, 0, 0, 0, 19], [], [2, 38], [], [40, 41, 42, 43, 44, 45, 46], [], [], [], [], [], [], [], [48, 49, 50, 51, 52, 53, 54], [], [], [], [], [], [], [], [56, 57, 58, 59, 60, 61, 62], [], [], [], [], [], [], [], [64], [], [66, 67, 68, 69, 70], [], [], [], [], [], [72, 73, 74, 75, 76], [], [], [], [], [], [78, 79], [], [], []]) hok hI hA fr_X10_71 rfl rfl (show (Lc.take 79)[0]? = some _ from rfl) rfl rfl (by decide) rfl dX10_init_128 ?_
  refine T_aload_n hok 0 rfl rfl dX10_init_131 ?_
  refine T_new (b := b) (kc := 78) (ks := 1857) (ci := 3) (L' := Lc) (kc' := 79) (ks' := 1859) (n := 79) hok hI rfl rfl rfl (by decide) rfl (Rt_out rfl) (by decide) rfl rfl cl_X10_75 ins_X3 ini_X3 (Nat.le_of_ble_eq_true rfl) (Nat.le_of_ble_eq_true rfl) dX10_init_132 ?_
  intro I42 J43
  refine T_dup hok rfl dX10_init_135 ?_
  refine T_cv2 (CR_IN (b := b) (kc := 79) (ks := 1859) (rest := [.ref (b + 79), .ref (b + 0)]) hok hI (ct_X3_init_79 hA I42 J43) mw_X3_init mi_X3_init rfl ml_X10_77 rfl rfl (by decide) dX10_init_136 rfl rfl (roomOk rfl) rfl) (kc' := 79) (ks' := 1859) rfl rfl ?_
  intro I44 J45
  refine T_putFR (tab' := [[2, 0, 3, 19, 35, 39, 47, 55, 0, 63, 65, 71, 77, 80], [], [4, 5, 6, 7, 8, 9, 10, 11, 12, 13, 14], [], [], [], [], [], [], [], [], [], [], [15, 16, 17, 18], [], [], [], [], [20, 21, 22, 23, 24, 25, 26, 27, 28, 29, 30], [], [], [], [], [], [], [], [], [], [], [31, 32, 33, 34], [], [], [], [], [37, 36, 0, 0, 0, 0, 0, 19], [], [2, 38], [], [40, 41, 42, 43, 44, 45, 46], [], [], [], [], [], [], [], [48, 49, 50, 51, 52, 53, 54], [], [], [], [], [], [], [], [56, 57, 58, 59, 60, 61, 62], [], [], [], [], [], [], [], [64], [], [66, 67, 68, 69, 70], [], [], [], [], [], [72, 73, 74, 75, 76], [], [], [], [], [], [78, 79], [], [], []]) hok hI hA fr_X10_78 rfl rfl (show Lc[0]? = some _ from rfl) rfl rfl (by decide) rfl dX10_init_139 ?_
  refine T_aload_n hok 0 rfl rfl dX10_init_142 ?_
  refine T_getR (x := b + 38) hok fr_X10_37 (show Lc[0]? = some _ from rfl) rfl dX10_init_143 ?_
  refine T_aload_n hok 0 rfl rfl dX10_init_146 ?_
  refine T_getR (x := b + 2) hok fr_X10_18 (show Lc[0]? = some _ from rfl) rfl dX10_init_147 ?_
  refine T_cv1 (CR_V (rest := []) hok (ct_X8_start (fun k _ => hA k) (show TownAt b Lc (Rt b [[2, 0, 3, 19, 35, 39, 47, 55, 0, 63, 65, 71, 77, 80], [], [4, 5, 6, 7, 8, 9, 10, 11, 12, 13, 14], [], [], [], [], [], [], [], [], [], [], [15, 16, 17, 18], [], [], [], [], [20, 21, 22, 23, 24, 25, 26, 27, 28, 29, 30], [], [], [], [], [], [], [], [], [], [], [31, 32, 33, 34], [], [], [], [], [37, 36, 0, 0, 0, 0, 0, 19], [], [2, 38], [], [40, 41, 42, 43, 44, 45, 46], [], [], [], [], [], [], [], [48, 49, 50, 51, 52, 53, 54], [], [], [], [], [], [], [], [56, 57, 58, 59, 60, 61, 62], [], [], [], [], [], [], [], [64], [], [66, 67, 68, 69, 70], [], [], [], [], [], [72, 73, 74, 75, 76], [], [], [], [], [], [78, 79], [], [], []]) 38 from ⟨rfl, rfl, rfl, rfl, rfl, rfl, rfl, rfl, rfl, rfl, rfl, rfl, rfl, rfl, rfl⟩) (show BookAt b Lc (Rt b [[2, 0, 3, 19, 35, 39, 47, 55, 0, 63, 65, 71, 77, 80], [], [4, 5, 6, 7, 8, 9, 10, 11, 12, 13, 14], [], [], [], [], [], [], [], [], [], [], [15, 16, 17, 18], [], [], [], [], [20, 21, 22, 23, 24, 25, 26, 27, 28, 29, 30], [], [], [], [], [], [], [], [], [], [], [31, 32, 33, 34], [], [], [], [], [37, 36, 0, 0, 0, 0, 0, 19], [], [2, 38], [], [40, 41, 42, 43, 44, 45, 46], [], [], [], [], [], [], [], [48, 49, 50, 51, 52, 53, 54], [], [], [], [], [], [], [], [56, 57, 58, 59, 60, 61, 62], [], [], [], [], [], [], [], [64], [], [66, 67, 68, 69, 70], [], [], [], [], [], [72, 73, 74, 75, 76], [], [], [], [], [], [78, 79], [], [], []]) 2 from ⟨rfl, rfl, rfl, rfl, rfl, rfl, rfl, rfl, rfl, rfl, rfl, rfl, rfl, rfl, rfl, rfl, rfl, rfl, rfl, rfl, rfl, rfl, ⟨rfl, rfl, rfl, rfl, rfl, rfl, rfl, rfl, rfl⟩⟩) I44 J45) mw_X8_start mv_X8_start ml_X10_82 (show Lc[38]? = some _ from rfl) dX10_init_150 rfl rfl (roomOk rfl) rfl) (kc' := 79) (ks' := 1859) rfl rfl ?_
  intro I46
  exact T_vret hok dX10_init_153 (Nat.le_of_ble_eq_true rfl) (Nat.le_of_ble_eq_true rfl) rfl
