set_option maxHeartbeats 4000000 in
set_option maxRecDepth 100000 in
theorem ct_X4_clear {G : Gx} {l0 : Launch} {A : Nat → Prop} {b : Nat} {L : List Kd} {R : MR} {pl : Nat} (hA : ∀ k, k < L.length → A (b + k)) (hpl : LawsAt b L R pl) (I : MI) (J : MJ) : Ct G l0 A yX4_clear cX4_clear 2 none { frames := 0, cells := 0, slots := 0, locals := 0 } [.ref (b + pl)] (Rg G b L R I J) (iv1 (fun (I' : MI) => Rg G b L R I' J)) (f_X4_clear I pl) := by
  refine Ct.of rfl (Nat.le_of_ble_eq_true rfl) ?_
  intro X hok
  replace hok : Ok G l0 X RX4 cX4_clear 2 { frames := 0, cells := 0, slots := 0, locals := 0 } none := hok
  delta f_X4_clear
  show T X A (Zm X A (iv1 (fun (I' : MI) => Rg G b L R I' J))) 2 0 0 0 [(0, .ref (b + pl))] [] (Rg G b L R I J) _
  refine T_aload_n hok 0 rfl rfl dX4_clear_0 ?_
  refine T_iconst hok ic_0 dX4_clear_1 ?_
  refine T_putI hok hA fr_X4_25 rfl rfl hpl.o dX4_clear_2 ?_
  intro I1
  refine T_aload_n hok 0 rfl rfl dX4_clear_5 ?_
  refine T_iconst hok ic_0 dX4_clear_6 ?_
  refine T_putI hok hA fr_X4_29 rfl rfl hpl.o dX4_clear_7 ?_
  intro I2
  refine T_iconst hok ic_0 dX4_clear_10 ?_
  refine T_istore_n (lv' := [(1, .int (0 : Int32)), (0, .ref (b + pl))]) hok rfl (by decide) rfl dX4_clear_11 ?_
  refine T_sub (lv' := [(0, .ref (b + pl)), (1, .int (0 : Int32))]) [1, 0] rfl ?_
  refine T_fix2 _ (fun (x3 : Int32) (I4 : MI) => [(0, .ref (b + pl)), (1, .int x3)]) (fun (x3 : Int32) (I4 : MI) => Rg G b L R I4 J) ?_ FU (0 : Int32) I2
  intro r12 hr12 x3 I4
  refine T_iload_n hok 1 rfl rfl dX4_clear_12 ?_
  refine T_iconst hok ic_3 dX4_clear_13 ?_
  refine T_icmp_ge (tgt := 37) hok dX4_clear_14 rfl ?_ ?_
  · exact T_vret hok dX4_clear_37 (Nat.zero_le _) (Nat.zero_le _) rfl
  refine T_aload_n hok 0 rfl rfl dX4_clear_17 ?_
  refine T_getR hok fr_X4_15 hpl.o hpl.r1 dX4_clear_18 ?_
  refine T_iload_n hok 1 rfl rfl dX4_clear_21 ?_
  refine T_iconst hok ic_0 dX4_clear_22 ?_
  refine T_iast hok hA hpl.l1 dX4_clear_23 ?_
  intro I5
  refine T_aload_n hok 0 rfl rfl dX4_clear_24 ?_
  refine T_getR hok fr_X4_18 hpl.o hpl.r2 dX4_clear_25 ?_
  refine T_iload_n hok 1 rfl rfl dX4_clear_28 ?_
  refine T_iconst hok ic_0 dX4_clear_29 ?_
  refine T_iast hok hA hpl.l2 dX4_clear_30 ?_
  intro I6
  refine T_iinc (lvs := fun x7 => [(1, .int x7), (0, .ref (b + pl))]) hok 1 rfl ic_1 (by decide) (fun _ => rfl) dX4_clear_31 ?_
  intro x7
  refine T_goto (tgt := 12) hok dX4_clear_34 rfl ?_
  refine T_sub (lv' := [(0, .ref (b + pl)), (1, .int x7)]) [1, 0] rfl ?_
  exact hr12 x7 I6

set_option maxHeartbeats 4000000 in
set_option maxRecDepth 100000 in
theorem ct_X0_clear {G : Gx} {l0 : Launch} {A : Nat → Prop} {b : Nat} {L : List Kd} {R : MR} {pb : Nat} (hA : ∀ k, k < L.length → A (b + k)) (hpb : BookAt b L R pb) (I : MI) (J : MJ) : Ct G l0 A yX0_clear cX0_clear 2 none { frames := 1, cells := 0, slots := 0, locals := 21 } [.ref (b + pb)] (Rg G b L R I J) (iv1 (fun (I' : MI) => Rg G b L R I' J)) (f_X0_clear I pb) := by
  refine Ct.of rfl (Nat.le_of_ble_eq_true rfl) ?_
  intro X hok
  replace hok : Ok G l0 X RX0 cX0_clear 2 { frames := 1, cells := 0, slots := 0, locals := 21 } none := hok
  delta f_X0_clear
  show T X A (Zm X A (iv1 (fun (I' : MI) => Rg G b L R I' J))) 2 0 0 0 [(0, .ref (b + pb))] [] (Rg G b L R I J) _
  refine T_aload_n hok 0 rfl rfl dX0_clear_0 ?_
  refine T_iconst hok ic_0 dX0_clear_1 ?_
  refine T_putI hok hA fr_X0_55 rfl rfl hpb.o dX0_clear_2 ?_
  intro I1
  refine T_aload_n hok 0 rfl rfl dX0_clear_5 ?_
  refine T_iconst hok ic_0 dX0_clear_6 ?_
  refine T_putI hok hA fr_X0_59 rfl rfl hpb.o dX0_clear_7 ?_
  intro I2
  refine T_aload_n hok 0 rfl rfl dX0_clear_10 ?_
  refine T_iconst hok ic_0 dX0_clear_11 ?_
  refine T_putI hok hA fr_X0_62 rfl rfl hpb.o dX0_clear_12 ?_
  intro I3
  refine T_aload_n hok 0 rfl rfl dX0_clear_15 ?_
  refine T_iconst hok ic_0 dX0_clear_16 ?_
  refine T_putI hok hA fr_X0_65 rfl rfl hpb.o dX0_clear_17 ?_
  intro I4
  refine T_aload_n hok 0 rfl rfl dX0_clear_20 ?_
  refine T_iconst hok ic_m1 dX0_clear_21 ?_
  refine T_putI hok hA fr_X0_68 rfl rfl hpb.o dX0_clear_22 ?_
  intro I5
  refine T_aload_n hok 0 rfl rfl dX0_clear_25 ?_
  refine T_iconst hok ic_m1 dX0_clear_26 ?_
  refine T_putI hok hA fr_X0_71 rfl rfl hpb.o dX0_clear_27 ?_
  intro I6
  refine T_iconst hok ic_0 dX0_clear_30 ?_
  refine T_istore_n (lv' := [(1, .int (0 : Int32)), (0, .ref (b + pb))]) hok rfl (by decide) rfl dX0_clear_31 ?_
  refine T_jp _ (fun (j51 : MI → Option (MI)) => ∀ (I7 : MI), T X A (Zm X A (iv1 (fun (I' : MI) => Rg G b L R I' J))) 2 0 0 51 [(0, .ref (b + pb))] [] (Rg G b L R I7 J) (j51 I7)) _ ?_ ?_
  · intro I7
    refine T_aload_n hok 0 rfl rfl dX0_clear_51 ?_
    refine T_getR hok fr_X0_45 hpb.o hpb.r10 dX0_clear_52 ?_
    refine T_cv1 (CR_V (rest := []) hok (ct_X4_clear hA hpb.laws I7 J) mw_X4_clear mv_X4_clear ml_X0_74 hpb.laws.o dX0_clear_55 rfl rfl (roomOk rfl) rfl) rfl rfl ?_
    intro I8
    exact T_vret hok dX0_clear_58 (Nat.zero_le _) (Nat.zero_le _) rfl
  intro j51 hj51
  refine T_sub (lv' := [(0, .ref (b + pb)), (1, .int (0 : Int32))]) [1, 0] rfl ?_
  refine T_fix2 _ (fun (x9 : Int32) (I10 : MI) => [(0, .ref (b + pb)), (1, .int x9)]) (fun (x9 : Int32) (I10 : MI) => Rg G b L R I10 J) ?_ FU (0 : Int32) I6
  intro r32 hr32 x9 I10
  refine T_iload_n hok 1 rfl rfl dX0_clear_32 ?_
  refine T_bipush hok bp_100 dX0_clear_33 ?_
  refine T_icmp_ge (tgt := 51) hok dX0_clear_35 rfl ?_ ?_
  · refine T_sub (lv' := [(0, .ref (b + pb))]) [0] rfl ?_
    exact hj51 I10
  refine T_aload_n hok 0 rfl rfl dX0_clear_38 ?_
  refine T_getR hok fr_X0_39 hpb.o hpb.r9 dX0_clear_39 ?_
  refine T_iload_n hok 1 rfl rfl dX0_clear_42 ?_
  refine T_iconst hok ic_m1 dX0_clear_43 ?_
  refine T_iast hok hA hpb.l9 dX0_clear_44 ?_
  intro I11
  refine T_iinc (lvs := fun x12 => [(1, .int x12), (0, .ref (b + pb))]) hok 1 rfl ic_1 (by decide) (fun _ => rfl) dX0_clear_45 ?_
  intro x12
  refine T_goto (tgt := 32) hok dX0_clear_48 rfl ?_
  refine T_sub (lv' := [(0, .ref (b + pb)), (1, .int x12)]) [1, 0] rfl ?_
  exact hr32 x12 I11

set_option maxHeartbeats 4000000 in
set_option maxRecDepth 100000 in
theorem ct_X0_settle {G : Gx} {l0 : Launch} {A : Nat → Prop} {b : Nat} {L : List Kd} {R : MR} {pb : Nat} (hA : ∀ k, k < L.length → A (b + k)) (hpb : BookAt b L R pb) (I : MI) (J : MJ) : Ct G l0 A yX0_settle cX0_settle 2 none { frames := 0, cells := 0, slots := 0, locals := 0 } [.ref (b + pb)] (Rg G b L R I J) (iv1 (fun (I' : MI) => Rg G b L R I' J)) (f_X0_settle I pb) := by
  refine Ct.of rfl (Nat.le_of_ble_eq_true rfl) ?_
  intro X hok
  replace hok : Ok G l0 X RX0 cX0_settle 2 { frames := 0, cells := 0, slots := 0, locals := 0 } none := hok
  delta f_X0_settle
  show T X A (Zm X A (iv1 (fun (I' : MI) => Rg G b L R I' J))) 2 0 0 0 [(0, .ref (b + pb))] [] (Rg G b L R I J) _
  refine T_aload_n hok 0 rfl rfl dX0_settle_0 ?_
  refine T_getI hok fr_X0_68 hpb.o dX0_settle_1 ?_
  refine T_iconst hok ic_m1 dX0_settle_4 ?_
  refine T_jp _ (fun (j14 : MI → Option (MI)) => ∀ (I1 : MI), T X A (Zm X A (iv1 (fun (I' : MI) => Rg G b L R I' J))) 2 0 0 14 [(0, .ref (b + pb))] [] (Rg G b L R I1 J) (j14 I1)) _ ?_ ?_
  · intro I1
    refine T_aload_n hok 0 rfl rfl dX0_settle_14 ?_
    refine T_getI hok fr_X0_71 hpb.o dX0_settle_15 ?_
    refine T_iconst hok ic_m1 dX0_settle_18 ?_
    refine T_jp _ (fun (j27 : MI → Option (MI)) => ∀ (I2 : MI), T X A (Zm X A (iv1 (fun (I' : MI) => Rg G b L R I' J))) 2 0 0 27 [(0, .ref (b + pb))] [] (Rg G b L R I2 J) (j27 I2)) _ ?_ ?_
    · intro I2
      refine T_aload_n hok 0 rfl rfl dX0_settle_27 ?_
      refine T_iconst hok ic_0 dX0_settle_28 ?_
      refine T_putI hok hA fr_X0_75 rfl rfl hpb.o dX0_settle_29 ?_
      intro I3
      refine T_aload_n hok 0 rfl rfl dX0_settle_32 ?_
      refine T_iconst hok ic_0 dX0_settle_33 ?_
      refine T_putI hok hA fr_X0_78 rfl rfl hpb.o dX0_settle_34 ?_
      intro I4
      refine T_aload_n hok 0 rfl rfl dX0_settle_37 ?_
      refine T_iconst hok ic_m1 dX0_settle_38 ?_
      refine T_putI hok hA fr_X0_81 rfl rfl hpb.o dX0_settle_39 ?_
      intro I5
      refine T_iconst hok ic_0 dX0_settle_42 ?_
      refine T_istore_n (lv' := [(1, .int (0 : Int32)), (0, .ref (b + pb))]) hok rfl (by decide) rfl dX0_settle_43 ?_
      refine T_sub (lv' := [(0, .ref (b + pb)), (1, .int (0 : Int32))]) [1, 0] rfl ?_
      refine T_fix2 _ (fun (x6 : Int32) (I7 : MI) => [(0, .ref (b + pb)), (1, .int x6)]) (fun (x6 : Int32) (I7 : MI) => Rg G b L R I7 J) ?_ FU (0 : Int32) I5
      intro r44 hr44 x6 I7
      refine T_iload_n hok 1 rfl rfl dX0_settle_44 ?_
      refine T_aload_n hok 0 rfl rfl dX0_settle_45 ?_
      refine T_getI hok fr_X0_55 hpb.o dX0_settle_46 ?_
      refine T_icmp_ge (tgt := 123) hok dX0_settle_49 rfl ?_ ?_
      · exact T_vret hok dX0_settle_123 (Nat.zero_le _) (Nat.zero_le _) rfl
      refine T_aload_n hok 0 rfl rfl dX0_settle_52 ?_
      refine T_getR hok fr_X0_18 hpb.o hpb.r2 dX0_settle_53 ?_
      refine T_iload_n hok 1 rfl rfl dX0_settle_56 ?_
      refine T_iald hok hpb.l2 dX0_settle_57 ?_
      refine T_jp _ (fun (j117 : MI → Option (MI)) => ∀ (I8 : MI), T X A (Zm X A (iv1 (fun (I' : MI) => Rg G b L R I' J))) 2 0 0 117 [(0, .ref (b + pb)), (1, .int x6)] [] (Rg G b L R I8 J) (j117 I8)) _ ?_ ?_
      · intro I8
        refine T_iinc (lvs := fun x9 => [(1, .int x9), (0, .ref (b + pb))]) hok 1 rfl ic_1 (by decide) (fun _ => rfl) dX0_settle_117 ?_
        intro x9
        refine T_goto (tgt := 44) hok dX0_settle_120 rfl ?_
        refine T_sub (lv' := [(0, .ref (b + pb)), (1, .int x9)]) [1, 0] rfl ?_
        exact hr44 x9 I8
      intro j117 hj117
      refine T_if_le (tgt := 117) hok dX0_settle_58 rfl ?_ ?_
      · exact hj117 I7
      refine T_aload_n hok 0 rfl rfl dX0_settle_61 ?_
      refine T_dup hok rfl dX0_settle_62 ?_
      refine T_getI hok fr_X0_75 hpb.o dX0_settle_63 ?_
      refine T_aload_n hok 0 rfl rfl dX0_settle_66 ?_
      refine T_getR hok fr_X0_18 hpb.o hpb.r2 dX0_settle_67 ?_
      refine T_iload_n hok 1 rfl rfl dX0_settle_70 ?_
      refine T_iald hok hpb.l2 dX0_settle_71 ?_
      refine T_iadd hok dX0_settle_72 ?_
      refine T_putI hok hA fr_X0_75 rfl rfl hpb.o dX0_settle_73 ?_
      intro I10
      refine T_aload_n hok 0 rfl rfl dX0_settle_76 ?_
      refine T_dup hok rfl dX0_settle_77 ?_
      refine T_getI hok fr_X0_78 hpb.o dX0_settle_78 ?_
      refine T_iconst hok ic_1 dX0_settle_81 ?_
      refine T_iadd hok dX0_settle_82 ?_
      refine T_putI hok hA fr_X0_78 rfl rfl hpb.o dX0_settle_83 ?_
      intro I11
      refine T_aload_n hok 0 rfl rfl dX0_settle_86 ?_
      refine T_getI hok fr_X0_81 hpb.o dX0_settle_87 ?_
      refine T_iconst hok ic_m1 dX0_settle_90 ?_
      refine T_jp _ (fun (j112 : Option (MI)) => T X A (Zm X A (iv1 (fun (I' : MI) => Rg G b L R I' J))) 2 0 0 112 [(0, .ref (b + pb)), (1, .int x6)] [] (Rg G b L R I11 J) (j112)) _ ?_ ?_
      · skip
        refine T_aload_n hok 0 rfl rfl dX0_settle_112 ?_
        refine T_iload_n hok 1 rfl rfl dX0_settle_113 ?_
        refine T_putI hok hA fr_X0_81 rfl rfl hpb.o dX0_settle_114 ?_
        intro I12
        exact hj117 I12
      intro j112 hj112
      refine T_icmp_eq (tgt := 112) hok dX0_settle_91 rfl ?_ ?_
      · exact hj112
      refine T_aload_n hok 0 rfl rfl dX0_settle_94 ?_
      refine T_getR hok fr_X0_18 hpb.o hpb.r2 dX0_settle_95 ?_
      refine T_iload_n hok 1 rfl rfl dX0_settle_98 ?_
      refine T_iald hok hpb.l2 dX0_settle_99 ?_
      refine T_aload_n hok 0 rfl rfl dX0_settle_100 ?_
      refine T_getR hok fr_X0_18 hpb.o hpb.r2 dX0_settle_101 ?_
      refine T_aload_n hok 0 rfl rfl dX0_settle_104 ?_
      refine T_getI hok fr_X0_81 hpb.o dX0_settle_105 ?_
      refine T_iald hok hpb.l2 dX0_settle_108 ?_
      refine T_icmp_le (tgt := 117) hok dX0_settle_109 rfl ?_ ?_
      · exact hj117 I11
      exact hj112
    intro j27 hj27
    refine T_icmp_ne (tgt := 27) hok dX0_settle_19 rfl ?_ ?_
    · refine T_aload_n hok 0 rfl rfl dX0_settle_22 ?_
      refine T_iconst hok ic_0 dX0_settle_23 ?_
      refine T_putI hok hA fr_X0_71 rfl rfl hpb.o dX0_settle_24 ?_
      intro I13
      exact hj27 I13
    exact hj27 I1
  intro j14 hj14
  refine T_icmp_ne (tgt := 14) hok dX0_settle_5 rfl ?_ ?_
  · refine T_aload_n hok 0 rfl rfl dX0_settle_8 ?_
    refine T_bipush hok bp_30 dX0_settle_9 ?_
    refine T_putI hok hA fr_X0_68 rfl rfl hpb.o dX0_settle_11 ?_
    intro I14
    exact hj14 I14
  exact hj14 I

set_option maxHeartbeats 4000000 in
set_option maxRecDepth 100000 in
theorem ct_X0_placeOf {G : Gx} {l0 : Launch} {A : Nat → Prop} {b : Nat} {L : List Kd} {R : MR} {pa na : Nat} (hA : ∀ k, k < L.length → A (b + k)) (hpa : L[pa]? = some (.inr (0, na))) (I : MI) (J : MJ) (a1 : Int32) (a3 : Int32) : Ct G l0 A yX0_placeOf cX0_placeOf 4 (some .int) { frames := 0, cells := 0, slots := 0, locals := 0 } [.int a1, .ref (b + pa), .int a3] (Rg G b L R I J) (ii0 (Rg G b L R I J)) (f_X0_placeOf I a1 pa na a3) := by
  refine Ct.of rfl (Nat.le_of_ble_eq_true rfl) ?_
  intro X hok
  replace hok : Ok G l0 X RX0 cX0_placeOf 4 { frames := 0, cells := 0, slots := 0, locals := 0 } (some .int) := hok
  delta f_X0_placeOf
  show T X A (Zm X A (ii0 (Rg G b L R I J))) 4 0 0 0 [(0, .int a1), (1, .ref (b + pa)), (2, .int a3)] [] (Rg G b L R I J) _
  refine T_iconst hok ic_0 dX0_placeOf_0 ?_
  refine T_istore_n (lv' := [(3, .int (0 : Int32)), (0, .int a1), (1, .ref (b + pa)), (2, .int a3)]) hok rfl (by decide) rfl dX0_placeOf_1 ?_
  refine T_jp _ (fun (j28 : Option (Int32)) => T X A (Zm X A (ii0 (Rg G b L R I J))) 4 0 0 28 [] [] (Rg G b L R I J) (j28)) _ ?_ ?_
  · skip
    refine T_iconst hok ic_m1 dX0_placeOf_28 ?_
    exact T_iret hok dX0_placeOf_29 (Nat.zero_le _) (Nat.zero_le _) rfl
  intro j28 hj28
  refine T_sub (lv' := [(0, .int a1), (1, .ref (b + pa)), (2, .int a3), (3, .int (0 : Int32))]) [1, 2, 3, 0] rfl ?_
  refine T_fix1 _ (fun (x1 : Int32) => [(0, .int a1), (1, .ref (b + pa)), (2, .int a3), (3, .int x1)]) (fun (x1 : Int32) => Rg G b L R I J) ?_ FU (0 : Int32)
  intro r2 hr2 x1
  refine T_iload_n hok 3 rfl rfl dX0_placeOf_2 ?_
  refine T_iload_n hok 2 rfl rfl dX0_placeOf_3 ?_
  refine T_icmp_ge (tgt := 28) hok dX0_placeOf_4 rfl ?_ ?_
  · refine T_sub (lv' := []) [] rfl ?_
    exact hj28
  refine T_iload_n hok 3 rfl rfl dX0_placeOf_7 ?_
  refine T_aload_n hok 1 rfl rfl dX0_placeOf_8 ?_
  refine T_alen (v := Int32.ofNat na) hok (by decide) hpa rfl dX0_placeOf_9 ?_
  refine T_icmp_ge (tgt := 28) hok dX0_placeOf_10 rfl ?_ ?_
  · refine T_sub (lv' := []) [] rfl ?_
    exact hj28
  refine T_aload_n hok 1 rfl rfl dX0_placeOf_13 ?_
  refine T_iload_n hok 3 rfl rfl dX0_placeOf_14 ?_
  refine T_iald hok hpa dX0_placeOf_15 ?_
  refine T_iload_n hok 0 rfl rfl dX0_placeOf_16 ?_
  refine T_icmp_ne (tgt := 22) hok dX0_placeOf_17 rfl ?_ ?_
  · refine T_iload_n hok 3 rfl rfl dX0_placeOf_20 ?_
    exact T_iret hok dX0_placeOf_21 (Nat.zero_le _) (Nat.zero_le _) rfl
  refine T_iinc (lvs := fun x2 => [(3, .int x2), (0, .int a1), (1, .ref (b + pa)), (2, .int a3)]) hok 3 rfl ic_1 (by decide) (fun _ => rfl) dX0_placeOf_22 ?_
  intro x2
  refine T_goto (tgt := 2) hok dX0_placeOf_25 rfl ?_
  refine T_sub (lv' := [(0, .int a1), (1, .ref (b + pa)), (2, .int a3), (3, .int x2)]) [1, 2, 3, 0] rfl ?_
  exact hr2 x2

set_option maxHeartbeats 4000000 in
set_option maxRecDepth 100000 in
theorem ct_X0_kindNamed {G : Gx} {l0 : Launch} {A : Nat → Prop} {b : Nat} {L : List Kd} {R : MR} {pb : Nat} (hA : ∀ k, k < L.length → A (b + k)) (hpb : BookAt b L R pb) (I : MI) (J : MJ) (a1 : Int32) : Ct G l0 A yX0_kindNamed cX0_kindNamed 2 (some .int) { frames := 1, cells := 0, slots := 0, locals := 23 } [.ref (b + pb), .int a1] (Rg G b L R I J) (ii0 (Rg G b L R I J)) (f_X0_kindNamed I pb a1) := by
  refine Ct.of rfl (Nat.le_of_ble_eq_true rfl) ?_
  intro X hok
  replace hok : Ok G l0 X RX0 cX0_kindNamed 2 { frames := 1, cells := 0, slots := 0, locals := 23 } (some .int) := hok
  delta f_X0_kindNamed
  show T X A (Zm X A (ii0 (Rg G b L R I J))) 2 0 0 0 [(0, .ref (b + pb)), (1, .int a1)] [] (Rg G b L R I J) _
  refine T_iload_n hok 1 rfl rfl dX0_kindNamed_0 ?_
  refine T_aload_n hok 0 rfl rfl dX0_kindNamed_1 ?_
  refine T_getR hok fr_X0_9 hpb.o hpb.r0 dX0_kindNamed_2 ?_
  refine T_aload_n hok 0 rfl rfl dX0_kindNamed_5 ?_
  refine T_getI hok fr_X0_55 hpb.o dX0_kindNamed_6 ?_
  refine T_ci0 (CR_S (rest := []) hok (ct_X0_placeOf hA hpb.l0 I J a1 (I pb 11)) mw_X0_placeOf mst_X0_placeOf ml_X0_84 dX0_kindNamed_9 rfl rfl (roomOk rfl) rfl) rfl rfl ?_
  intro x1
  exact T_iret hok dX0_kindNamed_12 (Nat.zero_le _) (Nat.zero_le _) rfl

set_option maxHeartbeats 4000000 in
set_option maxRecDepth 100000 in
theorem ct_X0_houseNamed {G : Gx} {l0 : Launch} {A : Nat → Prop} {b : Nat} {L : List Kd} {R : MR} {pb : Nat} (hA : ∀ k, k < L.length → A (b + k)) (hpb : BookAt b L R pb) (I : MI) (J : MJ) (a1 : Int32) : Ct G l0 A yX0_houseNamed cX0_houseNamed 2 (some .int) { frames := 1, cells := 0, slots := 0, locals := 23 } [.ref (b + pb), .int a1] (Rg G b L R I J) (ii0 (Rg G b L R I J)) (f_X0_houseNamed I pb a1) := by
  refine Ct.of rfl (Nat.le_of_ble_eq_true rfl) ?_
  intro X hok
  replace hok : Ok G l0 X RX0 cX0_houseNamed 2 { frames := 1, cells := 0, slots := 0, locals := 23 } (some .int) := hok
  delta f_X0_houseNamed
  show T X A (Zm X A (ii0 (Rg G b L R I J))) 2 0 0 0 [(0, .ref (b + pb)), (1, .int a1)] [] (Rg G b L R I J) _
  refine T_iload_n hok 1 rfl rfl dX0_houseNamed_0 ?_
  refine T_aload_n hok 0 rfl rfl dX0_houseNamed_1 ?_
  refine T_getR hok fr_X0_21 hpb.o hpb.r3 dX0_houseNamed_2 ?_
  refine T_aload_n hok 0 rfl rfl dX0_houseNamed_5 ?_
  refine T_getI hok fr_X0_59 hpb.o dX0_houseNamed_6 ?_
  refine T_ci0 (CR_S (rest := []) hok (ct_X0_placeOf hA hpb.l3 I J a1 (I pb 12)) mw_X0_placeOf mst_X0_placeOf ml_X0_84 dX0_houseNamed_9 rfl rfl (roomOk rfl) rfl) rfl rfl ?_
  intro x1
  exact T_iret hok dX0_houseNamed_12 (Nat.zero_le _) (Nat.zero_le _) rfl

set_option maxHeartbeats 4000000 in
set_option maxRecDepth 100000 in
theorem ct_X10_isWithin {G : Gx} {l0 : Launch} {A : Nat → Prop} {Wd : Heap → Prop} (a1 : Int32) (a2 : Int32) (a3 : Int32) : Ct G l0 A yX10_isWithin cX10_isWithin 3 (some .boolean) { frames := 0, cells := 0, slots := 0, locals := 0 } [.int a1, .int a2, .int a3] (Wd) (iz0 (Wd)) (f_X10_isWithin a1 a2 a3) := by
  refine Ct.of rfl (Nat.le_of_ble_eq_true rfl) ?_
  intro X hok
  replace hok : Ok G l0 X RX10 cX10_isWithin 3 { frames := 0, cells := 0, slots := 0, locals := 0 } (some .boolean) := hok
  delta f_X10_isWithin
  show T X A (Zm X A (iz0 (Wd))) 3 0 0 0 [(0, .int a1), (1, .int a2), (2, .int a3)] [] (Wd) _
  refine T_iload_n hok 0 rfl rfl dX10_isWithin_0 ?_
  refine T_iload_n hok 1 rfl rfl dX10_isWithin_1 ?_
  refine T_jp _ (fun (j15 : Bool → Option (Bool)) => ∀ (x1 : Bool), T X A (Zm X A (iz0 (Wd))) 3 0 0 15 [] [.int (bi x1)] (Wd) (j15 x1)) _ ?_ ?_
  · intro x1
    exact T_zret hok dX10_isWithin_15 (Nat.zero_le _) (Nat.zero_le _) (bi_01 _) rfl
  intro j15 hj15
  refine T_jp _ (fun (j14 : Option (Bool)) => T X A (Zm X A (iz0 (Wd))) 3 0 0 14 [] [] (Wd) (j14)) _ ?_ ?_
  · skip
    refine T_iconst hok ic_0 dX10_isWithin_14 ?_
    exact hj15 false
  intro j14 hj14
  refine T_icmp_lt (tgt := 14) hok dX10_isWithin_2 rfl ?_ ?_
  · refine T_sub (lv' := []) [] rfl ?_
    exact hj14
  refine T_iload_n hok 0 rfl rfl dX10_isWithin_5 ?_
  refine T_iload_n hok 2 rfl rfl dX10_isWithin_6 ?_
  refine T_icmp_gt (tgt := 14) hok dX10_isWithin_7 rfl ?_ ?_
  · refine T_sub (lv' := []) [] rfl ?_
    exact hj14
  refine T_iconst hok ic_1 dX10_isWithin_10 ?_
  refine T_goto (tgt := 15) hok dX10_isWithin_11 rfl ?_
  refine T_sub (lv' := []) [] rfl ?_
  exact hj15 true

set_option maxHeartbeats 4000000 in
set_option maxRecDepth 100000 in
theorem ct_X10_isToldDay {G : Gx} {l0 : Launch} {A : Nat → Prop} {Wd : Heap → Prop} (a1 : Int32) : Ct G l0 A yX10_isToldDay cX10_isToldDay 1 (some .boolean) { frames := 1, cells := 0, slots := 0, locals := 22 } [.int a1] (Wd) (iz0 (Wd)) (f_X10_isToldDay a1) := by
  refine Ct.of rfl (Nat.le_of_ble_eq_true rfl) ?_
  intro X hok
  replace hok : Ok G l0 X RX10 cX10_isToldDay 1 { frames := 1, cells := 0, slots := 0, locals := 22 } (some .boolean) := hok
  delta f_X10_isToldDay
  show T X A (Zm X A (iz0 (Wd))) 1 0 0 0 [(0, .int a1)] [] (Wd) _
  refine T_iload_n hok 0 rfl rfl dX10_isToldDay_0 ?_
  refine T_iconst hok ic_0 dX10_isToldDay_1 ?_
  refine T_bipush hok bp_99 dX10_isToldDay_2 ?_
  refine T_cz0 (CR_S (rest := []) hok (ct_X10_isWithin a1 (0 : Int32) (99 : Int32)) mw_X10_isWithin mst_X10_isWithin ml_X10_173 dX10_isToldDay_4 rfl rfl (roomOk rfl) rfl) rfl rfl ?_
  intro x1
  exact T_zret hok dX10_isToldDay_7 (Nat.zero_le _) (Nat.zero_le _) (bi_01 _) rfl

set_option maxHeartbeats 4000000 in
set_option maxRecDepth 100000 in
theorem ct_X0_kindTold {G : Gx} {l0 : Launch} {A : Nat → Prop} {b : Nat} {L : List Kd} {R : MR} {pb : Nat} (hA : ∀ k, k < L.length → A (b + k)) (hpb : BookAt b L R pb) (I : MI) (J : MJ) (a1 : Int32) : Ct G l0 A yX0_kindTold cX0_kindTold 2 (some .int) { frames := 2, cells := 0, slots := 0, locals := 42 } [.ref (b + pb), .int a1] (Rg G b L R I J) (ii0 (Rg G b L R I J)) (f_X0_kindTold I pb a1) := by
  refine Ct.of rfl (Nat.le_of_ble_eq_true rfl) ?_
  intro X hok
  replace hok : Ok G l0 X RX0 cX0_kindTold 2 { frames := 2, cells := 0, slots := 0, locals := 42 } (some .int) := hok
  delta f_X0_kindTold
  show T X A (Zm X A (ii0 (Rg G b L R I J))) 2 0 0 0 [(0, .ref (b + pb)), (1, .int a1)] [] (Rg G b L R I J) _
  refine T_iload_n hok 1 rfl rfl dX0_kindTold_0 ?_
  refine T_cz0 (CR_SN (rest := []) hok (ct_X10_isToldDay a1) mw_X10_isToldDay mst_X10_isToldDay ml_X0_88 dX0_kindTold_1 rfl rfl (roomOk rfl) rfl) rfl rfl ?_
  intro x1
  refine T_jp _ (fun (j17 : Int32 → Option (Int32)) => ∀ (x2 : Int32), T X A (Zm X A (ii0 (Rg G b L R I J))) 2 0 0 17 [] [.int x2] (Rg G b L R I J) (j17 x2)) _ ?_ ?_
  · intro x2
    exact T_iret hok dX0_kindTold_17 (Nat.zero_le _) (Nat.zero_le _) rfl
  intro j17 hj17
  refine T_ifb_eq (tgt := 16) hok dX0_kindTold_4 rfl ?_ ?_
  · refine T_aload_n hok 0 rfl rfl dX0_kindTold_7 ?_
    refine T_getR hok fr_X0_39 hpb.o hpb.r9 dX0_kindTold_8 ?_
    refine T_iload_n hok 1 rfl rfl dX0_kindTold_11 ?_
    refine T_iald hok hpb.l9 dX0_kindTold_12 ?_
    refine T_goto (tgt := 17) hok dX0_kindTold_13 rfl ?_
    refine T_sub (lv' := []) [] rfl ?_
    exact hj17 (I (pb + 10) (ix a1))
  refine T_iconst hok ic_m1 dX0_kindTold_16 ?_
  refine T_sub (lv' := []) [] rfl ?_
  exact hj17 (-1 : Int32)

set_option maxHeartbeats 4000000 in
set_option maxRecDepth 100000 in
theorem ct_X0_kindAsItGoes {G : Gx} {l0 : Launch} {A : Nat → Prop} {b : Nat} {L : List Kd} {R : MR} {pb : Nat} (hA : ∀ k, k < L.length → A (b + k)) (hpb : BookAt b L R pb) (I : MI) (J : MJ) (a1 : Int32) : Ct G l0 A yX0_kindAsItGoes cX0_kindAsItGoes 3 (some .int) { frames := 3, cells := 0, slots := 0, locals := 63 } [.ref (b + pb), .int a1] (Rg G b L R I J) (ii0 (Rg G b L R I J)) (f_X0_kindAsItGoes I pb a1) := by
  refine Ct.of rfl (Nat.le_of_ble_eq_true rfl) ?_
  intro X hok
  replace hok : Ok G l0 X RX0 cX0_kindAsItGoes 3 { frames := 3, cells := 0, slots := 0, locals := 63 } (some .int) := hok
  delta f_X0_kindAsItGoes
  show T X A (Zm X A (ii0 (Rg G b L R I J))) 3 0 0 0 [(0, .ref (b + pb)), (1, .int a1)] [] (Rg G b L R I J) _
  refine T_aload_n hok 0 rfl rfl dX0_kindAsItGoes_0 ?_
  refine T_iload_n hok 1 rfl rfl dX0_kindAsItGoes_1 ?_
  refine T_ci0 (CR_V (rest := []) hok (ct_X0_kindTold hA hpb I J a1) mw_X0_kindTold mv_X0_kindTold ml_X0_92 hpb.o dX0_kindAsItGoes_2 rfl rfl (roomOk rfl) rfl) rfl rfl ?_
  intro x1
  refine T_istore_n (lv' := [(2, .int x1), (0, .ref (b + pb)), (1, .int a1)]) hok rfl (by decide) rfl dX0_kindAsItGoes_5 ?_
  refine T_iload_n hok 0 rfl rfl dX0_kindAsItGoes_6 ?_
  refine T_iconst hok ic_m1 dX0_kindAsItGoes_7 ?_
  refine T_jp _ (fun (j19 : Int32 → Option (Int32)) => ∀ (x2 : Int32), T X A (Zm X A (ii0 (Rg G b L R I J))) 3 0 0 19 [] [.int x2] (Rg G b L R I J) (j19 x2)) _ ?_ ?_
  · intro x2
    exact T_iret hok dX0_kindAsItGoes_19 (Nat.zero_le _) (Nat.zero_le _) rfl
  intro j19 hj19
  refine T_icmp_ne (tgt := 18) hok dX0_kindAsItGoes_8 rfl ?_ ?_
  · refine T_aload_n hok 1 rfl rfl dX0_kindAsItGoes_11 ?_
    refine T_getI hok fr_X0_81 hpb.o dX0_kindAsItGoes_12 ?_
    refine T_goto (tgt := 19) hok dX0_kindAsItGoes_15 rfl ?_
    refine T_sub (lv' := []) [] rfl ?_
    exact hj19 (I pb 19)
  refine T_iload_n hok 0 rfl rfl dX0_kindAsItGoes_18 ?_
  refine T_sub (lv' := []) [] rfl ?_
  exact hj19 x1

set_option maxHeartbeats 4000000 in
set_option maxRecDepth 100000 in
theorem ct_X0_kindByNumber {G : Gx} {l0 : Launch} {A : Nat → Prop} {b : Nat} {L : List Kd} {R : MR} {pb : Nat} (hA : ∀ k, k < L.length → A (b + k)) (hpb : BookAt b L R pb) (I : MI) (J : MJ) (a1 : Int32) : Ct G l0 A yX0_kindByNumber cX0_kindByNumber 4 (some .int) { frames := 0, cells := 0, slots := 0, locals := 0 } [.ref (b + pb), .int a1] (Rg G b L R I J) (ii0 (Rg G b L R I J)) (f_X0_kindByNumber I pb a1) := by
  refine Ct.of rfl (Nat.le_of_ble_eq_true rfl) ?_
  intro X hok
  replace hok : Ok G l0 X RX0 cX0_kindByNumber 4 { frames := 0, cells := 0, slots := 0, locals := 0 } (some .int) := hok
  delta f_X0_kindByNumber
  show T X A (Zm X A (ii0 (Rg G b L R I J))) 4 0 0 0 [(0, .ref (b + pb)), (1, .int a1)] [] (Rg G b L R I J) _
  refine T_aload_n hok 0 rfl rfl dX0_kindByNumber_0 ?_
  refine T_getI hok fr_X0_75 hpb.o dX0_kindByNumber_1 ?_
  refine T_if_gt (tgt := 9) hok dX0_kindByNumber_4 rfl ?_ ?_
  · refine T_iload_n hok 1 rfl rfl dX0_kindByNumber_9 ?_
    refine T_aload_n hok 0 rfl rfl dX0_kindByNumber_10 ?_
    refine T_getI hok fr_X0_75 hpb.o dX0_kindByNumber_11 ?_
    refine T_irem hok dX0_kindByNumber_14 ?_
    refine T_lti ?_
    intro x1
    refine T_istore_n (lv' := [(2, .int x1), (0, .ref (b + pb)), (1, .int a1)]) hok rfl (by decide) rfl dX0_kindByNumber_15 ?_
    refine T_iconst hok ic_0 dX0_kindByNumber_16 ?_
    refine T_istore_n (lv' := [(3, .int (0 : Int32)), (2, .int x1), (0, .ref (b + pb)), (1, .int a1)]) hok rfl (by decide) rfl dX0_kindByNumber_17 ?_
    refine T_sub (lv' := [(0, .ref (b + pb)), (2, .int x1), (3, .int (0 : Int32))]) [2, 1, 0] rfl ?_
    refine T_fix2 _ (fun (x2 : Int32) (x3 : Int32) => [(0, .ref (b + pb)), (2, .int x2), (3, .int x3)]) (fun (x2 : Int32) (x3 : Int32) => Rg G b L R I J) ?_ FU x1 (0 : Int32)
    intro r18 hr18 x2 x3
    refine T_iload_n hok 2 rfl rfl dX0_kindByNumber_18 ?_
    refine T_aload_n hok 0 rfl rfl dX0_kindByNumber_19 ?_
    refine T_getI hok fr_X0_55 hpb.o dX0_kindByNumber_20 ?_
    refine T_icmp_ge (tgt := 47) hok dX0_kindByNumber_23 rfl ?_ ?_
    · refine T_iconst hok ic_m1 dX0_kindByNumber_47 ?_
      exact T_iret hok dX0_kindByNumber_48 (Nat.zero_le _) (Nat.zero_le _) rfl
    refine T_iload_n hok 1 rfl rfl dX0_kindByNumber_26 ?_
    refine T_aload_n hok 0 rfl rfl dX0_kindByNumber_27 ?_
    refine T_getR hok fr_X0_18 hpb.o hpb.r2 dX0_kindByNumber_28 ?_
    refine T_iload_n hok 2 rfl rfl dX0_kindByNumber_31 ?_
    refine T_iald hok hpb.l2 dX0_kindByNumber_32 ?_
    refine T_isub hok dX0_kindByNumber_33 ?_
    refine T_lti ?_
    intro x4
    refine T_istore_n (lv' := [(2, .int x4), (0, .ref (b + pb)), (3, .int x3)]) hok rfl (by decide) rfl dX0_kindByNumber_34 ?_
    refine T_iload_n hok 0 rfl rfl dX0_kindByNumber_35 ?_
    refine T_if_ge (tgt := 41) hok dX0_kindByNumber_36 rfl ?_ ?_
    · refine T_iinc (lvs := fun x5 => [(3, .int x5), (2, .int x4), (0, .ref (b + pb))]) hok 2 rfl ic_1 (by decide) (fun _ => rfl) dX0_kindByNumber_41 ?_
      intro x5
      refine T_goto (tgt := 18) hok dX0_kindByNumber_44 rfl ?_
      refine T_sub (lv' := [(0, .ref (b + pb)), (2, .int x4), (3, .int x5)]) [2, 1, 0] rfl ?_
      exact hr18 x4 x5
    refine T_iload_n hok 2 rfl rfl dX0_kindByNumber_39 ?_
    exact T_iret hok dX0_kindByNumber_40 (Nat.zero_le _) (Nat.zero_le _) rfl
  refine T_iconst hok ic_m1 dX0_kindByNumber_7 ?_
  exact T_iret hok dX0_kindByNumber_8 (Nat.zero_le _) (Nat.zero_le _) rfl

set_option maxHeartbeats 4000000 in
set_option maxRecDepth 100000 in
theorem ct_X0_alone {G : Gx} {l0 : Launch} {A : Nat → Prop} {b : Nat} {L : List Kd} {R : MR} {pb : Nat} (hA : ∀ k, k < L.length → A (b + k)) (hpb : BookAt b L R pb) (I : MI) (J : MJ) (a1 : Int32) (a2 : Int32) : Ct G l0 A yX0_alone cX0_alone 3 (some .int) { frames := 0, cells := 0, slots := 0, locals := 0 } [.ref (b + pb), .int a1, .int a2] (Rg G b L R I J) (ii0 (Rg G b L R I J)) (f_X0_alone I pb a1 a2) := by
  refine Ct.of rfl (Nat.le_of_ble_eq_true rfl) ?_
  intro X hok
  replace hok : Ok G l0 X RX0 cX0_alone 3 { frames := 0, cells := 0, slots := 0, locals := 0 } (some .int) := hok
  delta f_X0_alone
  show T X A (Zm X A (ii0 (Rg G b L R I J))) 3 0 0 0 [(0, .ref (b + pb)), (1, .int a1), (2, .int a2)] [] (Rg G b L R I J) _
  refine T_aload_n hok 0 rfl rfl dX0_alone_0 ?_
  refine T_getR hok fr_X0_15 hpb.o hpb.r1 dX0_alone_1 ?_
  refine T_iload_n hok 2 rfl rfl dX0_alone_4 ?_
  refine T_iald hok hpb.l1 dX0_alone_5 ?_
  refine T_aload_n hok 0 rfl rfl dX0_alone_6 ?_
  refine T_getR hok fr_X0_27 hpb.o hpb.r5 dX0_alone_7 ?_
  refine T_iload_n hok 1 rfl rfl dX0_alone_10 ?_
  refine T_iald hok hpb.l5 dX0_alone_11 ?_
  refine T_imul hok dX0_alone_12 ?_
  exact T_iret hok dX0_alone_13 (Nat.zero_le _) (Nat.zero_le _) rfl

set_option maxHeartbeats 4000000 in
set_option maxRecDepth 100000 in
theorem ct_X0_daysToTerm {G : Gx} {l0 : Launch} {A : Nat → Prop} {b : Nat} {L : List Kd} {R : MR} {pb : Nat} (hA : ∀ k, k < L.length → A (b + k)) (hpb : BookAt b L R pb) (I : MI) (J : MJ) (a1 : Int32) : Ct G l0 A yX0_daysToTerm cX0_daysToTerm 2 (some .int) { frames := 0, cells := 0, slots := 0, locals := 0 } [.ref (b + pb), .int a1] (Rg G b L R I J) (ii0 (Rg G b L R I J)) (f_X0_daysToTerm I pb a1) := by
  refine Ct.of rfl (Nat.le_of_ble_eq_true rfl) ?_
  intro X hok
  replace hok : Ok G l0 X RX0 cX0_daysToTerm 2 { frames := 0, cells := 0, slots := 0, locals := 0 } (some .int) := hok
  delta f_X0_daysToTerm
  show T X A (Zm X A (ii0 (Rg G b L R I J))) 2 0 0 0 [(0, .ref (b + pb)), (1, .int a1)] [] (Rg G b L R I J) _
  refine T_aload_n hok 0 rfl rfl dX0_daysToTerm_0 ?_
  refine T_getI hok fr_X0_68 hpb.o dX0_daysToTerm_1 ?_
  refine T_jp _ (fun (j22 : Int32 → Option (Int32)) => ∀ (x1 : Int32), T X A (Zm X A (ii0 (Rg G b L R I J))) 2 0 0 22 [] [.int x1] (Rg G b L R I J) (j22 x1)) _ ?_ ?_
  · intro x1
    exact T_iret hok dX0_daysToTerm_22 (Nat.zero_le _) (Nat.zero_le _) rfl
  intro j22 hj22
  refine T_if_le (tgt := 21) hok dX0_daysToTerm_4 rfl ?_ ?_
  · refine T_iconst hok ic_1 dX0_daysToTerm_21 ?_
    refine T_sub (lv' := []) [] rfl ?_
    exact hj22 (1 : Int32)
  refine T_aload_n hok 0 rfl rfl dX0_daysToTerm_7 ?_
  refine T_getI hok fr_X0_68 hpb.o dX0_daysToTerm_8 ?_
  refine T_iload_n hok 1 rfl rfl dX0_daysToTerm_11 ?_
  refine T_aload_n hok 0 rfl rfl dX0_daysToTerm_12 ?_
  refine T_getI hok fr_X0_68 hpb.o dX0_daysToTerm_13 ?_
  refine T_irem hok dX0_daysToTerm_16 ?_
  refine T_isub hok dX0_daysToTerm_17 ?_
  refine T_goto (tgt := 22) hok dX0_daysToTerm_18 rfl ?_
  refine T_sub (lv' := []) [] rfl ?_
  exact hj22 ((I pb 15) - (irem a1 (I pb 15)))

set_option maxHeartbeats 4000000 in
set_option maxRecDepth 100000 in
theorem ct_X1_plain {G : Gx} {l0 : Launch} {A : Nat → Prop} {b bk dr it : Nat} (hA : ∀ k, k < Lc.length → A (b + k)) (I : MI) (J : MJ) : Ct G l0 A yX1_plain cX1_plain 1 none { frames := 0, cells := 0, slots := 0, locals := 0 } [.ref (b + 62)] (Rg G b Lc (Rc b bk dr it) I J) (iv1 (fun (I' : MI) => Rg G b Lc (Rc b bk dr it) I' J)) (f_X1_plain I) := by
  refine Ct.of rfl (Nat.le_of_ble_eq_true rfl) ?_
  intro X hok
  replace hok : Ok G l0 X RX1 cX1_plain 1 { frames := 0, cells := 0, slots := 0, locals := 0 } none := hok
  delta f_X1_plain
  show T X A (Zm X A (iv1 (fun (I' : MI) => Rg G b Lc (Rc b bk dr it) I' J))) 1 0 0 0 [(0, .ref (b + 62))] [] (Rg G b Lc (Rc b bk dr it) I J) _
  refine T_aload_n hok 0 rfl rfl dX1_plain_0 ?_
  refine T_iconst hok ic_0 dX1_plain_1 ?_
  refine T_putZ hok hA fr_X1_15 rfl rfl lc_62 dX1_plain_2 ?_
  intro I1
  refine T_aload_n hok 0 rfl rfl dX1_plain_5 ?_
  refine T_iconst hok ic_0 dX1_plain_6 ?_
  refine T_putZ hok hA fr_X1_19 rfl rfl lc_62 dX1_plain_7 ?_
  intro I2
  refine T_aload_n hok 0 rfl rfl dX1_plain_10 ?_
  refine T_iconst hok ic_0 dX1_plain_11 ?_
  refine T_putZ hok hA fr_X1_22 rfl rfl lc_62 dX1_plain_12 ?_
  intro I3
  refine T_aload_n hok 0 rfl rfl dX1_plain_15 ?_
  refine T_iconst hok ic_0 dX1_plain_16 ?_
  refine T_putZ hok hA fr_X1_25 rfl rfl lc_62 dX1_plain_17 ?_
  intro I4
  exact T_vret hok dX1_plain_20 (Nat.zero_le _) (Nat.zero_le _) rfl

set_option maxHeartbeats 4000000 in
set_option maxRecDepth 100000 in
theorem ct_X8_nextNumber {G : Gx} {l0 : Launch} {A : Nat → Prop} {b : Nat} {L : List Kd} {R : MR} {pt : Nat} (hA : ∀ k, k < L.length → A (b + k)) (hpt : TownAt b L R pt) (I : MI) (J : MJ) : Ct G l0 A yX8_nextNumber cX8_nextNumber 1 (some .int) { frames := 0, cells := 0, slots := 0, locals := 0 } [.ref (b + pt)] (Rg G b L R I J) (ii1 (fun (I' : MI) => Rg G b L R I' J)) (f_X8_nextNumber I pt) := by
  refine Ct.of rfl (Nat.le_of_ble_eq_true rfl) ?_
  intro X hok
  replace hok : Ok G l0 X RX8 cX8_nextNumber 1 { frames := 0, cells := 0, slots := 0, locals := 0 } (some .int) := hok
  delta f_X8_nextNumber
  show T X A (Zm X A (ii1 (fun (I' : MI) => Rg G b L R I' J))) 1 0 0 0 [(0, .ref (b + pt))] [] (Rg G b L R I J) _
  refine T_aload_n hok 0 rfl rfl dX8_nextNumber_0 ?_
  refine T_aload_n hok 0 rfl rfl dX8_nextNumber_1 ?_
  refine T_getI hok fr_X8_53 hpt.o dX8_nextNumber_2 ?_
  refine T_ldc hok lk_X8_60 dX8_nextNumber_5 ?_
  refine T_imul hok dX8_nextNumber_7 ?_
  refine T_sipush hok sp_12345 dX8_nextNumber_8 ?_
  refine T_iadd hok dX8_nextNumber_11 ?_
  refine T_ldc hok lk_X8_63 dX8_nextNumber_12 ?_
  refine T_iand hok dX8_nextNumber_14 ?_
  refine T_putI hok hA fr_X8_53 rfl rfl hpt.o dX8_nextNumber_15 ?_
  intro I1
  refine T_aload_n hok 0 rfl rfl dX8_nextNumber_18 ?_
  refine T_getI hok fr_X8_53 hpt.o dX8_nextNumber_19 ?_
  refine T_ldc hok lk_X8_64 dX8_nextNumber_22 ?_
  refine T_idiv hok dX8_nextNumber_24 ?_
  exact T_iret hok dX8_nextNumber_25 (Nat.zero_le _) (Nat.zero_le _) rfl

set_option maxHeartbeats 4000000 in
set_option maxRecDepth 100000 in
theorem ct_X1_kindOf {G : Gx} {l0 : Launch} {A : Nat → Prop} {b bk dr it : Nat} {pb pt : Nat} (hA : ∀ k, k < Lc.length → A (b + k)) (hpb : isBk pb = true) (hpt : isTn pt = true) (I : MI) (J : MJ) : Ct G l0 A yX1_kindOf cX1_kindOf 4 (some .int) { frames := 3, cells := 0, slots := 0, locals := 63 } [.ref (b + 62), .ref (b + pb), .ref (b + pt)] (Rg G b Lc (Rc b bk dr it) I J) (ii1 (fun (I' : MI) => Rg G b Lc (Rc b bk dr it) I' J)) (f_X1_kindOf I pb pt) := by
  refine Ct.of rfl (Nat.le_of_ble_eq_true rfl) ?_
  intro X hok
  replace hok : Ok G l0 X RX1 cX1_kindOf 4 { frames := 3, cells := 0, slots := 0, locals := 63 } (some .int) := hok
  delta f_X1_kindOf
  show T X A (Zm X A (ii1 (fun (I' : MI) => Rg G b Lc (Rc b bk dr it) I' J))) 4 0 0 0 [(0, .ref (b + 62)), (1, .ref (b + pb)), (2, .ref (b + pt))] [] (Rg G b Lc (Rc b bk dr it) I J) _
  refine T_aload_n hok 2 rfl rfl dX1_kindOf_0 ?_
  refine T_getI hok fr_X1_73 (townAt_c (b := 0) (bk := 0) (dr := 0) (it := 0) hpt).o dX1_kindOf_1 ?_
  refine T_iconst hok ic_m1 dX1_kindOf_4 ?_
  refine T_icmp_eq (tgt := 13) hok dX1_kindOf_5 rfl ?_ ?_
  · refine T_aload_n hok 1 rfl rfl dX1_kindOf_13 ?_
    refine T_aload_n hok 2 rfl rfl dX1_kindOf_14 ?_
    refine T_getI hok fr_X1_62 (townAt_c (b := 0) (bk := 0) (dr := 0) (it := 0) hpt).o dX1_kindOf_15 ?_
    refine T_ci0 (CR_V (rest := []) hok (ct_X0_kindTold hA (bookAt_c hpb) I J (I pt 8)) mw_X0_kindTold mv_X0_kindTold ml_X1_76 (bookAt_c (b := 0) (bk := 0) (dr := 0) (it := 0) hpb).o dX1_kindOf_18 rfl rfl (roomOk rfl) rfl) rfl rfl ?_
    intro x1
    refine T_istore_n (lv' := [(3, .int x1), (0, .ref (b + 62)), (1, .ref (b + pb)), (2, .ref (b + pt))]) hok rfl (by decide) rfl dX1_kindOf_21 ?_
    refine T_iload_n hok 0 rfl rfl dX1_kindOf_22 ?_
    refine T_iconst hok ic_m1 dX1_kindOf_23 ?_
    refine T_icmp_eq (tgt := 29) hok dX1_kindOf_24 rfl ?_ ?_
    · refine T_aload_n hok 1 rfl rfl dX1_kindOf_29 ?_
      refine T_getI hok fr_X1_15 lc_62 dX1_kindOf_30 ?_
      refine T_jp _ (fun (j44 : Option (Int32 × MI)) => T X A (Zm X A (ii1 (fun (I' : MI) => Rg G b Lc (Rc b bk dr it) I' J))) 4 0 0 44 [(1, .ref (b + pb))] [] (Rg G b Lc (Rc b bk dr it) I J) (j44)) _ ?_ ?_
      · skip
        refine T_aload_n hok 0 rfl rfl dX1_kindOf_44 ?_
        refine T_getI hok fr_X1_82 (bookAt_c (b := 0) (bk := 0) (dr := 0) (it := 0) hpb).o dX1_kindOf_45 ?_
        exact T_iret hok dX1_kindOf_48 (Nat.zero_le _) (Nat.zero_le _) rfl
      intro j44 hj44
      refine T_if_eq (tgt := 44) hok dX1_kindOf_33 rfl ?_ ?_
      · refine T_sub (lv' := [(1, .ref (b + pb))]) [2] rfl ?_
        exact hj44
      refine T_aload_n hok 2 rfl rfl dX1_kindOf_36 ?_
      refine T_getI hok fr_X1_79 (bookAt_c (b := 0) (bk := 0) (dr := 0) (it := 0) hpb).o dX1_kindOf_37 ?_
      refine T_iconst hok ic_2 dX1_kindOf_40 ?_
      refine T_icmp_ge (tgt := 49) hok dX1_kindOf_41 rfl ?_ ?_
      · refine T_aload_n hok 2 rfl rfl dX1_kindOf_49 ?_
        refine T_aload_n hok 3 rfl rfl dX1_kindOf_50 ?_
        refine T_ci1 (CR_V (rest := [.ref (b + pb)]) hok (ct_X8_nextNumber hA (townAt_c hpt) I J) mw_X8_nextNumber mv_X8_nextNumber ml_X1_85 (townAt_c (b := 0) (bk := 0) (dr := 0) (it := 0) hpt).o dX1_kindOf_51 rfl rfl (roomOk rfl) rfl) rfl rfl ?_
        intro x2 I3
        refine T_ci0 (CR_V (rest := []) hok (ct_X0_kindByNumber hA (bookAt_c hpb) I3 J x2) mw_X0_kindByNumber mv_X0_kindByNumber ml_X1_89 (bookAt_c (b := 0) (bk := 0) (dr := 0) (it := 0) hpb).o dX1_kindOf_54 rfl rfl (roomOk rfl) rfl) rfl rfl ?_
        intro x4
        exact T_iret hok dX1_kindOf_57 (Nat.zero_le _) (Nat.zero_le _) rfl
      refine T_sub (lv' := [(1, .ref (b + pb))]) [2] rfl ?_
      exact hj44
    refine T_iload_n hok 0 rfl rfl dX1_kindOf_27 ?_
    exact T_iret hok dX1_kindOf_28 (Nat.zero_le _) (Nat.zero_le _) rfl
  refine T_aload_n hok 2 rfl rfl dX1_kindOf_8 ?_
  refine T_getI hok fr_X1_73 (townAt_c (b := 0) (bk := 0) (dr := 0) (it := 0) hpt).o dX1_kindOf_9 ?_
  exact T_iret hok dX1_kindOf_12 (Nat.zero_le _) (Nat.zero_le _) rfl

set_option maxHeartbeats 4000000 in
set_option maxRecDepth 100000 in
theorem ct_X1_isMeant {G : Gx} {l0 : Launch} {A : Nat → Prop} {Wd : Heap → Prop} (a1 : Int32) (a2 : Int32) : Ct G l0 A yX1_isMeant cX1_isMeant 2 (some .boolean) { frames := 0, cells := 0, slots := 0, locals := 0 } [.int a1, .int a2] (Wd) (iz0 (Wd)) (f_X1_isMeant a1 a2) := by
  refine Ct.of rfl (Nat.le_of_ble_eq_true rfl) ?_
  intro X hok
  replace hok : Ok G l0 X RX1 cX1_isMeant 2 { frames := 0, cells := 0, slots := 0, locals := 0 } (some .boolean) := hok
  delta f_X1_isMeant
  show T X A (Zm X A (iz0 (Wd))) 2 0 0 0 [(0, .int a1), (1, .int a2)] [] (Wd) _
  refine T_iload_n hok 1 rfl rfl dX1_isMeant_0 ?_
  refine T_iconst hok ic_m1 dX1_isMeant_1 ?_
  refine T_jp _ (fun (j15 : Bool → Option (Bool)) => ∀ (x1 : Bool), T X A (Zm X A (iz0 (Wd))) 2 0 0 15 [] [.int (bi x1)] (Wd) (j15 x1)) _ ?_ ?_
  · intro x1
    exact T_zret hok dX1_isMeant_15 (Nat.zero_le _) (Nat.zero_le _) (bi_01 _) rfl
  intro j15 hj15
  refine T_jp _ (fun (j10 : Option (Bool)) => T X A (Zm X A (iz0 (Wd))) 2 0 0 10 [] [] (Wd) (j10)) _ ?_ ?_
  · skip
    refine T_iconst hok ic_1 dX1_isMeant_10 ?_
    refine T_goto (tgt := 15) hok dX1_isMeant_11 rfl ?_
    exact hj15 true
  intro j10 hj10
  refine T_icmp_eq (tgt := 10) hok dX1_isMeant_2 rfl ?_ ?_
  · refine T_sub (lv' := []) [] rfl ?_
    exact hj10
  refine T_iload_n hok 1 rfl rfl dX1_isMeant_5 ?_
  refine T_iload_n hok 0 rfl rfl dX1_isMeant_6 ?_
  refine T_icmp_ne (tgt := 14) hok dX1_isMeant_7 rfl ?_ ?_
  · refine T_sub (lv' := []) [] rfl ?_
    exact hj10
  refine T_iconst hok ic_0 dX1_isMeant_14 ?_
  refine T_sub (lv' := []) [] rfl ?_
  exact hj15 false

set_option maxHeartbeats 4000000 in
set_option maxRecDepth 100000 in
theorem ct_X1_worth {G : Gx} {l0 : Launch} {A : Nat → Prop} {b bk dr it : Nat} {pb : Nat} (hA : ∀ k, k < Lc.length → A (b + k)) (hpb : isBk pb = true) (I : MI) (J : MJ) (a2 : Int32) : Ct G l0 A yX1_worth cX1_worth 3 (some .int) { frames := 0, cells := 0, slots := 0, locals := 0 } [.ref (b + 62), .ref (b + pb), .int a2] (Rg G b Lc (Rc b bk dr it) I J) (ii0 (Rg G b Lc (Rc b bk dr it) I J)) (f_X1_worth I pb a2) := by
  refine Ct.of rfl (Nat.le_of_ble_eq_true rfl) ?_
  intro X hok
  replace hok : Ok G l0 X RX1 cX1_worth 3 { frames := 0, cells := 0, slots := 0, locals := 0 } (some .int) := hok
  delta f_X1_worth
  show T X A (Zm X A (ii0 (Rg G b Lc (Rc b bk dr it) I J))) 3 0 0 0 [(0, .ref (b + 62)), (1, .ref (b + pb)), (2, .int a2)] [] (Rg G b Lc (Rc b bk dr it) I J) _
  refine T_aload_n hok 0 rfl rfl dX1_worth_0 ?_
  refine T_getI hok fr_X1_19 lc_62 dX1_worth_1 ?_
  refine T_jp _ (fun (j17 : Int32 → Option (Int32)) => ∀ (x1 : Int32), T X A (Zm X A (ii0 (Rg G b Lc (Rc b bk dr it) I J))) 3 0 0 17 [] [.int x1] (Rg G b Lc (Rc b bk dr it) I J) (j17 x1)) _ ?_ ?_
  · intro x1
    exact T_iret hok dX1_worth_17 (Nat.zero_le _) (Nat.zero_le _) rfl
  intro j17 hj17
  refine T_if_eq (tgt := 11) hok dX1_worth_4 rfl ?_ ?_
  · refine T_aload_n hok 1 rfl rfl dX1_worth_11 ?_
    refine T_getR hok fr_X1_92 (bookAt_c (b := 0) (bk := 0) (dr := 0) (it := 0) hpb).o (bookAt_c hpb).r1 dX1_worth_12 ?_
    refine T_iload_n hok 2 rfl rfl dX1_worth_15 ?_
    refine T_iald hok (bookAt_c (b := 0) (bk := 0) (dr := 0) (it := 0) hpb).l1 dX1_worth_16 ?_
    refine T_sub (lv' := []) [] rfl ?_
    exact hj17 (I (pb + 2) (ix a2))
  refine T_iconst hok ic_0 dX1_worth_7 ?_
  refine T_goto (tgt := 17) hok dX1_worth_8 rfl ?_
  refine T_sub (lv' := []) [] rfl ?_
  exact hj17 (0 : Int32)

set_option maxHeartbeats 4000000 in
set_option maxRecDepth 100000 in
theorem ct_X1_eager {G : Gx} {l0 : Launch} {A : Nat → Prop} {b bk dr it : Nat} {pb : Nat} (hA : ∀ k, k < Lc.length → A (b + k)) (hpb : isBk pb = true) (I : MI) (J : MJ) (a2 : Int32) : Ct G l0 A yX1_eager cX1_eager 3 (some .int) { frames := 0, cells := 0, slots := 0, locals := 0 } [.ref (b + 62), .ref (b + pb), .int a2] (Rg G b Lc (Rc b bk dr it) I J) (ii0 (Rg G b Lc (Rc b bk dr it) I J)) (f_X1_eager I pb a2) := by
  refine Ct.of rfl (Nat.le_of_ble_eq_true rfl) ?_
  intro X hok
  replace hok : Ok G l0 X RX1 cX1_eager 3 { frames := 0, cells := 0, slots := 0, locals := 0 } (some .int) := hok
  delta f_X1_eager
  show T X A (Zm X A (ii0 (Rg G b Lc (Rc b bk dr it) I J))) 3 0 0 0 [(0, .ref (b + 62)), (1, .ref (b + pb)), (2, .int a2)] [] (Rg G b Lc (Rc b bk dr it) I J) _
  refine T_aload_n hok 0 rfl rfl dX1_eager_0 ?_
  refine T_getI hok fr_X1_22 lc_62 dX1_eager_1 ?_
  refine T_jp _ (fun (j18 : Int32 → Option (Int32)) => ∀ (x1 : Int32), T X A (Zm X A (ii0 (Rg G b Lc (Rc b bk dr it) I J))) 3 0 0 18 [] [.int x1] (Rg G b Lc (Rc b bk dr it) I J) (j18 x1)) _ ?_ ?_
  · intro x1
    exact T_iret hok dX1_eager_18 (Nat.zero_le _) (Nat.zero_le _) rfl
  intro j18 hj18
  refine T_if_eq (tgt := 12) hok dX1_eager_4 rfl ?_ ?_
  · refine T_aload_n hok 1 rfl rfl dX1_eager_12 ?_
    refine T_getR hok fr_X1_95 (bookAt_c (b := 0) (bk := 0) (dr := 0) (it := 0) hpb).o (bookAt_c hpb).r5 dX1_eager_13 ?_
    refine T_iload_n hok 2 rfl rfl dX1_eager_16 ?_
    refine T_iald hok (bookAt_c (b := 0) (bk := 0) (dr := 0) (it := 0) hpb).l5 dX1_eager_17 ?_
    refine T_sub (lv' := []) [] rfl ?_
    exact hj18 (I (pb + 6) (ix a2))
  refine T_bipush hok bp_9 dX1_eager_7 ?_
  refine T_goto (tgt := 18) hok dX1_eager_9 rfl ?_
  refine T_sub (lv' := []) [] rfl ?_
  exact hj18 (9 : Int32)

set_option maxHeartbeats 4000000 in
set_option maxRecDepth 100000 in
theorem ct_X1_name {G : Gx} {l0 : Launch} {A : Nat → Prop} {b bk dr it : Nat} {pb pt : Nat} (hA : ∀ k, k < Lc.length → A (b + k)) (hpb : isBk pb = true) (hpt : isTn pt = true) (I : MI) (J : MJ) (a3 : Int32) (a4 : Int32) : Ct G l0 A yX1_name cX1_name 5 none { frames := 1, cells := 0, slots := 0, locals := 22 } [.ref (b + 62), .ref (b + pb), .ref (b + pt), .int a3, .int a4] (Rg G b Lc (Rc b bk dr it) I J) (iv1 (fun (J' : MJ) => Rg G b Lc (Rc b bk dr it) I J')) (f_X1_name I J pb pt a3 a4) := by
  refine Ct.of rfl (Nat.le_of_ble_eq_true rfl) ?_
  intro X hok
  replace hok : Ok G l0 X RX1 cX1_name 5 { frames := 1, cells := 0, slots := 0, locals := 22 } none := hok
  delta f_X1_name
  show T X A (Zm X A (iv1 (fun (J' : MJ) => Rg G b Lc (Rc b bk dr it) I J'))) 5 0 0 0 [(0, .ref (b + 62)), (1, .ref (b + pb)), (2, .ref (b + pt)), (3, .int a3), (4, .int a4)] [] (Rg G b Lc (Rc b bk dr it) I J) _
  refine T_aload_n hok 0 rfl rfl dX1_name_0 ?_
  refine T_getR hok fr_X1_9 lc_62 rc_62_0 dX1_name_1 ?_
  refine T_iconst hok ic_0 dX1_name_4 ?_
  refine T_aload_n hok 0 rfl rfl dX1_name_5 ?_
  refine T_aload_n hok 1 rfl rfl dX1_name_6 ?_
  refine T_iload hok 4 rfl dX1_name_7 ?_
  refine T_ci0 (CR_V (rest := [.int (0 : Int32), .ref (b + 63)]) hok (ct_X1_worth hA hpb I J a4) mw_X1_worth mv_X1_worth ml_X1_98 lc_62 dX1_name_9 rfl rfl (roomOk rfl) rfl) rfl rfl ?_
  intro x1
  refine T_i2l hok dX1_name_12 ?_
  refine T_last hok hA lc_63 dX1_name_13 ?_
  intro J2
  refine T_aload_n hok 0 rfl rfl dX1_name_14 ?_
  refine T_getR hok fr_X1_9 lc_62 rc_62_0 dX1_name_15 ?_
  refine T_iconst hok ic_1 dX1_name_18 ?_
  refine T_aload_n hok 0 rfl rfl dX1_name_19 ?_
  refine T_aload_n hok 1 rfl rfl dX1_name_20 ?_
  refine T_iload_n hok 3 rfl rfl dX1_name_21 ?_
  refine T_ci0 (CR_V (rest := [.int (1 : Int32), .ref (b + 63)]) hok (ct_X1_eager hA hpb I J2 a3) mw_X1_eager mv_X1_eager ml_X1_101 lc_62 dX1_name_22 rfl rfl (roomOk rfl) rfl) rfl rfl ?_
  intro x3
  refine T_i2l hok dX1_name_25 ?_
  refine T_last hok hA lc_63 dX1_name_26 ?_
  intro J4
  refine T_aload_n hok 0 rfl rfl dX1_name_27 ?_
  refine T_getR hok fr_X1_9 lc_62 rc_62_0 dX1_name_28 ?_
  refine T_iconst hok ic_2 dX1_name_31 ?_
  refine T_aload_n hok 2 rfl rfl dX1_name_32 ?_
  refine T_getR hok fr_X1_103 (townAt_c (b := 0) (bk := 0) (dr := 0) (it := 0) hpt).o (townAt_c hpt).r0 dX1_name_33 ?_
  refine T_iload_n hok 3 rfl rfl dX1_name_36 ?_
  refine T_iald hok (townAt_c (b := 0) (bk := 0) (dr := 0) (it := 0) hpt).l0 dX1_name_37 ?_
  refine T_i2l hok dX1_name_38 ?_
  refine T_last hok hA lc_63 dX1_name_39 ?_
  intro J5
  refine T_aload_n hok 0 rfl rfl dX1_name_40 ?_
  refine T_getR hok fr_X1_9 lc_62 rc_62_0 dX1_name_41 ?_
  refine T_iconst hok ic_3 dX1_name_44 ?_
  refine T_aload_n hok 2 rfl rfl dX1_name_45 ?_
  refine T_getR hok fr_X1_106 (townAt_c (b := 0) (bk := 0) (dr := 0) (it := 0) hpt).o (townAt_c hpt).r1 dX1_name_46 ?_
  refine T_iload_n hok 3 rfl rfl dX1_name_49 ?_
  refine T_iald hok (townAt_c (b := 0) (bk := 0) (dr := 0) (it := 0) hpt).l1 dX1_name_50 ?_
  refine T_i2l hok dX1_name_51 ?_
  refine T_last hok hA lc_63 dX1_name_52 ?_
  intro J6
  refine T_aload_n hok 0 rfl rfl dX1_name_53 ?_
  refine T_getR hok fr_X1_9 lc_62 rc_62_0 dX1_name_54 ?_
  refine T_iconst hok ic_4 dX1_name_57 ?_
  refine T_aload_n hok 2 rfl rfl dX1_name_58 ?_
  refine T_getR hok fr_X1_109 (townAt_c (b := 0) (bk := 0) (dr := 0) (it := 0) hpt).o (townAt_c hpt).r2 dX1_name_59 ?_
  refine T_iload_n hok 3 rfl rfl dX1_name_62 ?_
  refine T_iald hok (townAt_c (b := 0) (bk := 0) (dr := 0) (it := 0) hpt).l2 dX1_name_63 ?_
  refine T_i2l hok dX1_name_64 ?_
  refine T_last hok hA lc_63 dX1_name_65 ?_
  intro J7
  refine T_aload_n hok 0 rfl rfl dX1_name_66 ?_
  refine T_getR hok fr_X1_9 lc_62 rc_62_0 dX1_name_67 ?_
  refine T_iconst hok ic_5 dX1_name_70 ?_
  refine T_aload_n hok 1 rfl rfl dX1_name_71 ?_
  refine T_getR hok fr_X1_112 (bookAt_c (b := 0) (bk := 0) (dr := 0) (it := 0) hpb).o (bookAt_c hpb).r2 dX1_name_72 ?_
  refine T_iload hok 4 rfl dX1_name_75 ?_
  refine T_iald hok (bookAt_c (b := 0) (bk := 0) (dr := 0) (it := 0) hpb).l2 dX1_name_77 ?_
  refine T_i2l hok dX1_name_78 ?_
  refine T_last hok hA lc_63 dX1_name_79 ?_
  intro J8
  refine T_aload_n hok 0 rfl rfl dX1_name_80 ?_
  refine T_getR hok fr_X1_9 lc_62 rc_62_0 dX1_name_81 ?_
  refine T_bipush hok bp_6 dX1_name_84 ?_
  refine T_aload_n hok 2 rfl rfl dX1_name_86 ?_
  refine T_getI hok fr_X1_62 (townAt_c (b := 0) (bk := 0) (dr := 0) (it := 0) hpt).o dX1_name_87 ?_
  refine T_i2l hok dX1_name_90 ?_
  refine T_last hok hA lc_63 dX1_name_91 ?_
  intro J9
  exact T_vret hok dX1_name_92 (Nat.zero_le _) (Nat.zero_le _) rfl

set_option maxHeartbeats 4000000 in
set_option maxRecDepth 100000 in
theorem ct_X4_operand {G : Gx} {l0 : Launch} {A : Nat → Prop} {b : Nat} {L : List Kd} {R : MR} {pa na : Nat} (hA : ∀ k, k < L.length → A (b + k)) (hpa : L[pa]? = some (.inr (1, na))) (I : MI) (J : MJ) (a1 : Int32) : Ct G l0 A yX4_operand cX4_operand 3 (some .long) { frames := 0, cells := 0, slots := 0, locals := 0 } [.int a1, .ref (b + pa)] (Rg G b L R I J) (il0 (Rg G b L R I J)) (f_X4_operand J a1 pa na) := by
  refine Ct.of rfl (Nat.le_of_ble_eq_true rfl) ?_
  intro X hok
  replace hok : Ok G l0 X RX4 cX4_operand 3 { frames := 0, cells := 0, slots := 0, locals := 0 } (some .long) := hok
  delta f_X4_operand
  show T X A (Zm X A (il0 (Rg G b L R I J))) 3 0 0 0 [(0, .int a1), (1, .ref (b + pa))] [] (Rg G b L R I J) _
  refine T_iload_n hok 0 rfl rfl dX4_operand_0 ?_
  refine T_sipush hok sp_10000 dX4_operand_1 ?_
  refine T_isub hok dX4_operand_4 ?_
  refine T_lti ?_
  intro x1
  refine T_istore_n (lv' := [(2, .int x1), (0, .int a1), (1, .ref (b + pa))]) hok rfl (by decide) rfl dX4_operand_5 ?_
  refine T_iload_n hok 0 rfl rfl dX4_operand_6 ?_
  refine T_jp _ (fun (j24 : Int64 → Option (Int64)) => ∀ (x2 : Int64), T X A (Zm X A (il0 (Rg G b L R I J))) 3 0 0 24 [] [.long x2] (Rg G b L R I J) (j24 x2)) _ ?_ ?_
  · intro x2
    exact T_lret hok dX4_operand_24 (Nat.zero_le _) (Nat.zero_le _) rfl
  intro j24 hj24
  refine T_jp _ (fun (j22 : Option (Int64)) => T X A (Zm X A (il0 (Rg G b L R I J))) 3 0 0 22 [(0, .int a1)] [] (Rg G b L R I J) (j22)) _ ?_ ?_
  · skip
    refine T_iload_n hok 0 rfl rfl dX4_operand_22 ?_
    refine T_i2l hok dX4_operand_23 ?_
    refine T_sub (lv' := []) [] rfl ?_
    exact hj24 (Int32.toInt64 a1)
  intro j22 hj22
  refine T_if_lt (tgt := 22) hok dX4_operand_7 rfl ?_ ?_
  · refine T_sub (lv' := [(0, .int a1)]) [1] rfl ?_
    exact hj22
  refine T_iload_n hok 0 rfl rfl dX4_operand_10 ?_
  refine T_aload_n hok 2 rfl rfl dX4_operand_11 ?_
  refine T_alen (v := Int32.ofNat na) hok (by decide) hpa rfl dX4_operand_12 ?_
  refine T_icmp_ge (tgt := 22) hok dX4_operand_13 rfl ?_ ?_
  · refine T_sub (lv' := [(0, .int a1)]) [1] rfl ?_
    exact hj22
  refine T_aload_n hok 2 rfl rfl dX4_operand_16 ?_
  refine T_iload_n hok 0 rfl rfl dX4_operand_17 ?_
  refine T_lald hok hpa dX4_operand_18 ?_
  refine T_goto (tgt := 24) hok dX4_operand_19 rfl ?_
  refine T_sub (lv' := []) [] rfl ?_
  exact hj24 (J pa (ix x1))

set_option maxHeartbeats 4000000 in
set_option maxRecDepth 100000 in
theorem ct_X4_truth {G : Gx} {l0 : Launch} {A : Nat → Prop} {Wd : Heap → Prop} (a1 : Int32) : Ct G l0 A yX4_truth cX4_truth 1 (some .long) { frames := 0, cells := 0, slots := 0, locals := 0 } [.int a1] (Wd) (il0 (Wd)) (f_X4_truth a1) := by
  refine Ct.of rfl (Nat.le_of_ble_eq_true rfl) ?_
  intro X hok
  replace hok : Ok G l0 X RX4 cX4_truth 1 { frames := 0, cells := 0, slots := 0, locals := 0 } (some .long) := hok
  delta f_X4_truth
  show T X A (Zm X A (il0 (Wd))) 1 0 0 0 [(0, .int a1)] [] (Wd) _
  refine T_iload_n hok 0 rfl rfl dX4_truth_0 ?_
  refine T_jp _ (fun (j9 : Int64 → Option (Int64)) => ∀ (x1 : Int64), T X A (Zm X A (il0 (Wd))) 1 0 0 9 [] [.long x1] (Wd) (j9 x1)) _ ?_ ?_
  · intro x1
    exact T_lret hok dX4_truth_9 (Nat.zero_le _) (Nat.zero_le _) rfl
  intro j9 hj9
  refine T_if_eq (tgt := 8) hok dX4_truth_1 rfl ?_ ?_
  · refine T_lconst (v := 0) hok rfl dX4_truth_8 ?_
    refine T_sub (lv' := []) [] rfl ?_
    exact hj9 (0 : Int64)
  refine T_lconst (v := 1) hok rfl dX4_truth_4 ?_
  refine T_goto (tgt := 9) hok dX4_truth_5 rfl ?_
  refine T_sub (lv' := []) [] rfl ?_
  exact hj9 (1 : Int64)

set_option maxHeartbeats 4000000 in
set_option maxRecDepth 100000 in
theorem ct_X4_limited {G : Gx} {l0 : Launch} {A : Nat → Prop} {Wd : Heap → Prop} (a1 : Int64) : Ct G l0 A yX4_limited cX4_limited 2 (some .long) { frames := 0, cells := 0, slots := 0, locals := 0 } [.long a1] (Wd) (il0 (Wd)) (f_X4_limited a1) := by
  refine Ct.of rfl (Nat.le_of_ble_eq_true rfl) ?_
  intro X hok
  replace hok : Ok G l0 X RX4 cX4_limited 2 { frames := 0, cells := 0, slots := 0, locals := 0 } (some .long) := hok
  delta f_X4_limited
  show T X A (Zm X A (il0 (Wd))) 2 0 0 0 [(0, .long a1)] [] (Wd) _
  refine T_lload_n hok 0 rfl rfl dX4_limited_0 ?_
  refine T_ldc2 hok lk_X4_62 dX4_limited_1 ?_
  refine T_jp _ (fun (j23 : Int64 → Option (Int64)) => ∀ (x1 : Int64), T X A (Zm X A (il0 (Wd))) 2 0 0 23 [] [.long x1] (Wd) (j23 x1)) _ ?_ ?_
  · intro x1
    exact T_lret hok dX4_limited_23 (Nat.zero_le _) (Nat.zero_le _) rfl
  intro j23 hj23
  refine T_jp _ (fun (j16 : Option (Int64)) => T X A (Zm X A (il0 (Wd))) 2 0 0 16 [] [] (Wd) (j16)) _ ?_ ?_
  · skip
    refine T_ldc2 hok lk_X4_38 dX4_limited_16 ?_
    refine T_goto (tgt := 23) hok dX4_limited_19 rfl ?_
    exact hj23 (-9223372036854775808 : Int64)
  intro j16 hj16
  refine T_lcmp_gt (tgt := 16) hok dX4_limited_4 rfl dX4_limited_5 rfl ?_ ?_
  · refine T_sub (lv' := []) [] rfl ?_
    exact hj16
  refine T_lload_n hok 0 rfl rfl dX4_limited_8 ?_
  refine T_ldc2 hok lk_X4_64 dX4_limited_9 ?_
  refine T_lcmp_ge (tgt := 22) hok dX4_limited_12 rfl dX4_limited_13 rfl ?_ ?_
  · refine T_lload_n hok 0 rfl rfl dX4_limited_22 ?_
    refine T_sub (lv' := []) [] rfl ?_
    exact hj23 a1
  refine T_sub (lv' := []) [] rfl ?_
  exact hj16

set_option maxHeartbeats 4000000 in
set_option maxRecDepth 100000 in
theorem ct_X4_product {G : Gx} {l0 : Launch} {A : Nat → Prop} {Wd : Heap → Prop} (a1 : Int64) (a2 : Int64) : Ct G l0 A yX4_product cX4_product 8 (some .long) { frames := 0, cells := 0, slots := 0, locals := 0 } [.long a1, .long a2] (Wd) (il0 (Wd)) (f_X4_product a1 a2) := by
  refine Ct.of rfl (Nat.le_of_ble_eq_true rfl) ?_
  intro X hok
  replace hok : Ok G l0 X RX4 cX4_product 8 { frames := 0, cells := 0, slots := 0, locals := 0 } (some .long) := hok
  delta f_X4_product
  show T X A (Zm X A (il0 (Wd))) 8 0 0 0 [(0, .long a1), (2, .long a2)] [] (Wd) _
  refine T_lload_n hok 0 rfl rfl dX4_product_0 ?_
  refine T_lconst (v := 0) hok rfl dX4_product_1 ?_
  refine T_jp _ (fun (j12 : Int64 → Option (Int64)) => ∀ (x1 : Int64), T X A (Zm X A (il0 (Wd))) 8 0 0 12 [(0, .long a1), (2, .long a2)] [.long x1] (Wd) (j12 x1)) _ ?_ ?_
  · intro x1
    refine T_lstore (lv' := [(4, .long x1), (0, .long a1), (2, .long a2)]) hok (by decide) rfl dX4_product_12 ?_
    refine T_lload hok 0 rfl dX4_product_14 ?_
    refine T_lconst (v := 0) hok rfl dX4_product_16 ?_
    refine T_lcmp_ne (tgt := 23) hok dX4_product_17 rfl dX4_product_18 rfl ?_ ?_
    · refine T_lconst (v := 0) hok rfl dX4_product_21 ?_
      exact T_lret hok dX4_product_22 (Nat.zero_le _) (Nat.zero_le _) rfl
    refine T_ldc2 hok lk_X4_62 dX4_product_23 ?_
    refine T_lload hok 0 rfl dX4_product_26 ?_
    refine T_ldiv hok dX4_product_28 ?_
    refine T_ltl ?_
    intro x2
    refine T_lstore (lv' := [(6, .long x2), (4, .long x1), (0, .long a1), (2, .long a2)]) hok (by decide) rfl dX4_product_29 ?_
    refine T_lload_n hok 3 rfl rfl dX4_product_31 ?_
    refine T_lload hok 0 rfl dX4_product_32 ?_
    refine T_jp _ (fun (j55 : Int64 → Option (Int64)) => ∀ (x3 : Int64), T X A (Zm X A (il0 (Wd))) 8 0 0 55 [] [.long x3] (Wd) (j55 x3)) _ ?_ ?_
    · intro x3
      exact T_lret hok dX4_product_55 (Nat.zero_le _) (Nat.zero_le _) rfl
    intro j55 hj55
    refine T_jp _ (fun (j46 : Option (Int64)) => T X A (Zm X A (il0 (Wd))) 8 0 0 46 [] [] (Wd) (j46)) _ ?_ ?_
    · skip
      refine T_ldc2 hok lk_X4_38 dX4_product_46 ?_
      refine T_goto (tgt := 55) hok dX4_product_49 rfl ?_
      exact hj55 (-9223372036854775808 : Int64)
    intro j46 hj46
    refine T_lcmp_gt (tgt := 46) hok dX4_product_34 rfl dX4_product_35 rfl ?_ ?_
    · refine T_sub (lv' := []) [] rfl ?_
      exact hj46
    refine T_lload_n hok 3 rfl rfl dX4_product_38 ?_
    refine T_lload hok 0 rfl dX4_product_39 ?_
    refine T_lneg hok dX4_product_41 ?_
    refine T_lcmp_ge (tgt := 52) hok dX4_product_42 rfl dX4_product_43 rfl ?_ ?_
    · refine T_lload_n hok 2 rfl rfl dX4_product_52 ?_
      refine T_lload_n hok 3 rfl rfl dX4_product_53 ?_
      refine T_lmul hok dX4_product_54 ?_
      refine T_sub (lv' := []) [] rfl ?_
      exact hj55 (a1 * a2)
    refine T_sub (lv' := []) [] rfl ?_
    exact hj46
  intro j12 hj12
  refine T_lcmp_ge (tgt := 11) hok dX4_product_2 rfl dX4_product_3 rfl ?_ ?_
  · refine T_lload_n hok 0 rfl rfl dX4_product_11 ?_
    exact hj12 a1
  refine T_lload_n hok 0 rfl rfl dX4_product_6 ?_
  refine T_lneg hok dX4_product_7 ?_
  refine T_goto (tgt := 12) hok dX4_product_8 rfl ?_
  exact hj12 (-a1)

set_option maxHeartbeats 4000000 in
set_option maxRecDepth 100000 in
theorem ct_X4_joined {G : Gx} {l0 : Launch} {A : Nat → Prop} {Wd : Heap → Prop} (a1 : Int32) (a2 : Int64) (a3 : Int64) : Ct G l0 A yX4_joined cX4_joined 5 (some .long) { frames := 1, cells := 0, slots := 0, locals := 27 } [.int a1, .long a2, .long a3] (Wd) (il0 (Wd)) (f_X4_joined a1 a2 a3) := by
  refine Ct.of rfl (Nat.le_of_ble_eq_true rfl) ?_
  intro X hok
  replace hok : Ok G l0 X RX4 cX4_joined 5 { frames := 1, cells := 0, slots := 0, locals := 27 } (some .long) := hok
  delta f_X4_joined
  show T X A (Zm X A (il0 (Wd))) 5 0 0 0 [(0, .int a1), (1, .long a2), (3, .long a3)] [] (Wd) _
  refine T_iload_n hok 0 rfl rfl dX4_joined_0 ?_
  refine T_swc (fun hx10 => ?_) (fun hx10 => ?_)
  · refine T_tin (tgt := 104) hok hx10 dX4_joined_1 (by decide) (by decide) rfl rfl ?_
    refine T_lload_n hok 1 rfl rfl dX4_joined_104 ?_
    refine T_lconst (v := 0) hok rfl dX4_joined_105 ?_
    refine T_jp _ (fun (j121 : Bool → Option (Int64)) => ∀ (x1 : Bool), T X A (Zm X A (il0 (Wd))) 5 0 0 121 [] [.int (bi x1)] (Wd) (j121 x1)) _ ?_ ?_
    · intro x1
      refine T_cl0 (CR_S (rest := []) hok (ct_X4_truth (bi x1)) mw_X4_truth mst_X4_truth ml_X4_46 dX4_joined_121 rfl rfl (roomOk rfl) rfl) rfl rfl ?_
      intro x2
      exact T_lret hok dX4_joined_124 (Nat.zero_le _) (Nat.zero_le _) rfl
    intro j121 hj121
    refine T_jp _ (fun (j116 : Option (Int64)) => T X A (Zm X A (il0 (Wd))) 5 0 0 116 [] [] (Wd) (j116)) _ ?_ ?_
    · skip
      refine T_iconst hok ic_1 dX4_joined_116 ?_
      refine T_goto (tgt := 121) hok dX4_joined_117 rfl ?_
      exact hj121 true
    intro j116 hj116
    refine T_lcmp_ne (tgt := 116) hok dX4_joined_106 rfl dX4_joined_107 rfl ?_ ?_
    · refine T_lload_n hok 2 rfl rfl dX4_joined_110 ?_
      refine T_lconst (v := 0) hok rfl dX4_joined_111 ?_
      refine T_lcmp_eq (tgt := 120) hok dX4_joined_112 rfl dX4_joined_113 rfl ?_ ?_
      · refine T_iconst hok ic_0 dX4_joined_120 ?_
        refine T_sub (lv' := []) [] rfl ?_
        exact hj121 false
      refine T_sub (lv' := []) [] rfl ?_
      exact hj116
    refine T_sub (lv' := []) [] rfl ?_
    exact hj116
  refine T_swc (fun hx11 => ?_) (fun hx11 => ?_)
  · refine T_tin (tgt := 125) hok hx11 dX4_joined_1 (by decide) (by decide) rfl rfl ?_
    refine T_lload_n hok 1 rfl rfl dX4_joined_125 ?_
    refine T_lconst (v := 0) hok rfl dX4_joined_126 ?_
    refine T_jp _ (fun (j142 : Bool → Option (Int64)) => ∀ (x3 : Bool), T X A (Zm X A (il0 (Wd))) 5 0 0 142 [] [.int (bi x3)] (Wd) (j142 x3)) _ ?_ ?_
    · intro x3
      refine T_cl0 (CR_S (rest := []) hok (ct_X4_truth (bi x3)) mw_X4_truth mst_X4_truth ml_X4_46 dX4_joined_142 rfl rfl (roomOk rfl) rfl) rfl rfl ?_
      intro x4
      exact T_lret hok dX4_joined_145 (Nat.zero_le _) (Nat.zero_le _) rfl
    intro j142 hj142
    refine T_jp _ (fun (j141 : Option (Int64)) => T X A (Zm X A (il0 (Wd))) 5 0 0 141 [] [] (Wd) (j141)) _ ?_ ?_
    · skip
      refine T_iconst hok ic_0 dX4_joined_141 ?_
      exact hj142 false
    intro j141 hj141
    refine T_lcmp_eq (tgt := 141) hok dX4_joined_127 rfl dX4_joined_128 rfl ?_ ?_
    · refine T_sub (lv' := []) [] rfl ?_
      exact hj141
    refine T_lload_n hok 2 rfl rfl dX4_joined_131 ?_
    refine T_lconst (v := 0) hok rfl dX4_joined_132 ?_
    refine T_lcmp_eq (tgt := 141) hok dX4_joined_133 rfl dX4_joined_134 rfl ?_ ?_
    · refine T_sub (lv' := []) [] rfl ?_
      exact hj141
    refine T_iconst hok ic_1 dX4_joined_137 ?_
    refine T_goto (tgt := 142) hok dX4_joined_138 rfl ?_
    refine T_sub (lv' := []) [] rfl ?_
    exact hj142 true
  refine T_swc (fun hx23 => ?_) (fun hx23 => ?_)
  · refine T_tin (tgt := 146) hok hx23 dX4_joined_1 (by decide) (by decide) rfl rfl ?_
    refine T_lload_n hok 1 rfl rfl dX4_joined_146 ?_
    refine T_lload_n hok 2 rfl rfl dX4_joined_147 ?_
    refine T_jp _ (fun (j157 : Bool → Option (Int64)) => ∀ (x5 : Bool), T X A (Zm X A (il0 (Wd))) 5 0 0 157 [] [.int (bi x5)] (Wd) (j157 x5)) _ ?_ ?_
    · intro x5
      refine T_cl0 (CR_S (rest := []) hok (ct_X4_truth (bi x5)) mw_X4_truth mst_X4_truth ml_X4_46 dX4_joined_157 rfl rfl (roomOk rfl) rfl) rfl rfl ?_
      intro x6
      exact T_lret hok dX4_joined_160 (Nat.zero_le _) (Nat.zero_le _) rfl
    intro j157 hj157
    refine T_lcmp_ge (tgt := 156) hok dX4_joined_148 rfl dX4_joined_149 rfl ?_ ?_
    · refine T_iconst hok ic_0 dX4_joined_156 ?_
      refine T_sub (lv' := []) [] rfl ?_
      exact hj157 false
    refine T_iconst hok ic_1 dX4_joined_152 ?_
    refine T_goto (tgt := 157) hok dX4_joined_153 rfl ?_
    refine T_sub (lv' := []) [] rfl ?_
    exact hj157 true
  refine T_swc (fun hx24 => ?_) (fun hx24 => ?_)
  · refine T_tin (tgt := 161) hok hx24 dX4_joined_1 (by decide) (by decide) rfl rfl ?_
    refine T_lload_n hok 1 rfl rfl dX4_joined_161 ?_
    refine T_lload_n hok 2 rfl rfl dX4_joined_162 ?_
    refine T_jp _ (fun (j172 : Bool → Option (Int64)) => ∀ (x7 : Bool), T X A (Zm X A (il0 (Wd))) 5 0 0 172 [] [.int (bi x7)] (Wd) (j172 x7)) _ ?_ ?_
    · intro x7
      refine T_cl0 (CR_S (rest := []) hok (ct_X4_truth (bi x7)) mw_X4_truth mst_X4_truth ml_X4_46 dX4_joined_172 rfl rfl (roomOk rfl) rfl) rfl rfl ?_
      intro x8
      exact T_lret hok dX4_joined_175 (Nat.zero_le _) (Nat.zero_le _) rfl
    intro j172 hj172
    refine T_lcmp_gt (tgt := 171) hok dX4_joined_163 rfl dX4_joined_164 rfl ?_ ?_
    · refine T_iconst hok ic_0 dX4_joined_171 ?_
      refine T_sub (lv' := []) [] rfl ?_
      exact hj172 false
    refine T_iconst hok ic_1 dX4_joined_167 ?_
    refine T_goto (tgt := 172) hok dX4_joined_168 rfl ?_
    refine T_sub (lv' := []) [] rfl ?_
    exact hj172 true
  refine T_swc (fun hx25 => ?_) (fun hx25 => ?_)
  · refine T_tin (tgt := 176) hok hx25 dX4_joined_1 (by decide) (by decide) rfl rfl ?_
    refine T_lload_n hok 1 rfl rfl dX4_joined_176 ?_
    refine T_lload_n hok 2 rfl rfl dX4_joined_177 ?_
    refine T_jp _ (fun (j187 : Bool → Option (Int64)) => ∀ (x9 : Bool), T X A (Zm X A (il0 (Wd))) 5 0 0 187 [] [.int (bi x9)] (Wd) (j187 x9)) _ ?_ ?_
    · intro x9
      refine T_cl0 (CR_S (rest := []) hok (ct_X4_truth (bi x9)) mw_X4_truth mst_X4_truth ml_X4_46 dX4_joined_187 rfl rfl (roomOk rfl) rfl) rfl rfl ?_
      intro x10
      exact T_lret hok dX4_joined_190 (Nat.zero_le _) (Nat.zero_le _) rfl
    intro j187 hj187
    refine T_lcmp_ne (tgt := 186) hok dX4_joined_178 rfl dX4_joined_179 rfl ?_ ?_
    · refine T_iconst hok ic_1 dX4_joined_182 ?_
      refine T_goto (tgt := 187) hok dX4_joined_183 rfl ?_
      refine T_sub (lv' := []) [] rfl ?_
      exact hj187 true
    refine T_iconst hok ic_0 dX4_joined_186 ?_
    refine T_sub (lv' := []) [] rfl ?_
    exact hj187 false
  refine T_swc (fun hx26 => ?_) (fun hx26 => ?_)
  · refine T_tin (tgt := 191) hok hx26 dX4_joined_1 (by decide) (by decide) rfl rfl ?_
    refine T_lload_n hok 1 rfl rfl dX4_joined_191 ?_
    refine T_lload_n hok 2 rfl rfl dX4_joined_192 ?_
    refine T_jp _ (fun (j202 : Bool → Option (Int64)) => ∀ (x11 : Bool), T X A (Zm X A (il0 (Wd))) 5 0 0 202 [] [.int (bi x11)] (Wd) (j202 x11)) _ ?_ ?_
    · intro x11
      refine T_cl0 (CR_S (rest := []) hok (ct_X4_truth (bi x11)) mw_X4_truth mst_X4_truth ml_X4_46 dX4_joined_202 rfl rfl (roomOk rfl) rfl) rfl rfl ?_
      intro x12
      exact T_lret hok dX4_joined_205 (Nat.zero_le _) (Nat.zero_le _) rfl
    intro j202 hj202
    refine T_lcmp_eq (tgt := 201) hok dX4_joined_193 rfl dX4_joined_194 rfl ?_ ?_
    · refine T_iconst hok ic_0 dX4_joined_201 ?_
      refine T_sub (lv' := []) [] rfl ?_
      exact hj202 false
    refine T_iconst hok ic_1 dX4_joined_197 ?_
    refine T_goto (tgt := 202) hok dX4_joined_198 rfl ?_
    refine T_sub (lv' := []) [] rfl ?_
    exact hj202 true
  refine T_swc (fun hx27 => ?_) (fun hx27 => ?_)
  · refine T_tin (tgt := 206) hok hx27 dX4_joined_1 (by decide) (by decide) rfl rfl ?_
    refine T_lload_n hok 1 rfl rfl dX4_joined_206 ?_
    refine T_lload_n hok 2 rfl rfl dX4_joined_207 ?_
    refine T_jp _ (fun (j217 : Bool → Option (Int64)) => ∀ (x13 : Bool), T X A (Zm X A (il0 (Wd))) 5 0 0 217 [] [.int (bi x13)] (Wd) (j217 x13)) _ ?_ ?_
    · intro x13
      refine T_cl0 (CR_S (rest := []) hok (ct_X4_truth (bi x13)) mw_X4_truth mst_X4_truth ml_X4_46 dX4_joined_217 rfl rfl (roomOk rfl) rfl) rfl rfl ?_
      intro x14
      exact T_lret hok dX4_joined_220 (Nat.zero_le _) (Nat.zero_le _) rfl
    intro j217 hj217
    refine T_lcmp_lt (tgt := 216) hok dX4_joined_208 rfl dX4_joined_209 rfl ?_ ?_
    · refine T_iconst hok ic_0 dX4_joined_216 ?_
      refine T_sub (lv' := []) [] rfl ?_
      exact hj217 false
    refine T_iconst hok ic_1 dX4_joined_212 ?_
    refine T_goto (tgt := 217) hok dX4_joined_213 rfl ?_
    refine T_sub (lv' := []) [] rfl ?_
    exact hj217 true
  refine T_swc (fun hx28 => ?_) (fun hx28 => ?_)
  · refine T_tin (tgt := 221) hok hx28 dX4_joined_1 (by decide) (by decide) rfl rfl ?_
    refine T_lload_n hok 1 rfl rfl dX4_joined_221 ?_
    refine T_lload_n hok 2 rfl rfl dX4_joined_222 ?_
    refine T_jp _ (fun (j232 : Bool → Option (Int64)) => ∀ (x15 : Bool), T X A (Zm X A (il0 (Wd))) 5 0 0 232 [] [.int (bi x15)] (Wd) (j232 x15)) _ ?_ ?_
    · intro x15
      refine T_cl0 (CR_S (rest := []) hok (ct_X4_truth (bi x15)) mw_X4_truth mst_X4_truth ml_X4_46 dX4_joined_232 rfl rfl (roomOk rfl) rfl) rfl rfl ?_
      intro x16
      exact T_lret hok dX4_joined_235 (Nat.zero_le _) (Nat.zero_le _) rfl
    intro j232 hj232
    refine T_lcmp_le (tgt := 231) hok dX4_joined_223 rfl dX4_joined_224 rfl ?_ ?_
    · refine T_iconst hok ic_0 dX4_joined_231 ?_
      refine T_sub (lv' := []) [] rfl ?_
      exact hj232 false
    refine T_iconst hok ic_1 dX4_joined_227 ?_
    refine T_goto (tgt := 232) hok dX4_joined_228 rfl ?_
    refine T_sub (lv' := []) [] rfl ?_
    exact hj232 true
  refine T_swc (fun hx29 => ?_) (fun hx29 => ?_)
  · refine T_tin (tgt := 236) hok hx29 dX4_joined_1 (by decide) (by decide) rfl rfl ?_
    refine T_lload_n hok 1 rfl rfl dX4_joined_236 ?_
    refine T_lload_n hok 2 rfl rfl dX4_joined_237 ?_
    refine T_ladd hok dX4_joined_238 ?_
    refine T_cl0 (CR_S (rest := []) hok (ct_X4_limited (a2 + a3)) mw_X4_limited mst_X4_limited ml_X4_54 dX4_joined_239 rfl rfl (roomOk rfl) rfl) rfl rfl ?_
    intro x17
    exact T_lret hok dX4_joined_242 (Nat.zero_le _) (Nat.zero_le _) rfl
  refine T_swc (fun hx30 => ?_) (fun hx30 => ?_)
  · refine T_tin (tgt := 243) hok hx30 dX4_joined_1 (by decide) (by decide) rfl rfl ?_
    refine T_lload_n hok 1 rfl rfl dX4_joined_243 ?_
    refine T_lload_n hok 2 rfl rfl dX4_joined_244 ?_
    refine T_lsub hok dX4_joined_245 ?_
    refine T_cl0 (CR_S (rest := []) hok (ct_X4_limited (a2 - a3)) mw_X4_limited mst_X4_limited ml_X4_54 dX4_joined_246 rfl rfl (roomOk rfl) rfl) rfl rfl ?_
    intro x18
    exact T_lret hok dX4_joined_249 (Nat.zero_le _) (Nat.zero_le _) rfl
  refine T_swc (fun hx31 => ?_) (fun hx31 => ?_)
  · refine T_tin (tgt := 250) hok hx31 dX4_joined_1 (by decide) (by decide) rfl rfl ?_
    refine T_lload_n hok 1 rfl rfl dX4_joined_250 ?_
    refine T_lload_n hok 2 rfl rfl dX4_joined_251 ?_
    refine T_cl0 (CR_S (rest := []) hok (ct_X4_product a2 a3) mw_X4_product mst_X4_product ml_X4_58 dX4_joined_252 rfl rfl (roomOk rfl) rfl) rfl rfl ?_
    intro x19
    exact T_lret hok dX4_joined_255 (Nat.zero_le _) (Nat.zero_le _) rfl
  refine T_swd ?_
  have nhx10 := toInt_ne (n := 10) rfl hx10
  have nhx11 := toInt_ne (n := 11) rfl hx11
  have nhx23 := toInt_ne (n := 23) rfl hx23
  have nhx24 := toInt_ne (n := 24) rfl hx24
  have nhx25 := toInt_ne (n := 25) rfl hx25
  have nhx26 := toInt_ne (n := 26) rfl hx26
  have nhx27 := toInt_ne (n := 27) rfl hx27
  have nhx28 := toInt_ne (n := 28) rfl hx28
  have nhx29 := toInt_ne (n := 29) rfl hx29
  have nhx30 := toInt_ne (n := 30) rfl hx30
  have nhx31 := toInt_ne (n := 31) rfl hx31
  refine T_tdf (tgt := 256) (n := 22) hok dX4_joined_1 rfl (fun j hj he => ?_) rfl ?_
  · rcases (show j = 0 ∨ j = 1 ∨ j = 2 ∨ j = 3 ∨ j = 4 ∨ j = 5 ∨ j = 6 ∨ j = 7 ∨ j = 8 ∨ j = 9 ∨ j = 10 ∨ j = 11 ∨ j = 12 ∨ j = 13 ∨ j = 14 ∨ j = 15 ∨ j = 16 ∨ j = 17 ∨ j = 18 ∨ j = 19 ∨ j = 20 ∨ j = 21 by omega) with rfl | rfl | rfl | rfl | rfl | rfl | rfl | rfl | rfl | rfl | rfl | rfl | rfl | rfl | rfl | rfl | rfl | rfl | rfl | rfl | rfl | rfl <;> first | rfl | (exfalso; omega)
  refine T_lload_n hok 2 rfl rfl dX4_joined_256 ?_
  refine T_lconst (v := 0) hok rfl dX4_joined_257 ?_
  refine T_jp _ (fun (j271 : Int64 → Option (Int64)) => ∀ (x20 : Int64), T X A (Zm X A (il0 (Wd))) 5 0 0 271 [] [.long x20] (Wd) (j271 x20)) _ ?_ ?_
  · intro x20
    exact T_lret hok dX4_joined_271 (Nat.zero_le _) (Nat.zero_le _) rfl
  intro j271 hj271
  refine T_lcmp_ne (tgt := 268) hok dX4_joined_258 rfl dX4_joined_259 rfl ?_ ?_
  · refine T_ldc2 hok lk_X4_38 dX4_joined_262 ?_
    refine T_goto (tgt := 271) hok dX4_joined_265 rfl ?_
    refine T_sub (lv' := []) [] rfl ?_
    exact hj271 (-9223372036854775808 : Int64)
  refine T_lload_n hok 1 rfl rfl dX4_joined_268 ?_
  refine T_lload_n hok 2 rfl rfl dX4_joined_269 ?_
  refine T_ldiv hok dX4_joined_270 ?_
  refine T_sub (lv' := []) [] rfl ?_
  exact hj271 (a2 / a3)

set_option maxHeartbeats 4000000 in
set_option maxRecDepth 100000 in
theorem ct_X4_value {G : Gx} {l0 : Launch} {A : Nat → Prop} {b : Nat} {L : List Kd} {R : MR} {pl pa na : Nat} (hA : ∀ k, k < L.length → A (b + k)) (hpl : LawsAt b L R pl) (hpa : L[pa]? = some (.inr (1, na))) (I : MI) (J : MJ) (a1 : Int32) : Ct G l0 A yX4_value cX4_value 7 (some .long) { frames := 2, cells := 0, slots := 0, locals := 51 } [.ref (b + pl), .int a1, .ref (b + pa)] (Rg G b L R I J) (il1 (fun (J' : MJ) => Rg G b L R I J')) (f_X4_value I J pl a1 pa na) := by
  refine Ct.of rfl (Nat.le_of_ble_eq_true rfl) ?_
  intro X hok
  replace hok : Ok G l0 X RX4 cX4_value 7 { frames := 2, cells := 0, slots := 0, locals := 51 } (some .long) := hok
  delta f_X4_value
  show T X A (Zm X A (il1 (fun (J' : MJ) => Rg G b L R I J'))) 7 0 0 0 [(0, .ref (b + pl)), (1, .int a1), (2, .ref (b + pa))] [] (Rg G b L R I J) _
  refine T_iconst hok ic_0 dX4_value_0 ?_
  refine T_istore_n (lv' := [(3, .int (0 : Int32)), (0, .ref (b + pl)), (1, .int a1), (2, .ref (b + pa))]) hok rfl (by decide) rfl dX4_value_1 ?_
  refine T_aload_n hok 1 rfl rfl dX4_value_2 ?_
  refine T_getR hok fr_X4_15 hpl.o hpl.r1 dX4_value_3 ?_
  refine T_iload_n hok 2 rfl rfl dX4_value_6 ?_
  refine T_iald hok hpl.l1 dX4_value_7 ?_
  refine T_aload_n hok 1 rfl rfl dX4_value_8 ?_
  refine T_getR hok fr_X4_18 hpl.o hpl.r2 dX4_value_9 ?_
  refine T_iload_n hok 2 rfl rfl dX4_value_12 ?_
  refine T_iald hok hpl.l2 dX4_value_13 ?_
  refine T_iadd hok dX4_value_14 ?_
  refine T_bipush hok bp_64 dX4_value_15 ?_
  refine T_mmin hok mm_mmin ml_X4_32 dX4_value_17 (Nat.le_of_ble_eq_true rfl) (Nat.le_of_ble_eq_true rfl) (Nat.zero_le _) (Nat.zero_le _) ?_
  refine T_lti ?_
  intro x1
  refine T_istore (lv' := [(4, .int x1), (3, .int (0 : Int32)), (0, .ref (b + pl)), (1, .int a1), (2, .ref (b + pa))]) hok (by decide) rfl dX4_value_20 ?_
  refine T_aload_n hok 2 rfl rfl dX4_value_22 ?_
  refine T_getR hok fr_X4_15 hpl.o hpl.r1 dX4_value_23 ?_
  refine T_iload_n hok 3 rfl rfl dX4_value_26 ?_
  refine T_iald hok hpl.l1 dX4_value_27 ?_
  refine T_lti ?_
  intro x2
  refine T_istore (lv' := [(5, .int x2), (4, .int x1), (3, .int (0 : Int32)), (0, .ref (b + pl)), (1, .int a1), (2, .ref (b + pa))]) hok (by decide) rfl dX4_value_28 ?_
  refine T_jp _ (fun (j199 : Int32 → MJ → Option (Int64 × MJ)) => ∀ (x3 : Int32) (J4 : MJ), T X A (Zm X A (il1 (fun (J' : MJ) => Rg G b L R I J'))) 7 0 0 199 [(0, .ref (b + pl)), (3, .int x3)] [] (Rg G b L R I J4) (j199 x3 J4)) _ ?_ ?_
  · intro x3 J4
    refine T_iload_n hok 1 rfl rfl dX4_value_199 ?_
    refine T_iconst hok ic_1 dX4_value_200 ?_
    refine T_jp _ (fun (j216 : Int64 → Option (Int64 × MJ)) => ∀ (x5 : Int64), T X A (Zm X A (il1 (fun (J' : MJ) => Rg G b L R I J'))) 7 0 0 216 [] [.long x5] (Rg G b L R I J4) (j216 x5)) _ ?_ ?_
    · intro x5
      exact T_lret hok dX4_value_216 (Nat.zero_le _) (Nat.zero_le _) rfl
    intro j216 hj216
    refine T_icmp_ne (tgt := 213) hok dX4_value_201 rfl ?_ ?_
    · refine T_aload_n hok 0 rfl rfl dX4_value_204 ?_
      refine T_getR hok fr_X4_21 hpl.o hpl.r3 dX4_value_205 ?_
      refine T_iconst hok ic_0 dX4_value_208 ?_
      refine T_lald hok hpl.l3 dX4_value_209 ?_
      refine T_goto (tgt := 216) hok dX4_value_210 rfl ?_
      refine T_sub (lv' := []) [] rfl ?_
      exact hj216 (J4 (pl + 4) (ix (0 : Int32)))
    refine T_ldc2 hok lk_X4_38 dX4_value_213 ?_
    refine T_sub (lv' := []) [] rfl ?_
    exact hj216 (-9223372036854775808 : Int64)
  intro j199 hj199
  refine T_sub (lv' := [(0, .ref (b + pl)), (2, .ref (b + pa)), (3, .int (0 : Int32)), (4, .int x1), (5, .int x2)]) [3, 5, 2, 1, 0] rfl ?_
  refine T_fix3 _ (fun (x6 : Int32) (x7 : Int32) (J8 : MJ) => [(0, .ref (b + pl)), (2, .ref (b + pa)), (3, .int x6), (4, .int x1), (5, .int x7)]) (fun (x6 : Int32) (x7 : Int32) (J8 : MJ) => Rg G b L R I J8) ?_ FU (0 : Int32) x2 J
  intro r30 hr30 x6 x7 J8
  refine T_iload hok 4 rfl dX4_value_30 ?_
  refine T_iload hok 3 rfl dX4_value_32 ?_
  refine T_icmp_ge (tgt := 199) hok dX4_value_34 rfl ?_ ?_
  · refine T_sub (lv' := [(0, .ref (b + pl)), (3, .int x6)]) [0, 2] rfl ?_
    exact hj199 x6 J8
  refine T_aload_n hok 0 rfl rfl dX4_value_37 ?_
  refine T_getR hok fr_X4_11 hpl.o hpl.r0 dX4_value_38 ?_
  refine T_iload hok 4 rfl dX4_value_41 ?_
  refine T_iald hok hpl.l0 dX4_value_43 ?_
  refine T_lti ?_
  intro x9
  refine T_istore (lv' := [(6, .int x9), (0, .ref (b + pl)), (2, .ref (b + pa)), (3, .int x6), (4, .int x1), (5, .int x7)]) hok (by decide) rfl dX4_value_44 ?_
  refine T_iload hok 0 rfl dX4_value_46 ?_
  refine T_sipush hok sp_20000 dX4_value_48 ?_
  refine T_jp _ (fun (j193 : Int32 → MJ → Option (Int64 × MJ)) => ∀ (x10 : Int32) (J11 : MJ), T X A (Zm X A (il1 (fun (J' : MJ) => Rg G b L R I J'))) 7 0 0 193 [(0, .ref (b + pl)), (2, .ref (b + pa)), (3, .int x10), (4, .int x1), (5, .int x7)] [] (Rg G b L R I J11) (j193 x10 J11)) _ ?_ ?_
  · intro x10 J11
    refine T_iinc (lvs := fun x12 => [(5, .int x12), (0, .ref (b + pl)), (2, .ref (b + pa)), (3, .int x10), (4, .int x1)]) hok 4 rfl ic_1 (by decide) (fun _ => rfl) dX4_value_193 ?_
    intro x12
    refine T_goto (tgt := 30) hok dX4_value_196 rfl ?_
    refine T_sub (lv' := [(0, .ref (b + pl)), (2, .ref (b + pa)), (3, .int x10), (4, .int x1), (5, .int x12)]) [1, 2, 3, 4, 0] rfl ?_
    exact hr30 x10 x12 J11
  intro j193 hj193
  refine T_icmp_ge (tgt := 82) hok dX4_value_51 rfl ?_ ?_
  · refine T_iload hok 0 rfl dX4_value_82 ?_
    refine T_sipush hok sp_20012 dX4_value_84 ?_
    refine T_icmp_ne (tgt := 131) hok dX4_value_87 rfl ?_ ?_
    · refine T_iload_n hok 3 rfl rfl dX4_value_90 ?_
      refine T_iconst hok ic_1 dX4_value_91 ?_
      refine T_icmp_ge (tgt := 99) hok dX4_value_92 rfl ?_ ?_
      · refine T_aload_n hok 1 rfl rfl dX4_value_99 ?_
        refine T_getR hok fr_X4_21 hpl.o hpl.r3 dX4_value_100 ?_
        refine T_iload_n hok 3 rfl rfl dX4_value_103 ?_
        refine T_iconst hok ic_1 dX4_value_104 ?_
        refine T_isub hok dX4_value_105 ?_
        refine T_aload_n hok 1 rfl rfl dX4_value_106 ?_
        refine T_getR hok fr_X4_21 hpl.o hpl.r3 dX4_value_107 ?_
        refine T_iload_n hok 3 rfl rfl dX4_value_110 ?_
        refine T_iconst hok ic_1 dX4_value_111 ?_
        refine T_isub hok dX4_value_112 ?_
        refine T_lald hok hpl.l3 dX4_value_113 ?_
        refine T_lconst (v := 0) hok rfl dX4_value_114 ?_
        refine T_jp _ (fun (j124 : Bool → Int32 → Option (Int64 × MJ)) => ∀ (x13 : Bool) (x14 : Int32), T X A (Zm X A (il1 (fun (J' : MJ) => Rg G b L R I J'))) 7 0 0 124 [(0, .ref (b + pl)), (2, .ref (b + pa)), (3, .int x6), (4, .int x1), (5, .int x7)] [.int (bi x13), .int x14, .ref (b + (pl + 4))] (Rg G b L R I J8) (j124 x13 x14)) _ ?_ ?_
        · intro x13 x14
          refine T_cl0 (CR_S (rest := [.int x14, .ref (b + (pl + 4))]) hok (ct_X4_truth (bi x13)) mw_X4_truth mst_X4_truth ml_X4_46 dX4_value_124 rfl rfl (roomOk rfl) rfl) rfl rfl ?_
          intro x15
          refine T_last hok hA hpl.l3 dX4_value_127 ?_
          intro J16
          refine T_goto (tgt := 193) hok dX4_value_128 rfl ?_
          exact hj193 x6 J16
        intro j124 hj124
        refine T_lcmp_ne (tgt := 123) hok dX4_value_115 rfl dX4_value_116 rfl ?_ ?_
        · refine T_iconst hok ic_1 dX4_value_119 ?_
          refine T_goto (tgt := 124) hok dX4_value_120 rfl ?_
          refine T_sub (lv' := [(0, .ref (b + pl)), (2, .ref (b + pa)), (3, .int x6), (4, .int x1), (5, .int x7)]) [1, 2, 3, 4, 5] rfl ?_
          exact hj124 true (x6 - (1 : Int32))
        refine T_iconst hok ic_0 dX4_value_123 ?_
        refine T_sub (lv' := [(0, .ref (b + pl)), (2, .ref (b + pa)), (3, .int x6), (4, .int x1), (5, .int x7)]) [1, 2, 3, 4, 5] rfl ?_
        exact hj124 false (x6 - (1 : Int32))
      refine T_ldc2 hok lk_X4_38 dX4_value_95 ?_
      exact T_lret hok dX4_value_98 (Nat.zero_le _) (Nat.zero_le _) rfl
    refine T_iload_n hok 3 rfl rfl dX4_value_131 ?_
    refine T_iconst hok ic_2 dX4_value_132 ?_
    refine T_icmp_ge (tgt := 140) hok dX4_value_133 rfl ?_ ?_
    · refine T_iinc (lvs := fun x17 => [(3, .int x17), (6, .int x9), (0, .ref (b + pl)), (2, .ref (b + pa)), (4, .int x1), (5, .int x7)]) hok 3 rfl ic_m1 (by decide) (fun _ => rfl) dX4_value_140 ?_
      intro x17
      refine T_aload_n hok 2 rfl rfl dX4_value_143 ?_
      refine T_getR hok fr_X4_21 hpl.o hpl.r3 dX4_value_144 ?_
      refine T_iload_n hok 0 rfl rfl dX4_value_147 ?_
      refine T_iconst hok ic_1 dX4_value_148 ?_
      refine T_isub hok dX4_value_149 ?_
      refine T_iload hok 1 rfl dX4_value_150 ?_
      refine T_sipush hok sp_20000 dX4_value_152 ?_
      refine T_isub hok dX4_value_155 ?_
      refine T_aload_n hok 2 rfl rfl dX4_value_156 ?_
      refine T_getR hok fr_X4_21 hpl.o hpl.r3 dX4_value_157 ?_
      refine T_iload_n hok 0 rfl rfl dX4_value_160 ?_
      refine T_iconst hok ic_1 dX4_value_161 ?_
      refine T_isub hok dX4_value_162 ?_
      refine T_lald hok hpl.l3 dX4_value_163 ?_
      refine T_aload_n hok 2 rfl rfl dX4_value_164 ?_
      refine T_getR hok fr_X4_21 hpl.o hpl.r3 dX4_value_165 ?_
      refine T_iload_n hok 0 rfl rfl dX4_value_168 ?_
      refine T_lald hok hpl.l3 dX4_value_169 ?_
      refine T_cl0 (CR_S (rest := [.int (x17 - (1 : Int32)), .ref (b + (pl + 4))]) hok (ct_X4_joined (x9 - (20000 : Int32)) (J8 (pl + 4) (ix (x17 - (1 : Int32)))) (J8 (pl + 4) (ix x17))) mw_X4_joined mst_X4_joined ml_X4_50 dX4_value_170 rfl rfl (roomOk rfl) rfl) rfl rfl ?_
      intro x18
      refine T_last hok hA hpl.l3 dX4_value_173 ?_
      intro J19
      refine T_aload_n hok 2 rfl rfl dX4_value_174 ?_
      refine T_getR hok fr_X4_21 hpl.o hpl.r3 dX4_value_175 ?_
      refine T_iload_n hok 0 rfl rfl dX4_value_178 ?_
      refine T_iconst hok ic_1 dX4_value_179 ?_
      refine T_isub hok dX4_value_180 ?_
      refine T_lald hok hpl.l3 dX4_value_181 ?_
      refine T_ldc2 hok lk_X4_38 dX4_value_182 ?_
      refine T_lcmp_ne (tgt := 193) hok dX4_value_185 rfl dX4_value_186 rfl ?_ ?_
      · refine T_ldc2 hok lk_X4_38 dX4_value_189 ?_
        exact T_lret hok dX4_value_192 (Nat.zero_le _) (Nat.zero_le _) rfl
      refine T_sub (lv' := [(0, .ref (b + pl)), (2, .ref (b + pa)), (3, .int x17), (4, .int x1), (5, .int x7)]) [2, 3, 0, 4, 5] rfl ?_
      exact hj193 x17 J19
    refine T_ldc2 hok lk_X4_38 dX4_value_136 ?_
    exact T_lret hok dX4_value_139 (Nat.zero_le _) (Nat.zero_le _) rfl
  refine T_iload_n hok 3 rfl rfl dX4_value_54 ?_
  refine T_bipush hok bp_64 dX4_value_55 ?_
  refine T_icmp_lt (tgt := 64) hok dX4_value_57 rfl ?_ ?_
  · refine T_aload_n hok 1 rfl rfl dX4_value_64 ?_
    refine T_getR hok fr_X4_21 hpl.o hpl.r3 dX4_value_65 ?_
    refine T_iload_n hok 3 rfl rfl dX4_value_68 ?_
    refine T_iload hok 0 rfl dX4_value_69 ?_
    refine T_aload_n hok 2 rfl rfl dX4_value_71 ?_
    refine T_cl0 (CR_S (rest := [.int x6, .ref (b + (pl + 4))]) hok (ct_X4_operand hA hpa I J8 x9) mw_X4_operand mst_X4_operand ml_X4_40 dX4_value_72 rfl rfl (roomOk rfl) rfl) rfl rfl ?_
    intro x20
    refine T_last hok hA hpl.l3 dX4_value_75 ?_
    intro J21
    refine T_iinc (lvs := fun x22 => [(3, .int x22), (6, .int x9), (0, .ref (b + pl)), (2, .ref (b + pa)), (4, .int x1), (5, .int x7)]) hok 3 rfl ic_1 (by decide) (fun _ => rfl) dX4_value_76 ?_
    intro x22
    refine T_goto (tgt := 193) hok dX4_value_79 rfl ?_
    refine T_sub (lv' := [(0, .ref (b + pl)), (2, .ref (b + pa)), (3, .int x22), (4, .int x1), (5, .int x7)]) [2, 3, 0, 4, 5] rfl ?_
    exact hj193 x22 J21
  refine T_ldc2 hok lk_X4_38 dX4_value_60 ?_
  exact T_lret hok dX4_value_63 (Nat.zero_le _) (Nat.zero_le _) rfl

set_option maxHeartbeats 4000000 in
set_option maxRecDepth 100000 in
theorem ct_X1_clamped {G : Gx} {l0 : Launch} {A : Nat → Prop} {Wd : Heap → Prop} (a1 : Int64) (a2 : Int32) (a3 : Int32) : Ct G l0 A yX1_clamped cX1_clamped 4 (some .int) { frames := 1, cells := 0, slots := 0, locals := 23 } [.long a1, .int a2, .int a3] (Wd) (ii0 (Wd)) (f_X1_clamped a1 a2 a3) := by
  refine Ct.of rfl (Nat.le_of_ble_eq_true rfl) ?_
  intro X hok
  replace hok : Ok G l0 X RX1 cX1_clamped 4 { frames := 1, cells := 0, slots := 0, locals := 23 } (some .int) := hok
  delta f_X1_clamped
  show T X A (Zm X A (ii0 (Wd))) 4 0 0 0 [(0, .long a1), (2, .int a2), (3, .int a3)] [] (Wd) _
  refine T_iload_n hok 1 rfl rfl dX1_clamped_0 ?_
  refine T_i2l hok dX1_clamped_1 ?_
  refine T_iload_n hok 2 rfl rfl dX1_clamped_2 ?_
  refine T_i2l hok dX1_clamped_3 ?_
  refine T_lload_n hok 0 rfl rfl dX1_clamped_4 ?_
  refine T_mminl hok mm_mminl ml_X1_145 dX1_clamped_5 (Nat.le_of_ble_eq_true rfl) (Nat.le_of_ble_eq_true rfl) (Nat.zero_le _) (Nat.zero_le _) ?_
  refine T_mmaxl hok mm_mmaxl ml_X1_148 dX1_clamped_8 (Nat.le_of_ble_eq_true rfl) (Nat.le_of_ble_eq_true rfl) (Nat.zero_le _) (Nat.zero_le _) ?_
  refine T_l2i hok dX1_clamped_11 ?_
  exact T_iret hok dX1_clamped_12 (Nat.zero_le _) (Nat.zero_le _) rfl

set_option maxHeartbeats 4000000 in
set_option maxRecDepth 100000 in
theorem ct_X1_look {G : Gx} {l0 : Launch} {A : Nat → Prop} {b bk dr it : Nat} {pb pt : Nat} (hA : ∀ k, k < Lc.length → A (b + k)) (hpb : isBk pb = true) (hpt : isTn pt = true) (I : MI) (J : MJ) (a3 : Int32) (a4 : Int32) : Ct G l0 A yX1_look cX1_look 11 none { frames := 3, cells := 0, slots := 0, locals := 77 } [.ref (b + 62), .ref (b + pb), .ref (b + pt), .int a3, .int a4] (Rg G b Lc (Rc b bk dr it) I J) (iv2 (fun (I' : MI) (J' : MJ) => Rg G b Lc (Rc b bk dr it) I' J')) (f_X1_look I J pb pt a3 a4) := by
  refine Ct.of rfl (Nat.le_of_ble_eq_true rfl) ?_
  intro X hok
  replace hok : Ok G l0 X RX1 cX1_look 11 { frames := 3, cells := 0, slots := 0, locals := 77 } none := hok
  delta f_X1_look
  show T X A (Zm X A (iv2 (fun (I' : MI) (J' : MJ) => Rg G b Lc (Rc b bk dr it) I' J'))) 11 0 0 0 [(0, .ref (b + 62)), (1, .ref (b + pb)), (2, .ref (b + pt)), (3, .int a3), (4, .int a4)] [] (Rg G b Lc (Rc b bk dr it) I J) _
  refine T_aload_n hok 0 rfl rfl dX1_look_0 ?_
  refine T_aload_n hok 1 rfl rfl dX1_look_1 ?_
  refine T_aload_n hok 2 rfl rfl dX1_look_2 ?_
  refine T_iload_n hok 3 rfl rfl dX1_look_3 ?_
  refine T_iload hok 4 rfl dX1_look_4 ?_
  refine T_cv1 (CR_V (rest := []) hok (ct_X1_name hA hpb hpt I J a3 a4) mw_X1_name mv_X1_name ml_X1_115 lc_62 dX1_look_6 rfl rfl (roomOk rfl) rfl) rfl rfl ?_
  intro J1
  refine T_aload_n hok 1 rfl rfl dX1_look_9 ?_
  refine T_getR hok fr_X1_118 (bookAt_c (b := 0) (bk := 0) (dr := 0) (it := 0) hpb).o (bookAt_c hpb).r10 dX1_look_10 ?_
  refine T_iconst hok ic_0 dX1_look_13 ?_
  refine T_aload_n hok 0 rfl rfl dX1_look_14 ?_
  refine T_getR hok fr_X1_9 lc_62 rc_62_0 dX1_look_15 ?_
  refine T_cl1 (CR_V (rest := []) hok (ct_X4_value hA (bookAt_c hpb).laws lc_63 I J1 (0 : Int32)) mw_X4_value mv_X4_value ml_X1_122 (bookAt_c (b := 0) (bk := 0) (dr := 0) (it := 0) hpb).laws.o dX1_look_18 rfl rfl (roomOk rfl) rfl) rfl rfl ?_
  intro x2 J3
  refine T_lconst (v := 0) hok rfl dX1_look_21 ?_
  refine T_lcmp_ne (tgt := 27) hok dX1_look_22 rfl dX1_look_23 rfl ?_ ?_
  · exact T_vret hok dX1_look_26 (Nat.zero_le _) (Nat.zero_le _) rfl
  refine T_aload_n hok 2 rfl rfl dX1_look_27 ?_
  refine T_getR hok fr_X1_128 (townAt_c (b := 0) (bk := 0) (dr := 0) (it := 0) hpt).o (townAt_c hpt).r3 dX1_look_28 ?_
  refine T_iload_n hok 3 rfl rfl dX1_look_31 ?_
  refine T_dup2 hok rfl rfl dX1_look_32 ?_
  refine T_iald hok (townAt_c (b := 0) (bk := 0) (dr := 0) (it := 0) hpt).l3 dX1_look_33 ?_
  refine T_iconst hok ic_1 dX1_look_34 ?_
  refine T_iadd hok dX1_look_35 ?_
  refine T_iast hok hA (townAt_c (b := 0) (bk := 0) (dr := 0) (it := 0) hpt).l3 dX1_look_36 ?_
  intro I4
  refine T_aload_n hok 1 rfl rfl dX1_look_37 ?_
  refine T_getR hok fr_X1_118 (bookAt_c (b := 0) (bk := 0) (dr := 0) (it := 0) hpb).o (bookAt_c hpb).r10 dX1_look_38 ?_
  refine T_iconst hok ic_1 dX1_look_41 ?_
  refine T_aload_n hok 0 rfl rfl dX1_look_42 ?_
  refine T_getR hok fr_X1_9 lc_62 rc_62_0 dX1_look_43 ?_
  refine T_cl1 (CR_V (rest := []) hok (ct_X4_value hA (bookAt_c hpb).laws lc_63 I4 J3 (1 : Int32)) mw_X4_value mv_X4_value ml_X1_122 (bookAt_c (b := 0) (bk := 0) (dr := 0) (it := 0) hpb).laws.o dX1_look_46 rfl rfl (roomOk rfl) rfl) rfl rfl ?_
  intro x5 J6
  refine T_lstore (lv' := [(5, .long x5), (0, .ref (b + 62)), (1, .ref (b + pb)), (2, .ref (b + pt)), (3, .int a3), (4, .int a4)]) hok (by decide) rfl dX1_look_49 ?_
  refine T_lload hok 0 rfl dX1_look_51 ?_
  refine T_ldc2 hok lk_X1_131 dX1_look_53 ?_
  refine T_jp _ (fun (j77 : Int32 → Option (MI × MJ)) => ∀ (x7 : Int32), T X A (Zm X A (iv2 (fun (I' : MI) (J' : MJ) => Rg G b Lc (Rc b bk dr it) I' J'))) 11 0 0 77 [(0, .ref (b + 62)), (1, .ref (b + pb)), (2, .ref (b + pt)), (3, .int a3), (4, .int a4)] [.int x7] (Rg G b Lc (Rc b bk dr it) I4 J6) (j77 x7)) _ ?_ ?_
  · intro x7
    refine T_istore (lv' := [(7, .int x7), (0, .ref (b + 62)), (1, .ref (b + pb)), (2, .ref (b + pt)), (3, .int a3), (4, .int a4)]) hok (by decide) rfl dX1_look_77 ?_
    refine T_aload_n hok 3 rfl rfl dX1_look_79 ?_
    refine T_getR hok fr_X1_109 (townAt_c (b := 0) (bk := 0) (dr := 0) (it := 0) hpt).o (townAt_c hpt).r2 dX1_look_80 ?_
    refine T_iload_n hok 4 rfl rfl dX1_look_83 ?_
    refine T_ldc hok lk_X1_137 dX1_look_84 ?_
    refine T_aload_n hok 3 rfl rfl dX1_look_86 ?_
    refine T_getR hok fr_X1_109 (townAt_c (b := 0) (bk := 0) (dr := 0) (it := 0) hpt).o (townAt_c hpt).r2 dX1_look_87 ?_
    refine T_iload_n hok 4 rfl rfl dX1_look_90 ?_
    refine T_iald hok (townAt_c (b := 0) (bk := 0) (dr := 0) (it := 0) hpt).l2 dX1_look_91 ?_
    refine T_iload hok 0 rfl dX1_look_92 ?_
    refine T_iadd hok dX1_look_94 ?_
    refine T_mmin hok mm_mmin ml_X1_138 dX1_look_95 (Nat.le_of_ble_eq_true rfl) (Nat.le_of_ble_eq_true rfl) (Nat.zero_le _) (Nat.zero_le _) ?_
    refine T_iast hok hA (townAt_c (b := 0) (bk := 0) (dr := 0) (it := 0) hpt).l2 dX1_look_98 ?_
    intro I8
    refine T_aload_n hok 1 rfl rfl dX1_look_99 ?_
    refine T_getR hok fr_X1_9 lc_62 rc_62_0 dX1_look_100 ?_
    refine T_iconst hok ic_4 dX1_look_103 ?_
    refine T_aload_n hok 3 rfl rfl dX1_look_104 ?_
    refine T_getR hok fr_X1_109 (townAt_c (b := 0) (bk := 0) (dr := 0) (it := 0) hpt).o (townAt_c hpt).r2 dX1_look_105 ?_
    refine T_iload_n hok 4 rfl rfl dX1_look_108 ?_
    refine T_iald hok (townAt_c (b := 0) (bk := 0) (dr := 0) (it := 0) hpt).l2 dX1_look_109 ?_
    refine T_i2l hok dX1_look_110 ?_
    refine T_last hok hA lc_63 dX1_look_111 ?_
    intro J9
    refine T_aload_n hok 2 rfl rfl dX1_look_112 ?_
    refine T_getR hok fr_X1_118 (bookAt_c (b := 0) (bk := 0) (dr := 0) (it := 0) hpb).o (bookAt_c hpb).r10 dX1_look_113 ?_
    refine T_iconst hok ic_2 dX1_look_116 ?_
    refine T_aload_n hok 1 rfl rfl dX1_look_117 ?_
    refine T_getR hok fr_X1_9 lc_62 rc_62_0 dX1_look_118 ?_
    refine T_cl1 (CR_V (rest := []) hok (ct_X4_value hA (bookAt_c hpb).laws lc_63 I8 J9 (2 : Int32)) mw_X4_value mv_X4_value ml_X1_122 (bookAt_c (b := 0) (bk := 0) (dr := 0) (it := 0) hpb).laws.o dX1_look_121 rfl rfl (roomOk rfl) rfl) rfl rfl ?_
    intro x10 J11
    refine T_lstore (lv' := [(8, .long x10), (7, .int x7), (0, .ref (b + 62)), (1, .ref (b + pb)), (2, .ref (b + pt)), (3, .int a3), (4, .int a4)]) hok (by decide) rfl dX1_look_124 ?_
    refine T_lload hok 0 rfl dX1_look_126 ?_
    refine T_ldc2 hok lk_X1_131 dX1_look_128 ?_
    refine T_jp _ (fun (j159 : Int32 → Option (MI × MJ)) => ∀ (x12 : Int32), T X A (Zm X A (iv2 (fun (I' : MI) (J' : MJ) => Rg G b Lc (Rc b bk dr it) I' J'))) 11 0 0 159 [(2, .ref (b + pt)), (3, .int a3)] [.int x12] (Rg G b Lc (Rc b bk dr it) I8 J11) (j159 x12)) _ ?_ ?_
    · intro x12
      refine T_istore (lv' := [(10, .int x12), (2, .ref (b + pt)), (3, .int a3)]) hok (by decide) rfl dX1_look_159 ?_
      refine T_aload_n hok 1 rfl rfl dX1_look_161 ?_
      refine T_getR hok fr_X1_106 (townAt_c (b := 0) (bk := 0) (dr := 0) (it := 0) hpt).o (townAt_c hpt).r1 dX1_look_162 ?_
      refine T_iload_n hok 2 rfl rfl dX1_look_165 ?_
      refine T_aload_n hok 1 rfl rfl dX1_look_166 ?_
      refine T_getR hok fr_X1_106 (townAt_c (b := 0) (bk := 0) (dr := 0) (it := 0) hpt).o (townAt_c hpt).r1 dX1_look_167 ?_
      refine T_iload_n hok 2 rfl rfl dX1_look_170 ?_
      refine T_iald hok (townAt_c (b := 0) (bk := 0) (dr := 0) (it := 0) hpt).l1 dX1_look_171 ?_
      refine T_iload hok 0 rfl dX1_look_172 ?_
      refine T_iadd hok dX1_look_174 ?_
      refine T_i2l hok dX1_look_175 ?_
      refine T_ldc hok lk_X1_144 dX1_look_176 ?_
      refine T_ldc hok lk_X1_137 dX1_look_178 ?_
      refine T_ci0 (CR_S (rest := [.int a3, .ref (b + (pt + 2))]) hok (ct_X1_clamped (Int32.toInt64 ((I8 (pt + 2) (ix a3)) + x12)) (-99999 : Int32) (99999 : Int32)) mw_X1_clamped mst_X1_clamped ml_X1_133 dX1_look_180 rfl rfl (roomOk rfl) rfl) rfl rfl ?_
      intro x13
      refine T_iast hok hA (townAt_c (b := 0) (bk := 0) (dr := 0) (it := 0) hpt).l1 dX1_look_183 ?_
      intro I14
      exact T_vret hok dX1_look_184 (Nat.zero_le _) (Nat.zero_le _) rfl
    intro j159 hj159
    refine T_lcmp_ne (tgt := 148) hok dX1_look_131 rfl dX1_look_132 rfl ?_ ?_
    · refine T_aload_n hok 2 rfl rfl dX1_look_135 ?_
      refine T_aload_n hok 3 rfl rfl dX1_look_136 ?_
      refine T_iload hok 6 rfl dX1_look_137 ?_
      refine T_ci0 (CR_V (rest := []) hok (ct_X1_worth hA hpb I8 J11 a4) mw_X1_worth mv_X1_worth ml_X1_98 lc_62 dX1_look_139 rfl rfl (roomOk rfl) rfl) rfl rfl ?_
      intro x15
      refine T_iload hok 1 rfl dX1_look_142 ?_
      refine T_imul hok dX1_look_144 ?_
      refine T_goto (tgt := 159) hok dX1_look_145 rfl ?_
      refine T_sub (lv' := [(2, .ref (b + pt)), (3, .int a3)]) [4, 5] rfl ?_
      exact hj159 (x15 * x7)
    refine T_lload hok 0 rfl dX1_look_148 ?_
    refine T_sipush hok sp_m999 dX1_look_150 ?_
    refine T_sipush hok sp_999 dX1_look_153 ?_
    refine T_ci0 (CR_S (rest := []) hok (ct_X1_clamped x10 (-999 : Int32) (999 : Int32)) mw_X1_clamped mst_X1_clamped ml_X1_133 dX1_look_156 rfl rfl (roomOk rfl) rfl) rfl rfl ?_
    intro x16
    refine T_sub (lv' := [(2, .ref (b + pt)), (3, .int a3)]) [4, 5] rfl ?_
    exact hj159 x16
  intro j77 hj77
  refine T_lcmp_ne (tgt := 69) hok dX1_look_56 rfl dX1_look_57 rfl ?_ ?_
  · refine T_aload_n hok 1 rfl rfl dX1_look_60 ?_
    refine T_aload_n hok 2 rfl rfl dX1_look_61 ?_
    refine T_iload_n hok 4 rfl rfl dX1_look_62 ?_
    refine T_ci0 (CR_V (rest := []) hok (ct_X1_eager hA hpb I4 J6 a3) mw_X1_eager mv_X1_eager ml_X1_101 lc_62 dX1_look_63 rfl rfl (roomOk rfl) rfl) rfl rfl ?_
    intro x17
    refine T_goto (tgt := 77) hok dX1_look_66 rfl ?_
    refine T_sub (lv' := [(0, .ref (b + 62)), (1, .ref (b + pb)), (2, .ref (b + pt)), (3, .int a3), (4, .int a4)]) [1, 2, 3, 4, 5] rfl ?_
    exact hj77 x17
  refine T_lload hok 0 rfl dX1_look_69 ?_
  refine T_iconst hok ic_0 dX1_look_71 ?_
  refine T_bipush hok bp_99 dX1_look_72 ?_
  refine T_ci0 (CR_S (rest := []) hok (ct_X1_clamped x5 (0 : Int32) (99 : Int32)) mw_X1_clamped mst_X1_clamped ml_X1_133 dX1_look_74 rfl rfl (roomOk rfl) rfl) rfl rfl ?_
  intro x18
  refine T_sub (lv' := [(0, .ref (b + 62)), (1, .ref (b + pb)), (2, .ref (b + pt)), (3, .int a3), (4, .int a4)]) [1, 2, 3, 4, 5] rfl ?_
  exact hj77 x18

set_option maxHeartbeats 4000000 in
set_option maxRecDepth 100000 in
theorem ct_X1_pay {G : Gx} {l0 : Launch} {A : Nat → Prop} {b bk dr it : Nat} {pb pt : Nat} (hA : ∀ k, k < Lc.length → A (b + k)) (hpb : isBk pb = true) (hpt : isTn pt = true) (I : MI) (J : MJ) (a3 : Int32) : Ct G l0 A yX1_pay cX1_pay 4 none { frames := 1, cells := 0, slots := 0, locals := 21 } [.ref (b + pb), .ref (b + pt), .int a3] (Rg G b Lc (Rc b bk dr it) I J) (iv1 (fun (I' : MI) => Rg G b Lc (Rc b bk dr it) I' J)) (f_X1_pay I pb pt a3) := by
  refine Ct.of rfl (Nat.le_of_ble_eq_true rfl) ?_
  intro X hok
  replace hok : Ok G l0 X RX1 cX1_pay 4 { frames := 1, cells := 0, slots := 0, locals := 21 } none := hok
  delta f_X1_pay
  show T X A (Zm X A (iv1 (fun (I' : MI) => Rg G b Lc (Rc b bk dr it) I' J))) 4 0 0 0 [(0, .ref (b + pb)), (1, .ref (b + pt)), (2, .int a3)] [] (Rg G b Lc (Rc b bk dr it) I J) _
  refine T_aload_n hok 1 rfl rfl dX1_pay_0 ?_
  refine T_getR hok fr_X1_103 (townAt_c (b := 0) (bk := 0) (dr := 0) (it := 0) hpt).o (townAt_c hpt).r0 dX1_pay_1 ?_
  refine T_iload_n hok 2 rfl rfl dX1_pay_4 ?_
  refine T_iald hok (townAt_c (b := 0) (bk := 0) (dr := 0) (it := 0) hpt).l0 dX1_pay_5 ?_
  refine T_aload_n hok 0 rfl rfl dX1_pay_6 ?_
  refine T_getR hok fr_X1_151 (bookAt_c (b := 0) (bk := 0) (dr := 0) (it := 0) hpb).o (bookAt_c hpb).r6 dX1_pay_7 ?_
  refine T_iload_n hok 2 rfl rfl dX1_pay_10 ?_
  refine T_iald hok (bookAt_c (b := 0) (bk := 0) (dr := 0) (it := 0) hpb).l6 dX1_pay_11 ?_
  refine T_iadd hok dX1_pay_12 ?_
  refine T_aload_n hok 1 rfl rfl dX1_pay_13 ?_
  refine T_getR hok fr_X1_106 (townAt_c (b := 0) (bk := 0) (dr := 0) (it := 0) hpt).o (townAt_c hpt).r1 dX1_pay_14 ?_
  refine T_iload_n hok 2 rfl rfl dX1_pay_17 ?_
  refine T_iald hok (townAt_c (b := 0) (bk := 0) (dr := 0) (it := 0) hpt).l1 dX1_pay_18 ?_
  refine T_isub hok dX1_pay_19 ?_
  refine T_lti ?_
  intro x1
  refine T_istore_n (lv' := [(3, .int x1), (0, .ref (b + pb)), (1, .ref (b + pt)), (2, .int a3)]) hok rfl (by decide) rfl dX1_pay_20 ?_
  refine T_aload_n hok 2 rfl rfl dX1_pay_21 ?_
  refine T_getR hok fr_X1_103 (townAt_c (b := 0) (bk := 0) (dr := 0) (it := 0) hpt).o (townAt_c hpt).r0 dX1_pay_22 ?_
  refine T_iload_n hok 3 rfl rfl dX1_pay_25 ?_
  refine T_ldc hok lk_X1_137 dX1_pay_26 ?_
  refine T_iload_n hok 0 rfl rfl dX1_pay_28 ?_
  refine T_mmin hok mm_mmin ml_X1_138 dX1_pay_29 (Nat.le_of_ble_eq_true rfl) (Nat.le_of_ble_eq_true rfl) (Nat.zero_le _) (Nat.zero_le _) ?_
  refine T_iast hok hA (townAt_c (b := 0) (bk := 0) (dr := 0) (it := 0) hpt).l0 dX1_pay_32 ?_
  intro I2
  refine T_aload_n hok 2 rfl rfl dX1_pay_33 ?_
  refine T_getR hok fr_X1_106 (townAt_c (b := 0) (bk := 0) (dr := 0) (it := 0) hpt).o (townAt_c hpt).r1 dX1_pay_34 ?_
  refine T_iload_n hok 3 rfl rfl dX1_pay_37 ?_
  refine T_iconst hok ic_0 dX1_pay_38 ?_
  refine T_iast hok hA (townAt_c (b := 0) (bk := 0) (dr := 0) (it := 0) hpt).l1 dX1_pay_39 ?_
  intro I3
  refine T_aload_n hok 2 rfl rfl dX1_pay_40 ?_
  refine T_getR hok fr_X1_51 (townAt_c (b := 0) (bk := 0) (dr := 0) (it := 0) hpt).o (townAt_c hpt).r4 dX1_pay_41 ?_
  refine T_iload_n hok 3 rfl rfl dX1_pay_44 ?_
  refine T_iload_n hok 0 rfl rfl dX1_pay_45 ?_
  refine T_jp _ (fun (j54 : Bool → Int32 → Option (MI)) => ∀ (x4 : Bool) (x5 : Int32), T X A (Zm X A (iv1 (fun (I' : MI) => Rg G b Lc (Rc b bk dr it) I' J))) 4 0 0 54 [] [.int (bi x4), .int x5, .ref (b + (pt + 5))] (Rg G b Lc (Rc b bk dr it) I3 J) (j54 x4 x5)) _ ?_ ?_
  · intro x4 x5
    refine T_zast hok hA (townAt_c (b := 0) (bk := 0) (dr := 0) (it := 0) hpt).l4 dX1_pay_54 ?_
    intro I6
    exact T_vret hok dX1_pay_55 (Nat.zero_le _) (Nat.zero_le _) rfl
  intro j54 hj54
  refine T_if_ge (tgt := 53) hok dX1_pay_46 rfl ?_ ?_
  · refine T_iconst hok ic_0 dX1_pay_53 ?_
    refine T_sub (lv' := []) [] rfl ?_
    exact hj54 false a3
  refine T_iconst hok ic_1 dX1_pay_49 ?_
  refine T_goto (tgt := 54) hok dX1_pay_50 rfl ?_
  refine T_sub (lv' := []) [] rfl ?_
  exact hj54 true a3

set_option maxHeartbeats 4000000 in
set_option maxRecDepth 100000 in
theorem ct_X1_pass {G : Gx} {l0 : Launch} {A : Nat → Prop} {b bk dr it : Nat} {pb pt : Nat} (hA : ∀ k, k < Lc.length → A (b + k)) (hpb : isBk pb = true) (hpt : isTn pt = true) (I : MI) (J : MJ) (a3 : Int32) : Ct G l0 A yX1_pass cX1_pass 6 none { frames := 4, cells := 0, slots := 0, locals := 107 } [.ref (b + 62), .ref (b + pb), .ref (b + pt), .int a3] (Rg G b Lc (Rc b bk dr it) I J) (iv2 (fun (I' : MI) (J' : MJ) => Rg G b Lc (Rc b bk dr it) I' J')) (f_X1_pass I J pb pt a3) := by
  refine Ct.of rfl (Nat.le_of_ble_eq_true rfl) ?_
  intro X hok
  replace hok : Ok G l0 X RX1 cX1_pass 6 { frames := 4, cells := 0, slots := 0, locals := 107 } none := hok
  delta f_X1_pass
  show T X A (Zm X A (iv2 (fun (I' : MI) (J' : MJ) => Rg G b Lc (Rc b bk dr it) I' J'))) 6 0 0 0 [(0, .ref (b + 62)), (1, .ref (b + pb)), (2, .ref (b + pt)), (3, .int a3)] [] (Rg G b Lc (Rc b bk dr it) I J) _
  refine T_aload_n hok 0 rfl rfl dX1_pass_0 ?_
  refine T_aload_n hok 1 rfl rfl dX1_pass_1 ?_
  refine T_aload_n hok 2 rfl rfl dX1_pass_2 ?_
  refine T_ci1 (CR_V (rest := []) hok (ct_X1_kindOf hA hpb hpt I J) mw_X1_kindOf mv_X1_kindOf ml_X1_28 lc_62 dX1_pass_3 rfl rfl (roomOk rfl) rfl) rfl rfl ?_
  intro x1 I2
  refine T_istore (lv' := [(4, .int x1), (0, .ref (b + 62)), (1, .ref (b + pb)), (2, .ref (b + pt)), (3, .int a3)]) hok (by decide) rfl dX1_pass_6 ?_
  refine T_iload hok 0 rfl dX1_pass_8 ?_
  refine T_iconst hok ic_m1 dX1_pass_10 ?_
  refine T_jp _ (fun (j95 : MI → MJ → Option (MI × MJ)) => ∀ (I3 : MI) (J4 : MJ), T X A (Zm X A (iv2 (fun (I' : MI) (J' : MJ) => Rg G b Lc (Rc b bk dr it) I' J'))) 6 0 0 95 [(0, .ref (b + 62)), (1, .ref (b + pb)), (2, .ref (b + pt)), (3, .int a3)] [] (Rg G b Lc (Rc b bk dr it) I3 J4) (j95 I3 J4)) _ ?_ ?_
  · intro I3 J4
    refine T_aload_n hok 0 rfl rfl dX1_pass_95 ?_
    refine T_getI hok fr_X1_25 lc_62 dX1_pass_96 ?_
    refine T_jp _ (fun (j158 : MI → Option (MI × MJ)) => ∀ (I5 : MI), T X A (Zm X A (iv2 (fun (I' : MI) (J' : MJ) => Rg G b Lc (Rc b bk dr it) I' J'))) 6 0 0 158 [(2, .ref (b + pt))] [] (Rg G b Lc (Rc b bk dr it) I5 J4) (j158 I5)) _ ?_ ?_
    · intro I5
      refine T_aload_n hok 0 rfl rfl dX1_pass_158 ?_
      refine T_dup hok rfl dX1_pass_159 ?_
      refine T_getI hok fr_X1_62 (townAt_c (b := 0) (bk := 0) (dr := 0) (it := 0) hpt).o dX1_pass_160 ?_
      refine T_iconst hok ic_1 dX1_pass_163 ?_
      refine T_iadd hok dX1_pass_164 ?_
      refine T_putI hok hA fr_X1_62 rfl rfl (townAt_c (b := 0) (bk := 0) (dr := 0) (it := 0) hpt).o dX1_pass_165 ?_
      intro I6
      refine T_aload_n hok 0 rfl rfl dX1_pass_168 ?_
      refine T_iconst hok ic_m1 dX1_pass_169 ?_
      refine T_putI hok hA fr_X1_73 rfl rfl (townAt_c (b := 0) (bk := 0) (dr := 0) (it := 0) hpt).o dX1_pass_170 ?_
      intro I7
      exact T_vret hok dX1_pass_173 (Nat.zero_le _) (Nat.zero_le _) rfl
    intro j158 hj158
    refine T_if_ne (tgt := 158) hok dX1_pass_99 rfl ?_ ?_
    · refine T_aload_n hok 1 rfl rfl dX1_pass_102 ?_
      refine T_aload_n hok 2 rfl rfl dX1_pass_103 ?_
      refine T_getI hok fr_X1_62 (townAt_c (b := 0) (bk := 0) (dr := 0) (it := 0) hpt).o dX1_pass_104 ?_
      refine T_ci0 (CR_V (rest := []) hok (ct_X0_daysToTerm hA (bookAt_c hpb) I3 J4 (I3 pt 8)) mw_X0_daysToTerm mv_X0_daysToTerm ml_X1_65 (bookAt_c (b := 0) (bk := 0) (dr := 0) (it := 0) hpb).o dX1_pass_107 rfl rfl (roomOk rfl) rfl) rfl rfl ?_
      intro x8
      refine T_iconst hok ic_1 dX1_pass_110 ?_
      refine T_icmp_ne (tgt := 158) hok dX1_pass_111 rfl ?_ ?_
      · refine T_iconst hok ic_0 dX1_pass_114 ?_
        refine T_istore (lv' := [(5, .int (0 : Int32)), (0, .ref (b + 62)), (1, .ref (b + pb)), (2, .ref (b + pt)), (3, .int a3)]) hok (by decide) rfl dX1_pass_115 ?_
        refine T_sub (lv' := [(1, .ref (b + pb)), (2, .ref (b + pt)), (3, .int a3), (5, .int (0 : Int32))]) [2, 3, 4, 0] rfl ?_
        refine T_fix2 _ (fun (x9 : Int32) (I10 : MI) => [(1, .ref (b + pb)), (2, .ref (b + pt)), (3, .int a3), (5, .int x9)]) (fun (x9 : Int32) (I10 : MI) => Rg G b Lc (Rc b bk dr it) I10 J4) ?_ FU (0 : Int32) I3
        intro r117 hr117 x9 I10
        refine T_iload hok 3 rfl dX1_pass_117 ?_
        refine T_aload_n hok 0 rfl rfl dX1_pass_119 ?_
        refine T_getI hok fr_X1_42 (bookAt_c (b := 0) (bk := 0) (dr := 0) (it := 0) hpb).o dX1_pass_120 ?_
        refine T_icmp_ge (tgt := 158) hok dX1_pass_123 rfl ?_ ?_
        · refine T_sub (lv' := [(2, .ref (b + pt))]) [1] rfl ?_
          exact hj158 I10
        refine T_iload hok 3 rfl dX1_pass_126 ?_
        refine T_iload_n hok 2 rfl rfl dX1_pass_128 ?_
        refine T_cz0 (CR_S (rest := []) hok (ct_X1_isMeant x9 a3) mw_X1_isMeant mst_X1_isMeant ml_X1_47 dX1_pass_129 rfl rfl (roomOk rfl) rfl) rfl rfl ?_
        intro x11
        refine T_jp _ (fun (j152 : MI → Option (MI × MJ)) => ∀ (I12 : MI), T X A (Zm X A (iv2 (fun (I' : MI) (J' : MJ) => Rg G b Lc (Rc b bk dr it) I' J'))) 6 0 0 152 [(1, .ref (b + pb)), (2, .ref (b + pt)), (3, .int a3), (5, .int x9)] [] (Rg G b Lc (Rc b bk dr it) I12 J4) (j152 I12)) _ ?_ ?_
        · intro I12
          refine T_iinc (lvs := fun x13 => [(5, .int x13), (1, .ref (b + pb)), (2, .ref (b + pt)), (3, .int a3)]) hok 3 rfl ic_1 (by decide) (fun _ => rfl) dX1_pass_152 ?_
          intro x13
          refine T_goto (tgt := 117) hok dX1_pass_155 rfl ?_
          refine T_sub (lv' := [(1, .ref (b + pb)), (2, .ref (b + pt)), (3, .int a3), (5, .int x13)]) [1, 2, 3, 0] rfl ?_
          exact hr117 x13 I12
        intro j152 hj152
        refine T_ifb_eq (tgt := 152) hok dX1_pass_132 rfl ?_ ?_
        · refine T_aload_n hok 1 rfl rfl dX1_pass_135 ?_
          refine T_getR hok fr_X1_51 (townAt_c (b := 0) (bk := 0) (dr := 0) (it := 0) hpt).o (townAt_c hpt).r4 dX1_pass_136 ?_
          refine T_iload hok 3 rfl dX1_pass_139 ?_
          refine T_zald hok (townAt_c (b := 0) (bk := 0) (dr := 0) (it := 0) hpt).l4 dX1_pass_141 ?_
          refine T_if_ne (tgt := 152) hok dX1_pass_142 rfl ?_ ?_
          · refine T_aload_n hok 0 rfl rfl dX1_pass_145 ?_
            refine T_aload_n hok 1 rfl rfl dX1_pass_146 ?_
            refine T_iload hok 3 rfl dX1_pass_147 ?_
            refine T_cv1 (CR_S (rest := []) hok (ct_X1_pay hA hpb hpt I10 J4 x9) mw_X1_pay mst_X1_pay ml_X1_69 dX1_pass_149 rfl rfl (roomOk rfl) rfl) rfl rfl ?_
            intro I14
            exact hj152 I14
          exact hj152 I10
        exact hj152 I10
      refine T_sub (lv' := [(2, .ref (b + pt))]) [2] rfl ?_
      exact hj158 I3
    refine T_sub (lv' := [(2, .ref (b + pt))]) [2] rfl ?_
    exact hj158 I3
  intro j95 hj95
  refine T_icmp_ne (tgt := 27) hok dX1_pass_11 rfl ?_ ?_
  · refine T_aload_n hok 3 rfl rfl dX1_pass_14 ?_
    refine T_dup hok rfl dX1_pass_15 ?_
    refine T_getI hok fr_X1_32 (townAt_c (b := 0) (bk := 0) (dr := 0) (it := 0) hpt).o dX1_pass_16 ?_
    refine T_iconst hok ic_1 dX1_pass_19 ?_
    refine T_iadd hok dX1_pass_20 ?_
    refine T_putI hok hA fr_X1_32 rfl rfl (townAt_c (b := 0) (bk := 0) (dr := 0) (it := 0) hpt).o dX1_pass_21 ?_
    intro I15
    refine T_goto (tgt := 95) hok dX1_pass_24 rfl ?_
    refine T_sub (lv' := [(0, .ref (b + 62)), (1, .ref (b + pb)), (2, .ref (b + pt)), (3, .int a3)]) [1, 2, 3, 4] rfl ?_
    exact hj95 I15 J
  refine T_aload_n hok 3 rfl rfl dX1_pass_27 ?_
  refine T_getR hok fr_X1_38 (townAt_c (b := 0) (bk := 0) (dr := 0) (it := 0) hpt).o (townAt_c hpt).r6 dX1_pass_28 ?_
  refine T_iload hok 0 rfl dX1_pass_31 ?_
  refine T_dup2 hok rfl rfl dX1_pass_33 ?_
  refine T_iald hok (townAt_c (b := 0) (bk := 0) (dr := 0) (it := 0) hpt).l6 dX1_pass_34 ?_
  refine T_iconst hok ic_1 dX1_pass_35 ?_
  refine T_iadd hok dX1_pass_36 ?_
  refine T_iast hok hA (townAt_c (b := 0) (bk := 0) (dr := 0) (it := 0) hpt).l6 dX1_pass_37 ?_
  intro I16
  refine T_iconst hok ic_0 dX1_pass_38 ?_
  refine T_istore (lv' := [(5, .int (0 : Int32)), (4, .int x1), (0, .ref (b + 62)), (1, .ref (b + pb)), (2, .ref (b + pt)), (3, .int a3)]) hok (by decide) rfl dX1_pass_39 ?_
  refine T_sub (lv' := [(0, .ref (b + 62)), (1, .ref (b + pb)), (2, .ref (b + pt)), (3, .int a3), (4, .int x1), (5, .int (0 : Int32))]) [2, 3, 4, 5, 1, 0] rfl ?_
  refine T_fix3 _ (fun (x17 : Int32) (I18 : MI) (J19 : MJ) => [(0, .ref (b + 62)), (1, .ref (b + pb)), (2, .ref (b + pt)), (3, .int a3), (4, .int x1), (5, .int x17)]) (fun (x17 : Int32) (I18 : MI) (J19 : MJ) => Rg G b Lc (Rc b bk dr it) I18 J19) ?_ FU (0 : Int32) I16 J
  intro r41 hr41 x17 I18 J19
  refine T_iload hok 5 rfl dX1_pass_41 ?_
  refine T_aload_n hok 1 rfl rfl dX1_pass_43 ?_
  refine T_getI hok fr_X1_42 (bookAt_c (b := 0) (bk := 0) (dr := 0) (it := 0) hpb).o dX1_pass_44 ?_
  refine T_icmp_ge (tgt := 95) hok dX1_pass_47 rfl ?_ ?_
  · refine T_sub (lv' := [(0, .ref (b + 62)), (1, .ref (b + pb)), (2, .ref (b + pt)), (3, .int a3)]) [0, 1, 2, 3] rfl ?_
    exact hj95 I18 J19
  refine T_iload hok 5 rfl dX1_pass_50 ?_
  refine T_iload_n hok 3 rfl rfl dX1_pass_52 ?_
  refine T_cz0 (CR_S (rest := []) hok (ct_X1_isMeant x17 a3) mw_X1_isMeant mst_X1_isMeant ml_X1_47 dX1_pass_53 rfl rfl (roomOk rfl) rfl) rfl rfl ?_
  intro x20
  refine T_jp _ (fun (j89 : MI → MJ → Option (MI × MJ)) => ∀ (I21 : MI) (J22 : MJ), T X A (Zm X A (iv2 (fun (I' : MI) (J' : MJ) => Rg G b Lc (Rc b bk dr it) I' J'))) 6 0 0 89 [(0, .ref (b + 62)), (1, .ref (b + pb)), (2, .ref (b + pt)), (3, .int a3), (4, .int x1), (5, .int x17)] [] (Rg G b Lc (Rc b bk dr it) I21 J22) (j89 I21 J22)) _ ?_ ?_
  · intro I21 J22
    refine T_iinc (lvs := fun x23 => [(5, .int x23), (0, .ref (b + 62)), (1, .ref (b + pb)), (2, .ref (b + pt)), (3, .int a3), (4, .int x1)]) hok 5 rfl ic_1 (by decide) (fun _ => rfl) dX1_pass_89 ?_
    intro x23
    refine T_goto (tgt := 41) hok dX1_pass_92 rfl ?_
    refine T_sub (lv' := [(0, .ref (b + 62)), (1, .ref (b + pb)), (2, .ref (b + pt)), (3, .int a3), (4, .int x1), (5, .int x23)]) [1, 2, 3, 4, 5, 0] rfl ?_
    exact hr41 x23 I21 J22
  intro j89 hj89
  refine T_ifb_eq (tgt := 89) hok dX1_pass_56 rfl ?_ ?_
  · refine T_aload_n hok 2 rfl rfl dX1_pass_59 ?_
    refine T_getR hok fr_X1_51 (townAt_c (b := 0) (bk := 0) (dr := 0) (it := 0) hpt).o (townAt_c hpt).r4 dX1_pass_60 ?_
    refine T_iload hok 5 rfl dX1_pass_63 ?_
    refine T_zald hok (townAt_c (b := 0) (bk := 0) (dr := 0) (it := 0) hpt).l4 dX1_pass_65 ?_
    refine T_if_ne (tgt := 89) hok dX1_pass_66 rfl ?_ ?_
    · refine T_aload_n hok 2 rfl rfl dX1_pass_69 ?_
      refine T_getR hok fr_X1_55 (townAt_c (b := 0) (bk := 0) (dr := 0) (it := 0) hpt).o (townAt_c hpt).r5 dX1_pass_70 ?_
      refine T_iload hok 5 rfl dX1_pass_73 ?_
      refine T_zald hok (townAt_c (b := 0) (bk := 0) (dr := 0) (it := 0) hpt).l5 dX1_pass_75 ?_
      refine T_if_ne (tgt := 89) hok dX1_pass_76 rfl ?_ ?_
      · refine T_aload_n hok 0 rfl rfl dX1_pass_79 ?_
        refine T_aload_n hok 1 rfl rfl dX1_pass_80 ?_
        refine T_aload_n hok 2 rfl rfl dX1_pass_81 ?_
        refine T_iload hok 5 rfl dX1_pass_82 ?_
        refine T_iload hok 4 rfl dX1_pass_84 ?_
        refine T_cv2 (CR_V (rest := []) hok (ct_X1_look hA hpb hpt I18 J19 x17 x1) mw_X1_look mv_X1_look ml_X1_58 lc_62 dX1_pass_86 rfl rfl (roomOk rfl) rfl) rfl rfl ?_
        intro I24 J25
        exact hj89 I24 J25
      exact hj89 I18 J19
    exact hj89 I18 J19
  exact hj89 I18 J19

set_option maxHeartbeats 4000000 in
set_option maxRecDepth 100000 in
theorem ct_X2_clear {G : Gx} {l0 : Launch} {A : Nat → Prop} {b bk dr it : Nat} (hA : ∀ k, k < Lc.length → A (b + k)) (I : MI) (J : MJ) : Ct G l0 A yX2_clear cX2_clear 1 none { frames := 0, cells := 0, slots := 0, locals := 0 } [.ref (b + 70)] (Rg G b Lc (Rc b bk dr it) I J) (iv1 (fun (I' : MI) => Rg G b Lc (Rc b bk dr it) I' J)) (f_X2_clear I) := by
  refine Ct.of rfl (Nat.le_of_ble_eq_true rfl) ?_
  intro X hok
  replace hok : Ok G l0 X RX2 cX2_clear 1 { frames := 0, cells := 0, slots := 0, locals := 0 } none := hok
  delta f_X2_clear
  show T X A (Zm X A (iv1 (fun (I' : MI) => Rg G b Lc (Rc b bk dr it) I' J))) 1 0 0 0 [(0, .ref (b + 70))] [] (Rg G b Lc (Rc b bk dr it) I J) _
  refine T_aload_n hok 0 rfl rfl dX2_clear_0 ?_
  refine T_iconst hok ic_0 dX2_clear_1 ?_
  refine T_putI hok hA fr_X2_32 rfl rfl lc_70 dX2_clear_2 ?_
  intro I1
  refine T_aload_n hok 0 rfl rfl dX2_clear_5 ?_
  refine T_iconst hok ic_m1 dX2_clear_6 ?_
  refine T_putI hok hA fr_X2_28 rfl rfl lc_70 dX2_clear_7 ?_
  intro I2
  exact T_vret hok dX2_clear_10 (Nat.zero_le _) (Nat.zero_le _) rfl

set_option maxHeartbeats 4000000 in
set_option maxRecDepth 100000 in
theorem ct_X2_knownCount {G : Gx} {l0 : Launch} {A : Nat → Prop} {b bk dr it : Nat} (hA : ∀ k, k < Lc.length → A (b + k)) (I : MI) (J : MJ) : Ct G l0 A yX2_knownCount cX2_knownCount 1 (some .int) { frames := 0, cells := 0, slots := 0, locals := 0 } [.ref (b + 70)] (Rg G b Lc (Rc b bk dr it) I J) (ii0 (Rg G b Lc (Rc b bk dr it) I J)) (f_X2_knownCount I) := by
  refine Ct.of rfl (Nat.le_of_ble_eq_true rfl) ?_
  intro X hok
  replace hok : Ok G l0 X RX2 cX2_knownCount 1 { frames := 0, cells := 0, slots := 0, locals := 0 } (some .int) := hok
  delta f_X2_knownCount
  show T X A (Zm X A (ii0 (Rg G b Lc (Rc b bk dr it) I J))) 1 0 0 0 [(0, .ref (b + 70))] [] (Rg G b Lc (Rc b bk dr it) I J) _
  refine T_aload_n hok 0 rfl rfl dX2_knownCount_0 ?_
  refine T_getI hok fr_X2_28 lc_70 dX2_knownCount_1 ?_
  refine T_iconst hok ic_m1 dX2_knownCount_4 ?_
  refine T_jp _ (fun (j19 : Int32 → Option (Int32)) => ∀ (x1 : Int32), T X A (Zm X A (ii0 (Rg G b Lc (Rc b bk dr it) I J))) 1 0 0 19 [] [.int x1] (Rg G b Lc (Rc b bk dr it) I J) (j19 x1)) _ ?_ ?_
  · intro x1
    exact T_iret hok dX2_knownCount_19 (Nat.zero_le _) (Nat.zero_le _) rfl
  intro j19 hj19
  refine T_icmp_ne (tgt := 15) hok dX2_knownCount_5 rfl ?_ ?_
  · refine T_aload_n hok 0 rfl rfl dX2_knownCount_8 ?_
    refine T_getI hok fr_X2_32 lc_70 dX2_knownCount_9 ?_
    refine T_goto (tgt := 19) hok dX2_knownCount_12 rfl ?_
    refine T_sub (lv' := []) [] rfl ?_
    exact hj19 (I 70 5)
  refine T_aload_n hok 0 rfl rfl dX2_knownCount_15 ?_
  refine T_getI hok fr_X2_28 lc_70 dX2_knownCount_16 ?_
  refine T_sub (lv' := []) [] rfl ?_
  exact hj19 (I 70 6)

set_option maxHeartbeats 4000000 in
set_option maxRecDepth 100000 in
theorem ct_X2_addNote {G : Gx} {l0 : Launch} {A : Nat → Prop} {b bk dr it : Nat} (hA : ∀ k, k < Lc.length → A (b + k)) (I : MI) (J : MJ) (a1 : Int32) (a2 : Int32) (a3 : Int32) (a4 : Int32) : Ct G l0 A yX2_addNote cX2_addNote 5 (some .int) { frames := 0, cells := 0, slots := 0, locals := 0 } [.ref (b + 70), .int a1, .int a2, .int a3, .int a4] (Rg G b Lc (Rc b bk dr it) I J) (ii1 (fun (I' : MI) => Rg G b Lc (Rc b bk dr it) I' J)) (f_X2_addNote I a1 a2 a3 a4) := by
  refine Ct.of rfl (Nat.le_of_ble_eq_true rfl) ?_
  intro X hok
  replace hok : Ok G l0 X RX2 cX2_addNote 5 { frames := 0, cells := 0, slots := 0, locals := 0 } (some .int) := hok
  delta f_X2_addNote
  show T X A (Zm X A (ii1 (fun (I' : MI) => Rg G b Lc (Rc b bk dr it) I' J))) 5 0 0 0 [(0, .ref (b + 70)), (1, .int a1), (2, .int a2), (3, .int a3), (4, .int a4)] [] (Rg G b Lc (Rc b bk dr it) I J) _
  refine T_aload_n hok 0 rfl rfl dX2_addNote_0 ?_
  refine T_getI hok fr_X2_32 lc_70 dX2_addNote_1 ?_
  refine T_bipush hok bp_24 dX2_addNote_4 ?_
  refine T_icmp_lt (tgt := 11) hok dX2_addNote_6 rfl ?_ ?_
  · refine T_aload_n hok 0 rfl rfl dX2_addNote_11 ?_
    refine T_getR hok fr_X2_11 lc_70 rc_70_0 dX2_addNote_12 ?_
    refine T_aload_n hok 0 rfl rfl dX2_addNote_15 ?_
    refine T_getI hok fr_X2_32 lc_70 dX2_addNote_16 ?_
    refine T_iload_n hok 1 rfl rfl dX2_addNote_19 ?_
    refine T_iast hok hA lc_71 dX2_addNote_20 ?_
    intro I1
    refine T_aload_n hok 0 rfl rfl dX2_addNote_21 ?_
    refine T_getR hok fr_X2_15 lc_70 rc_70_1 dX2_addNote_22 ?_
    refine T_aload_n hok 0 rfl rfl dX2_addNote_25 ?_
    refine T_getI hok fr_X2_32 lc_70 dX2_addNote_26 ?_
    refine T_iload_n hok 2 rfl rfl dX2_addNote_29 ?_
    refine T_iast hok hA lc_72 dX2_addNote_30 ?_
    intro I2
    refine T_aload_n hok 0 rfl rfl dX2_addNote_31 ?_
    refine T_getR hok fr_X2_18 lc_70 rc_70_2 dX2_addNote_32 ?_
    refine T_aload_n hok 0 rfl rfl dX2_addNote_35 ?_
    refine T_getI hok fr_X2_32 lc_70 dX2_addNote_36 ?_
    refine T_iload_n hok 3 rfl rfl dX2_addNote_39 ?_
    refine T_iast hok hA lc_73 dX2_addNote_40 ?_
    intro I3
    refine T_aload_n hok 0 rfl rfl dX2_addNote_41 ?_
    refine T_getR hok fr_X2_21 lc_70 rc_70_3 dX2_addNote_42 ?_
    refine T_aload_n hok 0 rfl rfl dX2_addNote_45 ?_
    refine T_getI hok fr_X2_32 lc_70 dX2_addNote_46 ?_
    refine T_iload hok 4 rfl dX2_addNote_49 ?_
    refine T_zast hok hA lc_74 dX2_addNote_51 ?_
    intro I4
    refine T_aload_n hok 0 rfl rfl dX2_addNote_52 ?_
    refine T_dup hok rfl dX2_addNote_53 ?_
    refine T_getI hok fr_X2_32 lc_70 dX2_addNote_54 ?_
    refine T_iconst hok ic_1 dX2_addNote_57 ?_
    refine T_iadd hok dX2_addNote_58 ?_
    refine T_putI hok hA fr_X2_32 rfl rfl lc_70 dX2_addNote_59 ?_
    intro I5
    refine T_aload_n hok 0 rfl rfl dX2_addNote_62 ?_
    refine T_getI hok fr_X2_32 lc_70 dX2_addNote_63 ?_
    refine T_iconst hok ic_1 dX2_addNote_66 ?_
    refine T_isub hok dX2_addNote_67 ?_
    exact T_iret hok dX2_addNote_68 (Nat.zero_le _) (Nat.zero_le _) rfl
  refine T_iconst hok ic_m1 dX2_addNote_9 ?_
  exact T_iret hok dX2_addNote_10 (Nat.zero_le _) (Nat.zero_le _) rfl

set_option maxHeartbeats 4000000 in
set_option maxRecDepth 100000 in
theorem ct_X2_addStrike {G : Gx} {l0 : Launch} {A : Nat → Prop} {b bk dr it : Nat} (hA : ∀ k, k < Lc.length → A (b + k)) (I : MI) (J : MJ) (a1 : Int32) : Ct G l0 A yX2_addStrike cX2_addStrike 2 (some .int) { frames := 1, cells := 0, slots := 0, locals := 24 } [.ref (b + 70), .int a1] (Rg G b Lc (Rc b bk dr it) I J) (ii1 (fun (I' : MI) => Rg G b Lc (Rc b bk dr it) I' J)) (f_X2_addStrike I a1) := by
  refine Ct.of rfl (Nat.le_of_ble_eq_true rfl) ?_
  intro X hok
  replace hok : Ok G l0 X RX2 cX2_addStrike 2 { frames := 1, cells := 0, slots := 0, locals := 24 } (some .int) := hok
  delta f_X2_addStrike
  show T X A (Zm X A (ii1 (fun (I' : MI) => Rg G b Lc (Rc b bk dr it) I' J))) 2 0 0 0 [(0, .ref (b + 70)), (1, .int a1)] [] (Rg G b Lc (Rc b bk dr it) I J) _
  refine T_iload_n hok 1 rfl rfl dX2_addStrike_0 ?_
  refine T_iconst hok ic_0 dX2_addStrike_1 ?_
  refine T_aload_n hok 0 rfl rfl dX2_addStrike_2 ?_
  refine T_getI hok fr_X2_32 lc_70 dX2_addStrike_3 ?_
  refine T_iconst hok ic_1 dX2_addStrike_6 ?_
  refine T_isub hok dX2_addStrike_7 ?_
  refine T_cz0 (CR_SN (rest := []) hok (ct_X10_isWithin a1 (0 : Int32) ((I 70 5) - (1 : Int32))) mw_X10_isWithin mst_X10_isWithin ml_X2_35 dX2_addStrike_8 rfl rfl (roomOk rfl) rfl) rfl rfl ?_
  intro x1
  refine T_jp _ (fun (j26 : Int32 → MI → Option (Int32 × MI)) => ∀ (x2 : Int32) (I3 : MI), T X A (Zm X A (ii1 (fun (I' : MI) => Rg G b Lc (Rc b bk dr it) I' J))) 2 0 0 26 [] [.int x2] (Rg G b Lc (Rc b bk dr it) I3 J) (j26 x2 I3)) _ ?_ ?_
  · intro x2 I3
    exact T_iret hok dX2_addStrike_26 (Nat.zero_le _) (Nat.zero_le _) rfl
  intro j26 hj26
  refine T_ifb_eq (tgt := 25) hok dX2_addStrike_11 rfl ?_ ?_
  · refine T_aload_n hok 0 rfl rfl dX2_addStrike_14 ?_
    refine T_iconst hok ic_m1 dX2_addStrike_15 ?_
    refine T_iload_n hok 1 rfl rfl dX2_addStrike_16 ?_
    refine T_iconst hok ic_0 dX2_addStrike_17 ?_
    refine T_iconst hok ic_0 dX2_addStrike_18 ?_
    refine T_ci1 (CR_V (rest := []) hok (ct_X2_addNote hA I J (-1 : Int32) a1 (0 : Int32) (0 : Int32)) mw_X2_addNote mv_X2_addNote ml_X2_39 lc_70 dX2_addStrike_19 rfl rfl (roomOk rfl) rfl) rfl rfl ?_
    intro x4 I5
    refine T_goto (tgt := 26) hok dX2_addStrike_22 rfl ?_
    refine T_sub (lv' := []) [] rfl ?_
    exact hj26 x4 I5
  refine T_iconst hok ic_m1 dX2_addStrike_25 ?_
  refine T_sub (lv' := []) [] rfl ?_
  exact hj26 (-1 : Int32) I

set_option maxHeartbeats 4000000 in
set_option maxRecDepth 100000 in
theorem ct_X2_findStruck {G : Gx} {l0 : Launch} {A : Nat → Prop} {b bk dr it : Nat} (hA : ∀ k, k < Lc.length → A (b + k)) (I : MI) (J : MJ) : Ct G l0 A yX2_findStruck cX2_findStruck 2 none { frames := 1, cells := 0, slots := 0, locals := 20 } [.ref (b + 70)] (Rg G b Lc (Rc b bk dr it) I J) (iv1 (fun (I' : MI) => Rg G b Lc (Rc b bk dr it) I' J)) (f_X2_findStruck I) := by
  refine Ct.of rfl (Nat.le_of_ble_eq_true rfl) ?_
  intro X hok
  replace hok : Ok G l0 X RX2 cX2_findStruck 2 { frames := 1, cells := 0, slots := 0, locals := 20 } none := hok
  delta f_X2_findStruck
  show T X A (Zm X A (iv1 (fun (I' : MI) => Rg G b Lc (Rc b bk dr it) I' J))) 2 0 0 0 [(0, .ref (b + 70))] [] (Rg G b Lc (Rc b bk dr it) I J) _
  refine T_iconst hok ic_0 dX2_findStruck_0 ?_
  refine T_istore_n (lv' := [(1, .int (0 : Int32)), (0, .ref (b + 70))]) hok rfl (by decide) rfl dX2_findStruck_1 ?_
  refine T_jp _ (fun (j21 : MI → Option (MI)) => ∀ (I1 : MI), T X A (Zm X A (iv1 (fun (I' : MI) => Rg G b Lc (Rc b bk dr it) I' J))) 2 0 0 21 [(0, .ref (b + 70))] [] (Rg G b Lc (Rc b bk dr it) I1 J) (j21 I1)) _ ?_ ?_
  · intro I1
    refine T_aload_n hok 0 rfl rfl dX2_findStruck_21 ?_
    refine T_ci0 (CR_V (rest := []) hok (ct_X2_knownCount hA I1 J) mw_X2_knownCount mv_X2_knownCount ml_X2_43 lc_70 dX2_findStruck_22 rfl rfl (roomOk rfl) rfl) rfl rfl ?_
    intro x2
    refine T_iconst hok ic_1 dX2_findStruck_25 ?_
    refine T_isub hok dX2_findStruck_26 ?_
    refine T_lti ?_
    intro x3
    refine T_istore_n (lv' := [(1, .int x3), (0, .ref (b + 70))]) hok rfl (by decide) rfl dX2_findStruck_27 ?_
    refine T_sub (lv' := [(0, .ref (b + 70)), (1, .int x3)]) [1, 0] rfl ?_
    refine T_fix2 _ (fun (x4 : Int32) (I5 : MI) => [(0, .ref (b + 70)), (1, .int x4)]) (fun (x4 : Int32) (I5 : MI) => Rg G b Lc (Rc b bk dr it) I5 J) ?_ FU x3 I1
    intro r28 hr28 x4 I5
    refine T_iload_n hok 1 rfl rfl dX2_findStruck_28 ?_
    refine T_if_lt (tgt := 69) hok dX2_findStruck_29 rfl ?_ ?_
    · exact T_vret hok dX2_findStruck_69 (Nat.zero_le _) (Nat.zero_le _) rfl
    refine T_aload_n hok 0 rfl rfl dX2_findStruck_32 ?_
    refine T_getR hok fr_X2_11 lc_70 rc_70_0 dX2_findStruck_33 ?_
    refine T_iload_n hok 1 rfl rfl dX2_findStruck_36 ?_
    refine T_iald hok lc_71 dX2_findStruck_37 ?_
    refine T_iconst hok ic_m1 dX2_findStruck_38 ?_
    refine T_jp _ (fun (j63 : MI → Option (MI)) => ∀ (I6 : MI), T X A (Zm X A (iv1 (fun (I' : MI) => Rg G b Lc (Rc b bk dr it) I' J))) 2 0 0 63 [(0, .ref (b + 70)), (1, .int x4)] [] (Rg G b Lc (Rc b bk dr it) I6 J) (j63 I6)) _ ?_ ?_
    · intro I6
      refine T_iinc (lvs := fun x7 => [(1, .int x7), (0, .ref (b + 70))]) hok 1 rfl ic_m1 (by decide) (fun _ => rfl) dX2_findStruck_63 ?_
      intro x7
      refine T_goto (tgt := 28) hok dX2_findStruck_66 rfl ?_
      refine T_sub (lv' := [(0, .ref (b + 70)), (1, .int x7)]) [1, 0] rfl ?_
      exact hr28 x7 I6
    intro j63 hj63
    refine T_icmp_ne (tgt := 63) hok dX2_findStruck_39 rfl ?_ ?_
    · refine T_aload_n hok 0 rfl rfl dX2_findStruck_42 ?_
      refine T_getR hok fr_X2_25 lc_70 rc_70_4 dX2_findStruck_43 ?_
      refine T_iload_n hok 1 rfl rfl dX2_findStruck_46 ?_
      refine T_zald hok lc_75 dX2_findStruck_47 ?_
      refine T_if_ne (tgt := 63) hok dX2_findStruck_48 rfl ?_ ?_
      · refine T_aload_n hok 0 rfl rfl dX2_findStruck_51 ?_
        refine T_getR hok fr_X2_25 lc_70 rc_70_4 dX2_findStruck_52 ?_
        refine T_aload_n hok 0 rfl rfl dX2_findStruck_55 ?_
        refine T_getR hok fr_X2_15 lc_70 rc_70_1 dX2_findStruck_56 ?_
        refine T_iload_n hok 1 rfl rfl dX2_findStruck_59 ?_
        refine T_iald hok lc_72 dX2_findStruck_60 ?_
        refine T_iconst hok ic_1 dX2_findStruck_61 ?_
        refine T_zast hok hA lc_75 dX2_findStruck_62 ?_
        intro I8
        exact hj63 I8
      exact hj63 I5
    exact hj63 I5
  intro j21 hj21
  refine T_sub (lv' := [(0, .ref (b + 70)), (1, .int (0 : Int32))]) [1, 0] rfl ?_
  refine T_fix2 _ (fun (x9 : Int32) (I10 : MI) => [(0, .ref (b + 70)), (1, .int x9)]) (fun (x9 : Int32) (I10 : MI) => Rg G b Lc (Rc b bk dr it) I10 J) ?_ FU (0 : Int32) I
  intro r2 hr2 x9 I10
  refine T_iload_n hok 1 rfl rfl dX2_findStruck_2 ?_
  refine T_bipush hok bp_24 dX2_findStruck_3 ?_
  refine T_icmp_ge (tgt := 21) hok dX2_findStruck_5 rfl ?_ ?_
  · refine T_sub (lv' := [(0, .ref (b + 70))]) [0] rfl ?_
    exact hj21 I10
  refine T_aload_n hok 0 rfl rfl dX2_findStruck_8 ?_
  refine T_getR hok fr_X2_25 lc_70 rc_70_4 dX2_findStruck_9 ?_
  refine T_iload_n hok 1 rfl rfl dX2_findStruck_12 ?_
  refine T_iconst hok ic_0 dX2_findStruck_13 ?_
  refine T_zast hok hA lc_75 dX2_findStruck_14 ?_
  intro I11
  refine T_iinc (lvs := fun x12 => [(1, .int x12), (0, .ref (b + 70))]) hok 1 rfl ic_1 (by decide) (fun _ => rfl) dX2_findStruck_15 ?_
  intro x12
  refine T_goto (tgt := 2) hok dX2_findStruck_18 rfl ?_
  refine T_sub (lv' := [(0, .ref (b + 70)), (1, .int x12)]) [1, 0] rfl ?_
  exact hr2 x12 I11

set_option maxHeartbeats 4000000 in
set_option maxRecDepth 100000 in
theorem ct_X2_isFitting {G : Gx} {l0 : Launch} {A : Nat → Prop} {b bk dr it : Nat} {pb : Nat} (hA : ∀ k, k < Lc.length → A (b + k)) (hpb : isBk pb = true) (I : MI) (J : MJ) (a2 : Int32) (a3 : Int32) : Ct G l0 A yX2_isFitting cX2_isFitting 6 (some .boolean) { frames := 1, cells := 0, slots := 0, locals := 22 } [.ref (b + 70), .ref (b + pb), .int a2, .int a3] (Rg G b Lc (Rc b bk dr it) I J) (iz0 (Rg G b Lc (Rc b bk dr it) I J)) (f_X2_isFitting I pb a2 a3) := by
  refine Ct.of rfl (Nat.le_of_ble_eq_true rfl) ?_
  intro X hok
  replace hok : Ok G l0 X RX2 cX2_isFitting 6 { frames := 1, cells := 0, slots := 0, locals := 22 } (some .boolean) := hok
  delta f_X2_isFitting
  show T X A (Zm X A (iz0 (Rg G b Lc (Rc b bk dr it) I J))) 6 0 0 0 [(0, .ref (b + 70)), (1, .ref (b + pb)), (2, .int a2), (3, .int a3)] [] (Rg G b Lc (Rc b bk dr it) I J) _
  refine T_iconst hok ic_0 dX2_isFitting_0 ?_
  refine T_istore (lv' := [(4, .int (0 : Int32)), (0, .ref (b + 70)), (1, .ref (b + pb)), (2, .int a2), (3, .int a3)]) hok (by decide) rfl dX2_isFitting_1 ?_
  refine T_sub (lv' := [(0, .ref (b + 70)), (1, .ref (b + pb)), (2, .int a2), (3, .int a3), (4, .int (0 : Int32))]) [1, 2, 3, 4, 0] rfl ?_
  refine T_fix1 _ (fun (x1 : Int32) => [(0, .ref (b + 70)), (1, .ref (b + pb)), (2, .int a2), (3, .int a3), (4, .int x1)]) (fun (x1 : Int32) => Rg G b Lc (Rc b bk dr it) I J) ?_ FU (0 : Int32)
  intro r3 hr3 x1
  refine T_iload hok 4 rfl dX2_isFitting_3 ?_
  refine T_aload_n hok 0 rfl rfl dX2_isFitting_5 ?_
  refine T_ci0 (CR_V (rest := [.int x1]) hok (ct_X2_knownCount hA I J) mw_X2_knownCount mv_X2_knownCount ml_X2_43 lc_70 dX2_isFitting_6 rfl rfl (roomOk rfl) rfl) rfl rfl ?_
  intro x2
  refine T_icmp_ge (tgt := 82) hok dX2_isFitting_9 rfl ?_ ?_
  · refine T_iconst hok ic_1 dX2_isFitting_82 ?_
    exact T_zret hok dX2_isFitting_83 (Nat.zero_le _) (Nat.zero_le _) rfl rfl
  refine T_aload_n hok 0 rfl rfl dX2_isFitting_12 ?_
  refine T_getR hok fr_X2_11 lc_70 rc_70_0 dX2_isFitting_13 ?_
  refine T_iload hok 4 rfl dX2_isFitting_16 ?_
  refine T_iald hok lc_71 dX2_isFitting_18 ?_
  refine T_iload_n hok 2 rfl rfl dX2_isFitting_19 ?_
  refine T_jp _ (fun (j76 : Option (Bool)) => T X A (Zm X A (iz0 (Rg G b Lc (Rc b bk dr it) I J))) 6 0 0 76 [(0, .ref (b + 70)), (1, .ref (b + pb)), (2, .int a2), (3, .int a3), (4, .int x1)] [] (Rg G b Lc (Rc b bk dr it) I J) (j76)) _ ?_ ?_
  · skip
    refine T_iinc (lvs := fun x3 => [(4, .int x3), (0, .ref (b + 70)), (1, .ref (b + pb)), (2, .int a2), (3, .int a3)]) hok 4 rfl ic_1 (by decide) (fun _ => rfl) dX2_isFitting_76 ?_
    intro x3
    refine T_goto (tgt := 3) hok dX2_isFitting_79 rfl ?_
    refine T_sub (lv' := [(0, .ref (b + 70)), (1, .ref (b + pb)), (2, .int a2), (3, .int a3), (4, .int x3)]) [1, 2, 3, 4, 0] rfl ?_
    exact hr3 x3
  intro j76 hj76
  refine T_icmp_ne (tgt := 76) hok dX2_isFitting_20 rfl ?_ ?_
  · refine T_aload_n hok 0 rfl rfl dX2_isFitting_23 ?_
    refine T_getR hok fr_X2_25 lc_70 rc_70_4 dX2_isFitting_24 ?_
    refine T_iload hok 4 rfl dX2_isFitting_27 ?_
    refine T_zald hok lc_75 dX2_isFitting_29 ?_
    refine T_if_ne (tgt := 76) hok dX2_isFitting_30 rfl ?_ ?_
    · refine T_aload_n hok 1 rfl rfl dX2_isFitting_33 ?_
      refine T_aload_n hok 0 rfl rfl dX2_isFitting_34 ?_
      refine T_getR hok fr_X2_15 lc_70 rc_70_1 dX2_isFitting_35 ?_
      refine T_iload hok 4 rfl dX2_isFitting_38 ?_
      refine T_iald hok lc_72 dX2_isFitting_40 ?_
      refine T_iload_n hok 3 rfl rfl dX2_isFitting_41 ?_
      refine T_ci0 (CR_V (rest := []) hok (ct_X0_alone hA (bookAt_c hpb) I J (I 72 (ix x1)) a3) mw_X0_alone mv_X0_alone ml_X2_59 (bookAt_c (b := 0) (bk := 0) (dr := 0) (it := 0) hpb).o dX2_isFitting_42 rfl rfl (roomOk rfl) rfl) rfl rfl ?_
      intro x4
      refine T_aload_n hok 0 rfl rfl dX2_isFitting_45 ?_
      refine T_getR hok fr_X2_18 lc_70 rc_70_2 dX2_isFitting_46 ?_
      refine T_iload hok 4 rfl dX2_isFitting_49 ?_
      refine T_iald hok lc_73 dX2_isFitting_51 ?_
      refine T_jp _ (fun (j60 : Bool → Option (Bool)) => ∀ (x5 : Bool), T X A (Zm X A (iz0 (Rg G b Lc (Rc b bk dr it) I J))) 6 0 0 60 [(0, .ref (b + 70)), (1, .ref (b + pb)), (2, .int a2), (3, .int a3), (4, .int x1)] [.int (bi x5)] (Rg G b Lc (Rc b bk dr it) I J) (j60 x5)) _ ?_ ?_
      · intro x5
        refine T_lti ?_
        intro x6
        refine T_istore (lv' := [(5, .int x6), (0, .ref (b + 70)), (1, .ref (b + pb)), (2, .int a2), (3, .int a3), (4, .int x1)]) hok (by decide) rfl dX2_isFitting_60 ?_
        refine T_iload hok 0 rfl dX2_isFitting_62 ?_
        refine T_aload_n hok 1 rfl rfl dX2_isFitting_64 ?_
        refine T_getR hok fr_X2_21 lc_70 rc_70_3 dX2_isFitting_65 ?_
        refine T_iload hok 5 rfl dX2_isFitting_68 ?_
        refine T_zald hok lc_74 dX2_isFitting_70 ?_
        refine T_icmp_eq (tgt := 76) hok dX2_isFitting_71 rfl ?_ ?_
        · refine T_sub (lv' := [(0, .ref (b + 70)), (1, .ref (b + pb)), (2, .int a2), (3, .int a3), (4, .int x1)]) [1, 2, 3, 4, 5] rfl ?_
          exact hj76
        refine T_iconst hok ic_0 dX2_isFitting_74 ?_
        exact T_zret hok dX2_isFitting_75 (Nat.zero_le _) (Nat.zero_le _) rfl rfl
      intro j60 hj60
      refine T_icmp_gt (tgt := 59) hok dX2_isFitting_52 rfl ?_ ?_
      · refine T_iconst hok ic_0 dX2_isFitting_59 ?_
        exact hj60 false
      refine T_iconst hok ic_1 dX2_isFitting_55 ?_
      refine T_goto (tgt := 60) hok dX2_isFitting_56 rfl ?_
      exact hj60 true
    exact hj76
  exact hj76

set_option maxHeartbeats 4000000 in
set_option maxRecDepth 100000 in
theorem ct_X2_fitting {G : Gx} {l0 : Launch} {A : Nat → Prop} {b bk dr it : Nat} {pb : Nat} (hA : ∀ k, k < Lc.length → A (b + k)) (hpb : isBk pb = true) (I : MI) (J : MJ) (a2 : Int32) : Ct G l0 A yX2_fitting cX2_fitting 5 (some .int) { frames := 2, cells := 0, slots := 0, locals := 47 } [.ref (b + 70), .ref (b + pb), .int a2] (Rg G b Lc (Rc b bk dr it) I J) (ii1 (fun (I' : MI) => Rg G b Lc (Rc b bk dr it) I' J)) (f_X2_fitting I pb a2) := by
  refine Ct.of rfl (Nat.le_of_ble_eq_true rfl) ?_
  intro X hok
  replace hok : Ok G l0 X RX2 cX2_fitting 5 { frames := 2, cells := 0, slots := 0, locals := 47 } (some .int) := hok
  delta f_X2_fitting
  show T X A (Zm X A (ii1 (fun (I' : MI) => Rg G b Lc (Rc b bk dr it) I' J))) 5 0 0 0 [(0, .ref (b + 70)), (1, .ref (b + pb)), (2, .int a2)] [] (Rg G b Lc (Rc b bk dr it) I J) _
  refine T_aload_n hok 0 rfl rfl dX2_fitting_0 ?_
  refine T_cv1 (CR_V (rest := []) hok (ct_X2_findStruck hA I J) mw_X2_findStruck mv_X2_findStruck ml_X2_47 lc_70 dX2_fitting_1 rfl rfl (roomOk rfl) rfl) rfl rfl ?_
  intro I1
  refine T_iconst hok ic_0 dX2_fitting_4 ?_
  refine T_istore_n (lv' := [(3, .int (0 : Int32)), (0, .ref (b + 70)), (1, .ref (b + pb)), (2, .int a2)]) hok rfl (by decide) rfl dX2_fitting_5 ?_
  refine T_iconst hok ic_0 dX2_fitting_6 ?_
  refine T_istore (lv' := [(4, .int (0 : Int32)), (3, .int (0 : Int32)), (0, .ref (b + 70)), (1, .ref (b + pb)), (2, .int a2)]) hok (by decide) rfl dX2_fitting_7 ?_
  refine T_sub (lv' := [(0, .ref (b + 70)), (1, .ref (b + pb)), (2, .int a2), (3, .int (0 : Int32)), (4, .int (0 : Int32))]) [2, 3, 4, 1, 0] rfl ?_
  refine T_fix2 _ (fun (x2 : Int32) (x3 : Int32) => [(0, .ref (b + 70)), (1, .ref (b + pb)), (2, .int a2), (3, .int x2), (4, .int x3)]) (fun (x2 : Int32) (x3 : Int32) => Rg G b Lc (Rc b bk dr it) I1 J) ?_ FU (0 : Int32) (0 : Int32)
  intro r9 hr9 x2 x3
  refine T_iload hok 4 rfl dX2_fitting_9 ?_
  refine T_aload_n hok 1 rfl rfl dX2_fitting_11 ?_
  refine T_getI hok fr_X2_50 (bookAt_c (b := 0) (bk := 0) (dr := 0) (it := 0) hpb).o dX2_fitting_12 ?_
  refine T_icmp_ge (tgt := 42) hok dX2_fitting_15 rfl ?_ ?_
  · refine T_iload_n hok 3 rfl rfl dX2_fitting_42 ?_
    exact T_iret hok dX2_fitting_43 (Nat.zero_le _) (Nat.zero_le _) rfl
  refine T_aload_n hok 0 rfl rfl dX2_fitting_18 ?_
  refine T_aload_n hok 1 rfl rfl dX2_fitting_19 ?_
  refine T_iload_n hok 2 rfl rfl dX2_fitting_20 ?_
  refine T_iload hok 4 rfl dX2_fitting_21 ?_
  refine T_cz0 (CR_V (rest := []) hok (ct_X2_isFitting hA hpb I1 J a2 x3) mw_X2_isFitting mv_X2_isFitting ml_X2_55 lc_70 dX2_fitting_23 rfl rfl (roomOk rfl) rfl) rfl rfl ?_
  intro x4
  refine T_jp _ (fun (j36 : Int32 → Option (Int32 × MI)) => ∀ (x5 : Int32), T X A (Zm X A (ii1 (fun (I' : MI) => Rg G b Lc (Rc b bk dr it) I' J))) 5 0 0 36 [(0, .ref (b + 70)), (1, .ref (b + pb)), (2, .int a2), (3, .int x5), (4, .int x3)] [] (Rg G b Lc (Rc b bk dr it) I1 J) (j36 x5)) _ ?_ ?_
  · intro x5
    refine T_iinc (lvs := fun x6 => [(4, .int x6), (0, .ref (b + 70)), (1, .ref (b + pb)), (2, .int a2), (3, .int x5)]) hok 4 rfl ic_1 (by decide) (fun _ => rfl) dX2_fitting_36 ?_
    intro x6
    refine T_goto (tgt := 9) hok dX2_fitting_39 rfl ?_
    refine T_sub (lv' := [(0, .ref (b + 70)), (1, .ref (b + pb)), (2, .int a2), (3, .int x5), (4, .int x6)]) [1, 2, 3, 4, 0] rfl ?_
    exact hr9 x5 x6
  intro j36 hj36
  refine T_ifb_eq (tgt := 36) hok dX2_fitting_26 rfl ?_ ?_
  · refine T_iload_n hok 3 rfl rfl dX2_fitting_29 ?_
    refine T_iconst hok ic_1 dX2_fitting_30 ?_
    refine T_iload hok 4 rfl dX2_fitting_31 ?_
    refine T_ishl hok dX2_fitting_33 ?_
    refine T_ior hok dX2_fitting_34 ?_
    refine T_lti ?_
    intro x7
    refine T_istore_n (lv' := [(3, .int x7), (0, .ref (b + 70)), (1, .ref (b + pb)), (2, .int a2), (4, .int x3)]) hok rfl (by decide) rfl dX2_fitting_35 ?_
    refine T_sub (lv' := [(0, .ref (b + 70)), (1, .ref (b + pb)), (2, .int a2), (3, .int x7), (4, .int x3)]) [1, 2, 3, 0, 4] rfl ?_
    exact hj36 x7
  exact hj36 x2

set_option maxHeartbeats 4000000 in
set_option maxRecDepth 100000 in
theorem ct_X3_commonOf {G : Gx} {l0 : Launch} {A : Nat → Prop} {Wd : Heap → Prop} (a1 : Int64) (a2 : Int64) : Ct G l0 A yX3_commonOf cX3_commonOf 11 (some .long) { frames := 0, cells := 0, slots := 0, locals := 0 } [.long a1, .long a2] (Wd) (il0 (Wd)) (f_X3_commonOf a1 a2) := by
  refine Ct.of rfl (Nat.le_of_ble_eq_true rfl) ?_
  intro X hok
  replace hok : Ok G l0 X RX3 cX3_commonOf 11 { frames := 0, cells := 0, slots := 0, locals := 0 } (some .long) := hok
  delta f_X3_commonOf
  show T X A (Zm X A (il0 (Wd))) 11 0 0 0 [(0, .long a1), (2, .long a2)] [] (Wd) _
  refine T_lload_n hok 0 rfl rfl dX3_commonOf_0 ?_
  refine T_lstore (lv' := [(4, .long a1), (0, .long a1), (2, .long a2)]) hok (by decide) rfl dX3_commonOf_1 ?_
  refine T_lload_n hok 2 rfl rfl dX3_commonOf_3 ?_
  refine T_lstore (lv' := [(6, .long a2), (4, .long a1), (0, .long a1), (2, .long a2)]) hok (by decide) rfl dX3_commonOf_4 ?_
  refine T_iconst hok ic_0 dX3_commonOf_6 ?_
  refine T_istore (lv' := [(8, .int (0 : Int32)), (6, .long a2), (4, .long a1), (0, .long a1), (2, .long a2)]) hok (by decide) rfl dX3_commonOf_7 ?_
  refine T_jp _ (fun (j45 : Int64 → Option (Int64)) => ∀ (x1 : Int64), T X A (Zm X A (il0 (Wd))) 11 0 0 45 [(4, .long x1)] [] (Wd) (j45 x1)) _ ?_ ?_
  · intro x1
    refine T_lload hok 0 rfl dX3_commonOf_45 ?_
    exact T_lret hok dX3_commonOf_47 (Nat.zero_le _) (Nat.zero_le _) rfl
  intro j45 hj45
  refine T_sub (lv' := [(4, .long a1), (6, .long a2), (8, .int (0 : Int32))]) [2, 1, 0] rfl ?_
  refine T_fix3 _ (fun (x2 : Int64) (x3 : Int64) (x4 : Int32) => [(4, .long x2), (6, .long x3), (8, .int x4)]) (fun (x2 : Int64) (x3 : Int64) (x4 : Int32) => Wd) ?_ FU a1 a2 (0 : Int32)
  intro r9 hr9 x2 x3 x4
  refine T_iload hok 2 rfl dX3_commonOf_9 ?_
  refine T_sipush hok sp_200 dX3_commonOf_11 ?_
  refine T_icmp_ge (tgt := 45) hok dX3_commonOf_14 rfl ?_ ?_
  · refine T_sub (lv' := [(4, .long x2)]) [0] rfl ?_
    exact hj45 x2
  refine T_lload hok 1 rfl dX3_commonOf_17 ?_
  refine T_lconst (v := 0) hok rfl dX3_commonOf_19 ?_
  refine T_lcmp_eq (tgt := 45) hok dX3_commonOf_20 rfl dX3_commonOf_21 rfl ?_ ?_
  · refine T_sub (lv' := [(4, .long x2)]) [0] rfl ?_
    exact hj45 x2
  refine T_lload hok 0 rfl dX3_commonOf_24 ?_
  refine T_lload hok 1 rfl dX3_commonOf_26 ?_
  refine T_lrem hok dX3_commonOf_28 ?_
  refine T_ltl ?_
  intro x5
  refine T_lstore (lv' := [(9, .long x5), (4, .long x2), (6, .long x3), (8, .int x4)]) hok (by decide) rfl dX3_commonOf_29 ?_
  refine T_lload hok 2 rfl dX3_commonOf_31 ?_
  refine T_lstore (lv' := [(4, .long x3), (9, .long x5), (6, .long x3), (8, .int x4)]) hok (by decide) rfl dX3_commonOf_33 ?_
  refine T_lload hok 1 rfl dX3_commonOf_35 ?_
  refine T_lstore (lv' := [(6, .long x5), (4, .long x3), (9, .long x5), (8, .int x4)]) hok (by decide) rfl dX3_commonOf_37 ?_
  refine T_iinc (lvs := fun x6 => [(8, .int x6), (6, .long x5), (4, .long x3), (9, .long x5)]) hok 3 rfl ic_1 (by decide) (fun _ => rfl) dX3_commonOf_39 ?_
  intro x6
  refine T_goto (tgt := 9) hok dX3_commonOf_42 rfl ?_
  refine T_sub (lv' := [(4, .long x3), (6, .long x5), (8, .int x6)]) [2, 1, 0] rfl ?_
  exact hr9 x3 x5 x6

set_option maxHeartbeats 4000000 in
set_option maxRecDepth 100000 in
theorem ct_X3_put {G : Gx} {l0 : Launch} {A : Nat → Prop} {b bk dr it : Nat} (hA : ∀ k, k < Lc.length → A (b + k)) (I : MI) (J : MJ) (a1 : Int64) (a2 : Int64) : Ct G l0 A yX3_put cX3_put 7 none { frames := 1, cells := 0, slots := 0, locals := 30 } [.ref (b + 79), .long a1, .long a2] (Rg G b Lc (Rc b bk dr it) I J) (iv1 (fun (J' : MJ) => Rg G b Lc (Rc b bk dr it) I J')) (f_X3_put J a1 a2) := by
  refine Ct.of rfl (Nat.le_of_ble_eq_true rfl) ?_
  intro X hok
  replace hok : Ok G l0 X RX3 cX3_put 7 { frames := 1, cells := 0, slots := 0, locals := 30 } none := hok
  delta f_X3_put
  show T X A (Zm X A (iv1 (fun (J' : MJ) => Rg G b Lc (Rc b bk dr it) I J'))) 7 0 0 0 [(0, .ref (b + 79)), (1, .long a1), (3, .long a2)] [] (Rg G b Lc (Rc b bk dr it) I J) _
  refine T_lload_n hok 1 rfl rfl dX3_put_0 ?_
  refine T_lload_n hok 2 rfl rfl dX3_put_1 ?_
  refine T_cl0 (CR_S (rest := []) hok (ct_X3_commonOf a1 a2) mw_X3_commonOf mst_X3_commonOf ml_X3_13 dX3_put_2 rfl rfl (roomOk rfl) rfl) rfl rfl ?_
  intro x1
  refine T_lstore (lv' := [(5, .long x1), (0, .ref (b + 79)), (1, .long a1), (3, .long a2)]) hok (by decide) rfl dX3_put_5 ?_
  refine T_lload hok 0 rfl dX3_put_7 ?_
  refine T_lconst (v := 0) hok rfl dX3_put_9 ?_
  refine T_jp _ (fun (j30 : MJ → Option (MJ)) => ∀ (J2 : MJ), T X A (Zm X A (iv1 (fun (J' : MJ) => Rg G b Lc (Rc b bk dr it) I J'))) 7 0 0 30 [] [] (Rg G b Lc (Rc b bk dr it) I J2) (j30 J2)) _ ?_ ?_
  · intro J2
    exact T_vret hok dX3_put_30 (Nat.zero_le _) (Nat.zero_le _) rfl
  intro j30 hj30
  refine T_lcmp_le (tgt := 30) hok dX3_put_10 rfl dX3_put_11 rfl ?_ ?_
  · refine T_sub (lv' := []) [] rfl ?_
    exact hj30 J
  refine T_aload_n hok 1 rfl rfl dX3_put_14 ?_
  refine T_lload_n hok 2 rfl rfl dX3_put_15 ?_
  refine T_lload hok 0 rfl dX3_put_16 ?_
  refine T_ldiv hok dX3_put_18 ?_
  refine T_putJ hok hA fr_X3_17 rfl lc_79 dX3_put_19 ?_
  intro J3
  refine T_aload_n hok 1 rfl rfl dX3_put_22 ?_
  refine T_lload_n hok 3 rfl rfl dX3_put_23 ?_
  refine T_lload hok 0 rfl dX3_put_24 ?_
  refine T_ldiv hok dX3_put_26 ?_
  refine T_putJ hok hA fr_X3_7 rfl lc_79 dX3_put_27 ?_
  intro J4
  refine T_sub (lv' := []) [] rfl ?_
  exact hj30 J4

set_option maxHeartbeats 4000000 in
set_option maxRecDepth 100000 in
theorem ct_X3_told {G : Gx} {l0 : Launch} {A : Nat → Prop} {b bk dr it : Nat} (hA : ∀ k, k < Lc.length → A (b + k)) (I : MI) (J : MJ) (a1 : Int32) : Ct G l0 A yX3_told cX3_told 2 (some .long) { frames := 0, cells := 0, slots := 0, locals := 0 } [.ref (b + 79), .int a1] (Rg G b Lc (Rc b bk dr it) I J) (il0 (Rg G b Lc (Rc b bk dr it) I J)) (f_X3_told J a1) := by
  refine Ct.of rfl (Nat.le_of_ble_eq_true rfl) ?_
  intro X hok
  replace hok : Ok G l0 X RX3 cX3_told 2 { frames := 0, cells := 0, slots := 0, locals := 0 } (some .long) := hok
  delta f_X3_told
  show T X A (Zm X A (il0 (Rg G b Lc (Rc b bk dr it) I J))) 2 0 0 0 [(0, .ref (b + 79)), (1, .int a1)] [] (Rg G b Lc (Rc b bk dr it) I J) _
  refine T_iload_n hok 1 rfl rfl dX3_told_0 ?_
  refine T_jp _ (fun (j15 : Int64 → Option (Int64)) => ∀ (x1 : Int64), T X A (Zm X A (il0 (Rg G b Lc (Rc b bk dr it) I J))) 2 0 0 15 [] [.long x1] (Rg G b Lc (Rc b bk dr it) I J) (j15 x1)) _ ?_ ?_
  · intro x1
    exact T_lret hok dX3_told_15 (Nat.zero_le _) (Nat.zero_le _) rfl
  intro j15 hj15
  refine T_if_ne (tgt := 11) hok dX3_told_1 rfl ?_ ?_
  · refine T_aload_n hok 0 rfl rfl dX3_told_4 ?_
    refine T_getJ hok fr_X3_17 lc_79 dX3_told_5 ?_
    refine T_goto (tgt := 15) hok dX3_told_8 rfl ?_
    refine T_sub (lv' := []) [] rfl ?_
    exact hj15 (J 79 0)
  refine T_aload_n hok 0 rfl rfl dX3_told_11 ?_
  refine T_getJ hok fr_X3_7 lc_79 dX3_told_12 ?_
  refine T_sub (lv' := []) [] rfl ?_
  exact hj15 (J 79 1)

set_option maxHeartbeats 4000000 in
set_option maxRecDepth 100000 in
theorem ct_X4_has {G : Gx} {l0 : Launch} {A : Nat → Prop} {b : Nat} {L : List Kd} {R : MR} {pl : Nat} (hA : ∀ k, k < L.length → A (b + k)) (hpl : LawsAt b L R pl) (I : MI) (J : MJ) (a1 : Int32) : Ct G l0 A yX4_has cX4_has 2 (some .boolean) { frames := 0, cells := 0, slots := 0, locals := 0 } [.ref (b + pl), .int a1] (Rg G b L R I J) (iz0 (Rg G b L R I J)) (f_X4_has I pl a1) := by
  refine Ct.of rfl (Nat.le_of_ble_eq_true rfl) ?_
  intro X hok
  replace hok : Ok G l0 X RX4 cX4_has 2 { frames := 0, cells := 0, slots := 0, locals := 0 } (some .boolean) := hok
  delta f_X4_has
  show T X A (Zm X A (iz0 (Rg G b L R I J))) 2 0 0 0 [(0, .ref (b + pl)), (1, .int a1)] [] (Rg G b L R I J) _
  refine T_aload_n hok 0 rfl rfl dX4_has_0 ?_
  refine T_getR hok fr_X4_18 hpl.o hpl.r2 dX4_has_1 ?_
  refine T_iload_n hok 1 rfl rfl dX4_has_4 ?_
  refine T_iald hok hpl.l2 dX4_has_5 ?_
  refine T_jp _ (fun (j14 : Bool → Option (Bool)) => ∀ (x1 : Bool), T X A (Zm X A (iz0 (Rg G b L R I J))) 2 0 0 14 [] [.int (bi x1)] (Rg G b L R I J) (j14 x1)) _ ?_ ?_
  · intro x1
    exact T_zret hok dX4_has_14 (Nat.zero_le _) (Nat.zero_le _) (bi_01 _) rfl
  intro j14 hj14
  refine T_if_le (tgt := 13) hok dX4_has_6 rfl ?_ ?_
  · refine T_iconst hok ic_0 dX4_has_13 ?_
    refine T_sub (lv' := []) [] rfl ?_
    exact hj14 false
  refine T_iconst hok ic_1 dX4_has_9 ?_
  refine T_goto (tgt := 14) hok dX4_has_10 rfl ?_
  refine T_sub (lv' := []) [] rfl ?_
  exact hj14 true

set_option maxHeartbeats 4000000 in
set_option maxRecDepth 100000 in
theorem ct_X4_begin {G : Gx} {l0 : Launch} {A : Nat → Prop} {b : Nat} {L : List Kd} {R : MR} {pl : Nat} (hA : ∀ k, k < L.length → A (b + k)) (hpl : LawsAt b L R pl) (I : MI) (J : MJ) (a1 : Int32) : Ct G l0 A yX4_begin cX4_begin 2 none { frames := 0, cells := 0, slots := 0, locals := 0 } [.ref (b + pl), .int a1] (Rg G b L R I J) (iv1 (fun (I' : MI) => Rg G b L R I' J)) (f_X4_begin I pl a1) := by
  refine Ct.of rfl (Nat.le_of_ble_eq_true rfl) ?_
  intro X hok
  replace hok : Ok G l0 X RX4 cX4_begin 2 { frames := 0, cells := 0, slots := 0, locals := 0 } none := hok
  delta f_X4_begin
  show T X A (Zm X A (iv1 (fun (I' : MI) => Rg G b L R I' J))) 2 0 0 0 [(0, .ref (b + pl)), (1, .int a1)] [] (Rg G b L R I J) _
  refine T_aload_n hok 0 rfl rfl dX4_begin_0 ?_
  refine T_getR hok fr_X4_15 hpl.o hpl.r1 dX4_begin_1 ?_
  refine T_iload_n hok 1 rfl rfl dX4_begin_4 ?_
  refine T_aload_n hok 0 rfl rfl dX4_begin_5 ?_
  refine T_getI hok fr_X4_29 hpl.o dX4_begin_6 ?_
  refine T_iast hok hA hpl.l1 dX4_begin_9 ?_
  intro I1
  exact T_vret hok dX4_begin_10 (Nat.zero_le _) (Nat.zero_le _) rfl

set_option maxHeartbeats 4000000 in
set_option maxRecDepth 100000 in
theorem ct_X4_end {G : Gx} {l0 : Launch} {A : Nat → Prop} {b : Nat} {L : List Kd} {R : MR} {pl : Nat} (hA : ∀ k, k < L.length → A (b + k)) (hpl : LawsAt b L R pl) (I : MI) (J : MJ) (a1 : Int32) : Ct G l0 A yX4_end cX4_end 2 none { frames := 0, cells := 0, slots := 0, locals := 0 } [.ref (b + pl), .int a1] (Rg G b L R I J) (iv1 (fun (I' : MI) => Rg G b L R I' J)) (f_X4_end I pl a1) := by
  refine Ct.of rfl (Nat.le_of_ble_eq_true rfl) ?_
  intro X hok
  replace hok : Ok G l0 X RX4 cX4_end 2 { frames := 0, cells := 0, slots := 0, locals := 0 } none := hok
  delta f_X4_end
  show T X A (Zm X A (iv1 (fun (I' : MI) => Rg G b L R I' J))) 2 0 0 0 [(0, .ref (b + pl)), (1, .int a1)] [] (Rg G b L R I J) _
  refine T_aload_n hok 0 rfl rfl dX4_end_0 ?_
  refine T_getR hok fr_X4_18 hpl.o hpl.r2 dX4_end_1 ?_
  refine T_iload_n hok 1 rfl rfl dX4_end_4 ?_
  refine T_aload_n hok 0 rfl rfl dX4_end_5 ?_
  refine T_getI hok fr_X4_29 hpl.o dX4_end_6 ?_
  refine T_aload_n hok 0 rfl rfl dX4_end_9 ?_
  refine T_getR hok fr_X4_15 hpl.o hpl.r1 dX4_end_10 ?_
  refine T_iload_n hok 1 rfl rfl dX4_end_13 ?_
  refine T_iald hok hpl.l1 dX4_end_14 ?_
  refine T_isub hok dX4_end_15 ?_
  refine T_iast hok hA hpl.l2 dX4_end_16 ?_
  intro I1
  exact T_vret hok dX4_end_17 (Nat.zero_le _) (Nat.zero_le _) rfl

set_option maxHeartbeats 4000000 in
set_option maxRecDepth 100000 in
theorem ct_X4_add {G : Gx} {l0 : Launch} {A : Nat → Prop} {b : Nat} {L : List Kd} {R : MR} {pl : Nat} (hA : ∀ k, k < L.length → A (b + k)) (hpl : LawsAt b L R pl) (I : MI) (J : MJ) (a1 : Int32) : Ct G l0 A yX4_add cX4_add 2 none { frames := 0, cells := 0, slots := 0, locals := 0 } [.ref (b + pl), .int a1] (Rg G b L R I J) (iv1 (fun (I' : MI) => Rg G b L R I' J)) (f_X4_add I pl a1) := by
  refine Ct.of rfl (Nat.le_of_ble_eq_true rfl) ?_
  intro X hok
  replace hok : Ok G l0 X RX4 cX4_add 2 { frames := 0, cells := 0, slots := 0, locals := 0 } none := hok
  delta f_X4_add
  show T X A (Zm X A (iv1 (fun (I' : MI) => Rg G b L R I' J))) 2 0 0 0 [(0, .ref (b + pl)), (1, .int a1)] [] (Rg G b L R I J) _
  refine T_aload_n hok 0 rfl rfl dX4_add_0 ?_
  refine T_getI hok fr_X4_29 hpl.o dX4_add_1 ?_
  refine T_bipush hok bp_64 dX4_add_4 ?_
  refine T_jp _ (fun (j29 : MI → Option (MI)) => ∀ (I1 : MI), T X A (Zm X A (iv1 (fun (I' : MI) => Rg G b L R I' J))) 2 0 0 29 [] [] (Rg G b L R I1 J) (j29 I1)) _ ?_ ?_
  · intro I1
    exact T_vret hok dX4_add_29 (Nat.zero_le _) (Nat.zero_le _) rfl
  intro j29 hj29
  refine T_icmp_ge (tgt := 29) hok dX4_add_6 rfl ?_ ?_
  · refine T_sub (lv' := []) [] rfl ?_
    exact hj29 I
  refine T_aload_n hok 0 rfl rfl dX4_add_9 ?_
  refine T_getR hok fr_X4_11 hpl.o hpl.r0 dX4_add_10 ?_
  refine T_aload_n hok 0 rfl rfl dX4_add_13 ?_
  refine T_getI hok fr_X4_29 hpl.o dX4_add_14 ?_
  refine T_iload_n hok 1 rfl rfl dX4_add_17 ?_
  refine T_iast hok hA hpl.l0 dX4_add_18 ?_
  intro I2
  refine T_aload_n hok 0 rfl rfl dX4_add_19 ?_
  refine T_dup hok rfl dX4_add_20 ?_
  refine T_getI hok fr_X4_29 hpl.o dX4_add_21 ?_
  refine T_iconst hok ic_1 dX4_add_24 ?_
  refine T_iadd hok dX4_add_25 ?_
  refine T_putI hok hA fr_X4_29 rfl rfl hpl.o dX4_add_26 ?_
  intro I3
  refine T_sub (lv' := []) [] rfl ?_
  exact hj29 I3

set_option maxHeartbeats 4000000 in
set_option maxRecDepth 100000 in
theorem ct_X5_cost {G : Gx} {l0 : Launch} {A : Nat → Prop} {b bk dr it : Nat} {pb : Nat} (hA : ∀ k, k < Lc.length → A (b + k)) (hpb : isBk pb = true) (I : MI) (J : MJ) (a2 : Int32) : Ct G l0 A yX5_cost cX5_cost 2 (some .int) { frames := 1, cells := 0, slots := 0, locals := 22 } [.ref (b + pb), .int a2] (Rg G b Lc (Rc b bk dr it) I J) (ii0 (Rg G b Lc (Rc b bk dr it) I J)) (f_X5_cost I pb a2) := by
  refine Ct.of rfl (Nat.le_of_ble_eq_true rfl) ?_
  intro X hok
  replace hok : Ok G l0 X RX5 cX5_cost 2 { frames := 1, cells := 0, slots := 0, locals := 22 } (some .int) := hok
  delta f_X5_cost
  show T X A (Zm X A (ii0 (Rg G b Lc (Rc b bk dr it) I J))) 2 0 0 0 [(0, .ref (b + pb)), (1, .int a2)] [] (Rg G b Lc (Rc b bk dr it) I J) _
  refine T_aload_n hok 0 rfl rfl dX5_cost_0 ?_
  refine T_aload_n hok 0 rfl rfl dX5_cost_1 ?_
  refine T_getR hok fr_X5_52 (bookAt_c (b := 0) (bk := 0) (dr := 0) (it := 0) hpb).o (bookAt_c hpb).r7 dX5_cost_2 ?_
  refine T_iload_n hok 1 rfl rfl dX5_cost_5 ?_
  refine T_iald hok (bookAt_c (b := 0) (bk := 0) (dr := 0) (it := 0) hpb).l7 dX5_cost_6 ?_
  refine T_aload_n hok 0 rfl rfl dX5_cost_7 ?_
  refine T_getR hok fr_X5_42 (bookAt_c (b := 0) (bk := 0) (dr := 0) (it := 0) hpb).o (bookAt_c hpb).r8 dX5_cost_8 ?_
  refine T_iload_n hok 1 rfl rfl dX5_cost_11 ?_
  refine T_iald hok (bookAt_c (b := 0) (bk := 0) (dr := 0) (it := 0) hpb).l8 dX5_cost_12 ?_
  refine T_ci0 (CR_V (rest := []) hok (ct_X0_alone hA (bookAt_c hpb) I J (I (pb + 8) (ix a2)) (I (pb + 9) (ix a2))) mw_X0_alone mv_X0_alone ml_X5_55 (bookAt_c (b := 0) (bk := 0) (dr := 0) (it := 0) hpb).o dX5_cost_13 rfl rfl (roomOk rfl) rfl) rfl rfl ?_
  intro x1
  exact T_iret hok dX5_cost_16 (Nat.zero_le _) (Nat.zero_le _) rfl

set_option maxHeartbeats 4000000 in
set_option maxRecDepth 100000 in
theorem ct_X5_comesAhead {G : Gx} {l0 : Launch} {A : Nat → Prop} {b bk dr it : Nat} {pb : Nat} (hA : ∀ k, k < Lc.length → A (b + k)) (hpb : isBk pb = true) (I : MI) (J : MJ) (a2 : Int32) (a3 : Int32) : Ct G l0 A yX5_comesAhead cX5_comesAhead 4 (some .boolean) { frames := 2, cells := 0, slots := 0, locals := 43 } [.ref (b + pb), .int a2, .int a3] (Rg G b Lc (Rc b bk dr it) I J) (iz0 (Rg G b Lc (Rc b bk dr it) I J)) (f_X5_comesAhead I pb a2 a3) := by
  refine Ct.of rfl (Nat.le_of_ble_eq_true rfl) ?_
  intro X hok
  replace hok : Ok G l0 X RX5 cX5_comesAhead 4 { frames := 2, cells := 0, slots := 0, locals := 43 } (some .boolean) := hok
  delta f_X5_comesAhead
  show T X A (Zm X A (iz0 (Rg G b Lc (Rc b bk dr it) I J))) 4 0 0 0 [(0, .ref (b + pb)), (1, .int a2), (2, .int a3)] [] (Rg G b Lc (Rc b bk dr it) I J) _
  refine T_aload_n hok 0 rfl rfl dX5_comesAhead_0 ?_
  refine T_iload_n hok 1 rfl rfl dX5_comesAhead_1 ?_
  refine T_ci0 (CR_S (rest := []) hok (ct_X5_cost hA hpb I J a2) mw_X5_cost mst_X5_cost ml_X5_38 dX5_comesAhead_2 rfl rfl (roomOk rfl) rfl) rfl rfl ?_
  intro x1
  refine T_aload_n hok 0 rfl rfl dX5_comesAhead_5 ?_
  refine T_iload_n hok 2 rfl rfl dX5_comesAhead_6 ?_
  refine T_ci0 (CR_S (rest := [.int x1]) hok (ct_X5_cost hA hpb I J a3) mw_X5_cost mst_X5_cost ml_X5_38 dX5_comesAhead_7 rfl rfl (roomOk rfl) rfl) rfl rfl ?_
  intro x2
  refine T_isub hok dX5_comesAhead_10 ?_
  refine T_lti ?_
  intro x3
  refine T_istore_n (lv' := [(3, .int x3), (0, .ref (b + pb)), (1, .int a2), (2, .int a3)]) hok rfl (by decide) rfl dX5_comesAhead_11 ?_
  refine T_iload_n hok 0 rfl rfl dX5_comesAhead_12 ?_
  refine T_jp _ (fun (j30 : Bool → Option (Bool)) => ∀ (x4 : Bool), T X A (Zm X A (iz0 (Rg G b Lc (Rc b bk dr it) I J))) 4 0 0 30 [] [.int (bi x4)] (Rg G b Lc (Rc b bk dr it) I J) (j30 x4)) _ ?_ ?_
  · intro x4
    exact T_zret hok dX5_comesAhead_30 (Nat.zero_le _) (Nat.zero_le _) (bi_01 _) rfl
  intro j30 hj30
  refine T_jp _ (fun (j25 : Option (Bool)) => T X A (Zm X A (iz0 (Rg G b Lc (Rc b bk dr it) I J))) 4 0 0 25 [] [] (Rg G b Lc (Rc b bk dr it) I J) (j25)) _ ?_ ?_
  · skip
    refine T_iconst hok ic_1 dX5_comesAhead_25 ?_
    refine T_goto (tgt := 30) hok dX5_comesAhead_26 rfl ?_
    exact hj30 true
  intro j25 hj25
  refine T_if_lt (tgt := 25) hok dX5_comesAhead_13 rfl ?_ ?_
  · refine T_sub (lv' := []) [] rfl ?_
    exact hj25
  refine T_iload_n hok 0 rfl rfl dX5_comesAhead_16 ?_
  refine T_jp _ (fun (j29 : Option (Bool)) => T X A (Zm X A (iz0 (Rg G b Lc (Rc b bk dr it) I J))) 4 0 0 29 [] [] (Rg G b Lc (Rc b bk dr it) I J) (j29)) _ ?_ ?_
  · skip
    refine T_iconst hok ic_0 dX5_comesAhead_29 ?_
    exact hj30 false
  intro j29 hj29
  refine T_if_ne (tgt := 29) hok dX5_comesAhead_17 rfl ?_ ?_
  · refine T_iload_n hok 2 rfl rfl dX5_comesAhead_20 ?_
    refine T_iload_n hok 3 rfl rfl dX5_comesAhead_21 ?_
    refine T_icmp_ge (tgt := 29) hok dX5_comesAhead_22 rfl ?_ ?_
    · refine T_sub (lv' := []) [] rfl ?_
      exact hj29
    refine T_sub (lv' := []) [] rfl ?_
    exact hj25
  refine T_sub (lv' := []) [] rfl ?_
  exact hj29

set_option maxHeartbeats 4000000 in
set_option maxRecDepth 100000 in
theorem ct_X5_hasDay {G : Gx} {l0 : Launch} {A : Nat → Prop} {b bk dr it : Nat} {pb : Nat} (hA : ∀ k, k < Lc.length → A (b + k)) (hpb : isBk pb = true) (I : MI) (J : MJ) (a2 : Int32) (a3 : Int32) : Ct G l0 A yX5_hasDay cX5_hasDay 6 (some .boolean) { frames := 3, cells := 0, slots := 0, locals := 66 } [.ref (b + 76), .ref (b + pb), .int a2, .int a3] (Rg G b Lc (Rc b bk dr it) I J) (iz0 (Rg G b Lc (Rc b bk dr it) I J)) (f_X5_hasDay I pb a2 a3) := by
  refine Ct.of rfl (Nat.le_of_ble_eq_true rfl) ?_
  intro X hok
  replace hok : Ok G l0 X RX5 cX5_hasDay 6 { frames := 3, cells := 0, slots := 0, locals := 66 } (some .boolean) := hok
  delta f_X5_hasDay
  show T X A (Zm X A (iz0 (Rg G b Lc (Rc b bk dr it) I J))) 6 0 0 0 [(0, .ref (b + 76)), (1, .ref (b + pb)), (2, .int a2), (3, .int a3)] [] (Rg G b Lc (Rc b bk dr it) I J) _
  refine T_iconst hok ic_0 dX5_hasDay_0 ?_
  refine T_istore (lv' := [(4, .int (0 : Int32)), (0, .ref (b + 76)), (1, .ref (b + pb)), (2, .int a2), (3, .int a3)]) hok (by decide) rfl dX5_hasDay_1 ?_
  refine T_iconst hok ic_0 dX5_hasDay_3 ?_
  refine T_istore (lv' := [(5, .int (0 : Int32)), (4, .int (0 : Int32)), (0, .ref (b + 76)), (1, .ref (b + pb)), (2, .int a2), (3, .int a3)]) hok (by decide) rfl dX5_hasDay_4 ?_
  refine T_jp _ (fun (j37 : Int32 → Option (Bool)) => ∀ (x1 : Int32), T X A (Zm X A (iz0 (Rg G b Lc (Rc b bk dr it) I J))) 6 0 0 37 [(1, .ref (b + pb)), (3, .int a3), (4, .int x1)] [] (Rg G b Lc (Rc b bk dr it) I J) (j37 x1)) _ ?_ ?_
  · intro x1
    refine T_iconst hok ic_0 dX5_hasDay_37 ?_
    refine T_istore (lv' := [(5, .int (0 : Int32)), (1, .ref (b + pb)), (3, .int a3), (4, .int x1)]) hok (by decide) rfl dX5_hasDay_38 ?_
    refine T_jp _ (fun (j84 : Int32 → Option (Bool)) => ∀ (x2 : Int32), T X A (Zm X A (iz0 (Rg G b Lc (Rc b bk dr it) I J))) 6 0 0 84 [(4, .int x2)] [] (Rg G b Lc (Rc b bk dr it) I J) (j84 x2)) _ ?_ ?_
    · intro x2
      refine T_iload hok 0 rfl dX5_hasDay_84 ?_
      refine T_jp _ (fun (j94 : Bool → Option (Bool)) => ∀ (x3 : Bool), T X A (Zm X A (iz0 (Rg G b Lc (Rc b bk dr it) I J))) 6 0 0 94 [] [.int (bi x3)] (Rg G b Lc (Rc b bk dr it) I J) (j94 x3)) _ ?_ ?_
      · intro x3
        exact T_zret hok dX5_hasDay_94 (Nat.zero_le _) (Nat.zero_le _) (bi_01 _) rfl
      intro j94 hj94
      refine T_if_le (tgt := 93) hok dX5_hasDay_86 rfl ?_ ?_
      · refine T_iconst hok ic_0 dX5_hasDay_93 ?_
        refine T_sub (lv' := []) [] rfl ?_
        exact hj94 false
      refine T_iconst hok ic_1 dX5_hasDay_89 ?_
      refine T_goto (tgt := 94) hok dX5_hasDay_90 rfl ?_
      refine T_sub (lv' := []) [] rfl ?_
      exact hj94 true
    intro j84 hj84
    refine T_sub (lv' := [(1, .ref (b + pb)), (3, .int a3), (4, .int x1), (5, .int (0 : Int32))]) [1, 2, 3, 0] rfl ?_
    refine T_fix2 _ (fun (x4 : Int32) (x5 : Int32) => [(1, .ref (b + pb)), (3, .int a3), (4, .int x4), (5, .int x5)]) (fun (x4 : Int32) (x5 : Int32) => Rg G b Lc (Rc b bk dr it) I J) ?_ FU x1 (0 : Int32)
    intro r40 hr40 x4 x5
    refine T_iload hok 3 rfl dX5_hasDay_40 ?_
    refine T_aload_n hok 0 rfl rfl dX5_hasDay_42 ?_
    refine T_getI hok fr_X5_25 (bookAt_c (b := 0) (bk := 0) (dr := 0) (it := 0) hpb).o dX5_hasDay_43 ?_
    refine T_icmp_ge (tgt := 84) hok dX5_hasDay_46 rfl ?_ ?_
    · refine T_sub (lv' := [(4, .int x4)]) [2] rfl ?_
      exact hj84 x4
    refine T_aload_n hok 0 rfl rfl dX5_hasDay_49 ?_
    refine T_getR hok fr_X5_42 (bookAt_c (b := 0) (bk := 0) (dr := 0) (it := 0) hpb).o (bookAt_c hpb).r8 dX5_hasDay_50 ?_
    refine T_iload hok 3 rfl dX5_hasDay_53 ?_
    refine T_iald hok (bookAt_c (b := 0) (bk := 0) (dr := 0) (it := 0) hpb).l8 dX5_hasDay_55 ?_
    refine T_aload_n hok 0 rfl rfl dX5_hasDay_56 ?_
    refine T_getR hok fr_X5_42 (bookAt_c (b := 0) (bk := 0) (dr := 0) (it := 0) hpb).o (bookAt_c hpb).r8 dX5_hasDay_57 ?_
    refine T_iload_n hok 1 rfl rfl dX5_hasDay_60 ?_
    refine T_iald hok (bookAt_c (b := 0) (bk := 0) (dr := 0) (it := 0) hpb).l8 dX5_hasDay_61 ?_
    refine T_jp _ (fun (j78 : Int32 → Option (Bool)) => ∀ (x6 : Int32), T X A (Zm X A (iz0 (Rg G b Lc (Rc b bk dr it) I J))) 6 0 0 78 [(1, .ref (b + pb)), (3, .int a3), (4, .int x6), (5, .int x5)] [] (Rg G b Lc (Rc b bk dr it) I J) (j78 x6)) _ ?_ ?_
    · intro x6
      refine T_iinc (lvs := fun x7 => [(5, .int x7), (1, .ref (b + pb)), (3, .int a3), (4, .int x6)]) hok 3 rfl ic_1 (by decide) (fun _ => rfl) dX5_hasDay_78 ?_
      intro x7
      refine T_goto (tgt := 40) hok dX5_hasDay_81 rfl ?_
      refine T_sub (lv' := [(1, .ref (b + pb)), (3, .int a3), (4, .int x6), (5, .int x7)]) [1, 2, 3, 0] rfl ?_
      exact hr40 x6 x7
    intro j78 hj78
    refine T_icmp_ne (tgt := 78) hok dX5_hasDay_62 rfl ?_ ?_
    · refine T_aload_n hok 0 rfl rfl dX5_hasDay_65 ?_
      refine T_iload hok 3 rfl dX5_hasDay_66 ?_
      refine T_iload_n hok 1 rfl rfl dX5_hasDay_68 ?_
      refine T_cz0 (CR_S (rest := []) hok (ct_X5_comesAhead hA hpb I J x5 a3) mw_X5_comesAhead mst_X5_comesAhead ml_X5_45 dX5_hasDay_69 rfl rfl (roomOk rfl) rfl) rfl rfl ?_
      intro x8
      refine T_ifb_eq (tgt := 78) hok dX5_hasDay_72 rfl ?_ ?_
      · refine T_iinc (lvs := fun x9 => [(4, .int x9), (1, .ref (b + pb)), (3, .int a3), (5, .int x5)]) hok 2 rfl ic_m1 (by decide) (fun _ => rfl) dX5_hasDay_75 ?_
        intro x9
        refine T_sub (lv' := [(1, .ref (b + pb)), (3, .int a3), (4, .int x9), (5, .int x5)]) [1, 2, 0, 3] rfl ?_
        exact hj78 x9
      exact hj78 x4
    exact hj78 x4
  intro j37 hj37
  refine T_sub (lv' := [(0, .ref (b + 76)), (1, .ref (b + pb)), (2, .int a2), (3, .int a3), (4, .int (0 : Int32)), (5, .int (0 : Int32))]) [2, 3, 4, 5, 1, 0] rfl ?_
  refine T_fix2 _ (fun (x10 : Int32) (x11 : Int32) => [(0, .ref (b + 76)), (1, .ref (b + pb)), (2, .int a2), (3, .int a3), (4, .int x10), (5, .int x11)]) (fun (x10 : Int32) (x11 : Int32) => Rg G b Lc (Rc b bk dr it) I J) ?_ FU (0 : Int32) (0 : Int32)
  intro r6 hr6 x10 x11
  refine T_iload hok 5 rfl dX5_hasDay_6 ?_
  refine T_iload_n hok 2 rfl rfl dX5_hasDay_8 ?_
  refine T_icmp_ge (tgt := 37) hok dX5_hasDay_9 rfl ?_ ?_
  · refine T_sub (lv' := [(1, .ref (b + pb)), (3, .int a3), (4, .int x10)]) [1, 3, 4] rfl ?_
    exact hj37 x10
  refine T_aload_n hok 0 rfl rfl dX5_hasDay_12 ?_
  refine T_getR hok fr_X5_11 lc_76 rc_76_0 dX5_hasDay_13 ?_
  refine T_iload hok 5 rfl dX5_hasDay_16 ?_
  refine T_iald hok lc_77 dX5_hasDay_18 ?_
  refine T_aload_n hok 1 rfl rfl dX5_hasDay_19 ?_
  refine T_getR hok fr_X5_42 (bookAt_c (b := 0) (bk := 0) (dr := 0) (it := 0) hpb).o (bookAt_c hpb).r8 dX5_hasDay_20 ?_
  refine T_iload_n hok 3 rfl rfl dX5_hasDay_23 ?_
  refine T_iald hok (bookAt_c (b := 0) (bk := 0) (dr := 0) (it := 0) hpb).l8 dX5_hasDay_24 ?_
  refine T_jp _ (fun (j31 : Int32 → Option (Bool)) => ∀ (x12 : Int32), T X A (Zm X A (iz0 (Rg G b Lc (Rc b bk dr it) I J))) 6 0 0 31 [(0, .ref (b + 76)), (1, .ref (b + pb)), (2, .int a2), (3, .int a3), (4, .int x12), (5, .int x11)] [] (Rg G b Lc (Rc b bk dr it) I J) (j31 x12)) _ ?_ ?_
  · intro x12
    refine T_iinc (lvs := fun x13 => [(5, .int x13), (0, .ref (b + 76)), (1, .ref (b + pb)), (2, .int a2), (3, .int a3), (4, .int x12)]) hok 5 rfl ic_1 (by decide) (fun _ => rfl) dX5_hasDay_31 ?_
    intro x13
    refine T_goto (tgt := 6) hok dX5_hasDay_34 rfl ?_
    refine T_sub (lv' := [(0, .ref (b + 76)), (1, .ref (b + pb)), (2, .int a2), (3, .int a3), (4, .int x12), (5, .int x13)]) [1, 2, 3, 4, 5, 0] rfl ?_
    exact hr6 x12 x13
  intro j31 hj31
  refine T_icmp_ne (tgt := 31) hok dX5_hasDay_25 rfl ?_ ?_
  · refine T_iinc (lvs := fun x14 => [(4, .int x14), (0, .ref (b + 76)), (1, .ref (b + pb)), (2, .int a2), (3, .int a3), (5, .int x11)]) hok 4 rfl ic_1 (by decide) (fun _ => rfl) dX5_hasDay_28 ?_
    intro x14
    refine T_sub (lv' := [(0, .ref (b + 76)), (1, .ref (b + pb)), (2, .int a2), (3, .int a3), (4, .int x14), (5, .int x11)]) [1, 2, 3, 4, 0, 5] rfl ?_
    exact hj31 x14
  exact hj31 x10

set_option maxHeartbeats 4000000 in
set_option maxRecDepth 100000 in
theorem ct_X10_isAmong {G : Gx} {l0 : Launch} {A : Nat → Prop} {Wd : Heap → Prop} (a1 : Int32) (a2 : Int32) : Ct G l0 A yX10_isAmong cX10_isAmong 2 (some .boolean) { frames := 0, cells := 0, slots := 0, locals := 0 } [.int a1, .int a2] (Wd) (iz0 (Wd)) (f_X10_isAmong a1 a2) := by
  refine Ct.of rfl (Nat.le_of_ble_eq_true rfl) ?_
  intro X hok
  replace hok : Ok G l0 X RX10 cX10_isAmong 2 { frames := 0, cells := 0, slots := 0, locals := 0 } (some .boolean) := hok
  delta f_X10_isAmong
  show T X A (Zm X A (iz0 (Wd))) 2 0 0 0 [(0, .int a1), (1, .int a2)] [] (Wd) _
  refine T_iload_n hok 1 rfl rfl dX10_isAmong_0 ?_
  refine T_iload_n hok 0 rfl rfl dX10_isAmong_1 ?_
  refine T_ishr hok dX10_isAmong_2 ?_
  refine T_iconst hok ic_1 dX10_isAmong_3 ?_
  refine T_iand hok dX10_isAmong_4 ?_
  refine T_iconst hok ic_1 dX10_isAmong_5 ?_
  refine T_jp _ (fun (j14 : Bool → Option (Bool)) => ∀ (x1 : Bool), T X A (Zm X A (iz0 (Wd))) 2 0 0 14 [] [.int (bi x1)] (Wd) (j14 x1)) _ ?_ ?_
  · intro x1
    exact T_zret hok dX10_isAmong_14 (Nat.zero_le _) (Nat.zero_le _) (bi_01 _) rfl
  intro j14 hj14
  refine T_icmp_ne (tgt := 13) hok dX10_isAmong_6 rfl ?_ ?_
  · refine T_iconst hok ic_1 dX10_isAmong_9 ?_
    refine T_goto (tgt := 14) hok dX10_isAmong_10 rfl ?_
    refine T_sub (lv' := []) [] rfl ?_
    exact hj14 true
  refine T_iconst hok ic_0 dX10_isAmong_13 ?_
  refine T_sub (lv' := []) [] rfl ?_
  exact hj14 false

set_option maxHeartbeats 4000000 in
set_option maxRecDepth 100000 in
theorem ct_X5_firstFree {G : Gx} {l0 : Launch} {A : Nat → Prop} {b bk dr it : Nat} {pb : Nat} (hA : ∀ k, k < Lc.length → A (b + k)) (hpb : isBk pb = true) (I : MI) (J : MJ) (a2 : Int32) (a3 : Int32) (a4 : Int32) : Ct G l0 A yX5_firstFree cX5_firstFree 6 (some .int) { frames := 1, cells := 0, slots := 0, locals := 21 } [.ref (b + 76), .ref (b + pb), .int a2, .int a3, .int a4] (Rg G b Lc (Rc b bk dr it) I J) (ii0 (Rg G b Lc (Rc b bk dr it) I J)) (f_X5_firstFree I pb a2 a3 a4) := by
  refine Ct.of rfl (Nat.le_of_ble_eq_true rfl) ?_
  intro X hok
  replace hok : Ok G l0 X RX5 cX5_firstFree 6 { frames := 1, cells := 0, slots := 0, locals := 21 } (some .int) := hok
  delta f_X5_firstFree
  show T X A (Zm X A (ii0 (Rg G b Lc (Rc b bk dr it) I J))) 6 0 0 0 [(0, .ref (b + 76)), (1, .ref (b + pb)), (2, .int a2), (3, .int a3), (4, .int a4)] [] (Rg G b Lc (Rc b bk dr it) I J) _
  refine T_iconst hok ic_0 dX5_firstFree_0 ?_
  refine T_istore (lv' := [(5, .int (0 : Int32)), (0, .ref (b + 76)), (1, .ref (b + pb)), (2, .int a2), (3, .int a3), (4, .int a4)]) hok (by decide) rfl dX5_firstFree_1 ?_
  refine T_sub (lv' := [(0, .ref (b + 76)), (1, .ref (b + pb)), (2, .int a2), (3, .int a3), (4, .int a4), (5, .int (0 : Int32))]) [1, 2, 3, 4, 5, 0] rfl ?_
  refine T_fix1 _ (fun (x1 : Int32) => [(0, .ref (b + 76)), (1, .ref (b + pb)), (2, .int a2), (3, .int a3), (4, .int a4), (5, .int x1)]) (fun (x1 : Int32) => Rg G b Lc (Rc b bk dr it) I J) ?_ FU (0 : Int32)
  intro r3 hr3 x1
  refine T_iload hok 5 rfl dX5_firstFree_3 ?_
  refine T_iload_n hok 2 rfl rfl dX5_firstFree_5 ?_
  refine T_icmp_ge (tgt := 44) hok dX5_firstFree_6 rfl ?_ ?_
  · refine T_bipush hok bp_m2 dX5_firstFree_44 ?_
    exact T_iret hok dX5_firstFree_46 (Nat.zero_le _) (Nat.zero_le _) rfl
  refine T_iload hok 5 rfl dX5_firstFree_9 ?_
  refine T_iload hok 4 rfl dX5_firstFree_11 ?_
  refine T_cz0 (CR_SN (rest := []) hok (ct_X10_isAmong x1 a4) mw_X10_isAmong mst_X10_isAmong ml_X5_48 dX5_firstFree_13 rfl rfl (roomOk rfl) rfl) rfl rfl ?_
  intro x2
  refine T_jp _ (fun (j38 : Option (Int32)) => T X A (Zm X A (ii0 (Rg G b Lc (Rc b bk dr it) I J))) 6 0 0 38 [(0, .ref (b + 76)), (1, .ref (b + pb)), (2, .int a2), (3, .int a3), (4, .int a4), (5, .int x1)] [] (Rg G b Lc (Rc b bk dr it) I J) (j38)) _ ?_ ?_
  · skip
    refine T_iinc (lvs := fun x3 => [(5, .int x3), (0, .ref (b + 76)), (1, .ref (b + pb)), (2, .int a2), (3, .int a3), (4, .int a4)]) hok 5 rfl ic_1 (by decide) (fun _ => rfl) dX5_firstFree_38 ?_
    intro x3
    refine T_goto (tgt := 3) hok dX5_firstFree_41 rfl ?_
    refine T_sub (lv' := [(0, .ref (b + 76)), (1, .ref (b + pb)), (2, .int a2), (3, .int a3), (4, .int a4), (5, .int x3)]) [1, 2, 3, 4, 5, 0] rfl ?_
    exact hr3 x3
  intro j38 hj38
  refine T_ifb_ne (tgt := 38) hok dX5_firstFree_16 rfl ?_ ?_
  · exact hj38
  refine T_aload_n hok 0 rfl rfl dX5_firstFree_19 ?_
  refine T_getR hok fr_X5_11 lc_76 rc_76_0 dX5_firstFree_20 ?_
  refine T_iload hok 5 rfl dX5_firstFree_23 ?_
  refine T_iald hok lc_77 dX5_firstFree_25 ?_
  refine T_aload_n hok 1 rfl rfl dX5_firstFree_26 ?_
  refine T_getR hok fr_X5_42 (bookAt_c (b := 0) (bk := 0) (dr := 0) (it := 0) hpb).o (bookAt_c hpb).r8 dX5_firstFree_27 ?_
  refine T_iload_n hok 3 rfl rfl dX5_firstFree_30 ?_
  refine T_iald hok (bookAt_c (b := 0) (bk := 0) (dr := 0) (it := 0) hpb).l8 dX5_firstFree_31 ?_
  refine T_icmp_ne (tgt := 38) hok dX5_firstFree_32 rfl ?_ ?_
  · refine T_iload hok 5 rfl dX5_firstFree_35 ?_
    exact T_iret hok dX5_firstFree_37 (Nat.zero_le _) (Nat.zero_le _) rfl
  exact hj38

set_option maxHeartbeats 4000000 in
set_option maxRecDepth 100000 in
theorem ct_X5_lay {G : Gx} {l0 : Launch} {A : Nat → Prop} {b bk dr it : Nat} {pb : Nat} (hA : ∀ k, k < Lc.length → A (b + k)) (hpb : isBk pb = true) (I : MI) (J : MJ) (a2 : Int32) : Ct G l0 A yX5_lay cX5_lay 5 none { frames := 4, cells := 0, slots := 0, locals := 91 } [.ref (b + 76), .ref (b + pb), .int a2] (Rg G b Lc (Rc b bk dr it) I J) (iv1 (fun (I' : MI) => Rg G b Lc (Rc b bk dr it) I' J)) (f_X5_lay I pb a2) := by
  refine Ct.of rfl (Nat.le_of_ble_eq_true rfl) ?_
  intro X hok
  replace hok : Ok G l0 X RX5 cX5_lay 5 { frames := 4, cells := 0, slots := 0, locals := 91 } none := hok
  delta f_X5_lay
  show T X A (Zm X A (iv1 (fun (I' : MI) => Rg G b Lc (Rc b bk dr it) I' J))) 5 0 0 0 [(0, .ref (b + 76)), (1, .ref (b + pb)), (2, .int a2)] [] (Rg G b Lc (Rc b bk dr it) I J) _
  refine T_iconst hok ic_0 dX5_lay_0 ?_
  refine T_istore_n (lv' := [(3, .int (0 : Int32)), (0, .ref (b + 76)), (1, .ref (b + pb)), (2, .int a2)]) hok rfl (by decide) rfl dX5_lay_1 ?_
  refine T_aload_n hok 1 rfl rfl dX5_lay_2 ?_
  refine T_iconst hok ic_0 dX5_lay_3 ?_
  refine T_putI hok hA fr_X5_18 rfl rfl lc_76 dX5_lay_4 ?_
  intro I1
  refine T_aload_n hok 1 rfl rfl dX5_lay_7 ?_
  refine T_iconst hok ic_0 dX5_lay_8 ?_
  refine T_putI hok hA fr_X5_22 rfl rfl lc_76 dX5_lay_9 ?_
  intro I2
  refine T_iconst hok ic_0 dX5_lay_12 ?_
  refine T_istore (lv' := [(4, .int (0 : Int32)), (3, .int (0 : Int32)), (0, .ref (b + 76)), (1, .ref (b + pb)), (2, .int a2)]) hok (by decide) rfl dX5_lay_13 ?_
  refine T_sub (lv' := [(0, .ref (b + 76)), (1, .ref (b + pb)), (2, .int a2), (3, .int (0 : Int32)), (4, .int (0 : Int32))]) [2, 3, 4, 1, 0] rfl ?_
  refine T_fix3 _ (fun (x3 : Int32) (x4 : Int32) (I5 : MI) => [(0, .ref (b + 76)), (1, .ref (b + pb)), (2, .int a2), (3, .int x3), (4, .int x4)]) (fun (x3 : Int32) (x4 : Int32) (I5 : MI) => Rg G b Lc (Rc b bk dr it) I5 J) ?_ FU (0 : Int32) (0 : Int32) I2
  intro r15 hr15 x3 x4 I5
  refine T_iload hok 4 rfl dX5_lay_15 ?_
  refine T_aload_n hok 1 rfl rfl dX5_lay_17 ?_
  refine T_getI hok fr_X5_25 (bookAt_c (b := 0) (bk := 0) (dr := 0) (it := 0) hpb).o dX5_lay_18 ?_
  refine T_icmp_ge (tgt := 111) hok dX5_lay_21 rfl ?_ ?_
  · exact T_vret hok dX5_lay_111 (Nat.zero_le _) (Nat.zero_le _) rfl
  refine T_aload_n hok 0 rfl rfl dX5_lay_24 ?_
  refine T_getR hok fr_X5_15 lc_76 rc_76_1 dX5_lay_25 ?_
  refine T_iload hok 4 rfl dX5_lay_28 ?_
  refine T_aload_n hok 0 rfl rfl dX5_lay_30 ?_
  refine T_aload_n hok 1 rfl rfl dX5_lay_31 ?_
  refine T_iload_n hok 2 rfl rfl dX5_lay_32 ?_
  refine T_iload hok 4 rfl dX5_lay_33 ?_
  refine T_cz0 (CR_V (rest := [.int x4, .ref (b + 78)]) hok (ct_X5_hasDay hA hpb I5 J a2 x4) mw_X5_hasDay mv_X5_hasDay ml_X5_30 lc_76 dX5_lay_35 rfl rfl (roomOk rfl) rfl) rfl rfl ?_
  intro x6
  refine T_jp _ (fun (j55 : Int32 → Int32 → Option (MI)) => ∀ (x7 : Int32) (x8 : Int32), T X A (Zm X A (iv1 (fun (I' : MI) => Rg G b Lc (Rc b bk dr it) I' J))) 5 0 0 55 [(0, .ref (b + 76)), (1, .ref (b + pb)), (2, .int a2), (3, .int x3), (4, .int x4)] [.int x7, .int x8, .ref (b + 78)] (Rg G b Lc (Rc b bk dr it) I5 J) (j55 x7 x8)) _ ?_ ?_
  · intro x7 x8
    refine T_iast hok hA lc_78 dX5_lay_55 ?_
    intro I9
    refine T_aload_n hok 0 rfl rfl dX5_lay_56 ?_
    refine T_getR hok fr_X5_15 lc_76 rc_76_1 dX5_lay_57 ?_
    refine T_iload hok 4 rfl dX5_lay_60 ?_
    refine T_iald hok lc_78 dX5_lay_62 ?_
    refine T_bipush hok bp_m2 dX5_lay_63 ?_
    refine T_jp _ (fun (j105 : Int32 → MI → Option (MI)) => ∀ (x10 : Int32) (I11 : MI), T X A (Zm X A (iv1 (fun (I' : MI) => Rg G b Lc (Rc b bk dr it) I' J))) 5 0 0 105 [(0, .ref (b + 76)), (1, .ref (b + pb)), (2, .int a2), (3, .int x10), (4, .int x4)] [] (Rg G b Lc (Rc b bk dr it) I11 J) (j105 x10 I11)) _ ?_ ?_
    · intro x10 I11
      refine T_iinc (lvs := fun x12 => [(4, .int x12), (0, .ref (b + 76)), (1, .ref (b + pb)), (2, .int a2), (3, .int x10)]) hok 4 rfl ic_1 (by decide) (fun _ => rfl) dX5_lay_105 ?_
      intro x12
      refine T_goto (tgt := 15) hok dX5_lay_108 rfl ?_
      refine T_sub (lv' := [(0, .ref (b + 76)), (1, .ref (b + pb)), (2, .int a2), (3, .int x10), (4, .int x12)]) [1, 2, 3, 4, 0] rfl ?_
      exact hr15 x10 x12 I11
    intro j105 hj105
    refine T_icmp_eq (tgt := 105) hok dX5_lay_65 rfl ?_ ?_
    · exact hj105 x3 I9
    refine T_iload_n hok 3 rfl rfl dX5_lay_68 ?_
    refine T_iconst hok ic_1 dX5_lay_69 ?_
    refine T_aload_n hok 0 rfl rfl dX5_lay_70 ?_
    refine T_getR hok fr_X5_15 lc_76 rc_76_1 dX5_lay_71 ?_
    refine T_iload hok 4 rfl dX5_lay_74 ?_
    refine T_iald hok lc_78 dX5_lay_76 ?_
    refine T_ishl hok dX5_lay_77 ?_
    refine T_ior hok dX5_lay_78 ?_
    refine T_lti ?_
    intro x13
    refine T_istore_n (lv' := [(3, .int x13), (0, .ref (b + 76)), (1, .ref (b + pb)), (2, .int a2), (4, .int x4)]) hok rfl (by decide) rfl dX5_lay_79 ?_
    refine T_aload_n hok 1 rfl rfl dX5_lay_80 ?_
    refine T_dup hok rfl dX5_lay_81 ?_
    refine T_getI hok fr_X5_18 lc_76 dX5_lay_82 ?_
    refine T_iconst hok ic_1 dX5_lay_85 ?_
    refine T_iadd hok dX5_lay_86 ?_
    refine T_putI hok hA fr_X5_18 rfl rfl lc_76 dX5_lay_87 ?_
    intro I14
    refine T_aload_n hok 1 rfl rfl dX5_lay_90 ?_
    refine T_dup hok rfl dX5_lay_91 ?_
    refine T_getI hok fr_X5_22 lc_76 dX5_lay_92 ?_
    refine T_aload_n hok 2 rfl rfl dX5_lay_95 ?_
    refine T_iload hok 4 rfl dX5_lay_96 ?_
    refine T_ci0 (CR_S (rest := [.int (I14 76 3), .ref (b + 76)]) hok (ct_X5_cost hA hpb I14 J x4) mw_X5_cost mst_X5_cost ml_X5_38 dX5_lay_98 rfl rfl (roomOk rfl) rfl) rfl rfl ?_
    intro x15
    refine T_iadd hok dX5_lay_101 ?_
    refine T_putI hok hA fr_X5_22 rfl rfl lc_76 dX5_lay_102 ?_
    intro I16
    refine T_sub (lv' := [(0, .ref (b + 76)), (1, .ref (b + pb)), (2, .int a2), (3, .int x13), (4, .int x4)]) [1, 2, 3, 0, 4] rfl ?_
    exact hj105 x13 I16
  intro j55 hj55
  refine T_ifb_eq (tgt := 53) hok dX5_lay_38 rfl ?_ ?_
  · refine T_aload_n hok 0 rfl rfl dX5_lay_41 ?_
    refine T_aload_n hok 1 rfl rfl dX5_lay_42 ?_
    refine T_iload_n hok 2 rfl rfl dX5_lay_43 ?_
    refine T_iload hok 4 rfl dX5_lay_44 ?_
    refine T_iload_n hok 3 rfl rfl dX5_lay_46 ?_
    refine T_ci0 (CR_V (rest := [.int x4, .ref (b + 78)]) hok (ct_X5_firstFree hA hpb I5 J a2 x4 x3) mw_X5_firstFree mv_X5_firstFree ml_X5_34 lc_76 dX5_lay_47 rfl rfl (roomOk rfl) rfl) rfl rfl ?_
    intro x17
    refine T_goto (tgt := 55) hok dX5_lay_50 rfl ?_
    exact hj55 x17 x4
  refine T_bipush hok bp_m2 dX5_lay_53 ?_
  exact hj55 (-2 : Int32) x4
