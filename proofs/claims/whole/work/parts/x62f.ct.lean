set_option maxHeartbeats 4000000 in
set_option maxRecDepth 100000 in
theorem ct_X11_eagerOf {G : Gx} {l0 : Launch} {A : Nat → Prop} {b : Nat} (hA : ∀ k, k < Lm.length → A (b + k)) (I : MI) (J : MJ) (a1 : Int32) : Ct G l0 A yX11_eagerOf cX11_eagerOf 2 (some .int) { frames := 0, cells := 0, slots := 0, locals := 0 } [.ref (b + 0), .int a1] (Rg G b Lm (Rm b) I J) (ii0 (Rg G b Lm (Rm b) I J)) (f_X11_eagerOf I a1) := by
  refine Ct.of rfl (Nat.le_of_ble_eq_true rfl) ?_
  intro X hok
  replace hok : Ok G l0 X RX11 cX11_eagerOf 2 { frames := 0, cells := 0, slots := 0, locals := 0 } (some .int) := hok
  delta f_X11_eagerOf
  show T X A (Zm X A (ii0 (Rg G b Lm (Rm b) I J))) 2 0 0 0 [(0, .ref (b + 0)), (1, .int a1)] [] (Rg G b Lm (Rm b) I J) _
  refine T_aload_n hok 0 rfl rfl dX11_eagerOf_0 ?_
  refine T_getI hok fr_X11_377 lm_0 dX11_eagerOf_1 ?_
  refine T_jp _ (fun (j18 : Int32 → Option (Int32)) => ∀ (x1 : Int32), T X A (Zm X A (ii0 (Rg G b Lm (Rm b) I J))) 2 0 0 18 [] [.int x1] (Rg G b Lm (Rm b) I J) (j18 x1)) _ ?_ ?_
  · intro x1
    exact T_iret hok dX11_eagerOf_18 (Nat.zero_le _) (Nat.zero_le _) rfl
  intro j18 hj18
  refine T_if_eq (tgt := 12) hok dX11_eagerOf_4 rfl ?_ ?_
  · refine T_aload_n hok 0 rfl rfl dX11_eagerOf_12 ?_
    refine T_getR hok fr_X11_42 lm_0 rm_0_29 dX11_eagerOf_13 ?_
    refine T_iload_n hok 1 rfl rfl dX11_eagerOf_16 ?_
    refine T_iald hok lm_10 dX11_eagerOf_17 ?_
    refine T_sub (lv' := []) [] rfl ?_
    exact hj18 (I 10 (ix a1))
  refine T_bipush hok bp_9 dX11_eagerOf_7 ?_
  refine T_goto (tgt := 18) hok dX11_eagerOf_9 rfl ?_
  refine T_sub (lv' := []) [] rfl ?_
  exact hj18 (9 : Int32)

set_option maxHeartbeats 4000000 in
set_option maxRecDepth 100000 in
theorem ct_X11_lay {G : Gx} {l0 : Launch} {A : Nat → Prop} {b : Nat} (hA : ∀ k, k < Lm.length → A (b + k)) (I : MI) (J : MJ) (a1 : Int32) (a2 : Int32) (a3 : Int32) : Ct G l0 A yX11_lay cX11_lay 4 none { frames := 1, cells := 0, slots := 0, locals := 21 } [.ref (b + 0), .int a1, .int a2, .int a3] (Rg G b Lm (Rm b) I J) (iv1 (fun (J' : MJ) => Rg G b Lm (Rm b) I J')) (f_X11_lay I J a1 a2 a3) := by
  refine Ct.of rfl (Nat.le_of_ble_eq_true rfl) ?_
  intro X hok
  replace hok : Ok G l0 X RX11 cX11_lay 4 { frames := 1, cells := 0, slots := 0, locals := 21 } none := hok
  delta f_X11_lay
  show T X A (Zm X A (iv1 (fun (J' : MJ) => Rg G b Lm (Rm b) I J'))) 4 0 0 0 [(0, .ref (b + 0)), (1, .int a1), (2, .int a2), (3, .int a3)] [] (Rg G b Lm (Rm b) I J) _
  refine T_aload_n hok 0 rfl rfl dX11_lay_0 ?_
  refine T_getR hok fr_X11_84 lm_0 rm_0_49 dX11_lay_1 ?_
  refine T_iconst hok ic_0 dX11_lay_4 ?_
  refine T_aload_n hok 0 rfl rfl dX11_lay_5 ?_
  refine T_iload_n hok 3 rfl rfl dX11_lay_6 ?_
  refine T_ci0 (CR_V (rest := [.int (0 : Int32), .ref (b + 24)]) hok (ct_X11_worthOf hA I J a3) mw_X11_worthOf mv_X11_worthOf ml_X11_383 lm_0 dX11_lay_7 rfl rfl (roomOk rfl) rfl) rfl rfl ?_
  intro x1
  refine T_i2l hok dX11_lay_10 ?_
  refine T_last hok hA lm_24 dX11_lay_11 ?_
  intro J2
  refine T_aload_n hok 0 rfl rfl dX11_lay_12 ?_
  refine T_getR hok fr_X11_84 lm_0 rm_0_49 dX11_lay_13 ?_
  refine T_iconst hok ic_1 dX11_lay_16 ?_
  refine T_aload_n hok 0 rfl rfl dX11_lay_17 ?_
  refine T_iload_n hok 2 rfl rfl dX11_lay_18 ?_
  refine T_ci0 (CR_V (rest := [.int (1 : Int32), .ref (b + 24)]) hok (ct_X11_eagerOf hA I J2 a2) mw_X11_eagerOf mv_X11_eagerOf ml_X11_386 lm_0 dX11_lay_19 rfl rfl (roomOk rfl) rfl) rfl rfl ?_
  intro x3
  refine T_i2l hok dX11_lay_22 ?_
  refine T_last hok hA lm_24 dX11_lay_23 ?_
  intro J4
  refine T_aload_n hok 0 rfl rfl dX11_lay_24 ?_
  refine T_getR hok fr_X11_84 lm_0 rm_0_49 dX11_lay_25 ?_
  refine T_iconst hok ic_2 dX11_lay_28 ?_
  refine T_aload_n hok 0 rfl rfl dX11_lay_29 ?_
  refine T_getR hok fr_X11_91 lm_0 rm_0_52 dX11_lay_30 ?_
  refine T_bipush hok bp_6 dX11_lay_33 ?_
  refine T_iload_n hok 1 rfl rfl dX11_lay_35 ?_
  refine T_imul hok dX11_lay_36 ?_
  refine T_iload_n hok 2 rfl rfl dX11_lay_37 ?_
  refine T_iadd hok dX11_lay_38 ?_
  refine T_iald hok lm_26 dX11_lay_39 ?_
  refine T_i2l hok dX11_lay_40 ?_
  refine T_last hok hA lm_24 dX11_lay_41 ?_
  intro J5
  refine T_aload_n hok 0 rfl rfl dX11_lay_42 ?_
  refine T_getR hok fr_X11_84 lm_0 rm_0_49 dX11_lay_43 ?_
  refine T_iconst hok ic_3 dX11_lay_46 ?_
  refine T_aload_n hok 0 rfl rfl dX11_lay_47 ?_
  refine T_getR hok fr_X11_94 lm_0 rm_0_53 dX11_lay_48 ?_
  refine T_bipush hok bp_6 dX11_lay_51 ?_
  refine T_iload_n hok 1 rfl rfl dX11_lay_53 ?_
  refine T_imul hok dX11_lay_54 ?_
  refine T_iload_n hok 2 rfl rfl dX11_lay_55 ?_
  refine T_iadd hok dX11_lay_56 ?_
  refine T_iald hok lm_27 dX11_lay_57 ?_
  refine T_i2l hok dX11_lay_58 ?_
  refine T_last hok hA lm_24 dX11_lay_59 ?_
  intro J6
  refine T_aload_n hok 0 rfl rfl dX11_lay_60 ?_
  refine T_getR hok fr_X11_84 lm_0 rm_0_49 dX11_lay_61 ?_
  refine T_iconst hok ic_4 dX11_lay_64 ?_
  refine T_aload_n hok 0 rfl rfl dX11_lay_65 ?_
  refine T_getR hok fr_X11_97 lm_0 rm_0_54 dX11_lay_66 ?_
  refine T_bipush hok bp_6 dX11_lay_69 ?_
  refine T_iload_n hok 1 rfl rfl dX11_lay_71 ?_
  refine T_imul hok dX11_lay_72 ?_
  refine T_iload_n hok 2 rfl rfl dX11_lay_73 ?_
  refine T_iadd hok dX11_lay_74 ?_
  refine T_iald hok lm_28 dX11_lay_75 ?_
  refine T_i2l hok dX11_lay_76 ?_
  refine T_last hok hA lm_24 dX11_lay_77 ?_
  intro J7
  refine T_aload_n hok 0 rfl rfl dX11_lay_78 ?_
  refine T_getR hok fr_X11_84 lm_0 rm_0_49 dX11_lay_79 ?_
  refine T_iconst hok ic_5 dX11_lay_82 ?_
  refine T_aload_n hok 0 rfl rfl dX11_lay_83 ?_
  refine T_getR hok fr_X11_33 lm_0 rm_0_26 dX11_lay_84 ?_
  refine T_iload_n hok 3 rfl rfl dX11_lay_87 ?_
  refine T_iald hok lm_7 dX11_lay_88 ?_
  refine T_i2l hok dX11_lay_89 ?_
  refine T_last hok hA lm_24 dX11_lay_90 ?_
  intro J8
  refine T_aload_n hok 0 rfl rfl dX11_lay_91 ?_
  refine T_getR hok fr_X11_84 lm_0 rm_0_49 dX11_lay_92 ?_
  refine T_bipush hok bp_6 dX11_lay_95 ?_
  refine T_aload_n hok 0 rfl rfl dX11_lay_97 ?_
  refine T_getR hok fr_X11_118 lm_0 rm_0_61 dX11_lay_98 ?_
  refine T_iload_n hok 1 rfl rfl dX11_lay_101 ?_
  refine T_iald hok lm_35 dX11_lay_102 ?_
  refine T_i2l hok dX11_lay_103 ?_
  refine T_last hok hA lm_24 dX11_lay_104 ?_
  intro J9
  exact T_vret hok dX11_lay_105 (Nat.zero_le _) (Nat.zero_le _) rfl

set_option maxHeartbeats 4000000 in
set_option maxRecDepth 100000 in
theorem ct_X11_lawOf {G : Gx} {l0 : Launch} {A : Nat → Prop} {b : Nat} (hA : ∀ k, k < Lm.length → A (b + k)) (I : MI) (J : MJ) (a1 : Int32) : Ct G l0 A yX11_lawOf cX11_lawOf 3 (some .long) { frames := 2, cells := 0, slots := 0, locals := 50 } [.ref (b + 0), .int a1] (Rg G b Lm (Rm b) I J) (il2 (fun (I' : MI) (J' : MJ) => Rg G b Lm (Rm b) I' J')) (f_X11_lawOf I J a1) := by
  refine Ct.of rfl (Nat.le_of_ble_eq_true rfl) ?_
  intro X hok
  replace hok : Ok G l0 X RX11 cX11_lawOf 3 { frames := 2, cells := 0, slots := 0, locals := 50 } (some .long) := hok
  delta f_X11_lawOf
  show T X A (Zm X A (il2 (fun (I' : MI) (J' : MJ) => Rg G b Lm (Rm b) I' J'))) 3 0 0 0 [(0, .ref (b + 0)), (1, .int a1)] [] (Rg G b Lm (Rm b) I J) _
  refine T_aload_n hok 0 rfl rfl dX11_lawOf_0 ?_
  refine T_iconst hok ic_0 dX11_lawOf_1 ?_
  refine T_putZ hok hA fr_X11_336 rfl rfl lm_0 dX11_lawOf_2 ?_
  intro I1
  refine T_aload_n hok 0 rfl rfl dX11_lawOf_5 ?_
  refine T_getR hok fr_X11_63 lm_0 rm_0_36 dX11_lawOf_6 ?_
  refine T_iload_n hok 1 rfl rfl dX11_lawOf_9 ?_
  refine T_iald hok lm_17 dX11_lawOf_10 ?_
  refine T_lti ?_
  intro x2
  refine T_istore_n (lv' := [(2, .int x2), (0, .ref (b + 0)), (1, .int a1)]) hok rfl (by decide) rfl dX11_lawOf_11 ?_
  refine T_jp _ (fun (j39 : MI → MJ → Option (Int64 × MI × MJ)) => ∀ (I3 : MI) (J4 : MJ), T X A (Zm X A (il2 (fun (I' : MI) (J' : MJ) => Rg G b Lm (Rm b) I' J'))) 3 0 0 39 [(0, .ref (b + 0)), (1, .int a1)] [] (Rg G b Lm (Rm b) I3 J4) (j39 I3 J4)) _ ?_ ?_
  · intro I3 J4
    refine T_aload_n hok 0 rfl rfl dX11_lawOf_39 ?_
    refine T_getI hok fr_X11_336 lm_0 dX11_lawOf_40 ?_
    refine T_jp _ (fun (j63 : Int64 → Option (Int64 × MI × MJ)) => ∀ (x5 : Int64), T X A (Zm X A (il2 (fun (I' : MI) (J' : MJ) => Rg G b Lm (Rm b) I' J'))) 3 0 0 63 [] [.long x5] (Rg G b Lm (Rm b) I3 J4) (j63 x5)) _ ?_ ?_
    · intro x5
      exact T_lret hok dX11_lawOf_63 (Nat.zero_le _) (Nat.zero_le _) rfl
    intro j63 hj63
    refine T_if_eq (tgt := 50) hok dX11_lawOf_43 rfl ?_ ?_
    · refine T_aload_n hok 0 rfl rfl dX11_lawOf_50 ?_
      refine T_getR hok fr_X11_88 lm_0 rm_0_50 dX11_lawOf_51 ?_
      refine T_aload_n hok 0 rfl rfl dX11_lawOf_54 ?_
      refine T_getR hok fr_X11_66 lm_0 rm_0_37 dX11_lawOf_55 ?_
      refine T_iload_n hok 1 rfl rfl dX11_lawOf_58 ?_
      refine T_iald hok lm_18 dX11_lawOf_59 ?_
      refine T_iconst hok ic_1 dX11_lawOf_60 ?_
      refine T_isub hok dX11_lawOf_61 ?_
      refine T_lald hok lm_25 dX11_lawOf_62 ?_
      refine T_sub (lv' := []) [] rfl ?_
      exact hj63 (J4 25 (ix ((I3 18 (ix a1)) - (1 : Int32))))
    refine T_lconst (v := 0) hok rfl dX11_lawOf_46 ?_
    refine T_goto (tgt := 63) hok dX11_lawOf_47 rfl ?_
    refine T_sub (lv' := []) [] rfl ?_
    exact hj63 (0 : Int64)
  intro j39 hj39
  refine T_sub (lv' := [(0, .ref (b + 0)), (1, .int a1), (2, .int x2)]) [1, 2, 0] rfl ?_
  refine T_fix3 _ (fun (x6 : Int32) (I7 : MI) (J8 : MJ) => [(0, .ref (b + 0)), (1, .int a1), (2, .int x6)]) (fun (x6 : Int32) (I7 : MI) (J8 : MJ) => Rg G b Lm (Rm b) I7 J8) ?_ FU x2 I1 J
  intro r12 hr12 x6 I7 J8
  refine T_iload_n hok 2 rfl rfl dX11_lawOf_12 ?_
  refine T_aload_n hok 0 rfl rfl dX11_lawOf_13 ?_
  refine T_getR hok fr_X11_66 lm_0 rm_0_37 dX11_lawOf_14 ?_
  refine T_iload_n hok 1 rfl rfl dX11_lawOf_17 ?_
  refine T_iald hok lm_18 dX11_lawOf_18 ?_
  refine T_icmp_ge (tgt := 39) hok dX11_lawOf_19 rfl ?_ ?_
  · refine T_sub (lv' := [(0, .ref (b + 0)), (1, .int a1)]) [0, 1] rfl ?_
    exact hj39 I7 J8
  refine T_aload_n hok 0 rfl rfl dX11_lawOf_22 ?_
  refine T_getR hok fr_X11_88 lm_0 rm_0_50 dX11_lawOf_23 ?_
  refine T_iload_n hok 2 rfl rfl dX11_lawOf_26 ?_
  refine T_aload_n hok 0 rfl rfl dX11_lawOf_27 ?_
  refine T_iload_n hok 2 rfl rfl dX11_lawOf_28 ?_
  refine T_cl1 (CR_V (rest := [.int x6, .ref (b + 25)]) hok (ct_X11_valueOf hA I7 J8 x6) mw_X11_valueOf mv_X11_valueOf ml_X11_389 lm_0 dX11_lawOf_29 rfl rfl (roomOk rfl) rfl) rfl rfl ?_
  intro x9 I10
  refine T_last hok hA lm_25 dX11_lawOf_32 ?_
  intro J11
  refine T_iinc (lvs := fun x12 => [(2, .int x12), (0, .ref (b + 0)), (1, .int a1)]) hok 2 rfl ic_1 (by decide) (fun _ => rfl) dX11_lawOf_33 ?_
  intro x12
  refine T_goto (tgt := 12) hok dX11_lawOf_36 rfl ?_
  refine T_sub (lv' := [(0, .ref (b + 0)), (1, .int a1), (2, .int x12)]) [1, 2, 0] rfl ?_
  exact hr12 x12 I10 J11

set_option maxHeartbeats 4000000 in
set_option maxRecDepth 100000 in
theorem ct_X11_boundLaw {G : Gx} {l0 : Launch} {A : Nat → Prop} {b : Nat} (hA : ∀ k, k < Lm.length → A (b + k)) (I : MI) (J : MJ) (a1 : Int32) (a2 : Int32) (a3 : Int32) (a4 : Int32) : Ct G l0 A yX11_boundLaw cX11_boundLaw 7 (some .int) { frames := 3, cells := 0, slots := 0, locals := 72 } [.ref (b + 0), .int a1, .int a2, .int a3, .int a4] (Rg G b Lm (Rm b) I J) (ii2 (fun (I' : MI) (J' : MJ) => Rg G b Lm (Rm b) I' J')) (f_X11_boundLaw I J a1 a2 a3 a4) := by
  refine Ct.of rfl (Nat.le_of_ble_eq_true rfl) ?_
  intro X hok
  replace hok : Ok G l0 X RX11 cX11_boundLaw 7 { frames := 3, cells := 0, slots := 0, locals := 72 } (some .int) := hok
  delta f_X11_boundLaw
  show T X A (Zm X A (ii2 (fun (I' : MI) (J' : MJ) => Rg G b Lm (Rm b) I' J'))) 7 0 0 0 [(0, .ref (b + 0)), (1, .int a1), (2, .int a2), (3, .int a3), (4, .int a4)] [] (Rg G b Lm (Rm b) I J) _
  refine T_aload_n hok 0 rfl rfl dX11_boundLaw_0 ?_
  refine T_getR hok fr_X11_60 lm_0 rm_0_35 dX11_boundLaw_1 ?_
  refine T_iload_n hok 1 rfl rfl dX11_boundLaw_4 ?_
  refine T_zald hok lm_16 dX11_boundLaw_5 ?_
  refine T_if_ne (tgt := 11) hok dX11_boundLaw_6 rfl ?_ ?_
  · refine T_iload_n hok 2 rfl rfl dX11_boundLaw_9 ?_
    exact T_iret hok dX11_boundLaw_10 (Nat.zero_le _) (Nat.zero_le _) rfl
  refine T_aload_n hok 0 rfl rfl dX11_boundLaw_11 ?_
  refine T_iload_n hok 1 rfl rfl dX11_boundLaw_12 ?_
  refine T_cl2 (CR_V (rest := []) hok (ct_X11_lawOf hA I J a1) mw_X11_lawOf mv_X11_lawOf ml_X11_393 lm_0 dX11_boundLaw_13 rfl rfl (roomOk rfl) rfl) rfl rfl ?_
  intro x1 I2 J3
  refine T_lstore (lv' := [(5, .long x1), (0, .ref (b + 0)), (1, .int a1), (2, .int a2), (3, .int a3), (4, .int a4)]) hok (by decide) rfl dX11_boundLaw_16 ?_
  refine T_aload_n hok 1 rfl rfl dX11_boundLaw_18 ?_
  refine T_getI hok fr_X11_336 lm_0 dX11_boundLaw_19 ?_
  refine T_if_eq (tgt := 27) hok dX11_boundLaw_22 rfl ?_ ?_
  · refine T_lload hok 0 rfl dX11_boundLaw_27 ?_
    refine T_iload_n hok 4 rfl rfl dX11_boundLaw_29 ?_
    refine T_i2l hok dX11_boundLaw_30 ?_
    refine T_jp _ (fun (j56 : Int32 → Option (Int32 × MI × MJ)) => ∀ (x4 : Int32), T X A (Zm X A (ii2 (fun (I' : MI) (J' : MJ) => Rg G b Lm (Rm b) I' J'))) 7 0 0 56 [] [.int x4] (Rg G b Lm (Rm b) I2 J3) (j56 x4)) _ ?_ ?_
    · intro x4
      exact T_iret hok dX11_boundLaw_56 (Nat.zero_le _) (Nat.zero_le _) rfl
    intro j56 hj56
    refine T_lcmp_ge (tgt := 39) hok dX11_boundLaw_31 rfl dX11_boundLaw_32 rfl ?_ ?_
    · refine T_lload hok 0 rfl dX11_boundLaw_39 ?_
      refine T_iload hok 5 rfl dX11_boundLaw_41 ?_
      refine T_i2l hok dX11_boundLaw_43 ?_
      refine T_lcmp_le (tgt := 53) hok dX11_boundLaw_44 rfl dX11_boundLaw_45 rfl ?_ ?_
      · refine T_lload hok 0 rfl dX11_boundLaw_53 ?_
        refine T_l2i hok dX11_boundLaw_55 ?_
        refine T_sub (lv' := []) [] rfl ?_
        exact hj56 (Int64.toInt32 x1)
      refine T_iload hok 5 rfl dX11_boundLaw_48 ?_
      refine T_goto (tgt := 56) hok dX11_boundLaw_50 rfl ?_
      refine T_sub (lv' := []) [] rfl ?_
      exact hj56 a4
    refine T_iload_n hok 4 rfl rfl dX11_boundLaw_35 ?_
    refine T_goto (tgt := 56) hok dX11_boundLaw_36 rfl ?_
    refine T_sub (lv' := []) [] rfl ?_
    exact hj56 a3
  refine T_iload_n hok 3 rfl rfl dX11_boundLaw_25 ?_
  exact T_iret hok dX11_boundLaw_26 (Nat.zero_le _) (Nat.zero_le _) rfl

set_option maxHeartbeats 4000000 in
set_option maxRecDepth 100000 in
theorem ct_X11_number1 {G : Gx} {l0 : Launch} {A : Nat → Prop} {b : Nat} (hA : ∀ k, k < Lm.length → A (b + k)) (I : MI) (J : MJ) (a1 : Int32) : Ct G l0 A yX11_number1 cX11_number1 2 (some .int) { frames := 0, cells := 0, slots := 0, locals := 0 } [.ref (b + 0), .int a1] (Rg G b Lm (Rm b) I J) (ii1 (fun (J' : MJ) => Rg G b Lm (Rm b) I J')) (f_X11_number1 J a1) := by
  refine Ct.of rfl (Nat.le_of_ble_eq_true rfl) ?_
  intro X hok
  replace hok : Ok G l0 X RX11 cX11_number1 2 { frames := 0, cells := 0, slots := 0, locals := 0 } (some .int) := hok
  delta f_X11_number1
  show T X A (Zm X A (ii1 (fun (J' : MJ) => Rg G b Lm (Rm b) I J'))) 2 0 0 0 [(0, .ref (b + 0)), (1, .int a1)] [] (Rg G b Lm (Rm b) I J) _
  refine T_aload_n hok 0 rfl rfl dX11_number1_0 ?_
  refine T_aload_n hok 0 rfl rfl dX11_number1_1 ?_
  refine T_getJ hok fr_X11_355 lm_0 dX11_number1_2 ?_
  refine T_ldc2 hok lk_X11_396 dX11_number1_5 ?_
  refine T_lmul hok dX11_number1_8 ?_
  refine T_ldc2 hok lk_X11_398 dX11_number1_9 ?_
  refine T_ladd hok dX11_number1_12 ?_
  refine T_ldc2 hok lk_X11_400 dX11_number1_13 ?_
  refine T_land hok dX11_number1_16 ?_
  refine T_putJ hok hA fr_X11_355 rfl lm_0 dX11_number1_17 ?_
  intro J1
  refine T_aload_n hok 0 rfl rfl dX11_number1_20 ?_
  refine T_getJ hok fr_X11_355 lm_0 dX11_number1_21 ?_
  refine T_ldc2 hok lk_X11_402 dX11_number1_24 ?_
  refine T_ldiv hok dX11_number1_27 ?_
  refine T_iload_n hok 1 rfl rfl dX11_number1_28 ?_
  refine T_i2l hok dX11_number1_29 ?_
  refine T_lrem hok dX11_number1_30 ?_
  refine T_l2i hok dX11_number1_31 ?_
  exact T_iret hok dX11_number1_32 (Nat.zero_le _) (Nat.zero_le _) rfl

set_option maxHeartbeats 4000000 in
set_option maxRecDepth 100000 in
theorem ct_X11_weightAll {G : Gx} {l0 : Launch} {A : Nat → Prop} {b : Nat} (hA : ∀ k, k < Lm.length → A (b + k)) (I : MI) (J : MJ) : Ct G l0 A yX11_weightAll cX11_weightAll 3 (some .int) { frames := 0, cells := 0, slots := 0, locals := 0 } [.ref (b + 0)] (Rg G b Lm (Rm b) I J) (ii0 (Rg G b Lm (Rm b) I J)) (f_X11_weightAll I) := by
  refine Ct.of rfl (Nat.le_of_ble_eq_true rfl) ?_
  intro X hok
  replace hok : Ok G l0 X RX11 cX11_weightAll 3 { frames := 0, cells := 0, slots := 0, locals := 0 } (some .int) := hok
  delta f_X11_weightAll
  show T X A (Zm X A (ii0 (Rg G b Lm (Rm b) I J))) 3 0 0 0 [(0, .ref (b + 0))] [] (Rg G b Lm (Rm b) I J) _
  refine T_iconst hok ic_0 dX11_weightAll_0 ?_
  refine T_istore_n (lv' := [(1, .int (0 : Int32)), (0, .ref (b + 0))]) hok rfl (by decide) rfl dX11_weightAll_1 ?_
  refine T_iconst hok ic_0 dX11_weightAll_2 ?_
  refine T_istore_n (lv' := [(2, .int (0 : Int32)), (1, .int (0 : Int32)), (0, .ref (b + 0))]) hok rfl (by decide) rfl dX11_weightAll_3 ?_
  refine T_sub (lv' := [(0, .ref (b + 0)), (1, .int (0 : Int32)), (2, .int (0 : Int32))]) [2, 1, 0] rfl ?_
  refine T_fix2 _ (fun (x1 : Int32) (x2 : Int32) => [(0, .ref (b + 0)), (1, .int x1), (2, .int x2)]) (fun (x1 : Int32) (x2 : Int32) => Rg G b Lm (Rm b) I J) ?_ FU (0 : Int32) (0 : Int32)
  intro r4 hr4 x1 x2
  refine T_iload_n hok 2 rfl rfl dX11_weightAll_4 ?_
  refine T_aload_n hok 0 rfl rfl dX11_weightAll_5 ?_
  refine T_getI hok fr_X11_231 lm_0 dX11_weightAll_6 ?_
  refine T_icmp_ge (tgt := 27) hok dX11_weightAll_9 rfl ?_ ?_
  · refine T_iload_n hok 1 rfl rfl dX11_weightAll_27 ?_
    exact T_iret hok dX11_weightAll_28 (Nat.zero_le _) (Nat.zero_le _) rfl
  refine T_iload_n hok 1 rfl rfl dX11_weightAll_12 ?_
  refine T_aload_n hok 0 rfl rfl dX11_weightAll_13 ?_
  refine T_getR hok fr_X11_33 lm_0 rm_0_26 dX11_weightAll_14 ?_
  refine T_iload_n hok 2 rfl rfl dX11_weightAll_17 ?_
  refine T_iald hok lm_7 dX11_weightAll_18 ?_
  refine T_iadd hok dX11_weightAll_19 ?_
  refine T_lti ?_
  intro x3
  refine T_istore_n (lv' := [(1, .int x3), (0, .ref (b + 0)), (2, .int x2)]) hok rfl (by decide) rfl dX11_weightAll_20 ?_
  refine T_iinc (lvs := fun x4 => [(2, .int x4), (1, .int x3), (0, .ref (b + 0))]) hok 2 rfl ic_1 (by decide) (fun _ => rfl) dX11_weightAll_21 ?_
  intro x4
  refine T_goto (tgt := 4) hok dX11_weightAll_24 rfl ?_
  refine T_sub (lv' := [(0, .ref (b + 0)), (1, .int x3), (2, .int x4)]) [2, 1, 0] rfl ?_
  exact hr4 x3 x4

set_option maxHeartbeats 4000000 in
set_option maxRecDepth 100000 in
theorem ct_X11_heaviest {G : Gx} {l0 : Launch} {A : Nat → Prop} {b : Nat} (hA : ∀ k, k < Lm.length → A (b + k)) (I : MI) (J : MJ) : Ct G l0 A yX11_heaviest cX11_heaviest 3 (some .int) { frames := 0, cells := 0, slots := 0, locals := 0 } [.ref (b + 0)] (Rg G b Lm (Rm b) I J) (ii0 (Rg G b Lm (Rm b) I J)) (f_X11_heaviest I) := by
  refine Ct.of rfl (Nat.le_of_ble_eq_true rfl) ?_
  intro X hok
  replace hok : Ok G l0 X RX11 cX11_heaviest 3 { frames := 0, cells := 0, slots := 0, locals := 0 } (some .int) := hok
  delta f_X11_heaviest
  show T X A (Zm X A (ii0 (Rg G b Lm (Rm b) I J))) 3 0 0 0 [(0, .ref (b + 0))] [] (Rg G b Lm (Rm b) I J) _
  refine T_iconst hok ic_m1 dX11_heaviest_0 ?_
  refine T_istore_n (lv' := [(1, .int (-1 : Int32)), (0, .ref (b + 0))]) hok rfl (by decide) rfl dX11_heaviest_1 ?_
  refine T_iconst hok ic_0 dX11_heaviest_2 ?_
  refine T_istore_n (lv' := [(2, .int (0 : Int32)), (1, .int (-1 : Int32)), (0, .ref (b + 0))]) hok rfl (by decide) rfl dX11_heaviest_3 ?_
  refine T_sub (lv' := [(0, .ref (b + 0)), (1, .int (-1 : Int32)), (2, .int (0 : Int32))]) [2, 1, 0] rfl ?_
  refine T_fix2 _ (fun (x1 : Int32) (x2 : Int32) => [(0, .ref (b + 0)), (1, .int x1), (2, .int x2)]) (fun (x1 : Int32) (x2 : Int32) => Rg G b Lm (Rm b) I J) ?_ FU (-1 : Int32) (0 : Int32)
  intro r4 hr4 x1 x2
  refine T_iload_n hok 2 rfl rfl dX11_heaviest_4 ?_
  refine T_aload_n hok 0 rfl rfl dX11_heaviest_5 ?_
  refine T_getI hok fr_X11_231 lm_0 dX11_heaviest_6 ?_
  refine T_icmp_ge (tgt := 43) hok dX11_heaviest_9 rfl ?_ ?_
  · refine T_iload_n hok 1 rfl rfl dX11_heaviest_43 ?_
    exact T_iret hok dX11_heaviest_44 (Nat.zero_le _) (Nat.zero_le _) rfl
  refine T_aload_n hok 0 rfl rfl dX11_heaviest_12 ?_
  refine T_getR hok fr_X11_33 lm_0 rm_0_26 dX11_heaviest_13 ?_
  refine T_iload_n hok 2 rfl rfl dX11_heaviest_16 ?_
  refine T_iald hok lm_7 dX11_heaviest_17 ?_
  refine T_iload_n hok 1 rfl rfl dX11_heaviest_18 ?_
  refine T_jp _ (fun (j32 : Int32 → Int32 → Option (Int32)) => ∀ (x3 : Int32) (x4 : Int32), T X A (Zm X A (ii0 (Rg G b Lm (Rm b) I J))) 3 0 0 32 [(0, .ref (b + 0)), (1, .int x1), (2, .int x2)] [.int x3, .int x4] (Rg G b Lm (Rm b) I J) (j32 x3 x4)) _ ?_ ?_
  · intro x3 x4
    refine T_jp _ (fun (j37 : Int32 → Option (Int32)) => ∀ (x5 : Int32), T X A (Zm X A (ii0 (Rg G b Lm (Rm b) I J))) 3 0 0 37 [(0, .ref (b + 0)), (1, .int x5), (2, .int x2)] [] (Rg G b Lm (Rm b) I J) (j37 x5)) _ ?_ ?_
    · intro x5
      refine T_iinc (lvs := fun x6 => [(2, .int x6), (0, .ref (b + 0)), (1, .int x5)]) hok 2 rfl ic_1 (by decide) (fun _ => rfl) dX11_heaviest_37 ?_
      intro x6
      refine T_goto (tgt := 4) hok dX11_heaviest_40 rfl ?_
      refine T_sub (lv' := [(0, .ref (b + 0)), (1, .int x5), (2, .int x6)]) [1, 2, 0] rfl ?_
      exact hr4 x5 x6
    intro j37 hj37
    refine T_icmp_le (tgt := 37) hok dX11_heaviest_32 rfl ?_ ?_
    · exact hj37 x1
    refine T_iload_n hok 2 rfl rfl dX11_heaviest_35 ?_
    refine T_istore_n (lv' := [(1, .int x2), (0, .ref (b + 0)), (2, .int x2)]) hok rfl (by decide) rfl dX11_heaviest_36 ?_
    refine T_sub (lv' := [(0, .ref (b + 0)), (1, .int x2), (2, .int x2)]) [1, 0, 2] rfl ?_
    exact hj37 x2
  intro j32 hj32
  refine T_if_ge (tgt := 26) hok dX11_heaviest_19 rfl ?_ ?_
  · refine T_aload_n hok 0 rfl rfl dX11_heaviest_26 ?_
    refine T_getR hok fr_X11_33 lm_0 rm_0_26 dX11_heaviest_27 ?_
    refine T_iload_n hok 1 rfl rfl dX11_heaviest_30 ?_
    refine T_iald hok lm_7 dX11_heaviest_31 ?_
    exact hj32 (I 7 (ix x1)) (I 7 (ix x2))
  refine T_iconst hok ic_0 dX11_heaviest_22 ?_
  refine T_goto (tgt := 32) hok dX11_heaviest_23 rfl ?_
  exact hj32 (0 : Int32) (I 7 (ix x2))

set_option maxHeartbeats 4000000 in
set_option maxRecDepth 100000 in
theorem ct_X11_drawnKind {G : Gx} {l0 : Launch} {A : Nat → Prop} {b : Nat} (hA : ∀ k, k < Lm.length → A (b + k)) (I : MI) (J : MJ) : Ct G l0 A yX11_drawnKind cX11_drawnKind 6 (some .int) { frames := 1, cells := 0, slots := 0, locals := 22 } [.ref (b + 0)] (Rg G b Lm (Rm b) I J) (ii1 (fun (J' : MJ) => Rg G b Lm (Rm b) I J')) (f_X11_drawnKind I J) := by
  refine Ct.of rfl (Nat.le_of_ble_eq_true rfl) ?_
  intro X hok
  replace hok : Ok G l0 X RX11 cX11_drawnKind 6 { frames := 1, cells := 0, slots := 0, locals := 22 } (some .int) := hok
  delta f_X11_drawnKind
  show T X A (Zm X A (ii1 (fun (J' : MJ) => Rg G b Lm (Rm b) I J'))) 6 0 0 0 [(0, .ref (b + 0))] [] (Rg G b Lm (Rm b) I J) _
  refine T_aload_n hok 0 rfl rfl dX11_drawnKind_0 ?_
  refine T_ci0 (CR_V (rest := []) hok (ct_X11_weightAll hA I J) mw_X11_weightAll mv_X11_weightAll ml_X11_404 lm_0 dX11_drawnKind_1 rfl rfl (roomOk rfl) rfl) rfl rfl ?_
  intro x1
  refine T_istore_n (lv' := [(1, .int x1), (0, .ref (b + 0))]) hok rfl (by decide) rfl dX11_drawnKind_4 ?_
  refine T_aload_n hok 1 rfl rfl dX11_drawnKind_5 ?_
  refine T_ci0 (CR_V (rest := []) hok (ct_X11_heaviest hA I J) mw_X11_heaviest mv_X11_heaviest ml_X11_407 lm_0 dX11_drawnKind_6 rfl rfl (roomOk rfl) rfl) rfl rfl ?_
  intro x2
  refine T_istore_n (lv' := [(2, .int x2), (1, .int x1), (0, .ref (b + 0))]) hok rfl (by decide) rfl dX11_drawnKind_9 ?_
  refine T_iload_n hok 1 rfl rfl dX11_drawnKind_10 ?_
  refine T_jp _ (fun (j24 : Option (Int32 × MJ)) => T X A (Zm X A (ii1 (fun (J' : MJ) => Rg G b Lm (Rm b) I J'))) 6 0 0 24 [(2, .int x2)] [] (Rg G b Lm (Rm b) I J) (j24)) _ ?_ ?_
  · skip
    refine T_iload_n hok 0 rfl rfl dX11_drawnKind_24 ?_
    exact T_iret hok dX11_drawnKind_25 (Nat.zero_le _) (Nat.zero_le _) rfl
  intro j24 hj24
  refine T_if_eq (tgt := 24) hok dX11_drawnKind_11 rfl ?_ ?_
  · refine T_sub (lv' := [(2, .int x2)]) [0] rfl ?_
    exact hj24
  refine T_aload_n hok 2 rfl rfl dX11_drawnKind_14 ?_
  refine T_getR hok fr_X11_33 lm_0 rm_0_26 dX11_drawnKind_15 ?_
  refine T_iload_n hok 0 rfl rfl dX11_drawnKind_18 ?_
  refine T_iald hok lm_7 dX11_drawnKind_19 ?_
  refine T_iload_n hok 1 rfl rfl dX11_drawnKind_20 ?_
  refine T_icmp_ne (tgt := 26) hok dX11_drawnKind_21 rfl ?_ ?_
  · refine T_sub (lv' := [(2, .int x2)]) [0] rfl ?_
    exact hj24
  refine T_aload_n hok 2 rfl rfl dX11_drawnKind_26 ?_
  refine T_iload_n hok 1 rfl rfl dX11_drawnKind_27 ?_
  refine T_ci1 (CR_V (rest := []) hok (ct_X11_number1 hA I J x1) mw_X11_number1 mv_X11_number1 ml_X11_410 lm_0 dX11_drawnKind_28 rfl rfl (roomOk rfl) rfl) rfl rfl ?_
  intro x3 J4
  refine T_istore_n (lv' := [(3, .int x3), (2, .int x2), (1, .int x1), (0, .ref (b + 0))]) hok rfl (by decide) rfl dX11_drawnKind_31 ?_
  refine T_iconst hok ic_0 dX11_drawnKind_32 ?_
  refine T_istore (lv' := [(4, .int (0 : Int32)), (3, .int x3), (2, .int x2), (1, .int x1), (0, .ref (b + 0))]) hok (by decide) rfl dX11_drawnKind_33 ?_
  refine T_aload_n hok 4 rfl rfl dX11_drawnKind_35 ?_
  refine T_getR hok fr_X11_33 lm_0 rm_0_26 dX11_drawnKind_36 ?_
  refine T_iconst hok ic_0 dX11_drawnKind_39 ?_
  refine T_iald hok lm_7 dX11_drawnKind_40 ?_
  refine T_lti ?_
  intro x5
  refine T_istore (lv' := [(5, .int x5), (4, .int (0 : Int32)), (3, .int x3), (2, .int x2), (1, .int x1), (0, .ref (b + 0))]) hok (by decide) rfl dX11_drawnKind_41 ?_
  refine T_sub (lv' := [(0, .ref (b + 0)), (3, .int x3), (4, .int (0 : Int32)), (5, .int x5)]) [5, 2, 1, 0] rfl ?_
  refine T_fix2 _ (fun (x6 : Int32) (x7 : Int32) => [(0, .ref (b + 0)), (3, .int x3), (4, .int x6), (5, .int x7)]) (fun (x6 : Int32) (x7 : Int32) => Rg G b Lm (Rm b) I J4) ?_ FU (0 : Int32) x5
  intro r43 hr43 x6 x7
  refine T_iload hok 3 rfl dX11_drawnKind_43 ?_
  refine T_iload_n hok 1 rfl rfl dX11_drawnKind_45 ?_
  refine T_icmp_gt (tgt := 67) hok dX11_drawnKind_46 rfl ?_ ?_
  · refine T_iload hok 2 rfl dX11_drawnKind_67 ?_
    exact T_iret hok dX11_drawnKind_69 (Nat.zero_le _) (Nat.zero_le _) rfl
  refine T_iinc (lvs := fun x8 => [(4, .int x8), (0, .ref (b + 0)), (3, .int x3), (5, .int x7)]) hok 2 rfl ic_1 (by decide) (fun _ => rfl) dX11_drawnKind_49 ?_
  intro x8
  refine T_iload hok 3 rfl dX11_drawnKind_52 ?_
  refine T_aload_n hok 1 rfl rfl dX11_drawnKind_54 ?_
  refine T_getR hok fr_X11_33 lm_0 rm_0_26 dX11_drawnKind_55 ?_
  refine T_iload hok 0 rfl dX11_drawnKind_58 ?_
  refine T_iald hok lm_7 dX11_drawnKind_60 ?_
  refine T_iadd hok dX11_drawnKind_61 ?_
  refine T_lti ?_
  intro x9
  refine T_istore (lv' := [(5, .int x9), (4, .int x8), (0, .ref (b + 0)), (3, .int x3)]) hok (by decide) rfl dX11_drawnKind_62 ?_
  refine T_goto (tgt := 43) hok dX11_drawnKind_64 rfl ?_
  refine T_sub (lv' := [(0, .ref (b + 0)), (3, .int x3), (4, .int x8), (5, .int x9)]) [2, 3, 1, 0] rfl ?_
  exact hr43 x8 x9

set_option maxHeartbeats 4000000 in
set_option maxRecDepth 100000 in
theorem ct_X11_weatherOf {G : Gx} {l0 : Launch} {A : Nat → Prop} {b : Nat} (hA : ∀ k, k < Lm.length → A (b + k)) (I : MI) (J : MJ) (a1 : Int32) : Ct G l0 A yX11_weatherOf cX11_weatherOf 3 (some .int) { frames := 2, cells := 0, slots := 0, locals := 47 } [.ref (b + 0), .int a1] (Rg G b Lm (Rm b) I J) (ii1 (fun (J' : MJ) => Rg G b Lm (Rm b) I J')) (f_X11_weatherOf I J a1) := by
  refine Ct.of rfl (Nat.le_of_ble_eq_true rfl) ?_
  intro X hok
  replace hok : Ok G l0 X RX11 cX11_weatherOf 3 { frames := 2, cells := 0, slots := 0, locals := 47 } (some .int) := hok
  delta f_X11_weatherOf
  show T X A (Zm X A (ii1 (fun (J' : MJ) => Rg G b Lm (Rm b) I J'))) 3 0 0 0 [(0, .ref (b + 0)), (1, .int a1)] [] (Rg G b Lm (Rm b) I J) _
  refine T_aload_n hok 0 rfl rfl dX11_weatherOf_0 ?_
  refine T_getR hok fr_X11_112 lm_0 rm_0_59 dX11_weatherOf_1 ?_
  refine T_iload_n hok 1 rfl rfl dX11_weatherOf_4 ?_
  refine T_iald hok lm_33 dX11_weatherOf_5 ?_
  refine T_if_lt (tgt := 16) hok dX11_weatherOf_6 rfl ?_ ?_
  · refine T_aload_n hok 0 rfl rfl dX11_weatherOf_16 ?_
    refine T_getR hok fr_X11_48 lm_0 rm_0_31 dX11_weatherOf_17 ?_
    refine T_iconst hok ic_0 dX11_weatherOf_20 ?_
    refine T_aload_n hok 0 rfl rfl dX11_weatherOf_21 ?_
    refine T_getI hok fr_X11_237 lm_0 dX11_weatherOf_22 ?_
    refine T_aload_n hok 0 rfl rfl dX11_weatherOf_25 ?_
    refine T_getR hok fr_X11_118 lm_0 rm_0_61 dX11_weatherOf_26 ?_
    refine T_iload_n hok 1 rfl rfl dX11_weatherOf_29 ?_
    refine T_iald hok lm_35 dX11_weatherOf_30 ?_
    refine T_ci0 (CR_S (rest := []) hok (ct_X11_find hA lm_12 I J (0 : Int32) (I 0 14) (I 35 (ix a1))) mw_X11_find mst_X11_find ml_X11_253 dX11_weatherOf_31 rfl rfl (roomOk rfl) rfl) rfl rfl ?_
    intro x1
    refine T_istore_n (lv' := [(2, .int x1), (0, .ref (b + 0)), (1, .int a1)]) hok rfl (by decide) rfl dX11_weatherOf_34 ?_
    refine T_iload_n hok 0 rfl rfl dX11_weatherOf_35 ?_
    refine T_jp _ (fun (j66 : Int32 → MJ → Option (Int32 × MJ)) => ∀ (x2 : Int32) (J3 : MJ), T X A (Zm X A (ii1 (fun (J' : MJ) => Rg G b Lm (Rm b) I J'))) 3 0 0 66 [] [.int x2] (Rg G b Lm (Rm b) I J3) (j66 x2 J3)) _ ?_ ?_
    · intro x2 J3
      exact T_iret hok dX11_weatherOf_66 (Nat.zero_le _) (Nat.zero_le _) rfl
    intro j66 hj66
    refine T_if_lt (tgt := 48) hok dX11_weatherOf_36 rfl ?_ ?_
    · refine T_aload_n hok 1 rfl rfl dX11_weatherOf_48 ?_
      refine T_getI hok fr_X11_371 lm_0 dX11_weatherOf_49 ?_
      refine T_if_eq (tgt := 62) hok dX11_weatherOf_52 rfl ?_ ?_
      · refine T_aload_n hok 1 rfl rfl dX11_weatherOf_62 ?_
        refine T_ci0 (CR_V (rest := []) hok (ct_X11_heaviest hA I J) mw_X11_heaviest mv_X11_heaviest ml_X11_407 lm_0 dX11_weatherOf_63 rfl rfl (roomOk rfl) rfl) rfl rfl ?_
        intro x4
        refine T_sub (lv' := []) [] rfl ?_
        exact hj66 x4 J
      refine T_aload_n hok 1 rfl rfl dX11_weatherOf_55 ?_
      refine T_ci1 (CR_V (rest := []) hok (ct_X11_drawnKind hA I J) mw_X11_drawnKind mv_X11_drawnKind ml_X11_413 lm_0 dX11_weatherOf_56 rfl rfl (roomOk rfl) rfl) rfl rfl ?_
      intro x5 J6
      refine T_goto (tgt := 66) hok dX11_weatherOf_59 rfl ?_
      refine T_sub (lv' := []) [] rfl ?_
      exact hj66 x5 J6
    refine T_aload_n hok 1 rfl rfl dX11_weatherOf_39 ?_
    refine T_getR hok fr_X11_51 lm_0 rm_0_32 dX11_weatherOf_40 ?_
    refine T_iload_n hok 0 rfl rfl dX11_weatherOf_43 ?_
    refine T_iald hok lm_13 dX11_weatherOf_44 ?_
    refine T_goto (tgt := 66) hok dX11_weatherOf_45 rfl ?_
    refine T_sub (lv' := []) [] rfl ?_
    exact hj66 (I 13 (ix x1)) J
  refine T_aload_n hok 0 rfl rfl dX11_weatherOf_9 ?_
  refine T_getR hok fr_X11_112 lm_0 rm_0_59 dX11_weatherOf_10 ?_
  refine T_iload_n hok 1 rfl rfl dX11_weatherOf_13 ?_
  refine T_iald hok lm_33 dX11_weatherOf_14 ?_
  exact T_iret hok dX11_weatherOf_15 (Nat.zero_le _) (Nat.zero_le _) rfl

set_option maxHeartbeats 4000000 in
set_option maxRecDepth 100000 in
theorem ct_X11_bounded_ {G : Gx} {l0 : Launch} {A : Nat → Prop} {Wd : Heap → Prop} (a1 : Int32) (a2 : Int32) (a3 : Int32) : Ct G l0 A yX11_bounded_ cX11_bounded_ 3 (some .int) { frames := 0, cells := 0, slots := 0, locals := 0 } [.int a1, .int a2, .int a3] (Wd) (ii0 (Wd)) (f_X11_bounded_ a1 a2 a3) := by
  refine Ct.of rfl (Nat.le_of_ble_eq_true rfl) ?_
  intro X hok
  replace hok : Ok G l0 X RX11 cX11_bounded_ 3 { frames := 0, cells := 0, slots := 0, locals := 0 } (some .int) := hok
  delta f_X11_bounded_
  show T X A (Zm X A (ii0 (Wd))) 3 0 0 0 [(0, .int a1), (1, .int a2), (2, .int a3)] [] (Wd) _
  refine T_iload_n hok 0 rfl rfl dX11_bounded__0 ?_
  refine T_iload_n hok 1 rfl rfl dX11_bounded__1 ?_
  refine T_jp _ (fun (j19 : Int32 → Option (Int32)) => ∀ (x1 : Int32), T X A (Zm X A (ii0 (Wd))) 3 0 0 19 [] [.int x1] (Wd) (j19 x1)) _ ?_ ?_
  · intro x1
    exact T_iret hok dX11_bounded__19 (Nat.zero_le _) (Nat.zero_le _) rfl
  intro j19 hj19
  refine T_icmp_ge (tgt := 9) hok dX11_bounded__2 rfl ?_ ?_
  · refine T_iload_n hok 0 rfl rfl dX11_bounded__9 ?_
    refine T_iload_n hok 2 rfl rfl dX11_bounded__10 ?_
    refine T_icmp_le (tgt := 18) hok dX11_bounded__11 rfl ?_ ?_
    · refine T_iload_n hok 0 rfl rfl dX11_bounded__18 ?_
      refine T_sub (lv' := []) [] rfl ?_
      exact hj19 a1
    refine T_iload_n hok 2 rfl rfl dX11_bounded__14 ?_
    refine T_goto (tgt := 19) hok dX11_bounded__15 rfl ?_
    refine T_sub (lv' := []) [] rfl ?_
    exact hj19 a3
  refine T_iload_n hok 1 rfl rfl dX11_bounded__5 ?_
  refine T_goto (tgt := 19) hok dX11_bounded__6 rfl ?_
  refine T_sub (lv' := []) [] rfl ?_
  exact hj19 a2

set_option maxHeartbeats 4000000 in
set_option maxRecDepth 100000 in
theorem ct_X11_looks {G : Gx} {l0 : Launch} {A : Nat → Prop} {b : Nat} (hA : ∀ k, k < Lm.length → A (b + k)) (I : MI) (J : MJ) (a1 : Int32) (a2 : Int32) (a3 : Int32) : Ct G l0 A yX11_looks cX11_looks 6 none { frames := 4, cells := 0, slots := 0, locals := 98 } [.ref (b + 0), .int a1, .int a2, .int a3] (Rg G b Lm (Rm b) I J) (iv2 (fun (I' : MI) (J' : MJ) => Rg G b Lm (Rm b) I' J')) (f_X11_looks I J a1 a2 a3) := by
  refine Ct.of rfl (Nat.le_of_ble_eq_true rfl) ?_
  intro X hok
  replace hok : Ok G l0 X RX11 cX11_looks 6 { frames := 4, cells := 0, slots := 0, locals := 98 } none := hok
  delta f_X11_looks
  show T X A (Zm X A (iv2 (fun (I' : MI) (J' : MJ) => Rg G b Lm (Rm b) I' J'))) 6 0 0 0 [(0, .ref (b + 0)), (1, .int a1), (2, .int a2), (3, .int a3)] [] (Rg G b Lm (Rm b) I J) _
  refine T_bipush hok bp_6 dX11_looks_0 ?_
  refine T_iload_n hok 1 rfl rfl dX11_looks_2 ?_
  refine T_imul hok dX11_looks_3 ?_
  refine T_iload_n hok 2 rfl rfl dX11_looks_4 ?_
  refine T_iadd hok dX11_looks_5 ?_
  refine T_lti ?_
  intro x1
  refine T_istore (lv' := [(4, .int x1), (0, .ref (b + 0)), (1, .int a1), (2, .int a2), (3, .int a3)]) hok (by decide) rfl dX11_looks_6 ?_
  refine T_aload_n hok 1 rfl rfl dX11_looks_8 ?_
  refine T_iload_n hok 2 rfl rfl dX11_looks_9 ?_
  refine T_iload_n hok 3 rfl rfl dX11_looks_10 ?_
  refine T_iload_n hok 4 rfl rfl dX11_looks_11 ?_
  refine T_cv1 (CR_V (rest := []) hok (ct_X11_lay hA I J a1 a2 a3) mw_X11_lay mv_X11_lay ml_X11_416 lm_0 dX11_looks_12 rfl rfl (roomOk rfl) rfl) rfl rfl ?_
  intro J2
  refine T_aload_n hok 1 rfl rfl dX11_looks_15 ?_
  refine T_getR hok fr_X11_60 lm_0 rm_0_35 dX11_looks_16 ?_
  refine T_iconst hok ic_0 dX11_looks_19 ?_
  refine T_zald hok lm_16 dX11_looks_20 ?_
  refine T_jp _ (fun (j42 : MI → MJ → Option (MI × MJ)) => ∀ (I3 : MI) (J4 : MJ), T X A (Zm X A (iv2 (fun (I' : MI) (J' : MJ) => Rg G b Lm (Rm b) I' J'))) 6 0 0 42 [(0, .ref (b + 0)), (1, .int a1), (2, .int a2), (3, .int a3), (4, .int x1)] [] (Rg G b Lm (Rm b) I3 J4) (j42 I3 J4)) _ ?_ ?_
  · intro I3 J4
    refine T_aload_n hok 0 rfl rfl dX11_looks_42 ?_
    refine T_getR hok fr_X11_100 lm_0 rm_0_55 dX11_looks_43 ?_
    refine T_iload hok 4 rfl dX11_looks_46 ?_
    refine T_dup2 hok rfl rfl dX11_looks_48 ?_
    refine T_iald hok lm_29 dX11_looks_49 ?_
    refine T_iconst hok ic_1 dX11_looks_50 ?_
    refine T_iadd hok dX11_looks_51 ?_
    refine T_iast hok hA lm_29 dX11_looks_52 ?_
    intro I5
    refine T_aload_n hok 0 rfl rfl dX11_looks_53 ?_
    refine T_iconst hok ic_1 dX11_looks_54 ?_
    refine T_aload_n hok 0 rfl rfl dX11_looks_55 ?_
    refine T_iload_n hok 2 rfl rfl dX11_looks_56 ?_
    refine T_ci0 (CR_V (rest := [.int (1 : Int32), .ref (b + 0)]) hok (ct_X11_eagerOf hA I5 J4 a2) mw_X11_eagerOf mv_X11_eagerOf ml_X11_386 lm_0 dX11_looks_57 rfl rfl (roomOk rfl) rfl) rfl rfl ?_
    intro x6
    refine T_iconst hok ic_0 dX11_looks_60 ?_
    refine T_bipush hok bp_99 dX11_looks_61 ?_
    refine T_ci2 (CR_V (rest := []) hok (ct_X11_boundLaw hA I5 J4 (1 : Int32) x6 (0 : Int32) (99 : Int32)) mw_X11_boundLaw mv_X11_boundLaw ml_X11_419 lm_0 dX11_looks_63 rfl rfl (roomOk rfl) rfl) rfl rfl ?_
    intro x7 I8 J9
    refine T_istore (lv' := [(5, .int x7), (0, .ref (b + 0)), (1, .int a1), (2, .int a2), (3, .int a3), (4, .int x1)]) hok (by decide) rfl dX11_looks_66 ?_
    refine T_aload_n hok 1 rfl rfl dX11_looks_68 ?_
    refine T_getR hok fr_X11_97 lm_0 rm_0_54 dX11_looks_69 ?_
    refine T_iload hok 5 rfl dX11_looks_72 ?_
    refine T_aload_n hok 1 rfl rfl dX11_looks_74 ?_
    refine T_getR hok fr_X11_97 lm_0 rm_0_54 dX11_looks_75 ?_
    refine T_iload hok 5 rfl dX11_looks_78 ?_
    refine T_iald hok lm_28 dX11_looks_80 ?_
    refine T_iload hok 0 rfl dX11_looks_81 ?_
    refine T_iadd hok dX11_looks_83 ?_
    refine T_iconst hok ic_0 dX11_looks_84 ?_
    refine T_ldc hok lk_X11_189 dX11_looks_85 ?_
    refine T_ci0 (CR_S (rest := [.int x1, .ref (b + 28)]) hok (ct_X11_bounded_ ((I8 28 (ix x1)) + x7) (0 : Int32) (99999 : Int32)) mw_X11_bounded_ mst_X11_bounded_ ml_X11_423 dX11_looks_87 rfl rfl (roomOk rfl) rfl) rfl rfl ?_
    intro x10
    refine T_iast hok hA lm_28 dX11_looks_90 ?_
    intro I11
    refine T_aload_n hok 1 rfl rfl dX11_looks_91 ?_
    refine T_iload_n hok 2 rfl rfl dX11_looks_92 ?_
    refine T_iload_n hok 3 rfl rfl dX11_looks_93 ?_
    refine T_iload_n hok 4 rfl rfl dX11_looks_94 ?_
    refine T_cv1 (CR_V (rest := []) hok (ct_X11_lay hA I11 J9 a1 a2 a3) mw_X11_lay mv_X11_lay ml_X11_416 lm_0 dX11_looks_95 rfl rfl (roomOk rfl) rfl) rfl rfl ?_
    intro J12
    refine T_aload_n hok 1 rfl rfl dX11_looks_98 ?_
    refine T_getR hok fr_X11_94 lm_0 rm_0_53 dX11_looks_99 ?_
    refine T_iload hok 5 rfl dX11_looks_102 ?_
    refine T_aload_n hok 1 rfl rfl dX11_looks_104 ?_
    refine T_getR hok fr_X11_94 lm_0 rm_0_53 dX11_looks_105 ?_
    refine T_iload hok 5 rfl dX11_looks_108 ?_
    refine T_iald hok lm_27 dX11_looks_110 ?_
    refine T_aload_n hok 1 rfl rfl dX11_looks_111 ?_
    refine T_iconst hok ic_2 dX11_looks_112 ?_
    refine T_aload_n hok 1 rfl rfl dX11_looks_113 ?_
    refine T_iload_n hok 4 rfl rfl dX11_looks_114 ?_
    refine T_ci0 (CR_V (rest := [.int (2 : Int32), .ref (b + 0), .int (I11 27 (ix x1)), .int x1, .ref (b + 27)]) hok (ct_X11_worthOf hA I11 J12 a3) mw_X11_worthOf mv_X11_worthOf ml_X11_383 lm_0 dX11_looks_115 rfl rfl (roomOk rfl) rfl) rfl rfl ?_
    intro x13
    refine T_iload hok 0 rfl dX11_looks_118 ?_
    refine T_imul hok dX11_looks_120 ?_
    refine T_sipush hok sp_m999 dX11_looks_121 ?_
    refine T_sipush hok sp_999 dX11_looks_124 ?_
    refine T_ci2 (CR_V (rest := [.int (I11 27 (ix x1)), .int x1, .ref (b + 27)]) hok (ct_X11_boundLaw hA I11 J12 (2 : Int32) (x13 * x7) (-999 : Int32) (999 : Int32)) mw_X11_boundLaw mv_X11_boundLaw ml_X11_419 lm_0 dX11_looks_127 rfl rfl (roomOk rfl) rfl) rfl rfl ?_
    intro x14 I15 J16
    refine T_iadd hok dX11_looks_130 ?_
    refine T_ldcw hok lk_X11_426 dX11_looks_131 ?_
    refine T_ldc hok lk_X11_189 dX11_looks_134 ?_
    refine T_ci0 (CR_S (rest := [.int x1, .ref (b + 27)]) hok (ct_X11_bounded_ ((I11 27 (ix x1)) + x14) (-99999 : Int32) (99999 : Int32)) mw_X11_bounded_ mst_X11_bounded_ ml_X11_423 dX11_looks_136 rfl rfl (roomOk rfl) rfl) rfl rfl ?_
    intro x17
    refine T_iast hok hA lm_27 dX11_looks_139 ?_
    intro I18
    exact T_vret hok dX11_looks_140 (Nat.zero_le _) (Nat.zero_le _) rfl
  intro j42 hj42
  refine T_if_eq (tgt := 42) hok dX11_looks_21 rfl ?_ ?_
  · refine T_sub (lv' := [(0, .ref (b + 0)), (1, .int a1), (2, .int a2), (3, .int a3), (4, .int x1)]) [1, 2, 3, 4, 0] rfl ?_
    exact hj42 I J2
  refine T_aload_n hok 1 rfl rfl dX11_looks_24 ?_
  refine T_iconst hok ic_0 dX11_looks_25 ?_
  refine T_cl2 (CR_V (rest := []) hok (ct_X11_lawOf hA I J2 (0 : Int32)) mw_X11_lawOf mv_X11_lawOf ml_X11_393 lm_0 dX11_looks_26 rfl rfl (roomOk rfl) rfl) rfl rfl ?_
  intro x19 I20 J21
  refine T_lconst (v := 0) hok rfl dX11_looks_29 ?_
  refine T_lcmp_ne (tgt := 42) hok dX11_looks_30 rfl dX11_looks_31 rfl ?_ ?_
  · refine T_aload_n hok 1 rfl rfl dX11_looks_34 ?_
    refine T_getI hok fr_X11_336 lm_0 dX11_looks_35 ?_
    refine T_if_ne (tgt := 42) hok dX11_looks_38 rfl ?_ ?_
    · exact T_vret hok dX11_looks_41 (Nat.zero_le _) (Nat.zero_le _) rfl
    refine T_sub (lv' := [(0, .ref (b + 0)), (1, .int a1), (2, .int a2), (3, .int a3), (4, .int x1)]) [1, 2, 3, 4, 0] rfl ?_
    exact hj42 I20 J21
  refine T_sub (lv' := [(0, .ref (b + 0)), (1, .int a1), (2, .int a2), (3, .int a3), (4, .int x1)]) [1, 2, 3, 4, 0] rfl ?_
  exact hj42 I20 J21

set_option maxHeartbeats 4000000 in
set_option maxRecDepth 100000 in
theorem ct_X11_pays {G : Gx} {l0 : Launch} {A : Nat → Prop} {b : Nat} (hA : ∀ k, k < Lm.length → A (b + k)) (I : MI) (J : MJ) (a1 : Int32) (a2 : Int32) : Ct G l0 A yX11_pays cX11_pays 5 none { frames := 0, cells := 0, slots := 0, locals := 0 } [.ref (b + 0), .int a1, .int a2] (Rg G b Lm (Rm b) I J) (iv1 (fun (I' : MI) => Rg G b Lm (Rm b) I' J)) (f_X11_pays I a1 a2) := by
  refine Ct.of rfl (Nat.le_of_ble_eq_true rfl) ?_
  intro X hok
  replace hok : Ok G l0 X RX11 cX11_pays 5 { frames := 0, cells := 0, slots := 0, locals := 0 } none := hok
  delta f_X11_pays
  show T X A (Zm X A (iv1 (fun (I' : MI) => Rg G b Lm (Rm b) I' J))) 5 0 0 0 [(0, .ref (b + 0)), (1, .int a1), (2, .int a2)] [] (Rg G b Lm (Rm b) I J) _
  refine T_bipush hok bp_6 dX11_pays_0 ?_
  refine T_iload_n hok 1 rfl rfl dX11_pays_2 ?_
  refine T_imul hok dX11_pays_3 ?_
  refine T_iload_n hok 2 rfl rfl dX11_pays_4 ?_
  refine T_iadd hok dX11_pays_5 ?_
  refine T_lti ?_
  intro x1
  refine T_istore_n (lv' := [(3, .int x1), (0, .ref (b + 0)), (1, .int a1), (2, .int a2)]) hok rfl (by decide) rfl dX11_pays_6 ?_
  refine T_aload_n hok 1 rfl rfl dX11_pays_7 ?_
  refine T_getR hok fr_X11_91 lm_0 rm_0_52 dX11_pays_8 ?_
  refine T_iload_n hok 0 rfl rfl dX11_pays_11 ?_
  refine T_iald hok lm_26 dX11_pays_12 ?_
  refine T_aload_n hok 1 rfl rfl dX11_pays_13 ?_
  refine T_getR hok fr_X11_45 lm_0 rm_0_30 dX11_pays_14 ?_
  refine T_iload_n hok 3 rfl rfl dX11_pays_17 ?_
  refine T_iald hok lm_11 dX11_pays_18 ?_
  refine T_iadd hok dX11_pays_19 ?_
  refine T_aload_n hok 1 rfl rfl dX11_pays_20 ?_
  refine T_getR hok fr_X11_94 lm_0 rm_0_53 dX11_pays_21 ?_
  refine T_iload_n hok 0 rfl rfl dX11_pays_24 ?_
  refine T_iald hok lm_27 dX11_pays_25 ?_
  refine T_isub hok dX11_pays_26 ?_
  refine T_lti ?_
  intro x2
  refine T_istore (lv' := [(4, .int x2), (3, .int x1), (0, .ref (b + 0)), (1, .int a1), (2, .int a2)]) hok (by decide) rfl dX11_pays_27 ?_
  refine T_aload_n hok 2 rfl rfl dX11_pays_29 ?_
  refine T_getR hok fr_X11_91 lm_0 rm_0_52 dX11_pays_30 ?_
  refine T_iload_n hok 1 rfl rfl dX11_pays_33 ?_
  refine T_iload hok 0 rfl dX11_pays_34 ?_
  refine T_ldc hok lk_X11_189 dX11_pays_36 ?_
  refine T_jp _ (fun (j48 : Int32 → Int32 → Option (MI)) => ∀ (x3 : Int32) (x4 : Int32), T X A (Zm X A (iv1 (fun (I' : MI) => Rg G b Lm (Rm b) I' J))) 5 0 0 48 [(0, .ref (b + 0)), (1, .int a1), (2, .int a2), (3, .int x1), (4, .int x2)] [.int x3, .int x4, .ref (b + 26)] (Rg G b Lm (Rm b) I J) (j48 x3 x4)) _ ?_ ?_
  · intro x3 x4
    refine T_iast hok hA lm_26 dX11_pays_48 ?_
    intro I5
    refine T_aload_n hok 0 rfl rfl dX11_pays_49 ?_
    refine T_getR hok fr_X11_94 lm_0 rm_0_53 dX11_pays_50 ?_
    refine T_iload_n hok 3 rfl rfl dX11_pays_53 ?_
    refine T_iconst hok ic_0 dX11_pays_54 ?_
    refine T_iast hok hA lm_27 dX11_pays_55 ?_
    intro I6
    refine T_iload hok 4 rfl dX11_pays_56 ?_
    refine T_jp _ (fun (j73 : MI → Option (MI)) => ∀ (I7 : MI), T X A (Zm X A (iv1 (fun (I' : MI) => Rg G b Lm (Rm b) I' J))) 5 0 0 73 [] [] (Rg G b Lm (Rm b) I7 J) (j73 I7)) _ ?_ ?_
    · intro I7
      exact T_vret hok dX11_pays_73 (Nat.zero_le _) (Nat.zero_le _) rfl
    intro j73 hj73
    refine T_if_ge (tgt := 73) hok dX11_pays_58 rfl ?_ ?_
    · refine T_sub (lv' := []) [] rfl ?_
      exact hj73 I6
    refine T_aload_n hok 0 rfl rfl dX11_pays_61 ?_
    refine T_getR hok fr_X11_106 lm_0 rm_0_57 dX11_pays_62 ?_
    refine T_iload_n hok 1 rfl rfl dX11_pays_65 ?_
    refine T_dup2 hok rfl rfl dX11_pays_66 ?_
    refine T_iald hok lm_31 dX11_pays_67 ?_
    refine T_iconst hok ic_1 dX11_pays_68 ?_
    refine T_iload_n hok 2 rfl rfl dX11_pays_69 ?_
    refine T_ishl hok dX11_pays_70 ?_
    refine T_ior hok dX11_pays_71 ?_
    refine T_iast hok hA lm_31 dX11_pays_72 ?_
    intro I8
    refine T_sub (lv' := []) [] rfl ?_
    exact hj73 I8
  intro j48 hj48
  refine T_icmp_le (tgt := 46) hok dX11_pays_38 rfl ?_ ?_
  · refine T_iload hok 0 rfl dX11_pays_46 ?_
    refine T_sub (lv' := [(0, .ref (b + 0)), (1, .int a1), (2, .int a2), (3, .int x1), (4, .int x2)]) [2, 3, 4, 1, 0] rfl ?_
    exact hj48 x2 x1
  refine T_ldc hok lk_X11_189 dX11_pays_41 ?_
  refine T_goto (tgt := 48) hok dX11_pays_43 rfl ?_
  refine T_sub (lv' := [(0, .ref (b + 0)), (1, .int a1), (2, .int a2), (3, .int x1), (4, .int x2)]) [2, 3, 4, 1, 0] rfl ?_
  exact hj48 (99999 : Int32) x1

set_option maxHeartbeats 4000000 in
set_option maxRecDepth 100000 in
theorem ct_X11_dayGoes {G : Gx} {l0 : Launch} {A : Nat → Prop} {b : Nat} (hA : ∀ k, k < Lm.length → A (b + k)) (I : MI) (J : MJ) (a1 : Int32) : Ct G l0 A yX11_dayGoes cX11_dayGoes 4 none { frames := 5, cells := 0, slots := 0, locals := 123 } [.ref (b + 0), .int a1] (Rg G b Lm (Rm b) I J) (iv2 (fun (I' : MI) (J' : MJ) => Rg G b Lm (Rm b) I' J')) (f_X11_dayGoes I J a1) := by
  refine Ct.of rfl (Nat.le_of_ble_eq_true rfl) ?_
  intro X hok
  replace hok : Ok G l0 X RX11 cX11_dayGoes 4 { frames := 5, cells := 0, slots := 0, locals := 123 } none := hok
  delta f_X11_dayGoes
  show T X A (Zm X A (iv2 (fun (I' : MI) (J' : MJ) => Rg G b Lm (Rm b) I' J'))) 4 0 0 0 [(0, .ref (b + 0)), (1, .int a1)] [] (Rg G b Lm (Rm b) I J) _
  refine T_aload_n hok 0 rfl rfl dX11_dayGoes_0 ?_
  refine T_iload_n hok 1 rfl rfl dX11_dayGoes_1 ?_
  refine T_ci1 (CR_V (rest := []) hok (ct_X11_weatherOf hA I J a1) mw_X11_weatherOf mv_X11_weatherOf ml_X11_427 lm_0 dX11_dayGoes_2 rfl rfl (roomOk rfl) rfl) rfl rfl ?_
  intro x1 J2
  refine T_istore_n (lv' := [(2, .int x1), (0, .ref (b + 0)), (1, .int a1)]) hok rfl (by decide) rfl dX11_dayGoes_5 ?_
  refine T_iload_n hok 0 rfl rfl dX11_dayGoes_6 ?_
  refine T_jp _ (fun (j38 : MI → Option (MI × MJ)) => ∀ (I3 : MI), T X A (Zm X A (iv2 (fun (I' : MI) (J' : MJ) => Rg G b Lm (Rm b) I' J'))) 4 0 0 38 [(0, .ref (b + 0)), (1, .int a1), (2, .int x1)] [] (Rg G b Lm (Rm b) I3 J2) (j38 I3)) _ ?_ ?_
  · intro I3
    refine T_iconst hok ic_0 dX11_dayGoes_38 ?_
    refine T_istore_n (lv' := [(3, .int (0 : Int32)), (0, .ref (b + 0)), (1, .int a1), (2, .int x1)]) hok rfl (by decide) rfl dX11_dayGoes_39 ?_
    refine T_jp _ (fun (j85 : MI → MJ → Option (MI × MJ)) => ∀ (I4 : MI) (J5 : MJ), T X A (Zm X A (iv2 (fun (I' : MI) (J' : MJ) => Rg G b Lm (Rm b) I' J'))) 4 0 0 85 [(0, .ref (b + 0)), (1, .int a1)] [] (Rg G b Lm (Rm b) I4 J5) (j85 I4 J5)) _ ?_ ?_
    · intro I4 J5
      refine T_iconst hok ic_0 dX11_dayGoes_85 ?_
      refine T_istore_n (lv' := [(3, .int (0 : Int32)), (0, .ref (b + 0)), (1, .int a1)]) hok rfl (by decide) rfl dX11_dayGoes_86 ?_
      refine T_jp _ (fun (j145 : MI → Option (MI × MJ)) => ∀ (I6 : MI), T X A (Zm X A (iv2 (fun (I' : MI) (J' : MJ) => Rg G b Lm (Rm b) I' J'))) 4 0 0 145 [(0, .ref (b + 0)), (1, .int a1)] [] (Rg G b Lm (Rm b) I6 J5) (j145 I6)) _ ?_ ?_
      · intro I6
        refine T_aload_n hok 0 rfl rfl dX11_dayGoes_145 ?_
        refine T_getR hok fr_X11_112 lm_0 rm_0_59 dX11_dayGoes_146 ?_
        refine T_iload_n hok 1 rfl rfl dX11_dayGoes_149 ?_
        refine T_iconst hok ic_m1 dX11_dayGoes_150 ?_
        refine T_iast hok hA lm_33 dX11_dayGoes_151 ?_
        intro I7
        refine T_aload_n hok 0 rfl rfl dX11_dayGoes_152 ?_
        refine T_getR hok fr_X11_118 lm_0 rm_0_61 dX11_dayGoes_153 ?_
        refine T_iload_n hok 1 rfl rfl dX11_dayGoes_156 ?_
        refine T_dup2 hok rfl rfl dX11_dayGoes_157 ?_
        refine T_iald hok lm_35 dX11_dayGoes_158 ?_
        refine T_iconst hok ic_1 dX11_dayGoes_159 ?_
        refine T_iadd hok dX11_dayGoes_160 ?_
        refine T_iast hok hA lm_35 dX11_dayGoes_161 ?_
        intro I8
        exact T_vret hok dX11_dayGoes_162 (Nat.zero_le _) (Nat.zero_le _) rfl
      intro j145 hj145
      refine T_sub (lv' := [(0, .ref (b + 0)), (1, .int a1), (3, .int (0 : Int32))]) [1, 2, 0] rfl ?_
      refine T_fix2 _ (fun (x9 : Int32) (I10 : MI) => [(0, .ref (b + 0)), (1, .int a1), (3, .int x9)]) (fun (x9 : Int32) (I10 : MI) => Rg G b Lm (Rm b) I10 J5) ?_ FU (0 : Int32) I4
      intro r87 hr87 x9 I10
      refine T_iload_n hok 2 rfl rfl dX11_dayGoes_87 ?_
      refine T_aload_n hok 0 rfl rfl dX11_dayGoes_88 ?_
      refine T_getI hok fr_X11_234 lm_0 dX11_dayGoes_89 ?_
      refine T_icmp_ge (tgt := 145) hok dX11_dayGoes_92 rfl ?_ ?_
      · refine T_sub (lv' := [(0, .ref (b + 0)), (1, .int a1)]) [0, 1] rfl ?_
        exact hj145 I10
      refine T_aload_n hok 0 rfl rfl dX11_dayGoes_95 ?_
      refine T_getI hok fr_X11_380 lm_0 dX11_dayGoes_96 ?_
      refine T_if_ne (tgt := 145) hok dX11_dayGoes_99 rfl ?_ ?_
      · refine T_aload_n hok 0 rfl rfl dX11_dayGoes_102 ?_
        refine T_getR hok fr_X11_118 lm_0 rm_0_61 dX11_dayGoes_103 ?_
        refine T_iload_n hok 1 rfl rfl dX11_dayGoes_106 ?_
        refine T_iald hok lm_35 dX11_dayGoes_107 ?_
        refine T_iconst hok ic_1 dX11_dayGoes_108 ?_
        refine T_iadd hok dX11_dayGoes_109 ?_
        refine T_aload_n hok 0 rfl rfl dX11_dayGoes_110 ?_
        refine T_getR hok fr_X11_24 lm_0 rm_0_23 dX11_dayGoes_111 ?_
        refine T_iconst hok ic_0 dX11_dayGoes_114 ?_
        refine T_iald hok lm_4 dX11_dayGoes_115 ?_
        refine T_irem hok dX11_dayGoes_116 ?_
        refine T_if_ne (tgt := 145) hok dX11_dayGoes_117 rfl ?_ ?_
        · refine T_aload_n hok 0 rfl rfl dX11_dayGoes_120 ?_
          refine T_getR hok fr_X11_106 lm_0 rm_0_57 dX11_dayGoes_121 ?_
          refine T_iload_n hok 1 rfl rfl dX11_dayGoes_124 ?_
          refine T_iald hok lm_31 dX11_dayGoes_125 ?_
          refine T_iload_n hok 2 rfl rfl dX11_dayGoes_126 ?_
          refine T_cz0 (CR_S (rest := []) hok (ct_X11_isOf (I10 31 (ix a1)) x9) mw_X11_isOf mst_X11_isOf ml_X11_430 dX11_dayGoes_127 rfl rfl (roomOk rfl) rfl) rfl rfl ?_
          intro x11
          refine T_jp _ (fun (j139 : MI → Option (MI × MJ)) => ∀ (I12 : MI), T X A (Zm X A (iv2 (fun (I' : MI) (J' : MJ) => Rg G b Lm (Rm b) I' J'))) 4 0 0 139 [(0, .ref (b + 0)), (1, .int a1), (3, .int x9)] [] (Rg G b Lm (Rm b) I12 J5) (j139 I12)) _ ?_ ?_
          · intro I12
            refine T_iinc (lvs := fun x13 => [(3, .int x13), (0, .ref (b + 0)), (1, .int a1)]) hok 2 rfl ic_1 (by decide) (fun _ => rfl) dX11_dayGoes_139 ?_
            intro x13
            refine T_goto (tgt := 87) hok dX11_dayGoes_142 rfl ?_
            refine T_sub (lv' := [(0, .ref (b + 0)), (1, .int a1), (3, .int x13)]) [1, 2, 0] rfl ?_
            exact hr87 x13 I12
          intro j139 hj139
          refine T_ifb_ne (tgt := 139) hok dX11_dayGoes_130 rfl ?_ ?_
          · exact hj139 I10
          refine T_aload_n hok 0 rfl rfl dX11_dayGoes_133 ?_
          refine T_iload_n hok 1 rfl rfl dX11_dayGoes_134 ?_
          refine T_iload_n hok 2 rfl rfl dX11_dayGoes_135 ?_
          refine T_cv1 (CR_V (rest := []) hok (ct_X11_pays hA I10 J5 a1 x9) mw_X11_pays mv_X11_pays ml_X11_436 lm_0 dX11_dayGoes_136 rfl rfl (roomOk rfl) rfl) rfl rfl ?_
          intro I14
          exact hj139 I14
        refine T_sub (lv' := [(0, .ref (b + 0)), (1, .int a1)]) [0, 1] rfl ?_
        exact hj145 I10
      refine T_sub (lv' := [(0, .ref (b + 0)), (1, .int a1)]) [0, 1] rfl ?_
      exact hj145 I10
    intro j85 hj85
    refine T_sub (lv' := [(0, .ref (b + 0)), (1, .int a1), (2, .int x1), (3, .int (0 : Int32))]) [1, 2, 3, 0] rfl ?_
    refine T_fix3 _ (fun (x15 : Int32) (I16 : MI) (J17 : MJ) => [(0, .ref (b + 0)), (1, .int a1), (2, .int x1), (3, .int x15)]) (fun (x15 : Int32) (I16 : MI) (J17 : MJ) => Rg G b Lm (Rm b) I16 J17) ?_ FU (0 : Int32) I3 J2
    intro r40 hr40 x15 I16 J17
    refine T_iload_n hok 3 rfl rfl dX11_dayGoes_40 ?_
    refine T_aload_n hok 0 rfl rfl dX11_dayGoes_41 ?_
    refine T_getI hok fr_X11_234 lm_0 dX11_dayGoes_42 ?_
    refine T_icmp_ge (tgt := 85) hok dX11_dayGoes_45 rfl ?_ ?_
    · refine T_sub (lv' := [(0, .ref (b + 0)), (1, .int a1)]) [0, 1] rfl ?_
      exact hj85 I16 J17
    refine T_iload_n hok 2 rfl rfl dX11_dayGoes_48 ?_
    refine T_if_lt (tgt := 85) hok dX11_dayGoes_49 rfl ?_ ?_
    · refine T_sub (lv' := [(0, .ref (b + 0)), (1, .int a1)]) [0, 1] rfl ?_
      exact hj85 I16 J17
    refine T_aload_n hok 0 rfl rfl dX11_dayGoes_52 ?_
    refine T_getR hok fr_X11_106 lm_0 rm_0_57 dX11_dayGoes_53 ?_
    refine T_iload_n hok 1 rfl rfl dX11_dayGoes_56 ?_
    refine T_iald hok lm_31 dX11_dayGoes_57 ?_
    refine T_aload_n hok 0 rfl rfl dX11_dayGoes_58 ?_
    refine T_getR hok fr_X11_109 lm_0 rm_0_58 dX11_dayGoes_59 ?_
    refine T_iload_n hok 1 rfl rfl dX11_dayGoes_62 ?_
    refine T_iald hok lm_32 dX11_dayGoes_63 ?_
    refine T_ior hok dX11_dayGoes_64 ?_
    refine T_iload_n hok 3 rfl rfl dX11_dayGoes_65 ?_
    refine T_cz0 (CR_S (rest := []) hok (ct_X11_isOf ((I16 31 (ix a1)) ||| (I16 32 (ix a1))) x15) mw_X11_isOf mst_X11_isOf ml_X11_430 dX11_dayGoes_66 rfl rfl (roomOk rfl) rfl) rfl rfl ?_
    intro x18
    refine T_jp _ (fun (j79 : MI → MJ → Option (MI × MJ)) => ∀ (I19 : MI) (J20 : MJ), T X A (Zm X A (iv2 (fun (I' : MI) (J' : MJ) => Rg G b Lm (Rm b) I' J'))) 4 0 0 79 [(0, .ref (b + 0)), (1, .int a1), (2, .int x1), (3, .int x15)] [] (Rg G b Lm (Rm b) I19 J20) (j79 I19 J20)) _ ?_ ?_
    · intro I19 J20
      refine T_iinc (lvs := fun x21 => [(3, .int x21), (0, .ref (b + 0)), (1, .int a1), (2, .int x1)]) hok 3 rfl ic_1 (by decide) (fun _ => rfl) dX11_dayGoes_79 ?_
      intro x21
      refine T_goto (tgt := 40) hok dX11_dayGoes_82 rfl ?_
      refine T_sub (lv' := [(0, .ref (b + 0)), (1, .int a1), (2, .int x1), (3, .int x21)]) [1, 2, 3, 0] rfl ?_
      exact hr40 x21 I19 J20
    intro j79 hj79
    refine T_ifb_ne (tgt := 79) hok dX11_dayGoes_69 rfl ?_ ?_
    · exact hj79 I16 J17
    refine T_aload_n hok 0 rfl rfl dX11_dayGoes_72 ?_
    refine T_iload_n hok 1 rfl rfl dX11_dayGoes_73 ?_
    refine T_iload_n hok 3 rfl rfl dX11_dayGoes_74 ?_
    refine T_iload_n hok 2 rfl rfl dX11_dayGoes_75 ?_
    refine T_cv2 (CR_V (rest := []) hok (ct_X11_looks hA I16 J17 a1 x15 x1) mw_X11_looks mv_X11_looks ml_X11_433 lm_0 dX11_dayGoes_76 rfl rfl (roomOk rfl) rfl) rfl rfl ?_
    intro I22 J23
    exact hj79 I22 J23
  intro j38 hj38
  refine T_if_ge (tgt := 23) hok dX11_dayGoes_7 rfl ?_ ?_
  · refine T_aload_n hok 1 rfl rfl dX11_dayGoes_23 ?_
    refine T_getR hok fr_X11_103 lm_0 rm_0_56 dX11_dayGoes_24 ?_
    refine T_bipush hok bp_6 dX11_dayGoes_27 ?_
    refine T_iload_n hok 2 rfl rfl dX11_dayGoes_29 ?_
    refine T_imul hok dX11_dayGoes_30 ?_
    refine T_iload_n hok 0 rfl rfl dX11_dayGoes_31 ?_
    refine T_iadd hok dX11_dayGoes_32 ?_
    refine T_dup2 hok rfl rfl dX11_dayGoes_33 ?_
    refine T_iald hok lm_30 dX11_dayGoes_34 ?_
    refine T_iconst hok ic_1 dX11_dayGoes_35 ?_
    refine T_iadd hok dX11_dayGoes_36 ?_
    refine T_iast hok hA lm_30 dX11_dayGoes_37 ?_
    intro I24
    refine T_sub (lv' := [(0, .ref (b + 0)), (1, .int a1), (2, .int x1)]) [1, 2, 0] rfl ?_
    exact hj38 I24
  refine T_aload_n hok 1 rfl rfl dX11_dayGoes_10 ?_
  refine T_getR hok fr_X11_115 lm_0 rm_0_60 dX11_dayGoes_11 ?_
  refine T_iload_n hok 2 rfl rfl dX11_dayGoes_14 ?_
  refine T_dup2 hok rfl rfl dX11_dayGoes_15 ?_
  refine T_iald hok lm_34 dX11_dayGoes_16 ?_
  refine T_iconst hok ic_1 dX11_dayGoes_17 ?_
  refine T_iadd hok dX11_dayGoes_18 ?_
  refine T_iast hok hA lm_34 dX11_dayGoes_19 ?_
  intro I25
  refine T_goto (tgt := 38) hok dX11_dayGoes_20 rfl ?_
  refine T_sub (lv' := [(0, .ref (b + 0)), (1, .int a1), (2, .int x1)]) [1, 2, 0] rfl ?_
  exact hj38 I25

set_option maxHeartbeats 4000000 in
set_option maxRecDepth 100000 in
theorem ct_X11_goMany {G : Gx} {l0 : Launch} {A : Nat → Prop} {b : Nat} (hA : ∀ k, k < Lm.length → A (b + k)) (I : MI) (J : MJ) (a1 : Int32) : Ct G l0 A yX11_goMany cX11_goMany 3 none { frames := 6, cells := 0, slots := 0, locals := 146 } [.ref (b + 0), .int a1] (Rg G b Lm (Rm b) I J) (iv2 (fun (I' : MI) (J' : MJ) => Rg G b Lm (Rm b) I' J')) (f_X11_goMany I J a1) := by
  refine Ct.of rfl (Nat.le_of_ble_eq_true rfl) ?_
  intro X hok
  replace hok : Ok G l0 X RX11 cX11_goMany 3 { frames := 6, cells := 0, slots := 0, locals := 146 } none := hok
  delta f_X11_goMany
  show T X A (Zm X A (iv2 (fun (I' : MI) (J' : MJ) => Rg G b Lm (Rm b) I' J'))) 3 0 0 0 [(0, .ref (b + 0)), (1, .int a1)] [] (Rg G b Lm (Rm b) I J) _
  refine T_iconst hok ic_0 dX11_goMany_0 ?_
  refine T_istore_n (lv' := [(2, .int (0 : Int32)), (0, .ref (b + 0)), (1, .int a1)]) hok rfl (by decide) rfl dX11_goMany_1 ?_
  refine T_sub (lv' := [(0, .ref (b + 0)), (1, .int a1), (2, .int (0 : Int32))]) [1, 2, 0] rfl ?_
  refine T_fix3 _ (fun (x1 : Int32) (I2 : MI) (J3 : MJ) => [(0, .ref (b + 0)), (1, .int a1), (2, .int x1)]) (fun (x1 : Int32) (I2 : MI) (J3 : MJ) => Rg G b Lm (Rm b) I2 J3) ?_ FU (0 : Int32) I J
  intro r2 hr2 x1 I2 J3
  refine T_iload_n hok 2 rfl rfl dX11_goMany_2 ?_
  refine T_iload_n hok 1 rfl rfl dX11_goMany_3 ?_
  refine T_icmp_ge (tgt := 18) hok dX11_goMany_4 rfl ?_ ?_
  · exact T_vret hok dX11_goMany_18 (Nat.zero_le _) (Nat.zero_le _) rfl
  refine T_aload_n hok 0 rfl rfl dX11_goMany_7 ?_
  refine T_iconst hok ic_1 dX11_goMany_8 ?_
  refine T_cv2 (CR_V (rest := []) hok (ct_X11_dayGoes hA I2 J3 (1 : Int32)) mw_X11_dayGoes mv_X11_dayGoes ml_X11_440 lm_0 dX11_goMany_9 rfl rfl (roomOk rfl) rfl) rfl rfl ?_
  intro I4 J5
  refine T_iinc (lvs := fun x6 => [(2, .int x6), (0, .ref (b + 0)), (1, .int a1)]) hok 2 rfl ic_1 (by decide) (fun _ => rfl) dX11_goMany_12 ?_
  intro x6
  refine T_goto (tgt := 2) hok dX11_goMany_15 rfl ?_
  refine T_sub (lv' := [(0, .ref (b + 0)), (1, .int a1), (2, .int x6)]) [1, 2, 0] rfl ?_
  exact hr2 x6 I4 J5

set_option maxHeartbeats 4000000 in
set_option maxRecDepth 100000 in
theorem ct_X11_lookedAll {G : Gx} {l0 : Launch} {A : Nat → Prop} {b : Nat} (hA : ∀ k, k < Lm.length → A (b + k)) (I : MI) (J : MJ) (a1 : Int32) : Ct G l0 A yX11_lookedAll cX11_lookedAll 4 (some .int) { frames := 0, cells := 0, slots := 0, locals := 0 } [.ref (b + 0), .int a1] (Rg G b Lm (Rm b) I J) (ii0 (Rg G b Lm (Rm b) I J)) (f_X11_lookedAll I a1) := by
  refine Ct.of rfl (Nat.le_of_ble_eq_true rfl) ?_
  intro X hok
  replace hok : Ok G l0 X RX11 cX11_lookedAll 4 { frames := 0, cells := 0, slots := 0, locals := 0 } (some .int) := hok
  delta f_X11_lookedAll
  show T X A (Zm X A (ii0 (Rg G b Lm (Rm b) I J))) 4 0 0 0 [(0, .ref (b + 0)), (1, .int a1)] [] (Rg G b Lm (Rm b) I J) _
  refine T_iconst hok ic_0 dX11_lookedAll_0 ?_
  refine T_istore_n (lv' := [(2, .int (0 : Int32)), (0, .ref (b + 0)), (1, .int a1)]) hok rfl (by decide) rfl dX11_lookedAll_1 ?_
  refine T_iconst hok ic_0 dX11_lookedAll_2 ?_
  refine T_istore_n (lv' := [(3, .int (0 : Int32)), (2, .int (0 : Int32)), (0, .ref (b + 0)), (1, .int a1)]) hok rfl (by decide) rfl dX11_lookedAll_3 ?_
  refine T_sub (lv' := [(0, .ref (b + 0)), (1, .int a1), (2, .int (0 : Int32)), (3, .int (0 : Int32))]) [2, 3, 1, 0] rfl ?_
  refine T_fix2 _ (fun (x1 : Int32) (x2 : Int32) => [(0, .ref (b + 0)), (1, .int a1), (2, .int x1), (3, .int x2)]) (fun (x1 : Int32) (x2 : Int32) => Rg G b Lm (Rm b) I J) ?_ FU (0 : Int32) (0 : Int32)
  intro r4 hr4 x1 x2
  refine T_iload_n hok 3 rfl rfl dX11_lookedAll_4 ?_
  refine T_aload_n hok 0 rfl rfl dX11_lookedAll_5 ?_
  refine T_getI hok fr_X11_234 lm_0 dX11_lookedAll_6 ?_
  refine T_icmp_ge (tgt := 32) hok dX11_lookedAll_9 rfl ?_ ?_
  · refine T_iload_n hok 2 rfl rfl dX11_lookedAll_32 ?_
    exact T_iret hok dX11_lookedAll_33 (Nat.zero_le _) (Nat.zero_le _) rfl
  refine T_iload_n hok 2 rfl rfl dX11_lookedAll_12 ?_
  refine T_aload_n hok 0 rfl rfl dX11_lookedAll_13 ?_
  refine T_getR hok fr_X11_100 lm_0 rm_0_55 dX11_lookedAll_14 ?_
  refine T_bipush hok bp_6 dX11_lookedAll_17 ?_
  refine T_iload_n hok 1 rfl rfl dX11_lookedAll_19 ?_
  refine T_imul hok dX11_lookedAll_20 ?_
  refine T_iload_n hok 3 rfl rfl dX11_lookedAll_21 ?_
  refine T_iadd hok dX11_lookedAll_22 ?_
  refine T_iald hok lm_29 dX11_lookedAll_23 ?_
  refine T_iadd hok dX11_lookedAll_24 ?_
  refine T_lti ?_
  intro x3
  refine T_istore_n (lv' := [(2, .int x3), (0, .ref (b + 0)), (1, .int a1), (3, .int x2)]) hok rfl (by decide) rfl dX11_lookedAll_25 ?_
  refine T_iinc (lvs := fun x4 => [(3, .int x4), (2, .int x3), (0, .ref (b + 0)), (1, .int a1)]) hok 3 rfl ic_1 (by decide) (fun _ => rfl) dX11_lookedAll_26 ?_
  intro x4
  refine T_goto (tgt := 4) hok dX11_lookedAll_29 rfl ?_
  refine T_sub (lv' := [(0, .ref (b + 0)), (1, .int a1), (2, .int x3), (3, .int x4)]) [2, 3, 1, 0] rfl ?_
  exact hr4 x3 x4

set_option maxHeartbeats 4000000 in
set_option maxRecDepth 100000 in
theorem ct_X11_hasOf {G : Gx} {l0 : Launch} {A : Nat → Prop} {b : Nat} (hA : ∀ k, k < Lm.length → A (b + k)) (I : MI) (J : MJ) (a1 : Int32) (a2 : Int32) : Ct G l0 A yX11_hasOf cX11_hasOf 3 (some .int) { frames := 0, cells := 0, slots := 0, locals := 0 } [.ref (b + 0), .int a1, .int a2] (Rg G b Lm (Rm b) I J) (ii0 (Rg G b Lm (Rm b) I J)) (f_X11_hasOf I a1 a2) := by
  refine Ct.of rfl (Nat.le_of_ble_eq_true rfl) ?_
  intro X hok
  replace hok : Ok G l0 X RX11 cX11_hasOf 3 { frames := 0, cells := 0, slots := 0, locals := 0 } (some .int) := hok
  delta f_X11_hasOf
  show T X A (Zm X A (ii0 (Rg G b Lm (Rm b) I J))) 3 0 0 0 [(0, .ref (b + 0)), (1, .int a1), (2, .int a2)] [] (Rg G b Lm (Rm b) I J) _
  refine T_aload_n hok 0 rfl rfl dX11_hasOf_0 ?_
  refine T_getR hok fr_X11_91 lm_0 rm_0_52 dX11_hasOf_1 ?_
  refine T_bipush hok bp_6 dX11_hasOf_4 ?_
  refine T_iload_n hok 1 rfl rfl dX11_hasOf_6 ?_
  refine T_imul hok dX11_hasOf_7 ?_
  refine T_iload_n hok 2 rfl rfl dX11_hasOf_8 ?_
  refine T_iadd hok dX11_hasOf_9 ?_
  refine T_iald hok lm_26 dX11_hasOf_10 ?_
  refine T_aload_n hok 0 rfl rfl dX11_hasOf_11 ?_
  refine T_getR hok fr_X11_94 lm_0 rm_0_53 dX11_hasOf_12 ?_
  refine T_bipush hok bp_6 dX11_hasOf_15 ?_
  refine T_iload_n hok 1 rfl rfl dX11_hasOf_17 ?_
  refine T_imul hok dX11_hasOf_18 ?_
  refine T_iload_n hok 2 rfl rfl dX11_hasOf_19 ?_
  refine T_iadd hok dX11_hasOf_20 ?_
  refine T_iald hok lm_27 dX11_hasOf_21 ?_
  refine T_isub hok dX11_hasOf_22 ?_
  exact T_iret hok dX11_hasOf_23 (Nat.zero_le _) (Nat.zero_le _) rfl

set_option maxHeartbeats 4000000 in
set_option maxRecDepth 100000 in
theorem ct_X11_fails {G : Gx} {l0 : Launch} {A : Nat → Prop} {b : Nat} (hA : ∀ k, k < Lm.length → A (b + k)) (I : MI) (J : MJ) (a1 : Int32) : Ct G l0 A yX11_fails cX11_fails 2 (some .int) { frames := 0, cells := 0, slots := 0, locals := 0 } [.ref (b + 0), .int a1] (Rg G b Lm (Rm b) I J) (ii1 (fun (I' : MI) => Rg G b Lm (Rm b) I' J)) (f_X11_fails I a1) := by
  refine Ct.of rfl (Nat.le_of_ble_eq_true rfl) ?_
  intro X hok
  replace hok : Ok G l0 X RX11 cX11_fails 2 { frames := 0, cells := 0, slots := 0, locals := 0 } (some .int) := hok
  delta f_X11_fails
  show T X A (Zm X A (ii1 (fun (I' : MI) => Rg G b Lm (Rm b) I' J))) 2 0 0 0 [(0, .ref (b + 0)), (1, .int a1)] [] (Rg G b Lm (Rm b) I J) _
  refine T_aload_n hok 0 rfl rfl dX11_fails_0 ?_
  refine T_iload_n hok 1 rfl rfl dX11_fails_1 ?_
  refine T_putI hok hA fr_X11_151 rfl rfl lm_0 dX11_fails_2 ?_
  intro I1
  refine T_iconst hok ic_0 dX11_fails_5 ?_
  exact T_iret hok dX11_fails_6 (Nat.zero_le _) (Nat.zero_le _) rfl

set_option maxHeartbeats 4000000 in
set_option maxRecDepth 100000 in
theorem ct_X11_house {G : Gx} {l0 : Launch} {A : Nat → Prop} {b : Nat} (hA : ∀ k, k < Lm.length → A (b + k)) (I : MI) (J : MJ) (a1 : Int32) (a2 : Int32) : Ct G l0 A yX11_house cX11_house 3 (some .int) { frames := 1, cells := 0, slots := 0, locals := 21 } [.ref (b + 0), .int a1, .int a2] (Rg G b Lm (Rm b) I J) (ii1 (fun (I' : MI) => Rg G b Lm (Rm b) I' J)) (f_X11_house I a1 a2) := by
  refine Ct.of rfl (Nat.le_of_ble_eq_true rfl) ?_
  intro X hok
  replace hok : Ok G l0 X RX11 cX11_house 3 { frames := 1, cells := 0, slots := 0, locals := 21 } (some .int) := hok
  delta f_X11_house
  show T X A (Zm X A (ii1 (fun (I' : MI) => Rg G b Lm (Rm b) I' J))) 3 0 0 0 [(0, .ref (b + 0)), (1, .int a1), (2, .int a2)] [] (Rg G b Lm (Rm b) I J) _
  refine T_aload_n hok 0 rfl rfl dX11_house_0 ?_
  refine T_iconst hok ic_0 dX11_house_1 ?_
  refine T_putI hok hA fr_X11_151 rfl rfl lm_0 dX11_house_2 ?_
  intro I1
  refine T_aload_n hok 0 rfl rfl dX11_house_5 ?_
  refine T_iload_n hok 1 rfl rfl dX11_house_6 ?_
  refine T_cz0 (CR_V (rest := []) hok (ct_X11_isHouse hA I1 J a1) mw_X11_isHouse mv_X11_isHouse ml_X11_443 lm_0 dX11_house_7 rfl rfl (roomOk rfl) rfl) rfl rfl ?_
  intro x2
  refine T_ifb_ne (tgt := 19) hok dX11_house_10 rfl ?_ ?_
  · refine T_iload_n hok 2 rfl rfl dX11_house_19 ?_
    refine T_swc (fun hx0 => ?_) (fun hx0 => ?_)
    · refine T_tin (tgt := 64) hok hx0 dX11_house_20 (by decide) (by decide) rfl rfl ?_
      refine T_aload_n hok 0 rfl rfl dX11_house_64 ?_
      refine T_getR hok fr_X11_91 lm_0 rm_0_52 dX11_house_65 ?_
      refine T_iload_n hok 1 rfl rfl dX11_house_68 ?_
      refine T_iald hok lm_26 dX11_house_69 ?_
      exact T_iret hok dX11_house_70 (Nat.zero_le _) (Nat.zero_le _) rfl
    refine T_swc (fun hx1 => ?_) (fun hx1 => ?_)
    · refine T_tin (tgt := 71) hok hx1 dX11_house_20 (by decide) (by decide) rfl rfl ?_
      refine T_aload_n hok 0 rfl rfl dX11_house_71 ?_
      refine T_getR hok fr_X11_94 lm_0 rm_0_53 dX11_house_72 ?_
      refine T_iload_n hok 1 rfl rfl dX11_house_75 ?_
      refine T_iald hok lm_27 dX11_house_76 ?_
      exact T_iret hok dX11_house_77 (Nat.zero_le _) (Nat.zero_le _) rfl
    refine T_swc (fun hx2 => ?_) (fun hx2 => ?_)
    · refine T_tin (tgt := 78) hok hx2 dX11_house_20 (by decide) (by decide) rfl rfl ?_
      refine T_aload_n hok 0 rfl rfl dX11_house_78 ?_
      refine T_getR hok fr_X11_97 lm_0 rm_0_54 dX11_house_79 ?_
      refine T_iload_n hok 1 rfl rfl dX11_house_82 ?_
      refine T_iald hok lm_28 dX11_house_83 ?_
      exact T_iret hok dX11_house_84 (Nat.zero_le _) (Nat.zero_le _) rfl
    refine T_swc (fun hx3 => ?_) (fun hx3 => ?_)
    · refine T_tin (tgt := 85) hok hx3 dX11_house_20 (by decide) (by decide) rfl rfl ?_
      refine T_aload_n hok 0 rfl rfl dX11_house_85 ?_
      refine T_getR hok fr_X11_42 lm_0 rm_0_29 dX11_house_86 ?_
      refine T_iload_n hok 1 rfl rfl dX11_house_89 ?_
      refine T_iald hok lm_10 dX11_house_90 ?_
      exact T_iret hok dX11_house_91 (Nat.zero_le _) (Nat.zero_le _) rfl
    refine T_swc (fun hx4 => ?_) (fun hx4 => ?_)
    · refine T_tin (tgt := 92) hok hx4 dX11_house_20 (by decide) (by decide) rfl rfl ?_
      refine T_aload_n hok 0 rfl rfl dX11_house_92 ?_
      refine T_getR hok fr_X11_100 lm_0 rm_0_55 dX11_house_93 ?_
      refine T_iload_n hok 1 rfl rfl dX11_house_96 ?_
      refine T_iald hok lm_29 dX11_house_97 ?_
      exact T_iret hok dX11_house_98 (Nat.zero_le _) (Nat.zero_le _) rfl
    refine T_swc (fun hx5 => ?_) (fun hx5 => ?_)
    · refine T_tin (tgt := 99) hok hx5 dX11_house_20 (by decide) (by decide) rfl rfl ?_
      refine T_aload_n hok 0 rfl rfl dX11_house_99 ?_
      refine T_getR hok fr_X11_106 lm_0 rm_0_57 dX11_house_100 ?_
      refine T_iconst hok ic_0 dX11_house_103 ?_
      refine T_iald hok lm_31 dX11_house_104 ?_
      refine T_iload_n hok 1 rfl rfl dX11_house_105 ?_
      refine T_ishr hok dX11_house_106 ?_
      refine T_iconst hok ic_1 dX11_house_107 ?_
      refine T_iand hok dX11_house_108 ?_
      exact T_iret hok dX11_house_109 (Nat.zero_le _) (Nat.zero_le _) rfl
    refine T_swc (fun hx6 => ?_) (fun hx6 => ?_)
    · refine T_tin (tgt := 110) hok hx6 dX11_house_20 (by decide) (by decide) rfl rfl ?_
      refine T_aload_n hok 0 rfl rfl dX11_house_110 ?_
      refine T_getR hok fr_X11_109 lm_0 rm_0_58 dX11_house_111 ?_
      refine T_iconst hok ic_0 dX11_house_114 ?_
      refine T_iald hok lm_32 dX11_house_115 ?_
      refine T_iload_n hok 1 rfl rfl dX11_house_116 ?_
      refine T_ishr hok dX11_house_117 ?_
      refine T_iconst hok ic_1 dX11_house_118 ?_
      refine T_iand hok dX11_house_119 ?_
      exact T_iret hok dX11_house_120 (Nat.zero_le _) (Nat.zero_le _) rfl
    refine T_swd ?_
    have nhx0 := toInt_ne (n := 0) rfl hx0
    have nhx1 := toInt_ne (n := 1) rfl hx1
    have nhx2 := toInt_ne (n := 2) rfl hx2
    have nhx3 := toInt_ne (n := 3) rfl hx3
    have nhx4 := toInt_ne (n := 4) rfl hx4
    have nhx5 := toInt_ne (n := 5) rfl hx5
    have nhx6 := toInt_ne (n := 6) rfl hx6
    refine T_tdf (tgt := 121) (n := 7) hok dX11_house_20 rfl (fun j hj he => ?_) rfl ?_
    · rcases (show j = 0 ∨ j = 1 ∨ j = 2 ∨ j = 3 ∨ j = 4 ∨ j = 5 ∨ j = 6 by omega) with rfl | rfl | rfl | rfl | rfl | rfl | rfl <;> first | rfl | (exfalso; omega)
    refine T_aload_n hok 0 rfl rfl dX11_house_121 ?_
    refine T_iconst hok ic_2 dX11_house_122 ?_
    refine T_ci1 (CR_V (rest := []) hok (ct_X11_fails hA I1 J (2 : Int32)) mw_X11_fails mv_X11_fails ml_X11_446 lm_0 dX11_house_123 rfl rfl (roomOk rfl) rfl) rfl rfl ?_
    intro x3 I4
    exact T_iret hok dX11_house_126 (Nat.zero_le _) (Nat.zero_le _) rfl
  refine T_aload_n hok 0 rfl rfl dX11_house_13 ?_
  refine T_iconst hok ic_1 dX11_house_14 ?_
  refine T_ci1 (CR_V (rest := []) hok (ct_X11_fails hA I1 J (1 : Int32)) mw_X11_fails mv_X11_fails ml_X11_446 lm_0 dX11_house_15 rfl rfl (roomOk rfl) rfl) rfl rfl ?_
  intro x5 I6
  exact T_iret hok dX11_house_18 (Nat.zero_le _) (Nat.zero_le _) rfl

set_option maxHeartbeats 4000000 in
set_option maxRecDepth 100000 in
theorem ct_X11_kind {G : Gx} {l0 : Launch} {A : Nat → Prop} {b : Nat} (hA : ∀ k, k < Lm.length → A (b + k)) (I : MI) (J : MJ) (a1 : Int32) (a2 : Int32) : Ct G l0 A yX11_kind cX11_kind 3 (some .int) { frames := 1, cells := 0, slots := 0, locals := 21 } [.ref (b + 0), .int a1, .int a2] (Rg G b Lm (Rm b) I J) (ii1 (fun (I' : MI) => Rg G b Lm (Rm b) I' J)) (f_X11_kind I a1 a2) := by
  refine Ct.of rfl (Nat.le_of_ble_eq_true rfl) ?_
  intro X hok
  replace hok : Ok G l0 X RX11 cX11_kind 3 { frames := 1, cells := 0, slots := 0, locals := 21 } (some .int) := hok
  delta f_X11_kind
  show T X A (Zm X A (ii1 (fun (I' : MI) => Rg G b Lm (Rm b) I' J))) 3 0 0 0 [(0, .ref (b + 0)), (1, .int a1), (2, .int a2)] [] (Rg G b Lm (Rm b) I J) _
  refine T_aload_n hok 0 rfl rfl dX11_kind_0 ?_
  refine T_iconst hok ic_0 dX11_kind_1 ?_
  refine T_putI hok hA fr_X11_151 rfl rfl lm_0 dX11_kind_2 ?_
  intro I1
  refine T_aload_n hok 0 rfl rfl dX11_kind_5 ?_
  refine T_iload_n hok 1 rfl rfl dX11_kind_6 ?_
  refine T_cz0 (CR_V (rest := []) hok (ct_X11_isKind hA I1 J a1) mw_X11_isKind mv_X11_isKind ml_X11_449 lm_0 dX11_kind_7 rfl rfl (roomOk rfl) rfl) rfl rfl ?_
  intro x2
  refine T_ifb_ne (tgt := 15) hok dX11_kind_10 rfl ?_ ?_
  · refine T_iload_n hok 2 rfl rfl dX11_kind_15 ?_
    refine T_jp _ (fun (j57 : Int32 → Option (Int32 × MI)) => ∀ (x3 : Int32), T X A (Zm X A (ii1 (fun (I' : MI) => Rg G b Lm (Rm b) I' J))) 3 0 0 57 [] [.int x3] (Rg G b Lm (Rm b) I1 J) (j57 x3)) _ ?_ ?_
    · intro x3
      exact T_iret hok dX11_kind_57 (Nat.zero_le _) (Nat.zero_le _) rfl
    intro j57 hj57
    refine T_if_ne (tgt := 28) hok dX11_kind_16 rfl ?_ ?_
    · refine T_aload_n hok 0 rfl rfl dX11_kind_19 ?_
      refine T_getR hok fr_X11_30 lm_0 rm_0_25 dX11_kind_20 ?_
      refine T_iload_n hok 1 rfl rfl dX11_kind_23 ?_
      refine T_iald hok lm_6 dX11_kind_24 ?_
      refine T_goto (tgt := 57) hok dX11_kind_25 rfl ?_
      refine T_sub (lv' := []) [] rfl ?_
      exact hj57 (I1 6 (ix a1))
    refine T_iload_n hok 2 rfl rfl dX11_kind_28 ?_
    refine T_iconst hok ic_1 dX11_kind_29 ?_
    refine T_icmp_ne (tgt := 42) hok dX11_kind_30 rfl ?_ ?_
    · refine T_aload_n hok 0 rfl rfl dX11_kind_33 ?_
      refine T_getR hok fr_X11_33 lm_0 rm_0_26 dX11_kind_34 ?_
      refine T_iload_n hok 1 rfl rfl dX11_kind_37 ?_
      refine T_iald hok lm_7 dX11_kind_38 ?_
      refine T_goto (tgt := 57) hok dX11_kind_39 rfl ?_
      refine T_sub (lv' := []) [] rfl ?_
      exact hj57 (I1 7 (ix a1))
    refine T_iload_n hok 2 rfl rfl dX11_kind_42 ?_
    refine T_iconst hok ic_2 dX11_kind_43 ?_
    refine T_icmp_ne (tgt := 56) hok dX11_kind_44 rfl ?_ ?_
    · refine T_aload_n hok 0 rfl rfl dX11_kind_47 ?_
      refine T_getR hok fr_X11_103 lm_0 rm_0_56 dX11_kind_48 ?_
      refine T_iload_n hok 1 rfl rfl dX11_kind_51 ?_
      refine T_iald hok lm_30 dX11_kind_52 ?_
      refine T_goto (tgt := 57) hok dX11_kind_53 rfl ?_
      refine T_sub (lv' := []) [] rfl ?_
      exact hj57 (I1 30 (ix a1))
    refine T_iconst hok ic_m1 dX11_kind_56 ?_
    refine T_sub (lv' := []) [] rfl ?_
    exact hj57 (-1 : Int32)
  refine T_iconst hok ic_m1 dX11_kind_13 ?_
  exact T_iret hok dX11_kind_14 (Nat.zero_le _) (Nat.zero_le _) rfl

set_option maxHeartbeats 4000000 in
set_option maxRecDepth 100000 in
theorem ct_X11_weatherIn {G : Gx} {l0 : Launch} {A : Nat → Prop} {b : Nat} (hA : ∀ k, k < Lm.length → A (b + k)) (I : MI) (J : MJ) (a1 : Int32) : Ct G l0 A yX11_weatherIn cX11_weatherIn 3 (some .int) { frames := 1, cells := 0, slots := 0, locals := 24 } [.ref (b + 0), .int a1] (Rg G b Lm (Rm b) I J) (ii0 (Rg G b Lm (Rm b) I J)) (f_X11_weatherIn I a1) := by
  refine Ct.of rfl (Nat.le_of_ble_eq_true rfl) ?_
  intro X hok
  replace hok : Ok G l0 X RX11 cX11_weatherIn 3 { frames := 1, cells := 0, slots := 0, locals := 24 } (some .int) := hok
  delta f_X11_weatherIn
  show T X A (Zm X A (ii0 (Rg G b Lm (Rm b) I J))) 3 0 0 0 [(0, .ref (b + 0)), (1, .int a1)] [] (Rg G b Lm (Rm b) I J) _
  refine T_iload_n hok 1 rfl rfl dX11_weatherIn_0 ?_
  refine T_jp _ (fun (j20 : Option (Int32)) => T X A (Zm X A (ii0 (Rg G b Lm (Rm b) I J))) 3 0 0 20 [(0, .ref (b + 0)), (1, .int a1)] [] (Rg G b Lm (Rm b) I J) (j20)) _ ?_ ?_
  · skip
    refine T_aload_n hok 0 rfl rfl dX11_weatherIn_20 ?_
    refine T_getR hok fr_X11_48 lm_0 rm_0_31 dX11_weatherIn_21 ?_
    refine T_iconst hok ic_0 dX11_weatherIn_24 ?_
    refine T_aload_n hok 0 rfl rfl dX11_weatherIn_25 ?_
    refine T_getI hok fr_X11_237 lm_0 dX11_weatherIn_26 ?_
    refine T_aload_n hok 0 rfl rfl dX11_weatherIn_29 ?_
    refine T_getR hok fr_X11_118 lm_0 rm_0_61 dX11_weatherIn_30 ?_
    refine T_iconst hok ic_0 dX11_weatherIn_33 ?_
    refine T_iald hok lm_35 dX11_weatherIn_34 ?_
    refine T_iload_n hok 1 rfl rfl dX11_weatherIn_35 ?_
    refine T_iadd hok dX11_weatherIn_36 ?_
    refine T_ci0 (CR_S (rest := []) hok (ct_X11_find hA lm_12 I J (0 : Int32) (I 0 14) ((I 35 (ix (0 : Int32))) + a1)) mw_X11_find mst_X11_find ml_X11_253 dX11_weatherIn_37 rfl rfl (roomOk rfl) rfl) rfl rfl ?_
    intro x1
    refine T_istore_n (lv' := [(2, .int x1), (0, .ref (b + 0)), (1, .int a1)]) hok rfl (by decide) rfl dX11_weatherIn_40 ?_
    refine T_iload_n hok 0 rfl rfl dX11_weatherIn_41 ?_
    refine T_jp _ (fun (j58 : Int32 → Option (Int32)) => ∀ (x2 : Int32), T X A (Zm X A (ii0 (Rg G b Lm (Rm b) I J))) 3 0 0 58 [] [.int x2] (Rg G b Lm (Rm b) I J) (j58 x2)) _ ?_ ?_
    · intro x2
      exact T_iret hok dX11_weatherIn_58 (Nat.zero_le _) (Nat.zero_le _) rfl
    intro j58 hj58
    refine T_if_lt (tgt := 54) hok dX11_weatherIn_42 rfl ?_ ?_
    · refine T_aload_n hok 1 rfl rfl dX11_weatherIn_54 ?_
      refine T_ci0 (CR_V (rest := []) hok (ct_X11_heaviest hA I J) mw_X11_heaviest mv_X11_heaviest ml_X11_407 lm_0 dX11_weatherIn_55 rfl rfl (roomOk rfl) rfl) rfl rfl ?_
      intro x3
      refine T_sub (lv' := []) [] rfl ?_
      exact hj58 x3
    refine T_aload_n hok 1 rfl rfl dX11_weatherIn_45 ?_
    refine T_getR hok fr_X11_51 lm_0 rm_0_32 dX11_weatherIn_46 ?_
    refine T_iload_n hok 0 rfl rfl dX11_weatherIn_49 ?_
    refine T_iald hok lm_13 dX11_weatherIn_50 ?_
    refine T_goto (tgt := 58) hok dX11_weatherIn_51 rfl ?_
    refine T_sub (lv' := []) [] rfl ?_
    exact hj58 (I 13 (ix x1))
  intro j20 hj20
  refine T_if_ne (tgt := 20) hok dX11_weatherIn_1 rfl ?_ ?_
  · refine T_aload_n hok 0 rfl rfl dX11_weatherIn_4 ?_
    refine T_getR hok fr_X11_112 lm_0 rm_0_59 dX11_weatherIn_5 ?_
    refine T_iconst hok ic_0 dX11_weatherIn_8 ?_
    refine T_iald hok lm_33 dX11_weatherIn_9 ?_
    refine T_if_lt (tgt := 20) hok dX11_weatherIn_10 rfl ?_ ?_
    · exact hj20
    refine T_aload_n hok 0 rfl rfl dX11_weatherIn_13 ?_
    refine T_getR hok fr_X11_112 lm_0 rm_0_59 dX11_weatherIn_14 ?_
    refine T_iconst hok ic_0 dX11_weatherIn_17 ?_
    refine T_iald hok lm_33 dX11_weatherIn_18 ?_
    exact T_iret hok dX11_weatherIn_19 (Nat.zero_le _) (Nat.zero_le _) rfl
  exact hj20

set_option maxHeartbeats 4000000 in
set_option maxRecDepth 100000 in
theorem ct_X11_weather {G : Gx} {l0 : Launch} {A : Nat → Prop} {b : Nat} (hA : ∀ k, k < Lm.length → A (b + k)) (I : MI) (J : MJ) (a1 : Int32) : Ct G l0 A yX11_weather cX11_weather 3 (some .int) { frames := 2, cells := 0, slots := 0, locals := 46 } [.ref (b + 0), .int a1] (Rg G b Lm (Rm b) I J) (ii1 (fun (I' : MI) => Rg G b Lm (Rm b) I' J)) (f_X11_weather I a1) := by
  refine Ct.of rfl (Nat.le_of_ble_eq_true rfl) ?_
  intro X hok
  replace hok : Ok G l0 X RX11 cX11_weather 3 { frames := 2, cells := 0, slots := 0, locals := 46 } (some .int) := hok
  delta f_X11_weather
  show T X A (Zm X A (ii1 (fun (I' : MI) => Rg G b Lm (Rm b) I' J))) 3 0 0 0 [(0, .ref (b + 0)), (1, .int a1)] [] (Rg G b Lm (Rm b) I J) _
  refine T_aload_n hok 0 rfl rfl dX11_weather_0 ?_
  refine T_iconst hok ic_0 dX11_weather_1 ?_
  refine T_putI hok hA fr_X11_151 rfl rfl lm_0 dX11_weather_2 ?_
  intro I1
  refine T_iload_n hok 1 rfl rfl dX11_weather_5 ?_
  refine T_iconst hok ic_0 dX11_weather_6 ?_
  refine T_sipush hok sp_200 dX11_weather_7 ?_
  refine T_cz0 (CR_S (rest := []) hok (ct_X11_isIn a1 (0 : Int32) (200 : Int32)) mw_X11_isIn mst_X11_isIn ml_X11_196 dX11_weather_10 rfl rfl (roomOk rfl) rfl) rfl rfl ?_
  intro x2
  refine T_ifb_ne (tgt := 18) hok dX11_weather_13 rfl ?_ ?_
  · refine T_aload_n hok 0 rfl rfl dX11_weather_18 ?_
    refine T_iload_n hok 1 rfl rfl dX11_weather_19 ?_
    refine T_ci0 (CR_V (rest := []) hok (ct_X11_weatherIn hA I1 J a1) mw_X11_weatherIn mv_X11_weatherIn ml_X11_452 lm_0 dX11_weather_20 rfl rfl (roomOk rfl) rfl) rfl rfl ?_
    intro x3
    refine T_istore_n (lv' := [(2, .int x3), (0, .ref (b + 0)), (1, .int a1)]) hok rfl (by decide) rfl dX11_weather_23 ?_
    refine T_iload_n hok 0 rfl rfl dX11_weather_24 ?_
    refine T_jp _ (fun (j34 : Int32 → Option (Int32 × MI)) => ∀ (x4 : Int32), T X A (Zm X A (ii1 (fun (I' : MI) => Rg G b Lm (Rm b) I' J))) 3 0 0 34 [] [.int x4] (Rg G b Lm (Rm b) I1 J) (j34 x4)) _ ?_ ?_
    · intro x4
      exact T_iret hok dX11_weather_34 (Nat.zero_le _) (Nat.zero_le _) rfl
    intro j34 hj34
    refine T_if_ge (tgt := 33) hok dX11_weather_25 rfl ?_ ?_
    · refine T_iload_n hok 0 rfl rfl dX11_weather_33 ?_
      refine T_sub (lv' := []) [] rfl ?_
      exact hj34 x3
    refine T_bipush hok bp_m2 dX11_weather_28 ?_
    refine T_goto (tgt := 34) hok dX11_weather_30 rfl ?_
    refine T_sub (lv' := []) [] rfl ?_
    exact hj34 (-2 : Int32)
  refine T_iconst hok ic_m1 dX11_weather_16 ?_
  exact T_iret hok dX11_weather_17 (Nat.zero_le _) (Nat.zero_le _) rfl

set_option maxHeartbeats 4000000 in
set_option maxRecDepth 100000 in
theorem ct_X11_law {G : Gx} {l0 : Launch} {A : Nat → Prop} {b : Nat} (hA : ∀ k, k < Lm.length → A (b + k)) (I : MI) (J : MJ) (a1 : Int32) (a2 : Int32) (a3 : Int32) : Ct G l0 A yX11_law cX11_law 6 (some .long) { frames := 3, cells := 0, slots := 0, locals := 72 } [.ref (b + 0), .int a1, .int a2, .int a3] (Rg G b Lm (Rm b) I J) (il2 (fun (I' : MI) (J' : MJ) => Rg G b Lm (Rm b) I' J')) (f_X11_law I J a1 a2 a3) := by
  refine Ct.of rfl (Nat.le_of_ble_eq_true rfl) ?_
  intro X hok
  replace hok : Ok G l0 X RX11 cX11_law 6 { frames := 3, cells := 0, slots := 0, locals := 72 } (some .long) := hok
  delta f_X11_law
  show T X A (Zm X A (il2 (fun (I' : MI) (J' : MJ) => Rg G b Lm (Rm b) I' J'))) 6 0 0 0 [(0, .ref (b + 0)), (1, .int a1), (2, .int a2), (3, .int a3)] [] (Rg G b Lm (Rm b) I J) _
  refine T_aload_n hok 0 rfl rfl dX11_law_0 ?_
  refine T_iconst hok ic_0 dX11_law_1 ?_
  refine T_putI hok hA fr_X11_151 rfl rfl lm_0 dX11_law_2 ?_
  intro I1
  refine T_iload_n hok 1 rfl rfl dX11_law_5 ?_
  refine T_iconst hok ic_0 dX11_law_6 ?_
  refine T_iconst hok ic_2 dX11_law_7 ?_
  refine T_cz0 (CR_S (rest := []) hok (ct_X11_isIn a1 (0 : Int32) (2 : Int32)) mw_X11_isIn mst_X11_isIn ml_X11_196 dX11_law_8 rfl rfl (roomOk rfl) rfl) rfl rfl ?_
  intro x2
  refine T_jp _ (fun (j39 : Option (Int64 × MI × MJ)) => T X A (Zm X A (il2 (fun (I' : MI) (J' : MJ) => Rg G b Lm (Rm b) I' J'))) 6 0 0 39 [] [] (Rg G b Lm (Rm b) I1 J) (j39)) _ ?_ ?_
  · skip
    refine T_ldc2 hok lk_X11_455 dX11_law_39 ?_
    exact T_lret hok dX11_law_42 (Nat.zero_le _) (Nat.zero_le _) rfl
  intro j39 hj39
  refine T_ifb_eq (tgt := 39) hok dX11_law_11 rfl ?_ ?_
  · refine T_aload_n hok 0 rfl rfl dX11_law_14 ?_
    refine T_getR hok fr_X11_60 lm_0 rm_0_35 dX11_law_15 ?_
    refine T_iload_n hok 1 rfl rfl dX11_law_18 ?_
    refine T_zald hok lm_16 dX11_law_19 ?_
    refine T_if_eq (tgt := 39) hok dX11_law_20 rfl ?_ ?_
    · refine T_sub (lv' := []) [] rfl ?_
      exact hj39
    refine T_aload_n hok 0 rfl rfl dX11_law_23 ?_
    refine T_iload_n hok 2 rfl rfl dX11_law_24 ?_
    refine T_cz0 (CR_V (rest := []) hok (ct_X11_isHouse hA I1 J a2) mw_X11_isHouse mv_X11_isHouse ml_X11_443 lm_0 dX11_law_25 rfl rfl (roomOk rfl) rfl) rfl rfl ?_
    intro x3
    refine T_ifb_eq (tgt := 39) hok dX11_law_28 rfl ?_ ?_
    · refine T_aload_n hok 0 rfl rfl dX11_law_31 ?_
      refine T_iload_n hok 3 rfl rfl dX11_law_32 ?_
      refine T_cz0 (CR_V (rest := []) hok (ct_X11_isKind hA I1 J a3) mw_X11_isKind mv_X11_isKind ml_X11_449 lm_0 dX11_law_33 rfl rfl (roomOk rfl) rfl) rfl rfl ?_
      intro x4
      refine T_ifb_ne (tgt := 43) hok dX11_law_36 rfl ?_ ?_
      · refine T_aload_n hok 0 rfl rfl dX11_law_43 ?_
        refine T_cv1 (CR_V (rest := []) hok (ct_X11_plainTried hA I1 J) mw_X11_plainTried mv_X11_plainTried ml_X11_359 lm_0 dX11_law_44 rfl rfl (roomOk rfl) rfl) rfl rfl ?_
        intro I5
        refine T_aload_n hok 0 rfl rfl dX11_law_47 ?_
        refine T_iconst hok ic_0 dX11_law_48 ?_
        refine T_iload_n hok 2 rfl rfl dX11_law_49 ?_
        refine T_iload_n hok 3 rfl rfl dX11_law_50 ?_
        refine T_cv1 (CR_V (rest := []) hok (ct_X11_lay hA I5 J (0 : Int32) a2 a3) mw_X11_lay mv_X11_lay ml_X11_416 lm_0 dX11_law_51 rfl rfl (roomOk rfl) rfl) rfl rfl ?_
        intro J6
        refine T_aload_n hok 0 rfl rfl dX11_law_54 ?_
        refine T_iload_n hok 1 rfl rfl dX11_law_55 ?_
        refine T_cl2 (CR_V (rest := []) hok (ct_X11_lawOf hA I5 J6 a1) mw_X11_lawOf mv_X11_lawOf ml_X11_393 lm_0 dX11_law_56 rfl rfl (roomOk rfl) rfl) rfl rfl ?_
        intro x7 I8 J9
        refine T_lstore (lv' := [(4, .long x7), (0, .ref (b + 0)), (1, .int a1), (2, .int a2), (3, .int a3)]) hok (by decide) rfl dX11_law_59 ?_
        refine T_aload_n hok 1 rfl rfl dX11_law_61 ?_
        refine T_getI hok fr_X11_336 lm_0 dX11_law_62 ?_
        refine T_jp _ (fun (j76 : Int64 → Option (Int64 × MI × MJ)) => ∀ (x10 : Int64), T X A (Zm X A (il2 (fun (I' : MI) (J' : MJ) => Rg G b Lm (Rm b) I' J'))) 6 0 0 76 [] [.long x10] (Rg G b Lm (Rm b) I8 J9) (j76 x10)) _ ?_ ?_
        · intro x10
          exact T_lret hok dX11_law_76 (Nat.zero_le _) (Nat.zero_le _) rfl
        intro j76 hj76
        refine T_if_eq (tgt := 74) hok dX11_law_65 rfl ?_ ?_
        · refine T_lload hok 0 rfl dX11_law_74 ?_
          refine T_sub (lv' := []) [] rfl ?_
          exact hj76 x7
        refine T_ldc2 hok lk_X11_455 dX11_law_68 ?_
        refine T_goto (tgt := 76) hok dX11_law_71 rfl ?_
        refine T_sub (lv' := []) [] rfl ?_
        exact hj76 (-9223372036854775808 : Int64)
      refine T_sub (lv' := []) [] rfl ?_
      exact hj39
    refine T_sub (lv' := []) [] rfl ?_
    exact hj39
  refine T_sub (lv' := []) [] rfl ?_
  exact hj39

set_option maxHeartbeats 4000000 in
set_option maxRecDepth 100000 in
theorem ct_X11_put {G : Gx} {l0 : Launch} {A : Nat → Prop} {b : Nat} {pa na : Nat} (hA : ∀ k, k < Lm.length → A (b + k)) (hpa : Lm[pa]? = some (.inr (0, na))) (I : MI) (J : MJ) (a2 : Int32) : Ct G l0 A yX11_put cX11_put 4 none { frames := 0, cells := 0, slots := 0, locals := 0 } [.ref (b + 0), .ref (b + pa), .int a2] (Rg G b Lm (Rm b) I J) (iv1 (fun (I' : MI) => Rg G b Lm (Rm b) I' J)) (f_X11_put I pa na a2) := by
  refine Ct.of rfl (Nat.le_of_ble_eq_true rfl) ?_
  intro X hok
  replace hok : Ok G l0 X RX11 cX11_put 4 { frames := 0, cells := 0, slots := 0, locals := 0 } none := hok
  delta f_X11_put
  show T X A (Zm X A (iv1 (fun (I' : MI) => Rg G b Lm (Rm b) I' J))) 4 0 0 0 [(0, .ref (b + 0)), (1, .ref (b + pa)), (2, .int a2)] [] (Rg G b Lm (Rm b) I J) _
  refine T_aload_n hok 1 rfl rfl dX11_put_0 ?_
  refine T_iload_n hok 2 rfl rfl dX11_put_1 ?_
  refine T_aload_n hok 0 rfl rfl dX11_put_2 ?_
  refine T_getR hok fr_X11_109 lm_0 rm_0_58 dX11_put_3 ?_
  refine T_iconst hok ic_0 dX11_put_6 ?_
  refine T_iald hok lm_32 dX11_put_7 ?_
  refine T_iast hok hA hpa dX11_put_8 ?_
  intro I1
  refine T_aload_n hok 1 rfl rfl dX11_put_9 ?_
  refine T_iload_n hok 2 rfl rfl dX11_put_10 ?_
  refine T_iconst hok ic_1 dX11_put_11 ?_
  refine T_iadd hok dX11_put_12 ?_
  refine T_aload_n hok 0 rfl rfl dX11_put_13 ?_
  refine T_getR hok fr_X11_112 lm_0 rm_0_59 dX11_put_14 ?_
  refine T_iconst hok ic_0 dX11_put_17 ?_
  refine T_iald hok lm_33 dX11_put_18 ?_
  refine T_iast hok hA hpa dX11_put_19 ?_
  intro I2
  refine T_iconst hok ic_0 dX11_put_20 ?_
  refine T_istore_n (lv' := [(3, .int (0 : Int32)), (0, .ref (b + 0)), (1, .ref (b + pa)), (2, .int a2)]) hok rfl (by decide) rfl dX11_put_21 ?_
  refine T_sub (lv' := [(0, .ref (b + 0)), (1, .ref (b + pa)), (2, .int a2), (3, .int (0 : Int32))]) [1, 2, 3, 0] rfl ?_
  refine T_fix2 _ (fun (x3 : Int32) (I4 : MI) => [(0, .ref (b + 0)), (1, .ref (b + pa)), (2, .int a2), (3, .int x3)]) (fun (x3 : Int32) (I4 : MI) => Rg G b Lm (Rm b) I4 J) ?_ FU (0 : Int32) I2
  intro r22 hr22 x3 I4
  refine T_iload_n hok 3 rfl rfl dX11_put_22 ?_
  refine T_bipush hok bp_6 dX11_put_23 ?_
  refine T_icmp_ge (tgt := 47) hok dX11_put_25 rfl ?_ ?_
  · exact T_vret hok dX11_put_47 (Nat.zero_le _) (Nat.zero_le _) rfl
  refine T_aload_n hok 1 rfl rfl dX11_put_28 ?_
  refine T_iload_n hok 2 rfl rfl dX11_put_29 ?_
  refine T_iconst hok ic_2 dX11_put_30 ?_
  refine T_iadd hok dX11_put_31 ?_
  refine T_iload_n hok 3 rfl rfl dX11_put_32 ?_
  refine T_iadd hok dX11_put_33 ?_
  refine T_aload_n hok 0 rfl rfl dX11_put_34 ?_
  refine T_getR hok fr_X11_91 lm_0 rm_0_52 dX11_put_35 ?_
  refine T_iload_n hok 3 rfl rfl dX11_put_38 ?_
  refine T_iald hok lm_26 dX11_put_39 ?_
  refine T_iast hok hA hpa dX11_put_40 ?_
  intro I5
  refine T_iinc (lvs := fun x6 => [(3, .int x6), (0, .ref (b + 0)), (1, .ref (b + pa)), (2, .int a2)]) hok 3 rfl ic_1 (by decide) (fun _ => rfl) dX11_put_41 ?_
  intro x6
  refine T_goto (tgt := 22) hok dX11_put_44 rfl ?_
  refine T_sub (lv' := [(0, .ref (b + 0)), (1, .ref (b + pa)), (2, .int a2), (3, .int x6)]) [1, 2, 3, 0] rfl ?_
  exact hr22 x6 I5

set_option maxHeartbeats 4000000 in
set_option maxRecDepth 100000 in
theorem ct_X11_remember {G : Gx} {l0 : Launch} {A : Nat → Prop} {b : Nat} (hA : ∀ k, k < Lm.length → A (b + k)) (I : MI) (J : MJ) : Ct G l0 A yX11_remember cX11_remember 2 none { frames := 1, cells := 0, slots := 0, locals := 23 } [.ref (b + 0)] (Rg G b Lm (Rm b) I J) (iv1 (fun (I' : MI) => Rg G b Lm (Rm b) I' J)) (f_X11_remember I) := by
  refine Ct.of rfl (Nat.le_of_ble_eq_true rfl) ?_
  intro X hok
  replace hok : Ok G l0 X RX11 cX11_remember 2 { frames := 1, cells := 0, slots := 0, locals := 23 } none := hok
  delta f_X11_remember
  show T X A (Zm X A (iv1 (fun (I' : MI) => Rg G b Lm (Rm b) I' J))) 2 0 0 0 [(0, .ref (b + 0))] [] (Rg G b Lm (Rm b) I J) _
  refine T_aload_n hok 0 rfl rfl dX11_remember_0 ?_
  refine T_getI hok fr_X11_365 lm_0 dX11_remember_1 ?_
  refine T_bipush hok bp_20 dX11_remember_4 ?_
  refine T_jp _ (fun (j49 : MI → Option (MI)) => ∀ (I1 : MI), T X A (Zm X A (iv1 (fun (I' : MI) => Rg G b Lm (Rm b) I' J))) 2 0 0 49 [(0, .ref (b + 0))] [] (Rg G b Lm (Rm b) I1 J) (j49 I1)) _ ?_ ?_
  · intro I1
    refine T_aload_n hok 0 rfl rfl dX11_remember_49 ?_
    refine T_aload_n hok 0 rfl rfl dX11_remember_50 ?_
    refine T_getR hok fr_X11_136 lm_0 rm_0_75 dX11_remember_51 ?_
    refine T_bipush hok bp_8 dX11_remember_54 ?_
    refine T_aload_n hok 0 rfl rfl dX11_remember_56 ?_
    refine T_getI hok fr_X11_365 lm_0 dX11_remember_57 ?_
    refine T_imul hok dX11_remember_60 ?_
    refine T_cv1 (CR_V (rest := []) hok (ct_X11_put hA lm_40 I1 J ((8 : Int32) * (I1 0 74))) mw_X11_put mv_X11_put ml_X11_538 lm_0 dX11_remember_61 rfl rfl (roomOk rfl) rfl) rfl rfl ?_
    intro I2
    refine T_aload_n hok 0 rfl rfl dX11_remember_64 ?_
    refine T_dup hok rfl dX11_remember_65 ?_
    refine T_getI hok fr_X11_365 lm_0 dX11_remember_66 ?_
    refine T_iconst hok ic_1 dX11_remember_69 ?_
    refine T_iadd hok dX11_remember_70 ?_
    refine T_putI hok hA fr_X11_365 rfl rfl lm_0 dX11_remember_71 ?_
    intro I3
    exact T_vret hok dX11_remember_74 (Nat.zero_le _) (Nat.zero_le _) rfl
  intro j49 hj49
  refine T_icmp_ne (tgt := 49) hok dX11_remember_6 rfl ?_ ?_
  · refine T_iconst hok ic_0 dX11_remember_9 ?_
    refine T_istore_n (lv' := [(1, .int (0 : Int32)), (0, .ref (b + 0))]) hok rfl (by decide) rfl dX11_remember_10 ?_
    refine T_jp _ (fun (j39 : MI → Option (MI)) => ∀ (I4 : MI), T X A (Zm X A (iv1 (fun (I' : MI) => Rg G b Lm (Rm b) I' J))) 2 0 0 39 [(0, .ref (b + 0))] [] (Rg G b Lm (Rm b) I4 J) (j39 I4)) _ ?_ ?_
    · intro I4
      refine T_aload_n hok 0 rfl rfl dX11_remember_39 ?_
      refine T_dup hok rfl dX11_remember_40 ?_
      refine T_getI hok fr_X11_365 lm_0 dX11_remember_41 ?_
      refine T_iconst hok ic_1 dX11_remember_44 ?_
      refine T_isub hok dX11_remember_45 ?_
      refine T_putI hok hA fr_X11_365 rfl rfl lm_0 dX11_remember_46 ?_
      intro I5
      exact hj49 I5
    intro j39 hj39
    refine T_sub (lv' := [(0, .ref (b + 0)), (1, .int (0 : Int32))]) [1, 0] rfl ?_
    refine T_fix2 _ (fun (x6 : Int32) (I7 : MI) => [(0, .ref (b + 0)), (1, .int x6)]) (fun (x6 : Int32) (I7 : MI) => Rg G b Lm (Rm b) I7 J) ?_ FU (0 : Int32) I
    intro r11 hr11 x6 I7
    refine T_iload_n hok 1 rfl rfl dX11_remember_11 ?_
    refine T_sipush hok sp_152 dX11_remember_12 ?_
    refine T_icmp_ge (tgt := 39) hok dX11_remember_15 rfl ?_ ?_
    · refine T_sub (lv' := [(0, .ref (b + 0))]) [0] rfl ?_
      exact hj39 I7
    refine T_aload_n hok 0 rfl rfl dX11_remember_18 ?_
    refine T_getR hok fr_X11_136 lm_0 rm_0_75 dX11_remember_19 ?_
    refine T_iload_n hok 1 rfl rfl dX11_remember_22 ?_
    refine T_aload_n hok 0 rfl rfl dX11_remember_23 ?_
    refine T_getR hok fr_X11_136 lm_0 rm_0_75 dX11_remember_24 ?_
    refine T_iload_n hok 1 rfl rfl dX11_remember_27 ?_
    refine T_bipush hok bp_8 dX11_remember_28 ?_
    refine T_iadd hok dX11_remember_30 ?_
    refine T_iald hok lm_40 dX11_remember_31 ?_
    refine T_iast hok hA lm_40 dX11_remember_32 ?_
    intro I8
    refine T_iinc (lvs := fun x9 => [(1, .int x9), (0, .ref (b + 0))]) hok 1 rfl ic_1 (by decide) (fun _ => rfl) dX11_remember_33 ?_
    intro x9
    refine T_goto (tgt := 11) hok dX11_remember_36 rfl ?_
    refine T_sub (lv' := [(0, .ref (b + 0)), (1, .int x9)]) [1, 0] rfl ?_
    exact hr11 x9 I8
  exact hj49 I

set_option maxHeartbeats 4000000 in
set_option maxRecDepth 100000 in
theorem ct_X11_blind {G : Gx} {l0 : Launch} {A : Nat → Prop} {b : Nat} (hA : ∀ k, k < Lm.length → A (b + k)) (I : MI) (J : MJ) (a1 : Int32) : Ct G l0 A yX11_blind cX11_blind 2 (some .int) { frames := 2, cells := 0, slots := 0, locals := 44 } [.ref (b + 0), .int a1] (Rg G b Lm (Rm b) I J) (ii1 (fun (I' : MI) => Rg G b Lm (Rm b) I' J)) (f_X11_blind I a1) := by
  refine Ct.of rfl (Nat.le_of_ble_eq_true rfl) ?_
  intro X hok
  replace hok : Ok G l0 X RX11 cX11_blind 2 { frames := 2, cells := 0, slots := 0, locals := 44 } (some .int) := hok
  delta f_X11_blind
  show T X A (Zm X A (ii1 (fun (I' : MI) => Rg G b Lm (Rm b) I' J))) 2 0 0 0 [(0, .ref (b + 0)), (1, .int a1)] [] (Rg G b Lm (Rm b) I J) _
  refine T_aload_n hok 0 rfl rfl dX11_blind_0 ?_
  refine T_iconst hok ic_0 dX11_blind_1 ?_
  refine T_putI hok hA fr_X11_151 rfl rfl lm_0 dX11_blind_2 ?_
  intro I1
  refine T_aload_n hok 0 rfl rfl dX11_blind_5 ?_
  refine T_iload_n hok 1 rfl rfl dX11_blind_6 ?_
  refine T_cz0 (CR_V (rest := []) hok (ct_X11_isHouse hA I1 J a1) mw_X11_isHouse mv_X11_isHouse ml_X11_443 lm_0 dX11_blind_7 rfl rfl (roomOk rfl) rfl) rfl rfl ?_
  intro x2
  refine T_ifb_ne (tgt := 15) hok dX11_blind_10 rfl ?_ ?_
  · refine T_aload_n hok 0 rfl rfl dX11_blind_15 ?_
    refine T_cv1 (CR_V (rest := []) hok (ct_X11_remember hA I1 J) mw_X11_remember mv_X11_remember ml_X11_457 lm_0 dX11_blind_16 rfl rfl (roomOk rfl) rfl) rfl rfl ?_
    intro I3
    refine T_aload_n hok 0 rfl rfl dX11_blind_19 ?_
    refine T_getR hok fr_X11_109 lm_0 rm_0_58 dX11_blind_20 ?_
    refine T_iconst hok ic_0 dX11_blind_23 ?_
    refine T_dup2 hok rfl rfl dX11_blind_24 ?_
    refine T_iald hok lm_32 dX11_blind_25 ?_
    refine T_iconst hok ic_1 dX11_blind_26 ?_
    refine T_iload_n hok 1 rfl rfl dX11_blind_27 ?_
    refine T_ishl hok dX11_blind_28 ?_
    refine T_ixor hok dX11_blind_29 ?_
    refine T_iast hok hA lm_32 dX11_blind_30 ?_
    intro I4
    refine T_aload_n hok 0 rfl rfl dX11_blind_31 ?_
    refine T_getR hok fr_X11_109 lm_0 rm_0_58 dX11_blind_32 ?_
    refine T_iconst hok ic_0 dX11_blind_35 ?_
    refine T_iald hok lm_32 dX11_blind_36 ?_
    refine T_iload_n hok 1 rfl rfl dX11_blind_37 ?_
    refine T_ishr hok dX11_blind_38 ?_
    refine T_iconst hok ic_1 dX11_blind_39 ?_
    refine T_iand hok dX11_blind_40 ?_
    exact T_iret hok dX11_blind_41 (Nat.zero_le _) (Nat.zero_le _) rfl
  refine T_iconst hok ic_m1 dX11_blind_13 ?_
  exact T_iret hok dX11_blind_14 (Nat.zero_le _) (Nat.zero_le _) rfl

set_option maxHeartbeats 4000000 in
set_option maxRecDepth 100000 in
theorem ct_X11_send {G : Gx} {l0 : Launch} {A : Nat → Prop} {b : Nat} (hA : ∀ k, k < Lm.length → A (b + k)) (I : MI) (J : MJ) (a1 : Int32) : Ct G l0 A yX11_send cX11_send 2 (some .boolean) { frames := 2, cells := 0, slots := 0, locals := 44 } [.ref (b + 0), .int a1] (Rg G b Lm (Rm b) I J) (iz1 (fun (I' : MI) => Rg G b Lm (Rm b) I' J)) (f_X11_send I a1) := by
  refine Ct.of rfl (Nat.le_of_ble_eq_true rfl) ?_
  intro X hok
  replace hok : Ok G l0 X RX11 cX11_send 2 { frames := 2, cells := 0, slots := 0, locals := 44 } (some .boolean) := hok
  delta f_X11_send
  show T X A (Zm X A (iz1 (fun (I' : MI) => Rg G b Lm (Rm b) I' J))) 2 0 0 0 [(0, .ref (b + 0)), (1, .int a1)] [] (Rg G b Lm (Rm b) I J) _
  refine T_aload_n hok 0 rfl rfl dX11_send_0 ?_
  refine T_iconst hok ic_0 dX11_send_1 ?_
  refine T_putI hok hA fr_X11_151 rfl rfl lm_0 dX11_send_2 ?_
  intro I1
  refine T_aload_n hok 0 rfl rfl dX11_send_5 ?_
  refine T_iload_n hok 1 rfl rfl dX11_send_6 ?_
  refine T_cz0 (CR_V (rest := []) hok (ct_X11_isKind hA I1 J a1) mw_X11_isKind mv_X11_isKind ml_X11_449 lm_0 dX11_send_7 rfl rfl (roomOk rfl) rfl) rfl rfl ?_
  intro x2
  refine T_ifb_ne (tgt := 15) hok dX11_send_10 rfl ?_ ?_
  · refine T_aload_n hok 0 rfl rfl dX11_send_15 ?_
    refine T_cv1 (CR_V (rest := []) hok (ct_X11_remember hA I1 J) mw_X11_remember mv_X11_remember ml_X11_457 lm_0 dX11_send_16 rfl rfl (roomOk rfl) rfl) rfl rfl ?_
    intro I3
    refine T_aload_n hok 0 rfl rfl dX11_send_19 ?_
    refine T_getR hok fr_X11_112 lm_0 rm_0_59 dX11_send_20 ?_
    refine T_iconst hok ic_0 dX11_send_23 ?_
    refine T_iload_n hok 1 rfl rfl dX11_send_24 ?_
    refine T_iast hok hA lm_33 dX11_send_25 ?_
    intro I4
    refine T_iconst hok ic_1 dX11_send_26 ?_
    exact T_zret hok dX11_send_27 (Nat.zero_le _) (Nat.zero_le _) rfl rfl
  refine T_iconst hok ic_0 dX11_send_13 ?_
  exact T_zret hok dX11_send_14 (Nat.zero_le _) (Nat.zero_le _) rfl rfl

set_option maxHeartbeats 4000000 in
set_option maxRecDepth 100000 in
theorem ct_X11_lend {G : Gx} {l0 : Launch} {A : Nat → Prop} {b : Nat} (hA : ∀ k, k < Lm.length → A (b + k)) (I : MI) (J : MJ) (a1 : Int32) (a2 : Int32) (a3 : Int32) : Ct G l0 A yX11_lend cX11_lend 4 (some .int) { frames := 2, cells := 0, slots := 0, locals := 44 } [.ref (b + 0), .int a1, .int a2, .int a3] (Rg G b Lm (Rm b) I J) (ii1 (fun (I' : MI) => Rg G b Lm (Rm b) I' J)) (f_X11_lend I a1 a2 a3) := by
  refine Ct.of rfl (Nat.le_of_ble_eq_true rfl) ?_
  intro X hok
  replace hok : Ok G l0 X RX11 cX11_lend 4 { frames := 2, cells := 0, slots := 0, locals := 44 } (some .int) := hok
  delta f_X11_lend
  show T X A (Zm X A (ii1 (fun (I' : MI) => Rg G b Lm (Rm b) I' J))) 4 0 0 0 [(0, .ref (b + 0)), (1, .int a1), (2, .int a2), (3, .int a3)] [] (Rg G b Lm (Rm b) I J) _
  refine T_aload_n hok 0 rfl rfl dX11_lend_0 ?_
  refine T_iconst hok ic_0 dX11_lend_1 ?_
  refine T_putI hok hA fr_X11_151 rfl rfl lm_0 dX11_lend_2 ?_
  intro I1
  refine T_aload_n hok 0 rfl rfl dX11_lend_5 ?_
  refine T_iload_n hok 1 rfl rfl dX11_lend_6 ?_
  refine T_cz0 (CR_V (rest := []) hok (ct_X11_isHouse hA I1 J a1) mw_X11_isHouse mv_X11_isHouse ml_X11_443 lm_0 dX11_lend_7 rfl rfl (roomOk rfl) rfl) rfl rfl ?_
  intro x2
  refine T_jp _ (fun (j37 : Option (Int32 × MI)) => T X A (Zm X A (ii1 (fun (I' : MI) => Rg G b Lm (Rm b) I' J))) 4 0 0 37 [] [] (Rg G b Lm (Rm b) I1 J) (j37)) _ ?_ ?_
  · skip
    refine T_iconst hok ic_m1 dX11_lend_37 ?_
    exact T_iret hok dX11_lend_38 (Nat.zero_le _) (Nat.zero_le _) rfl
  intro j37 hj37
  refine T_ifb_eq (tgt := 37) hok dX11_lend_10 rfl ?_ ?_
  · refine T_aload_n hok 0 rfl rfl dX11_lend_13 ?_
    refine T_iload_n hok 2 rfl rfl dX11_lend_14 ?_
    refine T_cz0 (CR_V (rest := []) hok (ct_X11_isHouse hA I1 J a2) mw_X11_isHouse mv_X11_isHouse ml_X11_443 lm_0 dX11_lend_15 rfl rfl (roomOk rfl) rfl) rfl rfl ?_
    intro x3
    refine T_ifb_eq (tgt := 37) hok dX11_lend_18 rfl ?_ ?_
    · refine T_iload_n hok 1 rfl rfl dX11_lend_21 ?_
      refine T_iload_n hok 2 rfl rfl dX11_lend_22 ?_
      refine T_icmp_eq (tgt := 37) hok dX11_lend_23 rfl ?_ ?_
      · refine T_sub (lv' := []) [] rfl ?_
        exact hj37
      refine T_iload_n hok 3 rfl rfl dX11_lend_26 ?_
      refine T_iconst hok ic_1 dX11_lend_27 ?_
      refine T_sipush hok sp_999 dX11_lend_28 ?_
      refine T_cz0 (CR_S (rest := []) hok (ct_X11_isIn a3 (1 : Int32) (999 : Int32)) mw_X11_isIn mst_X11_isIn ml_X11_196 dX11_lend_31 rfl rfl (roomOk rfl) rfl) rfl rfl ?_
      intro x4
      refine T_ifb_ne (tgt := 39) hok dX11_lend_34 rfl ?_ ?_
      · refine T_aload_n hok 0 rfl rfl dX11_lend_39 ?_
        refine T_getR hok fr_X11_106 lm_0 rm_0_57 dX11_lend_40 ?_
        refine T_iconst hok ic_0 dX11_lend_43 ?_
        refine T_iald hok lm_31 dX11_lend_44 ?_
        refine T_iload_n hok 1 rfl rfl dX11_lend_45 ?_
        refine T_cz0 (CR_S (rest := []) hok (ct_X11_isOf (I1 31 (ix (0 : Int32))) a1) mw_X11_isOf mst_X11_isOf ml_X11_430 dX11_lend_46 rfl rfl (roomOk rfl) rfl) rfl rfl ?_
        intro x5
        refine T_jp _ (fun (j75 : Option (Int32 × MI)) => T X A (Zm X A (ii1 (fun (I' : MI) => Rg G b Lm (Rm b) I' J))) 4 0 0 75 [] [] (Rg G b Lm (Rm b) I1 J) (j75)) _ ?_ ?_
        · skip
          refine T_bipush hok bp_m2 dX11_lend_75 ?_
          exact T_iret hok dX11_lend_77 (Nat.zero_le _) (Nat.zero_le _) rfl
        intro j75 hj75
        refine T_ifb_ne (tgt := 75) hok dX11_lend_49 rfl ?_ ?_
        · refine T_sub (lv' := []) [] rfl ?_
          exact hj75
        refine T_aload_n hok 0 rfl rfl dX11_lend_52 ?_
        refine T_getR hok fr_X11_106 lm_0 rm_0_57 dX11_lend_53 ?_
        refine T_iconst hok ic_0 dX11_lend_56 ?_
        refine T_iald hok lm_31 dX11_lend_57 ?_
        refine T_iload_n hok 2 rfl rfl dX11_lend_58 ?_
        refine T_cz0 (CR_S (rest := []) hok (ct_X11_isOf (I1 31 (ix (0 : Int32))) a2) mw_X11_isOf mst_X11_isOf ml_X11_430 dX11_lend_59 rfl rfl (roomOk rfl) rfl) rfl rfl ?_
        intro x6
        refine T_ifb_ne (tgt := 75) hok dX11_lend_62 rfl ?_ ?_
        · refine T_sub (lv' := []) [] rfl ?_
          exact hj75
        refine T_aload_n hok 0 rfl rfl dX11_lend_65 ?_
        refine T_getR hok fr_X11_91 lm_0 rm_0_52 dX11_lend_66 ?_
        refine T_iload_n hok 1 rfl rfl dX11_lend_69 ?_
        refine T_iald hok lm_26 dX11_lend_70 ?_
        refine T_iload_n hok 3 rfl rfl dX11_lend_71 ?_
        refine T_icmp_ge (tgt := 78) hok dX11_lend_72 rfl ?_ ?_
        · refine T_aload_n hok 0 rfl rfl dX11_lend_78 ?_
          refine T_cv1 (CR_V (rest := []) hok (ct_X11_remember hA I1 J) mw_X11_remember mv_X11_remember ml_X11_457 lm_0 dX11_lend_79 rfl rfl (roomOk rfl) rfl) rfl rfl ?_
          intro I7
          refine T_aload_n hok 0 rfl rfl dX11_lend_82 ?_
          refine T_getR hok fr_X11_91 lm_0 rm_0_52 dX11_lend_83 ?_
          refine T_iload_n hok 1 rfl rfl dX11_lend_86 ?_
          refine T_dup2 hok rfl rfl dX11_lend_87 ?_
          refine T_iald hok lm_26 dX11_lend_88 ?_
          refine T_iload_n hok 3 rfl rfl dX11_lend_89 ?_
          refine T_isub hok dX11_lend_90 ?_
          refine T_iast hok hA lm_26 dX11_lend_91 ?_
          intro I8
          refine T_aload_n hok 0 rfl rfl dX11_lend_92 ?_
          refine T_getR hok fr_X11_91 lm_0 rm_0_52 dX11_lend_93 ?_
          refine T_iload_n hok 2 rfl rfl dX11_lend_96 ?_
          refine T_aload_n hok 0 rfl rfl dX11_lend_97 ?_
          refine T_getR hok fr_X11_91 lm_0 rm_0_52 dX11_lend_98 ?_
          refine T_iload_n hok 2 rfl rfl dX11_lend_101 ?_
          refine T_iald hok lm_26 dX11_lend_102 ?_
          refine T_iload_n hok 3 rfl rfl dX11_lend_103 ?_
          refine T_iadd hok dX11_lend_104 ?_
          refine T_ldcw hok lk_X11_426 dX11_lend_105 ?_
          refine T_ldc hok lk_X11_189 dX11_lend_108 ?_
          refine T_ci0 (CR_S (rest := [.int a2, .ref (b + 26)]) hok (ct_X11_bounded_ ((I8 26 (ix a2)) + a3) (-99999 : Int32) (99999 : Int32)) mw_X11_bounded_ mst_X11_bounded_ ml_X11_423 dX11_lend_110 rfl rfl (roomOk rfl) rfl) rfl rfl ?_
          intro x9
          refine T_iast hok hA lm_26 dX11_lend_113 ?_
          intro I10
          refine T_aload_n hok 0 rfl rfl dX11_lend_114 ?_
          refine T_getR hok fr_X11_91 lm_0 rm_0_52 dX11_lend_115 ?_
          refine T_iload_n hok 2 rfl rfl dX11_lend_118 ?_
          refine T_iald hok lm_26 dX11_lend_119 ?_
          exact T_iret hok dX11_lend_120 (Nat.zero_le _) (Nat.zero_le _) rfl
        refine T_sub (lv' := []) [] rfl ?_
        exact hj75
      refine T_sub (lv' := []) [] rfl ?_
      exact hj37
    refine T_sub (lv' := []) [] rfl ?_
    exact hj37
  refine T_sub (lv' := []) [] rfl ?_
  exact hj37

set_option maxHeartbeats 4000000 in
set_option maxRecDepth 100000 in
theorem ct_X11_go {G : Gx} {l0 : Launch} {A : Nat → Prop} {b : Nat} (hA : ∀ k, k < Lm.length → A (b + k)) (I : MI) (J : MJ) (a1 : Int32) : Ct G l0 A yX11_go cX11_go 3 (some .int) { frames := 6, cells := 0, slots := 0, locals := 146 } [.ref (b + 0), .int a1] (Rg G b Lm (Rm b) I J) (ii2 (fun (I' : MI) (J' : MJ) => Rg G b Lm (Rm b) I' J')) (f_X11_go I J a1) := by
  refine Ct.of rfl (Nat.le_of_ble_eq_true rfl) ?_
  intro X hok
  replace hok : Ok G l0 X RX11 cX11_go 3 { frames := 6, cells := 0, slots := 0, locals := 146 } (some .int) := hok
  delta f_X11_go
  show T X A (Zm X A (ii2 (fun (I' : MI) (J' : MJ) => Rg G b Lm (Rm b) I' J'))) 3 0 0 0 [(0, .ref (b + 0)), (1, .int a1)] [] (Rg G b Lm (Rm b) I J) _
  refine T_aload_n hok 0 rfl rfl dX11_go_0 ?_
  refine T_iconst hok ic_0 dX11_go_1 ?_
  refine T_putI hok hA fr_X11_151 rfl rfl lm_0 dX11_go_2 ?_
  intro I1
  refine T_iload_n hok 1 rfl rfl dX11_go_5 ?_
  refine T_iconst hok ic_0 dX11_go_6 ?_
  refine T_sipush hok sp_200 dX11_go_7 ?_
  refine T_cz0 (CR_S (rest := []) hok (ct_X11_isIn a1 (0 : Int32) (200 : Int32)) mw_X11_isIn mst_X11_isIn ml_X11_196 dX11_go_10 rfl rfl (roomOk rfl) rfl) rfl rfl ?_
  intro x2
  refine T_jp _ (fun (j30 : Option (Int32 × MI × MJ)) => T X A (Zm X A (ii2 (fun (I' : MI) (J' : MJ) => Rg G b Lm (Rm b) I' J'))) 3 0 0 30 [] [] (Rg G b Lm (Rm b) I1 J) (j30)) _ ?_ ?_
  · skip
    refine T_iconst hok ic_m1 dX11_go_30 ?_
    exact T_iret hok dX11_go_31 (Nat.zero_le _) (Nat.zero_le _) rfl
  intro j30 hj30
  refine T_ifb_eq (tgt := 30) hok dX11_go_13 rfl ?_ ?_
  · refine T_aload_n hok 0 rfl rfl dX11_go_16 ?_
    refine T_getR hok fr_X11_118 lm_0 rm_0_61 dX11_go_17 ?_
    refine T_iconst hok ic_0 dX11_go_20 ?_
    refine T_iald hok lm_35 dX11_go_21 ?_
    refine T_iload_n hok 1 rfl rfl dX11_go_22 ?_
    refine T_iadd hok dX11_go_23 ?_
    refine T_sipush hok sp_9000 dX11_go_24 ?_
    refine T_icmp_le (tgt := 32) hok dX11_go_27 rfl ?_ ?_
    · refine T_aload_n hok 0 rfl rfl dX11_go_32 ?_
      refine T_cv1 (CR_V (rest := []) hok (ct_X11_plainTried hA I1 J) mw_X11_plainTried mv_X11_plainTried ml_X11_359 lm_0 dX11_go_33 rfl rfl (roomOk rfl) rfl) rfl rfl ?_
      intro I3
      refine T_aload_n hok 0 rfl rfl dX11_go_36 ?_
      refine T_iconst hok ic_1 dX11_go_37 ?_
      refine T_putZ hok hA fr_X11_371 rfl rfl lm_0 dX11_go_38 ?_
      intro I4
      refine T_iconst hok ic_0 dX11_go_41 ?_
      refine T_istore_n (lv' := [(2, .int (0 : Int32)), (0, .ref (b + 0)), (1, .int a1)]) hok rfl (by decide) rfl dX11_go_42 ?_
      refine T_jp _ (fun (j59 : MI → MJ → Option (Int32 × MI × MJ)) => ∀ (I5 : MI) (J6 : MJ), T X A (Zm X A (ii2 (fun (I' : MI) (J' : MJ) => Rg G b Lm (Rm b) I' J'))) 3 0 0 59 [(0, .ref (b + 0)), (1, .int a1)] [] (Rg G b Lm (Rm b) I5 J6) (j59 I5 J6)) _ ?_ ?_
      · intro I5 J6
        refine T_aload_n hok 0 rfl rfl dX11_go_59 ?_
        refine T_iconst hok ic_0 dX11_go_60 ?_
        refine T_putZ hok hA fr_X11_371 rfl rfl lm_0 dX11_go_61 ?_
        intro I7
        refine T_aload_n hok 0 rfl rfl dX11_go_64 ?_
        refine T_iload_n hok 1 rfl rfl dX11_go_65 ?_
        refine T_jp _ (fun (j77 : Int32 → Option (Int32 × MI × MJ)) => ∀ (x8 : Int32), T X A (Zm X A (ii2 (fun (I' : MI) (J' : MJ) => Rg G b Lm (Rm b) I' J'))) 3 0 0 77 [(0, .ref (b + 0))] [.int x8, .ref (b + 0)] (Rg G b Lm (Rm b) I7 J6) (j77 x8)) _ ?_ ?_
        · intro x8
          refine T_putI hok hA fr_X11_365 rfl rfl lm_0 dX11_go_77 ?_
          intro I9
          refine T_aload_n hok 0 rfl rfl dX11_go_80 ?_
          refine T_getR hok fr_X11_118 lm_0 rm_0_61 dX11_go_81 ?_
          refine T_iconst hok ic_0 dX11_go_84 ?_
          refine T_iald hok lm_35 dX11_go_85 ?_
          exact T_iret hok dX11_go_86 (Nat.zero_le _) (Nat.zero_le _) rfl
        intro j77 hj77
        refine T_if_le (tgt := 73) hok dX11_go_66 rfl ?_ ?_
        · refine T_aload_n hok 0 rfl rfl dX11_go_73 ?_
          refine T_getI hok fr_X11_365 lm_0 dX11_go_74 ?_
          refine T_sub (lv' := [(0, .ref (b + 0))]) [0] rfl ?_
          exact hj77 (I7 0 74)
        refine T_iconst hok ic_0 dX11_go_69 ?_
        refine T_goto (tgt := 77) hok dX11_go_70 rfl ?_
        refine T_sub (lv' := [(0, .ref (b + 0))]) [0] rfl ?_
        exact hj77 (0 : Int32)
      intro j59 hj59
      refine T_sub (lv' := [(0, .ref (b + 0)), (1, .int a1), (2, .int (0 : Int32))]) [1, 2, 0] rfl ?_
      refine T_fix3 _ (fun (x10 : Int32) (I11 : MI) (J12 : MJ) => [(0, .ref (b + 0)), (1, .int a1), (2, .int x10)]) (fun (x10 : Int32) (I11 : MI) (J12 : MJ) => Rg G b Lm (Rm b) I11 J12) ?_ FU (0 : Int32) I4 J
      intro r43 hr43 x10 I11 J12
      refine T_iload_n hok 2 rfl rfl dX11_go_43 ?_
      refine T_iload_n hok 1 rfl rfl dX11_go_44 ?_
      refine T_icmp_ge (tgt := 59) hok dX11_go_45 rfl ?_ ?_
      · refine T_sub (lv' := [(0, .ref (b + 0)), (1, .int a1)]) [0, 1] rfl ?_
        exact hj59 I11 J12
      refine T_aload_n hok 0 rfl rfl dX11_go_48 ?_
      refine T_iconst hok ic_0 dX11_go_49 ?_
      refine T_cv2 (CR_V (rest := []) hok (ct_X11_dayGoes hA I11 J12 (0 : Int32)) mw_X11_dayGoes mv_X11_dayGoes ml_X11_440 lm_0 dX11_go_50 rfl rfl (roomOk rfl) rfl) rfl rfl ?_
      intro I13 J14
      refine T_iinc (lvs := fun x15 => [(2, .int x15), (0, .ref (b + 0)), (1, .int a1)]) hok 2 rfl ic_1 (by decide) (fun _ => rfl) dX11_go_53 ?_
      intro x15
      refine T_goto (tgt := 43) hok dX11_go_56 rfl ?_
      refine T_sub (lv' := [(0, .ref (b + 0)), (1, .int a1), (2, .int x15)]) [1, 2, 0] rfl ?_
      exact hr43 x15 I13 J14
    refine T_sub (lv' := []) [] rfl ?_
    exact hj30
  refine T_sub (lv' := []) [] rfl ?_
  exact hj30

set_option maxHeartbeats 4000000 in
set_option maxRecDepth 100000 in
theorem ct_X11_ahead {G : Gx} {l0 : Launch} {A : Nat → Prop} {b : Nat} (hA : ∀ k, k < Lm.length → A (b + k)) (I : MI) (J : MJ) (a1 : Int32) (a2 : Int32) (a3 : Int32) : Ct G l0 A yX11_ahead cX11_ahead 4 (some .int) { frames := 7, cells := 0, slots := 0, locals := 168 } [.ref (b + 0), .int a1, .int a2, .int a3] (Rg G b Lm (Rm b) I J) (ii2 (fun (I' : MI) (J' : MJ) => Rg G b Lm (Rm b) I' J')) (f_X11_ahead I J a1 a2 a3) := by
  refine Ct.of rfl (Nat.le_of_ble_eq_true rfl) ?_
  intro X hok
  replace hok : Ok G l0 X RX11 cX11_ahead 4 { frames := 7, cells := 0, slots := 0, locals := 168 } (some .int) := hok
  delta f_X11_ahead
  show T X A (Zm X A (ii2 (fun (I' : MI) (J' : MJ) => Rg G b Lm (Rm b) I' J'))) 4 0 0 0 [(0, .ref (b + 0)), (1, .int a1), (2, .int a2), (3, .int a3)] [] (Rg G b Lm (Rm b) I J) _
  refine T_aload_n hok 0 rfl rfl dX11_ahead_0 ?_
  refine T_iconst hok ic_0 dX11_ahead_1 ?_
  refine T_putI hok hA fr_X11_151 rfl rfl lm_0 dX11_ahead_2 ?_
  intro I1
  refine T_iload_n hok 1 rfl rfl dX11_ahead_5 ?_
  refine T_iconst hok ic_0 dX11_ahead_6 ?_
  refine T_sipush hok sp_200 dX11_ahead_7 ?_
  refine T_cz0 (CR_S (rest := []) hok (ct_X11_isIn a1 (0 : Int32) (200 : Int32)) mw_X11_isIn mst_X11_isIn ml_X11_196 dX11_ahead_10 rfl rfl (roomOk rfl) rfl) rfl rfl ?_
  intro x2
  refine T_jp _ (fun (j38 : Option (Int32 × MI × MJ)) => T X A (Zm X A (ii2 (fun (I' : MI) (J' : MJ) => Rg G b Lm (Rm b) I' J'))) 4 0 0 38 [] [] (Rg G b Lm (Rm b) I1 J) (j38)) _ ?_ ?_
  · skip
    refine T_ldcw hok lk_X11_460 dX11_ahead_38 ?_
    exact T_iret hok dX11_ahead_41 (Nat.zero_le _) (Nat.zero_le _) rfl
  intro j38 hj38
  refine T_ifb_eq (tgt := 38) hok dX11_ahead_13 rfl ?_ ?_
  · refine T_iload_n hok 2 rfl rfl dX11_ahead_16 ?_
    refine T_iconst hok ic_0 dX11_ahead_17 ?_
    refine T_iconst hok ic_4 dX11_ahead_18 ?_
    refine T_cz0 (CR_S (rest := []) hok (ct_X11_isIn a2 (0 : Int32) (4 : Int32)) mw_X11_isIn mst_X11_isIn ml_X11_196 dX11_ahead_19 rfl rfl (roomOk rfl) rfl) rfl rfl ?_
    intro x3
    refine T_ifb_eq (tgt := 38) hok dX11_ahead_22 rfl ?_ ?_
    · refine T_iload_n hok 2 rfl rfl dX11_ahead_25 ?_
      refine T_iconst hok ic_3 dX11_ahead_26 ?_
      refine T_jp _ (fun (j42 : Option (Int32 × MI × MJ)) => T X A (Zm X A (ii2 (fun (I' : MI) (J' : MJ) => Rg G b Lm (Rm b) I' J'))) 4 0 0 42 [(0, .ref (b + 0)), (1, .int a1), (2, .int a2), (3, .int a3)] [] (Rg G b Lm (Rm b) I1 J) (j42)) _ ?_ ?_
      · skip
        refine T_aload_n hok 0 rfl rfl dX11_ahead_42 ?_
        refine T_cv1 (CR_V (rest := []) hok (ct_X11_layTried hA I1 J) mw_X11_layTried mv_X11_layTried ml_X11_461 lm_0 dX11_ahead_43 rfl rfl (roomOk rfl) rfl) rfl rfl ?_
        intro I4
        refine T_aload_n hok 0 rfl rfl dX11_ahead_46 ?_
        refine T_iload_n hok 1 rfl rfl dX11_ahead_47 ?_
        refine T_cv2 (CR_V (rest := []) hok (ct_X11_goMany hA I4 J a1) mw_X11_goMany mv_X11_goMany ml_X11_464 lm_0 dX11_ahead_48 rfl rfl (roomOk rfl) rfl) rfl rfl ?_
        intro I5 J6
        refine T_iload_n hok 2 rfl rfl dX11_ahead_51 ?_
        refine T_swc (fun hx0 => ?_) (fun hx0 => ?_)
        · refine T_tin (tgt := 84) hok hx0 dX11_ahead_52 (by decide) (by decide) rfl rfl ?_
          refine T_aload_n hok 0 rfl rfl dX11_ahead_84 ?_
          refine T_getR hok fr_X11_91 lm_0 rm_0_52 dX11_ahead_85 ?_
          refine T_bipush hok bp_6 dX11_ahead_88 ?_
          refine T_iload_n hok 3 rfl rfl dX11_ahead_90 ?_
          refine T_iadd hok dX11_ahead_91 ?_
          refine T_iald hok lm_26 dX11_ahead_92 ?_
          exact T_iret hok dX11_ahead_93 (Nat.zero_le _) (Nat.zero_le _) rfl
        refine T_swc (fun hx1 => ?_) (fun hx1 => ?_)
        · refine T_tin (tgt := 94) hok hx1 dX11_ahead_52 (by decide) (by decide) rfl rfl ?_
          refine T_aload_n hok 0 rfl rfl dX11_ahead_94 ?_
          refine T_getR hok fr_X11_94 lm_0 rm_0_53 dX11_ahead_95 ?_
          refine T_bipush hok bp_6 dX11_ahead_98 ?_
          refine T_iload_n hok 3 rfl rfl dX11_ahead_100 ?_
          refine T_iadd hok dX11_ahead_101 ?_
          refine T_iald hok lm_27 dX11_ahead_102 ?_
          exact T_iret hok dX11_ahead_103 (Nat.zero_le _) (Nat.zero_le _) rfl
        refine T_swc (fun hx2 => ?_) (fun hx2 => ?_)
        · refine T_tin (tgt := 104) hok hx2 dX11_ahead_52 (by decide) (by decide) rfl rfl ?_
          refine T_aload_n hok 0 rfl rfl dX11_ahead_104 ?_
          refine T_getR hok fr_X11_97 lm_0 rm_0_54 dX11_ahead_105 ?_
          refine T_bipush hok bp_6 dX11_ahead_108 ?_
          refine T_iload_n hok 3 rfl rfl dX11_ahead_110 ?_
          refine T_iadd hok dX11_ahead_111 ?_
          refine T_iald hok lm_28 dX11_ahead_112 ?_
          exact T_iret hok dX11_ahead_113 (Nat.zero_le _) (Nat.zero_le _) rfl
        refine T_swc (fun hx3 => ?_) (fun hx3 => ?_)
        · refine T_tin (tgt := 114) hok hx3 dX11_ahead_52 (by decide) (by decide) rfl rfl ?_
          refine T_aload_n hok 0 rfl rfl dX11_ahead_114 ?_
          refine T_getR hok fr_X11_106 lm_0 rm_0_57 dX11_ahead_115 ?_
          refine T_iconst hok ic_1 dX11_ahead_118 ?_
          refine T_iald hok lm_31 dX11_ahead_119 ?_
          refine T_ci0 (CR_S (rest := []) hok (ct_X11_manyOf (I5 31 (ix (1 : Int32)))) mw_X11_manyOf mst_X11_manyOf ml_X11_467 dX11_ahead_120 rfl rfl (roomOk rfl) rfl) rfl rfl ?_
          intro x7
          exact T_iret hok dX11_ahead_123 (Nat.zero_le _) (Nat.zero_le _) rfl
        refine T_swd ?_
        have nhx0 := toInt_ne (n := 0) rfl hx0
        have nhx1 := toInt_ne (n := 1) rfl hx1
        have nhx2 := toInt_ne (n := 2) rfl hx2
        have nhx3 := toInt_ne (n := 3) rfl hx3
        refine T_tdf (tgt := 124) (n := 4) hok dX11_ahead_52 rfl (fun j hj he => ?_) rfl ?_
        · rcases (show j = 0 ∨ j = 1 ∨ j = 2 ∨ j = 3 by omega) with rfl | rfl | rfl | rfl <;> first | rfl | (exfalso; omega)
        refine T_aload_n hok 0 rfl rfl dX11_ahead_124 ?_
        refine T_iconst hok ic_1 dX11_ahead_125 ?_
        refine T_ci0 (CR_V (rest := []) hok (ct_X11_lookedAll hA I5 J6 (1 : Int32)) mw_X11_lookedAll mv_X11_lookedAll ml_X11_470 lm_0 dX11_ahead_126 rfl rfl (roomOk rfl) rfl) rfl rfl ?_
        intro x8
        refine T_aload_n hok 0 rfl rfl dX11_ahead_129 ?_
        refine T_iconst hok ic_0 dX11_ahead_130 ?_
        refine T_ci0 (CR_V (rest := [.int x8]) hok (ct_X11_lookedAll hA I5 J6 (0 : Int32)) mw_X11_lookedAll mv_X11_lookedAll ml_X11_470 lm_0 dX11_ahead_131 rfl rfl (roomOk rfl) rfl) rfl rfl ?_
        intro x9
        refine T_isub hok dX11_ahead_134 ?_
        exact T_iret hok dX11_ahead_135 (Nat.zero_le _) (Nat.zero_le _) rfl
      intro j42 hj42
      refine T_icmp_ge (tgt := 42) hok dX11_ahead_27 rfl ?_ ?_
      · exact hj42
      refine T_aload_n hok 0 rfl rfl dX11_ahead_30 ?_
      refine T_iload_n hok 3 rfl rfl dX11_ahead_31 ?_
      refine T_cz0 (CR_V (rest := []) hok (ct_X11_isHouse hA I1 J a3) mw_X11_isHouse mv_X11_isHouse ml_X11_443 lm_0 dX11_ahead_32 rfl rfl (roomOk rfl) rfl) rfl rfl ?_
      intro x10
      refine T_ifb_ne (tgt := 42) hok dX11_ahead_35 rfl ?_ ?_
      · exact hj42
      refine T_sub (lv' := []) [] rfl ?_
      exact hj38
    refine T_sub (lv' := []) [] rfl ?_
    exact hj38
  refine T_sub (lv' := []) [] rfl ?_
  exact hj38

set_option maxHeartbeats 4000000 in
set_option maxRecDepth 100000 in
theorem ct_X11_daysTo {G : Gx} {l0 : Launch} {A : Nat → Prop} {b : Nat} (hA : ∀ k, k < Lm.length → A (b + k)) (I : MI) (J : MJ) (a1 : Int32) (a2 : Int32) : Ct G l0 A yX11_daysTo cX11_daysTo 5 (some .int) { frames := 6, cells := 0, slots := 0, locals := 146 } [.ref (b + 0), .int a1, .int a2] (Rg G b Lm (Rm b) I J) (ii2 (fun (I' : MI) (J' : MJ) => Rg G b Lm (Rm b) I' J')) (f_X11_daysTo I J a1 a2) := by
  refine Ct.of rfl (Nat.le_of_ble_eq_true rfl) ?_
  intro X hok
  replace hok : Ok G l0 X RX11 cX11_daysTo 5 { frames := 6, cells := 0, slots := 0, locals := 146 } (some .int) := hok
  delta f_X11_daysTo
  show T X A (Zm X A (ii2 (fun (I' : MI) (J' : MJ) => Rg G b Lm (Rm b) I' J'))) 5 0 0 0 [(0, .ref (b + 0)), (1, .int a1), (2, .int a2)] [] (Rg G b Lm (Rm b) I J) _
  refine T_aload_n hok 0 rfl rfl dX11_daysTo_0 ?_
  refine T_cv1 (CR_V (rest := []) hok (ct_X11_layTried hA I J) mw_X11_layTried mv_X11_layTried ml_X11_461 lm_0 dX11_daysTo_1 rfl rfl (roomOk rfl) rfl) rfl rfl ?_
  intro I1
  refine T_iconst hok ic_0 dX11_daysTo_4 ?_
  refine T_istore_n (lv' := [(3, .int (0 : Int32)), (0, .ref (b + 0)), (1, .int a1), (2, .int a2)]) hok rfl (by decide) rfl dX11_daysTo_5 ?_
  refine T_sub (lv' := [(0, .ref (b + 0)), (1, .int a1), (2, .int a2), (3, .int (0 : Int32))]) [1, 2, 3, 0] rfl ?_
  refine T_fix3 _ (fun (x2 : Int32) (I3 : MI) (J4 : MJ) => [(0, .ref (b + 0)), (1, .int a1), (2, .int a2), (3, .int x2)]) (fun (x2 : Int32) (I3 : MI) (J4 : MJ) => Rg G b Lm (Rm b) I3 J4) ?_ FU (0 : Int32) I1 J
  intro r6 hr6 x2 I3 J4
  refine T_iload_n hok 3 rfl rfl dX11_daysTo_6 ?_
  refine T_sipush hok sp_200 dX11_daysTo_7 ?_
  refine T_icmp_ge (tgt := 89) hok dX11_daysTo_10 rfl ?_ ?_
  · refine T_bipush hok bp_m2 dX11_daysTo_89 ?_
    exact T_iret hok dX11_daysTo_91 (Nat.zero_le _) (Nat.zero_le _) rfl
  refine T_iload_n hok 1 rfl rfl dX11_daysTo_13 ?_
  refine T_jp _ (fun (j69 : Bool → Option (Int32 × MI × MJ)) => ∀ (x5 : Bool), T X A (Zm X A (ii2 (fun (I' : MI) (J' : MJ) => Rg G b Lm (Rm b) I' J'))) 5 0 0 69 [(0, .ref (b + 0)), (1, .int a1), (2, .int a2), (3, .int x2)] [.int (bi x5)] (Rg G b Lm (Rm b) I3 J4) (j69 x5)) _ ?_ ?_
  · intro x5
    refine T_lti ?_
    intro x6
    refine T_istore (lv' := [(4, .int x6), (0, .ref (b + 0)), (1, .int a1), (2, .int a2), (3, .int x2)]) hok (by decide) rfl dX11_daysTo_69 ?_
    refine T_iload hok 0 rfl dX11_daysTo_71 ?_
    refine T_if_eq (tgt := 78) hok dX11_daysTo_73 rfl ?_ ?_
    · refine T_aload_n hok 1 rfl rfl dX11_daysTo_78 ?_
      refine T_iconst hok ic_1 dX11_daysTo_79 ?_
      refine T_cv2 (CR_V (rest := []) hok (ct_X11_dayGoes hA I3 J4 (1 : Int32)) mw_X11_dayGoes mv_X11_dayGoes ml_X11_440 lm_0 dX11_daysTo_80 rfl rfl (roomOk rfl) rfl) rfl rfl ?_
      intro I7 J8
      refine T_iinc (lvs := fun x9 => [(3, .int x9), (4, .int x6), (0, .ref (b + 0)), (1, .int a1), (2, .int a2)]) hok 4 rfl ic_1 (by decide) (fun _ => rfl) dX11_daysTo_83 ?_
      intro x9
      refine T_goto (tgt := 6) hok dX11_daysTo_86 rfl ?_
      refine T_sub (lv' := [(0, .ref (b + 0)), (1, .int a1), (2, .int a2), (3, .int x9)]) [2, 3, 4, 0] rfl ?_
      exact hr6 x9 I7 J8
    refine T_iload_n hok 4 rfl rfl dX11_daysTo_76 ?_
    exact T_iret hok dX11_daysTo_77 (Nat.zero_le _) (Nat.zero_le _) rfl
  intro j69 hj69
  refine T_if_ne (tgt := 30) hok dX11_daysTo_14 rfl ?_ ?_
  · refine T_aload_n hok 0 rfl rfl dX11_daysTo_17 ?_
    refine T_getR hok fr_X11_106 lm_0 rm_0_57 dX11_daysTo_18 ?_
    refine T_iconst hok ic_1 dX11_daysTo_21 ?_
    refine T_iald hok lm_31 dX11_daysTo_22 ?_
    refine T_iload_n hok 2 rfl rfl dX11_daysTo_23 ?_
    refine T_cz0 (CR_S (rest := []) hok (ct_X11_isOf (I3 31 (ix (1 : Int32))) a2) mw_X11_isOf mst_X11_isOf ml_X11_430 dX11_daysTo_24 rfl rfl (roomOk rfl) rfl) rfl rfl ?_
    intro x10
    refine T_goto (tgt := 69) hok dX11_daysTo_27 rfl ?_
    exact hj69 x10
  refine T_iload_n hok 1 rfl rfl dX11_daysTo_30 ?_
  refine T_iconst hok ic_1 dX11_daysTo_31 ?_
  refine T_icmp_ne (tgt := 55) hok dX11_daysTo_32 rfl ?_ ?_
  · refine T_aload_n hok 0 rfl rfl dX11_daysTo_35 ?_
    refine T_getR hok fr_X11_94 lm_0 rm_0_53 dX11_daysTo_36 ?_
    refine T_bipush hok bp_6 dX11_daysTo_39 ?_
    refine T_iload_n hok 2 rfl rfl dX11_daysTo_41 ?_
    refine T_iadd hok dX11_daysTo_42 ?_
    refine T_iald hok lm_27 dX11_daysTo_43 ?_
    refine T_if_ge (tgt := 51) hok dX11_daysTo_44 rfl ?_ ?_
    · refine T_iconst hok ic_0 dX11_daysTo_51 ?_
      refine T_goto (tgt := 69) hok dX11_daysTo_52 rfl ?_
      exact hj69 false
    refine T_iconst hok ic_1 dX11_daysTo_47 ?_
    refine T_goto (tgt := 69) hok dX11_daysTo_48 rfl ?_
    exact hj69 true
  refine T_aload_n hok 0 rfl rfl dX11_daysTo_55 ?_
  refine T_iconst hok ic_1 dX11_daysTo_56 ?_
  refine T_iload_n hok 2 rfl rfl dX11_daysTo_57 ?_
  refine T_ci0 (CR_V (rest := []) hok (ct_X11_hasOf hA I3 J4 (1 : Int32) a2) mw_X11_hasOf mv_X11_hasOf ml_X11_473 lm_0 dX11_daysTo_58 rfl rfl (roomOk rfl) rfl) rfl rfl ?_
  intro x11
  refine T_if_ge (tgt := 68) hok dX11_daysTo_61 rfl ?_ ?_
  · refine T_iconst hok ic_0 dX11_daysTo_68 ?_
    exact hj69 false
  refine T_iconst hok ic_1 dX11_daysTo_64 ?_
  refine T_goto (tgt := 69) hok dX11_daysTo_65 rfl ?_
  exact hj69 true

set_option maxHeartbeats 4000000 in
set_option maxRecDepth 100000 in
theorem ct_X11_sold {G : Gx} {l0 : Launch} {A : Nat → Prop} {b : Nat} (hA : ∀ k, k < Lm.length → A (b + k)) (I : MI) (J : MJ) (a1 : Int32) : Ct G l0 A yX11_sold cX11_sold 2 (some .int) { frames := 7, cells := 0, slots := 0, locals := 170 } [.ref (b + 0), .int a1] (Rg G b Lm (Rm b) I J) (ii2 (fun (I' : MI) (J' : MJ) => Rg G b Lm (Rm b) I' J')) (f_X11_sold I J a1) := by
  refine Ct.of rfl (Nat.le_of_ble_eq_true rfl) ?_
  intro X hok
  replace hok : Ok G l0 X RX11 cX11_sold 2 { frames := 7, cells := 0, slots := 0, locals := 170 } (some .int) := hok
  delta f_X11_sold
  show T X A (Zm X A (ii2 (fun (I' : MI) (J' : MJ) => Rg G b Lm (Rm b) I' J'))) 2 0 0 0 [(0, .ref (b + 0)), (1, .int a1)] [] (Rg G b Lm (Rm b) I J) _
  refine T_aload_n hok 0 rfl rfl dX11_sold_0 ?_
  refine T_iconst hok ic_0 dX11_sold_1 ?_
  refine T_putI hok hA fr_X11_151 rfl rfl lm_0 dX11_sold_2 ?_
  intro I1
  refine T_aload_n hok 0 rfl rfl dX11_sold_5 ?_
  refine T_iload_n hok 1 rfl rfl dX11_sold_6 ?_
  refine T_cz0 (CR_V (rest := []) hok (ct_X11_isHouse hA I1 J a1) mw_X11_isHouse mv_X11_isHouse ml_X11_443 lm_0 dX11_sold_7 rfl rfl (roomOk rfl) rfl) rfl rfl ?_
  intro x2
  refine T_jp _ (fun (j23 : Int32 → MI → MJ → Option (Int32 × MI × MJ)) => ∀ (x3 : Int32) (I4 : MI) (J5 : MJ), T X A (Zm X A (ii2 (fun (I' : MI) (J' : MJ) => Rg G b Lm (Rm b) I' J'))) 2 0 0 23 [] [.int x3] (Rg G b Lm (Rm b) I4 J5) (j23 x3 I4 J5)) _ ?_ ?_
  · intro x3 I4 J5
    exact T_iret hok dX11_sold_23 (Nat.zero_le _) (Nat.zero_le _) rfl
  intro j23 hj23
  refine T_ifb_eq (tgt := 22) hok dX11_sold_10 rfl ?_ ?_
  · refine T_aload_n hok 0 rfl rfl dX11_sold_13 ?_
    refine T_iconst hok ic_0 dX11_sold_14 ?_
    refine T_iload_n hok 1 rfl rfl dX11_sold_15 ?_
    refine T_ci2 (CR_V (rest := []) hok (ct_X11_daysTo hA I1 J (0 : Int32) a1) mw_X11_daysTo mv_X11_daysTo ml_X11_476 lm_0 dX11_sold_16 rfl rfl (roomOk rfl) rfl) rfl rfl ?_
    intro x6 I7 J8
    refine T_goto (tgt := 23) hok dX11_sold_19 rfl ?_
    refine T_sub (lv' := []) [] rfl ?_
    exact hj23 x6 I7 J8
  refine T_iconst hok ic_m1 dX11_sold_22 ?_
  refine T_sub (lv' := []) [] rfl ?_
  exact hj23 (-1 : Int32) I1 J

set_option maxHeartbeats 4000000 in
set_option maxRecDepth 100000 in
theorem ct_X11_credit {G : Gx} {l0 : Launch} {A : Nat → Prop} {b : Nat} (hA : ∀ k, k < Lm.length → A (b + k)) (I : MI) (J : MJ) (a1 : Int32) : Ct G l0 A yX11_credit cX11_credit 2 (some .int) { frames := 7, cells := 0, slots := 0, locals := 170 } [.ref (b + 0), .int a1] (Rg G b Lm (Rm b) I J) (ii2 (fun (I' : MI) (J' : MJ) => Rg G b Lm (Rm b) I' J')) (f_X11_credit I J a1) := by
  refine Ct.of rfl (Nat.le_of_ble_eq_true rfl) ?_
  intro X hok
  replace hok : Ok G l0 X RX11 cX11_credit 2 { frames := 7, cells := 0, slots := 0, locals := 170 } (some .int) := hok
  delta f_X11_credit
  show T X A (Zm X A (ii2 (fun (I' : MI) (J' : MJ) => Rg G b Lm (Rm b) I' J'))) 2 0 0 0 [(0, .ref (b + 0)), (1, .int a1)] [] (Rg G b Lm (Rm b) I J) _
  refine T_aload_n hok 0 rfl rfl dX11_credit_0 ?_
  refine T_iconst hok ic_0 dX11_credit_1 ?_
  refine T_putI hok hA fr_X11_151 rfl rfl lm_0 dX11_credit_2 ?_
  intro I1
  refine T_aload_n hok 0 rfl rfl dX11_credit_5 ?_
  refine T_iload_n hok 1 rfl rfl dX11_credit_6 ?_
  refine T_cz0 (CR_V (rest := []) hok (ct_X11_isHouse hA I1 J a1) mw_X11_isHouse mv_X11_isHouse ml_X11_443 lm_0 dX11_credit_7 rfl rfl (roomOk rfl) rfl) rfl rfl ?_
  intro x2
  refine T_jp _ (fun (j23 : Int32 → MI → MJ → Option (Int32 × MI × MJ)) => ∀ (x3 : Int32) (I4 : MI) (J5 : MJ), T X A (Zm X A (ii2 (fun (I' : MI) (J' : MJ) => Rg G b Lm (Rm b) I' J'))) 2 0 0 23 [] [.int x3] (Rg G b Lm (Rm b) I4 J5) (j23 x3 I4 J5)) _ ?_ ?_
  · intro x3 I4 J5
    exact T_iret hok dX11_credit_23 (Nat.zero_le _) (Nat.zero_le _) rfl
  intro j23 hj23
  refine T_ifb_eq (tgt := 22) hok dX11_credit_10 rfl ?_ ?_
  · refine T_aload_n hok 0 rfl rfl dX11_credit_13 ?_
    refine T_iconst hok ic_1 dX11_credit_14 ?_
    refine T_iload_n hok 1 rfl rfl dX11_credit_15 ?_
    refine T_ci2 (CR_V (rest := []) hok (ct_X11_daysTo hA I1 J (1 : Int32) a1) mw_X11_daysTo mv_X11_daysTo ml_X11_476 lm_0 dX11_credit_16 rfl rfl (roomOk rfl) rfl) rfl rfl ?_
    intro x6 I7 J8
    refine T_goto (tgt := 23) hok dX11_credit_19 rfl ?_
    refine T_sub (lv' := []) [] rfl ?_
    exact hj23 x6 I7 J8
  refine T_iconst hok ic_m1 dX11_credit_22 ?_
  refine T_sub (lv' := []) [] rfl ?_
  exact hj23 (-1 : Int32) I1 J

set_option maxHeartbeats 4000000 in
set_option maxRecDepth 100000 in
theorem ct_X11_owes {G : Gx} {l0 : Launch} {A : Nat → Prop} {b : Nat} (hA : ∀ k, k < Lm.length → A (b + k)) (I : MI) (J : MJ) (a1 : Int32) : Ct G l0 A yX11_owes cX11_owes 2 (some .int) { frames := 7, cells := 0, slots := 0, locals := 170 } [.ref (b + 0), .int a1] (Rg G b Lm (Rm b) I J) (ii2 (fun (I' : MI) (J' : MJ) => Rg G b Lm (Rm b) I' J')) (f_X11_owes I J a1) := by
  refine Ct.of rfl (Nat.le_of_ble_eq_true rfl) ?_
  intro X hok
  replace hok : Ok G l0 X RX11 cX11_owes 2 { frames := 7, cells := 0, slots := 0, locals := 170 } (some .int) := hok
  delta f_X11_owes
  show T X A (Zm X A (ii2 (fun (I' : MI) (J' : MJ) => Rg G b Lm (Rm b) I' J'))) 2 0 0 0 [(0, .ref (b + 0)), (1, .int a1)] [] (Rg G b Lm (Rm b) I J) _
  refine T_aload_n hok 0 rfl rfl dX11_owes_0 ?_
  refine T_iconst hok ic_0 dX11_owes_1 ?_
  refine T_putI hok hA fr_X11_151 rfl rfl lm_0 dX11_owes_2 ?_
  intro I1
  refine T_aload_n hok 0 rfl rfl dX11_owes_5 ?_
  refine T_iload_n hok 1 rfl rfl dX11_owes_6 ?_
  refine T_cz0 (CR_V (rest := []) hok (ct_X11_isHouse hA I1 J a1) mw_X11_isHouse mv_X11_isHouse ml_X11_443 lm_0 dX11_owes_7 rfl rfl (roomOk rfl) rfl) rfl rfl ?_
  intro x2
  refine T_jp _ (fun (j23 : Int32 → MI → MJ → Option (Int32 × MI × MJ)) => ∀ (x3 : Int32) (I4 : MI) (J5 : MJ), T X A (Zm X A (ii2 (fun (I' : MI) (J' : MJ) => Rg G b Lm (Rm b) I' J'))) 2 0 0 23 [] [.int x3] (Rg G b Lm (Rm b) I4 J5) (j23 x3 I4 J5)) _ ?_ ?_
  · intro x3 I4 J5
    exact T_iret hok dX11_owes_23 (Nat.zero_le _) (Nat.zero_le _) rfl
  intro j23 hj23
  refine T_ifb_eq (tgt := 22) hok dX11_owes_10 rfl ?_ ?_
  · refine T_aload_n hok 0 rfl rfl dX11_owes_13 ?_
    refine T_iconst hok ic_2 dX11_owes_14 ?_
    refine T_iload_n hok 1 rfl rfl dX11_owes_15 ?_
    refine T_ci2 (CR_V (rest := []) hok (ct_X11_daysTo hA I1 J (2 : Int32) a1) mw_X11_daysTo mv_X11_daysTo ml_X11_476 lm_0 dX11_owes_16 rfl rfl (roomOk rfl) rfl) rfl rfl ?_
    intro x6 I7 J8
    refine T_goto (tgt := 23) hok dX11_owes_19 rfl ?_
    refine T_sub (lv' := []) [] rfl ?_
    exact hj23 x6 I7 J8
  refine T_iconst hok ic_m1 dX11_owes_22 ?_
  refine T_sub (lv' := []) [] rfl ?_
  exact hj23 (-1 : Int32) I1 J

set_option maxHeartbeats 4000000 in
set_option maxRecDepth 100000 in
theorem ct_X11_termIn {G : Gx} {l0 : Launch} {A : Nat → Prop} {b : Nat} (hA : ∀ k, k < Lm.length → A (b + k)) (I : MI) (J : MJ) : Ct G l0 A yX11_termIn cX11_termIn 1 (some .int) { frames := 0, cells := 0, slots := 0, locals := 0 } [.ref (b + 0)] (Rg G b Lm (Rm b) I J) (ii1 (fun (I' : MI) => Rg G b Lm (Rm b) I' J)) (f_X11_termIn I) := by
  refine Ct.of rfl (Nat.le_of_ble_eq_true rfl) ?_
  intro X hok
  replace hok : Ok G l0 X RX11 cX11_termIn 1 { frames := 0, cells := 0, slots := 0, locals := 0 } (some .int) := hok
  delta f_X11_termIn
  show T X A (Zm X A (ii1 (fun (I' : MI) => Rg G b Lm (Rm b) I' J))) 1 0 0 0 [(0, .ref (b + 0))] [] (Rg G b Lm (Rm b) I J) _
  refine T_aload_n hok 0 rfl rfl dX11_termIn_0 ?_
  refine T_iconst hok ic_0 dX11_termIn_1 ?_
  refine T_putI hok hA fr_X11_151 rfl rfl lm_0 dX11_termIn_2 ?_
  intro I1
  refine T_aload_n hok 0 rfl rfl dX11_termIn_5 ?_
  refine T_getR hok fr_X11_24 lm_0 rm_0_23 dX11_termIn_6 ?_
  refine T_iconst hok ic_0 dX11_termIn_9 ?_
  refine T_iald hok lm_4 dX11_termIn_10 ?_
  refine T_aload_n hok 0 rfl rfl dX11_termIn_11 ?_
  refine T_getR hok fr_X11_118 lm_0 rm_0_61 dX11_termIn_12 ?_
  refine T_iconst hok ic_0 dX11_termIn_15 ?_
  refine T_iald hok lm_35 dX11_termIn_16 ?_
  refine T_aload_n hok 0 rfl rfl dX11_termIn_17 ?_
  refine T_getR hok fr_X11_24 lm_0 rm_0_23 dX11_termIn_18 ?_
  refine T_iconst hok ic_0 dX11_termIn_21 ?_
  refine T_iald hok lm_4 dX11_termIn_22 ?_
  refine T_irem hok dX11_termIn_23 ?_
  refine T_isub hok dX11_termIn_24 ?_
  exact T_iret hok dX11_termIn_25 (Nat.zero_le _) (Nat.zero_le _) rfl

set_option maxHeartbeats 4000000 in
set_option maxRecDepth 100000 in
theorem ct_X11_often {G : Gx} {l0 : Launch} {A : Nat → Prop} {b : Nat} (hA : ∀ k, k < Lm.length → A (b + k)) (I : MI) (J : MJ) (a1 : Int32) (a2 : Int32) : Ct G l0 A yX11_often cX11_often 5 (some .int) { frames := 2, cells := 0, slots := 0, locals := 46 } [.ref (b + 0), .int a1, .int a2] (Rg G b Lm (Rm b) I J) (ii1 (fun (I' : MI) => Rg G b Lm (Rm b) I' J)) (f_X11_often I a1 a2) := by
  refine Ct.of rfl (Nat.le_of_ble_eq_true rfl) ?_
  intro X hok
  replace hok : Ok G l0 X RX11 cX11_often 5 { frames := 2, cells := 0, slots := 0, locals := 46 } (some .int) := hok
  delta f_X11_often
  show T X A (Zm X A (ii1 (fun (I' : MI) => Rg G b Lm (Rm b) I' J))) 5 0 0 0 [(0, .ref (b + 0)), (1, .int a1), (2, .int a2)] [] (Rg G b Lm (Rm b) I J) _
  refine T_aload_n hok 0 rfl rfl dX11_often_0 ?_
  refine T_iconst hok ic_0 dX11_often_1 ?_
  refine T_putI hok hA fr_X11_151 rfl rfl lm_0 dX11_often_2 ?_
  intro I1
  refine T_aload_n hok 0 rfl rfl dX11_often_5 ?_
  refine T_iload_n hok 1 rfl rfl dX11_often_6 ?_
  refine T_cz0 (CR_V (rest := []) hok (ct_X11_isKind hA I1 J a1) mw_X11_isKind mv_X11_isKind ml_X11_449 lm_0 dX11_often_7 rfl rfl (roomOk rfl) rfl) rfl rfl ?_
  intro x2
  refine T_jp _ (fun (j24 : Option (Int32 × MI)) => T X A (Zm X A (ii1 (fun (I' : MI) => Rg G b Lm (Rm b) I' J))) 5 0 0 24 [] [] (Rg G b Lm (Rm b) I1 J) (j24)) _ ?_ ?_
  · skip
    refine T_iconst hok ic_m1 dX11_often_24 ?_
    exact T_iret hok dX11_often_25 (Nat.zero_le _) (Nat.zero_le _) rfl
  intro j24 hj24
  refine T_ifb_eq (tgt := 24) hok dX11_often_10 rfl ?_ ?_
  · refine T_iload_n hok 2 rfl rfl dX11_often_13 ?_
    refine T_iconst hok ic_0 dX11_often_14 ?_
    refine T_sipush hok sp_200 dX11_often_15 ?_
    refine T_cz0 (CR_S (rest := []) hok (ct_X11_isIn a2 (0 : Int32) (200 : Int32)) mw_X11_isIn mst_X11_isIn ml_X11_196 dX11_often_18 rfl rfl (roomOk rfl) rfl) rfl rfl ?_
    intro x3
    refine T_ifb_ne (tgt := 26) hok dX11_often_21 rfl ?_ ?_
    · refine T_iconst hok ic_0 dX11_often_26 ?_
      refine T_istore_n (lv' := [(3, .int (0 : Int32)), (0, .ref (b + 0)), (1, .int a1), (2, .int a2)]) hok rfl (by decide) rfl dX11_often_27 ?_
      refine T_iconst hok ic_0 dX11_often_28 ?_
      refine T_istore (lv' := [(4, .int (0 : Int32)), (3, .int (0 : Int32)), (0, .ref (b + 0)), (1, .int a1), (2, .int a2)]) hok (by decide) rfl dX11_often_29 ?_
      refine T_sub (lv' := [(0, .ref (b + 0)), (1, .int a1), (2, .int a2), (3, .int (0 : Int32)), (4, .int (0 : Int32))]) [2, 3, 4, 1, 0] rfl ?_
      refine T_fix2 _ (fun (x4 : Int32) (x5 : Int32) => [(0, .ref (b + 0)), (1, .int a1), (2, .int a2), (3, .int x4), (4, .int x5)]) (fun (x4 : Int32) (x5 : Int32) => Rg G b Lm (Rm b) I1 J) ?_ FU (0 : Int32) (0 : Int32)
      intro r31 hr31 x4 x5
      refine T_iload hok 4 rfl dX11_often_31 ?_
      refine T_iload_n hok 2 rfl rfl dX11_often_33 ?_
      refine T_icmp_ge (tgt := 61) hok dX11_often_34 rfl ?_ ?_
      · refine T_iload_n hok 3 rfl rfl dX11_often_61 ?_
        exact T_iret hok dX11_often_62 (Nat.zero_le _) (Nat.zero_le _) rfl
      refine T_iload_n hok 3 rfl rfl dX11_often_37 ?_
      refine T_aload_n hok 0 rfl rfl dX11_often_38 ?_
      refine T_iload hok 4 rfl dX11_often_39 ?_
      refine T_ci0 (CR_V (rest := [.int x4]) hok (ct_X11_weatherIn hA I1 J x5) mw_X11_weatherIn mv_X11_weatherIn ml_X11_452 lm_0 dX11_often_41 rfl rfl (roomOk rfl) rfl) rfl rfl ?_
      intro x6
      refine T_iload_n hok 1 rfl rfl dX11_often_44 ?_
      refine T_jp _ (fun (j53 : Bool → Int32 → Option (Int32 × MI)) => ∀ (x7 : Bool) (x8 : Int32), T X A (Zm X A (ii1 (fun (I' : MI) => Rg G b Lm (Rm b) I' J))) 5 0 0 53 [(0, .ref (b + 0)), (1, .int a1), (2, .int a2), (4, .int x5)] [.int (bi x7), .int x8] (Rg G b Lm (Rm b) I1 J) (j53 x7 x8)) _ ?_ ?_
      · intro x7 x8
        refine T_iadd hok dX11_often_53 ?_
        refine T_lti ?_
        intro x9
        refine T_istore_n (lv' := [(3, .int x9), (0, .ref (b + 0)), (1, .int a1), (2, .int a2), (4, .int x5)]) hok rfl (by decide) rfl dX11_often_54 ?_
        refine T_iinc (lvs := fun x10 => [(4, .int x10), (3, .int x9), (0, .ref (b + 0)), (1, .int a1), (2, .int a2)]) hok 4 rfl ic_1 (by decide) (fun _ => rfl) dX11_often_55 ?_
        intro x10
        refine T_goto (tgt := 31) hok dX11_often_58 rfl ?_
        refine T_sub (lv' := [(0, .ref (b + 0)), (1, .int a1), (2, .int a2), (3, .int x9), (4, .int x10)]) [2, 3, 4, 1, 0] rfl ?_
        exact hr31 x9 x10
      intro j53 hj53
      refine T_icmp_ne (tgt := 52) hok dX11_often_45 rfl ?_ ?_
      · refine T_iconst hok ic_1 dX11_often_48 ?_
        refine T_goto (tgt := 53) hok dX11_often_49 rfl ?_
        refine T_sub (lv' := [(0, .ref (b + 0)), (1, .int a1), (2, .int a2), (4, .int x5)]) [0, 1, 2, 4] rfl ?_
        exact hj53 true x4
      refine T_iconst hok ic_0 dX11_often_52 ?_
      refine T_sub (lv' := [(0, .ref (b + 0)), (1, .int a1), (2, .int a2), (4, .int x5)]) [0, 1, 2, 4] rfl ?_
      exact hj53 false x4
    refine T_sub (lv' := []) [] rfl ?_
    exact hj24
  refine T_sub (lv' := []) [] rfl ?_
  exact hj24

set_option maxHeartbeats 4000000 in
set_option maxRecDepth 100000 in
theorem ct_X11_suits {G : Gx} {l0 : Launch} {A : Nat → Prop} {b : Nat} (hA : ∀ k, k < Lm.length → A (b + k)) (I : MI) (J : MJ) (a1 : Int32) (a2 : Int32) : Ct G l0 A yX11_suits cX11_suits 3 (some .boolean) { frames := 2, cells := 0, slots := 0, locals := 46 } [.ref (b + 0), .int a1, .int a2] (Rg G b Lm (Rm b) I J) (iz0 (Rg G b Lm (Rm b) I J)) (f_X11_suits I a1 a2) := by
  refine Ct.of rfl (Nat.le_of_ble_eq_true rfl) ?_
  intro X hok
  replace hok : Ok G l0 X RX11 cX11_suits 3 { frames := 2, cells := 0, slots := 0, locals := 46 } (some .boolean) := hok
  delta f_X11_suits
  show T X A (Zm X A (iz0 (Rg G b Lm (Rm b) I J))) 3 0 0 0 [(0, .ref (b + 0)), (1, .int a1), (2, .int a2)] [] (Rg G b Lm (Rm b) I J) _
  refine T_iload_n hok 2 rfl rfl dX11_suits_0 ?_
  refine T_aload_n hok 0 rfl rfl dX11_suits_1 ?_
  refine T_getI hok fr_X11_479 lm_0 dX11_suits_2 ?_
  refine T_jp _ (fun (j27 : Bool → Option (Bool)) => ∀ (x1 : Bool), T X A (Zm X A (iz0 (Rg G b Lm (Rm b) I J))) 3 0 0 27 [] [.int (bi x1)] (Rg G b Lm (Rm b) I J) (j27 x1)) _ ?_ ?_
  · intro x1
    exact T_zret hok dX11_suits_27 (Nat.zero_le _) (Nat.zero_le _) (bi_01 _) rfl
  intro j27 hj27
  refine T_jp _ (fun (j26 : Option (Bool)) => T X A (Zm X A (iz0 (Rg G b Lm (Rm b) I J))) 3 0 0 26 [] [] (Rg G b Lm (Rm b) I J) (j26)) _ ?_ ?_
  · skip
    refine T_iconst hok ic_0 dX11_suits_26 ?_
    exact hj27 false
  intro j26 hj26
  refine T_icmp_ge (tgt := 26) hok dX11_suits_5 rfl ?_ ?_
  · refine T_sub (lv' := []) [] rfl ?_
    exact hj26
  refine T_aload_n hok 0 rfl rfl dX11_suits_8 ?_
  refine T_iload_n hok 2 rfl rfl dX11_suits_9 ?_
  refine T_ci0 (CR_V (rest := []) hok (ct_X11_weatherIn hA I J a2) mw_X11_weatherIn mv_X11_weatherIn ml_X11_452 lm_0 dX11_suits_10 rfl rfl (roomOk rfl) rfl) rfl rfl ?_
  intro x2
  refine T_aload_n hok 0 rfl rfl dX11_suits_13 ?_
  refine T_getR hok fr_X11_57 lm_0 rm_0_34 dX11_suits_14 ?_
  refine T_iload_n hok 1 rfl rfl dX11_suits_17 ?_
  refine T_iald hok lm_15 dX11_suits_18 ?_
  refine T_icmp_ne (tgt := 26) hok dX11_suits_19 rfl ?_ ?_
  · refine T_iconst hok ic_1 dX11_suits_22 ?_
    refine T_goto (tgt := 27) hok dX11_suits_23 rfl ?_
    refine T_sub (lv' := []) [] rfl ?_
    exact hj27 true
  refine T_sub (lv' := []) [] rfl ?_
  exact hj26

set_option maxHeartbeats 4000000 in
set_option maxRecDepth 100000 in
theorem ct_X11_costOf {G : Gx} {l0 : Launch} {A : Nat → Prop} {b : Nat} (hA : ∀ k, k < Lm.length → A (b + k)) (I : MI) (J : MJ) (a1 : Int32) : Ct G l0 A yX11_costOf cX11_costOf 2 (some .int) { frames := 0, cells := 0, slots := 0, locals := 0 } [.ref (b + 0), .int a1] (Rg G b Lm (Rm b) I J) (ii0 (Rg G b Lm (Rm b) I J)) (f_X11_costOf I a1) := by
  refine Ct.of rfl (Nat.le_of_ble_eq_true rfl) ?_
  intro X hok
  replace hok : Ok G l0 X RX11 cX11_costOf 2 { frames := 0, cells := 0, slots := 0, locals := 0 } (some .int) := hok
  delta f_X11_costOf
  show T X A (Zm X A (ii0 (Rg G b Lm (Rm b) I J))) 2 0 0 0 [(0, .ref (b + 0)), (1, .int a1)] [] (Rg G b Lm (Rm b) I J) _
  refine T_aload_n hok 0 rfl rfl dX11_costOf_0 ?_
  refine T_getR hok fr_X11_30 lm_0 rm_0_25 dX11_costOf_1 ?_
  refine T_aload_n hok 0 rfl rfl dX11_costOf_4 ?_
  refine T_getR hok fr_X11_57 lm_0 rm_0_34 dX11_costOf_5 ?_
  refine T_iload_n hok 1 rfl rfl dX11_costOf_8 ?_
  refine T_iald hok lm_15 dX11_costOf_9 ?_
  refine T_iald hok lm_6 dX11_costOf_10 ?_
  refine T_aload_n hok 0 rfl rfl dX11_costOf_11 ?_
  refine T_getR hok fr_X11_42 lm_0 rm_0_29 dX11_costOf_12 ?_
  refine T_aload_n hok 0 rfl rfl dX11_costOf_15 ?_
  refine T_getR hok fr_X11_54 lm_0 rm_0_33 dX11_costOf_16 ?_
  refine T_iload_n hok 1 rfl rfl dX11_costOf_19 ?_
  refine T_iald hok lm_14 dX11_costOf_20 ?_
  refine T_iald hok lm_10 dX11_costOf_21 ?_
  refine T_imul hok dX11_costOf_22 ?_
  exact T_iret hok dX11_costOf_23 (Nat.zero_le _) (Nat.zero_le _) rfl

set_option maxHeartbeats 4000000 in
set_option maxRecDepth 100000 in
theorem ct_X11_layPlan {G : Gx} {l0 : Launch} {A : Nat → Prop} {b : Nat} (hA : ∀ k, k < Lm.length → A (b + k)) (I : MI) (J : MJ) : Ct G l0 A yX11_layPlan cX11_layPlan 7 none { frames := 3, cells := 0, slots := 0, locals := 68 } [.ref (b + 0)] (Rg G b Lm (Rm b) I J) (iv1 (fun (I' : MI) => Rg G b Lm (Rm b) I' J)) (f_X11_layPlan I) := by
  refine Ct.of rfl (Nat.le_of_ble_eq_true rfl) ?_
  intro X hok
  replace hok : Ok G l0 X RX11 cX11_layPlan 7 { frames := 3, cells := 0, slots := 0, locals := 68 } none := hok
  delta f_X11_layPlan
  show T X A (Zm X A (iv1 (fun (I' : MI) => Rg G b Lm (Rm b) I' J))) 7 0 0 0 [(0, .ref (b + 0))] [] (Rg G b Lm (Rm b) I J) _
  refine T_iconst hok ic_0 dX11_layPlan_0 ?_
  refine T_istore_n (lv' := [(1, .int (0 : Int32)), (0, .ref (b + 0))]) hok rfl (by decide) rfl dX11_layPlan_1 ?_
  refine T_jp _ (fun (j47 : MI → Option (MI)) => ∀ (I1 : MI), T X A (Zm X A (iv1 (fun (I' : MI) => Rg G b Lm (Rm b) I' J))) 7 0 0 47 [(0, .ref (b + 0))] [] (Rg G b Lm (Rm b) I1 J) (j47 I1)) _ ?_ ?_
  · intro I1
    refine T_aload_n hok 0 rfl rfl dX11_layPlan_47 ?_
    refine T_getI hok fr_X11_240 lm_0 dX11_layPlan_48 ?_
    refine T_iconst hok ic_1 dX11_layPlan_51 ?_
    refine T_isub hok dX11_layPlan_52 ?_
    refine T_lti ?_
    intro x2
    refine T_istore_n (lv' := [(1, .int x2), (0, .ref (b + 0))]) hok rfl (by decide) rfl dX11_layPlan_53 ?_
    refine T_sub (lv' := [(0, .ref (b + 0)), (1, .int x2)]) [1, 0] rfl ?_
    refine T_fix2 _ (fun (x3 : Int32) (I4 : MI) => [(0, .ref (b + 0)), (1, .int x3)]) (fun (x3 : Int32) (I4 : MI) => Rg G b Lm (Rm b) I4 J) ?_ FU x2 I1
    intro r54 hr54 x3 I4
    refine T_iload_n hok 1 rfl rfl dX11_layPlan_54 ?_
    refine T_if_lt (tgt := 261) hok dX11_layPlan_55 rfl ?_ ?_
    · exact T_vret hok dX11_layPlan_261 (Nat.zero_le _) (Nat.zero_le _) rfl
    refine T_iconst hok ic_0 dX11_layPlan_58 ?_
    refine T_istore_n (lv' := [(2, .int (0 : Int32)), (0, .ref (b + 0)), (1, .int x3)]) hok rfl (by decide) rfl dX11_layPlan_59 ?_
    refine T_jp _ (fun (j255 : MI → Option (MI)) => ∀ (I5 : MI), T X A (Zm X A (iv1 (fun (I' : MI) => Rg G b Lm (Rm b) I' J))) 7 0 0 255 [(0, .ref (b + 0)), (1, .int x3)] [] (Rg G b Lm (Rm b) I5 J) (j255 I5)) _ ?_ ?_
    · intro I5
      refine T_iinc (lvs := fun x6 => [(1, .int x6), (0, .ref (b + 0))]) hok 1 rfl ic_m1 (by decide) (fun _ => rfl) dX11_layPlan_255 ?_
      intro x6
      refine T_goto (tgt := 54) hok dX11_layPlan_258 rfl ?_
      refine T_sub (lv' := [(0, .ref (b + 0)), (1, .int x6)]) [1, 0] rfl ?_
      exact hr54 x6 I5
    intro j255 hj255
    refine T_sub (lv' := [(0, .ref (b + 0)), (1, .int x3), (2, .int (0 : Int32))]) [1, 2, 0] rfl ?_
    refine T_fix2 _ (fun (x7 : Int32) (I8 : MI) => [(0, .ref (b + 0)), (1, .int x3), (2, .int x7)]) (fun (x7 : Int32) (I8 : MI) => Rg G b Lm (Rm b) I8 J) ?_ FU (0 : Int32) I4
    intro r60 hr60 x7 I8
    refine T_iload_n hok 2 rfl rfl dX11_layPlan_60 ?_
    refine T_sipush hok sp_256 dX11_layPlan_61 ?_
    refine T_icmp_ge (tgt := 255) hok dX11_layPlan_64 rfl ?_ ?_
    · refine T_sub (lv' := [(0, .ref (b + 0)), (1, .int x3)]) [0, 1] rfl ?_
      exact hj255 I8
    refine T_sipush hok sp_256 dX11_layPlan_67 ?_
    refine T_iload_n hok 1 rfl rfl dX11_layPlan_70 ?_
    refine T_imul hok dX11_layPlan_71 ?_
    refine T_iload_n hok 2 rfl rfl dX11_layPlan_72 ?_
    refine T_iadd hok dX11_layPlan_73 ?_
    refine T_lti ?_
    intro x9
    refine T_istore_n (lv' := [(3, .int x9), (0, .ref (b + 0)), (1, .int x3), (2, .int x7)]) hok rfl (by decide) rfl dX11_layPlan_74 ?_
    refine T_aload_n hok 1 rfl rfl dX11_layPlan_75 ?_
    refine T_getR hok fr_X11_121 lm_0 rm_0_67 dX11_layPlan_76 ?_
    refine T_iload_n hok 0 rfl rfl dX11_layPlan_79 ?_
    refine T_aload_n hok 1 rfl rfl dX11_layPlan_80 ?_
    refine T_getR hok fr_X11_121 lm_0 rm_0_67 dX11_layPlan_81 ?_
    refine T_iload_n hok 0 rfl rfl dX11_layPlan_84 ?_
    refine T_sipush hok sp_256 dX11_layPlan_85 ?_
    refine T_iadd hok dX11_layPlan_88 ?_
    refine T_iald hok lm_36 dX11_layPlan_89 ?_
    refine T_iast hok hA lm_36 dX11_layPlan_90 ?_
    intro I10
    refine T_aload_n hok 1 rfl rfl dX11_layPlan_91 ?_
    refine T_getR hok fr_X11_124 lm_0 rm_0_68 dX11_layPlan_92 ?_
    refine T_iload_n hok 0 rfl rfl dX11_layPlan_95 ?_
    refine T_aload_n hok 1 rfl rfl dX11_layPlan_96 ?_
    refine T_getR hok fr_X11_124 lm_0 rm_0_68 dX11_layPlan_97 ?_
    refine T_iload_n hok 0 rfl rfl dX11_layPlan_100 ?_
    refine T_sipush hok sp_256 dX11_layPlan_101 ?_
    refine T_iadd hok dX11_layPlan_104 ?_
    refine T_iald hok lm_37 dX11_layPlan_105 ?_
    refine T_iast hok hA lm_37 dX11_layPlan_106 ?_
    intro I11
    refine T_iconst hok ic_0 dX11_layPlan_107 ?_
    refine T_istore (lv' := [(4, .int (0 : Int32)), (3, .int x9), (0, .ref (b + 0)), (1, .int x3), (2, .int x7)]) hok (by decide) rfl dX11_layPlan_108 ?_
    refine T_jp _ (fun (j249 : MI → Option (MI)) => ∀ (I12 : MI), T X A (Zm X A (iv1 (fun (I' : MI) => Rg G b Lm (Rm b) I' J))) 7 0 0 249 [(0, .ref (b + 0)), (1, .int x3), (2, .int x7)] [] (Rg G b Lm (Rm b) I12 J) (j249 I12)) _ ?_ ?_
    · intro I12
      refine T_iinc (lvs := fun x13 => [(2, .int x13), (0, .ref (b + 0)), (1, .int x3)]) hok 2 rfl ic_1 (by decide) (fun _ => rfl) dX11_layPlan_249 ?_
      intro x13
      refine T_goto (tgt := 60) hok dX11_layPlan_252 rfl ?_
      refine T_sub (lv' := [(0, .ref (b + 0)), (1, .int x3), (2, .int x13)]) [1, 2, 0] rfl ?_
      exact hr60 x13 I12
    intro j249 hj249
    refine T_sub (lv' := [(0, .ref (b + 0)), (1, .int x3), (2, .int x7), (3, .int x9), (4, .int (0 : Int32))]) [2, 3, 4, 1, 0] rfl ?_
    refine T_fix2 _ (fun (x14 : Int32) (I15 : MI) => [(0, .ref (b + 0)), (1, .int x3), (2, .int x7), (3, .int x9), (4, .int x14)]) (fun (x14 : Int32) (I15 : MI) => Rg G b Lm (Rm b) I15 J) ?_ FU (0 : Int32) I11
    intro r110 hr110 x14 I15
    refine T_iload hok 4 rfl dX11_layPlan_110 ?_
    refine T_bipush hok bp_8 dX11_layPlan_112 ?_
    refine T_icmp_ge (tgt := 249) hok dX11_layPlan_114 rfl ?_ ?_
    · refine T_sub (lv' := [(0, .ref (b + 0)), (1, .int x3), (2, .int x7)]) [0, 1, 2] rfl ?_
      exact hj249 I15
    refine T_iload_n hok 2 rfl rfl dX11_layPlan_117 ?_
    refine T_iload hok 4 rfl dX11_layPlan_118 ?_
    refine T_cz0 (CR_S (rest := []) hok (ct_X11_isOf x7 x14) mw_X11_isOf mst_X11_isOf ml_X11_430 dX11_layPlan_120 rfl rfl (roomOk rfl) rfl) rfl rfl ?_
    intro x16
    refine T_jp _ (fun (j243 : MI → Option (MI)) => ∀ (I17 : MI), T X A (Zm X A (iv1 (fun (I' : MI) => Rg G b Lm (Rm b) I' J))) 7 0 0 243 [(0, .ref (b + 0)), (1, .int x3), (2, .int x7), (3, .int x9), (4, .int x14)] [] (Rg G b Lm (Rm b) I17 J) (j243 I17)) _ ?_ ?_
    · intro I17
      refine T_iinc (lvs := fun x18 => [(4, .int x18), (0, .ref (b + 0)), (1, .int x3), (2, .int x7), (3, .int x9)]) hok 4 rfl ic_1 (by decide) (fun _ => rfl) dX11_layPlan_243 ?_
      intro x18
      refine T_goto (tgt := 110) hok dX11_layPlan_246 rfl ?_
      refine T_sub (lv' := [(0, .ref (b + 0)), (1, .int x3), (2, .int x7), (3, .int x9), (4, .int x18)]) [1, 2, 3, 4, 0] rfl ?_
      exact hr110 x18 I17
    intro j243 hj243
    refine T_ifb_ne (tgt := 243) hok dX11_layPlan_123 rfl ?_ ?_
    · exact hj243 I15
    refine T_aload_n hok 0 rfl rfl dX11_layPlan_126 ?_
    refine T_iload_n hok 1 rfl rfl dX11_layPlan_127 ?_
    refine T_iload hok 4 rfl dX11_layPlan_128 ?_
    refine T_cz0 (CR_V (rest := []) hok (ct_X11_suits hA I15 J x3 x14) mw_X11_suits mv_X11_suits ml_X11_482 lm_0 dX11_layPlan_130 rfl rfl (roomOk rfl) rfl) rfl rfl ?_
    intro x19
    refine T_ifb_ne (tgt := 139) hok dX11_layPlan_133 rfl ?_ ?_
    · refine T_sipush hok sp_256 dX11_layPlan_139 ?_
      refine T_iload_n hok 1 rfl rfl dX11_layPlan_142 ?_
      refine T_iconst hok ic_1 dX11_layPlan_143 ?_
      refine T_iadd hok dX11_layPlan_144 ?_
      refine T_imul hok dX11_layPlan_145 ?_
      refine T_iload_n hok 2 rfl rfl dX11_layPlan_146 ?_
      refine T_iconst hok ic_1 dX11_layPlan_147 ?_
      refine T_iload hok 4 rfl dX11_layPlan_148 ?_
      refine T_ishl hok dX11_layPlan_150 ?_
      refine T_ior hok dX11_layPlan_151 ?_
      refine T_iadd hok dX11_layPlan_152 ?_
      refine T_lti ?_
      intro x20
      refine T_istore (lv' := [(5, .int x20), (0, .ref (b + 0)), (1, .int x3), (2, .int x7), (3, .int x9), (4, .int x14)]) hok (by decide) rfl dX11_layPlan_153 ?_
      refine T_aload_n hok 1 rfl rfl dX11_layPlan_155 ?_
      refine T_getR hok fr_X11_124 lm_0 rm_0_68 dX11_layPlan_156 ?_
      refine T_iload hok 0 rfl dX11_layPlan_159 ?_
      refine T_iald hok lm_37 dX11_layPlan_161 ?_
      refine T_aload_n hok 1 rfl rfl dX11_layPlan_162 ?_
      refine T_iload_n hok 2 rfl rfl dX11_layPlan_163 ?_
      refine T_ci0 (CR_V (rest := [.int (I15 37 (ix x20))]) hok (ct_X11_costOf hA I15 J x3) mw_X11_costOf mv_X11_costOf ml_X11_485 lm_0 dX11_layPlan_164 rfl rfl (roomOk rfl) rfl) rfl rfl ?_
      intro x21
      refine T_iadd hok dX11_layPlan_167 ?_
      refine T_lti ?_
      intro x22
      refine T_istore (lv' := [(6, .int x22), (5, .int x20), (0, .ref (b + 0)), (1, .int x3), (2, .int x7), (3, .int x9), (4, .int x14)]) hok (by decide) rfl dX11_layPlan_168 ?_
      refine T_aload_n hok 2 rfl rfl dX11_layPlan_170 ?_
      refine T_getR hok fr_X11_121 lm_0 rm_0_67 dX11_layPlan_171 ?_
      refine T_iload hok 1 rfl dX11_layPlan_174 ?_
      refine T_iald hok lm_36 dX11_layPlan_176 ?_
      refine T_iconst hok ic_1 dX11_layPlan_177 ?_
      refine T_iadd hok dX11_layPlan_178 ?_
      refine T_aload_n hok 2 rfl rfl dX11_layPlan_179 ?_
      refine T_getR hok fr_X11_121 lm_0 rm_0_67 dX11_layPlan_180 ?_
      refine T_iload_n hok 5 rfl rfl dX11_layPlan_183 ?_
      refine T_iald hok lm_36 dX11_layPlan_184 ?_
      refine T_icmp_lt (tgt := 243) hok dX11_layPlan_185 rfl ?_ ?_
      · refine T_sub (lv' := [(0, .ref (b + 0)), (1, .int x3), (2, .int x7), (3, .int x9), (4, .int x14)]) [2, 3, 4, 5, 6] rfl ?_
        exact hj243 I15
      refine T_aload_n hok 2 rfl rfl dX11_layPlan_188 ?_
      refine T_getR hok fr_X11_121 lm_0 rm_0_67 dX11_layPlan_189 ?_
      refine T_iload hok 1 rfl dX11_layPlan_192 ?_
      refine T_iald hok lm_36 dX11_layPlan_194 ?_
      refine T_iconst hok ic_1 dX11_layPlan_195 ?_
      refine T_iadd hok dX11_layPlan_196 ?_
      refine T_aload_n hok 2 rfl rfl dX11_layPlan_197 ?_
      refine T_getR hok fr_X11_121 lm_0 rm_0_67 dX11_layPlan_198 ?_
      refine T_iload_n hok 5 rfl rfl dX11_layPlan_201 ?_
      refine T_iald hok lm_36 dX11_layPlan_202 ?_
      refine T_jp _ (fun (j220 : Option (MI)) => T X A (Zm X A (iv1 (fun (I' : MI) => Rg G b Lm (Rm b) I' J))) 7 0 0 220 [(0, .ref (b + 0)), (1, .int x3), (2, .int x7), (3, .int x9), (4, .int x14), (5, .int x20), (6, .int x22)] [] (Rg G b Lm (Rm b) I15 J) (j220)) _ ?_ ?_
      · skip
        refine T_aload_n hok 0 rfl rfl dX11_layPlan_220 ?_
        refine T_getR hok fr_X11_121 lm_0 rm_0_67 dX11_layPlan_221 ?_
        refine T_iload_n hok 3 rfl rfl dX11_layPlan_224 ?_
        refine T_aload_n hok 0 rfl rfl dX11_layPlan_225 ?_
        refine T_getR hok fr_X11_121 lm_0 rm_0_67 dX11_layPlan_226 ?_
        refine T_iload hok 5 rfl dX11_layPlan_229 ?_
        refine T_iald hok lm_36 dX11_layPlan_231 ?_
        refine T_iconst hok ic_1 dX11_layPlan_232 ?_
        refine T_iadd hok dX11_layPlan_233 ?_
        refine T_iast hok hA lm_36 dX11_layPlan_234 ?_
        intro I23
        refine T_aload_n hok 0 rfl rfl dX11_layPlan_235 ?_
        refine T_getR hok fr_X11_124 lm_0 rm_0_68 dX11_layPlan_236 ?_
        refine T_iload_n hok 3 rfl rfl dX11_layPlan_239 ?_
        refine T_iload hok 6 rfl dX11_layPlan_240 ?_
        refine T_iast hok hA lm_37 dX11_layPlan_242 ?_
        intro I24
        refine T_sub (lv' := [(0, .ref (b + 0)), (1, .int x3), (2, .int x7), (3, .int x9), (4, .int x14)]) [0, 1, 2, 3, 4] rfl ?_
        exact hj243 I24
      intro j220 hj220
      refine T_icmp_ne (tgt := 220) hok dX11_layPlan_203 rfl ?_ ?_
      · refine T_iload hok 0 rfl dX11_layPlan_206 ?_
        refine T_aload_n hok 2 rfl rfl dX11_layPlan_208 ?_
        refine T_getR hok fr_X11_124 lm_0 rm_0_68 dX11_layPlan_209 ?_
        refine T_iload_n hok 5 rfl rfl dX11_layPlan_212 ?_
        refine T_iald hok lm_37 dX11_layPlan_213 ?_
        refine T_icmp_lt (tgt := 220) hok dX11_layPlan_214 rfl ?_ ?_
        · refine T_sub (lv' := [(0, .ref (b + 0)), (1, .int x3), (2, .int x7), (3, .int x9), (4, .int x14), (5, .int x20), (6, .int x22)]) [2, 3, 4, 5, 6, 1, 0] rfl ?_
          exact hj220
        refine T_goto (tgt := 243) hok dX11_layPlan_217 rfl ?_
        refine T_sub (lv' := [(0, .ref (b + 0)), (1, .int x3), (2, .int x7), (3, .int x9), (4, .int x14)]) [2, 3, 4, 5, 6] rfl ?_
        exact hj243 I15
      refine T_sub (lv' := [(0, .ref (b + 0)), (1, .int x3), (2, .int x7), (3, .int x9), (4, .int x14), (5, .int x20), (6, .int x22)]) [2, 3, 4, 5, 6, 1, 0] rfl ?_
      exact hj220
    refine T_goto (tgt := 243) hok dX11_layPlan_136 rfl ?_
    exact hj243 I15
  intro j47 hj47
  refine T_sub (lv' := [(0, .ref (b + 0)), (1, .int (0 : Int32))]) [1, 0] rfl ?_
  refine T_fix2 _ (fun (x25 : Int32) (I26 : MI) => [(0, .ref (b + 0)), (1, .int x25)]) (fun (x25 : Int32) (I26 : MI) => Rg G b Lm (Rm b) I26 J) ?_ FU (0 : Int32) I
  intro r2 hr2 x25 I26
  refine T_iload_n hok 1 rfl rfl dX11_layPlan_2 ?_
  refine T_sipush hok sp_256 dX11_layPlan_3 ?_
  refine T_icmp_ge (tgt := 47) hok dX11_layPlan_6 rfl ?_ ?_
  · refine T_sub (lv' := [(0, .ref (b + 0))]) [0] rfl ?_
    exact hj47 I26
  refine T_aload_n hok 0 rfl rfl dX11_layPlan_9 ?_
  refine T_getR hok fr_X11_121 lm_0 rm_0_67 dX11_layPlan_10 ?_
  refine T_sipush hok sp_256 dX11_layPlan_13 ?_
  refine T_aload_n hok 0 rfl rfl dX11_layPlan_16 ?_
  refine T_getI hok fr_X11_240 lm_0 dX11_layPlan_17 ?_
  refine T_imul hok dX11_layPlan_20 ?_
  refine T_iload_n hok 1 rfl rfl dX11_layPlan_21 ?_
  refine T_iadd hok dX11_layPlan_22 ?_
  refine T_iconst hok ic_0 dX11_layPlan_23 ?_
  refine T_iast hok hA lm_36 dX11_layPlan_24 ?_
  intro I27
  refine T_aload_n hok 0 rfl rfl dX11_layPlan_25 ?_
  refine T_getR hok fr_X11_124 lm_0 rm_0_68 dX11_layPlan_26 ?_
  refine T_sipush hok sp_256 dX11_layPlan_29 ?_
  refine T_aload_n hok 0 rfl rfl dX11_layPlan_32 ?_
  refine T_getI hok fr_X11_240 lm_0 dX11_layPlan_33 ?_
  refine T_imul hok dX11_layPlan_36 ?_
  refine T_iload_n hok 1 rfl rfl dX11_layPlan_37 ?_
  refine T_iadd hok dX11_layPlan_38 ?_
  refine T_iconst hok ic_0 dX11_layPlan_39 ?_
  refine T_iast hok hA lm_37 dX11_layPlan_40 ?_
  intro I28
  refine T_iinc (lvs := fun x29 => [(1, .int x29), (0, .ref (b + 0))]) hok 1 rfl ic_1 (by decide) (fun _ => rfl) dX11_layPlan_41 ?_
  intro x29
  refine T_goto (tgt := 2) hok dX11_layPlan_44 rfl ?_
  refine T_sub (lv' := [(0, .ref (b + 0)), (1, .int x29)]) [1, 0] rfl ?_
  exact hr2 x29 I28

set_option maxHeartbeats 4000000 in
set_option maxRecDepth 100000 in
theorem ct_X11_dayFor {G : Gx} {l0 : Launch} {A : Nat → Prop} {b : Nat} (hA : ∀ k, k < Lm.length → A (b + k)) (I : MI) (J : MJ) (a1 : Int32) (a2 : Int32) : Ct G l0 A yX11_dayFor cX11_dayFor 6 (some .int) { frames := 3, cells := 0, slots := 0, locals := 68 } [.ref (b + 0), .int a1, .int a2] (Rg G b Lm (Rm b) I J) (ii0 (Rg G b Lm (Rm b) I J)) (f_X11_dayFor I a1 a2) := by
  refine Ct.of rfl (Nat.le_of_ble_eq_true rfl) ?_
  intro X hok
  replace hok : Ok G l0 X RX11 cX11_dayFor 6 { frames := 3, cells := 0, slots := 0, locals := 68 } (some .int) := hok
  delta f_X11_dayFor
  show T X A (Zm X A (ii0 (Rg G b Lm (Rm b) I J))) 6 0 0 0 [(0, .ref (b + 0)), (1, .int a1), (2, .int a2)] [] (Rg G b Lm (Rm b) I J) _
  refine T_sipush hok sp_256 dX11_dayFor_0 ?_
  refine T_iload_n hok 1 rfl rfl dX11_dayFor_3 ?_
  refine T_imul hok dX11_dayFor_4 ?_
  refine T_iload_n hok 2 rfl rfl dX11_dayFor_5 ?_
  refine T_iadd hok dX11_dayFor_6 ?_
  refine T_lti ?_
  intro x1
  refine T_istore_n (lv' := [(3, .int x1), (0, .ref (b + 0)), (1, .int a1), (2, .int a2)]) hok rfl (by decide) rfl dX11_dayFor_7 ?_
  refine T_iconst hok ic_0 dX11_dayFor_8 ?_
  refine T_istore (lv' := [(4, .int (0 : Int32)), (3, .int x1), (0, .ref (b + 0)), (1, .int a1), (2, .int a2)]) hok (by decide) rfl dX11_dayFor_9 ?_
  refine T_sub (lv' := [(0, .ref (b + 0)), (1, .int a1), (2, .int a2), (3, .int x1), (4, .int (0 : Int32))]) [2, 3, 4, 1, 0] rfl ?_
  refine T_fix1 _ (fun (x2 : Int32) => [(0, .ref (b + 0)), (1, .int a1), (2, .int a2), (3, .int x1), (4, .int x2)]) (fun (x2 : Int32) => Rg G b Lm (Rm b) I J) ?_ FU (0 : Int32)
  intro r11 hr11 x2
  refine T_iload hok 4 rfl dX11_dayFor_11 ?_
  refine T_bipush hok bp_8 dX11_dayFor_13 ?_
  refine T_icmp_ge (tgt := 105) hok dX11_dayFor_15 rfl ?_ ?_
  · refine T_iconst hok ic_m1 dX11_dayFor_105 ?_
    exact T_iret hok dX11_dayFor_106 (Nat.zero_le _) (Nat.zero_le _) rfl
  refine T_iload_n hok 2 rfl rfl dX11_dayFor_18 ?_
  refine T_iload hok 4 rfl dX11_dayFor_19 ?_
  refine T_cz0 (CR_S (rest := []) hok (ct_X11_isOf a2 x2) mw_X11_isOf mst_X11_isOf ml_X11_430 dX11_dayFor_21 rfl rfl (roomOk rfl) rfl) rfl rfl ?_
  intro x3
  refine T_jp _ (fun (j99 : Option (Int32)) => T X A (Zm X A (ii0 (Rg G b Lm (Rm b) I J))) 6 0 0 99 [(0, .ref (b + 0)), (1, .int a1), (2, .int a2), (3, .int x1), (4, .int x2)] [] (Rg G b Lm (Rm b) I J) (j99)) _ ?_ ?_
  · skip
    refine T_iinc (lvs := fun x4 => [(4, .int x4), (0, .ref (b + 0)), (1, .int a1), (2, .int a2), (3, .int x1)]) hok 4 rfl ic_1 (by decide) (fun _ => rfl) dX11_dayFor_99 ?_
    intro x4
    refine T_goto (tgt := 11) hok dX11_dayFor_102 rfl ?_
    refine T_sub (lv' := [(0, .ref (b + 0)), (1, .int a1), (2, .int a2), (3, .int x1), (4, .int x4)]) [1, 2, 3, 4, 0] rfl ?_
    exact hr11 x4
  intro j99 hj99
  refine T_ifb_ne (tgt := 99) hok dX11_dayFor_24 rfl ?_ ?_
  · exact hj99
  refine T_aload_n hok 0 rfl rfl dX11_dayFor_27 ?_
  refine T_iload_n hok 1 rfl rfl dX11_dayFor_28 ?_
  refine T_iload hok 4 rfl dX11_dayFor_29 ?_
  refine T_cz0 (CR_V (rest := []) hok (ct_X11_suits hA I J a1 x2) mw_X11_suits mv_X11_suits ml_X11_482 lm_0 dX11_dayFor_31 rfl rfl (roomOk rfl) rfl) rfl rfl ?_
  intro x5
  refine T_ifb_ne (tgt := 40) hok dX11_dayFor_34 rfl ?_ ?_
  · refine T_sipush hok sp_256 dX11_dayFor_40 ?_
    refine T_iload_n hok 1 rfl rfl dX11_dayFor_43 ?_
    refine T_iconst hok ic_1 dX11_dayFor_44 ?_
    refine T_iadd hok dX11_dayFor_45 ?_
    refine T_imul hok dX11_dayFor_46 ?_
    refine T_iload_n hok 2 rfl rfl dX11_dayFor_47 ?_
    refine T_iconst hok ic_1 dX11_dayFor_48 ?_
    refine T_iload hok 4 rfl dX11_dayFor_49 ?_
    refine T_ishl hok dX11_dayFor_51 ?_
    refine T_ior hok dX11_dayFor_52 ?_
    refine T_iadd hok dX11_dayFor_53 ?_
    refine T_lti ?_
    intro x6
    refine T_istore (lv' := [(5, .int x6), (0, .ref (b + 0)), (1, .int a1), (2, .int a2), (3, .int x1), (4, .int x2)]) hok (by decide) rfl dX11_dayFor_54 ?_
    refine T_aload_n hok 1 rfl rfl dX11_dayFor_56 ?_
    refine T_getR hok fr_X11_121 lm_0 rm_0_67 dX11_dayFor_57 ?_
    refine T_iload hok 0 rfl dX11_dayFor_60 ?_
    refine T_iald hok lm_36 dX11_dayFor_62 ?_
    refine T_iconst hok ic_1 dX11_dayFor_63 ?_
    refine T_iadd hok dX11_dayFor_64 ?_
    refine T_aload_n hok 1 rfl rfl dX11_dayFor_65 ?_
    refine T_getR hok fr_X11_121 lm_0 rm_0_67 dX11_dayFor_66 ?_
    refine T_iload_n hok 4 rfl rfl dX11_dayFor_69 ?_
    refine T_iald hok lm_36 dX11_dayFor_70 ?_
    refine T_icmp_ne (tgt := 99) hok dX11_dayFor_71 rfl ?_ ?_
    · refine T_aload_n hok 1 rfl rfl dX11_dayFor_74 ?_
      refine T_getR hok fr_X11_124 lm_0 rm_0_68 dX11_dayFor_75 ?_
      refine T_iload hok 0 rfl dX11_dayFor_78 ?_
      refine T_iald hok lm_37 dX11_dayFor_80 ?_
      refine T_aload_n hok 1 rfl rfl dX11_dayFor_81 ?_
      refine T_iload_n hok 2 rfl rfl dX11_dayFor_82 ?_
      refine T_ci0 (CR_V (rest := [.int (I 37 (ix x6))]) hok (ct_X11_costOf hA I J a1) mw_X11_costOf mv_X11_costOf ml_X11_485 lm_0 dX11_dayFor_83 rfl rfl (roomOk rfl) rfl) rfl rfl ?_
      intro x7
      refine T_iadd hok dX11_dayFor_86 ?_
      refine T_aload_n hok 1 rfl rfl dX11_dayFor_87 ?_
      refine T_getR hok fr_X11_124 lm_0 rm_0_68 dX11_dayFor_88 ?_
      refine T_iload_n hok 4 rfl rfl dX11_dayFor_91 ?_
      refine T_iald hok lm_37 dX11_dayFor_92 ?_
      refine T_icmp_ne (tgt := 99) hok dX11_dayFor_93 rfl ?_ ?_
      · refine T_iload hok 5 rfl dX11_dayFor_96 ?_
        exact T_iret hok dX11_dayFor_98 (Nat.zero_le _) (Nat.zero_le _) rfl
      refine T_sub (lv' := [(0, .ref (b + 0)), (1, .int a1), (2, .int a2), (3, .int x1), (4, .int x2)]) [1, 2, 3, 4, 5] rfl ?_
      exact hj99
    refine T_sub (lv' := [(0, .ref (b + 0)), (1, .int a1), (2, .int a2), (3, .int x1), (4, .int x2)]) [1, 2, 3, 4, 5] rfl ?_
    exact hj99
  refine T_goto (tgt := 99) hok dX11_dayFor_37 rfl ?_
  exact hj99

set_option maxHeartbeats 4000000 in
set_option maxRecDepth 100000 in
theorem ct_X11_plan {G : Gx} {l0 : Launch} {A : Nat → Prop} {b : Nat} (hA : ∀ k, k < Lm.length → A (b + k)) (I : MI) (J : MJ) (a1 : Int32) (a2 : Int32) : Ct G l0 A yX11_plan cX11_plan 6 (some .int) { frames := 4, cells := 0, slots := 0, locals := 94 } [.ref (b + 0), .int a1, .int a2] (Rg G b Lm (Rm b) I J) (ii1 (fun (I' : MI) => Rg G b Lm (Rm b) I' J)) (f_X11_plan I a1 a2) := by
  refine Ct.of rfl (Nat.le_of_ble_eq_true rfl) ?_
  intro X hok
  replace hok : Ok G l0 X RX11 cX11_plan 6 { frames := 4, cells := 0, slots := 0, locals := 94 } (some .int) := hok
  delta f_X11_plan
  show T X A (Zm X A (ii1 (fun (I' : MI) => Rg G b Lm (Rm b) I' J))) 6 0 0 0 [(0, .ref (b + 0)), (1, .int a1), (2, .int a2)] [] (Rg G b Lm (Rm b) I J) _
  refine T_aload_n hok 0 rfl rfl dX11_plan_0 ?_
  refine T_iconst hok ic_0 dX11_plan_1 ?_
  refine T_putI hok hA fr_X11_151 rfl rfl lm_0 dX11_plan_2 ?_
  intro I1
  refine T_iload_n hok 1 rfl rfl dX11_plan_5 ?_
  refine T_iconst hok ic_0 dX11_plan_6 ?_
  refine T_bipush hok bp_8 dX11_plan_7 ?_
  refine T_cz0 (CR_S (rest := []) hok (ct_X11_isIn a1 (0 : Int32) (8 : Int32)) mw_X11_isIn mst_X11_isIn ml_X11_196 dX11_plan_9 rfl rfl (roomOk rfl) rfl) rfl rfl ?_
  intro x2
  refine T_jp _ (fun (j25 : Option (Int32 × MI)) => T X A (Zm X A (ii1 (fun (I' : MI) => Rg G b Lm (Rm b) I' J))) 6 0 0 25 [] [] (Rg G b Lm (Rm b) I1 J) (j25)) _ ?_ ?_
  · skip
    refine T_iconst hok ic_m1 dX11_plan_25 ?_
    exact T_iret hok dX11_plan_26 (Nat.zero_le _) (Nat.zero_le _) rfl
  intro j25 hj25
  refine T_ifb_eq (tgt := 25) hok dX11_plan_12 rfl ?_ ?_
  · refine T_iload_n hok 2 rfl rfl dX11_plan_15 ?_
    refine T_iconst hok ic_0 dX11_plan_16 ?_
    refine T_bipush hok bp_7 dX11_plan_17 ?_
    refine T_cz0 (CR_S (rest := []) hok (ct_X11_isIn a2 (0 : Int32) (7 : Int32)) mw_X11_isIn mst_X11_isIn ml_X11_196 dX11_plan_19 rfl rfl (roomOk rfl) rfl) rfl rfl ?_
    intro x3
    refine T_ifb_ne (tgt := 27) hok dX11_plan_22 rfl ?_ ?_
    · refine T_iload_n hok 2 rfl rfl dX11_plan_27 ?_
      refine T_bipush hok bp_6 dX11_plan_28 ?_
      refine T_jp _ (fun (j44 : Option (Int32 × MI)) => T X A (Zm X A (ii1 (fun (I' : MI) => Rg G b Lm (Rm b) I' J))) 6 0 0 44 [(0, .ref (b + 0)), (1, .int a1), (2, .int a2)] [] (Rg G b Lm (Rm b) I1 J) (j44)) _ ?_ ?_
      · skip
        refine T_aload_n hok 0 rfl rfl dX11_plan_44 ?_
        refine T_iload_n hok 1 rfl rfl dX11_plan_45 ?_
        refine T_putI hok hA fr_X11_479 rfl rfl lm_0 dX11_plan_46 ?_
        intro I4
        refine T_aload_n hok 0 rfl rfl dX11_plan_49 ?_
        refine T_cv1 (CR_V (rest := []) hok (ct_X11_layPlan hA I4 J) mw_X11_layPlan mv_X11_layPlan ml_X11_488 lm_0 dX11_plan_50 rfl rfl (roomOk rfl) rfl) rfl rfl ?_
        intro I5
        refine T_iload_n hok 2 rfl rfl dX11_plan_53 ?_
        refine T_iconst hok ic_5 dX11_plan_54 ?_
        refine T_icmp_le (tgt := 80) hok dX11_plan_55 rfl ?_ ?_
        · refine T_iconst hok ic_0 dX11_plan_80 ?_
          refine T_istore_n (lv' := [(3, .int (0 : Int32)), (0, .ref (b + 0)), (1, .int a1), (2, .int a2)]) hok rfl (by decide) rfl dX11_plan_81 ?_
          refine T_iconst hok ic_0 dX11_plan_82 ?_
          refine T_istore (lv' := [(4, .int (0 : Int32)), (3, .int (0 : Int32)), (0, .ref (b + 0)), (1, .int a1), (2, .int a2)]) hok (by decide) rfl dX11_plan_83 ?_
          refine T_jp _ (fun (j122 : Int32 → Option (Int32 × MI)) => ∀ (x6 : Int32), T X A (Zm X A (ii1 (fun (I' : MI) => Rg G b Lm (Rm b) I' J))) 6 0 0 122 [(0, .ref (b + 0)), (2, .int a2), (3, .int x6)] [] (Rg G b Lm (Rm b) I5 J) (j122 x6)) _ ?_ ?_
          · intro x6
            refine T_aload_n hok 0 rfl rfl dX11_plan_122 ?_
            refine T_iload_n hok 1 rfl rfl dX11_plan_123 ?_
            refine T_iload_n hok 2 rfl rfl dX11_plan_124 ?_
            refine T_ci0 (CR_V (rest := []) hok (ct_X11_dayFor hA I5 J a2 x6) mw_X11_dayFor mv_X11_dayFor ml_X11_491 lm_0 dX11_plan_125 rfl rfl (roomOk rfl) rfl) rfl rfl ?_
            intro x7
            refine T_istore (lv' := [(4, .int x7), (0, .ref (b + 0)), (2, .int a2), (3, .int x6)]) hok (by decide) rfl dX11_plan_128 ?_
            refine T_iload hok 0 rfl dX11_plan_130 ?_
            refine T_jp _ (fun (j142 : Int32 → Option (Int32 × MI)) => ∀ (x8 : Int32), T X A (Zm X A (ii1 (fun (I' : MI) => Rg G b Lm (Rm b) I' J))) 6 0 0 142 [] [.int x8] (Rg G b Lm (Rm b) I5 J) (j142 x8)) _ ?_ ?_
            · intro x8
              exact T_iret hok dX11_plan_142 (Nat.zero_le _) (Nat.zero_le _) rfl
            intro j142 hj142
            refine T_if_ge (tgt := 140) hok dX11_plan_132 rfl ?_ ?_
            · refine T_iload hok 0 rfl dX11_plan_140 ?_
              refine T_sub (lv' := []) [] rfl ?_
              exact hj142 x7
            refine T_bipush hok bp_m2 dX11_plan_135 ?_
            refine T_goto (tgt := 142) hok dX11_plan_137 rfl ?_
            refine T_sub (lv' := []) [] rfl ?_
            exact hj142 (-2 : Int32)
          intro j122 hj122
          refine T_sub (lv' := [(0, .ref (b + 0)), (2, .int a2), (3, .int (0 : Int32)), (4, .int (0 : Int32))]) [2, 4, 1, 0] rfl ?_
          refine T_fix2 _ (fun (x9 : Int32) (x10 : Int32) => [(0, .ref (b + 0)), (2, .int a2), (3, .int x9), (4, .int x10)]) (fun (x9 : Int32) (x10 : Int32) => Rg G b Lm (Rm b) I5 J) ?_ FU (0 : Int32) (0 : Int32)
          intro r85 hr85 x9 x10
          refine T_iload hok 3 rfl dX11_plan_85 ?_
          refine T_iload_n hok 1 rfl rfl dX11_plan_87 ?_
          refine T_icmp_ge (tgt := 122) hok dX11_plan_88 rfl ?_ ?_
          · refine T_sub (lv' := [(0, .ref (b + 0)), (2, .int a2), (3, .int x9)]) [0, 1, 2] rfl ?_
            exact hj122 x9
          refine T_aload_n hok 0 rfl rfl dX11_plan_91 ?_
          refine T_iload hok 3 rfl dX11_plan_92 ?_
          refine T_iload_n hok 2 rfl rfl dX11_plan_94 ?_
          refine T_ci0 (CR_V (rest := []) hok (ct_X11_dayFor hA I5 J x10 x9) mw_X11_dayFor mv_X11_dayFor ml_X11_491 lm_0 dX11_plan_95 rfl rfl (roomOk rfl) rfl) rfl rfl ?_
          intro x11
          refine T_istore (lv' := [(5, .int x11), (0, .ref (b + 0)), (2, .int a2), (3, .int x9), (4, .int x10)]) hok (by decide) rfl dX11_plan_98 ?_
          refine T_iload_n hok 3 rfl rfl dX11_plan_100 ?_
          refine T_iload hok 0 rfl dX11_plan_101 ?_
          refine T_jp _ (fun (j114 : Int32 → Int32 → Option (Int32 × MI)) => ∀ (x12 : Int32) (x13 : Int32), T X A (Zm X A (ii1 (fun (I' : MI) => Rg G b Lm (Rm b) I' J))) 6 0 0 114 [(0, .ref (b + 0)), (2, .int a2), (4, .int x10)] [.int x12, .int x13] (Rg G b Lm (Rm b) I5 J) (j114 x12 x13)) _ ?_ ?_
          · intro x12 x13
            refine T_ior hok dX11_plan_114 ?_
            refine T_lti ?_
            intro x14
            refine T_istore_n (lv' := [(3, .int x14), (0, .ref (b + 0)), (2, .int a2), (4, .int x10)]) hok rfl (by decide) rfl dX11_plan_115 ?_
            refine T_iinc (lvs := fun x15 => [(4, .int x15), (3, .int x14), (0, .ref (b + 0)), (2, .int a2)]) hok 3 rfl ic_1 (by decide) (fun _ => rfl) dX11_plan_116 ?_
            intro x15
            refine T_goto (tgt := 85) hok dX11_plan_119 rfl ?_
            refine T_sub (lv' := [(0, .ref (b + 0)), (2, .int a2), (3, .int x14), (4, .int x15)]) [2, 3, 1, 0] rfl ?_
            exact hr85 x14 x15
          intro j114 hj114
          refine T_if_ge (tgt := 110) hok dX11_plan_103 rfl ?_ ?_
          · refine T_iconst hok ic_1 dX11_plan_110 ?_
            refine T_iload hok 0 rfl dX11_plan_111 ?_
            refine T_ishl hok dX11_plan_113 ?_
            refine T_sub (lv' := [(0, .ref (b + 0)), (2, .int a2), (4, .int x10)]) [1, 2, 4] rfl ?_
            exact hj114 ((1 : Int32) <<< (x11 &&& (31 : Int32))) x9
          refine T_iconst hok ic_0 dX11_plan_106 ?_
          refine T_goto (tgt := 114) hok dX11_plan_107 rfl ?_
          refine T_sub (lv' := [(0, .ref (b + 0)), (2, .int a2), (4, .int x10)]) [1, 2, 4] rfl ?_
          exact hj114 (0 : Int32) x9
        refine T_iload_n hok 2 rfl rfl dX11_plan_58 ?_
        refine T_bipush hok bp_6 dX11_plan_59 ?_
        refine T_jp _ (fun (j79 : Int32 → Option (Int32 × MI)) => ∀ (x16 : Int32), T X A (Zm X A (ii1 (fun (I' : MI) => Rg G b Lm (Rm b) I' J))) 6 0 0 79 [] [.int x16] (Rg G b Lm (Rm b) I5 J) (j79 x16)) _ ?_ ?_
        · intro x16
          exact T_iret hok dX11_plan_79 (Nat.zero_le _) (Nat.zero_le _) rfl
        intro j79 hj79
        refine T_icmp_ne (tgt := 73) hok dX11_plan_61 rfl ?_ ?_
        · refine T_aload_n hok 0 rfl rfl dX11_plan_64 ?_
          refine T_getR hok fr_X11_121 lm_0 rm_0_67 dX11_plan_65 ?_
          refine T_iconst hok ic_0 dX11_plan_68 ?_
          refine T_iald hok lm_36 dX11_plan_69 ?_
          refine T_goto (tgt := 79) hok dX11_plan_70 rfl ?_
          refine T_sub (lv' := []) [] rfl ?_
          exact hj79 (I5 36 (ix (0 : Int32)))
        refine T_aload_n hok 0 rfl rfl dX11_plan_73 ?_
        refine T_getR hok fr_X11_124 lm_0 rm_0_68 dX11_plan_74 ?_
        refine T_iconst hok ic_0 dX11_plan_77 ?_
        refine T_iald hok lm_37 dX11_plan_78 ?_
        refine T_sub (lv' := []) [] rfl ?_
        exact hj79 (I5 37 (ix (0 : Int32)))
      intro j44 hj44
      refine T_icmp_ge (tgt := 44) hok dX11_plan_30 rfl ?_ ?_
      · exact hj44
      refine T_iload_n hok 2 rfl rfl dX11_plan_33 ?_
      refine T_aload_n hok 0 rfl rfl dX11_plan_34 ?_
      refine T_getI hok fr_X11_240 lm_0 dX11_plan_35 ?_
      refine T_icmp_lt (tgt := 44) hok dX11_plan_38 rfl ?_ ?_
      · exact hj44
      refine T_bipush hok bp_m2 dX11_plan_41 ?_
      exact T_iret hok dX11_plan_43 (Nat.zero_le _) (Nat.zero_le _) rfl
    refine T_sub (lv' := []) [] rfl ?_
    exact hj25
  refine T_sub (lv' := []) [] rfl ?_
  exact hj25
