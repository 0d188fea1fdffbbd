set_option maxHeartbeats 4000000 in
set_option maxRecDepth 100000 in
theorem ct_X11_take {G : Gx} {l0 : Launch} {A : Nat → Prop} {b : Nat} {pa na : Nat} (hA : ∀ k, k < Lm.length → A (b + k)) (hpa : Lm[pa]? = some (.inr (0, na))) (I : MI) (J : MJ) (a2 : Int32) : Ct G l0 A yX11_take cX11_take 4 none { frames := 0, cells := 0, slots := 0, locals := 0 } [.ref (b + 0), .ref (b + pa), .int a2] (Rg G b Lm (Rm b) I J) (iv1 (fun (I' : MI) => Rg G b Lm (Rm b) I' J)) (f_X11_take I pa na a2) := by
  refine Ct.of rfl (Nat.le_of_ble_eq_true rfl) ?_
  intro X hok
  replace hok : Ok G l0 X RX11 cX11_take 4 { frames := 0, cells := 0, slots := 0, locals := 0 } none := hok
  delta f_X11_take
  show T X A (Zm X A (iv1 (fun (I' : MI) => Rg G b Lm (Rm b) I' J))) 4 0 0 0 [(0, .ref (b + 0)), (1, .ref (b + pa)), (2, .int a2)] [] (Rg G b Lm (Rm b) I J) _
  refine T_aload_n hok 0 rfl rfl dX11_take_0 ?_
  refine T_getR hok fr_X11_109 lm_0 rm_0_58 dX11_take_1 ?_
  refine T_iconst hok ic_0 dX11_take_4 ?_
  refine T_aload_n hok 1 rfl rfl dX11_take_5 ?_
  refine T_iload_n hok 2 rfl rfl dX11_take_6 ?_
  refine T_iald hok hpa dX11_take_7 ?_
  refine T_iast hok hA lm_32 dX11_take_8 ?_
  intro I1
  refine T_aload_n hok 0 rfl rfl dX11_take_9 ?_
  refine T_getR hok fr_X11_112 lm_0 rm_0_59 dX11_take_10 ?_
  refine T_iconst hok ic_0 dX11_take_13 ?_
  refine T_aload_n hok 1 rfl rfl dX11_take_14 ?_
  refine T_iload_n hok 2 rfl rfl dX11_take_15 ?_
  refine T_iconst hok ic_1 dX11_take_16 ?_
  refine T_iadd hok dX11_take_17 ?_
  refine T_iald hok hpa dX11_take_18 ?_
  refine T_iast hok hA lm_33 dX11_take_19 ?_
  intro I2
  refine T_iconst hok ic_0 dX11_take_20 ?_
  refine T_istore_n (lv' := [(3, .int (0 : Int32)), (0, .ref (b + 0)), (1, .ref (b + pa)), (2, .int a2)]) hok rfl (by decide) rfl dX11_take_21 ?_
  refine T_sub (lv' := [(0, .ref (b + 0)), (1, .ref (b + pa)), (2, .int a2), (3, .int (0 : Int32))]) [1, 2, 3, 0] rfl ?_
  refine T_fix2 _ (fun (x3 : Int32) (I4 : MI) => [(0, .ref (b + 0)), (1, .ref (b + pa)), (2, .int a2), (3, .int x3)]) (fun (x3 : Int32) (I4 : MI) => Rg G b Lm (Rm b) I4 J) ?_ FU (0 : Int32) I2
  intro r22 hr22 x3 I4
  refine T_iload_n hok 3 rfl rfl dX11_take_22 ?_
  refine T_bipush hok bp_6 dX11_take_23 ?_
  refine T_icmp_ge (tgt := 47) hok dX11_take_25 rfl ?_ ?_
  · exact T_vret hok dX11_take_47 (Nat.zero_le _) (Nat.zero_le _) rfl
  refine T_aload_n hok 0 rfl rfl dX11_take_28 ?_
  refine T_getR hok fr_X11_91 lm_0 rm_0_52 dX11_take_29 ?_
  refine T_iload_n hok 3 rfl rfl dX11_take_32 ?_
  refine T_aload_n hok 1 rfl rfl dX11_take_33 ?_
  refine T_iload_n hok 2 rfl rfl dX11_take_34 ?_
  refine T_iconst hok ic_2 dX11_take_35 ?_
  refine T_iadd hok dX11_take_36 ?_
  refine T_iload_n hok 3 rfl rfl dX11_take_37 ?_
  refine T_iadd hok dX11_take_38 ?_
  refine T_iald hok hpa dX11_take_39 ?_
  refine T_iast hok hA lm_26 dX11_take_40 ?_
  intro I5
  refine T_iinc (lvs := fun x6 => [(3, .int x6), (0, .ref (b + 0)), (1, .ref (b + pa)), (2, .int a2)]) hok 3 rfl ic_1 (by decide) (fun _ => rfl) dX11_take_41 ?_
  intro x6
  refine T_goto (tgt := 22) hok dX11_take_44 rfl ?_
  refine T_sub (lv' := [(0, .ref (b + 0)), (1, .ref (b + pa)), (2, .int a2), (3, .int x6)]) [1, 2, 3, 0] rfl ?_
  exact hr22 x6 I5

set_option maxHeartbeats 4000000 in
set_option maxRecDepth 100000 in
theorem ct_X11_undo {G : Gx} {l0 : Launch} {A : Nat → Prop} {b : Nat} (hA : ∀ k, k < Lm.length → A (b + k)) (I : MI) (J : MJ) : Ct G l0 A yX11_undo cX11_undo 1 (some .int) { frames := 1, cells := 0, slots := 0, locals := 23 } [.ref (b + 0)] (Rg G b Lm (Rm b) I J) (ii1 (fun (I' : MI) => Rg G b Lm (Rm b) I' J)) (f_X11_undo I) := by
  refine Ct.of rfl (Nat.le_of_ble_eq_true rfl) ?_
  intro X hok
  replace hok : Ok G l0 X RX11 cX11_undo 1 { frames := 1, cells := 0, slots := 0, locals := 23 } (some .int) := hok
  delta f_X11_undo
  show T X A (Zm X A (ii1 (fun (I' : MI) => Rg G b Lm (Rm b) I' J))) 1 0 0 0 [(0, .ref (b + 0))] [] (Rg G b Lm (Rm b) I J) _
  refine T_aload_n hok 0 rfl rfl dX11_undo_0 ?_
  refine T_iconst hok ic_0 dX11_undo_1 ?_
  refine T_putI hok hA fr_X11_151 rfl rfl lm_0 dX11_undo_2 ?_
  intro I1
  refine T_aload_n hok 0 rfl rfl dX11_undo_5 ?_
  refine T_getI hok fr_X11_365 lm_0 dX11_undo_6 ?_
  refine T_if_ne (tgt := 14) hok dX11_undo_9 rfl ?_ ?_
  · refine T_iconst hok ic_m1 dX11_undo_12 ?_
    exact T_iret hok dX11_undo_13 (Nat.zero_le _) (Nat.zero_le _) rfl
  refine T_aload_n hok 0 rfl rfl dX11_undo_14 ?_
  refine T_dup hok rfl dX11_undo_15 ?_
  refine T_getI hok fr_X11_365 lm_0 dX11_undo_16 ?_
  refine T_iconst hok ic_1 dX11_undo_19 ?_
  refine T_isub hok dX11_undo_20 ?_
  refine T_putI hok hA fr_X11_365 rfl rfl lm_0 dX11_undo_21 ?_
  intro I2
  refine T_aload_n hok 0 rfl rfl dX11_undo_24 ?_
  refine T_aload_n hok 0 rfl rfl dX11_undo_25 ?_
  refine T_getR hok fr_X11_136 lm_0 rm_0_75 dX11_undo_26 ?_
  refine T_bipush hok bp_8 dX11_undo_29 ?_
  refine T_aload_n hok 0 rfl rfl dX11_undo_31 ?_
  refine T_getI hok fr_X11_365 lm_0 dX11_undo_32 ?_
  refine T_imul hok dX11_undo_35 ?_
  refine T_cv1 (CR_V (rest := []) hok (ct_X11_take hA lm_40 I2 J ((8 : Int32) * (I2 0 74))) mw_X11_take mv_X11_take ml_X11_541 lm_0 dX11_undo_36 rfl rfl (roomOk rfl) rfl) rfl rfl ?_
  intro I3
  refine T_aload_n hok 0 rfl rfl dX11_undo_39 ?_
  refine T_getI hok fr_X11_365 lm_0 dX11_undo_40 ?_
  exact T_iret hok dX11_undo_43 (Nat.zero_le _) (Nat.zero_le _) rfl

set_option maxHeartbeats 4000000 in
set_option maxRecDepth 100000 in
theorem ct_X11_keep {G : Gx} {l0 : Launch} {A : Nat → Prop} {b : Nat} (hA : ∀ k, k < Lm.length → A (b + k)) (I : MI) (J : MJ) : Ct G l0 A yX11_keep cX11_keep 2 (some .int) { frames := 1, cells := 0, slots := 0, locals := 23 } [.ref (b + 0)] (Rg G b Lm (Rm b) I J) (ii2 (fun (I' : MI) (J' : MJ) => Rg G b Lm (Rm b) I' J')) (f_X11_keep I J) := by
  refine Ct.of rfl (Nat.le_of_ble_eq_true rfl) ?_
  intro X hok
  replace hok : Ok G l0 X RX11 cX11_keep 2 { frames := 1, cells := 0, slots := 0, locals := 23 } (some .int) := hok
  delta f_X11_keep
  show T X A (Zm X A (ii2 (fun (I' : MI) (J' : MJ) => Rg G b Lm (Rm b) I' J'))) 2 0 0 0 [(0, .ref (b + 0))] [] (Rg G b Lm (Rm b) I J) _
  refine T_aload_n hok 0 rfl rfl dX11_keep_0 ?_
  refine T_iconst hok ic_0 dX11_keep_1 ?_
  refine T_putI hok hA fr_X11_151 rfl rfl lm_0 dX11_keep_2 ?_
  intro I1
  refine T_aload_n hok 0 rfl rfl dX11_keep_5 ?_
  refine T_iconst hok ic_1 dX11_keep_6 ?_
  refine T_putZ hok hA fr_X11_368 rfl rfl lm_0 dX11_keep_7 ?_
  intro I2
  refine T_aload_n hok 0 rfl rfl dX11_keep_10 ?_
  refine T_aload_n hok 0 rfl rfl dX11_keep_11 ?_
  refine T_getR hok fr_X11_139 lm_0 rm_0_77 dX11_keep_12 ?_
  refine T_iconst hok ic_0 dX11_keep_15 ?_
  refine T_cv1 (CR_V (rest := []) hok (ct_X11_put hA lm_41 I2 J (0 : Int32)) mw_X11_put mv_X11_put ml_X11_538 lm_0 dX11_keep_16 rfl rfl (roomOk rfl) rfl) rfl rfl ?_
  intro I3
  refine T_iconst hok ic_0 dX11_keep_19 ?_
  refine T_istore_n (lv' := [(1, .int (0 : Int32)), (0, .ref (b + 0))]) hok rfl (by decide) rfl dX11_keep_20 ?_
  refine T_jp _ (fun (j90 : MI → Option (Int32 × MI × MJ)) => ∀ (I4 : MI), T X A (Zm X A (ii2 (fun (I' : MI) (J' : MJ) => Rg G b Lm (Rm b) I' J'))) 2 0 0 90 [(0, .ref (b + 0))] [] (Rg G b Lm (Rm b) I4 J) (j90 I4)) _ ?_ ?_
  · intro I4
    refine T_aload_n hok 0 rfl rfl dX11_keep_90 ?_
    refine T_getR hok fr_X11_142 lm_0 rm_0_78 dX11_keep_91 ?_
    refine T_bipush hok bp_24 dX11_keep_94 ?_
    refine T_aload_n hok 0 rfl rfl dX11_keep_96 ?_
    refine T_getR hok fr_X11_106 lm_0 rm_0_57 dX11_keep_97 ?_
    refine T_iconst hok ic_0 dX11_keep_100 ?_
    refine T_iald hok lm_31 dX11_keep_101 ?_
    refine T_iast hok hA lm_42 dX11_keep_102 ?_
    intro I5
    refine T_aload_n hok 0 rfl rfl dX11_keep_103 ?_
    refine T_getR hok fr_X11_142 lm_0 rm_0_78 dX11_keep_104 ?_
    refine T_bipush hok bp_25 dX11_keep_107 ?_
    refine T_aload_n hok 0 rfl rfl dX11_keep_109 ?_
    refine T_getR hok fr_X11_115 lm_0 rm_0_60 dX11_keep_110 ?_
    refine T_iconst hok ic_0 dX11_keep_113 ?_
    refine T_iald hok lm_34 dX11_keep_114 ?_
    refine T_iast hok hA lm_42 dX11_keep_115 ?_
    intro I6
    refine T_aload_n hok 0 rfl rfl dX11_keep_116 ?_
    refine T_getR hok fr_X11_142 lm_0 rm_0_78 dX11_keep_117 ?_
    refine T_bipush hok bp_26 dX11_keep_120 ?_
    refine T_aload_n hok 0 rfl rfl dX11_keep_122 ?_
    refine T_getR hok fr_X11_118 lm_0 rm_0_61 dX11_keep_123 ?_
    refine T_iconst hok ic_0 dX11_keep_126 ?_
    refine T_iald hok lm_35 dX11_keep_127 ?_
    refine T_iast hok hA lm_42 dX11_keep_128 ?_
    intro I7
    refine T_aload_n hok 0 rfl rfl dX11_keep_129 ?_
    refine T_aload_n hok 0 rfl rfl dX11_keep_130 ?_
    refine T_getJ hok fr_X11_355 lm_0 dX11_keep_131 ?_
    refine T_putJ hok hA fr_X11_544 rfl lm_0 dX11_keep_134 ?_
    intro J8
    refine T_aload_n hok 0 rfl rfl dX11_keep_137 ?_
    refine T_getR hok fr_X11_118 lm_0 rm_0_61 dX11_keep_138 ?_
    refine T_iconst hok ic_0 dX11_keep_141 ?_
    refine T_iald hok lm_35 dX11_keep_142 ?_
    exact T_iret hok dX11_keep_143 (Nat.zero_le _) (Nat.zero_le _) rfl
  intro j90 hj90
  refine T_sub (lv' := [(0, .ref (b + 0)), (1, .int (0 : Int32))]) [1, 0] rfl ?_
  refine T_fix2 _ (fun (x9 : Int32) (I10 : MI) => [(0, .ref (b + 0)), (1, .int x9)]) (fun (x9 : Int32) (I10 : MI) => Rg G b Lm (Rm b) I10 J) ?_ FU (0 : Int32) I3
  intro r21 hr21 x9 I10
  refine T_iload_n hok 1 rfl rfl dX11_keep_21 ?_
  refine T_bipush hok bp_6 dX11_keep_22 ?_
  refine T_icmp_ge (tgt := 90) hok dX11_keep_24 rfl ?_ ?_
  · refine T_sub (lv' := [(0, .ref (b + 0))]) [0] rfl ?_
    exact hj90 I10
  refine T_aload_n hok 0 rfl rfl dX11_keep_27 ?_
  refine T_getR hok fr_X11_142 lm_0 rm_0_78 dX11_keep_28 ?_
  refine T_iload_n hok 1 rfl rfl dX11_keep_31 ?_
  refine T_aload_n hok 0 rfl rfl dX11_keep_32 ?_
  refine T_getR hok fr_X11_94 lm_0 rm_0_53 dX11_keep_33 ?_
  refine T_iload_n hok 1 rfl rfl dX11_keep_36 ?_
  refine T_iald hok lm_27 dX11_keep_37 ?_
  refine T_iast hok hA lm_42 dX11_keep_38 ?_
  intro I11
  refine T_aload_n hok 0 rfl rfl dX11_keep_39 ?_
  refine T_getR hok fr_X11_142 lm_0 rm_0_78 dX11_keep_40 ?_
  refine T_bipush hok bp_6 dX11_keep_43 ?_
  refine T_iload_n hok 1 rfl rfl dX11_keep_45 ?_
  refine T_iadd hok dX11_keep_46 ?_
  refine T_aload_n hok 0 rfl rfl dX11_keep_47 ?_
  refine T_getR hok fr_X11_97 lm_0 rm_0_54 dX11_keep_48 ?_
  refine T_iload_n hok 1 rfl rfl dX11_keep_51 ?_
  refine T_iald hok lm_28 dX11_keep_52 ?_
  refine T_iast hok hA lm_42 dX11_keep_53 ?_
  intro I12
  refine T_aload_n hok 0 rfl rfl dX11_keep_54 ?_
  refine T_getR hok fr_X11_142 lm_0 rm_0_78 dX11_keep_55 ?_
  refine T_bipush hok bp_12 dX11_keep_58 ?_
  refine T_iload_n hok 1 rfl rfl dX11_keep_60 ?_
  refine T_iadd hok dX11_keep_61 ?_
  refine T_aload_n hok 0 rfl rfl dX11_keep_62 ?_
  refine T_getR hok fr_X11_100 lm_0 rm_0_55 dX11_keep_63 ?_
  refine T_iload_n hok 1 rfl rfl dX11_keep_66 ?_
  refine T_iald hok lm_29 dX11_keep_67 ?_
  refine T_iast hok hA lm_42 dX11_keep_68 ?_
  intro I13
  refine T_aload_n hok 0 rfl rfl dX11_keep_69 ?_
  refine T_getR hok fr_X11_142 lm_0 rm_0_78 dX11_keep_70 ?_
  refine T_bipush hok bp_18 dX11_keep_73 ?_
  refine T_iload_n hok 1 rfl rfl dX11_keep_75 ?_
  refine T_iadd hok dX11_keep_76 ?_
  refine T_aload_n hok 0 rfl rfl dX11_keep_77 ?_
  refine T_getR hok fr_X11_103 lm_0 rm_0_56 dX11_keep_78 ?_
  refine T_iload_n hok 1 rfl rfl dX11_keep_81 ?_
  refine T_iald hok lm_30 dX11_keep_82 ?_
  refine T_iast hok hA lm_42 dX11_keep_83 ?_
  intro I14
  refine T_iinc (lvs := fun x15 => [(1, .int x15), (0, .ref (b + 0))]) hok 1 rfl ic_1 (by decide) (fun _ => rfl) dX11_keep_84 ?_
  intro x15
  refine T_goto (tgt := 21) hok dX11_keep_87 rfl ?_
  refine T_sub (lv' := [(0, .ref (b + 0)), (1, .int x15)]) [1, 0] rfl ?_
  exact hr21 x15 I14

set_option maxHeartbeats 4000000 in
set_option maxRecDepth 100000 in
theorem ct_X11_back {G : Gx} {l0 : Launch} {A : Nat → Prop} {b : Nat} (hA : ∀ k, k < Lm.length → A (b + k)) (I : MI) (J : MJ) : Ct G l0 A yX11_back cX11_back 2 (some .int) { frames := 1, cells := 0, slots := 0, locals := 23 } [.ref (b + 0)] (Rg G b Lm (Rm b) I J) (ii2 (fun (I' : MI) (J' : MJ) => Rg G b Lm (Rm b) I' J')) (f_X11_back I J) := by
  refine Ct.of rfl (Nat.le_of_ble_eq_true rfl) ?_
  intro X hok
  replace hok : Ok G l0 X RX11 cX11_back 2 { frames := 1, cells := 0, slots := 0, locals := 23 } (some .int) := hok
  delta f_X11_back
  show T X A (Zm X A (ii2 (fun (I' : MI) (J' : MJ) => Rg G b Lm (Rm b) I' J'))) 2 0 0 0 [(0, .ref (b + 0))] [] (Rg G b Lm (Rm b) I J) _
  refine T_aload_n hok 0 rfl rfl dX11_back_0 ?_
  refine T_iconst hok ic_0 dX11_back_1 ?_
  refine T_putI hok hA fr_X11_151 rfl rfl lm_0 dX11_back_2 ?_
  intro I1
  refine T_aload_n hok 0 rfl rfl dX11_back_5 ?_
  refine T_getI hok fr_X11_368 lm_0 dX11_back_6 ?_
  refine T_if_ne (tgt := 14) hok dX11_back_9 rfl ?_ ?_
  · refine T_iconst hok ic_m1 dX11_back_12 ?_
    exact T_iret hok dX11_back_13 (Nat.zero_le _) (Nat.zero_le _) rfl
  refine T_aload_n hok 0 rfl rfl dX11_back_14 ?_
  refine T_aload_n hok 0 rfl rfl dX11_back_15 ?_
  refine T_getR hok fr_X11_139 lm_0 rm_0_77 dX11_back_16 ?_
  refine T_iconst hok ic_0 dX11_back_19 ?_
  refine T_cv1 (CR_V (rest := []) hok (ct_X11_take hA lm_41 I1 J (0 : Int32)) mw_X11_take mv_X11_take ml_X11_541 lm_0 dX11_back_20 rfl rfl (roomOk rfl) rfl) rfl rfl ?_
  intro I2
  refine T_iconst hok ic_0 dX11_back_23 ?_
  refine T_istore_n (lv' := [(1, .int (0 : Int32)), (0, .ref (b + 0))]) hok rfl (by decide) rfl dX11_back_24 ?_
  refine T_jp _ (fun (j94 : MI → Option (Int32 × MI × MJ)) => ∀ (I3 : MI), T X A (Zm X A (ii2 (fun (I' : MI) (J' : MJ) => Rg G b Lm (Rm b) I' J'))) 2 0 0 94 [(0, .ref (b + 0))] [] (Rg G b Lm (Rm b) I3 J) (j94 I3)) _ ?_ ?_
  · intro I3
    refine T_aload_n hok 0 rfl rfl dX11_back_94 ?_
    refine T_getR hok fr_X11_106 lm_0 rm_0_57 dX11_back_95 ?_
    refine T_iconst hok ic_0 dX11_back_98 ?_
    refine T_aload_n hok 0 rfl rfl dX11_back_99 ?_
    refine T_getR hok fr_X11_142 lm_0 rm_0_78 dX11_back_100 ?_
    refine T_bipush hok bp_24 dX11_back_103 ?_
    refine T_iald hok lm_42 dX11_back_105 ?_
    refine T_iast hok hA lm_31 dX11_back_106 ?_
    intro I4
    refine T_aload_n hok 0 rfl rfl dX11_back_107 ?_
    refine T_getR hok fr_X11_115 lm_0 rm_0_60 dX11_back_108 ?_
    refine T_iconst hok ic_0 dX11_back_111 ?_
    refine T_aload_n hok 0 rfl rfl dX11_back_112 ?_
    refine T_getR hok fr_X11_142 lm_0 rm_0_78 dX11_back_113 ?_
    refine T_bipush hok bp_25 dX11_back_116 ?_
    refine T_iald hok lm_42 dX11_back_118 ?_
    refine T_iast hok hA lm_34 dX11_back_119 ?_
    intro I5
    refine T_aload_n hok 0 rfl rfl dX11_back_120 ?_
    refine T_getR hok fr_X11_118 lm_0 rm_0_61 dX11_back_121 ?_
    refine T_iconst hok ic_0 dX11_back_124 ?_
    refine T_aload_n hok 0 rfl rfl dX11_back_125 ?_
    refine T_getR hok fr_X11_142 lm_0 rm_0_78 dX11_back_126 ?_
    refine T_bipush hok bp_26 dX11_back_129 ?_
    refine T_iald hok lm_42 dX11_back_131 ?_
    refine T_iast hok hA lm_35 dX11_back_132 ?_
    intro I6
    refine T_aload_n hok 0 rfl rfl dX11_back_133 ?_
    refine T_aload_n hok 0 rfl rfl dX11_back_134 ?_
    refine T_getJ hok fr_X11_544 lm_0 dX11_back_135 ?_
    refine T_putJ hok hA fr_X11_355 rfl lm_0 dX11_back_138 ?_
    intro J7
    refine T_aload_n hok 0 rfl rfl dX11_back_141 ?_
    refine T_iconst hok ic_0 dX11_back_142 ?_
    refine T_putI hok hA fr_X11_365 rfl rfl lm_0 dX11_back_143 ?_
    intro I8
    refine T_aload_n hok 0 rfl rfl dX11_back_146 ?_
    refine T_getR hok fr_X11_118 lm_0 rm_0_61 dX11_back_147 ?_
    refine T_iconst hok ic_0 dX11_back_150 ?_
    refine T_iald hok lm_35 dX11_back_151 ?_
    exact T_iret hok dX11_back_152 (Nat.zero_le _) (Nat.zero_le _) rfl
  intro j94 hj94
  refine T_sub (lv' := [(0, .ref (b + 0)), (1, .int (0 : Int32))]) [1, 0] rfl ?_
  refine T_fix2 _ (fun (x9 : Int32) (I10 : MI) => [(0, .ref (b + 0)), (1, .int x9)]) (fun (x9 : Int32) (I10 : MI) => Rg G b Lm (Rm b) I10 J) ?_ FU (0 : Int32) I2
  intro r25 hr25 x9 I10
  refine T_iload_n hok 1 rfl rfl dX11_back_25 ?_
  refine T_bipush hok bp_6 dX11_back_26 ?_
  refine T_icmp_ge (tgt := 94) hok dX11_back_28 rfl ?_ ?_
  · refine T_sub (lv' := [(0, .ref (b + 0))]) [0] rfl ?_
    exact hj94 I10
  refine T_aload_n hok 0 rfl rfl dX11_back_31 ?_
  refine T_getR hok fr_X11_94 lm_0 rm_0_53 dX11_back_32 ?_
  refine T_iload_n hok 1 rfl rfl dX11_back_35 ?_
  refine T_aload_n hok 0 rfl rfl dX11_back_36 ?_
  refine T_getR hok fr_X11_142 lm_0 rm_0_78 dX11_back_37 ?_
  refine T_iload_n hok 1 rfl rfl dX11_back_40 ?_
  refine T_iald hok lm_42 dX11_back_41 ?_
  refine T_iast hok hA lm_27 dX11_back_42 ?_
  intro I11
  refine T_aload_n hok 0 rfl rfl dX11_back_43 ?_
  refine T_getR hok fr_X11_97 lm_0 rm_0_54 dX11_back_44 ?_
  refine T_iload_n hok 1 rfl rfl dX11_back_47 ?_
  refine T_aload_n hok 0 rfl rfl dX11_back_48 ?_
  refine T_getR hok fr_X11_142 lm_0 rm_0_78 dX11_back_49 ?_
  refine T_bipush hok bp_6 dX11_back_52 ?_
  refine T_iload_n hok 1 rfl rfl dX11_back_54 ?_
  refine T_iadd hok dX11_back_55 ?_
  refine T_iald hok lm_42 dX11_back_56 ?_
  refine T_iast hok hA lm_28 dX11_back_57 ?_
  intro I12
  refine T_aload_n hok 0 rfl rfl dX11_back_58 ?_
  refine T_getR hok fr_X11_100 lm_0 rm_0_55 dX11_back_59 ?_
  refine T_iload_n hok 1 rfl rfl dX11_back_62 ?_
  refine T_aload_n hok 0 rfl rfl dX11_back_63 ?_
  refine T_getR hok fr_X11_142 lm_0 rm_0_78 dX11_back_64 ?_
  refine T_bipush hok bp_12 dX11_back_67 ?_
  refine T_iload_n hok 1 rfl rfl dX11_back_69 ?_
  refine T_iadd hok dX11_back_70 ?_
  refine T_iald hok lm_42 dX11_back_71 ?_
  refine T_iast hok hA lm_29 dX11_back_72 ?_
  intro I13
  refine T_aload_n hok 0 rfl rfl dX11_back_73 ?_
  refine T_getR hok fr_X11_103 lm_0 rm_0_56 dX11_back_74 ?_
  refine T_iload_n hok 1 rfl rfl dX11_back_77 ?_
  refine T_aload_n hok 0 rfl rfl dX11_back_78 ?_
  refine T_getR hok fr_X11_142 lm_0 rm_0_78 dX11_back_79 ?_
  refine T_bipush hok bp_18 dX11_back_82 ?_
  refine T_iload_n hok 1 rfl rfl dX11_back_84 ?_
  refine T_iadd hok dX11_back_85 ?_
  refine T_iald hok lm_42 dX11_back_86 ?_
  refine T_iast hok hA lm_30 dX11_back_87 ?_
  intro I14
  refine T_iinc (lvs := fun x15 => [(1, .int x15), (0, .ref (b + 0))]) hok 1 rfl ic_1 (by decide) (fun _ => rfl) dX11_back_88 ?_
  intro x15
  refine T_goto (tgt := 25) hok dX11_back_91 rfl ?_
  refine T_sub (lv' := [(0, .ref (b + 0)), (1, .int x15)]) [1, 0] rfl ?_
  exact hr25 x15 I14

set_option maxHeartbeats 4000000 in
set_option maxRecDepth 100000 in
theorem ct_X11_count {G : Gx} {l0 : Launch} {A : Nat → Prop} {b : Nat} (hA : ∀ k, k < Lm.length → A (b + k)) (I : MI) (J : MJ) (a1 : Int32) : Ct G l0 A yX11_count cX11_count 4 (some .int) { frames := 1, cells := 0, slots := 0, locals := 23 } [.ref (b + 0), .int a1] (Rg G b Lm (Rm b) I J) (ii1 (fun (I' : MI) => Rg G b Lm (Rm b) I' J)) (f_X11_count I a1) := by
  refine Ct.of rfl (Nat.le_of_ble_eq_true rfl) ?_
  intro X hok
  replace hok : Ok G l0 X RX11 cX11_count 4 { frames := 1, cells := 0, slots := 0, locals := 23 } (some .int) := hok
  delta f_X11_count
  show T X A (Zm X A (ii1 (fun (I' : MI) => Rg G b Lm (Rm b) I' J))) 4 0 0 0 [(0, .ref (b + 0)), (1, .int a1)] [] (Rg G b Lm (Rm b) I J) _
  refine T_aload_n hok 0 rfl rfl dX11_count_0 ?_
  refine T_iconst hok ic_0 dX11_count_1 ?_
  refine T_putI hok hA fr_X11_151 rfl rfl lm_0 dX11_count_2 ?_
  intro I1
  refine T_iconst hok ic_0 dX11_count_5 ?_
  refine T_istore_n (lv' := [(2, .int (0 : Int32)), (0, .ref (b + 0)), (1, .int a1)]) hok rfl (by decide) rfl dX11_count_6 ?_
  refine T_iload_n hok 2 rfl rfl dX11_count_7 ?_
  refine T_swc (fun hx0 => ?_) (fun hx0 => ?_)
  · refine T_tin (tgt := 76) hok hx0 dX11_count_8 (by decide) (by decide) rfl rfl ?_
    refine T_aload_n hok 1 rfl rfl dX11_count_76 ?_
    refine T_getI hok fr_X11_231 lm_0 dX11_count_77 ?_
    exact T_iret hok dX11_count_80 (Nat.zero_le _) (Nat.zero_le _) rfl
  refine T_swc (fun hx1 => ?_) (fun hx1 => ?_)
  · refine T_tin (tgt := 81) hok hx1 dX11_count_8 (by decide) (by decide) rfl rfl ?_
    refine T_aload_n hok 1 rfl rfl dX11_count_81 ?_
    refine T_getI hok fr_X11_234 lm_0 dX11_count_82 ?_
    exact T_iret hok dX11_count_85 (Nat.zero_le _) (Nat.zero_le _) rfl
  refine T_swc (fun hx2 => ?_) (fun hx2 => ?_)
  · refine T_tin (tgt := 86) hok hx2 dX11_count_8 (by decide) (by decide) rfl rfl ?_
    refine T_aload_n hok 1 rfl rfl dX11_count_86 ?_
    refine T_getI hok fr_X11_240 lm_0 dX11_count_87 ?_
    exact T_iret hok dX11_count_90 (Nat.zero_le _) (Nat.zero_le _) rfl
  refine T_swc (fun hx3 => ?_) (fun hx3 => ?_)
  · refine T_tin (tgt := 91) hok hx3 dX11_count_8 (by decide) (by decide) rfl rfl ?_
    refine T_aload_n hok 1 rfl rfl dX11_count_91 ?_
    refine T_getI hok fr_X11_243 lm_0 dX11_count_92 ?_
    exact T_iret hok dX11_count_95 (Nat.zero_le _) (Nat.zero_le _) rfl
  refine T_swc (fun hx4 => ?_) (fun hx4 => ?_)
  · refine T_tin (tgt := 96) hok hx4 dX11_count_8 (by decide) (by decide) rfl rfl ?_
    refine T_aload_n hok 1 rfl rfl dX11_count_96 ?_
    refine T_getR hok fr_X11_118 lm_0 rm_0_61 dX11_count_97 ?_
    refine T_iconst hok ic_0 dX11_count_100 ?_
    refine T_iald hok lm_35 dX11_count_101 ?_
    exact T_iret hok dX11_count_102 (Nat.zero_le _) (Nat.zero_le _) rfl
  refine T_swc (fun hx5 => ?_) (fun hx5 => ?_)
  · refine T_tin (tgt := 103) hok hx5 dX11_count_8 (by decide) (by decide) rfl rfl ?_
    refine T_aload_n hok 1 rfl rfl dX11_count_103 ?_
    refine T_getR hok fr_X11_106 lm_0 rm_0_57 dX11_count_104 ?_
    refine T_iconst hok ic_0 dX11_count_107 ?_
    refine T_iald hok lm_31 dX11_count_108 ?_
    refine T_ci0 (CR_S (rest := []) hok (ct_X11_manyOf (I1 31 (ix (0 : Int32)))) mw_X11_manyOf mst_X11_manyOf ml_X11_467 dX11_count_109 rfl rfl (roomOk rfl) rfl) rfl rfl ?_
    intro x2
    exact T_iret hok dX11_count_112 (Nat.zero_le _) (Nat.zero_le _) rfl
  refine T_swc (fun hx6 => ?_) (fun hx6 => ?_)
  · refine T_tin (tgt := 113) hok hx6 dX11_count_8 (by decide) (by decide) rfl rfl ?_
    refine T_iconst hok ic_0 dX11_count_113 ?_
    refine T_istore_n (lv' := [(3, .int (0 : Int32)), (2, .int (0 : Int32)), (0, .ref (b + 0)), (1, .int a1)]) hok rfl (by decide) rfl dX11_count_114 ?_
    refine T_sub (lv' := [(0, .ref (b + 0)), (2, .int (0 : Int32)), (3, .int (0 : Int32))]) [2, 1, 0] rfl ?_
    refine T_fix2 _ (fun (x3 : Int32) (x4 : Int32) => [(0, .ref (b + 0)), (2, .int x3), (3, .int x4)]) (fun (x3 : Int32) (x4 : Int32) => Rg G b Lm (Rm b) I1 J) ?_ FU (0 : Int32) (0 : Int32)
    intro r115 hr115 x3 x4
    refine T_iload_n hok 2 rfl rfl dX11_count_115 ?_
    refine T_aload_n hok 0 rfl rfl dX11_count_116 ?_
    refine T_getI hok fr_X11_234 lm_0 dX11_count_117 ?_
    refine T_icmp_ge (tgt := 138) hok dX11_count_120 rfl ?_ ?_
    · refine T_iload_n hok 1 rfl rfl dX11_count_138 ?_
      exact T_iret hok dX11_count_139 (Nat.zero_le _) (Nat.zero_le _) rfl
    refine T_iload_n hok 1 rfl rfl dX11_count_123 ?_
    refine T_aload_n hok 0 rfl rfl dX11_count_124 ?_
    refine T_getR hok fr_X11_91 lm_0 rm_0_52 dX11_count_125 ?_
    refine T_iload_n hok 2 rfl rfl dX11_count_128 ?_
    refine T_iald hok lm_26 dX11_count_129 ?_
    refine T_iadd hok dX11_count_130 ?_
    refine T_lti ?_
    intro x5
    refine T_istore_n (lv' := [(2, .int x5), (0, .ref (b + 0)), (3, .int x4)]) hok rfl (by decide) rfl dX11_count_131 ?_
    refine T_iinc (lvs := fun x6 => [(3, .int x6), (2, .int x5), (0, .ref (b + 0))]) hok 2 rfl ic_1 (by decide) (fun _ => rfl) dX11_count_132 ?_
    intro x6
    refine T_goto (tgt := 115) hok dX11_count_135 rfl ?_
    refine T_sub (lv' := [(0, .ref (b + 0)), (2, .int x5), (3, .int x6)]) [2, 1, 0] rfl ?_
    exact hr115 x5 x6
  refine T_swc (fun hx7 => ?_) (fun hx7 => ?_)
  · refine T_tin (tgt := 140) hok hx7 dX11_count_8 (by decide) (by decide) rfl rfl ?_
    refine T_iconst hok ic_0 dX11_count_140 ?_
    refine T_istore_n (lv' := [(3, .int (0 : Int32)), (2, .int (0 : Int32)), (0, .ref (b + 0)), (1, .int a1)]) hok rfl (by decide) rfl dX11_count_141 ?_
    refine T_sub (lv' := [(0, .ref (b + 0)), (2, .int (0 : Int32)), (3, .int (0 : Int32))]) [2, 1, 0] rfl ?_
    refine T_fix2 _ (fun (x7 : Int32) (x8 : Int32) => [(0, .ref (b + 0)), (2, .int x7), (3, .int x8)]) (fun (x7 : Int32) (x8 : Int32) => Rg G b Lm (Rm b) I1 J) ?_ FU (0 : Int32) (0 : Int32)
    intro r142 hr142 x7 x8
    refine T_iload_n hok 2 rfl rfl dX11_count_142 ?_
    refine T_aload_n hok 0 rfl rfl dX11_count_143 ?_
    refine T_getI hok fr_X11_234 lm_0 dX11_count_144 ?_
    refine T_icmp_ge (tgt := 165) hok dX11_count_147 rfl ?_ ?_
    · refine T_iload_n hok 1 rfl rfl dX11_count_165 ?_
      exact T_iret hok dX11_count_166 (Nat.zero_le _) (Nat.zero_le _) rfl
    refine T_iload_n hok 1 rfl rfl dX11_count_150 ?_
    refine T_aload_n hok 0 rfl rfl dX11_count_151 ?_
    refine T_getR hok fr_X11_94 lm_0 rm_0_53 dX11_count_152 ?_
    refine T_iload_n hok 2 rfl rfl dX11_count_155 ?_
    refine T_iald hok lm_27 dX11_count_156 ?_
    refine T_iadd hok dX11_count_157 ?_
    refine T_lti ?_
    intro x9
    refine T_istore_n (lv' := [(2, .int x9), (0, .ref (b + 0)), (3, .int x8)]) hok rfl (by decide) rfl dX11_count_158 ?_
    refine T_iinc (lvs := fun x10 => [(3, .int x10), (2, .int x9), (0, .ref (b + 0))]) hok 2 rfl ic_1 (by decide) (fun _ => rfl) dX11_count_159 ?_
    intro x10
    refine T_goto (tgt := 142) hok dX11_count_162 rfl ?_
    refine T_sub (lv' := [(0, .ref (b + 0)), (2, .int x9), (3, .int x10)]) [2, 1, 0] rfl ?_
    exact hr142 x9 x10
  refine T_swc (fun hx8 => ?_) (fun hx8 => ?_)
  · refine T_tin (tgt := 167) hok hx8 dX11_count_8 (by decide) (by decide) rfl rfl ?_
    refine T_aload_n hok 1 rfl rfl dX11_count_167 ?_
    refine T_iconst hok ic_0 dX11_count_168 ?_
    refine T_ci0 (CR_V (rest := []) hok (ct_X11_lookedAll hA I1 J (0 : Int32)) mw_X11_lookedAll mv_X11_lookedAll ml_X11_470 lm_0 dX11_count_169 rfl rfl (roomOk rfl) rfl) rfl rfl ?_
    intro x11
    exact T_iret hok dX11_count_172 (Nat.zero_le _) (Nat.zero_le _) rfl
  refine T_swc (fun hx9 => ?_) (fun hx9 => ?_)
  · refine T_tin (tgt := 173) hok hx9 dX11_count_8 (by decide) (by decide) rfl rfl ?_
    refine T_aload_n hok 1 rfl rfl dX11_count_173 ?_
    refine T_getR hok fr_X11_115 lm_0 rm_0_60 dX11_count_174 ?_
    refine T_iconst hok ic_0 dX11_count_177 ?_
    refine T_iald hok lm_34 dX11_count_178 ?_
    exact T_iret hok dX11_count_179 (Nat.zero_le _) (Nat.zero_le _) rfl
  refine T_swc (fun hx10 => ?_) (fun hx10 => ?_)
  · refine T_tin (tgt := 180) hok hx10 dX11_count_8 (by decide) (by decide) rfl rfl ?_
    refine T_aload_n hok 1 rfl rfl dX11_count_180 ?_
    refine T_getI hok fr_X11_362 lm_0 dX11_count_181 ?_
    exact T_iret hok dX11_count_184 (Nat.zero_le _) (Nat.zero_le _) rfl
  refine T_swc (fun hx11 => ?_) (fun hx11 => ?_)
  · refine T_tin (tgt := 185) hok hx11 dX11_count_8 (by decide) (by decide) rfl rfl ?_
    refine T_aload_n hok 1 rfl rfl dX11_count_185 ?_
    refine T_ci0 (CR_V (rest := []) hok (ct_X11_knownBy hA I1 J) mw_X11_knownBy mv_X11_knownBy ml_X11_529 lm_0 dX11_count_186 rfl rfl (roomOk rfl) rfl) rfl rfl ?_
    intro x12
    exact T_iret hok dX11_count_189 (Nat.zero_le _) (Nat.zero_le _) rfl
  refine T_swc (fun hx12 => ?_) (fun hx12 => ?_)
  · refine T_tin (tgt := 190) hok hx12 dX11_count_8 (by decide) (by decide) rfl rfl ?_
    refine T_aload_n hok 1 rfl rfl dX11_count_190 ?_
    refine T_getI hok fr_X11_365 lm_0 dX11_count_191 ?_
    exact T_iret hok dX11_count_194 (Nat.zero_le _) (Nat.zero_le _) rfl
  refine T_swd ?_
  have nhx0 := toInt_ne (n := 0) rfl hx0
  have nhx1 := toInt_ne (n := 1) rfl hx1
  have nhx2 := toInt_ne (n := 2) rfl hx2
  have nhx3 := toInt_ne (n := 3) rfl hx3
  have nhx4 := toInt_ne (n := 4) rfl hx4
  have nhx5 := toInt_ne (n := 5) rfl hx5
  have nhx6 := toInt_ne (n := 6) rfl hx6
  have nhx7 := toInt_ne (n := 7) rfl hx7
  have nhx8 := toInt_ne (n := 8) rfl hx8
  have nhx9 := toInt_ne (n := 9) rfl hx9
  have nhx10 := toInt_ne (n := 10) rfl hx10
  have nhx11 := toInt_ne (n := 11) rfl hx11
  have nhx12 := toInt_ne (n := 12) rfl hx12
  refine T_tdf (tgt := 195) (n := 13) hok dX11_count_8 rfl (fun j hj he => ?_) rfl ?_
  · rcases (show j = 0 ∨ j = 1 ∨ j = 2 ∨ j = 3 ∨ j = 4 ∨ j = 5 ∨ j = 6 ∨ j = 7 ∨ j = 8 ∨ j = 9 ∨ j = 10 ∨ j = 11 ∨ j = 12 by omega) with rfl | rfl | rfl | rfl | rfl | rfl | rfl | rfl | rfl | rfl | rfl | rfl | rfl <;> first | rfl | (exfalso; omega)
  refine T_iconst hok ic_m1 dX11_count_195 ?_
  exact T_iret hok dX11_count_196 (Nat.zero_le _) (Nat.zero_le _) rfl
