set_option maxHeartbeats 4000000 in
set_option maxRecDepth 100000 in
theorem ct_X7_begin {G : Gx} {l0 : Launch} {A : Nat → Prop} {b bk dr it : Nat} (hA : ∀ k, k < Lc.length → A (b + k)) (I : MI) (J : MJ) (a1 : Int32) : Ct G l0 A yX7_begin cX7_begin 2 none { frames := 0, cells := 0, slots := 0, locals := 0 } [.ref (b + 36), .int a1] (Rg G b Lc (Rc b bk dr it) I J) (iv1 (fun (I' : MI) => Rg G b Lc (Rc b bk dr it) I' J)) (f_X7_begin I a1) := by
  refine Ct.of rfl (Nat.le_of_ble_eq_true rfl) ?_
  intro X hok
  replace hok : Ok G l0 X RX7 cX7_begin 2 { frames := 0, cells := 0, slots := 0, locals := 0 } none := hok
  delta f_X7_begin
  show T X A (Zm X A (iv1 (fun (I' : MI) => Rg G b Lc (Rc b bk dr it) I' J))) 2 0 0 0 [(0, .ref (b + 36)), (1, .int a1)] [] (Rg G b Lc (Rc b bk dr it) I J) _
  refine T_aload_n hok 0 rfl rfl dX7_begin_0 ?_
  refine T_iload_n hok 1 rfl rfl dX7_begin_1 ?_
  refine T_putI hok hA fr_X7_33 rfl rfl lc_36 dX7_begin_2 ?_
  intro I1
  refine T_aload_n hok 0 rfl rfl dX7_begin_5 ?_
  refine T_iconst hok ic_0 dX7_begin_6 ?_
  refine T_putI hok hA fr_X7_36 rfl rfl lc_36 dX7_begin_7 ?_
  intro I2
  exact T_vret hok dX7_begin_10 (Nat.zero_le _) (Nat.zero_le _) rfl

set_option maxHeartbeats 4000000 in
set_option maxRecDepth 100000 in
theorem ct_X7_signAt {G : Gx} {l0 : Launch} {A : Nat → Prop} {b bk dr it : Nat} (hA : ∀ k, k < Lc.length → A (b + k)) (I : MI) (J : MJ) (a1 : Int32) : Ct G l0 A yX7_signAt cX7_signAt 2 (some .int) { frames := 0, cells := 0, slots := 0, locals := 0 } [.ref (b + 36), .int a1] (Rg G b Lc (Rc b bk dr it) I J) (ii0 (Rg G b Lc (Rc b bk dr it) I J)) (f_X7_signAt I a1) := by
  refine Ct.of rfl (Nat.le_of_ble_eq_true rfl) ?_
  intro X hok
  replace hok : Ok G l0 X RX7 cX7_signAt 2 { frames := 0, cells := 0, slots := 0, locals := 0 } (some .int) := hok
  delta f_X7_signAt
  show T X A (Zm X A (ii0 (Rg G b Lc (Rc b bk dr it) I J))) 2 0 0 0 [(0, .ref (b + 36)), (1, .int a1)] [] (Rg G b Lc (Rc b bk dr it) I J) _
  refine T_iload_n hok 1 rfl rfl dX7_signAt_0 ?_
  refine T_jp _ (fun (j35 : Int32 → Option (Int32)) => ∀ (x1 : Int32), T X A (Zm X A (ii0 (Rg G b Lc (Rc b bk dr it) I J))) 2 0 0 35 [] [.int x1] (Rg G b Lc (Rc b bk dr it) I J) (j35 x1)) _ ?_ ?_
  · intro x1
    exact T_iret hok dX7_signAt_35 (Nat.zero_le _) (Nat.zero_le _) rfl
  intro j35 hj35
  refine T_jp _ (fun (j34 : Option (Int32)) => T X A (Zm X A (ii0 (Rg G b Lc (Rc b bk dr it) I J))) 2 0 0 34 [] [] (Rg G b Lc (Rc b bk dr it) I J) (j34)) _ ?_ ?_
  · skip
    refine T_iconst hok ic_0 dX7_signAt_34 ?_
    exact hj35 (0 : Int32)
  intro j34 hj34
  refine T_if_lt (tgt := 34) hok dX7_signAt_1 rfl ?_ ?_
  · refine T_sub (lv' := []) [] rfl ?_
    exact hj34
  refine T_iload_n hok 1 rfl rfl dX7_signAt_4 ?_
  refine T_aload_n hok 0 rfl rfl dX7_signAt_5 ?_
  refine T_getI hok fr_X7_33 lc_36 dX7_signAt_6 ?_
  refine T_icmp_ge (tgt := 34) hok dX7_signAt_9 rfl ?_ ?_
  · refine T_sub (lv' := []) [] rfl ?_
    exact hj34
  refine T_iload_n hok 1 rfl rfl dX7_signAt_12 ?_
  refine T_aload_n hok 0 rfl rfl dX7_signAt_13 ?_
  refine T_getR hok fr_X7_13 lc_36 rc_36_0 dX7_signAt_14 ?_
  refine T_alen (v := 700) hok (by decide) lc_1 rfl dX7_signAt_17 ?_
  refine T_icmp_ge (tgt := 34) hok dX7_signAt_18 rfl ?_ ?_
  · refine T_sub (lv' := []) [] rfl ?_
    exact hj34
  refine T_aload_n hok 0 rfl rfl dX7_signAt_21 ?_
  refine T_getR hok fr_X7_13 lc_36 rc_36_0 dX7_signAt_22 ?_
  refine T_iload_n hok 1 rfl rfl dX7_signAt_25 ?_
  refine T_bald hok lc_1 dX7_signAt_26 ?_
  refine T_sipush hok sp_255 dX7_signAt_27 ?_
  refine T_iand hok dX7_signAt_30 ?_
  refine T_goto (tgt := 35) hok dX7_signAt_31 rfl ?_
  refine T_sub (lv' := []) [] rfl ?_
  exact hj35 ((I 1 (ix a1)) &&& (255 : Int32))

set_option maxHeartbeats 4000000 in
set_option maxRecDepth 100000 in
theorem ct_X7_isLetter {G : Gx} {l0 : Launch} {A : Nat → Prop} {Wd : Heap → Prop} (a1 : Int32) : Ct G l0 A yX7_isLetter cX7_isLetter 1 (some .boolean) { frames := 0, cells := 0, slots := 0, locals := 0 } [.int a1] (Wd) (iz0 (Wd)) (f_X7_isLetter a1) := by
  refine Ct.of rfl (Nat.le_of_ble_eq_true rfl) ?_
  intro X hok
  replace hok : Ok G l0 X RX7 cX7_isLetter 1 { frames := 0, cells := 0, slots := 0, locals := 0 } (some .boolean) := hok
  delta f_X7_isLetter
  show T X A (Zm X A (iz0 (Wd))) 1 0 0 0 [(0, .int a1)] [] (Wd) _
  refine T_iload_n hok 0 rfl rfl dX7_isLetter_0 ?_
  refine T_bipush hok bp_97 dX7_isLetter_1 ?_
  refine T_jp _ (fun (j17 : Bool → Option (Bool)) => ∀ (x1 : Bool), T X A (Zm X A (iz0 (Wd))) 1 0 0 17 [] [.int (bi x1)] (Wd) (j17 x1)) _ ?_ ?_
  · intro x1
    exact T_zret hok dX7_isLetter_17 (Nat.zero_le _) (Nat.zero_le _) (bi_01 _) rfl
  intro j17 hj17
  refine T_jp _ (fun (j16 : Option (Bool)) => T X A (Zm X A (iz0 (Wd))) 1 0 0 16 [] [] (Wd) (j16)) _ ?_ ?_
  · skip
    refine T_iconst hok ic_0 dX7_isLetter_16 ?_
    exact hj17 false
  intro j16 hj16
  refine T_icmp_lt (tgt := 16) hok dX7_isLetter_3 rfl ?_ ?_
  · refine T_sub (lv' := []) [] rfl ?_
    exact hj16
  refine T_iload_n hok 0 rfl rfl dX7_isLetter_6 ?_
  refine T_bipush hok bp_122 dX7_isLetter_7 ?_
  refine T_icmp_gt (tgt := 16) hok dX7_isLetter_9 rfl ?_ ?_
  · refine T_sub (lv' := []) [] rfl ?_
    exact hj16
  refine T_iconst hok ic_1 dX7_isLetter_12 ?_
  refine T_goto (tgt := 17) hok dX7_isLetter_13 rfl ?_
  refine T_sub (lv' := []) [] rfl ?_
  exact hj17 true

set_option maxHeartbeats 4000000 in
set_option maxRecDepth 100000 in
theorem ct_X7_letter {G : Gx} {l0 : Launch} {A : Nat → Prop} {Wd : Heap → Prop} (a1 : Int32) (a2 : Int32) : Ct G l0 A yX7_letter cX7_letter 2 (some .int) { frames := 0, cells := 0, slots := 0, locals := 0 } [.int a1, .int a2] (Wd) (ii0 (Wd)) (f_X7_letter a1 a2) := by
  refine Ct.of rfl (Nat.le_of_ble_eq_true rfl) ?_
  intro X hok
  replace hok : Ok G l0 X RX7 cX7_letter 2 { frames := 0, cells := 0, slots := 0, locals := 0 } (some .int) := hok
  delta f_X7_letter
  show T X A (Zm X A (ii0 (Wd))) 2 0 0 0 [(0, .int a1), (1, .int a2)] [] (Wd) _
  refine T_iload_n hok 0 rfl rfl dX7_letter_0 ?_
  refine T_bipush hok bp_97 dX7_letter_1 ?_
  refine T_isub hok dX7_letter_3 ?_
  refine T_iconst hok ic_1 dX7_letter_4 ?_
  refine T_iadd hok dX7_letter_5 ?_
  refine T_iconst hok ic_5 dX7_letter_6 ?_
  refine T_iconst hok ic_5 dX7_letter_7 ?_
  refine T_iload_n hok 1 rfl rfl dX7_letter_8 ?_
  refine T_isub hok dX7_letter_9 ?_
  refine T_imul hok dX7_letter_10 ?_
  refine T_ishl hok dX7_letter_11 ?_
  exact T_iret hok dX7_letter_12 (Nat.zero_le _) (Nat.zero_le _) rfl

set_option maxHeartbeats 4000000 in
set_option maxRecDepth 100000 in
theorem ct_X7_stepWord {G : Gx} {l0 : Launch} {A : Nat → Prop} {b bk dr it : Nat} (hA : ∀ k, k < Lc.length → A (b + k)) (I : MI) (J : MJ) : Ct G l0 A yX7_stepWord cX7_stepWord 4 none { frames := 1, cells := 0, slots := 0, locals := 21 } [.ref (b + 36)] (Rg G b Lc (Rc b bk dr it) I J) (iv1 (fun (I' : MI) => Rg G b Lc (Rc b bk dr it) I' J)) (f_X7_stepWord I) := by
  refine Ct.of rfl (Nat.le_of_ble_eq_true rfl) ?_
  intro X hok
  replace hok : Ok G l0 X RX7 cX7_stepWord 4 { frames := 1, cells := 0, slots := 0, locals := 21 } none := hok
  delta f_X7_stepWord
  show T X A (Zm X A (iv1 (fun (I' : MI) => Rg G b Lc (Rc b bk dr it) I' J))) 4 0 0 0 [(0, .ref (b + 36))] [] (Rg G b Lc (Rc b bk dr it) I J) _
  refine T_iconst hok ic_0 dX7_stepWord_0 ?_
  refine T_istore_n (lv' := [(1, .int (0 : Int32)), (0, .ref (b + 36))]) hok rfl (by decide) rfl dX7_stepWord_1 ?_
  refine T_iconst hok ic_0 dX7_stepWord_2 ?_
  refine T_istore_n (lv' := [(2, .int (0 : Int32)), (1, .int (0 : Int32)), (0, .ref (b + 36))]) hok rfl (by decide) rfl dX7_stepWord_3 ?_
  refine T_jp _ (fun (j66 : Int32 → Int32 → MI → Option (MI)) => ∀ (x1 : Int32) (x2 : Int32) (I3 : MI), T X A (Zm X A (iv1 (fun (I' : MI) => Rg G b Lc (Rc b bk dr it) I' J))) 4 0 0 66 [(0, .ref (b + 36)), (1, .int x1), (2, .int x2)] [] (Rg G b Lc (Rc b bk dr it) I3 J) (j66 x1 x2 I3)) _ ?_ ?_
  · intro x1 x2 I3
    refine T_aload_n hok 0 rfl rfl dX7_stepWord_66 ?_
    refine T_iload_n hok 1 rfl rfl dX7_stepWord_67 ?_
    refine T_putI hok hA fr_X7_65 rfl rfl lc_36 dX7_stepWord_68 ?_
    intro I4
    refine T_aload_n hok 0 rfl rfl dX7_stepWord_71 ?_
    refine T_iload_n hok 2 rfl rfl dX7_stepWord_72 ?_
    refine T_bipush hok bp_6 dX7_stepWord_73 ?_
    refine T_jp _ (fun (j85 : Int32 → Option (MI)) => ∀ (x5 : Int32), T X A (Zm X A (iv1 (fun (I' : MI) => Rg G b Lc (Rc b bk dr it) I' J))) 4 0 0 85 [(0, .ref (b + 36)), (1, .int x1)] [.int x5, .ref (b + 36)] (Rg G b Lc (Rc b bk dr it) I4 J) (j85 x5)) _ ?_ ?_
    · intro x5
      refine T_putI hok hA fr_X7_39 rfl rfl lc_36 dX7_stepWord_85 ?_
      intro I6
      refine T_iconst hok ic_0 dX7_stepWord_88 ?_
      refine T_istore_n (lv' := [(3, .int (0 : Int32)), (0, .ref (b + 36)), (1, .int x1)]) hok rfl (by decide) rfl dX7_stepWord_89 ?_
      refine T_jp _ (fun (j126 : MI → Option (MI)) => ∀ (I7 : MI), T X A (Zm X A (iv1 (fun (I' : MI) => Rg G b Lc (Rc b bk dr it) I' J))) 4 0 0 126 [] [] (Rg G b Lc (Rc b bk dr it) I7 J) (j126 I7)) _ ?_ ?_
      · intro I7
        exact T_vret hok dX7_stepWord_126 (Nat.zero_le _) (Nat.zero_le _) rfl
      intro j126 hj126
      refine T_sub (lv' := [(0, .ref (b + 36)), (1, .int x1), (3, .int (0 : Int32))]) [1, 2, 0] rfl ?_
      refine T_fix2 _ (fun (x8 : Int32) (I9 : MI) => [(0, .ref (b + 36)), (1, .int x1), (3, .int x8)]) (fun (x8 : Int32) (I9 : MI) => Rg G b Lc (Rc b bk dr it) I9 J) ?_ FU (0 : Int32) I6
      intro r90 hr90 x8 I9
      refine T_iload_n hok 2 rfl rfl dX7_stepWord_90 ?_
      refine T_bipush hok bp_20 dX7_stepWord_91 ?_
      refine T_icmp_ge (tgt := 126) hok dX7_stepWord_93 rfl ?_ ?_
      · refine T_sub (lv' := []) [] rfl ?_
        exact hj126 I9
      refine T_aload_n hok 0 rfl rfl dX7_stepWord_96 ?_
      refine T_getI hok fr_X7_39 lc_36 dX7_stepWord_97 ?_
      refine T_bipush hok bp_34 dX7_stepWord_100 ?_
      refine T_icmp_ne (tgt := 126) hok dX7_stepWord_102 rfl ?_ ?_
      · refine T_aload_n hok 0 rfl rfl dX7_stepWord_105 ?_
        refine T_getR hok fr_X7_9 lc_36 rc_36_1 dX7_stepWord_106 ?_
        refine T_iload_n hok 2 rfl rfl dX7_stepWord_109 ?_
        refine T_iald hok lc_37 dX7_stepWord_110 ?_
        refine T_iload_n hok 1 rfl rfl dX7_stepWord_111 ?_
        refine T_jp _ (fun (j120 : MI → Option (MI)) => ∀ (I10 : MI), T X A (Zm X A (iv1 (fun (I' : MI) => Rg G b Lc (Rc b bk dr it) I' J))) 4 0 0 120 [(0, .ref (b + 36)), (1, .int x1), (3, .int x8)] [] (Rg G b Lc (Rc b bk dr it) I10 J) (j120 I10)) _ ?_ ?_
        · intro I10
          refine T_iinc (lvs := fun x11 => [(3, .int x11), (0, .ref (b + 36)), (1, .int x1)]) hok 2 rfl ic_1 (by decide) (fun _ => rfl) dX7_stepWord_120 ?_
          intro x11
          refine T_goto (tgt := 90) hok dX7_stepWord_123 rfl ?_
          refine T_sub (lv' := [(0, .ref (b + 36)), (1, .int x1), (3, .int x11)]) [1, 2, 0] rfl ?_
          exact hr90 x11 I10
        intro j120 hj120
        refine T_icmp_ne (tgt := 120) hok dX7_stepWord_112 rfl ?_ ?_
        · refine T_aload_n hok 0 rfl rfl dX7_stepWord_115 ?_
          refine T_iload_n hok 2 rfl rfl dX7_stepWord_116 ?_
          refine T_putI hok hA fr_X7_39 rfl rfl lc_36 dX7_stepWord_117 ?_
          intro I12
          exact hj120 I12
        exact hj120 I9
      refine T_sub (lv' := []) [] rfl ?_
      exact hj126 I9
    intro j85 hj85
    refine T_icmp_le (tgt := 83) hok dX7_stepWord_75 rfl ?_ ?_
    · refine T_bipush hok bp_34 dX7_stepWord_83 ?_
      refine T_sub (lv' := [(0, .ref (b + 36)), (1, .int x1)]) [0, 1] rfl ?_
      exact hj85 (34 : Int32)
    refine T_bipush hok bp_36 dX7_stepWord_78 ?_
    refine T_goto (tgt := 85) hok dX7_stepWord_80 rfl ?_
    refine T_sub (lv' := [(0, .ref (b + 36)), (1, .int x1)]) [0, 1] rfl ?_
    exact hj85 (36 : Int32)
  intro j66 hj66
  refine T_sub (lv' := [(0, .ref (b + 36)), (1, .int (0 : Int32)), (2, .int (0 : Int32))]) [2, 1, 0] rfl ?_
  refine T_fix3 _ (fun (x13 : Int32) (x14 : Int32) (I15 : MI) => [(0, .ref (b + 36)), (1, .int x13), (2, .int x14)]) (fun (x13 : Int32) (x14 : Int32) (I15 : MI) => Rg G b Lc (Rc b bk dr it) I15 J) ?_ FU (0 : Int32) (0 : Int32) I
  intro r4 hr4 x13 x14 I15
  refine T_aload_n hok 0 rfl rfl dX7_stepWord_4 ?_
  refine T_getI hok fr_X7_36 lc_36 dX7_stepWord_5 ?_
  refine T_aload_n hok 0 rfl rfl dX7_stepWord_8 ?_
  refine T_getI hok fr_X7_33 lc_36 dX7_stepWord_9 ?_
  refine T_icmp_ge (tgt := 66) hok dX7_stepWord_12 rfl ?_ ?_
  · exact hj66 x13 x14 I15
  refine T_aload_n hok 0 rfl rfl dX7_stepWord_15 ?_
  refine T_aload_n hok 0 rfl rfl dX7_stepWord_16 ?_
  refine T_getI hok fr_X7_36 lc_36 dX7_stepWord_17 ?_
  refine T_ci0 (CR_V (rest := []) hok (ct_X7_signAt hA I15 J (I15 36 3)) mw_X7_signAt mv_X7_signAt ml_X7_42 lc_36 dX7_stepWord_20 rfl rfl (roomOk rfl) rfl) rfl rfl ?_
  intro x16
  refine T_cz0 (CR_S (rest := []) hok (ct_X7_isLetter x16) mw_X7_isLetter mst_X7_isLetter ml_X7_49 dX7_stepWord_23 rfl rfl (roomOk rfl) rfl) rfl rfl ?_
  intro x17
  refine T_ifb_eq (tgt := 66) hok dX7_stepWord_26 rfl ?_ ?_
  · refine T_iload_n hok 2 rfl rfl dX7_stepWord_29 ?_
    refine T_bipush hok bp_6 dX7_stepWord_30 ?_
    refine T_jp _ (fun (j50 : Int32 → Option (MI)) => ∀ (x18 : Int32), T X A (Zm X A (iv1 (fun (I' : MI) => Rg G b Lc (Rc b bk dr it) I' J))) 4 0 0 50 [(0, .ref (b + 36)), (1, .int x18), (2, .int x14)] [] (Rg G b Lc (Rc b bk dr it) I15 J) (j50 x18)) _ ?_ ?_
    · intro x18
      refine T_iinc (lvs := fun x19 => [(2, .int x19), (0, .ref (b + 36)), (1, .int x18)]) hok 2 rfl ic_1 (by decide) (fun _ => rfl) dX7_stepWord_50 ?_
      intro x19
      refine T_aload_n hok 1 rfl rfl dX7_stepWord_53 ?_
      refine T_dup hok rfl dX7_stepWord_54 ?_
      refine T_getI hok fr_X7_36 lc_36 dX7_stepWord_55 ?_
      refine T_iconst hok ic_1 dX7_stepWord_58 ?_
      refine T_iadd hok dX7_stepWord_59 ?_
      refine T_putI hok hA fr_X7_36 rfl rfl lc_36 dX7_stepWord_60 ?_
      intro I20
      refine T_goto (tgt := 4) hok dX7_stepWord_63 rfl ?_
      refine T_sub (lv' := [(0, .ref (b + 36)), (1, .int x18), (2, .int x19)]) [1, 2, 0] rfl ?_
      exact hr4 x18 x19 I20
    intro j50 hj50
    refine T_icmp_ge (tgt := 50) hok dX7_stepWord_32 rfl ?_ ?_
    · exact hj50 x13
    refine T_iload_n hok 1 rfl rfl dX7_stepWord_35 ?_
    refine T_aload_n hok 0 rfl rfl dX7_stepWord_36 ?_
    refine T_aload_n hok 0 rfl rfl dX7_stepWord_37 ?_
    refine T_getI hok fr_X7_36 lc_36 dX7_stepWord_38 ?_
    refine T_ci0 (CR_V (rest := [.int x13]) hok (ct_X7_signAt hA I15 J (I15 36 3)) mw_X7_signAt mv_X7_signAt ml_X7_42 lc_36 dX7_stepWord_41 rfl rfl (roomOk rfl) rfl) rfl rfl ?_
    intro x21
    refine T_iload_n hok 2 rfl rfl dX7_stepWord_44 ?_
    refine T_ci0 (CR_S (rest := [.int x13]) hok (ct_X7_letter x21 x14) mw_X7_letter mst_X7_letter ml_X7_29 dX7_stepWord_45 rfl rfl (roomOk rfl) rfl) rfl rfl ?_
    intro x22
    refine T_ior hok dX7_stepWord_48 ?_
    refine T_lti ?_
    intro x23
    refine T_istore_n (lv' := [(1, .int x23), (0, .ref (b + 36)), (2, .int x14)]) hok rfl (by decide) rfl dX7_stepWord_49 ?_
    refine T_sub (lv' := [(0, .ref (b + 36)), (1, .int x23), (2, .int x14)]) [1, 0, 2] rfl ?_
    exact hj50 x23
  exact hj66 x13 x14 I15

set_option maxHeartbeats 4000000 in
set_option maxRecDepth 100000 in
theorem ct_X7_isDigit {G : Gx} {l0 : Launch} {A : Nat → Prop} {Wd : Heap → Prop} (a1 : Int32) : Ct G l0 A yX7_isDigit cX7_isDigit 1 (some .boolean) { frames := 0, cells := 0, slots := 0, locals := 0 } [.int a1] (Wd) (iz0 (Wd)) (f_X7_isDigit a1) := by
  refine Ct.of rfl (Nat.le_of_ble_eq_true rfl) ?_
  intro X hok
  replace hok : Ok G l0 X RX7 cX7_isDigit 1 { frames := 0, cells := 0, slots := 0, locals := 0 } (some .boolean) := hok
  delta f_X7_isDigit
  show T X A (Zm X A (iz0 (Wd))) 1 0 0 0 [(0, .int a1)] [] (Wd) _
  refine T_iload_n hok 0 rfl rfl dX7_isDigit_0 ?_
  refine T_bipush hok bp_48 dX7_isDigit_1 ?_
  refine T_jp _ (fun (j17 : Bool → Option (Bool)) => ∀ (x1 : Bool), T X A (Zm X A (iz0 (Wd))) 1 0 0 17 [] [.int (bi x1)] (Wd) (j17 x1)) _ ?_ ?_
  · intro x1
    exact T_zret hok dX7_isDigit_17 (Nat.zero_le _) (Nat.zero_le _) (bi_01 _) rfl
  intro j17 hj17
  refine T_jp _ (fun (j16 : Option (Bool)) => T X A (Zm X A (iz0 (Wd))) 1 0 0 16 [] [] (Wd) (j16)) _ ?_ ?_
  · skip
    refine T_iconst hok ic_0 dX7_isDigit_16 ?_
    exact hj17 false
  intro j16 hj16
  refine T_icmp_lt (tgt := 16) hok dX7_isDigit_3 rfl ?_ ?_
  · refine T_sub (lv' := []) [] rfl ?_
    exact hj16
  refine T_iload_n hok 0 rfl rfl dX7_isDigit_6 ?_
  refine T_bipush hok bp_57 dX7_isDigit_7 ?_
  refine T_icmp_gt (tgt := 16) hok dX7_isDigit_9 rfl ?_ ?_
  · refine T_sub (lv' := []) [] rfl ?_
    exact hj16
  refine T_iconst hok ic_1 dX7_isDigit_12 ?_
  refine T_goto (tgt := 17) hok dX7_isDigit_13 rfl ?_
  refine T_sub (lv' := []) [] rfl ?_
  exact hj17 true

set_option maxHeartbeats 4000000 in
set_option maxRecDepth 100000 in
theorem ct_X7_stepNumber {G : Gx} {l0 : Launch} {A : Nat → Prop} {b bk dr it : Nat} (hA : ∀ k, k < Lc.length → A (b + k)) (I : MI) (J : MJ) : Ct G l0 A yX7_stepNumber cX7_stepNumber 1 none { frames := 1, cells := 0, slots := 0, locals := 21 } [.ref (b + 36)] (Rg G b Lc (Rc b bk dr it) I J) (iv1 (fun (I' : MI) => Rg G b Lc (Rc b bk dr it) I' J)) (f_X7_stepNumber I) := by
  refine Ct.of rfl (Nat.le_of_ble_eq_true rfl) ?_
  intro X hok
  replace hok : Ok G l0 X RX7 cX7_stepNumber 1 { frames := 1, cells := 0, slots := 0, locals := 21 } none := hok
  delta f_X7_stepNumber
  show T X A (Zm X A (iv1 (fun (I' : MI) => Rg G b Lc (Rc b bk dr it) I' J))) 1 0 0 0 [(0, .ref (b + 36))] [] (Rg G b Lc (Rc b bk dr it) I J) _
  refine T_aload_n hok 0 rfl rfl dX7_stepNumber_0 ?_
  refine T_iconst hok ic_0 dX7_stepNumber_1 ?_
  refine T_putI hok hA fr_X7_65 rfl rfl lc_36 dX7_stepNumber_2 ?_
  intro I1
  refine T_jp _ (fun (j71 : MI → Option (MI)) => ∀ (I2 : MI), T X A (Zm X A (iv1 (fun (I' : MI) => Rg G b Lc (Rc b bk dr it) I' J))) 1 0 0 71 [(0, .ref (b + 36))] [] (Rg G b Lc (Rc b bk dr it) I2 J) (j71 I2)) _ ?_ ?_
  · intro I2
    refine T_aload_n hok 0 rfl rfl dX7_stepNumber_71 ?_
    refine T_bipush hok bp_33 dX7_stepNumber_72 ?_
    refine T_putI hok hA fr_X7_39 rfl rfl lc_36 dX7_stepNumber_74 ?_
    intro I3
    exact T_vret hok dX7_stepNumber_77 (Nat.zero_le _) (Nat.zero_le _) rfl
  intro j71 hj71
  refine T_fix1 _ (fun (I4 : MI) => [(0, .ref (b + 36))]) (fun (I4 : MI) => Rg G b Lc (Rc b bk dr it) I4 J) ?_ FU I1
  intro r5 hr5 I4
  refine T_aload_n hok 0 rfl rfl dX7_stepNumber_5 ?_
  refine T_getI hok fr_X7_36 lc_36 dX7_stepNumber_6 ?_
  refine T_aload_n hok 0 rfl rfl dX7_stepNumber_9 ?_
  refine T_getI hok fr_X7_33 lc_36 dX7_stepNumber_10 ?_
  refine T_icmp_ge (tgt := 71) hok dX7_stepNumber_13 rfl ?_ ?_
  · exact hj71 I4
  refine T_aload_n hok 0 rfl rfl dX7_stepNumber_16 ?_
  refine T_aload_n hok 0 rfl rfl dX7_stepNumber_17 ?_
  refine T_getI hok fr_X7_36 lc_36 dX7_stepNumber_18 ?_
  refine T_ci0 (CR_V (rest := []) hok (ct_X7_signAt hA I4 J (I4 36 3)) mw_X7_signAt mv_X7_signAt ml_X7_42 lc_36 dX7_stepNumber_21 rfl rfl (roomOk rfl) rfl) rfl rfl ?_
  intro x5
  refine T_cz0 (CR_S (rest := []) hok (ct_X7_isDigit x5) mw_X7_isDigit mst_X7_isDigit ml_X7_56 dX7_stepNumber_24 rfl rfl (roomOk rfl) rfl) rfl rfl ?_
  intro x6
  refine T_ifb_eq (tgt := 71) hok dX7_stepNumber_27 rfl ?_ ?_
  · refine T_aload_n hok 0 rfl rfl dX7_stepNumber_30 ?_
    refine T_ldc hok lk_X7_68 dX7_stepNumber_31 ?_
    refine T_aload_n hok 0 rfl rfl dX7_stepNumber_33 ?_
    refine T_getI hok fr_X7_65 lc_36 dX7_stepNumber_34 ?_
    refine T_bipush hok bp_10 dX7_stepNumber_37 ?_
    refine T_imul hok dX7_stepNumber_39 ?_
    refine T_aload_n hok 0 rfl rfl dX7_stepNumber_40 ?_
    refine T_aload_n hok 0 rfl rfl dX7_stepNumber_41 ?_
    refine T_getI hok fr_X7_36 lc_36 dX7_stepNumber_42 ?_
    refine T_ci0 (CR_V (rest := [.int ((I4 36 6) * (10 : Int32)), .int (1000000 : Int32), .ref (b + 36)]) hok (ct_X7_signAt hA I4 J (I4 36 3)) mw_X7_signAt mv_X7_signAt ml_X7_42 lc_36 dX7_stepNumber_45 rfl rfl (roomOk rfl) rfl) rfl rfl ?_
    intro x7
    refine T_iadd hok dX7_stepNumber_48 ?_
    refine T_bipush hok bp_48 dX7_stepNumber_49 ?_
    refine T_isub hok dX7_stepNumber_51 ?_
    refine T_mmin hok mm_mmin ml_X7_69 dX7_stepNumber_52 (Nat.le_of_ble_eq_true rfl) (Nat.le_of_ble_eq_true rfl) (Nat.zero_le _) (Nat.zero_le _) ?_
    refine T_putI hok hA fr_X7_65 rfl rfl lc_36 dX7_stepNumber_55 ?_
    intro I8
    refine T_aload_n hok 0 rfl rfl dX7_stepNumber_58 ?_
    refine T_dup hok rfl dX7_stepNumber_59 ?_
    refine T_getI hok fr_X7_36 lc_36 dX7_stepNumber_60 ?_
    refine T_iconst hok ic_1 dX7_stepNumber_63 ?_
    refine T_iadd hok dX7_stepNumber_64 ?_
    refine T_putI hok hA fr_X7_36 rfl rfl lc_36 dX7_stepNumber_65 ?_
    intro I9
    refine T_goto (tgt := 5) hok dX7_stepNumber_68 rfl ?_
    exact hr5 I9
  exact hj71 I4

set_option maxHeartbeats 4000000 in
set_option maxRecDepth 100000 in
theorem ct_X7_signToken {G : Gx} {l0 : Launch} {A : Nat → Prop} {Wd : Heap → Prop} (a1 : Int32) (a2 : Int32) : Ct G l0 A yX7_signToken cX7_signToken 2 (some .int) { frames := 0, cells := 0, slots := 0, locals := 0 } [.int a1, .int a2] (Wd) (ii0 (Wd)) (f_X7_signToken a1 a2) := by
  refine Ct.of rfl (Nat.le_of_ble_eq_true rfl) ?_
  intro X hok
  replace hok : Ok G l0 X RX7 cX7_signToken 2 { frames := 0, cells := 0, slots := 0, locals := 0 } (some .int) := hok
  delta f_X7_signToken
  show T X A (Zm X A (ii0 (Wd))) 2 0 0 0 [(0, .int a1), (1, .int a2)] [] (Wd) _
  refine T_iload_n hok 0 rfl rfl dX7_signToken_0 ?_
  refine T_swc (fun hx40 => ?_) (fun hx40 => ?_)
  · refine T_tin (tgt := 111) hok hx40 dX7_signToken_1 (by decide) (by decide) rfl rfl ?_
    refine T_bipush hok bp_21 dX7_signToken_111 ?_
    exact T_iret hok dX7_signToken_113 (Nat.zero_le _) (Nat.zero_le _) rfl
  refine T_swc (fun hx41 => ?_) (fun hx41 => ?_)
  · refine T_tin (tgt := 114) hok hx41 dX7_signToken_1 (by decide) (by decide) rfl rfl ?_
    refine T_bipush hok bp_22 dX7_signToken_114 ?_
    exact T_iret hok dX7_signToken_116 (Nat.zero_le _) (Nat.zero_le _) rfl
  refine T_swc (fun hx42 => ?_) (fun hx42 => ?_)
  · refine T_tin (tgt := 165) hok hx42 dX7_signToken_1 (by decide) (by decide) rfl rfl ?_
    refine T_bipush hok bp_31 dX7_signToken_165 ?_
    exact T_iret hok dX7_signToken_167 (Nat.zero_le _) (Nat.zero_le _) rfl
  refine T_swc (fun hx43 => ?_) (fun hx43 => ?_)
  · refine T_tin (tgt := 159) hok hx43 dX7_signToken_1 (by decide) (by decide) rfl rfl ?_
    refine T_bipush hok bp_29 dX7_signToken_159 ?_
    exact T_iret hok dX7_signToken_161 (Nat.zero_le _) (Nat.zero_le _) rfl
  refine T_swc (fun hx45 => ?_) (fun hx45 => ?_)
  · refine T_tin (tgt := 162) hok hx45 dX7_signToken_1 (by decide) (by decide) rfl rfl ?_
    refine T_bipush hok bp_30 dX7_signToken_162 ?_
    exact T_iret hok dX7_signToken_164 (Nat.zero_le _) (Nat.zero_le _) rfl
  refine T_swc (fun hx47 => ?_) (fun hx47 => ?_)
  · refine T_tin (tgt := 168) hok hx47 dX7_signToken_1 (by decide) (by decide) rfl rfl ?_
    refine T_bipush hok bp_32 dX7_signToken_168 ?_
    exact T_iret hok dX7_signToken_170 (Nat.zero_le _) (Nat.zero_le _) rfl
  refine T_swc (fun hx59 => ?_) (fun hx59 => ?_)
  · refine T_tin (tgt := 108) hok hx59 dX7_signToken_1 (by decide) (by decide) rfl rfl ?_
    refine T_bipush hok bp_20 dX7_signToken_108 ?_
    exact T_iret hok dX7_signToken_110 (Nat.zero_le _) (Nat.zero_le _) rfl
  refine T_swc (fun hx60 => ?_) (fun hx60 => ?_)
  · refine T_tin (tgt := 117) hok hx60 dX7_signToken_1 (by decide) (by decide) rfl rfl ?_
    refine T_iload_n hok 1 rfl rfl dX7_signToken_117 ?_
    refine T_bipush hok bp_61 dX7_signToken_118 ?_
    refine T_jp _ (fun (j141 : Int32 → Option (Int32)) => ∀ (x1 : Int32), T X A (Zm X A (ii0 (Wd))) 2 0 0 141 [] [.int x1] (Wd) (j141 x1)) _ ?_ ?_
    · intro x1
      exact T_iret hok dX7_signToken_141 (Nat.zero_le _) (Nat.zero_le _) rfl
    intro j141 hj141
    refine T_icmp_ne (tgt := 128) hok dX7_signToken_120 rfl ?_ ?_
    · refine T_bipush hok bp_24 dX7_signToken_123 ?_
      refine T_goto (tgt := 141) hok dX7_signToken_125 rfl ?_
      refine T_sub (lv' := []) [] rfl ?_
      exact hj141 (24 : Int32)
    refine T_iload_n hok 1 rfl rfl dX7_signToken_128 ?_
    refine T_bipush hok bp_62 dX7_signToken_129 ?_
    refine T_icmp_ne (tgt := 139) hok dX7_signToken_131 rfl ?_ ?_
    · refine T_bipush hok bp_26 dX7_signToken_134 ?_
      refine T_goto (tgt := 141) hok dX7_signToken_136 rfl ?_
      refine T_sub (lv' := []) [] rfl ?_
      exact hj141 (26 : Int32)
    refine T_bipush hok bp_23 dX7_signToken_139 ?_
    refine T_sub (lv' := []) [] rfl ?_
    exact hj141 (23 : Int32)
  refine T_swc (fun hx61 => ?_) (fun hx61 => ?_)
  · refine T_tin (tgt := 142) hok hx61 dX7_signToken_1 (by decide) (by decide) rfl rfl ?_
    refine T_bipush hok bp_25 dX7_signToken_142 ?_
    exact T_iret hok dX7_signToken_144 (Nat.zero_le _) (Nat.zero_le _) rfl
  refine T_swc (fun hx62 => ?_) (fun hx62 => ?_)
  · refine T_tin (tgt := 145) hok hx62 dX7_signToken_1 (by decide) (by decide) rfl rfl ?_
    refine T_iload_n hok 1 rfl rfl dX7_signToken_145 ?_
    refine T_bipush hok bp_61 dX7_signToken_146 ?_
    refine T_jp _ (fun (j158 : Int32 → Option (Int32)) => ∀ (x2 : Int32), T X A (Zm X A (ii0 (Wd))) 2 0 0 158 [] [.int x2] (Wd) (j158 x2)) _ ?_ ?_
    · intro x2
      exact T_iret hok dX7_signToken_158 (Nat.zero_le _) (Nat.zero_le _) rfl
    intro j158 hj158
    refine T_icmp_ne (tgt := 156) hok dX7_signToken_148 rfl ?_ ?_
    · refine T_bipush hok bp_27 dX7_signToken_151 ?_
      refine T_goto (tgt := 158) hok dX7_signToken_153 rfl ?_
      refine T_sub (lv' := []) [] rfl ?_
      exact hj158 (27 : Int32)
    refine T_bipush hok bp_28 dX7_signToken_156 ?_
    refine T_sub (lv' := []) [] rfl ?_
    exact hj158 (28 : Int32)
  refine T_swd ?_
  have nhx40 := toInt_ne (n := 40) rfl hx40
  have nhx41 := toInt_ne (n := 41) rfl hx41
  have nhx42 := toInt_ne (n := 42) rfl hx42
  have nhx43 := toInt_ne (n := 43) rfl hx43
  have nhx45 := toInt_ne (n := 45) rfl hx45
  have nhx47 := toInt_ne (n := 47) rfl hx47
  have nhx59 := toInt_ne (n := 59) rfl hx59
  have nhx60 := toInt_ne (n := 60) rfl hx60
  have nhx61 := toInt_ne (n := 61) rfl hx61
  have nhx62 := toInt_ne (n := 62) rfl hx62
  refine T_tdf (tgt := 171) (n := 23) hok dX7_signToken_1 rfl (fun j hj he => ?_) rfl ?_
  · rcases (show j = 0 ∨ j = 1 ∨ j = 2 ∨ j = 3 ∨ j = 4 ∨ j = 5 ∨ j = 6 ∨ j = 7 ∨ j = 8 ∨ j = 9 ∨ j = 10 ∨ j = 11 ∨ j = 12 ∨ j = 13 ∨ j = 14 ∨ j = 15 ∨ j = 16 ∨ j = 17 ∨ j = 18 ∨ j = 19 ∨ j = 20 ∨ j = 21 ∨ j = 22 by omega) with rfl | rfl | rfl | rfl | rfl | rfl | rfl | rfl | rfl | rfl | rfl | rfl | rfl | rfl | rfl | rfl | rfl | rfl | rfl | rfl | rfl | rfl | rfl <;> first | rfl | (exfalso; omega)
  refine T_bipush hok bp_36 dX7_signToken_171 ?_
  exact T_iret hok dX7_signToken_173 (Nat.zero_le _) (Nat.zero_le _) rfl

set_option maxHeartbeats 4000000 in
set_option maxRecDepth 100000 in
theorem ct_X7_step {G : Gx} {l0 : Launch} {A : Nat → Prop} {b bk dr it : Nat} (hA : ∀ k, k < Lc.length → A (b + k)) (I : MI) (J : MJ) : Ct G l0 A yX7_step cX7_step 2 none { frames := 2, cells := 0, slots := 0, locals := 44 } [.ref (b + 36)] (Rg G b Lc (Rc b bk dr it) I J) (iv1 (fun (I' : MI) => Rg G b Lc (Rc b bk dr it) I' J)) (f_X7_step I) := by
  refine Ct.of rfl (Nat.le_of_ble_eq_true rfl) ?_
  intro X hok
  replace hok : Ok G l0 X RX7 cX7_step 2 { frames := 2, cells := 0, slots := 0, locals := 44 } none := hok
  delta f_X7_step
  show T X A (Zm X A (iv1 (fun (I' : MI) => Rg G b Lc (Rc b bk dr it) I' J))) 2 0 0 0 [(0, .ref (b + 36))] [] (Rg G b Lc (Rc b bk dr it) I J) _
  refine T_jp _ (fun (j50 : MI → Option (MI)) => ∀ (I1 : MI), T X A (Zm X A (iv1 (fun (I' : MI) => Rg G b Lc (Rc b bk dr it) I' J))) 2 0 0 50 [(0, .ref (b + 36))] [] (Rg G b Lc (Rc b bk dr it) I1 J) (j50 I1)) _ ?_ ?_
  · intro I1
    refine T_aload_n hok 0 rfl rfl dX7_step_50 ?_
    refine T_aload_n hok 0 rfl rfl dX7_step_51 ?_
    refine T_getI hok fr_X7_36 lc_36 dX7_step_52 ?_
    refine T_putI hok hA fr_X7_46 rfl rfl lc_36 dX7_step_55 ?_
    intro I2
    refine T_aload_n hok 0 rfl rfl dX7_step_58 ?_
    refine T_aload_n hok 0 rfl rfl dX7_step_59 ?_
    refine T_getI hok fr_X7_36 lc_36 dX7_step_60 ?_
    refine T_ci0 (CR_V (rest := []) hok (ct_X7_signAt hA I2 J (I2 36 3)) mw_X7_signAt mv_X7_signAt ml_X7_42 lc_36 dX7_step_63 rfl rfl (roomOk rfl) rfl) rfl rfl ?_
    intro x3
    refine T_istore_n (lv' := [(1, .int x3), (0, .ref (b + 36))]) hok rfl (by decide) rfl dX7_step_66 ?_
    refine T_aload_n hok 1 rfl rfl dX7_step_67 ?_
    refine T_getI hok fr_X7_36 lc_36 dX7_step_68 ?_
    refine T_aload_n hok 1 rfl rfl dX7_step_71 ?_
    refine T_getI hok fr_X7_33 lc_36 dX7_step_72 ?_
    refine T_jp _ (fun (j178 : MI → Option (MI)) => ∀ (I4 : MI), T X A (Zm X A (iv1 (fun (I' : MI) => Rg G b Lc (Rc b bk dr it) I' J))) 2 0 0 178 [] [] (Rg G b Lc (Rc b bk dr it) I4 J) (j178 I4)) _ ?_ ?_
    · intro I4
      exact T_vret hok dX7_step_178 (Nat.zero_le _) (Nat.zero_le _) rfl
    intro j178 hj178
    refine T_icmp_lt (tgt := 87) hok dX7_step_75 rfl ?_ ?_
    · refine T_iload_n hok 0 rfl rfl dX7_step_87 ?_
      refine T_cz0 (CR_S (rest := []) hok (ct_X7_isLetter x3) mw_X7_isLetter mst_X7_isLetter ml_X7_49 dX7_step_88 rfl rfl (roomOk rfl) rfl) rfl rfl ?_
      intro x5
      refine T_ifb_eq (tgt := 101) hok dX7_step_91 rfl ?_ ?_
      · refine T_aload_n hok 1 rfl rfl dX7_step_94 ?_
        refine T_cv1 (CR_V (rest := []) hok (ct_X7_stepWord hA I2 J) mw_X7_stepWord mv_X7_stepWord ml_X7_53 lc_36 dX7_step_95 rfl rfl (roomOk rfl) rfl) rfl rfl ?_
        intro I6
        refine T_goto (tgt := 178) hok dX7_step_98 rfl ?_
        refine T_sub (lv' := []) [] rfl ?_
        exact hj178 I6
      refine T_iload_n hok 0 rfl rfl dX7_step_101 ?_
      refine T_cz0 (CR_S (rest := []) hok (ct_X7_isDigit x3) mw_X7_isDigit mst_X7_isDigit ml_X7_56 dX7_step_102 rfl rfl (roomOk rfl) rfl) rfl rfl ?_
      intro x7
      refine T_ifb_eq (tgt := 115) hok dX7_step_105 rfl ?_ ?_
      · refine T_aload_n hok 1 rfl rfl dX7_step_108 ?_
        refine T_cv1 (CR_V (rest := []) hok (ct_X7_stepNumber hA I2 J) mw_X7_stepNumber mv_X7_stepNumber ml_X7_59 lc_36 dX7_step_109 rfl rfl (roomOk rfl) rfl) rfl rfl ?_
        intro I8
        refine T_goto (tgt := 178) hok dX7_step_112 rfl ?_
        refine T_sub (lv' := []) [] rfl ?_
        exact hj178 I8
      refine T_aload_n hok 1 rfl rfl dX7_step_115 ?_
      refine T_dup hok rfl dX7_step_116 ?_
      refine T_getI hok fr_X7_36 lc_36 dX7_step_117 ?_
      refine T_iconst hok ic_1 dX7_step_120 ?_
      refine T_iadd hok dX7_step_121 ?_
      refine T_putI hok hA fr_X7_36 rfl rfl lc_36 dX7_step_122 ?_
      intro I9
      refine T_aload_n hok 1 rfl rfl dX7_step_125 ?_
      refine T_iload_n hok 0 rfl rfl dX7_step_126 ?_
      refine T_aload_n hok 1 rfl rfl dX7_step_127 ?_
      refine T_aload_n hok 1 rfl rfl dX7_step_128 ?_
      refine T_getI hok fr_X7_36 lc_36 dX7_step_129 ?_
      refine T_ci0 (CR_V (rest := [.int x3, .ref (b + 36)]) hok (ct_X7_signAt hA I9 J (I9 36 3)) mw_X7_signAt mv_X7_signAt ml_X7_42 lc_36 dX7_step_132 rfl rfl (roomOk rfl) rfl) rfl rfl ?_
      intro x10
      refine T_ci0 (CR_S (rest := [.ref (b + 36)]) hok (ct_X7_signToken x3 x10) mw_X7_signToken mst_X7_signToken ml_X7_62 dX7_step_135 rfl rfl (roomOk rfl) rfl) rfl rfl ?_
      intro x11
      refine T_putI hok hA fr_X7_39 rfl rfl lc_36 dX7_step_138 ?_
      intro I12
      refine T_aload_n hok 1 rfl rfl dX7_step_141 ?_
      refine T_getI hok fr_X7_39 lc_36 dX7_step_142 ?_
      refine T_bipush hok bp_24 dX7_step_145 ?_
      refine T_jp _ (fun (j168 : Option (MI)) => T X A (Zm X A (iv1 (fun (I' : MI) => Rg G b Lc (Rc b bk dr it) I' J))) 2 0 0 168 [(0, .ref (b + 36))] [] (Rg G b Lc (Rc b bk dr it) I12 J) (j168)) _ ?_ ?_
      · skip
        refine T_aload_n hok 0 rfl rfl dX7_step_168 ?_
        refine T_dup hok rfl dX7_step_169 ?_
        refine T_getI hok fr_X7_36 lc_36 dX7_step_170 ?_
        refine T_iconst hok ic_1 dX7_step_173 ?_
        refine T_iadd hok dX7_step_174 ?_
        refine T_putI hok hA fr_X7_36 rfl rfl lc_36 dX7_step_175 ?_
        intro I13
        refine T_sub (lv' := []) [] rfl ?_
        exact hj178 I13
      intro j168 hj168
      refine T_icmp_eq (tgt := 168) hok dX7_step_147 rfl ?_ ?_
      · refine T_sub (lv' := [(0, .ref (b + 36))]) [1] rfl ?_
        exact hj168
      refine T_aload_n hok 1 rfl rfl dX7_step_150 ?_
      refine T_getI hok fr_X7_39 lc_36 dX7_step_151 ?_
      refine T_bipush hok bp_27 dX7_step_154 ?_
      refine T_icmp_eq (tgt := 168) hok dX7_step_156 rfl ?_ ?_
      · refine T_sub (lv' := [(0, .ref (b + 36))]) [1] rfl ?_
        exact hj168
      refine T_aload_n hok 1 rfl rfl dX7_step_159 ?_
      refine T_getI hok fr_X7_39 lc_36 dX7_step_160 ?_
      refine T_bipush hok bp_26 dX7_step_163 ?_
      refine T_icmp_ne (tgt := 178) hok dX7_step_165 rfl ?_ ?_
      · refine T_sub (lv' := [(0, .ref (b + 36))]) [1] rfl ?_
        exact hj168
      refine T_sub (lv' := []) [] rfl ?_
      exact hj178 I12
    refine T_aload_n hok 1 rfl rfl dX7_step_78 ?_
    refine T_bipush hok bp_35 dX7_step_79 ?_
    refine T_putI hok hA fr_X7_39 rfl rfl lc_36 dX7_step_81 ?_
    intro I14
    refine T_goto (tgt := 178) hok dX7_step_84 rfl ?_
    refine T_sub (lv' := []) [] rfl ?_
    exact hj178 I14
  intro j50 hj50
  refine T_fix1 _ (fun (I15 : MI) => [(0, .ref (b + 36))]) (fun (I15 : MI) => Rg G b Lc (Rc b bk dr it) I15 J) ?_ FU I
  intro r0 hr0 I15
  refine T_aload_n hok 0 rfl rfl dX7_step_0 ?_
  refine T_getI hok fr_X7_36 lc_36 dX7_step_1 ?_
  refine T_aload_n hok 0 rfl rfl dX7_step_4 ?_
  refine T_getI hok fr_X7_33 lc_36 dX7_step_5 ?_
  refine T_icmp_ge (tgt := 50) hok dX7_step_8 rfl ?_ ?_
  · exact hj50 I15
  refine T_aload_n hok 0 rfl rfl dX7_step_11 ?_
  refine T_aload_n hok 0 rfl rfl dX7_step_12 ?_
  refine T_getI hok fr_X7_36 lc_36 dX7_step_13 ?_
  refine T_ci0 (CR_V (rest := []) hok (ct_X7_signAt hA I15 J (I15 36 3)) mw_X7_signAt mv_X7_signAt ml_X7_42 lc_36 dX7_step_16 rfl rfl (roomOk rfl) rfl) rfl rfl ?_
  intro x16
  refine T_bipush hok bp_32 dX7_step_19 ?_
  refine T_jp _ (fun (j37 : Option (MI)) => T X A (Zm X A (iv1 (fun (I' : MI) => Rg G b Lc (Rc b bk dr it) I' J))) 2 0 0 37 [(0, .ref (b + 36))] [] (Rg G b Lc (Rc b bk dr it) I15 J) (j37)) _ ?_ ?_
  · skip
    refine T_aload_n hok 0 rfl rfl dX7_step_37 ?_
    refine T_dup hok rfl dX7_step_38 ?_
    refine T_getI hok fr_X7_36 lc_36 dX7_step_39 ?_
    refine T_iconst hok ic_1 dX7_step_42 ?_
    refine T_iadd hok dX7_step_43 ?_
    refine T_putI hok hA fr_X7_36 rfl rfl lc_36 dX7_step_44 ?_
    intro I17
    refine T_goto (tgt := 0) hok dX7_step_47 rfl ?_
    exact hr0 I17
  intro j37 hj37
  refine T_icmp_eq (tgt := 37) hok dX7_step_21 rfl ?_ ?_
  · exact hj37
  refine T_aload_n hok 0 rfl rfl dX7_step_24 ?_
  refine T_aload_n hok 0 rfl rfl dX7_step_25 ?_
  refine T_getI hok fr_X7_36 lc_36 dX7_step_26 ?_
  refine T_ci0 (CR_V (rest := []) hok (ct_X7_signAt hA I15 J (I15 36 3)) mw_X7_signAt mv_X7_signAt ml_X7_42 lc_36 dX7_step_29 rfl rfl (roomOk rfl) rfl) rfl rfl ?_
  intro x18
  refine T_bipush hok bp_10 dX7_step_32 ?_
  refine T_icmp_ne (tgt := 50) hok dX7_step_34 rfl ?_ ?_
  · exact hj37
  exact hj50 I15

set_option maxHeartbeats 4000000 in
set_option maxRecDepth 100000 in
theorem ct_X6_fails {G : Gx} {l0 : Launch} {A : Nat → Prop} {b bk dr it : Nat} (hA : ∀ k, k < Lc.length → A (b + k)) (I : MI) (J : MJ) (a1 : Int32) : Ct G l0 A yX6_fails cX6_fails 2 (some .boolean) { frames := 0, cells := 0, slots := 0, locals := 0 } [.ref (b + 34), .int a1] (Rg G b Lc (Rc b bk dr it) I J) (iz1 (fun (I' : MI) => Rg G b Lc (Rc b bk dr it) I' J)) (f_X6_fails I a1) := by
  refine Ct.of rfl (Nat.le_of_ble_eq_true rfl) ?_
  intro X hok
  replace hok : Ok G l0 X RX6 cX6_fails 2 { frames := 0, cells := 0, slots := 0, locals := 0 } (some .boolean) := hok
  delta f_X6_fails
  show T X A (Zm X A (iz1 (fun (I' : MI) => Rg G b Lc (Rc b bk dr it) I' J))) 2 0 0 0 [(0, .ref (b + 34)), (1, .int a1)] [] (Rg G b Lc (Rc b bk dr it) I J) _
  refine T_aload_n hok 0 rfl rfl dX6_fails_0 ?_
  refine T_iload_n hok 1 rfl rfl dX6_fails_1 ?_
  refine T_putI hok hA fr_X6_46 rfl rfl lc_34 dX6_fails_2 ?_
  intro I1
  refine T_aload_n hok 0 rfl rfl dX6_fails_5 ?_
  refine T_aload_n hok 0 rfl rfl dX6_fails_6 ?_
  refine T_getR hok fr_X6_26 lc_34 rc_34_0 dX6_fails_7 ?_
  refine T_getI hok fr_X6_90 lc_36 dX6_fails_10 ?_
  refine T_putI hok hA fr_X6_17 rfl rfl lc_34 dX6_fails_13 ?_
  intro I2
  refine T_iconst hok ic_0 dX6_fails_16 ?_
  exact T_zret hok dX6_fails_17 (Nat.zero_le _) (Nat.zero_le _) rfl rfl

set_option maxHeartbeats 4000000 in
set_option maxRecDepth 100000 in
theorem ct_X6_isWord {G : Gx} {l0 : Launch} {A : Nat → Prop} {b bk dr it : Nat} (hA : ∀ k, k < Lc.length → A (b + k)) (I : MI) (J : MJ) : Ct G l0 A yX6_isWord cX6_isWord 1 (some .boolean) { frames := 3, cells := 0, slots := 0, locals := 65 } [.ref (b + 34)] (Rg G b Lc (Rc b bk dr it) I J) (iz1 (fun (I' : MI) => Rg G b Lc (Rc b bk dr it) I' J)) (f_X6_isWord I) := by
  refine Ct.of rfl (Nat.le_of_ble_eq_true rfl) ?_
  intro X hok
  replace hok : Ok G l0 X RX6 cX6_isWord 1 { frames := 3, cells := 0, slots := 0, locals := 65 } (some .boolean) := hok
  delta f_X6_isWord
  show T X A (Zm X A (iz1 (fun (I' : MI) => Rg G b Lc (Rc b bk dr it) I' J))) 1 0 0 0 [(0, .ref (b + 34))] [] (Rg G b Lc (Rc b bk dr it) I J) _
  refine T_aload_n hok 0 rfl rfl dX6_isWord_0 ?_
  refine T_getR hok fr_X6_26 lc_34 rc_34_0 dX6_isWord_1 ?_
  refine T_cv1 (CR_V (rest := []) hok (ct_X7_step hA I J) mw_X7_step mv_X7_step ml_X6_49 lc_36 dX6_isWord_4 rfl rfl (roomOk rfl) rfl) rfl rfl ?_
  intro I1
  refine T_aload_n hok 0 rfl rfl dX6_isWord_7 ?_
  refine T_getR hok fr_X6_26 lc_34 rc_34_0 dX6_isWord_8 ?_
  refine T_getI hok fr_X6_52 lc_36 dX6_isWord_11 ?_
  refine T_bipush hok bp_34 dX6_isWord_14 ?_
  refine T_jp _ (fun (j32 : Bool → MI → Option (Bool × MI)) => ∀ (x2 : Bool) (I3 : MI), T X A (Zm X A (iz1 (fun (I' : MI) => Rg G b Lc (Rc b bk dr it) I' J))) 1 0 0 32 [] [.int (bi x2)] (Rg G b Lc (Rc b bk dr it) I3 J) (j32 x2 I3)) _ ?_ ?_
  · intro x2 I3
    exact T_zret hok dX6_isWord_32 (Nat.zero_le _) (Nat.zero_le _) (bi_01 _) rfl
  intro j32 hj32
  refine T_jp _ (fun (j27 : MI → Option (Bool × MI)) => ∀ (I4 : MI), T X A (Zm X A (iz1 (fun (I' : MI) => Rg G b Lc (Rc b bk dr it) I' J))) 1 0 0 27 [] [] (Rg G b Lc (Rc b bk dr it) I4 J) (j27 I4)) _ ?_ ?_
  · intro I4
    refine T_iconst hok ic_1 dX6_isWord_27 ?_
    refine T_goto (tgt := 32) hok dX6_isWord_28 rfl ?_
    exact hj32 true I4
  intro j27 hj27
  refine T_icmp_eq (tgt := 27) hok dX6_isWord_16 rfl ?_ ?_
  · refine T_sub (lv' := []) [] rfl ?_
    exact hj27 I1
  refine T_aload_n hok 0 rfl rfl dX6_isWord_19 ?_
  refine T_iconst hok ic_1 dX6_isWord_20 ?_
  refine T_cz1 (CR_V (rest := []) hok (ct_X6_fails hA I1 J (1 : Int32)) mw_X6_fails mv_X6_fails ml_X6_86 lc_34 dX6_isWord_21 rfl rfl (roomOk rfl) rfl) rfl rfl ?_
  intro x5 I6
  refine T_ifb_eq (tgt := 31) hok dX6_isWord_24 rfl ?_ ?_
  · refine T_sub (lv' := []) [] rfl ?_
    exact hj27 I6
  refine T_iconst hok ic_0 dX6_isWord_31 ?_
  refine T_sub (lv' := []) [] rfl ?_
  exact hj32 false I6

set_option maxHeartbeats 4000000 in
set_option maxRecDepth 100000 in
theorem ct_X6_isNumber {G : Gx} {l0 : Launch} {A : Nat → Prop} {b bk dr it : Nat} (hA : ∀ k, k < Lc.length → A (b + k)) (I : MI) (J : MJ) (a1 : Int32) (a2 : Int32) : Ct G l0 A yX6_isNumber cX6_isNumber 3 (some .boolean) { frames := 3, cells := 0, slots := 0, locals := 65 } [.ref (b + 34), .int a1, .int a2] (Rg G b Lc (Rc b bk dr it) I J) (iz1 (fun (I' : MI) => Rg G b Lc (Rc b bk dr it) I' J)) (f_X6_isNumber I a1 a2) := by
  refine Ct.of rfl (Nat.le_of_ble_eq_true rfl) ?_
  intro X hok
  replace hok : Ok G l0 X RX6 cX6_isNumber 3 { frames := 3, cells := 0, slots := 0, locals := 65 } (some .boolean) := hok
  delta f_X6_isNumber
  show T X A (Zm X A (iz1 (fun (I' : MI) => Rg G b Lc (Rc b bk dr it) I' J))) 3 0 0 0 [(0, .ref (b + 34)), (1, .int a1), (2, .int a2)] [] (Rg G b Lc (Rc b bk dr it) I J) _
  refine T_aload_n hok 0 rfl rfl dX6_isNumber_0 ?_
  refine T_getR hok fr_X6_26 lc_34 rc_34_0 dX6_isNumber_1 ?_
  refine T_cv1 (CR_V (rest := []) hok (ct_X7_step hA I J) mw_X7_step mv_X7_step ml_X6_49 lc_36 dX6_isNumber_4 rfl rfl (roomOk rfl) rfl) rfl rfl ?_
  intro I1
  refine T_aload_n hok 0 rfl rfl dX6_isNumber_7 ?_
  refine T_getR hok fr_X6_26 lc_34 rc_34_0 dX6_isNumber_8 ?_
  refine T_getI hok fr_X6_52 lc_36 dX6_isNumber_11 ?_
  refine T_bipush hok bp_33 dX6_isNumber_14 ?_
  refine T_icmp_eq (tgt := 25) hok dX6_isNumber_16 rfl ?_ ?_
  · refine T_aload_n hok 0 rfl rfl dX6_isNumber_25 ?_
    refine T_getR hok fr_X6_26 lc_34 rc_34_0 dX6_isNumber_26 ?_
    refine T_getI hok fr_X6_93 lc_36 dX6_isNumber_29 ?_
    refine T_iload_n hok 1 rfl rfl dX6_isNumber_32 ?_
    refine T_iload_n hok 2 rfl rfl dX6_isNumber_33 ?_
    refine T_cz0 (CR_SN (rest := []) hok (ct_X10_isWithin (I1 36 6) a1 a2) mw_X10_isWithin mst_X10_isWithin ml_X6_96 dX6_isNumber_34 rfl rfl (roomOk rfl) rfl) rfl rfl ?_
    intro x2
    refine T_jp _ (fun (j53 : Bool → MI → Option (Bool × MI)) => ∀ (x3 : Bool) (I4 : MI), T X A (Zm X A (iz1 (fun (I' : MI) => Rg G b Lc (Rc b bk dr it) I' J))) 3 0 0 53 [] [.int (bi x3)] (Rg G b Lc (Rc b bk dr it) I4 J) (j53 x3 I4)) _ ?_ ?_
    · intro x3 I4
      exact T_zret hok dX6_isNumber_53 (Nat.zero_le _) (Nat.zero_le _) (bi_01 _) rfl
    intro j53 hj53
    refine T_jp _ (fun (j48 : MI → Option (Bool × MI)) => ∀ (I5 : MI), T X A (Zm X A (iz1 (fun (I' : MI) => Rg G b Lc (Rc b bk dr it) I' J))) 3 0 0 48 [] [] (Rg G b Lc (Rc b bk dr it) I5 J) (j48 I5)) _ ?_ ?_
    · intro I5
      refine T_iconst hok ic_1 dX6_isNumber_48 ?_
      refine T_goto (tgt := 53) hok dX6_isNumber_49 rfl ?_
      exact hj53 true I5
    intro j48 hj48
    refine T_ifb_ne (tgt := 48) hok dX6_isNumber_37 rfl ?_ ?_
    · refine T_sub (lv' := []) [] rfl ?_
      exact hj48 I1
    refine T_aload_n hok 0 rfl rfl dX6_isNumber_40 ?_
    refine T_iconst hok ic_2 dX6_isNumber_41 ?_
    refine T_cz1 (CR_V (rest := []) hok (ct_X6_fails hA I1 J (2 : Int32)) mw_X6_fails mv_X6_fails ml_X6_86 lc_34 dX6_isNumber_42 rfl rfl (roomOk rfl) rfl) rfl rfl ?_
    intro x6 I7
    refine T_ifb_eq (tgt := 52) hok dX6_isNumber_45 rfl ?_ ?_
    · refine T_sub (lv' := []) [] rfl ?_
      exact hj48 I7
    refine T_iconst hok ic_0 dX6_isNumber_52 ?_
    refine T_sub (lv' := []) [] rfl ?_
    exact hj53 false I7
  refine T_aload_n hok 0 rfl rfl dX6_isNumber_19 ?_
  refine T_iconst hok ic_1 dX6_isNumber_20 ?_
  refine T_cz1 (CR_V (rest := []) hok (ct_X6_fails hA I1 J (1 : Int32)) mw_X6_fails mv_X6_fails ml_X6_86 lc_34 dX6_isNumber_21 rfl rfl (roomOk rfl) rfl) rfl rfl ?_
  intro x8 I9
  exact T_zret hok dX6_isNumber_24 (Nat.zero_le _) (Nat.zero_le _) (bi_01 _) rfl

set_option maxHeartbeats 4000000 in
set_option maxRecDepth 100000 in
theorem ct_X6_readKind {G : Gx} {l0 : Launch} {A : Nat → Prop} {b bk dr it : Nat} (hA : ∀ k, k < Lc.length → A (b + k)) (hit : isBk it = true) (I : MI) (J : MJ) : Ct G l0 A yX6_readKind cX6_readKind 2 (some .boolean) { frames := 4, cells := 0, slots := 0, locals := 87 } [.ref (b + 34)] (Rg G b Lc (Rc b bk dr it) I J) (iz1 (fun (I' : MI) => Rg G b Lc (Rc b bk dr it) I' J)) (f_X6_readKind it I) := by
  refine Ct.of rfl (Nat.le_of_ble_eq_true rfl) ?_
  intro X hok
  replace hok : Ok G l0 X RX6 cX6_readKind 2 { frames := 4, cells := 0, slots := 0, locals := 87 } (some .boolean) := hok
  delta f_X6_readKind
  show T X A (Zm X A (iz1 (fun (I' : MI) => Rg G b Lc (Rc b bk dr it) I' J))) 2 0 0 0 [(0, .ref (b + 34))] [] (Rg G b Lc (Rc b bk dr it) I J) _
  refine T_aload_n hok 0 rfl rfl dX6_readKind_0 ?_
  refine T_getR hok fr_X6_30 lc_34 rc_34_7 dX6_readKind_1 ?_
  refine T_getI hok fr_X6_100 (bookAt_c (b := 0) (bk := 0) (dr := 0) (it := 0) hit).o dX6_readKind_4 ?_
  refine T_lti ?_
  intro x1
  refine T_istore_n (lv' := [(1, .int x1), (0, .ref (b + 34))]) hok rfl (by decide) rfl dX6_readKind_7 ?_
  refine T_iload_n hok 0 rfl rfl dX6_readKind_8 ?_
  refine T_bipush hok bp_6 dX6_readKind_9 ?_
  refine T_icmp_lt (tgt := 20) hok dX6_readKind_11 rfl ?_ ?_
  · refine T_aload_n hok 1 rfl rfl dX6_readKind_20 ?_
    refine T_cz1 (CR_V (rest := []) hok (ct_X6_isWord hA I J) mw_X6_isWord mv_X6_isWord ml_X6_103 lc_34 dX6_readKind_21 rfl rfl (roomOk rfl) rfl) rfl rfl ?_
    intro x2 I3
    refine T_ifb_ne (tgt := 29) hok dX6_readKind_24 rfl ?_ ?_
    · refine T_aload_n hok 1 rfl rfl dX6_readKind_29 ?_
      refine T_getR hok fr_X6_30 lc_34 rc_34_7 dX6_readKind_30 ?_
      refine T_aload_n hok 1 rfl rfl dX6_readKind_33 ?_
      refine T_getR hok fr_X6_26 lc_34 rc_34_0 dX6_readKind_34 ?_
      refine T_getI hok fr_X6_93 lc_36 dX6_readKind_37 ?_
      refine T_ci0 (CR_V (rest := []) hok (ct_X0_kindNamed hA (bookAt_c hit) I3 J (I3 36 6)) mw_X0_kindNamed mv_X0_kindNamed ml_X6_106 (bookAt_c (b := 0) (bk := 0) (dr := 0) (it := 0) hit).o dX6_readKind_40 rfl rfl (roomOk rfl) rfl) rfl rfl ?_
      intro x4
      refine T_iconst hok ic_m1 dX6_readKind_43 ?_
      refine T_icmp_eq (tgt := 53) hok dX6_readKind_44 rfl ?_ ?_
      · refine T_aload_n hok 1 rfl rfl dX6_readKind_53 ?_
        refine T_getR hok fr_X6_30 lc_34 rc_34_7 dX6_readKind_54 ?_
        refine T_getR hok fr_X6_110 (bookAt_c (b := 0) (bk := 0) (dr := 0) (it := 0) hit).o (bookAt_c hit).r0 dX6_readKind_57 ?_
        refine T_iload_n hok 0 rfl rfl dX6_readKind_60 ?_
        refine T_aload_n hok 1 rfl rfl dX6_readKind_61 ?_
        refine T_getR hok fr_X6_26 lc_34 rc_34_0 dX6_readKind_62 ?_
        refine T_getI hok fr_X6_93 lc_36 dX6_readKind_65 ?_
        refine T_iast hok hA (bookAt_c (b := 0) (bk := 0) (dr := 0) (it := 0) hit).l0 dX6_readKind_68 ?_
        intro I5
        refine T_aload_n hok 1 rfl rfl dX6_readKind_69 ?_
        refine T_iconst hok ic_0 dX6_readKind_70 ?_
        refine T_bipush hok bp_99 dX6_readKind_71 ?_
        refine T_cz1 (CR_V (rest := []) hok (ct_X6_isNumber hA I5 J (0 : Int32) (99 : Int32)) mw_X6_isNumber mv_X6_isNumber ml_X6_113 lc_34 dX6_readKind_73 rfl rfl (roomOk rfl) rfl) rfl rfl ?_
        intro x6 I7
        refine T_ifb_ne (tgt := 81) hok dX6_readKind_76 rfl ?_ ?_
        · refine T_aload_n hok 1 rfl rfl dX6_readKind_81 ?_
          refine T_getR hok fr_X6_30 lc_34 rc_34_7 dX6_readKind_82 ?_
          refine T_getR hok fr_X6_117 (bookAt_c (b := 0) (bk := 0) (dr := 0) (it := 0) hit).o (bookAt_c hit).r1 dX6_readKind_85 ?_
          refine T_iload_n hok 0 rfl rfl dX6_readKind_88 ?_
          refine T_aload_n hok 1 rfl rfl dX6_readKind_89 ?_
          refine T_getR hok fr_X6_26 lc_34 rc_34_0 dX6_readKind_90 ?_
          refine T_getI hok fr_X6_93 lc_36 dX6_readKind_93 ?_
          refine T_iast hok hA (bookAt_c (b := 0) (bk := 0) (dr := 0) (it := 0) hit).l1 dX6_readKind_96 ?_
          intro I8
          refine T_aload_n hok 1 rfl rfl dX6_readKind_97 ?_
          refine T_iconst hok ic_0 dX6_readKind_98 ?_
          refine T_bipush hok bp_99 dX6_readKind_99 ?_
          refine T_cz1 (CR_V (rest := []) hok (ct_X6_isNumber hA I8 J (0 : Int32) (99 : Int32)) mw_X6_isNumber mv_X6_isNumber ml_X6_113 lc_34 dX6_readKind_101 rfl rfl (roomOk rfl) rfl) rfl rfl ?_
          intro x9 I10
          refine T_ifb_ne (tgt := 109) hok dX6_readKind_104 rfl ?_ ?_
          · refine T_aload_n hok 1 rfl rfl dX6_readKind_109 ?_
            refine T_getR hok fr_X6_30 lc_34 rc_34_7 dX6_readKind_110 ?_
            refine T_getR hok fr_X6_120 (bookAt_c (b := 0) (bk := 0) (dr := 0) (it := 0) hit).o (bookAt_c hit).r2 dX6_readKind_113 ?_
            refine T_iload_n hok 0 rfl rfl dX6_readKind_116 ?_
            refine T_aload_n hok 1 rfl rfl dX6_readKind_117 ?_
            refine T_getR hok fr_X6_26 lc_34 rc_34_0 dX6_readKind_118 ?_
            refine T_getI hok fr_X6_93 lc_36 dX6_readKind_121 ?_
            refine T_iast hok hA (bookAt_c (b := 0) (bk := 0) (dr := 0) (it := 0) hit).l2 dX6_readKind_124 ?_
            intro I11
            refine T_aload_n hok 1 rfl rfl dX6_readKind_125 ?_
            refine T_getR hok fr_X6_30 lc_34 rc_34_7 dX6_readKind_126 ?_
            refine T_dup hok rfl dX6_readKind_129 ?_
            refine T_getI hok fr_X6_100 (bookAt_c (b := 0) (bk := 0) (dr := 0) (it := 0) hit).o dX6_readKind_130 ?_
            refine T_iconst hok ic_1 dX6_readKind_133 ?_
            refine T_iadd hok dX6_readKind_134 ?_
            refine T_putI hok hA fr_X6_100 rfl rfl (bookAt_c (b := 0) (bk := 0) (dr := 0) (it := 0) hit).o dX6_readKind_135 ?_
            intro I12
            refine T_iconst hok ic_1 dX6_readKind_138 ?_
            exact T_zret hok dX6_readKind_139 (Nat.zero_le _) (Nat.zero_le _) rfl rfl
          refine T_iconst hok ic_0 dX6_readKind_107 ?_
          exact T_zret hok dX6_readKind_108 (Nat.zero_le _) (Nat.zero_le _) rfl rfl
        refine T_iconst hok ic_0 dX6_readKind_79 ?_
        exact T_zret hok dX6_readKind_80 (Nat.zero_le _) (Nat.zero_le _) rfl rfl
      refine T_aload_n hok 1 rfl rfl dX6_readKind_47 ?_
      refine T_iconst hok ic_3 dX6_readKind_48 ?_
      refine T_cz1 (CR_V (rest := []) hok (ct_X6_fails hA I3 J (3 : Int32)) mw_X6_fails mv_X6_fails ml_X6_86 lc_34 dX6_readKind_49 rfl rfl (roomOk rfl) rfl) rfl rfl ?_
      intro x13 I14
      exact T_zret hok dX6_readKind_52 (Nat.zero_le _) (Nat.zero_le _) (bi_01 _) rfl
    refine T_iconst hok ic_0 dX6_readKind_27 ?_
    exact T_zret hok dX6_readKind_28 (Nat.zero_le _) (Nat.zero_le _) rfl rfl
  refine T_aload_n hok 1 rfl rfl dX6_readKind_14 ?_
  refine T_iconst hok ic_2 dX6_readKind_15 ?_
  refine T_cz1 (CR_V (rest := []) hok (ct_X6_fails hA I J (2 : Int32)) mw_X6_fails mv_X6_fails ml_X6_86 lc_34 dX6_readKind_16 rfl rfl (roomOk rfl) rfl) rfl rfl ?_
  intro x15 I16
  exact T_zret hok dX6_readKind_19 (Nat.zero_le _) (Nat.zero_le _) (bi_01 _) rfl

set_option maxHeartbeats 4000000 in
set_option maxRecDepth 100000 in
theorem ct_X6_isEnd {G : Gx} {l0 : Launch} {A : Nat → Prop} {b bk dr it : Nat} (hA : ∀ k, k < Lc.length → A (b + k)) (I : MI) (J : MJ) : Ct G l0 A yX6_isEnd cX6_isEnd 1 (some .boolean) { frames := 3, cells := 0, slots := 0, locals := 65 } [.ref (b + 34)] (Rg G b Lc (Rc b bk dr it) I J) (iz1 (fun (I' : MI) => Rg G b Lc (Rc b bk dr it) I' J)) (f_X6_isEnd I) := by
  refine Ct.of rfl (Nat.le_of_ble_eq_true rfl) ?_
  intro X hok
  replace hok : Ok G l0 X RX6 cX6_isEnd 1 { frames := 3, cells := 0, slots := 0, locals := 65 } (some .boolean) := hok
  delta f_X6_isEnd
  show T X A (Zm X A (iz1 (fun (I' : MI) => Rg G b Lc (Rc b bk dr it) I' J))) 1 0 0 0 [(0, .ref (b + 34))] [] (Rg G b Lc (Rc b bk dr it) I J) _
  refine T_aload_n hok 0 rfl rfl dX6_isEnd_0 ?_
  refine T_getR hok fr_X6_26 lc_34 rc_34_0 dX6_isEnd_1 ?_
  refine T_cv1 (CR_V (rest := []) hok (ct_X7_step hA I J) mw_X7_step mv_X7_step ml_X6_49 lc_36 dX6_isEnd_4 rfl rfl (roomOk rfl) rfl) rfl rfl ?_
  intro I1
  refine T_aload_n hok 0 rfl rfl dX6_isEnd_7 ?_
  refine T_getR hok fr_X6_26 lc_34 rc_34_0 dX6_isEnd_8 ?_
  refine T_getI hok fr_X6_52 lc_36 dX6_isEnd_11 ?_
  refine T_bipush hok bp_20 dX6_isEnd_14 ?_
  refine T_jp _ (fun (j32 : Bool → MI → Option (Bool × MI)) => ∀ (x2 : Bool) (I3 : MI), T X A (Zm X A (iz1 (fun (I' : MI) => Rg G b Lc (Rc b bk dr it) I' J))) 1 0 0 32 [] [.int (bi x2)] (Rg G b Lc (Rc b bk dr it) I3 J) (j32 x2 I3)) _ ?_ ?_
  · intro x2 I3
    exact T_zret hok dX6_isEnd_32 (Nat.zero_le _) (Nat.zero_le _) (bi_01 _) rfl
  intro j32 hj32
  refine T_jp _ (fun (j27 : MI → Option (Bool × MI)) => ∀ (I4 : MI), T X A (Zm X A (iz1 (fun (I' : MI) => Rg G b Lc (Rc b bk dr it) I' J))) 1 0 0 27 [] [] (Rg G b Lc (Rc b bk dr it) I4 J) (j27 I4)) _ ?_ ?_
  · intro I4
    refine T_iconst hok ic_1 dX6_isEnd_27 ?_
    refine T_goto (tgt := 32) hok dX6_isEnd_28 rfl ?_
    exact hj32 true I4
  intro j27 hj27
  refine T_icmp_eq (tgt := 27) hok dX6_isEnd_16 rfl ?_ ?_
  · refine T_sub (lv' := []) [] rfl ?_
    exact hj27 I1
  refine T_aload_n hok 0 rfl rfl dX6_isEnd_19 ?_
  refine T_iconst hok ic_1 dX6_isEnd_20 ?_
  refine T_cz1 (CR_V (rest := []) hok (ct_X6_fails hA I1 J (1 : Int32)) mw_X6_fails mv_X6_fails ml_X6_86 lc_34 dX6_isEnd_21 rfl rfl (roomOk rfl) rfl) rfl rfl ?_
  intro x5 I6
  refine T_ifb_eq (tgt := 31) hok dX6_isEnd_24 rfl ?_ ?_
  · refine T_sub (lv' := []) [] rfl ?_
    exact hj27 I6
  refine T_iconst hok ic_0 dX6_isEnd_31 ?_
  refine T_sub (lv' := []) [] rfl ?_
  exact hj32 false I6

set_option maxHeartbeats 4000000 in
set_option maxRecDepth 100000 in
theorem ct_X6_readHouse {G : Gx} {l0 : Launch} {A : Nat → Prop} {b bk dr it : Nat} (hA : ∀ k, k < Lc.length → A (b + k)) (hit : isBk it = true) (I : MI) (J : MJ) : Ct G l0 A yX6_readHouse cX6_readHouse 2 (some .boolean) { frames := 4, cells := 0, slots := 0, locals := 87 } [.ref (b + 34)] (Rg G b Lc (Rc b bk dr it) I J) (iz1 (fun (I' : MI) => Rg G b Lc (Rc b bk dr it) I' J)) (f_X6_readHouse it I) := by
  refine Ct.of rfl (Nat.le_of_ble_eq_true rfl) ?_
  intro X hok
  replace hok : Ok G l0 X RX6 cX6_readHouse 2 { frames := 4, cells := 0, slots := 0, locals := 87 } (some .boolean) := hok
  delta f_X6_readHouse
  show T X A (Zm X A (iz1 (fun (I' : MI) => Rg G b Lc (Rc b bk dr it) I' J))) 2 0 0 0 [(0, .ref (b + 34))] [] (Rg G b Lc (Rc b bk dr it) I J) _
  refine T_aload_n hok 0 rfl rfl dX6_readHouse_0 ?_
  refine T_getR hok fr_X6_30 lc_34 rc_34_7 dX6_readHouse_1 ?_
  refine T_getI hok fr_X6_123 (bookAt_c (b := 0) (bk := 0) (dr := 0) (it := 0) hit).o dX6_readHouse_4 ?_
  refine T_lti ?_
  intro x1
  refine T_istore_n (lv' := [(1, .int x1), (0, .ref (b + 34))]) hok rfl (by decide) rfl dX6_readHouse_7 ?_
  refine T_iload_n hok 0 rfl rfl dX6_readHouse_8 ?_
  refine T_bipush hok bp_6 dX6_readHouse_9 ?_
  refine T_icmp_lt (tgt := 20) hok dX6_readHouse_11 rfl ?_ ?_
  · refine T_aload_n hok 1 rfl rfl dX6_readHouse_20 ?_
    refine T_cz1 (CR_V (rest := []) hok (ct_X6_isWord hA I J) mw_X6_isWord mv_X6_isWord ml_X6_103 lc_34 dX6_readHouse_21 rfl rfl (roomOk rfl) rfl) rfl rfl ?_
    intro x2 I3
    refine T_ifb_ne (tgt := 29) hok dX6_readHouse_24 rfl ?_ ?_
    · refine T_aload_n hok 1 rfl rfl dX6_readHouse_29 ?_
      refine T_getR hok fr_X6_30 lc_34 rc_34_7 dX6_readHouse_30 ?_
      refine T_aload_n hok 1 rfl rfl dX6_readHouse_33 ?_
      refine T_getR hok fr_X6_26 lc_34 rc_34_0 dX6_readHouse_34 ?_
      refine T_getI hok fr_X6_93 lc_36 dX6_readHouse_37 ?_
      refine T_ci0 (CR_V (rest := []) hok (ct_X0_houseNamed hA (bookAt_c hit) I3 J (I3 36 6)) mw_X0_houseNamed mv_X0_houseNamed ml_X6_126 (bookAt_c (b := 0) (bk := 0) (dr := 0) (it := 0) hit).o dX6_readHouse_40 rfl rfl (roomOk rfl) rfl) rfl rfl ?_
      intro x4
      refine T_iconst hok ic_m1 dX6_readHouse_43 ?_
      refine T_icmp_eq (tgt := 53) hok dX6_readHouse_44 rfl ?_ ?_
      · refine T_aload_n hok 1 rfl rfl dX6_readHouse_53 ?_
        refine T_getR hok fr_X6_30 lc_34 rc_34_7 dX6_readHouse_54 ?_
        refine T_getR hok fr_X6_129 (bookAt_c (b := 0) (bk := 0) (dr := 0) (it := 0) hit).o (bookAt_c hit).r3 dX6_readHouse_57 ?_
        refine T_iload_n hok 0 rfl rfl dX6_readHouse_60 ?_
        refine T_aload_n hok 1 rfl rfl dX6_readHouse_61 ?_
        refine T_getR hok fr_X6_26 lc_34 rc_34_0 dX6_readHouse_62 ?_
        refine T_getI hok fr_X6_93 lc_36 dX6_readHouse_65 ?_
        refine T_iast hok hA (bookAt_c (b := 0) (bk := 0) (dr := 0) (it := 0) hit).l3 dX6_readHouse_68 ?_
        intro I5
        refine T_aload_n hok 1 rfl rfl dX6_readHouse_69 ?_
        refine T_iconst hok ic_0 dX6_readHouse_70 ?_
        refine T_sipush hok sp_999 dX6_readHouse_71 ?_
        refine T_cz1 (CR_V (rest := []) hok (ct_X6_isNumber hA I5 J (0 : Int32) (999 : Int32)) mw_X6_isNumber mv_X6_isNumber ml_X6_113 lc_34 dX6_readHouse_74 rfl rfl (roomOk rfl) rfl) rfl rfl ?_
        intro x6 I7
        refine T_ifb_ne (tgt := 82) hok dX6_readHouse_77 rfl ?_ ?_
        · refine T_aload_n hok 1 rfl rfl dX6_readHouse_82 ?_
          refine T_getR hok fr_X6_30 lc_34 rc_34_7 dX6_readHouse_83 ?_
          refine T_getR hok fr_X6_132 (bookAt_c (b := 0) (bk := 0) (dr := 0) (it := 0) hit).o (bookAt_c hit).r4 dX6_readHouse_86 ?_
          refine T_iload_n hok 0 rfl rfl dX6_readHouse_89 ?_
          refine T_aload_n hok 1 rfl rfl dX6_readHouse_90 ?_
          refine T_getR hok fr_X6_26 lc_34 rc_34_0 dX6_readHouse_91 ?_
          refine T_getI hok fr_X6_93 lc_36 dX6_readHouse_94 ?_
          refine T_iast hok hA (bookAt_c (b := 0) (bk := 0) (dr := 0) (it := 0) hit).l4 dX6_readHouse_97 ?_
          intro I8
          refine T_aload_n hok 1 rfl rfl dX6_readHouse_98 ?_
          refine T_iconst hok ic_0 dX6_readHouse_99 ?_
          refine T_bipush hok bp_9 dX6_readHouse_100 ?_
          refine T_cz1 (CR_V (rest := []) hok (ct_X6_isNumber hA I8 J (0 : Int32) (9 : Int32)) mw_X6_isNumber mv_X6_isNumber ml_X6_113 lc_34 dX6_readHouse_102 rfl rfl (roomOk rfl) rfl) rfl rfl ?_
          intro x9 I10
          refine T_ifb_ne (tgt := 110) hok dX6_readHouse_105 rfl ?_ ?_
          · refine T_aload_n hok 1 rfl rfl dX6_readHouse_110 ?_
            refine T_getR hok fr_X6_30 lc_34 rc_34_7 dX6_readHouse_111 ?_
            refine T_getR hok fr_X6_135 (bookAt_c (b := 0) (bk := 0) (dr := 0) (it := 0) hit).o (bookAt_c hit).r5 dX6_readHouse_114 ?_
            refine T_iload_n hok 0 rfl rfl dX6_readHouse_117 ?_
            refine T_aload_n hok 1 rfl rfl dX6_readHouse_118 ?_
            refine T_getR hok fr_X6_26 lc_34 rc_34_0 dX6_readHouse_119 ?_
            refine T_getI hok fr_X6_93 lc_36 dX6_readHouse_122 ?_
            refine T_iast hok hA (bookAt_c (b := 0) (bk := 0) (dr := 0) (it := 0) hit).l5 dX6_readHouse_125 ?_
            intro I11
            refine T_aload_n hok 1 rfl rfl dX6_readHouse_126 ?_
            refine T_iconst hok ic_0 dX6_readHouse_127 ?_
            refine T_bipush hok bp_99 dX6_readHouse_128 ?_
            refine T_cz1 (CR_V (rest := []) hok (ct_X6_isNumber hA I11 J (0 : Int32) (99 : Int32)) mw_X6_isNumber mv_X6_isNumber ml_X6_113 lc_34 dX6_readHouse_130 rfl rfl (roomOk rfl) rfl) rfl rfl ?_
            intro x12 I13
            refine T_ifb_ne (tgt := 138) hok dX6_readHouse_133 rfl ?_ ?_
            · refine T_aload_n hok 1 rfl rfl dX6_readHouse_138 ?_
              refine T_getR hok fr_X6_30 lc_34 rc_34_7 dX6_readHouse_139 ?_
              refine T_getR hok fr_X6_138 (bookAt_c (b := 0) (bk := 0) (dr := 0) (it := 0) hit).o (bookAt_c hit).r6 dX6_readHouse_142 ?_
              refine T_iload_n hok 0 rfl rfl dX6_readHouse_145 ?_
              refine T_aload_n hok 1 rfl rfl dX6_readHouse_146 ?_
              refine T_getR hok fr_X6_26 lc_34 rc_34_0 dX6_readHouse_147 ?_
              refine T_getI hok fr_X6_93 lc_36 dX6_readHouse_150 ?_
              refine T_iast hok hA (bookAt_c (b := 0) (bk := 0) (dr := 0) (it := 0) hit).l6 dX6_readHouse_153 ?_
              intro I14
              refine T_aload_n hok 1 rfl rfl dX6_readHouse_154 ?_
              refine T_getR hok fr_X6_30 lc_34 rc_34_7 dX6_readHouse_155 ?_
              refine T_dup hok rfl dX6_readHouse_158 ?_
              refine T_getI hok fr_X6_123 (bookAt_c (b := 0) (bk := 0) (dr := 0) (it := 0) hit).o dX6_readHouse_159 ?_
              refine T_iconst hok ic_1 dX6_readHouse_162 ?_
              refine T_iadd hok dX6_readHouse_163 ?_
              refine T_putI hok hA fr_X6_123 rfl rfl (bookAt_c (b := 0) (bk := 0) (dr := 0) (it := 0) hit).o dX6_readHouse_164 ?_
              intro I15
              refine T_iconst hok ic_1 dX6_readHouse_167 ?_
              exact T_zret hok dX6_readHouse_168 (Nat.zero_le _) (Nat.zero_le _) rfl rfl
            refine T_iconst hok ic_0 dX6_readHouse_136 ?_
            exact T_zret hok dX6_readHouse_137 (Nat.zero_le _) (Nat.zero_le _) rfl rfl
          refine T_iconst hok ic_0 dX6_readHouse_108 ?_
          exact T_zret hok dX6_readHouse_109 (Nat.zero_le _) (Nat.zero_le _) rfl rfl
        refine T_iconst hok ic_0 dX6_readHouse_80 ?_
        exact T_zret hok dX6_readHouse_81 (Nat.zero_le _) (Nat.zero_le _) rfl rfl
      refine T_aload_n hok 1 rfl rfl dX6_readHouse_47 ?_
      refine T_iconst hok ic_3 dX6_readHouse_48 ?_
      refine T_cz1 (CR_V (rest := []) hok (ct_X6_fails hA I3 J (3 : Int32)) mw_X6_fails mv_X6_fails ml_X6_86 lc_34 dX6_readHouse_49 rfl rfl (roomOk rfl) rfl) rfl rfl ?_
      intro x16 I17
      exact T_zret hok dX6_readHouse_52 (Nat.zero_le _) (Nat.zero_le _) (bi_01 _) rfl
    refine T_iconst hok ic_0 dX6_readHouse_27 ?_
    exact T_zret hok dX6_readHouse_28 (Nat.zero_le _) (Nat.zero_le _) rfl rfl
  refine T_aload_n hok 1 rfl rfl dX6_readHouse_14 ?_
  refine T_iconst hok ic_2 dX6_readHouse_15 ?_
  refine T_cz1 (CR_V (rest := []) hok (ct_X6_fails hA I J (2 : Int32)) mw_X6_fails mv_X6_fails ml_X6_86 lc_34 dX6_readHouse_16 rfl rfl (roomOk rfl) rfl) rfl rfl ?_
  intro x18 I19
  exact T_zret hok dX6_readHouse_19 (Nat.zero_le _) (Nat.zero_le _) (bi_01 _) rfl

set_option maxHeartbeats 4000000 in
set_option maxRecDepth 100000 in
theorem ct_X6_readDay {G : Gx} {l0 : Launch} {A : Nat → Prop} {b bk dr it : Nat} (hA : ∀ k, k < Lc.length → A (b + k)) (hit : isBk it = true) (I : MI) (J : MJ) : Ct G l0 A yX6_readDay cX6_readDay 3 (some .boolean) { frames := 4, cells := 0, slots := 0, locals := 87 } [.ref (b + 34)] (Rg G b Lc (Rc b bk dr it) I J) (iz1 (fun (I' : MI) => Rg G b Lc (Rc b bk dr it) I' J)) (f_X6_readDay it I) := by
  refine Ct.of rfl (Nat.le_of_ble_eq_true rfl) ?_
  intro X hok
  replace hok : Ok G l0 X RX6 cX6_readDay 3 { frames := 4, cells := 0, slots := 0, locals := 87 } (some .boolean) := hok
  delta f_X6_readDay
  show T X A (Zm X A (iz1 (fun (I' : MI) => Rg G b Lc (Rc b bk dr it) I' J))) 3 0 0 0 [(0, .ref (b + 34))] [] (Rg G b Lc (Rc b bk dr it) I J) _
  refine T_aload_n hok 0 rfl rfl dX6_readDay_0 ?_
  refine T_getR hok fr_X6_30 lc_34 rc_34_7 dX6_readDay_1 ?_
  refine T_getI hok fr_X6_141 (bookAt_c (b := 0) (bk := 0) (dr := 0) (it := 0) hit).o dX6_readDay_4 ?_
  refine T_bipush hok bp_20 dX6_readDay_7 ?_
  refine T_icmp_lt (tgt := 18) hok dX6_readDay_9 rfl ?_ ?_
  · refine T_aload_n hok 0 rfl rfl dX6_readDay_18 ?_
    refine T_iconst hok ic_0 dX6_readDay_19 ?_
    refine T_bipush hok bp_99 dX6_readDay_20 ?_
    refine T_cz1 (CR_V (rest := []) hok (ct_X6_isNumber hA I J (0 : Int32) (99 : Int32)) mw_X6_isNumber mv_X6_isNumber ml_X6_113 lc_34 dX6_readDay_22 rfl rfl (roomOk rfl) rfl) rfl rfl ?_
    intro x1 I2
    refine T_ifb_ne (tgt := 30) hok dX6_readDay_25 rfl ?_ ?_
    · refine T_aload_n hok 0 rfl rfl dX6_readDay_30 ?_
      refine T_getR hok fr_X6_26 lc_34 rc_34_0 dX6_readDay_31 ?_
      refine T_getI hok fr_X6_93 lc_36 dX6_readDay_34 ?_
      refine T_lti ?_
      intro x3
      refine T_istore_n (lv' := [(1, .int x3), (0, .ref (b + 34))]) hok rfl (by decide) rfl dX6_readDay_37 ?_
      refine T_aload_n hok 1 rfl rfl dX6_readDay_38 ?_
      refine T_getR hok fr_X6_30 lc_34 rc_34_7 dX6_readDay_39 ?_
      refine T_iload_n hok 0 rfl rfl dX6_readDay_42 ?_
      refine T_ci0 (CR_V (rest := []) hok (ct_X0_kindTold hA (bookAt_c hit) I2 J x3) mw_X0_kindTold mv_X0_kindTold ml_X6_144 (bookAt_c (b := 0) (bk := 0) (dr := 0) (it := 0) hit).o dX6_readDay_43 rfl rfl (roomOk rfl) rfl) rfl rfl ?_
      intro x4
      refine T_iconst hok ic_m1 dX6_readDay_46 ?_
      refine T_icmp_eq (tgt := 56) hok dX6_readDay_47 rfl ?_ ?_
      · refine T_aload_n hok 1 rfl rfl dX6_readDay_56 ?_
        refine T_cz1 (CR_V (rest := []) hok (ct_X6_isWord hA I2 J) mw_X6_isWord mv_X6_isWord ml_X6_103 lc_34 dX6_readDay_57 rfl rfl (roomOk rfl) rfl) rfl rfl ?_
        intro x5 I6
        refine T_ifb_ne (tgt := 65) hok dX6_readDay_60 rfl ?_ ?_
        · refine T_aload_n hok 1 rfl rfl dX6_readDay_65 ?_
          refine T_getR hok fr_X6_30 lc_34 rc_34_7 dX6_readDay_66 ?_
          refine T_aload_n hok 1 rfl rfl dX6_readDay_69 ?_
          refine T_getR hok fr_X6_26 lc_34 rc_34_0 dX6_readDay_70 ?_
          refine T_getI hok fr_X6_93 lc_36 dX6_readDay_73 ?_
          refine T_ci0 (CR_V (rest := []) hok (ct_X0_kindNamed hA (bookAt_c hit) I6 J (I6 36 6)) mw_X0_kindNamed mv_X0_kindNamed ml_X6_106 (bookAt_c (b := 0) (bk := 0) (dr := 0) (it := 0) hit).o dX6_readDay_76 rfl rfl (roomOk rfl) rfl) rfl rfl ?_
          intro x7
          refine T_istore_n (lv' := [(2, .int x7), (1, .int x3), (0, .ref (b + 34))]) hok rfl (by decide) rfl dX6_readDay_79 ?_
          refine T_iload_n hok 0 rfl rfl dX6_readDay_80 ?_
          refine T_iconst hok ic_m1 dX6_readDay_81 ?_
          refine T_icmp_ne (tgt := 91) hok dX6_readDay_82 rfl ?_ ?_
          · refine T_aload_n hok 2 rfl rfl dX6_readDay_85 ?_
            refine T_iconst hok ic_4 dX6_readDay_86 ?_
            refine T_cz1 (CR_V (rest := []) hok (ct_X6_fails hA I6 J (4 : Int32)) mw_X6_fails mv_X6_fails ml_X6_86 lc_34 dX6_readDay_87 rfl rfl (roomOk rfl) rfl) rfl rfl ?_
            intro x8 I9
            exact T_zret hok dX6_readDay_90 (Nat.zero_le _) (Nat.zero_le _) (bi_01 _) rfl
          refine T_aload_n hok 2 rfl rfl dX6_readDay_91 ?_
          refine T_getR hok fr_X6_30 lc_34 rc_34_7 dX6_readDay_92 ?_
          refine T_getR hok fr_X6_147 (bookAt_c (b := 0) (bk := 0) (dr := 0) (it := 0) hit).o (bookAt_c hit).r9 dX6_readDay_95 ?_
          refine T_iload_n hok 1 rfl rfl dX6_readDay_98 ?_
          refine T_iload_n hok 0 rfl rfl dX6_readDay_99 ?_
          refine T_iast hok hA (bookAt_c (b := 0) (bk := 0) (dr := 0) (it := 0) hit).l9 dX6_readDay_100 ?_
          intro I10
          refine T_aload_n hok 2 rfl rfl dX6_readDay_101 ?_
          refine T_getR hok fr_X6_30 lc_34 rc_34_7 dX6_readDay_102 ?_
          refine T_dup hok rfl dX6_readDay_105 ?_
          refine T_getI hok fr_X6_141 (bookAt_c (b := 0) (bk := 0) (dr := 0) (it := 0) hit).o dX6_readDay_106 ?_
          refine T_iconst hok ic_1 dX6_readDay_109 ?_
          refine T_iadd hok dX6_readDay_110 ?_
          refine T_putI hok hA fr_X6_141 rfl rfl (bookAt_c (b := 0) (bk := 0) (dr := 0) (it := 0) hit).o dX6_readDay_111 ?_
          intro I11
          refine T_iconst hok ic_1 dX6_readDay_114 ?_
          exact T_zret hok dX6_readDay_115 (Nat.zero_le _) (Nat.zero_le _) rfl rfl
        refine T_iconst hok ic_0 dX6_readDay_63 ?_
        exact T_zret hok dX6_readDay_64 (Nat.zero_le _) (Nat.zero_le _) rfl rfl
      refine T_aload_n hok 1 rfl rfl dX6_readDay_50 ?_
      refine T_iconst hok ic_3 dX6_readDay_51 ?_
      refine T_cz1 (CR_V (rest := []) hok (ct_X6_fails hA I2 J (3 : Int32)) mw_X6_fails mv_X6_fails ml_X6_86 lc_34 dX6_readDay_52 rfl rfl (roomOk rfl) rfl) rfl rfl ?_
      intro x12 I13
      exact T_zret hok dX6_readDay_55 (Nat.zero_le _) (Nat.zero_le _) (bi_01 _) rfl
    refine T_iconst hok ic_0 dX6_readDay_28 ?_
    exact T_zret hok dX6_readDay_29 (Nat.zero_le _) (Nat.zero_le _) rfl rfl
  refine T_aload_n hok 0 rfl rfl dX6_readDay_12 ?_
  refine T_iconst hok ic_2 dX6_readDay_13 ?_
  refine T_cz1 (CR_V (rest := []) hok (ct_X6_fails hA I J (2 : Int32)) mw_X6_fails mv_X6_fails ml_X6_86 lc_34 dX6_readDay_14 rfl rfl (roomOk rfl) rfl) rfl rfl ?_
  intro x14 I15
  exact T_zret hok dX6_readDay_17 (Nat.zero_le _) (Nat.zero_le _) (bi_01 _) rfl

set_option maxHeartbeats 4000000 in
set_option maxRecDepth 100000 in
theorem ct_X6_readWork {G : Gx} {l0 : Launch} {A : Nat → Prop} {b bk dr it : Nat} (hA : ∀ k, k < Lc.length → A (b + k)) (hit : isBk it = true) (I : MI) (J : MJ) : Ct G l0 A yX6_readWork cX6_readWork 2 (some .boolean) { frames := 4, cells := 0, slots := 0, locals := 85 } [.ref (b + 34)] (Rg G b Lc (Rc b bk dr it) I J) (iz1 (fun (I' : MI) => Rg G b Lc (Rc b bk dr it) I' J)) (f_X6_readWork it I) := by
  refine Ct.of rfl (Nat.le_of_ble_eq_true rfl) ?_
  intro X hok
  replace hok : Ok G l0 X RX6 cX6_readWork 2 { frames := 4, cells := 0, slots := 0, locals := 85 } (some .boolean) := hok
  delta f_X6_readWork
  show T X A (Zm X A (iz1 (fun (I' : MI) => Rg G b Lc (Rc b bk dr it) I' J))) 2 0 0 0 [(0, .ref (b + 34))] [] (Rg G b Lc (Rc b bk dr it) I J) _
  refine T_aload_n hok 0 rfl rfl dX6_readWork_0 ?_
  refine T_getR hok fr_X6_30 lc_34 rc_34_7 dX6_readWork_1 ?_
  refine T_getI hok fr_X6_150 (bookAt_c (b := 0) (bk := 0) (dr := 0) (it := 0) hit).o dX6_readWork_4 ?_
  refine T_lti ?_
  intro x1
  refine T_istore_n (lv' := [(1, .int x1), (0, .ref (b + 34))]) hok rfl (by decide) rfl dX6_readWork_7 ?_
  refine T_iload_n hok 0 rfl rfl dX6_readWork_8 ?_
  refine T_bipush hok bp_6 dX6_readWork_9 ?_
  refine T_icmp_lt (tgt := 20) hok dX6_readWork_11 rfl ?_ ?_
  · refine T_aload_n hok 1 rfl rfl dX6_readWork_20 ?_
    refine T_cz1 (CR_V (rest := []) hok (ct_X6_isWord hA I J) mw_X6_isWord mv_X6_isWord ml_X6_103 lc_34 dX6_readWork_21 rfl rfl (roomOk rfl) rfl) rfl rfl ?_
    intro x2 I3
    refine T_ifb_ne (tgt := 29) hok dX6_readWork_24 rfl ?_ ?_
    · refine T_aload_n hok 1 rfl rfl dX6_readWork_29 ?_
      refine T_getR hok fr_X6_30 lc_34 rc_34_7 dX6_readWork_30 ?_
      refine T_getR hok fr_X6_153 (bookAt_c (b := 0) (bk := 0) (dr := 0) (it := 0) hit).o (bookAt_c hit).r7 dX6_readWork_33 ?_
      refine T_iload_n hok 0 rfl rfl dX6_readWork_36 ?_
      refine T_aload_n hok 1 rfl rfl dX6_readWork_37 ?_
      refine T_getR hok fr_X6_30 lc_34 rc_34_7 dX6_readWork_38 ?_
      refine T_aload_n hok 1 rfl rfl dX6_readWork_41 ?_
      refine T_getR hok fr_X6_26 lc_34 rc_34_0 dX6_readWork_42 ?_
      refine T_getI hok fr_X6_93 lc_36 dX6_readWork_45 ?_
      refine T_ci0 (CR_V (rest := [.int x1, .ref (b + (it + 8))]) hok (ct_X0_houseNamed hA (bookAt_c hit) I3 J (I3 36 6)) mw_X0_houseNamed mv_X0_houseNamed ml_X6_126 (bookAt_c (b := 0) (bk := 0) (dr := 0) (it := 0) hit).o dX6_readWork_48 rfl rfl (roomOk rfl) rfl) rfl rfl ?_
      intro x4
      refine T_iast hok hA (bookAt_c (b := 0) (bk := 0) (dr := 0) (it := 0) hit).l7 dX6_readWork_51 ?_
      intro I5
      refine T_aload_n hok 1 rfl rfl dX6_readWork_52 ?_
      refine T_getR hok fr_X6_30 lc_34 rc_34_7 dX6_readWork_53 ?_
      refine T_getR hok fr_X6_153 (bookAt_c (b := 0) (bk := 0) (dr := 0) (it := 0) hit).o (bookAt_c hit).r7 dX6_readWork_56 ?_
      refine T_iload_n hok 0 rfl rfl dX6_readWork_59 ?_
      refine T_iald hok (bookAt_c (b := 0) (bk := 0) (dr := 0) (it := 0) hit).l7 dX6_readWork_60 ?_
      refine T_iconst hok ic_m1 dX6_readWork_61 ?_
      refine T_icmp_ne (tgt := 71) hok dX6_readWork_62 rfl ?_ ?_
      · refine T_aload_n hok 1 rfl rfl dX6_readWork_65 ?_
        refine T_iconst hok ic_4 dX6_readWork_66 ?_
        refine T_cz1 (CR_V (rest := []) hok (ct_X6_fails hA I5 J (4 : Int32)) mw_X6_fails mv_X6_fails ml_X6_86 lc_34 dX6_readWork_67 rfl rfl (roomOk rfl) rfl) rfl rfl ?_
        intro x6 I7
        exact T_zret hok dX6_readWork_70 (Nat.zero_le _) (Nat.zero_le _) (bi_01 _) rfl
      refine T_aload_n hok 1 rfl rfl dX6_readWork_71 ?_
      refine T_cz1 (CR_V (rest := []) hok (ct_X6_isWord hA I5 J) mw_X6_isWord mv_X6_isWord ml_X6_103 lc_34 dX6_readWork_72 rfl rfl (roomOk rfl) rfl) rfl rfl ?_
      intro x8 I9
      refine T_ifb_ne (tgt := 80) hok dX6_readWork_75 rfl ?_ ?_
      · refine T_aload_n hok 1 rfl rfl dX6_readWork_80 ?_
        refine T_getR hok fr_X6_30 lc_34 rc_34_7 dX6_readWork_81 ?_
        refine T_getR hok fr_X6_156 (bookAt_c (b := 0) (bk := 0) (dr := 0) (it := 0) hit).o (bookAt_c hit).r8 dX6_readWork_84 ?_
        refine T_iload_n hok 0 rfl rfl dX6_readWork_87 ?_
        refine T_aload_n hok 1 rfl rfl dX6_readWork_88 ?_
        refine T_getR hok fr_X6_30 lc_34 rc_34_7 dX6_readWork_89 ?_
        refine T_aload_n hok 1 rfl rfl dX6_readWork_92 ?_
        refine T_getR hok fr_X6_26 lc_34 rc_34_0 dX6_readWork_93 ?_
        refine T_getI hok fr_X6_93 lc_36 dX6_readWork_96 ?_
        refine T_ci0 (CR_V (rest := [.int x1, .ref (b + (it + 9))]) hok (ct_X0_kindNamed hA (bookAt_c hit) I9 J (I9 36 6)) mw_X0_kindNamed mv_X0_kindNamed ml_X6_106 (bookAt_c (b := 0) (bk := 0) (dr := 0) (it := 0) hit).o dX6_readWork_99 rfl rfl (roomOk rfl) rfl) rfl rfl ?_
        intro x10
        refine T_iast hok hA (bookAt_c (b := 0) (bk := 0) (dr := 0) (it := 0) hit).l8 dX6_readWork_102 ?_
        intro I11
        refine T_aload_n hok 1 rfl rfl dX6_readWork_103 ?_
        refine T_getR hok fr_X6_30 lc_34 rc_34_7 dX6_readWork_104 ?_
        refine T_getR hok fr_X6_156 (bookAt_c (b := 0) (bk := 0) (dr := 0) (it := 0) hit).o (bookAt_c hit).r8 dX6_readWork_107 ?_
        refine T_iload_n hok 0 rfl rfl dX6_readWork_110 ?_
        refine T_iald hok (bookAt_c (b := 0) (bk := 0) (dr := 0) (it := 0) hit).l8 dX6_readWork_111 ?_
        refine T_iconst hok ic_m1 dX6_readWork_112 ?_
        refine T_icmp_ne (tgt := 122) hok dX6_readWork_113 rfl ?_ ?_
        · refine T_aload_n hok 1 rfl rfl dX6_readWork_116 ?_
          refine T_iconst hok ic_4 dX6_readWork_117 ?_
          refine T_cz1 (CR_V (rest := []) hok (ct_X6_fails hA I11 J (4 : Int32)) mw_X6_fails mv_X6_fails ml_X6_86 lc_34 dX6_readWork_118 rfl rfl (roomOk rfl) rfl) rfl rfl ?_
          intro x12 I13
          exact T_zret hok dX6_readWork_121 (Nat.zero_le _) (Nat.zero_le _) (bi_01 _) rfl
        refine T_aload_n hok 1 rfl rfl dX6_readWork_122 ?_
        refine T_getR hok fr_X6_30 lc_34 rc_34_7 dX6_readWork_123 ?_
        refine T_dup hok rfl dX6_readWork_126 ?_
        refine T_getI hok fr_X6_150 (bookAt_c (b := 0) (bk := 0) (dr := 0) (it := 0) hit).o dX6_readWork_127 ?_
        refine T_iconst hok ic_1 dX6_readWork_130 ?_
        refine T_iadd hok dX6_readWork_131 ?_
        refine T_putI hok hA fr_X6_150 rfl rfl (bookAt_c (b := 0) (bk := 0) (dr := 0) (it := 0) hit).o dX6_readWork_132 ?_
        intro I14
        refine T_iconst hok ic_1 dX6_readWork_135 ?_
        exact T_zret hok dX6_readWork_136 (Nat.zero_le _) (Nat.zero_le _) rfl rfl
      refine T_iconst hok ic_0 dX6_readWork_78 ?_
      exact T_zret hok dX6_readWork_79 (Nat.zero_le _) (Nat.zero_le _) rfl rfl
    refine T_iconst hok ic_0 dX6_readWork_27 ?_
    exact T_zret hok dX6_readWork_28 (Nat.zero_le _) (Nat.zero_le _) rfl rfl
  refine T_aload_n hok 1 rfl rfl dX6_readWork_14 ?_
  refine T_iconst hok ic_2 dX6_readWork_15 ?_
  refine T_cz1 (CR_V (rest := []) hok (ct_X6_fails hA I J (2 : Int32)) mw_X6_fails mv_X6_fails ml_X6_86 lc_34 dX6_readWork_16 rfl rfl (roomOk rfl) rfl) rfl rfl ?_
  intro x15 I16
  exact T_zret hok dX6_readWork_19 (Nat.zero_le _) (Nat.zero_le _) (bi_01 _) rfl

set_option maxHeartbeats 4000000 in
set_option maxRecDepth 100000 in
theorem ct_X6_readTerm {G : Gx} {l0 : Launch} {A : Nat → Prop} {b bk dr it : Nat} (hA : ∀ k, k < Lc.length → A (b + k)) (hit : isBk it = true) (I : MI) (J : MJ) : Ct G l0 A yX6_readTerm cX6_readTerm 1 (some .boolean) { frames := 4, cells := 0, slots := 0, locals := 87 } [.ref (b + 34)] (Rg G b Lc (Rc b bk dr it) I J) (iz1 (fun (I' : MI) => Rg G b Lc (Rc b bk dr it) I' J)) (f_X6_readTerm it I) := by
  refine Ct.of rfl (Nat.le_of_ble_eq_true rfl) ?_
  intro X hok
  replace hok : Ok G l0 X RX6 cX6_readTerm 1 { frames := 4, cells := 0, slots := 0, locals := 87 } (some .boolean) := hok
  delta f_X6_readTerm
  show T X A (Zm X A (iz1 (fun (I' : MI) => Rg G b Lc (Rc b bk dr it) I' J))) 1 0 0 0 [(0, .ref (b + 34))] [] (Rg G b Lc (Rc b bk dr it) I J) _
  refine T_aload_n hok 0 rfl rfl dX6_readTerm_0 ?_
  refine T_getR hok fr_X6_30 lc_34 rc_34_7 dX6_readTerm_1 ?_
  refine T_getI hok fr_X6_159 (bookAt_c (b := 0) (bk := 0) (dr := 0) (it := 0) hit).o dX6_readTerm_4 ?_
  refine T_iconst hok ic_m1 dX6_readTerm_7 ?_
  refine T_icmp_eq (tgt := 17) hok dX6_readTerm_8 rfl ?_ ?_
  · refine T_aload_n hok 0 rfl rfl dX6_readTerm_17 ?_
    refine T_iconst hok ic_1 dX6_readTerm_18 ?_
    refine T_bipush hok bp_99 dX6_readTerm_19 ?_
    refine T_cz1 (CR_V (rest := []) hok (ct_X6_isNumber hA I J (1 : Int32) (99 : Int32)) mw_X6_isNumber mv_X6_isNumber ml_X6_113 lc_34 dX6_readTerm_21 rfl rfl (roomOk rfl) rfl) rfl rfl ?_
    intro x1 I2
    refine T_ifb_ne (tgt := 29) hok dX6_readTerm_24 rfl ?_ ?_
    · refine T_aload_n hok 0 rfl rfl dX6_readTerm_29 ?_
      refine T_getR hok fr_X6_30 lc_34 rc_34_7 dX6_readTerm_30 ?_
      refine T_aload_n hok 0 rfl rfl dX6_readTerm_33 ?_
      refine T_getR hok fr_X6_26 lc_34 rc_34_0 dX6_readTerm_34 ?_
      refine T_getI hok fr_X6_93 lc_36 dX6_readTerm_37 ?_
      refine T_putI hok hA fr_X6_159 rfl rfl (bookAt_c (b := 0) (bk := 0) (dr := 0) (it := 0) hit).o dX6_readTerm_40 ?_
      intro I3
      refine T_iconst hok ic_1 dX6_readTerm_43 ?_
      exact T_zret hok dX6_readTerm_44 (Nat.zero_le _) (Nat.zero_le _) rfl rfl
    refine T_iconst hok ic_0 dX6_readTerm_27 ?_
    exact T_zret hok dX6_readTerm_28 (Nat.zero_le _) (Nat.zero_le _) rfl rfl
  refine T_aload_n hok 0 rfl rfl dX6_readTerm_11 ?_
  refine T_iconst hok ic_3 dX6_readTerm_12 ?_
  refine T_cz1 (CR_V (rest := []) hok (ct_X6_fails hA I J (3 : Int32)) mw_X6_fails mv_X6_fails ml_X6_86 lc_34 dX6_readTerm_13 rfl rfl (roomOk rfl) rfl) rfl rfl ?_
  intro x4 I5
  exact T_zret hok dX6_readTerm_16 (Nat.zero_le _) (Nat.zero_le _) (bi_01 _) rfl

set_option maxHeartbeats 4000000 in
set_option maxRecDepth 100000 in
theorem ct_X6_readSeed {G : Gx} {l0 : Launch} {A : Nat → Prop} {b bk dr it : Nat} (hA : ∀ k, k < Lc.length → A (b + k)) (hit : isBk it = true) (I : MI) (J : MJ) : Ct G l0 A yX6_readSeed cX6_readSeed 1 (some .boolean) { frames := 4, cells := 0, slots := 0, locals := 87 } [.ref (b + 34)] (Rg G b Lc (Rc b bk dr it) I J) (iz1 (fun (I' : MI) => Rg G b Lc (Rc b bk dr it) I' J)) (f_X6_readSeed it I) := by
  refine Ct.of rfl (Nat.le_of_ble_eq_true rfl) ?_
  intro X hok
  replace hok : Ok G l0 X RX6 cX6_readSeed 1 { frames := 4, cells := 0, slots := 0, locals := 87 } (some .boolean) := hok
  delta f_X6_readSeed
  show T X A (Zm X A (iz1 (fun (I' : MI) => Rg G b Lc (Rc b bk dr it) I' J))) 1 0 0 0 [(0, .ref (b + 34))] [] (Rg G b Lc (Rc b bk dr it) I J) _
  refine T_aload_n hok 0 rfl rfl dX6_readSeed_0 ?_
  refine T_getR hok fr_X6_30 lc_34 rc_34_7 dX6_readSeed_1 ?_
  refine T_getI hok fr_X6_162 (bookAt_c (b := 0) (bk := 0) (dr := 0) (it := 0) hit).o dX6_readSeed_4 ?_
  refine T_iconst hok ic_m1 dX6_readSeed_7 ?_
  refine T_icmp_eq (tgt := 17) hok dX6_readSeed_8 rfl ?_ ?_
  · refine T_aload_n hok 0 rfl rfl dX6_readSeed_17 ?_
    refine T_iconst hok ic_0 dX6_readSeed_18 ?_
    refine T_ldc hok lk_X6_165 dX6_readSeed_19 ?_
    refine T_cz1 (CR_V (rest := []) hok (ct_X6_isNumber hA I J (0 : Int32) (99999 : Int32)) mw_X6_isNumber mv_X6_isNumber ml_X6_113 lc_34 dX6_readSeed_21 rfl rfl (roomOk rfl) rfl) rfl rfl ?_
    intro x1 I2
    refine T_ifb_ne (tgt := 29) hok dX6_readSeed_24 rfl ?_ ?_
    · refine T_aload_n hok 0 rfl rfl dX6_readSeed_29 ?_
      refine T_getR hok fr_X6_30 lc_34 rc_34_7 dX6_readSeed_30 ?_
      refine T_aload_n hok 0 rfl rfl dX6_readSeed_33 ?_
      refine T_getR hok fr_X6_26 lc_34 rc_34_0 dX6_readSeed_34 ?_
      refine T_getI hok fr_X6_93 lc_36 dX6_readSeed_37 ?_
      refine T_putI hok hA fr_X6_162 rfl rfl (bookAt_c (b := 0) (bk := 0) (dr := 0) (it := 0) hit).o dX6_readSeed_40 ?_
      intro I3
      refine T_iconst hok ic_1 dX6_readSeed_43 ?_
      exact T_zret hok dX6_readSeed_44 (Nat.zero_le _) (Nat.zero_le _) rfl rfl
    refine T_iconst hok ic_0 dX6_readSeed_27 ?_
    exact T_zret hok dX6_readSeed_28 (Nat.zero_le _) (Nat.zero_le _) rfl rfl
  refine T_aload_n hok 0 rfl rfl dX6_readSeed_11 ?_
  refine T_iconst hok ic_3 dX6_readSeed_12 ?_
  refine T_cz1 (CR_V (rest := []) hok (ct_X6_fails hA I J (3 : Int32)) mw_X6_fails mv_X6_fails ml_X6_86 lc_34 dX6_readSeed_13 rfl rfl (roomOk rfl) rfl) rfl rfl ?_
  intro x4 I5
  exact T_zret hok dX6_readSeed_16 (Nat.zero_le _) (Nat.zero_le _) (bi_01 _) rfl

set_option maxHeartbeats 4000000 in
set_option maxRecDepth 100000 in
theorem ct_X6_rankOf {G : Gx} {l0 : Launch} {A : Nat → Prop} {Wd : Heap → Prop} (a1 : Int32) : Ct G l0 A yX6_rankOf cX6_rankOf 1 (some .int) { frames := 0, cells := 0, slots := 0, locals := 0 } [.int a1] (Wd) (ii0 (Wd)) (f_X6_rankOf a1) := by
  refine Ct.of rfl (Nat.le_of_ble_eq_true rfl) ?_
  intro X hok
  replace hok : Ok G l0 X RX6 cX6_rankOf 1 { frames := 0, cells := 0, slots := 0, locals := 0 } (some .int) := hok
  delta f_X6_rankOf
  show T X A (Zm X A (ii0 (Wd))) 1 0 0 0 [(0, .int a1)] [] (Wd) _
  refine T_iload_n hok 0 rfl rfl dX6_rankOf_0 ?_
  refine T_jp _ (fun (j114 : Option (Int32)) => T X A (Zm X A (ii0 (Wd))) 1 0 0 114 [] [] (Wd) (j114)) _ ?_ ?_
  · skip
    refine T_iconst hok ic_5 dX6_rankOf_114 ?_
    exact T_iret hok dX6_rankOf_115 (Nat.zero_le _) (Nat.zero_le _) rfl
  intro j114 hj114
  refine T_jp _ (fun (j116 : Option (Int32)) => T X A (Zm X A (ii0 (Wd))) 1 0 0 116 [] [] (Wd) (j116)) _ ?_ ?_
  · skip
    refine T_bipush hok bp_6 dX6_rankOf_116 ?_
    exact T_iret hok dX6_rankOf_118 (Nat.zero_le _) (Nat.zero_le _) rfl
  intro j116 hj116
  refine T_swc (fun hx10 => ?_) (fun hx10 => ?_)
  · refine T_tin (tgt := 108) hok hx10 dX6_rankOf_1 (by decide) (by decide) rfl rfl ?_
    refine T_iconst hok ic_1 dX6_rankOf_108 ?_
    exact T_iret hok dX6_rankOf_109 (Nat.zero_le _) (Nat.zero_le _) rfl
  refine T_swc (fun hx11 => ?_) (fun hx11 => ?_)
  · refine T_tin (tgt := 110) hok hx11 dX6_rankOf_1 (by decide) (by decide) rfl rfl ?_
    refine T_iconst hok ic_2 dX6_rankOf_110 ?_
    exact T_iret hok dX6_rankOf_111 (Nat.zero_le _) (Nat.zero_le _) rfl
  refine T_swc (fun hx12 => ?_) (fun hx12 => ?_)
  · refine T_tin (tgt := 112) hok hx12 dX6_rankOf_1 (by decide) (by decide) rfl rfl ?_
    refine T_iconst hok ic_3 dX6_rankOf_112 ?_
    exact T_iret hok dX6_rankOf_113 (Nat.zero_le _) (Nat.zero_le _) rfl
  refine T_swc (fun hx29 => ?_) (fun hx29 => ?_)
  · refine T_tin (tgt := 114) hok hx29 dX6_rankOf_1 (by decide) (by decide) rfl rfl ?_
    refine T_sub (lv' := []) [] rfl ?_
    exact hj114
  refine T_swc (fun hx30 => ?_) (fun hx30 => ?_)
  · refine T_tin (tgt := 114) hok hx30 dX6_rankOf_1 (by decide) (by decide) rfl rfl ?_
    refine T_sub (lv' := []) [] rfl ?_
    exact hj114
  refine T_swc (fun hx31 => ?_) (fun hx31 => ?_)
  · refine T_tin (tgt := 116) hok hx31 dX6_rankOf_1 (by decide) (by decide) rfl rfl ?_
    refine T_sub (lv' := []) [] rfl ?_
    exact hj116
  refine T_swc (fun hx32 => ?_) (fun hx32 => ?_)
  · refine T_tin (tgt := 116) hok hx32 dX6_rankOf_1 (by decide) (by decide) rfl rfl ?_
    refine T_sub (lv' := []) [] rfl ?_
    exact hj116
  refine T_swd ?_
  have nhx10 := toInt_ne (n := 10) rfl hx10
  have nhx11 := toInt_ne (n := 11) rfl hx11
  have nhx12 := toInt_ne (n := 12) rfl hx12
  have nhx29 := toInt_ne (n := 29) rfl hx29
  have nhx30 := toInt_ne (n := 30) rfl hx30
  have nhx31 := toInt_ne (n := 31) rfl hx31
  have nhx32 := toInt_ne (n := 32) rfl hx32
  refine T_tdf (tgt := 119) (n := 23) hok dX6_rankOf_1 rfl (fun j hj he => ?_) rfl ?_
  · rcases (show j = 0 ∨ j = 1 ∨ j = 2 ∨ j = 3 ∨ j = 4 ∨ j = 5 ∨ j = 6 ∨ j = 7 ∨ j = 8 ∨ j = 9 ∨ j = 10 ∨ j = 11 ∨ j = 12 ∨ j = 13 ∨ j = 14 ∨ j = 15 ∨ j = 16 ∨ j = 17 ∨ j = 18 ∨ j = 19 ∨ j = 20 ∨ j = 21 ∨ j = 22 by omega) with rfl | rfl | rfl | rfl | rfl | rfl | rfl | rfl | rfl | rfl | rfl | rfl | rfl | rfl | rfl | rfl | rfl | rfl | rfl | rfl | rfl | rfl | rfl <;> first | rfl | (exfalso; omega)
  refine T_iload_n hok 0 rfl rfl dX6_rankOf_119 ?_
  refine T_bipush hok bp_23 dX6_rankOf_120 ?_
  refine T_jp _ (fun (j136 : Int32 → Option (Int32)) => ∀ (x1 : Int32), T X A (Zm X A (ii0 (Wd))) 1 0 0 136 [] [.int x1] (Wd) (j136 x1)) _ ?_ ?_
  · intro x1
    exact T_iret hok dX6_rankOf_136 (Nat.zero_le _) (Nat.zero_le _) rfl
  intro j136 hj136
  refine T_jp _ (fun (j135 : Option (Int32)) => T X A (Zm X A (ii0 (Wd))) 1 0 0 135 [] [] (Wd) (j135)) _ ?_ ?_
  · skip
    refine T_iconst hok ic_0 dX6_rankOf_135 ?_
    exact hj136 (0 : Int32)
  intro j135 hj135
  refine T_icmp_lt (tgt := 135) hok dX6_rankOf_122 rfl ?_ ?_
  · refine T_sub (lv' := []) [] rfl ?_
    exact hj135
  refine T_iload_n hok 0 rfl rfl dX6_rankOf_125 ?_
  refine T_bipush hok bp_28 dX6_rankOf_126 ?_
  refine T_icmp_gt (tgt := 135) hok dX6_rankOf_128 rfl ?_ ?_
  · refine T_sub (lv' := []) [] rfl ?_
    exact hj135
  refine T_iconst hok ic_4 dX6_rankOf_131 ?_
  refine T_goto (tgt := 136) hok dX6_rankOf_132 rfl ?_
  refine T_sub (lv' := []) [] rfl ?_
  exact hj136 (4 : Int32)

set_option maxHeartbeats 4000000 in
set_option maxRecDepth 100000 in
theorem ct_X6_release {G : Gx} {l0 : Launch} {A : Nat → Prop} {b bk dr it : Nat} (hA : ∀ k, k < Lc.length → A (b + k)) (hit : isBk it = true) (I : MI) (J : MJ) (a1 : Int32) : Ct G l0 A yX6_release cX6_release 2 none { frames := 1, cells := 0, slots := 0, locals := 21 } [.ref (b + 34), .int a1] (Rg G b Lc (Rc b bk dr it) I J) (iv1 (fun (I' : MI) => Rg G b Lc (Rc b bk dr it) I' J)) (f_X6_release it I a1) := by
  refine Ct.of rfl (Nat.le_of_ble_eq_true rfl) ?_
  intro X hok
  replace hok : Ok G l0 X RX6 cX6_release 2 { frames := 1, cells := 0, slots := 0, locals := 21 } none := hok
  delta f_X6_release
  show T X A (Zm X A (iv1 (fun (I' : MI) => Rg G b Lc (Rc b bk dr it) I' J))) 2 0 0 0 [(0, .ref (b + 34)), (1, .int a1)] [] (Rg G b Lc (Rc b bk dr it) I J) _
  refine T_jp _ (fun (j61 : MI → Option (MI)) => ∀ (I1 : MI), T X A (Zm X A (iv1 (fun (I' : MI) => Rg G b Lc (Rc b bk dr it) I' J))) 2 0 0 61 [] [] (Rg G b Lc (Rc b bk dr it) I1 J) (j61 I1)) _ ?_ ?_
  · intro I1
    exact T_vret hok dX6_release_61 (Nat.zero_le _) (Nat.zero_le _) rfl
  intro j61 hj61
  refine T_fix1 _ (fun (I2 : MI) => [(0, .ref (b + 34)), (1, .int a1)]) (fun (I2 : MI) => Rg G b Lc (Rc b bk dr it) I2 J) ?_ FU I
  intro r0 hr0 I2
  refine T_aload_n hok 0 rfl rfl dX6_release_0 ?_
  refine T_getI hok fr_X6_180 lc_34 dX6_release_1 ?_
  refine T_if_le (tgt := 61) hok dX6_release_4 rfl ?_ ?_
  · refine T_sub (lv' := []) [] rfl ?_
    exact hj61 I2
  refine T_aload_n hok 0 rfl rfl dX6_release_7 ?_
  refine T_getR hok fr_X6_13 lc_34 rc_34_1 dX6_release_8 ?_
  refine T_aload_n hok 0 rfl rfl dX6_release_11 ?_
  refine T_getI hok fr_X6_180 lc_34 dX6_release_12 ?_
  refine T_iconst hok ic_1 dX6_release_15 ?_
  refine T_isub hok dX6_release_16 ?_
  refine T_iald hok lc_35 dX6_release_17 ?_
  refine T_ci0 (CR_S (rest := []) hok (ct_X6_rankOf (I2 35 (ix ((I2 34 2) - (1 : Int32))))) mw_X6_rankOf mst_X6_rankOf ml_X6_211 dX6_release_18 rfl rfl (roomOk rfl) rfl) rfl rfl ?_
  intro x3
  refine T_iload_n hok 1 rfl rfl dX6_release_21 ?_
  refine T_icmp_lt (tgt := 61) hok dX6_release_22 rfl ?_ ?_
  · refine T_sub (lv' := []) [] rfl ?_
    exact hj61 I2
  refine T_aload_n hok 0 rfl rfl dX6_release_25 ?_
  refine T_dup hok rfl dX6_release_26 ?_
  refine T_getI hok fr_X6_180 lc_34 dX6_release_27 ?_
  refine T_iconst hok ic_1 dX6_release_30 ?_
  refine T_isub hok dX6_release_31 ?_
  refine T_putI hok hA fr_X6_180 rfl rfl lc_34 dX6_release_32 ?_
  intro I4
  refine T_aload_n hok 0 rfl rfl dX6_release_35 ?_
  refine T_getR hok fr_X6_30 lc_34 rc_34_7 dX6_release_36 ?_
  refine T_getR hok fr_X6_166 (bookAt_c (b := 0) (bk := 0) (dr := 0) (it := 0) hit).o (bookAt_c hit).r10 dX6_release_39 ?_
  refine T_sipush hok sp_20000 dX6_release_42 ?_
  refine T_aload_n hok 0 rfl rfl dX6_release_45 ?_
  refine T_getR hok fr_X6_13 lc_34 rc_34_1 dX6_release_46 ?_
  refine T_aload_n hok 0 rfl rfl dX6_release_49 ?_
  refine T_getI hok fr_X6_180 lc_34 dX6_release_50 ?_
  refine T_iald hok lc_35 dX6_release_53 ?_
  refine T_iadd hok dX6_release_54 ?_
  refine T_cv1 (CR_V (rest := []) hok (ct_X4_add hA (bookAt_c hit).laws I4 J ((20000 : Int32) + (I4 35 (ix (I4 34 2))))) mw_X4_add mv_X4_add ml_X6_217 (bookAt_c (b := 0) (bk := 0) (dr := 0) (it := 0) hit).laws.o dX6_release_55 rfl rfl (roomOk rfl) rfl) rfl rfl ?_
  intro I5
  refine T_goto (tgt := 0) hok dX6_release_58 rfl ?_
  exact hr0 I5

set_option maxHeartbeats 4000000 in
set_option maxRecDepth 100000 in
theorem ct_X6_rankOfLatest {G : Gx} {l0 : Launch} {A : Nat → Prop} {b bk dr it : Nat} (hA : ∀ k, k < Lc.length → A (b + k)) (I : MI) (J : MJ) : Ct G l0 A yX6_rankOfLatest cX6_rankOfLatest 1 (some .int) { frames := 1, cells := 0, slots := 0, locals := 20 } [.ref (b + 34)] (Rg G b Lc (Rc b bk dr it) I J) (ii0 (Rg G b Lc (Rc b bk dr it) I J)) (f_X6_rankOfLatest I) := by
  refine Ct.of rfl (Nat.le_of_ble_eq_true rfl) ?_
  intro X hok
  replace hok : Ok G l0 X RX6 cX6_rankOfLatest 1 { frames := 1, cells := 0, slots := 0, locals := 20 } (some .int) := hok
  delta f_X6_rankOfLatest
  show T X A (Zm X A (ii0 (Rg G b Lc (Rc b bk dr it) I J))) 1 0 0 0 [(0, .ref (b + 34))] [] (Rg G b Lc (Rc b bk dr it) I J) _
  refine T_aload_n hok 0 rfl rfl dX6_rankOfLatest_0 ?_
  refine T_getI hok fr_X6_180 lc_34 dX6_rankOfLatest_1 ?_
  refine T_jp _ (fun (j25 : Int32 → Option (Int32)) => ∀ (x1 : Int32), T X A (Zm X A (ii0 (Rg G b Lc (Rc b bk dr it) I J))) 1 0 0 25 [] [.int x1] (Rg G b Lc (Rc b bk dr it) I J) (j25 x1)) _ ?_ ?_
  · intro x1
    exact T_iret hok dX6_rankOfLatest_25 (Nat.zero_le _) (Nat.zero_le _) rfl
  intro j25 hj25
  refine T_if_le (tgt := 24) hok dX6_rankOfLatest_4 rfl ?_ ?_
  · refine T_iconst hok ic_0 dX6_rankOfLatest_24 ?_
    refine T_sub (lv' := []) [] rfl ?_
    exact hj25 (0 : Int32)
  refine T_aload_n hok 0 rfl rfl dX6_rankOfLatest_7 ?_
  refine T_getR hok fr_X6_13 lc_34 rc_34_1 dX6_rankOfLatest_8 ?_
  refine T_aload_n hok 0 rfl rfl dX6_rankOfLatest_11 ?_
  refine T_getI hok fr_X6_180 lc_34 dX6_rankOfLatest_12 ?_
  refine T_iconst hok ic_1 dX6_rankOfLatest_15 ?_
  refine T_isub hok dX6_rankOfLatest_16 ?_
  refine T_iald hok lc_35 dX6_rankOfLatest_17 ?_
  refine T_ci0 (CR_S (rest := []) hok (ct_X6_rankOf (I 35 (ix ((I 34 2) - (1 : Int32))))) mw_X6_rankOf mst_X6_rankOf ml_X6_211 dX6_rankOfLatest_18 rfl rfl (roomOk rfl) rfl) rfl rfl ?_
  intro x2
  refine T_goto (tgt := 25) hok dX6_rankOfLatest_21 rfl ?_
  refine T_sub (lv' := []) [] rfl ?_
  exact hj25 x2

set_option maxHeartbeats 4000000 in
set_option maxRecDepth 100000 in
theorem ct_X6_isKnot {G : Gx} {l0 : Launch} {A : Nat → Prop} {b bk dr it : Nat} (hA : ∀ k, k < Lc.length → A (b + k)) (hit : isBk it = true) (I : MI) (J : MJ) : Ct G l0 A yX6_isKnot cX6_isKnot 1 (some .boolean) { frames := 1, cells := 0, slots := 0, locals := 21 } [.ref (b + 34)] (Rg G b Lc (Rc b bk dr it) I J) (iz1 (fun (I' : MI) => Rg G b Lc (Rc b bk dr it) I' J)) (f_X6_isKnot it I) := by
  refine Ct.of rfl (Nat.le_of_ble_eq_true rfl) ?_
  intro X hok
  replace hok : Ok G l0 X RX6 cX6_isKnot 1 { frames := 1, cells := 0, slots := 0, locals := 21 } (some .boolean) := hok
  delta f_X6_isKnot
  show T X A (Zm X A (iz1 (fun (I' : MI) => Rg G b Lc (Rc b bk dr it) I' J))) 1 0 0 0 [(0, .ref (b + 34))] [] (Rg G b Lc (Rc b bk dr it) I J) _
  refine T_aload_n hok 0 rfl rfl dX6_isKnot_0 ?_
  refine T_getR hok fr_X6_30 lc_34 rc_34_7 dX6_isKnot_1 ?_
  refine T_getR hok fr_X6_166 (bookAt_c (b := 0) (bk := 0) (dr := 0) (it := 0) hit).o (bookAt_c hit).r10 dX6_isKnot_4 ?_
  refine T_getI hok fr_X6_214 (bookAt_c (b := 0) (bk := 0) (dr := 0) (it := 0) hit).laws.o dX6_isKnot_7 ?_
  refine T_bipush hok bp_64 dX6_isKnot_10 ?_
  refine T_icmp_lt (tgt := 21) hok dX6_isKnot_12 rfl ?_ ?_
  · refine T_aload_n hok 0 rfl rfl dX6_isKnot_21 ?_
    refine T_getR hok fr_X6_30 lc_34 rc_34_7 dX6_isKnot_22 ?_
    refine T_getR hok fr_X6_166 (bookAt_c (b := 0) (bk := 0) (dr := 0) (it := 0) hit).o (bookAt_c hit).r10 dX6_isKnot_25 ?_
    refine T_dup hok rfl dX6_isKnot_28 ?_
    refine T_getI hok fr_X6_214 (bookAt_c (b := 0) (bk := 0) (dr := 0) (it := 0) hit).laws.o dX6_isKnot_29 ?_
    refine T_iconst hok ic_1 dX6_isKnot_32 ?_
    refine T_iadd hok dX6_isKnot_33 ?_
    refine T_putI hok hA fr_X6_214 rfl rfl (bookAt_c (b := 0) (bk := 0) (dr := 0) (it := 0) hit).laws.o dX6_isKnot_34 ?_
    intro I1
    refine T_iconst hok ic_1 dX6_isKnot_37 ?_
    exact T_zret hok dX6_isKnot_38 (Nat.zero_le _) (Nat.zero_le _) rfl rfl
  refine T_aload_n hok 0 rfl rfl dX6_isKnot_15 ?_
  refine T_iconst hok ic_2 dX6_isKnot_16 ?_
  refine T_cz1 (CR_V (rest := []) hok (ct_X6_fails hA I J (2 : Int32)) mw_X6_fails mv_X6_fails ml_X6_86 lc_34 dX6_isKnot_17 rfl rfl (roomOk rfl) rfl) rfl rfl ?_
  intro x2 I3
  exact T_zret hok dX6_isKnot_20 (Nat.zero_le _) (Nat.zero_le _) (bi_01 _) rfl

set_option maxHeartbeats 4000000 in
set_option maxRecDepth 100000 in
theorem ct_X6_holds {G : Gx} {l0 : Launch} {A : Nat → Prop} {b bk dr it : Nat} (hA : ∀ k, k < Lc.length → A (b + k)) (I : MI) (J : MJ) (a1 : Int32) : Ct G l0 A yX6_holds cX6_holds 2 (some .boolean) { frames := 0, cells := 0, slots := 0, locals := 0 } [.ref (b + 34), .int a1] (Rg G b Lc (Rc b bk dr it) I J) (iz1 (fun (I' : MI) => Rg G b Lc (Rc b bk dr it) I' J)) (f_X6_holds I a1) := by
  refine Ct.of rfl (Nat.le_of_ble_eq_true rfl) ?_
  intro X hok
  replace hok : Ok G l0 X RX6 cX6_holds 2 { frames := 0, cells := 0, slots := 0, locals := 0 } (some .boolean) := hok
  delta f_X6_holds
  show T X A (Zm X A (iz1 (fun (I' : MI) => Rg G b Lc (Rc b bk dr it) I' J))) 2 0 0 0 [(0, .ref (b + 34)), (1, .int a1)] [] (Rg G b Lc (Rc b bk dr it) I J) _
  refine T_aload_n hok 0 rfl rfl dX6_holds_0 ?_
  refine T_getI hok fr_X6_180 lc_34 dX6_holds_1 ?_
  refine T_aload_n hok 0 rfl rfl dX6_holds_4 ?_
  refine T_getR hok fr_X6_13 lc_34 rc_34_1 dX6_holds_5 ?_
  refine T_alen (v := 72) hok (by decide) lc_35 rfl dX6_holds_8 ?_
  refine T_jp _ (fun (j32 : MI → Option (Bool × MI)) => ∀ (I1 : MI), T X A (Zm X A (iz1 (fun (I' : MI) => Rg G b Lc (Rc b bk dr it) I' J))) 2 0 0 32 [] [] (Rg G b Lc (Rc b bk dr it) I1 J) (j32 I1)) _ ?_ ?_
  · intro I1
    refine T_iconst hok ic_1 dX6_holds_32 ?_
    exact T_zret hok dX6_holds_33 (Nat.zero_le _) (Nat.zero_le _) rfl rfl
  intro j32 hj32
  refine T_icmp_ge (tgt := 32) hok dX6_holds_9 rfl ?_ ?_
  · refine T_sub (lv' := []) [] rfl ?_
    exact hj32 I
  refine T_aload_n hok 0 rfl rfl dX6_holds_12 ?_
  refine T_getR hok fr_X6_13 lc_34 rc_34_1 dX6_holds_13 ?_
  refine T_aload_n hok 0 rfl rfl dX6_holds_16 ?_
  refine T_getI hok fr_X6_180 lc_34 dX6_holds_17 ?_
  refine T_iload_n hok 1 rfl rfl dX6_holds_20 ?_
  refine T_iast hok hA lc_35 dX6_holds_21 ?_
  intro I2
  refine T_aload_n hok 0 rfl rfl dX6_holds_22 ?_
  refine T_dup hok rfl dX6_holds_23 ?_
  refine T_getI hok fr_X6_180 lc_34 dX6_holds_24 ?_
  refine T_iconst hok ic_1 dX6_holds_27 ?_
  refine T_iadd hok dX6_holds_28 ?_
  refine T_putI hok hA fr_X6_180 rfl rfl lc_34 dX6_holds_29 ?_
  intro I3
  refine T_sub (lv' := []) [] rfl ?_
  exact hj32 I3

set_option maxHeartbeats 4000000 in
set_option maxRecDepth 100000 in
theorem ct_X6_readBehindValue {G : Gx} {l0 : Launch} {A : Nat → Prop} {b bk dr it : Nat} (hA : ∀ k, k < Lc.length → A (b + k)) (hit : isBk it = true) (I : MI) (J : MJ) : Ct G l0 A yX6_readBehindValue cX6_readBehindValue 2 (some .boolean) { frames := 2, cells := 0, slots := 0, locals := 42 } [.ref (b + 34)] (Rg G b Lc (Rc b bk dr it) I J) (iz1 (fun (I' : MI) => Rg G b Lc (Rc b bk dr it) I' J)) (f_X6_readBehindValue it I) := by
  refine Ct.of rfl (Nat.le_of_ble_eq_true rfl) ?_
  intro X hok
  replace hok : Ok G l0 X RX6 cX6_readBehindValue 2 { frames := 2, cells := 0, slots := 0, locals := 42 } (some .boolean) := hok
  delta f_X6_readBehindValue
  show T X A (Zm X A (iz1 (fun (I' : MI) => Rg G b Lc (Rc b bk dr it) I' J))) 2 0 0 0 [(0, .ref (b + 34))] [] (Rg G b Lc (Rc b bk dr it) I J) _
  refine T_aload_n hok 0 rfl rfl dX6_readBehindValue_0 ?_
  refine T_getR hok fr_X6_26 lc_34 rc_34_0 dX6_readBehindValue_1 ?_
  refine T_getI hok fr_X6_52 lc_36 dX6_readBehindValue_4 ?_
  refine T_bipush hok bp_22 dX6_readBehindValue_7 ?_
  refine T_jp _ (fun (j46 : Option (Bool × MI)) => T X A (Zm X A (iz1 (fun (I' : MI) => Rg G b Lc (Rc b bk dr it) I' J))) 2 0 0 46 [(0, .ref (b + 34))] [] (Rg G b Lc (Rc b bk dr it) I J) (j46)) _ ?_ ?_
  · skip
    refine T_aload_n hok 0 rfl rfl dX6_readBehindValue_46 ?_
    refine T_getR hok fr_X6_26 lc_34 rc_34_0 dX6_readBehindValue_47 ?_
    refine T_getI hok fr_X6_52 lc_36 dX6_readBehindValue_50 ?_
    refine T_ci0 (CR_S (rest := []) hok (ct_X6_rankOf (I 36 4)) mw_X6_rankOf mst_X6_rankOf ml_X6_211 dX6_readBehindValue_53 rfl rfl (roomOk rfl) rfl) rfl rfl ?_
    intro x1
    refine T_istore_n (lv' := [(1, .int x1), (0, .ref (b + 34))]) hok rfl (by decide) rfl dX6_readBehindValue_56 ?_
    refine T_iload_n hok 0 rfl rfl dX6_readBehindValue_57 ?_
    refine T_jp _ (fun (j73 : Option (Bool × MI)) => T X A (Zm X A (iz1 (fun (I' : MI) => Rg G b Lc (Rc b bk dr it) I' J))) 2 0 0 73 [(0, .ref (b + 34))] [] (Rg G b Lc (Rc b bk dr it) I J) (j73)) _ ?_ ?_
    · skip
      refine T_aload_n hok 0 rfl rfl dX6_readBehindValue_73 ?_
      refine T_iconst hok ic_1 dX6_readBehindValue_74 ?_
      refine T_cz1 (CR_V (rest := []) hok (ct_X6_fails hA I J (1 : Int32)) mw_X6_fails mv_X6_fails ml_X6_86 lc_34 dX6_readBehindValue_75 rfl rfl (roomOk rfl) rfl) rfl rfl ?_
      intro x2 I3
      exact T_zret hok dX6_readBehindValue_78 (Nat.zero_le _) (Nat.zero_le _) (bi_01 _) rfl
    intro j73 hj73
    refine T_if_eq (tgt := 73) hok dX6_readBehindValue_58 rfl ?_ ?_
    · refine T_sub (lv' := [(0, .ref (b + 34))]) [1] rfl ?_
      exact hj73
    refine T_aload_n hok 1 rfl rfl dX6_readBehindValue_61 ?_
    refine T_getR hok fr_X6_26 lc_34 rc_34_0 dX6_readBehindValue_62 ?_
    refine T_getI hok fr_X6_52 lc_36 dX6_readBehindValue_65 ?_
    refine T_bipush hok bp_12 dX6_readBehindValue_68 ?_
    refine T_icmp_ne (tgt := 79) hok dX6_readBehindValue_70 rfl ?_ ?_
    · refine T_sub (lv' := [(0, .ref (b + 34))]) [1] rfl ?_
      exact hj73
    refine T_aload_n hok 1 rfl rfl dX6_readBehindValue_79 ?_
    refine T_iload_n hok 0 rfl rfl dX6_readBehindValue_80 ?_
    refine T_iconst hok ic_4 dX6_readBehindValue_81 ?_
    refine T_jp _ (fun (j90 : Int32 → Option (Bool × MI)) => ∀ (x4 : Int32), T X A (Zm X A (iz1 (fun (I' : MI) => Rg G b Lc (Rc b bk dr it) I' J))) 2 0 0 90 [(0, .ref (b + 34)), (1, .int x1)] [.int x4, .ref (b + 34)] (Rg G b Lc (Rc b bk dr it) I J) (j90 x4)) _ ?_ ?_
    · intro x4
      refine T_cv1 (CR_V (rest := []) hok (ct_X6_release hA hit I J x4) mw_X6_release mv_X6_release ml_X6_186 lc_34 dX6_readBehindValue_90 rfl rfl (roomOk rfl) rfl) rfl rfl ?_
      intro I5
      refine T_iload_n hok 1 rfl rfl dX6_readBehindValue_93 ?_
      refine T_iconst hok ic_4 dX6_readBehindValue_94 ?_
      refine T_jp _ (fun (j112 : Option (Bool × MI)) => T X A (Zm X A (iz1 (fun (I' : MI) => Rg G b Lc (Rc b bk dr it) I' J))) 2 0 0 112 [(0, .ref (b + 34))] [] (Rg G b Lc (Rc b bk dr it) I5 J) (j112)) _ ?_ ?_
      · skip
        refine T_aload_n hok 0 rfl rfl dX6_readBehindValue_112 ?_
        refine T_cz1 (CR_V (rest := []) hok (ct_X6_isKnot hA hit I5 J) mw_X6_isKnot mv_X6_isKnot ml_X6_198 lc_34 dX6_readBehindValue_113 rfl rfl (roomOk rfl) rfl) rfl rfl ?_
        intro x6 I7
        refine T_jp _ (fun (j138 : Bool → MI → Option (Bool × MI)) => ∀ (x8 : Bool) (I9 : MI), T X A (Zm X A (iz1 (fun (I' : MI) => Rg G b Lc (Rc b bk dr it) I' J))) 2 0 0 138 [] [.int (bi x8)] (Rg G b Lc (Rc b bk dr it) I9 J) (j138 x8 I9)) _ ?_ ?_
        · intro x8 I9
          exact T_zret hok dX6_readBehindValue_138 (Nat.zero_le _) (Nat.zero_le _) (bi_01 _) rfl
        intro j138 hj138
        refine T_jp _ (fun (j137 : MI → Option (Bool × MI)) => ∀ (I10 : MI), T X A (Zm X A (iz1 (fun (I' : MI) => Rg G b Lc (Rc b bk dr it) I' J))) 2 0 0 137 [] [] (Rg G b Lc (Rc b bk dr it) I10 J) (j137 I10)) _ ?_ ?_
        · intro I10
          refine T_iconst hok ic_0 dX6_readBehindValue_137 ?_
          exact hj138 false I10
        intro j137 hj137
        refine T_ifb_eq (tgt := 137) hok dX6_readBehindValue_116 rfl ?_ ?_
        · refine T_aload_n hok 0 rfl rfl dX6_readBehindValue_119 ?_
          refine T_aload_n hok 0 rfl rfl dX6_readBehindValue_120 ?_
          refine T_getR hok fr_X6_26 lc_34 rc_34_0 dX6_readBehindValue_121 ?_
          refine T_getI hok fr_X6_52 lc_36 dX6_readBehindValue_124 ?_
          refine T_cz1 (CR_V (rest := []) hok (ct_X6_holds hA I7 J (I7 36 4)) mw_X6_holds mv_X6_holds ml_X6_204 lc_34 dX6_readBehindValue_127 rfl rfl (roomOk rfl) rfl) rfl rfl ?_
          intro x11 I12
          refine T_ifb_eq (tgt := 137) hok dX6_readBehindValue_130 rfl ?_ ?_
          · refine T_iconst hok ic_1 dX6_readBehindValue_133 ?_
            refine T_goto (tgt := 138) hok dX6_readBehindValue_134 rfl ?_
            refine T_sub (lv' := []) [] rfl ?_
            exact hj138 true I12
          refine T_sub (lv' := []) [] rfl ?_
          exact hj137 I12
        refine T_sub (lv' := []) [] rfl ?_
        exact hj137 I7
      intro j112 hj112
      refine T_icmp_ne (tgt := 112) hok dX6_readBehindValue_95 rfl ?_ ?_
      · refine T_aload_n hok 0 rfl rfl dX6_readBehindValue_98 ?_
        refine T_ci0 (CR_V (rest := []) hok (ct_X6_rankOfLatest hA I5 J) mw_X6_rankOfLatest mv_X6_rankOfLatest ml_X6_207 lc_34 dX6_readBehindValue_99 rfl rfl (roomOk rfl) rfl) rfl rfl ?_
        intro x13
        refine T_iconst hok ic_4 dX6_readBehindValue_102 ?_
        refine T_icmp_ne (tgt := 112) hok dX6_readBehindValue_103 rfl ?_ ?_
        · refine T_aload_n hok 0 rfl rfl dX6_readBehindValue_106 ?_
          refine T_iconst hok ic_1 dX6_readBehindValue_107 ?_
          refine T_cz1 (CR_V (rest := []) hok (ct_X6_fails hA I5 J (1 : Int32)) mw_X6_fails mv_X6_fails ml_X6_86 lc_34 dX6_readBehindValue_108 rfl rfl (roomOk rfl) rfl) rfl rfl ?_
          intro x14 I15
          exact T_zret hok dX6_readBehindValue_111 (Nat.zero_le _) (Nat.zero_le _) (bi_01 _) rfl
        refine T_sub (lv' := [(0, .ref (b + 34))]) [0] rfl ?_
        exact hj112
      refine T_sub (lv' := [(0, .ref (b + 34))]) [0] rfl ?_
      exact hj112
    intro j90 hj90
    refine T_icmp_ne (tgt := 89) hok dX6_readBehindValue_82 rfl ?_ ?_
    · refine T_iconst hok ic_5 dX6_readBehindValue_85 ?_
      refine T_goto (tgt := 90) hok dX6_readBehindValue_86 rfl ?_
      refine T_sub (lv' := [(0, .ref (b + 34)), (1, .int x1)]) [1, 0] rfl ?_
      exact hj90 (5 : Int32)
    refine T_iload_n hok 0 rfl rfl dX6_readBehindValue_89 ?_
    refine T_sub (lv' := [(0, .ref (b + 34)), (1, .int x1)]) [1, 0] rfl ?_
    exact hj90 x1
  intro j46 hj46
  refine T_icmp_ne (tgt := 46) hok dX6_readBehindValue_9 rfl ?_ ?_
  · refine T_aload_n hok 0 rfl rfl dX6_readBehindValue_12 ?_
    refine T_getI hok fr_X6_183 lc_34 dX6_readBehindValue_13 ?_
    refine T_if_le (tgt := 46) hok dX6_readBehindValue_16 rfl ?_ ?_
    · exact hj46
    refine T_aload_n hok 0 rfl rfl dX6_readBehindValue_19 ?_
    refine T_iconst hok ic_1 dX6_readBehindValue_20 ?_
    refine T_cv1 (CR_V (rest := []) hok (ct_X6_release hA hit I J (1 : Int32)) mw_X6_release mv_X6_release ml_X6_186 lc_34 dX6_readBehindValue_21 rfl rfl (roomOk rfl) rfl) rfl rfl ?_
    intro I16
    refine T_aload_n hok 0 rfl rfl dX6_readBehindValue_24 ?_
    refine T_dup hok rfl dX6_readBehindValue_25 ?_
    refine T_getI hok fr_X6_180 lc_34 dX6_readBehindValue_26 ?_
    refine T_iconst hok ic_1 dX6_readBehindValue_29 ?_
    refine T_isub hok dX6_readBehindValue_30 ?_
    refine T_putI hok hA fr_X6_180 rfl rfl lc_34 dX6_readBehindValue_31 ?_
    intro I17
    refine T_aload_n hok 0 rfl rfl dX6_readBehindValue_34 ?_
    refine T_dup hok rfl dX6_readBehindValue_35 ?_
    refine T_getI hok fr_X6_183 lc_34 dX6_readBehindValue_36 ?_
    refine T_iconst hok ic_1 dX6_readBehindValue_39 ?_
    refine T_isub hok dX6_readBehindValue_40 ?_
    refine T_putI hok hA fr_X6_183 rfl rfl lc_34 dX6_readBehindValue_41 ?_
    intro I18
    refine T_iconst hok ic_1 dX6_readBehindValue_44 ?_
    exact T_zret hok dX6_readBehindValue_45 (Nat.zero_le _) (Nat.zero_le _) rfl rfl
  exact hj46

set_option maxHeartbeats 4000000 in
set_option maxRecDepth 100000 in
theorem ct_X6_puts {G : Gx} {l0 : Launch} {A : Nat → Prop} {b bk dr it : Nat} (hA : ∀ k, k < Lc.length → A (b + k)) (hit : isBk it = true) (I : MI) (J : MJ) (a1 : Int32) : Ct G l0 A yX6_puts cX6_puts 2 (some .boolean) { frames := 1, cells := 0, slots := 0, locals := 21 } [.ref (b + 34), .int a1] (Rg G b Lc (Rc b bk dr it) I J) (iz1 (fun (I' : MI) => Rg G b Lc (Rc b bk dr it) I' J)) (f_X6_puts it I a1) := by
  refine Ct.of rfl (Nat.le_of_ble_eq_true rfl) ?_
  intro X hok
  replace hok : Ok G l0 X RX6 cX6_puts 2 { frames := 1, cells := 0, slots := 0, locals := 21 } (some .boolean) := hok
  delta f_X6_puts
  show T X A (Zm X A (iz1 (fun (I' : MI) => Rg G b Lc (Rc b bk dr it) I' J))) 2 0 0 0 [(0, .ref (b + 34)), (1, .int a1)] [] (Rg G b Lc (Rc b bk dr it) I J) _
  refine T_aload_n hok 0 rfl rfl dX6_puts_0 ?_
  refine T_getR hok fr_X6_30 lc_34 rc_34_7 dX6_puts_1 ?_
  refine T_getR hok fr_X6_166 (bookAt_c (b := 0) (bk := 0) (dr := 0) (it := 0) hit).o (bookAt_c hit).r10 dX6_puts_4 ?_
  refine T_iload_n hok 1 rfl rfl dX6_puts_7 ?_
  refine T_cv1 (CR_V (rest := []) hok (ct_X4_add hA (bookAt_c hit).laws I J a1) mw_X4_add mv_X4_add ml_X6_217 (bookAt_c (b := 0) (bk := 0) (dr := 0) (it := 0) hit).laws.o dX6_puts_8 rfl rfl (roomOk rfl) rfl) rfl rfl ?_
  intro I1
  refine T_iconst hok ic_1 dX6_puts_11 ?_
  exact T_zret hok dX6_puts_12 (Nat.zero_le _) (Nat.zero_le _) rfl rfl

set_option maxHeartbeats 4000000 in
set_option maxRecDepth 100000 in
theorem ct_X7_isName {G : Gx} {l0 : Launch} {A : Nat → Prop} {b bk dr it : Nat} (hA : ∀ k, k < Lc.length → A (b + k)) (I : MI) (J : MJ) : Ct G l0 A yX7_isName cX7_isName 1 (some .boolean) { frames := 0, cells := 0, slots := 0, locals := 0 } [.ref (b + 36)] (Rg G b Lc (Rc b bk dr it) I J) (iz0 (Rg G b Lc (Rc b bk dr it) I J)) (f_X7_isName I) := by
  refine Ct.of rfl (Nat.le_of_ble_eq_true rfl) ?_
  intro X hok
  replace hok : Ok G l0 X RX7 cX7_isName 1 { frames := 0, cells := 0, slots := 0, locals := 0 } (some .boolean) := hok
  delta f_X7_isName
  show T X A (Zm X A (iz0 (Rg G b Lc (Rc b bk dr it) I J))) 1 0 0 0 [(0, .ref (b + 36))] [] (Rg G b Lc (Rc b bk dr it) I J) _
  refine T_aload_n hok 0 rfl rfl dX7_isName_0 ?_
  refine T_getI hok fr_X7_39 lc_36 dX7_isName_1 ?_
  refine T_bipush hok bp_13 dX7_isName_4 ?_
  refine T_jp _ (fun (j23 : Bool → Option (Bool)) => ∀ (x1 : Bool), T X A (Zm X A (iz0 (Rg G b Lc (Rc b bk dr it) I J))) 1 0 0 23 [] [.int (bi x1)] (Rg G b Lc (Rc b bk dr it) I J) (j23 x1)) _ ?_ ?_
  · intro x1
    exact T_zret hok dX7_isName_23 (Nat.zero_le _) (Nat.zero_le _) (bi_01 _) rfl
  intro j23 hj23
  refine T_jp _ (fun (j22 : Option (Bool)) => T X A (Zm X A (iz0 (Rg G b Lc (Rc b bk dr it) I J))) 1 0 0 22 [] [] (Rg G b Lc (Rc b bk dr it) I J) (j22)) _ ?_ ?_
  · skip
    refine T_iconst hok ic_0 dX7_isName_22 ?_
    exact hj23 false
  intro j22 hj22
  refine T_icmp_lt (tgt := 22) hok dX7_isName_6 rfl ?_ ?_
  · refine T_sub (lv' := []) [] rfl ?_
    exact hj22
  refine T_aload_n hok 0 rfl rfl dX7_isName_9 ?_
  refine T_getI hok fr_X7_39 lc_36 dX7_isName_10 ?_
  refine T_bipush hok bp_19 dX7_isName_13 ?_
  refine T_icmp_gt (tgt := 22) hok dX7_isName_15 rfl ?_ ?_
  · refine T_sub (lv' := []) [] rfl ?_
    exact hj22
  refine T_iconst hok ic_1 dX7_isName_18 ?_
  refine T_goto (tgt := 23) hok dX7_isName_19 rfl ?_
  refine T_sub (lv' := []) [] rfl ?_
  exact hj23 true

set_option maxHeartbeats 4000000 in
set_option maxRecDepth 100000 in
theorem ct_X6_readValue {G : Gx} {l0 : Launch} {A : Nat → Prop} {b bk dr it : Nat} (hA : ∀ k, k < Lc.length → A (b + k)) (hit : isBk it = true) (I : MI) (J : MJ) : Ct G l0 A yX6_readValue cX6_readValue 1 (some .boolean) { frames := 2, cells := 0, slots := 0, locals := 42 } [.ref (b + 34)] (Rg G b Lc (Rc b bk dr it) I J) (iz1 (fun (I' : MI) => Rg G b Lc (Rc b bk dr it) I' J)) (f_X6_readValue it I) := by
  refine Ct.of rfl (Nat.le_of_ble_eq_true rfl) ?_
  intro X hok
  replace hok : Ok G l0 X RX6 cX6_readValue 1 { frames := 2, cells := 0, slots := 0, locals := 42 } (some .boolean) := hok
  delta f_X6_readValue
  show T X A (Zm X A (iz1 (fun (I' : MI) => Rg G b Lc (Rc b bk dr it) I' J))) 1 0 0 0 [(0, .ref (b + 34))] [] (Rg G b Lc (Rc b bk dr it) I J) _
  refine T_aload_n hok 0 rfl rfl dX6_readValue_0 ?_
  refine T_getR hok fr_X6_26 lc_34 rc_34_0 dX6_readValue_1 ?_
  refine T_getI hok fr_X6_52 lc_36 dX6_readValue_4 ?_
  refine T_bipush hok bp_33 dX6_readValue_7 ?_
  refine T_icmp_ne (tgt := 60) hok dX6_readValue_9 rfl ?_ ?_
  · refine T_aload_n hok 0 rfl rfl dX6_readValue_12 ?_
    refine T_cz1 (CR_V (rest := []) hok (ct_X6_isKnot hA hit I J) mw_X6_isKnot mv_X6_isKnot ml_X6_198 lc_34 dX6_readValue_13 rfl rfl (roomOk rfl) rfl) rfl rfl ?_
    intro x1 I2
    refine T_jp _ (fun (j59 : Bool → MI → Option (Bool × MI)) => ∀ (x3 : Bool) (I4 : MI), T X A (Zm X A (iz1 (fun (I' : MI) => Rg G b Lc (Rc b bk dr it) I' J))) 1 0 0 59 [] [.int (bi x3)] (Rg G b Lc (Rc b bk dr it) I4 J) (j59 x3 I4)) _ ?_ ?_
    · intro x3 I4
      exact T_zret hok dX6_readValue_59 (Nat.zero_le _) (Nat.zero_le _) (bi_01 _) rfl
    intro j59 hj59
    refine T_jp _ (fun (j58 : MI → Option (Bool × MI)) => ∀ (I5 : MI), T X A (Zm X A (iz1 (fun (I' : MI) => Rg G b Lc (Rc b bk dr it) I' J))) 1 0 0 58 [] [] (Rg G b Lc (Rc b bk dr it) I5 J) (j58 I5)) _ ?_ ?_
    · intro I5
      refine T_iconst hok ic_0 dX6_readValue_58 ?_
      exact hj59 false I5
    intro j58 hj58
    refine T_ifb_eq (tgt := 58) hok dX6_readValue_16 rfl ?_ ?_
    · refine T_aload_n hok 0 rfl rfl dX6_readValue_19 ?_
      refine T_getR hok fr_X6_26 lc_34 rc_34_0 dX6_readValue_20 ?_
      refine T_getI hok fr_X6_93 lc_36 dX6_readValue_23 ?_
      refine T_sipush hok sp_9999 dX6_readValue_26 ?_
      refine T_jp _ (fun (j40 : MI → Option (Bool × MI)) => ∀ (I6 : MI), T X A (Zm X A (iz1 (fun (I' : MI) => Rg G b Lc (Rc b bk dr it) I' J))) 1 0 0 40 [(0, .ref (b + 34))] [] (Rg G b Lc (Rc b bk dr it) I6 J) (j40 I6)) _ ?_ ?_
      · intro I6
        refine T_aload_n hok 0 rfl rfl dX6_readValue_40 ?_
        refine T_aload_n hok 0 rfl rfl dX6_readValue_41 ?_
        refine T_getR hok fr_X6_26 lc_34 rc_34_0 dX6_readValue_42 ?_
        refine T_getI hok fr_X6_93 lc_36 dX6_readValue_45 ?_
        refine T_cz1 (CR_V (rest := []) hok (ct_X6_puts hA hit I6 J (I6 36 6)) mw_X6_puts mv_X6_puts ml_X6_201 lc_34 dX6_readValue_48 rfl rfl (roomOk rfl) rfl) rfl rfl ?_
        intro x7 I8
        refine T_ifb_eq (tgt := 58) hok dX6_readValue_51 rfl ?_ ?_
        · refine T_iconst hok ic_1 dX6_readValue_54 ?_
          refine T_goto (tgt := 59) hok dX6_readValue_55 rfl ?_
          refine T_sub (lv' := []) [] rfl ?_
          exact hj59 true I8
        refine T_sub (lv' := []) [] rfl ?_
        exact hj58 I8
      intro j40 hj40
      refine T_icmp_le (tgt := 40) hok dX6_readValue_29 rfl ?_ ?_
      · exact hj40 I2
      refine T_aload_n hok 0 rfl rfl dX6_readValue_32 ?_
      refine T_iconst hok ic_2 dX6_readValue_33 ?_
      refine T_cz1 (CR_V (rest := []) hok (ct_X6_fails hA I2 J (2 : Int32)) mw_X6_fails mv_X6_fails ml_X6_86 lc_34 dX6_readValue_34 rfl rfl (roomOk rfl) rfl) rfl rfl ?_
      intro x9 I10
      refine T_ifb_eq (tgt := 58) hok dX6_readValue_37 rfl ?_ ?_
      · exact hj40 I10
      refine T_sub (lv' := []) [] rfl ?_
      exact hj58 I10
    refine T_sub (lv' := []) [] rfl ?_
    exact hj58 I2
  refine T_aload_n hok 0 rfl rfl dX6_readValue_60 ?_
  refine T_getR hok fr_X6_26 lc_34 rc_34_0 dX6_readValue_61 ?_
  refine T_cz0 (CR_V (rest := []) hok (ct_X7_isName hA I J) mw_X7_isName mv_X7_isName ml_X6_195 lc_36 dX6_readValue_64 rfl rfl (roomOk rfl) rfl) rfl rfl ?_
  intro x11
  refine T_ifb_eq (tgt := 104) hok dX6_readValue_67 rfl ?_ ?_
  · refine T_aload_n hok 0 rfl rfl dX6_readValue_70 ?_
    refine T_cz1 (CR_V (rest := []) hok (ct_X6_isKnot hA hit I J) mw_X6_isKnot mv_X6_isKnot ml_X6_198 lc_34 dX6_readValue_71 rfl rfl (roomOk rfl) rfl) rfl rfl ?_
    intro x12 I13
    refine T_jp _ (fun (j103 : Bool → MI → Option (Bool × MI)) => ∀ (x14 : Bool) (I15 : MI), T X A (Zm X A (iz1 (fun (I' : MI) => Rg G b Lc (Rc b bk dr it) I' J))) 1 0 0 103 [] [.int (bi x14)] (Rg G b Lc (Rc b bk dr it) I15 J) (j103 x14 I15)) _ ?_ ?_
    · intro x14 I15
      exact T_zret hok dX6_readValue_103 (Nat.zero_le _) (Nat.zero_le _) (bi_01 _) rfl
    intro j103 hj103
    refine T_jp _ (fun (j102 : MI → Option (Bool × MI)) => ∀ (I16 : MI), T X A (Zm X A (iz1 (fun (I' : MI) => Rg G b Lc (Rc b bk dr it) I' J))) 1 0 0 102 [] [] (Rg G b Lc (Rc b bk dr it) I16 J) (j102 I16)) _ ?_ ?_
    · intro I16
      refine T_iconst hok ic_0 dX6_readValue_102 ?_
      exact hj103 false I16
    intro j102 hj102
    refine T_ifb_eq (tgt := 102) hok dX6_readValue_74 rfl ?_ ?_
    · refine T_aload_n hok 0 rfl rfl dX6_readValue_77 ?_
      refine T_sipush hok sp_10000 dX6_readValue_78 ?_
      refine T_aload_n hok 0 rfl rfl dX6_readValue_81 ?_
      refine T_getR hok fr_X6_26 lc_34 rc_34_0 dX6_readValue_82 ?_
      refine T_getI hok fr_X6_52 lc_36 dX6_readValue_85 ?_
      refine T_iadd hok dX6_readValue_88 ?_
      refine T_bipush hok bp_13 dX6_readValue_89 ?_
      refine T_isub hok dX6_readValue_91 ?_
      refine T_cz1 (CR_V (rest := []) hok (ct_X6_puts hA hit I13 J (((10000 : Int32) + (I13 36 4)) - (13 : Int32))) mw_X6_puts mv_X6_puts ml_X6_201 lc_34 dX6_readValue_92 rfl rfl (roomOk rfl) rfl) rfl rfl ?_
      intro x17 I18
      refine T_ifb_eq (tgt := 102) hok dX6_readValue_95 rfl ?_ ?_
      · refine T_iconst hok ic_1 dX6_readValue_98 ?_
        refine T_goto (tgt := 103) hok dX6_readValue_99 rfl ?_
        refine T_sub (lv' := []) [] rfl ?_
        exact hj103 true I18
      refine T_sub (lv' := []) [] rfl ?_
      exact hj102 I18
    refine T_sub (lv' := []) [] rfl ?_
    exact hj102 I13
  refine T_aload_n hok 0 rfl rfl dX6_readValue_104 ?_
  refine T_getR hok fr_X6_26 lc_34 rc_34_0 dX6_readValue_105 ?_
  refine T_getI hok fr_X6_52 lc_36 dX6_readValue_108 ?_
  refine T_bipush hok bp_21 dX6_readValue_111 ?_
  refine T_icmp_ne (tgt := 148) hok dX6_readValue_113 rfl ?_ ?_
  · refine T_aload_n hok 0 rfl rfl dX6_readValue_116 ?_
    refine T_getI hok fr_X6_183 lc_34 dX6_readValue_117 ?_
    refine T_bipush hok bp_8 dX6_readValue_120 ?_
    refine T_icmp_lt (tgt := 131) hok dX6_readValue_122 rfl ?_ ?_
    · refine T_aload_n hok 0 rfl rfl dX6_readValue_131 ?_
      refine T_dup hok rfl dX6_readValue_132 ?_
      refine T_getI hok fr_X6_183 lc_34 dX6_readValue_133 ?_
      refine T_iconst hok ic_1 dX6_readValue_136 ?_
      refine T_iadd hok dX6_readValue_137 ?_
      refine T_putI hok hA fr_X6_183 rfl rfl lc_34 dX6_readValue_138 ?_
      intro I19
      refine T_aload_n hok 0 rfl rfl dX6_readValue_141 ?_
      refine T_bipush hok bp_21 dX6_readValue_142 ?_
      refine T_cz1 (CR_V (rest := []) hok (ct_X6_holds hA I19 J (21 : Int32)) mw_X6_holds mv_X6_holds ml_X6_204 lc_34 dX6_readValue_144 rfl rfl (roomOk rfl) rfl) rfl rfl ?_
      intro x20 I21
      exact T_zret hok dX6_readValue_147 (Nat.zero_le _) (Nat.zero_le _) (bi_01 _) rfl
    refine T_aload_n hok 0 rfl rfl dX6_readValue_125 ?_
    refine T_iconst hok ic_2 dX6_readValue_126 ?_
    refine T_cz1 (CR_V (rest := []) hok (ct_X6_fails hA I J (2 : Int32)) mw_X6_fails mv_X6_fails ml_X6_86 lc_34 dX6_readValue_127 rfl rfl (roomOk rfl) rfl) rfl rfl ?_
    intro x22 I23
    exact T_zret hok dX6_readValue_130 (Nat.zero_le _) (Nat.zero_le _) (bi_01 _) rfl
  refine T_aload_n hok 0 rfl rfl dX6_readValue_148 ?_
  refine T_getR hok fr_X6_26 lc_34 rc_34_0 dX6_readValue_149 ?_
  refine T_getI hok fr_X6_52 lc_36 dX6_readValue_152 ?_
  refine T_bipush hok bp_12 dX6_readValue_155 ?_
  refine T_jp _ (fun (j190 : Option (Bool × MI)) => T X A (Zm X A (iz1 (fun (I' : MI) => Rg G b Lc (Rc b bk dr it) I' J))) 1 0 0 190 [(0, .ref (b + 34))] [] (Rg G b Lc (Rc b bk dr it) I J) (j190)) _ ?_ ?_
  · skip
    refine T_aload_n hok 0 rfl rfl dX6_readValue_190 ?_
    refine T_iconst hok ic_1 dX6_readValue_191 ?_
    refine T_cz1 (CR_V (rest := []) hok (ct_X6_fails hA I J (1 : Int32)) mw_X6_fails mv_X6_fails ml_X6_86 lc_34 dX6_readValue_192 rfl rfl (roomOk rfl) rfl) rfl rfl ?_
    intro x24 I25
    exact T_zret hok dX6_readValue_195 (Nat.zero_le _) (Nat.zero_le _) (bi_01 _) rfl
  intro j190 hj190
  refine T_icmp_ne (tgt := 190) hok dX6_readValue_157 rfl ?_ ?_
  · refine T_aload_n hok 0 rfl rfl dX6_readValue_160 ?_
    refine T_ci0 (CR_V (rest := []) hok (ct_X6_rankOfLatest hA I J) mw_X6_rankOfLatest mv_X6_rankOfLatest ml_X6_207 lc_34 dX6_readValue_161 rfl rfl (roomOk rfl) rfl) rfl rfl ?_
    intro x26
    refine T_iconst hok ic_4 dX6_readValue_164 ?_
    refine T_icmp_ge (tgt := 190) hok dX6_readValue_165 rfl ?_ ?_
    · exact hj190
    refine T_aload_n hok 0 rfl rfl dX6_readValue_168 ?_
    refine T_cz1 (CR_V (rest := []) hok (ct_X6_isKnot hA hit I J) mw_X6_isKnot mv_X6_isKnot ml_X6_198 lc_34 dX6_readValue_169 rfl rfl (roomOk rfl) rfl) rfl rfl ?_
    intro x27 I28
    refine T_jp _ (fun (j189 : Bool → MI → Option (Bool × MI)) => ∀ (x29 : Bool) (I30 : MI), T X A (Zm X A (iz1 (fun (I' : MI) => Rg G b Lc (Rc b bk dr it) I' J))) 1 0 0 189 [] [.int (bi x29)] (Rg G b Lc (Rc b bk dr it) I30 J) (j189 x29 I30)) _ ?_ ?_
    · intro x29 I30
      exact T_zret hok dX6_readValue_189 (Nat.zero_le _) (Nat.zero_le _) (bi_01 _) rfl
    intro j189 hj189
    refine T_jp _ (fun (j188 : MI → Option (Bool × MI)) => ∀ (I31 : MI), T X A (Zm X A (iz1 (fun (I' : MI) => Rg G b Lc (Rc b bk dr it) I' J))) 1 0 0 188 [] [] (Rg G b Lc (Rc b bk dr it) I31 J) (j188 I31)) _ ?_ ?_
    · intro I31
      refine T_iconst hok ic_0 dX6_readValue_188 ?_
      exact hj189 false I31
    intro j188 hj188
    refine T_ifb_eq (tgt := 188) hok dX6_readValue_172 rfl ?_ ?_
    · refine T_aload_n hok 0 rfl rfl dX6_readValue_175 ?_
      refine T_bipush hok bp_12 dX6_readValue_176 ?_
      refine T_cz1 (CR_V (rest := []) hok (ct_X6_holds hA I28 J (12 : Int32)) mw_X6_holds mv_X6_holds ml_X6_204 lc_34 dX6_readValue_178 rfl rfl (roomOk rfl) rfl) rfl rfl ?_
      intro x32 I33
      refine T_ifb_eq (tgt := 188) hok dX6_readValue_181 rfl ?_ ?_
      · refine T_iconst hok ic_1 dX6_readValue_184 ?_
        refine T_goto (tgt := 189) hok dX6_readValue_185 rfl ?_
        refine T_sub (lv' := []) [] rfl ?_
        exact hj189 true I33
      refine T_sub (lv' := []) [] rfl ?_
      exact hj188 I33
    refine T_sub (lv' := []) [] rfl ?_
    exact hj188 I28
  exact hj190

set_option maxHeartbeats 4000000 in
set_option maxRecDepth 100000 in
theorem ct_X6_readFormula {G : Gx} {l0 : Launch} {A : Nat → Prop} {b bk dr it : Nat} (hA : ∀ k, k < Lc.length → A (b + k)) (hit : isBk it = true) (I : MI) (J : MJ) : Ct G l0 A yX6_readFormula cX6_readFormula 4 (some .boolean) { frames := 3, cells := 0, slots := 0, locals := 65 } [.ref (b + 34)] (Rg G b Lc (Rc b bk dr it) I J) (iz1 (fun (I' : MI) => Rg G b Lc (Rc b bk dr it) I' J)) (f_X6_readFormula it I) := by
  refine Ct.of rfl (Nat.le_of_ble_eq_true rfl) ?_
  intro X hok
  replace hok : Ok G l0 X RX6 cX6_readFormula 4 { frames := 3, cells := 0, slots := 0, locals := 65 } (some .boolean) := hok
  delta f_X6_readFormula
  show T X A (Zm X A (iz1 (fun (I' : MI) => Rg G b Lc (Rc b bk dr it) I' J))) 4 0 0 0 [(0, .ref (b + 34))] [] (Rg G b Lc (Rc b bk dr it) I J) _
  refine T_aload_n hok 0 rfl rfl dX6_readFormula_0 ?_
  refine T_iconst hok ic_0 dX6_readFormula_1 ?_
  refine T_putI hok hA fr_X6_180 rfl rfl lc_34 dX6_readFormula_2 ?_
  intro I1
  refine T_aload_n hok 0 rfl rfl dX6_readFormula_5 ?_
  refine T_iconst hok ic_0 dX6_readFormula_6 ?_
  refine T_putI hok hA fr_X6_183 rfl rfl lc_34 dX6_readFormula_7 ?_
  intro I2
  refine T_iconst hok ic_0 dX6_readFormula_10 ?_
  refine T_istore_n (lv' := [(1, .int (0 : Int32)), (0, .ref (b + 34))]) hok rfl (by decide) rfl dX6_readFormula_11 ?_
  refine T_iconst hok ic_0 dX6_readFormula_12 ?_
  refine T_istore_n (lv' := [(2, .int (0 : Int32)), (1, .int (0 : Int32)), (0, .ref (b + 34))]) hok rfl (by decide) rfl dX6_readFormula_13 ?_
  refine T_jp _ (fun (j126 : MI → Option (Bool × MI)) => ∀ (I3 : MI), T X A (Zm X A (iz1 (fun (I' : MI) => Rg G b Lc (Rc b bk dr it) I' J))) 4 0 0 126 [(0, .ref (b + 34))] [] (Rg G b Lc (Rc b bk dr it) I3 J) (j126 I3)) _ ?_ ?_
  · intro I3
    refine T_aload_n hok 0 rfl rfl dX6_readFormula_126 ?_
    refine T_iconst hok ic_1 dX6_readFormula_127 ?_
    refine T_cz1 (CR_V (rest := []) hok (ct_X6_fails hA I3 J (1 : Int32)) mw_X6_fails mv_X6_fails ml_X6_86 lc_34 dX6_readFormula_128 rfl rfl (roomOk rfl) rfl) rfl rfl ?_
    intro x4 I5
    exact T_zret hok dX6_readFormula_131 (Nat.zero_le _) (Nat.zero_le _) (bi_01 _) rfl
  intro j126 hj126
  refine T_jp _ (fun (j51 : MI → Option (Bool × MI)) => ∀ (I6 : MI), T X A (Zm X A (iz1 (fun (I' : MI) => Rg G b Lc (Rc b bk dr it) I' J))) 4 0 0 51 [(0, .ref (b + 34))] [] (Rg G b Lc (Rc b bk dr it) I6 J) (j51 I6)) _ ?_ ?_
  · intro I6
    refine T_aload_n hok 0 rfl rfl dX6_readFormula_51 ?_
    refine T_iconst hok ic_1 dX6_readFormula_52 ?_
    refine T_cv1 (CR_V (rest := []) hok (ct_X6_release hA hit I6 J (1 : Int32)) mw_X6_release mv_X6_release ml_X6_186 lc_34 dX6_readFormula_53 rfl rfl (roomOk rfl) rfl) rfl rfl ?_
    intro I7
    refine T_iconst hok ic_1 dX6_readFormula_56 ?_
    exact T_zret hok dX6_readFormula_57 (Nat.zero_le _) (Nat.zero_le _) rfl rfl
  intro j51 hj51
  refine T_sub (lv' := [(0, .ref (b + 34)), (1, .int (0 : Int32)), (2, .int (0 : Int32))]) [2, 1, 0] rfl ?_
  refine T_fix3 _ (fun (x8 : Int32) (x9 : Int32) (I10 : MI) => [(0, .ref (b + 34)), (1, .int x8), (2, .int x9)]) (fun (x8 : Int32) (x9 : Int32) (I10 : MI) => Rg G b Lc (Rc b bk dr it) I10 J) ?_ FU (0 : Int32) (0 : Int32) I2
  intro r14 hr14 x8 x9 I10
  refine T_iload_n hok 2 rfl rfl dX6_readFormula_14 ?_
  refine T_sipush hok sp_700 dX6_readFormula_15 ?_
  refine T_icmp_ge (tgt := 126) hok dX6_readFormula_18 rfl ?_ ?_
  · refine T_sub (lv' := [(0, .ref (b + 34))]) [0] rfl ?_
    exact hj126 I10
  refine T_aload_n hok 0 rfl rfl dX6_readFormula_21 ?_
  refine T_getR hok fr_X6_26 lc_34 rc_34_0 dX6_readFormula_22 ?_
  refine T_cv1 (CR_V (rest := []) hok (ct_X7_step hA I10 J) mw_X7_step mv_X7_step ml_X6_49 lc_36 dX6_readFormula_25 rfl rfl (roomOk rfl) rfl) rfl rfl ?_
  intro I11
  refine T_iload_n hok 1 rfl rfl dX6_readFormula_28 ?_
  refine T_jp _ (fun (j58 : Option (Bool × MI)) => T X A (Zm X A (iz1 (fun (I' : MI) => Rg G b Lc (Rc b bk dr it) I' J))) 4 0 0 58 [(0, .ref (b + 34)), (1, .int x8), (2, .int x9)] [] (Rg G b Lc (Rc b bk dr it) I11 J) (j58)) _ ?_ ?_
  · skip
    refine T_iload_n hok 1 rfl rfl dX6_readFormula_58 ?_
    refine T_jp _ (fun (j73 : Bool → MI → Option (Bool × MI)) => ∀ (x12 : Bool) (I13 : MI), T X A (Zm X A (iz1 (fun (I' : MI) => Rg G b Lc (Rc b bk dr it) I' J))) 4 0 0 73 [(0, .ref (b + 34)), (2, .int x9)] [.int (bi x12)] (Rg G b Lc (Rc b bk dr it) I13 J) (j73 x12 I13)) _ ?_ ?_
    · intro x12 I13
      refine T_lti ?_
      intro x14
      refine T_istore_n (lv' := [(3, .int x14), (0, .ref (b + 34)), (2, .int x9)]) hok rfl (by decide) rfl dX6_readFormula_73 ?_
      refine T_iload_n hok 0 rfl rfl dX6_readFormula_74 ?_
      refine T_if_ne (tgt := 80) hok dX6_readFormula_75 rfl ?_ ?_
      · refine T_iconst hok ic_0 dX6_readFormula_78 ?_
        exact T_zret hok dX6_readFormula_79 (Nat.zero_le _) (Nat.zero_le _) rfl rfl
      refine T_aload_n hok 1 rfl rfl dX6_readFormula_80 ?_
      refine T_getR hok fr_X6_26 lc_34 rc_34_0 dX6_readFormula_81 ?_
      refine T_getI hok fr_X6_52 lc_36 dX6_readFormula_84 ?_
      refine T_bipush hok bp_33 dX6_readFormula_87 ?_
      refine T_jp _ (fun (j119 : Bool → Option (Bool × MI)) => ∀ (x15 : Bool), T X A (Zm X A (iz1 (fun (I' : MI) => Rg G b Lc (Rc b bk dr it) I' J))) 4 0 0 119 [(0, .ref (b + 34)), (2, .int x9)] [.int (bi x15)] (Rg G b Lc (Rc b bk dr it) I13 J) (j119 x15)) _ ?_ ?_
      · intro x15
        refine T_lti ?_
        intro x16
        refine T_istore_n (lv' := [(1, .int x16), (0, .ref (b + 34)), (2, .int x9)]) hok rfl (by decide) rfl dX6_readFormula_119 ?_
        refine T_iinc (lvs := fun x17 => [(2, .int x17), (1, .int x16), (0, .ref (b + 34))]) hok 2 rfl ic_1 (by decide) (fun _ => rfl) dX6_readFormula_120 ?_
        intro x17
        refine T_goto (tgt := 14) hok dX6_readFormula_123 rfl ?_
        refine T_sub (lv' := [(0, .ref (b + 34)), (1, .int x16), (2, .int x17)]) [2, 1, 0] rfl ?_
        exact hr14 x16 x17 I13
      intro j119 hj119
      refine T_jp _ (fun (j114 : Option (Bool × MI)) => T X A (Zm X A (iz1 (fun (I' : MI) => Rg G b Lc (Rc b bk dr it) I' J))) 4 0 0 114 [(0, .ref (b + 34)), (2, .int x9)] [] (Rg G b Lc (Rc b bk dr it) I13 J) (j114)) _ ?_ ?_
      · skip
        refine T_iconst hok ic_1 dX6_readFormula_114 ?_
        refine T_goto (tgt := 119) hok dX6_readFormula_115 rfl ?_
        exact hj119 true
      intro j114 hj114
      refine T_icmp_eq (tgt := 114) hok dX6_readFormula_89 rfl ?_ ?_
      · refine T_sub (lv' := [(0, .ref (b + 34)), (2, .int x9)]) [1, 2] rfl ?_
        exact hj114
      refine T_aload_n hok 1 rfl rfl dX6_readFormula_92 ?_
      refine T_getR hok fr_X6_26 lc_34 rc_34_0 dX6_readFormula_93 ?_
      refine T_getI hok fr_X6_52 lc_36 dX6_readFormula_96 ?_
      refine T_bipush hok bp_22 dX6_readFormula_99 ?_
      refine T_icmp_eq (tgt := 114) hok dX6_readFormula_101 rfl ?_ ?_
      · refine T_sub (lv' := [(0, .ref (b + 34)), (2, .int x9)]) [1, 2] rfl ?_
        exact hj114
      refine T_aload_n hok 1 rfl rfl dX6_readFormula_104 ?_
      refine T_getR hok fr_X6_26 lc_34 rc_34_0 dX6_readFormula_105 ?_
      refine T_cz0 (CR_V (rest := []) hok (ct_X7_isName hA I13 J) mw_X7_isName mv_X7_isName ml_X6_195 lc_36 dX6_readFormula_108 rfl rfl (roomOk rfl) rfl) rfl rfl ?_
      intro x18
      refine T_ifb_eq (tgt := 118) hok dX6_readFormula_111 rfl ?_ ?_
      · refine T_sub (lv' := [(0, .ref (b + 34)), (2, .int x9)]) [1, 2] rfl ?_
        exact hj114
      refine T_iconst hok ic_0 dX6_readFormula_118 ?_
      refine T_sub (lv' := [(0, .ref (b + 34)), (2, .int x9)]) [1, 2] rfl ?_
      exact hj119 false
    intro j73 hj73
    refine T_if_eq (tgt := 69) hok dX6_readFormula_59 rfl ?_ ?_
    · refine T_aload_n hok 0 rfl rfl dX6_readFormula_69 ?_
      refine T_cz1 (CR_V (rest := []) hok (ct_X6_readValue hA hit I11 J) mw_X6_readValue mv_X6_readValue ml_X6_192 lc_34 dX6_readFormula_70 rfl rfl (roomOk rfl) rfl) rfl rfl ?_
      intro x19 I20
      refine T_sub (lv' := [(0, .ref (b + 34)), (2, .int x9)]) [0, 2] rfl ?_
      exact hj73 x19 I20
    refine T_aload_n hok 0 rfl rfl dX6_readFormula_62 ?_
    refine T_cz1 (CR_V (rest := []) hok (ct_X6_readBehindValue hA hit I11 J) mw_X6_readBehindValue mv_X6_readBehindValue ml_X6_189 lc_34 dX6_readFormula_63 rfl rfl (roomOk rfl) rfl) rfl rfl ?_
    intro x21 I22
    refine T_goto (tgt := 73) hok dX6_readFormula_66 rfl ?_
    refine T_sub (lv' := [(0, .ref (b + 34)), (2, .int x9)]) [0, 2] rfl ?_
    exact hj73 x21 I22
  intro j58 hj58
  refine T_if_eq (tgt := 58) hok dX6_readFormula_29 rfl ?_ ?_
  · exact hj58
  refine T_aload_n hok 0 rfl rfl dX6_readFormula_32 ?_
  refine T_getR hok fr_X6_26 lc_34 rc_34_0 dX6_readFormula_33 ?_
  refine T_getI hok fr_X6_52 lc_36 dX6_readFormula_36 ?_
  refine T_bipush hok bp_20 dX6_readFormula_39 ?_
  refine T_icmp_ne (tgt := 58) hok dX6_readFormula_41 rfl ?_ ?_
  · refine T_aload_n hok 0 rfl rfl dX6_readFormula_44 ?_
    refine T_getI hok fr_X6_183 lc_34 dX6_readFormula_45 ?_
    refine T_if_ne (tgt := 58) hok dX6_readFormula_48 rfl ?_ ?_
    · refine T_sub (lv' := [(0, .ref (b + 34))]) [0] rfl ?_
      exact hj51 I11
    exact hj58
  exact hj58

set_option maxHeartbeats 4000000 in
set_option maxRecDepth 100000 in
theorem ct_X6_readLaw {G : Gx} {l0 : Launch} {A : Nat → Prop} {b bk dr it : Nat} (hA : ∀ k, k < Lc.length → A (b + k)) (hit : isBk it = true) (I : MI) (J : MJ) : Ct G l0 A yX6_readLaw cX6_readLaw 2 (some .boolean) { frames := 4, cells := 0, slots := 0, locals := 88 } [.ref (b + 34)] (Rg G b Lc (Rc b bk dr it) I J) (iz1 (fun (I' : MI) => Rg G b Lc (Rc b bk dr it) I' J)) (f_X6_readLaw it I) := by
  refine Ct.of rfl (Nat.le_of_ble_eq_true rfl) ?_
  intro X hok
  replace hok : Ok G l0 X RX6 cX6_readLaw 2 { frames := 4, cells := 0, slots := 0, locals := 88 } (some .boolean) := hok
  delta f_X6_readLaw
  show T X A (Zm X A (iz1 (fun (I' : MI) => Rg G b Lc (Rc b bk dr it) I' J))) 2 0 0 0 [(0, .ref (b + 34))] [] (Rg G b Lc (Rc b bk dr it) I J) _
  refine T_aload_n hok 0 rfl rfl dX6_readLaw_0 ?_
  refine T_getR hok fr_X6_26 lc_34 rc_34_0 dX6_readLaw_1 ?_
  refine T_cv1 (CR_V (rest := []) hok (ct_X7_step hA I J) mw_X7_step mv_X7_step ml_X6_49 lc_36 dX6_readLaw_4 rfl rfl (roomOk rfl) rfl) rfl rfl ?_
  intro I1
  refine T_aload_n hok 0 rfl rfl dX6_readLaw_7 ?_
  refine T_getR hok fr_X6_26 lc_34 rc_34_0 dX6_readLaw_8 ?_
  refine T_getI hok fr_X6_52 lc_36 dX6_readLaw_11 ?_
  refine T_bipush hok bp_7 dX6_readLaw_14 ?_
  refine T_jp _ (fun (j31 : Option (Bool × MI)) => T X A (Zm X A (iz1 (fun (I' : MI) => Rg G b Lc (Rc b bk dr it) I' J))) 2 0 0 31 [(0, .ref (b + 34))] [] (Rg G b Lc (Rc b bk dr it) I1 J) (j31)) _ ?_ ?_
  · skip
    refine T_aload_n hok 0 rfl rfl dX6_readLaw_31 ?_
    refine T_iconst hok ic_1 dX6_readLaw_32 ?_
    refine T_cz1 (CR_V (rest := []) hok (ct_X6_fails hA I1 J (1 : Int32)) mw_X6_fails mv_X6_fails ml_X6_86 lc_34 dX6_readLaw_33 rfl rfl (roomOk rfl) rfl) rfl rfl ?_
    intro x2 I3
    exact T_zret hok dX6_readLaw_36 (Nat.zero_le _) (Nat.zero_le _) (bi_01 _) rfl
  intro j31 hj31
  refine T_icmp_lt (tgt := 31) hok dX6_readLaw_16 rfl ?_ ?_
  · exact hj31
  refine T_aload_n hok 0 rfl rfl dX6_readLaw_19 ?_
  refine T_getR hok fr_X6_26 lc_34 rc_34_0 dX6_readLaw_20 ?_
  refine T_getI hok fr_X6_52 lc_36 dX6_readLaw_23 ?_
  refine T_bipush hok bp_9 dX6_readLaw_26 ?_
  refine T_icmp_le (tgt := 37) hok dX6_readLaw_28 rfl ?_ ?_
  · refine T_aload_n hok 0 rfl rfl dX6_readLaw_37 ?_
    refine T_getR hok fr_X6_26 lc_34 rc_34_0 dX6_readLaw_38 ?_
    refine T_getI hok fr_X6_52 lc_36 dX6_readLaw_41 ?_
    refine T_bipush hok bp_7 dX6_readLaw_44 ?_
    refine T_isub hok dX6_readLaw_46 ?_
    refine T_lti ?_
    intro x4
    refine T_istore_n (lv' := [(1, .int x4), (0, .ref (b + 34))]) hok rfl (by decide) rfl dX6_readLaw_47 ?_
    refine T_aload_n hok 1 rfl rfl dX6_readLaw_48 ?_
    refine T_getR hok fr_X6_30 lc_34 rc_34_7 dX6_readLaw_49 ?_
    refine T_getR hok fr_X6_166 (bookAt_c (b := 0) (bk := 0) (dr := 0) (it := 0) hit).o (bookAt_c hit).r10 dX6_readLaw_52 ?_
    refine T_iload_n hok 0 rfl rfl dX6_readLaw_55 ?_
    refine T_cz0 (CR_V (rest := []) hok (ct_X4_has hA (bookAt_c hit).laws I1 J x4) mw_X4_has mv_X4_has ml_X6_170 (bookAt_c (b := 0) (bk := 0) (dr := 0) (it := 0) hit).laws.o dX6_readLaw_56 rfl rfl (roomOk rfl) rfl) rfl rfl ?_
    intro x5
    refine T_ifb_eq (tgt := 68) hok dX6_readLaw_59 rfl ?_ ?_
    · refine T_aload_n hok 1 rfl rfl dX6_readLaw_62 ?_
      refine T_iconst hok ic_3 dX6_readLaw_63 ?_
      refine T_cz1 (CR_V (rest := []) hok (ct_X6_fails hA I1 J (3 : Int32)) mw_X6_fails mv_X6_fails ml_X6_86 lc_34 dX6_readLaw_64 rfl rfl (roomOk rfl) rfl) rfl rfl ?_
      intro x6 I7
      exact T_zret hok dX6_readLaw_67 (Nat.zero_le _) (Nat.zero_le _) (bi_01 _) rfl
    refine T_aload_n hok 1 rfl rfl dX6_readLaw_68 ?_
    refine T_getR hok fr_X6_30 lc_34 rc_34_7 dX6_readLaw_69 ?_
    refine T_getR hok fr_X6_166 (bookAt_c (b := 0) (bk := 0) (dr := 0) (it := 0) hit).o (bookAt_c hit).r10 dX6_readLaw_72 ?_
    refine T_iload_n hok 0 rfl rfl dX6_readLaw_75 ?_
    refine T_cv1 (CR_V (rest := []) hok (ct_X4_begin hA (bookAt_c hit).laws I1 J x4) mw_X4_begin mv_X4_begin ml_X6_173 (bookAt_c (b := 0) (bk := 0) (dr := 0) (it := 0) hit).laws.o dX6_readLaw_76 rfl rfl (roomOk rfl) rfl) rfl rfl ?_
    intro I8
    refine T_aload_n hok 1 rfl rfl dX6_readLaw_79 ?_
    refine T_cz1 (CR_V (rest := []) hok (ct_X6_readFormula hA hit I8 J) mw_X6_readFormula mv_X6_readFormula ml_X6_174 lc_34 dX6_readLaw_80 rfl rfl (roomOk rfl) rfl) rfl rfl ?_
    intro x9 I10
    refine T_ifb_ne (tgt := 88) hok dX6_readLaw_83 rfl ?_ ?_
    · refine T_aload_n hok 1 rfl rfl dX6_readLaw_88 ?_
      refine T_getR hok fr_X6_30 lc_34 rc_34_7 dX6_readLaw_89 ?_
      refine T_getR hok fr_X6_166 (bookAt_c (b := 0) (bk := 0) (dr := 0) (it := 0) hit).o (bookAt_c hit).r10 dX6_readLaw_92 ?_
      refine T_iload_n hok 0 rfl rfl dX6_readLaw_95 ?_
      refine T_cv1 (CR_V (rest := []) hok (ct_X4_end hA (bookAt_c hit).laws I10 J x4) mw_X4_end mv_X4_end ml_X6_177 (bookAt_c (b := 0) (bk := 0) (dr := 0) (it := 0) hit).laws.o dX6_readLaw_96 rfl rfl (roomOk rfl) rfl) rfl rfl ?_
      intro I11
      refine T_iconst hok ic_1 dX6_readLaw_99 ?_
      exact T_zret hok dX6_readLaw_100 (Nat.zero_le _) (Nat.zero_le _) rfl rfl
    refine T_iconst hok ic_0 dX6_readLaw_86 ?_
    exact T_zret hok dX6_readLaw_87 (Nat.zero_le _) (Nat.zero_le _) rfl rfl
  exact hj31

set_option maxHeartbeats 4000000 in
set_option maxRecDepth 100000 in
theorem ct_X6_readLine {G : Gx} {l0 : Launch} {A : Nat → Prop} {b bk dr it : Nat} (hA : ∀ k, k < Lc.length → A (b + k)) (hit : isBk it = true) (I : MI) (J : MJ) : Ct G l0 A yX6_readLine cX6_readLine 1 (some .boolean) { frames := 5, cells := 0, slots := 0, locals := 109 } [.ref (b + 34)] (Rg G b Lc (Rc b bk dr it) I J) (iz1 (fun (I' : MI) => Rg G b Lc (Rc b bk dr it) I' J)) (f_X6_readLine it I) := by
  refine Ct.of rfl (Nat.le_of_ble_eq_true rfl) ?_
  intro X hok
  replace hok : Ok G l0 X RX6 cX6_readLine 1 { frames := 5, cells := 0, slots := 0, locals := 109 } (some .boolean) := hok
  delta f_X6_readLine
  show T X A (Zm X A (iz1 (fun (I' : MI) => Rg G b Lc (Rc b bk dr it) I' J))) 1 0 0 0 [(0, .ref (b + 34))] [] (Rg G b Lc (Rc b bk dr it) I J) _
  refine T_aload_n hok 0 rfl rfl dX6_readLine_0 ?_
  refine T_getR hok fr_X6_26 lc_34 rc_34_0 dX6_readLine_1 ?_
  refine T_getI hok fr_X6_52 lc_36 dX6_readLine_4 ?_
  refine T_swc (fun hx0 => ?_) (fun hx0 => ?_)
  · refine T_tin (tgt := 48) hok hx0 dX6_readLine_7 (by decide) (by decide) rfl rfl ?_
    refine T_aload_n hok 0 rfl rfl dX6_readLine_48 ?_
    refine T_cz1 (CR_V (rest := []) hok (ct_X6_readKind hA hit I J) mw_X6_readKind mv_X6_readKind ml_X6_62 lc_34 dX6_readLine_49 rfl rfl (roomOk rfl) rfl) rfl rfl ?_
    intro x1 I2
    refine T_jp _ (fun (j67 : Bool → MI → Option (Bool × MI)) => ∀ (x3 : Bool) (I4 : MI), T X A (Zm X A (iz1 (fun (I' : MI) => Rg G b Lc (Rc b bk dr it) I' J))) 1 0 0 67 [] [.int (bi x3)] (Rg G b Lc (Rc b bk dr it) I4 J) (j67 x3 I4)) _ ?_ ?_
    · intro x3 I4
      exact T_zret hok dX6_readLine_67 (Nat.zero_le _) (Nat.zero_le _) (bi_01 _) rfl
    intro j67 hj67
    refine T_jp _ (fun (j66 : MI → Option (Bool × MI)) => ∀ (I5 : MI), T X A (Zm X A (iz1 (fun (I' : MI) => Rg G b Lc (Rc b bk dr it) I' J))) 1 0 0 66 [] [] (Rg G b Lc (Rc b bk dr it) I5 J) (j66 I5)) _ ?_ ?_
    · intro I5
      refine T_iconst hok ic_0 dX6_readLine_66 ?_
      exact hj67 false I5
    intro j66 hj66
    refine T_ifb_eq (tgt := 66) hok dX6_readLine_52 rfl ?_ ?_
    · refine T_aload_n hok 0 rfl rfl dX6_readLine_55 ?_
      refine T_cz1 (CR_V (rest := []) hok (ct_X6_isEnd hA I2 J) mw_X6_isEnd mv_X6_isEnd ml_X6_65 lc_34 dX6_readLine_56 rfl rfl (roomOk rfl) rfl) rfl rfl ?_
      intro x6 I7
      refine T_ifb_eq (tgt := 66) hok dX6_readLine_59 rfl ?_ ?_
      · refine T_iconst hok ic_1 dX6_readLine_62 ?_
        refine T_goto (tgt := 67) hok dX6_readLine_63 rfl ?_
        refine T_sub (lv' := []) [] rfl ?_
        exact hj67 true I7
      refine T_sub (lv' := []) [] rfl ?_
      exact hj66 I7
    refine T_sub (lv' := []) [] rfl ?_
    exact hj66 I2
  refine T_swc (fun hx1 => ?_) (fun hx1 => ?_)
  · refine T_tin (tgt := 68) hok hx1 dX6_readLine_7 (by decide) (by decide) rfl rfl ?_
    refine T_aload_n hok 0 rfl rfl dX6_readLine_68 ?_
    refine T_cz1 (CR_V (rest := []) hok (ct_X6_readHouse hA hit I J) mw_X6_readHouse mv_X6_readHouse ml_X6_68 lc_34 dX6_readLine_69 rfl rfl (roomOk rfl) rfl) rfl rfl ?_
    intro x8 I9
    refine T_jp _ (fun (j87 : Bool → MI → Option (Bool × MI)) => ∀ (x10 : Bool) (I11 : MI), T X A (Zm X A (iz1 (fun (I' : MI) => Rg G b Lc (Rc b bk dr it) I' J))) 1 0 0 87 [] [.int (bi x10)] (Rg G b Lc (Rc b bk dr it) I11 J) (j87 x10 I11)) _ ?_ ?_
    · intro x10 I11
      exact T_zret hok dX6_readLine_87 (Nat.zero_le _) (Nat.zero_le _) (bi_01 _) rfl
    intro j87 hj87
    refine T_jp _ (fun (j86 : MI → Option (Bool × MI)) => ∀ (I12 : MI), T X A (Zm X A (iz1 (fun (I' : MI) => Rg G b Lc (Rc b bk dr it) I' J))) 1 0 0 86 [] [] (Rg G b Lc (Rc b bk dr it) I12 J) (j86 I12)) _ ?_ ?_
    · intro I12
      refine T_iconst hok ic_0 dX6_readLine_86 ?_
      exact hj87 false I12
    intro j86 hj86
    refine T_ifb_eq (tgt := 86) hok dX6_readLine_72 rfl ?_ ?_
    · refine T_aload_n hok 0 rfl rfl dX6_readLine_75 ?_
      refine T_cz1 (CR_V (rest := []) hok (ct_X6_isEnd hA I9 J) mw_X6_isEnd mv_X6_isEnd ml_X6_65 lc_34 dX6_readLine_76 rfl rfl (roomOk rfl) rfl) rfl rfl ?_
      intro x13 I14
      refine T_ifb_eq (tgt := 86) hok dX6_readLine_79 rfl ?_ ?_
      · refine T_iconst hok ic_1 dX6_readLine_82 ?_
        refine T_goto (tgt := 87) hok dX6_readLine_83 rfl ?_
        refine T_sub (lv' := []) [] rfl ?_
        exact hj87 true I14
      refine T_sub (lv' := []) [] rfl ?_
      exact hj86 I14
    refine T_sub (lv' := []) [] rfl ?_
    exact hj86 I9
  refine T_swc (fun hx2 => ?_) (fun hx2 => ?_)
  · refine T_tin (tgt := 88) hok hx2 dX6_readLine_7 (by decide) (by decide) rfl rfl ?_
    refine T_aload_n hok 0 rfl rfl dX6_readLine_88 ?_
    refine T_cz1 (CR_V (rest := []) hok (ct_X6_readDay hA hit I J) mw_X6_readDay mv_X6_readDay ml_X6_71 lc_34 dX6_readLine_89 rfl rfl (roomOk rfl) rfl) rfl rfl ?_
    intro x15 I16
    refine T_jp _ (fun (j107 : Bool → MI → Option (Bool × MI)) => ∀ (x17 : Bool) (I18 : MI), T X A (Zm X A (iz1 (fun (I' : MI) => Rg G b Lc (Rc b bk dr it) I' J))) 1 0 0 107 [] [.int (bi x17)] (Rg G b Lc (Rc b bk dr it) I18 J) (j107 x17 I18)) _ ?_ ?_
    · intro x17 I18
      exact T_zret hok dX6_readLine_107 (Nat.zero_le _) (Nat.zero_le _) (bi_01 _) rfl
    intro j107 hj107
    refine T_jp _ (fun (j106 : MI → Option (Bool × MI)) => ∀ (I19 : MI), T X A (Zm X A (iz1 (fun (I' : MI) => Rg G b Lc (Rc b bk dr it) I' J))) 1 0 0 106 [] [] (Rg G b Lc (Rc b bk dr it) I19 J) (j106 I19)) _ ?_ ?_
    · intro I19
      refine T_iconst hok ic_0 dX6_readLine_106 ?_
      exact hj107 false I19
    intro j106 hj106
    refine T_ifb_eq (tgt := 106) hok dX6_readLine_92 rfl ?_ ?_
    · refine T_aload_n hok 0 rfl rfl dX6_readLine_95 ?_
      refine T_cz1 (CR_V (rest := []) hok (ct_X6_isEnd hA I16 J) mw_X6_isEnd mv_X6_isEnd ml_X6_65 lc_34 dX6_readLine_96 rfl rfl (roomOk rfl) rfl) rfl rfl ?_
      intro x20 I21
      refine T_ifb_eq (tgt := 106) hok dX6_readLine_99 rfl ?_ ?_
      · refine T_iconst hok ic_1 dX6_readLine_102 ?_
        refine T_goto (tgt := 107) hok dX6_readLine_103 rfl ?_
        refine T_sub (lv' := []) [] rfl ?_
        exact hj107 true I21
      refine T_sub (lv' := []) [] rfl ?_
      exact hj106 I21
    refine T_sub (lv' := []) [] rfl ?_
    exact hj106 I16
  refine T_swc (fun hx3 => ?_) (fun hx3 => ?_)
  · refine T_tin (tgt := 108) hok hx3 dX6_readLine_7 (by decide) (by decide) rfl rfl ?_
    refine T_aload_n hok 0 rfl rfl dX6_readLine_108 ?_
    refine T_cz1 (CR_V (rest := []) hok (ct_X6_readWork hA hit I J) mw_X6_readWork mv_X6_readWork ml_X6_74 lc_34 dX6_readLine_109 rfl rfl (roomOk rfl) rfl) rfl rfl ?_
    intro x22 I23
    refine T_jp _ (fun (j127 : Bool → MI → Option (Bool × MI)) => ∀ (x24 : Bool) (I25 : MI), T X A (Zm X A (iz1 (fun (I' : MI) => Rg G b Lc (Rc b bk dr it) I' J))) 1 0 0 127 [] [.int (bi x24)] (Rg G b Lc (Rc b bk dr it) I25 J) (j127 x24 I25)) _ ?_ ?_
    · intro x24 I25
      exact T_zret hok dX6_readLine_127 (Nat.zero_le _) (Nat.zero_le _) (bi_01 _) rfl
    intro j127 hj127
    refine T_jp _ (fun (j126 : MI → Option (Bool × MI)) => ∀ (I26 : MI), T X A (Zm X A (iz1 (fun (I' : MI) => Rg G b Lc (Rc b bk dr it) I' J))) 1 0 0 126 [] [] (Rg G b Lc (Rc b bk dr it) I26 J) (j126 I26)) _ ?_ ?_
    · intro I26
      refine T_iconst hok ic_0 dX6_readLine_126 ?_
      exact hj127 false I26
    intro j126 hj126
    refine T_ifb_eq (tgt := 126) hok dX6_readLine_112 rfl ?_ ?_
    · refine T_aload_n hok 0 rfl rfl dX6_readLine_115 ?_
      refine T_cz1 (CR_V (rest := []) hok (ct_X6_isEnd hA I23 J) mw_X6_isEnd mv_X6_isEnd ml_X6_65 lc_34 dX6_readLine_116 rfl rfl (roomOk rfl) rfl) rfl rfl ?_
      intro x27 I28
      refine T_ifb_eq (tgt := 126) hok dX6_readLine_119 rfl ?_ ?_
      · refine T_iconst hok ic_1 dX6_readLine_122 ?_
        refine T_goto (tgt := 127) hok dX6_readLine_123 rfl ?_
        refine T_sub (lv' := []) [] rfl ?_
        exact hj127 true I28
      refine T_sub (lv' := []) [] rfl ?_
      exact hj126 I28
    refine T_sub (lv' := []) [] rfl ?_
    exact hj126 I23
  refine T_swc (fun hx4 => ?_) (fun hx4 => ?_)
  · refine T_tin (tgt := 128) hok hx4 dX6_readLine_7 (by decide) (by decide) rfl rfl ?_
    refine T_aload_n hok 0 rfl rfl dX6_readLine_128 ?_
    refine T_cz1 (CR_V (rest := []) hok (ct_X6_readTerm hA hit I J) mw_X6_readTerm mv_X6_readTerm ml_X6_77 lc_34 dX6_readLine_129 rfl rfl (roomOk rfl) rfl) rfl rfl ?_
    intro x29 I30
    refine T_jp _ (fun (j147 : Bool → MI → Option (Bool × MI)) => ∀ (x31 : Bool) (I32 : MI), T X A (Zm X A (iz1 (fun (I' : MI) => Rg G b Lc (Rc b bk dr it) I' J))) 1 0 0 147 [] [.int (bi x31)] (Rg G b Lc (Rc b bk dr it) I32 J) (j147 x31 I32)) _ ?_ ?_
    · intro x31 I32
      exact T_zret hok dX6_readLine_147 (Nat.zero_le _) (Nat.zero_le _) (bi_01 _) rfl
    intro j147 hj147
    refine T_jp _ (fun (j146 : MI → Option (Bool × MI)) => ∀ (I33 : MI), T X A (Zm X A (iz1 (fun (I' : MI) => Rg G b Lc (Rc b bk dr it) I' J))) 1 0 0 146 [] [] (Rg G b Lc (Rc b bk dr it) I33 J) (j146 I33)) _ ?_ ?_
    · intro I33
      refine T_iconst hok ic_0 dX6_readLine_146 ?_
      exact hj147 false I33
    intro j146 hj146
    refine T_ifb_eq (tgt := 146) hok dX6_readLine_132 rfl ?_ ?_
    · refine T_aload_n hok 0 rfl rfl dX6_readLine_135 ?_
      refine T_cz1 (CR_V (rest := []) hok (ct_X6_isEnd hA I30 J) mw_X6_isEnd mv_X6_isEnd ml_X6_65 lc_34 dX6_readLine_136 rfl rfl (roomOk rfl) rfl) rfl rfl ?_
      intro x34 I35
      refine T_ifb_eq (tgt := 146) hok dX6_readLine_139 rfl ?_ ?_
      · refine T_iconst hok ic_1 dX6_readLine_142 ?_
        refine T_goto (tgt := 147) hok dX6_readLine_143 rfl ?_
        refine T_sub (lv' := []) [] rfl ?_
        exact hj147 true I35
      refine T_sub (lv' := []) [] rfl ?_
      exact hj146 I35
    refine T_sub (lv' := []) [] rfl ?_
    exact hj146 I30
  refine T_swc (fun hx5 => ?_) (fun hx5 => ?_)
  · refine T_tin (tgt := 148) hok hx5 dX6_readLine_7 (by decide) (by decide) rfl rfl ?_
    refine T_aload_n hok 0 rfl rfl dX6_readLine_148 ?_
    refine T_cz1 (CR_V (rest := []) hok (ct_X6_readSeed hA hit I J) mw_X6_readSeed mv_X6_readSeed ml_X6_80 lc_34 dX6_readLine_149 rfl rfl (roomOk rfl) rfl) rfl rfl ?_
    intro x36 I37
    refine T_jp _ (fun (j167 : Bool → MI → Option (Bool × MI)) => ∀ (x38 : Bool) (I39 : MI), T X A (Zm X A (iz1 (fun (I' : MI) => Rg G b Lc (Rc b bk dr it) I' J))) 1 0 0 167 [] [.int (bi x38)] (Rg G b Lc (Rc b bk dr it) I39 J) (j167 x38 I39)) _ ?_ ?_
    · intro x38 I39
      exact T_zret hok dX6_readLine_167 (Nat.zero_le _) (Nat.zero_le _) (bi_01 _) rfl
    intro j167 hj167
    refine T_jp _ (fun (j166 : MI → Option (Bool × MI)) => ∀ (I40 : MI), T X A (Zm X A (iz1 (fun (I' : MI) => Rg G b Lc (Rc b bk dr it) I' J))) 1 0 0 166 [] [] (Rg G b Lc (Rc b bk dr it) I40 J) (j166 I40)) _ ?_ ?_
    · intro I40
      refine T_iconst hok ic_0 dX6_readLine_166 ?_
      exact hj167 false I40
    intro j166 hj166
    refine T_ifb_eq (tgt := 166) hok dX6_readLine_152 rfl ?_ ?_
    · refine T_aload_n hok 0 rfl rfl dX6_readLine_155 ?_
      refine T_cz1 (CR_V (rest := []) hok (ct_X6_isEnd hA I37 J) mw_X6_isEnd mv_X6_isEnd ml_X6_65 lc_34 dX6_readLine_156 rfl rfl (roomOk rfl) rfl) rfl rfl ?_
      intro x41 I42
      refine T_ifb_eq (tgt := 166) hok dX6_readLine_159 rfl ?_ ?_
      · refine T_iconst hok ic_1 dX6_readLine_162 ?_
        refine T_goto (tgt := 167) hok dX6_readLine_163 rfl ?_
        refine T_sub (lv' := []) [] rfl ?_
        exact hj167 true I42
      refine T_sub (lv' := []) [] rfl ?_
      exact hj166 I42
    refine T_sub (lv' := []) [] rfl ?_
    exact hj166 I37
  refine T_swc (fun hx6 => ?_) (fun hx6 => ?_)
  · refine T_tin (tgt := 168) hok hx6 dX6_readLine_7 (by decide) (by decide) rfl rfl ?_
    refine T_aload_n hok 0 rfl rfl dX6_readLine_168 ?_
    refine T_cz1 (CR_V (rest := []) hok (ct_X6_readLaw hA hit I J) mw_X6_readLaw mv_X6_readLaw ml_X6_83 lc_34 dX6_readLine_169 rfl rfl (roomOk rfl) rfl) rfl rfl ?_
    intro x43 I44
    exact T_zret hok dX6_readLine_172 (Nat.zero_le _) (Nat.zero_le _) (bi_01 _) rfl
  refine T_swd ?_
  have nhx0 := toInt_ne (n := 0) rfl hx0
  have nhx1 := toInt_ne (n := 1) rfl hx1
  have nhx2 := toInt_ne (n := 2) rfl hx2
  have nhx3 := toInt_ne (n := 3) rfl hx3
  have nhx4 := toInt_ne (n := 4) rfl hx4
  have nhx5 := toInt_ne (n := 5) rfl hx5
  have nhx6 := toInt_ne (n := 6) rfl hx6
  refine T_tdf (tgt := 173) (n := 7) hok dX6_readLine_7 rfl (fun j hj he => ?_) rfl ?_
  · rcases (show j = 0 ∨ j = 1 ∨ j = 2 ∨ j = 3 ∨ j = 4 ∨ j = 5 ∨ j = 6 by omega) with rfl | rfl | rfl | rfl | rfl | rfl | rfl <;> first | rfl | (exfalso; omega)
  refine T_aload_n hok 0 rfl rfl dX6_readLine_173 ?_
  refine T_iconst hok ic_1 dX6_readLine_174 ?_
  refine T_cz1 (CR_V (rest := []) hok (ct_X6_fails hA I J (1 : Int32)) mw_X6_fails mv_X6_fails ml_X6_86 lc_34 dX6_readLine_175 rfl rfl (roomOk rfl) rfl) rfl rfl ?_
  intro x45 I46
  exact T_zret hok dX6_readLine_178 (Nat.zero_le _) (Nat.zero_le _) (bi_01 _) rfl

set_option maxHeartbeats 4000000 in
set_option maxRecDepth 100000 in
theorem ct_X6_read {G : Gx} {l0 : Launch} {A : Nat → Prop} {b bk dr it : Nat} {pb : Nat} (hA : ∀ k, k < Lc.length → A (b + k)) (hit : isBk it = true) (hpb : isBk pb = true) (I : MI) (J : MJ) (a1 : Int32) : Ct G l0 A yX6_read cX6_read 3 (some .boolean) { frames := 6, cells := 0, slots := 0, locals := 129 } [.ref (b + 34), .int a1, .ref (b + pb)] (Rg G b Lc (Rc b bk dr it) I J) (iz2 (fun (it' : Nat) (I' : MI) => Rg G b Lc (Rc b bk dr it') I' J)) (f_X6_read it I a1 pb) := by
  refine Ct.of rfl (Nat.le_of_ble_eq_true rfl) ?_
  intro X hok
  replace hok : Ok G l0 X RX6 cX6_read 3 { frames := 6, cells := 0, slots := 0, locals := 129 } (some .boolean) := hok
  delta f_X6_read
  show T X A (Zm X A (iz2 (fun (it' : Nat) (I' : MI) => Rg G b Lc (Rc b bk dr it') I' J))) 3 0 0 0 [(0, .ref (b + 34)), (1, .int a1), (2, .ref (b + pb))] [] (Rg G b Lc (Rc b bk dr it) I J) _
  refine T_aload_n hok 0 rfl rfl dX6_read_0 ?_
  refine T_aload_n hok 2 rfl rfl dX6_read_1 ?_
  refine T_putR (R' := Rc b bk dr pb) hok hA fr_X6_30 rfl lc_34 rfl rfl rfl rp_it_k rp_it_p dX6_read_2 ?_
  refine T_aload_n hok 0 rfl rfl dX6_read_5 ?_
  refine T_getR hok fr_X6_30 lc_34 rc_34_7 dX6_read_6 ?_
  refine T_cv1 (CR_V (rest := []) hok (ct_X0_clear hA (bookAt_c hpb) I J) mw_X0_clear mv_X0_clear ml_X6_34 (bookAt_c (b := 0) (bk := 0) (dr := 0) (it := 0) hpb).o dX6_read_9 rfl rfl (roomOk rfl) rfl) rfl rfl ?_
  intro I1
  refine T_aload_n hok 0 rfl rfl dX6_read_12 ?_
  refine T_getR hok fr_X6_26 lc_34 rc_34_0 dX6_read_13 ?_
  refine T_iload_n hok 1 rfl rfl dX6_read_16 ?_
  refine T_cv1 (CR_V (rest := []) hok (ct_X7_begin hA I1 J a1) mw_X7_begin mv_X7_begin ml_X6_39 lc_36 dX6_read_17 rfl rfl (roomOk rfl) rfl) rfl rfl ?_
  intro I2
  refine T_aload_n hok 0 rfl rfl dX6_read_20 ?_
  refine T_iconst hok ic_0 dX6_read_21 ?_
  refine T_putI hok hA fr_X6_43 rfl rfl lc_34 dX6_read_22 ?_
  intro I3
  refine T_aload_n hok 0 rfl rfl dX6_read_25 ?_
  refine T_iconst hok ic_0 dX6_read_26 ?_
  refine T_putI hok hA fr_X6_46 rfl rfl lc_34 dX6_read_27 ?_
  intro I4
  refine T_aload_n hok 0 rfl rfl dX6_read_30 ?_
  refine T_iconst hok ic_m1 dX6_read_31 ?_
  refine T_putI hok hA fr_X6_17 rfl rfl lc_34 dX6_read_32 ?_
  intro I5
  refine T_aload_n hok 0 rfl rfl dX6_read_35 ?_
  refine T_getR hok fr_X6_26 lc_34 rc_34_0 dX6_read_36 ?_
  refine T_cv1 (CR_V (rest := []) hok (ct_X7_step hA I5 J) mw_X7_step mv_X7_step ml_X6_49 lc_36 dX6_read_39 rfl rfl (roomOk rfl) rfl) rfl rfl ?_
  intro I6
  refine T_jp _ (fun (j93 : MI → Option (Bool × Nat × MI)) => ∀ (I7 : MI), T X A (Zm X A (iz2 (fun (it' : Nat) (I' : MI) => Rg G b Lc (Rc b bk dr it') I' J))) 3 0 0 93 [(0, .ref (b + 34))] [] (Rg G b Lc (Rc b bk dr pb) I7 J) (j93 I7)) _ ?_ ?_
  · intro I7
    refine T_aload_n hok 0 rfl rfl dX6_read_93 ?_
    refine T_getR hok fr_X6_30 lc_34 rc_34_7 dX6_read_94 ?_
    refine T_cv1 (CR_V (rest := []) hok (ct_X0_settle hA (bookAt_c hpb) I7 J) mw_X0_settle mv_X0_settle ml_X6_59 (bookAt_c (b := 0) (bk := 0) (dr := 0) (it := 0) hpb).o dX6_read_97 rfl rfl (roomOk rfl) rfl) rfl rfl ?_
    intro I8
    refine T_iconst hok ic_1 dX6_read_100 ?_
    exact T_zret hok dX6_read_101 (Nat.zero_le _) (Nat.zero_le _) rfl rfl
  intro j93 hj93
  refine T_sub (lv' := [(0, .ref (b + 34))]) [0] rfl ?_
  refine T_fix1 _ (fun (I9 : MI) => [(0, .ref (b + 34))]) (fun (I9 : MI) => Rg G b Lc (Rc b bk dr pb) I9 J) ?_ FU I6
  intro r42 hr42 I9
  refine T_aload_n hok 0 rfl rfl dX6_read_42 ?_
  refine T_getR hok fr_X6_26 lc_34 rc_34_0 dX6_read_43 ?_
  refine T_getI hok fr_X6_52 lc_36 dX6_read_46 ?_
  refine T_bipush hok bp_35 dX6_read_49 ?_
  refine T_icmp_eq (tgt := 93) hok dX6_read_51 rfl ?_ ?_
  · exact hj93 I9
  refine T_aload_n hok 0 rfl rfl dX6_read_54 ?_
  refine T_getI hok fr_X6_43 lc_34 dX6_read_55 ?_
  refine T_sipush hok sp_700 dX6_read_58 ?_
  refine T_icmp_ge (tgt := 93) hok dX6_read_61 rfl ?_ ?_
  · exact hj93 I9
  refine T_aload_n hok 0 rfl rfl dX6_read_64 ?_
  refine T_cz1 (CR_V (rest := []) hok (ct_X6_readLine hA hpb I9 J) mw_X6_readLine mv_X6_readLine ml_X6_55 lc_34 dX6_read_65 rfl rfl (roomOk rfl) rfl) rfl rfl ?_
  intro x10 I11
  refine T_ifb_ne (tgt := 73) hok dX6_read_68 rfl ?_ ?_
  · refine T_aload_n hok 0 rfl rfl dX6_read_73 ?_
    refine T_dup hok rfl dX6_read_74 ?_
    refine T_getI hok fr_X6_43 lc_34 dX6_read_75 ?_
    refine T_iconst hok ic_1 dX6_read_78 ?_
    refine T_iadd hok dX6_read_79 ?_
    refine T_putI hok hA fr_X6_43 rfl rfl lc_34 dX6_read_80 ?_
    intro I12
    refine T_aload_n hok 0 rfl rfl dX6_read_83 ?_
    refine T_getR hok fr_X6_26 lc_34 rc_34_0 dX6_read_84 ?_
    refine T_cv1 (CR_V (rest := []) hok (ct_X7_step hA I12 J) mw_X7_step mv_X7_step ml_X6_49 lc_36 dX6_read_87 rfl rfl (roomOk rfl) rfl) rfl rfl ?_
    intro I13
    refine T_goto (tgt := 42) hok dX6_read_90 rfl ?_
    exact hr42 I13
  refine T_iconst hok ic_0 dX6_read_71 ?_
  exact T_zret hok dX6_read_72 (Nat.zero_le _) (Nat.zero_le _) rfl rfl

set_option maxHeartbeats 4000000 in
set_option maxRecDepth 100000 in
theorem ct_X8_start {G : Gx} {l0 : Launch} {A : Nat → Prop} {b : Nat} {L : List Kd} {R : MR} {pt pb : Nat} (hA : ∀ k, k < L.length → A (b + k)) (hpt : TownAt b L R pt) (hpb : BookAt b L R pb) (I : MI) (J : MJ) : Ct G l0 A yX8_start cX8_start 3 none { frames := 0, cells := 0, slots := 0, locals := 0 } [.ref (b + pt), .ref (b + pb)] (Rg G b L R I J) (iv1 (fun (I' : MI) => Rg G b L R I' J)) (f_X8_start I pt pb) := by
  refine Ct.of rfl (Nat.le_of_ble_eq_true rfl) ?_
  intro X hok
  replace hok : Ok G l0 X RX8 cX8_start 3 { frames := 0, cells := 0, slots := 0, locals := 0 } none := hok
  delta f_X8_start
  show T X A (Zm X A (iv1 (fun (I' : MI) => Rg G b L R I' J))) 3 0 0 0 [(0, .ref (b + pt)), (1, .ref (b + pb))] [] (Rg G b L R I J) _
  refine T_iconst hok ic_0 dX8_start_0 ?_
  refine T_istore_n (lv' := [(2, .int (0 : Int32)), (0, .ref (b + pt)), (1, .ref (b + pb))]) hok rfl (by decide) rfl dX8_start_1 ?_
  refine T_jp _ (fun (j80 : MI → Option (MI)) => ∀ (I1 : MI), T X A (Zm X A (iv1 (fun (I' : MI) => Rg G b L R I' J))) 3 0 0 80 [(0, .ref (b + pt)), (1, .ref (b + pb))] [] (Rg G b L R I1 J) (j80 I1)) _ ?_ ?_
  · intro I1
    refine T_aload_n hok 0 rfl rfl dX8_start_80 ?_
    refine T_iconst hok ic_0 dX8_start_81 ?_
    refine T_putI hok hA fr_X8_44 rfl rfl hpt.o dX8_start_82 ?_
    intro I2
    refine T_aload_n hok 0 rfl rfl dX8_start_85 ?_
    refine T_iconst hok ic_0 dX8_start_86 ?_
    refine T_putI hok hA fr_X8_47 rfl rfl hpt.o dX8_start_87 ?_
    intro I3
    refine T_aload_n hok 0 rfl rfl dX8_start_90 ?_
    refine T_iconst hok ic_m1 dX8_start_91 ?_
    refine T_putI hok hA fr_X8_34 rfl rfl hpt.o dX8_start_92 ?_
    intro I4
    refine T_aload_n hok 0 rfl rfl dX8_start_95 ?_
    refine T_aload_n hok 1 rfl rfl dX8_start_96 ?_
    refine T_getI hok fr_X8_50 hpb.o dX8_start_97 ?_
    refine T_putI hok hA fr_X8_53 rfl rfl hpt.o dX8_start_100 ?_
    intro I5
    exact T_vret hok dX8_start_103 (Nat.zero_le _) (Nat.zero_le _) rfl
  intro j80 hj80
  refine T_sub (lv' := [(0, .ref (b + pt)), (1, .ref (b + pb)), (2, .int (0 : Int32))]) [1, 2, 0] rfl ?_
  refine T_fix2 _ (fun (x6 : Int32) (I7 : MI) => [(0, .ref (b + pt)), (1, .ref (b + pb)), (2, .int x6)]) (fun (x6 : Int32) (I7 : MI) => Rg G b L R I7 J) ?_ FU (0 : Int32) I
  intro r2 hr2 x6 I7
  refine T_iload_n hok 2 rfl rfl dX8_start_2 ?_
  refine T_bipush hok bp_6 dX8_start_3 ?_
  refine T_icmp_ge (tgt := 80) hok dX8_start_5 rfl ?_ ?_
  · refine T_sub (lv' := [(0, .ref (b + pt)), (1, .ref (b + pb))]) [0, 1] rfl ?_
    exact hj80 I7
  refine T_aload_n hok 0 rfl rfl dX8_start_8 ?_
  refine T_getR hok fr_X8_9 hpt.o hpt.r0 dX8_start_9 ?_
  refine T_iload_n hok 2 rfl rfl dX8_start_12 ?_
  refine T_iload_n hok 2 rfl rfl dX8_start_13 ?_
  refine T_aload_n hok 1 rfl rfl dX8_start_14 ?_
  refine T_getI hok fr_X8_38 hpb.o dX8_start_15 ?_
  refine T_jp _ (fun (j31 : Int32 → Int32 → Option (MI)) => ∀ (x8 : Int32) (x9 : Int32), T X A (Zm X A (iv1 (fun (I' : MI) => Rg G b L R I' J))) 3 0 0 31 [(0, .ref (b + pt)), (1, .ref (b + pb)), (2, .int x6)] [.int x8, .int x9, .ref (b + (pt + 1))] (Rg G b L R I7 J) (j31 x8 x9)) _ ?_ ?_
  · intro x8 x9
    refine T_iast hok hA hpt.l0 dX8_start_31 ?_
    intro I10
    refine T_aload_n hok 0 rfl rfl dX8_start_32 ?_
    refine T_getR hok fr_X8_15 hpt.o hpt.r1 dX8_start_33 ?_
    refine T_iload_n hok 2 rfl rfl dX8_start_36 ?_
    refine T_iconst hok ic_0 dX8_start_37 ?_
    refine T_iast hok hA hpt.l1 dX8_start_38 ?_
    intro I11
    refine T_aload_n hok 0 rfl rfl dX8_start_39 ?_
    refine T_getR hok fr_X8_18 hpt.o hpt.r2 dX8_start_40 ?_
    refine T_iload_n hok 2 rfl rfl dX8_start_43 ?_
    refine T_iconst hok ic_0 dX8_start_44 ?_
    refine T_iast hok hA hpt.l2 dX8_start_45 ?_
    intro I12
    refine T_aload_n hok 0 rfl rfl dX8_start_46 ?_
    refine T_getR hok fr_X8_21 hpt.o hpt.r3 dX8_start_47 ?_
    refine T_iload_n hok 2 rfl rfl dX8_start_50 ?_
    refine T_iconst hok ic_0 dX8_start_51 ?_
    refine T_iast hok hA hpt.l3 dX8_start_52 ?_
    intro I13
    refine T_aload_n hok 0 rfl rfl dX8_start_53 ?_
    refine T_getR hok fr_X8_24 hpt.o hpt.r4 dX8_start_54 ?_
    refine T_iload_n hok 2 rfl rfl dX8_start_57 ?_
    refine T_iconst hok ic_0 dX8_start_58 ?_
    refine T_zast hok hA hpt.l4 dX8_start_59 ?_
    intro I14
    refine T_aload_n hok 0 rfl rfl dX8_start_60 ?_
    refine T_getR hok fr_X8_28 hpt.o hpt.r5 dX8_start_61 ?_
    refine T_iload_n hok 2 rfl rfl dX8_start_64 ?_
    refine T_iconst hok ic_0 dX8_start_65 ?_
    refine T_zast hok hA hpt.l5 dX8_start_66 ?_
    intro I15
    refine T_aload_n hok 0 rfl rfl dX8_start_67 ?_
    refine T_getR hok fr_X8_31 hpt.o hpt.r6 dX8_start_68 ?_
    refine T_iload_n hok 2 rfl rfl dX8_start_71 ?_
    refine T_iconst hok ic_0 dX8_start_72 ?_
    refine T_iast hok hA hpt.l6 dX8_start_73 ?_
    intro I16
    refine T_iinc (lvs := fun x17 => [(2, .int x17), (0, .ref (b + pt)), (1, .ref (b + pb))]) hok 2 rfl ic_1 (by decide) (fun _ => rfl) dX8_start_74 ?_
    intro x17
    refine T_goto (tgt := 2) hok dX8_start_77 rfl ?_
    refine T_sub (lv' := [(0, .ref (b + pt)), (1, .ref (b + pb)), (2, .int x17)]) [1, 2, 0] rfl ?_
    exact hr2 x17 I16
  intro j31 hj31
  refine T_icmp_ge (tgt := 30) hok dX8_start_18 rfl ?_ ?_
  · refine T_iconst hok ic_0 dX8_start_30 ?_
    exact hj31 (0 : Int32) x6
  refine T_aload_n hok 1 rfl rfl dX8_start_21 ?_
  refine T_getR hok fr_X8_43 hpb.o hpb.r4 dX8_start_22 ?_
  refine T_iload_n hok 2 rfl rfl dX8_start_25 ?_
  refine T_iald hok hpb.l4 dX8_start_26 ?_
  refine T_goto (tgt := 31) hok dX8_start_27 rfl ?_
  exact hj31 (I7 (pb + 5) (ix x6)) x6

set_option maxHeartbeats 4000000 in
set_option maxRecDepth 100000 in
theorem ct_X8_takeFrom {G : Gx} {l0 : Launch} {A : Nat → Prop} {b : Nat} {L : List Kd} {R : MR} {pt po : Nat} (hA : ∀ k, k < L.length → A (b + k)) (hpt : TownAt b L R pt) (hpo : TownAt b L R po) (I : MI) (J : MJ) : Ct G l0 A yX8_takeFrom cX8_takeFrom 3 none { frames := 0, cells := 0, slots := 0, locals := 0 } [.ref (b + pt), .ref (b + po)] (Rg G b L R I J) (iv1 (fun (I' : MI) => Rg G b L R I' J)) (f_X8_takeFrom I pt po) := by
  refine Ct.of rfl (Nat.le_of_ble_eq_true rfl) ?_
  intro X hok
  replace hok : Ok G l0 X RX8 cX8_takeFrom 3 { frames := 0, cells := 0, slots := 0, locals := 0 } none := hok
  delta f_X8_takeFrom
  show T X A (Zm X A (iv1 (fun (I' : MI) => Rg G b L R I' J))) 3 0 0 0 [(0, .ref (b + pt)), (1, .ref (b + po))] [] (Rg G b L R I J) _
  refine T_iconst hok ic_0 dX8_takeFrom_0 ?_
  refine T_istore_n (lv' := [(2, .int (0 : Int32)), (0, .ref (b + pt)), (1, .ref (b + po))]) hok rfl (by decide) rfl dX8_takeFrom_1 ?_
  refine T_jp _ (fun (j98 : MI → Option (MI)) => ∀ (I1 : MI), T X A (Zm X A (iv1 (fun (I' : MI) => Rg G b L R I' J))) 3 0 0 98 [(0, .ref (b + pt)), (1, .ref (b + po))] [] (Rg G b L R I1 J) (j98 I1)) _ ?_ ?_
  · intro I1
    refine T_aload_n hok 0 rfl rfl dX8_takeFrom_98 ?_
    refine T_aload_n hok 1 rfl rfl dX8_takeFrom_99 ?_
    refine T_getI hok fr_X8_44 hpo.o dX8_takeFrom_100 ?_
    refine T_putI hok hA fr_X8_44 rfl rfl hpt.o dX8_takeFrom_103 ?_
    intro I2
    refine T_aload_n hok 0 rfl rfl dX8_takeFrom_106 ?_
    refine T_aload_n hok 1 rfl rfl dX8_takeFrom_107 ?_
    refine T_getI hok fr_X8_47 hpo.o dX8_takeFrom_108 ?_
    refine T_putI hok hA fr_X8_47 rfl rfl hpt.o dX8_takeFrom_111 ?_
    intro I3
    refine T_aload_n hok 0 rfl rfl dX8_takeFrom_114 ?_
    refine T_aload_n hok 1 rfl rfl dX8_takeFrom_115 ?_
    refine T_getI hok fr_X8_34 hpo.o dX8_takeFrom_116 ?_
    refine T_putI hok hA fr_X8_34 rfl rfl hpt.o dX8_takeFrom_119 ?_
    intro I4
    refine T_aload_n hok 0 rfl rfl dX8_takeFrom_122 ?_
    refine T_aload_n hok 1 rfl rfl dX8_takeFrom_123 ?_
    refine T_getI hok fr_X8_53 hpo.o dX8_takeFrom_124 ?_
    refine T_putI hok hA fr_X8_53 rfl rfl hpt.o dX8_takeFrom_127 ?_
    intro I5
    exact T_vret hok dX8_takeFrom_130 (Nat.zero_le _) (Nat.zero_le _) rfl
  intro j98 hj98
  refine T_sub (lv' := [(0, .ref (b + pt)), (1, .ref (b + po)), (2, .int (0 : Int32))]) [1, 2, 0] rfl ?_
  refine T_fix2 _ (fun (x6 : Int32) (I7 : MI) => [(0, .ref (b + pt)), (1, .ref (b + po)), (2, .int x6)]) (fun (x6 : Int32) (I7 : MI) => Rg G b L R I7 J) ?_ FU (0 : Int32) I
  intro r2 hr2 x6 I7
  refine T_iload_n hok 2 rfl rfl dX8_takeFrom_2 ?_
  refine T_bipush hok bp_6 dX8_takeFrom_3 ?_
  refine T_icmp_ge (tgt := 98) hok dX8_takeFrom_5 rfl ?_ ?_
  · refine T_sub (lv' := [(0, .ref (b + pt)), (1, .ref (b + po))]) [0, 1] rfl ?_
    exact hj98 I7
  refine T_aload_n hok 0 rfl rfl dX8_takeFrom_8 ?_
  refine T_getR hok fr_X8_9 hpt.o hpt.r0 dX8_takeFrom_9 ?_
  refine T_iload_n hok 2 rfl rfl dX8_takeFrom_12 ?_
  refine T_aload_n hok 1 rfl rfl dX8_takeFrom_13 ?_
  refine T_getR hok fr_X8_9 hpo.o hpo.r0 dX8_takeFrom_14 ?_
  refine T_iload_n hok 2 rfl rfl dX8_takeFrom_17 ?_
  refine T_iald hok hpo.l0 dX8_takeFrom_18 ?_
  refine T_iast hok hA hpt.l0 dX8_takeFrom_19 ?_
  intro I8
  refine T_aload_n hok 0 rfl rfl dX8_takeFrom_20 ?_
  refine T_getR hok fr_X8_15 hpt.o hpt.r1 dX8_takeFrom_21 ?_
  refine T_iload_n hok 2 rfl rfl dX8_takeFrom_24 ?_
  refine T_aload_n hok 1 rfl rfl dX8_takeFrom_25 ?_
  refine T_getR hok fr_X8_15 hpo.o hpo.r1 dX8_takeFrom_26 ?_
  refine T_iload_n hok 2 rfl rfl dX8_takeFrom_29 ?_
  refine T_iald hok hpo.l1 dX8_takeFrom_30 ?_
  refine T_iast hok hA hpt.l1 dX8_takeFrom_31 ?_
  intro I9
  refine T_aload_n hok 0 rfl rfl dX8_takeFrom_32 ?_
  refine T_getR hok fr_X8_18 hpt.o hpt.r2 dX8_takeFrom_33 ?_
  refine T_iload_n hok 2 rfl rfl dX8_takeFrom_36 ?_
  refine T_aload_n hok 1 rfl rfl dX8_takeFrom_37 ?_
  refine T_getR hok fr_X8_18 hpo.o hpo.r2 dX8_takeFrom_38 ?_
  refine T_iload_n hok 2 rfl rfl dX8_takeFrom_41 ?_
  refine T_iald hok hpo.l2 dX8_takeFrom_42 ?_
  refine T_iast hok hA hpt.l2 dX8_takeFrom_43 ?_
  intro I10
  refine T_aload_n hok 0 rfl rfl dX8_takeFrom_44 ?_
  refine T_getR hok fr_X8_21 hpt.o hpt.r3 dX8_takeFrom_45 ?_
  refine T_iload_n hok 2 rfl rfl dX8_takeFrom_48 ?_
  refine T_aload_n hok 1 rfl rfl dX8_takeFrom_49 ?_
  refine T_getR hok fr_X8_21 hpo.o hpo.r3 dX8_takeFrom_50 ?_
  refine T_iload_n hok 2 rfl rfl dX8_takeFrom_53 ?_
  refine T_iald hok hpo.l3 dX8_takeFrom_54 ?_
  refine T_iast hok hA hpt.l3 dX8_takeFrom_55 ?_
  intro I11
  refine T_aload_n hok 0 rfl rfl dX8_takeFrom_56 ?_
  refine T_getR hok fr_X8_24 hpt.o hpt.r4 dX8_takeFrom_57 ?_
  refine T_iload_n hok 2 rfl rfl dX8_takeFrom_60 ?_
  refine T_aload_n hok 1 rfl rfl dX8_takeFrom_61 ?_
  refine T_getR hok fr_X8_24 hpo.o hpo.r4 dX8_takeFrom_62 ?_
  refine T_iload_n hok 2 rfl rfl dX8_takeFrom_65 ?_
  refine T_zald hok hpo.l4 dX8_takeFrom_66 ?_
  refine T_zast hok hA hpt.l4 dX8_takeFrom_67 ?_
  intro I12
  refine T_aload_n hok 0 rfl rfl dX8_takeFrom_68 ?_
  refine T_getR hok fr_X8_28 hpt.o hpt.r5 dX8_takeFrom_69 ?_
  refine T_iload_n hok 2 rfl rfl dX8_takeFrom_72 ?_
  refine T_aload_n hok 1 rfl rfl dX8_takeFrom_73 ?_
  refine T_getR hok fr_X8_28 hpo.o hpo.r5 dX8_takeFrom_74 ?_
  refine T_iload_n hok 2 rfl rfl dX8_takeFrom_77 ?_
  refine T_zald hok hpo.l5 dX8_takeFrom_78 ?_
  refine T_zast hok hA hpt.l5 dX8_takeFrom_79 ?_
  intro I13
  refine T_aload_n hok 0 rfl rfl dX8_takeFrom_80 ?_
  refine T_getR hok fr_X8_31 hpt.o hpt.r6 dX8_takeFrom_81 ?_
  refine T_iload_n hok 2 rfl rfl dX8_takeFrom_84 ?_
  refine T_aload_n hok 1 rfl rfl dX8_takeFrom_85 ?_
  refine T_getR hok fr_X8_31 hpo.o hpo.r6 dX8_takeFrom_86 ?_
  refine T_iload_n hok 2 rfl rfl dX8_takeFrom_89 ?_
  refine T_iald hok hpo.l6 dX8_takeFrom_90 ?_
  refine T_iast hok hA hpt.l6 dX8_takeFrom_91 ?_
  intro I14
  refine T_iinc (lvs := fun x15 => [(2, .int x15), (0, .ref (b + pt)), (1, .ref (b + po))]) hok 2 rfl ic_1 (by decide) (fun _ => rfl) dX8_takeFrom_92 ?_
  intro x15
  refine T_goto (tgt := 2) hok dX8_takeFrom_95 rfl ?_
  refine T_sub (lv' := [(0, .ref (b + pt)), (1, .ref (b + po)), (2, .int x15)]) [1, 2, 0] rfl ?_
  exact hr2 x15 I14

set_option maxHeartbeats 4000000 in
set_option maxRecDepth 100000 in
theorem ct_X8_worthOf {G : Gx} {l0 : Launch} {A : Nat → Prop} {b : Nat} {L : List Kd} {R : MR} {pt : Nat} (hA : ∀ k, k < L.length → A (b + k)) (hpt : TownAt b L R pt) (I : MI) (J : MJ) (a1 : Int32) : Ct G l0 A yX8_worthOf cX8_worthOf 2 (some .int) { frames := 0, cells := 0, slots := 0, locals := 0 } [.ref (b + pt), .int a1] (Rg G b L R I J) (ii0 (Rg G b L R I J)) (f_X8_worthOf I pt a1) := by
  refine Ct.of rfl (Nat.le_of_ble_eq_true rfl) ?_
  intro X hok
  replace hok : Ok G l0 X RX8 cX8_worthOf 2 { frames := 0, cells := 0, slots := 0, locals := 0 } (some .int) := hok
  delta f_X8_worthOf
  show T X A (Zm X A (ii0 (Rg G b L R I J))) 2 0 0 0 [(0, .ref (b + pt)), (1, .int a1)] [] (Rg G b L R I J) _
  refine T_aload_n hok 0 rfl rfl dX8_worthOf_0 ?_
  refine T_getR hok fr_X8_9 hpt.o hpt.r0 dX8_worthOf_1 ?_
  refine T_iload_n hok 1 rfl rfl dX8_worthOf_4 ?_
  refine T_iald hok hpt.l0 dX8_worthOf_5 ?_
  refine T_aload_n hok 0 rfl rfl dX8_worthOf_6 ?_
  refine T_getR hok fr_X8_15 hpt.o hpt.r1 dX8_worthOf_7 ?_
  refine T_iload_n hok 1 rfl rfl dX8_worthOf_10 ?_
  refine T_iald hok hpt.l1 dX8_worthOf_11 ?_
  refine T_isub hok dX8_worthOf_12 ?_
  exact T_iret hok dX8_worthOf_13 (Nat.zero_le _) (Nat.zero_le _) rfl

set_option maxHeartbeats 4000000 in
set_option maxRecDepth 100000 in
theorem ct_X8_howManySoldUp {G : Gx} {l0 : Launch} {A : Nat → Prop} {b : Nat} {L : List Kd} {R : MR} {pt : Nat} (hA : ∀ k, k < L.length → A (b + k)) (hpt : TownAt b L R pt) (I : MI) (J : MJ) : Ct G l0 A yX8_howManySoldUp cX8_howManySoldUp 6 (some .int) { frames := 0, cells := 0, slots := 0, locals := 0 } [.ref (b + pt)] (Rg G b L R I J) (ii0 (Rg G b L R I J)) (f_X8_howManySoldUp I pt) := by
  refine Ct.of rfl (Nat.le_of_ble_eq_true rfl) ?_
  intro X hok
  replace hok : Ok G l0 X RX8 cX8_howManySoldUp 6 { frames := 0, cells := 0, slots := 0, locals := 0 } (some .int) := hok
  delta f_X8_howManySoldUp
  show T X A (Zm X A (ii0 (Rg G b L R I J))) 6 0 0 0 [(0, .ref (b + pt))] [] (Rg G b L R I J) _
  refine T_iconst hok ic_0 dX8_howManySoldUp_0 ?_
  refine T_istore_n (lv' := [(1, .int (0 : Int32)), (0, .ref (b + pt))]) hok rfl (by decide) rfl dX8_howManySoldUp_1 ?_
  refine T_aload_n hok 1 rfl rfl dX8_howManySoldUp_2 ?_
  refine T_getR hok fr_X8_24 hpt.o hpt.r4 dX8_howManySoldUp_3 ?_
  refine T_astore_n (lv' := [(2, .ref (b + (pt + 5))), (1, .int (0 : Int32)), (0, .ref (b + pt))]) hok rfl (by decide) rfl dX8_howManySoldUp_6 ?_
  refine T_aload_n hok 0 rfl rfl dX8_howManySoldUp_7 ?_
  refine T_alen (v := 6) hok (by decide) hpt.l4 rfl dX8_howManySoldUp_8 ?_
  refine T_istore_n (lv' := [(3, .int (6 : Int32)), (2, .ref (b + (pt + 5))), (1, .int (0 : Int32)), (0, .ref (b + pt))]) hok rfl (by decide) rfl dX8_howManySoldUp_9 ?_
  refine T_iconst hok ic_0 dX8_howManySoldUp_10 ?_
  refine T_istore (lv' := [(4, .int (0 : Int32)), (3, .int (6 : Int32)), (2, .ref (b + (pt + 5))), (1, .int (0 : Int32)), (0, .ref (b + pt))]) hok (by decide) rfl dX8_howManySoldUp_11 ?_
  refine T_sub (lv' := [(1, .int (0 : Int32)), (2, .ref (b + (pt + 5))), (3, .int (6 : Int32)), (4, .int (0 : Int32))]) [3, 2, 1, 0] rfl ?_
  refine T_fix2 _ (fun (x1 : Int32) (x2 : Int32) => [(1, .int x1), (2, .ref (b + (pt + 5))), (3, .int (6 : Int32)), (4, .int x2)]) (fun (x1 : Int32) (x2 : Int32) => Rg G b L R I J) ?_ FU (0 : Int32) (0 : Int32)
  intro r13 hr13 x1 x2
  refine T_iload hok 3 rfl dX8_howManySoldUp_13 ?_
  refine T_iload_n hok 2 rfl rfl dX8_howManySoldUp_15 ?_
  refine T_icmp_ge (tgt := 39) hok dX8_howManySoldUp_16 rfl ?_ ?_
  · refine T_iload_n hok 0 rfl rfl dX8_howManySoldUp_39 ?_
    exact T_iret hok dX8_howManySoldUp_40 (Nat.zero_le _) (Nat.zero_le _) rfl
  refine T_aload_n hok 1 rfl rfl dX8_howManySoldUp_19 ?_
  refine T_iload hok 3 rfl dX8_howManySoldUp_20 ?_
  refine T_zald hok hpt.l4 dX8_howManySoldUp_22 ?_
  refine T_lti ?_
  intro x3
  refine T_istore (lv' := [(5, .int x3), (1, .int x1), (2, .ref (b + (pt + 5))), (3, .int (6 : Int32)), (4, .int x2)]) hok (by decide) rfl dX8_howManySoldUp_23 ?_
  refine T_iload hok 0 rfl dX8_howManySoldUp_25 ?_
  refine T_jp _ (fun (j33 : Int32 → Option (Int32)) => ∀ (x4 : Int32), T X A (Zm X A (ii0 (Rg G b L R I J))) 6 0 0 33 [(1, .int x4), (2, .ref (b + (pt + 5))), (3, .int (6 : Int32)), (4, .int x2)] [] (Rg G b L R I J) (j33 x4)) _ ?_ ?_
  · intro x4
    refine T_iinc (lvs := fun x5 => [(4, .int x5), (1, .int x4), (2, .ref (b + (pt + 5))), (3, .int (6 : Int32))]) hok 3 rfl ic_1 (by decide) (fun _ => rfl) dX8_howManySoldUp_33 ?_
    intro x5
    refine T_goto (tgt := 13) hok dX8_howManySoldUp_36 rfl ?_
    refine T_sub (lv' := [(1, .int x4), (2, .ref (b + (pt + 5))), (3, .int (6 : Int32)), (4, .int x5)]) [1, 2, 3, 0] rfl ?_
    exact hr13 x4 x5
  intro j33 hj33
  refine T_if_eq (tgt := 33) hok dX8_howManySoldUp_27 rfl ?_ ?_
  · refine T_sub (lv' := [(1, .int x1), (2, .ref (b + (pt + 5))), (3, .int (6 : Int32)), (4, .int x2)]) [1, 2, 3, 4] rfl ?_
    exact hj33 x1
  refine T_iinc (lvs := fun x6 => [(1, .int x6), (5, .int x3), (2, .ref (b + (pt + 5))), (3, .int (6 : Int32)), (4, .int x2)]) hok 1 rfl ic_1 (by decide) (fun _ => rfl) dX8_howManySoldUp_30 ?_
  intro x6
  refine T_sub (lv' := [(1, .int x6), (2, .ref (b + (pt + 5))), (3, .int (6 : Int32)), (4, .int x2)]) [0, 2, 3, 4] rfl ?_
  exact hj33 x6
