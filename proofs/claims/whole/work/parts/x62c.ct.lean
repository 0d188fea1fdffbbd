set_option maxHeartbeats 4000000 in
set_option maxRecDepth 100000 in
theorem ct_X8_shows {G : Gx} {l0 : Launch} {A : Nat → Prop} {b : Nat} {L : List Kd} {R : MR} {pt : Nat} (hA : ∀ k, k < L.length → A (b + k)) (hpt : TownAt b L R pt) (I : MI) (J : MJ) (a1 : Int32) (a2 : Int32) : Ct G l0 A yX8_shows cX8_shows 3 (some .boolean) { frames := 1, cells := 0, slots := 0, locals := 21 } [.ref (b + pt), .int a1, .int a2] (Rg G b L R I J) (iz0 (Rg G b L R I J)) (f_X8_shows I pt a1 a2) := by
  refine Ct.of rfl (Nat.le_of_ble_eq_true rfl) ?_
  intro X hok
  replace hok : Ok G l0 X RX8 cX8_shows 3 { frames := 1, cells := 0, slots := 0, locals := 21 } (some .boolean) := hok
  delta f_X8_shows
  show T X A (Zm X A (iz0 (Rg G b L R I J))) 3 0 0 0 [(0, .ref (b + pt)), (1, .int a1), (2, .int a2)] [] (Rg G b L R I J) _
  refine T_iload_n hok 1 rfl rfl dX8_shows_0 ?_
  refine T_swc (fun hx0 => ?_) (fun hx0 => ?_)
  · refine T_lin (tgt := 28) hok hx0 dX8_shows_1 rfl rfl rfl ?_
    refine T_aload_n hok 0 rfl rfl dX8_shows_28 ?_
    refine T_getR hok fr_X8_24 hpt.o hpt.r4 dX8_shows_29 ?_
    refine T_iload_n hok 2 rfl rfl dX8_shows_32 ?_
    refine T_zald hok hpt.l4 dX8_shows_33 ?_
    exact T_zretv (f := fun rr => (rr)) hok dX8_shows_34 (Nat.zero_le _) (Nat.zero_le _) (fun _ => rfl)
  refine T_swc (fun hx1 => ?_) (fun hx1 => ?_)
  · refine T_lin (tgt := 35) hok hx1 dX8_shows_1 rfl rfl rfl ?_
    refine T_aload_n hok 0 rfl rfl dX8_shows_35 ?_
    refine T_getR hok fr_X8_15 hpt.o hpt.r1 dX8_shows_36 ?_
    refine T_iload_n hok 2 rfl rfl dX8_shows_39 ?_
    refine T_iald hok hpt.l1 dX8_shows_40 ?_
    refine T_jp _ (fun (j49 : Bool → Option (Bool)) => ∀ (x1 : Bool), T X A (Zm X A (iz0 (Rg G b L R I J))) 3 0 0 49 [] [.int (bi x1)] (Rg G b L R I J) (j49 x1)) _ ?_ ?_
    · intro x1
      exact T_zret hok dX8_shows_49 (Nat.zero_le _) (Nat.zero_le _) (bi_01 _) rfl
    intro j49 hj49
    refine T_if_ge (tgt := 48) hok dX8_shows_41 rfl ?_ ?_
    · refine T_iconst hok ic_0 dX8_shows_48 ?_
      refine T_sub (lv' := []) [] rfl ?_
      exact hj49 false
    refine T_iconst hok ic_1 dX8_shows_44 ?_
    refine T_goto (tgt := 49) hok dX8_shows_45 rfl ?_
    refine T_sub (lv' := []) [] rfl ?_
    exact hj49 true
  refine T_swd ?_
  have nhx0 := toInt_ne (n := 0) rfl hx0
  have nhx1 := toInt_ne (n := 1) rfl hx1
  refine T_lout (tgt := 50) (off := 49) hok dX8_shows_1 rfl (by simp [Op.lookupswitch.offset, Ne.symm nhx0, Ne.symm nhx1]) rfl ?_
  refine T_aload_n hok 0 rfl rfl dX8_shows_50 ?_
  refine T_iload_n hok 2 rfl rfl dX8_shows_51 ?_
  refine T_ci0 (CR_V (rest := []) hok (ct_X8_worthOf hA hpt I J a2) mw_X8_worthOf mv_X8_worthOf ml_X8_56 hpt.o dX8_shows_52 rfl rfl (roomOk rfl) rfl) rfl rfl ?_
  intro x2
  refine T_jp _ (fun (j63 : Bool → Option (Bool)) => ∀ (x3 : Bool), T X A (Zm X A (iz0 (Rg G b L R I J))) 3 0 0 63 [] [.int (bi x3)] (Rg G b L R I J) (j63 x3)) _ ?_ ?_
  · intro x3
    exact T_zret hok dX8_shows_63 (Nat.zero_le _) (Nat.zero_le _) (bi_01 _) rfl
  intro j63 hj63
  refine T_if_ge (tgt := 62) hok dX8_shows_55 rfl ?_ ?_
  · refine T_iconst hok ic_0 dX8_shows_62 ?_
    refine T_sub (lv' := []) [] rfl ?_
    exact hj63 false
  refine T_iconst hok ic_1 dX8_shows_58 ?_
  refine T_goto (tgt := 63) hok dX8_shows_59 rfl ?_
  refine T_sub (lv' := []) [] rfl ?_
  exact hj63 true

set_option maxHeartbeats 4000000 in
set_option maxRecDepth 100000 in
theorem ct_X9_clear {G : Gx} {l0 : Launch} {A : Nat → Prop} {b bk dr it : Nat} (hA : ∀ k, k < Lc.length → A (b + k)) (I : MI) (J : MJ) : Ct G l0 A yX9_clear cX9_clear 1 none { frames := 0, cells := 0, slots := 0, locals := 0 } [.ref (b + 64)] (Rg G b Lc (Rc b bk dr it) I J) (iv1 (fun (I' : MI) => Rg G b Lc (Rc b bk dr it) I' J)) (f_X9_clear I) := by
  refine Ct.of rfl (Nat.le_of_ble_eq_true rfl) ?_
  intro X hok
  replace hok : Ok G l0 X RX9 cX9_clear 1 { frames := 0, cells := 0, slots := 0, locals := 0 } none := hok
  delta f_X9_clear
  show T X A (Zm X A (iv1 (fun (I' : MI) => Rg G b Lc (Rc b bk dr it) I' J))) 1 0 0 0 [(0, .ref (b + 64))] [] (Rg G b Lc (Rc b bk dr it) I J) _
  refine T_aload_n hok 0 rfl rfl dX9_clear_0 ?_
  refine T_iconst hok ic_0 dX9_clear_1 ?_
  refine T_putI hok hA fr_X9_25 rfl rfl lc_64 dX9_clear_2 ?_
  intro I1
  exact T_vret hok dX9_clear_5 (Nat.zero_le _) (Nat.zero_le _) rfl

set_option maxHeartbeats 4000000 in
set_option maxRecDepth 100000 in
theorem ct_X9_forgetFirst {G : Gx} {l0 : Launch} {A : Nat → Prop} {b bk dr it : Nat} (hA : ∀ k, k < Lc.length → A (b + k)) (I : MI) (J : MJ) : Ct G l0 A yX9_forgetFirst cX9_forgetFirst 2 none { frames := 0, cells := 0, slots := 0, locals := 0 } [.ref (b + 64)] (Rg G b Lc (Rc b bk dr it) I J) (iv1 (fun (I' : MI) => Rg G b Lc (Rc b bk dr it) I' J)) (f_X9_forgetFirst I) := by
  refine Ct.of rfl (Nat.le_of_ble_eq_true rfl) ?_
  intro X hok
  replace hok : Ok G l0 X RX9 cX9_forgetFirst 2 { frames := 0, cells := 0, slots := 0, locals := 0 } none := hok
  delta f_X9_forgetFirst
  show T X A (Zm X A (iv1 (fun (I' : MI) => Rg G b Lc (Rc b bk dr it) I' J))) 2 0 0 0 [(0, .ref (b + 64))] [] (Rg G b Lc (Rc b bk dr it) I J) _
  refine T_iconst hok ic_1 dX9_forgetFirst_0 ?_
  refine T_istore_n (lv' := [(1, .int (1 : Int32)), (0, .ref (b + 64))]) hok rfl (by decide) rfl dX9_forgetFirst_1 ?_
  refine T_sub (lv' := [(0, .ref (b + 64)), (1, .int (1 : Int32))]) [1, 0] rfl ?_
  refine T_fix2 _ (fun (x1 : Int32) (I2 : MI) => [(0, .ref (b + 64)), (1, .int x1)]) (fun (x1 : Int32) (I2 : MI) => Rg G b Lc (Rc b bk dr it) I2 J) ?_ FU (1 : Int32) I
  intro r2 hr2 x1 I2
  refine T_iload_n hok 1 rfl rfl dX9_forgetFirst_2 ?_
  refine T_bipush hok bp_20 dX9_forgetFirst_3 ?_
  refine T_icmp_ge (tgt := 84) hok dX9_forgetFirst_5 rfl ?_ ?_
  · refine T_aload_n hok 0 rfl rfl dX9_forgetFirst_84 ?_
    refine T_bipush hok bp_19 dX9_forgetFirst_85 ?_
    refine T_putI hok hA fr_X9_25 rfl rfl lc_64 dX9_forgetFirst_87 ?_
    intro I3
    exact T_vret hok dX9_forgetFirst_90 (Nat.zero_le _) (Nat.zero_le _) rfl
  refine T_aload_n hok 0 rfl rfl dX9_forgetFirst_8 ?_
  refine T_getR hok fr_X9_9 lc_64 rc_64_0 dX9_forgetFirst_9 ?_
  refine T_iload_n hok 1 rfl rfl dX9_forgetFirst_12 ?_
  refine T_iconst hok ic_1 dX9_forgetFirst_13 ?_
  refine T_isub hok dX9_forgetFirst_14 ?_
  refine T_aload_n hok 0 rfl rfl dX9_forgetFirst_15 ?_
  refine T_getR hok fr_X9_9 lc_64 rc_64_0 dX9_forgetFirst_16 ?_
  refine T_iload_n hok 1 rfl rfl dX9_forgetFirst_19 ?_
  refine T_iald hok lc_65 dX9_forgetFirst_20 ?_
  refine T_iast hok hA lc_65 dX9_forgetFirst_21 ?_
  intro I4
  refine T_aload_n hok 0 rfl rfl dX9_forgetFirst_22 ?_
  refine T_getR hok fr_X9_13 lc_64 rc_64_1 dX9_forgetFirst_23 ?_
  refine T_iload_n hok 1 rfl rfl dX9_forgetFirst_26 ?_
  refine T_iconst hok ic_1 dX9_forgetFirst_27 ?_
  refine T_isub hok dX9_forgetFirst_28 ?_
  refine T_aload_n hok 0 rfl rfl dX9_forgetFirst_29 ?_
  refine T_getR hok fr_X9_13 lc_64 rc_64_1 dX9_forgetFirst_30 ?_
  refine T_iload_n hok 1 rfl rfl dX9_forgetFirst_33 ?_
  refine T_iald hok lc_66 dX9_forgetFirst_34 ?_
  refine T_iast hok hA lc_66 dX9_forgetFirst_35 ?_
  intro I5
  refine T_aload_n hok 0 rfl rfl dX9_forgetFirst_36 ?_
  refine T_getR hok fr_X9_16 lc_64 rc_64_2 dX9_forgetFirst_37 ?_
  refine T_iload_n hok 1 rfl rfl dX9_forgetFirst_40 ?_
  refine T_iconst hok ic_1 dX9_forgetFirst_41 ?_
  refine T_isub hok dX9_forgetFirst_42 ?_
  refine T_aload_n hok 0 rfl rfl dX9_forgetFirst_43 ?_
  refine T_getR hok fr_X9_16 lc_64 rc_64_2 dX9_forgetFirst_44 ?_
  refine T_iload_n hok 1 rfl rfl dX9_forgetFirst_47 ?_
  refine T_iald hok lc_67 dX9_forgetFirst_48 ?_
  refine T_iast hok hA lc_67 dX9_forgetFirst_49 ?_
  intro I6
  refine T_aload_n hok 0 rfl rfl dX9_forgetFirst_50 ?_
  refine T_getR hok fr_X9_19 lc_64 rc_64_3 dX9_forgetFirst_51 ?_
  refine T_iload_n hok 1 rfl rfl dX9_forgetFirst_54 ?_
  refine T_iconst hok ic_1 dX9_forgetFirst_55 ?_
  refine T_isub hok dX9_forgetFirst_56 ?_
  refine T_aload_n hok 0 rfl rfl dX9_forgetFirst_57 ?_
  refine T_getR hok fr_X9_19 lc_64 rc_64_3 dX9_forgetFirst_58 ?_
  refine T_iload_n hok 1 rfl rfl dX9_forgetFirst_61 ?_
  refine T_iald hok lc_68 dX9_forgetFirst_62 ?_
  refine T_iast hok hA lc_68 dX9_forgetFirst_63 ?_
  intro I7
  refine T_aload_n hok 0 rfl rfl dX9_forgetFirst_64 ?_
  refine T_getR hok fr_X9_22 lc_64 rc_64_4 dX9_forgetFirst_65 ?_
  refine T_iload_n hok 1 rfl rfl dX9_forgetFirst_68 ?_
  refine T_iconst hok ic_1 dX9_forgetFirst_69 ?_
  refine T_isub hok dX9_forgetFirst_70 ?_
  refine T_aload_n hok 0 rfl rfl dX9_forgetFirst_71 ?_
  refine T_getR hok fr_X9_22 lc_64 rc_64_4 dX9_forgetFirst_72 ?_
  refine T_iload_n hok 1 rfl rfl dX9_forgetFirst_75 ?_
  refine T_iald hok lc_69 dX9_forgetFirst_76 ?_
  refine T_iast hok hA lc_69 dX9_forgetFirst_77 ?_
  intro I8
  refine T_iinc (lvs := fun x9 => [(1, .int x9), (0, .ref (b + 64))]) hok 1 rfl ic_1 (by decide) (fun _ => rfl) dX9_forgetFirst_78 ?_
  intro x9
  refine T_goto (tgt := 2) hok dX9_forgetFirst_81 rfl ?_
  refine T_sub (lv' := [(0, .ref (b + 64)), (1, .int x9)]) [1, 0] rfl ?_
  exact hr2 x9 I8

set_option maxHeartbeats 4000000 in
set_option maxRecDepth 100000 in
theorem ct_X9_add {G : Gx} {l0 : Launch} {A : Nat → Prop} {b bk dr it : Nat} (hA : ∀ k, k < Lc.length → A (b + k)) (I : MI) (J : MJ) (a1 : Int32) (a2 : Int32) : Ct G l0 A yX9_add cX9_add 3 none { frames := 1, cells := 0, slots := 0, locals := 21 } [.ref (b + 64), .int a1, .int a2] (Rg G b Lc (Rc b bk dr it) I J) (iv1 (fun (I' : MI) => Rg G b Lc (Rc b bk dr it) I' J)) (f_X9_add I a1 a2) := by
  refine Ct.of rfl (Nat.le_of_ble_eq_true rfl) ?_
  intro X hok
  replace hok : Ok G l0 X RX9 cX9_add 3 { frames := 1, cells := 0, slots := 0, locals := 21 } none := hok
  delta f_X9_add
  show T X A (Zm X A (iv1 (fun (I' : MI) => Rg G b Lc (Rc b bk dr it) I' J))) 3 0 0 0 [(0, .ref (b + 64)), (1, .int a1), (2, .int a2)] [] (Rg G b Lc (Rc b bk dr it) I J) _
  refine T_aload_n hok 0 rfl rfl dX9_add_0 ?_
  refine T_getI hok fr_X9_25 lc_64 dX9_add_1 ?_
  refine T_bipush hok bp_20 dX9_add_4 ?_
  refine T_jp _ (fun (j13 : MI → Option (MI)) => ∀ (I1 : MI), T X A (Zm X A (iv1 (fun (I' : MI) => Rg G b Lc (Rc b bk dr it) I' J))) 3 0 0 13 [(0, .ref (b + 64)), (1, .int a1), (2, .int a2)] [] (Rg G b Lc (Rc b bk dr it) I1 J) (j13 I1)) _ ?_ ?_
  · intro I1
    refine T_aload_n hok 0 rfl rfl dX9_add_13 ?_
    refine T_getR hok fr_X9_9 lc_64 rc_64_0 dX9_add_14 ?_
    refine T_aload_n hok 0 rfl rfl dX9_add_17 ?_
    refine T_getI hok fr_X9_25 lc_64 dX9_add_18 ?_
    refine T_iload_n hok 1 rfl rfl dX9_add_21 ?_
    refine T_iast hok hA lc_65 dX9_add_22 ?_
    intro I2
    refine T_aload_n hok 0 rfl rfl dX9_add_23 ?_
    refine T_getR hok fr_X9_13 lc_64 rc_64_1 dX9_add_24 ?_
    refine T_aload_n hok 0 rfl rfl dX9_add_27 ?_
    refine T_getI hok fr_X9_25 lc_64 dX9_add_28 ?_
    refine T_iload_n hok 2 rfl rfl dX9_add_31 ?_
    refine T_iast hok hA lc_66 dX9_add_32 ?_
    intro I3
    refine T_aload_n hok 0 rfl rfl dX9_add_33 ?_
    refine T_dup hok rfl dX9_add_34 ?_
    refine T_getI hok fr_X9_25 lc_64 dX9_add_35 ?_
    refine T_iconst hok ic_1 dX9_add_38 ?_
    refine T_iadd hok dX9_add_39 ?_
    refine T_putI hok hA fr_X9_25 rfl rfl lc_64 dX9_add_40 ?_
    intro I4
    exact T_vret hok dX9_add_43 (Nat.zero_le _) (Nat.zero_le _) rfl
  intro j13 hj13
  refine T_icmp_lt (tgt := 13) hok dX9_add_6 rfl ?_ ?_
  · exact hj13 I
  refine T_aload_n hok 0 rfl rfl dX9_add_9 ?_
  refine T_cv1 (CR_V (rest := []) hok (ct_X9_forgetFirst hA I J) mw_X9_forgetFirst mv_X9_forgetFirst ml_X9_38 lc_64 dX9_add_10 rfl rfl (roomOk rfl) rfl) rfl rfl ?_
  intro I5
  exact hj13 I5

set_option maxHeartbeats 4000000 in
set_option maxRecDepth 100000 in
theorem ct_X9_drew {G : Gx} {l0 : Launch} {A : Nat → Prop} {b bk dr it : Nat} (hA : ∀ k, k < Lc.length → A (b + k)) (I : MI) (J : MJ) (a1 : Int32) : Ct G l0 A yX9_drew cX9_drew 2 none { frames := 2, cells := 0, slots := 0, locals := 43 } [.ref (b + 64), .int a1] (Rg G b Lc (Rc b bk dr it) I J) (iv1 (fun (I' : MI) => Rg G b Lc (Rc b bk dr it) I' J)) (f_X9_drew I a1) := by
  refine Ct.of rfl (Nat.le_of_ble_eq_true rfl) ?_
  intro X hok
  replace hok : Ok G l0 X RX9 cX9_drew 2 { frames := 2, cells := 0, slots := 0, locals := 43 } none := hok
  delta f_X9_drew
  show T X A (Zm X A (iv1 (fun (I' : MI) => Rg G b Lc (Rc b bk dr it) I' J))) 2 0 0 0 [(0, .ref (b + 64)), (1, .int a1)] [] (Rg G b Lc (Rc b bk dr it) I J) _
  refine T_aload_n hok 0 rfl rfl dX9_drew_0 ?_
  refine T_iconst hok ic_0 dX9_drew_1 ?_
  refine T_iload_n hok 1 rfl rfl dX9_drew_2 ?_
  refine T_cv1 (CR_V (rest := []) hok (ct_X9_add hA I J (0 : Int32) a1) mw_X9_add mv_X9_add ml_X9_29 lc_64 dX9_drew_3 rfl rfl (roomOk rfl) rfl) rfl rfl ?_
  intro I1
  exact T_vret hok dX9_drew_6 (Nat.zero_le _) (Nat.zero_le _) rfl

set_option maxHeartbeats 4000000 in
set_option maxRecDepth 100000 in
theorem ct_X9_sent {G : Gx} {l0 : Launch} {A : Nat → Prop} {b bk dr it : Nat} (hA : ∀ k, k < Lc.length → A (b + k)) (I : MI) (J : MJ) (a1 : Int32) : Ct G l0 A yX9_sent cX9_sent 2 none { frames := 2, cells := 0, slots := 0, locals := 43 } [.ref (b + 64), .int a1] (Rg G b Lc (Rc b bk dr it) I J) (iv1 (fun (I' : MI) => Rg G b Lc (Rc b bk dr it) I' J)) (f_X9_sent I a1) := by
  refine Ct.of rfl (Nat.le_of_ble_eq_true rfl) ?_
  intro X hok
  replace hok : Ok G l0 X RX9 cX9_sent 2 { frames := 2, cells := 0, slots := 0, locals := 43 } none := hok
  delta f_X9_sent
  show T X A (Zm X A (iv1 (fun (I' : MI) => Rg G b Lc (Rc b bk dr it) I' J))) 2 0 0 0 [(0, .ref (b + 64)), (1, .int a1)] [] (Rg G b Lc (Rc b bk dr it) I J) _
  refine T_aload_n hok 0 rfl rfl dX9_sent_0 ?_
  refine T_iconst hok ic_1 dX9_sent_1 ?_
  refine T_iload_n hok 1 rfl rfl dX9_sent_2 ?_
  refine T_cv1 (CR_V (rest := []) hok (ct_X9_add hA I J (1 : Int32) a1) mw_X9_add mv_X9_add ml_X9_29 lc_64 dX9_sent_3 rfl rfl (roomOk rfl) rfl) rfl rfl ?_
  intro I1
  exact T_vret hok dX9_sent_6 (Nat.zero_le _) (Nat.zero_le _) rfl

set_option maxHeartbeats 4000000 in
set_option maxRecDepth 100000 in
theorem ct_X9_lent {G : Gx} {l0 : Launch} {A : Nat → Prop} {b bk dr it : Nat} {pt : Nat} (hA : ∀ k, k < Lc.length → A (b + k)) (hpt : isTn pt = true) (I : MI) (J : MJ) (a2 : Int32) (a3 : Int32) : Ct G l0 A yX9_lent cX9_lent 4 none { frames := 2, cells := 0, slots := 0, locals := 43 } [.ref (b + 64), .ref (b + pt), .int a2, .int a3] (Rg G b Lc (Rc b bk dr it) I J) (iv1 (fun (I' : MI) => Rg G b Lc (Rc b bk dr it) I' J)) (f_X9_lent I pt a2 a3) := by
  refine Ct.of rfl (Nat.le_of_ble_eq_true rfl) ?_
  intro X hok
  replace hok : Ok G l0 X RX9 cX9_lent 4 { frames := 2, cells := 0, slots := 0, locals := 43 } none := hok
  delta f_X9_lent
  show T X A (Zm X A (iv1 (fun (I' : MI) => Rg G b Lc (Rc b bk dr it) I' J))) 4 0 0 0 [(0, .ref (b + 64)), (1, .ref (b + pt)), (2, .int a2), (3, .int a3)] [] (Rg G b Lc (Rc b bk dr it) I J) _
  refine T_aload_n hok 0 rfl rfl dX9_lent_0 ?_
  refine T_iconst hok ic_2 dX9_lent_1 ?_
  refine T_iload_n hok 2 rfl rfl dX9_lent_2 ?_
  refine T_cv1 (CR_V (rest := []) hok (ct_X9_add hA I J (2 : Int32) a2) mw_X9_add mv_X9_add ml_X9_29 lc_64 dX9_lent_3 rfl rfl (roomOk rfl) rfl) rfl rfl ?_
  intro I1
  refine T_aload_n hok 0 rfl rfl dX9_lent_6 ?_
  refine T_getR hok fr_X9_16 lc_64 rc_64_2 dX9_lent_7 ?_
  refine T_aload_n hok 0 rfl rfl dX9_lent_10 ?_
  refine T_getI hok fr_X9_25 lc_64 dX9_lent_11 ?_
  refine T_iconst hok ic_1 dX9_lent_14 ?_
  refine T_isub hok dX9_lent_15 ?_
  refine T_iload_n hok 3 rfl rfl dX9_lent_16 ?_
  refine T_iast hok hA lc_67 dX9_lent_17 ?_
  intro I2
  refine T_aload_n hok 0 rfl rfl dX9_lent_18 ?_
  refine T_getR hok fr_X9_19 lc_64 rc_64_3 dX9_lent_19 ?_
  refine T_aload_n hok 0 rfl rfl dX9_lent_22 ?_
  refine T_getI hok fr_X9_25 lc_64 dX9_lent_23 ?_
  refine T_iconst hok ic_1 dX9_lent_26 ?_
  refine T_isub hok dX9_lent_27 ?_
  refine T_aload_n hok 1 rfl rfl dX9_lent_28 ?_
  refine T_getR hok fr_X9_33 (townAt_c (b := 0) (bk := 0) (dr := 0) (it := 0) hpt).o (townAt_c hpt).r0 dX9_lent_29 ?_
  refine T_iload_n hok 2 rfl rfl dX9_lent_32 ?_
  refine T_iald hok (townAt_c (b := 0) (bk := 0) (dr := 0) (it := 0) hpt).l0 dX9_lent_33 ?_
  refine T_iast hok hA lc_68 dX9_lent_34 ?_
  intro I3
  refine T_aload_n hok 0 rfl rfl dX9_lent_35 ?_
  refine T_getR hok fr_X9_22 lc_64 rc_64_4 dX9_lent_36 ?_
  refine T_aload_n hok 0 rfl rfl dX9_lent_39 ?_
  refine T_getI hok fr_X9_25 lc_64 dX9_lent_40 ?_
  refine T_iconst hok ic_1 dX9_lent_43 ?_
  refine T_isub hok dX9_lent_44 ?_
  refine T_aload_n hok 1 rfl rfl dX9_lent_45 ?_
  refine T_getR hok fr_X9_33 (townAt_c (b := 0) (bk := 0) (dr := 0) (it := 0) hpt).o (townAt_c hpt).r0 dX9_lent_46 ?_
  refine T_iload_n hok 3 rfl rfl dX9_lent_49 ?_
  refine T_iald hok (townAt_c (b := 0) (bk := 0) (dr := 0) (it := 0) hpt).l0 dX9_lent_50 ?_
  refine T_iast hok hA lc_69 dX9_lent_51 ?_
  intro I4
  exact T_vret hok dX9_lent_52 (Nat.zero_le _) (Nat.zero_le _) rfl

set_option maxHeartbeats 4000000 in
set_option maxRecDepth 100000 in
theorem ct_X9_undoLatest {G : Gx} {l0 : Launch} {A : Nat → Prop} {b bk dr it : Nat} {pt : Nat} (hA : ∀ k, k < Lc.length → A (b + k)) (hpt : isTn pt = true) (I : MI) (J : MJ) : Ct G l0 A yX9_undoLatest cX9_undoLatest 3 (some .boolean) { frames := 0, cells := 0, slots := 0, locals := 0 } [.ref (b + 64), .ref (b + pt)] (Rg G b Lc (Rc b bk dr it) I J) (iz1 (fun (I' : MI) => Rg G b Lc (Rc b bk dr it) I' J)) (f_X9_undoLatest I pt) := by
  refine Ct.of rfl (Nat.le_of_ble_eq_true rfl) ?_
  intro X hok
  replace hok : Ok G l0 X RX9 cX9_undoLatest 3 { frames := 0, cells := 0, slots := 0, locals := 0 } (some .boolean) := hok
  delta f_X9_undoLatest
  show T X A (Zm X A (iz1 (fun (I' : MI) => Rg G b Lc (Rc b bk dr it) I' J))) 3 0 0 0 [(0, .ref (b + 64)), (1, .ref (b + pt))] [] (Rg G b Lc (Rc b bk dr it) I J) _
  refine T_aload_n hok 0 rfl rfl dX9_undoLatest_0 ?_
  refine T_getI hok fr_X9_25 lc_64 dX9_undoLatest_1 ?_
  refine T_iconst hok ic_1 dX9_undoLatest_4 ?_
  refine T_icmp_ge (tgt := 10) hok dX9_undoLatest_5 rfl ?_ ?_
  · refine T_aload_n hok 0 rfl rfl dX9_undoLatest_10 ?_
    refine T_dup hok rfl dX9_undoLatest_11 ?_
    refine T_getI hok fr_X9_25 lc_64 dX9_undoLatest_12 ?_
    refine T_iconst hok ic_1 dX9_undoLatest_15 ?_
    refine T_isub hok dX9_undoLatest_16 ?_
    refine T_putI hok hA fr_X9_25 rfl rfl lc_64 dX9_undoLatest_17 ?_
    intro I1
    refine T_aload_n hok 0 rfl rfl dX9_undoLatest_20 ?_
    refine T_getR hok fr_X9_13 lc_64 rc_64_1 dX9_undoLatest_21 ?_
    refine T_aload_n hok 0 rfl rfl dX9_undoLatest_24 ?_
    refine T_getI hok fr_X9_25 lc_64 dX9_undoLatest_25 ?_
    refine T_iald hok lc_66 dX9_undoLatest_28 ?_
    refine T_lti ?_
    intro x2
    refine T_istore_n (lv' := [(2, .int x2), (0, .ref (b + 64)), (1, .ref (b + pt))]) hok rfl (by decide) rfl dX9_undoLatest_29 ?_
    refine T_aload_n hok 1 rfl rfl dX9_undoLatest_30 ?_
    refine T_getR hok fr_X9_9 lc_64 rc_64_0 dX9_undoLatest_31 ?_
    refine T_aload_n hok 1 rfl rfl dX9_undoLatest_34 ?_
    refine T_getI hok fr_X9_25 lc_64 dX9_undoLatest_35 ?_
    refine T_iald hok lc_65 dX9_undoLatest_38 ?_
    refine T_jp _ (fun (j133 : MI → Option (Bool × MI)) => ∀ (I3 : MI), T X A (Zm X A (iz1 (fun (I' : MI) => Rg G b Lc (Rc b bk dr it) I' J))) 3 0 0 133 [] [] (Rg G b Lc (Rc b bk dr it) I3 J) (j133 I3)) _ ?_ ?_
    · intro I3
      refine T_iconst hok ic_1 dX9_undoLatest_133 ?_
      exact T_zret hok dX9_undoLatest_134 (Nat.zero_le _) (Nat.zero_le _) rfl rfl
    intro j133 hj133
    refine T_swc (fun hx0 => ?_) (fun hx0 => ?_)
    · refine T_lin (tgt := 64) hok hx0 dX9_undoLatest_39 rfl rfl rfl ?_
      refine T_aload_n hok 2 rfl rfl dX9_undoLatest_64 ?_
      refine T_getR hok fr_X9_41 (townAt_c (b := 0) (bk := 0) (dr := 0) (it := 0) hpt).o (townAt_c hpt).r5 dX9_undoLatest_65 ?_
      refine T_iload_n hok 0 rfl rfl dX9_undoLatest_68 ?_
      refine T_aload_n hok 2 rfl rfl dX9_undoLatest_69 ?_
      refine T_getR hok fr_X9_41 (townAt_c (b := 0) (bk := 0) (dr := 0) (it := 0) hpt).o (townAt_c hpt).r5 dX9_undoLatest_70 ?_
      refine T_iload_n hok 0 rfl rfl dX9_undoLatest_73 ?_
      refine T_zald hok (townAt_c (b := 0) (bk := 0) (dr := 0) (it := 0) hpt).l5 dX9_undoLatest_74 ?_
      refine T_jp _ (fun (j83 : Bool → Int32 → Option (Bool × MI)) => ∀ (x4 : Bool) (x5 : Int32), T X A (Zm X A (iz1 (fun (I' : MI) => Rg G b Lc (Rc b bk dr it) I' J))) 3 0 0 83 [] [.int (bi x4), .int x5, .ref (b + (pt + 6))] (Rg G b Lc (Rc b bk dr it) I1 J) (j83 x4 x5)) _ ?_ ?_
      · intro x4 x5
        refine T_zast hok hA (townAt_c (b := 0) (bk := 0) (dr := 0) (it := 0) hpt).l5 dX9_undoLatest_83 ?_
        intro I6
        refine T_goto (tgt := 133) hok dX9_undoLatest_84 rfl ?_
        exact hj133 I6
      intro j83 hj83
      refine T_if_ne (tgt := 82) hok dX9_undoLatest_75 rfl ?_ ?_
      · refine T_iconst hok ic_1 dX9_undoLatest_78 ?_
        refine T_goto (tgt := 83) hok dX9_undoLatest_79 rfl ?_
        refine T_sub (lv' := []) [] rfl ?_
        exact hj83 true x2
      refine T_iconst hok ic_0 dX9_undoLatest_82 ?_
      refine T_sub (lv' := []) [] rfl ?_
      exact hj83 false x2
    refine T_swc (fun hx1 => ?_) (fun hx1 => ?_)
    · refine T_lin (tgt := 87) hok hx1 dX9_undoLatest_39 rfl rfl rfl ?_
      refine T_aload_n hok 2 rfl rfl dX9_undoLatest_87 ?_
      refine T_iload_n hok 0 rfl rfl dX9_undoLatest_88 ?_
      refine T_putI hok hA fr_X9_45 rfl rfl (townAt_c (b := 0) (bk := 0) (dr := 0) (it := 0) hpt).o dX9_undoLatest_89 ?_
      intro I7
      refine T_goto (tgt := 133) hok dX9_undoLatest_92 rfl ?_
      refine T_sub (lv' := []) [] rfl ?_
      exact hj133 I7
    refine T_swd ?_
    have nhx0 := toInt_ne (n := 0) rfl hx0
    have nhx1 := toInt_ne (n := 1) rfl hx1
    refine T_lout (tgt := 95) (off := 56) hok dX9_undoLatest_39 rfl (by simp [Op.lookupswitch.offset, Ne.symm nhx0, Ne.symm nhx1]) rfl ?_
    refine T_aload_n hok 2 rfl rfl dX9_undoLatest_95 ?_
    refine T_getR hok fr_X9_33 (townAt_c (b := 0) (bk := 0) (dr := 0) (it := 0) hpt).o (townAt_c hpt).r0 dX9_undoLatest_96 ?_
    refine T_iload_n hok 0 rfl rfl dX9_undoLatest_99 ?_
    refine T_aload_n hok 1 rfl rfl dX9_undoLatest_100 ?_
    refine T_getR hok fr_X9_19 lc_64 rc_64_3 dX9_undoLatest_101 ?_
    refine T_aload_n hok 1 rfl rfl dX9_undoLatest_104 ?_
    refine T_getI hok fr_X9_25 lc_64 dX9_undoLatest_105 ?_
    refine T_iald hok lc_68 dX9_undoLatest_108 ?_
    refine T_iast hok hA (townAt_c (b := 0) (bk := 0) (dr := 0) (it := 0) hpt).l0 dX9_undoLatest_109 ?_
    intro I8
    refine T_aload_n hok 2 rfl rfl dX9_undoLatest_110 ?_
    refine T_getR hok fr_X9_33 (townAt_c (b := 0) (bk := 0) (dr := 0) (it := 0) hpt).o (townAt_c hpt).r0 dX9_undoLatest_111 ?_
    refine T_aload_n hok 1 rfl rfl dX9_undoLatest_114 ?_
    refine T_getR hok fr_X9_16 lc_64 rc_64_2 dX9_undoLatest_115 ?_
    refine T_aload_n hok 1 rfl rfl dX9_undoLatest_118 ?_
    refine T_getI hok fr_X9_25 lc_64 dX9_undoLatest_119 ?_
    refine T_iald hok lc_67 dX9_undoLatest_122 ?_
    refine T_aload_n hok 1 rfl rfl dX9_undoLatest_123 ?_
    refine T_getR hok fr_X9_22 lc_64 rc_64_4 dX9_undoLatest_124 ?_
    refine T_aload_n hok 1 rfl rfl dX9_undoLatest_127 ?_
    refine T_getI hok fr_X9_25 lc_64 dX9_undoLatest_128 ?_
    refine T_iald hok lc_69 dX9_undoLatest_131 ?_
    refine T_iast hok hA (townAt_c (b := 0) (bk := 0) (dr := 0) (it := 0) hpt).l0 dX9_undoLatest_132 ?_
    intro I9
    refine T_sub (lv' := []) [] rfl ?_
    exact hj133 I9
  refine T_iconst hok ic_0 dX9_undoLatest_8 ?_
  exact T_zret hok dX9_undoLatest_9 (Nat.zero_le _) (Nat.zero_le _) rfl rfl

set_option maxHeartbeats 4000000 in
set_option maxRecDepth 100000 in
theorem ct_X10_putNumber {G : Gx} {l0 : Launch} {A : Nat → Prop} {b bk dr it : Nat} (hA : ∀ k, k < Lc.length → A (b + k)) (I : MI) (J : MJ) (a1 : Int32) : Ct G l0 A yX10_putNumber cX10_putNumber 3 none { frames := 0, cells := 0, slots := 0, locals := 0 } [.ref (b + 0), .int a1] (Rg G b Lc (Rc b bk dr it) I J) (iv1 (fun (I' : MI) => Rg G b Lc (Rc b bk dr it) I' J)) (f_X10_putNumber I a1) := by
  refine Ct.of rfl (Nat.le_of_ble_eq_true rfl) ?_
  intro X hok
  replace hok : Ok G l0 X RX10 cX10_putNumber 3 { frames := 0, cells := 0, slots := 0, locals := 0 } none := hok
  delta f_X10_putNumber
  show T X A (Zm X A (iv1 (fun (I' : MI) => Rg G b Lc (Rc b bk dr it) I' J))) 3 0 0 0 [(0, .ref (b + 0)), (1, .int a1)] [] (Rg G b Lc (Rc b bk dr it) I J) _
  refine T_bipush hok bp_24 dX10_putNumber_0 ?_
  refine T_istore_n (lv' := [(2, .int (24 : Int32)), (0, .ref (b + 0)), (1, .int a1)]) hok rfl (by decide) rfl dX10_putNumber_2 ?_
  refine T_jp _ (fun (j46 : MI → Option (MI)) => ∀ (I1 : MI), T X A (Zm X A (iv1 (fun (I' : MI) => Rg G b Lc (Rc b bk dr it) I' J))) 3 0 0 46 [] [] (Rg G b Lc (Rc b bk dr it) I1 J) (j46 I1)) _ ?_ ?_
  · intro I1
    exact T_vret hok dX10_putNumber_46 (Nat.zero_le _) (Nat.zero_le _) rfl
  intro j46 hj46
  refine T_sub (lv' := [(0, .ref (b + 0)), (1, .int a1), (2, .int (24 : Int32))]) [1, 2, 0] rfl ?_
  refine T_fix2 _ (fun (x2 : Int32) (I3 : MI) => [(0, .ref (b + 0)), (1, .int a1), (2, .int x2)]) (fun (x2 : Int32) (I3 : MI) => Rg G b Lc (Rc b bk dr it) I3 J) ?_ FU (24 : Int32) I
  intro r3 hr3 x2 I3
  refine T_iload_n hok 2 rfl rfl dX10_putNumber_3 ?_
  refine T_if_lt (tgt := 46) hok dX10_putNumber_4 rfl ?_ ?_
  · refine T_sub (lv' := []) [] rfl ?_
    exact hj46 I3
  refine T_aload_n hok 0 rfl rfl dX10_putNumber_7 ?_
  refine T_getI hok fr_X10_86 lc_0 dX10_putNumber_8 ?_
  refine T_sipush hok sp_700 dX10_putNumber_11 ?_
  refine T_icmp_ge (tgt := 46) hok dX10_putNumber_14 rfl ?_ ?_
  · refine T_sub (lv' := []) [] rfl ?_
    exact hj46 I3
  refine T_aload_n hok 0 rfl rfl dX10_putNumber_17 ?_
  refine T_getR hok fr_X10_11 lc_0 rc_0_0 dX10_putNumber_18 ?_
  refine T_aload_n hok 0 rfl rfl dX10_putNumber_21 ?_
  refine T_getI hok fr_X10_86 lc_0 dX10_putNumber_22 ?_
  refine T_iload_n hok 1 rfl rfl dX10_putNumber_25 ?_
  refine T_iload_n hok 2 rfl rfl dX10_putNumber_26 ?_
  refine T_ishr hok dX10_putNumber_27 ?_
  refine T_i2b hok dX10_putNumber_28 ?_
  refine T_bast hok hA lc_1 dX10_putNumber_29 ?_
  intro I4
  refine T_aload_n hok 0 rfl rfl dX10_putNumber_30 ?_
  refine T_dup hok rfl dX10_putNumber_31 ?_
  refine T_getI hok fr_X10_86 lc_0 dX10_putNumber_32 ?_
  refine T_iconst hok ic_1 dX10_putNumber_35 ?_
  refine T_iadd hok dX10_putNumber_36 ?_
  refine T_putI hok hA fr_X10_86 rfl rfl lc_0 dX10_putNumber_37 ?_
  intro I5
  refine T_iinc (lvs := fun x6 => [(2, .int x6), (0, .ref (b + 0)), (1, .int a1)]) hok 2 rfl ic_m8 (by decide) (fun _ => rfl) dX10_putNumber_40 ?_
  intro x6
  refine T_goto (tgt := 3) hok dX10_putNumber_43 rfl ?_
  refine T_sub (lv' := [(0, .ref (b + 0)), (1, .int a1), (2, .int x6)]) [1, 2, 0] rfl ?_
  exact hr3 x6 I5

set_option maxHeartbeats 4000000 in
set_option maxRecDepth 100000 in
theorem ct_X10_feed {G : Gx} {l0 : Launch} {A : Nat → Prop} {b bk dr it : Nat} (hA : ∀ k, k < Lc.length → A (b + k)) (I : MI) (J : MJ) (a1 : Int32) (a2 : Int32) (a3 : Int32) (a4 : Int32) (a5 : Int32) : Ct G l0 A yX10_feed cX10_feed 6 (some .int) { frames := 1, cells := 0, slots := 0, locals := 22 } [.ref (b + 0), .int a1, .int a2, .int a3, .int a4, .int a5] (Rg G b Lc (Rc b bk dr it) I J) (ii1 (fun (I' : MI) => Rg G b Lc (Rc b bk dr it) I' J)) (f_X10_feed I a1 a2 a3 a4 a5) := by
  refine Ct.of rfl (Nat.le_of_ble_eq_true rfl) ?_
  intro X hok
  replace hok : Ok G l0 X RX10 cX10_feed 6 { frames := 1, cells := 0, slots := 0, locals := 22 } (some .int) := hok
  delta f_X10_feed
  show T X A (Zm X A (ii1 (fun (I' : MI) => Rg G b Lc (Rc b bk dr it) I' J))) 6 0 0 0 [(0, .ref (b + 0)), (1, .int a1), (2, .int a2), (3, .int a3), (4, .int a4), (5, .int a5)] [] (Rg G b Lc (Rc b bk dr it) I J) _
  refine T_aload_n hok 0 rfl rfl dX10_feed_0 ?_
  refine T_getI hok fr_X10_86 lc_0 dX10_feed_1 ?_
  refine T_bipush hok bp_20 dX10_feed_4 ?_
  refine T_iadd hok dX10_feed_6 ?_
  refine T_sipush hok sp_700 dX10_feed_7 ?_
  refine T_icmp_le (tgt := 15) hok dX10_feed_10 rfl ?_ ?_
  · refine T_aload_n hok 0 rfl rfl dX10_feed_15 ?_
    refine T_iload_n hok 1 rfl rfl dX10_feed_16 ?_
    refine T_cv1 (CR_V (rest := []) hok (ct_X10_putNumber hA I J a1) mw_X10_putNumber mv_X10_putNumber ml_X10_90 lc_0 dX10_feed_17 rfl rfl (roomOk rfl) rfl) rfl rfl ?_
    intro I1
    refine T_aload_n hok 0 rfl rfl dX10_feed_20 ?_
    refine T_iload_n hok 2 rfl rfl dX10_feed_21 ?_
    refine T_cv1 (CR_V (rest := []) hok (ct_X10_putNumber hA I1 J a2) mw_X10_putNumber mv_X10_putNumber ml_X10_90 lc_0 dX10_feed_22 rfl rfl (roomOk rfl) rfl) rfl rfl ?_
    intro I2
    refine T_aload_n hok 0 rfl rfl dX10_feed_25 ?_
    refine T_iload_n hok 3 rfl rfl dX10_feed_26 ?_
    refine T_cv1 (CR_V (rest := []) hok (ct_X10_putNumber hA I2 J a3) mw_X10_putNumber mv_X10_putNumber ml_X10_90 lc_0 dX10_feed_27 rfl rfl (roomOk rfl) rfl) rfl rfl ?_
    intro I3
    refine T_aload_n hok 0 rfl rfl dX10_feed_30 ?_
    refine T_iload hok 4 rfl dX10_feed_31 ?_
    refine T_cv1 (CR_V (rest := []) hok (ct_X10_putNumber hA I3 J a4) mw_X10_putNumber mv_X10_putNumber ml_X10_90 lc_0 dX10_feed_33 rfl rfl (roomOk rfl) rfl) rfl rfl ?_
    intro I4
    refine T_aload_n hok 0 rfl rfl dX10_feed_36 ?_
    refine T_iload hok 5 rfl dX10_feed_37 ?_
    refine T_cv1 (CR_V (rest := []) hok (ct_X10_putNumber hA I4 J a5) mw_X10_putNumber mv_X10_putNumber ml_X10_90 lc_0 dX10_feed_39 rfl rfl (roomOk rfl) rfl) rfl rfl ?_
    intro I5
    refine T_aload_n hok 0 rfl rfl dX10_feed_42 ?_
    refine T_getI hok fr_X10_86 lc_0 dX10_feed_43 ?_
    exact T_iret hok dX10_feed_46 (Nat.zero_le _) (Nat.zero_le _) rfl
  refine T_iconst hok ic_m1 dX10_feed_13 ?_
  exact T_iret hok dX10_feed_14 (Nat.zero_le _) (Nat.zero_le _) rfl

set_option maxHeartbeats 4000000 in
set_option maxRecDepth 100000 in
theorem ct_X10_text {G : Gx} {l0 : Launch} {A : Nat → Prop} {b bk dr it : Nat} (hA : ∀ k, k < Lc.length → A (b + k)) (hbk : isBk bk = true) (hdr : isBk dr = true) (hit : isBk it = true) (I : MI) (J : MJ) (a1 : Int32) : Ct G l0 A yX10_text cX10_text 3 (some .int) { frames := 7, cells := 0, slots := 0, locals := 151 } [.ref (b + 0), .int a1] (Rg G b Lc (Rc b bk dr it) I J) (ii4 (fun (bk' : Nat) (dr' : Nat) (it' : Nat) (I' : MI) => Rg G b Lc (Rc b bk' dr' it') I' J)) (f_X10_text bk dr it I a1) := by
  refine Ct.of rfl (Nat.le_of_ble_eq_true rfl) ?_
  intro X hok
  replace hok : Ok G l0 X RX10 cX10_text 3 { frames := 7, cells := 0, slots := 0, locals := 151 } (some .int) := hok
  delta f_X10_text
  show T X A (Zm X A (ii4 (fun (bk' : Nat) (dr' : Nat) (it' : Nat) (I' : MI) => Rg G b Lc (Rc b bk' dr' it') I' J))) 3 0 0 0 [(0, .ref (b + 0)), (1, .int a1)] [] (Rg G b Lc (Rc b bk dr it) I J) _
  refine T_iload_n hok 1 rfl rfl dX10_text_0 ?_
  refine T_jp _ (fun (j12 : Option (Int32 × Nat × Nat × Nat × MI)) => T X A (Zm X A (ii4 (fun (bk' : Nat) (dr' : Nat) (it' : Nat) (I' : MI) => Rg G b Lc (Rc b bk' dr' it') I' J))) 3 0 0 12 [] [] (Rg G b Lc (Rc b bk dr it) I J) (j12)) _ ?_ ?_
  · skip
    refine T_bipush hok bp_m2 dX10_text_12 ?_
    exact T_iret hok dX10_text_14 (Nat.zero_le _) (Nat.zero_le _) rfl
  intro j12 hj12
  refine T_if_lt (tgt := 12) hok dX10_text_1 rfl ?_ ?_
  · refine T_sub (lv' := []) [] rfl ?_
    exact hj12
  refine T_iload_n hok 1 rfl rfl dX10_text_4 ?_
  refine T_aload_n hok 0 rfl rfl dX10_text_5 ?_
  refine T_getI hok fr_X10_86 lc_0 dX10_text_6 ?_
  refine T_icmp_le (tgt := 15) hok dX10_text_9 rfl ?_ ?_
  · refine T_aload_n hok 0 rfl rfl dX10_text_15 ?_
    refine T_iconst hok ic_0 dX10_text_16 ?_
    refine T_putI hok hA fr_X10_86 rfl rfl lc_0 dX10_text_17 ?_
    intro I1
    refine T_aload_n hok 0 rfl rfl dX10_text_20 ?_
    refine T_getR hok fr_X10_30 lc_0 rc_0_4 dX10_text_21 ?_
    refine T_iload_n hok 1 rfl rfl dX10_text_24 ?_
    refine T_aload_n hok 0 rfl rfl dX10_text_25 ?_
    refine T_getR hok fr_X10_22 lc_0 rc_0_3 dX10_text_26 ?_
    refine T_cz2 (CR_V (rest := []) hok (ct_X6_read hA hit hdr I1 J a1) mw_X6_read mv_X6_read ml_X10_94 lc_34 dX10_text_29 rfl rfl (roomOk rfl) rfl) rfl rfl ?_
    intro x2 it3 I4
    refine T_ifb_ne (tgt := 37) hok dX10_text_32 rfl ?_ ?_
    · refine T_aload_n hok 0 rfl rfl dX10_text_37 ?_
      refine T_getR hok fr_X10_18 lc_0 rc_0_2 dX10_text_38 ?_
      refine T_astore_n (lv' := [(2, .ref (b + bk)), (0, .ref (b + 0)), (1, .int a1)]) hok rfl (by decide) rfl dX10_text_41 ?_
      refine T_aload_n hok 1 rfl rfl dX10_text_42 ?_
      refine T_aload_n hok 1 rfl rfl dX10_text_43 ?_
      refine T_getR hok fr_X10_22 lc_0 rc_0_3 dX10_text_44 ?_
      refine T_putR (R' := Rc b dr dr it3) hok hA fr_X10_18 rfl lc_0 rfl rfl rfl rp_bk_k rp_bk_p dX10_text_47 ?_
      refine T_aload_n hok 1 rfl rfl dX10_text_50 ?_
      refine T_aload_n hok 0 rfl rfl dX10_text_51 ?_
      refine T_putR (R' := Rc b dr bk it3) hok hA fr_X10_22 rfl lc_0 rfl rfl rfl rp_dr_k rp_dr_p dX10_text_52 ?_
      refine T_aload_n hok 1 rfl rfl dX10_text_55 ?_
      refine T_getR hok fr_X10_37 lc_0 rc_0_5 dX10_text_56 ?_
      refine T_aload_n hok 1 rfl rfl dX10_text_59 ?_
      refine T_getR hok fr_X10_18 lc_0 rc_0_2 dX10_text_60 ?_
      refine T_cv1 (CR_V (rest := []) hok (ct_X8_start hA townAt_38 (bookAt_c hdr) I4 J) mw_X8_start mv_X8_start ml_X10_82 lc_38 dX10_text_63 rfl rfl (roomOk rfl) rfl) rfl rfl ?_
      intro I5
      refine T_aload_n hok 1 rfl rfl dX10_text_66 ?_
      refine T_getR hok fr_X10_64 lc_0 rc_0_11 dX10_text_67 ?_
      refine T_cv1 (CR_V (rest := []) hok (ct_X2_clear hA I5 J) mw_X2_clear mv_X2_clear ml_X10_98 lc_70 dX10_text_70 rfl rfl (roomOk rfl) rfl) rfl rfl ?_
      intro I6
      refine T_aload_n hok 1 rfl rfl dX10_text_73 ?_
      refine T_getR hok fr_X10_57 lc_0 rc_0_10 dX10_text_74 ?_
      refine T_cv1 (CR_V (rest := []) hok (ct_X9_clear hA I6 J) mw_X9_clear mv_X9_clear ml_X10_101 lc_64 dX10_text_77 rfl rfl (roomOk rfl) rfl) rfl rfl ?_
      intro I7
      refine T_aload_n hok 1 rfl rfl dX10_text_80 ?_
      refine T_iconst hok ic_0 dX10_text_81 ?_
      refine T_putZ hok hA fr_X10_102 rfl rfl lc_0 dX10_text_82 ?_
      intro I8
      refine T_aload_n hok 1 rfl rfl dX10_text_85 ?_
      refine T_getR hok fr_X10_30 lc_0 rc_0_4 dX10_text_86 ?_
      refine T_getI hok fr_X10_106 lc_34 dX10_text_89 ?_
      exact T_iret hok dX10_text_92 (Nat.zero_le _) (Nat.zero_le _) rfl
    refine T_iconst hok ic_m1 dX10_text_35 ?_
    exact T_iret hok dX10_text_36 (Nat.zero_le _) (Nat.zero_le _) rfl
  refine T_sub (lv' := []) [] rfl ?_
  exact hj12

set_option maxHeartbeats 4000000 in
set_option maxRecDepth 100000 in
theorem ct_X10_fault {G : Gx} {l0 : Launch} {A : Nat → Prop} {b bk dr it : Nat} (hA : ∀ k, k < Lc.length → A (b + k)) (I : MI) (J : MJ) (a1 : Int32) : Ct G l0 A yX10_fault cX10_fault 2 (some .int) { frames := 0, cells := 0, slots := 0, locals := 0 } [.ref (b + 0), .int a1] (Rg G b Lc (Rc b bk dr it) I J) (ii0 (Rg G b Lc (Rc b bk dr it) I J)) (f_X10_fault I a1) := by
  refine Ct.of rfl (Nat.le_of_ble_eq_true rfl) ?_
  intro X hok
  replace hok : Ok G l0 X RX10 cX10_fault 2 { frames := 0, cells := 0, slots := 0, locals := 0 } (some .int) := hok
  delta f_X10_fault
  show T X A (Zm X A (ii0 (Rg G b Lc (Rc b bk dr it) I J))) 2 0 0 0 [(0, .ref (b + 0)), (1, .int a1)] [] (Rg G b Lc (Rc b bk dr it) I J) _
  refine T_iload_n hok 1 rfl rfl dX10_fault_0 ?_
  refine T_swc (fun hx0 => ?_) (fun hx0 => ?_)
  · refine T_lin (tgt := 28) hok hx0 dX10_fault_1 rfl rfl rfl ?_
    refine T_aload_n hok 0 rfl rfl dX10_fault_28 ?_
    refine T_getR hok fr_X10_30 lc_0 rc_0_4 dX10_fault_29 ?_
    refine T_getI hok fr_X10_109 lc_34 dX10_fault_32 ?_
    exact T_iret hok dX10_fault_35 (Nat.zero_le _) (Nat.zero_le _) rfl
  refine T_swc (fun hx1 => ?_) (fun hx1 => ?_)
  · refine T_lin (tgt := 36) hok hx1 dX10_fault_1 rfl rfl rfl ?_
    refine T_aload_n hok 0 rfl rfl dX10_fault_36 ?_
    refine T_getR hok fr_X10_30 lc_0 rc_0_4 dX10_fault_37 ?_
    refine T_getI hok fr_X10_112 lc_34 dX10_fault_40 ?_
    exact T_iret hok dX10_fault_43 (Nat.zero_le _) (Nat.zero_le _) rfl
  refine T_swd ?_
  have nhx0 := toInt_ne (n := 0) rfl hx0
  have nhx1 := toInt_ne (n := 1) rfl hx1
  refine T_lout (tgt := 44) (off := 43) hok dX10_fault_1 rfl (by simp [Op.lookupswitch.offset, Ne.symm nhx0, Ne.symm nhx1]) rfl ?_
  refine T_iconst hok ic_m1 dX10_fault_44 ?_
  exact T_iret hok dX10_fault_45 (Nat.zero_le _) (Nat.zero_le _) rfl

set_option maxHeartbeats 4000000 in
set_option maxRecDepth 100000 in
theorem ct_X10_named {G : Gx} {l0 : Launch} {A : Nat → Prop} {b bk dr it : Nat} (hA : ∀ k, k < Lc.length → A (b + k)) (hbk : isBk bk = true) (I : MI) (J : MJ) (a1 : Int32) (a2 : Int32) : Ct G l0 A yX10_named cX10_named 3 (some .int) { frames := 2, cells := 0, slots := 0, locals := 44 } [.ref (b + 0), .int a1, .int a2] (Rg G b Lc (Rc b bk dr it) I J) (ii0 (Rg G b Lc (Rc b bk dr it) I J)) (f_X10_named bk I a1 a2) := by
  refine Ct.of rfl (Nat.le_of_ble_eq_true rfl) ?_
  intro X hok
  replace hok : Ok G l0 X RX10 cX10_named 3 { frames := 2, cells := 0, slots := 0, locals := 44 } (some .int) := hok
  delta f_X10_named
  show T X A (Zm X A (ii0 (Rg G b Lc (Rc b bk dr it) I J))) 3 0 0 0 [(0, .ref (b + 0)), (1, .int a1), (2, .int a2)] [] (Rg G b Lc (Rc b bk dr it) I J) _
  refine T_iload_n hok 1 rfl rfl dX10_named_0 ?_
  refine T_swc (fun hx0 => ?_) (fun hx0 => ?_)
  · refine T_lin (tgt := 28) hok hx0 dX10_named_1 rfl rfl rfl ?_
    refine T_aload_n hok 0 rfl rfl dX10_named_28 ?_
    refine T_getR hok fr_X10_18 lc_0 rc_0_2 dX10_named_29 ?_
    refine T_iload_n hok 2 rfl rfl dX10_named_32 ?_
    refine T_ci0 (CR_V (rest := []) hok (ct_X0_kindNamed hA (bookAt_c hbk) I J a2) mw_X0_kindNamed mv_X0_kindNamed ml_X10_115 (bookAt_c (b := 0) (bk := 0) (dr := 0) (it := 0) hbk).o dX10_named_33 rfl rfl (roomOk rfl) rfl) rfl rfl ?_
    intro x1
    exact T_iret hok dX10_named_36 (Nat.zero_le _) (Nat.zero_le _) rfl
  refine T_swc (fun hx1 => ?_) (fun hx1 => ?_)
  · refine T_lin (tgt := 37) hok hx1 dX10_named_1 rfl rfl rfl ?_
    refine T_aload_n hok 0 rfl rfl dX10_named_37 ?_
    refine T_getR hok fr_X10_18 lc_0 rc_0_2 dX10_named_38 ?_
    refine T_iload_n hok 2 rfl rfl dX10_named_41 ?_
    refine T_ci0 (CR_V (rest := []) hok (ct_X0_houseNamed hA (bookAt_c hbk) I J a2) mw_X0_houseNamed mv_X0_houseNamed ml_X10_119 (bookAt_c (b := 0) (bk := 0) (dr := 0) (it := 0) hbk).o dX10_named_42 rfl rfl (roomOk rfl) rfl) rfl rfl ?_
    intro x2
    exact T_iret hok dX10_named_45 (Nat.zero_le _) (Nat.zero_le _) rfl
  refine T_swd ?_
  have nhx0 := toInt_ne (n := 0) rfl hx0
  have nhx1 := toInt_ne (n := 1) rfl hx1
  refine T_lout (tgt := 46) (off := 45) hok dX10_named_1 rfl (by simp [Op.lookupswitch.offset, Ne.symm nhx0, Ne.symm nhx1]) rfl ?_
  refine T_iconst hok ic_m1 dX10_named_46 ?_
  exact T_iret hok dX10_named_47 (Nat.zero_le _) (Nat.zero_le _) rfl

set_option maxHeartbeats 4000000 in
set_option maxRecDepth 100000 in
theorem ct_X10_isKind {G : Gx} {l0 : Launch} {A : Nat → Prop} {b bk dr it : Nat} (hA : ∀ k, k < Lc.length → A (b + k)) (hbk : isBk bk = true) (I : MI) (J : MJ) (a1 : Int32) : Ct G l0 A yX10_isKind cX10_isKind 2 (some .boolean) { frames := 1, cells := 0, slots := 0, locals := 22 } [.ref (b + 0), .int a1] (Rg G b Lc (Rc b bk dr it) I J) (iz0 (Rg G b Lc (Rc b bk dr it) I J)) (f_X10_isKind bk I a1) := by
  refine Ct.of rfl (Nat.le_of_ble_eq_true rfl) ?_
  intro X hok
  replace hok : Ok G l0 X RX10 cX10_isKind 2 { frames := 1, cells := 0, slots := 0, locals := 22 } (some .boolean) := hok
  delta f_X10_isKind
  show T X A (Zm X A (iz0 (Rg G b Lc (Rc b bk dr it) I J))) 2 0 0 0 [(0, .ref (b + 0)), (1, .int a1)] [] (Rg G b Lc (Rc b bk dr it) I J) _
  refine T_iload_n hok 1 rfl rfl dX10_isKind_0 ?_
  refine T_iconst hok ic_0 dX10_isKind_1 ?_
  refine T_aload_n hok 0 rfl rfl dX10_isKind_2 ?_
  refine T_getR hok fr_X10_18 lc_0 rc_0_2 dX10_isKind_3 ?_
  refine T_getI hok fr_X10_209 (bookAt_c (b := 0) (bk := 0) (dr := 0) (it := 0) hbk).o dX10_isKind_6 ?_
  refine T_iconst hok ic_1 dX10_isKind_9 ?_
  refine T_isub hok dX10_isKind_10 ?_
  refine T_cz0 (CR_S (rest := []) hok (ct_X10_isWithin a1 (0 : Int32) ((I bk 11) - (1 : Int32))) mw_X10_isWithin mst_X10_isWithin ml_X10_173 dX10_isKind_11 rfl rfl (roomOk rfl) rfl) rfl rfl ?_
  intro x1
  exact T_zret hok dX10_isKind_14 (Nat.zero_le _) (Nat.zero_le _) (bi_01 _) rfl

set_option maxHeartbeats 4000000 in
set_option maxRecDepth 100000 in
theorem ct_X10_kind {G : Gx} {l0 : Launch} {A : Nat → Prop} {b bk dr it : Nat} (hA : ∀ k, k < Lc.length → A (b + k)) (hbk : isBk bk = true) (I : MI) (J : MJ) (a1 : Int32) (a2 : Int32) : Ct G l0 A yX10_kind cX10_kind 3 (some .int) { frames := 2, cells := 0, slots := 0, locals := 43 } [.ref (b + 0), .int a1, .int a2] (Rg G b Lc (Rc b bk dr it) I J) (ii0 (Rg G b Lc (Rc b bk dr it) I J)) (f_X10_kind bk I a1 a2) := by
  refine Ct.of rfl (Nat.le_of_ble_eq_true rfl) ?_
  intro X hok
  replace hok : Ok G l0 X RX10 cX10_kind 3 { frames := 2, cells := 0, slots := 0, locals := 43 } (some .int) := hok
  delta f_X10_kind
  show T X A (Zm X A (ii0 (Rg G b Lc (Rc b bk dr it) I J))) 3 0 0 0 [(0, .ref (b + 0)), (1, .int a1), (2, .int a2)] [] (Rg G b Lc (Rc b bk dr it) I J) _
  refine T_aload_n hok 0 rfl rfl dX10_kind_0 ?_
  refine T_iload_n hok 1 rfl rfl dX10_kind_1 ?_
  refine T_cz0 (CR_V (rest := []) hok (ct_X10_isKind hA hbk I J a1) mw_X10_isKind mv_X10_isKind ml_X10_161 lc_0 dX10_kind_2 rfl rfl (roomOk rfl) rfl) rfl rfl ?_
  intro x1
  refine T_ifb_ne (tgt := 10) hok dX10_kind_5 rfl ?_ ?_
  · refine T_iload_n hok 2 rfl rfl dX10_kind_10 ?_
    refine T_swc (fun hx0 => ?_) (fun hx0 => ?_)
    · refine T_tin (tgt := 36) hok hx0 dX10_kind_11 (by decide) (by decide) rfl rfl ?_
      refine T_aload_n hok 0 rfl rfl dX10_kind_36 ?_
      refine T_getR hok fr_X10_18 lc_0 rc_0_2 dX10_kind_37 ?_
      refine T_getR hok fr_X10_164 (bookAt_c (b := 0) (bk := 0) (dr := 0) (it := 0) hbk).o (bookAt_c hbk).r1 dX10_kind_40 ?_
      refine T_iload_n hok 1 rfl rfl dX10_kind_43 ?_
      refine T_iald hok (bookAt_c (b := 0) (bk := 0) (dr := 0) (it := 0) hbk).l1 dX10_kind_44 ?_
      exact T_iret hok dX10_kind_45 (Nat.zero_le _) (Nat.zero_le _) rfl
    refine T_swc (fun hx1 => ?_) (fun hx1 => ?_)
    · refine T_tin (tgt := 46) hok hx1 dX10_kind_11 (by decide) (by decide) rfl rfl ?_
      refine T_aload_n hok 0 rfl rfl dX10_kind_46 ?_
      refine T_getR hok fr_X10_18 lc_0 rc_0_2 dX10_kind_47 ?_
      refine T_getR hok fr_X10_167 (bookAt_c (b := 0) (bk := 0) (dr := 0) (it := 0) hbk).o (bookAt_c hbk).r2 dX10_kind_50 ?_
      refine T_iload_n hok 1 rfl rfl dX10_kind_53 ?_
      refine T_iald hok (bookAt_c (b := 0) (bk := 0) (dr := 0) (it := 0) hbk).l2 dX10_kind_54 ?_
      exact T_iret hok dX10_kind_55 (Nat.zero_le _) (Nat.zero_le _) rfl
    refine T_swc (fun hx2 => ?_) (fun hx2 => ?_)
    · refine T_tin (tgt := 56) hok hx2 dX10_kind_11 (by decide) (by decide) rfl rfl ?_
      refine T_aload_n hok 0 rfl rfl dX10_kind_56 ?_
      refine T_getR hok fr_X10_37 lc_0 rc_0_5 dX10_kind_57 ?_
      refine T_getR hok fr_X10_170 lc_38 rc_38_6 dX10_kind_60 ?_
      refine T_iload_n hok 1 rfl rfl dX10_kind_63 ?_
      refine T_iald hok lc_45 dX10_kind_64 ?_
      exact T_iret hok dX10_kind_65 (Nat.zero_le _) (Nat.zero_le _) rfl
    refine T_swd ?_
    have nhx0 := toInt_ne (n := 0) rfl hx0
    have nhx1 := toInt_ne (n := 1) rfl hx1
    have nhx2 := toInt_ne (n := 2) rfl hx2
    refine T_tdf (tgt := 66) (n := 3) hok dX10_kind_11 rfl (fun j hj he => ?_) rfl ?_
    · rcases (show j = 0 ∨ j = 1 ∨ j = 2 by omega) with rfl | rfl | rfl <;> first | rfl | (exfalso; omega)
    refine T_iconst hok ic_m1 dX10_kind_66 ?_
    exact T_iret hok dX10_kind_67 (Nat.zero_le _) (Nat.zero_le _) rfl
  refine T_iconst hok ic_m1 dX10_kind_8 ?_
  exact T_iret hok dX10_kind_9 (Nat.zero_le _) (Nat.zero_le _) rfl

set_option maxHeartbeats 4000000 in
set_option maxRecDepth 100000 in
theorem ct_X10_kindIn {G : Gx} {l0 : Launch} {A : Nat → Prop} {b bk dr it : Nat} (hA : ∀ k, k < Lc.length → A (b + k)) (hbk : isBk bk = true) (I : MI) (J : MJ) (a1 : Int32) : Ct G l0 A yX10_kindIn cX10_kindIn 2 (some .int) { frames := 4, cells := 0, slots := 0, locals := 85 } [.ref (b + 0), .int a1] (Rg G b Lc (Rc b bk dr it) I J) (ii0 (Rg G b Lc (Rc b bk dr it) I J)) (f_X10_kindIn bk I a1) := by
  refine Ct.of rfl (Nat.le_of_ble_eq_true rfl) ?_
  intro X hok
  replace hok : Ok G l0 X RX10 cX10_kindIn 2 { frames := 4, cells := 0, slots := 0, locals := 85 } (some .int) := hok
  delta f_X10_kindIn
  show T X A (Zm X A (ii0 (Rg G b Lc (Rc b bk dr it) I J))) 2 0 0 0 [(0, .ref (b + 0)), (1, .int a1)] [] (Rg G b Lc (Rc b bk dr it) I J) _
  refine T_iload_n hok 1 rfl rfl dX10_kindIn_0 ?_
  refine T_jp _ (fun (j41 : Int32 → Option (Int32)) => ∀ (x1 : Int32), T X A (Zm X A (ii0 (Rg G b Lc (Rc b bk dr it) I J))) 2 0 0 41 [] [.int x1] (Rg G b Lc (Rc b bk dr it) I J) (j41 x1)) _ ?_ ?_
  · intro x1
    exact T_iret hok dX10_kindIn_41 (Nat.zero_le _) (Nat.zero_le _) rfl
  intro j41 hj41
  refine T_jp _ (fun (j25 : Option (Int32)) => T X A (Zm X A (ii0 (Rg G b Lc (Rc b bk dr it) I J))) 2 0 0 25 [(0, .ref (b + 0)), (1, .int a1)] [] (Rg G b Lc (Rc b bk dr it) I J) (j25)) _ ?_ ?_
  · skip
    refine T_aload_n hok 0 rfl rfl dX10_kindIn_25 ?_
    refine T_getR hok fr_X10_18 lc_0 rc_0_2 dX10_kindIn_26 ?_
    refine T_aload_n hok 0 rfl rfl dX10_kindIn_29 ?_
    refine T_getR hok fr_X10_37 lc_0 rc_0_5 dX10_kindIn_30 ?_
    refine T_getI hok fr_X10_231 lc_38 dX10_kindIn_33 ?_
    refine T_iload_n hok 1 rfl rfl dX10_kindIn_36 ?_
    refine T_iadd hok dX10_kindIn_37 ?_
    refine T_ci0 (CR_V (rest := []) hok (ct_X0_kindAsItGoes hA (bookAt_c hbk) I J ((I 38 8) + a1)) mw_X0_kindAsItGoes mv_X0_kindAsItGoes ml_X10_296 (bookAt_c (b := 0) (bk := 0) (dr := 0) (it := 0) hbk).o dX10_kindIn_38 rfl rfl (roomOk rfl) rfl) rfl rfl ?_
    intro x2
    refine T_sub (lv' := []) [] rfl ?_
    exact hj41 x2
  intro j25 hj25
  refine T_if_ne (tgt := 25) hok dX10_kindIn_1 rfl ?_ ?_
  · refine T_aload_n hok 0 rfl rfl dX10_kindIn_4 ?_
    refine T_getR hok fr_X10_37 lc_0 rc_0_5 dX10_kindIn_5 ?_
    refine T_getI hok fr_X10_264 lc_38 dX10_kindIn_8 ?_
    refine T_iconst hok ic_m1 dX10_kindIn_11 ?_
    refine T_icmp_eq (tgt := 25) hok dX10_kindIn_12 rfl ?_ ?_
    · exact hj25
    refine T_aload_n hok 0 rfl rfl dX10_kindIn_15 ?_
    refine T_getR hok fr_X10_37 lc_0 rc_0_5 dX10_kindIn_16 ?_
    refine T_getI hok fr_X10_264 lc_38 dX10_kindIn_19 ?_
    refine T_goto (tgt := 41) hok dX10_kindIn_22 rfl ?_
    refine T_sub (lv' := []) [] rfl ?_
    exact hj41 (I 38 9)
  exact hj25

set_option maxHeartbeats 4000000 in
set_option maxRecDepth 100000 in
theorem ct_X10_weather {G : Gx} {l0 : Launch} {A : Nat → Prop} {b bk dr it : Nat} (hA : ∀ k, k < Lc.length → A (b + k)) (hbk : isBk bk = true) (I : MI) (J : MJ) (a1 : Int32) : Ct G l0 A yX10_weather cX10_weather 3 (some .int) { frames := 5, cells := 0, slots := 0, locals := 106 } [.ref (b + 0), .int a1] (Rg G b Lc (Rc b bk dr it) I J) (ii0 (Rg G b Lc (Rc b bk dr it) I J)) (f_X10_weather bk I a1) := by
  refine Ct.of rfl (Nat.le_of_ble_eq_true rfl) ?_
  intro X hok
  replace hok : Ok G l0 X RX10 cX10_weather 3 { frames := 5, cells := 0, slots := 0, locals := 106 } (some .int) := hok
  delta f_X10_weather
  show T X A (Zm X A (ii0 (Rg G b Lc (Rc b bk dr it) I J))) 3 0 0 0 [(0, .ref (b + 0)), (1, .int a1)] [] (Rg G b Lc (Rc b bk dr it) I J) _
  refine T_iload_n hok 1 rfl rfl dX10_weather_0 ?_
  refine T_iconst hok ic_0 dX10_weather_1 ?_
  refine T_sipush hok sp_200 dX10_weather_2 ?_
  refine T_cz0 (CR_S (rest := []) hok (ct_X10_isWithin a1 (0 : Int32) (200 : Int32)) mw_X10_isWithin mst_X10_isWithin ml_X10_173 dX10_weather_5 rfl rfl (roomOk rfl) rfl) rfl rfl ?_
  intro x1
  refine T_ifb_ne (tgt := 13) hok dX10_weather_8 rfl ?_ ?_
  · refine T_aload_n hok 0 rfl rfl dX10_weather_13 ?_
    refine T_iload_n hok 1 rfl rfl dX10_weather_14 ?_
    refine T_ci0 (CR_V (rest := []) hok (ct_X10_kindIn hA hbk I J a1) mw_X10_kindIn mv_X10_kindIn ml_X10_177 lc_0 dX10_weather_15 rfl rfl (roomOk rfl) rfl) rfl rfl ?_
    intro x2
    refine T_istore_n (lv' := [(2, .int x2), (0, .ref (b + 0)), (1, .int a1)]) hok rfl (by decide) rfl dX10_weather_18 ?_
    refine T_iload_n hok 0 rfl rfl dX10_weather_19 ?_
    refine T_iconst hok ic_m1 dX10_weather_20 ?_
    refine T_jp _ (fun (j30 : Int32 → Option (Int32)) => ∀ (x3 : Int32), T X A (Zm X A (ii0 (Rg G b Lc (Rc b bk dr it) I J))) 3 0 0 30 [] [.int x3] (Rg G b Lc (Rc b bk dr it) I J) (j30 x3)) _ ?_ ?_
    · intro x3
      exact T_iret hok dX10_weather_30 (Nat.zero_le _) (Nat.zero_le _) rfl
    intro j30 hj30
    refine T_icmp_ne (tgt := 29) hok dX10_weather_21 rfl ?_ ?_
    · refine T_bipush hok bp_m2 dX10_weather_24 ?_
      refine T_goto (tgt := 30) hok dX10_weather_26 rfl ?_
      refine T_sub (lv' := []) [] rfl ?_
      exact hj30 (-2 : Int32)
    refine T_iload_n hok 0 rfl rfl dX10_weather_29 ?_
    refine T_sub (lv' := []) [] rfl ?_
    exact hj30 x2
  refine T_iconst hok ic_m1 dX10_weather_11 ?_
  exact T_iret hok dX10_weather_12 (Nat.zero_le _) (Nat.zero_le _) rfl

set_option maxHeartbeats 4000000 in
set_option maxRecDepth 100000 in
theorem ct_X10_isHouse {G : Gx} {l0 : Launch} {A : Nat → Prop} {b bk dr it : Nat} (hA : ∀ k, k < Lc.length → A (b + k)) (hbk : isBk bk = true) (I : MI) (J : MJ) (a1 : Int32) : Ct G l0 A yX10_isHouse cX10_isHouse 2 (some .boolean) { frames := 1, cells := 0, slots := 0, locals := 22 } [.ref (b + 0), .int a1] (Rg G b Lc (Rc b bk dr it) I J) (iz0 (Rg G b Lc (Rc b bk dr it) I J)) (f_X10_isHouse bk I a1) := by
  refine Ct.of rfl (Nat.le_of_ble_eq_true rfl) ?_
  intro X hok
  replace hok : Ok G l0 X RX10 cX10_isHouse 2 { frames := 1, cells := 0, slots := 0, locals := 22 } (some .boolean) := hok
  delta f_X10_isHouse
  show T X A (Zm X A (iz0 (Rg G b Lc (Rc b bk dr it) I J))) 2 0 0 0 [(0, .ref (b + 0)), (1, .int a1)] [] (Rg G b Lc (Rc b bk dr it) I J) _
  refine T_iload_n hok 1 rfl rfl dX10_isHouse_0 ?_
  refine T_iconst hok ic_0 dX10_isHouse_1 ?_
  refine T_aload_n hok 0 rfl rfl dX10_isHouse_2 ?_
  refine T_getR hok fr_X10_18 lc_0 rc_0_2 dX10_isHouse_3 ?_
  refine T_getI hok fr_X10_203 (bookAt_c (b := 0) (bk := 0) (dr := 0) (it := 0) hbk).o dX10_isHouse_6 ?_
  refine T_iconst hok ic_1 dX10_isHouse_9 ?_
  refine T_isub hok dX10_isHouse_10 ?_
  refine T_cz0 (CR_S (rest := []) hok (ct_X10_isWithin a1 (0 : Int32) ((I bk 12) - (1 : Int32))) mw_X10_isWithin mst_X10_isWithin ml_X10_173 dX10_isHouse_11 rfl rfl (roomOk rfl) rfl) rfl rfl ?_
  intro x1
  exact T_zret hok dX10_isHouse_14 (Nat.zero_le _) (Nat.zero_le _) (bi_01 _) rfl

set_option maxHeartbeats 4000000 in
set_option maxRecDepth 100000 in
theorem ct_X10_law {G : Gx} {l0 : Launch} {A : Nat → Prop} {b bk dr it : Nat} (hA : ∀ k, k < Lc.length → A (b + k)) (hbk : isBk bk = true) (I : MI) (J : MJ) (a1 : Int32) (a2 : Int32) (a3 : Int32) : Ct G l0 A yX10_law cX10_law 4 (some .long) { frames := 3, cells := 0, slots := 0, locals := 77 } [.ref (b + 0), .int a1, .int a2, .int a3] (Rg G b Lc (Rc b bk dr it) I J) (il2 (fun (I' : MI) (J' : MJ) => Rg G b Lc (Rc b bk dr it) I' J')) (f_X10_law bk I J a1 a2 a3) := by
  refine Ct.of rfl (Nat.le_of_ble_eq_true rfl) ?_
  intro X hok
  replace hok : Ok G l0 X RX10 cX10_law 4 { frames := 3, cells := 0, slots := 0, locals := 77 } (some .long) := hok
  delta f_X10_law
  show T X A (Zm X A (il2 (fun (I' : MI) (J' : MJ) => Rg G b Lc (Rc b bk dr it) I' J'))) 4 0 0 0 [(0, .ref (b + 0)), (1, .int a1), (2, .int a2), (3, .int a3)] [] (Rg G b Lc (Rc b bk dr it) I J) _
  refine T_iload_n hok 1 rfl rfl dX10_law_0 ?_
  refine T_iconst hok ic_0 dX10_law_1 ?_
  refine T_iconst hok ic_2 dX10_law_2 ?_
  refine T_cz0 (CR_S (rest := []) hok (ct_X10_isWithin a1 (0 : Int32) (2 : Int32)) mw_X10_isWithin mst_X10_isWithin ml_X10_173 dX10_law_3 rfl rfl (roomOk rfl) rfl) rfl rfl ?_
  intro x1
  refine T_jp _ (fun (j25 : Option (Int64 × MI × MJ)) => T X A (Zm X A (il2 (fun (I' : MI) (J' : MJ) => Rg G b Lc (Rc b bk dr it) I' J'))) 4 0 0 25 [] [] (Rg G b Lc (Rc b bk dr it) I J) (j25)) _ ?_ ?_
  · skip
    refine T_ldc2 hok lk_X10_180 dX10_law_25 ?_
    exact T_lret hok dX10_law_28 (Nat.zero_le _) (Nat.zero_le _) rfl
  intro j25 hj25
  refine T_ifb_eq (tgt := 25) hok dX10_law_6 rfl ?_ ?_
  · refine T_aload_n hok 0 rfl rfl dX10_law_9 ?_
    refine T_iload_n hok 2 rfl rfl dX10_law_10 ?_
    refine T_cz0 (CR_V (rest := []) hok (ct_X10_isHouse hA hbk I J a2) mw_X10_isHouse mv_X10_isHouse ml_X10_122 lc_0 dX10_law_11 rfl rfl (roomOk rfl) rfl) rfl rfl ?_
    intro x2
    refine T_ifb_eq (tgt := 25) hok dX10_law_14 rfl ?_ ?_
    · refine T_aload_n hok 0 rfl rfl dX10_law_17 ?_
      refine T_iload_n hok 3 rfl rfl dX10_law_18 ?_
      refine T_cz0 (CR_V (rest := []) hok (ct_X10_isKind hA hbk I J a3) mw_X10_isKind mv_X10_isKind ml_X10_161 lc_0 dX10_law_19 rfl rfl (roomOk rfl) rfl) rfl rfl ?_
      intro x3
      refine T_ifb_ne (tgt := 29) hok dX10_law_22 rfl ?_ ?_
      · refine T_aload_n hok 0 rfl rfl dX10_law_29 ?_
        refine T_getR hok fr_X10_50 lc_0 rc_0_9 dX10_law_30 ?_
        refine T_cv1 (CR_V (rest := []) hok (ct_X1_plain hA I J) mw_X1_plain mv_X1_plain ml_X10_182 lc_62 dX10_law_33 rfl rfl (roomOk rfl) rfl) rfl rfl ?_
        intro I4
        refine T_aload_n hok 0 rfl rfl dX10_law_36 ?_
        refine T_getR hok fr_X10_50 lc_0 rc_0_9 dX10_law_37 ?_
        refine T_aload_n hok 0 rfl rfl dX10_law_40 ?_
        refine T_getR hok fr_X10_18 lc_0 rc_0_2 dX10_law_41 ?_
        refine T_aload_n hok 0 rfl rfl dX10_law_44 ?_
        refine T_getR hok fr_X10_37 lc_0 rc_0_5 dX10_law_45 ?_
        refine T_iload_n hok 2 rfl rfl dX10_law_48 ?_
        refine T_iload_n hok 3 rfl rfl dX10_law_49 ?_
        refine T_cv1 (CR_V (rest := []) hok (ct_X1_name hA hbk isTn_38 I4 J a2 a3) mw_X1_name mv_X1_name ml_X10_185 lc_62 dX10_law_50 rfl rfl (roomOk rfl) rfl) rfl rfl ?_
        intro J5
        refine T_aload_n hok 0 rfl rfl dX10_law_53 ?_
        refine T_getR hok fr_X10_18 lc_0 rc_0_2 dX10_law_54 ?_
        refine T_getR hok fr_X10_189 (bookAt_c (b := 0) (bk := 0) (dr := 0) (it := 0) hbk).o (bookAt_c hbk).r10 dX10_law_57 ?_
        refine T_iload_n hok 1 rfl rfl dX10_law_60 ?_
        refine T_aload_n hok 0 rfl rfl dX10_law_61 ?_
        refine T_getR hok fr_X10_50 lc_0 rc_0_9 dX10_law_62 ?_
        refine T_getR hok fr_X10_193 lc_62 rc_62_0 dX10_law_65 ?_
        refine T_cl1 (CR_V (rest := []) hok (ct_X4_value hA (bookAt_c hbk).laws lc_63 I4 J5 a1) mw_X4_value mv_X4_value ml_X10_197 (bookAt_c (b := 0) (bk := 0) (dr := 0) (it := 0) hbk).laws.o dX10_law_68 rfl rfl (roomOk rfl) rfl) rfl rfl ?_
        intro x6 J7
        exact T_lret hok dX10_law_71 (Nat.zero_le _) (Nat.zero_le _) rfl
      refine T_sub (lv' := []) [] rfl ?_
      exact hj25
    refine T_sub (lv' := []) [] rfl ?_
    exact hj25
  refine T_sub (lv' := []) [] rfl ?_
  exact hj25

set_option maxHeartbeats 4000000 in
set_option maxRecDepth 100000 in
theorem ct_X10_richest {G : Gx} {l0 : Launch} {A : Nat → Prop} {b bk dr it : Nat} (hA : ∀ k, k < Lc.length → A (b + k)) (hbk : isBk bk = true) (I : MI) (J : MJ) : Ct G l0 A yX10_richest cX10_richest 3 (some .int) { frames := 1, cells := 0, slots := 0, locals := 21 } [.ref (b + 0)] (Rg G b Lc (Rc b bk dr it) I J) (ii0 (Rg G b Lc (Rc b bk dr it) I J)) (f_X10_richest bk I) := by
  refine Ct.of rfl (Nat.le_of_ble_eq_true rfl) ?_
  intro X hok
  replace hok : Ok G l0 X RX10 cX10_richest 3 { frames := 1, cells := 0, slots := 0, locals := 21 } (some .int) := hok
  delta f_X10_richest
  show T X A (Zm X A (ii0 (Rg G b Lc (Rc b bk dr it) I J))) 3 0 0 0 [(0, .ref (b + 0))] [] (Rg G b Lc (Rc b bk dr it) I J) _
  refine T_bipush hok bp_m2 dX10_richest_0 ?_
  refine T_istore_n (lv' := [(1, .int (-2 : Int32)), (0, .ref (b + 0))]) hok rfl (by decide) rfl dX10_richest_2 ?_
  refine T_iconst hok ic_0 dX10_richest_3 ?_
  refine T_istore_n (lv' := [(2, .int (0 : Int32)), (1, .int (-2 : Int32)), (0, .ref (b + 0))]) hok rfl (by decide) rfl dX10_richest_4 ?_
  refine T_sub (lv' := [(0, .ref (b + 0)), (1, .int (-2 : Int32)), (2, .int (0 : Int32))]) [2, 1, 0] rfl ?_
  refine T_fix2 _ (fun (x1 : Int32) (x2 : Int32) => [(0, .ref (b + 0)), (1, .int x1), (2, .int x2)]) (fun (x1 : Int32) (x2 : Int32) => Rg G b Lc (Rc b bk dr it) I J) ?_ FU (-2 : Int32) (0 : Int32)
  intro r5 hr5 x1 x2
  refine T_iload_n hok 2 rfl rfl dX10_richest_5 ?_
  refine T_aload_n hok 0 rfl rfl dX10_richest_6 ?_
  refine T_getR hok fr_X10_18 lc_0 rc_0_2 dX10_richest_7 ?_
  refine T_getI hok fr_X10_203 (bookAt_c (b := 0) (bk := 0) (dr := 0) (it := 0) hbk).o dX10_richest_10 ?_
  refine T_icmp_ge (tgt := 61) hok dX10_richest_13 rfl ?_ ?_
  · refine T_iload_n hok 1 rfl rfl dX10_richest_61 ?_
    exact T_iret hok dX10_richest_62 (Nat.zero_le _) (Nat.zero_le _) rfl
  refine T_aload_n hok 0 rfl rfl dX10_richest_16 ?_
  refine T_getR hok fr_X10_37 lc_0 rc_0_5 dX10_richest_17 ?_
  refine T_getR hok fr_X10_149 lc_38 rc_38_4 dX10_richest_20 ?_
  refine T_iload_n hok 2 rfl rfl dX10_richest_23 ?_
  refine T_zald hok lc_43 dX10_richest_24 ?_
  refine T_jp _ (fun (j55 : Int32 → Option (Int32)) => ∀ (x3 : Int32), T X A (Zm X A (ii0 (Rg G b Lc (Rc b bk dr it) I J))) 3 0 0 55 [(0, .ref (b + 0)), (1, .int x3), (2, .int x2)] [] (Rg G b Lc (Rc b bk dr it) I J) (j55 x3)) _ ?_ ?_
  · intro x3
    refine T_iinc (lvs := fun x4 => [(2, .int x4), (0, .ref (b + 0)), (1, .int x3)]) hok 2 rfl ic_1 (by decide) (fun _ => rfl) dX10_richest_55 ?_
    intro x4
    refine T_goto (tgt := 5) hok dX10_richest_58 rfl ?_
    refine T_sub (lv' := [(0, .ref (b + 0)), (1, .int x3), (2, .int x4)]) [1, 2, 0] rfl ?_
    exact hr5 x3 x4
  intro j55 hj55
  refine T_if_ne (tgt := 55) hok dX10_richest_25 rfl ?_ ?_
  · refine T_iload_n hok 1 rfl rfl dX10_richest_28 ?_
    refine T_bipush hok bp_m2 dX10_richest_29 ?_
    refine T_jp _ (fun (j53 : Option (Int32)) => T X A (Zm X A (ii0 (Rg G b Lc (Rc b bk dr it) I J))) 3 0 0 53 [(0, .ref (b + 0)), (2, .int x2)] [] (Rg G b Lc (Rc b bk dr it) I J) (j53)) _ ?_ ?_
    · skip
      refine T_iload_n hok 1 rfl rfl dX10_richest_53 ?_
      refine T_istore_n (lv' := [(1, .int x2), (0, .ref (b + 0)), (2, .int x2)]) hok rfl (by decide) rfl dX10_richest_54 ?_
      refine T_sub (lv' := [(0, .ref (b + 0)), (1, .int x2), (2, .int x2)]) [1, 0, 2] rfl ?_
      exact hj55 x2
    intro j53 hj53
    refine T_icmp_eq (tgt := 53) hok dX10_richest_31 rfl ?_ ?_
    · refine T_sub (lv' := [(0, .ref (b + 0)), (2, .int x2)]) [0, 2] rfl ?_
      exact hj53
    refine T_aload_n hok 0 rfl rfl dX10_richest_34 ?_
    refine T_getR hok fr_X10_37 lc_0 rc_0_5 dX10_richest_35 ?_
    refine T_iload_n hok 2 rfl rfl dX10_richest_38 ?_
    refine T_ci0 (CR_V (rest := []) hok (ct_X8_worthOf hA townAt_38 I J x2) mw_X8_worthOf mv_X8_worthOf ml_X10_206 lc_38 dX10_richest_39 rfl rfl (roomOk rfl) rfl) rfl rfl ?_
    intro x5
    refine T_aload_n hok 0 rfl rfl dX10_richest_42 ?_
    refine T_getR hok fr_X10_37 lc_0 rc_0_5 dX10_richest_43 ?_
    refine T_iload_n hok 1 rfl rfl dX10_richest_46 ?_
    refine T_ci0 (CR_V (rest := [.int x5]) hok (ct_X8_worthOf hA townAt_38 I J x1) mw_X8_worthOf mv_X8_worthOf ml_X10_206 lc_38 dX10_richest_47 rfl rfl (roomOk rfl) rfl) rfl rfl ?_
    intro x6
    refine T_icmp_le (tgt := 55) hok dX10_richest_50 rfl ?_ ?_
    · exact hj55 x1
    refine T_sub (lv' := [(0, .ref (b + 0)), (2, .int x2)]) [0, 2] rfl ?_
    exact hj53
  exact hj55 x1

set_option maxHeartbeats 4000000 in
set_option maxRecDepth 100000 in
theorem ct_X10_dearest {G : Gx} {l0 : Launch} {A : Nat → Prop} {b bk dr it : Nat} (hA : ∀ k, k < Lc.length → A (b + k)) (hbk : isBk bk = true) (I : MI) (J : MJ) : Ct G l0 A yX10_dearest cX10_dearest 3 (some .int) { frames := 0, cells := 0, slots := 0, locals := 0 } [.ref (b + 0)] (Rg G b Lc (Rc b bk dr it) I J) (ii0 (Rg G b Lc (Rc b bk dr it) I J)) (f_X10_dearest bk I) := by
  refine Ct.of rfl (Nat.le_of_ble_eq_true rfl) ?_
  intro X hok
  replace hok : Ok G l0 X RX10 cX10_dearest 3 { frames := 0, cells := 0, slots := 0, locals := 0 } (some .int) := hok
  delta f_X10_dearest
  show T X A (Zm X A (ii0 (Rg G b Lc (Rc b bk dr it) I J))) 3 0 0 0 [(0, .ref (b + 0))] [] (Rg G b Lc (Rc b bk dr it) I J) _
  refine T_bipush hok bp_m2 dX10_dearest_0 ?_
  refine T_istore_n (lv' := [(1, .int (-2 : Int32)), (0, .ref (b + 0))]) hok rfl (by decide) rfl dX10_dearest_2 ?_
  refine T_iconst hok ic_0 dX10_dearest_3 ?_
  refine T_istore_n (lv' := [(2, .int (0 : Int32)), (1, .int (-2 : Int32)), (0, .ref (b + 0))]) hok rfl (by decide) rfl dX10_dearest_4 ?_
  refine T_sub (lv' := [(0, .ref (b + 0)), (1, .int (-2 : Int32)), (2, .int (0 : Int32))]) [2, 1, 0] rfl ?_
  refine T_fix2 _ (fun (x1 : Int32) (x2 : Int32) => [(0, .ref (b + 0)), (1, .int x1), (2, .int x2)]) (fun (x1 : Int32) (x2 : Int32) => Rg G b Lc (Rc b bk dr it) I J) ?_ FU (-2 : Int32) (0 : Int32)
  intro r5 hr5 x1 x2
  refine T_iload_n hok 2 rfl rfl dX10_dearest_5 ?_
  refine T_aload_n hok 0 rfl rfl dX10_dearest_6 ?_
  refine T_getR hok fr_X10_18 lc_0 rc_0_2 dX10_dearest_7 ?_
  refine T_getI hok fr_X10_209 (bookAt_c (b := 0) (bk := 0) (dr := 0) (it := 0) hbk).o dX10_dearest_10 ?_
  refine T_icmp_ge (tgt := 71) hok dX10_dearest_13 rfl ?_ ?_
  · refine T_iload_n hok 1 rfl rfl dX10_dearest_71 ?_
    exact T_iret hok dX10_dearest_72 (Nat.zero_le _) (Nat.zero_le _) rfl
  refine T_iload_n hok 1 rfl rfl dX10_dearest_16 ?_
  refine T_bipush hok bp_m2 dX10_dearest_17 ?_
  refine T_jp _ (fun (j65 : Int32 → Option (Int32)) => ∀ (x3 : Int32), T X A (Zm X A (ii0 (Rg G b Lc (Rc b bk dr it) I J))) 3 0 0 65 [(0, .ref (b + 0)), (1, .int x3), (2, .int x2)] [] (Rg G b Lc (Rc b bk dr it) I J) (j65 x3)) _ ?_ ?_
  · intro x3
    refine T_iinc (lvs := fun x4 => [(2, .int x4), (0, .ref (b + 0)), (1, .int x3)]) hok 2 rfl ic_1 (by decide) (fun _ => rfl) dX10_dearest_65 ?_
    intro x4
    refine T_goto (tgt := 5) hok dX10_dearest_68 rfl ?_
    refine T_sub (lv' := [(0, .ref (b + 0)), (1, .int x3), (2, .int x4)]) [1, 2, 0] rfl ?_
    exact hr5 x3 x4
  intro j65 hj65
  refine T_jp _ (fun (j63 : Option (Int32)) => T X A (Zm X A (ii0 (Rg G b Lc (Rc b bk dr it) I J))) 3 0 0 63 [(0, .ref (b + 0)), (2, .int x2)] [] (Rg G b Lc (Rc b bk dr it) I J) (j63)) _ ?_ ?_
  · skip
    refine T_iload_n hok 1 rfl rfl dX10_dearest_63 ?_
    refine T_istore_n (lv' := [(1, .int x2), (0, .ref (b + 0)), (2, .int x2)]) hok rfl (by decide) rfl dX10_dearest_64 ?_
    refine T_sub (lv' := [(0, .ref (b + 0)), (1, .int x2), (2, .int x2)]) [1, 0, 2] rfl ?_
    exact hj65 x2
  intro j63 hj63
  refine T_icmp_eq (tgt := 63) hok dX10_dearest_19 rfl ?_ ?_
  · refine T_sub (lv' := [(0, .ref (b + 0)), (2, .int x2)]) [0, 2] rfl ?_
    exact hj63
  refine T_aload_n hok 0 rfl rfl dX10_dearest_22 ?_
  refine T_getR hok fr_X10_18 lc_0 rc_0_2 dX10_dearest_23 ?_
  refine T_getR hok fr_X10_164 (bookAt_c (b := 0) (bk := 0) (dr := 0) (it := 0) hbk).o (bookAt_c hbk).r1 dX10_dearest_26 ?_
  refine T_iload_n hok 2 rfl rfl dX10_dearest_29 ?_
  refine T_iald hok (bookAt_c (b := 0) (bk := 0) (dr := 0) (it := 0) hbk).l1 dX10_dearest_30 ?_
  refine T_aload_n hok 0 rfl rfl dX10_dearest_31 ?_
  refine T_getR hok fr_X10_18 lc_0 rc_0_2 dX10_dearest_32 ?_
  refine T_getR hok fr_X10_167 (bookAt_c (b := 0) (bk := 0) (dr := 0) (it := 0) hbk).o (bookAt_c hbk).r2 dX10_dearest_35 ?_
  refine T_iload_n hok 2 rfl rfl dX10_dearest_38 ?_
  refine T_iald hok (bookAt_c (b := 0) (bk := 0) (dr := 0) (it := 0) hbk).l2 dX10_dearest_39 ?_
  refine T_imul hok dX10_dearest_40 ?_
  refine T_aload_n hok 0 rfl rfl dX10_dearest_41 ?_
  refine T_getR hok fr_X10_18 lc_0 rc_0_2 dX10_dearest_42 ?_
  refine T_getR hok fr_X10_164 (bookAt_c (b := 0) (bk := 0) (dr := 0) (it := 0) hbk).o (bookAt_c hbk).r1 dX10_dearest_45 ?_
  refine T_iload_n hok 1 rfl rfl dX10_dearest_48 ?_
  refine T_iald hok (bookAt_c (b := 0) (bk := 0) (dr := 0) (it := 0) hbk).l1 dX10_dearest_49 ?_
  refine T_aload_n hok 0 rfl rfl dX10_dearest_50 ?_
  refine T_getR hok fr_X10_18 lc_0 rc_0_2 dX10_dearest_51 ?_
  refine T_getR hok fr_X10_167 (bookAt_c (b := 0) (bk := 0) (dr := 0) (it := 0) hbk).o (bookAt_c hbk).r2 dX10_dearest_54 ?_
  refine T_iload_n hok 1 rfl rfl dX10_dearest_57 ?_
  refine T_iald hok (bookAt_c (b := 0) (bk := 0) (dr := 0) (it := 0) hbk).l2 dX10_dearest_58 ?_
  refine T_imul hok dX10_dearest_59 ?_
  refine T_icmp_le (tgt := 65) hok dX10_dearest_60 rfl ?_ ?_
  · exact hj65 x1
  refine T_sub (lv' := [(0, .ref (b + 0)), (2, .int x2)]) [0, 2] rfl ?_
  exact hj63

set_option maxHeartbeats 4000000 in
set_option maxRecDepth 100000 in
theorem ct_X10_areHouses {G : Gx} {l0 : Launch} {A : Nat → Prop} {b bk dr it : Nat} (hA : ∀ k, k < Lc.length → A (b + k)) (hbk : isBk bk = true) (I : MI) (J : MJ) (a1 : Int32) : Ct G l0 A yX10_areHouses cX10_areHouses 2 (some .boolean) { frames := 1, cells := 0, slots := 0, locals := 22 } [.ref (b + 0), .int a1] (Rg G b Lc (Rc b bk dr it) I J) (iz0 (Rg G b Lc (Rc b bk dr it) I J)) (f_X10_areHouses bk I a1) := by
  refine Ct.of rfl (Nat.le_of_ble_eq_true rfl) ?_
  intro X hok
  replace hok : Ok G l0 X RX10 cX10_areHouses 2 { frames := 1, cells := 0, slots := 0, locals := 22 } (some .boolean) := hok
  delta f_X10_areHouses
  show T X A (Zm X A (iz0 (Rg G b Lc (Rc b bk dr it) I J))) 2 0 0 0 [(0, .ref (b + 0)), (1, .int a1)] [] (Rg G b Lc (Rc b bk dr it) I J) _
  refine T_iload_n hok 1 rfl rfl dX10_areHouses_0 ?_
  refine T_iconst hok ic_0 dX10_areHouses_1 ?_
  refine T_iconst hok ic_1 dX10_areHouses_2 ?_
  refine T_aload_n hok 0 rfl rfl dX10_areHouses_3 ?_
  refine T_getR hok fr_X10_18 lc_0 rc_0_2 dX10_areHouses_4 ?_
  refine T_getI hok fr_X10_203 (bookAt_c (b := 0) (bk := 0) (dr := 0) (it := 0) hbk).o dX10_areHouses_7 ?_
  refine T_ishl hok dX10_areHouses_10 ?_
  refine T_iconst hok ic_1 dX10_areHouses_11 ?_
  refine T_isub hok dX10_areHouses_12 ?_
  refine T_cz0 (CR_S (rest := []) hok (ct_X10_isWithin a1 (0 : Int32) (((1 : Int32) <<< ((I bk 12) &&& (31 : Int32))) - (1 : Int32))) mw_X10_isWithin mst_X10_isWithin ml_X10_173 dX10_areHouses_13 rfl rfl (roomOk rfl) rfl) rfl rfl ?_
  intro x1
  exact T_zret hok dX10_areHouses_16 (Nat.zero_le _) (Nat.zero_le _) (bi_01 _) rfl

set_option maxHeartbeats 4000000 in
set_option maxRecDepth 100000 in
theorem ct_X10_sumOf {G : Gx} {l0 : Launch} {A : Nat → Prop} {b bk dr it : Nat} (hA : ∀ k, k < Lc.length → A (b + k)) (hbk : isBk bk = true) (I : MI) (J : MJ) (a1 : Int32) : Ct G l0 A yX10_sumOf cX10_sumOf 4 (some .int) { frames := 1, cells := 0, slots := 0, locals := 21 } [.ref (b + 0), .int a1] (Rg G b Lc (Rc b bk dr it) I J) (ii0 (Rg G b Lc (Rc b bk dr it) I J)) (f_X10_sumOf bk I a1) := by
  refine Ct.of rfl (Nat.le_of_ble_eq_true rfl) ?_
  intro X hok
  replace hok : Ok G l0 X RX10 cX10_sumOf 4 { frames := 1, cells := 0, slots := 0, locals := 21 } (some .int) := hok
  delta f_X10_sumOf
  show T X A (Zm X A (ii0 (Rg G b Lc (Rc b bk dr it) I J))) 4 0 0 0 [(0, .ref (b + 0)), (1, .int a1)] [] (Rg G b Lc (Rc b bk dr it) I J) _
  refine T_iconst hok ic_0 dX10_sumOf_0 ?_
  refine T_istore_n (lv' := [(2, .int (0 : Int32)), (0, .ref (b + 0)), (1, .int a1)]) hok rfl (by decide) rfl dX10_sumOf_1 ?_
  refine T_iconst hok ic_0 dX10_sumOf_2 ?_
  refine T_istore_n (lv' := [(3, .int (0 : Int32)), (2, .int (0 : Int32)), (0, .ref (b + 0)), (1, .int a1)]) hok rfl (by decide) rfl dX10_sumOf_3 ?_
  refine T_sub (lv' := [(0, .ref (b + 0)), (1, .int a1), (2, .int (0 : Int32)), (3, .int (0 : Int32))]) [2, 3, 1, 0] rfl ?_
  refine T_fix2 _ (fun (x1 : Int32) (x2 : Int32) => [(0, .ref (b + 0)), (1, .int a1), (2, .int x1), (3, .int x2)]) (fun (x1 : Int32) (x2 : Int32) => Rg G b Lc (Rc b bk dr it) I J) ?_ FU (0 : Int32) (0 : Int32)
  intro r4 hr4 x1 x2
  refine T_iload_n hok 3 rfl rfl dX10_sumOf_4 ?_
  refine T_aload_n hok 0 rfl rfl dX10_sumOf_5 ?_
  refine T_getR hok fr_X10_18 lc_0 rc_0_2 dX10_sumOf_6 ?_
  refine T_getI hok fr_X10_203 (bookAt_c (b := 0) (bk := 0) (dr := 0) (it := 0) hbk).o dX10_sumOf_9 ?_
  refine T_icmp_ge (tgt := 40) hok dX10_sumOf_12 rfl ?_ ?_
  · refine T_iload_n hok 2 rfl rfl dX10_sumOf_40 ?_
    exact T_iret hok dX10_sumOf_41 (Nat.zero_le _) (Nat.zero_le _) rfl
  refine T_iload_n hok 3 rfl rfl dX10_sumOf_15 ?_
  refine T_iload_n hok 1 rfl rfl dX10_sumOf_16 ?_
  refine T_cz0 (CR_S (rest := []) hok (ct_X10_isAmong x2 a1) mw_X10_isAmong mst_X10_isAmong ml_X10_227 dX10_sumOf_17 rfl rfl (roomOk rfl) rfl) rfl rfl ?_
  intro x3
  refine T_jp _ (fun (j34 : Int32 → Option (Int32)) => ∀ (x4 : Int32), T X A (Zm X A (ii0 (Rg G b Lc (Rc b bk dr it) I J))) 4 0 0 34 [(0, .ref (b + 0)), (1, .int a1), (2, .int x4), (3, .int x2)] [] (Rg G b Lc (Rc b bk dr it) I J) (j34 x4)) _ ?_ ?_
  · intro x4
    refine T_iinc (lvs := fun x5 => [(3, .int x5), (0, .ref (b + 0)), (1, .int a1), (2, .int x4)]) hok 3 rfl ic_1 (by decide) (fun _ => rfl) dX10_sumOf_34 ?_
    intro x5
    refine T_goto (tgt := 4) hok dX10_sumOf_37 rfl ?_
    refine T_sub (lv' := [(0, .ref (b + 0)), (1, .int a1), (2, .int x4), (3, .int x5)]) [1, 2, 3, 0] rfl ?_
    exact hr4 x4 x5
  intro j34 hj34
  refine T_ifb_eq (tgt := 34) hok dX10_sumOf_20 rfl ?_ ?_
  · refine T_iload_n hok 2 rfl rfl dX10_sumOf_23 ?_
    refine T_aload_n hok 0 rfl rfl dX10_sumOf_24 ?_
    refine T_getR hok fr_X10_37 lc_0 rc_0_5 dX10_sumOf_25 ?_
    refine T_iload_n hok 3 rfl rfl dX10_sumOf_28 ?_
    refine T_ci0 (CR_V (rest := [.int x1]) hok (ct_X8_worthOf hA townAt_38 I J x2) mw_X8_worthOf mv_X8_worthOf ml_X10_206 lc_38 dX10_sumOf_29 rfl rfl (roomOk rfl) rfl) rfl rfl ?_
    intro x6
    refine T_iadd hok dX10_sumOf_32 ?_
    refine T_lti ?_
    intro x7
    refine T_istore_n (lv' := [(2, .int x7), (0, .ref (b + 0)), (1, .int a1), (3, .int x2)]) hok rfl (by decide) rfl dX10_sumOf_33 ?_
    refine T_sub (lv' := [(0, .ref (b + 0)), (1, .int a1), (2, .int x7), (3, .int x2)]) [1, 2, 0, 3] rfl ?_
    exact hj34 x7
  exact hj34 x1

set_option maxHeartbeats 4000000 in
set_option maxRecDepth 100000 in
theorem ct_X10_have {G : Gx} {l0 : Launch} {A : Nat → Prop} {b bk dr it : Nat} (hA : ∀ k, k < Lc.length → A (b + k)) (hbk : isBk bk = true) (I : MI) (J : MJ) (a1 : Int32) : Ct G l0 A yX10_have cX10_have 2 (some .int) { frames := 2, cells := 0, slots := 0, locals := 44 } [.ref (b + 0), .int a1] (Rg G b Lc (Rc b bk dr it) I J) (ii0 (Rg G b Lc (Rc b bk dr it) I J)) (f_X10_have bk I a1) := by
  refine Ct.of rfl (Nat.le_of_ble_eq_true rfl) ?_
  intro X hok
  replace hok : Ok G l0 X RX10 cX10_have 2 { frames := 2, cells := 0, slots := 0, locals := 44 } (some .int) := hok
  delta f_X10_have
  show T X A (Zm X A (ii0 (Rg G b Lc (Rc b bk dr it) I J))) 2 0 0 0 [(0, .ref (b + 0)), (1, .int a1)] [] (Rg G b Lc (Rc b bk dr it) I J) _
  refine T_aload_n hok 0 rfl rfl dX10_have_0 ?_
  refine T_iload_n hok 1 rfl rfl dX10_have_1 ?_
  refine T_cz0 (CR_V (rest := []) hok (ct_X10_areHouses hA hbk I J a1) mw_X10_areHouses mv_X10_areHouses ml_X10_212 lc_0 dX10_have_2 rfl rfl (roomOk rfl) rfl) rfl rfl ?_
  intro x1
  refine T_jp _ (fun (j18 : Int32 → Option (Int32)) => ∀ (x2 : Int32), T X A (Zm X A (ii0 (Rg G b Lc (Rc b bk dr it) I J))) 2 0 0 18 [] [.int x2] (Rg G b Lc (Rc b bk dr it) I J) (j18 x2)) _ ?_ ?_
  · intro x2
    exact T_iret hok dX10_have_18 (Nat.zero_le _) (Nat.zero_le _) rfl
  intro j18 hj18
  refine T_ifb_eq (tgt := 16) hok dX10_have_5 rfl ?_ ?_
  · refine T_aload_n hok 0 rfl rfl dX10_have_8 ?_
    refine T_iload_n hok 1 rfl rfl dX10_have_9 ?_
    refine T_ci0 (CR_V (rest := []) hok (ct_X10_sumOf hA hbk I J a1) mw_X10_sumOf mv_X10_sumOf ml_X10_215 lc_0 dX10_have_10 rfl rfl (roomOk rfl) rfl) rfl rfl ?_
    intro x3
    refine T_goto (tgt := 18) hok dX10_have_13 rfl ?_
    refine T_sub (lv' := []) [] rfl ?_
    exact hj18 x3
  refine T_ldc hok lk_X10_220 dX10_have_16 ?_
  refine T_sub (lv' := []) [] rfl ?_
  exact hj18 (-2147483648 : Int32)

set_option maxHeartbeats 4000000 in
set_option maxRecDepth 100000 in
theorem ct_J6_bitCount_0f7a4 {G : Gx} {l0 : Launch} {A : Nat → Prop} {Wd : Heap → Prop} (a1 : Int32) : Ct G l0 A yJ6_bitCount_0f7a4 cJ6_bitCount_0f7a4 1 (some .int) { frames := 0, cells := 0, slots := 0, locals := 0 } [.int a1] (Wd) (ii0 (Wd)) (f_J6_bitCount_0f7a4 a1) := by
  refine Ct.of rfl (Nat.le_of_ble_eq_true rfl) ?_
  intro X hok
  replace hok : Ok G l0 X RJ6 cJ6_bitCount_0f7a4 1 { frames := 0, cells := 0, slots := 0, locals := 0 } (some .int) := hok
  delta f_J6_bitCount_0f7a4
  show T X A (Zm X A (ii0 (Wd))) 1 0 0 0 [(0, .int a1)] [] (Wd) _
  refine T_iload_n hok 0 rfl rfl dJ6_bitCount_0f7a4_0 ?_
  refine T_iload_n hok 0 rfl rfl dJ6_bitCount_0f7a4_1 ?_
  refine T_iconst hok ic_1 dJ6_bitCount_0f7a4_2 ?_
  refine T_iushr hok dJ6_bitCount_0f7a4_3 ?_
  refine T_ldcw hok lk_J6_265 dJ6_bitCount_0f7a4_4 ?_
  refine T_iand hok dJ6_bitCount_0f7a4_7 ?_
  refine T_isub hok dJ6_bitCount_0f7a4_8 ?_
  refine T_lti ?_
  intro x1
  refine T_istore_n (lv' := [(0, .int x1)]) hok rfl (by decide) rfl dJ6_bitCount_0f7a4_9 ?_
  refine T_iload_n hok 0 rfl rfl dJ6_bitCount_0f7a4_10 ?_
  refine T_ldcw hok lk_J6_266 dJ6_bitCount_0f7a4_11 ?_
  refine T_iand hok dJ6_bitCount_0f7a4_14 ?_
  refine T_iload_n hok 0 rfl rfl dJ6_bitCount_0f7a4_15 ?_
  refine T_iconst hok ic_2 dJ6_bitCount_0f7a4_16 ?_
  refine T_iushr hok dJ6_bitCount_0f7a4_17 ?_
  refine T_ldcw hok lk_J6_266 dJ6_bitCount_0f7a4_18 ?_
  refine T_iand hok dJ6_bitCount_0f7a4_21 ?_
  refine T_iadd hok dJ6_bitCount_0f7a4_22 ?_
  refine T_lti ?_
  intro x2
  refine T_istore_n (lv' := [(0, .int x2)]) hok rfl (by decide) rfl dJ6_bitCount_0f7a4_23 ?_
  refine T_iload_n hok 0 rfl rfl dJ6_bitCount_0f7a4_24 ?_
  refine T_iload_n hok 0 rfl rfl dJ6_bitCount_0f7a4_25 ?_
  refine T_iconst hok ic_4 dJ6_bitCount_0f7a4_26 ?_
  refine T_iushr hok dJ6_bitCount_0f7a4_27 ?_
  refine T_iadd hok dJ6_bitCount_0f7a4_28 ?_
  refine T_ldcw hok lk_J6_267 dJ6_bitCount_0f7a4_29 ?_
  refine T_iand hok dJ6_bitCount_0f7a4_32 ?_
  refine T_lti ?_
  intro x3
  refine T_istore_n (lv' := [(0, .int x3)]) hok rfl (by decide) rfl dJ6_bitCount_0f7a4_33 ?_
  refine T_iload_n hok 0 rfl rfl dJ6_bitCount_0f7a4_34 ?_
  refine T_iload_n hok 0 rfl rfl dJ6_bitCount_0f7a4_35 ?_
  refine T_bipush hok bp_8 dJ6_bitCount_0f7a4_36 ?_
  refine T_iushr hok dJ6_bitCount_0f7a4_38 ?_
  refine T_iadd hok dJ6_bitCount_0f7a4_39 ?_
  refine T_lti ?_
  intro x4
  refine T_istore_n (lv' := [(0, .int x4)]) hok rfl (by decide) rfl dJ6_bitCount_0f7a4_40 ?_
  refine T_iload_n hok 0 rfl rfl dJ6_bitCount_0f7a4_41 ?_
  refine T_iload_n hok 0 rfl rfl dJ6_bitCount_0f7a4_42 ?_
  refine T_bipush hok bp_16 dJ6_bitCount_0f7a4_43 ?_
  refine T_iushr hok dJ6_bitCount_0f7a4_45 ?_
  refine T_iadd hok dJ6_bitCount_0f7a4_46 ?_
  refine T_lti ?_
  intro x5
  refine T_istore_n (lv' := [(0, .int x5)]) hok rfl (by decide) rfl dJ6_bitCount_0f7a4_47 ?_
  refine T_iload_n hok 0 rfl rfl dJ6_bitCount_0f7a4_48 ?_
  refine T_bipush hok bp_63 dJ6_bitCount_0f7a4_49 ?_
  refine T_iand hok dJ6_bitCount_0f7a4_51 ?_
  exact T_iret hok dJ6_bitCount_0f7a4_52 (Nat.zero_le _) (Nat.zero_le _) rfl

set_option maxHeartbeats 4000000 in
set_option maxRecDepth 100000 in
theorem ct_X10_noneSoldUp {G : Gx} {l0 : Launch} {A : Nat → Prop} {b bk dr it : Nat} (hA : ∀ k, k < Lc.length → A (b + k)) (hbk : isBk bk = true) (I : MI) (J : MJ) (a1 : Int32) : Ct G l0 A yX10_noneSoldUp cX10_noneSoldUp 3 (some .boolean) { frames := 1, cells := 0, slots := 0, locals := 21 } [.ref (b + 0), .int a1] (Rg G b Lc (Rc b bk dr it) I J) (iz0 (Rg G b Lc (Rc b bk dr it) I J)) (f_X10_noneSoldUp bk I a1) := by
  refine Ct.of rfl (Nat.le_of_ble_eq_true rfl) ?_
  intro X hok
  replace hok : Ok G l0 X RX10 cX10_noneSoldUp 3 { frames := 1, cells := 0, slots := 0, locals := 21 } (some .boolean) := hok
  delta f_X10_noneSoldUp
  show T X A (Zm X A (iz0 (Rg G b Lc (Rc b bk dr it) I J))) 3 0 0 0 [(0, .ref (b + 0)), (1, .int a1)] [] (Rg G b Lc (Rc b bk dr it) I J) _
  refine T_iconst hok ic_0 dX10_noneSoldUp_0 ?_
  refine T_istore_n (lv' := [(2, .int (0 : Int32)), (0, .ref (b + 0)), (1, .int a1)]) hok rfl (by decide) rfl dX10_noneSoldUp_1 ?_
  refine T_sub (lv' := [(0, .ref (b + 0)), (1, .int a1), (2, .int (0 : Int32))]) [1, 2, 0] rfl ?_
  refine T_fix1 _ (fun (x1 : Int32) => [(0, .ref (b + 0)), (1, .int a1), (2, .int x1)]) (fun (x1 : Int32) => Rg G b Lc (Rc b bk dr it) I J) ?_ FU (0 : Int32)
  intro r2 hr2 x1
  refine T_iload_n hok 2 rfl rfl dX10_noneSoldUp_2 ?_
  refine T_aload_n hok 0 rfl rfl dX10_noneSoldUp_3 ?_
  refine T_getR hok fr_X10_18 lc_0 rc_0_2 dX10_noneSoldUp_4 ?_
  refine T_getI hok fr_X10_203 (bookAt_c (b := 0) (bk := 0) (dr := 0) (it := 0) hbk).o dX10_noneSoldUp_7 ?_
  refine T_icmp_ge (tgt := 41) hok dX10_noneSoldUp_10 rfl ?_ ?_
  · refine T_iconst hok ic_1 dX10_noneSoldUp_41 ?_
    exact T_zret hok dX10_noneSoldUp_42 (Nat.zero_le _) (Nat.zero_le _) rfl rfl
  refine T_iload_n hok 2 rfl rfl dX10_noneSoldUp_13 ?_
  refine T_iload_n hok 1 rfl rfl dX10_noneSoldUp_14 ?_
  refine T_cz0 (CR_S (rest := []) hok (ct_X10_isAmong x1 a1) mw_X10_isAmong mst_X10_isAmong ml_X10_227 dX10_noneSoldUp_15 rfl rfl (roomOk rfl) rfl) rfl rfl ?_
  intro x2
  refine T_jp _ (fun (j35 : Option (Bool)) => T X A (Zm X A (iz0 (Rg G b Lc (Rc b bk dr it) I J))) 3 0 0 35 [(0, .ref (b + 0)), (1, .int a1), (2, .int x1)] [] (Rg G b Lc (Rc b bk dr it) I J) (j35)) _ ?_ ?_
  · skip
    refine T_iinc (lvs := fun x3 => [(2, .int x3), (0, .ref (b + 0)), (1, .int a1)]) hok 2 rfl ic_1 (by decide) (fun _ => rfl) dX10_noneSoldUp_35 ?_
    intro x3
    refine T_goto (tgt := 2) hok dX10_noneSoldUp_38 rfl ?_
    refine T_sub (lv' := [(0, .ref (b + 0)), (1, .int a1), (2, .int x3)]) [1, 2, 0] rfl ?_
    exact hr2 x3
  intro j35 hj35
  refine T_ifb_eq (tgt := 35) hok dX10_noneSoldUp_18 rfl ?_ ?_
  · refine T_aload_n hok 0 rfl rfl dX10_noneSoldUp_21 ?_
    refine T_getR hok fr_X10_37 lc_0 rc_0_5 dX10_noneSoldUp_22 ?_
    refine T_getR hok fr_X10_149 lc_38 rc_38_4 dX10_noneSoldUp_25 ?_
    refine T_iload_n hok 2 rfl rfl dX10_noneSoldUp_28 ?_
    refine T_zald hok lc_43 dX10_noneSoldUp_29 ?_
    refine T_if_eq (tgt := 35) hok dX10_noneSoldUp_30 rfl ?_ ?_
    · exact hj35
    refine T_iconst hok ic_0 dX10_noneSoldUp_33 ?_
    exact T_zret hok dX10_noneSoldUp_34 (Nat.zero_le _) (Nat.zero_le _) rfl rfl
  exact hj35

set_option maxHeartbeats 4000000 in
set_option maxRecDepth 100000 in
theorem ct_X10_among {G : Gx} {l0 : Launch} {A : Nat → Prop} {b bk dr it : Nat} (hA : ∀ k, k < Lc.length → A (b + k)) (hbk : isBk bk = true) (I : MI) (J : MJ) (a1 : Int32) : Ct G l0 A yX10_among cX10_among 5 (some .int) { frames := 2, cells := 0, slots := 0, locals := 44 } [.ref (b + 0), .int a1] (Rg G b Lc (Rc b bk dr it) I J) (ii0 (Rg G b Lc (Rc b bk dr it) I J)) (f_X10_among bk I a1) := by
  refine Ct.of rfl (Nat.le_of_ble_eq_true rfl) ?_
  intro X hok
  replace hok : Ok G l0 X RX10 cX10_among 5 { frames := 2, cells := 0, slots := 0, locals := 44 } (some .int) := hok
  delta f_X10_among
  show T X A (Zm X A (ii0 (Rg G b Lc (Rc b bk dr it) I J))) 5 0 0 0 [(0, .ref (b + 0)), (1, .int a1)] [] (Rg G b Lc (Rc b bk dr it) I J) _
  refine T_iload_n hok 1 rfl rfl dX10_among_0 ?_
  refine T_iconst hok ic_1 dX10_among_1 ?_
  refine T_sipush hok sp_9999 dX10_among_2 ?_
  refine T_cz0 (CR_S (rest := []) hok (ct_X10_isWithin a1 (1 : Int32) (9999 : Int32)) mw_X10_isWithin mst_X10_isWithin ml_X10_173 dX10_among_5 rfl rfl (roomOk rfl) rfl) rfl rfl ?_
  intro x1
  refine T_ifb_ne (tgt := 13) hok dX10_among_8 rfl ?_ ?_
  · refine T_bipush hok bp_m2 dX10_among_13 ?_
    refine T_istore_n (lv' := [(2, .int (-2 : Int32)), (0, .ref (b + 0)), (1, .int a1)]) hok rfl (by decide) rfl dX10_among_15 ?_
    refine T_iconst hok ic_1 dX10_among_16 ?_
    refine T_istore_n (lv' := [(3, .int (1 : Int32)), (2, .int (-2 : Int32)), (0, .ref (b + 0)), (1, .int a1)]) hok rfl (by decide) rfl dX10_among_17 ?_
    refine T_sub (lv' := [(0, .ref (b + 0)), (1, .int a1), (2, .int (-2 : Int32)), (3, .int (1 : Int32))]) [2, 3, 1, 0] rfl ?_
    refine T_fix2 _ (fun (x2 : Int32) (x3 : Int32) => [(0, .ref (b + 0)), (1, .int a1), (2, .int x2), (3, .int x3)]) (fun (x2 : Int32) (x3 : Int32) => Rg G b Lc (Rc b bk dr it) I J) ?_ FU (-2 : Int32) (1 : Int32)
    intro r18 hr18 x2 x3
    refine T_iload_n hok 3 rfl rfl dX10_among_18 ?_
    refine T_iconst hok ic_1 dX10_among_19 ?_
    refine T_aload_n hok 0 rfl rfl dX10_among_20 ?_
    refine T_getR hok fr_X10_18 lc_0 rc_0_2 dX10_among_21 ?_
    refine T_getI hok fr_X10_203 (bookAt_c (b := 0) (bk := 0) (dr := 0) (it := 0) hbk).o dX10_among_24 ?_
    refine T_ishl hok dX10_among_27 ?_
    refine T_icmp_ge (tgt := 85) hok dX10_among_28 rfl ?_ ?_
    · refine T_iload_n hok 2 rfl rfl dX10_among_85 ?_
      exact T_iret hok dX10_among_86 (Nat.zero_le _) (Nat.zero_le _) rfl
    refine T_iload_n hok 2 rfl rfl dX10_among_31 ?_
    refine T_bipush hok bp_m2 dX10_among_32 ?_
    refine T_jp _ (fun (j53 : Bool → Option (Int32)) => ∀ (x4 : Bool), T X A (Zm X A (ii0 (Rg G b Lc (Rc b bk dr it) I J))) 5 0 0 53 [(0, .ref (b + 0)), (1, .int a1), (2, .int x2), (3, .int x3)] [.int (bi x4)] (Rg G b Lc (Rc b bk dr it) I J) (j53 x4)) _ ?_ ?_
    · intro x4
      refine T_lti ?_
      intro x5
      refine T_istore (lv' := [(4, .int x5), (0, .ref (b + 0)), (1, .int a1), (2, .int x2), (3, .int x3)]) hok (by decide) rfl dX10_among_53 ?_
      refine T_iload hok 0 rfl dX10_among_55 ?_
      refine T_jp _ (fun (j79 : Int32 → Option (Int32)) => ∀ (x6 : Int32), T X A (Zm X A (ii0 (Rg G b Lc (Rc b bk dr it) I J))) 5 0 0 79 [(0, .ref (b + 0)), (1, .int a1), (2, .int x6), (3, .int x3)] [] (Rg G b Lc (Rc b bk dr it) I J) (j79 x6)) _ ?_ ?_
      · intro x6
        refine T_iinc (lvs := fun x7 => [(3, .int x7), (0, .ref (b + 0)), (1, .int a1), (2, .int x6)]) hok 3 rfl ic_1 (by decide) (fun _ => rfl) dX10_among_79 ?_
        intro x7
        refine T_goto (tgt := 18) hok dX10_among_82 rfl ?_
        refine T_sub (lv' := [(0, .ref (b + 0)), (1, .int a1), (2, .int x6), (3, .int x7)]) [1, 2, 3, 0] rfl ?_
        exact hr18 x6 x7
      intro j79 hj79
      refine T_if_eq (tgt := 79) hok dX10_among_57 rfl ?_ ?_
      · refine T_sub (lv' := [(0, .ref (b + 0)), (1, .int a1), (2, .int x2), (3, .int x3)]) [1, 2, 3, 4] rfl ?_
        exact hj79 x2
      refine T_aload_n hok 1 rfl rfl dX10_among_60 ?_
      refine T_iload_n hok 4 rfl rfl dX10_among_61 ?_
      refine T_cz0 (CR_V (rest := []) hok (ct_X10_noneSoldUp hA hbk I J x3) mw_X10_noneSoldUp mv_X10_noneSoldUp ml_X10_224 lc_0 dX10_among_62 rfl rfl (roomOk rfl) rfl) rfl rfl ?_
      intro x8
      refine T_ifb_eq (tgt := 79) hok dX10_among_65 rfl ?_ ?_
      · refine T_aload_n hok 1 rfl rfl dX10_among_68 ?_
        refine T_iload_n hok 4 rfl rfl dX10_among_69 ?_
        refine T_ci0 (CR_V (rest := []) hok (ct_X10_sumOf hA hbk I J x3) mw_X10_sumOf mv_X10_sumOf ml_X10_215 lc_0 dX10_among_70 rfl rfl (roomOk rfl) rfl) rfl rfl ?_
        intro x9
        refine T_iload_n hok 2 rfl rfl dX10_among_73 ?_
        refine T_icmp_lt (tgt := 79) hok dX10_among_74 rfl ?_ ?_
        · refine T_sub (lv' := [(0, .ref (b + 0)), (1, .int a1), (2, .int x2), (3, .int x3)]) [1, 2, 3, 4] rfl ?_
          exact hj79 x2
        refine T_iload_n hok 4 rfl rfl dX10_among_77 ?_
        refine T_istore_n (lv' := [(2, .int x3), (4, .int x5), (0, .ref (b + 0)), (1, .int a1), (3, .int x3)]) hok rfl (by decide) rfl dX10_among_78 ?_
        refine T_sub (lv' := [(0, .ref (b + 0)), (1, .int a1), (2, .int x3), (3, .int x3)]) [2, 3, 0, 4] rfl ?_
        exact hj79 x3
      refine T_sub (lv' := [(0, .ref (b + 0)), (1, .int a1), (2, .int x2), (3, .int x3)]) [1, 2, 3, 4] rfl ?_
      exact hj79 x2
    intro j53 hj53
    refine T_jp _ (fun (j48 : Option (Int32)) => T X A (Zm X A (ii0 (Rg G b Lc (Rc b bk dr it) I J))) 5 0 0 48 [(0, .ref (b + 0)), (1, .int a1), (2, .int x2), (3, .int x3)] [] (Rg G b Lc (Rc b bk dr it) I J) (j48)) _ ?_ ?_
    · skip
      refine T_iconst hok ic_1 dX10_among_48 ?_
      refine T_goto (tgt := 53) hok dX10_among_49 rfl ?_
      exact hj53 true
    intro j48 hj48
    refine T_icmp_eq (tgt := 48) hok dX10_among_34 rfl ?_ ?_
    · exact hj48
    refine T_iload_n hok 3 rfl rfl dX10_among_37 ?_
    refine T_ci0 (CR_S (rest := []) hok (ct_J6_bitCount_0f7a4 x3) mw_J6_bitCount_0f7a4 mst_J6_bitCount_0f7a4 ml_X10_221 dX10_among_38 rfl rfl (roomOk rfl) rfl) rfl rfl ?_
    intro x10
    refine T_iload_n hok 2 rfl rfl dX10_among_41 ?_
    refine T_ci0 (CR_S (rest := [.int x10]) hok (ct_J6_bitCount_0f7a4 x2) mw_J6_bitCount_0f7a4 mst_J6_bitCount_0f7a4 ml_X10_221 dX10_among_42 rfl rfl (roomOk rfl) rfl) rfl rfl ?_
    intro x11
    refine T_icmp_ge (tgt := 52) hok dX10_among_45 rfl ?_ ?_
    · refine T_iconst hok ic_0 dX10_among_52 ?_
      exact hj53 false
    exact hj48
  refine T_iconst hok ic_m1 dX10_among_11 ?_
  exact T_iret hok dX10_among_12 (Nat.zero_le _) (Nat.zero_le _) rfl

set_option maxHeartbeats 4000000 in
set_option maxRecDepth 100000 in
theorem ct_X10_termIn {G : Gx} {l0 : Launch} {A : Nat → Prop} {b bk dr it : Nat} (hA : ∀ k, k < Lc.length → A (b + k)) (hbk : isBk bk = true) (I : MI) (J : MJ) : Ct G l0 A yX10_termIn cX10_termIn 1 (some .int) { frames := 1, cells := 0, slots := 0, locals := 21 } [.ref (b + 0)] (Rg G b Lc (Rc b bk dr it) I J) (ii0 (Rg G b Lc (Rc b bk dr it) I J)) (f_X10_termIn bk I) := by
  refine Ct.of rfl (Nat.le_of_ble_eq_true rfl) ?_
  intro X hok
  replace hok : Ok G l0 X RX10 cX10_termIn 1 { frames := 1, cells := 0, slots := 0, locals := 21 } (some .int) := hok
  delta f_X10_termIn
  show T X A (Zm X A (ii0 (Rg G b Lc (Rc b bk dr it) I J))) 1 0 0 0 [(0, .ref (b + 0))] [] (Rg G b Lc (Rc b bk dr it) I J) _
  refine T_aload_n hok 0 rfl rfl dX10_termIn_0 ?_
  refine T_getR hok fr_X10_18 lc_0 rc_0_2 dX10_termIn_1 ?_
  refine T_aload_n hok 0 rfl rfl dX10_termIn_4 ?_
  refine T_getR hok fr_X10_37 lc_0 rc_0_5 dX10_termIn_5 ?_
  refine T_getI hok fr_X10_231 lc_38 dX10_termIn_8 ?_
  refine T_ci0 (CR_V (rest := []) hok (ct_X0_daysToTerm hA (bookAt_c hbk) I J (I 38 8)) mw_X0_daysToTerm mv_X0_daysToTerm ml_X10_234 (bookAt_c (b := 0) (bk := 0) (dr := 0) (it := 0) hbk).o dX10_termIn_11 rfl rfl (roomOk rfl) rfl) rfl rfl ?_
  intro x1
  exact T_iret hok dX10_termIn_14 (Nat.zero_le _) (Nat.zero_le _) rfl

set_option maxHeartbeats 4000000 in
set_option maxRecDepth 100000 in
theorem ct_X10_sumOfRow {G : Gx} {l0 : Launch} {A : Nat → Prop} {b : Nat} {L : List Kd} {R : MR} {pa na : Nat} (hA : ∀ k, k < L.length → A (b + k)) (hpa : L[pa]? = some (.inr (0, na))) (I : MI) (J : MJ) : Ct G l0 A yX10_sumOfRow cX10_sumOfRow 6 (some .int) { frames := 0, cells := 0, slots := 0, locals := 0 } [.ref (b + pa)] (Rg G b L R I J) (ii0 (Rg G b L R I J)) (f_X10_sumOfRow I pa na) := by
  refine Ct.of rfl (Nat.le_of_ble_eq_true rfl) ?_
  intro X hok
  replace hok : Ok G l0 X RX10 cX10_sumOfRow 6 { frames := 0, cells := 0, slots := 0, locals := 0 } (some .int) := hok
  delta f_X10_sumOfRow
  show T X A (Zm X A (ii0 (Rg G b L R I J))) 6 0 0 0 [(0, .ref (b + pa))] [] (Rg G b L R I J) _
  refine T_iconst hok ic_0 dX10_sumOfRow_0 ?_
  refine T_istore_n (lv' := [(1, .int (0 : Int32)), (0, .ref (b + pa))]) hok rfl (by decide) rfl dX10_sumOfRow_1 ?_
  refine T_aload_n hok 1 rfl rfl dX10_sumOfRow_2 ?_
  refine T_astore_n (lv' := [(2, .ref (b + pa)), (1, .int (0 : Int32)), (0, .ref (b + pa))]) hok rfl (by decide) rfl dX10_sumOfRow_3 ?_
  refine T_aload_n hok 0 rfl rfl dX10_sumOfRow_4 ?_
  refine T_alen (v := Int32.ofNat na) hok (by decide) hpa rfl dX10_sumOfRow_5 ?_
  refine T_lti ?_
  intro x1
  refine T_istore_n (lv' := [(3, .int x1), (2, .ref (b + pa)), (1, .int (0 : Int32)), (0, .ref (b + pa))]) hok rfl (by decide) rfl dX10_sumOfRow_6 ?_
  refine T_iconst hok ic_0 dX10_sumOfRow_7 ?_
  refine T_istore (lv' := [(4, .int (0 : Int32)), (3, .int x1), (2, .ref (b + pa)), (1, .int (0 : Int32)), (0, .ref (b + pa))]) hok (by decide) rfl dX10_sumOfRow_8 ?_
  refine T_sub (lv' := [(1, .int (0 : Int32)), (2, .ref (b + pa)), (3, .int x1), (4, .int (0 : Int32))]) [3, 2, 1, 0] rfl ?_
  refine T_fix2 _ (fun (x2 : Int32) (x3 : Int32) => [(1, .int x2), (2, .ref (b + pa)), (3, .int x1), (4, .int x3)]) (fun (x2 : Int32) (x3 : Int32) => Rg G b L R I J) ?_ FU (0 : Int32) (0 : Int32)
  intro r10 hr10 x2 x3
  refine T_iload hok 3 rfl dX10_sumOfRow_10 ?_
  refine T_iload_n hok 2 rfl rfl dX10_sumOfRow_12 ?_
  refine T_icmp_ge (tgt := 33) hok dX10_sumOfRow_13 rfl ?_ ?_
  · refine T_iload_n hok 0 rfl rfl dX10_sumOfRow_33 ?_
    exact T_iret hok dX10_sumOfRow_34 (Nat.zero_le _) (Nat.zero_le _) rfl
  refine T_aload_n hok 1 rfl rfl dX10_sumOfRow_16 ?_
  refine T_iload hok 3 rfl dX10_sumOfRow_17 ?_
  refine T_iald hok hpa dX10_sumOfRow_19 ?_
  refine T_lti ?_
  intro x4
  refine T_istore (lv' := [(5, .int x4), (1, .int x2), (2, .ref (b + pa)), (3, .int x1), (4, .int x3)]) hok (by decide) rfl dX10_sumOfRow_20 ?_
  refine T_iload_n hok 1 rfl rfl dX10_sumOfRow_22 ?_
  refine T_iload hok 0 rfl dX10_sumOfRow_23 ?_
  refine T_iadd hok dX10_sumOfRow_25 ?_
  refine T_lti ?_
  intro x5
  refine T_istore_n (lv' := [(1, .int x5), (5, .int x4), (2, .ref (b + pa)), (3, .int x1), (4, .int x3)]) hok rfl (by decide) rfl dX10_sumOfRow_26 ?_
  refine T_iinc (lvs := fun x6 => [(4, .int x6), (1, .int x5), (5, .int x4), (2, .ref (b + pa)), (3, .int x1)]) hok 4 rfl ic_1 (by decide) (fun _ => rfl) dX10_sumOfRow_27 ?_
  intro x6
  refine T_goto (tgt := 10) hok dX10_sumOfRow_30 rfl ?_
  refine T_sub (lv' := [(1, .int x5), (2, .ref (b + pa)), (3, .int x1), (4, .int x6)]) [1, 3, 4, 0] rfl ?_
  exact hr10 x5 x6

set_option maxHeartbeats 4000000 in
set_option maxRecDepth 100000 in
theorem ct_X10_count {G : Gx} {l0 : Launch} {A : Nat → Prop} {b bk dr it : Nat} (hA : ∀ k, k < Lc.length → A (b + k)) (hbk : isBk bk = true) (I : MI) (J : MJ) (a1 : Int32) : Ct G l0 A yX10_count cX10_count 2 (some .int) { frames := 1, cells := 0, slots := 0, locals := 25 } [.ref (b + 0), .int a1] (Rg G b Lc (Rc b bk dr it) I J) (ii0 (Rg G b Lc (Rc b bk dr it) I J)) (f_X10_count bk I a1) := by
  refine Ct.of rfl (Nat.le_of_ble_eq_true rfl) ?_
  intro X hok
  replace hok : Ok G l0 X RX10 cX10_count 2 { frames := 1, cells := 0, slots := 0, locals := 25 } (some .int) := hok
  delta f_X10_count
  show T X A (Zm X A (ii0 (Rg G b Lc (Rc b bk dr it) I J))) 2 0 0 0 [(0, .ref (b + 0)), (1, .int a1)] [] (Rg G b Lc (Rc b bk dr it) I J) _
  refine T_iload_n hok 1 rfl rfl dX10_count_0 ?_
  refine T_swc (fun hx0 => ?_) (fun hx0 => ?_)
  · refine T_tin (tgt := 68) hok hx0 dX10_count_1 (by decide) (by decide) rfl rfl ?_
    refine T_aload_n hok 0 rfl rfl dX10_count_68 ?_
    refine T_getR hok fr_X10_18 lc_0 rc_0_2 dX10_count_69 ?_
    refine T_getI hok fr_X10_209 (bookAt_c (b := 0) (bk := 0) (dr := 0) (it := 0) hbk).o dX10_count_72 ?_
    exact T_iret hok dX10_count_75 (Nat.zero_le _) (Nat.zero_le _) rfl
  refine T_swc (fun hx1 => ?_) (fun hx1 => ?_)
  · refine T_tin (tgt := 76) hok hx1 dX10_count_1 (by decide) (by decide) rfl rfl ?_
    refine T_aload_n hok 0 rfl rfl dX10_count_76 ?_
    refine T_getR hok fr_X10_18 lc_0 rc_0_2 dX10_count_77 ?_
    refine T_getI hok fr_X10_203 (bookAt_c (b := 0) (bk := 0) (dr := 0) (it := 0) hbk).o dX10_count_80 ?_
    exact T_iret hok dX10_count_83 (Nat.zero_le _) (Nat.zero_le _) rfl
  refine T_swc (fun hx2 => ?_) (fun hx2 => ?_)
  · refine T_tin (tgt := 84) hok hx2 dX10_count_1 (by decide) (by decide) rfl rfl ?_
    refine T_aload_n hok 0 rfl rfl dX10_count_84 ?_
    refine T_getR hok fr_X10_18 lc_0 rc_0_2 dX10_count_85 ?_
    refine T_getI hok fr_X10_237 (bookAt_c (b := 0) (bk := 0) (dr := 0) (it := 0) hbk).o dX10_count_88 ?_
    exact T_iret hok dX10_count_91 (Nat.zero_le _) (Nat.zero_le _) rfl
  refine T_swc (fun hx3 => ?_) (fun hx3 => ?_)
  · refine T_tin (tgt := 92) hok hx3 dX10_count_1 (by decide) (by decide) rfl rfl ?_
    refine T_aload_n hok 0 rfl rfl dX10_count_92 ?_
    refine T_getR hok fr_X10_18 lc_0 rc_0_2 dX10_count_93 ?_
    refine T_getR hok fr_X10_189 (bookAt_c (b := 0) (bk := 0) (dr := 0) (it := 0) hbk).o (bookAt_c hbk).r10 dX10_count_96 ?_
    refine T_getI hok fr_X10_240 (bookAt_c (b := 0) (bk := 0) (dr := 0) (it := 0) hbk).laws.o dX10_count_99 ?_
    exact T_iret hok dX10_count_102 (Nat.zero_le _) (Nat.zero_le _) rfl
  refine T_swc (fun hx4 => ?_) (fun hx4 => ?_)
  · refine T_tin (tgt := 103) hok hx4 dX10_count_1 (by decide) (by decide) rfl rfl ?_
    refine T_aload_n hok 0 rfl rfl dX10_count_103 ?_
    refine T_getR hok fr_X10_37 lc_0 rc_0_5 dX10_count_104 ?_
    refine T_getI hok fr_X10_231 lc_38 dX10_count_107 ?_
    exact T_iret hok dX10_count_110 (Nat.zero_le _) (Nat.zero_le _) rfl
  refine T_swc (fun hx5 => ?_) (fun hx5 => ?_)
  · refine T_tin (tgt := 111) hok hx5 dX10_count_1 (by decide) (by decide) rfl rfl ?_
    refine T_aload_n hok 0 rfl rfl dX10_count_111 ?_
    refine T_getR hok fr_X10_37 lc_0 rc_0_5 dX10_count_112 ?_
    refine T_ci0 (CR_V (rest := []) hok (ct_X8_howManySoldUp hA townAt_38 I J) mw_X8_howManySoldUp mv_X8_howManySoldUp ml_X10_243 lc_38 dX10_count_115 rfl rfl (roomOk rfl) rfl) rfl rfl ?_
    intro x1
    exact T_iret hok dX10_count_118 (Nat.zero_le _) (Nat.zero_le _) rfl
  refine T_swc (fun hx6 => ?_) (fun hx6 => ?_)
  · refine T_tin (tgt := 119) hok hx6 dX10_count_1 (by decide) (by decide) rfl rfl ?_
    refine T_aload_n hok 0 rfl rfl dX10_count_119 ?_
    refine T_getR hok fr_X10_37 lc_0 rc_0_5 dX10_count_120 ?_
    refine T_getR hok fr_X10_133 lc_38 rc_38_0 dX10_count_123 ?_
    refine T_ci0 (CR_S (rest := []) hok (ct_X10_sumOfRow hA lc_39 I J) mw_X10_sumOfRow mst_X10_sumOfRow ml_X10_247 dX10_count_126 rfl rfl (roomOk rfl) rfl) rfl rfl ?_
    intro x2
    exact T_iret hok dX10_count_129 (Nat.zero_le _) (Nat.zero_le _) rfl
  refine T_swc (fun hx7 => ?_) (fun hx7 => ?_)
  · refine T_tin (tgt := 130) hok hx7 dX10_count_1 (by decide) (by decide) rfl rfl ?_
    refine T_aload_n hok 0 rfl rfl dX10_count_130 ?_
    refine T_getR hok fr_X10_37 lc_0 rc_0_5 dX10_count_131 ?_
    refine T_getR hok fr_X10_137 lc_38 rc_38_1 dX10_count_134 ?_
    refine T_ci0 (CR_S (rest := []) hok (ct_X10_sumOfRow hA lc_40 I J) mw_X10_sumOfRow mst_X10_sumOfRow ml_X10_247 dX10_count_137 rfl rfl (roomOk rfl) rfl) rfl rfl ?_
    intro x3
    exact T_iret hok dX10_count_140 (Nat.zero_le _) (Nat.zero_le _) rfl
  refine T_swc (fun hx8 => ?_) (fun hx8 => ?_)
  · refine T_tin (tgt := 141) hok hx8 dX10_count_1 (by decide) (by decide) rfl rfl ?_
    refine T_aload_n hok 0 rfl rfl dX10_count_141 ?_
    refine T_getR hok fr_X10_37 lc_0 rc_0_5 dX10_count_142 ?_
    refine T_getR hok fr_X10_146 lc_38 rc_38_3 dX10_count_145 ?_
    refine T_ci0 (CR_S (rest := []) hok (ct_X10_sumOfRow hA lc_42 I J) mw_X10_sumOfRow mst_X10_sumOfRow ml_X10_247 dX10_count_148 rfl rfl (roomOk rfl) rfl) rfl rfl ?_
    intro x4
    exact T_iret hok dX10_count_151 (Nat.zero_le _) (Nat.zero_le _) rfl
  refine T_swc (fun hx9 => ?_) (fun hx9 => ?_)
  · refine T_tin (tgt := 152) hok hx9 dX10_count_1 (by decide) (by decide) rfl rfl ?_
    refine T_aload_n hok 0 rfl rfl dX10_count_152 ?_
    refine T_getR hok fr_X10_37 lc_0 rc_0_5 dX10_count_153 ?_
    refine T_getI hok fr_X10_251 lc_38 dX10_count_156 ?_
    exact T_iret hok dX10_count_159 (Nat.zero_le _) (Nat.zero_le _) rfl
  refine T_swc (fun hx10 => ?_) (fun hx10 => ?_)
  · refine T_tin (tgt := 160) hok hx10 dX10_count_1 (by decide) (by decide) rfl rfl ?_
    refine T_aload_n hok 0 rfl rfl dX10_count_160 ?_
    refine T_getR hok fr_X10_64 lc_0 rc_0_11 dX10_count_161 ?_
    refine T_getI hok fr_X10_254 lc_70 dX10_count_164 ?_
    exact T_iret hok dX10_count_167 (Nat.zero_le _) (Nat.zero_le _) rfl
  refine T_swc (fun hx11 => ?_) (fun hx11 => ?_)
  · refine T_tin (tgt := 168) hok hx11 dX10_count_1 (by decide) (by decide) rfl rfl ?_
    refine T_aload_n hok 0 rfl rfl dX10_count_168 ?_
    refine T_getR hok fr_X10_64 lc_0 rc_0_11 dX10_count_169 ?_
    refine T_ci0 (CR_V (rest := []) hok (ct_X2_knownCount hA I J) mw_X2_knownCount mv_X2_knownCount ml_X10_257 lc_70 dX10_count_172 rfl rfl (roomOk rfl) rfl) rfl rfl ?_
    intro x5
    exact T_iret hok dX10_count_175 (Nat.zero_le _) (Nat.zero_le _) rfl
  refine T_swc (fun hx12 => ?_) (fun hx12 => ?_)
  · refine T_tin (tgt := 176) hok hx12 dX10_count_1 (by decide) (by decide) rfl rfl ?_
    refine T_aload_n hok 0 rfl rfl dX10_count_176 ?_
    refine T_getR hok fr_X10_57 lc_0 rc_0_10 dX10_count_177 ?_
    refine T_getI hok fr_X10_260 lc_64 dX10_count_180 ?_
    exact T_iret hok dX10_count_183 (Nat.zero_le _) (Nat.zero_le _) rfl
  refine T_swd ?_
  have nhx0 := toInt_ne (n := 0) rfl hx0
  have nhx1 := toInt_ne (n := 1) rfl hx1
  have nhx2 := toInt_ne (n := 2) rfl hx2
  have nhx3 := toInt_ne (n := 3) rfl hx3
  have nhx4 := toInt_ne (n := 4) rfl hx4
  have nhx5 := toInt_ne (n := 5) rfl hx5
  have nhx6 := toInt_ne (n := 6) rfl hx6
  have nhx7 := toInt_ne (n := 7) rfl hx7
  have nhx8 := toInt_ne (n := 8) rfl hx8
  have nhx9 := toInt_ne (n := 9) rfl hx9
  have nhx10 := toInt_ne (n := 10) rfl hx10
  have nhx11 := toInt_ne (n := 11) rfl hx11
  have nhx12 := toInt_ne (n := 12) rfl hx12
  refine T_tdf (tgt := 184) (n := 13) hok dX10_count_1 rfl (fun j hj he => ?_) rfl ?_
  · rcases (show j = 0 ∨ j = 1 ∨ j = 2 ∨ j = 3 ∨ j = 4 ∨ j = 5 ∨ j = 6 ∨ j = 7 ∨ j = 8 ∨ j = 9 ∨ j = 10 ∨ j = 11 ∨ j = 12 by omega) with rfl | rfl | rfl | rfl | rfl | rfl | rfl | rfl | rfl | rfl | rfl | rfl | rfl <;> first | rfl | (exfalso; omega)
  refine T_iconst hok ic_m1 dX10_count_184 ?_
  exact T_iret hok dX10_count_185 (Nat.zero_le _) (Nat.zero_le _) rfl

set_option maxHeartbeats 4000000 in
set_option maxRecDepth 100000 in
theorem ct_X10_blind {G : Gx} {l0 : Launch} {A : Nat → Prop} {b bk dr it : Nat} (hA : ∀ k, k < Lc.length → A (b + k)) (hbk : isBk bk = true) (I : MI) (J : MJ) (a1 : Int32) : Ct G l0 A yX10_blind cX10_blind 2 (some .int) { frames := 3, cells := 0, slots := 0, locals := 64 } [.ref (b + 0), .int a1] (Rg G b Lc (Rc b bk dr it) I J) (ii1 (fun (I' : MI) => Rg G b Lc (Rc b bk dr it) I' J)) (f_X10_blind bk I a1) := by
  refine Ct.of rfl (Nat.le_of_ble_eq_true rfl) ?_
  intro X hok
  replace hok : Ok G l0 X RX10 cX10_blind 2 { frames := 3, cells := 0, slots := 0, locals := 64 } (some .int) := hok
  delta f_X10_blind
  show T X A (Zm X A (ii1 (fun (I' : MI) => Rg G b Lc (Rc b bk dr it) I' J))) 2 0 0 0 [(0, .ref (b + 0)), (1, .int a1)] [] (Rg G b Lc (Rc b bk dr it) I J) _
  refine T_aload_n hok 0 rfl rfl dX10_blind_0 ?_
  refine T_iload_n hok 1 rfl rfl dX10_blind_1 ?_
  refine T_cz0 (CR_V (rest := []) hok (ct_X10_isHouse hA hbk I J a1) mw_X10_isHouse mv_X10_isHouse ml_X10_122 lc_0 dX10_blind_2 rfl rfl (roomOk rfl) rfl) rfl rfl ?_
  intro x1
  refine T_ifb_ne (tgt := 10) hok dX10_blind_5 rfl ?_ ?_
  · refine T_aload_n hok 0 rfl rfl dX10_blind_10 ?_
    refine T_getR hok fr_X10_57 lc_0 rc_0_10 dX10_blind_11 ?_
    refine T_iload_n hok 1 rfl rfl dX10_blind_14 ?_
    refine T_cv1 (CR_V (rest := []) hok (ct_X9_drew hA I J a1) mw_X9_drew mv_X9_drew ml_X10_261 lc_64 dX10_blind_15 rfl rfl (roomOk rfl) rfl) rfl rfl ?_
    intro I2
    refine T_aload_n hok 0 rfl rfl dX10_blind_18 ?_
    refine T_getR hok fr_X10_37 lc_0 rc_0_5 dX10_blind_19 ?_
    refine T_getR hok fr_X10_153 lc_38 rc_38_5 dX10_blind_22 ?_
    refine T_iload_n hok 1 rfl rfl dX10_blind_25 ?_
    refine T_aload_n hok 0 rfl rfl dX10_blind_26 ?_
    refine T_getR hok fr_X10_37 lc_0 rc_0_5 dX10_blind_27 ?_
    refine T_getR hok fr_X10_153 lc_38 rc_38_5 dX10_blind_30 ?_
    refine T_iload_n hok 1 rfl rfl dX10_blind_33 ?_
    refine T_zald hok lc_44 dX10_blind_34 ?_
    refine T_jp _ (fun (j43 : Bool → Int32 → Option (Int32 × MI)) => ∀ (x3 : Bool) (x4 : Int32), T X A (Zm X A (ii1 (fun (I' : MI) => Rg G b Lc (Rc b bk dr it) I' J))) 2 0 0 43 [(0, .ref (b + 0)), (1, .int a1)] [.int (bi x3), .int x4, .ref (b + 44)] (Rg G b Lc (Rc b bk dr it) I2 J) (j43 x3 x4)) _ ?_ ?_
    · intro x3 x4
      refine T_zast hok hA lc_44 dX10_blind_43 ?_
      intro I5
      refine T_aload_n hok 0 rfl rfl dX10_blind_44 ?_
      refine T_getR hok fr_X10_37 lc_0 rc_0_5 dX10_blind_45 ?_
      refine T_getR hok fr_X10_153 lc_38 rc_38_5 dX10_blind_48 ?_
      refine T_iload_n hok 1 rfl rfl dX10_blind_51 ?_
      refine T_zald hok lc_44 dX10_blind_52 ?_
      refine T_jp _ (fun (j61 : Bool → Option (Int32 × MI)) => ∀ (x6 : Bool), T X A (Zm X A (ii1 (fun (I' : MI) => Rg G b Lc (Rc b bk dr it) I' J))) 2 0 0 61 [] [.int (bi x6)] (Rg G b Lc (Rc b bk dr it) I5 J) (j61 x6)) _ ?_ ?_
      · intro x6
        exact T_iret hok dX10_blind_61 (Nat.zero_le _) (Nat.zero_le _) rfl
      intro j61 hj61
      refine T_if_eq (tgt := 60) hok dX10_blind_53 rfl ?_ ?_
      · refine T_iconst hok ic_0 dX10_blind_60 ?_
        refine T_sub (lv' := []) [] rfl ?_
        exact hj61 false
      refine T_iconst hok ic_1 dX10_blind_56 ?_
      refine T_goto (tgt := 61) hok dX10_blind_57 rfl ?_
      refine T_sub (lv' := []) [] rfl ?_
      exact hj61 true
    intro j43 hj43
    refine T_if_ne (tgt := 42) hok dX10_blind_35 rfl ?_ ?_
    · refine T_iconst hok ic_1 dX10_blind_38 ?_
      refine T_goto (tgt := 43) hok dX10_blind_39 rfl ?_
      exact hj43 true a1
    refine T_iconst hok ic_0 dX10_blind_42 ?_
    exact hj43 false a1
  refine T_iconst hok ic_m1 dX10_blind_8 ?_
  exact T_iret hok dX10_blind_9 (Nat.zero_le _) (Nat.zero_le _) rfl

set_option maxHeartbeats 4000000 in
set_option maxRecDepth 100000 in
theorem ct_X10_send {G : Gx} {l0 : Launch} {A : Nat → Prop} {b bk dr it : Nat} (hA : ∀ k, k < Lc.length → A (b + k)) (hbk : isBk bk = true) (I : MI) (J : MJ) (a1 : Int32) : Ct G l0 A yX10_send cX10_send 2 (some .boolean) { frames := 3, cells := 0, slots := 0, locals := 64 } [.ref (b + 0), .int a1] (Rg G b Lc (Rc b bk dr it) I J) (iz1 (fun (I' : MI) => Rg G b Lc (Rc b bk dr it) I' J)) (f_X10_send bk I a1) := by
  refine Ct.of rfl (Nat.le_of_ble_eq_true rfl) ?_
  intro X hok
  replace hok : Ok G l0 X RX10 cX10_send 2 { frames := 3, cells := 0, slots := 0, locals := 64 } (some .boolean) := hok
  delta f_X10_send
  show T X A (Zm X A (iz1 (fun (I' : MI) => Rg G b Lc (Rc b bk dr it) I' J))) 2 0 0 0 [(0, .ref (b + 0)), (1, .int a1)] [] (Rg G b Lc (Rc b bk dr it) I J) _
  refine T_aload_n hok 0 rfl rfl dX10_send_0 ?_
  refine T_iload_n hok 1 rfl rfl dX10_send_1 ?_
  refine T_cz0 (CR_V (rest := []) hok (ct_X10_isKind hA hbk I J a1) mw_X10_isKind mv_X10_isKind ml_X10_161 lc_0 dX10_send_2 rfl rfl (roomOk rfl) rfl) rfl rfl ?_
  intro x1
  refine T_ifb_ne (tgt := 10) hok dX10_send_5 rfl ?_ ?_
  · refine T_aload_n hok 0 rfl rfl dX10_send_10 ?_
    refine T_getR hok fr_X10_57 lc_0 rc_0_10 dX10_send_11 ?_
    refine T_aload_n hok 0 rfl rfl dX10_send_14 ?_
    refine T_getR hok fr_X10_37 lc_0 rc_0_5 dX10_send_15 ?_
    refine T_getI hok fr_X10_264 lc_38 dX10_send_18 ?_
    refine T_cv1 (CR_V (rest := []) hok (ct_X9_sent hA I J (I 38 9)) mw_X9_sent mv_X9_sent ml_X10_267 lc_64 dX10_send_21 rfl rfl (roomOk rfl) rfl) rfl rfl ?_
    intro I2
    refine T_aload_n hok 0 rfl rfl dX10_send_24 ?_
    refine T_getR hok fr_X10_37 lc_0 rc_0_5 dX10_send_25 ?_
    refine T_iload_n hok 1 rfl rfl dX10_send_28 ?_
    refine T_putI hok hA fr_X10_264 rfl rfl lc_38 dX10_send_29 ?_
    intro I3
    refine T_iconst hok ic_1 dX10_send_32 ?_
    exact T_zret hok dX10_send_33 (Nat.zero_le _) (Nat.zero_le _) rfl rfl
  refine T_iconst hok ic_0 dX10_send_8 ?_
  exact T_zret hok dX10_send_9 (Nat.zero_le _) (Nat.zero_le _) rfl rfl

set_option maxHeartbeats 4000000 in
set_option maxRecDepth 100000 in
theorem ct_X10_lend {G : Gx} {l0 : Launch} {A : Nat → Prop} {b bk dr it : Nat} (hA : ∀ k, k < Lc.length → A (b + k)) (hbk : isBk bk = true) (I : MI) (J : MJ) (a1 : Int32) (a2 : Int32) (a3 : Int32) : Ct G l0 A yX10_lend cX10_lend 4 (some .int) { frames := 3, cells := 0, slots := 0, locals := 66 } [.ref (b + 0), .int a1, .int a2, .int a3] (Rg G b Lc (Rc b bk dr it) I J) (ii1 (fun (I' : MI) => Rg G b Lc (Rc b bk dr it) I' J)) (f_X10_lend bk I a1 a2 a3) := by
  refine Ct.of rfl (Nat.le_of_ble_eq_true rfl) ?_
  intro X hok
  replace hok : Ok G l0 X RX10 cX10_lend 4 { frames := 3, cells := 0, slots := 0, locals := 66 } (some .int) := hok
  delta f_X10_lend
  show T X A (Zm X A (ii1 (fun (I' : MI) => Rg G b Lc (Rc b bk dr it) I' J))) 4 0 0 0 [(0, .ref (b + 0)), (1, .int a1), (2, .int a2), (3, .int a3)] [] (Rg G b Lc (Rc b bk dr it) I J) _
  refine T_aload_n hok 0 rfl rfl dX10_lend_0 ?_
  refine T_iload_n hok 1 rfl rfl dX10_lend_1 ?_
  refine T_cz0 (CR_V (rest := []) hok (ct_X10_isHouse hA hbk I J a1) mw_X10_isHouse mv_X10_isHouse ml_X10_122 lc_0 dX10_lend_2 rfl rfl (roomOk rfl) rfl) rfl rfl ?_
  intro x1
  refine T_jp _ (fun (j32 : Option (Int32 × MI)) => T X A (Zm X A (ii1 (fun (I' : MI) => Rg G b Lc (Rc b bk dr it) I' J))) 4 0 0 32 [] [] (Rg G b Lc (Rc b bk dr it) I J) (j32)) _ ?_ ?_
  · skip
    refine T_iconst hok ic_m1 dX10_lend_32 ?_
    exact T_iret hok dX10_lend_33 (Nat.zero_le _) (Nat.zero_le _) rfl
  intro j32 hj32
  refine T_ifb_eq (tgt := 32) hok dX10_lend_5 rfl ?_ ?_
  · refine T_aload_n hok 0 rfl rfl dX10_lend_8 ?_
    refine T_iload_n hok 2 rfl rfl dX10_lend_9 ?_
    refine T_cz0 (CR_V (rest := []) hok (ct_X10_isHouse hA hbk I J a2) mw_X10_isHouse mv_X10_isHouse ml_X10_122 lc_0 dX10_lend_10 rfl rfl (roomOk rfl) rfl) rfl rfl ?_
    intro x2
    refine T_ifb_eq (tgt := 32) hok dX10_lend_13 rfl ?_ ?_
    · refine T_iload_n hok 1 rfl rfl dX10_lend_16 ?_
      refine T_iload_n hok 2 rfl rfl dX10_lend_17 ?_
      refine T_icmp_eq (tgt := 32) hok dX10_lend_18 rfl ?_ ?_
      · refine T_sub (lv' := []) [] rfl ?_
        exact hj32
      refine T_iload_n hok 3 rfl rfl dX10_lend_21 ?_
      refine T_iconst hok ic_1 dX10_lend_22 ?_
      refine T_sipush hok sp_999 dX10_lend_23 ?_
      refine T_cz0 (CR_S (rest := []) hok (ct_X10_isWithin a3 (1 : Int32) (999 : Int32)) mw_X10_isWithin mst_X10_isWithin ml_X10_173 dX10_lend_26 rfl rfl (roomOk rfl) rfl) rfl rfl ?_
      intro x3
      refine T_ifb_ne (tgt := 34) hok dX10_lend_29 rfl ?_ ?_
      · refine T_aload_n hok 0 rfl rfl dX10_lend_34 ?_
        refine T_getR hok fr_X10_37 lc_0 rc_0_5 dX10_lend_35 ?_
        refine T_getR hok fr_X10_149 lc_38 rc_38_4 dX10_lend_38 ?_
        refine T_iload_n hok 1 rfl rfl dX10_lend_41 ?_
        refine T_zald hok lc_43 dX10_lend_42 ?_
        refine T_jp _ (fun (j71 : Option (Int32 × MI)) => T X A (Zm X A (ii1 (fun (I' : MI) => Rg G b Lc (Rc b bk dr it) I' J))) 4 0 0 71 [] [] (Rg G b Lc (Rc b bk dr it) I J) (j71)) _ ?_ ?_
        · skip
          refine T_bipush hok bp_m2 dX10_lend_71 ?_
          exact T_iret hok dX10_lend_73 (Nat.zero_le _) (Nat.zero_le _) rfl
        intro j71 hj71
        refine T_if_ne (tgt := 71) hok dX10_lend_43 rfl ?_ ?_
        · refine T_aload_n hok 0 rfl rfl dX10_lend_46 ?_
          refine T_getR hok fr_X10_37 lc_0 rc_0_5 dX10_lend_47 ?_
          refine T_getR hok fr_X10_149 lc_38 rc_38_4 dX10_lend_50 ?_
          refine T_iload_n hok 2 rfl rfl dX10_lend_53 ?_
          refine T_zald hok lc_43 dX10_lend_54 ?_
          refine T_if_ne (tgt := 71) hok dX10_lend_55 rfl ?_ ?_
          · refine T_aload_n hok 0 rfl rfl dX10_lend_58 ?_
            refine T_getR hok fr_X10_37 lc_0 rc_0_5 dX10_lend_59 ?_
            refine T_getR hok fr_X10_133 lc_38 rc_38_0 dX10_lend_62 ?_
            refine T_iload_n hok 1 rfl rfl dX10_lend_65 ?_
            refine T_iald hok lc_39 dX10_lend_66 ?_
            refine T_iload_n hok 3 rfl rfl dX10_lend_67 ?_
            refine T_icmp_ge (tgt := 74) hok dX10_lend_68 rfl ?_ ?_
            · refine T_aload_n hok 0 rfl rfl dX10_lend_74 ?_
              refine T_getR hok fr_X10_57 lc_0 rc_0_10 dX10_lend_75 ?_
              refine T_aload_n hok 0 rfl rfl dX10_lend_78 ?_
              refine T_getR hok fr_X10_37 lc_0 rc_0_5 dX10_lend_79 ?_
              refine T_iload_n hok 1 rfl rfl dX10_lend_82 ?_
              refine T_iload_n hok 2 rfl rfl dX10_lend_83 ?_
              refine T_cv1 (CR_V (rest := []) hok (ct_X9_lent hA isTn_38 I J a1 a2) mw_X9_lent mv_X9_lent ml_X10_270 lc_64 dX10_lend_84 rfl rfl (roomOk rfl) rfl) rfl rfl ?_
              intro I4
              refine T_aload_n hok 0 rfl rfl dX10_lend_87 ?_
              refine T_getR hok fr_X10_37 lc_0 rc_0_5 dX10_lend_88 ?_
              refine T_getR hok fr_X10_133 lc_38 rc_38_0 dX10_lend_91 ?_
              refine T_iload_n hok 1 rfl rfl dX10_lend_94 ?_
              refine T_dup2 hok rfl rfl dX10_lend_95 ?_
              refine T_iald hok lc_39 dX10_lend_96 ?_
              refine T_iload_n hok 3 rfl rfl dX10_lend_97 ?_
              refine T_isub hok dX10_lend_98 ?_
              refine T_iast hok hA lc_39 dX10_lend_99 ?_
              intro I5
              refine T_aload_n hok 0 rfl rfl dX10_lend_100 ?_
              refine T_getR hok fr_X10_37 lc_0 rc_0_5 dX10_lend_101 ?_
              refine T_getR hok fr_X10_133 lc_38 rc_38_0 dX10_lend_104 ?_
              refine T_iload_n hok 2 rfl rfl dX10_lend_107 ?_
              refine T_ldcw hok lk_X10_274 dX10_lend_108 ?_
              refine T_aload_n hok 0 rfl rfl dX10_lend_111 ?_
              refine T_getR hok fr_X10_37 lc_0 rc_0_5 dX10_lend_112 ?_
              refine T_getR hok fr_X10_133 lc_38 rc_38_0 dX10_lend_115 ?_
              refine T_iload_n hok 2 rfl rfl dX10_lend_118 ?_
              refine T_iald hok lc_39 dX10_lend_119 ?_
              refine T_iload_n hok 3 rfl rfl dX10_lend_120 ?_
              refine T_iadd hok dX10_lend_121 ?_
              refine T_mmin hok mm_mmin ml_X10_275 dX10_lend_122 (Nat.le_of_ble_eq_true rfl) (Nat.le_of_ble_eq_true rfl) (Nat.zero_le _) (Nat.zero_le _) ?_
              refine T_iast hok hA lc_39 dX10_lend_125 ?_
              intro I6
              refine T_aload_n hok 0 rfl rfl dX10_lend_126 ?_
              refine T_getR hok fr_X10_37 lc_0 rc_0_5 dX10_lend_127 ?_
              refine T_getR hok fr_X10_133 lc_38 rc_38_0 dX10_lend_130 ?_
              refine T_iload_n hok 2 rfl rfl dX10_lend_133 ?_
              refine T_iald hok lc_39 dX10_lend_134 ?_
              exact T_iret hok dX10_lend_135 (Nat.zero_le _) (Nat.zero_le _) rfl
            refine T_sub (lv' := []) [] rfl ?_
            exact hj71
          refine T_sub (lv' := []) [] rfl ?_
          exact hj71
        refine T_sub (lv' := []) [] rfl ?_
        exact hj71
      refine T_sub (lv' := []) [] rfl ?_
      exact hj32
    refine T_sub (lv' := []) [] rfl ?_
    exact hj32
  refine T_sub (lv' := []) [] rfl ?_
  exact hj32

set_option maxHeartbeats 4000000 in
set_option maxRecDepth 100000 in
theorem ct_X10_go {G : Gx} {l0 : Launch} {A : Nat → Prop} {b bk dr it : Nat} (hA : ∀ k, k < Lc.length → A (b + k)) (hbk : isBk bk = true) (I : MI) (J : MJ) (a1 : Int32) : Ct G l0 A yX10_go cX10_go 3 (some .int) { frames := 5, cells := 0, slots := 0, locals := 132 } [.ref (b + 0), .int a1] (Rg G b Lc (Rc b bk dr it) I J) (ii2 (fun (I' : MI) (J' : MJ) => Rg G b Lc (Rc b bk dr it) I' J')) (f_X10_go bk I J a1) := by
  refine Ct.of rfl (Nat.le_of_ble_eq_true rfl) ?_
  intro X hok
  replace hok : Ok G l0 X RX10 cX10_go 3 { frames := 5, cells := 0, slots := 0, locals := 132 } (some .int) := hok
  delta f_X10_go
  show T X A (Zm X A (ii2 (fun (I' : MI) (J' : MJ) => Rg G b Lc (Rc b bk dr it) I' J'))) 3 0 0 0 [(0, .ref (b + 0)), (1, .int a1)] [] (Rg G b Lc (Rc b bk dr it) I J) _
  refine T_iload_n hok 1 rfl rfl dX10_go_0 ?_
  refine T_iconst hok ic_0 dX10_go_1 ?_
  refine T_sipush hok sp_200 dX10_go_2 ?_
  refine T_cz0 (CR_S (rest := []) hok (ct_X10_isWithin a1 (0 : Int32) (200 : Int32)) mw_X10_isWithin mst_X10_isWithin ml_X10_173 dX10_go_5 rfl rfl (roomOk rfl) rfl) rfl rfl ?_
  intro x1
  refine T_jp _ (fun (j26 : Option (Int32 × MI × MJ)) => T X A (Zm X A (ii2 (fun (I' : MI) (J' : MJ) => Rg G b Lc (Rc b bk dr it) I' J'))) 3 0 0 26 [] [] (Rg G b Lc (Rc b bk dr it) I J) (j26)) _ ?_ ?_
  · skip
    refine T_iconst hok ic_m1 dX10_go_26 ?_
    exact T_iret hok dX10_go_27 (Nat.zero_le _) (Nat.zero_le _) rfl
  intro j26 hj26
  refine T_ifb_eq (tgt := 26) hok dX10_go_8 rfl ?_ ?_
  · refine T_aload_n hok 0 rfl rfl dX10_go_11 ?_
    refine T_getR hok fr_X10_37 lc_0 rc_0_5 dX10_go_12 ?_
    refine T_getI hok fr_X10_231 lc_38 dX10_go_15 ?_
    refine T_iload_n hok 1 rfl rfl dX10_go_18 ?_
    refine T_iadd hok dX10_go_19 ?_
    refine T_sipush hok sp_9000 dX10_go_20 ?_
    refine T_icmp_le (tgt := 28) hok dX10_go_23 rfl ?_ ?_
    · refine T_aload_n hok 0 rfl rfl dX10_go_28 ?_
      refine T_getR hok fr_X10_50 lc_0 rc_0_9 dX10_go_29 ?_
      refine T_cv1 (CR_V (rest := []) hok (ct_X1_plain hA I J) mw_X1_plain mv_X1_plain ml_X10_182 lc_62 dX10_go_32 rfl rfl (roomOk rfl) rfl) rfl rfl ?_
      intro I2
      refine T_aload_n hok 0 rfl rfl dX10_go_35 ?_
      refine T_getR hok fr_X10_50 lc_0 rc_0_9 dX10_go_36 ?_
      refine T_iconst hok ic_1 dX10_go_39 ?_
      refine T_putZ hok hA fr_X10_281 rfl rfl lc_62 dX10_go_40 ?_
      intro I3
      refine T_iconst hok ic_0 dX10_go_43 ?_
      refine T_istore_n (lv' := [(2, .int (0 : Int32)), (0, .ref (b + 0)), (1, .int a1)]) hok rfl (by decide) rfl dX10_go_44 ?_
      refine T_jp _ (fun (j72 : MI → MJ → Option (Int32 × MI × MJ)) => ∀ (I4 : MI) (J5 : MJ), T X A (Zm X A (ii2 (fun (I' : MI) (J' : MJ) => Rg G b Lc (Rc b bk dr it) I' J'))) 3 0 0 72 [(0, .ref (b + 0)), (1, .int a1)] [] (Rg G b Lc (Rc b bk dr it) I4 J5) (j72 I4 J5)) _ ?_ ?_
      · intro I4 J5
        refine T_iload_n hok 1 rfl rfl dX10_go_72 ?_
        refine T_jp _ (fun (j83 : MI → Option (Int32 × MI × MJ)) => ∀ (I6 : MI), T X A (Zm X A (ii2 (fun (I' : MI) (J' : MJ) => Rg G b Lc (Rc b bk dr it) I' J'))) 3 0 0 83 [(0, .ref (b + 0))] [] (Rg G b Lc (Rc b bk dr it) I6 J5) (j83 I6)) _ ?_ ?_
        · intro I6
          refine T_aload_n hok 0 rfl rfl dX10_go_83 ?_
          refine T_getR hok fr_X10_37 lc_0 rc_0_5 dX10_go_84 ?_
          refine T_getI hok fr_X10_231 lc_38 dX10_go_87 ?_
          exact T_iret hok dX10_go_90 (Nat.zero_le _) (Nat.zero_le _) rfl
        intro j83 hj83
        refine T_if_le (tgt := 83) hok dX10_go_73 rfl ?_ ?_
        · refine T_sub (lv' := [(0, .ref (b + 0))]) [0] rfl ?_
          exact hj83 I4
        refine T_aload_n hok 0 rfl rfl dX10_go_76 ?_
        refine T_getR hok fr_X10_57 lc_0 rc_0_10 dX10_go_77 ?_
        refine T_cv1 (CR_V (rest := []) hok (ct_X9_clear hA I4 J5) mw_X9_clear mv_X9_clear ml_X10_101 lc_64 dX10_go_80 rfl rfl (roomOk rfl) rfl) rfl rfl ?_
        intro I7
        refine T_sub (lv' := [(0, .ref (b + 0))]) [0] rfl ?_
        exact hj83 I7
      intro j72 hj72
      refine T_sub (lv' := [(0, .ref (b + 0)), (1, .int a1), (2, .int (0 : Int32))]) [1, 2, 0] rfl ?_
      refine T_fix3 _ (fun (x8 : Int32) (I9 : MI) (J10 : MJ) => [(0, .ref (b + 0)), (1, .int a1), (2, .int x8)]) (fun (x8 : Int32) (I9 : MI) (J10 : MJ) => Rg G b Lc (Rc b bk dr it) I9 J10) ?_ FU (0 : Int32) I3 J
      intro r45 hr45 x8 I9 J10
      refine T_iload_n hok 2 rfl rfl dX10_go_45 ?_
      refine T_iload_n hok 1 rfl rfl dX10_go_46 ?_
      refine T_icmp_ge (tgt := 72) hok dX10_go_47 rfl ?_ ?_
      · refine T_sub (lv' := [(0, .ref (b + 0)), (1, .int a1)]) [0, 1] rfl ?_
        exact hj72 I9 J10
      refine T_aload_n hok 0 rfl rfl dX10_go_50 ?_
      refine T_getR hok fr_X10_50 lc_0 rc_0_9 dX10_go_51 ?_
      refine T_aload_n hok 0 rfl rfl dX10_go_54 ?_
      refine T_getR hok fr_X10_18 lc_0 rc_0_2 dX10_go_55 ?_
      refine T_aload_n hok 0 rfl rfl dX10_go_58 ?_
      refine T_getR hok fr_X10_37 lc_0 rc_0_5 dX10_go_59 ?_
      refine T_iconst hok ic_m1 dX10_go_62 ?_
      refine T_cv2 (CR_V (rest := []) hok (ct_X1_pass hA hbk isTn_38 I9 J10 (-1 : Int32)) mw_X1_pass mv_X1_pass ml_X10_284 lc_62 dX10_go_63 rfl rfl (roomOk rfl) rfl) rfl rfl ?_
      intro I11 J12
      refine T_iinc (lvs := fun x13 => [(2, .int x13), (0, .ref (b + 0)), (1, .int a1)]) hok 2 rfl ic_1 (by decide) (fun _ => rfl) dX10_go_66 ?_
      intro x13
      refine T_goto (tgt := 45) hok dX10_go_69 rfl ?_
      refine T_sub (lv' := [(0, .ref (b + 0)), (1, .int a1), (2, .int x13)]) [1, 2, 0] rfl ?_
      exact hr45 x13 I11 J12
    refine T_sub (lv' := []) [] rfl ?_
    exact hj26
  refine T_sub (lv' := []) [] rfl ?_
  exact hj26

set_option maxHeartbeats 4000000 in
set_option maxRecDepth 100000 in
theorem ct_X10_undo {G : Gx} {l0 : Launch} {A : Nat → Prop} {b bk dr it : Nat} (hA : ∀ k, k < Lc.length → A (b + k)) (I : MI) (J : MJ) : Ct G l0 A yX10_undo cX10_undo 1 (some .int) { frames := 1, cells := 0, slots := 0, locals := 22 } [.ref (b + 0)] (Rg G b Lc (Rc b bk dr it) I J) (ii1 (fun (I' : MI) => Rg G b Lc (Rc b bk dr it) I' J)) (f_X10_undo I) := by
  refine Ct.of rfl (Nat.le_of_ble_eq_true rfl) ?_
  intro X hok
  replace hok : Ok G l0 X RX10 cX10_undo 1 { frames := 1, cells := 0, slots := 0, locals := 22 } (some .int) := hok
  delta f_X10_undo
  show T X A (Zm X A (ii1 (fun (I' : MI) => Rg G b Lc (Rc b bk dr it) I' J))) 1 0 0 0 [(0, .ref (b + 0))] [] (Rg G b Lc (Rc b bk dr it) I J) _
  refine T_aload_n hok 0 rfl rfl dX10_undo_0 ?_
  refine T_getR hok fr_X10_57 lc_0 rc_0_10 dX10_undo_1 ?_
  refine T_aload_n hok 0 rfl rfl dX10_undo_4 ?_
  refine T_getR hok fr_X10_37 lc_0 rc_0_5 dX10_undo_5 ?_
  refine T_cz1 (CR_V (rest := []) hok (ct_X9_undoLatest hA isTn_38 I J) mw_X9_undoLatest mv_X9_undoLatest ml_X10_288 lc_64 dX10_undo_8 rfl rfl (roomOk rfl) rfl) rfl rfl ?_
  intro x1 I2
  refine T_jp _ (fun (j25 : Int32 → Option (Int32 × MI)) => ∀ (x3 : Int32), T X A (Zm X A (ii1 (fun (I' : MI) => Rg G b Lc (Rc b bk dr it) I' J))) 1 0 0 25 [] [.int x3] (Rg G b Lc (Rc b bk dr it) I2 J) (j25 x3)) _ ?_ ?_
  · intro x3
    exact T_iret hok dX10_undo_25 (Nat.zero_le _) (Nat.zero_le _) rfl
  intro j25 hj25
  refine T_ifb_eq (tgt := 24) hok dX10_undo_11 rfl ?_ ?_
  · refine T_aload_n hok 0 rfl rfl dX10_undo_14 ?_
    refine T_getR hok fr_X10_57 lc_0 rc_0_10 dX10_undo_15 ?_
    refine T_getI hok fr_X10_260 lc_64 dX10_undo_18 ?_
    refine T_goto (tgt := 25) hok dX10_undo_21 rfl ?_
    refine T_sub (lv' := []) [] rfl ?_
    exact hj25 (I2 64 5)
  refine T_iconst hok ic_m1 dX10_undo_24 ?_
  refine T_sub (lv' := []) [] rfl ?_
  exact hj25 (-1 : Int32)

set_option maxHeartbeats 4000000 in
set_option maxRecDepth 100000 in
theorem ct_X10_keep {G : Gx} {l0 : Launch} {A : Nat → Prop} {b bk dr it : Nat} (hA : ∀ k, k < Lc.length → A (b + k)) (I : MI) (J : MJ) : Ct G l0 A yX10_keep cX10_keep 1 (some .int) { frames := 1, cells := 0, slots := 0, locals := 22 } [.ref (b + 0)] (Rg G b Lc (Rc b bk dr it) I J) (ii1 (fun (I' : MI) => Rg G b Lc (Rc b bk dr it) I' J)) (f_X10_keep I) := by
  refine Ct.of rfl (Nat.le_of_ble_eq_true rfl) ?_
  intro X hok
  replace hok : Ok G l0 X RX10 cX10_keep 1 { frames := 1, cells := 0, slots := 0, locals := 22 } (some .int) := hok
  delta f_X10_keep
  show T X A (Zm X A (ii1 (fun (I' : MI) => Rg G b Lc (Rc b bk dr it) I' J))) 1 0 0 0 [(0, .ref (b + 0))] [] (Rg G b Lc (Rc b bk dr it) I J) _
  refine T_aload_n hok 0 rfl rfl dX10_keep_0 ?_
  refine T_getR hok fr_X10_44 lc_0 rc_0_7 dX10_keep_1 ?_
  refine T_aload_n hok 0 rfl rfl dX10_keep_4 ?_
  refine T_getR hok fr_X10_37 lc_0 rc_0_5 dX10_keep_5 ?_
  refine T_cv1 (CR_V (rest := []) hok (ct_X8_takeFrom hA townAt_54 townAt_38 I J) mw_X8_takeFrom mv_X8_takeFrom ml_X10_292 lc_54 dX10_keep_8 rfl rfl (roomOk rfl) rfl) rfl rfl ?_
  intro I1
  refine T_aload_n hok 0 rfl rfl dX10_keep_11 ?_
  refine T_iconst hok ic_1 dX10_keep_12 ?_
  refine T_putZ hok hA fr_X10_102 rfl rfl lc_0 dX10_keep_13 ?_
  intro I2
  refine T_aload_n hok 0 rfl rfl dX10_keep_16 ?_
  refine T_getR hok fr_X10_37 lc_0 rc_0_5 dX10_keep_17 ?_
  refine T_getI hok fr_X10_231 lc_38 dX10_keep_20 ?_
  exact T_iret hok dX10_keep_23 (Nat.zero_le _) (Nat.zero_le _) rfl

set_option maxHeartbeats 4000000 in
set_option maxRecDepth 100000 in
theorem ct_X10_back {G : Gx} {l0 : Launch} {A : Nat → Prop} {b bk dr it : Nat} (hA : ∀ k, k < Lc.length → A (b + k)) (I : MI) (J : MJ) : Ct G l0 A yX10_back cX10_back 1 (some .int) { frames := 1, cells := 0, slots := 0, locals := 22 } [.ref (b + 0)] (Rg G b Lc (Rc b bk dr it) I J) (ii1 (fun (I' : MI) => Rg G b Lc (Rc b bk dr it) I' J)) (f_X10_back I) := by
  refine Ct.of rfl (Nat.le_of_ble_eq_true rfl) ?_
  intro X hok
  replace hok : Ok G l0 X RX10 cX10_back 1 { frames := 1, cells := 0, slots := 0, locals := 22 } (some .int) := hok
  delta f_X10_back
  show T X A (Zm X A (ii1 (fun (I' : MI) => Rg G b Lc (Rc b bk dr it) I' J))) 1 0 0 0 [(0, .ref (b + 0))] [] (Rg G b Lc (Rc b bk dr it) I J) _
  refine T_aload_n hok 0 rfl rfl dX10_back_0 ?_
  refine T_getI hok fr_X10_102 lc_0 dX10_back_1 ?_
  refine T_if_ne (tgt := 9) hok dX10_back_4 rfl ?_ ?_
  · refine T_iconst hok ic_m1 dX10_back_7 ?_
    exact T_iret hok dX10_back_8 (Nat.zero_le _) (Nat.zero_le _) rfl
  refine T_aload_n hok 0 rfl rfl dX10_back_9 ?_
  refine T_getR hok fr_X10_37 lc_0 rc_0_5 dX10_back_10 ?_
  refine T_aload_n hok 0 rfl rfl dX10_back_13 ?_
  refine T_getR hok fr_X10_44 lc_0 rc_0_7 dX10_back_14 ?_
  refine T_cv1 (CR_V (rest := []) hok (ct_X8_takeFrom hA townAt_38 townAt_54 I J) mw_X8_takeFrom mv_X8_takeFrom ml_X10_292 lc_38 dX10_back_17 rfl rfl (roomOk rfl) rfl) rfl rfl ?_
  intro I1
  refine T_aload_n hok 0 rfl rfl dX10_back_20 ?_
  refine T_getR hok fr_X10_57 lc_0 rc_0_10 dX10_back_21 ?_
  refine T_cv1 (CR_V (rest := []) hok (ct_X9_clear hA I1 J) mw_X9_clear mv_X9_clear ml_X10_101 lc_64 dX10_back_24 rfl rfl (roomOk rfl) rfl) rfl rfl ?_
  intro I2
  refine T_aload_n hok 0 rfl rfl dX10_back_27 ?_
  refine T_getR hok fr_X10_37 lc_0 rc_0_5 dX10_back_28 ?_
  refine T_getI hok fr_X10_231 lc_38 dX10_back_31 ?_
  exact T_iret hok dX10_back_34 (Nat.zero_le _) (Nat.zero_le _) rfl

set_option maxHeartbeats 4000000 in
set_option maxRecDepth 100000 in
theorem ct_X10_rehearse {G : Gx} {l0 : Launch} {A : Nat → Prop} {b bk dr it : Nat} (hA : ∀ k, k < Lc.length → A (b + k)) (I : MI) (J : MJ) : Ct G l0 A yX10_rehearse cX10_rehearse 1 none { frames := 1, cells := 0, slots := 0, locals := 22 } [.ref (b + 0)] (Rg G b Lc (Rc b bk dr it) I J) (iv1 (fun (I' : MI) => Rg G b Lc (Rc b bk dr it) I' J)) (f_X10_rehearse I) := by
  refine Ct.of rfl (Nat.le_of_ble_eq_true rfl) ?_
  intro X hok
  replace hok : Ok G l0 X RX10 cX10_rehearse 1 { frames := 1, cells := 0, slots := 0, locals := 22 } none := hok
  delta f_X10_rehearse
  show T X A (Zm X A (iv1 (fun (I' : MI) => Rg G b Lc (Rc b bk dr it) I' J))) 1 0 0 0 [(0, .ref (b + 0))] [] (Rg G b Lc (Rc b bk dr it) I J) _
  refine T_aload_n hok 0 rfl rfl dX10_rehearse_0 ?_
  refine T_getR hok fr_X10_50 lc_0 rc_0_9 dX10_rehearse_1 ?_
  refine T_cv1 (CR_V (rest := []) hok (ct_X1_plain hA I J) mw_X1_plain mv_X1_plain ml_X10_182 lc_62 dX10_rehearse_4 rfl rfl (roomOk rfl) rfl) rfl rfl ?_
  intro I1
  refine T_aload_n hok 0 rfl rfl dX10_rehearse_7 ?_
  refine T_getR hok fr_X10_41 lc_0 rc_0_6 dX10_rehearse_8 ?_
  refine T_aload_n hok 0 rfl rfl dX10_rehearse_11 ?_
  refine T_getR hok fr_X10_37 lc_0 rc_0_5 dX10_rehearse_12 ?_
  refine T_cv1 (CR_V (rest := []) hok (ct_X8_takeFrom hA townAt_46 townAt_38 I1 J) mw_X8_takeFrom mv_X8_takeFrom ml_X10_292 lc_46 dX10_rehearse_15 rfl rfl (roomOk rfl) rfl) rfl rfl ?_
  intro I2
  exact T_vret hok dX10_rehearse_18 (Nat.zero_le _) (Nat.zero_le _) rfl

set_option maxHeartbeats 4000000 in
set_option maxRecDepth 100000 in
theorem ct_X10_passTrial {G : Gx} {l0 : Launch} {A : Nat → Prop} {b bk dr it : Nat} (hA : ∀ k, k < Lc.length → A (b + k)) (hbk : isBk bk = true) (I : MI) (J : MJ) (a1 : Int32) (a2 : Int32) : Ct G l0 A yX10_passTrial cX10_passTrial 4 none { frames := 5, cells := 0, slots := 0, locals := 132 } [.ref (b + 0), .int a1, .int a2] (Rg G b Lc (Rc b bk dr it) I J) (iv2 (fun (I' : MI) (J' : MJ) => Rg G b Lc (Rc b bk dr it) I' J')) (f_X10_passTrial bk I J a1 a2) := by
  refine Ct.of rfl (Nat.le_of_ble_eq_true rfl) ?_
  intro X hok
  replace hok : Ok G l0 X RX10 cX10_passTrial 4 { frames := 5, cells := 0, slots := 0, locals := 132 } none := hok
  delta f_X10_passTrial
  show T X A (Zm X A (iv2 (fun (I' : MI) (J' : MJ) => Rg G b Lc (Rc b bk dr it) I' J'))) 4 0 0 0 [(0, .ref (b + 0)), (1, .int a1), (2, .int a2)] [] (Rg G b Lc (Rc b bk dr it) I J) _
  refine T_iconst hok ic_0 dX10_passTrial_0 ?_
  refine T_istore_n (lv' := [(3, .int (0 : Int32)), (0, .ref (b + 0)), (1, .int a1), (2, .int a2)]) hok rfl (by decide) rfl dX10_passTrial_1 ?_
  refine T_sub (lv' := [(0, .ref (b + 0)), (1, .int a1), (2, .int a2), (3, .int (0 : Int32))]) [1, 2, 3, 0] rfl ?_
  refine T_fix3 _ (fun (x1 : Int32) (I2 : MI) (J3 : MJ) => [(0, .ref (b + 0)), (1, .int a1), (2, .int a2), (3, .int x1)]) (fun (x1 : Int32) (I2 : MI) (J3 : MJ) => Rg G b Lc (Rc b bk dr it) I2 J3) ?_ FU (0 : Int32) I J
  intro r2 hr2 x1 I2 J3
  refine T_iload_n hok 3 rfl rfl dX10_passTrial_2 ?_
  refine T_iload_n hok 1 rfl rfl dX10_passTrial_3 ?_
  refine T_icmp_ge (tgt := 29) hok dX10_passTrial_4 rfl ?_ ?_
  · exact T_vret hok dX10_passTrial_29 (Nat.zero_le _) (Nat.zero_le _) rfl
  refine T_aload_n hok 0 rfl rfl dX10_passTrial_7 ?_
  refine T_getR hok fr_X10_50 lc_0 rc_0_9 dX10_passTrial_8 ?_
  refine T_aload_n hok 0 rfl rfl dX10_passTrial_11 ?_
  refine T_getR hok fr_X10_18 lc_0 rc_0_2 dX10_passTrial_12 ?_
  refine T_aload_n hok 0 rfl rfl dX10_passTrial_15 ?_
  refine T_getR hok fr_X10_41 lc_0 rc_0_6 dX10_passTrial_16 ?_
  refine T_iload_n hok 2 rfl rfl dX10_passTrial_19 ?_
  refine T_cv2 (CR_V (rest := []) hok (ct_X1_pass hA hbk isTn_46 I2 J3 a2) mw_X1_pass mv_X1_pass ml_X10_284 lc_62 dX10_passTrial_20 rfl rfl (roomOk rfl) rfl) rfl rfl ?_
  intro I4 J5
  refine T_iinc (lvs := fun x6 => [(3, .int x6), (0, .ref (b + 0)), (1, .int a1), (2, .int a2)]) hok 3 rfl ic_1 (by decide) (fun _ => rfl) dX10_passTrial_23 ?_
  intro x6
  refine T_goto (tgt := 2) hok dX10_passTrial_26 rfl ?_
  refine T_sub (lv' := [(0, .ref (b + 0)), (1, .int a1), (2, .int a2), (3, .int x6)]) [1, 2, 3, 0] rfl ?_
  exact hr2 x6 I4 J5

set_option maxHeartbeats 4000000 in
set_option maxRecDepth 100000 in
theorem ct_X10_ahead {G : Gx} {l0 : Launch} {A : Nat → Prop} {b bk dr it : Nat} (hA : ∀ k, k < Lc.length → A (b + k)) (hbk : isBk bk = true) (I : MI) (J : MJ) (a1 : Int32) (a2 : Int32) (a3 : Int32) : Ct G l0 A yX10_ahead cX10_ahead 4 (some .int) { frames := 6, cells := 0, slots := 0, locals := 155 } [.ref (b + 0), .int a1, .int a2, .int a3] (Rg G b Lc (Rc b bk dr it) I J) (ii2 (fun (I' : MI) (J' : MJ) => Rg G b Lc (Rc b bk dr it) I' J')) (f_X10_ahead bk I J a1 a2 a3) := by
  refine Ct.of rfl (Nat.le_of_ble_eq_true rfl) ?_
  intro X hok
  replace hok : Ok G l0 X RX10 cX10_ahead 4 { frames := 6, cells := 0, slots := 0, locals := 155 } (some .int) := hok
  delta f_X10_ahead
  show T X A (Zm X A (ii2 (fun (I' : MI) (J' : MJ) => Rg G b Lc (Rc b bk dr it) I' J'))) 4 0 0 0 [(0, .ref (b + 0)), (1, .int a1), (2, .int a2), (3, .int a3)] [] (Rg G b Lc (Rc b bk dr it) I J) _
  refine T_iload_n hok 1 rfl rfl dX10_ahead_0 ?_
  refine T_iconst hok ic_0 dX10_ahead_1 ?_
  refine T_sipush hok sp_200 dX10_ahead_2 ?_
  refine T_cz0 (CR_S (rest := []) hok (ct_X10_isWithin a1 (0 : Int32) (200 : Int32)) mw_X10_isWithin mst_X10_isWithin ml_X10_173 dX10_ahead_5 rfl rfl (roomOk rfl) rfl) rfl rfl ?_
  intro x1
  refine T_jp _ (fun (j33 : Option (Int32 × MI × MJ)) => T X A (Zm X A (ii2 (fun (I' : MI) (J' : MJ) => Rg G b Lc (Rc b bk dr it) I' J'))) 4 0 0 33 [] [] (Rg G b Lc (Rc b bk dr it) I J) (j33)) _ ?_ ?_
  · skip
    refine T_ldc hok lk_X10_220 dX10_ahead_33 ?_
    exact T_iret hok dX10_ahead_35 (Nat.zero_le _) (Nat.zero_le _) rfl
  intro j33 hj33
  refine T_ifb_eq (tgt := 33) hok dX10_ahead_8 rfl ?_ ?_
  · refine T_iload_n hok 2 rfl rfl dX10_ahead_11 ?_
    refine T_iconst hok ic_0 dX10_ahead_12 ?_
    refine T_iconst hok ic_4 dX10_ahead_13 ?_
    refine T_cz0 (CR_S (rest := []) hok (ct_X10_isWithin a2 (0 : Int32) (4 : Int32)) mw_X10_isWithin mst_X10_isWithin ml_X10_173 dX10_ahead_14 rfl rfl (roomOk rfl) rfl) rfl rfl ?_
    intro x2
    refine T_ifb_eq (tgt := 33) hok dX10_ahead_17 rfl ?_ ?_
    · refine T_iload_n hok 2 rfl rfl dX10_ahead_20 ?_
      refine T_iconst hok ic_3 dX10_ahead_21 ?_
      refine T_jp _ (fun (j36 : Option (Int32 × MI × MJ)) => T X A (Zm X A (ii2 (fun (I' : MI) (J' : MJ) => Rg G b Lc (Rc b bk dr it) I' J'))) 4 0 0 36 [(0, .ref (b + 0)), (1, .int a1), (2, .int a2), (3, .int a3)] [] (Rg G b Lc (Rc b bk dr it) I J) (j36)) _ ?_ ?_
      · skip
        refine T_aload_n hok 0 rfl rfl dX10_ahead_36 ?_
        refine T_cv1 (CR_V (rest := []) hok (ct_X10_rehearse hA I J) mw_X10_rehearse mv_X10_rehearse ml_X10_299 lc_0 dX10_ahead_37 rfl rfl (roomOk rfl) rfl) rfl rfl ?_
        intro I3
        refine T_aload_n hok 0 rfl rfl dX10_ahead_40 ?_
        refine T_iload_n hok 1 rfl rfl dX10_ahead_41 ?_
        refine T_iload_n hok 2 rfl rfl dX10_ahead_42 ?_
        refine T_iconst hok ic_3 dX10_ahead_43 ?_
        refine T_jp _ (fun (j52 : Int32 → Int32 → Option (Int32 × MI × MJ)) => ∀ (x4 : Int32) (x5 : Int32), T X A (Zm X A (ii2 (fun (I' : MI) (J' : MJ) => Rg G b Lc (Rc b bk dr it) I' J'))) 4 0 0 52 [(0, .ref (b + 0)), (2, .int a2), (3, .int a3)] [.int x4, .int x5, .ref (b + 0)] (Rg G b Lc (Rc b bk dr it) I3 J) (j52 x4 x5)) _ ?_ ?_
        · intro x4 x5
          refine T_cv2 (CR_V (rest := []) hok (ct_X10_passTrial hA hbk I3 J x5 x4) mw_X10_passTrial mv_X10_passTrial ml_X10_302 lc_0 dX10_ahead_52 rfl rfl (roomOk rfl) rfl) rfl rfl ?_
          intro I6 J7
          refine T_iload_n hok 1 rfl rfl dX10_ahead_55 ?_
          refine T_swc (fun hx0 => ?_) (fun hx0 => ?_)
          · refine T_tin (tgt := 88) hok hx0 dX10_ahead_56 (by decide) (by decide) rfl rfl ?_
            refine T_aload_n hok 0 rfl rfl dX10_ahead_88 ?_
            refine T_getR hok fr_X10_41 lc_0 rc_0_6 dX10_ahead_89 ?_
            refine T_getR hok fr_X10_133 lc_46 rc_46_0 dX10_ahead_92 ?_
            refine T_iload_n hok 2 rfl rfl dX10_ahead_95 ?_
            refine T_iald hok lc_47 dX10_ahead_96 ?_
            exact T_iret hok dX10_ahead_97 (Nat.zero_le _) (Nat.zero_le _) rfl
          refine T_swc (fun hx1 => ?_) (fun hx1 => ?_)
          · refine T_tin (tgt := 98) hok hx1 dX10_ahead_56 (by decide) (by decide) rfl rfl ?_
            refine T_aload_n hok 0 rfl rfl dX10_ahead_98 ?_
            refine T_getR hok fr_X10_41 lc_0 rc_0_6 dX10_ahead_99 ?_
            refine T_getR hok fr_X10_137 lc_46 rc_46_1 dX10_ahead_102 ?_
            refine T_iload_n hok 2 rfl rfl dX10_ahead_105 ?_
            refine T_iald hok lc_48 dX10_ahead_106 ?_
            exact T_iret hok dX10_ahead_107 (Nat.zero_le _) (Nat.zero_le _) rfl
          refine T_swc (fun hx2 => ?_) (fun hx2 => ?_)
          · refine T_tin (tgt := 108) hok hx2 dX10_ahead_56 (by decide) (by decide) rfl rfl ?_
            refine T_aload_n hok 0 rfl rfl dX10_ahead_108 ?_
            refine T_getR hok fr_X10_41 lc_0 rc_0_6 dX10_ahead_109 ?_
            refine T_getR hok fr_X10_140 lc_46 rc_46_2 dX10_ahead_112 ?_
            refine T_iload_n hok 2 rfl rfl dX10_ahead_115 ?_
            refine T_iald hok lc_49 dX10_ahead_116 ?_
            exact T_iret hok dX10_ahead_117 (Nat.zero_le _) (Nat.zero_le _) rfl
          refine T_swc (fun hx3 => ?_) (fun hx3 => ?_)
          · refine T_tin (tgt := 118) hok hx3 dX10_ahead_56 (by decide) (by decide) rfl rfl ?_
            refine T_aload_n hok 0 rfl rfl dX10_ahead_118 ?_
            refine T_getR hok fr_X10_41 lc_0 rc_0_6 dX10_ahead_119 ?_
            refine T_ci0 (CR_V (rest := []) hok (ct_X8_howManySoldUp hA townAt_46 I6 J7) mw_X8_howManySoldUp mv_X8_howManySoldUp ml_X10_243 lc_46 dX10_ahead_122 rfl rfl (roomOk rfl) rfl) rfl rfl ?_
            intro x8
            exact T_iret hok dX10_ahead_125 (Nat.zero_le _) (Nat.zero_le _) rfl
          refine T_swd ?_
          have nhx0 := toInt_ne (n := 0) rfl hx0
          have nhx1 := toInt_ne (n := 1) rfl hx1
          have nhx2 := toInt_ne (n := 2) rfl hx2
          have nhx3 := toInt_ne (n := 3) rfl hx3
          refine T_tdf (tgt := 126) (n := 4) hok dX10_ahead_56 rfl (fun j hj he => ?_) rfl ?_
          · rcases (show j = 0 ∨ j = 1 ∨ j = 2 ∨ j = 3 by omega) with rfl | rfl | rfl | rfl <;> first | rfl | (exfalso; omega)
          refine T_aload_n hok 0 rfl rfl dX10_ahead_126 ?_
          refine T_getR hok fr_X10_41 lc_0 rc_0_6 dX10_ahead_127 ?_
          refine T_getR hok fr_X10_146 lc_46 rc_46_3 dX10_ahead_130 ?_
          refine T_ci0 (CR_S (rest := []) hok (ct_X10_sumOfRow hA lc_50 I6 J7) mw_X10_sumOfRow mst_X10_sumOfRow ml_X10_247 dX10_ahead_133 rfl rfl (roomOk rfl) rfl) rfl rfl ?_
          intro x9
          refine T_aload_n hok 0 rfl rfl dX10_ahead_136 ?_
          refine T_getR hok fr_X10_37 lc_0 rc_0_5 dX10_ahead_137 ?_
          refine T_getR hok fr_X10_146 lc_38 rc_38_3 dX10_ahead_140 ?_
          refine T_ci0 (CR_S (rest := [.int x9]) hok (ct_X10_sumOfRow hA lc_42 I6 J7) mw_X10_sumOfRow mst_X10_sumOfRow ml_X10_247 dX10_ahead_143 rfl rfl (roomOk rfl) rfl) rfl rfl ?_
          intro x10
          refine T_isub hok dX10_ahead_146 ?_
          exact T_iret hok dX10_ahead_147 (Nat.zero_le _) (Nat.zero_le _) rfl
        intro j52 hj52
        refine T_icmp_ge (tgt := 51) hok dX10_ahead_44 rfl ?_ ?_
        · refine T_iconst hok ic_m1 dX10_ahead_51 ?_
          refine T_sub (lv' := [(0, .ref (b + 0)), (2, .int a2), (3, .int a3)]) [0, 2, 3] rfl ?_
          exact hj52 (-1 : Int32) a1
        refine T_iload_n hok 3 rfl rfl dX10_ahead_47 ?_
        refine T_goto (tgt := 52) hok dX10_ahead_48 rfl ?_
        refine T_sub (lv' := [(0, .ref (b + 0)), (2, .int a2), (3, .int a3)]) [0, 2, 3] rfl ?_
        exact hj52 a3 a1
      intro j36 hj36
      refine T_icmp_ge (tgt := 36) hok dX10_ahead_22 rfl ?_ ?_
      · exact hj36
      refine T_aload_n hok 0 rfl rfl dX10_ahead_25 ?_
      refine T_iload_n hok 3 rfl rfl dX10_ahead_26 ?_
      refine T_cz0 (CR_V (rest := []) hok (ct_X10_isHouse hA hbk I J a3) mw_X10_isHouse mv_X10_isHouse ml_X10_122 lc_0 dX10_ahead_27 rfl rfl (roomOk rfl) rfl) rfl rfl ?_
      intro x11
      refine T_ifb_ne (tgt := 36) hok dX10_ahead_30 rfl ?_ ?_
      · exact hj36
      refine T_sub (lv' := []) [] rfl ?_
      exact hj33
    refine T_sub (lv' := []) [] rfl ?_
    exact hj33
  refine T_sub (lv' := []) [] rfl ?_
  exact hj33

set_option maxHeartbeats 4000000 in
set_option maxRecDepth 100000 in
theorem ct_X10_daysUntil {G : Gx} {l0 : Launch} {A : Nat → Prop} {b bk dr it : Nat} (hA : ∀ k, k < Lc.length → A (b + k)) (hbk : isBk bk = true) (I : MI) (J : MJ) (a1 : Int32) (a2 : Int32) : Ct G l0 A yX10_daysUntil cX10_daysUntil 4 (some .int) { frames := 5, cells := 0, slots := 0, locals := 132 } [.ref (b + 0), .int a1, .int a2] (Rg G b Lc (Rc b bk dr it) I J) (ii2 (fun (I' : MI) (J' : MJ) => Rg G b Lc (Rc b bk dr it) I' J')) (f_X10_daysUntil bk I J a1 a2) := by
  refine Ct.of rfl (Nat.le_of_ble_eq_true rfl) ?_
  intro X hok
  replace hok : Ok G l0 X RX10 cX10_daysUntil 4 { frames := 5, cells := 0, slots := 0, locals := 132 } (some .int) := hok
  delta f_X10_daysUntil
  show T X A (Zm X A (ii2 (fun (I' : MI) (J' : MJ) => Rg G b Lc (Rc b bk dr it) I' J'))) 4 0 0 0 [(0, .ref (b + 0)), (1, .int a1), (2, .int a2)] [] (Rg G b Lc (Rc b bk dr it) I J) _
  refine T_aload_n hok 0 rfl rfl dX10_daysUntil_0 ?_
  refine T_iload_n hok 2 rfl rfl dX10_daysUntil_1 ?_
  refine T_cz0 (CR_V (rest := []) hok (ct_X10_isHouse hA hbk I J a2) mw_X10_isHouse mv_X10_isHouse ml_X10_122 lc_0 dX10_daysUntil_2 rfl rfl (roomOk rfl) rfl) rfl rfl ?_
  intro x1
  refine T_ifb_ne (tgt := 10) hok dX10_daysUntil_5 rfl ?_ ?_
  · refine T_aload_n hok 0 rfl rfl dX10_daysUntil_10 ?_
    refine T_cv1 (CR_V (rest := []) hok (ct_X10_rehearse hA I J) mw_X10_rehearse mv_X10_rehearse ml_X10_299 lc_0 dX10_daysUntil_11 rfl rfl (roomOk rfl) rfl) rfl rfl ?_
    intro I2
    refine T_iconst hok ic_0 dX10_daysUntil_14 ?_
    refine T_istore_n (lv' := [(3, .int (0 : Int32)), (0, .ref (b + 0)), (1, .int a1), (2, .int a2)]) hok rfl (by decide) rfl dX10_daysUntil_15 ?_
    refine T_sub (lv' := [(0, .ref (b + 0)), (1, .int a1), (2, .int a2), (3, .int (0 : Int32))]) [1, 2, 3, 0] rfl ?_
    refine T_fix3 _ (fun (x3 : Int32) (I4 : MI) (J5 : MJ) => [(0, .ref (b + 0)), (1, .int a1), (2, .int a2), (3, .int x3)]) (fun (x3 : Int32) (I4 : MI) (J5 : MJ) => Rg G b Lc (Rc b bk dr it) I4 J5) ?_ FU (0 : Int32) I2 J
    intro r16 hr16 x3 I4 J5
    refine T_iload_n hok 3 rfl rfl dX10_daysUntil_16 ?_
    refine T_sipush hok sp_200 dX10_daysUntil_17 ?_
    refine T_icmp_ge (tgt := 59) hok dX10_daysUntil_20 rfl ?_ ?_
    · refine T_bipush hok bp_m2 dX10_daysUntil_59 ?_
      exact T_iret hok dX10_daysUntil_61 (Nat.zero_le _) (Nat.zero_le _) rfl
    refine T_aload_n hok 0 rfl rfl dX10_daysUntil_23 ?_
    refine T_getR hok fr_X10_41 lc_0 rc_0_6 dX10_daysUntil_24 ?_
    refine T_iload_n hok 1 rfl rfl dX10_daysUntil_27 ?_
    refine T_iload_n hok 2 rfl rfl dX10_daysUntil_28 ?_
    refine T_cz0 (CR_V (rest := []) hok (ct_X8_shows hA townAt_46 I4 J5 a1 a2) mw_X8_shows mv_X8_shows ml_X10_309 lc_46 dX10_daysUntil_29 rfl rfl (roomOk rfl) rfl) rfl rfl ?_
    intro x6
    refine T_ifb_eq (tgt := 37) hok dX10_daysUntil_32 rfl ?_ ?_
    · refine T_iload_n hok 3 rfl rfl dX10_daysUntil_35 ?_
      exact T_iret hok dX10_daysUntil_36 (Nat.zero_le _) (Nat.zero_le _) rfl
    refine T_aload_n hok 0 rfl rfl dX10_daysUntil_37 ?_
    refine T_getR hok fr_X10_50 lc_0 rc_0_9 dX10_daysUntil_38 ?_
    refine T_aload_n hok 0 rfl rfl dX10_daysUntil_41 ?_
    refine T_getR hok fr_X10_18 lc_0 rc_0_2 dX10_daysUntil_42 ?_
    refine T_aload_n hok 0 rfl rfl dX10_daysUntil_45 ?_
    refine T_getR hok fr_X10_41 lc_0 rc_0_6 dX10_daysUntil_46 ?_
    refine T_iload_n hok 2 rfl rfl dX10_daysUntil_49 ?_
    refine T_cv2 (CR_V (rest := []) hok (ct_X1_pass hA hbk isTn_46 I4 J5 a2) mw_X1_pass mv_X1_pass ml_X10_284 lc_62 dX10_daysUntil_50 rfl rfl (roomOk rfl) rfl) rfl rfl ?_
    intro I7 J8
    refine T_iinc (lvs := fun x9 => [(3, .int x9), (0, .ref (b + 0)), (1, .int a1), (2, .int a2)]) hok 3 rfl ic_1 (by decide) (fun _ => rfl) dX10_daysUntil_53 ?_
    intro x9
    refine T_goto (tgt := 16) hok dX10_daysUntil_56 rfl ?_
    refine T_sub (lv' := [(0, .ref (b + 0)), (1, .int a1), (2, .int a2), (3, .int x9)]) [1, 2, 3, 0] rfl ?_
    exact hr16 x9 I7 J8
  refine T_iconst hok ic_m1 dX10_daysUntil_8 ?_
  exact T_iret hok dX10_daysUntil_9 (Nat.zero_le _) (Nat.zero_le _) rfl

set_option maxHeartbeats 4000000 in
set_option maxRecDepth 100000 in
theorem ct_X10_sold {G : Gx} {l0 : Launch} {A : Nat → Prop} {b bk dr it : Nat} (hA : ∀ k, k < Lc.length → A (b + k)) (hbk : isBk bk = true) (I : MI) (J : MJ) (a1 : Int32) : Ct G l0 A yX10_sold cX10_sold 2 (some .int) { frames := 6, cells := 0, slots := 0, locals := 155 } [.ref (b + 0), .int a1] (Rg G b Lc (Rc b bk dr it) I J) (ii2 (fun (I' : MI) (J' : MJ) => Rg G b Lc (Rc b bk dr it) I' J')) (f_X10_sold bk I J a1) := by
  refine Ct.of rfl (Nat.le_of_ble_eq_true rfl) ?_
  intro X hok
  replace hok : Ok G l0 X RX10 cX10_sold 2 { frames := 6, cells := 0, slots := 0, locals := 155 } (some .int) := hok
  delta f_X10_sold
  show T X A (Zm X A (ii2 (fun (I' : MI) (J' : MJ) => Rg G b Lc (Rc b bk dr it) I' J'))) 2 0 0 0 [(0, .ref (b + 0)), (1, .int a1)] [] (Rg G b Lc (Rc b bk dr it) I J) _
  refine T_aload_n hok 0 rfl rfl dX10_sold_0 ?_
  refine T_iconst hok ic_0 dX10_sold_1 ?_
  refine T_iload_n hok 1 rfl rfl dX10_sold_2 ?_
  refine T_ci2 (CR_V (rest := []) hok (ct_X10_daysUntil hA hbk I J (0 : Int32) a1) mw_X10_daysUntil mv_X10_daysUntil ml_X10_306 lc_0 dX10_sold_3 rfl rfl (roomOk rfl) rfl) rfl rfl ?_
  intro x1 I2 J3
  exact T_iret hok dX10_sold_6 (Nat.zero_le _) (Nat.zero_le _) rfl

set_option maxHeartbeats 4000000 in
set_option maxRecDepth 100000 in
theorem ct_X10_credit {G : Gx} {l0 : Launch} {A : Nat → Prop} {b bk dr it : Nat} (hA : ∀ k, k < Lc.length → A (b + k)) (hbk : isBk bk = true) (I : MI) (J : MJ) (a1 : Int32) : Ct G l0 A yX10_credit cX10_credit 2 (some .int) { frames := 6, cells := 0, slots := 0, locals := 155 } [.ref (b + 0), .int a1] (Rg G b Lc (Rc b bk dr it) I J) (ii2 (fun (I' : MI) (J' : MJ) => Rg G b Lc (Rc b bk dr it) I' J')) (f_X10_credit bk I J a1) := by
  refine Ct.of rfl (Nat.le_of_ble_eq_true rfl) ?_
  intro X hok
  replace hok : Ok G l0 X RX10 cX10_credit 2 { frames := 6, cells := 0, slots := 0, locals := 155 } (some .int) := hok
  delta f_X10_credit
  show T X A (Zm X A (ii2 (fun (I' : MI) (J' : MJ) => Rg G b Lc (Rc b bk dr it) I' J'))) 2 0 0 0 [(0, .ref (b + 0)), (1, .int a1)] [] (Rg G b Lc (Rc b bk dr it) I J) _
  refine T_aload_n hok 0 rfl rfl dX10_credit_0 ?_
  refine T_iconst hok ic_1 dX10_credit_1 ?_
  refine T_iload_n hok 1 rfl rfl dX10_credit_2 ?_
  refine T_ci2 (CR_V (rest := []) hok (ct_X10_daysUntil hA hbk I J (1 : Int32) a1) mw_X10_daysUntil mv_X10_daysUntil ml_X10_306 lc_0 dX10_credit_3 rfl rfl (roomOk rfl) rfl) rfl rfl ?_
  intro x1 I2 J3
  exact T_iret hok dX10_credit_6 (Nat.zero_le _) (Nat.zero_le _) rfl

set_option maxHeartbeats 4000000 in
set_option maxRecDepth 100000 in
theorem ct_X10_owes {G : Gx} {l0 : Launch} {A : Nat → Prop} {b bk dr it : Nat} (hA : ∀ k, k < Lc.length → A (b + k)) (hbk : isBk bk = true) (I : MI) (J : MJ) (a1 : Int32) : Ct G l0 A yX10_owes cX10_owes 2 (some .int) { frames := 6, cells := 0, slots := 0, locals := 155 } [.ref (b + 0), .int a1] (Rg G b Lc (Rc b bk dr it) I J) (ii2 (fun (I' : MI) (J' : MJ) => Rg G b Lc (Rc b bk dr it) I' J')) (f_X10_owes bk I J a1) := by
  refine Ct.of rfl (Nat.le_of_ble_eq_true rfl) ?_
  intro X hok
  replace hok : Ok G l0 X RX10 cX10_owes 2 { frames := 6, cells := 0, slots := 0, locals := 155 } (some .int) := hok
  delta f_X10_owes
  show T X A (Zm X A (ii2 (fun (I' : MI) (J' : MJ) => Rg G b Lc (Rc b bk dr it) I' J'))) 2 0 0 0 [(0, .ref (b + 0)), (1, .int a1)] [] (Rg G b Lc (Rc b bk dr it) I J) _
  refine T_aload_n hok 0 rfl rfl dX10_owes_0 ?_
  refine T_iconst hok ic_2 dX10_owes_1 ?_
  refine T_iload_n hok 1 rfl rfl dX10_owes_2 ?_
  refine T_ci2 (CR_V (rest := []) hok (ct_X10_daysUntil hA hbk I J (2 : Int32) a1) mw_X10_daysUntil mv_X10_daysUntil ml_X10_306 lc_0 dX10_owes_3 rfl rfl (roomOk rfl) rfl) rfl rfl ?_
  intro x1 I2 J3
  exact T_iret hok dX10_owes_6 (Nat.zero_le _) (Nat.zero_le _) rfl

set_option maxHeartbeats 4000000 in
set_option maxRecDepth 100000 in
theorem ct_X10_often {G : Gx} {l0 : Launch} {A : Nat → Prop} {b bk dr it : Nat} (hA : ∀ k, k < Lc.length → A (b + k)) (hbk : isBk bk = true) (I : MI) (J : MJ) (a1 : Int32) (a2 : Int32) : Ct G l0 A yX10_often cX10_often 5 (some .int) { frames := 5, cells := 0, slots := 0, locals := 106 } [.ref (b + 0), .int a1, .int a2] (Rg G b Lc (Rc b bk dr it) I J) (ii0 (Rg G b Lc (Rc b bk dr it) I J)) (f_X10_often bk I a1 a2) := by
  refine Ct.of rfl (Nat.le_of_ble_eq_true rfl) ?_
  intro X hok
  replace hok : Ok G l0 X RX10 cX10_often 5 { frames := 5, cells := 0, slots := 0, locals := 106 } (some .int) := hok
  delta f_X10_often
  show T X A (Zm X A (ii0 (Rg G b Lc (Rc b bk dr it) I J))) 5 0 0 0 [(0, .ref (b + 0)), (1, .int a1), (2, .int a2)] [] (Rg G b Lc (Rc b bk dr it) I J) _
  refine T_aload_n hok 0 rfl rfl dX10_often_0 ?_
  refine T_iload_n hok 1 rfl rfl dX10_often_1 ?_
  refine T_cz0 (CR_V (rest := []) hok (ct_X10_isKind hA hbk I J a1) mw_X10_isKind mv_X10_isKind ml_X10_161 lc_0 dX10_often_2 rfl rfl (roomOk rfl) rfl) rfl rfl ?_
  intro x1
  refine T_jp _ (fun (j19 : Option (Int32)) => T X A (Zm X A (ii0 (Rg G b Lc (Rc b bk dr it) I J))) 5 0 0 19 [] [] (Rg G b Lc (Rc b bk dr it) I J) (j19)) _ ?_ ?_
  · skip
    refine T_iconst hok ic_m1 dX10_often_19 ?_
    exact T_iret hok dX10_often_20 (Nat.zero_le _) (Nat.zero_le _) rfl
  intro j19 hj19
  refine T_ifb_eq (tgt := 19) hok dX10_often_5 rfl ?_ ?_
  · refine T_iload_n hok 2 rfl rfl dX10_often_8 ?_
    refine T_iconst hok ic_0 dX10_often_9 ?_
    refine T_sipush hok sp_200 dX10_often_10 ?_
    refine T_cz0 (CR_S (rest := []) hok (ct_X10_isWithin a2 (0 : Int32) (200 : Int32)) mw_X10_isWithin mst_X10_isWithin ml_X10_173 dX10_often_13 rfl rfl (roomOk rfl) rfl) rfl rfl ?_
    intro x2
    refine T_ifb_ne (tgt := 21) hok dX10_often_16 rfl ?_ ?_
    · refine T_iconst hok ic_0 dX10_often_21 ?_
      refine T_istore_n (lv' := [(3, .int (0 : Int32)), (0, .ref (b + 0)), (1, .int a1), (2, .int a2)]) hok rfl (by decide) rfl dX10_often_22 ?_
      refine T_iconst hok ic_0 dX10_often_23 ?_
      refine T_istore (lv' := [(4, .int (0 : Int32)), (3, .int (0 : Int32)), (0, .ref (b + 0)), (1, .int a1), (2, .int a2)]) hok (by decide) rfl dX10_often_24 ?_
      refine T_sub (lv' := [(0, .ref (b + 0)), (1, .int a1), (2, .int a2), (3, .int (0 : Int32)), (4, .int (0 : Int32))]) [2, 3, 4, 1, 0] rfl ?_
      refine T_fix2 _ (fun (x3 : Int32) (x4 : Int32) => [(0, .ref (b + 0)), (1, .int a1), (2, .int a2), (3, .int x3), (4, .int x4)]) (fun (x3 : Int32) (x4 : Int32) => Rg G b Lc (Rc b bk dr it) I J) ?_ FU (0 : Int32) (0 : Int32)
      intro r26 hr26 x3 x4
      refine T_iload hok 4 rfl dX10_often_26 ?_
      refine T_iload_n hok 2 rfl rfl dX10_often_28 ?_
      refine T_icmp_ge (tgt := 51) hok dX10_often_29 rfl ?_ ?_
      · refine T_iload_n hok 3 rfl rfl dX10_often_51 ?_
        exact T_iret hok dX10_often_52 (Nat.zero_le _) (Nat.zero_le _) rfl
      refine T_aload_n hok 0 rfl rfl dX10_often_32 ?_
      refine T_iload hok 4 rfl dX10_often_33 ?_
      refine T_ci0 (CR_V (rest := []) hok (ct_X10_kindIn hA hbk I J x4) mw_X10_kindIn mv_X10_kindIn ml_X10_177 lc_0 dX10_often_35 rfl rfl (roomOk rfl) rfl) rfl rfl ?_
      intro x5
      refine T_iload_n hok 1 rfl rfl dX10_often_38 ?_
      refine T_jp _ (fun (j45 : Int32 → Option (Int32)) => ∀ (x6 : Int32), T X A (Zm X A (ii0 (Rg G b Lc (Rc b bk dr it) I J))) 5 0 0 45 [(0, .ref (b + 0)), (1, .int a1), (2, .int a2), (3, .int x6), (4, .int x4)] [] (Rg G b Lc (Rc b bk dr it) I J) (j45 x6)) _ ?_ ?_
      · intro x6
        refine T_iinc (lvs := fun x7 => [(4, .int x7), (0, .ref (b + 0)), (1, .int a1), (2, .int a2), (3, .int x6)]) hok 4 rfl ic_1 (by decide) (fun _ => rfl) dX10_often_45 ?_
        intro x7
        refine T_goto (tgt := 26) hok dX10_often_48 rfl ?_
        refine T_sub (lv' := [(0, .ref (b + 0)), (1, .int a1), (2, .int a2), (3, .int x6), (4, .int x7)]) [1, 2, 3, 4, 0] rfl ?_
        exact hr26 x6 x7
      intro j45 hj45
      refine T_icmp_ne (tgt := 45) hok dX10_often_39 rfl ?_ ?_
      · refine T_iinc (lvs := fun x8 => [(3, .int x8), (0, .ref (b + 0)), (1, .int a1), (2, .int a2), (4, .int x4)]) hok 3 rfl ic_1 (by decide) (fun _ => rfl) dX10_often_42 ?_
        intro x8
        refine T_sub (lv' := [(0, .ref (b + 0)), (1, .int a1), (2, .int a2), (3, .int x8), (4, .int x4)]) [1, 2, 3, 0, 4] rfl ?_
        exact hj45 x8
      exact hj45 x3
    refine T_sub (lv' := []) [] rfl ?_
    exact hj19
  refine T_sub (lv' := []) [] rfl ?_
  exact hj19

set_option maxHeartbeats 4000000 in
set_option maxRecDepth 100000 in
theorem ct_X10_plan {G : Gx} {l0 : Launch} {A : Nat → Prop} {b bk dr it : Nat} (hA : ∀ k, k < Lc.length → A (b + k)) (hbk : isBk bk = true) (I : MI) (J : MJ) (a1 : Int32) (a2 : Int32) : Ct G l0 A yX10_plan cX10_plan 4 (some .int) { frames := 5, cells := 0, slots := 0, locals := 115 } [.ref (b + 0), .int a1, .int a2] (Rg G b Lc (Rc b bk dr it) I J) (ii1 (fun (I' : MI) => Rg G b Lc (Rc b bk dr it) I' J)) (f_X10_plan bk I a1 a2) := by
  refine Ct.of rfl (Nat.le_of_ble_eq_true rfl) ?_
  intro X hok
  replace hok : Ok G l0 X RX10 cX10_plan 4 { frames := 5, cells := 0, slots := 0, locals := 115 } (some .int) := hok
  delta f_X10_plan
  show T X A (Zm X A (ii1 (fun (I' : MI) => Rg G b Lc (Rc b bk dr it) I' J))) 4 0 0 0 [(0, .ref (b + 0)), (1, .int a1), (2, .int a2)] [] (Rg G b Lc (Rc b bk dr it) I J) _
  refine T_iload_n hok 1 rfl rfl dX10_plan_0 ?_
  refine T_iconst hok ic_0 dX10_plan_1 ?_
  refine T_bipush hok bp_8 dX10_plan_2 ?_
  refine T_cz0 (CR_S (rest := []) hok (ct_X10_isWithin a1 (0 : Int32) (8 : Int32)) mw_X10_isWithin mst_X10_isWithin ml_X10_173 dX10_plan_4 rfl rfl (roomOk rfl) rfl) rfl rfl ?_
  intro x1
  refine T_jp _ (fun (j20 : Option (Int32 × MI)) => T X A (Zm X A (ii1 (fun (I' : MI) => Rg G b Lc (Rc b bk dr it) I' J))) 4 0 0 20 [] [] (Rg G b Lc (Rc b bk dr it) I J) (j20)) _ ?_ ?_
  · skip
    refine T_iconst hok ic_m1 dX10_plan_20 ?_
    exact T_iret hok dX10_plan_21 (Nat.zero_le _) (Nat.zero_le _) rfl
  intro j20 hj20
  refine T_ifb_eq (tgt := 20) hok dX10_plan_7 rfl ?_ ?_
  · refine T_iload_n hok 2 rfl rfl dX10_plan_10 ?_
    refine T_iconst hok ic_0 dX10_plan_11 ?_
    refine T_bipush hok bp_7 dX10_plan_12 ?_
    refine T_cz0 (CR_S (rest := []) hok (ct_X10_isWithin a2 (0 : Int32) (7 : Int32)) mw_X10_isWithin mst_X10_isWithin ml_X10_173 dX10_plan_14 rfl rfl (roomOk rfl) rfl) rfl rfl ?_
    intro x2
    refine T_ifb_ne (tgt := 22) hok dX10_plan_17 rfl ?_ ?_
    · refine T_iconst hok ic_0 dX10_plan_22 ?_
      refine T_istore_n (lv' := [(3, .int (0 : Int32)), (0, .ref (b + 0)), (1, .int a1), (2, .int a2)]) hok rfl (by decide) rfl dX10_plan_23 ?_
      refine T_jp _ (fun (j49 : MI → Option (Int32 × MI)) => ∀ (I3 : MI), T X A (Zm X A (ii1 (fun (I' : MI) => Rg G b Lc (Rc b bk dr it) I' J))) 4 0 0 49 [(0, .ref (b + 0)), (1, .int a1), (2, .int a2)] [] (Rg G b Lc (Rc b bk dr it) I3 J) (j49 I3)) _ ?_ ?_
      · intro I3
        refine T_aload_n hok 0 rfl rfl dX10_plan_49 ?_
        refine T_getR hok fr_X10_71 lc_0 rc_0_12 dX10_plan_50 ?_
        refine T_aload_n hok 0 rfl rfl dX10_plan_53 ?_
        refine T_getR hok fr_X10_18 lc_0 rc_0_2 dX10_plan_54 ?_
        refine T_iload_n hok 1 rfl rfl dX10_plan_57 ?_
        refine T_cv1 (CR_V (rest := []) hok (ct_X5_lay hA hbk I3 J a1) mw_X5_lay mv_X5_lay ml_X10_314 lc_76 dX10_plan_58 rfl rfl (roomOk rfl) rfl) rfl rfl ?_
        intro I4
        refine T_iload_n hok 2 rfl rfl dX10_plan_61 ?_
        refine T_bipush hok bp_6 dX10_plan_62 ?_
        refine T_icmp_ne (tgt := 75) hok dX10_plan_64 rfl ?_ ?_
        · refine T_aload_n hok 0 rfl rfl dX10_plan_67 ?_
          refine T_getR hok fr_X10_71 lc_0 rc_0_12 dX10_plan_68 ?_
          refine T_getI hok fr_X10_318 lc_76 dX10_plan_71 ?_
          exact T_iret hok dX10_plan_74 (Nat.zero_le _) (Nat.zero_le _) rfl
        refine T_iload_n hok 2 rfl rfl dX10_plan_75 ?_
        refine T_bipush hok bp_7 dX10_plan_76 ?_
        refine T_icmp_ne (tgt := 89) hok dX10_plan_78 rfl ?_ ?_
        · refine T_aload_n hok 0 rfl rfl dX10_plan_81 ?_
          refine T_getR hok fr_X10_71 lc_0 rc_0_12 dX10_plan_82 ?_
          refine T_getI hok fr_X10_321 lc_76 dX10_plan_85 ?_
          exact T_iret hok dX10_plan_88 (Nat.zero_le _) (Nat.zero_le _) rfl
        refine T_iload_n hok 2 rfl rfl dX10_plan_89 ?_
        refine T_aload_n hok 0 rfl rfl dX10_plan_90 ?_
        refine T_getR hok fr_X10_18 lc_0 rc_0_2 dX10_plan_91 ?_
        refine T_getI hok fr_X10_237 (bookAt_c (b := 0) (bk := 0) (dr := 0) (it := 0) hbk).o dX10_plan_94 ?_
        refine T_jp _ (fun (j114 : Int32 → Option (Int32 × MI)) => ∀ (x5 : Int32), T X A (Zm X A (ii1 (fun (I' : MI) => Rg G b Lc (Rc b bk dr it) I' J))) 4 0 0 114 [] [.int x5] (Rg G b Lc (Rc b bk dr it) I4 J) (j114 x5)) _ ?_ ?_
        · intro x5
          exact T_iret hok dX10_plan_114 (Nat.zero_le _) (Nat.zero_le _) rfl
        intro j114 hj114
        refine T_icmp_ge (tgt := 112) hok dX10_plan_97 rfl ?_ ?_
        · refine T_bipush hok bp_m2 dX10_plan_112 ?_
          refine T_sub (lv' := []) [] rfl ?_
          exact hj114 (-2 : Int32)
        refine T_aload_n hok 0 rfl rfl dX10_plan_100 ?_
        refine T_getR hok fr_X10_71 lc_0 rc_0_12 dX10_plan_101 ?_
        refine T_getR hok fr_X10_324 lc_76 rc_76_1 dX10_plan_104 ?_
        refine T_iload_n hok 2 rfl rfl dX10_plan_107 ?_
        refine T_iald hok lc_78 dX10_plan_108 ?_
        refine T_goto (tgt := 114) hok dX10_plan_109 rfl ?_
        refine T_sub (lv' := []) [] rfl ?_
        exact hj114 (I4 78 (ix a2))
      intro j49 hj49
      refine T_sub (lv' := [(0, .ref (b + 0)), (1, .int a1), (2, .int a2), (3, .int (0 : Int32))]) [1, 2, 3, 0] rfl ?_
      refine T_fix2 _ (fun (x6 : Int32) (I7 : MI) => [(0, .ref (b + 0)), (1, .int a1), (2, .int a2), (3, .int x6)]) (fun (x6 : Int32) (I7 : MI) => Rg G b Lc (Rc b bk dr it) I7 J) ?_ FU (0 : Int32) I
      intro r24 hr24 x6 I7
      refine T_iload_n hok 3 rfl rfl dX10_plan_24 ?_
      refine T_iload_n hok 1 rfl rfl dX10_plan_25 ?_
      refine T_icmp_ge (tgt := 49) hok dX10_plan_26 rfl ?_ ?_
      · refine T_sub (lv' := [(0, .ref (b + 0)), (1, .int a1), (2, .int a2)]) [0, 1, 2] rfl ?_
        exact hj49 I7
      refine T_aload_n hok 0 rfl rfl dX10_plan_29 ?_
      refine T_getR hok fr_X10_71 lc_0 rc_0_12 dX10_plan_30 ?_
      refine T_getR hok fr_X10_312 lc_76 rc_76_0 dX10_plan_33 ?_
      refine T_iload_n hok 3 rfl rfl dX10_plan_36 ?_
      refine T_aload_n hok 0 rfl rfl dX10_plan_37 ?_
      refine T_iload_n hok 3 rfl rfl dX10_plan_38 ?_
      refine T_ci0 (CR_V (rest := [.int x6, .ref (b + 77)]) hok (ct_X10_kindIn hA hbk I7 J x6) mw_X10_kindIn mv_X10_kindIn ml_X10_177 lc_0 dX10_plan_39 rfl rfl (roomOk rfl) rfl) rfl rfl ?_
      intro x8
      refine T_iast hok hA lc_77 dX10_plan_42 ?_
      intro I9
      refine T_iinc (lvs := fun x10 => [(3, .int x10), (0, .ref (b + 0)), (1, .int a1), (2, .int a2)]) hok 3 rfl ic_1 (by decide) (fun _ => rfl) dX10_plan_43 ?_
      intro x10
      refine T_goto (tgt := 24) hok dX10_plan_46 rfl ?_
      refine T_sub (lv' := [(0, .ref (b + 0)), (1, .int a1), (2, .int a2), (3, .int x10)]) [1, 2, 3, 0] rfl ?_
      exact hr24 x10 I9
    refine T_sub (lv' := []) [] rfl ?_
    exact hj20
  refine T_sub (lv' := []) [] rfl ?_
  exact hj20

set_option maxHeartbeats 4000000 in
set_option maxRecDepth 100000 in
theorem ct_X10_isSoldUpIn {G : Gx} {l0 : Launch} {A : Nat → Prop} {b bk dr it : Nat} (hA : ∀ k, k < Lc.length → A (b + k)) (hbk : isBk bk = true) (I : MI) (J : MJ) (a1 : Int32) (a2 : Int32) (a3 : Int32) : Ct G l0 A yX10_isSoldUpIn cX10_isSoldUpIn 4 (some .boolean) { frames := 6, cells := 0, slots := 0, locals := 155 } [.ref (b + 0), .int a1, .int a2, .int a3] (Rg G b Lc (Rc b bk dr it) I J) (iz2 (fun (I' : MI) (J' : MJ) => Rg G b Lc (Rc b bk dr it) I' J')) (f_X10_isSoldUpIn bk I J a1 a2 a3) := by
  refine Ct.of rfl (Nat.le_of_ble_eq_true rfl) ?_
  intro X hok
  replace hok : Ok G l0 X RX10 cX10_isSoldUpIn 4 { frames := 6, cells := 0, slots := 0, locals := 155 } (some .boolean) := hok
  delta f_X10_isSoldUpIn
  show T X A (Zm X A (iz2 (fun (I' : MI) (J' : MJ) => Rg G b Lc (Rc b bk dr it) I' J'))) 4 0 0 0 [(0, .ref (b + 0)), (1, .int a1), (2, .int a2), (3, .int a3)] [] (Rg G b Lc (Rc b bk dr it) I J) _
  refine T_aload_n hok 0 rfl rfl dX10_isSoldUpIn_0 ?_
  refine T_cv1 (CR_V (rest := []) hok (ct_X10_rehearse hA I J) mw_X10_rehearse mv_X10_rehearse ml_X10_299 lc_0 dX10_isSoldUpIn_1 rfl rfl (roomOk rfl) rfl) rfl rfl ?_
  intro I1
  refine T_aload_n hok 0 rfl rfl dX10_isSoldUpIn_4 ?_
  refine T_getR hok fr_X10_41 lc_0 rc_0_6 dX10_isSoldUpIn_5 ?_
  refine T_getR hok fr_X10_153 lc_46 rc_46_5 dX10_isSoldUpIn_8 ?_
  refine T_iload_n hok 2 rfl rfl dX10_isSoldUpIn_11 ?_
  refine T_iload_n hok 3 rfl rfl dX10_isSoldUpIn_12 ?_
  refine T_zast hok hA lc_52 dX10_isSoldUpIn_13 ?_
  intro I2
  refine T_aload_n hok 0 rfl rfl dX10_isSoldUpIn_14 ?_
  refine T_iload_n hok 1 rfl rfl dX10_isSoldUpIn_15 ?_
  refine T_iload_n hok 2 rfl rfl dX10_isSoldUpIn_16 ?_
  refine T_cv2 (CR_V (rest := []) hok (ct_X10_passTrial hA hbk I2 J a1 a2) mw_X10_passTrial mv_X10_passTrial ml_X10_302 lc_0 dX10_isSoldUpIn_17 rfl rfl (roomOk rfl) rfl) rfl rfl ?_
  intro I3 J4
  refine T_aload_n hok 0 rfl rfl dX10_isSoldUpIn_20 ?_
  refine T_getR hok fr_X10_41 lc_0 rc_0_6 dX10_isSoldUpIn_21 ?_
  refine T_getR hok fr_X10_149 lc_46 rc_46_4 dX10_isSoldUpIn_24 ?_
  refine T_iload_n hok 2 rfl rfl dX10_isSoldUpIn_27 ?_
  refine T_zald hok lc_51 dX10_isSoldUpIn_28 ?_
  exact T_zretv (f := fun rr => (rr, I3, J4)) hok dX10_isSoldUpIn_29 (Nat.zero_le _) (Nat.zero_le _) (fun _ => rfl)

set_option maxHeartbeats 4000000 in
set_option maxRecDepth 100000 in
theorem ct_X10_blinds {G : Gx} {l0 : Launch} {A : Nat → Prop} {b bk dr it : Nat} (hA : ∀ k, k < Lc.length → A (b + k)) (hbk : isBk bk = true) (I : MI) (J : MJ) (a1 : Int32) (a2 : Int32) : Ct G l0 A yX10_blinds cX10_blinds 6 (some .int) { frames := 7, cells := 0, slots := 0, locals := 178 } [.ref (b + 0), .int a1, .int a2] (Rg G b Lc (Rc b bk dr it) I J) (ii2 (fun (I' : MI) (J' : MJ) => Rg G b Lc (Rc b bk dr it) I' J')) (f_X10_blinds bk I J a1 a2) := by
  refine Ct.of rfl (Nat.le_of_ble_eq_true rfl) ?_
  intro X hok
  replace hok : Ok G l0 X RX10 cX10_blinds 6 { frames := 7, cells := 0, slots := 0, locals := 178 } (some .int) := hok
  delta f_X10_blinds
  show T X A (Zm X A (ii2 (fun (I' : MI) (J' : MJ) => Rg G b Lc (Rc b bk dr it) I' J'))) 6 0 0 0 [(0, .ref (b + 0)), (1, .int a1), (2, .int a2)] [] (Rg G b Lc (Rc b bk dr it) I J) _
  refine T_iload_n hok 1 rfl rfl dX10_blinds_0 ?_
  refine T_iconst hok ic_0 dX10_blinds_1 ?_
  refine T_bipush hok bp_60 dX10_blinds_2 ?_
  refine T_cz0 (CR_S (rest := []) hok (ct_X10_isWithin a1 (0 : Int32) (60 : Int32)) mw_X10_isWithin mst_X10_isWithin ml_X10_173 dX10_blinds_4 rfl rfl (roomOk rfl) rfl) rfl rfl ?_
  intro x1
  refine T_jp _ (fun (j19 : Option (Int32 × MI × MJ)) => T X A (Zm X A (ii2 (fun (I' : MI) (J' : MJ) => Rg G b Lc (Rc b bk dr it) I' J'))) 6 0 0 19 [] [] (Rg G b Lc (Rc b bk dr it) I J) (j19)) _ ?_ ?_
  · skip
    refine T_iconst hok ic_m1 dX10_blinds_19 ?_
    exact T_iret hok dX10_blinds_20 (Nat.zero_le _) (Nat.zero_le _) rfl
  intro j19 hj19
  refine T_ifb_eq (tgt := 19) hok dX10_blinds_7 rfl ?_ ?_
  · refine T_iload_n hok 2 rfl rfl dX10_blinds_10 ?_
    refine T_iconst hok ic_0 dX10_blinds_11 ?_
    refine T_iconst hok ic_1 dX10_blinds_12 ?_
    refine T_cz0 (CR_S (rest := []) hok (ct_X10_isWithin a2 (0 : Int32) (1 : Int32)) mw_X10_isWithin mst_X10_isWithin ml_X10_173 dX10_blinds_13 rfl rfl (roomOk rfl) rfl) rfl rfl ?_
    intro x2
    refine T_ifb_ne (tgt := 21) hok dX10_blinds_16 rfl ?_ ?_
    · refine T_iconst hok ic_0 dX10_blinds_21 ?_
      refine T_istore_n (lv' := [(3, .int (0 : Int32)), (0, .ref (b + 0)), (1, .int a1), (2, .int a2)]) hok rfl (by decide) rfl dX10_blinds_22 ?_
      refine T_iconst hok ic_0 dX10_blinds_23 ?_
      refine T_istore (lv' := [(4, .int (0 : Int32)), (3, .int (0 : Int32)), (0, .ref (b + 0)), (1, .int a1), (2, .int a2)]) hok (by decide) rfl dX10_blinds_24 ?_
      refine T_iconst hok ic_0 dX10_blinds_26 ?_
      refine T_istore (lv' := [(5, .int (0 : Int32)), (4, .int (0 : Int32)), (3, .int (0 : Int32)), (0, .ref (b + 0)), (1, .int a1), (2, .int a2)]) hok (by decide) rfl dX10_blinds_27 ?_
      refine T_jp _ (fun (j91 : Int32 → Int32 → MI → MJ → Option (Int32 × MI × MJ)) => ∀ (x3 : Int32) (x4 : Int32) (I5 : MI) (J6 : MJ), T X A (Zm X A (ii2 (fun (I' : MI) (J' : MJ) => Rg G b Lc (Rc b bk dr it) I' J'))) 6 0 0 91 [(2, .int a2), (3, .int x3), (4, .int x4)] [] (Rg G b Lc (Rc b bk dr it) I5 J6) (j91 x3 x4 I5 J6)) _ ?_ ?_
      · intro x3 x4 I5 J6
        refine T_iload_n hok 0 rfl rfl dX10_blinds_91 ?_
        refine T_jp _ (fun (j101 : Int32 → Option (Int32 × MI × MJ)) => ∀ (x7 : Int32), T X A (Zm X A (ii2 (fun (I' : MI) (J' : MJ) => Rg G b Lc (Rc b bk dr it) I' J'))) 6 0 0 101 [] [.int x7] (Rg G b Lc (Rc b bk dr it) I5 J6) (j101 x7)) _ ?_ ?_
        · intro x7
          exact T_iret hok dX10_blinds_101 (Nat.zero_le _) (Nat.zero_le _) rfl
        intro j101 hj101
        refine T_if_ne (tgt := 99) hok dX10_blinds_92 rfl ?_ ?_
        · refine T_iload_n hok 1 rfl rfl dX10_blinds_95 ?_
          refine T_goto (tgt := 101) hok dX10_blinds_96 rfl ?_
          refine T_sub (lv' := []) [] rfl ?_
          exact hj101 x3
        refine T_iload hok 2 rfl dX10_blinds_99 ?_
        refine T_sub (lv' := []) [] rfl ?_
        exact hj101 x4
      intro j91 hj91
      refine T_sub (lv' := [(0, .ref (b + 0)), (1, .int a1), (2, .int a2), (3, .int (0 : Int32)), (4, .int (0 : Int32)), (5, .int (0 : Int32))]) [3, 4, 5, 2, 1, 0] rfl ?_
      refine T_fix5 _ (fun (x8 : Int32) (x9 : Int32) (x10 : Int32) (I11 : MI) (J12 : MJ) => [(0, .ref (b + 0)), (1, .int a1), (2, .int a2), (3, .int x8), (4, .int x9), (5, .int x10)]) (fun (x8 : Int32) (x9 : Int32) (x10 : Int32) (I11 : MI) (J12 : MJ) => Rg G b Lc (Rc b bk dr it) I11 J12) ?_ FU (0 : Int32) (0 : Int32) (0 : Int32) I J
      intro r29 hr29 x8 x9 x10 I11 J12
      refine T_iload hok 5 rfl dX10_blinds_29 ?_
      refine T_aload_n hok 0 rfl rfl dX10_blinds_31 ?_
      refine T_getR hok fr_X10_18 lc_0 rc_0_2 dX10_blinds_32 ?_
      refine T_getI hok fr_X10_203 (bookAt_c (b := 0) (bk := 0) (dr := 0) (it := 0) hbk).o dX10_blinds_35 ?_
      refine T_icmp_ge (tgt := 91) hok dX10_blinds_38 rfl ?_ ?_
      · refine T_sub (lv' := [(2, .int a2), (3, .int x8), (4, .int x9)]) [2, 3, 4] rfl ?_
        exact hj91 x8 x9 I11 J12
      refine T_aload_n hok 0 rfl rfl dX10_blinds_41 ?_
      refine T_iload_n hok 1 rfl rfl dX10_blinds_42 ?_
      refine T_iload hok 5 rfl dX10_blinds_43 ?_
      refine T_aload_n hok 0 rfl rfl dX10_blinds_45 ?_
      refine T_getR hok fr_X10_37 lc_0 rc_0_5 dX10_blinds_46 ?_
      refine T_getR hok fr_X10_153 lc_38 rc_38_5 dX10_blinds_49 ?_
      refine T_iload hok 5 rfl dX10_blinds_52 ?_
      refine T_zald hok lc_44 dX10_blinds_54 ?_
      refine T_cz2 (CR_V (rest := []) hok (ct_X10_isSoldUpIn hA hbk I11 J12 a1 x10 (I11 44 (ix x10))) mw_X10_isSoldUpIn mv_X10_isSoldUpIn ml_X10_327 lc_0 dX10_blinds_55 rfl rfl (roomOk rfl) rfl) rfl rfl ?_
      intro x13 I14 J15
      refine T_jp _ (fun (j85 : Int32 → Int32 → MI → MJ → Option (Int32 × MI × MJ)) => ∀ (x16 : Int32) (x17 : Int32) (I18 : MI) (J19 : MJ), T X A (Zm X A (ii2 (fun (I' : MI) (J' : MJ) => Rg G b Lc (Rc b bk dr it) I' J'))) 6 0 0 85 [(0, .ref (b + 0)), (1, .int a1), (2, .int a2), (3, .int x16), (4, .int x17), (5, .int x10)] [] (Rg G b Lc (Rc b bk dr it) I18 J19) (j85 x16 x17 I18 J19)) _ ?_ ?_
      · intro x16 x17 I18 J19
        refine T_iinc (lvs := fun x20 => [(5, .int x20), (0, .ref (b + 0)), (1, .int a1), (2, .int a2), (3, .int x16), (4, .int x17)]) hok 5 rfl ic_1 (by decide) (fun _ => rfl) dX10_blinds_85 ?_
        intro x20
        refine T_goto (tgt := 29) hok dX10_blinds_88 rfl ?_
        refine T_sub (lv' := [(0, .ref (b + 0)), (1, .int a1), (2, .int a2), (3, .int x16), (4, .int x17), (5, .int x20)]) [1, 2, 3, 4, 5, 0] rfl ?_
        exact hr29 x16 x17 x20 I18 J19
      intro j85 hj85
      refine T_ifb_eq (tgt := 85) hok dX10_blinds_58 rfl ?_ ?_
      · refine T_aload_n hok 0 rfl rfl dX10_blinds_61 ?_
        refine T_iload_n hok 1 rfl rfl dX10_blinds_62 ?_
        refine T_iload hok 5 rfl dX10_blinds_63 ?_
        refine T_iconst hok ic_1 dX10_blinds_65 ?_
        refine T_cz2 (CR_V (rest := []) hok (ct_X10_isSoldUpIn hA hbk I14 J15 a1 x10 (1 : Int32)) mw_X10_isSoldUpIn mv_X10_isSoldUpIn ml_X10_327 lc_0 dX10_blinds_66 rfl rfl (roomOk rfl) rfl) rfl rfl ?_
        intro x21 I22 J23
        refine T_ifb_eq (tgt := 78) hok dX10_blinds_69 rfl ?_ ?_
        · refine T_iinc (lvs := fun x24 => [(4, .int x24), (0, .ref (b + 0)), (1, .int a1), (2, .int a2), (3, .int x8), (5, .int x10)]) hok 4 rfl ic_1 (by decide) (fun _ => rfl) dX10_blinds_72 ?_
          intro x24
          refine T_goto (tgt := 85) hok dX10_blinds_75 rfl ?_
          refine T_sub (lv' := [(0, .ref (b + 0)), (1, .int a1), (2, .int a2), (3, .int x8), (4, .int x24), (5, .int x10)]) [1, 2, 3, 4, 0, 5] rfl ?_
          exact hj85 x8 x24 I22 J23
        refine T_iload_n hok 3 rfl rfl dX10_blinds_78 ?_
        refine T_iconst hok ic_1 dX10_blinds_79 ?_
        refine T_iload hok 5 rfl dX10_blinds_80 ?_
        refine T_ishl hok dX10_blinds_82 ?_
        refine T_ior hok dX10_blinds_83 ?_
        refine T_lti ?_
        intro x25
        refine T_istore_n (lv' := [(3, .int x25), (0, .ref (b + 0)), (1, .int a1), (2, .int a2), (4, .int x9), (5, .int x10)]) hok rfl (by decide) rfl dX10_blinds_84 ?_
        refine T_sub (lv' := [(0, .ref (b + 0)), (1, .int a1), (2, .int a2), (3, .int x25), (4, .int x9), (5, .int x10)]) [1, 2, 3, 0, 4, 5] rfl ?_
        exact hj85 x25 x9 I22 J23
      exact hj85 x8 x9 I14 J15
    refine T_sub (lv' := []) [] rfl ?_
    exact hj19
  refine T_sub (lv' := []) [] rfl ?_
  exact hj19

set_option maxHeartbeats 4000000 in
set_option maxRecDepth 100000 in
theorem ct_X10_rescue {G : Gx} {l0 : Launch} {A : Nat → Prop} {b bk dr it : Nat} (hA : ∀ k, k < Lc.length → A (b + k)) (hbk : isBk bk = true) (I : MI) (J : MJ) : Ct G l0 A yX10_rescue cX10_rescue 4 (some .int) { frames := 6, cells := 0, slots := 0, locals := 155 } [.ref (b + 0)] (Rg G b Lc (Rc b bk dr it) I J) (ii2 (fun (I' : MI) (J' : MJ) => Rg G b Lc (Rc b bk dr it) I' J')) (f_X10_rescue bk I J) := by
  refine Ct.of rfl (Nat.le_of_ble_eq_true rfl) ?_
  intro X hok
  replace hok : Ok G l0 X RX10 cX10_rescue 4 { frames := 6, cells := 0, slots := 0, locals := 155 } (some .int) := hok
  delta f_X10_rescue
  show T X A (Zm X A (ii2 (fun (I' : MI) (J' : MJ) => Rg G b Lc (Rc b bk dr it) I' J'))) 4 0 0 0 [(0, .ref (b + 0))] [] (Rg G b Lc (Rc b bk dr it) I J) _
  refine T_aload_n hok 0 rfl rfl dX10_rescue_0 ?_
  refine T_cv1 (CR_V (rest := []) hok (ct_X10_rehearse hA I J) mw_X10_rehearse mv_X10_rehearse ml_X10_299 lc_0 dX10_rescue_1 rfl rfl (roomOk rfl) rfl) rfl rfl ?_
  intro I1
  refine T_aload_n hok 0 rfl rfl dX10_rescue_4 ?_
  refine T_aload_n hok 0 rfl rfl dX10_rescue_5 ?_
  refine T_ci0 (CR_V (rest := [.ref (b + 0)]) hok (ct_X10_termIn hA hbk I1 J) mw_X10_termIn mv_X10_termIn ml_X10_331 lc_0 dX10_rescue_6 rfl rfl (roomOk rfl) rfl) rfl rfl ?_
  intro x2
  refine T_iconst hok ic_m1 dX10_rescue_9 ?_
  refine T_cv2 (CR_V (rest := []) hok (ct_X10_passTrial hA hbk I1 J x2 (-1 : Int32)) mw_X10_passTrial mv_X10_passTrial ml_X10_302 lc_0 dX10_rescue_10 rfl rfl (roomOk rfl) rfl) rfl rfl ?_
  intro I3 J4
  refine T_iconst hok ic_0 dX10_rescue_13 ?_
  refine T_istore_n (lv' := [(1, .int (0 : Int32)), (0, .ref (b + 0))]) hok rfl (by decide) rfl dX10_rescue_14 ?_
  refine T_iconst hok ic_0 dX10_rescue_15 ?_
  refine T_istore_n (lv' := [(2, .int (0 : Int32)), (1, .int (0 : Int32)), (0, .ref (b + 0))]) hok rfl (by decide) rfl dX10_rescue_16 ?_
  refine T_iconst hok ic_0 dX10_rescue_17 ?_
  refine T_istore_n (lv' := [(3, .int (0 : Int32)), (2, .int (0 : Int32)), (1, .int (0 : Int32)), (0, .ref (b + 0))]) hok rfl (by decide) rfl dX10_rescue_18 ?_
  refine T_jp _ (fun (j87 : Int32 → Int32 → Option (Int32 × MI × MJ)) => ∀ (x5 : Int32) (x6 : Int32), T X A (Zm X A (ii2 (fun (I' : MI) (J' : MJ) => Rg G b Lc (Rc b bk dr it) I' J'))) 4 0 0 87 [(1, .int x5), (2, .int x6)] [] (Rg G b Lc (Rc b bk dr it) I3 J4) (j87 x5 x6)) _ ?_ ?_
  · intro x5 x6
    refine T_iload_n hok 1 rfl rfl dX10_rescue_87 ?_
    refine T_iload_n hok 0 rfl rfl dX10_rescue_88 ?_
    refine T_jp _ (fun (j98 : Int32 → Option (Int32 × MI × MJ)) => ∀ (x7 : Int32), T X A (Zm X A (ii2 (fun (I' : MI) (J' : MJ) => Rg G b Lc (Rc b bk dr it) I' J'))) 4 0 0 98 [] [.int x7] (Rg G b Lc (Rc b bk dr it) I3 J4) (j98 x7)) _ ?_ ?_
    · intro x7
      exact T_iret hok dX10_rescue_98 (Nat.zero_le _) (Nat.zero_le _) rfl
    intro j98 hj98
    refine T_icmp_ge (tgt := 97) hok dX10_rescue_89 rfl ?_ ?_
    · refine T_iload_n hok 0 rfl rfl dX10_rescue_97 ?_
      refine T_sub (lv' := []) [] rfl ?_
      exact hj98 x5
    refine T_bipush hok bp_m2 dX10_rescue_92 ?_
    refine T_goto (tgt := 98) hok dX10_rescue_94 rfl ?_
    refine T_sub (lv' := []) [] rfl ?_
    exact hj98 (-2 : Int32)
  intro j87 hj87
  refine T_sub (lv' := [(0, .ref (b + 0)), (1, .int (0 : Int32)), (2, .int (0 : Int32)), (3, .int (0 : Int32))]) [3, 2, 1, 0] rfl ?_
  refine T_fix3 _ (fun (x8 : Int32) (x9 : Int32) (x10 : Int32) => [(0, .ref (b + 0)), (1, .int x8), (2, .int x9), (3, .int x10)]) (fun (x8 : Int32) (x9 : Int32) (x10 : Int32) => Rg G b Lc (Rc b bk dr it) I3 J4) ?_ FU (0 : Int32) (0 : Int32) (0 : Int32)
  intro r19 hr19 x8 x9 x10
  refine T_iload_n hok 3 rfl rfl dX10_rescue_19 ?_
  refine T_aload_n hok 0 rfl rfl dX10_rescue_20 ?_
  refine T_getR hok fr_X10_18 lc_0 rc_0_2 dX10_rescue_21 ?_
  refine T_getI hok fr_X10_203 (bookAt_c (b := 0) (bk := 0) (dr := 0) (it := 0) hbk).o dX10_rescue_24 ?_
  refine T_icmp_ge (tgt := 87) hok dX10_rescue_27 rfl ?_ ?_
  · refine T_sub (lv' := [(1, .int x8), (2, .int x9)]) [1, 2] rfl ?_
    exact hj87 x8 x9
  refine T_aload_n hok 0 rfl rfl dX10_rescue_30 ?_
  refine T_getR hok fr_X10_41 lc_0 rc_0_6 dX10_rescue_31 ?_
  refine T_getR hok fr_X10_149 lc_46 rc_46_4 dX10_rescue_34 ?_
  refine T_iload_n hok 3 rfl rfl dX10_rescue_37 ?_
  refine T_zald hok lc_51 dX10_rescue_38 ?_
  refine T_jp _ (fun (j81 : Int32 → Int32 → Option (Int32 × MI × MJ)) => ∀ (x11 : Int32) (x12 : Int32), T X A (Zm X A (ii2 (fun (I' : MI) (J' : MJ) => Rg G b Lc (Rc b bk dr it) I' J'))) 4 0 0 81 [(0, .ref (b + 0)), (1, .int x11), (2, .int x12), (3, .int x10)] [] (Rg G b Lc (Rc b bk dr it) I3 J4) (j81 x11 x12)) _ ?_ ?_
  · intro x11 x12
    refine T_iinc (lvs := fun x13 => [(3, .int x13), (0, .ref (b + 0)), (1, .int x11), (2, .int x12)]) hok 3 rfl ic_1 (by decide) (fun _ => rfl) dX10_rescue_81 ?_
    intro x13
    refine T_goto (tgt := 19) hok dX10_rescue_84 rfl ?_
    refine T_sub (lv' := [(0, .ref (b + 0)), (1, .int x11), (2, .int x12), (3, .int x13)]) [1, 2, 3, 0] rfl ?_
    exact hr19 x11 x12 x13
  intro j81 hj81
  refine T_if_ne (tgt := 57) hok dX10_rescue_39 rfl ?_ ?_
  · refine T_iload_n hok 2 rfl rfl dX10_rescue_42 ?_
    refine T_aload_n hok 0 rfl rfl dX10_rescue_43 ?_
    refine T_getR hok fr_X10_41 lc_0 rc_0_6 dX10_rescue_44 ?_
    refine T_getR hok fr_X10_133 lc_46 rc_46_0 dX10_rescue_47 ?_
    refine T_iload_n hok 3 rfl rfl dX10_rescue_50 ?_
    refine T_iald hok lc_47 dX10_rescue_51 ?_
    refine T_iadd hok dX10_rescue_52 ?_
    refine T_lti ?_
    intro x14
    refine T_istore_n (lv' := [(2, .int x14), (0, .ref (b + 0)), (1, .int x8), (3, .int x10)]) hok rfl (by decide) rfl dX10_rescue_53 ?_
    refine T_goto (tgt := 81) hok dX10_rescue_54 rfl ?_
    refine T_sub (lv' := [(0, .ref (b + 0)), (1, .int x8), (2, .int x14), (3, .int x10)]) [1, 2, 0, 3] rfl ?_
    exact hj81 x8 x14
  refine T_aload_n hok 0 rfl rfl dX10_rescue_57 ?_
  refine T_getR hok fr_X10_37 lc_0 rc_0_5 dX10_rescue_58 ?_
  refine T_getR hok fr_X10_149 lc_38 rc_38_4 dX10_rescue_61 ?_
  refine T_iload_n hok 3 rfl rfl dX10_rescue_64 ?_
  refine T_zald hok lc_43 dX10_rescue_65 ?_
  refine T_if_ne (tgt := 81) hok dX10_rescue_66 rfl ?_ ?_
  · refine T_iload_n hok 1 rfl rfl dX10_rescue_69 ?_
    refine T_aload_n hok 0 rfl rfl dX10_rescue_70 ?_
    refine T_getR hok fr_X10_41 lc_0 rc_0_6 dX10_rescue_71 ?_
    refine T_getR hok fr_X10_133 lc_46 rc_46_0 dX10_rescue_74 ?_
    refine T_iload_n hok 3 rfl rfl dX10_rescue_77 ?_
    refine T_iald hok lc_47 dX10_rescue_78 ?_
    refine T_isub hok dX10_rescue_79 ?_
    refine T_lti ?_
    intro x15
    refine T_istore_n (lv' := [(1, .int x15), (0, .ref (b + 0)), (2, .int x9), (3, .int x10)]) hok rfl (by decide) rfl dX10_rescue_80 ?_
    refine T_sub (lv' := [(0, .ref (b + 0)), (1, .int x15), (2, .int x9), (3, .int x10)]) [1, 0, 2, 3] rfl ?_
    exact hj81 x15 x9
  exact hj81 x8 x9

set_option maxHeartbeats 4000000 in
set_option maxRecDepth 100000 in
theorem ct_X10_chance {G : Gx} {l0 : Launch} {A : Nat → Prop} {b bk dr it : Nat} (hA : ∀ k, k < Lc.length → A (b + k)) (hbk : isBk bk = true) (I : MI) (J : MJ) (a1 : Int32) (a2 : Int32) (a3 : Int32) : Ct G l0 A yX10_chance cX10_chance 7 (some .int) { frames := 6, cells := 0, slots := 0, locals := 155 } [.ref (b + 0), .int a1, .int a2, .int a3] (Rg G b Lc (Rc b bk dr it) I J) (ii2 (fun (I' : MI) (J' : MJ) => Rg G b Lc (Rc b bk dr it) I' J')) (f_X10_chance bk I J a1 a2 a3) := by
  refine Ct.of rfl (Nat.le_of_ble_eq_true rfl) ?_
  intro X hok
  replace hok : Ok G l0 X RX10 cX10_chance 7 { frames := 6, cells := 0, slots := 0, locals := 155 } (some .int) := hok
  delta f_X10_chance
  show T X A (Zm X A (ii2 (fun (I' : MI) (J' : MJ) => Rg G b Lc (Rc b bk dr it) I' J'))) 7 0 0 0 [(0, .ref (b + 0)), (1, .int a1), (2, .int a2), (3, .int a3)] [] (Rg G b Lc (Rc b bk dr it) I J) _
  refine T_iload_n hok 1 rfl rfl dX10_chance_0 ?_
  refine T_jp _ (fun (j22 : Option (Int32 × MI × MJ)) => T X A (Zm X A (ii2 (fun (I' : MI) (J' : MJ) => Rg G b Lc (Rc b bk dr it) I' J'))) 7 0 0 22 [] [] (Rg G b Lc (Rc b bk dr it) I J) (j22)) _ ?_ ?_
  · skip
    refine T_iconst hok ic_m1 dX10_chance_22 ?_
    exact T_iret hok dX10_chance_23 (Nat.zero_le _) (Nat.zero_le _) rfl
  intro j22 hj22
  refine T_if_lt (tgt := 22) hok dX10_chance_1 rfl ?_ ?_
  · refine T_sub (lv' := []) [] rfl ?_
    exact hj22
  refine T_iload_n hok 2 rfl rfl dX10_chance_4 ?_
  refine T_iconst hok ic_1 dX10_chance_5 ?_
  refine T_bipush hok bp_99 dX10_chance_6 ?_
  refine T_cz0 (CR_S (rest := []) hok (ct_X10_isWithin a2 (1 : Int32) (99 : Int32)) mw_X10_isWithin mst_X10_isWithin ml_X10_173 dX10_chance_8 rfl rfl (roomOk rfl) rfl) rfl rfl ?_
  intro x1
  refine T_ifb_eq (tgt := 22) hok dX10_chance_11 rfl ?_ ?_
  · refine T_aload_n hok 0 rfl rfl dX10_chance_14 ?_
    refine T_iload_n hok 3 rfl rfl dX10_chance_15 ?_
    refine T_cz0 (CR_V (rest := []) hok (ct_X10_isHouse hA hbk I J a3) mw_X10_isHouse mv_X10_isHouse ml_X10_122 lc_0 dX10_chance_16 rfl rfl (roomOk rfl) rfl) rfl rfl ?_
    intro x2
    refine T_ifb_ne (tgt := 24) hok dX10_chance_19 rfl ?_ ?_
    · refine T_iconst hok ic_0 dX10_chance_24 ?_
      refine T_istore (lv' := [(4, .int (0 : Int32)), (0, .ref (b + 0)), (1, .int a1), (2, .int a2), (3, .int a3)]) hok (by decide) rfl dX10_chance_25 ?_
      refine T_iload_n hok 2 rfl rfl dX10_chance_27 ?_
      refine T_istore (lv' := [(5, .int a1), (4, .int (0 : Int32)), (0, .ref (b + 0)), (1, .int a1), (2, .int a2), (3, .int a3)]) hok (by decide) rfl dX10_chance_28 ?_
      refine T_iconst hok ic_0 dX10_chance_30 ?_
      refine T_istore (lv' := [(6, .int (0 : Int32)), (5, .int a1), (4, .int (0 : Int32)), (0, .ref (b + 0)), (1, .int a1), (2, .int a2), (3, .int a3)]) hok (by decide) rfl dX10_chance_31 ?_
      refine T_sub (lv' := [(0, .ref (b + 0)), (2, .int a2), (3, .int a3), (4, .int (0 : Int32)), (5, .int a1), (6, .int (0 : Int32))]) [3, 5, 6, 2, 1, 0] rfl ?_
      refine T_fix5 _ (fun (x3 : Int32) (x4 : Int32) (x5 : Int32) (I6 : MI) (J7 : MJ) => [(0, .ref (b + 0)), (2, .int a2), (3, .int a3), (4, .int x3), (5, .int x4), (6, .int x5)]) (fun (x3 : Int32) (x4 : Int32) (x5 : Int32) (I6 : MI) (J7 : MJ) => Rg G b Lc (Rc b bk dr it) I6 J7) ?_ FU (0 : Int32) a1 (0 : Int32) I J
      intro r33 hr33 x3 x4 x5 I6 J7
      refine T_iload hok 5 rfl dX10_chance_33 ?_
      refine T_bipush hok bp_10 dX10_chance_35 ?_
      refine T_icmp_ge (tgt := 97) hok dX10_chance_37 rfl ?_ ?_
      · refine T_iload hok 3 rfl dX10_chance_97 ?_
        exact T_iret hok dX10_chance_99 (Nat.zero_le _) (Nat.zero_le _) rfl
      refine T_aload_n hok 0 rfl rfl dX10_chance_40 ?_
      refine T_cv1 (CR_V (rest := []) hok (ct_X10_rehearse hA I6 J7) mw_X10_rehearse mv_X10_rehearse ml_X10_299 lc_0 dX10_chance_41 rfl rfl (roomOk rfl) rfl) rfl rfl ?_
      intro I8
      refine T_aload_n hok 0 rfl rfl dX10_chance_44 ?_
      refine T_getR hok fr_X10_50 lc_0 rc_0_9 dX10_chance_45 ?_
      refine T_iconst hok ic_1 dX10_chance_48 ?_
      refine T_putZ hok hA fr_X10_281 rfl rfl lc_62 dX10_chance_49 ?_
      intro I9
      refine T_aload_n hok 0 rfl rfl dX10_chance_52 ?_
      refine T_getR hok fr_X10_41 lc_0 rc_0_6 dX10_chance_53 ?_
      refine T_iload hok 4 rfl dX10_chance_56 ?_
      refine T_putI hok hA fr_X10_334 rfl rfl lc_46 dX10_chance_58 ?_
      intro I10
      refine T_aload_n hok 0 rfl rfl dX10_chance_61 ?_
      refine T_iload_n hok 1 rfl rfl dX10_chance_62 ?_
      refine T_iload_n hok 2 rfl rfl dX10_chance_63 ?_
      refine T_cv2 (CR_V (rest := []) hok (ct_X10_passTrial hA hbk I10 J7 a2 a3) mw_X10_passTrial mv_X10_passTrial ml_X10_302 lc_0 dX10_chance_64 rfl rfl (roomOk rfl) rfl) rfl rfl ?_
      intro I11 J12
      refine T_aload_n hok 0 rfl rfl dX10_chance_67 ?_
      refine T_getR hok fr_X10_41 lc_0 rc_0_6 dX10_chance_68 ?_
      refine T_getI hok fr_X10_334 lc_46 dX10_chance_71 ?_
      refine T_lti ?_
      intro x13
      refine T_istore (lv' := [(5, .int x13), (0, .ref (b + 0)), (2, .int a2), (3, .int a3), (4, .int x3), (6, .int x5)]) hok (by decide) rfl dX10_chance_74 ?_
      refine T_aload_n hok 1 rfl rfl dX10_chance_76 ?_
      refine T_getR hok fr_X10_41 lc_0 rc_0_6 dX10_chance_77 ?_
      refine T_getR hok fr_X10_149 lc_46 rc_46_4 dX10_chance_80 ?_
      refine T_iload_n hok 3 rfl rfl dX10_chance_83 ?_
      refine T_zald hok lc_51 dX10_chance_84 ?_
      refine T_jp _ (fun (j91 : Int32 → Option (Int32 × MI × MJ)) => ∀ (x14 : Int32), T X A (Zm X A (ii2 (fun (I' : MI) (J' : MJ) => Rg G b Lc (Rc b bk dr it) I' J'))) 7 0 0 91 [(0, .ref (b + 0)), (2, .int a2), (3, .int a3), (4, .int x14), (5, .int x13), (6, .int x5)] [] (Rg G b Lc (Rc b bk dr it) I11 J12) (j91 x14)) _ ?_ ?_
      · intro x14
        refine T_iinc (lvs := fun x15 => [(6, .int x15), (0, .ref (b + 0)), (2, .int a2), (3, .int a3), (4, .int x14), (5, .int x13)]) hok 5 rfl ic_1 (by decide) (fun _ => rfl) dX10_chance_91 ?_
        intro x15
        refine T_goto (tgt := 33) hok dX10_chance_94 rfl ?_
        refine T_sub (lv' := [(0, .ref (b + 0)), (2, .int a2), (3, .int a3), (4, .int x14), (5, .int x13), (6, .int x15)]) [1, 2, 3, 4, 5, 0] rfl ?_
        exact hr33 x14 x13 x15 I11 J12
      intro j91 hj91
      refine T_if_eq (tgt := 91) hok dX10_chance_85 rfl ?_ ?_
      · refine T_sub (lv' := [(0, .ref (b + 0)), (2, .int a2), (3, .int a3), (4, .int x3), (5, .int x13), (6, .int x5)]) [1, 2, 3, 4, 0, 5] rfl ?_
        exact hj91 x3
      refine T_iinc (lvs := fun x16 => [(4, .int x16), (5, .int x13), (0, .ref (b + 0)), (2, .int a2), (3, .int a3), (6, .int x5)]) hok 4 rfl ic_1 (by decide) (fun _ => rfl) dX10_chance_88 ?_
      intro x16
      refine T_sub (lv' := [(0, .ref (b + 0)), (2, .int a2), (3, .int a3), (4, .int x16), (5, .int x13), (6, .int x5)]) [2, 3, 4, 0, 1, 5] rfl ?_
      exact hj91 x16
    refine T_sub (lv' := []) [] rfl ?_
    exact hj22
  refine T_sub (lv' := []) [] rfl ?_
  exact hj22

set_option maxHeartbeats 4000000 in
set_option maxRecDepth 100000 in
theorem ct_X10_tried {G : Gx} {l0 : Launch} {A : Nat → Prop} {b bk dr it : Nat} (hA : ∀ k, k < Lc.length → A (b + k)) (hbk : isBk bk = true) (I : MI) (J : MJ) (a1 : Int32) (a2 : Int32) (a3 : Int32) : Ct G l0 A yX10_tried cX10_tried 6 (some .int) { frames := 6, cells := 0, slots := 0, locals := 155 } [.ref (b + 0), .int a1, .int a2, .int a3] (Rg G b Lc (Rc b bk dr it) I J) (ii2 (fun (I' : MI) (J' : MJ) => Rg G b Lc (Rc b bk dr it) I' J')) (f_X10_tried bk I J a1 a2 a3) := by
  refine Ct.of rfl (Nat.le_of_ble_eq_true rfl) ?_
  intro X hok
  replace hok : Ok G l0 X RX10 cX10_tried 6 { frames := 6, cells := 0, slots := 0, locals := 155 } (some .int) := hok
  delta f_X10_tried
  show T X A (Zm X A (ii2 (fun (I' : MI) (J' : MJ) => Rg G b Lc (Rc b bk dr it) I' J'))) 6 0 0 0 [(0, .ref (b + 0)), (1, .int a1), (2, .int a2), (3, .int a3)] [] (Rg G b Lc (Rc b bk dr it) I J) _
  refine T_iload_n hok 1 rfl rfl dX10_tried_0 ?_
  refine T_iconst hok ic_2 dX10_tried_1 ?_
  refine T_jp _ (fun (j22 : Bool → Option (Int32 × MI × MJ)) => ∀ (x1 : Bool), T X A (Zm X A (ii2 (fun (I' : MI) (J' : MJ) => Rg G b Lc (Rc b bk dr it) I' J'))) 6 0 0 22 [(0, .ref (b + 0)), (1, .int a1), (2, .int a2), (3, .int a3)] [.int (bi x1)] (Rg G b Lc (Rc b bk dr it) I J) (j22 x1)) _ ?_ ?_
  · intro x1
    refine T_lti ?_
    intro x2
    refine T_istore (lv' := [(4, .int x2), (0, .ref (b + 0)), (1, .int a1), (2, .int a2), (3, .int a3)]) hok (by decide) rfl dX10_tried_22 ?_
    refine T_iload_n hok 2 rfl rfl dX10_tried_24 ?_
    refine T_iconst hok ic_0 dX10_tried_25 ?_
    refine T_iconst hok ic_4 dX10_tried_26 ?_
    refine T_cz0 (CR_S (rest := []) hok (ct_X10_isWithin a1 (0 : Int32) (4 : Int32)) mw_X10_isWithin mst_X10_isWithin ml_X10_173 dX10_tried_27 rfl rfl (roomOk rfl) rfl) rfl rfl ?_
    intro x3
    refine T_jp _ (fun (j49 : Option (Int32 × MI × MJ)) => T X A (Zm X A (ii2 (fun (I' : MI) (J' : MJ) => Rg G b Lc (Rc b bk dr it) I' J'))) 6 0 0 49 [] [] (Rg G b Lc (Rc b bk dr it) I J) (j49)) _ ?_ ?_
    · skip
      refine T_ldc hok lk_X10_220 dX10_tried_49 ?_
      exact T_iret hok dX10_tried_51 (Nat.zero_le _) (Nat.zero_le _) rfl
    intro j49 hj49
    refine T_ifb_eq (tgt := 49) hok dX10_tried_30 rfl ?_ ?_
    · refine T_iload hok 0 rfl dX10_tried_33 ?_
      refine T_if_eq (tgt := 49) hok dX10_tried_35 rfl ?_ ?_
      · refine T_sub (lv' := []) [] rfl ?_
        exact hj49
      refine T_iload_n hok 4 rfl rfl dX10_tried_38 ?_
      refine T_iconst hok ic_0 dX10_tried_39 ?_
      refine T_sipush hok sp_200 dX10_tried_40 ?_
      refine T_cz0 (CR_S (rest := []) hok (ct_X10_isWithin a3 (0 : Int32) (200 : Int32)) mw_X10_isWithin mst_X10_isWithin ml_X10_173 dX10_tried_43 rfl rfl (roomOk rfl) rfl) rfl rfl ?_
      intro x4
      refine T_ifb_ne (tgt := 52) hok dX10_tried_46 rfl ?_ ?_
      · refine T_aload_n hok 1 rfl rfl dX10_tried_52 ?_
        refine T_cv1 (CR_V (rest := []) hok (ct_X10_rehearse hA I J) mw_X10_rehearse mv_X10_rehearse ml_X10_299 lc_0 dX10_tried_53 rfl rfl (roomOk rfl) rfl) rfl rfl ?_
        intro I5
        refine T_iconst hok ic_0 dX10_tried_56 ?_
        refine T_istore (lv' := [(5, .int (0 : Int32)), (4, .int x2), (0, .ref (b + 0)), (1, .int a1), (2, .int a2), (3, .int a3)]) hok (by decide) rfl dX10_tried_57 ?_
        refine T_jp _ (fun (j103 : MI → Option (Int32 × MI × MJ)) => ∀ (I6 : MI), T X A (Zm X A (ii2 (fun (I' : MI) (J' : MJ) => Rg G b Lc (Rc b bk dr it) I' J'))) 6 0 0 103 [(0, .ref (b + 0)), (1, .int a1), (3, .int a3)] [] (Rg G b Lc (Rc b bk dr it) I6 J) (j103 I6)) _ ?_ ?_
        · intro I6
          refine T_aload_n hok 0 rfl rfl dX10_tried_103 ?_
          refine T_getR hok fr_X10_50 lc_0 rc_0_9 dX10_tried_104 ?_
          refine T_iload_n hok 1 rfl rfl dX10_tried_107 ?_
          refine T_iconst hok ic_1 dX10_tried_108 ?_
          refine T_jp _ (fun (j117 : Bool → Option (Int32 × MI × MJ)) => ∀ (x7 : Bool), T X A (Zm X A (ii2 (fun (I' : MI) (J' : MJ) => Rg G b Lc (Rc b bk dr it) I' J'))) 6 0 0 117 [(0, .ref (b + 0)), (1, .int a1), (3, .int a3)] [.int (bi x7), .ref (b + 62)] (Rg G b Lc (Rc b bk dr it) I6 J) (j117 x7)) _ ?_ ?_
          · intro x7
            refine T_putZ hok hA fr_X10_337 rfl rfl lc_62 dX10_tried_117 ?_
            intro I8
            refine T_aload_n hok 0 rfl rfl dX10_tried_120 ?_
            refine T_getR hok fr_X10_50 lc_0 rc_0_9 dX10_tried_121 ?_
            refine T_iload_n hok 1 rfl rfl dX10_tried_124 ?_
            refine T_iconst hok ic_3 dX10_tried_125 ?_
            refine T_jp _ (fun (j134 : Bool → Option (Int32 × MI × MJ)) => ∀ (x9 : Bool), T X A (Zm X A (ii2 (fun (I' : MI) (J' : MJ) => Rg G b Lc (Rc b bk dr it) I' J'))) 6 0 0 134 [(0, .ref (b + 0)), (1, .int a1), (3, .int a3)] [.int (bi x9), .ref (b + 62)] (Rg G b Lc (Rc b bk dr it) I8 J) (j134 x9)) _ ?_ ?_
            · intro x9
              refine T_putZ hok hA fr_X10_340 rfl rfl lc_62 dX10_tried_134 ?_
              intro I10
              refine T_aload_n hok 0 rfl rfl dX10_tried_137 ?_
              refine T_getR hok fr_X10_50 lc_0 rc_0_9 dX10_tried_138 ?_
              refine T_iload_n hok 1 rfl rfl dX10_tried_141 ?_
              refine T_iconst hok ic_4 dX10_tried_142 ?_
              refine T_jp _ (fun (j151 : Bool → Option (Int32 × MI × MJ)) => ∀ (x11 : Bool), T X A (Zm X A (ii2 (fun (I' : MI) (J' : MJ) => Rg G b Lc (Rc b bk dr it) I' J'))) 6 0 0 151 [(0, .ref (b + 0)), (3, .int a3)] [.int (bi x11), .ref (b + 62)] (Rg G b Lc (Rc b bk dr it) I10 J) (j151 x11)) _ ?_ ?_
              · intro x11
                refine T_putZ hok hA fr_X10_343 rfl rfl lc_62 dX10_tried_151 ?_
                intro I12
                refine T_aload_n hok 0 rfl rfl dX10_tried_154 ?_
                refine T_iload_n hok 1 rfl rfl dX10_tried_155 ?_
                refine T_iconst hok ic_m1 dX10_tried_156 ?_
                refine T_cv2 (CR_V (rest := []) hok (ct_X10_passTrial hA hbk I12 J a3 (-1 : Int32)) mw_X10_passTrial mv_X10_passTrial ml_X10_302 lc_0 dX10_tried_157 rfl rfl (roomOk rfl) rfl) rfl rfl ?_
                intro I13 J14
                refine T_aload_n hok 0 rfl rfl dX10_tried_160 ?_
                refine T_getR hok fr_X10_41 lc_0 rc_0_6 dX10_tried_161 ?_
                refine T_getR hok fr_X10_133 lc_46 rc_46_0 dX10_tried_164 ?_
                refine T_ci0 (CR_S (rest := []) hok (ct_X10_sumOfRow hA lc_47 I13 J14) mw_X10_sumOfRow mst_X10_sumOfRow ml_X10_247 dX10_tried_167 rfl rfl (roomOk rfl) rfl) rfl rfl ?_
                intro x15
                refine T_aload_n hok 0 rfl rfl dX10_tried_170 ?_
                refine T_getR hok fr_X10_41 lc_0 rc_0_6 dX10_tried_171 ?_
                refine T_getR hok fr_X10_137 lc_46 rc_46_1 dX10_tried_174 ?_
                refine T_ci0 (CR_S (rest := [.int x15]) hok (ct_X10_sumOfRow hA lc_48 I13 J14) mw_X10_sumOfRow mst_X10_sumOfRow ml_X10_247 dX10_tried_177 rfl rfl (roomOk rfl) rfl) rfl rfl ?_
                intro x16
                refine T_isub hok dX10_tried_180 ?_
                exact T_iret hok dX10_tried_181 (Nat.zero_le _) (Nat.zero_le _) rfl
              intro j151 hj151
              refine T_icmp_ne (tgt := 150) hok dX10_tried_143 rfl ?_ ?_
              · refine T_iconst hok ic_1 dX10_tried_146 ?_
                refine T_goto (tgt := 151) hok dX10_tried_147 rfl ?_
                refine T_sub (lv' := [(0, .ref (b + 0)), (3, .int a3)]) [0, 2] rfl ?_
                exact hj151 true
              refine T_iconst hok ic_0 dX10_tried_150 ?_
              refine T_sub (lv' := [(0, .ref (b + 0)), (3, .int a3)]) [0, 2] rfl ?_
              exact hj151 false
            intro j134 hj134
            refine T_icmp_ne (tgt := 133) hok dX10_tried_126 rfl ?_ ?_
            · refine T_iconst hok ic_1 dX10_tried_129 ?_
              refine T_goto (tgt := 134) hok dX10_tried_130 rfl ?_
              exact hj134 true
            refine T_iconst hok ic_0 dX10_tried_133 ?_
            exact hj134 false
          intro j117 hj117
          refine T_icmp_ne (tgt := 116) hok dX10_tried_109 rfl ?_ ?_
          · refine T_iconst hok ic_1 dX10_tried_112 ?_
            refine T_goto (tgt := 117) hok dX10_tried_113 rfl ?_
            exact hj117 true
          refine T_iconst hok ic_0 dX10_tried_116 ?_
          exact hj117 false
        intro j103 hj103
        refine T_sub (lv' := [(0, .ref (b + 0)), (1, .int a1), (2, .int a2), (3, .int a3), (5, .int (0 : Int32))]) [2, 3, 4, 5, 0] rfl ?_
        refine T_fix2 _ (fun (x17 : Int32) (I18 : MI) => [(0, .ref (b + 0)), (1, .int a1), (2, .int a2), (3, .int a3), (5, .int x17)]) (fun (x17 : Int32) (I18 : MI) => Rg G b Lc (Rc b bk dr it) I18 J) ?_ FU (0 : Int32) I5
        intro r59 hr59 x17 I18
        refine T_iload hok 4 rfl dX10_tried_59 ?_
        refine T_aload_n hok 0 rfl rfl dX10_tried_61 ?_
        refine T_getR hok fr_X10_18 lc_0 rc_0_2 dX10_tried_62 ?_
        refine T_getI hok fr_X10_203 (bookAt_c (b := 0) (bk := 0) (dr := 0) (it := 0) hbk).o dX10_tried_65 ?_
        refine T_icmp_ge (tgt := 103) hok dX10_tried_68 rfl ?_ ?_
        · refine T_sub (lv' := [(0, .ref (b + 0)), (1, .int a1), (3, .int a3)]) [0, 1, 3] rfl ?_
          exact hj103 I18
        refine T_iload_n hok 1 rfl rfl dX10_tried_71 ?_
        refine T_jp _ (fun (j97 : MI → Option (Int32 × MI × MJ)) => ∀ (I19 : MI), T X A (Zm X A (ii2 (fun (I' : MI) (J' : MJ) => Rg G b Lc (Rc b bk dr it) I' J'))) 6 0 0 97 [(0, .ref (b + 0)), (1, .int a1), (2, .int a2), (3, .int a3), (5, .int x17)] [] (Rg G b Lc (Rc b bk dr it) I19 J) (j97 I19)) _ ?_ ?_
        · intro I19
          refine T_iinc (lvs := fun x20 => [(5, .int x20), (0, .ref (b + 0)), (1, .int a1), (2, .int a2), (3, .int a3)]) hok 4 rfl ic_1 (by decide) (fun _ => rfl) dX10_tried_97 ?_
          intro x20
          refine T_goto (tgt := 59) hok dX10_tried_100 rfl ?_
          refine T_sub (lv' := [(0, .ref (b + 0)), (1, .int a1), (2, .int a2), (3, .int a3), (5, .int x20)]) [1, 2, 3, 4, 0] rfl ?_
          exact hr59 x20 I19
        intro j97 hj97
        refine T_jp _ (fun (j86 : Option (Int32 × MI × MJ)) => T X A (Zm X A (ii2 (fun (I' : MI) (J' : MJ) => Rg G b Lc (Rc b bk dr it) I' J'))) 6 0 0 86 [(0, .ref (b + 0)), (1, .int a1), (2, .int a2), (3, .int a3), (5, .int x17)] [] (Rg G b Lc (Rc b bk dr it) I18 J) (j86)) _ ?_ ?_
        · skip
          refine T_aload_n hok 0 rfl rfl dX10_tried_86 ?_
          refine T_getR hok fr_X10_41 lc_0 rc_0_6 dX10_tried_87 ?_
          refine T_getR hok fr_X10_153 lc_46 rc_46_5 dX10_tried_90 ?_
          refine T_iload hok 4 rfl dX10_tried_93 ?_
          refine T_iconst hok ic_1 dX10_tried_95 ?_
          refine T_zast hok hA lc_52 dX10_tried_96 ?_
          intro I21
          exact hj97 I21
        intro j86 hj86
        refine T_if_eq (tgt := 86) hok dX10_tried_72 rfl ?_ ?_
        · exact hj86
        refine T_iload_n hok 1 rfl rfl dX10_tried_75 ?_
        refine T_iconst hok ic_2 dX10_tried_76 ?_
        refine T_icmp_ne (tgt := 97) hok dX10_tried_77 rfl ?_ ?_
        · refine T_iload hok 4 rfl dX10_tried_80 ?_
          refine T_iload_n hok 2 rfl rfl dX10_tried_82 ?_
          refine T_icmp_ne (tgt := 97) hok dX10_tried_83 rfl ?_ ?_
          · exact hj86
          exact hj97 I18
        exact hj97 I18
      refine T_sub (lv' := []) [] rfl ?_
      exact hj49
    refine T_sub (lv' := []) [] rfl ?_
    exact hj49
  intro j22 hj22
  refine T_icmp_ne (tgt := 13) hok dX10_tried_2 rfl ?_ ?_
  · refine T_aload_n hok 0 rfl rfl dX10_tried_5 ?_
    refine T_iload_n hok 2 rfl rfl dX10_tried_6 ?_
    refine T_cz0 (CR_V (rest := []) hok (ct_X10_isHouse hA hbk I J a2) mw_X10_isHouse mv_X10_isHouse ml_X10_122 lc_0 dX10_tried_7 rfl rfl (roomOk rfl) rfl) rfl rfl ?_
    intro x22
    refine T_goto (tgt := 22) hok dX10_tried_10 rfl ?_
    exact hj22 x22
  refine T_iload_n hok 2 rfl rfl dX10_tried_13 ?_
  refine T_if_ne (tgt := 21) hok dX10_tried_14 rfl ?_ ?_
  · refine T_iconst hok ic_1 dX10_tried_17 ?_
    refine T_goto (tgt := 22) hok dX10_tried_18 rfl ?_
    exact hj22 true
  refine T_iconst hok ic_0 dX10_tried_21 ?_
  exact hj22 false
