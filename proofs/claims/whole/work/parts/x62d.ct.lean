set_option maxHeartbeats 4000000 in
set_option maxRecDepth 100000 in
theorem ct_X10_partsOf {G : Gx} {l0 : Launch} {A : Nat → Prop} {b bk dr it : Nat} (hA : ∀ k, k < Lc.length → A (b + k)) (hbk : isBk bk = true) (I : MI) (J : MJ) (a1 : Int32) (a2 : Int32) (a3 : Int32) : Ct G l0 A yX10_partsOf cX10_partsOf 9 (some .int) { frames := 1, cells := 0, slots := 0, locals := 22 } [.ref (b + 0), .int a1, .int a2, .int a3] (Rg G b Lc (Rc b bk dr it) I J) (ii0 (Rg G b Lc (Rc b bk dr it) I J)) (f_X10_partsOf bk I a1 a2 a3) := by
  refine Ct.of rfl (Nat.le_of_ble_eq_true rfl) ?_
  intro X hok
  replace hok : Ok G l0 X RX10 cX10_partsOf 9 { frames := 1, cells := 0, slots := 0, locals := 22 } (some .int) := hok
  delta f_X10_partsOf
  show T X A (Zm X A (ii0 (Rg G b Lc (Rc b bk dr it) I J))) 9 0 0 0 [(0, .ref (b + 0)), (1, .int a1), (2, .int a2), (3, .int a3)] [] (Rg G b Lc (Rc b bk dr it) I J) _
  refine T_iconst hok ic_0 dX10_partsOf_0 ?_
  refine T_istore (lv' := [(4, .int (0 : Int32)), (0, .ref (b + 0)), (1, .int a1), (2, .int a2), (3, .int a3)]) hok (by decide) rfl dX10_partsOf_1 ?_
  refine T_aload_n hok 1 rfl rfl dX10_partsOf_3 ?_
  refine T_getR hok fr_X10_18 lc_0 rc_0_2 dX10_partsOf_4 ?_
  refine T_iload_n hok 3 rfl rfl dX10_partsOf_7 ?_
  refine T_iload_n hok 4 rfl rfl dX10_partsOf_8 ?_
  refine T_ci0 (CR_V (rest := []) hok (ct_X0_alone hA (bookAt_c hbk) I J a2 a3) mw_X0_alone mv_X0_alone ml_X10_360 (bookAt_c (b := 0) (bk := 0) (dr := 0) (it := 0) hbk).o dX10_partsOf_9 rfl rfl (roomOk rfl) rfl) rfl rfl ?_
  intro x1
  refine T_istore (lv' := [(5, .int x1), (4, .int (0 : Int32)), (0, .ref (b + 0)), (1, .int a1), (2, .int a2), (3, .int a3)]) hok (by decide) rfl dX10_partsOf_12 ?_
  refine T_iconst hok ic_1 dX10_partsOf_14 ?_
  refine T_istore (lv' := [(6, .int (1 : Int32)), (5, .int x1), (4, .int (0 : Int32)), (0, .ref (b + 0)), (1, .int a1), (2, .int a2), (3, .int a3)]) hok (by decide) rfl dX10_partsOf_15 ?_
  refine T_sub (lv' := [(0, .ref (b + 0)), (1, .int a1), (3, .int a3), (4, .int (0 : Int32)), (5, .int x1), (6, .int (1 : Int32))]) [3, 4, 6, 2, 1, 0] rfl ?_
  refine T_fix2 _ (fun (x2 : Int32) (x3 : Int32) => [(0, .ref (b + 0)), (1, .int a1), (3, .int a3), (4, .int x2), (5, .int x1), (6, .int x3)]) (fun (x2 : Int32) (x3 : Int32) => Rg G b Lc (Rc b bk dr it) I J) ?_ FU (0 : Int32) (1 : Int32)
  intro r17 hr17 x2 x3
  refine T_iload hok 5 rfl dX10_partsOf_17 ?_
  refine T_iload hok 4 rfl dX10_partsOf_19 ?_
  refine T_icmp_gt (tgt := 96) hok dX10_partsOf_21 rfl ?_ ?_
  · refine T_iload hok 3 rfl dX10_partsOf_96 ?_
    exact T_iret hok dX10_partsOf_98 (Nat.zero_le _) (Nat.zero_le _) rfl
  refine T_iconst hok ic_0 dX10_partsOf_24 ?_
  refine T_istore (lv' := [(7, .int (0 : Int32)), (0, .ref (b + 0)), (1, .int a1), (3, .int a3), (4, .int x2), (5, .int x1), (6, .int x3)]) hok (by decide) rfl dX10_partsOf_25 ?_
  refine T_iconst hok ic_0 dX10_partsOf_27 ?_
  refine T_istore (lv' := [(8, .int (0 : Int32)), (7, .int (0 : Int32)), (0, .ref (b + 0)), (1, .int a1), (3, .int a3), (4, .int x2), (5, .int x1), (6, .int x3)]) hok (by decide) rfl dX10_partsOf_28 ?_
  refine T_jp _ (fun (j75 : Int32 → Option (Int32)) => ∀ (x4 : Int32), T X A (Zm X A (ii0 (Rg G b Lc (Rc b bk dr it) I J))) 9 0 0 75 [(0, .ref (b + 0)), (1, .int a1), (3, .int a3), (4, .int x2), (5, .int x1), (6, .int x3), (7, .int x4)] [] (Rg G b Lc (Rc b bk dr it) I J) (j75 x4)) _ ?_ ?_
  · intro x4
    refine T_iload hok 6 rfl dX10_partsOf_75 ?_
    refine T_jp _ (fun (j90 : Int32 → Option (Int32)) => ∀ (x5 : Int32), T X A (Zm X A (ii0 (Rg G b Lc (Rc b bk dr it) I J))) 9 0 0 90 [(0, .ref (b + 0)), (1, .int a1), (3, .int a3), (4, .int x5), (5, .int x1), (6, .int x3)] [] (Rg G b Lc (Rc b bk dr it) I J) (j90 x5)) _ ?_ ?_
    · intro x5
      refine T_iinc (lvs := fun x6 => [(6, .int x6), (0, .ref (b + 0)), (1, .int a1), (3, .int a3), (4, .int x5), (5, .int x1)]) hok 5 rfl ic_1 (by decide) (fun _ => rfl) dX10_partsOf_90 ?_
      intro x6
      refine T_goto (tgt := 17) hok dX10_partsOf_93 rfl ?_
      refine T_sub (lv' := [(0, .ref (b + 0)), (1, .int a1), (3, .int a3), (4, .int x5), (5, .int x1), (6, .int x6)]) [1, 2, 3, 4, 5, 0] rfl ?_
      exact hr17 x5 x6
    intro j90 hj90
    refine T_if_le (tgt := 90) hok dX10_partsOf_77 rfl ?_ ?_
    · refine T_sub (lv' := [(0, .ref (b + 0)), (1, .int a1), (3, .int a3), (4, .int x2), (5, .int x1), (6, .int x3)]) [0, 1, 2, 3, 4, 5] rfl ?_
      exact hj90 x2
    refine T_iload hok 3 rfl dX10_partsOf_80 ?_
    refine T_bipush hok bp_60 dX10_partsOf_82 ?_
    refine T_iload hok 6 rfl dX10_partsOf_84 ?_
    refine T_idiv hok dX10_partsOf_86 ?_
    refine T_iadd hok dX10_partsOf_87 ?_
    refine T_lti ?_
    intro x7
    refine T_istore (lv' := [(4, .int x7), (0, .ref (b + 0)), (1, .int a1), (3, .int a3), (5, .int x1), (6, .int x3), (7, .int x4)]) hok (by decide) rfl dX10_partsOf_88 ?_
    refine T_sub (lv' := [(0, .ref (b + 0)), (1, .int a1), (3, .int a3), (4, .int x7), (5, .int x1), (6, .int x3)]) [1, 2, 3, 0, 4, 5] rfl ?_
    exact hj90 x7
  intro j75 hj75
  refine T_sub (lv' := [(0, .ref (b + 0)), (1, .int a1), (3, .int a3), (4, .int x2), (5, .int x1), (6, .int x3), (7, .int (0 : Int32)), (8, .int (0 : Int32))]) [2, 3, 4, 5, 6, 7, 1, 0] rfl ?_
  refine T_fix2 _ (fun (x8 : Int32) (x9 : Int32) => [(0, .ref (b + 0)), (1, .int a1), (3, .int a3), (4, .int x2), (5, .int x1), (6, .int x3), (7, .int x8), (8, .int x9)]) (fun (x8 : Int32) (x9 : Int32) => Rg G b Lc (Rc b bk dr it) I J) ?_ FU (0 : Int32) (0 : Int32)
  intro r30 hr30 x8 x9
  refine T_iload hok 7 rfl dX10_partsOf_30 ?_
  refine T_aload_n hok 0 rfl rfl dX10_partsOf_32 ?_
  refine T_getR hok fr_X10_18 lc_0 rc_0_2 dX10_partsOf_33 ?_
  refine T_getI hok fr_X10_203 (bookAt_c (b := 0) (bk := 0) (dr := 0) (it := 0) hbk).o dX10_partsOf_36 ?_
  refine T_icmp_ge (tgt := 75) hok dX10_partsOf_39 rfl ?_ ?_
  · refine T_sub (lv' := [(0, .ref (b + 0)), (1, .int a1), (3, .int a3), (4, .int x2), (5, .int x1), (6, .int x3), (7, .int x8)]) [0, 1, 2, 3, 4, 5, 6] rfl ?_
    exact hj75 x8
  refine T_iload hok 7 rfl dX10_partsOf_42 ?_
  refine T_iload_n hok 1 rfl rfl dX10_partsOf_44 ?_
  refine T_cz0 (CR_S (rest := []) hok (ct_X10_isAmong x9 a1) mw_X10_isAmong mst_X10_isAmong ml_X10_227 dX10_partsOf_45 rfl rfl (roomOk rfl) rfl) rfl rfl ?_
  intro x10
  refine T_jp _ (fun (j69 : Int32 → Option (Int32)) => ∀ (x11 : Int32), T X A (Zm X A (ii0 (Rg G b Lc (Rc b bk dr it) I J))) 9 0 0 69 [(0, .ref (b + 0)), (1, .int a1), (3, .int a3), (4, .int x2), (5, .int x1), (6, .int x3), (7, .int x11), (8, .int x9)] [] (Rg G b Lc (Rc b bk dr it) I J) (j69 x11)) _ ?_ ?_
  · intro x11
    refine T_iinc (lvs := fun x12 => [(8, .int x12), (0, .ref (b + 0)), (1, .int a1), (3, .int a3), (4, .int x2), (5, .int x1), (6, .int x3), (7, .int x11)]) hok 7 rfl ic_1 (by decide) (fun _ => rfl) dX10_partsOf_69 ?_
    intro x12
    refine T_goto (tgt := 30) hok dX10_partsOf_72 rfl ?_
    refine T_sub (lv' := [(0, .ref (b + 0)), (1, .int a1), (3, .int a3), (4, .int x2), (5, .int x1), (6, .int x3), (7, .int x11), (8, .int x12)]) [1, 2, 3, 4, 5, 6, 7, 0] rfl ?_
    exact hr30 x11 x12
  intro j69 hj69
  refine T_ifb_eq (tgt := 69) hok dX10_partsOf_48 rfl ?_ ?_
  · refine T_aload_n hok 0 rfl rfl dX10_partsOf_51 ?_
    refine T_getR hok fr_X10_18 lc_0 rc_0_2 dX10_partsOf_52 ?_
    refine T_iload hok 7 rfl dX10_partsOf_55 ?_
    refine T_iload_n hok 2 rfl rfl dX10_partsOf_57 ?_
    refine T_ci0 (CR_V (rest := []) hok (ct_X0_alone hA (bookAt_c hbk) I J x9 a3) mw_X0_alone mv_X0_alone ml_X10_360 (bookAt_c (b := 0) (bk := 0) (dr := 0) (it := 0) hbk).o dX10_partsOf_58 rfl rfl (roomOk rfl) rfl) rfl rfl ?_
    intro x13
    refine T_iload hok 5 rfl dX10_partsOf_61 ?_
    refine T_icmp_lt (tgt := 69) hok dX10_partsOf_63 rfl ?_ ?_
    · exact hj69 x8
    refine T_iinc (lvs := fun x14 => [(7, .int x14), (0, .ref (b + 0)), (1, .int a1), (3, .int a3), (4, .int x2), (5, .int x1), (6, .int x3), (8, .int x9)]) hok 6 rfl ic_1 (by decide) (fun _ => rfl) dX10_partsOf_66 ?_
    intro x14
    refine T_sub (lv' := [(0, .ref (b + 0)), (1, .int a1), (3, .int a3), (4, .int x2), (5, .int x1), (6, .int x3), (7, .int x14), (8, .int x9)]) [1, 2, 3, 4, 5, 6, 0, 7] rfl ?_
    exact hj69 x14
  exact hj69 x8

set_option maxHeartbeats 4000000 in
set_option maxRecDepth 100000 in
theorem ct_X10_share {G : Gx} {l0 : Launch} {A : Nat → Prop} {b bk dr it : Nat} (hA : ∀ k, k < Lc.length → A (b + k)) (hbk : isBk bk = true) (I : MI) (J : MJ) (a1 : Int32) (a2 : Int32) (a3 : Int32) (a4 : Int32) : Ct G l0 A yX10_share cX10_share 5 (some .int) { frames := 2, cells := 0, slots := 0, locals := 56 } [.ref (b + 0), .int a1, .int a2, .int a3, .int a4] (Rg G b Lc (Rc b bk dr it) I J) (ii1 (fun (J' : MJ) => Rg G b Lc (Rc b bk dr it) I J')) (f_X10_share bk I J a1 a2 a3 a4) := by
  refine Ct.of rfl (Nat.le_of_ble_eq_true rfl) ?_
  intro X hok
  replace hok : Ok G l0 X RX10 cX10_share 5 { frames := 2, cells := 0, slots := 0, locals := 56 } (some .int) := hok
  delta f_X10_share
  show T X A (Zm X A (ii1 (fun (J' : MJ) => Rg G b Lc (Rc b bk dr it) I J'))) 5 0 0 0 [(0, .ref (b + 0)), (1, .int a1), (2, .int a2), (3, .int a3), (4, .int a4)] [] (Rg G b Lc (Rc b bk dr it) I J) _
  refine T_aload_n hok 0 rfl rfl dX10_share_0 ?_
  refine T_iload_n hok 1 rfl rfl dX10_share_1 ?_
  refine T_cz0 (CR_V (rest := []) hok (ct_X10_areHouses hA hbk I J a1) mw_X10_areHouses mv_X10_areHouses ml_X10_212 lc_0 dX10_share_2 rfl rfl (roomOk rfl) rfl) rfl rfl ?_
  intro x1
  refine T_jp _ (fun (j34 : Option (Int32 × MJ)) => T X A (Zm X A (ii1 (fun (J' : MJ) => Rg G b Lc (Rc b bk dr it) I J'))) 5 0 0 34 [] [] (Rg G b Lc (Rc b bk dr it) I J) (j34)) _ ?_ ?_
  · skip
    refine T_iconst hok ic_m1 dX10_share_34 ?_
    exact T_iret hok dX10_share_35 (Nat.zero_le _) (Nat.zero_le _) rfl
  intro j34 hj34
  refine T_ifb_eq (tgt := 34) hok dX10_share_5 rfl ?_ ?_
  · refine T_aload_n hok 0 rfl rfl dX10_share_8 ?_
    refine T_iload_n hok 2 rfl rfl dX10_share_9 ?_
    refine T_cz0 (CR_V (rest := []) hok (ct_X10_isHouse hA hbk I J a2) mw_X10_isHouse mv_X10_isHouse ml_X10_122 lc_0 dX10_share_10 rfl rfl (roomOk rfl) rfl) rfl rfl ?_
    intro x2
    refine T_ifb_eq (tgt := 34) hok dX10_share_13 rfl ?_ ?_
    · refine T_aload_n hok 0 rfl rfl dX10_share_16 ?_
      refine T_iload_n hok 3 rfl rfl dX10_share_17 ?_
      refine T_cz0 (CR_V (rest := []) hok (ct_X10_isKind hA hbk I J a3) mw_X10_isKind mv_X10_isKind ml_X10_161 lc_0 dX10_share_18 rfl rfl (roomOk rfl) rfl) rfl rfl ?_
      intro x3
      refine T_ifb_eq (tgt := 34) hok dX10_share_21 rfl ?_ ?_
      · refine T_iload hok 4 rfl dX10_share_24 ?_
        refine T_iconst hok ic_0 dX10_share_26 ?_
        refine T_iconst hok ic_1 dX10_share_27 ?_
        refine T_cz0 (CR_S (rest := []) hok (ct_X10_isWithin a4 (0 : Int32) (1 : Int32)) mw_X10_isWithin mst_X10_isWithin ml_X10_173 dX10_share_28 rfl rfl (roomOk rfl) rfl) rfl rfl ?_
        intro x4
        refine T_ifb_ne (tgt := 36) hok dX10_share_31 rfl ?_ ?_
        · refine T_aload_n hok 0 rfl rfl dX10_share_36 ?_
          refine T_getR hok fr_X10_78 lc_0 rc_0_13 dX10_share_37 ?_
          refine T_iload_n hok 2 rfl rfl dX10_share_40 ?_
          refine T_iload_n hok 1 rfl rfl dX10_share_41 ?_
          refine T_cz0 (CR_S (rest := [.ref (b + 79)]) hok (ct_X10_isAmong a2 a1) mw_X10_isAmong mst_X10_isAmong ml_X10_227 dX10_share_42 rfl rfl (roomOk rfl) rfl) rfl rfl ?_
          intro x5
          refine T_jp _ (fun (j60 : Int64 → Option (Int32 × MJ)) => ∀ (x6 : Int64), T X A (Zm X A (ii1 (fun (J' : MJ) => Rg G b Lc (Rc b bk dr it) I J'))) 5 0 0 60 [(0, .ref (b + 0)), (4, .int a4)] [.long x6, .ref (b + 79)] (Rg G b Lc (Rc b bk dr it) I J) (j60 x6)) _ ?_ ?_
          · intro x6
            refine T_ldc2 hok lk_X10_350 dX10_share_60 ?_
            refine T_cv1 (CR_V (rest := []) hok (ct_X3_put hA I J x6 (60 : Int64)) mw_X3_put mv_X3_put ml_X10_352 lc_79 dX10_share_63 rfl rfl (roomOk rfl) rfl) rfl rfl ?_
            intro J7
            refine T_aload_n hok 0 rfl rfl dX10_share_66 ?_
            refine T_getR hok fr_X10_78 lc_0 rc_0_13 dX10_share_67 ?_
            refine T_iload hok 1 rfl dX10_share_70 ?_
            refine T_cl0 (CR_V (rest := []) hok (ct_X3_told hA I J7 a4) mw_X3_told mv_X3_told ml_X10_356 lc_79 dX10_share_72 rfl rfl (roomOk rfl) rfl) rfl rfl ?_
            intro x8
            refine T_l2i hok dX10_share_75 ?_
            exact T_iret hok dX10_share_76 (Nat.zero_le _) (Nat.zero_le _) rfl
          intro j60 hj60
          refine T_ifb_eq (tgt := 59) hok dX10_share_45 rfl ?_ ?_
          · refine T_aload_n hok 0 rfl rfl dX10_share_48 ?_
            refine T_iload_n hok 1 rfl rfl dX10_share_49 ?_
            refine T_iload_n hok 2 rfl rfl dX10_share_50 ?_
            refine T_iload_n hok 3 rfl rfl dX10_share_51 ?_
            refine T_ci0 (CR_V (rest := [.ref (b + 79)]) hok (ct_X10_partsOf hA hbk I J a1 a2 a3) mw_X10_partsOf mv_X10_partsOf ml_X10_346 lc_0 dX10_share_52 rfl rfl (roomOk rfl) rfl) rfl rfl ?_
            intro x9
            refine T_i2l hok dX10_share_55 ?_
            refine T_goto (tgt := 60) hok dX10_share_56 rfl ?_
            refine T_sub (lv' := [(0, .ref (b + 0)), (4, .int a4)]) [0, 4] rfl ?_
            exact hj60 (Int32.toInt64 x9)
          refine T_lconst (v := 0) hok rfl dX10_share_59 ?_
          refine T_sub (lv' := [(0, .ref (b + 0)), (4, .int a4)]) [0, 4] rfl ?_
          exact hj60 (0 : Int64)
        refine T_sub (lv' := []) [] rfl ?_
        exact hj34
      refine T_sub (lv' := []) [] rfl ?_
      exact hj34
    refine T_sub (lv' := []) [] rfl ?_
    exact hj34
  refine T_sub (lv' := []) [] rfl ?_
  exact hj34

set_option maxHeartbeats 4000000 in
set_option maxRecDepth 100000 in
theorem ct_X10_mostOf {G : Gx} {l0 : Launch} {A : Nat → Prop} {b bk dr it : Nat} (hA : ∀ k, k < Lc.length → A (b + k)) (hbk : isBk bk = true) (I : MI) (J : MJ) (a1 : Int32) (a2 : Int32) : Ct G l0 A yX10_mostOf cX10_mostOf 5 (some .int) { frames := 1, cells := 0, slots := 0, locals := 22 } [.ref (b + 0), .int a1, .int a2] (Rg G b Lc (Rc b bk dr it) I J) (ii0 (Rg G b Lc (Rc b bk dr it) I J)) (f_X10_mostOf bk I a1 a2) := by
  refine Ct.of rfl (Nat.le_of_ble_eq_true rfl) ?_
  intro X hok
  replace hok : Ok G l0 X RX10 cX10_mostOf 5 { frames := 1, cells := 0, slots := 0, locals := 22 } (some .int) := hok
  delta f_X10_mostOf
  show T X A (Zm X A (ii0 (Rg G b Lc (Rc b bk dr it) I J))) 5 0 0 0 [(0, .ref (b + 0)), (1, .int a1), (2, .int a2)] [] (Rg G b Lc (Rc b bk dr it) I J) _
  refine T_iconst hok ic_0 dX10_mostOf_0 ?_
  refine T_istore_n (lv' := [(3, .int (0 : Int32)), (0, .ref (b + 0)), (1, .int a1), (2, .int a2)]) hok rfl (by decide) rfl dX10_mostOf_1 ?_
  refine T_iconst hok ic_0 dX10_mostOf_2 ?_
  refine T_istore (lv' := [(4, .int (0 : Int32)), (3, .int (0 : Int32)), (0, .ref (b + 0)), (1, .int a1), (2, .int a2)]) hok (by decide) rfl dX10_mostOf_3 ?_
  refine T_sub (lv' := [(0, .ref (b + 0)), (1, .int a1), (2, .int a2), (3, .int (0 : Int32)), (4, .int (0 : Int32))]) [2, 3, 4, 1, 0] rfl ?_
  refine T_fix2 _ (fun (x1 : Int32) (x2 : Int32) => [(0, .ref (b + 0)), (1, .int a1), (2, .int a2), (3, .int x1), (4, .int x2)]) (fun (x1 : Int32) (x2 : Int32) => Rg G b Lc (Rc b bk dr it) I J) ?_ FU (0 : Int32) (0 : Int32)
  intro r5 hr5 x1 x2
  refine T_iload hok 4 rfl dX10_mostOf_5 ?_
  refine T_aload_n hok 0 rfl rfl dX10_mostOf_7 ?_
  refine T_getR hok fr_X10_18 lc_0 rc_0_2 dX10_mostOf_8 ?_
  refine T_getI hok fr_X10_203 (bookAt_c (b := 0) (bk := 0) (dr := 0) (it := 0) hbk).o dX10_mostOf_11 ?_
  refine T_icmp_ge (tgt := 47) hok dX10_mostOf_14 rfl ?_ ?_
  · refine T_iload_n hok 3 rfl rfl dX10_mostOf_47 ?_
    exact T_iret hok dX10_mostOf_48 (Nat.zero_le _) (Nat.zero_le _) rfl
  refine T_iload hok 4 rfl dX10_mostOf_17 ?_
  refine T_iload_n hok 1 rfl rfl dX10_mostOf_19 ?_
  refine T_cz0 (CR_S (rest := []) hok (ct_X10_isAmong x2 a1) mw_X10_isAmong mst_X10_isAmong ml_X10_227 dX10_mostOf_20 rfl rfl (roomOk rfl) rfl) rfl rfl ?_
  intro x3
  refine T_jp _ (fun (j41 : Int32 → Option (Int32)) => ∀ (x4 : Int32), T X A (Zm X A (ii0 (Rg G b Lc (Rc b bk dr it) I J))) 5 0 0 41 [(0, .ref (b + 0)), (1, .int a1), (2, .int a2), (3, .int x4), (4, .int x2)] [] (Rg G b Lc (Rc b bk dr it) I J) (j41 x4)) _ ?_ ?_
  · intro x4
    refine T_iinc (lvs := fun x5 => [(4, .int x5), (0, .ref (b + 0)), (1, .int a1), (2, .int a2), (3, .int x4)]) hok 4 rfl ic_1 (by decide) (fun _ => rfl) dX10_mostOf_41 ?_
    intro x5
    refine T_goto (tgt := 5) hok dX10_mostOf_44 rfl ?_
    refine T_sub (lv' := [(0, .ref (b + 0)), (1, .int a1), (2, .int a2), (3, .int x4), (4, .int x5)]) [1, 2, 3, 4, 0] rfl ?_
    exact hr5 x4 x5
  intro j41 hj41
  refine T_ifb_eq (tgt := 41) hok dX10_mostOf_23 rfl ?_ ?_
  · refine T_iload_n hok 3 rfl rfl dX10_mostOf_26 ?_
    refine T_aload_n hok 0 rfl rfl dX10_mostOf_27 ?_
    refine T_getR hok fr_X10_18 lc_0 rc_0_2 dX10_mostOf_28 ?_
    refine T_iload hok 4 rfl dX10_mostOf_31 ?_
    refine T_iload_n hok 2 rfl rfl dX10_mostOf_33 ?_
    refine T_ci0 (CR_V (rest := [.int x1]) hok (ct_X0_alone hA (bookAt_c hbk) I J x2 a2) mw_X0_alone mv_X0_alone ml_X10_360 (bookAt_c (b := 0) (bk := 0) (dr := 0) (it := 0) hbk).o dX10_mostOf_34 rfl rfl (roomOk rfl) rfl) rfl rfl ?_
    intro x6
    refine T_mmax hok mm_mmax ml_X10_366 dX10_mostOf_37 (Nat.le_of_ble_eq_true rfl) (Nat.le_of_ble_eq_true rfl) (Nat.zero_le _) (Nat.zero_le _) ?_
    refine T_lti ?_
    intro x7
    refine T_istore_n (lv' := [(3, .int x7), (0, .ref (b + 0)), (1, .int a1), (2, .int a2), (4, .int x2)]) hok rfl (by decide) rfl dX10_mostOf_40 ?_
    refine T_sub (lv' := [(0, .ref (b + 0)), (1, .int a1), (2, .int a2), (3, .int x7), (4, .int x2)]) [1, 2, 3, 0, 4] rfl ?_
    exact hj41 x7
  exact hj41 x1

set_option maxHeartbeats 4000000 in
set_option maxRecDepth 100000 in
theorem ct_X10_leave {G : Gx} {l0 : Launch} {A : Nat → Prop} {b bk dr it : Nat} (hA : ∀ k, k < Lc.length → A (b + k)) (hbk : isBk bk = true) (I : MI) (J : MJ) (a1 : Int32) (a2 : Int32) : Ct G l0 A yX10_leave cX10_leave 7 (some .int) { frames := 2, cells := 0, slots := 0, locals := 46 } [.ref (b + 0), .int a1, .int a2] (Rg G b Lc (Rc b bk dr it) I J) (ii0 (Rg G b Lc (Rc b bk dr it) I J)) (f_X10_leave bk I a1 a2) := by
  refine Ct.of rfl (Nat.le_of_ble_eq_true rfl) ?_
  intro X hok
  replace hok : Ok G l0 X RX10 cX10_leave 7 { frames := 2, cells := 0, slots := 0, locals := 46 } (some .int) := hok
  delta f_X10_leave
  show T X A (Zm X A (ii0 (Rg G b Lc (Rc b bk dr it) I J))) 7 0 0 0 [(0, .ref (b + 0)), (1, .int a1), (2, .int a2)] [] (Rg G b Lc (Rc b bk dr it) I J) _
  refine T_iload_n hok 1 rfl rfl dX10_leave_0 ?_
  refine T_iconst hok ic_1 dX10_leave_1 ?_
  refine T_jp _ (fun (j21 : Option (Int32)) => T X A (Zm X A (ii0 (Rg G b Lc (Rc b bk dr it) I J))) 7 0 0 21 [] [] (Rg G b Lc (Rc b bk dr it) I J) (j21)) _ ?_ ?_
  · skip
    refine T_iconst hok ic_m1 dX10_leave_21 ?_
    exact T_iret hok dX10_leave_22 (Nat.zero_le _) (Nat.zero_le _) rfl
  intro j21 hj21
  refine T_icmp_lt (tgt := 21) hok dX10_leave_2 rfl ?_ ?_
  · refine T_sub (lv' := []) [] rfl ?_
    exact hj21
  refine T_aload_n hok 0 rfl rfl dX10_leave_5 ?_
  refine T_iload_n hok 1 rfl rfl dX10_leave_6 ?_
  refine T_cz0 (CR_V (rest := []) hok (ct_X10_areHouses hA hbk I J a1) mw_X10_areHouses mv_X10_areHouses ml_X10_212 lc_0 dX10_leave_7 rfl rfl (roomOk rfl) rfl) rfl rfl ?_
  intro x1
  refine T_ifb_eq (tgt := 21) hok dX10_leave_10 rfl ?_ ?_
  · refine T_aload_n hok 0 rfl rfl dX10_leave_13 ?_
    refine T_iload_n hok 2 rfl rfl dX10_leave_14 ?_
    refine T_cz0 (CR_V (rest := []) hok (ct_X10_isKind hA hbk I J a2) mw_X10_isKind mv_X10_isKind ml_X10_161 lc_0 dX10_leave_15 rfl rfl (roomOk rfl) rfl) rfl rfl ?_
    intro x2
    refine T_ifb_ne (tgt := 23) hok dX10_leave_18 rfl ?_ ?_
    · refine T_iload_n hok 1 rfl rfl dX10_leave_23 ?_
      refine T_ci0 (CR_S (rest := []) hok (ct_J6_bitCount_0f7a4 a1) mw_J6_bitCount_0f7a4 mst_J6_bitCount_0f7a4 ml_X10_221 dX10_leave_24 rfl rfl (roomOk rfl) rfl) rfl rfl ?_
      intro x3
      refine T_istore_n (lv' := [(3, .int x3), (0, .ref (b + 0)), (1, .int a1), (2, .int a2)]) hok rfl (by decide) rfl dX10_leave_27 ?_
      refine T_aload_n hok 1 rfl rfl dX10_leave_28 ?_
      refine T_iload_n hok 2 rfl rfl dX10_leave_29 ?_
      refine T_iload_n hok 3 rfl rfl dX10_leave_30 ?_
      refine T_ci0 (CR_V (rest := []) hok (ct_X10_mostOf hA hbk I J a1 a2) mw_X10_mostOf mv_X10_mostOf ml_X10_363 lc_0 dX10_leave_31 rfl rfl (roomOk rfl) rfl) rfl rfl ?_
      intro x4
      refine T_istore (lv' := [(4, .int x4), (3, .int x3), (0, .ref (b + 0)), (1, .int a1), (2, .int a2)]) hok (by decide) rfl dX10_leave_34 ?_
      refine T_iconst hok ic_1 dX10_leave_36 ?_
      refine T_istore (lv' := [(5, .int (1 : Int32)), (4, .int x4), (3, .int x3), (0, .ref (b + 0)), (1, .int a1), (2, .int a2)]) hok (by decide) rfl dX10_leave_37 ?_
      refine T_sub (lv' := [(0, .ref (b + 0)), (1, .int a1), (2, .int a2), (3, .int x3), (4, .int x4), (5, .int (1 : Int32))]) [3, 4, 5, 2, 1, 0] rfl ?_
      refine T_fix1 _ (fun (x5 : Int32) => [(0, .ref (b + 0)), (1, .int a1), (2, .int a2), (3, .int x3), (4, .int x4), (5, .int x5)]) (fun (x5 : Int32) => Rg G b Lc (Rc b bk dr it) I J) ?_ FU (1 : Int32)
      intro r39 hr39 x5
      refine T_iload hok 5 rfl dX10_leave_39 ?_
      refine T_iload_n hok 1 rfl rfl dX10_leave_41 ?_
      refine T_icmp_gt (tgt := 95) hok dX10_leave_42 rfl ?_ ?_
      · refine T_bipush hok bp_m2 dX10_leave_95 ?_
        exact T_iret hok dX10_leave_97 (Nat.zero_le _) (Nat.zero_le _) rfl
      refine T_iload hok 5 rfl dX10_leave_45 ?_
      refine T_iload_n hok 1 rfl rfl dX10_leave_47 ?_
      refine T_iand hok dX10_leave_48 ?_
      refine T_iload hok 5 rfl dX10_leave_49 ?_
      refine T_jp _ (fun (j59 : Bool → Option (Int32)) => ∀ (x6 : Bool), T X A (Zm X A (ii0 (Rg G b Lc (Rc b bk dr it) I J))) 7 0 0 59 [(0, .ref (b + 0)), (1, .int a1), (2, .int a2), (3, .int x3), (4, .int x4), (5, .int x5)] [.int (bi x6)] (Rg G b Lc (Rc b bk dr it) I J) (j59 x6)) _ ?_ ?_
      · intro x6
        refine T_lti ?_
        intro x7
        refine T_istore (lv' := [(6, .int x7), (0, .ref (b + 0)), (1, .int a1), (2, .int a2), (3, .int x3), (4, .int x4), (5, .int x5)]) hok (by decide) rfl dX10_leave_59 ?_
        refine T_iload hok 0 rfl dX10_leave_61 ?_
        refine T_jp _ (fun (j89 : Option (Int32)) => T X A (Zm X A (ii0 (Rg G b Lc (Rc b bk dr it) I J))) 7 0 0 89 [(0, .ref (b + 0)), (1, .int a1), (2, .int a2), (3, .int x3), (4, .int x4), (5, .int x5)] [] (Rg G b Lc (Rc b bk dr it) I J) (j89)) _ ?_ ?_
        · skip
          refine T_iinc (lvs := fun x8 => [(5, .int x8), (0, .ref (b + 0)), (1, .int a1), (2, .int a2), (3, .int x3), (4, .int x4)]) hok 5 rfl ic_1 (by decide) (fun _ => rfl) dX10_leave_89 ?_
          intro x8
          refine T_goto (tgt := 39) hok dX10_leave_92 rfl ?_
          refine T_sub (lv' := [(0, .ref (b + 0)), (1, .int a1), (2, .int a2), (3, .int x3), (4, .int x4), (5, .int x8)]) [1, 2, 3, 4, 5, 0] rfl ?_
          exact hr39 x8
        intro j89 hj89
        refine T_if_eq (tgt := 89) hok dX10_leave_63 rfl ?_ ?_
        · refine T_sub (lv' := [(0, .ref (b + 0)), (1, .int a1), (2, .int a2), (3, .int x3), (4, .int x4), (5, .int x5)]) [1, 2, 3, 4, 5, 6] rfl ?_
          exact hj89
        refine T_aload_n hok 1 rfl rfl dX10_leave_66 ?_
        refine T_iload hok 6 rfl dX10_leave_67 ?_
        refine T_iload_n hok 3 rfl rfl dX10_leave_69 ?_
        refine T_ci0 (CR_V (rest := []) hok (ct_X10_mostOf hA hbk I J x5 a2) mw_X10_mostOf mv_X10_mostOf ml_X10_363 lc_0 dX10_leave_70 rfl rfl (roomOk rfl) rfl) rfl rfl ?_
        intro x9
        refine T_iload_n hok 4 rfl rfl dX10_leave_73 ?_
        refine T_imul hok dX10_leave_74 ?_
        refine T_iload hok 6 rfl dX10_leave_75 ?_
        refine T_ci0 (CR_S (rest := [.int (x9 * x3)]) hok (ct_J6_bitCount_0f7a4 x5) mw_J6_bitCount_0f7a4 mst_J6_bitCount_0f7a4 ml_X10_221 dX10_leave_77 rfl rfl (roomOk rfl) rfl) rfl rfl ?_
        intro x10
        refine T_iload hok 5 rfl dX10_leave_80 ?_
        refine T_imul hok dX10_leave_82 ?_
        refine T_icmp_ge (tgt := 89) hok dX10_leave_83 rfl ?_ ?_
        · refine T_sub (lv' := [(0, .ref (b + 0)), (1, .int a1), (2, .int a2), (3, .int x3), (4, .int x4), (5, .int x5)]) [1, 2, 3, 4, 5, 6] rfl ?_
          exact hj89
        refine T_iload hok 6 rfl dX10_leave_86 ?_
        exact T_iret hok dX10_leave_88 (Nat.zero_le _) (Nat.zero_le _) rfl
      intro j59 hj59
      refine T_icmp_ne (tgt := 58) hok dX10_leave_51 rfl ?_ ?_
      · refine T_iconst hok ic_1 dX10_leave_54 ?_
        refine T_goto (tgt := 59) hok dX10_leave_55 rfl ?_
        exact hj59 true
      refine T_iconst hok ic_0 dX10_leave_58 ?_
      exact hj59 false
    refine T_sub (lv' := []) [] rfl ?_
    exact hj21
  refine T_sub (lv' := []) [] rfl ?_
  exact hj21

set_option maxHeartbeats 4000000 in
set_option maxRecDepth 100000 in
theorem ct_X10_sumOfBetter {G : Gx} {l0 : Launch} {A : Nat → Prop} {b bk dr it : Nat} (hA : ∀ k, k < Lc.length → A (b + k)) (hbk : isBk bk = true) (I : MI) (J : MJ) : Ct G l0 A yX10_sumOfBetter cX10_sumOfBetter 5 (some .long) { frames := 1, cells := 0, slots := 0, locals := 23 } [.ref (b + 0), .ref (b + 79)] (Rg G b Lc (Rc b bk dr it) I J) (il0 (Rg G b Lc (Rc b bk dr it) I J)) (f_X10_sumOfBetter bk I J) := by
  refine Ct.of rfl (Nat.le_of_ble_eq_true rfl) ?_
  intro X hok
  replace hok : Ok G l0 X RX10 cX10_sumOfBetter 5 { frames := 1, cells := 0, slots := 0, locals := 23 } (some .long) := hok
  delta f_X10_sumOfBetter
  show T X A (Zm X A (il0 (Rg G b Lc (Rc b bk dr it) I J))) 5 0 0 0 [(0, .ref (b + 0)), (1, .ref (b + 79))] [] (Rg G b Lc (Rc b bk dr it) I J) _
  refine T_lconst (v := 0) hok rfl dX10_sumOfBetter_0 ?_
  refine T_lstore_n (lv' := [(2, .long (0 : Int64)), (0, .ref (b + 0)), (1, .ref (b + 79))]) hok rfl (by decide) rfl dX10_sumOfBetter_1 ?_
  refine T_iconst hok ic_0 dX10_sumOfBetter_2 ?_
  refine T_istore (lv' := [(4, .int (0 : Int32)), (2, .long (0 : Int64)), (0, .ref (b + 0)), (1, .ref (b + 79))]) hok (by decide) rfl dX10_sumOfBetter_3 ?_
  refine T_sub (lv' := [(0, .ref (b + 0)), (1, .ref (b + 79)), (2, .long (0 : Int64)), (4, .int (0 : Int32))]) [2, 3, 1, 0] rfl ?_
  refine T_fix2 _ (fun (x1 : Int64) (x2 : Int32) => [(0, .ref (b + 0)), (1, .ref (b + 79)), (2, .long x1), (4, .int x2)]) (fun (x1 : Int64) (x2 : Int32) => Rg G b Lc (Rc b bk dr it) I J) ?_ FU (0 : Int64) (0 : Int32)
  intro r5 hr5 x1 x2
  refine T_iload hok 3 rfl dX10_sumOfBetter_5 ?_
  refine T_aload_n hok 0 rfl rfl dX10_sumOfBetter_7 ?_
  refine T_getR hok fr_X10_18 lc_0 rc_0_2 dX10_sumOfBetter_8 ?_
  refine T_getI hok fr_X10_209 (bookAt_c (b := 0) (bk := 0) (dr := 0) (it := 0) hbk).o dX10_sumOfBetter_11 ?_
  refine T_icmp_ge (tgt := 61) hok dX10_sumOfBetter_14 rfl ?_ ?_
  · refine T_lload_n hok 2 rfl rfl dX10_sumOfBetter_61 ?_
    exact T_lret hok dX10_sumOfBetter_62 (Nat.zero_le _) (Nat.zero_le _) rfl
  refine T_lload_n hok 2 rfl rfl dX10_sumOfBetter_17 ?_
  refine T_aload_n hok 0 rfl rfl dX10_sumOfBetter_18 ?_
  refine T_getR hok fr_X10_18 lc_0 rc_0_2 dX10_sumOfBetter_19 ?_
  refine T_getR hok fr_X10_167 (bookAt_c (b := 0) (bk := 0) (dr := 0) (it := 0) hbk).o (bookAt_c hbk).r2 dX10_sumOfBetter_22 ?_
  refine T_iload hok 3 rfl dX10_sumOfBetter_25 ?_
  refine T_iald hok (bookAt_c (b := 0) (bk := 0) (dr := 0) (it := 0) hbk).l2 dX10_sumOfBetter_27 ?_
  refine T_i2l hok dX10_sumOfBetter_28 ?_
  refine T_aload_n hok 0 rfl rfl dX10_sumOfBetter_29 ?_
  refine T_getR hok fr_X10_18 lc_0 rc_0_2 dX10_sumOfBetter_30 ?_
  refine T_getR hok fr_X10_164 (bookAt_c (b := 0) (bk := 0) (dr := 0) (it := 0) hbk).o (bookAt_c hbk).r1 dX10_sumOfBetter_33 ?_
  refine T_iload hok 3 rfl dX10_sumOfBetter_36 ?_
  refine T_iald hok (bookAt_c (b := 0) (bk := 0) (dr := 0) (it := 0) hbk).l1 dX10_sumOfBetter_38 ?_
  refine T_i2l hok dX10_sumOfBetter_39 ?_
  refine T_aload_n hok 1 rfl rfl dX10_sumOfBetter_40 ?_
  refine T_getJ hok fr_X10_378 lc_79 dX10_sumOfBetter_41 ?_
  refine T_lmul hok dX10_sumOfBetter_44 ?_
  refine T_aload_n hok 1 rfl rfl dX10_sumOfBetter_45 ?_
  refine T_getJ hok fr_X10_382 lc_79 dX10_sumOfBetter_46 ?_
  refine T_mmaxl hok mm_mmaxl ml_X10_385 dX10_sumOfBetter_49 (Nat.le_of_ble_eq_true rfl) (Nat.le_of_ble_eq_true rfl) (Nat.zero_le _) (Nat.zero_le _) ?_
  refine T_lmul hok dX10_sumOfBetter_52 ?_
  refine T_ladd hok dX10_sumOfBetter_53 ?_
  refine T_ltl ?_
  intro x3
  refine T_lstore_n (lv' := [(2, .long x3), (0, .ref (b + 0)), (1, .ref (b + 79)), (4, .int x2)]) hok rfl (by decide) rfl dX10_sumOfBetter_54 ?_
  refine T_iinc (lvs := fun x4 => [(4, .int x4), (2, .long x3), (0, .ref (b + 0)), (1, .ref (b + 79))]) hok 3 rfl ic_1 (by decide) (fun _ => rfl) dX10_sumOfBetter_55 ?_
  intro x4
  refine T_goto (tgt := 5) hok dX10_sumOfBetter_58 rfl ?_
  refine T_sub (lv' := [(0, .ref (b + 0)), (1, .ref (b + 79)), (2, .long x3), (4, .int x4)]) [2, 3, 1, 0] rfl ?_
  exact hr5 x3 x4

set_option maxHeartbeats 4000000 in
set_option maxRecDepth 100000 in
theorem ct_X10_waits {G : Gx} {l0 : Launch} {A : Nat → Prop} {b bk dr it : Nat} (hA : ∀ k, k < Lc.length → A (b + k)) (hbk : isBk bk = true) (I : MI) (J : MJ) (a1 : Int32) (a2 : Int32) : Ct G l0 A yX10_waits cX10_waits 4 (some .long) { frames := 2, cells := 0, slots := 0, locals := 56 } [.ref (b + 0), .int a1, .int a2] (Rg G b Lc (Rc b bk dr it) I J) (il1 (fun (J' : MJ) => Rg G b Lc (Rc b bk dr it) I J')) (f_X10_waits bk I J a1 a2) := by
  refine Ct.of rfl (Nat.le_of_ble_eq_true rfl) ?_
  intro X hok
  replace hok : Ok G l0 X RX10 cX10_waits 4 { frames := 2, cells := 0, slots := 0, locals := 56 } (some .long) := hok
  delta f_X10_waits
  show T X A (Zm X A (il1 (fun (J' : MJ) => Rg G b Lc (Rc b bk dr it) I J'))) 4 0 0 0 [(0, .ref (b + 0)), (1, .int a1), (2, .int a2)] [] (Rg G b Lc (Rc b bk dr it) I J) _
  refine T_iload_n hok 1 rfl rfl dX10_waits_0 ?_
  refine T_iconst hok ic_0 dX10_waits_1 ?_
  refine T_bipush hok bp_6 dX10_waits_2 ?_
  refine T_cz0 (CR_S (rest := []) hok (ct_X10_isWithin a1 (0 : Int32) (6 : Int32)) mw_X10_isWithin mst_X10_isWithin ml_X10_173 dX10_waits_4 rfl rfl (roomOk rfl) rfl) rfl rfl ?_
  intro x1
  refine T_jp _ (fun (j19 : Option (Int64 × MJ)) => T X A (Zm X A (il1 (fun (J' : MJ) => Rg G b Lc (Rc b bk dr it) I J'))) 4 0 0 19 [] [] (Rg G b Lc (Rc b bk dr it) I J) (j19)) _ ?_ ?_
  · skip
    refine T_ldc2 hok lk_X10_369 dX10_waits_19 ?_
    exact T_lret hok dX10_waits_22 (Nat.zero_le _) (Nat.zero_le _) rfl
  intro j19 hj19
  refine T_ifb_eq (tgt := 19) hok dX10_waits_7 rfl ?_ ?_
  · refine T_iload_n hok 2 rfl rfl dX10_waits_10 ?_
    refine T_iconst hok ic_0 dX10_waits_11 ?_
    refine T_iconst hok ic_1 dX10_waits_12 ?_
    refine T_cz0 (CR_S (rest := []) hok (ct_X10_isWithin a2 (0 : Int32) (1 : Int32)) mw_X10_isWithin mst_X10_isWithin ml_X10_173 dX10_waits_13 rfl rfl (roomOk rfl) rfl) rfl rfl ?_
    intro x2
    refine T_ifb_ne (tgt := 23) hok dX10_waits_16 rfl ?_ ?_
    · refine T_aload_n hok 0 rfl rfl dX10_waits_23 ?_
      refine T_getR hok fr_X10_78 lc_0 rc_0_13 dX10_waits_24 ?_
      refine T_lconst (v := 0) hok rfl dX10_waits_27 ?_
      refine T_lconst (v := 1) hok rfl dX10_waits_28 ?_
      refine T_cv1 (CR_V (rest := []) hok (ct_X3_put hA I J (0 : Int64) (1 : Int64)) mw_X3_put mv_X3_put ml_X10_352 lc_79 dX10_waits_29 rfl rfl (roomOk rfl) rfl) rfl rfl ?_
      intro J3
      refine T_iconst hok ic_0 dX10_waits_32 ?_
      refine T_istore_n (lv' := [(3, .int (0 : Int32)), (0, .ref (b + 0)), (1, .int a1), (2, .int a2)]) hok rfl (by decide) rfl dX10_waits_33 ?_
      refine T_jp _ (fun (j86 : MJ → Option (Int64 × MJ)) => ∀ (J4 : MJ), T X A (Zm X A (il1 (fun (J' : MJ) => Rg G b Lc (Rc b bk dr it) I J'))) 4 0 0 86 [(0, .ref (b + 0)), (2, .int a2)] [] (Rg G b Lc (Rc b bk dr it) I J4) (j86 J4)) _ ?_ ?_
      · intro J4
        refine T_aload_n hok 0 rfl rfl dX10_waits_86 ?_
        refine T_getR hok fr_X10_78 lc_0 rc_0_13 dX10_waits_87 ?_
        refine T_iload_n hok 1 rfl rfl dX10_waits_90 ?_
        refine T_cl0 (CR_V (rest := []) hok (ct_X3_told hA I J4 a2) mw_X3_told mv_X3_told ml_X10_356 lc_79 dX10_waits_91 rfl rfl (roomOk rfl) rfl) rfl rfl ?_
        intro x5
        exact T_lret hok dX10_waits_94 (Nat.zero_le _) (Nat.zero_le _) rfl
      intro j86 hj86
      refine T_sub (lv' := [(0, .ref (b + 0)), (1, .int a1), (2, .int a2), (3, .int (0 : Int32))]) [1, 2, 3, 0] rfl ?_
      refine T_fix2 _ (fun (x6 : Int32) (J7 : MJ) => [(0, .ref (b + 0)), (1, .int a1), (2, .int a2), (3, .int x6)]) (fun (x6 : Int32) (J7 : MJ) => Rg G b Lc (Rc b bk dr it) I J7) ?_ FU (0 : Int32) J3
      intro r34 hr34 x6 J7
      refine T_iload_n hok 3 rfl rfl dX10_waits_34 ?_
      refine T_iload_n hok 1 rfl rfl dX10_waits_35 ?_
      refine T_icmp_ge (tgt := 86) hok dX10_waits_36 rfl ?_ ?_
      · refine T_sub (lv' := [(0, .ref (b + 0)), (2, .int a2)]) [0, 2] rfl ?_
        exact hj86 J7
      refine T_aload_n hok 0 rfl rfl dX10_waits_39 ?_
      refine T_getR hok fr_X10_18 lc_0 rc_0_2 dX10_waits_40 ?_
      refine T_getI hok fr_X10_371 (bookAt_c (b := 0) (bk := 0) (dr := 0) (it := 0) hbk).o dX10_waits_43 ?_
      refine T_if_le (tgt := 86) hok dX10_waits_46 rfl ?_ ?_
      · refine T_sub (lv' := [(0, .ref (b + 0)), (2, .int a2)]) [0, 2] rfl ?_
        exact hj86 J7
      refine T_aload_n hok 0 rfl rfl dX10_waits_49 ?_
      refine T_getR hok fr_X10_78 lc_0 rc_0_13 dX10_waits_50 ?_
      refine T_aload_n hok 0 rfl rfl dX10_waits_53 ?_
      refine T_aload_n hok 0 rfl rfl dX10_waits_54 ?_
      refine T_getR hok fr_X10_78 lc_0 rc_0_13 dX10_waits_55 ?_
      refine T_cl0 (CR_V (rest := [.ref (b + 79)]) hok (ct_X10_sumOfBetter hA hbk I J7) mw_X10_sumOfBetter mv_X10_sumOfBetter ml_X10_374 lc_0 dX10_waits_58 rfl rfl (roomOk rfl) rfl) rfl rfl ?_
      intro x8
      refine T_aload_n hok 0 rfl rfl dX10_waits_61 ?_
      refine T_getR hok fr_X10_78 lc_0 rc_0_13 dX10_waits_62 ?_
      refine T_getJ hok fr_X10_378 lc_79 dX10_waits_65 ?_
      refine T_aload_n hok 0 rfl rfl dX10_waits_68 ?_
      refine T_getR hok fr_X10_18 lc_0 rc_0_2 dX10_waits_69 ?_
      refine T_getI hok fr_X10_371 (bookAt_c (b := 0) (bk := 0) (dr := 0) (it := 0) hbk).o dX10_waits_72 ?_
      refine T_i2l hok dX10_waits_75 ?_
      refine T_lmul hok dX10_waits_76 ?_
      refine T_cv1 (CR_V (rest := []) hok (ct_X3_put hA I J7 x8 ((J7 79 1) * (Int32.toInt64 (I bk 17)))) mw_X3_put mv_X3_put ml_X10_352 lc_79 dX10_waits_77 rfl rfl (roomOk rfl) rfl) rfl rfl ?_
      intro J9
      refine T_iinc (lvs := fun x10 => [(3, .int x10), (0, .ref (b + 0)), (1, .int a1), (2, .int a2)]) hok 3 rfl ic_1 (by decide) (fun _ => rfl) dX10_waits_80 ?_
      intro x10
      refine T_goto (tgt := 34) hok dX10_waits_83 rfl ?_
      refine T_sub (lv' := [(0, .ref (b + 0)), (1, .int a1), (2, .int a2), (3, .int x10)]) [1, 2, 3, 0] rfl ?_
      exact hr34 x10 J9
    refine T_sub (lv' := []) [] rfl ?_
    exact hj19
  refine T_sub (lv' := []) [] rfl ?_
  exact hj19

set_option maxHeartbeats 4000000 in
set_option maxRecDepth 100000 in
theorem ct_X10_power {G : Gx} {l0 : Launch} {A : Nat → Prop} {Wd : Heap → Prop} (a1 : Int32) (a2 : Int32) : Ct G l0 A yX10_power cX10_power 5 (some .long) { frames := 0, cells := 0, slots := 0, locals := 0 } [.int a1, .int a2] (Wd) (il0 (Wd)) (f_X10_power a1 a2) := by
  refine Ct.of rfl (Nat.le_of_ble_eq_true rfl) ?_
  intro X hok
  replace hok : Ok G l0 X RX10 cX10_power 5 { frames := 0, cells := 0, slots := 0, locals := 0 } (some .long) := hok
  delta f_X10_power
  show T X A (Zm X A (il0 (Wd))) 5 0 0 0 [(0, .int a1), (1, .int a2)] [] (Wd) _
  refine T_lconst (v := 1) hok rfl dX10_power_0 ?_
  refine T_lstore_n (lv' := [(2, .long (1 : Int64)), (0, .int a1), (1, .int a2)]) hok rfl (by decide) rfl dX10_power_1 ?_
  refine T_iconst hok ic_0 dX10_power_2 ?_
  refine T_istore (lv' := [(4, .int (0 : Int32)), (2, .long (1 : Int64)), (0, .int a1), (1, .int a2)]) hok (by decide) rfl dX10_power_3 ?_
  refine T_sub (lv' := [(0, .int a1), (1, .int a2), (2, .long (1 : Int64)), (4, .int (0 : Int32))]) [2, 3, 1, 0] rfl ?_
  refine T_fix2 _ (fun (x1 : Int64) (x2 : Int32) => [(0, .int a1), (1, .int a2), (2, .long x1), (4, .int x2)]) (fun (x1 : Int64) (x2 : Int32) => Wd) ?_ FU (1 : Int64) (0 : Int32)
  intro r5 hr5 x1 x2
  refine T_iload hok 3 rfl dX10_power_5 ?_
  refine T_iload_n hok 1 rfl rfl dX10_power_7 ?_
  refine T_icmp_ge (tgt := 22) hok dX10_power_8 rfl ?_ ?_
  · refine T_lload_n hok 2 rfl rfl dX10_power_22 ?_
    exact T_lret hok dX10_power_23 (Nat.zero_le _) (Nat.zero_le _) rfl
  refine T_lload_n hok 2 rfl rfl dX10_power_11 ?_
  refine T_iload_n hok 0 rfl rfl dX10_power_12 ?_
  refine T_i2l hok dX10_power_13 ?_
  refine T_lmul hok dX10_power_14 ?_
  refine T_ltl ?_
  intro x3
  refine T_lstore_n (lv' := [(2, .long x3), (0, .int a1), (1, .int a2), (4, .int x2)]) hok rfl (by decide) rfl dX10_power_15 ?_
  refine T_iinc (lvs := fun x4 => [(4, .int x4), (2, .long x3), (0, .int a1), (1, .int a2)]) hok 3 rfl ic_1 (by decide) (fun _ => rfl) dX10_power_16 ?_
  intro x4
  refine T_goto (tgt := 5) hok dX10_power_19 rfl ?_
  refine T_sub (lv' := [(0, .int a1), (1, .int a2), (2, .long x3), (4, .int x4)]) [2, 3, 1, 0] rfl ?_
  exact hr5 x3 x4

set_option maxHeartbeats 4000000 in
set_option maxRecDepth 100000 in
theorem ct_X10_sumOfKinds {G : Gx} {l0 : Launch} {A : Nat → Prop} {b bk dr it : Nat} (hA : ∀ k, k < Lc.length → A (b + k)) (hbk : isBk bk = true) (I : MI) (J : MJ) (a1 : Int32) (a2 : Int32) (a3 : Int32) : Ct G l0 A yX10_sumOfKinds cX10_sumOfKinds 7 (some .int) { frames := 1, cells := 0, slots := 0, locals := 22 } [.ref (b + 0), .int a1, .int a2, .int a3] (Rg G b Lc (Rc b bk dr it) I J) (ii0 (Rg G b Lc (Rc b bk dr it) I J)) (f_X10_sumOfKinds bk I a1 a2 a3) := by
  refine Ct.of rfl (Nat.le_of_ble_eq_true rfl) ?_
  intro X hok
  replace hok : Ok G l0 X RX10 cX10_sumOfKinds 7 { frames := 1, cells := 0, slots := 0, locals := 22 } (some .int) := hok
  delta f_X10_sumOfKinds
  show T X A (Zm X A (ii0 (Rg G b Lc (Rc b bk dr it) I J))) 7 0 0 0 [(0, .ref (b + 0)), (1, .int a1), (2, .int a2), (3, .int a3)] [] (Rg G b Lc (Rc b bk dr it) I J) _
  refine T_iconst hok ic_0 dX10_sumOfKinds_0 ?_
  refine T_istore (lv' := [(4, .int (0 : Int32)), (0, .ref (b + 0)), (1, .int a1), (2, .int a2), (3, .int a3)]) hok (by decide) rfl dX10_sumOfKinds_1 ?_
  refine T_iload_n hok 2 rfl rfl dX10_sumOfKinds_3 ?_
  refine T_istore (lv' := [(5, .int a1), (4, .int (0 : Int32)), (0, .ref (b + 0)), (1, .int a1), (2, .int a2), (3, .int a3)]) hok (by decide) rfl dX10_sumOfKinds_4 ?_
  refine T_iconst hok ic_0 dX10_sumOfKinds_6 ?_
  refine T_istore (lv' := [(6, .int (0 : Int32)), (5, .int a1), (4, .int (0 : Int32)), (0, .ref (b + 0)), (1, .int a1), (2, .int a2), (3, .int a3)]) hok (by decide) rfl dX10_sumOfKinds_7 ?_
  refine T_jp _ (fun (j66 : Int32 → Option (Int32)) => ∀ (x1 : Int32), T X A (Zm X A (ii0 (Rg G b Lc (Rc b bk dr it) I J))) 7 0 0 66 [(4, .int x1)] [] (Rg G b Lc (Rc b bk dr it) I J) (j66 x1)) _ ?_ ?_
  · intro x1
    refine T_iload hok 0 rfl dX10_sumOfKinds_66 ?_
    exact T_iret hok dX10_sumOfKinds_68 (Nat.zero_le _) (Nat.zero_le _) rfl
  intro j66 hj66
  refine T_sub (lv' := [(0, .ref (b + 0)), (2, .int a2), (3, .int a3), (4, .int (0 : Int32)), (5, .int a1), (6, .int (0 : Int32))]) [3, 5, 6, 2, 1, 0] rfl ?_
  refine T_fix3 _ (fun (x2 : Int32) (x3 : Int32) (x4 : Int32) => [(0, .ref (b + 0)), (2, .int a2), (3, .int a3), (4, .int x2), (5, .int x3), (6, .int x4)]) (fun (x2 : Int32) (x3 : Int32) (x4 : Int32) => Rg G b Lc (Rc b bk dr it) I J) ?_ FU (0 : Int32) a1 (0 : Int32)
  intro r9 hr9 x2 x3 x4
  refine T_iload hok 5 rfl dX10_sumOfKinds_9 ?_
  refine T_iload_n hok 1 rfl rfl dX10_sumOfKinds_11 ?_
  refine T_icmp_ge (tgt := 66) hok dX10_sumOfKinds_12 rfl ?_ ?_
  · refine T_sub (lv' := [(4, .int x2)]) [3] rfl ?_
    exact hj66 x2
  refine T_aload_n hok 0 rfl rfl dX10_sumOfKinds_15 ?_
  refine T_getR hok fr_X10_18 lc_0 rc_0_2 dX10_sumOfKinds_16 ?_
  refine T_getI hok fr_X10_209 (bookAt_c (b := 0) (bk := 0) (dr := 0) (it := 0) hbk).o dX10_sumOfKinds_19 ?_
  refine T_if_le (tgt := 66) hok dX10_sumOfKinds_22 rfl ?_ ?_
  · refine T_sub (lv' := [(4, .int x2)]) [3] rfl ?_
    exact hj66 x2
  refine T_iload hok 3 rfl dX10_sumOfKinds_25 ?_
  refine T_aload_n hok 0 rfl rfl dX10_sumOfKinds_27 ?_
  refine T_getR hok fr_X10_18 lc_0 rc_0_2 dX10_sumOfKinds_28 ?_
  refine T_iload_n hok 2 rfl rfl dX10_sumOfKinds_31 ?_
  refine T_iload hok 4 rfl dX10_sumOfKinds_32 ?_
  refine T_aload_n hok 0 rfl rfl dX10_sumOfKinds_34 ?_
  refine T_getR hok fr_X10_18 lc_0 rc_0_2 dX10_sumOfKinds_35 ?_
  refine T_getI hok fr_X10_209 (bookAt_c (b := 0) (bk := 0) (dr := 0) (it := 0) hbk).o dX10_sumOfKinds_38 ?_
  refine T_irem hok dX10_sumOfKinds_41 ?_
  refine T_ci0 (CR_V (rest := [.int x2]) hok (ct_X0_alone hA (bookAt_c hbk) I J a3 (irem x3 (I bk 11))) mw_X0_alone mv_X0_alone ml_X10_360 (bookAt_c (b := 0) (bk := 0) (dr := 0) (it := 0) hbk).o dX10_sumOfKinds_42 rfl rfl (roomOk rfl) rfl) rfl rfl ?_
  intro x5
  refine T_iadd hok dX10_sumOfKinds_45 ?_
  refine T_lti ?_
  intro x6
  refine T_istore (lv' := [(4, .int x6), (0, .ref (b + 0)), (2, .int a2), (3, .int a3), (5, .int x3), (6, .int x4)]) hok (by decide) rfl dX10_sumOfKinds_46 ?_
  refine T_iload hok 4 rfl dX10_sumOfKinds_48 ?_
  refine T_aload_n hok 1 rfl rfl dX10_sumOfKinds_50 ?_
  refine T_getR hok fr_X10_18 lc_0 rc_0_2 dX10_sumOfKinds_51 ?_
  refine T_getI hok fr_X10_209 (bookAt_c (b := 0) (bk := 0) (dr := 0) (it := 0) hbk).o dX10_sumOfKinds_54 ?_
  refine T_idiv hok dX10_sumOfKinds_57 ?_
  refine T_lti ?_
  intro x7
  refine T_istore (lv' := [(5, .int x7), (4, .int x6), (0, .ref (b + 0)), (2, .int a2), (3, .int a3), (6, .int x4)]) hok (by decide) rfl dX10_sumOfKinds_58 ?_
  refine T_iinc (lvs := fun x8 => [(6, .int x8), (5, .int x7), (4, .int x6), (0, .ref (b + 0)), (2, .int a2), (3, .int a3)]) hok 5 rfl ic_1 (by decide) (fun _ => rfl) dX10_sumOfKinds_60 ?_
  intro x8
  refine T_goto (tgt := 9) hok dX10_sumOfKinds_63 rfl ?_
  refine T_sub (lv' := [(0, .ref (b + 0)), (2, .int a2), (3, .int a3), (4, .int x6), (5, .int x7), (6, .int x8)]) [3, 4, 5, 2, 1, 0] rfl ?_
  exact hr9 x6 x7 x8

set_option maxHeartbeats 4000000 in
set_option maxRecDepth 100000 in
theorem ct_X10_came {G : Gx} {l0 : Launch} {A : Nat → Prop} {b bk dr it : Nat} (hA : ∀ k, k < Lc.length → A (b + k)) (hbk : isBk bk = true) (I : MI) (J : MJ) (a1 : Int32) (a2 : Int32) (a3 : Int32) : Ct G l0 A yX10_came cX10_came 7 (some .int) { frames := 2, cells := 0, slots := 0, locals := 48 } [.ref (b + 0), .int a1, .int a2, .int a3] (Rg G b Lc (Rc b bk dr it) I J) (ii0 (Rg G b Lc (Rc b bk dr it) I J)) (f_X10_came bk I a1 a2 a3) := by
  refine Ct.of rfl (Nat.le_of_ble_eq_true rfl) ?_
  intro X hok
  replace hok : Ok G l0 X RX10 cX10_came 7 { frames := 2, cells := 0, slots := 0, locals := 48 } (some .int) := hok
  delta f_X10_came
  show T X A (Zm X A (ii0 (Rg G b Lc (Rc b bk dr it) I J))) 7 0 0 0 [(0, .ref (b + 0)), (1, .int a1), (2, .int a2), (3, .int a3)] [] (Rg G b Lc (Rc b bk dr it) I J) _
  refine T_aload_n hok 0 rfl rfl dX10_came_0 ?_
  refine T_iload_n hok 1 rfl rfl dX10_came_1 ?_
  refine T_cz0 (CR_V (rest := []) hok (ct_X10_isHouse hA hbk I J a1) mw_X10_isHouse mv_X10_isHouse ml_X10_122 lc_0 dX10_came_2 rfl rfl (roomOk rfl) rfl) rfl rfl ?_
  intro x1
  refine T_jp _ (fun (j28 : Option (Int32)) => T X A (Zm X A (ii0 (Rg G b Lc (Rc b bk dr it) I J))) 7 0 0 28 [] [] (Rg G b Lc (Rc b bk dr it) I J) (j28)) _ ?_ ?_
  · skip
    refine T_iconst hok ic_m1 dX10_came_28 ?_
    exact T_iret hok dX10_came_29 (Nat.zero_le _) (Nat.zero_le _) rfl
  intro j28 hj28
  refine T_ifb_eq (tgt := 28) hok dX10_came_5 rfl ?_ ?_
  · refine T_iload_n hok 2 rfl rfl dX10_came_8 ?_
    refine T_iconst hok ic_0 dX10_came_9 ?_
    refine T_iconst hok ic_5 dX10_came_10 ?_
    refine T_cz0 (CR_S (rest := []) hok (ct_X10_isWithin a2 (0 : Int32) (5 : Int32)) mw_X10_isWithin mst_X10_isWithin ml_X10_173 dX10_came_11 rfl rfl (roomOk rfl) rfl) rfl rfl ?_
    intro x2
    refine T_ifb_eq (tgt := 28) hok dX10_came_14 rfl ?_ ?_
    · refine T_iload_n hok 3 rfl rfl dX10_came_17 ?_
      refine T_iconst hok ic_0 dX10_came_18 ?_
      refine T_sipush hok sp_9999 dX10_came_19 ?_
      refine T_cz0 (CR_S (rest := []) hok (ct_X10_isWithin a3 (0 : Int32) (9999 : Int32)) mw_X10_isWithin mst_X10_isWithin ml_X10_173 dX10_came_22 rfl rfl (roomOk rfl) rfl) rfl rfl ?_
      intro x3
      refine T_ifb_ne (tgt := 30) hok dX10_came_25 rfl ?_ ?_
      · refine T_aload_n hok 0 rfl rfl dX10_came_30 ?_
        refine T_getR hok fr_X10_18 lc_0 rc_0_2 dX10_came_31 ?_
        refine T_getI hok fr_X10_209 (bookAt_c (b := 0) (bk := 0) (dr := 0) (it := 0) hbk).o dX10_came_34 ?_
        refine T_iload_n hok 2 rfl rfl dX10_came_37 ?_
        refine T_cl0 (CR_S (rest := []) hok (ct_X10_power (I bk 11) a2) mw_X10_power mst_X10_power ml_X10_388 dX10_came_38 rfl rfl (roomOk rfl) rfl) rfl rfl ?_
        intro x4
        refine T_l2i hok dX10_came_41 ?_
        refine T_lti ?_
        intro x5
        refine T_istore (lv' := [(4, .int x5), (0, .ref (b + 0)), (1, .int a1), (2, .int a2), (3, .int a3)]) hok (by decide) rfl dX10_came_42 ?_
        refine T_iconst hok ic_0 dX10_came_44 ?_
        refine T_istore (lv' := [(5, .int (0 : Int32)), (4, .int x5), (0, .ref (b + 0)), (1, .int a1), (2, .int a2), (3, .int a3)]) hok (by decide) rfl dX10_came_45 ?_
        refine T_iconst hok ic_0 dX10_came_47 ?_
        refine T_istore (lv' := [(6, .int (0 : Int32)), (5, .int (0 : Int32)), (4, .int x5), (0, .ref (b + 0)), (1, .int a1), (2, .int a2), (3, .int a3)]) hok (by decide) rfl dX10_came_48 ?_
        refine T_sub (lv' := [(0, .ref (b + 0)), (1, .int a1), (2, .int a2), (3, .int a3), (4, .int x5), (5, .int (0 : Int32)), (6, .int (0 : Int32))]) [3, 4, 5, 6, 2, 1, 0] rfl ?_
        refine T_fix2 _ (fun (x6 : Int32) (x7 : Int32) => [(0, .ref (b + 0)), (1, .int a1), (2, .int a2), (3, .int a3), (4, .int x5), (5, .int x6), (6, .int x7)]) (fun (x6 : Int32) (x7 : Int32) => Rg G b Lc (Rc b bk dr it) I J) ?_ FU (0 : Int32) (0 : Int32)
        intro r50 hr50 x6 x7
        refine T_iload hok 6 rfl dX10_came_50 ?_
        refine T_iload hok 4 rfl dX10_came_52 ?_
        refine T_icmp_ge (tgt := 78) hok dX10_came_54 rfl ?_ ?_
        · refine T_iload hok 5 rfl dX10_came_78 ?_
          exact T_iret hok dX10_came_80 (Nat.zero_le _) (Nat.zero_le _) rfl
        refine T_aload_n hok 0 rfl rfl dX10_came_57 ?_
        refine T_iload hok 6 rfl dX10_came_58 ?_
        refine T_iload_n hok 2 rfl rfl dX10_came_60 ?_
        refine T_iload_n hok 1 rfl rfl dX10_came_61 ?_
        refine T_ci0 (CR_V (rest := []) hok (ct_X10_sumOfKinds hA hbk I J x7 a2 a1) mw_X10_sumOfKinds mv_X10_sumOfKinds ml_X10_392 lc_0 dX10_came_62 rfl rfl (roomOk rfl) rfl) rfl rfl ?_
        intro x8
        refine T_iload_n hok 3 rfl rfl dX10_came_65 ?_
        refine T_jp _ (fun (j72 : Int32 → Option (Int32)) => ∀ (x9 : Int32), T X A (Zm X A (ii0 (Rg G b Lc (Rc b bk dr it) I J))) 7 0 0 72 [(0, .ref (b + 0)), (1, .int a1), (2, .int a2), (3, .int a3), (4, .int x5), (5, .int x9), (6, .int x7)] [] (Rg G b Lc (Rc b bk dr it) I J) (j72 x9)) _ ?_ ?_
        · intro x9
          refine T_iinc (lvs := fun x10 => [(6, .int x10), (0, .ref (b + 0)), (1, .int a1), (2, .int a2), (3, .int a3), (4, .int x5), (5, .int x9)]) hok 6 rfl ic_1 (by decide) (fun _ => rfl) dX10_came_72 ?_
          intro x10
          refine T_goto (tgt := 50) hok dX10_came_75 rfl ?_
          refine T_sub (lv' := [(0, .ref (b + 0)), (1, .int a1), (2, .int a2), (3, .int a3), (4, .int x5), (5, .int x9), (6, .int x10)]) [1, 2, 3, 4, 5, 6, 0] rfl ?_
          exact hr50 x9 x10
        intro j72 hj72
        refine T_icmp_ne (tgt := 72) hok dX10_came_66 rfl ?_ ?_
        · refine T_iinc (lvs := fun x11 => [(5, .int x11), (0, .ref (b + 0)), (1, .int a1), (2, .int a2), (3, .int a3), (4, .int x5), (6, .int x7)]) hok 5 rfl ic_1 (by decide) (fun _ => rfl) dX10_came_69 ?_
          intro x11
          refine T_sub (lv' := [(0, .ref (b + 0)), (1, .int a1), (2, .int a2), (3, .int a3), (4, .int x5), (5, .int x11), (6, .int x7)]) [1, 2, 3, 4, 5, 0, 6] rfl ?_
          exact hj72 x11
        exact hj72 x6
      refine T_sub (lv' := []) [] rfl ?_
      exact hj28
    refine T_sub (lv' := []) [] rfl ?_
    exact hj28
  refine T_sub (lv' := []) [] rfl ?_
  exact hj28

set_option maxHeartbeats 4000000 in
set_option maxRecDepth 100000 in
theorem ct_X10_likely {G : Gx} {l0 : Launch} {A : Nat → Prop} {b bk dr it : Nat} (hA : ∀ k, k < Lc.length → A (b + k)) (hbk : isBk bk = true) (I : MI) (J : MJ) (a1 : Int32) (a2 : Int32) (a3 : Int32) : Ct G l0 A yX10_likely cX10_likely 6 (some .long) { frames := 2, cells := 0, slots := 0, locals := 56 } [.ref (b + 0), .int a1, .int a2, .int a3] (Rg G b Lc (Rc b bk dr it) I J) (il1 (fun (J' : MJ) => Rg G b Lc (Rc b bk dr it) I J')) (f_X10_likely bk I J a1 a2 a3) := by
  refine Ct.of rfl (Nat.le_of_ble_eq_true rfl) ?_
  intro X hok
  replace hok : Ok G l0 X RX10 cX10_likely 6 { frames := 2, cells := 0, slots := 0, locals := 56 } (some .long) := hok
  delta f_X10_likely
  show T X A (Zm X A (il1 (fun (J' : MJ) => Rg G b Lc (Rc b bk dr it) I J'))) 6 0 0 0 [(0, .ref (b + 0)), (1, .int a1), (2, .int a2), (3, .int a3)] [] (Rg G b Lc (Rc b bk dr it) I J) _
  refine T_aload_n hok 0 rfl rfl dX10_likely_0 ?_
  refine T_iload_n hok 1 rfl rfl dX10_likely_1 ?_
  refine T_cz0 (CR_V (rest := []) hok (ct_X10_isKind hA hbk I J a1) mw_X10_isKind mv_X10_isKind ml_X10_161 lc_0 dX10_likely_2 rfl rfl (roomOk rfl) rfl) rfl rfl ?_
  intro x1
  refine T_jp _ (fun (j26 : Option (Int64 × MJ)) => T X A (Zm X A (il1 (fun (J' : MJ) => Rg G b Lc (Rc b bk dr it) I J'))) 6 0 0 26 [] [] (Rg G b Lc (Rc b bk dr it) I J) (j26)) _ ?_ ?_
  · skip
    refine T_ldc2 hok lk_X10_369 dX10_likely_26 ?_
    exact T_lret hok dX10_likely_29 (Nat.zero_le _) (Nat.zero_le _) rfl
  intro j26 hj26
  refine T_ifb_eq (tgt := 26) hok dX10_likely_5 rfl ?_ ?_
  · refine T_iload_n hok 2 rfl rfl dX10_likely_8 ?_
    refine T_iconst hok ic_0 dX10_likely_9 ?_
    refine T_iconst hok ic_5 dX10_likely_10 ?_
    refine T_cz0 (CR_S (rest := []) hok (ct_X10_isWithin a2 (0 : Int32) (5 : Int32)) mw_X10_isWithin mst_X10_isWithin ml_X10_173 dX10_likely_11 rfl rfl (roomOk rfl) rfl) rfl rfl ?_
    intro x2
    refine T_ifb_eq (tgt := 26) hok dX10_likely_14 rfl ?_ ?_
    · refine T_iload_n hok 3 rfl rfl dX10_likely_17 ?_
      refine T_iconst hok ic_0 dX10_likely_18 ?_
      refine T_iconst hok ic_1 dX10_likely_19 ?_
      refine T_cz0 (CR_S (rest := []) hok (ct_X10_isWithin a3 (0 : Int32) (1 : Int32)) mw_X10_isWithin mst_X10_isWithin ml_X10_173 dX10_likely_20 rfl rfl (roomOk rfl) rfl) rfl rfl ?_
      intro x3
      refine T_ifb_ne (tgt := 30) hok dX10_likely_23 rfl ?_ ?_
      · refine T_aload_n hok 0 rfl rfl dX10_likely_30 ?_
        refine T_getR hok fr_X10_18 lc_0 rc_0_2 dX10_likely_31 ?_
        refine T_getI hok fr_X10_371 (bookAt_c (b := 0) (bk := 0) (dr := 0) (it := 0) hbk).o dX10_likely_34 ?_
        refine T_jp _ (fun (j98 : MJ → Option (Int64 × MJ)) => ∀ (J4 : MJ), T X A (Zm X A (il1 (fun (J' : MJ) => Rg G b Lc (Rc b bk dr it) I J'))) 6 0 0 98 [(0, .ref (b + 0)), (3, .int a3)] [] (Rg G b Lc (Rc b bk dr it) I J4) (j98 J4)) _ ?_ ?_
        · intro J4
          refine T_aload_n hok 0 rfl rfl dX10_likely_98 ?_
          refine T_getR hok fr_X10_78 lc_0 rc_0_13 dX10_likely_99 ?_
          refine T_iload_n hok 1 rfl rfl dX10_likely_102 ?_
          refine T_cl0 (CR_V (rest := []) hok (ct_X3_told hA I J4 a3) mw_X3_told mv_X3_told ml_X10_356 lc_79 dX10_likely_103 rfl rfl (roomOk rfl) rfl) rfl rfl ?_
          intro x5
          exact T_lret hok dX10_likely_106 (Nat.zero_le _) (Nat.zero_le _) rfl
        intro j98 hj98
        refine T_if_ne (tgt := 52) hok dX10_likely_37 rfl ?_ ?_
        · refine T_aload_n hok 0 rfl rfl dX10_likely_40 ?_
          refine T_getR hok fr_X10_78 lc_0 rc_0_13 dX10_likely_41 ?_
          refine T_lconst (v := 0) hok rfl dX10_likely_44 ?_
          refine T_lconst (v := 1) hok rfl dX10_likely_45 ?_
          refine T_cv1 (CR_V (rest := []) hok (ct_X3_put hA I J (0 : Int64) (1 : Int64)) mw_X3_put mv_X3_put ml_X10_352 lc_79 dX10_likely_46 rfl rfl (roomOk rfl) rfl) rfl rfl ?_
          intro J6
          refine T_goto (tgt := 98) hok dX10_likely_49 rfl ?_
          refine T_sub (lv' := [(0, .ref (b + 0)), (3, .int a3)]) [0, 3] rfl ?_
          exact hj98 J6
        refine T_aload_n hok 0 rfl rfl dX10_likely_52 ?_
        refine T_getR hok fr_X10_18 lc_0 rc_0_2 dX10_likely_53 ?_
        refine T_getI hok fr_X10_371 (bookAt_c (b := 0) (bk := 0) (dr := 0) (it := 0) hbk).o dX10_likely_56 ?_
        refine T_iload_n hok 2 rfl rfl dX10_likely_59 ?_
        refine T_cl0 (CR_S (rest := []) hok (ct_X10_power (I bk 17) a2) mw_X10_power mst_X10_power ml_X10_388 dX10_likely_60 rfl rfl (roomOk rfl) rfl) rfl rfl ?_
        intro x7
        refine T_lstore (lv' := [(4, .long x7), (0, .ref (b + 0)), (1, .int a1), (2, .int a2), (3, .int a3)]) hok (by decide) rfl dX10_likely_63 ?_
        refine T_aload_n hok 1 rfl rfl dX10_likely_65 ?_
        refine T_getR hok fr_X10_78 lc_0 rc_0_13 dX10_likely_66 ?_
        refine T_lload hok 0 rfl dX10_likely_69 ?_
        refine T_aload_n hok 1 rfl rfl dX10_likely_71 ?_
        refine T_getR hok fr_X10_18 lc_0 rc_0_2 dX10_likely_72 ?_
        refine T_getI hok fr_X10_371 (bookAt_c (b := 0) (bk := 0) (dr := 0) (it := 0) hbk).o dX10_likely_75 ?_
        refine T_aload_n hok 1 rfl rfl dX10_likely_78 ?_
        refine T_getR hok fr_X10_18 lc_0 rc_0_2 dX10_likely_79 ?_
        refine T_getR hok fr_X10_167 (bookAt_c (b := 0) (bk := 0) (dr := 0) (it := 0) hbk).o (bookAt_c hbk).r2 dX10_likely_82 ?_
        refine T_iload_n hok 2 rfl rfl dX10_likely_85 ?_
        refine T_iald hok (bookAt_c (b := 0) (bk := 0) (dr := 0) (it := 0) hbk).l2 dX10_likely_86 ?_
        refine T_isub hok dX10_likely_87 ?_
        refine T_iload_n hok 3 rfl rfl dX10_likely_88 ?_
        refine T_cl0 (CR_S (rest := [.long x7, .ref (b + 79)]) hok (ct_X10_power ((I bk 17) - (I (bk + 3) (ix a1))) a2) mw_X10_power mst_X10_power ml_X10_388 dX10_likely_89 rfl rfl (roomOk rfl) rfl) rfl rfl ?_
        intro x8
        refine T_lsub hok dX10_likely_92 ?_
        refine T_lload hok 0 rfl dX10_likely_93 ?_
        refine T_cv1 (CR_V (rest := []) hok (ct_X3_put hA I J (x7 - x8) x7) mw_X3_put mv_X3_put ml_X10_352 lc_79 dX10_likely_95 rfl rfl (roomOk rfl) rfl) rfl rfl ?_
        intro J9
        refine T_sub (lv' := [(0, .ref (b + 0)), (3, .int a3)]) [1, 4] rfl ?_
        exact hj98 J9
      refine T_sub (lv' := []) [] rfl ?_
      exact hj26
    refine T_sub (lv' := []) [] rfl ?_
    exact hj26
  refine T_sub (lv' := []) [] rfl ?_
  exact hj26

set_option maxHeartbeats 4000000 in
set_option maxRecDepth 100000 in
theorem ct_X10_isView {G : Gx} {l0 : Launch} {A : Nat → Prop} {b bk dr it : Nat} (hA : ∀ k, k < Lc.length → A (b + k)) (hbk : isBk bk = true) (I : MI) (J : MJ) (a1 : Int32) (a2 : Int32) (a3 : Int32) : Ct G l0 A yX10_isView cX10_isView 4 (some .boolean) { frames := 2, cells := 0, slots := 0, locals := 43 } [.ref (b + 0), .int a1, .int a2, .int a3] (Rg G b Lc (Rc b bk dr it) I J) (iz0 (Rg G b Lc (Rc b bk dr it) I J)) (f_X10_isView bk I a1 a2 a3) := by
  refine Ct.of rfl (Nat.le_of_ble_eq_true rfl) ?_
  intro X hok
  replace hok : Ok G l0 X RX10 cX10_isView 4 { frames := 2, cells := 0, slots := 0, locals := 43 } (some .boolean) := hok
  delta f_X10_isView
  show T X A (Zm X A (iz0 (Rg G b Lc (Rc b bk dr it) I J))) 4 0 0 0 [(0, .ref (b + 0)), (1, .int a1), (2, .int a2), (3, .int a3)] [] (Rg G b Lc (Rc b bk dr it) I J) _
  refine T_aload_n hok 0 rfl rfl dX10_isView_0 ?_
  refine T_iload_n hok 1 rfl rfl dX10_isView_1 ?_
  refine T_cz0 (CR_V (rest := []) hok (ct_X10_isHouse hA hbk I J a1) mw_X10_isHouse mv_X10_isHouse ml_X10_122 lc_0 dX10_isView_2 rfl rfl (roomOk rfl) rfl) rfl rfl ?_
  intro x1
  refine T_jp _ (fun (j34 : Bool → Option (Bool)) => ∀ (x2 : Bool), T X A (Zm X A (iz0 (Rg G b Lc (Rc b bk dr it) I J))) 4 0 0 34 [] [.int (bi x2)] (Rg G b Lc (Rc b bk dr it) I J) (j34 x2)) _ ?_ ?_
  · intro x2
    exact T_zret hok dX10_isView_34 (Nat.zero_le _) (Nat.zero_le _) (bi_01 _) rfl
  intro j34 hj34
  refine T_jp _ (fun (j33 : Option (Bool)) => T X A (Zm X A (iz0 (Rg G b Lc (Rc b bk dr it) I J))) 4 0 0 33 [] [] (Rg G b Lc (Rc b bk dr it) I J) (j33)) _ ?_ ?_
  · skip
    refine T_iconst hok ic_0 dX10_isView_33 ?_
    exact hj34 false
  intro j33 hj33
  refine T_ifb_eq (tgt := 33) hok dX10_isView_5 rfl ?_ ?_
  · refine T_aload_n hok 0 rfl rfl dX10_isView_8 ?_
    refine T_iload_n hok 2 rfl rfl dX10_isView_9 ?_
    refine T_cz0 (CR_V (rest := []) hok (ct_X10_isHouse hA hbk I J a2) mw_X10_isHouse mv_X10_isHouse ml_X10_122 lc_0 dX10_isView_10 rfl rfl (roomOk rfl) rfl) rfl rfl ?_
    intro x3
    refine T_ifb_eq (tgt := 33) hok dX10_isView_13 rfl ?_ ?_
    · refine T_iload_n hok 1 rfl rfl dX10_isView_16 ?_
      refine T_iload_n hok 2 rfl rfl dX10_isView_17 ?_
      refine T_icmp_eq (tgt := 33) hok dX10_isView_18 rfl ?_ ?_
      · refine T_sub (lv' := []) [] rfl ?_
        exact hj33
      refine T_aload_n hok 0 rfl rfl dX10_isView_21 ?_
      refine T_iload_n hok 3 rfl rfl dX10_isView_22 ?_
      refine T_cz0 (CR_V (rest := []) hok (ct_X10_isKind hA hbk I J a3) mw_X10_isKind mv_X10_isKind ml_X10_161 lc_0 dX10_isView_23 rfl rfl (roomOk rfl) rfl) rfl rfl ?_
      intro x4
      refine T_ifb_eq (tgt := 33) hok dX10_isView_26 rfl ?_ ?_
      · refine T_iconst hok ic_1 dX10_isView_29 ?_
        refine T_goto (tgt := 34) hok dX10_isView_30 rfl ?_
        refine T_sub (lv' := []) [] rfl ?_
        exact hj34 true
      refine T_sub (lv' := []) [] rfl ?_
      exact hj33
    refine T_sub (lv' := []) [] rfl ?_
    exact hj33
  refine T_sub (lv' := []) [] rfl ?_
  exact hj33

set_option maxHeartbeats 4000000 in
set_option maxRecDepth 100000 in
theorem ct_X10_gain {G : Gx} {l0 : Launch} {A : Nat → Prop} {b bk dr it : Nat} (hA : ∀ k, k < Lc.length → A (b + k)) (hbk : isBk bk = true) (I : MI) (J : MJ) (a1 : Int32) (a2 : Int32) (a3 : Int32) (a4 : Int32) : Ct G l0 A yX10_gain cX10_gain 7 (some .int) { frames := 0, cells := 0, slots := 0, locals := 0 } [.ref (b + 0), .int a1, .int a2, .int a3, .int a4] (Rg G b Lc (Rc b bk dr it) I J) (ii0 (Rg G b Lc (Rc b bk dr it) I J)) (f_X10_gain bk I a1 a2 a3 a4) := by
  refine Ct.of rfl (Nat.le_of_ble_eq_true rfl) ?_
  intro X hok
  replace hok : Ok G l0 X RX10 cX10_gain 7 { frames := 0, cells := 0, slots := 0, locals := 0 } (some .int) := hok
  delta f_X10_gain
  show T X A (Zm X A (ii0 (Rg G b Lc (Rc b bk dr it) I J))) 7 0 0 0 [(0, .ref (b + 0)), (1, .int a1), (2, .int a2), (3, .int a3), (4, .int a4)] [] (Rg G b Lc (Rc b bk dr it) I J) _
  refine T_aload_n hok 0 rfl rfl dX10_gain_0 ?_
  refine T_getR hok fr_X10_18 lc_0 rc_0_2 dX10_gain_1 ?_
  refine T_getR hok fr_X10_143 (bookAt_c (b := 0) (bk := 0) (dr := 0) (it := 0) hbk).o (bookAt_c hbk).r5 dX10_gain_4 ?_
  refine T_iload_n hok 1 rfl rfl dX10_gain_7 ?_
  refine T_iald hok (bookAt_c (b := 0) (bk := 0) (dr := 0) (it := 0) hbk).l5 dX10_gain_8 ?_
  refine T_lti ?_
  intro x1
  refine T_istore (lv' := [(5, .int x1), (0, .ref (b + 0)), (1, .int a1), (2, .int a2), (3, .int a3), (4, .int a4)]) hok (by decide) rfl dX10_gain_9 ?_
  refine T_aload_n hok 1 rfl rfl dX10_gain_11 ?_
  refine T_getR hok fr_X10_18 lc_0 rc_0_2 dX10_gain_12 ?_
  refine T_getR hok fr_X10_164 (bookAt_c (b := 0) (bk := 0) (dr := 0) (it := 0) hbk).o (bookAt_c hbk).r1 dX10_gain_15 ?_
  refine T_iload_n hok 3 rfl rfl dX10_gain_18 ?_
  refine T_iald hok (bookAt_c (b := 0) (bk := 0) (dr := 0) (it := 0) hbk).l1 dX10_gain_19 ?_
  refine T_lti ?_
  intro x2
  refine T_istore (lv' := [(6, .int x2), (5, .int x1), (0, .ref (b + 0)), (1, .int a1), (2, .int a2), (3, .int a3), (4, .int a4)]) hok (by decide) rfl dX10_gain_20 ?_
  refine T_iload_n hok 5 rfl rfl dX10_gain_22 ?_
  refine T_if_ne (tgt := 54) hok dX10_gain_23 rfl ?_ ?_
  · refine T_iload hok 6 rfl dX10_gain_26 ?_
    refine T_jp _ (fun (j53 : Int32 → Option (Int32)) => ∀ (x3 : Int32), T X A (Zm X A (ii0 (Rg G b Lc (Rc b bk dr it) I J))) 7 0 0 53 [] [.int x3] (Rg G b Lc (Rc b bk dr it) I J) (j53 x3)) _ ?_ ?_
    · intro x3
      exact T_iret hok dX10_gain_53 (Nat.zero_le _) (Nat.zero_le _) rfl
    intro j53 hj53
    refine T_if_ne (tgt := 44) hok dX10_gain_28 rfl ?_ ?_
    · refine T_iload hok 1 rfl dX10_gain_31 ?_
      refine T_iload hok 0 rfl dX10_gain_33 ?_
      refine T_bipush hok bp_10 dX10_gain_35 ?_
      refine T_idiv hok dX10_gain_37 ?_
      refine T_iadd hok dX10_gain_38 ?_
      refine T_iconst hok ic_2 dX10_gain_39 ?_
      refine T_isub hok dX10_gain_40 ?_
      refine T_goto (tgt := 53) hok dX10_gain_41 rfl ?_
      refine T_sub (lv' := []) [] rfl ?_
      exact hj53 ((x1 + (x2 / (10 : Int32))) - (2 : Int32))
    refine T_iload hok 1 rfl dX10_gain_44 ?_
    refine T_iload hok 0 rfl dX10_gain_46 ?_
    refine T_iconst hok ic_5 dX10_gain_48 ?_
    refine T_idiv hok dX10_gain_49 ?_
    refine T_iadd hok dX10_gain_50 ?_
    refine T_iconst hok ic_3 dX10_gain_51 ?_
    refine T_isub hok dX10_gain_52 ?_
    refine T_sub (lv' := []) [] rfl ?_
    exact hj53 ((x1 + (x2 / (5 : Int32))) - (3 : Int32))
  refine T_iload hok 6 rfl dX10_gain_54 ?_
  refine T_jp _ (fun (j67 : Int32 → Option (Int32)) => ∀ (x4 : Int32), T X A (Zm X A (ii0 (Rg G b Lc (Rc b bk dr it) I J))) 7 0 0 67 [] [.int x4] (Rg G b Lc (Rc b bk dr it) I J) (j67 x4)) _ ?_ ?_
  · intro x4
    exact T_iret hok dX10_gain_67 (Nat.zero_le _) (Nat.zero_le _) rfl
  intro j67 hj67
  refine T_if_ne (tgt := 63) hok dX10_gain_56 rfl ?_ ?_
  · refine T_iconst hok ic_1 dX10_gain_59 ?_
    refine T_goto (tgt := 67) hok dX10_gain_60 rfl ?_
    refine T_sub (lv' := []) [] rfl ?_
    exact hj67 (1 : Int32)
  refine T_iload hok 1 rfl dX10_gain_63 ?_
  refine T_iconst hok ic_2 dX10_gain_65 ?_
  refine T_idiv hok dX10_gain_66 ?_
  refine T_sub (lv' := []) [] rfl ?_
  exact hj67 (x1 / (2 : Int32))

set_option maxHeartbeats 4000000 in
set_option maxRecDepth 100000 in
theorem ct_X10_isRest {G : Gx} {l0 : Launch} {A : Nat → Prop} {b bk dr it : Nat} (hA : ∀ k, k < Lc.length → A (b + k)) (hbk : isBk bk = true) (I : MI) (J : MJ) (a1 : Int32) (a2 : Int32) (a3 : Int32) (a4 : Int32) : Ct G l0 A yX10_isRest cX10_isRest 7 (some .boolean) { frames := 1, cells := 0, slots := 0, locals := 26 } [.ref (b + 0), .int a1, .int a2, .int a3, .int a4] (Rg G b Lc (Rc b bk dr it) I J) (iz0 (Rg G b Lc (Rc b bk dr it) I J)) (f_X10_isRest bk I a1 a2 a3 a4) := by
  refine Ct.of rfl (Nat.le_of_ble_eq_true rfl) ?_
  intro X hok
  replace hok : Ok G l0 X RX10 cX10_isRest 7 { frames := 1, cells := 0, slots := 0, locals := 26 } (some .boolean) := hok
  delta f_X10_isRest
  show T X A (Zm X A (iz0 (Rg G b Lc (Rc b bk dr it) I J))) 7 0 0 0 [(0, .ref (b + 0)), (1, .int a1), (2, .int a2), (3, .int a3), (4, .int a4)] [] (Rg G b Lc (Rc b bk dr it) I J) _
  refine T_iload hok 4 rfl dX10_isRest_0 ?_
  refine T_iconst hok ic_1 dX10_isRest_2 ?_
  refine T_ishr hok dX10_isRest_3 ?_
  refine T_lti ?_
  intro x1
  refine T_istore (lv' := [(5, .int x1), (0, .ref (b + 0)), (1, .int a1), (2, .int a2), (3, .int a3), (4, .int a4)]) hok (by decide) rfl dX10_isRest_4 ?_
  refine T_iload hok 5 rfl dX10_isRest_6 ?_
  refine T_iconst hok ic_1 dX10_isRest_8 ?_
  refine T_iand hok dX10_isRest_9 ?_
  refine T_lti ?_
  intro x2
  refine T_istore (lv' := [(6, .int x2), (5, .int x1), (0, .ref (b + 0)), (1, .int a1), (2, .int a2), (3, .int a3), (4, .int a4)]) hok (by decide) rfl dX10_isRest_10 ?_
  refine T_aload_n hok 2 rfl rfl dX10_isRest_12 ?_
  refine T_iload_n hok 3 rfl rfl dX10_isRest_13 ?_
  refine T_iload_n hok 5 rfl rfl dX10_isRest_14 ?_
  refine T_iload hok 1 rfl dX10_isRest_15 ?_
  refine T_iload hok 0 rfl dX10_isRest_17 ?_
  refine T_ci0 (CR_V (rest := []) hok (ct_X10_gain hA hbk I J a1 a3 x1 x2) mw_X10_gain mv_X10_gain ml_X10_402 lc_0 dX10_isRest_19 rfl rfl (roomOk rfl) rfl) rfl rfl ?_
  intro x3
  refine T_aload_n hok 2 rfl rfl dX10_isRest_22 ?_
  refine T_iload_n hok 3 rfl rfl dX10_isRest_23 ?_
  refine T_iload_n hok 5 rfl rfl dX10_isRest_24 ?_
  refine T_iconst hok ic_1 dX10_isRest_25 ?_
  refine T_iload hok 1 rfl dX10_isRest_26 ?_
  refine T_isub hok dX10_isRest_28 ?_
  refine T_iload hok 0 rfl dX10_isRest_29 ?_
  refine T_ci0 (CR_V (rest := [.int x3]) hok (ct_X10_gain hA hbk I J a1 a3 ((1 : Int32) - x1) x2) mw_X10_gain mv_X10_gain ml_X10_402 lc_0 dX10_isRest_31 rfl rfl (roomOk rfl) rfl) rfl rfl ?_
  intro x4
  refine T_jp _ (fun (j67 : Bool → Option (Bool)) => ∀ (x5 : Bool), T X A (Zm X A (iz0 (Rg G b Lc (Rc b bk dr it) I J))) 7 0 0 67 [] [.int (bi x5)] (Rg G b Lc (Rc b bk dr it) I J) (j67 x5)) _ ?_ ?_
  · intro x5
    exact T_zret hok dX10_isRest_67 (Nat.zero_le _) (Nat.zero_le _) (bi_01 _) rfl
  intro j67 hj67
  refine T_jp _ (fun (j66 : Option (Bool)) => T X A (Zm X A (iz0 (Rg G b Lc (Rc b bk dr it) I J))) 7 0 0 66 [] [] (Rg G b Lc (Rc b bk dr it) I J) (j66)) _ ?_ ?_
  · skip
    refine T_iconst hok ic_0 dX10_isRest_66 ?_
    exact hj67 false
  intro j66 hj66
  refine T_icmp_lt (tgt := 66) hok dX10_isRest_34 rfl ?_ ?_
  · refine T_sub (lv' := []) [] rfl ?_
    exact hj66
  refine T_aload_n hok 2 rfl rfl dX10_isRest_37 ?_
  refine T_iload_n hok 4 rfl rfl dX10_isRest_38 ?_
  refine T_iload_n hok 5 rfl rfl dX10_isRest_39 ?_
  refine T_iload hok 0 rfl dX10_isRest_40 ?_
  refine T_iload hok 1 rfl dX10_isRest_42 ?_
  refine T_ci0 (CR_V (rest := []) hok (ct_X10_gain hA hbk I J a2 a3 x2 x1) mw_X10_gain mv_X10_gain ml_X10_402 lc_0 dX10_isRest_44 rfl rfl (roomOk rfl) rfl) rfl rfl ?_
  intro x6
  refine T_aload_n hok 2 rfl rfl dX10_isRest_47 ?_
  refine T_iload_n hok 4 rfl rfl dX10_isRest_48 ?_
  refine T_iload_n hok 5 rfl rfl dX10_isRest_49 ?_
  refine T_iconst hok ic_1 dX10_isRest_50 ?_
  refine T_iload hok 0 rfl dX10_isRest_51 ?_
  refine T_isub hok dX10_isRest_53 ?_
  refine T_iload hok 1 rfl dX10_isRest_54 ?_
  refine T_ci0 (CR_V (rest := [.int x6]) hok (ct_X10_gain hA hbk I J a2 a3 ((1 : Int32) - x2) x1) mw_X10_gain mv_X10_gain ml_X10_402 lc_0 dX10_isRest_56 rfl rfl (roomOk rfl) rfl) rfl rfl ?_
  intro x7
  refine T_icmp_lt (tgt := 66) hok dX10_isRest_59 rfl ?_ ?_
  · refine T_sub (lv' := []) [] rfl ?_
    exact hj66
  refine T_iconst hok ic_1 dX10_isRest_62 ?_
  refine T_goto (tgt := 67) hok dX10_isRest_63 rfl ?_
  refine T_sub (lv' := []) [] rfl ?_
  exact hj67 true

set_option maxHeartbeats 4000000 in
set_option maxRecDepth 100000 in
theorem ct_X10_rests {G : Gx} {l0 : Launch} {A : Nat → Prop} {b bk dr it : Nat} (hA : ∀ k, k < Lc.length → A (b + k)) (hbk : isBk bk = true) (I : MI) (J : MJ) (a1 : Int32) (a2 : Int32) (a3 : Int32) : Ct G l0 A yX10_rests cX10_rests 6 (some .int) { frames := 3, cells := 0, slots := 0, locals := 66 } [.ref (b + 0), .int a1, .int a2, .int a3] (Rg G b Lc (Rc b bk dr it) I J) (ii0 (Rg G b Lc (Rc b bk dr it) I J)) (f_X10_rests bk I a1 a2 a3) := by
  refine Ct.of rfl (Nat.le_of_ble_eq_true rfl) ?_
  intro X hok
  replace hok : Ok G l0 X RX10 cX10_rests 6 { frames := 3, cells := 0, slots := 0, locals := 66 } (some .int) := hok
  delta f_X10_rests
  show T X A (Zm X A (ii0 (Rg G b Lc (Rc b bk dr it) I J))) 6 0 0 0 [(0, .ref (b + 0)), (1, .int a1), (2, .int a2), (3, .int a3)] [] (Rg G b Lc (Rc b bk dr it) I J) _
  refine T_aload_n hok 0 rfl rfl dX10_rests_0 ?_
  refine T_iload_n hok 1 rfl rfl dX10_rests_1 ?_
  refine T_iload_n hok 2 rfl rfl dX10_rests_2 ?_
  refine T_iload_n hok 3 rfl rfl dX10_rests_3 ?_
  refine T_cz0 (CR_V (rest := []) hok (ct_X10_isView hA hbk I J a1 a2 a3) mw_X10_isView mv_X10_isView ml_X10_395 lc_0 dX10_rests_4 rfl rfl (roomOk rfl) rfl) rfl rfl ?_
  intro x1
  refine T_ifb_ne (tgt := 12) hok dX10_rests_7 rfl ?_ ?_
  · refine T_iconst hok ic_0 dX10_rests_12 ?_
    refine T_istore (lv' := [(4, .int (0 : Int32)), (0, .ref (b + 0)), (1, .int a1), (2, .int a2), (3, .int a3)]) hok (by decide) rfl dX10_rests_13 ?_
    refine T_iconst hok ic_0 dX10_rests_15 ?_
    refine T_istore (lv' := [(5, .int (0 : Int32)), (4, .int (0 : Int32)), (0, .ref (b + 0)), (1, .int a1), (2, .int a2), (3, .int a3)]) hok (by decide) rfl dX10_rests_16 ?_
    refine T_sub (lv' := [(0, .ref (b + 0)), (1, .int a1), (2, .int a2), (3, .int a3), (4, .int (0 : Int32)), (5, .int (0 : Int32))]) [2, 3, 4, 5, 1, 0] rfl ?_
    refine T_fix2 _ (fun (x2 : Int32) (x3 : Int32) => [(0, .ref (b + 0)), (1, .int a1), (2, .int a2), (3, .int a3), (4, .int x2), (5, .int x3)]) (fun (x2 : Int32) (x3 : Int32) => Rg G b Lc (Rc b bk dr it) I J) ?_ FU (0 : Int32) (0 : Int32)
    intro r18 hr18 x2 x3
    refine T_iload hok 5 rfl dX10_rests_18 ?_
    refine T_iconst hok ic_4 dX10_rests_20 ?_
    refine T_icmp_ge (tgt := 45) hok dX10_rests_21 rfl ?_ ?_
    · refine T_iload hok 4 rfl dX10_rests_45 ?_
      exact T_iret hok dX10_rests_47 (Nat.zero_le _) (Nat.zero_le _) rfl
    refine T_aload_n hok 0 rfl rfl dX10_rests_24 ?_
    refine T_iload_n hok 1 rfl rfl dX10_rests_25 ?_
    refine T_iload_n hok 2 rfl rfl dX10_rests_26 ?_
    refine T_iload_n hok 3 rfl rfl dX10_rests_27 ?_
    refine T_iload hok 5 rfl dX10_rests_28 ?_
    refine T_cz0 (CR_V (rest := []) hok (ct_X10_isRest hA hbk I J a1 a2 a3 x3) mw_X10_isRest mv_X10_isRest ml_X10_398 lc_0 dX10_rests_30 rfl rfl (roomOk rfl) rfl) rfl rfl ?_
    intro x4
    refine T_jp _ (fun (j39 : Int32 → Option (Int32)) => ∀ (x5 : Int32), T X A (Zm X A (ii0 (Rg G b Lc (Rc b bk dr it) I J))) 6 0 0 39 [(0, .ref (b + 0)), (1, .int a1), (2, .int a2), (3, .int a3), (4, .int x5), (5, .int x3)] [] (Rg G b Lc (Rc b bk dr it) I J) (j39 x5)) _ ?_ ?_
    · intro x5
      refine T_iinc (lvs := fun x6 => [(5, .int x6), (0, .ref (b + 0)), (1, .int a1), (2, .int a2), (3, .int a3), (4, .int x5)]) hok 5 rfl ic_1 (by decide) (fun _ => rfl) dX10_rests_39 ?_
      intro x6
      refine T_goto (tgt := 18) hok dX10_rests_42 rfl ?_
      refine T_sub (lv' := [(0, .ref (b + 0)), (1, .int a1), (2, .int a2), (3, .int a3), (4, .int x5), (5, .int x6)]) [1, 2, 3, 4, 5, 0] rfl ?_
      exact hr18 x5 x6
    intro j39 hj39
    refine T_ifb_eq (tgt := 39) hok dX10_rests_33 rfl ?_ ?_
    · refine T_iinc (lvs := fun x7 => [(4, .int x7), (0, .ref (b + 0)), (1, .int a1), (2, .int a2), (3, .int a3), (5, .int x3)]) hok 4 rfl ic_1 (by decide) (fun _ => rfl) dX10_rests_36 ?_
      intro x7
      refine T_sub (lv' := [(0, .ref (b + 0)), (1, .int a1), (2, .int a2), (3, .int a3), (4, .int x7), (5, .int x3)]) [1, 2, 3, 4, 0, 5] rfl ?_
      exact hj39 x7
    exact hj39 x2
  refine T_iconst hok ic_m1 dX10_rests_10 ?_
  exact T_iret hok dX10_rests_11 (Nat.zero_le _) (Nat.zero_le _) rfl

set_option maxHeartbeats 4000000 in
set_option maxRecDepth 100000 in
theorem ct_X10_rest {G : Gx} {l0 : Launch} {A : Nat → Prop} {b bk dr it : Nat} (hA : ∀ k, k < Lc.length → A (b + k)) (hbk : isBk bk = true) (I : MI) (J : MJ) (a1 : Int32) (a2 : Int32) (a3 : Int32) (a4 : Int32) : Ct G l0 A yX10_rest cX10_rest 7 (some .int) { frames := 3, cells := 0, slots := 0, locals := 66 } [.ref (b + 0), .int a1, .int a2, .int a3, .int a4] (Rg G b Lc (Rc b bk dr it) I J) (ii0 (Rg G b Lc (Rc b bk dr it) I J)) (f_X10_rest bk I a1 a2 a3 a4) := by
  refine Ct.of rfl (Nat.le_of_ble_eq_true rfl) ?_
  intro X hok
  replace hok : Ok G l0 X RX10 cX10_rest 7 { frames := 3, cells := 0, slots := 0, locals := 66 } (some .int) := hok
  delta f_X10_rest
  show T X A (Zm X A (ii0 (Rg G b Lc (Rc b bk dr it) I J))) 7 0 0 0 [(0, .ref (b + 0)), (1, .int a1), (2, .int a2), (3, .int a3), (4, .int a4)] [] (Rg G b Lc (Rc b bk dr it) I J) _
  refine T_aload_n hok 0 rfl rfl dX10_rest_0 ?_
  refine T_iload_n hok 1 rfl rfl dX10_rest_1 ?_
  refine T_iload_n hok 2 rfl rfl dX10_rest_2 ?_
  refine T_iload_n hok 3 rfl rfl dX10_rest_3 ?_
  refine T_cz0 (CR_V (rest := []) hok (ct_X10_isView hA hbk I J a1 a2 a3) mw_X10_isView mv_X10_isView ml_X10_395 lc_0 dX10_rest_4 rfl rfl (roomOk rfl) rfl) rfl rfl ?_
  intro x1
  refine T_jp _ (fun (j15 : Option (Int32)) => T X A (Zm X A (ii0 (Rg G b Lc (Rc b bk dr it) I J))) 7 0 0 15 [] [] (Rg G b Lc (Rc b bk dr it) I J) (j15)) _ ?_ ?_
  · skip
    refine T_iconst hok ic_m1 dX10_rest_15 ?_
    exact T_iret hok dX10_rest_16 (Nat.zero_le _) (Nat.zero_le _) rfl
  intro j15 hj15
  refine T_ifb_eq (tgt := 15) hok dX10_rest_7 rfl ?_ ?_
  · refine T_iload hok 4 rfl dX10_rest_10 ?_
    refine T_if_ge (tgt := 17) hok dX10_rest_12 rfl ?_ ?_
    · refine T_iconst hok ic_0 dX10_rest_17 ?_
      refine T_istore (lv' := [(5, .int (0 : Int32)), (0, .ref (b + 0)), (1, .int a1), (2, .int a2), (3, .int a3), (4, .int a4)]) hok (by decide) rfl dX10_rest_18 ?_
      refine T_iconst hok ic_0 dX10_rest_20 ?_
      refine T_istore (lv' := [(6, .int (0 : Int32)), (5, .int (0 : Int32)), (0, .ref (b + 0)), (1, .int a1), (2, .int a2), (3, .int a3), (4, .int a4)]) hok (by decide) rfl dX10_rest_21 ?_
      refine T_jp _ (fun (j48 : Int32 → Option (Int32)) => ∀ (x2 : Int32), T X A (Zm X A (ii0 (Rg G b Lc (Rc b bk dr it) I J))) 7 0 0 48 [(6, .int x2)] [] (Rg G b Lc (Rc b bk dr it) I J) (j48 x2)) _ ?_ ?_
      · intro x2
        refine T_bipush hok bp_10 dX10_rest_48 ?_
        refine T_iload hok 0 rfl dX10_rest_50 ?_
        refine T_iconst hok ic_1 dX10_rest_52 ?_
        refine T_ishr hok dX10_rest_53 ?_
        refine T_imul hok dX10_rest_54 ?_
        refine T_iload hok 0 rfl dX10_rest_55 ?_
        refine T_iconst hok ic_1 dX10_rest_57 ?_
        refine T_iand hok dX10_rest_58 ?_
        refine T_iadd hok dX10_rest_59 ?_
        exact T_iret hok dX10_rest_60 (Nat.zero_le _) (Nat.zero_le _) rfl
      intro j48 hj48
      refine T_sub (lv' := [(0, .ref (b + 0)), (1, .int a1), (2, .int a2), (3, .int a3), (4, .int a4), (5, .int (0 : Int32)), (6, .int (0 : Int32))]) [2, 3, 4, 5, 6, 1, 0] rfl ?_
      refine T_fix2 _ (fun (x3 : Int32) (x4 : Int32) => [(0, .ref (b + 0)), (1, .int a1), (2, .int a2), (3, .int a3), (4, .int a4), (5, .int x3), (6, .int x4)]) (fun (x3 : Int32) (x4 : Int32) => Rg G b Lc (Rc b bk dr it) I J) ?_ FU (0 : Int32) (0 : Int32)
      intro r23 hr23 x3 x4
      refine T_iload hok 6 rfl dX10_rest_23 ?_
      refine T_iconst hok ic_4 dX10_rest_25 ?_
      refine T_icmp_ge (tgt := 70) hok dX10_rest_26 rfl ?_ ?_
      · refine T_bipush hok bp_m2 dX10_rest_70 ?_
        exact T_iret hok dX10_rest_72 (Nat.zero_le _) (Nat.zero_le _) rfl
      refine T_aload_n hok 0 rfl rfl dX10_rest_29 ?_
      refine T_iload_n hok 1 rfl rfl dX10_rest_30 ?_
      refine T_iload_n hok 2 rfl rfl dX10_rest_31 ?_
      refine T_iload_n hok 3 rfl rfl dX10_rest_32 ?_
      refine T_iload hok 6 rfl dX10_rest_33 ?_
      refine T_cz0 (CR_V (rest := []) hok (ct_X10_isRest hA hbk I J a1 a2 a3 x4) mw_X10_isRest mv_X10_isRest ml_X10_398 lc_0 dX10_rest_35 rfl rfl (roomOk rfl) rfl) rfl rfl ?_
      intro x5
      refine T_jp _ (fun (j64 : Int32 → Option (Int32)) => ∀ (x6 : Int32), T X A (Zm X A (ii0 (Rg G b Lc (Rc b bk dr it) I J))) 7 0 0 64 [(0, .ref (b + 0)), (1, .int a1), (2, .int a2), (3, .int a3), (4, .int a4), (5, .int x6), (6, .int x4)] [] (Rg G b Lc (Rc b bk dr it) I J) (j64 x6)) _ ?_ ?_
      · intro x6
        refine T_iinc (lvs := fun x7 => [(6, .int x7), (0, .ref (b + 0)), (1, .int a1), (2, .int a2), (3, .int a3), (4, .int a4), (5, .int x6)]) hok 6 rfl ic_1 (by decide) (fun _ => rfl) dX10_rest_64 ?_
        intro x7
        refine T_goto (tgt := 23) hok dX10_rest_67 rfl ?_
        refine T_sub (lv' := [(0, .ref (b + 0)), (1, .int a1), (2, .int a2), (3, .int a3), (4, .int a4), (5, .int x6), (6, .int x7)]) [1, 2, 3, 4, 5, 6, 0] rfl ?_
        exact hr23 x6 x7
      intro j64 hj64
      refine T_ifb_eq (tgt := 64) hok dX10_rest_38 rfl ?_ ?_
      · refine T_iload hok 5 rfl dX10_rest_41 ?_
        refine T_iload hok 4 rfl dX10_rest_43 ?_
        refine T_icmp_ne (tgt := 61) hok dX10_rest_45 rfl ?_ ?_
        · refine T_sub (lv' := [(6, .int x4)]) [6] rfl ?_
          exact hj48 x4
        refine T_iinc (lvs := fun x8 => [(5, .int x8), (0, .ref (b + 0)), (1, .int a1), (2, .int a2), (3, .int a3), (4, .int a4), (6, .int x4)]) hok 5 rfl ic_1 (by decide) (fun _ => rfl) dX10_rest_61 ?_
        intro x8
        refine T_sub (lv' := [(0, .ref (b + 0)), (1, .int a1), (2, .int a2), (3, .int a3), (4, .int a4), (5, .int x8), (6, .int x4)]) [1, 2, 3, 4, 5, 0, 6] rfl ?_
        exact hj64 x8
      exact hj64 x3
    refine T_sub (lv' := []) [] rfl ?_
    exact hj15
  refine T_sub (lv' := []) [] rfl ?_
  exact hj15

set_option maxHeartbeats 4000000 in
set_option maxRecDepth 100000 in
theorem ct_X10_note {G : Gx} {l0 : Launch} {A : Nat → Prop} {b bk dr it : Nat} (hA : ∀ k, k < Lc.length → A (b + k)) (hbk : isBk bk = true) (I : MI) (J : MJ) (a1 : Int32) (a2 : Int32) (a3 : Int32) (a4 : Int32) : Ct G l0 A yX10_note cX10_note 5 (some .int) { frames := 2, cells := 0, slots := 0, locals := 43 } [.ref (b + 0), .int a1, .int a2, .int a3, .int a4] (Rg G b Lc (Rc b bk dr it) I J) (ii1 (fun (I' : MI) => Rg G b Lc (Rc b bk dr it) I' J)) (f_X10_note bk I a1 a2 a3 a4) := by
  refine Ct.of rfl (Nat.le_of_ble_eq_true rfl) ?_
  intro X hok
  replace hok : Ok G l0 X RX10 cX10_note 5 { frames := 2, cells := 0, slots := 0, locals := 43 } (some .int) := hok
  delta f_X10_note
  show T X A (Zm X A (ii1 (fun (I' : MI) => Rg G b Lc (Rc b bk dr it) I' J))) 5 0 0 0 [(0, .ref (b + 0)), (1, .int a1), (2, .int a2), (3, .int a3), (4, .int a4)] [] (Rg G b Lc (Rc b bk dr it) I J) _
  refine T_iload_n hok 1 rfl rfl dX10_note_0 ?_
  refine T_cz0 (CR_S (rest := []) hok (ct_X10_isToldDay a1) mw_X10_isToldDay mst_X10_isToldDay ml_X10_406 dX10_note_1 rfl rfl (roomOk rfl) rfl) rfl rfl ?_
  intro x1
  refine T_jp _ (fun (j26 : Option (Int32 × MI)) => T X A (Zm X A (ii1 (fun (I' : MI) => Rg G b Lc (Rc b bk dr it) I' J))) 5 0 0 26 [] [] (Rg G b Lc (Rc b bk dr it) I J) (j26)) _ ?_ ?_
  · skip
    refine T_iconst hok ic_m1 dX10_note_26 ?_
    exact T_iret hok dX10_note_27 (Nat.zero_le _) (Nat.zero_le _) rfl
  intro j26 hj26
  refine T_ifb_eq (tgt := 26) hok dX10_note_4 rfl ?_ ?_
  · refine T_aload_n hok 0 rfl rfl dX10_note_7 ?_
    refine T_iload_n hok 2 rfl rfl dX10_note_8 ?_
    refine T_cz0 (CR_V (rest := []) hok (ct_X10_isHouse hA hbk I J a2) mw_X10_isHouse mv_X10_isHouse ml_X10_122 lc_0 dX10_note_9 rfl rfl (roomOk rfl) rfl) rfl rfl ?_
    intro x2
    refine T_ifb_eq (tgt := 26) hok dX10_note_12 rfl ?_ ?_
    · refine T_iload_n hok 3 rfl rfl dX10_note_15 ?_
      refine T_iconst hok ic_0 dX10_note_16 ?_
      refine T_sipush hok sp_999 dX10_note_17 ?_
      refine T_cz0 (CR_S (rest := []) hok (ct_X10_isWithin a3 (0 : Int32) (999 : Int32)) mw_X10_isWithin mst_X10_isWithin ml_X10_173 dX10_note_20 rfl rfl (roomOk rfl) rfl) rfl rfl ?_
      intro x3
      refine T_ifb_ne (tgt := 28) hok dX10_note_23 rfl ?_ ?_
      · refine T_aload_n hok 0 rfl rfl dX10_note_28 ?_
        refine T_getR hok fr_X10_64 lc_0 rc_0_11 dX10_note_29 ?_
        refine T_iload_n hok 1 rfl rfl dX10_note_32 ?_
        refine T_iload_n hok 2 rfl rfl dX10_note_33 ?_
        refine T_iload_n hok 3 rfl rfl dX10_note_34 ?_
        refine T_iload hok 4 rfl dX10_note_35 ?_
        refine T_ci1 (CR_V (rest := []) hok (ct_X2_addNote hA I J a1 a2 a3 a4) mw_X2_addNote mv_X2_addNote ml_X10_409 lc_70 dX10_note_37 rfl rfl (roomOk rfl) rfl) rfl rfl ?_
        intro x4 I5
        exact T_iret hok dX10_note_40 (Nat.zero_le _) (Nat.zero_le _) rfl
      refine T_sub (lv' := []) [] rfl ?_
      exact hj26
    refine T_sub (lv' := []) [] rfl ?_
    exact hj26
  refine T_sub (lv' := []) [] rfl ?_
  exact hj26

set_option maxHeartbeats 4000000 in
set_option maxRecDepth 100000 in
theorem ct_X10_strike {G : Gx} {l0 : Launch} {A : Nat → Prop} {b bk dr it : Nat} (hA : ∀ k, k < Lc.length → A (b + k)) (I : MI) (J : MJ) (a1 : Int32) : Ct G l0 A yX10_strike cX10_strike 2 (some .int) { frames := 2, cells := 0, slots := 0, locals := 45 } [.ref (b + 0), .int a1] (Rg G b Lc (Rc b bk dr it) I J) (ii1 (fun (I' : MI) => Rg G b Lc (Rc b bk dr it) I' J)) (f_X10_strike I a1) := by
  refine Ct.of rfl (Nat.le_of_ble_eq_true rfl) ?_
  intro X hok
  replace hok : Ok G l0 X RX10 cX10_strike 2 { frames := 2, cells := 0, slots := 0, locals := 45 } (some .int) := hok
  delta f_X10_strike
  show T X A (Zm X A (ii1 (fun (I' : MI) => Rg G b Lc (Rc b bk dr it) I' J))) 2 0 0 0 [(0, .ref (b + 0)), (1, .int a1)] [] (Rg G b Lc (Rc b bk dr it) I J) _
  refine T_aload_n hok 0 rfl rfl dX10_strike_0 ?_
  refine T_getR hok fr_X10_64 lc_0 rc_0_11 dX10_strike_1 ?_
  refine T_iload_n hok 1 rfl rfl dX10_strike_4 ?_
  refine T_ci1 (CR_V (rest := []) hok (ct_X2_addStrike hA I J a1) mw_X2_addStrike mv_X2_addStrike ml_X10_413 lc_70 dX10_strike_5 rfl rfl (roomOk rfl) rfl) rfl rfl ?_
  intro x1 I2
  exact T_iret hok dX10_strike_8 (Nat.zero_le _) (Nat.zero_le _) rfl

set_option maxHeartbeats 4000000 in
set_option maxRecDepth 100000 in
theorem ct_X10_known {G : Gx} {l0 : Launch} {A : Nat → Prop} {b bk dr it : Nat} (hA : ∀ k, k < Lc.length → A (b + k)) (I : MI) (J : MJ) (a1 : Int32) : Ct G l0 A yX10_known cX10_known 2 (some .boolean) { frames := 1, cells := 0, slots := 0, locals := 22 } [.ref (b + 0), .int a1] (Rg G b Lc (Rc b bk dr it) I J) (iz1 (fun (I' : MI) => Rg G b Lc (Rc b bk dr it) I' J)) (f_X10_known I a1) := by
  refine Ct.of rfl (Nat.le_of_ble_eq_true rfl) ?_
  intro X hok
  replace hok : Ok G l0 X RX10 cX10_known 2 { frames := 1, cells := 0, slots := 0, locals := 22 } (some .boolean) := hok
  delta f_X10_known
  show T X A (Zm X A (iz1 (fun (I' : MI) => Rg G b Lc (Rc b bk dr it) I' J))) 2 0 0 0 [(0, .ref (b + 0)), (1, .int a1)] [] (Rg G b Lc (Rc b bk dr it) I J) _
  refine T_iload_n hok 1 rfl rfl dX10_known_0 ?_
  refine T_iconst hok ic_m1 dX10_known_1 ?_
  refine T_aload_n hok 0 rfl rfl dX10_known_2 ?_
  refine T_getR hok fr_X10_64 lc_0 rc_0_11 dX10_known_3 ?_
  refine T_getI hok fr_X10_254 lc_70 dX10_known_6 ?_
  refine T_cz0 (CR_S (rest := []) hok (ct_X10_isWithin a1 (-1 : Int32) (I 70 5)) mw_X10_isWithin mst_X10_isWithin ml_X10_173 dX10_known_9 rfl rfl (roomOk rfl) rfl) rfl rfl ?_
  intro x1
  refine T_ifb_ne (tgt := 17) hok dX10_known_12 rfl ?_ ?_
  · refine T_aload_n hok 0 rfl rfl dX10_known_17 ?_
    refine T_getR hok fr_X10_64 lc_0 rc_0_11 dX10_known_18 ?_
    refine T_iload_n hok 1 rfl rfl dX10_known_21 ?_
    refine T_putI hok hA fr_X10_416 rfl rfl lc_70 dX10_known_22 ?_
    intro I2
    refine T_iconst hok ic_1 dX10_known_25 ?_
    exact T_zret hok dX10_known_26 (Nat.zero_le _) (Nat.zero_le _) rfl rfl
  refine T_iconst hok ic_0 dX10_known_15 ?_
  exact T_zret hok dX10_known_16 (Nat.zero_le _) (Nat.zero_le _) rfl rfl

set_option maxHeartbeats 4000000 in
set_option maxRecDepth 100000 in
theorem ct_X10_fits {G : Gx} {l0 : Launch} {A : Nat → Prop} {b bk dr it : Nat} (hA : ∀ k, k < Lc.length → A (b + k)) (hbk : isBk bk = true) (I : MI) (J : MJ) (a1 : Int32) : Ct G l0 A yX10_fits cX10_fits 2 (some .int) { frames := 3, cells := 0, slots := 0, locals := 71 } [.ref (b + 0), .int a1] (Rg G b Lc (Rc b bk dr it) I J) (ii1 (fun (I' : MI) => Rg G b Lc (Rc b bk dr it) I' J)) (f_X10_fits bk I a1) := by
  refine Ct.of rfl (Nat.le_of_ble_eq_true rfl) ?_
  intro X hok
  replace hok : Ok G l0 X RX10 cX10_fits 2 { frames := 3, cells := 0, slots := 0, locals := 71 } (some .int) := hok
  delta f_X10_fits
  show T X A (Zm X A (ii1 (fun (I' : MI) => Rg G b Lc (Rc b bk dr it) I' J))) 2 0 0 0 [(0, .ref (b + 0)), (1, .int a1)] [] (Rg G b Lc (Rc b bk dr it) I J) _
  refine T_iload_n hok 1 rfl rfl dX10_fits_0 ?_
  refine T_cz0 (CR_S (rest := []) hok (ct_X10_isToldDay a1) mw_X10_isToldDay mst_X10_isToldDay ml_X10_406 dX10_fits_1 rfl rfl (roomOk rfl) rfl) rfl rfl ?_
  intro x1
  refine T_jp _ (fun (j23 : Int32 → MI → Option (Int32 × MI)) => ∀ (x2 : Int32) (I3 : MI), T X A (Zm X A (ii1 (fun (I' : MI) => Rg G b Lc (Rc b bk dr it) I' J))) 2 0 0 23 [] [.int x2] (Rg G b Lc (Rc b bk dr it) I3 J) (j23 x2 I3)) _ ?_ ?_
  · intro x2 I3
    exact T_iret hok dX10_fits_23 (Nat.zero_le _) (Nat.zero_le _) rfl
  intro j23 hj23
  refine T_ifb_eq (tgt := 22) hok dX10_fits_4 rfl ?_ ?_
  · refine T_aload_n hok 0 rfl rfl dX10_fits_7 ?_
    refine T_getR hok fr_X10_64 lc_0 rc_0_11 dX10_fits_8 ?_
    refine T_aload_n hok 0 rfl rfl dX10_fits_11 ?_
    refine T_getR hok fr_X10_18 lc_0 rc_0_2 dX10_fits_12 ?_
    refine T_iload_n hok 1 rfl rfl dX10_fits_15 ?_
    refine T_ci1 (CR_V (rest := []) hok (ct_X2_fitting hA hbk I J a1) mw_X2_fitting mv_X2_fitting ml_X10_419 lc_70 dX10_fits_16 rfl rfl (roomOk rfl) rfl) rfl rfl ?_
    intro x4 I5
    refine T_goto (tgt := 23) hok dX10_fits_19 rfl ?_
    refine T_sub (lv' := []) [] rfl ?_
    exact hj23 x4 I5
  refine T_iconst hok ic_m1 dX10_fits_22 ?_
  refine T_sub (lv' := []) [] rfl ?_
  exact hj23 (-1 : Int32) I

set_option maxHeartbeats 4000000 in
set_option maxRecDepth 100000 in
theorem ct_X10_leftAtWorst {G : Gx} {l0 : Launch} {A : Nat → Prop} {b bk dr it : Nat} (hA : ∀ k, k < Lc.length → A (b + k)) (hbk : isBk bk = true) (I : MI) (J : MJ) (a1 : Int32) (a2 : Int32) : Ct G l0 A yX10_leftAtWorst cX10_leftAtWorst 7 (some .int) { frames := 1, cells := 0, slots := 0, locals := 22 } [.ref (b + 0), .int a1, .int a2] (Rg G b Lc (Rc b bk dr it) I J) (ii0 (Rg G b Lc (Rc b bk dr it) I J)) (f_X10_leftAtWorst bk I a1 a2) := by
  refine Ct.of rfl (Nat.le_of_ble_eq_true rfl) ?_
  intro X hok
  replace hok : Ok G l0 X RX10 cX10_leftAtWorst 7 { frames := 1, cells := 0, slots := 0, locals := 22 } (some .int) := hok
  delta f_X10_leftAtWorst
  show T X A (Zm X A (ii0 (Rg G b Lc (Rc b bk dr it) I J))) 7 0 0 0 [(0, .ref (b + 0)), (1, .int a1), (2, .int a2)] [] (Rg G b Lc (Rc b bk dr it) I J) _
  refine T_iconst hok ic_0 dX10_leftAtWorst_0 ?_
  refine T_istore_n (lv' := [(3, .int (0 : Int32)), (0, .ref (b + 0)), (1, .int a1), (2, .int a2)]) hok rfl (by decide) rfl dX10_leftAtWorst_1 ?_
  refine T_iconst hok ic_0 dX10_leftAtWorst_2 ?_
  refine T_istore (lv' := [(4, .int (0 : Int32)), (3, .int (0 : Int32)), (0, .ref (b + 0)), (1, .int a1), (2, .int a2)]) hok (by decide) rfl dX10_leftAtWorst_3 ?_
  refine T_sub (lv' := [(0, .ref (b + 0)), (1, .int a1), (2, .int a2), (3, .int (0 : Int32)), (4, .int (0 : Int32))]) [2, 3, 4, 1, 0] rfl ?_
  refine T_fix2 _ (fun (x1 : Int32) (x2 : Int32) => [(0, .ref (b + 0)), (1, .int a1), (2, .int a2), (3, .int x1), (4, .int x2)]) (fun (x1 : Int32) (x2 : Int32) => Rg G b Lc (Rc b bk dr it) I J) ?_ FU (0 : Int32) (0 : Int32)
  intro r5 hr5 x1 x2
  refine T_iload hok 4 rfl dX10_leftAtWorst_5 ?_
  refine T_aload_n hok 0 rfl rfl dX10_leftAtWorst_7 ?_
  refine T_getR hok fr_X10_18 lc_0 rc_0_2 dX10_leftAtWorst_8 ?_
  refine T_getI hok fr_X10_209 (bookAt_c (b := 0) (bk := 0) (dr := 0) (it := 0) hbk).o dX10_leftAtWorst_11 ?_
  refine T_icmp_ge (tgt := 98) hok dX10_leftAtWorst_14 rfl ?_ ?_
  · refine T_iload_n hok 3 rfl rfl dX10_leftAtWorst_98 ?_
    exact T_iret hok dX10_leftAtWorst_99 (Nat.zero_le _) (Nat.zero_le _) rfl
  refine T_iconst hok ic_0 dX10_leftAtWorst_17 ?_
  refine T_istore (lv' := [(5, .int (0 : Int32)), (0, .ref (b + 0)), (1, .int a1), (2, .int a2), (3, .int x1), (4, .int x2)]) hok (by decide) rfl dX10_leftAtWorst_18 ?_
  refine T_iconst hok ic_0 dX10_leftAtWorst_20 ?_
  refine T_istore (lv' := [(6, .int (0 : Int32)), (5, .int (0 : Int32)), (0, .ref (b + 0)), (1, .int a1), (2, .int a2), (3, .int x1), (4, .int x2)]) hok (by decide) rfl dX10_leftAtWorst_21 ?_
  refine T_jp _ (fun (j76 : Int32 → Option (Int32)) => ∀ (x3 : Int32), T X A (Zm X A (ii0 (Rg G b Lc (Rc b bk dr it) I J))) 7 0 0 76 [(0, .ref (b + 0)), (1, .int a1), (2, .int a2), (3, .int x1), (4, .int x2), (5, .int x3)] [] (Rg G b Lc (Rc b bk dr it) I J) (j76 x3)) _ ?_ ?_
  · intro x3
    refine T_iload hok 4 rfl dX10_leftAtWorst_76 ?_
    refine T_iload_n hok 1 rfl rfl dX10_leftAtWorst_78 ?_
    refine T_cz0 (CR_S (rest := []) hok (ct_X10_isAmong x2 a1) mw_X10_isAmong mst_X10_isAmong ml_X10_227 dX10_leftAtWorst_79 rfl rfl (roomOk rfl) rfl) rfl rfl ?_
    intro x4
    refine T_jp _ (fun (j92 : Int32 → Option (Int32)) => ∀ (x5 : Int32), T X A (Zm X A (ii0 (Rg G b Lc (Rc b bk dr it) I J))) 7 0 0 92 [(0, .ref (b + 0)), (1, .int a1), (2, .int a2), (3, .int x5), (4, .int x2)] [] (Rg G b Lc (Rc b bk dr it) I J) (j92 x5)) _ ?_ ?_
    · intro x5
      refine T_iinc (lvs := fun x6 => [(4, .int x6), (0, .ref (b + 0)), (1, .int a1), (2, .int a2), (3, .int x5)]) hok 4 rfl ic_1 (by decide) (fun _ => rfl) dX10_leftAtWorst_92 ?_
      intro x6
      refine T_goto (tgt := 5) hok dX10_leftAtWorst_95 rfl ?_
      refine T_sub (lv' := [(0, .ref (b + 0)), (1, .int a1), (2, .int a2), (3, .int x5), (4, .int x6)]) [1, 2, 3, 4, 0] rfl ?_
      exact hr5 x5 x6
    intro j92 hj92
    refine T_ifb_eq (tgt := 92) hok dX10_leftAtWorst_82 rfl ?_ ?_
    · refine T_iload_n hok 3 rfl rfl dX10_leftAtWorst_85 ?_
      refine T_iload hok 5 rfl dX10_leftAtWorst_86 ?_
      refine T_mmax hok mm_mmax ml_X10_366 dX10_leftAtWorst_88 (Nat.le_of_ble_eq_true rfl) (Nat.le_of_ble_eq_true rfl) (Nat.zero_le _) (Nat.zero_le _) ?_
      refine T_lti ?_
      intro x7
      refine T_istore_n (lv' := [(3, .int x7), (0, .ref (b + 0)), (1, .int a1), (2, .int a2), (4, .int x2), (5, .int x3)]) hok rfl (by decide) rfl dX10_leftAtWorst_91 ?_
      refine T_sub (lv' := [(0, .ref (b + 0)), (1, .int a1), (2, .int a2), (3, .int x7), (4, .int x2)]) [1, 2, 3, 0, 4] rfl ?_
      exact hj92 x7
    refine T_sub (lv' := [(0, .ref (b + 0)), (1, .int a1), (2, .int a2), (3, .int x1), (4, .int x2)]) [0, 1, 2, 3, 4] rfl ?_
    exact hj92 x1
  intro j76 hj76
  refine T_sub (lv' := [(0, .ref (b + 0)), (1, .int a1), (2, .int a2), (3, .int x1), (4, .int x2), (5, .int (0 : Int32)), (6, .int (0 : Int32))]) [2, 3, 4, 5, 6, 1, 0] rfl ?_
  refine T_fix2 _ (fun (x8 : Int32) (x9 : Int32) => [(0, .ref (b + 0)), (1, .int a1), (2, .int a2), (3, .int x1), (4, .int x2), (5, .int x8), (6, .int x9)]) (fun (x8 : Int32) (x9 : Int32) => Rg G b Lc (Rc b bk dr it) I J) ?_ FU (0 : Int32) (0 : Int32)
  intro r23 hr23 x8 x9
  refine T_iload hok 6 rfl dX10_leftAtWorst_23 ?_
  refine T_aload_n hok 0 rfl rfl dX10_leftAtWorst_25 ?_
  refine T_getR hok fr_X10_18 lc_0 rc_0_2 dX10_leftAtWorst_26 ?_
  refine T_getI hok fr_X10_209 (bookAt_c (b := 0) (bk := 0) (dr := 0) (it := 0) hbk).o dX10_leftAtWorst_29 ?_
  refine T_icmp_ge (tgt := 76) hok dX10_leftAtWorst_32 rfl ?_ ?_
  · refine T_sub (lv' := [(0, .ref (b + 0)), (1, .int a1), (2, .int a2), (3, .int x1), (4, .int x2), (5, .int x8)]) [0, 1, 2, 3, 4, 5] rfl ?_
    exact hj76 x8
  refine T_iload hok 6 rfl dX10_leftAtWorst_35 ?_
  refine T_iload_n hok 1 rfl rfl dX10_leftAtWorst_37 ?_
  refine T_cz0 (CR_S (rest := []) hok (ct_X10_isAmong x9 a1) mw_X10_isAmong mst_X10_isAmong ml_X10_227 dX10_leftAtWorst_38 rfl rfl (roomOk rfl) rfl) rfl rfl ?_
  intro x10
  refine T_jp _ (fun (j70 : Int32 → Option (Int32)) => ∀ (x11 : Int32), T X A (Zm X A (ii0 (Rg G b Lc (Rc b bk dr it) I J))) 7 0 0 70 [(0, .ref (b + 0)), (1, .int a1), (2, .int a2), (3, .int x1), (4, .int x2), (5, .int x11), (6, .int x9)] [] (Rg G b Lc (Rc b bk dr it) I J) (j70 x11)) _ ?_ ?_
  · intro x11
    refine T_iinc (lvs := fun x12 => [(6, .int x12), (0, .ref (b + 0)), (1, .int a1), (2, .int a2), (3, .int x1), (4, .int x2), (5, .int x11)]) hok 6 rfl ic_1 (by decide) (fun _ => rfl) dX10_leftAtWorst_70 ?_
    intro x12
    refine T_goto (tgt := 23) hok dX10_leftAtWorst_73 rfl ?_
    refine T_sub (lv' := [(0, .ref (b + 0)), (1, .int a1), (2, .int a2), (3, .int x1), (4, .int x2), (5, .int x11), (6, .int x12)]) [1, 2, 3, 4, 5, 6, 0] rfl ?_
    exact hr23 x11 x12
  intro j70 hj70
  refine T_ifb_eq (tgt := 70) hok dX10_leftAtWorst_41 rfl ?_ ?_
  · refine T_aload_n hok 0 rfl rfl dX10_leftAtWorst_44 ?_
    refine T_getR hok fr_X10_18 lc_0 rc_0_2 dX10_leftAtWorst_45 ?_
    refine T_iload_n hok 2 rfl rfl dX10_leftAtWorst_48 ?_
    refine T_iload hok 6 rfl dX10_leftAtWorst_49 ?_
    refine T_ci0 (CR_V (rest := []) hok (ct_X0_alone hA (bookAt_c hbk) I J a2 x9) mw_X0_alone mv_X0_alone ml_X10_360 (bookAt_c (b := 0) (bk := 0) (dr := 0) (it := 0) hbk).o dX10_leftAtWorst_51 rfl rfl (roomOk rfl) rfl) rfl rfl ?_
    intro x13
    refine T_aload_n hok 0 rfl rfl dX10_leftAtWorst_54 ?_
    refine T_getR hok fr_X10_18 lc_0 rc_0_2 dX10_leftAtWorst_55 ?_
    refine T_iload_n hok 2 rfl rfl dX10_leftAtWorst_58 ?_
    refine T_iload hok 4 rfl dX10_leftAtWorst_59 ?_
    refine T_ci0 (CR_V (rest := [.int x13]) hok (ct_X0_alone hA (bookAt_c hbk) I J a2 x2) mw_X0_alone mv_X0_alone ml_X10_360 (bookAt_c (b := 0) (bk := 0) (dr := 0) (it := 0) hbk).o dX10_leftAtWorst_61 rfl rfl (roomOk rfl) rfl) rfl rfl ?_
    intro x14
    refine T_icmp_ne (tgt := 70) hok dX10_leftAtWorst_64 rfl ?_ ?_
    · refine T_iinc (lvs := fun x15 => [(5, .int x15), (0, .ref (b + 0)), (1, .int a1), (2, .int a2), (3, .int x1), (4, .int x2), (6, .int x9)]) hok 5 rfl ic_1 (by decide) (fun _ => rfl) dX10_leftAtWorst_67 ?_
      intro x15
      refine T_sub (lv' := [(0, .ref (b + 0)), (1, .int a1), (2, .int a2), (3, .int x1), (4, .int x2), (5, .int x15), (6, .int x9)]) [1, 2, 3, 4, 5, 0, 6] rfl ?_
      exact hj70 x15
    exact hj70 x8
  exact hj70 x8

set_option maxHeartbeats 4000000 in
set_option maxRecDepth 100000 in
theorem ct_X10_ask {G : Gx} {l0 : Launch} {A : Nat → Prop} {b bk dr it : Nat} (hA : ∀ k, k < Lc.length → A (b + k)) (hbk : isBk bk = true) (I : MI) (J : MJ) (a1 : Int32) (a2 : Int32) : Ct G l0 A yX10_ask cX10_ask 6 (some .int) { frames := 3, cells := 0, slots := 0, locals := 71 } [.ref (b + 0), .int a1, .int a2] (Rg G b Lc (Rc b bk dr it) I J) (ii1 (fun (I' : MI) => Rg G b Lc (Rc b bk dr it) I' J)) (f_X10_ask bk I a1 a2) := by
  refine Ct.of rfl (Nat.le_of_ble_eq_true rfl) ?_
  intro X hok
  replace hok : Ok G l0 X RX10 cX10_ask 6 { frames := 3, cells := 0, slots := 0, locals := 71 } (some .int) := hok
  delta f_X10_ask
  show T X A (Zm X A (ii1 (fun (I' : MI) => Rg G b Lc (Rc b bk dr it) I' J))) 6 0 0 0 [(0, .ref (b + 0)), (1, .int a1), (2, .int a2)] [] (Rg G b Lc (Rc b bk dr it) I J) _
  refine T_iload_n hok 1 rfl rfl dX10_ask_0 ?_
  refine T_cz0 (CR_S (rest := []) hok (ct_X10_isToldDay a1) mw_X10_isToldDay mst_X10_isToldDay ml_X10_406 dX10_ask_1 rfl rfl (roomOk rfl) rfl) rfl rfl ?_
  intro x1
  refine T_jp _ (fun (j16 : Option (Int32 × MI)) => T X A (Zm X A (ii1 (fun (I' : MI) => Rg G b Lc (Rc b bk dr it) I' J))) 6 0 0 16 [] [] (Rg G b Lc (Rc b bk dr it) I J) (j16)) _ ?_ ?_
  · skip
    refine T_iconst hok ic_m1 dX10_ask_16 ?_
    exact T_iret hok dX10_ask_17 (Nat.zero_le _) (Nat.zero_le _) rfl
  intro j16 hj16
  refine T_ifb_eq (tgt := 16) hok dX10_ask_4 rfl ?_ ?_
  · refine T_iload_n hok 2 rfl rfl dX10_ask_7 ?_
    refine T_iconst hok ic_0 dX10_ask_8 ?_
    refine T_iconst hok ic_1 dX10_ask_9 ?_
    refine T_cz0 (CR_S (rest := []) hok (ct_X10_isWithin a2 (0 : Int32) (1 : Int32)) mw_X10_isWithin mst_X10_isWithin ml_X10_173 dX10_ask_10 rfl rfl (roomOk rfl) rfl) rfl rfl ?_
    intro x2
    refine T_ifb_ne (tgt := 18) hok dX10_ask_13 rfl ?_ ?_
    · refine T_aload_n hok 0 rfl rfl dX10_ask_18 ?_
      refine T_getR hok fr_X10_18 lc_0 rc_0_2 dX10_ask_19 ?_
      refine T_getI hok fr_X10_203 (bookAt_c (b := 0) (bk := 0) (dr := 0) (it := 0) hbk).o dX10_ask_22 ?_
      refine T_if_ne (tgt := 31) hok dX10_ask_25 rfl ?_ ?_
      · refine T_bipush hok bp_m2 dX10_ask_28 ?_
        exact T_iret hok dX10_ask_30 (Nat.zero_le _) (Nat.zero_le _) rfl
      refine T_aload_n hok 0 rfl rfl dX10_ask_31 ?_
      refine T_getR hok fr_X10_64 lc_0 rc_0_11 dX10_ask_32 ?_
      refine T_aload_n hok 0 rfl rfl dX10_ask_35 ?_
      refine T_getR hok fr_X10_18 lc_0 rc_0_2 dX10_ask_36 ?_
      refine T_iload_n hok 1 rfl rfl dX10_ask_39 ?_
      refine T_ci1 (CR_V (rest := []) hok (ct_X2_fitting hA hbk I J a1) mw_X2_fitting mv_X2_fitting ml_X10_419 lc_70 dX10_ask_40 rfl rfl (roomOk rfl) rfl) rfl rfl ?_
      intro x3 I4
      refine T_istore_n (lv' := [(3, .int x3), (0, .ref (b + 0)), (1, .int a1), (2, .int a2)]) hok rfl (by decide) rfl dX10_ask_43 ?_
      refine T_iconst hok ic_0 dX10_ask_44 ?_
      refine T_istore (lv' := [(4, .int (0 : Int32)), (3, .int x3), (0, .ref (b + 0)), (1, .int a1), (2, .int a2)]) hok (by decide) rfl dX10_ask_45 ?_
      refine T_iconst hok ic_1 dX10_ask_47 ?_
      refine T_istore (lv' := [(5, .int (1 : Int32)), (4, .int (0 : Int32)), (3, .int x3), (0, .ref (b + 0)), (1, .int a1), (2, .int a2)]) hok (by decide) rfl dX10_ask_48 ?_
      refine T_jp _ (fun (j89 : Int32 → Option (Int32 × MI)) => ∀ (x5 : Int32), T X A (Zm X A (ii1 (fun (I' : MI) => Rg G b Lc (Rc b bk dr it) I' J))) 6 0 0 89 [(0, .ref (b + 0)), (2, .int a2), (3, .int x3), (4, .int x5)] [] (Rg G b Lc (Rc b bk dr it) I4 J) (j89 x5)) _ ?_ ?_
      · intro x5
        refine T_iload_n hok 1 rfl rfl dX10_ask_89 ?_
        refine T_jp _ (fun (j105 : Int32 → Option (Int32 × MI)) => ∀ (x6 : Int32), T X A (Zm X A (ii1 (fun (I' : MI) => Rg G b Lc (Rc b bk dr it) I' J))) 6 0 0 105 [] [.int x6] (Rg G b Lc (Rc b bk dr it) I4 J) (j105 x6)) _ ?_ ?_
        · intro x6
          exact T_iret hok dX10_ask_105 (Nat.zero_le _) (Nat.zero_le _) rfl
        intro j105 hj105
        refine T_if_ne (tgt := 98) hok dX10_ask_90 rfl ?_ ?_
        · refine T_iload hok 3 rfl dX10_ask_93 ?_
          refine T_goto (tgt := 105) hok dX10_ask_95 rfl ?_
          refine T_sub (lv' := []) [] rfl ?_
          exact hj105 x5
        refine T_aload_n hok 0 rfl rfl dX10_ask_98 ?_
        refine T_iload_n hok 2 rfl rfl dX10_ask_99 ?_
        refine T_iload hok 3 rfl dX10_ask_100 ?_
        refine T_ci0 (CR_V (rest := []) hok (ct_X10_leftAtWorst hA hbk I4 J x3 x5) mw_X10_leftAtWorst mv_X10_leftAtWorst ml_X10_423 lc_0 dX10_ask_102 rfl rfl (roomOk rfl) rfl) rfl rfl ?_
        intro x7
        refine T_sub (lv' := []) [] rfl ?_
        exact hj105 x7
      intro j89 hj89
      refine T_sub (lv' := [(0, .ref (b + 0)), (2, .int a2), (3, .int x3), (4, .int (0 : Int32)), (5, .int (1 : Int32))]) [3, 5, 2, 1, 0] rfl ?_
      refine T_fix2 _ (fun (x8 : Int32) (x9 : Int32) => [(0, .ref (b + 0)), (2, .int a2), (3, .int x3), (4, .int x8), (5, .int x9)]) (fun (x8 : Int32) (x9 : Int32) => Rg G b Lc (Rc b bk dr it) I4 J) ?_ FU (0 : Int32) (1 : Int32)
      intro r50 hr50 x8 x9
      refine T_iload hok 4 rfl dX10_ask_50 ?_
      refine T_aload_n hok 0 rfl rfl dX10_ask_52 ?_
      refine T_getR hok fr_X10_18 lc_0 rc_0_2 dX10_ask_53 ?_
      refine T_getI hok fr_X10_203 (bookAt_c (b := 0) (bk := 0) (dr := 0) (it := 0) hbk).o dX10_ask_56 ?_
      refine T_icmp_ge (tgt := 89) hok dX10_ask_59 rfl ?_ ?_
      · refine T_sub (lv' := [(0, .ref (b + 0)), (2, .int a2), (3, .int x3), (4, .int x8)]) [0, 1, 2, 3] rfl ?_
        exact hj89 x8
      refine T_aload_n hok 0 rfl rfl dX10_ask_62 ?_
      refine T_iload_n hok 2 rfl rfl dX10_ask_63 ?_
      refine T_iload hok 4 rfl dX10_ask_64 ?_
      refine T_ci0 (CR_V (rest := []) hok (ct_X10_leftAtWorst hA hbk I4 J x3 x9) mw_X10_leftAtWorst mv_X10_leftAtWorst ml_X10_423 lc_0 dX10_ask_66 rfl rfl (roomOk rfl) rfl) rfl rfl ?_
      intro x10
      refine T_aload_n hok 0 rfl rfl dX10_ask_69 ?_
      refine T_iload_n hok 2 rfl rfl dX10_ask_70 ?_
      refine T_iload hok 3 rfl dX10_ask_71 ?_
      refine T_ci0 (CR_V (rest := [.int x10]) hok (ct_X10_leftAtWorst hA hbk I4 J x3 x8) mw_X10_leftAtWorst mv_X10_leftAtWorst ml_X10_423 lc_0 dX10_ask_73 rfl rfl (roomOk rfl) rfl) rfl rfl ?_
      intro x11
      refine T_jp _ (fun (j83 : Int32 → Option (Int32 × MI)) => ∀ (x12 : Int32), T X A (Zm X A (ii1 (fun (I' : MI) => Rg G b Lc (Rc b bk dr it) I' J))) 6 0 0 83 [(0, .ref (b + 0)), (2, .int a2), (3, .int x3), (4, .int x12), (5, .int x9)] [] (Rg G b Lc (Rc b bk dr it) I4 J) (j83 x12)) _ ?_ ?_
      · intro x12
        refine T_iinc (lvs := fun x13 => [(5, .int x13), (0, .ref (b + 0)), (2, .int a2), (3, .int x3), (4, .int x12)]) hok 4 rfl ic_1 (by decide) (fun _ => rfl) dX10_ask_83 ?_
        intro x13
        refine T_goto (tgt := 50) hok dX10_ask_86 rfl ?_
        refine T_sub (lv' := [(0, .ref (b + 0)), (2, .int a2), (3, .int x3), (4, .int x12), (5, .int x13)]) [1, 2, 3, 4, 0] rfl ?_
        exact hr50 x12 x13
      intro j83 hj83
      refine T_icmp_ge (tgt := 83) hok dX10_ask_76 rfl ?_ ?_
      · exact hj83 x8
      refine T_iload hok 4 rfl dX10_ask_79 ?_
      refine T_istore (lv' := [(4, .int x9), (0, .ref (b + 0)), (2, .int a2), (3, .int x3), (5, .int x9)]) hok (by decide) rfl dX10_ask_81 ?_
      refine T_sub (lv' := [(0, .ref (b + 0)), (2, .int a2), (3, .int x3), (4, .int x9), (5, .int x9)]) [1, 2, 3, 0, 4] rfl ?_
      exact hj83 x9
    refine T_sub (lv' := []) [] rfl ?_
    exact hj16
  refine T_sub (lv' := []) [] rfl ?_
  exact hj16

set_option maxHeartbeats 4000000 in
set_option maxRecDepth 100000 in
theorem ct_X11_thrown {G : Gx} {l0 : Launch} {A : Nat → Prop} {b : Nat} (hA : ∀ k, k < Lm.length → A (b + k)) (I : MI) (J : MJ) : Ct G l0 A yX11_thrown cX11_thrown 1 (some .int) { frames := 0, cells := 0, slots := 0, locals := 0 } [.ref (b + 0)] (Rg G b Lm (Rm b) I J) (ii0 (Rg G b Lm (Rm b) I J)) (f_X11_thrown I) := by
  refine Ct.of rfl (Nat.le_of_ble_eq_true rfl) ?_
  intro X hok
  replace hok : Ok G l0 X RX11 cX11_thrown 1 { frames := 0, cells := 0, slots := 0, locals := 0 } (some .int) := hok
  delta f_X11_thrown
  show T X A (Zm X A (ii0 (Rg G b Lm (Rm b) I J))) 1 0 0 0 [(0, .ref (b + 0))] [] (Rg G b Lm (Rm b) I J) _
  refine T_aload_n hok 0 rfl rfl dX11_thrown_0 ?_
  refine T_getI hok fr_X11_151 lm_0 dX11_thrown_1 ?_
  exact T_iret hok dX11_thrown_4 (Nat.zero_le _) (Nat.zero_le _) rfl

set_option maxHeartbeats 4000000 in
set_option maxRecDepth 100000 in
theorem ct_X11_feed {G : Gx} {l0 : Launch} {A : Nat → Prop} {b : Nat} (hA : ∀ k, k < Lm.length → A (b + k)) (I : MI) (J : MJ) (a1 : Int32) (a2 : Int32) (a3 : Int32) (a4 : Int32) (a5 : Int32) : Ct G l0 A yX11_feed cX11_feed 8 (some .int) { frames := 0, cells := 0, slots := 0, locals := 0 } [.ref (b + 0), .int a1, .int a2, .int a3, .int a4, .int a5] (Rg G b Lm (Rm b) I J) (ii1 (fun (I' : MI) => Rg G b Lm (Rm b) I' J)) (f_X11_feed I a1 a2 a3 a4 a5) := by
  refine Ct.of rfl (Nat.le_of_ble_eq_true rfl) ?_
  intro X hok
  replace hok : Ok G l0 X RX11 cX11_feed 8 { frames := 0, cells := 0, slots := 0, locals := 0 } (some .int) := hok
  delta f_X11_feed
  show T X A (Zm X A (ii1 (fun (I' : MI) => Rg G b Lm (Rm b) I' J))) 8 0 0 0 [(0, .ref (b + 0)), (1, .int a1), (2, .int a2), (3, .int a3), (4, .int a4), (5, .int a5)] [] (Rg G b Lm (Rm b) I J) _
  refine T_aload_n hok 0 rfl rfl dX11_feed_0 ?_
  refine T_iconst hok ic_0 dX11_feed_1 ?_
  refine T_putI hok hA fr_X11_151 rfl rfl lm_0 dX11_feed_2 ?_
  intro I1
  refine T_aload_n hok 0 rfl rfl dX11_feed_5 ?_
  refine T_getI hok fr_X11_154 lm_0 dX11_feed_6 ?_
  refine T_bipush hok bp_20 dX11_feed_9 ?_
  refine T_iadd hok dX11_feed_11 ?_
  refine T_sipush hok sp_700 dX11_feed_12 ?_
  refine T_icmp_le (tgt := 20) hok dX11_feed_15 rfl ?_ ?_
  · refine T_iconst hok ic_0 dX11_feed_20 ?_
    refine T_istore (lv' := [(6, .int (0 : Int32)), (0, .ref (b + 0)), (1, .int a1), (2, .int a2), (3, .int a3), (4, .int a4), (5, .int a5)]) hok (by decide) rfl dX11_feed_21 ?_
    refine T_jp _ (fun (j113 : MI → Option (Int32 × MI)) => ∀ (I2 : MI), T X A (Zm X A (ii1 (fun (I' : MI) => Rg G b Lm (Rm b) I' J))) 8 0 0 113 [(0, .ref (b + 0))] [] (Rg G b Lm (Rm b) I2 J) (j113 I2)) _ ?_ ?_
    · intro I2
      refine T_aload_n hok 0 rfl rfl dX11_feed_113 ?_
      refine T_dup hok rfl dX11_feed_114 ?_
      refine T_getI hok fr_X11_154 lm_0 dX11_feed_115 ?_
      refine T_bipush hok bp_20 dX11_feed_118 ?_
      refine T_iadd hok dX11_feed_120 ?_
      refine T_putI hok hA fr_X11_154 rfl rfl lm_0 dX11_feed_121 ?_
      intro I3
      refine T_aload_n hok 0 rfl rfl dX11_feed_124 ?_
      refine T_getI hok fr_X11_154 lm_0 dX11_feed_125 ?_
      exact T_iret hok dX11_feed_128 (Nat.zero_le _) (Nat.zero_le _) rfl
    intro j113 hj113
    refine T_sub (lv' := [(0, .ref (b + 0)), (1, .int a1), (2, .int a2), (3, .int a3), (4, .int a4), (5, .int a5), (6, .int (0 : Int32))]) [1, 2, 3, 4, 5, 6, 0] rfl ?_
    refine T_fix2 _ (fun (x4 : Int32) (I5 : MI) => [(0, .ref (b + 0)), (1, .int a1), (2, .int a2), (3, .int a3), (4, .int a4), (5, .int a5), (6, .int x4)]) (fun (x4 : Int32) (I5 : MI) => Rg G b Lm (Rm b) I5 J) ?_ FU (0 : Int32) I1
    intro r23 hr23 x4 I5
    refine T_iload hok 6 rfl dX11_feed_23 ?_
    refine T_bipush hok bp_20 dX11_feed_25 ?_
    refine T_icmp_ge (tgt := 113) hok dX11_feed_27 rfl ?_ ?_
    · refine T_sub (lv' := [(0, .ref (b + 0))]) [0] rfl ?_
      exact hj113 I5
    refine T_iload hok 6 rfl dX11_feed_30 ?_
    refine T_iconst hok ic_4 dX11_feed_32 ?_
    refine T_jp _ (fun (j76 : Int32 → Option (Int32 × MI)) => ∀ (x6 : Int32), T X A (Zm X A (ii1 (fun (I' : MI) => Rg G b Lm (Rm b) I' J))) 8 0 0 76 [(0, .ref (b + 0)), (1, .int a1), (2, .int a2), (3, .int a3), (4, .int a4), (5, .int a5), (6, .int x4)] [.int x6] (Rg G b Lm (Rm b) I5 J) (j76 x6)) _ ?_ ?_
    · intro x6
      refine T_istore (lv' := [(7, .int x6), (0, .ref (b + 0)), (1, .int a1), (2, .int a2), (3, .int a3), (4, .int a4), (5, .int a5), (6, .int x4)]) hok (by decide) rfl dX11_feed_76 ?_
      refine T_aload_n hok 1 rfl rfl dX11_feed_78 ?_
      refine T_getR hok fr_X11_7 lm_0 rm_0_0 dX11_feed_79 ?_
      refine T_aload_n hok 1 rfl rfl dX11_feed_82 ?_
      refine T_getI hok fr_X11_154 lm_0 dX11_feed_83 ?_
      refine T_iload hok 7 rfl dX11_feed_86 ?_
      refine T_iadd hok dX11_feed_88 ?_
      refine T_iload hok 0 rfl dX11_feed_89 ?_
      refine T_bipush hok bp_24 dX11_feed_91 ?_
      refine T_bipush hok bp_8 dX11_feed_93 ?_
      refine T_iload hok 7 rfl dX11_feed_95 ?_
      refine T_iconst hok ic_4 dX11_feed_97 ?_
      refine T_irem hok dX11_feed_98 ?_
      refine T_imul hok dX11_feed_99 ?_
      refine T_isub hok dX11_feed_100 ?_
      refine T_ishr hok dX11_feed_101 ?_
      refine T_sipush hok sp_255 dX11_feed_102 ?_
      refine T_iand hok dX11_feed_105 ?_
      refine T_iast hok hA lm_1 dX11_feed_106 ?_
      intro I7
      refine T_iinc (lvs := fun x8 => [(6, .int x8), (7, .int x6), (0, .ref (b + 0)), (1, .int a1), (2, .int a2), (3, .int a3), (4, .int a4), (5, .int a5)]) hok 7 rfl ic_1 (by decide) (fun _ => rfl) dX11_feed_107 ?_
      intro x8
      refine T_goto (tgt := 23) hok dX11_feed_110 rfl ?_
      refine T_sub (lv' := [(0, .ref (b + 0)), (1, .int a1), (2, .int a2), (3, .int a3), (4, .int a4), (5, .int a5), (6, .int x8)]) [2, 3, 4, 5, 6, 7, 0] rfl ?_
      exact hr23 x8 I7
    intro j76 hj76
    refine T_icmp_ge (tgt := 40) hok dX11_feed_33 rfl ?_ ?_
    · refine T_iload hok 6 rfl dX11_feed_40 ?_
      refine T_bipush hok bp_8 dX11_feed_42 ?_
      refine T_icmp_ge (tgt := 51) hok dX11_feed_44 rfl ?_ ?_
      · refine T_iload hok 6 rfl dX11_feed_51 ?_
        refine T_bipush hok bp_12 dX11_feed_53 ?_
        refine T_icmp_ge (tgt := 62) hok dX11_feed_55 rfl ?_ ?_
        · refine T_iload hok 6 rfl dX11_feed_62 ?_
          refine T_bipush hok bp_16 dX11_feed_64 ?_
          refine T_icmp_ge (tgt := 74) hok dX11_feed_66 rfl ?_ ?_
          · refine T_iload hok 5 rfl dX11_feed_74 ?_
            exact hj76 a5
          refine T_iload hok 4 rfl dX11_feed_69 ?_
          refine T_goto (tgt := 76) hok dX11_feed_71 rfl ?_
          exact hj76 a4
        refine T_iload_n hok 3 rfl rfl dX11_feed_58 ?_
        refine T_goto (tgt := 76) hok dX11_feed_59 rfl ?_
        exact hj76 a3
      refine T_iload_n hok 2 rfl rfl dX11_feed_47 ?_
      refine T_goto (tgt := 76) hok dX11_feed_48 rfl ?_
      exact hj76 a2
    refine T_iload_n hok 1 rfl rfl dX11_feed_36 ?_
    refine T_goto (tgt := 76) hok dX11_feed_37 rfl ?_
    exact hj76 a1
  refine T_iconst hok ic_m1 dX11_feed_18 ?_
  exact T_iret hok dX11_feed_19 (Nat.zero_le _) (Nat.zero_le _) rfl

set_option maxHeartbeats 4000000 in
set_option maxRecDepth 100000 in
theorem ct_X11_isIn {G : Gx} {l0 : Launch} {A : Nat → Prop} {Wd : Heap → Prop} (a1 : Int32) (a2 : Int32) (a3 : Int32) : Ct G l0 A yX11_isIn cX11_isIn 3 (some .boolean) { frames := 0, cells := 0, slots := 0, locals := 0 } [.int a1, .int a2, .int a3] (Wd) (iz0 (Wd)) (f_X11_isIn a1 a2 a3) := by
  refine Ct.of rfl (Nat.le_of_ble_eq_true rfl) ?_
  intro X hok
  replace hok : Ok G l0 X RX11 cX11_isIn 3 { frames := 0, cells := 0, slots := 0, locals := 0 } (some .boolean) := hok
  delta f_X11_isIn
  show T X A (Zm X A (iz0 (Wd))) 3 0 0 0 [(0, .int a1), (1, .int a2), (2, .int a3)] [] (Wd) _
  refine T_iload_n hok 0 rfl rfl dX11_isIn_0 ?_
  refine T_iload_n hok 1 rfl rfl dX11_isIn_1 ?_
  refine T_jp _ (fun (j15 : Bool → Option (Bool)) => ∀ (x1 : Bool), T X A (Zm X A (iz0 (Wd))) 3 0 0 15 [] [.int (bi x1)] (Wd) (j15 x1)) _ ?_ ?_
  · intro x1
    exact T_zret hok dX11_isIn_15 (Nat.zero_le _) (Nat.zero_le _) (bi_01 _) rfl
  intro j15 hj15
  refine T_jp _ (fun (j14 : Option (Bool)) => T X A (Zm X A (iz0 (Wd))) 3 0 0 14 [] [] (Wd) (j14)) _ ?_ ?_
  · skip
    refine T_iconst hok ic_0 dX11_isIn_14 ?_
    exact hj15 false
  intro j14 hj14
  refine T_icmp_lt (tgt := 14) hok dX11_isIn_2 rfl ?_ ?_
  · refine T_sub (lv' := []) [] rfl ?_
    exact hj14
  refine T_iload_n hok 0 rfl rfl dX11_isIn_5 ?_
  refine T_iload_n hok 2 rfl rfl dX11_isIn_6 ?_
  refine T_icmp_gt (tgt := 14) hok dX11_isIn_7 rfl ?_ ?_
  · refine T_sub (lv' := []) [] rfl ?_
    exact hj14
  refine T_iconst hok ic_1 dX11_isIn_10 ?_
  refine T_goto (tgt := 15) hok dX11_isIn_11 rfl ?_
  refine T_sub (lv' := []) [] rfl ?_
  exact hj15 true

set_option maxHeartbeats 4000000 in
set_option maxRecDepth 100000 in
theorem ct_X11_isOf {G : Gx} {l0 : Launch} {A : Nat → Prop} {Wd : Heap → Prop} (a1 : Int32) (a2 : Int32) : Ct G l0 A yX11_isOf cX11_isOf 2 (some .boolean) { frames := 0, cells := 0, slots := 0, locals := 0 } [.int a1, .int a2] (Wd) (iz0 (Wd)) (f_X11_isOf a1 a2) := by
  refine Ct.of rfl (Nat.le_of_ble_eq_true rfl) ?_
  intro X hok
  replace hok : Ok G l0 X RX11 cX11_isOf 2 { frames := 0, cells := 0, slots := 0, locals := 0 } (some .boolean) := hok
  delta f_X11_isOf
  show T X A (Zm X A (iz0 (Wd))) 2 0 0 0 [(0, .int a1), (1, .int a2)] [] (Wd) _
  refine T_iload_n hok 0 rfl rfl dX11_isOf_0 ?_
  refine T_iload_n hok 1 rfl rfl dX11_isOf_1 ?_
  refine T_ishr hok dX11_isOf_2 ?_
  refine T_iconst hok ic_1 dX11_isOf_3 ?_
  refine T_iand hok dX11_isOf_4 ?_
  refine T_iconst hok ic_1 dX11_isOf_5 ?_
  refine T_jp _ (fun (j14 : Bool → Option (Bool)) => ∀ (x1 : Bool), T X A (Zm X A (iz0 (Wd))) 2 0 0 14 [] [.int (bi x1)] (Wd) (j14 x1)) _ ?_ ?_
  · intro x1
    exact T_zret hok dX11_isOf_14 (Nat.zero_le _) (Nat.zero_le _) (bi_01 _) rfl
  intro j14 hj14
  refine T_icmp_ne (tgt := 13) hok dX11_isOf_6 rfl ?_ ?_
  · refine T_iconst hok ic_1 dX11_isOf_9 ?_
    refine T_goto (tgt := 14) hok dX11_isOf_10 rfl ?_
    refine T_sub (lv' := []) [] rfl ?_
    exact hj14 true
  refine T_iconst hok ic_0 dX11_isOf_13 ?_
  refine T_sub (lv' := []) [] rfl ?_
  exact hj14 false

set_option maxHeartbeats 4000000 in
set_option maxRecDepth 100000 in
theorem ct_X11_wrong {G : Gx} {l0 : Launch} {A : Nat → Prop} {b : Nat} (hA : ∀ k, k < Lm.length → A (b + k)) (I : MI) (J : MJ) (a1 : Int32) : Ct G l0 A yX11_wrong cX11_wrong 2 (some .boolean) { frames := 0, cells := 0, slots := 0, locals := 0 } [.ref (b + 0), .int a1] (Rg G b Lm (Rm b) I J) (iz1 (fun (I' : MI) => Rg G b Lm (Rm b) I' J)) (f_X11_wrong I a1) := by
  refine Ct.of rfl (Nat.le_of_ble_eq_true rfl) ?_
  intro X hok
  replace hok : Ok G l0 X RX11 cX11_wrong 2 { frames := 0, cells := 0, slots := 0, locals := 0 } (some .boolean) := hok
  delta f_X11_wrong
  show T X A (Zm X A (iz1 (fun (I' : MI) => Rg G b Lm (Rm b) I' J))) 2 0 0 0 [(0, .ref (b + 0)), (1, .int a1)] [] (Rg G b Lm (Rm b) I J) _
  refine T_aload_n hok 0 rfl rfl dX11_wrong_0 ?_
  refine T_iload_n hok 1 rfl rfl dX11_wrong_1 ?_
  refine T_putI hok hA fr_X11_157 rfl rfl lm_0 dX11_wrong_2 ?_
  intro I1
  refine T_aload_n hok 0 rfl rfl dX11_wrong_5 ?_
  refine T_aload_n hok 0 rfl rfl dX11_wrong_6 ?_
  refine T_getI hok fr_X11_160 lm_0 dX11_wrong_7 ?_
  refine T_putI hok hA fr_X11_16 rfl rfl lm_0 dX11_wrong_10 ?_
  intro I2
  refine T_iconst hok ic_0 dX11_wrong_13 ?_
  exact T_zret hok dX11_wrong_14 (Nat.zero_le _) (Nat.zero_le _) rfl rfl

set_option maxHeartbeats 4000000 in
set_option maxRecDepth 100000 in
theorem ct_X11_wordAt {G : Gx} {l0 : Launch} {A : Nat → Prop} {b : Nat} (hA : ∀ k, k < Lm.length → A (b + k)) (I : MI) (J : MJ) (a1 : Int32) (a2 : Int32) : Ct G l0 A yX11_wordAt cX11_wordAt 8 (some .int) { frames := 0, cells := 0, slots := 0, locals := 0 } [.ref (b + 0), .int a1, .int a2] (Rg G b Lm (Rm b) I J) (ii0 (Rg G b Lm (Rm b) I J)) (f_X11_wordAt I a1 a2) := by
  refine Ct.of rfl (Nat.le_of_ble_eq_true rfl) ?_
  intro X hok
  replace hok : Ok G l0 X RX11 cX11_wordAt 8 { frames := 0, cells := 0, slots := 0, locals := 0 } (some .int) := hok
  delta f_X11_wordAt
  show T X A (Zm X A (ii0 (Rg G b Lm (Rm b) I J))) 8 0 0 0 [(0, .ref (b + 0)), (1, .int a1), (2, .int a2)] [] (Rg G b Lm (Rm b) I J) _
  refine T_iconst hok ic_0 dX11_wordAt_0 ?_
  refine T_istore_n (lv' := [(3, .int (0 : Int32)), (0, .ref (b + 0)), (1, .int a1), (2, .int a2)]) hok rfl (by decide) rfl dX11_wordAt_1 ?_
  refine T_iconst hok ic_0 dX11_wordAt_2 ?_
  refine T_istore (lv' := [(4, .int (0 : Int32)), (3, .int (0 : Int32)), (0, .ref (b + 0)), (1, .int a1), (2, .int a2)]) hok (by decide) rfl dX11_wordAt_3 ?_
  refine T_sub (lv' := [(0, .ref (b + 0)), (1, .int a1), (2, .int a2), (3, .int (0 : Int32)), (4, .int (0 : Int32))]) [2, 3, 4, 1, 0] rfl ?_
  refine T_fix2 _ (fun (x1 : Int32) (x2 : Int32) => [(0, .ref (b + 0)), (1, .int a1), (2, .int a2), (3, .int x1), (4, .int x2)]) (fun (x1 : Int32) (x2 : Int32) => Rg G b Lm (Rm b) I J) ?_ FU (0 : Int32) (0 : Int32)
  intro r5 hr5 x1 x2
  refine T_iload hok 4 rfl dX11_wordAt_5 ?_
  refine T_aload_n hok 0 rfl rfl dX11_wordAt_7 ?_
  refine T_getR hok fr_X11_13 lm_0 rm_0_3 dX11_wordAt_8 ?_
  refine T_alen (v := 100) hok (by decide) lm_2 rfl dX11_wordAt_11 ?_
  refine T_icmp_ge (tgt := 126) hok dX11_wordAt_12 rfl ?_ ?_
  · refine T_iconst hok ic_m1 dX11_wordAt_126 ?_
    exact T_iret hok dX11_wordAt_127 (Nat.zero_le _) (Nat.zero_le _) rfl
  refine T_iconst hok ic_0 dX11_wordAt_15 ?_
  refine T_istore (lv' := [(5, .int (0 : Int32)), (0, .ref (b + 0)), (1, .int a1), (2, .int a2), (3, .int x1), (4, .int x2)]) hok (by decide) rfl dX11_wordAt_16 ?_
  refine T_jp _ (fun (j39 : Int32 → Option (Int32)) => ∀ (x3 : Int32), T X A (Zm X A (ii0 (Rg G b Lm (Rm b) I J))) 8 0 0 39 [(0, .ref (b + 0)), (1, .int a1), (2, .int a2), (3, .int x1), (4, .int x2), (5, .int x3)] [] (Rg G b Lm (Rm b) I J) (j39 x3)) _ ?_ ?_
  · intro x3
    refine T_iload hok 5 rfl dX11_wordAt_39 ?_
    refine T_iload_n hok 2 rfl rfl dX11_wordAt_41 ?_
    refine T_iload_n hok 1 rfl rfl dX11_wordAt_42 ?_
    refine T_isub hok dX11_wordAt_43 ?_
    refine T_jp _ (fun (j52 : Bool → Option (Int32)) => ∀ (x4 : Bool), T X A (Zm X A (ii0 (Rg G b Lm (Rm b) I J))) 8 0 0 52 [(0, .ref (b + 0)), (1, .int a1), (2, .int a2), (3, .int x1), (4, .int x2), (5, .int x3)] [.int (bi x4)] (Rg G b Lm (Rm b) I J) (j52 x4)) _ ?_ ?_
    · intro x4
      refine T_lti ?_
      intro x5
      refine T_istore (lv' := [(6, .int x5), (0, .ref (b + 0)), (1, .int a1), (2, .int a2), (3, .int x1), (4, .int x2), (5, .int x3)]) hok (by decide) rfl dX11_wordAt_52 ?_
      refine T_iconst hok ic_0 dX11_wordAt_54 ?_
      refine T_istore (lv' := [(7, .int (0 : Int32)), (6, .int x5), (0, .ref (b + 0)), (1, .int a1), (2, .int a2), (3, .int x1), (4, .int x2), (5, .int x3)]) hok (by decide) rfl dX11_wordAt_55 ?_
      refine T_jp _ (fun (j104 : Int32 → Option (Int32)) => ∀ (x6 : Int32), T X A (Zm X A (ii0 (Rg G b Lm (Rm b) I J))) 8 0 0 104 [(0, .ref (b + 0)), (1, .int a1), (2, .int a2), (3, .int x1), (4, .int x2), (5, .int x3), (6, .int x6)] [] (Rg G b Lm (Rm b) I J) (j104 x6)) _ ?_ ?_
      · intro x6
        refine T_iload hok 6 rfl dX11_wordAt_104 ?_
        refine T_if_eq (tgt := 111) hok dX11_wordAt_106 rfl ?_ ?_
        · refine T_iload hok 4 rfl dX11_wordAt_111 ?_
          refine T_iload hok 5 rfl dX11_wordAt_113 ?_
          refine T_iconst hok ic_1 dX11_wordAt_115 ?_
          refine T_iadd hok dX11_wordAt_116 ?_
          refine T_iadd hok dX11_wordAt_117 ?_
          refine T_lti ?_
          intro x7
          refine T_istore (lv' := [(4, .int x7), (0, .ref (b + 0)), (1, .int a1), (2, .int a2), (3, .int x1), (5, .int x3), (6, .int x6)]) hok (by decide) rfl dX11_wordAt_118 ?_
          refine T_iinc (lvs := fun x8 => [(3, .int x8), (4, .int x7), (0, .ref (b + 0)), (1, .int a1), (2, .int a2), (5, .int x3), (6, .int x6)]) hok 4 rfl ic_1 (by decide) (fun _ => rfl) dX11_wordAt_120 ?_
          intro x8
          refine T_goto (tgt := 5) hok dX11_wordAt_123 rfl ?_
          refine T_sub (lv' := [(0, .ref (b + 0)), (1, .int a1), (2, .int a2), (3, .int x8), (4, .int x7)]) [2, 3, 4, 0, 1] rfl ?_
          exact hr5 x8 x7
        refine T_iload_n hok 3 rfl rfl dX11_wordAt_109 ?_
        exact T_iret hok dX11_wordAt_110 (Nat.zero_le _) (Nat.zero_le _) rfl
      intro j104 hj104
      refine T_sub (lv' := [(0, .ref (b + 0)), (1, .int a1), (2, .int a2), (3, .int x1), (4, .int x2), (5, .int x3), (6, .int x5), (7, .int (0 : Int32))]) [2, 3, 4, 5, 6, 7, 1, 0] rfl ?_
      refine T_fix2 _ (fun (x9 : Int32) (x10 : Int32) => [(0, .ref (b + 0)), (1, .int a1), (2, .int a2), (3, .int x1), (4, .int x2), (5, .int x3), (6, .int x9), (7, .int x10)]) (fun (x9 : Int32) (x10 : Int32) => Rg G b Lm (Rm b) I J) ?_ FU x5 (0 : Int32)
      intro r57 hr57 x9 x10
      refine T_iload hok 7 rfl dX11_wordAt_57 ?_
      refine T_iload hok 5 rfl dX11_wordAt_59 ?_
      refine T_icmp_ge (tgt := 104) hok dX11_wordAt_61 rfl ?_ ?_
      · refine T_sub (lv' := [(0, .ref (b + 0)), (1, .int a1), (2, .int a2), (3, .int x1), (4, .int x2), (5, .int x3), (6, .int x9)]) [0, 1, 2, 3, 4, 5, 6] rfl ?_
        exact hj104 x9
      refine T_iload hok 6 rfl dX11_wordAt_64 ?_
      refine T_if_eq (tgt := 104) hok dX11_wordAt_66 rfl ?_ ?_
      · refine T_sub (lv' := [(0, .ref (b + 0)), (1, .int a1), (2, .int a2), (3, .int x1), (4, .int x2), (5, .int x3), (6, .int x9)]) [0, 1, 2, 3, 4, 5, 6] rfl ?_
        exact hj104 x9
      refine T_aload_n hok 0 rfl rfl dX11_wordAt_69 ?_
      refine T_getR hok fr_X11_13 lm_0 rm_0_3 dX11_wordAt_70 ?_
      refine T_iload hok 4 rfl dX11_wordAt_73 ?_
      refine T_iload hok 7 rfl dX11_wordAt_75 ?_
      refine T_iadd hok dX11_wordAt_77 ?_
      refine T_iald hok lm_2 dX11_wordAt_78 ?_
      refine T_aload_n hok 0 rfl rfl dX11_wordAt_79 ?_
      refine T_getR hok fr_X11_7 lm_0 rm_0_0 dX11_wordAt_80 ?_
      refine T_iload_n hok 1 rfl rfl dX11_wordAt_83 ?_
      refine T_iload hok 7 rfl dX11_wordAt_84 ?_
      refine T_iadd hok dX11_wordAt_86 ?_
      refine T_iald hok lm_1 dX11_wordAt_87 ?_
      refine T_jp _ (fun (j96 : Bool → Option (Int32)) => ∀ (x11 : Bool), T X A (Zm X A (ii0 (Rg G b Lm (Rm b) I J))) 8 0 0 96 [(0, .ref (b + 0)), (1, .int a1), (2, .int a2), (3, .int x1), (4, .int x2), (5, .int x3), (7, .int x10)] [.int (bi x11)] (Rg G b Lm (Rm b) I J) (j96 x11)) _ ?_ ?_
      · intro x11
        refine T_lti ?_
        intro x12
        refine T_istore (lv' := [(6, .int x12), (0, .ref (b + 0)), (1, .int a1), (2, .int a2), (3, .int x1), (4, .int x2), (5, .int x3), (7, .int x10)]) hok (by decide) rfl dX11_wordAt_96 ?_
        refine T_iinc (lvs := fun x13 => [(7, .int x13), (6, .int x12), (0, .ref (b + 0)), (1, .int a1), (2, .int a2), (3, .int x1), (4, .int x2), (5, .int x3)]) hok 7 rfl ic_1 (by decide) (fun _ => rfl) dX11_wordAt_98 ?_
        intro x13
        refine T_goto (tgt := 57) hok dX11_wordAt_101 rfl ?_
        refine T_sub (lv' := [(0, .ref (b + 0)), (1, .int a1), (2, .int a2), (3, .int x1), (4, .int x2), (5, .int x3), (6, .int x12), (7, .int x13)]) [2, 3, 4, 5, 6, 7, 1, 0] rfl ?_
        exact hr57 x12 x13
      intro j96 hj96
      refine T_icmp_ne (tgt := 95) hok dX11_wordAt_88 rfl ?_ ?_
      · refine T_iconst hok ic_1 dX11_wordAt_91 ?_
        refine T_goto (tgt := 96) hok dX11_wordAt_92 rfl ?_
        refine T_sub (lv' := [(0, .ref (b + 0)), (1, .int a1), (2, .int a2), (3, .int x1), (4, .int x2), (5, .int x3), (7, .int x10)]) [0, 1, 2, 3, 4, 5, 7] rfl ?_
        exact hj96 true
      refine T_iconst hok ic_0 dX11_wordAt_95 ?_
      refine T_sub (lv' := [(0, .ref (b + 0)), (1, .int a1), (2, .int a2), (3, .int x1), (4, .int x2), (5, .int x3), (7, .int x10)]) [0, 1, 2, 3, 4, 5, 7] rfl ?_
      exact hj96 false
    intro j52 hj52
    refine T_icmp_ne (tgt := 51) hok dX11_wordAt_44 rfl ?_ ?_
    · refine T_iconst hok ic_1 dX11_wordAt_47 ?_
      refine T_goto (tgt := 52) hok dX11_wordAt_48 rfl ?_
      exact hj52 true
    refine T_iconst hok ic_0 dX11_wordAt_51 ?_
    exact hj52 false
  intro j39 hj39
  refine T_sub (lv' := [(0, .ref (b + 0)), (1, .int a1), (2, .int a2), (3, .int x1), (4, .int x2), (5, .int (0 : Int32))]) [1, 2, 3, 4, 5, 0] rfl ?_
  refine T_fix1 _ (fun (x14 : Int32) => [(0, .ref (b + 0)), (1, .int a1), (2, .int a2), (3, .int x1), (4, .int x2), (5, .int x14)]) (fun (x14 : Int32) => Rg G b Lm (Rm b) I J) ?_ FU (0 : Int32)
  intro r18 hr18 x14
  refine T_aload_n hok 0 rfl rfl dX11_wordAt_18 ?_
  refine T_getR hok fr_X11_13 lm_0 rm_0_3 dX11_wordAt_19 ?_
  refine T_iload hok 4 rfl dX11_wordAt_22 ?_
  refine T_iload hok 5 rfl dX11_wordAt_24 ?_
  refine T_iadd hok dX11_wordAt_26 ?_
  refine T_iald hok lm_2 dX11_wordAt_27 ?_
  refine T_bipush hok bp_32 dX11_wordAt_28 ?_
  refine T_icmp_eq (tgt := 39) hok dX11_wordAt_30 rfl ?_ ?_
  · exact hj39 x14
  refine T_iinc (lvs := fun x15 => [(5, .int x15), (0, .ref (b + 0)), (1, .int a1), (2, .int a2), (3, .int x1), (4, .int x2)]) hok 5 rfl ic_1 (by decide) (fun _ => rfl) dX11_wordAt_33 ?_
  intro x15
  refine T_goto (tgt := 18) hok dX11_wordAt_36 rfl ?_
  refine T_sub (lv' := [(0, .ref (b + 0)), (1, .int a1), (2, .int a2), (3, .int x1), (4, .int x2), (5, .int x15)]) [1, 2, 3, 4, 5, 0] rfl ?_
  exact hr18 x15

set_option maxHeartbeats 4000000 in
set_option maxRecDepth 100000 in
theorem ct_X11_isSmall {G : Gx} {l0 : Launch} {A : Nat → Prop} {b : Nat} (hA : ∀ k, k < Lm.length → A (b + k)) (I : MI) (J : MJ) (a1 : Int32) : Ct G l0 A yX11_isSmall cX11_isSmall 2 (some .boolean) { frames := 0, cells := 0, slots := 0, locals := 0 } [.ref (b + 0), .int a1] (Rg G b Lm (Rm b) I J) (iz0 (Rg G b Lm (Rm b) I J)) (f_X11_isSmall I a1) := by
  refine Ct.of rfl (Nat.le_of_ble_eq_true rfl) ?_
  intro X hok
  replace hok : Ok G l0 X RX11 cX11_isSmall 2 { frames := 0, cells := 0, slots := 0, locals := 0 } (some .boolean) := hok
  delta f_X11_isSmall
  show T X A (Zm X A (iz0 (Rg G b Lm (Rm b) I J))) 2 0 0 0 [(0, .ref (b + 0)), (1, .int a1)] [] (Rg G b Lm (Rm b) I J) _
  refine T_iload_n hok 1 rfl rfl dX11_isSmall_0 ?_
  refine T_aload_n hok 0 rfl rfl dX11_isSmall_1 ?_
  refine T_getI hok fr_X11_163 lm_0 dX11_isSmall_2 ?_
  refine T_jp _ (fun (j35 : Bool → Option (Bool)) => ∀ (x1 : Bool), T X A (Zm X A (iz0 (Rg G b Lm (Rm b) I J))) 2 0 0 35 [] [.int (bi x1)] (Rg G b Lm (Rm b) I J) (j35 x1)) _ ?_ ?_
  · intro x1
    exact T_zret hok dX11_isSmall_35 (Nat.zero_le _) (Nat.zero_le _) (bi_01 _) rfl
  intro j35 hj35
  refine T_jp _ (fun (j34 : Option (Bool)) => T X A (Zm X A (iz0 (Rg G b Lm (Rm b) I J))) 2 0 0 34 [] [] (Rg G b Lm (Rm b) I J) (j34)) _ ?_ ?_
  · skip
    refine T_iconst hok ic_0 dX11_isSmall_34 ?_
    exact hj35 false
  intro j34 hj34
  refine T_icmp_ge (tgt := 34) hok dX11_isSmall_5 rfl ?_ ?_
  · refine T_sub (lv' := []) [] rfl ?_
    exact hj34
  refine T_aload_n hok 0 rfl rfl dX11_isSmall_8 ?_
  refine T_getR hok fr_X11_7 lm_0 rm_0_0 dX11_isSmall_9 ?_
  refine T_iload_n hok 1 rfl rfl dX11_isSmall_12 ?_
  refine T_iald hok lm_1 dX11_isSmall_13 ?_
  refine T_bipush hok bp_97 dX11_isSmall_14 ?_
  refine T_icmp_lt (tgt := 34) hok dX11_isSmall_16 rfl ?_ ?_
  · refine T_sub (lv' := []) [] rfl ?_
    exact hj34
  refine T_aload_n hok 0 rfl rfl dX11_isSmall_19 ?_
  refine T_getR hok fr_X11_7 lm_0 rm_0_0 dX11_isSmall_20 ?_
  refine T_iload_n hok 1 rfl rfl dX11_isSmall_23 ?_
  refine T_iald hok lm_1 dX11_isSmall_24 ?_
  refine T_bipush hok bp_122 dX11_isSmall_25 ?_
  refine T_icmp_gt (tgt := 34) hok dX11_isSmall_27 rfl ?_ ?_
  · refine T_sub (lv' := []) [] rfl ?_
    exact hj34
  refine T_iconst hok ic_1 dX11_isSmall_30 ?_
  refine T_goto (tgt := 35) hok dX11_isSmall_31 rfl ?_
  refine T_sub (lv' := []) [] rfl ?_
  exact hj35 true

set_option maxHeartbeats 4000000 in
set_option maxRecDepth 100000 in
theorem ct_X11_isDigit {G : Gx} {l0 : Launch} {A : Nat → Prop} {b : Nat} (hA : ∀ k, k < Lm.length → A (b + k)) (I : MI) (J : MJ) (a1 : Int32) : Ct G l0 A yX11_isDigit cX11_isDigit 2 (some .boolean) { frames := 0, cells := 0, slots := 0, locals := 0 } [.ref (b + 0), .int a1] (Rg G b Lm (Rm b) I J) (iz0 (Rg G b Lm (Rm b) I J)) (f_X11_isDigit I a1) := by
  refine Ct.of rfl (Nat.le_of_ble_eq_true rfl) ?_
  intro X hok
  replace hok : Ok G l0 X RX11 cX11_isDigit 2 { frames := 0, cells := 0, slots := 0, locals := 0 } (some .boolean) := hok
  delta f_X11_isDigit
  show T X A (Zm X A (iz0 (Rg G b Lm (Rm b) I J))) 2 0 0 0 [(0, .ref (b + 0)), (1, .int a1)] [] (Rg G b Lm (Rm b) I J) _
  refine T_iload_n hok 1 rfl rfl dX11_isDigit_0 ?_
  refine T_aload_n hok 0 rfl rfl dX11_isDigit_1 ?_
  refine T_getI hok fr_X11_163 lm_0 dX11_isDigit_2 ?_
  refine T_jp _ (fun (j35 : Bool → Option (Bool)) => ∀ (x1 : Bool), T X A (Zm X A (iz0 (Rg G b Lm (Rm b) I J))) 2 0 0 35 [] [.int (bi x1)] (Rg G b Lm (Rm b) I J) (j35 x1)) _ ?_ ?_
  · intro x1
    exact T_zret hok dX11_isDigit_35 (Nat.zero_le _) (Nat.zero_le _) (bi_01 _) rfl
  intro j35 hj35
  refine T_jp _ (fun (j34 : Option (Bool)) => T X A (Zm X A (iz0 (Rg G b Lm (Rm b) I J))) 2 0 0 34 [] [] (Rg G b Lm (Rm b) I J) (j34)) _ ?_ ?_
  · skip
    refine T_iconst hok ic_0 dX11_isDigit_34 ?_
    exact hj35 false
  intro j34 hj34
  refine T_icmp_ge (tgt := 34) hok dX11_isDigit_5 rfl ?_ ?_
  · refine T_sub (lv' := []) [] rfl ?_
    exact hj34
  refine T_aload_n hok 0 rfl rfl dX11_isDigit_8 ?_
  refine T_getR hok fr_X11_7 lm_0 rm_0_0 dX11_isDigit_9 ?_
  refine T_iload_n hok 1 rfl rfl dX11_isDigit_12 ?_
  refine T_iald hok lm_1 dX11_isDigit_13 ?_
  refine T_bipush hok bp_48 dX11_isDigit_14 ?_
  refine T_icmp_lt (tgt := 34) hok dX11_isDigit_16 rfl ?_ ?_
  · refine T_sub (lv' := []) [] rfl ?_
    exact hj34
  refine T_aload_n hok 0 rfl rfl dX11_isDigit_19 ?_
  refine T_getR hok fr_X11_7 lm_0 rm_0_0 dX11_isDigit_20 ?_
  refine T_iload_n hok 1 rfl rfl dX11_isDigit_23 ?_
  refine T_iald hok lm_1 dX11_isDigit_24 ?_
  refine T_bipush hok bp_57 dX11_isDigit_25 ?_
  refine T_icmp_gt (tgt := 34) hok dX11_isDigit_27 rfl ?_ ?_
  · refine T_sub (lv' := []) [] rfl ?_
    exact hj34
  refine T_iconst hok ic_1 dX11_isDigit_30 ?_
  refine T_goto (tgt := 35) hok dX11_isDigit_31 rfl ?_
  refine T_sub (lv' := []) [] rfl ?_
  exact hj35 true

set_option maxHeartbeats 4000000 in
set_option maxRecDepth 100000 in
theorem ct_X11_packed {G : Gx} {l0 : Launch} {A : Nat → Prop} {b : Nat} (hA : ∀ k, k < Lm.length → A (b + k)) (I : MI) (J : MJ) (a1 : Int32) (a2 : Int32) : Ct G l0 A yX11_packed cX11_packed 5 (some .int) { frames := 0, cells := 0, slots := 0, locals := 0 } [.ref (b + 0), .int a1, .int a2] (Rg G b Lm (Rm b) I J) (ii0 (Rg G b Lm (Rm b) I J)) (f_X11_packed I a1 a2) := by
  refine Ct.of rfl (Nat.le_of_ble_eq_true rfl) ?_
  intro X hok
  replace hok : Ok G l0 X RX11 cX11_packed 5 { frames := 0, cells := 0, slots := 0, locals := 0 } (some .int) := hok
  delta f_X11_packed
  show T X A (Zm X A (ii0 (Rg G b Lm (Rm b) I J))) 5 0 0 0 [(0, .ref (b + 0)), (1, .int a1), (2, .int a2)] [] (Rg G b Lm (Rm b) I J) _
  refine T_iconst hok ic_0 dX11_packed_0 ?_
  refine T_istore_n (lv' := [(3, .int (0 : Int32)), (0, .ref (b + 0)), (1, .int a1), (2, .int a2)]) hok rfl (by decide) rfl dX11_packed_1 ?_
  refine T_iload_n hok 2 rfl rfl dX11_packed_2 ?_
  refine T_istore (lv' := [(4, .int a1), (3, .int (0 : Int32)), (0, .ref (b + 0)), (1, .int a1), (2, .int a2)]) hok (by decide) rfl dX11_packed_3 ?_
  refine T_sub (lv' := [(0, .ref (b + 0)), (1, .int a1), (2, .int a2), (3, .int (0 : Int32)), (4, .int a1)]) [2, 3, 4, 1, 0] rfl ?_
  refine T_fix2 _ (fun (x1 : Int32) (x2 : Int32) => [(0, .ref (b + 0)), (1, .int a1), (2, .int a2), (3, .int x1), (4, .int x2)]) (fun (x1 : Int32) (x2 : Int32) => Rg G b Lm (Rm b) I J) ?_ FU (0 : Int32) a1
  intro r5 hr5 x1 x2
  refine T_iload hok 4 rfl dX11_packed_5 ?_
  refine T_iload_n hok 1 rfl rfl dX11_packed_7 ?_
  refine T_bipush hok bp_6 dX11_packed_8 ?_
  refine T_iadd hok dX11_packed_10 ?_
  refine T_icmp_ge (tgt := 45) hok dX11_packed_11 rfl ?_ ?_
  · refine T_iload_n hok 3 rfl rfl dX11_packed_45 ?_
    exact T_iret hok dX11_packed_46 (Nat.zero_le _) (Nat.zero_le _) rfl
  refine T_iload_n hok 3 rfl rfl dX11_packed_14 ?_
  refine T_iconst hok ic_5 dX11_packed_15 ?_
  refine T_ishl hok dX11_packed_16 ?_
  refine T_iload hok 4 rfl dX11_packed_17 ?_
  refine T_iload_n hok 2 rfl rfl dX11_packed_19 ?_
  refine T_jp _ (fun (j37 : Int32 → Int32 → Option (Int32)) => ∀ (x3 : Int32) (x4 : Int32), T X A (Zm X A (ii0 (Rg G b Lm (Rm b) I J))) 5 0 0 37 [(0, .ref (b + 0)), (1, .int a1), (2, .int a2), (4, .int x2)] [.int x3, .int x4] (Rg G b Lm (Rm b) I J) (j37 x3 x4)) _ ?_ ?_
  · intro x3 x4
    refine T_ior hok dX11_packed_37 ?_
    refine T_lti ?_
    intro x5
    refine T_istore_n (lv' := [(3, .int x5), (0, .ref (b + 0)), (1, .int a1), (2, .int a2), (4, .int x2)]) hok rfl (by decide) rfl dX11_packed_38 ?_
    refine T_iinc (lvs := fun x6 => [(4, .int x6), (3, .int x5), (0, .ref (b + 0)), (1, .int a1), (2, .int a2)]) hok 4 rfl ic_1 (by decide) (fun _ => rfl) dX11_packed_39 ?_
    intro x6
    refine T_goto (tgt := 5) hok dX11_packed_42 rfl ?_
    refine T_sub (lv' := [(0, .ref (b + 0)), (1, .int a1), (2, .int a2), (3, .int x5), (4, .int x6)]) [2, 3, 4, 1, 0] rfl ?_
    exact hr5 x5 x6
  intro j37 hj37
  refine T_icmp_ge (tgt := 36) hok dX11_packed_20 rfl ?_ ?_
  · refine T_iconst hok ic_0 dX11_packed_36 ?_
    refine T_sub (lv' := [(0, .ref (b + 0)), (1, .int a1), (2, .int a2), (4, .int x2)]) [0, 1, 2, 4] rfl ?_
    exact hj37 (0 : Int32) (x1 <<< ((5 : Int32) &&& (31 : Int32)))
  refine T_aload_n hok 0 rfl rfl dX11_packed_23 ?_
  refine T_getR hok fr_X11_7 lm_0 rm_0_0 dX11_packed_24 ?_
  refine T_iload hok 4 rfl dX11_packed_27 ?_
  refine T_iald hok lm_1 dX11_packed_29 ?_
  refine T_bipush hok bp_96 dX11_packed_30 ?_
  refine T_isub hok dX11_packed_32 ?_
  refine T_goto (tgt := 37) hok dX11_packed_33 rfl ?_
  refine T_sub (lv' := [(0, .ref (b + 0)), (1, .int a1), (2, .int a2), (4, .int x2)]) [0, 1, 2, 4] rfl ?_
  exact hj37 ((I 1 (ix x2)) - (96 : Int32)) (x1 <<< ((5 : Int32) &&& (31 : Int32)))

set_option maxHeartbeats 4000000 in
set_option maxRecDepth 100000 in
theorem ct_X11_signToken {G : Gx} {l0 : Launch} {A : Nat → Prop} {b : Nat} (hA : ∀ k, k < Lm.length → A (b + k)) (I : MI) (J : MJ) : Ct G l0 A yX11_signToken cX11_signToken 4 none { frames := 0, cells := 0, slots := 0, locals := 0 } [.ref (b + 0)] (Rg G b Lm (Rm b) I J) (iv1 (fun (I' : MI) => Rg G b Lm (Rm b) I' J)) (f_X11_signToken I) := by
  refine Ct.of rfl (Nat.le_of_ble_eq_true rfl) ?_
  intro X hok
  replace hok : Ok G l0 X RX11 cX11_signToken 4 { frames := 0, cells := 0, slots := 0, locals := 0 } none := hok
  delta f_X11_signToken
  show T X A (Zm X A (iv1 (fun (I' : MI) => Rg G b Lm (Rm b) I' J))) 4 0 0 0 [(0, .ref (b + 0))] [] (Rg G b Lm (Rm b) I J) _
  refine T_aload_n hok 0 rfl rfl dX11_signToken_0 ?_
  refine T_aload_n hok 0 rfl rfl dX11_signToken_1 ?_
  refine T_getR hok fr_X11_7 lm_0 rm_0_0 dX11_signToken_2 ?_
  refine T_aload_n hok 0 rfl rfl dX11_signToken_5 ?_
  refine T_getI hok fr_X11_166 lm_0 dX11_signToken_6 ?_
  refine T_iald hok lm_1 dX11_signToken_9 ?_
  refine T_putI hok hA fr_X11_180 rfl rfl lm_0 dX11_signToken_10 ?_
  intro I1
  refine T_aload_n hok 0 rfl rfl dX11_signToken_13 ?_
  refine T_dup hok rfl dX11_signToken_14 ?_
  refine T_getI hok fr_X11_166 lm_0 dX11_signToken_15 ?_
  refine T_iconst hok ic_1 dX11_signToken_18 ?_
  refine T_iadd hok dX11_signToken_19 ?_
  refine T_putI hok hA fr_X11_166 rfl rfl lm_0 dX11_signToken_20 ?_
  intro I2
  refine T_aload_n hok 0 rfl rfl dX11_signToken_23 ?_
  refine T_getI hok fr_X11_180 lm_0 dX11_signToken_24 ?_
  refine T_bipush hok bp_60 dX11_signToken_27 ?_
  refine T_jp _ (fun (j290 : MI → Option (MI)) => ∀ (I3 : MI), T X A (Zm X A (iv1 (fun (I' : MI) => Rg G b Lm (Rm b) I' J))) 4 0 0 290 [] [] (Rg G b Lm (Rm b) I3 J) (j290 I3)) _ ?_ ?_
  · intro I3
    exact T_vret hok dX11_signToken_290 (Nat.zero_le _) (Nat.zero_le _) rfl
  intro j290 hj290
  refine T_jp _ (fun (j50 : Option (MI)) => T X A (Zm X A (iv1 (fun (I' : MI) => Rg G b Lm (Rm b) I' J))) 4 0 0 50 [(0, .ref (b + 0))] [] (Rg G b Lm (Rm b) I2 J) (j50)) _ ?_ ?_
  · skip
    refine T_aload_n hok 0 rfl rfl dX11_signToken_50 ?_
    refine T_getI hok fr_X11_166 lm_0 dX11_signToken_51 ?_
    refine T_aload_n hok 0 rfl rfl dX11_signToken_54 ?_
    refine T_getI hok fr_X11_163 lm_0 dX11_signToken_55 ?_
    refine T_jp _ (fun (j74 : Int32 → Option (MI)) => ∀ (x4 : Int32), T X A (Zm X A (iv1 (fun (I' : MI) => Rg G b Lm (Rm b) I' J))) 4 0 0 74 [(0, .ref (b + 0))] [.int x4] (Rg G b Lm (Rm b) I2 J) (j74 x4)) _ ?_ ?_
    · intro x4
      refine T_istore_n (lv' := [(1, .int x4), (0, .ref (b + 0))]) hok rfl (by decide) rfl dX11_signToken_74 ?_
      refine T_aload_n hok 1 rfl rfl dX11_signToken_75 ?_
      refine T_getI hok fr_X11_180 lm_0 dX11_signToken_76 ?_
      refine T_bipush hok bp_61 dX11_signToken_79 ?_
      refine T_jp _ (fun (j95 : Bool → Option (MI)) => ∀ (x5 : Bool), T X A (Zm X A (iv1 (fun (I' : MI) => Rg G b Lm (Rm b) I' J))) 4 0 0 95 [(0, .ref (b + 0)), (1, .int x4)] [.int (bi x5)] (Rg G b Lm (Rm b) I2 J) (j95 x5)) _ ?_ ?_
      · intro x5
        refine T_lti ?_
        intro x6
        refine T_istore_n (lv' := [(2, .int x6), (0, .ref (b + 0)), (1, .int x4)]) hok rfl (by decide) rfl dX11_signToken_95 ?_
        refine T_aload_n hok 1 rfl rfl dX11_signToken_96 ?_
        refine T_getI hok fr_X11_180 lm_0 dX11_signToken_97 ?_
        refine T_bipush hok bp_60 dX11_signToken_100 ?_
        refine T_jp _ (fun (j116 : Bool → Option (MI)) => ∀ (x7 : Bool), T X A (Zm X A (iv1 (fun (I' : MI) => Rg G b Lm (Rm b) I' J))) 4 0 0 116 [(0, .ref (b + 0)), (2, .int x6)] [.int (bi x7)] (Rg G b Lm (Rm b) I2 J) (j116 x7)) _ ?_ ?_
        · intro x7
          refine T_lti ?_
          intro x8
          refine T_istore_n (lv' := [(3, .int x8), (0, .ref (b + 0)), (2, .int x6)]) hok rfl (by decide) rfl dX11_signToken_116 ?_
          refine T_iload_n hok 2 rfl rfl dX11_signToken_117 ?_
          refine T_jp _ (fun (j135 : MI → Option (MI)) => ∀ (I9 : MI), T X A (Zm X A (iv1 (fun (I' : MI) => Rg G b Lm (Rm b) I' J))) 4 0 0 135 [(0, .ref (b + 0)), (2, .int x6), (3, .int x8)] [] (Rg G b Lm (Rm b) I9 J) (j135 I9)) _ ?_ ?_
          · intro I9
            refine T_aload_n hok 0 rfl rfl dX11_signToken_135 ?_
            refine T_iconst hok ic_5 dX11_signToken_136 ?_
            refine T_putI hok hA fr_X11_169 rfl rfl lm_0 dX11_signToken_137 ?_
            intro I10
            refine T_aload_n hok 0 rfl rfl dX11_signToken_140 ?_
            refine T_aload_n hok 0 rfl rfl dX11_signToken_141 ?_
            refine T_getI hok fr_X11_180 lm_0 dX11_signToken_142 ?_
            refine T_bipush hok bp_61 dX11_signToken_145 ?_
            refine T_jp _ (fun (j192 : Int32 → Option (MI)) => ∀ (x11 : Int32), T X A (Zm X A (iv1 (fun (I' : MI) => Rg G b Lm (Rm b) I' J))) 4 0 0 192 [] [.int x11, .ref (b + 0)] (Rg G b Lm (Rm b) I10 J) (j192 x11)) _ ?_ ?_
            · intro x11
              refine T_putI hok hA fr_X11_180 rfl rfl lm_0 dX11_signToken_192 ?_
              intro I12
              refine T_goto (tgt := 290) hok dX11_signToken_195 rfl ?_
              exact hj290 I12
            intro j192 hj192
            refine T_icmp_ne (tgt := 154) hok dX11_signToken_147 rfl ?_ ?_
            · refine T_iconst hok ic_2 dX11_signToken_150 ?_
              refine T_goto (tgt := 192) hok dX11_signToken_151 rfl ?_
              refine T_sub (lv' := []) [] rfl ?_
              exact hj192 (2 : Int32)
            refine T_aload_n hok 0 rfl rfl dX11_signToken_154 ?_
            refine T_getI hok fr_X11_180 lm_0 dX11_signToken_155 ?_
            refine T_bipush hok bp_60 dX11_signToken_158 ?_
            refine T_icmp_ne (tgt := 183) hok dX11_signToken_160 rfl ?_ ?_
            · refine T_iload_n hok 1 rfl rfl dX11_signToken_163 ?_
              refine T_if_eq (tgt := 171) hok dX11_signToken_164 rfl ?_ ?_
              · refine T_iload_n hok 2 rfl rfl dX11_signToken_171 ?_
                refine T_if_eq (tgt := 179) hok dX11_signToken_172 rfl ?_ ?_
                · refine T_iconst hok ic_0 dX11_signToken_179 ?_
                  refine T_goto (tgt := 192) hok dX11_signToken_180 rfl ?_
                  refine T_sub (lv' := []) [] rfl ?_
                  exact hj192 (0 : Int32)
                refine T_iconst hok ic_3 dX11_signToken_175 ?_
                refine T_goto (tgt := 192) hok dX11_signToken_176 rfl ?_
                refine T_sub (lv' := []) [] rfl ?_
                exact hj192 (3 : Int32)
              refine T_iconst hok ic_1 dX11_signToken_167 ?_
              refine T_goto (tgt := 192) hok dX11_signToken_168 rfl ?_
              refine T_sub (lv' := []) [] rfl ?_
              exact hj192 (1 : Int32)
            refine T_iload_n hok 1 rfl rfl dX11_signToken_183 ?_
            refine T_if_eq (tgt := 191) hok dX11_signToken_184 rfl ?_ ?_
            · refine T_iconst hok ic_5 dX11_signToken_191 ?_
              refine T_sub (lv' := []) [] rfl ?_
              exact hj192 (5 : Int32)
            refine T_iconst hok ic_4 dX11_signToken_187 ?_
            refine T_goto (tgt := 192) hok dX11_signToken_188 rfl ?_
            refine T_sub (lv' := []) [] rfl ?_
            exact hj192 (4 : Int32)
          intro j135 hj135
          refine T_jp _ (fun (j125 : Option (MI)) => T X A (Zm X A (iv1 (fun (I' : MI) => Rg G b Lm (Rm b) I' J))) 4 0 0 125 [(0, .ref (b + 0)), (2, .int x6), (3, .int x8)] [] (Rg G b Lm (Rm b) I2 J) (j125)) _ ?_ ?_
          · skip
            refine T_aload_n hok 0 rfl rfl dX11_signToken_125 ?_
            refine T_dup hok rfl dX11_signToken_126 ?_
            refine T_getI hok fr_X11_166 lm_0 dX11_signToken_127 ?_
            refine T_iconst hok ic_1 dX11_signToken_130 ?_
            refine T_iadd hok dX11_signToken_131 ?_
            refine T_putI hok hA fr_X11_166 rfl rfl lm_0 dX11_signToken_132 ?_
            intro I13
            exact hj135 I13
          intro j125 hj125
          refine T_if_ne (tgt := 125) hok dX11_signToken_118 rfl ?_ ?_
          · refine T_iload_n hok 0 rfl rfl dX11_signToken_121 ?_
            refine T_if_eq (tgt := 135) hok dX11_signToken_122 rfl ?_ ?_
            · refine T_sub (lv' := [(0, .ref (b + 0)), (2, .int x6), (3, .int x8)]) [1, 2, 0] rfl ?_
              exact hj135 I2
            refine T_sub (lv' := [(0, .ref (b + 0)), (2, .int x6), (3, .int x8)]) [1, 2, 0] rfl ?_
            exact hj125
          refine T_sub (lv' := [(0, .ref (b + 0)), (2, .int x6), (3, .int x8)]) [1, 2, 0] rfl ?_
          exact hj125
        intro j116 hj116
        refine T_jp _ (fun (j115 : Option (MI)) => T X A (Zm X A (iv1 (fun (I' : MI) => Rg G b Lm (Rm b) I' J))) 4 0 0 115 [(0, .ref (b + 0)), (2, .int x6)] [] (Rg G b Lm (Rm b) I2 J) (j115)) _ ?_ ?_
        · skip
          refine T_iconst hok ic_0 dX11_signToken_115 ?_
          exact hj116 false
        intro j115 hj115
        refine T_icmp_ne (tgt := 115) hok dX11_signToken_102 rfl ?_ ?_
        · refine T_iload_n hok 2 rfl rfl dX11_signToken_105 ?_
          refine T_bipush hok bp_62 dX11_signToken_106 ?_
          refine T_icmp_ne (tgt := 115) hok dX11_signToken_108 rfl ?_ ?_
          · refine T_iconst hok ic_1 dX11_signToken_111 ?_
            refine T_goto (tgt := 116) hok dX11_signToken_112 rfl ?_
            refine T_sub (lv' := [(0, .ref (b + 0)), (2, .int x6)]) [1, 0] rfl ?_
            exact hj116 true
          refine T_sub (lv' := [(0, .ref (b + 0)), (2, .int x6)]) [1, 0] rfl ?_
          exact hj115
        refine T_sub (lv' := [(0, .ref (b + 0)), (2, .int x6)]) [1, 0] rfl ?_
        exact hj115
      intro j95 hj95
      refine T_jp _ (fun (j94 : Option (MI)) => T X A (Zm X A (iv1 (fun (I' : MI) => Rg G b Lm (Rm b) I' J))) 4 0 0 94 [(0, .ref (b + 0)), (1, .int x4)] [] (Rg G b Lm (Rm b) I2 J) (j94)) _ ?_ ?_
      · skip
        refine T_iconst hok ic_0 dX11_signToken_94 ?_
        exact hj95 false
      intro j94 hj94
      refine T_icmp_eq (tgt := 94) hok dX11_signToken_81 rfl ?_ ?_
      · refine T_sub (lv' := [(0, .ref (b + 0)), (1, .int x4)]) [1, 0] rfl ?_
        exact hj94
      refine T_iload_n hok 0 rfl rfl dX11_signToken_84 ?_
      refine T_bipush hok bp_61 dX11_signToken_85 ?_
      refine T_icmp_ne (tgt := 94) hok dX11_signToken_87 rfl ?_ ?_
      · refine T_iconst hok ic_1 dX11_signToken_90 ?_
        refine T_goto (tgt := 95) hok dX11_signToken_91 rfl ?_
        refine T_sub (lv' := [(0, .ref (b + 0)), (1, .int x4)]) [1, 0] rfl ?_
        exact hj95 true
      refine T_sub (lv' := [(0, .ref (b + 0)), (1, .int x4)]) [1, 0] rfl ?_
      exact hj94
    intro j74 hj74
    refine T_icmp_ge (tgt := 73) hok dX11_signToken_58 rfl ?_ ?_
    · refine T_iconst hok ic_0 dX11_signToken_73 ?_
      exact hj74 (0 : Int32)
    refine T_aload_n hok 0 rfl rfl dX11_signToken_61 ?_
    refine T_getR hok fr_X11_7 lm_0 rm_0_0 dX11_signToken_62 ?_
    refine T_aload_n hok 0 rfl rfl dX11_signToken_65 ?_
    refine T_getI hok fr_X11_166 lm_0 dX11_signToken_66 ?_
    refine T_iald hok lm_1 dX11_signToken_69 ?_
    refine T_goto (tgt := 74) hok dX11_signToken_70 rfl ?_
    exact hj74 (I2 1 (ix (I2 0 7)))
  intro j50 hj50
  refine T_icmp_eq (tgt := 50) hok dX11_signToken_29 rfl ?_ ?_
  · exact hj50
  refine T_aload_n hok 0 rfl rfl dX11_signToken_32 ?_
  refine T_getI hok fr_X11_180 lm_0 dX11_signToken_33 ?_
  refine T_bipush hok bp_62 dX11_signToken_36 ?_
  refine T_icmp_eq (tgt := 50) hok dX11_signToken_38 rfl ?_ ?_
  · exact hj50
  refine T_aload_n hok 0 rfl rfl dX11_signToken_41 ?_
  refine T_getI hok fr_X11_180 lm_0 dX11_signToken_42 ?_
  refine T_bipush hok bp_61 dX11_signToken_45 ?_
  refine T_icmp_ne (tgt := 198) hok dX11_signToken_47 rfl ?_ ?_
  · exact hj50
  refine T_aload_n hok 0 rfl rfl dX11_signToken_198 ?_
  refine T_getI hok fr_X11_180 lm_0 dX11_signToken_199 ?_
  refine T_bipush hok bp_59 dX11_signToken_202 ?_
  refine T_jp _ (fun (j275 : Bool → Option (MI)) => ∀ (x14 : Bool), T X A (Zm X A (iv1 (fun (I' : MI) => Rg G b Lm (Rm b) I' J))) 4 0 0 275 [(0, .ref (b + 0))] [.int (bi x14)] (Rg G b Lm (Rm b) I2 J) (j275 x14)) _ ?_ ?_
  · intro x14
    refine T_lti ?_
    intro x15
    refine T_istore_n (lv' := [(1, .int x15), (0, .ref (b + 0))]) hok rfl (by decide) rfl dX11_signToken_275 ?_
    refine T_aload_n hok 1 rfl rfl dX11_signToken_276 ?_
    refine T_iload_n hok 0 rfl rfl dX11_signToken_277 ?_
    refine T_jp _ (fun (j287 : Int32 → Option (MI)) => ∀ (x16 : Int32), T X A (Zm X A (iv1 (fun (I' : MI) => Rg G b Lm (Rm b) I' J))) 4 0 0 287 [] [.int x16, .ref (b + 0)] (Rg G b Lm (Rm b) I2 J) (j287 x16)) _ ?_ ?_
    · intro x16
      refine T_putI hok hA fr_X11_169 rfl rfl lm_0 dX11_signToken_287 ?_
      intro I17
      exact hj290 I17
    intro j287 hj287
    refine T_if_eq (tgt := 285) hok dX11_signToken_278 rfl ?_ ?_
    · refine T_bipush hok bp_6 dX11_signToken_285 ?_
      refine T_sub (lv' := []) [] rfl ?_
      exact hj287 (6 : Int32)
    refine T_iconst hok ic_4 dX11_signToken_281 ?_
    refine T_goto (tgt := 287) hok dX11_signToken_282 rfl ?_
    refine T_sub (lv' := []) [] rfl ?_
    exact hj287 (4 : Int32)
  intro j275 hj275
  refine T_jp _ (fun (j270 : Option (MI)) => T X A (Zm X A (iv1 (fun (I' : MI) => Rg G b Lm (Rm b) I' J))) 4 0 0 270 [(0, .ref (b + 0))] [] (Rg G b Lm (Rm b) I2 J) (j270)) _ ?_ ?_
  · skip
    refine T_iconst hok ic_1 dX11_signToken_270 ?_
    refine T_goto (tgt := 275) hok dX11_signToken_271 rfl ?_
    exact hj275 true
  intro j270 hj270
  refine T_icmp_eq (tgt := 270) hok dX11_signToken_204 rfl ?_ ?_
  · exact hj270
  refine T_aload_n hok 0 rfl rfl dX11_signToken_207 ?_
  refine T_getI hok fr_X11_180 lm_0 dX11_signToken_208 ?_
  refine T_bipush hok bp_40 dX11_signToken_211 ?_
  refine T_icmp_eq (tgt := 270) hok dX11_signToken_213 rfl ?_ ?_
  · exact hj270
  refine T_aload_n hok 0 rfl rfl dX11_signToken_216 ?_
  refine T_getI hok fr_X11_180 lm_0 dX11_signToken_217 ?_
  refine T_bipush hok bp_41 dX11_signToken_220 ?_
  refine T_icmp_eq (tgt := 270) hok dX11_signToken_222 rfl ?_ ?_
  · exact hj270
  refine T_aload_n hok 0 rfl rfl dX11_signToken_225 ?_
  refine T_getI hok fr_X11_180 lm_0 dX11_signToken_226 ?_
  refine T_bipush hok bp_43 dX11_signToken_229 ?_
  refine T_icmp_eq (tgt := 270) hok dX11_signToken_231 rfl ?_ ?_
  · exact hj270
  refine T_aload_n hok 0 rfl rfl dX11_signToken_234 ?_
  refine T_getI hok fr_X11_180 lm_0 dX11_signToken_235 ?_
  refine T_bipush hok bp_45 dX11_signToken_238 ?_
  refine T_icmp_eq (tgt := 270) hok dX11_signToken_240 rfl ?_ ?_
  · exact hj270
  refine T_aload_n hok 0 rfl rfl dX11_signToken_243 ?_
  refine T_getI hok fr_X11_180 lm_0 dX11_signToken_244 ?_
  refine T_bipush hok bp_42 dX11_signToken_247 ?_
  refine T_icmp_eq (tgt := 270) hok dX11_signToken_249 rfl ?_ ?_
  · exact hj270
  refine T_aload_n hok 0 rfl rfl dX11_signToken_252 ?_
  refine T_getI hok fr_X11_180 lm_0 dX11_signToken_253 ?_
  refine T_bipush hok bp_47 dX11_signToken_256 ?_
  refine T_icmp_eq (tgt := 270) hok dX11_signToken_258 rfl ?_ ?_
  · exact hj270
  refine T_aload_n hok 0 rfl rfl dX11_signToken_261 ?_
  refine T_getI hok fr_X11_180 lm_0 dX11_signToken_262 ?_
  refine T_bipush hok bp_37 dX11_signToken_265 ?_
  refine T_icmp_ne (tgt := 274) hok dX11_signToken_267 rfl ?_ ?_
  · exact hj270
  refine T_iconst hok ic_0 dX11_signToken_274 ?_
  exact hj275 false

set_option maxHeartbeats 4000000 in
set_option maxRecDepth 100000 in
theorem ct_X11_token {G : Gx} {l0 : Launch} {A : Nat → Prop} {b : Nat} (hA : ∀ k, k < Lm.length → A (b + k)) (I : MI) (J : MJ) : Ct G l0 A yX11_token cX11_token 1 none { frames := 1, cells := 0, slots := 0, locals := 27 } [.ref (b + 0)] (Rg G b Lm (Rm b) I J) (iv1 (fun (I' : MI) => Rg G b Lm (Rm b) I' J)) (f_X11_token I) := by
  refine Ct.of rfl (Nat.le_of_ble_eq_true rfl) ?_
  intro X hok
  replace hok : Ok G l0 X RX11 cX11_token 1 { frames := 1, cells := 0, slots := 0, locals := 27 } none := hok
  delta f_X11_token
  show T X A (Zm X A (iv1 (fun (I' : MI) => Rg G b Lm (Rm b) I' J))) 1 0 0 0 [(0, .ref (b + 0))] [] (Rg G b Lm (Rm b) I J) _
  refine T_jp _ (fun (j52 : MI → Option (MI)) => ∀ (I1 : MI), T X A (Zm X A (iv1 (fun (I' : MI) => Rg G b Lm (Rm b) I' J))) 1 0 0 52 [(0, .ref (b + 0))] [] (Rg G b Lm (Rm b) I1 J) (j52 I1)) _ ?_ ?_
  · intro I1
    refine T_aload_n hok 0 rfl rfl dX11_token_52 ?_
    refine T_aload_n hok 0 rfl rfl dX11_token_53 ?_
    refine T_getI hok fr_X11_166 lm_0 dX11_token_54 ?_
    refine T_putI hok hA fr_X11_160 rfl rfl lm_0 dX11_token_57 ?_
    intro I2
    refine T_aload_n hok 0 rfl rfl dX11_token_60 ?_
    refine T_getI hok fr_X11_166 lm_0 dX11_token_61 ?_
    refine T_aload_n hok 0 rfl rfl dX11_token_64 ?_
    refine T_getI hok fr_X11_163 lm_0 dX11_token_65 ?_
    refine T_jp _ (fun (j281 : MI → Option (MI)) => ∀ (I3 : MI), T X A (Zm X A (iv1 (fun (I' : MI) => Rg G b Lm (Rm b) I' J))) 1 0 0 281 [] [] (Rg G b Lm (Rm b) I3 J) (j281 I3)) _ ?_ ?_
    · intro I3
      exact T_vret hok dX11_token_281 (Nat.zero_le _) (Nat.zero_le _) rfl
    intro j281 hj281
    refine T_icmp_ne (tgt := 79) hok dX11_token_68 rfl ?_ ?_
    · refine T_aload_n hok 0 rfl rfl dX11_token_71 ?_
      refine T_iconst hok ic_0 dX11_token_72 ?_
      refine T_putI hok hA fr_X11_169 rfl rfl lm_0 dX11_token_73 ?_
      intro I4
      refine T_goto (tgt := 281) hok dX11_token_76 rfl ?_
      refine T_sub (lv' := []) [] rfl ?_
      exact hj281 I4
    refine T_aload_n hok 0 rfl rfl dX11_token_79 ?_
    refine T_aload_n hok 0 rfl rfl dX11_token_80 ?_
    refine T_getI hok fr_X11_166 lm_0 dX11_token_81 ?_
    refine T_cz0 (CR_V (rest := []) hok (ct_X11_isSmall hA I2 J (I2 0 7)) mw_X11_isSmall mv_X11_isSmall ml_X11_172 lm_0 dX11_token_84 rfl rfl (roomOk rfl) rfl) rfl rfl ?_
    intro x5
    refine T_ifb_eq (tgt := 192) hok dX11_token_87 rfl ?_ ?_
    · refine T_jp _ (fun (j114 : MI → Option (MI)) => ∀ (I6 : MI), T X A (Zm X A (iv1 (fun (I' : MI) => Rg G b Lm (Rm b) I' J))) 1 0 0 114 [(0, .ref (b + 0))] [] (Rg G b Lm (Rm b) I6 J) (j114 I6)) _ ?_ ?_
      · intro I6
        refine T_aload_n hok 0 rfl rfl dX11_token_114 ?_
        refine T_aload_n hok 0 rfl rfl dX11_token_115 ?_
        refine T_aload_n hok 0 rfl rfl dX11_token_116 ?_
        refine T_getI hok fr_X11_160 lm_0 dX11_token_117 ?_
        refine T_aload_n hok 0 rfl rfl dX11_token_120 ?_
        refine T_getI hok fr_X11_166 lm_0 dX11_token_121 ?_
        refine T_ci0 (CR_V (rest := [.ref (b + 0)]) hok (ct_X11_wordAt hA I6 J (I6 0 10) (I6 0 7)) mw_X11_wordAt mv_X11_wordAt ml_X11_176 lm_0 dX11_token_124 rfl rfl (roomOk rfl) rfl) rfl rfl ?_
        intro x7
        refine T_putI hok hA fr_X11_180 rfl rfl lm_0 dX11_token_127 ?_
        intro I8
        refine T_aload_n hok 0 rfl rfl dX11_token_130 ?_
        refine T_aload_n hok 0 rfl rfl dX11_token_131 ?_
        refine T_getI hok fr_X11_180 lm_0 dX11_token_132 ?_
        refine T_jp _ (fun (j162 : Int32 → Option (MI)) => ∀ (x9 : Int32), T X A (Zm X A (iv1 (fun (I' : MI) => Rg G b Lm (Rm b) I' J))) 1 0 0 162 [(0, .ref (b + 0))] [.int x9, .ref (b + 0)] (Rg G b Lm (Rm b) I8 J) (j162 x9)) _ ?_ ?_
        · intro x9
          refine T_putI hok hA fr_X11_169 rfl rfl lm_0 dX11_token_162 ?_
          intro I10
          refine T_aload_n hok 0 rfl rfl dX11_token_165 ?_
          refine T_getI hok fr_X11_169 lm_0 dX11_token_166 ?_
          refine T_iconst hok ic_2 dX11_token_169 ?_
          refine T_icmp_ne (tgt := 281) hok dX11_token_170 rfl ?_ ?_
          · refine T_aload_n hok 0 rfl rfl dX11_token_173 ?_
            refine T_aload_n hok 0 rfl rfl dX11_token_174 ?_
            refine T_aload_n hok 0 rfl rfl dX11_token_175 ?_
            refine T_getI hok fr_X11_160 lm_0 dX11_token_176 ?_
            refine T_aload_n hok 0 rfl rfl dX11_token_179 ?_
            refine T_getI hok fr_X11_166 lm_0 dX11_token_180 ?_
            refine T_ci0 (CR_V (rest := [.ref (b + 0)]) hok (ct_X11_packed hA I10 J (I10 0 10) (I10 0 7)) mw_X11_packed mv_X11_packed ml_X11_183 lm_0 dX11_token_183 rfl rfl (roomOk rfl) rfl) rfl rfl ?_
            intro x11
            refine T_putI hok hA fr_X11_180 rfl rfl lm_0 dX11_token_186 ?_
            intro I12
            refine T_goto (tgt := 281) hok dX11_token_189 rfl ?_
            refine T_sub (lv' := []) [] rfl ?_
            exact hj281 I12
          refine T_sub (lv' := []) [] rfl ?_
          exact hj281 I10
        intro j162 hj162
        refine T_if_lt (tgt := 142) hok dX11_token_135 rfl ?_ ?_
        · refine T_aload_n hok 0 rfl rfl dX11_token_142 ?_
          refine T_getI hok fr_X11_166 lm_0 dX11_token_143 ?_
          refine T_aload_n hok 0 rfl rfl dX11_token_146 ?_
          refine T_getI hok fr_X11_160 lm_0 dX11_token_147 ?_
          refine T_isub hok dX11_token_150 ?_
          refine T_bipush hok bp_6 dX11_token_151 ?_
          refine T_icmp_le (tgt := 161) hok dX11_token_153 rfl ?_ ?_
          · refine T_iconst hok ic_2 dX11_token_161 ?_
            exact hj162 (2 : Int32)
          refine T_bipush hok bp_6 dX11_token_156 ?_
          refine T_goto (tgt := 162) hok dX11_token_158 rfl ?_
          exact hj162 (6 : Int32)
        refine T_iconst hok ic_1 dX11_token_138 ?_
        refine T_goto (tgt := 162) hok dX11_token_139 rfl ?_
        exact hj162 (1 : Int32)
      intro j114 hj114
      refine T_fix1 _ (fun (I13 : MI) => [(0, .ref (b + 0))]) (fun (I13 : MI) => Rg G b Lm (Rm b) I13 J) ?_ FU I2
      intro r90 hr90 I13
      refine T_aload_n hok 0 rfl rfl dX11_token_90 ?_
      refine T_aload_n hok 0 rfl rfl dX11_token_91 ?_
      refine T_getI hok fr_X11_166 lm_0 dX11_token_92 ?_
      refine T_cz0 (CR_V (rest := []) hok (ct_X11_isSmall hA I13 J (I13 0 7)) mw_X11_isSmall mv_X11_isSmall ml_X11_172 lm_0 dX11_token_95 rfl rfl (roomOk rfl) rfl) rfl rfl ?_
      intro x14
      refine T_ifb_eq (tgt := 114) hok dX11_token_98 rfl ?_ ?_
      · refine T_aload_n hok 0 rfl rfl dX11_token_101 ?_
        refine T_dup hok rfl dX11_token_102 ?_
        refine T_getI hok fr_X11_166 lm_0 dX11_token_103 ?_
        refine T_iconst hok ic_1 dX11_token_106 ?_
        refine T_iadd hok dX11_token_107 ?_
        refine T_putI hok hA fr_X11_166 rfl rfl lm_0 dX11_token_108 ?_
        intro I15
        refine T_goto (tgt := 90) hok dX11_token_111 rfl ?_
        exact hr90 I15
      exact hj114 I13
    refine T_aload_n hok 0 rfl rfl dX11_token_192 ?_
    refine T_aload_n hok 0 rfl rfl dX11_token_193 ?_
    refine T_getI hok fr_X11_166 lm_0 dX11_token_194 ?_
    refine T_cz0 (CR_V (rest := []) hok (ct_X11_isDigit hA I2 J (I2 0 7)) mw_X11_isDigit mv_X11_isDigit ml_X11_186 lm_0 dX11_token_197 rfl rfl (roomOk rfl) rfl) rfl rfl ?_
    intro x16
    refine T_ifb_eq (tgt := 277) hok dX11_token_200 rfl ?_ ?_
    · refine T_aload_n hok 0 rfl rfl dX11_token_203 ?_
      refine T_iconst hok ic_3 dX11_token_204 ?_
      refine T_putI hok hA fr_X11_169 rfl rfl lm_0 dX11_token_205 ?_
      intro I17
      refine T_aload_n hok 0 rfl rfl dX11_token_208 ?_
      refine T_iconst hok ic_0 dX11_token_209 ?_
      refine T_putI hok hA fr_X11_180 rfl rfl lm_0 dX11_token_210 ?_
      intro I18
      refine T_fix1 _ (fun (I19 : MI) => [(0, .ref (b + 0))]) (fun (I19 : MI) => Rg G b Lm (Rm b) I19 J) ?_ FU I18
      intro r213 hr213 I19
      refine T_aload_n hok 0 rfl rfl dX11_token_213 ?_
      refine T_aload_n hok 0 rfl rfl dX11_token_214 ?_
      refine T_getI hok fr_X11_166 lm_0 dX11_token_215 ?_
      refine T_cz0 (CR_V (rest := []) hok (ct_X11_isDigit hA I19 J (I19 0 7)) mw_X11_isDigit mv_X11_isDigit ml_X11_186 lm_0 dX11_token_218 rfl rfl (roomOk rfl) rfl) rfl rfl ?_
      intro x20
      refine T_ifb_eq (tgt := 281) hok dX11_token_221 rfl ?_ ?_
      · refine T_aload_n hok 0 rfl rfl dX11_token_224 ?_
        refine T_aload_n hok 0 rfl rfl dX11_token_225 ?_
        refine T_getI hok fr_X11_180 lm_0 dX11_token_226 ?_
        refine T_ldc hok lk_X11_189 dX11_token_229 ?_
        refine T_jp _ (fun (j261 : Int32 → Option (MI)) => ∀ (x21 : Int32), T X A (Zm X A (iv1 (fun (I' : MI) => Rg G b Lm (Rm b) I' J))) 1 0 0 261 [(0, .ref (b + 0))] [.int x21, .ref (b + 0)] (Rg G b Lm (Rm b) I19 J) (j261 x21)) _ ?_ ?_
        · intro x21
          refine T_putI hok hA fr_X11_180 rfl rfl lm_0 dX11_token_261 ?_
          intro I22
          refine T_aload_n hok 0 rfl rfl dX11_token_264 ?_
          refine T_dup hok rfl dX11_token_265 ?_
          refine T_getI hok fr_X11_166 lm_0 dX11_token_266 ?_
          refine T_iconst hok ic_1 dX11_token_269 ?_
          refine T_iadd hok dX11_token_270 ?_
          refine T_putI hok hA fr_X11_166 rfl rfl lm_0 dX11_token_271 ?_
          intro I23
          refine T_goto (tgt := 213) hok dX11_token_274 rfl ?_
          exact hr213 I23
        intro j261 hj261
        refine T_icmp_le (tgt := 241) hok dX11_token_231 rfl ?_ ?_
        · refine T_bipush hok bp_10 dX11_token_241 ?_
          refine T_aload_n hok 0 rfl rfl dX11_token_243 ?_
          refine T_getI hok fr_X11_180 lm_0 dX11_token_244 ?_
          refine T_imul hok dX11_token_247 ?_
          refine T_aload_n hok 0 rfl rfl dX11_token_248 ?_
          refine T_getR hok fr_X11_7 lm_0 rm_0_0 dX11_token_249 ?_
          refine T_aload_n hok 0 rfl rfl dX11_token_252 ?_
          refine T_getI hok fr_X11_166 lm_0 dX11_token_253 ?_
          refine T_iald hok lm_1 dX11_token_256 ?_
          refine T_iadd hok dX11_token_257 ?_
          refine T_bipush hok bp_48 dX11_token_258 ?_
          refine T_isub hok dX11_token_260 ?_
          exact hj261 ((((10 : Int32) * (I19 0 9)) + (I19 1 (ix (I19 0 7)))) - (48 : Int32))
        refine T_aload_n hok 0 rfl rfl dX11_token_234 ?_
        refine T_getI hok fr_X11_180 lm_0 dX11_token_235 ?_
        refine T_goto (tgt := 261) hok dX11_token_238 rfl ?_
        exact hj261 (I19 0 9)
      refine T_sub (lv' := []) [] rfl ?_
      exact hj281 I19
    refine T_aload_n hok 0 rfl rfl dX11_token_277 ?_
    refine T_cv1 (CR_V (rest := []) hok (ct_X11_signToken hA I2 J) mw_X11_signToken mv_X11_signToken ml_X11_190 lm_0 dX11_token_278 rfl rfl (roomOk rfl) rfl) rfl rfl ?_
    intro I24
    refine T_sub (lv' := []) [] rfl ?_
    exact hj281 I24
  intro j52 hj52
  refine T_fix1 _ (fun (I25 : MI) => [(0, .ref (b + 0))]) (fun (I25 : MI) => Rg G b Lm (Rm b) I25 J) ?_ FU I
  intro r0 hr0 I25
  refine T_aload_n hok 0 rfl rfl dX11_token_0 ?_
  refine T_getI hok fr_X11_166 lm_0 dX11_token_1 ?_
  refine T_aload_n hok 0 rfl rfl dX11_token_4 ?_
  refine T_getI hok fr_X11_163 lm_0 dX11_token_5 ?_
  refine T_icmp_ge (tgt := 52) hok dX11_token_8 rfl ?_ ?_
  · exact hj52 I25
  refine T_aload_n hok 0 rfl rfl dX11_token_11 ?_
  refine T_getR hok fr_X11_7 lm_0 rm_0_0 dX11_token_12 ?_
  refine T_aload_n hok 0 rfl rfl dX11_token_15 ?_
  refine T_getI hok fr_X11_166 lm_0 dX11_token_16 ?_
  refine T_iald hok lm_1 dX11_token_19 ?_
  refine T_bipush hok bp_10 dX11_token_20 ?_
  refine T_jp _ (fun (j39 : Option (MI)) => T X A (Zm X A (iv1 (fun (I' : MI) => Rg G b Lm (Rm b) I' J))) 1 0 0 39 [(0, .ref (b + 0))] [] (Rg G b Lm (Rm b) I25 J) (j39)) _ ?_ ?_
  · skip
    refine T_aload_n hok 0 rfl rfl dX11_token_39 ?_
    refine T_dup hok rfl dX11_token_40 ?_
    refine T_getI hok fr_X11_166 lm_0 dX11_token_41 ?_
    refine T_iconst hok ic_1 dX11_token_44 ?_
    refine T_iadd hok dX11_token_45 ?_
    refine T_putI hok hA fr_X11_166 rfl rfl lm_0 dX11_token_46 ?_
    intro I26
    refine T_goto (tgt := 0) hok dX11_token_49 rfl ?_
    exact hr0 I26
  intro j39 hj39
  refine T_icmp_eq (tgt := 39) hok dX11_token_22 rfl ?_ ?_
  · exact hj39
  refine T_aload_n hok 0 rfl rfl dX11_token_25 ?_
  refine T_getR hok fr_X11_7 lm_0 rm_0_0 dX11_token_26 ?_
  refine T_aload_n hok 0 rfl rfl dX11_token_29 ?_
  refine T_getI hok fr_X11_166 lm_0 dX11_token_30 ?_
  refine T_iald hok lm_1 dX11_token_33 ?_
  refine T_bipush hok bp_32 dX11_token_34 ?_
  refine T_icmp_ne (tgt := 52) hok dX11_token_36 rfl ?_ ?_
  · exact hj39
  exact hj52 I25

set_option maxHeartbeats 4000000 in
set_option maxRecDepth 100000 in
theorem ct_X11_isKey {G : Gx} {l0 : Launch} {A : Nat → Prop} {b : Nat} (hA : ∀ k, k < Lm.length → A (b + k)) (I : MI) (J : MJ) (a1 : Int32) : Ct G l0 A yX11_isKey cX11_isKey 2 (some .boolean) { frames := 0, cells := 0, slots := 0, locals := 0 } [.ref (b + 0), .int a1] (Rg G b Lm (Rm b) I J) (iz0 (Rg G b Lm (Rm b) I J)) (f_X11_isKey I a1) := by
  refine Ct.of rfl (Nat.le_of_ble_eq_true rfl) ?_
  intro X hok
  replace hok : Ok G l0 X RX11 cX11_isKey 2 { frames := 0, cells := 0, slots := 0, locals := 0 } (some .boolean) := hok
  delta f_X11_isKey
  show T X A (Zm X A (iz0 (Rg G b Lm (Rm b) I J))) 2 0 0 0 [(0, .ref (b + 0)), (1, .int a1)] [] (Rg G b Lm (Rm b) I J) _
  refine T_aload_n hok 0 rfl rfl dX11_isKey_0 ?_
  refine T_getI hok fr_X11_169 lm_0 dX11_isKey_1 ?_
  refine T_iconst hok ic_1 dX11_isKey_4 ?_
  refine T_jp _ (fun (j21 : Bool → Option (Bool)) => ∀ (x1 : Bool), T X A (Zm X A (iz0 (Rg G b Lm (Rm b) I J))) 2 0 0 21 [] [.int (bi x1)] (Rg G b Lm (Rm b) I J) (j21 x1)) _ ?_ ?_
  · intro x1
    exact T_zret hok dX11_isKey_21 (Nat.zero_le _) (Nat.zero_le _) (bi_01 _) rfl
  intro j21 hj21
  refine T_jp _ (fun (j20 : Option (Bool)) => T X A (Zm X A (iz0 (Rg G b Lm (Rm b) I J))) 2 0 0 20 [] [] (Rg G b Lm (Rm b) I J) (j20)) _ ?_ ?_
  · skip
    refine T_iconst hok ic_0 dX11_isKey_20 ?_
    exact hj21 false
  intro j20 hj20
  refine T_icmp_ne (tgt := 20) hok dX11_isKey_5 rfl ?_ ?_
  · refine T_aload_n hok 0 rfl rfl dX11_isKey_8 ?_
    refine T_getI hok fr_X11_180 lm_0 dX11_isKey_9 ?_
    refine T_iload_n hok 1 rfl rfl dX11_isKey_12 ?_
    refine T_icmp_ne (tgt := 20) hok dX11_isKey_13 rfl ?_ ?_
    · refine T_iconst hok ic_1 dX11_isKey_16 ?_
      refine T_goto (tgt := 21) hok dX11_isKey_17 rfl ?_
      refine T_sub (lv' := []) [] rfl ?_
      exact hj21 true
    refine T_sub (lv' := []) [] rfl ?_
    exact hj20
  refine T_sub (lv' := []) [] rfl ?_
  exact hj20

set_option maxHeartbeats 4000000 in
set_option maxRecDepth 100000 in
theorem ct_X11_isSign {G : Gx} {l0 : Launch} {A : Nat → Prop} {b : Nat} (hA : ∀ k, k < Lm.length → A (b + k)) (I : MI) (J : MJ) (a1 : Int32) : Ct G l0 A yX11_isSign cX11_isSign 2 (some .boolean) { frames := 0, cells := 0, slots := 0, locals := 0 } [.ref (b + 0), .int a1] (Rg G b Lm (Rm b) I J) (iz0 (Rg G b Lm (Rm b) I J)) (f_X11_isSign I a1) := by
  refine Ct.of rfl (Nat.le_of_ble_eq_true rfl) ?_
  intro X hok
  replace hok : Ok G l0 X RX11 cX11_isSign 2 { frames := 0, cells := 0, slots := 0, locals := 0 } (some .boolean) := hok
  delta f_X11_isSign
  show T X A (Zm X A (iz0 (Rg G b Lm (Rm b) I J))) 2 0 0 0 [(0, .ref (b + 0)), (1, .int a1)] [] (Rg G b Lm (Rm b) I J) _
  refine T_aload_n hok 0 rfl rfl dX11_isSign_0 ?_
  refine T_getI hok fr_X11_169 lm_0 dX11_isSign_1 ?_
  refine T_iconst hok ic_4 dX11_isSign_4 ?_
  refine T_jp _ (fun (j21 : Bool → Option (Bool)) => ∀ (x1 : Bool), T X A (Zm X A (iz0 (Rg G b Lm (Rm b) I J))) 2 0 0 21 [] [.int (bi x1)] (Rg G b Lm (Rm b) I J) (j21 x1)) _ ?_ ?_
  · intro x1
    exact T_zret hok dX11_isSign_21 (Nat.zero_le _) (Nat.zero_le _) (bi_01 _) rfl
  intro j21 hj21
  refine T_jp _ (fun (j20 : Option (Bool)) => T X A (Zm X A (iz0 (Rg G b Lm (Rm b) I J))) 2 0 0 20 [] [] (Rg G b Lm (Rm b) I J) (j20)) _ ?_ ?_
  · skip
    refine T_iconst hok ic_0 dX11_isSign_20 ?_
    exact hj21 false
  intro j20 hj20
  refine T_icmp_ne (tgt := 20) hok dX11_isSign_5 rfl ?_ ?_
  · refine T_aload_n hok 0 rfl rfl dX11_isSign_8 ?_
    refine T_getI hok fr_X11_180 lm_0 dX11_isSign_9 ?_
    refine T_iload_n hok 1 rfl rfl dX11_isSign_12 ?_
    refine T_icmp_ne (tgt := 20) hok dX11_isSign_13 rfl ?_ ?_
    · refine T_iconst hok ic_1 dX11_isSign_16 ?_
      refine T_goto (tgt := 21) hok dX11_isSign_17 rfl ?_
      refine T_sub (lv' := []) [] rfl ?_
      exact hj21 true
    refine T_sub (lv' := []) [] rfl ?_
    exact hj20
  refine T_sub (lv' := []) [] rfl ?_
  exact hj20

set_option maxHeartbeats 4000000 in
set_option maxRecDepth 100000 in
theorem ct_X11_number {G : Gx} {l0 : Launch} {A : Nat → Prop} {b : Nat} (hA : ∀ k, k < Lm.length → A (b + k)) (I : MI) (J : MJ) (a1 : Int32) (a2 : Int32) : Ct G l0 A yX11_number cX11_number 3 (some .boolean) { frames := 2, cells := 0, slots := 0, locals := 47 } [.ref (b + 0), .int a1, .int a2] (Rg G b Lm (Rm b) I J) (iz1 (fun (I' : MI) => Rg G b Lm (Rm b) I' J)) (f_X11_number I a1 a2) := by
  refine Ct.of rfl (Nat.le_of_ble_eq_true rfl) ?_
  intro X hok
  replace hok : Ok G l0 X RX11 cX11_number 3 { frames := 2, cells := 0, slots := 0, locals := 47 } (some .boolean) := hok
  delta f_X11_number
  show T X A (Zm X A (iz1 (fun (I' : MI) => Rg G b Lm (Rm b) I' J))) 3 0 0 0 [(0, .ref (b + 0)), (1, .int a1), (2, .int a2)] [] (Rg G b Lm (Rm b) I J) _
  refine T_aload_n hok 0 rfl rfl dX11_number_0 ?_
  refine T_getI hok fr_X11_169 lm_0 dX11_number_1 ?_
  refine T_iconst hok ic_3 dX11_number_4 ?_
  refine T_icmp_eq (tgt := 14) hok dX11_number_5 rfl ?_ ?_
  · refine T_aload_n hok 0 rfl rfl dX11_number_14 ?_
    refine T_getI hok fr_X11_180 lm_0 dX11_number_15 ?_
    refine T_iload_n hok 1 rfl rfl dX11_number_18 ?_
    refine T_iload_n hok 2 rfl rfl dX11_number_19 ?_
    refine T_cz0 (CR_S (rest := []) hok (ct_X11_isIn (I 0 9) a1 a2) mw_X11_isIn mst_X11_isIn ml_X11_196 dX11_number_20 rfl rfl (roomOk rfl) rfl) rfl rfl ?_
    intro x1
    refine T_ifb_ne (tgt := 32) hok dX11_number_23 rfl ?_ ?_
    · refine T_aload_n hok 0 rfl rfl dX11_number_32 ?_
      refine T_aload_n hok 0 rfl rfl dX11_number_33 ?_
      refine T_getI hok fr_X11_180 lm_0 dX11_number_34 ?_
      refine T_putI hok hA fr_X11_200 rfl rfl lm_0 dX11_number_37 ?_
      intro I2
      refine T_aload_n hok 0 rfl rfl dX11_number_40 ?_
      refine T_cv1 (CR_V (rest := []) hok (ct_X11_token hA I2 J) mw_X11_token mv_X11_token ml_X11_203 lm_0 dX11_number_41 rfl rfl (roomOk rfl) rfl) rfl rfl ?_
      intro I3
      refine T_iconst hok ic_1 dX11_number_44 ?_
      exact T_zret hok dX11_number_45 (Nat.zero_le _) (Nat.zero_le _) rfl rfl
    refine T_aload_n hok 0 rfl rfl dX11_number_26 ?_
    refine T_iconst hok ic_2 dX11_number_27 ?_
    refine T_cz1 (CR_V (rest := []) hok (ct_X11_wrong hA I J (2 : Int32)) mw_X11_wrong mv_X11_wrong ml_X11_193 lm_0 dX11_number_28 rfl rfl (roomOk rfl) rfl) rfl rfl ?_
    intro x4 I5
    exact T_zret hok dX11_number_31 (Nat.zero_le _) (Nat.zero_le _) (bi_01 _) rfl
  refine T_aload_n hok 0 rfl rfl dX11_number_8 ?_
  refine T_iconst hok ic_1 dX11_number_9 ?_
  refine T_cz1 (CR_V (rest := []) hok (ct_X11_wrong hA I J (1 : Int32)) mw_X11_wrong mv_X11_wrong ml_X11_193 lm_0 dX11_number_10 rfl rfl (roomOk rfl) rfl) rfl rfl ?_
  intro x6 I7
  exact T_zret hok dX11_number_13 (Nat.zero_le _) (Nat.zero_le _) (bi_01 _) rfl

set_option maxHeartbeats 4000000 in
set_option maxRecDepth 100000 in
theorem ct_X11_plain {G : Gx} {l0 : Launch} {A : Nat → Prop} {b : Nat} (hA : ∀ k, k < Lm.length → A (b + k)) (I : MI) (J : MJ) : Ct G l0 A yX11_plain cX11_plain 2 none { frames := 0, cells := 0, slots := 0, locals := 0 } [.ref (b + 0)] (Rg G b Lm (Rm b) I J) (iv1 (fun (I' : MI) => Rg G b Lm (Rm b) I' J)) (f_X11_plain I) := by
  refine Ct.of rfl (Nat.le_of_ble_eq_true rfl) ?_
  intro X hok
  replace hok : Ok G l0 X RX11 cX11_plain 2 { frames := 0, cells := 0, slots := 0, locals := 0 } none := hok
  delta f_X11_plain
  show T X A (Zm X A (iv1 (fun (I' : MI) => Rg G b Lm (Rm b) I' J))) 2 0 0 0 [(0, .ref (b + 0))] [] (Rg G b Lm (Rm b) I J) _
  refine T_aload_n hok 0 rfl rfl dX11_plain_0 ?_
  refine T_iconst hok ic_0 dX11_plain_1 ?_
  refine T_putI hok hA fr_X11_213 rfl rfl lm_0 dX11_plain_2 ?_
  intro I1
  refine T_aload_n hok 0 rfl rfl dX11_plain_5 ?_
  refine T_iconst hok ic_0 dX11_plain_6 ?_
  refine T_putI hok hA fr_X11_216 rfl rfl lm_0 dX11_plain_7 ?_
  intro I2
  refine T_aload_n hok 0 rfl rfl dX11_plain_10 ?_
  refine T_iconst hok ic_0 dX11_plain_11 ?_
  refine T_putI hok hA fr_X11_219 rfl rfl lm_0 dX11_plain_12 ?_
  intro I3
  refine T_aload_n hok 0 rfl rfl dX11_plain_15 ?_
  refine T_iconst hok ic_0 dX11_plain_16 ?_
  refine T_putI hok hA fr_X11_222 rfl rfl lm_0 dX11_plain_17 ?_
  intro I4
  refine T_aload_n hok 0 rfl rfl dX11_plain_20 ?_
  refine T_iconst hok ic_0 dX11_plain_21 ?_
  refine T_putI hok hA fr_X11_225 rfl rfl lm_0 dX11_plain_22 ?_
  intro I5
  refine T_aload_n hok 0 rfl rfl dX11_plain_25 ?_
  refine T_iconst hok ic_0 dX11_plain_26 ?_
  refine T_putI hok hA fr_X11_228 rfl rfl lm_0 dX11_plain_27 ?_
  intro I6
  refine T_aload_n hok 0 rfl rfl dX11_plain_30 ?_
  refine T_getR hok fr_X11_20 lm_0 rm_0_22 dX11_plain_31 ?_
  refine T_iconst hok ic_0 dX11_plain_34 ?_
  refine T_iconst hok ic_0 dX11_plain_35 ?_
  refine T_zast hok hA lm_3 dX11_plain_36 ?_
  intro I7
  refine T_aload_n hok 0 rfl rfl dX11_plain_37 ?_
  refine T_getR hok fr_X11_20 lm_0 rm_0_22 dX11_plain_38 ?_
  refine T_iconst hok ic_1 dX11_plain_41 ?_
  refine T_iconst hok ic_0 dX11_plain_42 ?_
  refine T_zast hok hA lm_3 dX11_plain_43 ?_
  intro I8
  refine T_aload_n hok 0 rfl rfl dX11_plain_44 ?_
  refine T_getR hok fr_X11_24 lm_0 rm_0_23 dX11_plain_45 ?_
  refine T_iconst hok ic_2 dX11_plain_48 ?_
  refine T_bipush hok bp_30 dX11_plain_49 ?_
  refine T_iast hok hA lm_4 dX11_plain_51 ?_
  intro I9
  refine T_aload_n hok 0 rfl rfl dX11_plain_52 ?_
  refine T_getR hok fr_X11_24 lm_0 rm_0_23 dX11_plain_53 ?_
  refine T_iconst hok ic_3 dX11_plain_56 ?_
  refine T_iconst hok ic_0 dX11_plain_57 ?_
  refine T_iast hok hA lm_4 dX11_plain_58 ?_
  intro I10
  refine T_iconst hok ic_3 dX11_plain_59 ?_
  refine T_istore_n (lv' := [(1, .int (3 : Int32)), (0, .ref (b + 0))]) hok rfl (by decide) rfl dX11_plain_60 ?_
  refine T_sub (lv' := [(0, .ref (b + 0)), (1, .int (3 : Int32))]) [1, 0] rfl ?_
  refine T_fix2 _ (fun (x11 : Int32) (I12 : MI) => [(0, .ref (b + 0)), (1, .int x11)]) (fun (x11 : Int32) (I12 : MI) => Rg G b Lm (Rm b) I12 J) ?_ FU (3 : Int32) I10
  intro r61 hr61 x11 I12
  refine T_iload_n hok 1 rfl rfl dX11_plain_61 ?_
  refine T_bipush hok bp_6 dX11_plain_62 ?_
  refine T_icmp_ge (tgt := 80) hok dX11_plain_64 rfl ?_ ?_
  · exact T_vret hok dX11_plain_80 (Nat.zero_le _) (Nat.zero_le _) rfl
  refine T_aload_n hok 0 rfl rfl dX11_plain_67 ?_
  refine T_getR hok fr_X11_60 lm_0 rm_0_35 dX11_plain_68 ?_
  refine T_iload_n hok 1 rfl rfl dX11_plain_71 ?_
  refine T_iconst hok ic_0 dX11_plain_72 ?_
  refine T_zast hok hA lm_16 dX11_plain_73 ?_
  intro I13
  refine T_iinc (lvs := fun x14 => [(1, .int x14), (0, .ref (b + 0))]) hok 1 rfl ic_1 (by decide) (fun _ => rfl) dX11_plain_74 ?_
  intro x14
  refine T_goto (tgt := 61) hok dX11_plain_77 rfl ?_
  refine T_sub (lv' := [(0, .ref (b + 0)), (1, .int x14)]) [1, 0] rfl ?_
  exact hr61 x14 I13

set_option maxHeartbeats 4000000 in
set_option maxRecDepth 100000 in
theorem ct_X11_copies {G : Gx} {l0 : Launch} {A : Nat → Prop} {b : Nat} {L : List Kd} {R : MR} {pa na : Nat} (hA : ∀ k, k < L.length → A (b + k)) (hpa : L[pa]? = some (.inr (0, na))) (I : MI) (J : MJ) (a2 : Int32) : Ct G l0 A yX11_copies cX11_copies 3 none { frames := 0, cells := 0, slots := 0, locals := 0 } [.ref (b + pa), .int a2] (Rg G b L R I J) (iv1 (fun (I' : MI) => Rg G b L R I' J)) (f_X11_copies I pa na a2) := by
  refine Ct.of rfl (Nat.le_of_ble_eq_true rfl) ?_
  intro X hok
  replace hok : Ok G l0 X RX11 cX11_copies 3 { frames := 0, cells := 0, slots := 0, locals := 0 } none := hok
  delta f_X11_copies
  show T X A (Zm X A (iv1 (fun (I' : MI) => Rg G b L R I' J))) 3 0 0 0 [(0, .ref (b + pa)), (1, .int a2)] [] (Rg G b L R I J) _
  refine T_iconst hok ic_0 dX11_copies_0 ?_
  refine T_istore_n (lv' := [(2, .int (0 : Int32)), (0, .ref (b + pa)), (1, .int a2)]) hok rfl (by decide) rfl dX11_copies_1 ?_
  refine T_sub (lv' := [(0, .ref (b + pa)), (1, .int a2), (2, .int (0 : Int32))]) [1, 2, 0] rfl ?_
  refine T_fix2 _ (fun (x1 : Int32) (I2 : MI) => [(0, .ref (b + pa)), (1, .int a2), (2, .int x1)]) (fun (x1 : Int32) (I2 : MI) => Rg G b L R I2 J) ?_ FU (0 : Int32) I
  intro r2 hr2 x1 I2
  refine T_iload_n hok 2 rfl rfl dX11_copies_2 ?_
  refine T_iload_n hok 1 rfl rfl dX11_copies_3 ?_
  refine T_icmp_ge (tgt := 21) hok dX11_copies_4 rfl ?_ ?_
  · exact T_vret hok dX11_copies_21 (Nat.zero_le _) (Nat.zero_le _) rfl
  refine T_aload_n hok 0 rfl rfl dX11_copies_7 ?_
  refine T_iload_n hok 2 rfl rfl dX11_copies_8 ?_
  refine T_aload_n hok 0 rfl rfl dX11_copies_9 ?_
  refine T_iload_n hok 1 rfl rfl dX11_copies_10 ?_
  refine T_iload_n hok 2 rfl rfl dX11_copies_11 ?_
  refine T_iadd hok dX11_copies_12 ?_
  refine T_iald hok hpa dX11_copies_13 ?_
  refine T_iast hok hA hpa dX11_copies_14 ?_
  intro I3
  refine T_iinc (lvs := fun x4 => [(2, .int x4), (0, .ref (b + pa)), (1, .int a2)]) hok 2 rfl ic_1 (by decide) (fun _ => rfl) dX11_copies_15 ?_
  intro x4
  refine T_goto (tgt := 2) hok dX11_copies_18 rfl ?_
  refine T_sub (lv' := [(0, .ref (b + pa)), (1, .int a2), (2, .int x4)]) [1, 2, 0] rfl ?_
  exact hr2 x4 I3

set_option maxHeartbeats 4000000 in
set_option maxRecDepth 100000 in
theorem ct_X11_plainTried {G : Gx} {l0 : Launch} {A : Nat → Prop} {b : Nat} (hA : ∀ k, k < Lm.length → A (b + k)) (I : MI) (J : MJ) : Ct G l0 A yX11_plainTried cX11_plainTried 1 none { frames := 0, cells := 0, slots := 0, locals := 0 } [.ref (b + 0)] (Rg G b Lm (Rm b) I J) (iv1 (fun (I' : MI) => Rg G b Lm (Rm b) I' J)) (f_X11_plainTried I) := by
  refine Ct.of rfl (Nat.le_of_ble_eq_true rfl) ?_
  intro X hok
  replace hok : Ok G l0 X RX11 cX11_plainTried 1 { frames := 0, cells := 0, slots := 0, locals := 0 } none := hok
  delta f_X11_plainTried
  show T X A (Zm X A (iv1 (fun (I' : MI) => Rg G b Lm (Rm b) I' J))) 1 0 0 0 [(0, .ref (b + 0))] [] (Rg G b Lm (Rm b) I J) _
  refine T_aload_n hok 0 rfl rfl dX11_plainTried_0 ?_
  refine T_iconst hok ic_0 dX11_plainTried_1 ?_
  refine T_putZ hok hA fr_X11_371 rfl rfl lm_0 dX11_plainTried_2 ?_
  intro I1
  refine T_aload_n hok 0 rfl rfl dX11_plainTried_5 ?_
  refine T_iconst hok ic_0 dX11_plainTried_6 ?_
  refine T_putZ hok hA fr_X11_374 rfl rfl lm_0 dX11_plainTried_7 ?_
  intro I2
  refine T_aload_n hok 0 rfl rfl dX11_plainTried_10 ?_
  refine T_iconst hok ic_0 dX11_plainTried_11 ?_
  refine T_putZ hok hA fr_X11_377 rfl rfl lm_0 dX11_plainTried_12 ?_
  intro I3
  refine T_aload_n hok 0 rfl rfl dX11_plainTried_15 ?_
  refine T_iconst hok ic_0 dX11_plainTried_16 ?_
  refine T_putZ hok hA fr_X11_380 rfl rfl lm_0 dX11_plainTried_17 ?_
  intro I4
  exact T_vret hok dX11_plainTried_20 (Nat.zero_le _) (Nat.zero_le _) rfl

set_option maxHeartbeats 4000000 in
set_option maxRecDepth 100000 in
theorem ct_X11_begin {G : Gx} {l0 : Launch} {A : Nat → Prop} {b : Nat} (hA : ∀ k, k < Lm.length → A (b + k)) (I : MI) (J : MJ) : Ct G l0 A yX11_begin cX11_begin 2 none { frames := 1, cells := 0, slots := 0, locals := 20 } [.ref (b + 0)] (Rg G b Lm (Rm b) I J) (iv2 (fun (I' : MI) (J' : MJ) => Rg G b Lm (Rm b) I' J')) (f_X11_begin I J) := by
  refine Ct.of rfl (Nat.le_of_ble_eq_true rfl) ?_
  intro X hok
  replace hok : Ok G l0 X RX11 cX11_begin 2 { frames := 1, cells := 0, slots := 0, locals := 20 } none := hok
  delta f_X11_begin
  show T X A (Zm X A (iv2 (fun (I' : MI) (J' : MJ) => Rg G b Lm (Rm b) I' J'))) 2 0 0 0 [(0, .ref (b + 0))] [] (Rg G b Lm (Rm b) I J) _
  refine T_iconst hok ic_0 dX11_begin_0 ?_
  refine T_istore_n (lv' := [(1, .int (0 : Int32)), (0, .ref (b + 0))]) hok rfl (by decide) rfl dX11_begin_1 ?_
  refine T_jp _ (fun (j54 : MI → Option (MI × MJ)) => ∀ (I1 : MI), T X A (Zm X A (iv2 (fun (I' : MI) (J' : MJ) => Rg G b Lm (Rm b) I' J'))) 2 0 0 54 [(0, .ref (b + 0))] [] (Rg G b Lm (Rm b) I1 J) (j54 I1)) _ ?_ ?_
  · intro I1
    refine T_aload_n hok 0 rfl rfl dX11_begin_54 ?_
    refine T_getR hok fr_X11_106 lm_0 rm_0_57 dX11_begin_55 ?_
    refine T_iconst hok ic_0 dX11_begin_58 ?_
    refine T_iconst hok ic_0 dX11_begin_59 ?_
    refine T_iast hok hA lm_31 dX11_begin_60 ?_
    intro I2
    refine T_aload_n hok 0 rfl rfl dX11_begin_61 ?_
    refine T_getR hok fr_X11_109 lm_0 rm_0_58 dX11_begin_62 ?_
    refine T_iconst hok ic_0 dX11_begin_65 ?_
    refine T_iconst hok ic_0 dX11_begin_66 ?_
    refine T_iast hok hA lm_32 dX11_begin_67 ?_
    intro I3
    refine T_aload_n hok 0 rfl rfl dX11_begin_68 ?_
    refine T_getR hok fr_X11_112 lm_0 rm_0_59 dX11_begin_69 ?_
    refine T_iconst hok ic_0 dX11_begin_72 ?_
    refine T_iconst hok ic_m1 dX11_begin_73 ?_
    refine T_iast hok hA lm_33 dX11_begin_74 ?_
    intro I4
    refine T_aload_n hok 0 rfl rfl dX11_begin_75 ?_
    refine T_getR hok fr_X11_115 lm_0 rm_0_60 dX11_begin_76 ?_
    refine T_iconst hok ic_0 dX11_begin_79 ?_
    refine T_iconst hok ic_0 dX11_begin_80 ?_
    refine T_iast hok hA lm_34 dX11_begin_81 ?_
    intro I5
    refine T_aload_n hok 0 rfl rfl dX11_begin_82 ?_
    refine T_getR hok fr_X11_118 lm_0 rm_0_61 dX11_begin_83 ?_
    refine T_iconst hok ic_0 dX11_begin_86 ?_
    refine T_iconst hok ic_0 dX11_begin_87 ?_
    refine T_iast hok hA lm_35 dX11_begin_88 ?_
    intro I6
    refine T_aload_n hok 0 rfl rfl dX11_begin_89 ?_
    refine T_aload_n hok 0 rfl rfl dX11_begin_90 ?_
    refine T_getR hok fr_X11_24 lm_0 rm_0_23 dX11_begin_91 ?_
    refine T_iconst hok ic_1 dX11_begin_94 ?_
    refine T_iald hok lm_4 dX11_begin_95 ?_
    refine T_i2l hok dX11_begin_96 ?_
    refine T_putJ hok hA fr_X11_355 rfl lm_0 dX11_begin_97 ?_
    intro J7
    refine T_aload_n hok 0 rfl rfl dX11_begin_100 ?_
    refine T_cv1 (CR_V (rest := []) hok (ct_X11_plainTried hA I6 J7) mw_X11_plainTried mv_X11_plainTried ml_X11_359 lm_0 dX11_begin_101 rfl rfl (roomOk rfl) rfl) rfl rfl ?_
    intro I8
    refine T_aload_n hok 0 rfl rfl dX11_begin_104 ?_
    refine T_iconst hok ic_0 dX11_begin_105 ?_
    refine T_putI hok hA fr_X11_362 rfl rfl lm_0 dX11_begin_106 ?_
    intro I9
    refine T_aload_n hok 0 rfl rfl dX11_begin_109 ?_
    refine T_iconst hok ic_m1 dX11_begin_110 ?_
    refine T_putI hok hA fr_X11_127 rfl rfl lm_0 dX11_begin_111 ?_
    intro I10
    refine T_aload_n hok 0 rfl rfl dX11_begin_114 ?_
    refine T_iconst hok ic_0 dX11_begin_115 ?_
    refine T_putI hok hA fr_X11_365 rfl rfl lm_0 dX11_begin_116 ?_
    intro I11
    refine T_aload_n hok 0 rfl rfl dX11_begin_119 ?_
    refine T_iconst hok ic_0 dX11_begin_120 ?_
    refine T_putZ hok hA fr_X11_368 rfl rfl lm_0 dX11_begin_121 ?_
    intro I12
    exact T_vret hok dX11_begin_124 (Nat.zero_le _) (Nat.zero_le _) rfl
  intro j54 hj54
  refine T_sub (lv' := [(0, .ref (b + 0)), (1, .int (0 : Int32))]) [1, 0] rfl ?_
  refine T_fix2 _ (fun (x13 : Int32) (I14 : MI) => [(0, .ref (b + 0)), (1, .int x13)]) (fun (x13 : Int32) (I14 : MI) => Rg G b Lm (Rm b) I14 J) ?_ FU (0 : Int32) I
  intro r2 hr2 x13 I14
  refine T_iload_n hok 1 rfl rfl dX11_begin_2 ?_
  refine T_bipush hok bp_6 dX11_begin_3 ?_
  refine T_icmp_ge (tgt := 54) hok dX11_begin_5 rfl ?_ ?_
  · refine T_sub (lv' := [(0, .ref (b + 0))]) [0] rfl ?_
    exact hj54 I14
  refine T_aload_n hok 0 rfl rfl dX11_begin_8 ?_
  refine T_getR hok fr_X11_91 lm_0 rm_0_52 dX11_begin_9 ?_
  refine T_iload_n hok 1 rfl rfl dX11_begin_12 ?_
  refine T_aload_n hok 0 rfl rfl dX11_begin_13 ?_
  refine T_getR hok fr_X11_39 lm_0 rm_0_28 dX11_begin_14 ?_
  refine T_iload_n hok 1 rfl rfl dX11_begin_17 ?_
  refine T_iald hok lm_9 dX11_begin_18 ?_
  refine T_iast hok hA lm_26 dX11_begin_19 ?_
  intro I15
  refine T_aload_n hok 0 rfl rfl dX11_begin_20 ?_
  refine T_getR hok fr_X11_94 lm_0 rm_0_53 dX11_begin_21 ?_
  refine T_iload_n hok 1 rfl rfl dX11_begin_24 ?_
  refine T_iconst hok ic_0 dX11_begin_25 ?_
  refine T_iast hok hA lm_27 dX11_begin_26 ?_
  intro I16
  refine T_aload_n hok 0 rfl rfl dX11_begin_27 ?_
  refine T_getR hok fr_X11_97 lm_0 rm_0_54 dX11_begin_28 ?_
  refine T_iload_n hok 1 rfl rfl dX11_begin_31 ?_
  refine T_iconst hok ic_0 dX11_begin_32 ?_
  refine T_iast hok hA lm_28 dX11_begin_33 ?_
  intro I17
  refine T_aload_n hok 0 rfl rfl dX11_begin_34 ?_
  refine T_getR hok fr_X11_100 lm_0 rm_0_55 dX11_begin_35 ?_
  refine T_iload_n hok 1 rfl rfl dX11_begin_38 ?_
  refine T_iconst hok ic_0 dX11_begin_39 ?_
  refine T_iast hok hA lm_29 dX11_begin_40 ?_
  intro I18
  refine T_aload_n hok 0 rfl rfl dX11_begin_41 ?_
  refine T_getR hok fr_X11_103 lm_0 rm_0_56 dX11_begin_42 ?_
  refine T_iload_n hok 1 rfl rfl dX11_begin_45 ?_
  refine T_iconst hok ic_0 dX11_begin_46 ?_
  refine T_iast hok hA lm_30 dX11_begin_47 ?_
  intro I19
  refine T_iinc (lvs := fun x20 => [(1, .int x20), (0, .ref (b + 0))]) hok 1 rfl ic_1 (by decide) (fun _ => rfl) dX11_begin_48 ?_
  intro x20
  refine T_goto (tgt := 2) hok dX11_begin_51 rfl ?_
  refine T_sub (lv' := [(0, .ref (b + 0)), (1, .int x20)]) [1, 0] rfl ?_
  exact hr2 x20 I19
