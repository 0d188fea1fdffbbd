set_option maxHeartbeats 4000000 in
set_option maxRecDepth 100000 in
theorem ct_X11_shared {G : Gx} {l0 : Launch} {A : Nat → Prop} {Wd : Heap → Prop} (a1 : Int64) (a2 : Int64) : Ct G l0 A yX11_shared cX11_shared 6 (some .long) { frames := 0, cells := 0, slots := 0, locals := 0 } [.long a1, .long a2] (Wd) (il0 (Wd)) (f_X11_shared a1 a2) := by
  refine Ct.of rfl (Nat.le_of_ble_eq_true rfl) ?_
  intro X hok
  replace hok : Ok G l0 X RX11 cX11_shared 6 { frames := 0, cells := 0, slots := 0, locals := 0 } (some .long) := hok
  delta f_X11_shared
  show T X A (Zm X A (il0 (Wd))) 6 0 0 0 [(0, .long a1), (2, .long a2)] [] (Wd) _
  refine T_fix2 _ (fun (x1 : Int64) (x2 : Int64) => [(0, .long x1), (2, .long x2)]) (fun (x1 : Int64) (x2 : Int64) => Wd) ?_ FU a1 a2
  intro r0 hr0 x1 x2
  refine T_lload_n hok 1 rfl rfl dX11_shared_0 ?_
  refine T_lconst (v := 0) hok rfl dX11_shared_1 ?_
  refine T_lcmp_eq (tgt := 19) hok dX11_shared_2 rfl dX11_shared_3 rfl ?_ ?_
  · refine T_lload_n hok 0 rfl rfl dX11_shared_19 ?_
    exact T_lret hok dX11_shared_20 (Nat.zero_le _) (Nat.zero_le _) rfl
  refine T_lload_n hok 0 rfl rfl dX11_shared_6 ?_
  refine T_lload_n hok 1 rfl rfl dX11_shared_7 ?_
  refine T_lrem hok dX11_shared_8 ?_
  refine T_ltl ?_
  intro x3
  refine T_lstore (lv' := [(4, .long x3), (0, .long x1), (2, .long x2)]) hok (by decide) rfl dX11_shared_9 ?_
  refine T_lload_n hok 2 rfl rfl dX11_shared_11 ?_
  refine T_lstore_n (lv' := [(0, .long x2), (4, .long x3), (2, .long x2)]) hok rfl (by decide) rfl dX11_shared_12 ?_
  refine T_lload hok 1 rfl dX11_shared_13 ?_
  refine T_lstore_n (lv' := [(2, .long x3), (0, .long x2), (4, .long x3)]) hok rfl (by decide) rfl dX11_shared_15 ?_
  refine T_goto (tgt := 0) hok dX11_shared_16 rfl ?_
  refine T_sub (lv' := [(0, .long x2), (2, .long x3)]) [1, 0] rfl ?_
  exact hr0 x2 x3

set_option maxHeartbeats 4000000 in
set_option maxRecDepth 100000 in
theorem ct_X11_least {G : Gx} {l0 : Launch} {A : Nat → Prop} {Wd : Heap → Prop} (a1 : Int64) (a2 : Int64) (a3 : Int32) : Ct G l0 A yX11_least cX11_least 7 (some .long) { frames := 1, cells := 0, slots := 0, locals := 25 } [.long a1, .long a2, .int a3] (Wd) (il0 (Wd)) (f_X11_least a1 a2 a3) := by
  refine Ct.of rfl (Nat.le_of_ble_eq_true rfl) ?_
  intro X hok
  replace hok : Ok G l0 X RX11 cX11_least 7 { frames := 1, cells := 0, slots := 0, locals := 25 } (some .long) := hok
  delta f_X11_least
  show T X A (Zm X A (il0 (Wd))) 7 0 0 0 [(0, .long a1), (2, .long a2), (4, .int a3)] [] (Wd) _
  refine T_lload_n hok 1 rfl rfl dX11_least_0 ?_
  refine T_lload_n hok 0 rfl rfl dX11_least_1 ?_
  refine T_cl0 (CR_S (rest := []) hok (ct_X11_shared a2 a1) mw_X11_shared mst_X11_shared ml_X11_494 dX11_least_2 rfl rfl (roomOk rfl) rfl) rfl rfl ?_
  intro x1
  refine T_lstore (lv' := [(5, .long x1), (0, .long a1), (2, .long a2), (4, .int a3)]) hok (by decide) rfl dX11_least_5 ?_
  refine T_iload hok 3 rfl dX11_least_7 ?_
  refine T_jp _ (fun (j23 : Int64 → Option (Int64)) => ∀ (x2 : Int64), T X A (Zm X A (il0 (Wd))) 7 0 0 23 [] [.long x2] (Wd) (j23 x2)) _ ?_ ?_
  · intro x2
    exact T_lret hok dX11_least_23 (Nat.zero_le _) (Nat.zero_le _) rfl
  intro j23 hj23
  refine T_if_ne (tgt := 19) hok dX11_least_9 rfl ?_ ?_
  · refine T_lload_n hok 1 rfl rfl dX11_least_12 ?_
    refine T_lload hok 0 rfl dX11_least_13 ?_
    refine T_ldiv hok dX11_least_15 ?_
    refine T_goto (tgt := 23) hok dX11_least_16 rfl ?_
    refine T_sub (lv' := []) [] rfl ?_
    exact hj23 (a1 / x1)
  refine T_lload_n hok 2 rfl rfl dX11_least_19 ?_
  refine T_lload hok 0 rfl dX11_least_20 ?_
  refine T_ldiv hok dX11_least_22 ?_
  refine T_sub (lv' := []) [] rfl ?_
  exact hj23 (a2 / x1)

set_option maxHeartbeats 4000000 in
set_option maxRecDepth 100000 in
theorem ct_X11_paysOf {G : Gx} {l0 : Launch} {A : Nat → Prop} {b : Nat} (hA : ∀ k, k < Lm.length → A (b + k)) (I : MI) (J : MJ) (a1 : Int32) (a2 : Int32) : Ct G l0 A yX11_paysOf cX11_paysOf 3 (some .int) { frames := 0, cells := 0, slots := 0, locals := 0 } [.ref (b + 0), .int a1, .int a2] (Rg G b Lm (Rm b) I J) (ii0 (Rg G b Lm (Rm b) I J)) (f_X11_paysOf I a1 a2) := by
  refine Ct.of rfl (Nat.le_of_ble_eq_true rfl) ?_
  intro X hok
  replace hok : Ok G l0 X RX11 cX11_paysOf 3 { frames := 0, cells := 0, slots := 0, locals := 0 } (some .int) := hok
  delta f_X11_paysOf
  show T X A (Zm X A (ii0 (Rg G b Lm (Rm b) I J))) 3 0 0 0 [(0, .ref (b + 0)), (1, .int a1), (2, .int a2)] [] (Rg G b Lm (Rm b) I J) _
  refine T_aload_n hok 0 rfl rfl dX11_paysOf_0 ?_
  refine T_getR hok fr_X11_30 lm_0 rm_0_25 dX11_paysOf_1 ?_
  refine T_iload_n hok 2 rfl rfl dX11_paysOf_4 ?_
  refine T_iald hok lm_6 dX11_paysOf_5 ?_
  refine T_aload_n hok 0 rfl rfl dX11_paysOf_6 ?_
  refine T_getR hok fr_X11_42 lm_0 rm_0_29 dX11_paysOf_7 ?_
  refine T_iload_n hok 1 rfl rfl dX11_paysOf_10 ?_
  refine T_iald hok lm_10 dX11_paysOf_11 ?_
  refine T_imul hok dX11_paysOf_12 ?_
  exact T_iret hok dX11_paysOf_13 (Nat.zero_le _) (Nat.zero_le _) rfl

set_option maxHeartbeats 4000000 in
set_option maxRecDepth 100000 in
theorem ct_X11_share {G : Gx} {l0 : Launch} {A : Nat → Prop} {b : Nat} (hA : ∀ k, k < Lm.length → A (b + k)) (I : MI) (J : MJ) (a1 : Int32) (a2 : Int32) (a3 : Int32) (a4 : Int32) : Ct G l0 A yX11_share cX11_share 10 (some .int) { frames := 2, cells := 0, slots := 0, locals := 51 } [.ref (b + 0), .int a1, .int a2, .int a3, .int a4] (Rg G b Lm (Rm b) I J) (ii1 (fun (I' : MI) => Rg G b Lm (Rm b) I' J)) (f_X11_share I a1 a2 a3 a4) := by
  refine Ct.of rfl (Nat.le_of_ble_eq_true rfl) ?_
  intro X hok
  replace hok : Ok G l0 X RX11 cX11_share 10 { frames := 2, cells := 0, slots := 0, locals := 51 } (some .int) := hok
  delta f_X11_share
  show T X A (Zm X A (ii1 (fun (I' : MI) => Rg G b Lm (Rm b) I' J))) 10 0 0 0 [(0, .ref (b + 0)), (1, .int a1), (2, .int a2), (3, .int a3), (4, .int a4)] [] (Rg G b Lm (Rm b) I J) _
  refine T_aload_n hok 0 rfl rfl dX11_share_0 ?_
  refine T_iconst hok ic_0 dX11_share_1 ?_
  refine T_putI hok hA fr_X11_151 rfl rfl lm_0 dX11_share_2 ?_
  intro I1
  refine T_aload_n hok 0 rfl rfl dX11_share_5 ?_
  refine T_iload_n hok 1 rfl rfl dX11_share_6 ?_
  refine T_cz0 (CR_V (rest := []) hok (ct_X11_areHouses hA I1 J a1) mw_X11_areHouses mv_X11_areHouses ml_X11_497 lm_0 dX11_share_7 rfl rfl (roomOk rfl) rfl) rfl rfl ?_
  intro x2
  refine T_jp _ (fun (j39 : Option (Int32 × MI)) => T X A (Zm X A (ii1 (fun (I' : MI) => Rg G b Lm (Rm b) I' J))) 10 0 0 39 [] [] (Rg G b Lm (Rm b) I1 J) (j39)) _ ?_ ?_
  · skip
    refine T_iconst hok ic_m1 dX11_share_39 ?_
    exact T_iret hok dX11_share_40 (Nat.zero_le _) (Nat.zero_le _) rfl
  intro j39 hj39
  refine T_ifb_eq (tgt := 39) hok dX11_share_10 rfl ?_ ?_
  · refine T_aload_n hok 0 rfl rfl dX11_share_13 ?_
    refine T_iload_n hok 2 rfl rfl dX11_share_14 ?_
    refine T_cz0 (CR_V (rest := []) hok (ct_X11_isHouse hA I1 J a2) mw_X11_isHouse mv_X11_isHouse ml_X11_443 lm_0 dX11_share_15 rfl rfl (roomOk rfl) rfl) rfl rfl ?_
    intro x3
    refine T_ifb_eq (tgt := 39) hok dX11_share_18 rfl ?_ ?_
    · refine T_aload_n hok 0 rfl rfl dX11_share_21 ?_
      refine T_iload_n hok 3 rfl rfl dX11_share_22 ?_
      refine T_cz0 (CR_V (rest := []) hok (ct_X11_isKind hA I1 J a3) mw_X11_isKind mv_X11_isKind ml_X11_449 lm_0 dX11_share_23 rfl rfl (roomOk rfl) rfl) rfl rfl ?_
      intro x4
      refine T_ifb_eq (tgt := 39) hok dX11_share_26 rfl ?_ ?_
      · refine T_iload hok 4 rfl dX11_share_29 ?_
        refine T_iconst hok ic_0 dX11_share_31 ?_
        refine T_iconst hok ic_1 dX11_share_32 ?_
        refine T_cz0 (CR_S (rest := []) hok (ct_X11_isIn a4 (0 : Int32) (1 : Int32)) mw_X11_isIn mst_X11_isIn ml_X11_196 dX11_share_33 rfl rfl (roomOk rfl) rfl) rfl rfl ?_
        intro x5
        refine T_ifb_ne (tgt := 41) hok dX11_share_36 rfl ?_ ?_
        · refine T_iconst hok ic_0 dX11_share_41 ?_
          refine T_istore (lv' := [(5, .int (0 : Int32)), (0, .ref (b + 0)), (1, .int a1), (2, .int a2), (3, .int a3), (4, .int a4)]) hok (by decide) rfl dX11_share_42 ?_
          refine T_iconst hok ic_0 dX11_share_44 ?_
          refine T_istore (lv' := [(6, .int (0 : Int32)), (5, .int (0 : Int32)), (0, .ref (b + 0)), (1, .int a1), (2, .int a2), (3, .int a3), (4, .int a4)]) hok (by decide) rfl dX11_share_45 ?_
          refine T_jp _ (fun (j171 : Int32 → Option (Int32 × MI)) => ∀ (x6 : Int32), T X A (Zm X A (ii1 (fun (I' : MI) => Rg G b Lm (Rm b) I' J))) 10 0 0 171 [(4, .int a4), (6, .int x6)] [] (Rg G b Lm (Rm b) I1 J) (j171 x6)) _ ?_ ?_
          · intro x6
            refine T_iload hok 1 rfl dX11_share_171 ?_
            refine T_i2l hok dX11_share_173 ?_
            refine T_ldc2 hok lk_X11_503 dX11_share_174 ?_
            refine T_iload hok 0 rfl dX11_share_177 ?_
            refine T_cl0 (CR_S (rest := []) hok (ct_X11_least (Int32.toInt64 x6) (60 : Int64) a4) mw_X11_least mst_X11_least ml_X11_505 dX11_share_179 rfl rfl (roomOk rfl) rfl) rfl rfl ?_
            intro x7
            refine T_l2i hok dX11_share_182 ?_
            exact T_iret hok dX11_share_183 (Nat.zero_le _) (Nat.zero_le _) rfl
          intro j171 hj171
          refine T_sub (lv' := [(0, .ref (b + 0)), (1, .int a1), (2, .int a2), (3, .int a3), (4, .int a4), (5, .int (0 : Int32)), (6, .int (0 : Int32))]) [2, 3, 4, 5, 6, 1, 0] rfl ?_
          refine T_fix2 _ (fun (x8 : Int32) (x9 : Int32) => [(0, .ref (b + 0)), (1, .int a1), (2, .int a2), (3, .int a3), (4, .int a4), (5, .int x8), (6, .int x9)]) (fun (x8 : Int32) (x9 : Int32) => Rg G b Lm (Rm b) I1 J) ?_ FU (0 : Int32) (0 : Int32)
          intro r47 hr47 x8 x9
          refine T_iload_n hok 1 rfl rfl dX11_share_47 ?_
          refine T_iload_n hok 2 rfl rfl dX11_share_48 ?_
          refine T_cz0 (CR_S (rest := []) hok (ct_X11_isOf a1 a2) mw_X11_isOf mst_X11_isOf ml_X11_430 dX11_share_49 rfl rfl (roomOk rfl) rfl) rfl rfl ?_
          intro x10
          refine T_ifb_eq (tgt := 171) hok dX11_share_52 rfl ?_ ?_
          · refine T_iload hok 5 rfl dX11_share_55 ?_
            refine T_aload_n hok 0 rfl rfl dX11_share_57 ?_
            refine T_iload_n hok 2 rfl rfl dX11_share_58 ?_
            refine T_iload_n hok 3 rfl rfl dX11_share_59 ?_
            refine T_ci0 (CR_V (rest := [.int x8]) hok (ct_X11_paysOf hA I1 J a2 a3) mw_X11_paysOf mv_X11_paysOf ml_X11_500 lm_0 dX11_share_60 rfl rfl (roomOk rfl) rfl) rfl rfl ?_
            intro x11
            refine T_icmp_ge (tgt := 171) hok dX11_share_63 rfl ?_ ?_
            · refine T_sub (lv' := [(4, .int a4), (6, .int x9)]) [4, 6] rfl ?_
              exact hj171 x9
            refine T_aload_n hok 0 rfl rfl dX11_share_66 ?_
            refine T_iload_n hok 2 rfl rfl dX11_share_67 ?_
            refine T_iload_n hok 3 rfl rfl dX11_share_68 ?_
            refine T_ci0 (CR_V (rest := []) hok (ct_X11_paysOf hA I1 J a2 a3) mw_X11_paysOf mv_X11_paysOf ml_X11_500 lm_0 dX11_share_69 rfl rfl (roomOk rfl) rfl) rfl rfl ?_
            intro x12
            refine T_istore (lv' := [(7, .int x12), (0, .ref (b + 0)), (1, .int a1), (2, .int a2), (3, .int a3), (4, .int a4), (5, .int x8), (6, .int x9)]) hok (by decide) rfl dX11_share_72 ?_
            refine T_iconst hok ic_0 dX11_share_74 ?_
            refine T_istore (lv' := [(8, .int (0 : Int32)), (7, .int x12), (0, .ref (b + 0)), (1, .int a1), (2, .int a2), (3, .int a3), (4, .int a4), (5, .int x8), (6, .int x9)]) hok (by decide) rfl dX11_share_75 ?_
            refine T_iconst hok ic_0 dX11_share_77 ?_
            refine T_istore (lv' := [(9, .int (0 : Int32)), (8, .int (0 : Int32)), (7, .int x12), (0, .ref (b + 0)), (1, .int a1), (2, .int a2), (3, .int a3), (4, .int a4), (5, .int x8), (6, .int x9)]) hok (by decide) rfl dX11_share_78 ?_
            refine T_jp _ (fun (j148 : Int32 → Int32 → Option (Int32 × MI)) => ∀ (x13 : Int32) (x14 : Int32), T X A (Zm X A (ii1 (fun (I' : MI) => Rg G b Lm (Rm b) I' J))) 10 0 0 148 [(0, .ref (b + 0)), (1, .int a1), (2, .int a2), (3, .int a3), (4, .int a4), (5, .int x8), (6, .int x9), (7, .int x13), (8, .int x14)] [] (Rg G b Lm (Rm b) I1 J) (j148 x13 x14)) _ ?_ ?_
            · intro x13 x14
              refine T_iload hok 6 rfl dX11_share_148 ?_
              refine T_iload hok 7 rfl dX11_share_150 ?_
              refine T_iload hok 5 rfl dX11_share_152 ?_
              refine T_isub hok dX11_share_154 ?_
              refine T_bipush hok bp_60 dX11_share_155 ?_
              refine T_iload hok 8 rfl dX11_share_157 ?_
              refine T_idiv hok dX11_share_159 ?_
              refine T_imul hok dX11_share_160 ?_
              refine T_iadd hok dX11_share_161 ?_
              refine T_lti ?_
              intro x15
              refine T_istore (lv' := [(6, .int x15), (0, .ref (b + 0)), (1, .int a1), (2, .int a2), (3, .int a3), (4, .int a4), (5, .int x8), (7, .int x13), (8, .int x14)]) hok (by decide) rfl dX11_share_162 ?_
              refine T_iload hok 7 rfl dX11_share_164 ?_
              refine T_istore (lv' := [(5, .int x13), (6, .int x15), (0, .ref (b + 0)), (1, .int a1), (2, .int a2), (3, .int a3), (4, .int a4), (7, .int x13), (8, .int x14)]) hok (by decide) rfl dX11_share_166 ?_
              refine T_goto (tgt := 47) hok dX11_share_168 rfl ?_
              refine T_sub (lv' := [(0, .ref (b + 0)), (1, .int a1), (2, .int a2), (3, .int a3), (4, .int a4), (5, .int x13), (6, .int x15)]) [2, 3, 4, 5, 6, 0, 1] rfl ?_
              exact hr47 x13 x15
            intro j148 hj148
            refine T_sub (lv' := [(0, .ref (b + 0)), (1, .int a1), (2, .int a2), (3, .int a3), (4, .int a4), (5, .int x8), (6, .int x9), (7, .int x12), (8, .int (0 : Int32)), (9, .int (0 : Int32))]) [3, 4, 5, 6, 7, 8, 9, 2, 1, 0] rfl ?_
            refine T_fix3 _ (fun (x16 : Int32) (x17 : Int32) (x18 : Int32) => [(0, .ref (b + 0)), (1, .int a1), (2, .int a2), (3, .int a3), (4, .int a4), (5, .int x8), (6, .int x9), (7, .int x16), (8, .int x17), (9, .int x18)]) (fun (x16 : Int32) (x17 : Int32) (x18 : Int32) => Rg G b Lm (Rm b) I1 J) ?_ FU x12 (0 : Int32) (0 : Int32)
            intro r80 hr80 x16 x17 x18
            refine T_iload hok 9 rfl dX11_share_80 ?_
            refine T_aload_n hok 0 rfl rfl dX11_share_82 ?_
            refine T_getI hok fr_X11_234 lm_0 dX11_share_83 ?_
            refine T_icmp_ge (tgt := 148) hok dX11_share_86 rfl ?_ ?_
            · refine T_sub (lv' := [(0, .ref (b + 0)), (1, .int a1), (2, .int a2), (3, .int a3), (4, .int a4), (5, .int x8), (6, .int x9), (7, .int x16), (8, .int x17)]) [0, 1, 2, 3, 4, 5, 6, 7, 8] rfl ?_
              exact hj148 x16 x17
            refine T_iload_n hok 1 rfl rfl dX11_share_89 ?_
            refine T_iload hok 9 rfl dX11_share_90 ?_
            refine T_cz0 (CR_S (rest := []) hok (ct_X11_isOf a1 x18) mw_X11_isOf mst_X11_isOf ml_X11_430 dX11_share_92 rfl rfl (roomOk rfl) rfl) rfl rfl ?_
            intro x19
            refine T_jp _ (fun (j142 : Int32 → Int32 → Option (Int32 × MI)) => ∀ (x20 : Int32) (x21 : Int32), T X A (Zm X A (ii1 (fun (I' : MI) => Rg G b Lm (Rm b) I' J))) 10 0 0 142 [(0, .ref (b + 0)), (1, .int a1), (2, .int a2), (3, .int a3), (4, .int a4), (5, .int x8), (6, .int x9), (7, .int x20), (8, .int x21), (9, .int x18)] [] (Rg G b Lm (Rm b) I1 J) (j142 x20 x21)) _ ?_ ?_
            · intro x20 x21
              refine T_iinc (lvs := fun x22 => [(9, .int x22), (0, .ref (b + 0)), (1, .int a1), (2, .int a2), (3, .int a3), (4, .int a4), (5, .int x8), (6, .int x9), (7, .int x20), (8, .int x21)]) hok 9 rfl ic_1 (by decide) (fun _ => rfl) dX11_share_142 ?_
              intro x22
              refine T_goto (tgt := 80) hok dX11_share_145 rfl ?_
              refine T_sub (lv' := [(0, .ref (b + 0)), (1, .int a1), (2, .int a2), (3, .int a3), (4, .int a4), (5, .int x8), (6, .int x9), (7, .int x20), (8, .int x21), (9, .int x22)]) [1, 2, 3, 4, 5, 6, 7, 8, 9, 0] rfl ?_
              exact hr80 x20 x21 x22
            intro j142 hj142
            refine T_ifb_eq (tgt := 142) hok dX11_share_95 rfl ?_ ?_
            · refine T_aload_n hok 0 rfl rfl dX11_share_98 ?_
              refine T_iload hok 9 rfl dX11_share_99 ?_
              refine T_iload_n hok 3 rfl rfl dX11_share_101 ?_
              refine T_ci0 (CR_V (rest := []) hok (ct_X11_paysOf hA I1 J x18 a3) mw_X11_paysOf mv_X11_paysOf ml_X11_500 lm_0 dX11_share_102 rfl rfl (roomOk rfl) rfl) rfl rfl ?_
              intro x23
              refine T_iload hok 5 rfl dX11_share_105 ?_
              refine T_icmp_gt (tgt := 113) hok dX11_share_107 rfl ?_ ?_
              · refine T_aload_n hok 0 rfl rfl dX11_share_113 ?_
                refine T_iload hok 9 rfl dX11_share_114 ?_
                refine T_iload_n hok 3 rfl rfl dX11_share_116 ?_
                refine T_ci0 (CR_V (rest := []) hok (ct_X11_paysOf hA I1 J x18 a3) mw_X11_paysOf mv_X11_paysOf ml_X11_500 lm_0 dX11_share_117 rfl rfl (roomOk rfl) rfl) rfl rfl ?_
                intro x24
                refine T_iload hok 7 rfl dX11_share_120 ?_
                refine T_jp _ (fun (j137 : Int32 → Option (Int32 × MI)) => ∀ (x25 : Int32), T X A (Zm X A (ii1 (fun (I' : MI) => Rg G b Lm (Rm b) I' J))) 10 0 0 137 [(0, .ref (b + 0)), (1, .int a1), (2, .int a2), (3, .int a3), (4, .int a4), (5, .int x8), (6, .int x9), (8, .int x17), (9, .int x18)] [.int x25] (Rg G b Lm (Rm b) I1 J) (j137 x25)) _ ?_ ?_
                · intro x25
                  refine T_istore (lv' := [(7, .int x25), (0, .ref (b + 0)), (1, .int a1), (2, .int a2), (3, .int a3), (4, .int a4), (5, .int x8), (6, .int x9), (8, .int x17), (9, .int x18)]) hok (by decide) rfl dX11_share_137 ?_
                  refine T_iinc (lvs := fun x26 => [(8, .int x26), (7, .int x25), (0, .ref (b + 0)), (1, .int a1), (2, .int a2), (3, .int a3), (4, .int a4), (5, .int x8), (6, .int x9), (9, .int x18)]) hok 8 rfl ic_1 (by decide) (fun _ => rfl) dX11_share_139 ?_
                  intro x26
                  refine T_sub (lv' := [(0, .ref (b + 0)), (1, .int a1), (2, .int a2), (3, .int a3), (4, .int a4), (5, .int x8), (6, .int x9), (7, .int x25), (8, .int x26), (9, .int x18)]) [2, 3, 4, 5, 6, 7, 8, 1, 0, 9] rfl ?_
                  exact hj142 x25 x26
                intro j137 hj137
                refine T_icmp_ge (tgt := 135) hok dX11_share_122 rfl ?_ ?_
                · refine T_iload hok 7 rfl dX11_share_135 ?_
                  refine T_sub (lv' := [(0, .ref (b + 0)), (1, .int a1), (2, .int a2), (3, .int a3), (4, .int a4), (5, .int x8), (6, .int x9), (8, .int x17), (9, .int x18)]) [0, 1, 2, 3, 4, 5, 6, 8, 9] rfl ?_
                  exact hj137 x16
                refine T_aload_n hok 0 rfl rfl dX11_share_125 ?_
                refine T_iload hok 9 rfl dX11_share_126 ?_
                refine T_iload_n hok 3 rfl rfl dX11_share_128 ?_
                refine T_ci0 (CR_V (rest := []) hok (ct_X11_paysOf hA I1 J x18 a3) mw_X11_paysOf mv_X11_paysOf ml_X11_500 lm_0 dX11_share_129 rfl rfl (roomOk rfl) rfl) rfl rfl ?_
                intro x27
                refine T_goto (tgt := 137) hok dX11_share_132 rfl ?_
                refine T_sub (lv' := [(0, .ref (b + 0)), (1, .int a1), (2, .int a2), (3, .int a3), (4, .int a4), (5, .int x8), (6, .int x9), (8, .int x17), (9, .int x18)]) [0, 1, 2, 3, 4, 5, 6, 8, 9] rfl ?_
                exact hj137 x27
              refine T_goto (tgt := 142) hok dX11_share_110 rfl ?_
              exact hj142 x16 x17
            exact hj142 x16 x17
          refine T_sub (lv' := [(4, .int a4), (6, .int x9)]) [4, 6] rfl ?_
          exact hj171 x9
        refine T_sub (lv' := []) [] rfl ?_
        exact hj39
      refine T_sub (lv' := []) [] rfl ?_
      exact hj39
    refine T_sub (lv' := []) [] rfl ?_
    exact hj39
  refine T_sub (lv' := []) [] rfl ?_
  exact hj39

set_option maxHeartbeats 4000000 in
set_option maxRecDepth 100000 in
theorem ct_X11_waits {G : Gx} {l0 : Launch} {A : Nat → Prop} {b : Nat} (hA : ∀ k, k < Lm.length → A (b + k)) (I : MI) (J : MJ) (a1 : Int32) (a2 : Int32) : Ct G l0 A yX11_waits cX11_waits 13 (some .long) { frames := 2, cells := 0, slots := 0, locals := 51 } [.ref (b + 0), .int a1, .int a2] (Rg G b Lm (Rm b) I J) (il1 (fun (I' : MI) => Rg G b Lm (Rm b) I' J)) (f_X11_waits I a1 a2) := by
  refine Ct.of rfl (Nat.le_of_ble_eq_true rfl) ?_
  intro X hok
  replace hok : Ok G l0 X RX11 cX11_waits 13 { frames := 2, cells := 0, slots := 0, locals := 51 } (some .long) := hok
  delta f_X11_waits
  show T X A (Zm X A (il1 (fun (I' : MI) => Rg G b Lm (Rm b) I' J))) 13 0 0 0 [(0, .ref (b + 0)), (1, .int a1), (2, .int a2)] [] (Rg G b Lm (Rm b) I J) _
  refine T_aload_n hok 0 rfl rfl dX11_waits_0 ?_
  refine T_iconst hok ic_0 dX11_waits_1 ?_
  refine T_putI hok hA fr_X11_151 rfl rfl lm_0 dX11_waits_2 ?_
  intro I1
  refine T_iload_n hok 1 rfl rfl dX11_waits_5 ?_
  refine T_iconst hok ic_0 dX11_waits_6 ?_
  refine T_bipush hok bp_6 dX11_waits_7 ?_
  refine T_cz0 (CR_S (rest := []) hok (ct_X11_isIn a1 (0 : Int32) (6 : Int32)) mw_X11_isIn mst_X11_isIn ml_X11_196 dX11_waits_9 rfl rfl (roomOk rfl) rfl) rfl rfl ?_
  intro x2
  refine T_jp _ (fun (j24 : Option (Int64 × MI)) => T X A (Zm X A (il1 (fun (I' : MI) => Rg G b Lm (Rm b) I' J))) 13 0 0 24 [] [] (Rg G b Lm (Rm b) I1 J) (j24)) _ ?_ ?_
  · skip
    refine T_ldc2 hok lk_X11_509 dX11_waits_24 ?_
    exact T_lret hok dX11_waits_27 (Nat.zero_le _) (Nat.zero_le _) rfl
  intro j24 hj24
  refine T_ifb_eq (tgt := 24) hok dX11_waits_12 rfl ?_ ?_
  · refine T_iload_n hok 2 rfl rfl dX11_waits_15 ?_
    refine T_iconst hok ic_0 dX11_waits_16 ?_
    refine T_iconst hok ic_1 dX11_waits_17 ?_
    refine T_cz0 (CR_S (rest := []) hok (ct_X11_isIn a2 (0 : Int32) (1 : Int32)) mw_X11_isIn mst_X11_isIn ml_X11_196 dX11_waits_18 rfl rfl (roomOk rfl) rfl) rfl rfl ?_
    intro x3
    refine T_ifb_ne (tgt := 28) hok dX11_waits_21 rfl ?_ ?_
    · refine T_lconst (v := 0) hok rfl dX11_waits_28 ?_
      refine T_lstore_n (lv' := [(3, .long (0 : Int64)), (0, .ref (b + 0)), (1, .int a1), (2, .int a2)]) hok rfl (by decide) rfl dX11_waits_29 ?_
      refine T_lconst (v := 1) hok rfl dX11_waits_30 ?_
      refine T_lstore (lv' := [(5, .long (1 : Int64)), (3, .long (0 : Int64)), (0, .ref (b + 0)), (1, .int a1), (2, .int a2)]) hok (by decide) rfl dX11_waits_31 ?_
      refine T_iconst hok ic_0 dX11_waits_33 ?_
      refine T_istore (lv' := [(7, .int (0 : Int32)), (5, .long (1 : Int64)), (3, .long (0 : Int64)), (0, .ref (b + 0)), (1, .int a1), (2, .int a2)]) hok (by decide) rfl dX11_waits_34 ?_
      refine T_jp _ (fun (j145 : Int64 → Int64 → Option (Int64 × MI)) => ∀ (x4 : Int64) (x5 : Int64), T X A (Zm X A (il1 (fun (I' : MI) => Rg G b Lm (Rm b) I' J))) 13 0 0 145 [(2, .int a2), (3, .long x4), (5, .long x5)] [] (Rg G b Lm (Rm b) I1 J) (j145 x4 x5)) _ ?_ ?_
      · intro x4 x5
        refine T_iload_n hok 0 rfl rfl dX11_waits_145 ?_
        refine T_jp _ (fun (j155 : Int64 → Option (Int64 × MI)) => ∀ (x6 : Int64), T X A (Zm X A (il1 (fun (I' : MI) => Rg G b Lm (Rm b) I' J))) 13 0 0 155 [] [.long x6] (Rg G b Lm (Rm b) I1 J) (j155 x6)) _ ?_ ?_
        · intro x6
          exact T_lret hok dX11_waits_155 (Nat.zero_le _) (Nat.zero_le _) rfl
        intro j155 hj155
        refine T_if_ne (tgt := 153) hok dX11_waits_146 rfl ?_ ?_
        · refine T_lload_n hok 1 rfl rfl dX11_waits_149 ?_
          refine T_goto (tgt := 155) hok dX11_waits_150 rfl ?_
          refine T_sub (lv' := []) [] rfl ?_
          exact hj155 x4
        refine T_lload hok 2 rfl dX11_waits_153 ?_
        refine T_sub (lv' := []) [] rfl ?_
        exact hj155 x5
      intro j145 hj145
      refine T_sub (lv' := [(0, .ref (b + 0)), (1, .int a1), (2, .int a2), (3, .long (0 : Int64)), (5, .long (1 : Int64)), (7, .int (0 : Int32))]) [3, 4, 5, 2, 1, 0] rfl ?_
      refine T_fix3 _ (fun (x7 : Int64) (x8 : Int64) (x9 : Int32) => [(0, .ref (b + 0)), (1, .int a1), (2, .int a2), (3, .long x7), (5, .long x8), (7, .int x9)]) (fun (x7 : Int64) (x8 : Int64) (x9 : Int32) => Rg G b Lm (Rm b) I1 J) ?_ FU (0 : Int64) (1 : Int64) (0 : Int32)
      intro r36 hr36 x7 x8 x9
      refine T_iload hok 5 rfl dX11_waits_36 ?_
      refine T_iload_n hok 1 rfl rfl dX11_waits_38 ?_
      refine T_icmp_ge (tgt := 145) hok dX11_waits_39 rfl ?_ ?_
      · refine T_sub (lv' := [(2, .int a2), (3, .long x7), (5, .long x8)]) [2, 3, 4] rfl ?_
        exact hj145 x7 x8
      refine T_aload_n hok 0 rfl rfl dX11_waits_42 ?_
      refine T_ci0 (CR_V (rest := []) hok (ct_X11_weightAll hA I1 J) mw_X11_weightAll mv_X11_weightAll ml_X11_404 lm_0 dX11_waits_43 rfl rfl (roomOk rfl) rfl) rfl rfl ?_
      intro x10
      refine T_if_le (tgt := 145) hok dX11_waits_46 rfl ?_ ?_
      · refine T_sub (lv' := [(2, .int a2), (3, .long x7), (5, .long x8)]) [2, 3, 4] rfl ?_
        exact hj145 x7 x8
      refine T_lconst (v := 0) hok rfl dX11_waits_49 ?_
      refine T_lstore (lv' := [(8, .long (0 : Int64)), (0, .ref (b + 0)), (1, .int a1), (2, .int a2), (3, .long x7), (5, .long x8), (7, .int x9)]) hok (by decide) rfl dX11_waits_50 ?_
      refine T_iconst hok ic_0 dX11_waits_52 ?_
      refine T_istore (lv' := [(10, .int (0 : Int32)), (8, .long (0 : Int64)), (0, .ref (b + 0)), (1, .int a1), (2, .int a2), (3, .long x7), (5, .long x8), (7, .int x9)]) hok (by decide) rfl dX11_waits_53 ?_
      refine T_jp _ (fun (j110 : Int64 → Option (Int64 × MI)) => ∀ (x11 : Int64), T X A (Zm X A (il1 (fun (I' : MI) => Rg G b Lm (Rm b) I' J))) 13 0 0 110 [(0, .ref (b + 0)), (1, .int a1), (2, .int a2), (5, .long x8), (7, .int x9), (8, .long x11)] [] (Rg G b Lm (Rm b) I1 J) (j110 x11)) _ ?_ ?_
      · intro x11
        refine T_lload hok 3 rfl dX11_waits_110 ?_
        refine T_aload_n hok 0 rfl rfl dX11_waits_112 ?_
        refine T_ci0 (CR_V (rest := [.long x8]) hok (ct_X11_weightAll hA I1 J) mw_X11_weightAll mv_X11_weightAll ml_X11_404 lm_0 dX11_waits_113 rfl rfl (roomOk rfl) rfl) rfl rfl ?_
        intro x12
        refine T_i2l hok dX11_waits_116 ?_
        refine T_lmul hok dX11_waits_117 ?_
        refine T_ltl ?_
        intro x13
        refine T_lstore (lv' := [(10, .long x13), (0, .ref (b + 0)), (1, .int a1), (2, .int a2), (5, .long x8), (7, .int x9), (8, .long x11)]) hok (by decide) rfl dX11_waits_118 ?_
        refine T_lload hok 6 rfl dX11_waits_120 ?_
        refine T_lload hok 0 rfl dX11_waits_122 ?_
        refine T_iconst hok ic_0 dX11_waits_124 ?_
        refine T_cl0 (CR_S (rest := []) hok (ct_X11_least x11 x13 (0 : Int32)) mw_X11_least mst_X11_least ml_X11_505 dX11_waits_125 rfl rfl (roomOk rfl) rfl) rfl rfl ?_
        intro x14
        refine T_lstore_n (lv' := [(3, .long x14), (10, .long x13), (0, .ref (b + 0)), (1, .int a1), (2, .int a2), (5, .long x8), (7, .int x9), (8, .long x11)]) hok rfl (by decide) rfl dX11_waits_128 ?_
        refine T_lload hok 7 rfl dX11_waits_129 ?_
        refine T_lload hok 1 rfl dX11_waits_131 ?_
        refine T_iconst hok ic_1 dX11_waits_133 ?_
        refine T_cl0 (CR_S (rest := []) hok (ct_X11_least x11 x13 (1 : Int32)) mw_X11_least mst_X11_least ml_X11_505 dX11_waits_134 rfl rfl (roomOk rfl) rfl) rfl rfl ?_
        intro x15
        refine T_lstore (lv' := [(5, .long x15), (3, .long x14), (10, .long x13), (0, .ref (b + 0)), (1, .int a1), (2, .int a2), (7, .int x9), (8, .long x11)]) hok (by decide) rfl dX11_waits_137 ?_
        refine T_iinc (lvs := fun x16 => [(7, .int x16), (5, .long x15), (3, .long x14), (10, .long x13), (0, .ref (b + 0)), (1, .int a1), (2, .int a2), (8, .long x11)]) hok 6 rfl ic_1 (by decide) (fun _ => rfl) dX11_waits_139 ?_
        intro x16
        refine T_goto (tgt := 36) hok dX11_waits_142 rfl ?_
        refine T_sub (lv' := [(0, .ref (b + 0)), (1, .int a1), (2, .int a2), (3, .long x14), (5, .long x15), (7, .int x16)]) [4, 5, 6, 2, 1, 0] rfl ?_
        exact hr36 x14 x15 x16
      intro j110 hj110
      refine T_sub (lv' := [(0, .ref (b + 0)), (1, .int a1), (2, .int a2), (3, .long x7), (5, .long x8), (7, .int x9), (8, .long (0 : Int64)), (10, .int (0 : Int32))]) [2, 3, 4, 5, 6, 7, 1, 0] rfl ?_
      refine T_fix2 _ (fun (x17 : Int64) (x18 : Int32) => [(0, .ref (b + 0)), (1, .int a1), (2, .int a2), (3, .long x7), (5, .long x8), (7, .int x9), (8, .long x17), (10, .int x18)]) (fun (x17 : Int64) (x18 : Int32) => Rg G b Lm (Rm b) I1 J) ?_ FU (0 : Int64) (0 : Int32)
      intro r55 hr55 x17 x18
      refine T_iload hok 7 rfl dX11_waits_55 ?_
      refine T_aload_n hok 0 rfl rfl dX11_waits_57 ?_
      refine T_getI hok fr_X11_231 lm_0 dX11_waits_58 ?_
      refine T_icmp_ge (tgt := 110) hok dX11_waits_61 rfl ?_ ?_
      · refine T_sub (lv' := [(0, .ref (b + 0)), (1, .int a1), (2, .int a2), (5, .long x8), (7, .int x9), (8, .long x17)]) [0, 1, 2, 4, 5, 6] rfl ?_
        exact hj110 x17
      refine T_aload_n hok 0 rfl rfl dX11_waits_64 ?_
      refine T_getR hok fr_X11_30 lm_0 rm_0_25 dX11_waits_65 ?_
      refine T_iload hok 7 rfl dX11_waits_68 ?_
      refine T_iald hok lm_6 dX11_waits_70 ?_
      refine T_i2l hok dX11_waits_71 ?_
      refine T_lload hok 4 rfl dX11_waits_72 ?_
      refine T_lmul hok dX11_waits_74 ?_
      refine T_ltl ?_
      intro x19
      refine T_lstore (lv' := [(11, .long x19), (0, .ref (b + 0)), (1, .int a1), (2, .int a2), (3, .long x7), (5, .long x8), (7, .int x9), (8, .long x17), (10, .int x18)]) hok (by decide) rfl dX11_waits_75 ?_
      refine T_lload hok 7 rfl dX11_waits_77 ?_
      refine T_aload_n hok 1 rfl rfl dX11_waits_79 ?_
      refine T_getR hok fr_X11_33 lm_0 rm_0_26 dX11_waits_80 ?_
      refine T_iload hok 8 rfl dX11_waits_83 ?_
      refine T_iald hok lm_7 dX11_waits_85 ?_
      refine T_i2l hok dX11_waits_86 ?_
      refine T_lload hok 0 rfl dX11_waits_87 ?_
      refine T_lload_n hok 4 rfl rfl dX11_waits_89 ?_
      refine T_jp _ (fun (j100 : Int64 → Int64 → Int64 → Option (Int64 × MI)) => ∀ (x20 : Int64) (x21 : Int64) (x22 : Int64), T X A (Zm X A (il1 (fun (I' : MI) => Rg G b Lm (Rm b) I' J))) 13 0 0 100 [(0, .ref (b + 0)), (1, .int a1), (2, .int a2), (3, .long x7), (5, .long x8), (7, .int x9), (10, .int x18)] [.long x20, .long x21, .long x22] (Rg G b Lm (Rm b) I1 J) (j100 x20 x21 x22)) _ ?_ ?_
      · intro x20 x21 x22
        refine T_lmul hok dX11_waits_100 ?_
        refine T_ladd hok dX11_waits_101 ?_
        refine T_ltl ?_
        intro x23
        refine T_lstore (lv' := [(8, .long x23), (0, .ref (b + 0)), (1, .int a1), (2, .int a2), (3, .long x7), (5, .long x8), (7, .int x9), (10, .int x18)]) hok (by decide) rfl dX11_waits_102 ?_
        refine T_iinc (lvs := fun x24 => [(10, .int x24), (8, .long x23), (0, .ref (b + 0)), (1, .int a1), (2, .int a2), (3, .long x7), (5, .long x8), (7, .int x9)]) hok 7 rfl ic_1 (by decide) (fun _ => rfl) dX11_waits_104 ?_
        intro x24
        refine T_goto (tgt := 55) hok dX11_waits_107 rfl ?_
        refine T_sub (lv' := [(0, .ref (b + 0)), (1, .int a1), (2, .int a2), (3, .long x7), (5, .long x8), (7, .int x9), (8, .long x23), (10, .int x24)]) [2, 3, 4, 5, 6, 7, 1, 0] rfl ?_
        exact hr55 x23 x24
      intro j100 hj100
      refine T_lcmp_le (tgt := 99) hok dX11_waits_90 rfl dX11_waits_91 rfl ?_ ?_
      · refine T_lload_n hok 4 rfl rfl dX11_waits_99 ?_
        refine T_sub (lv' := [(0, .ref (b + 0)), (1, .int a1), (2, .int a2), (3, .long x7), (5, .long x8), (7, .int x9), (10, .int x18)]) [1, 2, 3, 4, 5, 6, 8] rfl ?_
        exact hj100 x7 (Int32.toInt64 (I1 7 (ix x18))) x17
      refine T_lload hok 0 rfl dX11_waits_94 ?_
      refine T_goto (tgt := 100) hok dX11_waits_96 rfl ?_
      refine T_sub (lv' := [(0, .ref (b + 0)), (1, .int a1), (2, .int a2), (3, .long x7), (5, .long x8), (7, .int x9), (10, .int x18)]) [1, 2, 3, 4, 5, 6, 8] rfl ?_
      exact hj100 x19 (Int32.toInt64 (I1 7 (ix x18))) x17
    refine T_sub (lv' := []) [] rfl ?_
    exact hj24
  refine T_sub (lv' := []) [] rfl ?_
  exact hj24

set_option maxHeartbeats 4000000 in
set_option maxRecDepth 100000 in
theorem ct_X11_came {G : Gx} {l0 : Launch} {A : Nat → Prop} {b : Nat} (hA : ∀ k, k < Lm.length → A (b + k)) (I : MI) (J : MJ) (a1 : Int32) (a2 : Int32) (a3 : Int32) : Ct G l0 A yX11_came cX11_came 10 (some .int) { frames := 1, cells := 0, slots := 0, locals := 22 } [.ref (b + 0), .int a1, .int a2, .int a3] (Rg G b Lm (Rm b) I J) (ii1 (fun (I' : MI) => Rg G b Lm (Rm b) I' J)) (f_X11_came I a1 a2 a3) := by
  refine Ct.of rfl (Nat.le_of_ble_eq_true rfl) ?_
  intro X hok
  replace hok : Ok G l0 X RX11 cX11_came 10 { frames := 1, cells := 0, slots := 0, locals := 22 } (some .int) := hok
  delta f_X11_came
  show T X A (Zm X A (ii1 (fun (I' : MI) => Rg G b Lm (Rm b) I' J))) 10 0 0 0 [(0, .ref (b + 0)), (1, .int a1), (2, .int a2), (3, .int a3)] [] (Rg G b Lm (Rm b) I J) _
  refine T_aload_n hok 0 rfl rfl dX11_came_0 ?_
  refine T_iconst hok ic_0 dX11_came_1 ?_
  refine T_putI hok hA fr_X11_151 rfl rfl lm_0 dX11_came_2 ?_
  intro I1
  refine T_aload_n hok 0 rfl rfl dX11_came_5 ?_
  refine T_iload_n hok 1 rfl rfl dX11_came_6 ?_
  refine T_cz0 (CR_V (rest := []) hok (ct_X11_isHouse hA I1 J a1) mw_X11_isHouse mv_X11_isHouse ml_X11_443 lm_0 dX11_came_7 rfl rfl (roomOk rfl) rfl) rfl rfl ?_
  intro x2
  refine T_jp _ (fun (j33 : Option (Int32 × MI)) => T X A (Zm X A (ii1 (fun (I' : MI) => Rg G b Lm (Rm b) I' J))) 10 0 0 33 [] [] (Rg G b Lm (Rm b) I1 J) (j33)) _ ?_ ?_
  · skip
    refine T_iconst hok ic_m1 dX11_came_33 ?_
    exact T_iret hok dX11_came_34 (Nat.zero_le _) (Nat.zero_le _) rfl
  intro j33 hj33
  refine T_ifb_eq (tgt := 33) hok dX11_came_10 rfl ?_ ?_
  · refine T_iload_n hok 2 rfl rfl dX11_came_13 ?_
    refine T_iconst hok ic_0 dX11_came_14 ?_
    refine T_iconst hok ic_5 dX11_came_15 ?_
    refine T_cz0 (CR_S (rest := []) hok (ct_X11_isIn a2 (0 : Int32) (5 : Int32)) mw_X11_isIn mst_X11_isIn ml_X11_196 dX11_came_16 rfl rfl (roomOk rfl) rfl) rfl rfl ?_
    intro x3
    refine T_ifb_eq (tgt := 33) hok dX11_came_19 rfl ?_ ?_
    · refine T_iload_n hok 3 rfl rfl dX11_came_22 ?_
      refine T_iconst hok ic_0 dX11_came_23 ?_
      refine T_sipush hok sp_9999 dX11_came_24 ?_
      refine T_cz0 (CR_S (rest := []) hok (ct_X11_isIn a3 (0 : Int32) (9999 : Int32)) mw_X11_isIn mst_X11_isIn ml_X11_196 dX11_came_27 rfl rfl (roomOk rfl) rfl) rfl rfl ?_
      intro x4
      refine T_ifb_ne (tgt := 35) hok dX11_came_30 rfl ?_ ?_
      · refine T_iconst hok ic_1 dX11_came_35 ?_
        refine T_istore (lv' := [(4, .int (1 : Int32)), (0, .ref (b + 0)), (1, .int a1), (2, .int a2), (3, .int a3)]) hok (by decide) rfl dX11_came_36 ?_
        refine T_iconst hok ic_0 dX11_came_38 ?_
        refine T_istore (lv' := [(5, .int (0 : Int32)), (4, .int (1 : Int32)), (0, .ref (b + 0)), (1, .int a1), (2, .int a2), (3, .int a3)]) hok (by decide) rfl dX11_came_39 ?_
        refine T_jp _ (fun (j62 : Int32 → Option (Int32 × MI)) => ∀ (x5 : Int32), T X A (Zm X A (ii1 (fun (I' : MI) => Rg G b Lm (Rm b) I' J))) 10 0 0 62 [(0, .ref (b + 0)), (1, .int a1), (2, .int a2), (3, .int a3), (4, .int x5)] [] (Rg G b Lm (Rm b) I1 J) (j62 x5)) _ ?_ ?_
        · intro x5
          refine T_iconst hok ic_0 dX11_came_62 ?_
          refine T_istore (lv' := [(5, .int (0 : Int32)), (0, .ref (b + 0)), (1, .int a1), (2, .int a2), (3, .int a3), (4, .int x5)]) hok (by decide) rfl dX11_came_63 ?_
          refine T_iconst hok ic_0 dX11_came_65 ?_
          refine T_istore (lv' := [(6, .int (0 : Int32)), (5, .int (0 : Int32)), (0, .ref (b + 0)), (1, .int a1), (2, .int a2), (3, .int a3), (4, .int x5)]) hok (by decide) rfl dX11_came_66 ?_
          refine T_sub (lv' := [(0, .ref (b + 0)), (1, .int a1), (2, .int a2), (3, .int a3), (4, .int x5), (5, .int (0 : Int32)), (6, .int (0 : Int32))]) [2, 3, 4, 5, 6, 1, 0] rfl ?_
          refine T_fix2 _ (fun (x6 : Int32) (x7 : Int32) => [(0, .ref (b + 0)), (1, .int a1), (2, .int a2), (3, .int a3), (4, .int x5), (5, .int x6), (6, .int x7)]) (fun (x6 : Int32) (x7 : Int32) => Rg G b Lm (Rm b) I1 J) ?_ FU (0 : Int32) (0 : Int32)
          intro r68 hr68 x6 x7
          refine T_iload hok 6 rfl dX11_came_68 ?_
          refine T_iload hok 4 rfl dX11_came_70 ?_
          refine T_icmp_ge (tgt := 145) hok dX11_came_72 rfl ?_ ?_
          · refine T_iload hok 5 rfl dX11_came_145 ?_
            exact T_iret hok dX11_came_147 (Nat.zero_le _) (Nat.zero_le _) rfl
          refine T_iload hok 6 rfl dX11_came_75 ?_
          refine T_istore (lv' := [(7, .int x7), (0, .ref (b + 0)), (1, .int a1), (2, .int a2), (3, .int a3), (4, .int x5), (5, .int x6), (6, .int x7)]) hok (by decide) rfl dX11_came_77 ?_
          refine T_iconst hok ic_0 dX11_came_79 ?_
          refine T_istore (lv' := [(8, .int (0 : Int32)), (7, .int x7), (0, .ref (b + 0)), (1, .int a1), (2, .int a2), (3, .int a3), (4, .int x5), (5, .int x6), (6, .int x7)]) hok (by decide) rfl dX11_came_80 ?_
          refine T_iconst hok ic_0 dX11_came_82 ?_
          refine T_istore (lv' := [(9, .int (0 : Int32)), (8, .int (0 : Int32)), (7, .int x7), (0, .ref (b + 0)), (1, .int a1), (2, .int a2), (3, .int a3), (4, .int x5), (5, .int x6), (6, .int x7)]) hok (by decide) rfl dX11_came_83 ?_
          refine T_jp _ (fun (j123 : Int32 → Option (Int32 × MI)) => ∀ (x8 : Int32), T X A (Zm X A (ii1 (fun (I' : MI) => Rg G b Lm (Rm b) I' J))) 10 0 0 123 [(0, .ref (b + 0)), (1, .int a1), (2, .int a2), (3, .int a3), (4, .int x5), (5, .int x6), (6, .int x7), (8, .int x8)] [] (Rg G b Lm (Rm b) I1 J) (j123 x8)) _ ?_ ?_
          · intro x8
            refine T_iload hok 5 rfl dX11_came_123 ?_
            refine T_iload hok 7 rfl dX11_came_125 ?_
            refine T_iload_n hok 3 rfl rfl dX11_came_127 ?_
            refine T_jp _ (fun (j136 : Bool → Int32 → Option (Int32 × MI)) => ∀ (x9 : Bool) (x10 : Int32), T X A (Zm X A (ii1 (fun (I' : MI) => Rg G b Lm (Rm b) I' J))) 10 0 0 136 [(0, .ref (b + 0)), (1, .int a1), (2, .int a2), (3, .int a3), (4, .int x5), (6, .int x7)] [.int (bi x9), .int x10] (Rg G b Lm (Rm b) I1 J) (j136 x9 x10)) _ ?_ ?_
            · intro x9 x10
              refine T_iadd hok dX11_came_136 ?_
              refine T_lti ?_
              intro x11
              refine T_istore (lv' := [(5, .int x11), (0, .ref (b + 0)), (1, .int a1), (2, .int a2), (3, .int a3), (4, .int x5), (6, .int x7)]) hok (by decide) rfl dX11_came_137 ?_
              refine T_iinc (lvs := fun x12 => [(6, .int x12), (5, .int x11), (0, .ref (b + 0)), (1, .int a1), (2, .int a2), (3, .int a3), (4, .int x5)]) hok 6 rfl ic_1 (by decide) (fun _ => rfl) dX11_came_139 ?_
              intro x12
              refine T_goto (tgt := 68) hok dX11_came_142 rfl ?_
              refine T_sub (lv' := [(0, .ref (b + 0)), (1, .int a1), (2, .int a2), (3, .int a3), (4, .int x5), (5, .int x11), (6, .int x12)]) [2, 3, 4, 5, 6, 1, 0] rfl ?_
              exact hr68 x11 x12
            intro j136 hj136
            refine T_icmp_ne (tgt := 135) hok dX11_came_128 rfl ?_ ?_
            · refine T_iconst hok ic_1 dX11_came_131 ?_
              refine T_goto (tgt := 136) hok dX11_came_132 rfl ?_
              refine T_sub (lv' := [(0, .ref (b + 0)), (1, .int a1), (2, .int a2), (3, .int a3), (4, .int x5), (6, .int x7)]) [0, 1, 2, 3, 4, 6] rfl ?_
              exact hj136 true x6
            refine T_iconst hok ic_0 dX11_came_135 ?_
            refine T_sub (lv' := [(0, .ref (b + 0)), (1, .int a1), (2, .int a2), (3, .int a3), (4, .int x5), (6, .int x7)]) [0, 1, 2, 3, 4, 6] rfl ?_
            exact hj136 false x6
          intro j123 hj123
          refine T_sub (lv' := [(0, .ref (b + 0)), (1, .int a1), (2, .int a2), (3, .int a3), (4, .int x5), (5, .int x6), (6, .int x7), (7, .int x7), (8, .int (0 : Int32)), (9, .int (0 : Int32))]) [3, 4, 5, 6, 7, 8, 9, 2, 1, 0] rfl ?_
          refine T_fix3 _ (fun (x13 : Int32) (x14 : Int32) (x15 : Int32) => [(0, .ref (b + 0)), (1, .int a1), (2, .int a2), (3, .int a3), (4, .int x5), (5, .int x6), (6, .int x7), (7, .int x13), (8, .int x14), (9, .int x15)]) (fun (x13 : Int32) (x14 : Int32) (x15 : Int32) => Rg G b Lm (Rm b) I1 J) ?_ FU x7 (0 : Int32) (0 : Int32)
          intro r85 hr85 x13 x14 x15
          refine T_iload hok 9 rfl dX11_came_85 ?_
          refine T_iload_n hok 2 rfl rfl dX11_came_87 ?_
          refine T_icmp_ge (tgt := 123) hok dX11_came_88 rfl ?_ ?_
          · refine T_sub (lv' := [(0, .ref (b + 0)), (1, .int a1), (2, .int a2), (3, .int a3), (4, .int x5), (5, .int x6), (6, .int x7), (8, .int x14)]) [0, 1, 2, 3, 4, 5, 6, 8] rfl ?_
            exact hj123 x14
          refine T_iload hok 8 rfl dX11_came_91 ?_
          refine T_aload_n hok 0 rfl rfl dX11_came_93 ?_
          refine T_iload_n hok 1 rfl rfl dX11_came_94 ?_
          refine T_iload hok 7 rfl dX11_came_95 ?_
          refine T_aload_n hok 0 rfl rfl dX11_came_97 ?_
          refine T_getI hok fr_X11_231 lm_0 dX11_came_98 ?_
          refine T_irem hok dX11_came_101 ?_
          refine T_ci0 (CR_V (rest := [.int x14]) hok (ct_X11_paysOf hA I1 J a1 (irem x13 (I1 0 12))) mw_X11_paysOf mv_X11_paysOf ml_X11_500 lm_0 dX11_came_102 rfl rfl (roomOk rfl) rfl) rfl rfl ?_
          intro x16
          refine T_iadd hok dX11_came_105 ?_
          refine T_lti ?_
          intro x17
          refine T_istore (lv' := [(8, .int x17), (0, .ref (b + 0)), (1, .int a1), (2, .int a2), (3, .int a3), (4, .int x5), (5, .int x6), (6, .int x7), (7, .int x13), (9, .int x15)]) hok (by decide) rfl dX11_came_106 ?_
          refine T_iload hok 8 rfl dX11_came_108 ?_
          refine T_aload_n hok 1 rfl rfl dX11_came_110 ?_
          refine T_getI hok fr_X11_231 lm_0 dX11_came_111 ?_
          refine T_idiv hok dX11_came_114 ?_
          refine T_lti ?_
          intro x18
          refine T_istore (lv' := [(7, .int x18), (8, .int x17), (0, .ref (b + 0)), (1, .int a1), (2, .int a2), (3, .int a3), (4, .int x5), (5, .int x6), (6, .int x7), (9, .int x15)]) hok (by decide) rfl dX11_came_115 ?_
          refine T_iinc (lvs := fun x19 => [(9, .int x19), (7, .int x18), (8, .int x17), (0, .ref (b + 0)), (1, .int a1), (2, .int a2), (3, .int a3), (4, .int x5), (5, .int x6), (6, .int x7)]) hok 9 rfl ic_1 (by decide) (fun _ => rfl) dX11_came_117 ?_
          intro x19
          refine T_goto (tgt := 85) hok dX11_came_120 rfl ?_
          refine T_sub (lv' := [(0, .ref (b + 0)), (1, .int a1), (2, .int a2), (3, .int a3), (4, .int x5), (5, .int x6), (6, .int x7), (7, .int x18), (8, .int x17), (9, .int x19)]) [3, 4, 5, 6, 7, 8, 9, 1, 2, 0] rfl ?_
          exact hr85 x18 x17 x19
        intro j62 hj62
        refine T_sub (lv' := [(0, .ref (b + 0)), (1, .int a1), (2, .int a2), (3, .int a3), (4, .int (1 : Int32)), (5, .int (0 : Int32))]) [2, 3, 4, 5, 1, 0] rfl ?_
        refine T_fix2 _ (fun (x20 : Int32) (x21 : Int32) => [(0, .ref (b + 0)), (1, .int a1), (2, .int a2), (3, .int a3), (4, .int x20), (5, .int x21)]) (fun (x20 : Int32) (x21 : Int32) => Rg G b Lm (Rm b) I1 J) ?_ FU (1 : Int32) (0 : Int32)
        intro r41 hr41 x20 x21
        refine T_iload hok 5 rfl dX11_came_41 ?_
        refine T_iload_n hok 2 rfl rfl dX11_came_43 ?_
        refine T_icmp_ge (tgt := 62) hok dX11_came_44 rfl ?_ ?_
        · refine T_sub (lv' := [(0, .ref (b + 0)), (1, .int a1), (2, .int a2), (3, .int a3), (4, .int x20)]) [0, 1, 2, 3, 4] rfl ?_
          exact hj62 x20
        refine T_iload hok 4 rfl dX11_came_47 ?_
        refine T_aload_n hok 0 rfl rfl dX11_came_49 ?_
        refine T_getI hok fr_X11_231 lm_0 dX11_came_50 ?_
        refine T_imul hok dX11_came_53 ?_
        refine T_lti ?_
        intro x22
        refine T_istore (lv' := [(4, .int x22), (0, .ref (b + 0)), (1, .int a1), (2, .int a2), (3, .int a3), (5, .int x21)]) hok (by decide) rfl dX11_came_54 ?_
        refine T_iinc (lvs := fun x23 => [(5, .int x23), (4, .int x22), (0, .ref (b + 0)), (1, .int a1), (2, .int a2), (3, .int a3)]) hok 5 rfl ic_1 (by decide) (fun _ => rfl) dX11_came_56 ?_
        intro x23
        refine T_goto (tgt := 41) hok dX11_came_59 rfl ?_
        refine T_sub (lv' := [(0, .ref (b + 0)), (1, .int a1), (2, .int a2), (3, .int a3), (4, .int x22), (5, .int x23)]) [2, 3, 4, 5, 1, 0] rfl ?_
        exact hr41 x22 x23
      refine T_sub (lv' := []) [] rfl ?_
      exact hj33
    refine T_sub (lv' := []) [] rfl ?_
    exact hj33
  refine T_sub (lv' := []) [] rfl ?_
  exact hj33

set_option maxHeartbeats 4000000 in
set_option maxRecDepth 100000 in
theorem ct_X11_likely {G : Gx} {l0 : Launch} {A : Nat → Prop} {b : Nat} (hA : ∀ k, k < Lm.length → A (b + k)) (I : MI) (J : MJ) (a1 : Int32) (a2 : Int32) (a3 : Int32) : Ct G l0 A yX11_likely cX11_likely 9 (some .long) { frames := 2, cells := 0, slots := 0, locals := 51 } [.ref (b + 0), .int a1, .int a2, .int a3] (Rg G b Lm (Rm b) I J) (il1 (fun (I' : MI) => Rg G b Lm (Rm b) I' J)) (f_X11_likely I a1 a2 a3) := by
  refine Ct.of rfl (Nat.le_of_ble_eq_true rfl) ?_
  intro X hok
  replace hok : Ok G l0 X RX11 cX11_likely 9 { frames := 2, cells := 0, slots := 0, locals := 51 } (some .long) := hok
  delta f_X11_likely
  show T X A (Zm X A (il1 (fun (I' : MI) => Rg G b Lm (Rm b) I' J))) 9 0 0 0 [(0, .ref (b + 0)), (1, .int a1), (2, .int a2), (3, .int a3)] [] (Rg G b Lm (Rm b) I J) _
  refine T_aload_n hok 0 rfl rfl dX11_likely_0 ?_
  refine T_iconst hok ic_0 dX11_likely_1 ?_
  refine T_putI hok hA fr_X11_151 rfl rfl lm_0 dX11_likely_2 ?_
  intro I1
  refine T_aload_n hok 0 rfl rfl dX11_likely_5 ?_
  refine T_iload_n hok 1 rfl rfl dX11_likely_6 ?_
  refine T_cz0 (CR_V (rest := []) hok (ct_X11_isKind hA I1 J a1) mw_X11_isKind mv_X11_isKind ml_X11_449 lm_0 dX11_likely_7 rfl rfl (roomOk rfl) rfl) rfl rfl ?_
  intro x2
  refine T_jp _ (fun (j31 : Option (Int64 × MI)) => T X A (Zm X A (il1 (fun (I' : MI) => Rg G b Lm (Rm b) I' J))) 9 0 0 31 [] [] (Rg G b Lm (Rm b) I1 J) (j31)) _ ?_ ?_
  · skip
    refine T_ldc2 hok lk_X11_509 dX11_likely_31 ?_
    exact T_lret hok dX11_likely_34 (Nat.zero_le _) (Nat.zero_le _) rfl
  intro j31 hj31
  refine T_ifb_eq (tgt := 31) hok dX11_likely_10 rfl ?_ ?_
  · refine T_iload_n hok 2 rfl rfl dX11_likely_13 ?_
    refine T_iconst hok ic_0 dX11_likely_14 ?_
    refine T_iconst hok ic_5 dX11_likely_15 ?_
    refine T_cz0 (CR_S (rest := []) hok (ct_X11_isIn a2 (0 : Int32) (5 : Int32)) mw_X11_isIn mst_X11_isIn ml_X11_196 dX11_likely_16 rfl rfl (roomOk rfl) rfl) rfl rfl ?_
    intro x3
    refine T_ifb_eq (tgt := 31) hok dX11_likely_19 rfl ?_ ?_
    · refine T_iload_n hok 3 rfl rfl dX11_likely_22 ?_
      refine T_iconst hok ic_0 dX11_likely_23 ?_
      refine T_iconst hok ic_1 dX11_likely_24 ?_
      refine T_cz0 (CR_S (rest := []) hok (ct_X11_isIn a3 (0 : Int32) (1 : Int32)) mw_X11_isIn mst_X11_isIn ml_X11_196 dX11_likely_25 rfl rfl (roomOk rfl) rfl) rfl rfl ?_
      intro x4
      refine T_ifb_ne (tgt := 35) hok dX11_likely_28 rfl ?_ ?_
      · refine T_lconst (v := 1) hok rfl dX11_likely_35 ?_
        refine T_lstore (lv' := [(4, .long (1 : Int64)), (0, .ref (b + 0)), (1, .int a1), (2, .int a2), (3, .int a3)]) hok (by decide) rfl dX11_likely_36 ?_
        refine T_lconst (v := 1) hok rfl dX11_likely_38 ?_
        refine T_lstore (lv' := [(6, .long (1 : Int64)), (4, .long (1 : Int64)), (0, .ref (b + 0)), (1, .int a1), (2, .int a2), (3, .int a3)]) hok (by decide) rfl dX11_likely_39 ?_
        refine T_iconst hok ic_0 dX11_likely_41 ?_
        refine T_istore (lv' := [(8, .int (0 : Int32)), (6, .long (1 : Int64)), (4, .long (1 : Int64)), (0, .ref (b + 0)), (1, .int a1), (2, .int a2), (3, .int a3)]) hok (by decide) rfl dX11_likely_42 ?_
        refine T_jp _ (fun (j90 : Int64 → Int64 → Option (Int64 × MI)) => ∀ (x5 : Int64) (x6 : Int64), T X A (Zm X A (il1 (fun (I' : MI) => Rg G b Lm (Rm b) I' J))) 9 0 0 90 [(3, .int a3), (4, .long x5), (6, .long x6)] [] (Rg G b Lm (Rm b) I1 J) (j90 x5 x6)) _ ?_ ?_
        · intro x5 x6
          refine T_lload hok 1 rfl dX11_likely_90 ?_
          refine T_lload hok 2 rfl dX11_likely_92 ?_
          refine T_lsub hok dX11_likely_94 ?_
          refine T_lload hok 1 rfl dX11_likely_95 ?_
          refine T_iload_n hok 0 rfl rfl dX11_likely_97 ?_
          refine T_cl0 (CR_S (rest := []) hok (ct_X11_least (x5 - x6) x5 a3) mw_X11_least mst_X11_least ml_X11_505 dX11_likely_98 rfl rfl (roomOk rfl) rfl) rfl rfl ?_
          intro x7
          exact T_lret hok dX11_likely_101 (Nat.zero_le _) (Nat.zero_le _) rfl
        intro j90 hj90
        refine T_sub (lv' := [(0, .ref (b + 0)), (1, .int a1), (2, .int a2), (3, .int a3), (4, .long (1 : Int64)), (6, .long (1 : Int64)), (8, .int (0 : Int32))]) [3, 4, 5, 6, 2, 1, 0] rfl ?_
        refine T_fix3 _ (fun (x8 : Int64) (x9 : Int64) (x10 : Int32) => [(0, .ref (b + 0)), (1, .int a1), (2, .int a2), (3, .int a3), (4, .long x8), (6, .long x9), (8, .int x10)]) (fun (x8 : Int64) (x9 : Int64) (x10 : Int32) => Rg G b Lm (Rm b) I1 J) ?_ FU (1 : Int64) (1 : Int64) (0 : Int32)
        intro r44 hr44 x8 x9 x10
        refine T_iload hok 6 rfl dX11_likely_44 ?_
        refine T_iload_n hok 2 rfl rfl dX11_likely_46 ?_
        refine T_icmp_ge (tgt := 90) hok dX11_likely_47 rfl ?_ ?_
        · refine T_sub (lv' := [(3, .int a3), (4, .long x8), (6, .long x9)]) [3, 4, 5] rfl ?_
          exact hj90 x8 x9
        refine T_aload_n hok 0 rfl rfl dX11_likely_50 ?_
        refine T_ci0 (CR_V (rest := []) hok (ct_X11_weightAll hA I1 J) mw_X11_weightAll mv_X11_weightAll ml_X11_404 lm_0 dX11_likely_51 rfl rfl (roomOk rfl) rfl) rfl rfl ?_
        intro x11
        refine T_if_le (tgt := 90) hok dX11_likely_54 rfl ?_ ?_
        · refine T_sub (lv' := [(3, .int a3), (4, .long x8), (6, .long x9)]) [3, 4, 5] rfl ?_
          exact hj90 x8 x9
        refine T_lload hok 4 rfl dX11_likely_57 ?_
        refine T_aload_n hok 0 rfl rfl dX11_likely_59 ?_
        refine T_ci0 (CR_V (rest := [.long x8]) hok (ct_X11_weightAll hA I1 J) mw_X11_weightAll mv_X11_weightAll ml_X11_404 lm_0 dX11_likely_60 rfl rfl (roomOk rfl) rfl) rfl rfl ?_
        intro x12
        refine T_i2l hok dX11_likely_63 ?_
        refine T_lmul hok dX11_likely_64 ?_
        refine T_ltl ?_
        intro x13
        refine T_lstore (lv' := [(4, .long x13), (0, .ref (b + 0)), (1, .int a1), (2, .int a2), (3, .int a3), (6, .long x9), (8, .int x10)]) hok (by decide) rfl dX11_likely_65 ?_
        refine T_lload hok 5 rfl dX11_likely_67 ?_
        refine T_aload_n hok 1 rfl rfl dX11_likely_69 ?_
        refine T_ci0 (CR_V (rest := [.long x9]) hok (ct_X11_weightAll hA I1 J) mw_X11_weightAll mv_X11_weightAll ml_X11_404 lm_0 dX11_likely_70 rfl rfl (roomOk rfl) rfl) rfl rfl ?_
        intro x14
        refine T_aload_n hok 1 rfl rfl dX11_likely_73 ?_
        refine T_getR hok fr_X11_33 lm_0 rm_0_26 dX11_likely_74 ?_
        refine T_iload_n hok 2 rfl rfl dX11_likely_77 ?_
        refine T_iald hok lm_7 dX11_likely_78 ?_
        refine T_isub hok dX11_likely_79 ?_
        refine T_i2l hok dX11_likely_80 ?_
        refine T_lmul hok dX11_likely_81 ?_
        refine T_ltl ?_
        intro x15
        refine T_lstore (lv' := [(6, .long x15), (4, .long x13), (0, .ref (b + 0)), (1, .int a1), (2, .int a2), (3, .int a3), (8, .int x10)]) hok (by decide) rfl dX11_likely_82 ?_
        refine T_iinc (lvs := fun x16 => [(8, .int x16), (6, .long x15), (4, .long x13), (0, .ref (b + 0)), (1, .int a1), (2, .int a2), (3, .int a3)]) hok 6 rfl ic_1 (by decide) (fun _ => rfl) dX11_likely_84 ?_
        intro x16
        refine T_goto (tgt := 44) hok dX11_likely_87 rfl ?_
        refine T_sub (lv' := [(0, .ref (b + 0)), (1, .int a1), (2, .int a2), (3, .int a3), (4, .long x13), (6, .long x15), (8, .int x16)]) [3, 4, 5, 6, 2, 1, 0] rfl ?_
        exact hr44 x13 x15 x16
      refine T_sub (lv' := []) [] rfl ?_
      exact hj31
    refine T_sub (lv' := []) [] rfl ?_
    exact hj31
  refine T_sub (lv' := []) [] rfl ?_
  exact hj31

set_option maxHeartbeats 4000000 in
set_option maxRecDepth 100000 in
theorem ct_X11_hasBy {G : Gx} {l0 : Launch} {A : Nat → Prop} {b : Nat} (hA : ∀ k, k < Lm.length → A (b + k)) (I : MI) (J : MJ) (a1 : Int32) (a2 : Int32) (a3 : Int32) (a4 : Int32) : Ct G l0 A yX11_hasBy cX11_hasBy 5 (some .int) { frames := 0, cells := 0, slots := 0, locals := 0 } [.ref (b + 0), .int a1, .int a2, .int a3, .int a4] (Rg G b Lm (Rm b) I J) (ii0 (Rg G b Lm (Rm b) I J)) (f_X11_hasBy I a1 a2 a3 a4) := by
  refine Ct.of rfl (Nat.le_of_ble_eq_true rfl) ?_
  intro X hok
  replace hok : Ok G l0 X RX11 cX11_hasBy 5 { frames := 0, cells := 0, slots := 0, locals := 0 } (some .int) := hok
  delta f_X11_hasBy
  show T X A (Zm X A (ii0 (Rg G b Lm (Rm b) I J))) 5 0 0 0 [(0, .ref (b + 0)), (1, .int a1), (2, .int a2), (3, .int a3), (4, .int a4)] [] (Rg G b Lm (Rm b) I J) _
  refine T_iload_n hok 3 rfl rfl dX11_hasBy_0 ?_
  refine T_if_ne (tgt := 48) hok dX11_hasBy_1 rfl ?_ ?_
  · refine T_iload hok 4 rfl dX11_hasBy_4 ?_
    refine T_jp _ (fun (j47 : Int32 → Option (Int32)) => ∀ (x1 : Int32), T X A (Zm X A (ii0 (Rg G b Lm (Rm b) I J))) 5 0 0 47 [] [.int x1] (Rg G b Lm (Rm b) I J) (j47 x1)) _ ?_ ?_
    · intro x1
      exact T_iret hok dX11_hasBy_47 (Nat.zero_le _) (Nat.zero_le _) rfl
    intro j47 hj47
    refine T_if_ne (tgt := 30) hok dX11_hasBy_6 rfl ?_ ?_
    · refine T_aload_n hok 0 rfl rfl dX11_hasBy_9 ?_
      refine T_getR hok fr_X11_42 lm_0 rm_0_29 dX11_hasBy_10 ?_
      refine T_iload_n hok 1 rfl rfl dX11_hasBy_13 ?_
      refine T_iald hok lm_10 dX11_hasBy_14 ?_
      refine T_aload_n hok 0 rfl rfl dX11_hasBy_15 ?_
      refine T_getR hok fr_X11_30 lm_0 rm_0_25 dX11_hasBy_16 ?_
      refine T_iload_n hok 2 rfl rfl dX11_hasBy_19 ?_
      refine T_iald hok lm_6 dX11_hasBy_20 ?_
      refine T_bipush hok bp_10 dX11_hasBy_21 ?_
      refine T_idiv hok dX11_hasBy_23 ?_
      refine T_iadd hok dX11_hasBy_24 ?_
      refine T_iconst hok ic_2 dX11_hasBy_25 ?_
      refine T_isub hok dX11_hasBy_26 ?_
      refine T_goto (tgt := 47) hok dX11_hasBy_27 rfl ?_
      refine T_sub (lv' := []) [] rfl ?_
      exact hj47 (((I 10 (ix a1)) + ((I 6 (ix a2)) / (10 : Int32))) - (2 : Int32))
    refine T_aload_n hok 0 rfl rfl dX11_hasBy_30 ?_
    refine T_getR hok fr_X11_42 lm_0 rm_0_29 dX11_hasBy_31 ?_
    refine T_iload_n hok 1 rfl rfl dX11_hasBy_34 ?_
    refine T_iald hok lm_10 dX11_hasBy_35 ?_
    refine T_aload_n hok 0 rfl rfl dX11_hasBy_36 ?_
    refine T_getR hok fr_X11_30 lm_0 rm_0_25 dX11_hasBy_37 ?_
    refine T_iload_n hok 2 rfl rfl dX11_hasBy_40 ?_
    refine T_iald hok lm_6 dX11_hasBy_41 ?_
    refine T_iconst hok ic_5 dX11_hasBy_42 ?_
    refine T_idiv hok dX11_hasBy_43 ?_
    refine T_iadd hok dX11_hasBy_44 ?_
    refine T_iconst hok ic_3 dX11_hasBy_45 ?_
    refine T_isub hok dX11_hasBy_46 ?_
    refine T_sub (lv' := []) [] rfl ?_
    exact hj47 (((I 10 (ix a1)) + ((I 6 (ix a2)) / (5 : Int32))) - (3 : Int32))
  refine T_iload hok 4 rfl dX11_hasBy_48 ?_
  refine T_jp _ (fun (j65 : Int32 → Option (Int32)) => ∀ (x2 : Int32), T X A (Zm X A (ii0 (Rg G b Lm (Rm b) I J))) 5 0 0 65 [] [.int x2] (Rg G b Lm (Rm b) I J) (j65 x2)) _ ?_ ?_
  · intro x2
    exact T_iret hok dX11_hasBy_65 (Nat.zero_le _) (Nat.zero_le _) rfl
  intro j65 hj65
  refine T_if_ne (tgt := 57) hok dX11_hasBy_50 rfl ?_ ?_
  · refine T_iconst hok ic_1 dX11_hasBy_53 ?_
    refine T_goto (tgt := 65) hok dX11_hasBy_54 rfl ?_
    refine T_sub (lv' := []) [] rfl ?_
    exact hj65 (1 : Int32)
  refine T_aload_n hok 0 rfl rfl dX11_hasBy_57 ?_
  refine T_getR hok fr_X11_42 lm_0 rm_0_29 dX11_hasBy_58 ?_
  refine T_iload_n hok 1 rfl rfl dX11_hasBy_61 ?_
  refine T_iald hok lm_10 dX11_hasBy_62 ?_
  refine T_iconst hok ic_2 dX11_hasBy_63 ?_
  refine T_idiv hok dX11_hasBy_64 ?_
  refine T_sub (lv' := []) [] rfl ?_
  exact hj65 ((I 10 (ix a1)) / (2 : Int32))

set_option maxHeartbeats 4000000 in
set_option maxRecDepth 100000 in
theorem ct_X11_restAt {G : Gx} {l0 : Launch} {A : Nat → Prop} {b : Nat} (hA : ∀ k, k < Lm.length → A (b + k)) (I : MI) (J : MJ) (a1 : Int32) (a2 : Int32) (a3 : Int32) (a4 : Int32) : Ct G l0 A yX11_restAt cX11_restAt 9 (some .int) { frames := 1, cells := 0, slots := 0, locals := 24 } [.ref (b + 0), .int a1, .int a2, .int a3, .int a4] (Rg G b Lm (Rm b) I J) (ii0 (Rg G b Lm (Rm b) I J)) (f_X11_restAt I a1 a2 a3 a4) := by
  refine Ct.of rfl (Nat.le_of_ble_eq_true rfl) ?_
  intro X hok
  replace hok : Ok G l0 X RX11 cX11_restAt 9 { frames := 1, cells := 0, slots := 0, locals := 24 } (some .int) := hok
  delta f_X11_restAt
  show T X A (Zm X A (ii0 (Rg G b Lm (Rm b) I J))) 9 0 0 0 [(0, .ref (b + 0)), (1, .int a1), (2, .int a2), (3, .int a3), (4, .int a4)] [] (Rg G b Lm (Rm b) I J) _
  refine T_iconst hok ic_0 dX11_restAt_0 ?_
  refine T_istore (lv' := [(5, .int (0 : Int32)), (0, .ref (b + 0)), (1, .int a1), (2, .int a2), (3, .int a3), (4, .int a4)]) hok (by decide) rfl dX11_restAt_1 ?_
  refine T_iconst hok ic_0 dX11_restAt_3 ?_
  refine T_istore (lv' := [(6, .int (0 : Int32)), (5, .int (0 : Int32)), (0, .ref (b + 0)), (1, .int a1), (2, .int a2), (3, .int a3), (4, .int a4)]) hok (by decide) rfl dX11_restAt_4 ?_
  refine T_jp _ (fun (j102 : Int32 → Option (Int32)) => ∀ (x1 : Int32), T X A (Zm X A (ii0 (Rg G b Lm (Rm b) I J))) 9 0 0 102 [(4, .int a4), (5, .int x1)] [] (Rg G b Lm (Rm b) I J) (j102 x1)) _ ?_ ?_
  · intro x1
    refine T_iload hok 0 rfl dX11_restAt_102 ?_
    refine T_jp _ (fun (j114 : Int32 → Option (Int32)) => ∀ (x2 : Int32), T X A (Zm X A (ii0 (Rg G b Lm (Rm b) I J))) 9 0 0 114 [] [.int x2] (Rg G b Lm (Rm b) I J) (j114 x2)) _ ?_ ?_
    · intro x2
      exact T_iret hok dX11_restAt_114 (Nat.zero_le _) (Nat.zero_le _) rfl
    intro j114 hj114
    refine T_if_ge (tgt := 112) hok dX11_restAt_104 rfl ?_ ?_
    · refine T_bipush hok bp_m2 dX11_restAt_112 ?_
      refine T_sub (lv' := []) [] rfl ?_
      exact hj114 (-2 : Int32)
    refine T_iload hok 1 rfl dX11_restAt_107 ?_
    refine T_goto (tgt := 114) hok dX11_restAt_109 rfl ?_
    refine T_sub (lv' := []) [] rfl ?_
    exact hj114 x1
  intro j102 hj102
  refine T_sub (lv' := [(0, .ref (b + 0)), (1, .int a1), (2, .int a2), (3, .int a3), (4, .int a4), (5, .int (0 : Int32)), (6, .int (0 : Int32))]) [2, 3, 4, 5, 6, 1, 0] rfl ?_
  refine T_fix2 _ (fun (x3 : Int32) (x4 : Int32) => [(0, .ref (b + 0)), (1, .int a1), (2, .int a2), (3, .int a3), (4, .int a4), (5, .int x3), (6, .int x4)]) (fun (x3 : Int32) (x4 : Int32) => Rg G b Lm (Rm b) I J) ?_ FU (0 : Int32) (0 : Int32)
  intro r6 hr6 x3 x4
  refine T_iload hok 6 rfl dX11_restAt_6 ?_
  refine T_iconst hok ic_4 dX11_restAt_8 ?_
  refine T_icmp_ge (tgt := 102) hok dX11_restAt_9 rfl ?_ ?_
  · refine T_sub (lv' := [(4, .int a4), (5, .int x3)]) [4, 5] rfl ?_
    exact hj102 x3
  refine T_iload hok 6 rfl dX11_restAt_12 ?_
  refine T_iconst hok ic_2 dX11_restAt_14 ?_
  refine T_idiv hok dX11_restAt_15 ?_
  refine T_lti ?_
  intro x5
  refine T_istore (lv' := [(7, .int x5), (0, .ref (b + 0)), (1, .int a1), (2, .int a2), (3, .int a3), (4, .int a4), (5, .int x3), (6, .int x4)]) hok (by decide) rfl dX11_restAt_16 ?_
  refine T_iload hok 7 rfl dX11_restAt_18 ?_
  refine T_iconst hok ic_2 dX11_restAt_20 ?_
  refine T_irem hok dX11_restAt_21 ?_
  refine T_lti ?_
  intro x6
  refine T_istore (lv' := [(8, .int x6), (7, .int x5), (0, .ref (b + 0)), (1, .int a1), (2, .int a2), (3, .int a3), (4, .int a4), (5, .int x3), (6, .int x4)]) hok (by decide) rfl dX11_restAt_22 ?_
  refine T_aload_n hok 2 rfl rfl dX11_restAt_24 ?_
  refine T_iload_n hok 3 rfl rfl dX11_restAt_25 ?_
  refine T_iload_n hok 5 rfl rfl dX11_restAt_26 ?_
  refine T_iconst hok ic_1 dX11_restAt_27 ?_
  refine T_iload hok 1 rfl dX11_restAt_28 ?_
  refine T_isub hok dX11_restAt_30 ?_
  refine T_iload hok 0 rfl dX11_restAt_31 ?_
  refine T_ci0 (CR_V (rest := []) hok (ct_X11_hasBy hA I J a1 a3 ((1 : Int32) - x5) x6) mw_X11_hasBy mv_X11_hasBy ml_X11_511 lm_0 dX11_restAt_33 rfl rfl (roomOk rfl) rfl) rfl rfl ?_
  intro x7
  refine T_aload_n hok 2 rfl rfl dX11_restAt_36 ?_
  refine T_iload_n hok 3 rfl rfl dX11_restAt_37 ?_
  refine T_iload_n hok 5 rfl rfl dX11_restAt_38 ?_
  refine T_iload hok 1 rfl dX11_restAt_39 ?_
  refine T_iload hok 0 rfl dX11_restAt_41 ?_
  refine T_ci0 (CR_V (rest := [.int x7]) hok (ct_X11_hasBy hA I J a1 a3 x5 x6) mw_X11_hasBy mv_X11_hasBy ml_X11_511 lm_0 dX11_restAt_43 rfl rfl (roomOk rfl) rfl) rfl rfl ?_
  intro x8
  refine T_jp _ (fun (j96 : Int32 → Option (Int32)) => ∀ (x9 : Int32), T X A (Zm X A (ii0 (Rg G b Lm (Rm b) I J))) 9 0 0 96 [(0, .ref (b + 0)), (1, .int a1), (2, .int a2), (3, .int a3), (4, .int a4), (5, .int x9), (6, .int x4)] [] (Rg G b Lm (Rm b) I J) (j96 x9)) _ ?_ ?_
  · intro x9
    refine T_iinc (lvs := fun x10 => [(6, .int x10), (0, .ref (b + 0)), (1, .int a1), (2, .int a2), (3, .int a3), (4, .int a4), (5, .int x9)]) hok 6 rfl ic_1 (by decide) (fun _ => rfl) dX11_restAt_96 ?_
    intro x10
    refine T_goto (tgt := 6) hok dX11_restAt_99 rfl ?_
    refine T_sub (lv' := [(0, .ref (b + 0)), (1, .int a1), (2, .int a2), (3, .int a3), (4, .int a4), (5, .int x9), (6, .int x10)]) [1, 2, 3, 4, 5, 6, 0] rfl ?_
    exact hr6 x9 x10
  intro j96 hj96
  refine T_icmp_gt (tgt := 96) hok dX11_restAt_46 rfl ?_ ?_
  · refine T_sub (lv' := [(0, .ref (b + 0)), (1, .int a1), (2, .int a2), (3, .int a3), (4, .int a4), (5, .int x3), (6, .int x4)]) [2, 3, 4, 5, 6, 7, 8] rfl ?_
    exact hj96 x3
  refine T_aload_n hok 2 rfl rfl dX11_restAt_49 ?_
  refine T_iload_n hok 4 rfl rfl dX11_restAt_50 ?_
  refine T_iload_n hok 5 rfl rfl dX11_restAt_51 ?_
  refine T_iconst hok ic_1 dX11_restAt_52 ?_
  refine T_iload hok 0 rfl dX11_restAt_53 ?_
  refine T_isub hok dX11_restAt_55 ?_
  refine T_iload hok 1 rfl dX11_restAt_56 ?_
  refine T_ci0 (CR_V (rest := []) hok (ct_X11_hasBy hA I J a2 a3 ((1 : Int32) - x6) x5) mw_X11_hasBy mv_X11_hasBy ml_X11_511 lm_0 dX11_restAt_58 rfl rfl (roomOk rfl) rfl) rfl rfl ?_
  intro x11
  refine T_aload_n hok 2 rfl rfl dX11_restAt_61 ?_
  refine T_iload_n hok 4 rfl rfl dX11_restAt_62 ?_
  refine T_iload_n hok 5 rfl rfl dX11_restAt_63 ?_
  refine T_iload hok 0 rfl dX11_restAt_64 ?_
  refine T_iload hok 1 rfl dX11_restAt_66 ?_
  refine T_ci0 (CR_V (rest := [.int x11]) hok (ct_X11_hasBy hA I J a2 a3 x6 x5) mw_X11_hasBy mv_X11_hasBy ml_X11_511 lm_0 dX11_restAt_68 rfl rfl (roomOk rfl) rfl) rfl rfl ?_
  intro x12
  refine T_icmp_le (tgt := 77) hok dX11_restAt_71 rfl ?_ ?_
  · refine T_iload hok 7 rfl dX11_restAt_77 ?_
    refine T_iload hok 6 rfl dX11_restAt_79 ?_
    refine T_icmp_ne (tgt := 93) hok dX11_restAt_81 rfl ?_ ?_
    · refine T_bipush hok bp_10 dX11_restAt_84 ?_
      refine T_iload hok 1 rfl dX11_restAt_86 ?_
      refine T_imul hok dX11_restAt_88 ?_
      refine T_iload hok 0 rfl dX11_restAt_89 ?_
      refine T_iadd hok dX11_restAt_91 ?_
      exact T_iret hok dX11_restAt_92 (Nat.zero_le _) (Nat.zero_le _) rfl
    refine T_iinc (lvs := fun x13 => [(5, .int x13), (8, .int x6), (7, .int x5), (0, .ref (b + 0)), (1, .int a1), (2, .int a2), (3, .int a3), (4, .int a4), (6, .int x4)]) hok 7 rfl ic_1 (by decide) (fun _ => rfl) dX11_restAt_93 ?_
    intro x13
    refine T_sub (lv' := [(0, .ref (b + 0)), (1, .int a1), (2, .int a2), (3, .int a3), (4, .int a4), (5, .int x13), (6, .int x4)]) [3, 4, 5, 6, 7, 0, 8] rfl ?_
    exact hj96 x13
  refine T_goto (tgt := 96) hok dX11_restAt_74 rfl ?_
  refine T_sub (lv' := [(0, .ref (b + 0)), (1, .int a1), (2, .int a2), (3, .int a3), (4, .int a4), (5, .int x3), (6, .int x4)]) [2, 3, 4, 5, 6, 7, 8] rfl ?_
  exact hj96 x3

set_option maxHeartbeats 4000000 in
set_option maxRecDepth 100000 in
theorem ct_X11_areTwo {G : Gx} {l0 : Launch} {A : Nat → Prop} {b : Nat} (hA : ∀ k, k < Lm.length → A (b + k)) (I : MI) (J : MJ) (a1 : Int32) (a2 : Int32) (a3 : Int32) : Ct G l0 A yX11_areTwo cX11_areTwo 4 (some .boolean) { frames := 1, cells := 0, slots := 0, locals := 21 } [.ref (b + 0), .int a1, .int a2, .int a3] (Rg G b Lm (Rm b) I J) (iz0 (Rg G b Lm (Rm b) I J)) (f_X11_areTwo I a1 a2 a3) := by
  refine Ct.of rfl (Nat.le_of_ble_eq_true rfl) ?_
  intro X hok
  replace hok : Ok G l0 X RX11 cX11_areTwo 4 { frames := 1, cells := 0, slots := 0, locals := 21 } (some .boolean) := hok
  delta f_X11_areTwo
  show T X A (Zm X A (iz0 (Rg G b Lm (Rm b) I J))) 4 0 0 0 [(0, .ref (b + 0)), (1, .int a1), (2, .int a2), (3, .int a3)] [] (Rg G b Lm (Rm b) I J) _
  refine T_aload_n hok 0 rfl rfl dX11_areTwo_0 ?_
  refine T_iload_n hok 1 rfl rfl dX11_areTwo_1 ?_
  refine T_cz0 (CR_V (rest := []) hok (ct_X11_isHouse hA I J a1) mw_X11_isHouse mv_X11_isHouse ml_X11_443 lm_0 dX11_areTwo_2 rfl rfl (roomOk rfl) rfl) rfl rfl ?_
  intro x1
  refine T_jp _ (fun (j34 : Bool → Option (Bool)) => ∀ (x2 : Bool), T X A (Zm X A (iz0 (Rg G b Lm (Rm b) I J))) 4 0 0 34 [] [.int (bi x2)] (Rg G b Lm (Rm b) I J) (j34 x2)) _ ?_ ?_
  · intro x2
    exact T_zret hok dX11_areTwo_34 (Nat.zero_le _) (Nat.zero_le _) (bi_01 _) rfl
  intro j34 hj34
  refine T_jp _ (fun (j33 : Option (Bool)) => T X A (Zm X A (iz0 (Rg G b Lm (Rm b) I J))) 4 0 0 33 [] [] (Rg G b Lm (Rm b) I J) (j33)) _ ?_ ?_
  · skip
    refine T_iconst hok ic_0 dX11_areTwo_33 ?_
    exact hj34 false
  intro j33 hj33
  refine T_ifb_eq (tgt := 33) hok dX11_areTwo_5 rfl ?_ ?_
  · refine T_aload_n hok 0 rfl rfl dX11_areTwo_8 ?_
    refine T_iload_n hok 2 rfl rfl dX11_areTwo_9 ?_
    refine T_cz0 (CR_V (rest := []) hok (ct_X11_isHouse hA I J a2) mw_X11_isHouse mv_X11_isHouse ml_X11_443 lm_0 dX11_areTwo_10 rfl rfl (roomOk rfl) rfl) rfl rfl ?_
    intro x3
    refine T_ifb_eq (tgt := 33) hok dX11_areTwo_13 rfl ?_ ?_
    · refine T_iload_n hok 1 rfl rfl dX11_areTwo_16 ?_
      refine T_iload_n hok 2 rfl rfl dX11_areTwo_17 ?_
      refine T_icmp_eq (tgt := 33) hok dX11_areTwo_18 rfl ?_ ?_
      · refine T_sub (lv' := []) [] rfl ?_
        exact hj33
      refine T_aload_n hok 0 rfl rfl dX11_areTwo_21 ?_
      refine T_iload_n hok 3 rfl rfl dX11_areTwo_22 ?_
      refine T_cz0 (CR_V (rest := []) hok (ct_X11_isKind hA I J a3) mw_X11_isKind mv_X11_isKind ml_X11_449 lm_0 dX11_areTwo_23 rfl rfl (roomOk rfl) rfl) rfl rfl ?_
      intro x4
      refine T_ifb_eq (tgt := 33) hok dX11_areTwo_26 rfl ?_ ?_
      · refine T_iconst hok ic_1 dX11_areTwo_29 ?_
        refine T_goto (tgt := 34) hok dX11_areTwo_30 rfl ?_
        refine T_sub (lv' := []) [] rfl ?_
        exact hj34 true
      refine T_sub (lv' := []) [] rfl ?_
      exact hj33
    refine T_sub (lv' := []) [] rfl ?_
    exact hj33
  refine T_sub (lv' := []) [] rfl ?_
  exact hj33

set_option maxHeartbeats 4000000 in
set_option maxRecDepth 100000 in
theorem ct_X11_rests {G : Gx} {l0 : Launch} {A : Nat → Prop} {b : Nat} (hA : ∀ k, k < Lm.length → A (b + k)) (I : MI) (J : MJ) (a1 : Int32) (a2 : Int32) (a3 : Int32) : Ct G l0 A yX11_rests cX11_rests 4 (some .int) { frames := 2, cells := 0, slots := 0, locals := 52 } [.ref (b + 0), .int a1, .int a2, .int a3] (Rg G b Lm (Rm b) I J) (ii1 (fun (I' : MI) => Rg G b Lm (Rm b) I' J)) (f_X11_rests I a1 a2 a3) := by
  refine Ct.of rfl (Nat.le_of_ble_eq_true rfl) ?_
  intro X hok
  replace hok : Ok G l0 X RX11 cX11_rests 4 { frames := 2, cells := 0, slots := 0, locals := 52 } (some .int) := hok
  delta f_X11_rests
  show T X A (Zm X A (ii1 (fun (I' : MI) => Rg G b Lm (Rm b) I' J))) 4 0 0 0 [(0, .ref (b + 0)), (1, .int a1), (2, .int a2), (3, .int a3)] [] (Rg G b Lm (Rm b) I J) _
  refine T_aload_n hok 0 rfl rfl dX11_rests_0 ?_
  refine T_iconst hok ic_0 dX11_rests_1 ?_
  refine T_putI hok hA fr_X11_151 rfl rfl lm_0 dX11_rests_2 ?_
  intro I1
  refine T_aload_n hok 0 rfl rfl dX11_rests_5 ?_
  refine T_iload_n hok 1 rfl rfl dX11_rests_6 ?_
  refine T_iload_n hok 2 rfl rfl dX11_rests_7 ?_
  refine T_iload_n hok 3 rfl rfl dX11_rests_8 ?_
  refine T_cz0 (CR_V (rest := []) hok (ct_X11_areTwo hA I1 J a1 a2 a3) mw_X11_areTwo mv_X11_areTwo ml_X11_514 lm_0 dX11_rests_9 rfl rfl (roomOk rfl) rfl) rfl rfl ?_
  intro x2
  refine T_jp _ (fun (j27 : Int32 → Option (Int32 × MI)) => ∀ (x3 : Int32), T X A (Zm X A (ii1 (fun (I' : MI) => Rg G b Lm (Rm b) I' J))) 4 0 0 27 [] [.int x3] (Rg G b Lm (Rm b) I1 J) (j27 x3)) _ ?_ ?_
  · intro x3
    exact T_iret hok dX11_rests_27 (Nat.zero_le _) (Nat.zero_le _) rfl
  intro j27 hj27
  refine T_ifb_eq (tgt := 26) hok dX11_rests_12 rfl ?_ ?_
  · refine T_aload_n hok 0 rfl rfl dX11_rests_15 ?_
    refine T_iload_n hok 1 rfl rfl dX11_rests_16 ?_
    refine T_iload_n hok 2 rfl rfl dX11_rests_17 ?_
    refine T_iload_n hok 3 rfl rfl dX11_rests_18 ?_
    refine T_iconst hok ic_m1 dX11_rests_19 ?_
    refine T_ci0 (CR_V (rest := []) hok (ct_X11_restAt hA I1 J a1 a2 a3 (-1 : Int32)) mw_X11_restAt mv_X11_restAt ml_X11_517 lm_0 dX11_rests_20 rfl rfl (roomOk rfl) rfl) rfl rfl ?_
    intro x4
    refine T_goto (tgt := 27) hok dX11_rests_23 rfl ?_
    refine T_sub (lv' := []) [] rfl ?_
    exact hj27 x4
  refine T_iconst hok ic_m1 dX11_rests_26 ?_
  refine T_sub (lv' := []) [] rfl ?_
  exact hj27 (-1 : Int32)

set_option maxHeartbeats 4000000 in
set_option maxRecDepth 100000 in
theorem ct_X11_rest {G : Gx} {l0 : Launch} {A : Nat → Prop} {b : Nat} (hA : ∀ k, k < Lm.length → A (b + k)) (I : MI) (J : MJ) (a1 : Int32) (a2 : Int32) (a3 : Int32) (a4 : Int32) : Ct G l0 A yX11_rest cX11_rest 5 (some .int) { frames := 2, cells := 0, slots := 0, locals := 52 } [.ref (b + 0), .int a1, .int a2, .int a3, .int a4] (Rg G b Lm (Rm b) I J) (ii1 (fun (I' : MI) => Rg G b Lm (Rm b) I' J)) (f_X11_rest I a1 a2 a3 a4) := by
  refine Ct.of rfl (Nat.le_of_ble_eq_true rfl) ?_
  intro X hok
  replace hok : Ok G l0 X RX11 cX11_rest 5 { frames := 2, cells := 0, slots := 0, locals := 52 } (some .int) := hok
  delta f_X11_rest
  show T X A (Zm X A (ii1 (fun (I' : MI) => Rg G b Lm (Rm b) I' J))) 5 0 0 0 [(0, .ref (b + 0)), (1, .int a1), (2, .int a2), (3, .int a3), (4, .int a4)] [] (Rg G b Lm (Rm b) I J) _
  refine T_aload_n hok 0 rfl rfl dX11_rest_0 ?_
  refine T_iconst hok ic_0 dX11_rest_1 ?_
  refine T_putI hok hA fr_X11_151 rfl rfl lm_0 dX11_rest_2 ?_
  intro I1
  refine T_aload_n hok 0 rfl rfl dX11_rest_5 ?_
  refine T_iload_n hok 1 rfl rfl dX11_rest_6 ?_
  refine T_iload_n hok 2 rfl rfl dX11_rest_7 ?_
  refine T_iload_n hok 3 rfl rfl dX11_rest_8 ?_
  refine T_cz0 (CR_V (rest := []) hok (ct_X11_areTwo hA I1 J a1 a2 a3) mw_X11_areTwo mv_X11_areTwo ml_X11_514 lm_0 dX11_rest_9 rfl rfl (roomOk rfl) rfl) rfl rfl ?_
  intro x2
  refine T_jp _ (fun (j33 : Int32 → Option (Int32 × MI)) => ∀ (x3 : Int32), T X A (Zm X A (ii1 (fun (I' : MI) => Rg G b Lm (Rm b) I' J))) 5 0 0 33 [] [.int x3] (Rg G b Lm (Rm b) I1 J) (j33 x3)) _ ?_ ?_
  · intro x3
    exact T_iret hok dX11_rest_33 (Nat.zero_le _) (Nat.zero_le _) rfl
  intro j33 hj33
  refine T_jp _ (fun (j32 : Option (Int32 × MI)) => T X A (Zm X A (ii1 (fun (I' : MI) => Rg G b Lm (Rm b) I' J))) 5 0 0 32 [] [] (Rg G b Lm (Rm b) I1 J) (j32)) _ ?_ ?_
  · skip
    refine T_iconst hok ic_m1 dX11_rest_32 ?_
    exact hj33 (-1 : Int32)
  intro j32 hj32
  refine T_ifb_eq (tgt := 32) hok dX11_rest_12 rfl ?_ ?_
  · refine T_iload hok 4 rfl dX11_rest_15 ?_
    refine T_if_lt (tgt := 32) hok dX11_rest_17 rfl ?_ ?_
    · refine T_sub (lv' := []) [] rfl ?_
      exact hj32
    refine T_aload_n hok 0 rfl rfl dX11_rest_20 ?_
    refine T_iload_n hok 1 rfl rfl dX11_rest_21 ?_
    refine T_iload_n hok 2 rfl rfl dX11_rest_22 ?_
    refine T_iload_n hok 3 rfl rfl dX11_rest_23 ?_
    refine T_iload hok 4 rfl dX11_rest_24 ?_
    refine T_ci0 (CR_V (rest := []) hok (ct_X11_restAt hA I1 J a1 a2 a3 a4) mw_X11_restAt mv_X11_restAt ml_X11_517 lm_0 dX11_rest_26 rfl rfl (roomOk rfl) rfl) rfl rfl ?_
    intro x4
    refine T_goto (tgt := 33) hok dX11_rest_29 rfl ?_
    refine T_sub (lv' := []) [] rfl ?_
    exact hj33 x4
  refine T_sub (lv' := []) [] rfl ?_
  exact hj32

set_option maxHeartbeats 4000000 in
set_option maxRecDepth 100000 in
theorem ct_X11_richest {G : Gx} {l0 : Launch} {A : Nat → Prop} {b : Nat} (hA : ∀ k, k < Lm.length → A (b + k)) (I : MI) (J : MJ) : Ct G l0 A yX11_richest cX11_richest 3 (some .int) { frames := 1, cells := 0, slots := 0, locals := 22 } [.ref (b + 0)] (Rg G b Lm (Rm b) I J) (ii1 (fun (I' : MI) => Rg G b Lm (Rm b) I' J)) (f_X11_richest I) := by
  refine Ct.of rfl (Nat.le_of_ble_eq_true rfl) ?_
  intro X hok
  replace hok : Ok G l0 X RX11 cX11_richest 3 { frames := 1, cells := 0, slots := 0, locals := 22 } (some .int) := hok
  delta f_X11_richest
  show T X A (Zm X A (ii1 (fun (I' : MI) => Rg G b Lm (Rm b) I' J))) 3 0 0 0 [(0, .ref (b + 0))] [] (Rg G b Lm (Rm b) I J) _
  refine T_aload_n hok 0 rfl rfl dX11_richest_0 ?_
  refine T_iconst hok ic_0 dX11_richest_1 ?_
  refine T_putI hok hA fr_X11_151 rfl rfl lm_0 dX11_richest_2 ?_
  intro I1
  refine T_bipush hok bp_m2 dX11_richest_5 ?_
  refine T_istore_n (lv' := [(1, .int (-2 : Int32)), (0, .ref (b + 0))]) hok rfl (by decide) rfl dX11_richest_7 ?_
  refine T_iconst hok ic_0 dX11_richest_8 ?_
  refine T_istore_n (lv' := [(2, .int (0 : Int32)), (1, .int (-2 : Int32)), (0, .ref (b + 0))]) hok rfl (by decide) rfl dX11_richest_9 ?_
  refine T_sub (lv' := [(0, .ref (b + 0)), (1, .int (-2 : Int32)), (2, .int (0 : Int32))]) [2, 1, 0] rfl ?_
  refine T_fix2 _ (fun (x2 : Int32) (x3 : Int32) => [(0, .ref (b + 0)), (1, .int x2), (2, .int x3)]) (fun (x2 : Int32) (x3 : Int32) => Rg G b Lm (Rm b) I1 J) ?_ FU (-2 : Int32) (0 : Int32)
  intro r10 hr10 x2 x3
  refine T_iload_n hok 2 rfl rfl dX11_richest_10 ?_
  refine T_aload_n hok 0 rfl rfl dX11_richest_11 ?_
  refine T_getI hok fr_X11_234 lm_0 dX11_richest_12 ?_
  refine T_icmp_ge (tgt := 58) hok dX11_richest_15 rfl ?_ ?_
  · refine T_iload_n hok 1 rfl rfl dX11_richest_58 ?_
    exact T_iret hok dX11_richest_59 (Nat.zero_le _) (Nat.zero_le _) rfl
  refine T_aload_n hok 0 rfl rfl dX11_richest_18 ?_
  refine T_getR hok fr_X11_106 lm_0 rm_0_57 dX11_richest_19 ?_
  refine T_iconst hok ic_0 dX11_richest_22 ?_
  refine T_iald hok lm_31 dX11_richest_23 ?_
  refine T_iload_n hok 2 rfl rfl dX11_richest_24 ?_
  refine T_cz0 (CR_S (rest := []) hok (ct_X11_isOf (I1 31 (ix (0 : Int32))) x3) mw_X11_isOf mst_X11_isOf ml_X11_430 dX11_richest_25 rfl rfl (roomOk rfl) rfl) rfl rfl ?_
  intro x4
  refine T_jp _ (fun (j52 : Int32 → Option (Int32 × MI)) => ∀ (x5 : Int32), T X A (Zm X A (ii1 (fun (I' : MI) => Rg G b Lm (Rm b) I' J))) 3 0 0 52 [(0, .ref (b + 0)), (1, .int x5), (2, .int x3)] [] (Rg G b Lm (Rm b) I1 J) (j52 x5)) _ ?_ ?_
  · intro x5
    refine T_iinc (lvs := fun x6 => [(2, .int x6), (0, .ref (b + 0)), (1, .int x5)]) hok 2 rfl ic_1 (by decide) (fun _ => rfl) dX11_richest_52 ?_
    intro x6
    refine T_goto (tgt := 10) hok dX11_richest_55 rfl ?_
    refine T_sub (lv' := [(0, .ref (b + 0)), (1, .int x5), (2, .int x6)]) [1, 2, 0] rfl ?_
    exact hr10 x5 x6
  intro j52 hj52
  refine T_ifb_ne (tgt := 52) hok dX11_richest_28 rfl ?_ ?_
  · exact hj52 x2
  refine T_iload_n hok 1 rfl rfl dX11_richest_31 ?_
  refine T_jp _ (fun (j50 : Option (Int32 × MI)) => T X A (Zm X A (ii1 (fun (I' : MI) => Rg G b Lm (Rm b) I' J))) 3 0 0 50 [(0, .ref (b + 0)), (2, .int x3)] [] (Rg G b Lm (Rm b) I1 J) (j50)) _ ?_ ?_
  · skip
    refine T_iload_n hok 1 rfl rfl dX11_richest_50 ?_
    refine T_istore_n (lv' := [(1, .int x3), (0, .ref (b + 0)), (2, .int x3)]) hok rfl (by decide) rfl dX11_richest_51 ?_
    refine T_sub (lv' := [(0, .ref (b + 0)), (1, .int x3), (2, .int x3)]) [1, 0, 2] rfl ?_
    exact hj52 x3
  intro j50 hj50
  refine T_if_lt (tgt := 50) hok dX11_richest_32 rfl ?_ ?_
  · refine T_sub (lv' := [(0, .ref (b + 0)), (2, .int x3)]) [0, 2] rfl ?_
    exact hj50
  refine T_aload_n hok 0 rfl rfl dX11_richest_35 ?_
  refine T_iconst hok ic_0 dX11_richest_36 ?_
  refine T_iload_n hok 2 rfl rfl dX11_richest_37 ?_
  refine T_ci0 (CR_V (rest := []) hok (ct_X11_hasOf hA I1 J (0 : Int32) x3) mw_X11_hasOf mv_X11_hasOf ml_X11_473 lm_0 dX11_richest_38 rfl rfl (roomOk rfl) rfl) rfl rfl ?_
  intro x7
  refine T_aload_n hok 0 rfl rfl dX11_richest_41 ?_
  refine T_iconst hok ic_0 dX11_richest_42 ?_
  refine T_iload_n hok 1 rfl rfl dX11_richest_43 ?_
  refine T_ci0 (CR_V (rest := [.int x7]) hok (ct_X11_hasOf hA I1 J (0 : Int32) x2) mw_X11_hasOf mv_X11_hasOf ml_X11_473 lm_0 dX11_richest_44 rfl rfl (roomOk rfl) rfl) rfl rfl ?_
  intro x8
  refine T_icmp_le (tgt := 52) hok dX11_richest_47 rfl ?_ ?_
  · exact hj52 x2
  refine T_sub (lv' := [(0, .ref (b + 0)), (2, .int x3)]) [0, 2] rfl ?_
  exact hj50

set_option maxHeartbeats 4000000 in
set_option maxRecDepth 100000 in
theorem ct_X11_mostOf {G : Gx} {l0 : Launch} {A : Nat → Prop} {b : Nat} (hA : ∀ k, k < Lm.length → A (b + k)) (I : MI) (J : MJ) (a1 : Int32) (a2 : Int32) : Ct G l0 A yX11_mostOf cX11_mostOf 5 (some .int) { frames := 1, cells := 0, slots := 0, locals := 22 } [.ref (b + 0), .int a1, .int a2] (Rg G b Lm (Rm b) I J) (ii0 (Rg G b Lm (Rm b) I J)) (f_X11_mostOf I a1 a2) := by
  refine Ct.of rfl (Nat.le_of_ble_eq_true rfl) ?_
  intro X hok
  replace hok : Ok G l0 X RX11 cX11_mostOf 5 { frames := 1, cells := 0, slots := 0, locals := 22 } (some .int) := hok
  delta f_X11_mostOf
  show T X A (Zm X A (ii0 (Rg G b Lm (Rm b) I J))) 5 0 0 0 [(0, .ref (b + 0)), (1, .int a1), (2, .int a2)] [] (Rg G b Lm (Rm b) I J) _
  refine T_iconst hok ic_0 dX11_mostOf_0 ?_
  refine T_istore_n (lv' := [(3, .int (0 : Int32)), (0, .ref (b + 0)), (1, .int a1), (2, .int a2)]) hok rfl (by decide) rfl dX11_mostOf_1 ?_
  refine T_iconst hok ic_0 dX11_mostOf_2 ?_
  refine T_istore (lv' := [(4, .int (0 : Int32)), (3, .int (0 : Int32)), (0, .ref (b + 0)), (1, .int a1), (2, .int a2)]) hok (by decide) rfl dX11_mostOf_3 ?_
  refine T_sub (lv' := [(0, .ref (b + 0)), (1, .int a1), (2, .int a2), (3, .int (0 : Int32)), (4, .int (0 : Int32))]) [2, 3, 4, 1, 0] rfl ?_
  refine T_fix2 _ (fun (x1 : Int32) (x2 : Int32) => [(0, .ref (b + 0)), (1, .int a1), (2, .int a2), (3, .int x1), (4, .int x2)]) (fun (x1 : Int32) (x2 : Int32) => Rg G b Lm (Rm b) I J) ?_ FU (0 : Int32) (0 : Int32)
  intro r5 hr5 x1 x2
  refine T_iload hok 4 rfl dX11_mostOf_5 ?_
  refine T_aload_n hok 0 rfl rfl dX11_mostOf_7 ?_
  refine T_getI hok fr_X11_234 lm_0 dX11_mostOf_8 ?_
  refine T_icmp_ge (tgt := 52) hok dX11_mostOf_11 rfl ?_ ?_
  · refine T_iload_n hok 3 rfl rfl dX11_mostOf_52 ?_
    exact T_iret hok dX11_mostOf_53 (Nat.zero_le _) (Nat.zero_le _) rfl
  refine T_iload_n hok 1 rfl rfl dX11_mostOf_14 ?_
  refine T_iload hok 4 rfl dX11_mostOf_15 ?_
  refine T_cz0 (CR_S (rest := []) hok (ct_X11_isOf a1 x2) mw_X11_isOf mst_X11_isOf ml_X11_430 dX11_mostOf_17 rfl rfl (roomOk rfl) rfl) rfl rfl ?_
  intro x3
  refine T_jp _ (fun (j45 : Int32 → Option (Int32)) => ∀ (x4 : Int32), T X A (Zm X A (ii0 (Rg G b Lm (Rm b) I J))) 5 0 0 45 [(0, .ref (b + 0)), (1, .int a1), (2, .int a2), (4, .int x2)] [.int x4] (Rg G b Lm (Rm b) I J) (j45 x4)) _ ?_ ?_
  · intro x4
    refine T_istore_n (lv' := [(3, .int x4), (0, .ref (b + 0)), (1, .int a1), (2, .int a2), (4, .int x2)]) hok rfl (by decide) rfl dX11_mostOf_45 ?_
    refine T_iinc (lvs := fun x5 => [(4, .int x5), (3, .int x4), (0, .ref (b + 0)), (1, .int a1), (2, .int a2)]) hok 4 rfl ic_1 (by decide) (fun _ => rfl) dX11_mostOf_46 ?_
    intro x5
    refine T_goto (tgt := 5) hok dX11_mostOf_49 rfl ?_
    refine T_sub (lv' := [(0, .ref (b + 0)), (1, .int a1), (2, .int a2), (3, .int x4), (4, .int x5)]) [2, 3, 4, 1, 0] rfl ?_
    exact hr5 x4 x5
  intro j45 hj45
  refine T_jp _ (fun (j44 : Option (Int32)) => T X A (Zm X A (ii0 (Rg G b Lm (Rm b) I J))) 5 0 0 44 [(0, .ref (b + 0)), (1, .int a1), (2, .int a2), (3, .int x1), (4, .int x2)] [] (Rg G b Lm (Rm b) I J) (j44)) _ ?_ ?_
  · skip
    refine T_iload_n hok 3 rfl rfl dX11_mostOf_44 ?_
    refine T_sub (lv' := [(0, .ref (b + 0)), (1, .int a1), (2, .int a2), (4, .int x2)]) [0, 1, 2, 4] rfl ?_
    exact hj45 x1
  intro j44 hj44
  refine T_ifb_eq (tgt := 44) hok dX11_mostOf_20 rfl ?_ ?_
  · refine T_aload_n hok 0 rfl rfl dX11_mostOf_23 ?_
    refine T_iload hok 4 rfl dX11_mostOf_24 ?_
    refine T_iload_n hok 2 rfl rfl dX11_mostOf_26 ?_
    refine T_ci0 (CR_V (rest := []) hok (ct_X11_paysOf hA I J x2 a2) mw_X11_paysOf mv_X11_paysOf ml_X11_500 lm_0 dX11_mostOf_27 rfl rfl (roomOk rfl) rfl) rfl rfl ?_
    intro x6
    refine T_iload_n hok 3 rfl rfl dX11_mostOf_30 ?_
    refine T_icmp_le (tgt := 44) hok dX11_mostOf_31 rfl ?_ ?_
    · exact hj44
    refine T_aload_n hok 0 rfl rfl dX11_mostOf_34 ?_
    refine T_iload hok 4 rfl dX11_mostOf_35 ?_
    refine T_iload_n hok 2 rfl rfl dX11_mostOf_37 ?_
    refine T_ci0 (CR_V (rest := []) hok (ct_X11_paysOf hA I J x2 a2) mw_X11_paysOf mv_X11_paysOf ml_X11_500 lm_0 dX11_mostOf_38 rfl rfl (roomOk rfl) rfl) rfl rfl ?_
    intro x7
    refine T_goto (tgt := 45) hok dX11_mostOf_41 rfl ?_
    refine T_sub (lv' := [(0, .ref (b + 0)), (1, .int a1), (2, .int a2), (4, .int x2)]) [0, 1, 2, 4] rfl ?_
    exact hj45 x7
  exact hj44

set_option maxHeartbeats 4000000 in
set_option maxRecDepth 100000 in
theorem ct_X11_leave {G : Gx} {l0 : Launch} {A : Nat → Prop} {b : Nat} (hA : ∀ k, k < Lm.length → A (b + k)) (I : MI) (J : MJ) (a1 : Int32) (a2 : Int32) : Ct G l0 A yX11_leave cX11_leave 4 (some .int) { frames := 2, cells := 0, slots := 0, locals := 46 } [.ref (b + 0), .int a1, .int a2] (Rg G b Lm (Rm b) I J) (ii1 (fun (I' : MI) => Rg G b Lm (Rm b) I' J)) (f_X11_leave I a1 a2) := by
  refine Ct.of rfl (Nat.le_of_ble_eq_true rfl) ?_
  intro X hok
  replace hok : Ok G l0 X RX11 cX11_leave 4 { frames := 2, cells := 0, slots := 0, locals := 46 } (some .int) := hok
  delta f_X11_leave
  show T X A (Zm X A (ii1 (fun (I' : MI) => Rg G b Lm (Rm b) I' J))) 4 0 0 0 [(0, .ref (b + 0)), (1, .int a1), (2, .int a2)] [] (Rg G b Lm (Rm b) I J) _
  refine T_aload_n hok 0 rfl rfl dX11_leave_0 ?_
  refine T_iconst hok ic_0 dX11_leave_1 ?_
  refine T_putI hok hA fr_X11_151 rfl rfl lm_0 dX11_leave_2 ?_
  intro I1
  refine T_aload_n hok 0 rfl rfl dX11_leave_5 ?_
  refine T_iload_n hok 1 rfl rfl dX11_leave_6 ?_
  refine T_cz0 (CR_V (rest := []) hok (ct_X11_areHouses hA I1 J a1) mw_X11_areHouses mv_X11_areHouses ml_X11_497 lm_0 dX11_leave_7 rfl rfl (roomOk rfl) rfl) rfl rfl ?_
  intro x2
  refine T_jp _ (fun (j25 : Option (Int32 × MI)) => T X A (Zm X A (ii1 (fun (I' : MI) => Rg G b Lm (Rm b) I' J))) 4 0 0 25 [] [] (Rg G b Lm (Rm b) I1 J) (j25)) _ ?_ ?_
  · skip
    refine T_iconst hok ic_m1 dX11_leave_25 ?_
    exact T_iret hok dX11_leave_26 (Nat.zero_le _) (Nat.zero_le _) rfl
  intro j25 hj25
  refine T_ifb_eq (tgt := 25) hok dX11_leave_10 rfl ?_ ?_
  · refine T_iload_n hok 1 rfl rfl dX11_leave_13 ?_
    refine T_if_eq (tgt := 25) hok dX11_leave_14 rfl ?_ ?_
    · refine T_sub (lv' := []) [] rfl ?_
      exact hj25
    refine T_aload_n hok 0 rfl rfl dX11_leave_17 ?_
    refine T_iload_n hok 2 rfl rfl dX11_leave_18 ?_
    refine T_cz0 (CR_V (rest := []) hok (ct_X11_isKind hA I1 J a2) mw_X11_isKind mv_X11_isKind ml_X11_449 lm_0 dX11_leave_19 rfl rfl (roomOk rfl) rfl) rfl rfl ?_
    intro x3
    refine T_ifb_ne (tgt := 27) hok dX11_leave_22 rfl ?_ ?_
    · refine T_iconst hok ic_1 dX11_leave_27 ?_
      refine T_istore_n (lv' := [(3, .int (1 : Int32)), (0, .ref (b + 0)), (1, .int a1), (2, .int a2)]) hok rfl (by decide) rfl dX11_leave_28 ?_
      refine T_sub (lv' := [(0, .ref (b + 0)), (1, .int a1), (2, .int a2), (3, .int (1 : Int32))]) [1, 2, 3, 0] rfl ?_
      refine T_fix1 _ (fun (x4 : Int32) => [(0, .ref (b + 0)), (1, .int a1), (2, .int a2), (3, .int x4)]) (fun (x4 : Int32) => Rg G b Lm (Rm b) I1 J) ?_ FU (1 : Int32)
      intro r29 hr29 x4
      refine T_iload_n hok 3 rfl rfl dX11_leave_29 ?_
      refine T_iload_n hok 1 rfl rfl dX11_leave_30 ?_
      refine T_icmp_gt (tgt := 75) hok dX11_leave_31 rfl ?_ ?_
      · refine T_bipush hok bp_m2 dX11_leave_75 ?_
        exact T_iret hok dX11_leave_77 (Nat.zero_le _) (Nat.zero_le _) rfl
      refine T_iload_n hok 3 rfl rfl dX11_leave_34 ?_
      refine T_iload_n hok 1 rfl rfl dX11_leave_35 ?_
      refine T_iconst hok ic_m1 dX11_leave_36 ?_
      refine T_ixor hok dX11_leave_37 ?_
      refine T_iand hok dX11_leave_38 ?_
      refine T_jp _ (fun (j69 : Option (Int32 × MI)) => T X A (Zm X A (ii1 (fun (I' : MI) => Rg G b Lm (Rm b) I' J))) 4 0 0 69 [(0, .ref (b + 0)), (1, .int a1), (2, .int a2), (3, .int x4)] [] (Rg G b Lm (Rm b) I1 J) (j69)) _ ?_ ?_
      · skip
        refine T_iinc (lvs := fun x5 => [(3, .int x5), (0, .ref (b + 0)), (1, .int a1), (2, .int a2)]) hok 3 rfl ic_1 (by decide) (fun _ => rfl) dX11_leave_69 ?_
        intro x5
        refine T_goto (tgt := 29) hok dX11_leave_72 rfl ?_
        refine T_sub (lv' := [(0, .ref (b + 0)), (1, .int a1), (2, .int a2), (3, .int x5)]) [1, 2, 3, 0] rfl ?_
        exact hr29 x5
      intro j69 hj69
      refine T_if_ne (tgt := 69) hok dX11_leave_39 rfl ?_ ?_
      · refine T_aload_n hok 0 rfl rfl dX11_leave_42 ?_
        refine T_iload_n hok 3 rfl rfl dX11_leave_43 ?_
        refine T_iload_n hok 2 rfl rfl dX11_leave_44 ?_
        refine T_ci0 (CR_V (rest := []) hok (ct_X11_mostOf hA I1 J x4 a2) mw_X11_mostOf mv_X11_mostOf ml_X11_520 lm_0 dX11_leave_45 rfl rfl (roomOk rfl) rfl) rfl rfl ?_
        intro x6
        refine T_iload_n hok 1 rfl rfl dX11_leave_48 ?_
        refine T_ci0 (CR_S (rest := [.int x6]) hok (ct_X11_manyOf a1) mw_X11_manyOf mst_X11_manyOf ml_X11_467 dX11_leave_49 rfl rfl (roomOk rfl) rfl) rfl rfl ?_
        intro x7
        refine T_imul hok dX11_leave_52 ?_
        refine T_aload_n hok 0 rfl rfl dX11_leave_53 ?_
        refine T_iload_n hok 1 rfl rfl dX11_leave_54 ?_
        refine T_iload_n hok 2 rfl rfl dX11_leave_55 ?_
        refine T_ci0 (CR_V (rest := [.int (x6 * x7)]) hok (ct_X11_mostOf hA I1 J a1 a2) mw_X11_mostOf mv_X11_mostOf ml_X11_520 lm_0 dX11_leave_56 rfl rfl (roomOk rfl) rfl) rfl rfl ?_
        intro x8
        refine T_iload_n hok 3 rfl rfl dX11_leave_59 ?_
        refine T_ci0 (CR_S (rest := [.int x8, .int (x6 * x7)]) hok (ct_X11_manyOf x4) mw_X11_manyOf mst_X11_manyOf ml_X11_467 dX11_leave_60 rfl rfl (roomOk rfl) rfl) rfl rfl ?_
        intro x9
        refine T_imul hok dX11_leave_63 ?_
        refine T_icmp_ge (tgt := 69) hok dX11_leave_64 rfl ?_ ?_
        · exact hj69
        refine T_iload_n hok 3 rfl rfl dX11_leave_67 ?_
        exact T_iret hok dX11_leave_68 (Nat.zero_le _) (Nat.zero_le _) rfl
      exact hj69
    refine T_sub (lv' := []) [] rfl ?_
    exact hj25
  refine T_sub (lv' := []) [] rfl ?_
  exact hj25

set_option maxHeartbeats 4000000 in
set_option maxRecDepth 100000 in
theorem ct_X11_blinds {G : Gx} {l0 : Launch} {A : Nat → Prop} {b : Nat} (hA : ∀ k, k < Lm.length → A (b + k)) (I : MI) (J : MJ) (a1 : Int32) (a2 : Int32) : Ct G l0 A yX11_blinds cX11_blinds 7 (some .int) { frames := 7, cells := 0, slots := 0, locals := 168 } [.ref (b + 0), .int a1, .int a2] (Rg G b Lm (Rm b) I J) (ii2 (fun (I' : MI) (J' : MJ) => Rg G b Lm (Rm b) I' J')) (f_X11_blinds I J a1 a2) := by
  refine Ct.of rfl (Nat.le_of_ble_eq_true rfl) ?_
  intro X hok
  replace hok : Ok G l0 X RX11 cX11_blinds 7 { frames := 7, cells := 0, slots := 0, locals := 168 } (some .int) := hok
  delta f_X11_blinds
  show T X A (Zm X A (ii2 (fun (I' : MI) (J' : MJ) => Rg G b Lm (Rm b) I' J'))) 7 0 0 0 [(0, .ref (b + 0)), (1, .int a1), (2, .int a2)] [] (Rg G b Lm (Rm b) I J) _
  refine T_aload_n hok 0 rfl rfl dX11_blinds_0 ?_
  refine T_iconst hok ic_0 dX11_blinds_1 ?_
  refine T_putI hok hA fr_X11_151 rfl rfl lm_0 dX11_blinds_2 ?_
  intro I1
  refine T_iload_n hok 1 rfl rfl dX11_blinds_5 ?_
  refine T_iconst hok ic_0 dX11_blinds_6 ?_
  refine T_bipush hok bp_60 dX11_blinds_7 ?_
  refine T_cz0 (CR_S (rest := []) hok (ct_X11_isIn a1 (0 : Int32) (60 : Int32)) mw_X11_isIn mst_X11_isIn ml_X11_196 dX11_blinds_9 rfl rfl (roomOk rfl) rfl) rfl rfl ?_
  intro x2
  refine T_jp _ (fun (j24 : Option (Int32 × MI × MJ)) => T X A (Zm X A (ii2 (fun (I' : MI) (J' : MJ) => Rg G b Lm (Rm b) I' J'))) 7 0 0 24 [] [] (Rg G b Lm (Rm b) I1 J) (j24)) _ ?_ ?_
  · skip
    refine T_iconst hok ic_m1 dX11_blinds_24 ?_
    exact T_iret hok dX11_blinds_25 (Nat.zero_le _) (Nat.zero_le _) rfl
  intro j24 hj24
  refine T_ifb_eq (tgt := 24) hok dX11_blinds_12 rfl ?_ ?_
  · refine T_iload_n hok 2 rfl rfl dX11_blinds_15 ?_
    refine T_iconst hok ic_0 dX11_blinds_16 ?_
    refine T_iconst hok ic_1 dX11_blinds_17 ?_
    refine T_cz0 (CR_S (rest := []) hok (ct_X11_isIn a2 (0 : Int32) (1 : Int32)) mw_X11_isIn mst_X11_isIn ml_X11_196 dX11_blinds_18 rfl rfl (roomOk rfl) rfl) rfl rfl ?_
    intro x3
    refine T_ifb_ne (tgt := 26) hok dX11_blinds_21 rfl ?_ ?_
    · refine T_iconst hok ic_m1 dX11_blinds_26 ?_
      refine T_istore_n (lv' := [(3, .int (-1 : Int32)), (0, .ref (b + 0)), (1, .int a1), (2, .int a2)]) hok rfl (by decide) rfl dX11_blinds_27 ?_
      refine T_iconst hok ic_0 dX11_blinds_28 ?_
      refine T_istore (lv' := [(4, .int (0 : Int32)), (3, .int (-1 : Int32)), (0, .ref (b + 0)), (1, .int a1), (2, .int a2)]) hok (by decide) rfl dX11_blinds_29 ?_
      refine T_iconst hok ic_0 dX11_blinds_31 ?_
      refine T_istore (lv' := [(5, .int (0 : Int32)), (4, .int (0 : Int32)), (3, .int (-1 : Int32)), (0, .ref (b + 0)), (1, .int a1), (2, .int a2)]) hok (by decide) rfl dX11_blinds_32 ?_
      refine T_jp _ (fun (j144 : Int32 → Int32 → MI → MJ → Option (Int32 × MI × MJ)) => ∀ (x4 : Int32) (x5 : Int32) (I6 : MI) (J7 : MJ), T X A (Zm X A (ii2 (fun (I' : MI) (J' : MJ) => Rg G b Lm (Rm b) I' J'))) 7 0 0 144 [(2, .int a2), (3, .int x4), (4, .int x5)] [] (Rg G b Lm (Rm b) I6 J7) (j144 x4 x5 I6 J7)) _ ?_ ?_
      · intro x4 x5 I6 J7
        refine T_iload_n hok 0 rfl rfl dX11_blinds_144 ?_
        refine T_jp _ (fun (j154 : Int32 → Option (Int32 × MI × MJ)) => ∀ (x8 : Int32), T X A (Zm X A (ii2 (fun (I' : MI) (J' : MJ) => Rg G b Lm (Rm b) I' J'))) 7 0 0 154 [] [.int x8] (Rg G b Lm (Rm b) I6 J7) (j154 x8)) _ ?_ ?_
        · intro x8
          exact T_iret hok dX11_blinds_154 (Nat.zero_le _) (Nat.zero_le _) rfl
        intro j154 hj154
        refine T_if_ne (tgt := 152) hok dX11_blinds_145 rfl ?_ ?_
        · refine T_iload_n hok 1 rfl rfl dX11_blinds_148 ?_
          refine T_goto (tgt := 154) hok dX11_blinds_149 rfl ?_
          refine T_sub (lv' := []) [] rfl ?_
          exact hj154 x4
        refine T_iload hok 2 rfl dX11_blinds_152 ?_
        refine T_sub (lv' := []) [] rfl ?_
        exact hj154 x5
      intro j144 hj144
      refine T_sub (lv' := [(0, .ref (b + 0)), (1, .int a1), (2, .int a2), (3, .int (-1 : Int32)), (4, .int (0 : Int32)), (5, .int (0 : Int32))]) [3, 4, 5, 2, 1, 0] rfl ?_
      refine T_fix5 _ (fun (x9 : Int32) (x10 : Int32) (x11 : Int32) (I12 : MI) (J13 : MJ) => [(0, .ref (b + 0)), (1, .int a1), (2, .int a2), (3, .int x9), (4, .int x10), (5, .int x11)]) (fun (x9 : Int32) (x10 : Int32) (x11 : Int32) (I12 : MI) (J13 : MJ) => Rg G b Lm (Rm b) I12 J13) ?_ FU (-1 : Int32) (0 : Int32) (0 : Int32) I1 J
      intro r34 hr34 x9 x10 x11 I12 J13
      refine T_iload hok 5 rfl dX11_blinds_34 ?_
      refine T_iconst hok ic_1 dX11_blinds_36 ?_
      refine T_aload_n hok 0 rfl rfl dX11_blinds_37 ?_
      refine T_getI hok fr_X11_234 lm_0 dX11_blinds_38 ?_
      refine T_ishl hok dX11_blinds_41 ?_
      refine T_icmp_ge (tgt := 144) hok dX11_blinds_42 rfl ?_ ?_
      · refine T_sub (lv' := [(2, .int a2), (3, .int x9), (4, .int x10)]) [2, 3, 4] rfl ?_
        exact hj144 x9 x10 I12 J13
      refine T_iload hok 5 rfl dX11_blinds_45 ?_
      refine T_aload_n hok 0 rfl rfl dX11_blinds_47 ?_
      refine T_getR hok fr_X11_106 lm_0 rm_0_57 dX11_blinds_48 ?_
      refine T_iconst hok ic_0 dX11_blinds_51 ?_
      refine T_iald hok lm_31 dX11_blinds_52 ?_
      refine T_aload_n hok 0 rfl rfl dX11_blinds_53 ?_
      refine T_getR hok fr_X11_109 lm_0 rm_0_58 dX11_blinds_54 ?_
      refine T_iconst hok ic_0 dX11_blinds_57 ?_
      refine T_iald hok lm_32 dX11_blinds_58 ?_
      refine T_ior hok dX11_blinds_59 ?_
      refine T_iand hok dX11_blinds_60 ?_
      refine T_jp _ (fun (j138 : Int32 → Int32 → MI → MJ → Option (Int32 × MI × MJ)) => ∀ (x14 : Int32) (x15 : Int32) (I16 : MI) (J17 : MJ), T X A (Zm X A (ii2 (fun (I' : MI) (J' : MJ) => Rg G b Lm (Rm b) I' J'))) 7 0 0 138 [(0, .ref (b + 0)), (1, .int a1), (2, .int a2), (3, .int x14), (4, .int x15), (5, .int x11)] [] (Rg G b Lm (Rm b) I16 J17) (j138 x14 x15 I16 J17)) _ ?_ ?_
      · intro x14 x15 I16 J17
        refine T_iinc (lvs := fun x18 => [(5, .int x18), (0, .ref (b + 0)), (1, .int a1), (2, .int a2), (3, .int x14), (4, .int x15)]) hok 5 rfl ic_1 (by decide) (fun _ => rfl) dX11_blinds_138 ?_
        intro x18
        refine T_goto (tgt := 34) hok dX11_blinds_141 rfl ?_
        refine T_sub (lv' := [(0, .ref (b + 0)), (1, .int a1), (2, .int a2), (3, .int x14), (4, .int x15), (5, .int x18)]) [1, 2, 3, 4, 5, 0] rfl ?_
        exact hr34 x14 x15 x18 I16 J17
      intro j138 hj138
      refine T_if_eq (tgt := 67) hok dX11_blinds_61 rfl ?_ ?_
      · refine T_aload_n hok 0 rfl rfl dX11_blinds_67 ?_
        refine T_cv1 (CR_V (rest := []) hok (ct_X11_layTried hA I12 J13) mw_X11_layTried mv_X11_layTried ml_X11_461 lm_0 dX11_blinds_68 rfl rfl (roomOk rfl) rfl) rfl rfl ?_
        intro I19
        refine T_aload_n hok 0 rfl rfl dX11_blinds_71 ?_
        refine T_getR hok fr_X11_109 lm_0 rm_0_58 dX11_blinds_72 ?_
        refine T_iconst hok ic_1 dX11_blinds_75 ?_
        refine T_dup2 hok rfl rfl dX11_blinds_76 ?_
        refine T_iald hok lm_32 dX11_blinds_77 ?_
        refine T_iload hok 5 rfl dX11_blinds_78 ?_
        refine T_ior hok dX11_blinds_80 ?_
        refine T_iast hok hA lm_32 dX11_blinds_81 ?_
        intro I20
        refine T_aload_n hok 0 rfl rfl dX11_blinds_82 ?_
        refine T_iload_n hok 1 rfl rfl dX11_blinds_83 ?_
        refine T_cv2 (CR_V (rest := []) hok (ct_X11_goMany hA I20 J13 a1) mw_X11_goMany mv_X11_goMany ml_X11_464 lm_0 dX11_blinds_84 rfl rfl (roomOk rfl) rfl) rfl rfl ?_
        intro I21 J22
        refine T_aload_n hok 0 rfl rfl dX11_blinds_87 ?_
        refine T_getR hok fr_X11_106 lm_0 rm_0_57 dX11_blinds_88 ?_
        refine T_iconst hok ic_1 dX11_blinds_91 ?_
        refine T_iald hok lm_31 dX11_blinds_92 ?_
        refine T_ci0 (CR_S (rest := []) hok (ct_X11_manyOf (I21 31 (ix (1 : Int32)))) mw_X11_manyOf mst_X11_manyOf ml_X11_467 dX11_blinds_93 rfl rfl (roomOk rfl) rfl) rfl rfl ?_
        intro x23
        refine T_istore (lv' := [(6, .int x23), (0, .ref (b + 0)), (1, .int a1), (2, .int a2), (3, .int x9), (4, .int x10), (5, .int x11)]) hok (by decide) rfl dX11_blinds_96 ?_
        refine T_iload_n hok 4 rfl rfl dX11_blinds_98 ?_
        refine T_jp _ (fun (j131 : Option (Int32 × MI × MJ)) => T X A (Zm X A (ii2 (fun (I' : MI) (J' : MJ) => Rg G b Lm (Rm b) I' J'))) 7 0 0 131 [(0, .ref (b + 0)), (1, .int a1), (2, .int a2), (5, .int x11), (6, .int x23)] [] (Rg G b Lm (Rm b) I21 J22) (j131)) _ ?_ ?_
        · skip
          refine T_iload hok 3 rfl dX11_blinds_131 ?_
          refine T_istore_n (lv' := [(3, .int x11), (0, .ref (b + 0)), (1, .int a1), (2, .int a2), (5, .int x11), (6, .int x23)]) hok rfl (by decide) rfl dX11_blinds_133 ?_
          refine T_iload hok 5 rfl dX11_blinds_134 ?_
          refine T_istore (lv' := [(4, .int x23), (3, .int x11), (0, .ref (b + 0)), (1, .int a1), (2, .int a2), (5, .int x11), (6, .int x23)]) hok (by decide) rfl dX11_blinds_136 ?_
          refine T_sub (lv' := [(0, .ref (b + 0)), (1, .int a1), (2, .int a2), (3, .int x11), (4, .int x23), (5, .int x11)]) [2, 3, 4, 1, 0, 5] rfl ?_
          exact hj138 x11 x23 I21 J22
        intro j131 hj131
        refine T_if_lt (tgt := 131) hok dX11_blinds_99 rfl ?_ ?_
        · refine T_sub (lv' := [(0, .ref (b + 0)), (1, .int a1), (2, .int a2), (5, .int x11), (6, .int x23)]) [1, 2, 3, 6, 0] rfl ?_
          exact hj131
        refine T_iload hok 0 rfl dX11_blinds_102 ?_
        refine T_iload hok 5 rfl dX11_blinds_104 ?_
        refine T_icmp_gt (tgt := 138) hok dX11_blinds_106 rfl ?_ ?_
        · refine T_sub (lv' := [(0, .ref (b + 0)), (1, .int a1), (2, .int a2), (3, .int x9), (4, .int x10), (5, .int x11)]) [1, 2, 3, 4, 5, 6] rfl ?_
          exact hj138 x9 x10 I21 J22
        refine T_iload hok 0 rfl dX11_blinds_109 ?_
        refine T_iload hok 5 rfl dX11_blinds_111 ?_
        refine T_icmp_ne (tgt := 131) hok dX11_blinds_113 rfl ?_ ?_
        · refine T_iload hok 6 rfl dX11_blinds_116 ?_
          refine T_ci0 (CR_S (rest := []) hok (ct_X11_manyOf x11) mw_X11_manyOf mst_X11_manyOf ml_X11_467 dX11_blinds_118 rfl rfl (roomOk rfl) rfl) rfl rfl ?_
          intro x24
          refine T_iload_n hok 4 rfl rfl dX11_blinds_121 ?_
          refine T_ci0 (CR_S (rest := [.int x24]) hok (ct_X11_manyOf x9) mw_X11_manyOf mst_X11_manyOf ml_X11_467 dX11_blinds_122 rfl rfl (roomOk rfl) rfl) rfl rfl ?_
          intro x25
          refine T_icmp_lt (tgt := 131) hok dX11_blinds_125 rfl ?_ ?_
          · refine T_sub (lv' := [(0, .ref (b + 0)), (1, .int a1), (2, .int a2), (5, .int x11), (6, .int x23)]) [1, 2, 3, 6, 0] rfl ?_
            exact hj131
          refine T_goto (tgt := 138) hok dX11_blinds_128 rfl ?_
          refine T_sub (lv' := [(0, .ref (b + 0)), (1, .int a1), (2, .int a2), (3, .int x9), (4, .int x10), (5, .int x11)]) [1, 2, 3, 4, 5, 6] rfl ?_
          exact hj138 x9 x10 I21 J22
        refine T_sub (lv' := [(0, .ref (b + 0)), (1, .int a1), (2, .int a2), (5, .int x11), (6, .int x23)]) [1, 2, 3, 6, 0] rfl ?_
        exact hj131
      refine T_goto (tgt := 138) hok dX11_blinds_64 rfl ?_
      exact hj138 x9 x10 I12 J13
    refine T_sub (lv' := []) [] rfl ?_
    exact hj24
  refine T_sub (lv' := []) [] rfl ?_
  exact hj24

set_option maxHeartbeats 4000000 in
set_option maxRecDepth 100000 in
theorem ct_X11_sumOf {G : Gx} {l0 : Launch} {A : Nat → Prop} {b : Nat} (hA : ∀ k, k < Lm.length → A (b + k)) (I : MI) (J : MJ) (a1 : Int32) : Ct G l0 A yX11_sumOf cX11_sumOf 4 (some .int) { frames := 1, cells := 0, slots := 0, locals := 22 } [.ref (b + 0), .int a1] (Rg G b Lm (Rm b) I J) (ii0 (Rg G b Lm (Rm b) I J)) (f_X11_sumOf I a1) := by
  refine Ct.of rfl (Nat.le_of_ble_eq_true rfl) ?_
  intro X hok
  replace hok : Ok G l0 X RX11 cX11_sumOf 4 { frames := 1, cells := 0, slots := 0, locals := 22 } (some .int) := hok
  delta f_X11_sumOf
  show T X A (Zm X A (ii0 (Rg G b Lm (Rm b) I J))) 4 0 0 0 [(0, .ref (b + 0)), (1, .int a1)] [] (Rg G b Lm (Rm b) I J) _
  refine T_iconst hok ic_0 dX11_sumOf_0 ?_
  refine T_istore_n (lv' := [(2, .int (0 : Int32)), (0, .ref (b + 0)), (1, .int a1)]) hok rfl (by decide) rfl dX11_sumOf_1 ?_
  refine T_iconst hok ic_0 dX11_sumOf_2 ?_
  refine T_istore_n (lv' := [(3, .int (0 : Int32)), (2, .int (0 : Int32)), (0, .ref (b + 0)), (1, .int a1)]) hok rfl (by decide) rfl dX11_sumOf_3 ?_
  refine T_sub (lv' := [(0, .ref (b + 0)), (1, .int a1), (2, .int (0 : Int32)), (3, .int (0 : Int32))]) [2, 3, 1, 0] rfl ?_
  refine T_fix2 _ (fun (x1 : Int32) (x2 : Int32) => [(0, .ref (b + 0)), (1, .int a1), (2, .int x1), (3, .int x2)]) (fun (x1 : Int32) (x2 : Int32) => Rg G b Lm (Rm b) I J) ?_ FU (0 : Int32) (0 : Int32)
  intro r4 hr4 x1 x2
  refine T_iload_n hok 3 rfl rfl dX11_sumOf_4 ?_
  refine T_aload_n hok 0 rfl rfl dX11_sumOf_5 ?_
  refine T_getI hok fr_X11_234 lm_0 dX11_sumOf_6 ?_
  refine T_icmp_ge (tgt := 39) hok dX11_sumOf_9 rfl ?_ ?_
  · refine T_iload_n hok 2 rfl rfl dX11_sumOf_39 ?_
    exact T_iret hok dX11_sumOf_40 (Nat.zero_le _) (Nat.zero_le _) rfl
  refine T_iload_n hok 2 rfl rfl dX11_sumOf_12 ?_
  refine T_iload_n hok 1 rfl rfl dX11_sumOf_13 ?_
  refine T_iload_n hok 3 rfl rfl dX11_sumOf_14 ?_
  refine T_cz0 (CR_S (rest := [.int x1]) hok (ct_X11_isOf a1 x2) mw_X11_isOf mst_X11_isOf ml_X11_430 dX11_sumOf_15 rfl rfl (roomOk rfl) rfl) rfl rfl ?_
  intro x3
  refine T_jp _ (fun (j31 : Int32 → Int32 → Option (Int32)) => ∀ (x4 : Int32) (x5 : Int32), T X A (Zm X A (ii0 (Rg G b Lm (Rm b) I J))) 4 0 0 31 [(0, .ref (b + 0)), (1, .int a1), (3, .int x2)] [.int x4, .int x5] (Rg G b Lm (Rm b) I J) (j31 x4 x5)) _ ?_ ?_
  · intro x4 x5
    refine T_iadd hok dX11_sumOf_31 ?_
    refine T_lti ?_
    intro x6
    refine T_istore_n (lv' := [(2, .int x6), (0, .ref (b + 0)), (1, .int a1), (3, .int x2)]) hok rfl (by decide) rfl dX11_sumOf_32 ?_
    refine T_iinc (lvs := fun x7 => [(3, .int x7), (2, .int x6), (0, .ref (b + 0)), (1, .int a1)]) hok 3 rfl ic_1 (by decide) (fun _ => rfl) dX11_sumOf_33 ?_
    intro x7
    refine T_goto (tgt := 4) hok dX11_sumOf_36 rfl ?_
    refine T_sub (lv' := [(0, .ref (b + 0)), (1, .int a1), (2, .int x6), (3, .int x7)]) [2, 3, 1, 0] rfl ?_
    exact hr4 x6 x7
  intro j31 hj31
  refine T_ifb_eq (tgt := 30) hok dX11_sumOf_18 rfl ?_ ?_
  · refine T_aload_n hok 0 rfl rfl dX11_sumOf_21 ?_
    refine T_iconst hok ic_0 dX11_sumOf_22 ?_
    refine T_iload_n hok 3 rfl rfl dX11_sumOf_23 ?_
    refine T_ci0 (CR_V (rest := [.int x1]) hok (ct_X11_hasOf hA I J (0 : Int32) x2) mw_X11_hasOf mv_X11_hasOf ml_X11_473 lm_0 dX11_sumOf_24 rfl rfl (roomOk rfl) rfl) rfl rfl ?_
    intro x8
    refine T_goto (tgt := 31) hok dX11_sumOf_27 rfl ?_
    refine T_sub (lv' := [(0, .ref (b + 0)), (1, .int a1), (3, .int x2)]) [0, 1, 3] rfl ?_
    exact hj31 x8 x1
  refine T_iconst hok ic_0 dX11_sumOf_30 ?_
  refine T_sub (lv' := [(0, .ref (b + 0)), (1, .int a1), (3, .int x2)]) [0, 1, 3] rfl ?_
  exact hj31 (0 : Int32) x1

set_option maxHeartbeats 4000000 in
set_option maxRecDepth 100000 in
theorem ct_X11_among {G : Gx} {l0 : Launch} {A : Nat → Prop} {b : Nat} (hA : ∀ k, k < Lm.length → A (b + k)) (I : MI) (J : MJ) (a1 : Int32) : Ct G l0 A yX11_among cX11_among 4 (some .int) { frames := 2, cells := 0, slots := 0, locals := 45 } [.ref (b + 0), .int a1] (Rg G b Lm (Rm b) I J) (ii1 (fun (I' : MI) => Rg G b Lm (Rm b) I' J)) (f_X11_among I a1) := by
  refine Ct.of rfl (Nat.le_of_ble_eq_true rfl) ?_
  intro X hok
  replace hok : Ok G l0 X RX11 cX11_among 4 { frames := 2, cells := 0, slots := 0, locals := 45 } (some .int) := hok
  delta f_X11_among
  show T X A (Zm X A (ii1 (fun (I' : MI) => Rg G b Lm (Rm b) I' J))) 4 0 0 0 [(0, .ref (b + 0)), (1, .int a1)] [] (Rg G b Lm (Rm b) I J) _
  refine T_aload_n hok 0 rfl rfl dX11_among_0 ?_
  refine T_iconst hok ic_0 dX11_among_1 ?_
  refine T_putI hok hA fr_X11_151 rfl rfl lm_0 dX11_among_2 ?_
  intro I1
  refine T_iload_n hok 1 rfl rfl dX11_among_5 ?_
  refine T_iconst hok ic_1 dX11_among_6 ?_
  refine T_sipush hok sp_9999 dX11_among_7 ?_
  refine T_cz0 (CR_S (rest := []) hok (ct_X11_isIn a1 (1 : Int32) (9999 : Int32)) mw_X11_isIn mst_X11_isIn ml_X11_196 dX11_among_10 rfl rfl (roomOk rfl) rfl) rfl rfl ?_
  intro x2
  refine T_ifb_ne (tgt := 18) hok dX11_among_13 rfl ?_ ?_
  · refine T_bipush hok bp_m2 dX11_among_18 ?_
    refine T_istore_n (lv' := [(2, .int (-2 : Int32)), (0, .ref (b + 0)), (1, .int a1)]) hok rfl (by decide) rfl dX11_among_20 ?_
    refine T_iconst hok ic_0 dX11_among_21 ?_
    refine T_istore_n (lv' := [(3, .int (0 : Int32)), (2, .int (-2 : Int32)), (0, .ref (b + 0)), (1, .int a1)]) hok rfl (by decide) rfl dX11_among_22 ?_
    refine T_sub (lv' := [(0, .ref (b + 0)), (1, .int a1), (2, .int (-2 : Int32)), (3, .int (0 : Int32))]) [2, 3, 1, 0] rfl ?_
    refine T_fix2 _ (fun (x3 : Int32) (x4 : Int32) => [(0, .ref (b + 0)), (1, .int a1), (2, .int x3), (3, .int x4)]) (fun (x3 : Int32) (x4 : Int32) => Rg G b Lm (Rm b) I1 J) ?_ FU (-2 : Int32) (0 : Int32)
    intro r23 hr23 x3 x4
    refine T_iload_n hok 3 rfl rfl dX11_among_23 ?_
    refine T_iconst hok ic_1 dX11_among_24 ?_
    refine T_aload_n hok 0 rfl rfl dX11_among_25 ?_
    refine T_getI hok fr_X11_234 lm_0 dX11_among_26 ?_
    refine T_ishl hok dX11_among_29 ?_
    refine T_icmp_ge (tgt := 79) hok dX11_among_30 rfl ?_ ?_
    · refine T_iload_n hok 2 rfl rfl dX11_among_79 ?_
      exact T_iret hok dX11_among_80 (Nat.zero_le _) (Nat.zero_le _) rfl
    refine T_iload_n hok 3 rfl rfl dX11_among_33 ?_
    refine T_aload_n hok 0 rfl rfl dX11_among_34 ?_
    refine T_getR hok fr_X11_106 lm_0 rm_0_57 dX11_among_35 ?_
    refine T_iconst hok ic_0 dX11_among_38 ?_
    refine T_iald hok lm_31 dX11_among_39 ?_
    refine T_iand hok dX11_among_40 ?_
    refine T_jp _ (fun (j73 : Int32 → Option (Int32 × MI)) => ∀ (x5 : Int32), T X A (Zm X A (ii1 (fun (I' : MI) => Rg G b Lm (Rm b) I' J))) 4 0 0 73 [(0, .ref (b + 0)), (1, .int a1), (2, .int x5), (3, .int x4)] [] (Rg G b Lm (Rm b) I1 J) (j73 x5)) _ ?_ ?_
    · intro x5
      refine T_iinc (lvs := fun x6 => [(3, .int x6), (0, .ref (b + 0)), (1, .int a1), (2, .int x5)]) hok 3 rfl ic_1 (by decide) (fun _ => rfl) dX11_among_73 ?_
      intro x6
      refine T_goto (tgt := 23) hok dX11_among_76 rfl ?_
      refine T_sub (lv' := [(0, .ref (b + 0)), (1, .int a1), (2, .int x5), (3, .int x6)]) [1, 2, 3, 0] rfl ?_
      exact hr23 x5 x6
    intro j73 hj73
    refine T_if_ne (tgt := 73) hok dX11_among_41 rfl ?_ ?_
    · refine T_aload_n hok 0 rfl rfl dX11_among_44 ?_
      refine T_iload_n hok 3 rfl rfl dX11_among_45 ?_
      refine T_ci0 (CR_V (rest := []) hok (ct_X11_sumOf hA I1 J x4) mw_X11_sumOf mv_X11_sumOf ml_X11_523 lm_0 dX11_among_46 rfl rfl (roomOk rfl) rfl) rfl rfl ?_
      intro x7
      refine T_iload_n hok 1 rfl rfl dX11_among_49 ?_
      refine T_icmp_ge (tgt := 56) hok dX11_among_50 rfl ?_ ?_
      · refine T_iload_n hok 2 rfl rfl dX11_among_56 ?_
        refine T_jp _ (fun (j71 : Option (Int32 × MI)) => T X A (Zm X A (ii1 (fun (I' : MI) => Rg G b Lm (Rm b) I' J))) 4 0 0 71 [(0, .ref (b + 0)), (1, .int a1), (3, .int x4)] [] (Rg G b Lm (Rm b) I1 J) (j71)) _ ?_ ?_
        · skip
          refine T_iload_n hok 2 rfl rfl dX11_among_71 ?_
          refine T_istore_n (lv' := [(2, .int x4), (0, .ref (b + 0)), (1, .int a1), (3, .int x4)]) hok rfl (by decide) rfl dX11_among_72 ?_
          refine T_sub (lv' := [(0, .ref (b + 0)), (1, .int a1), (2, .int x4), (3, .int x4)]) [1, 2, 0, 3] rfl ?_
          exact hj73 x4
        intro j71 hj71
        refine T_if_lt (tgt := 71) hok dX11_among_57 rfl ?_ ?_
        · refine T_sub (lv' := [(0, .ref (b + 0)), (1, .int a1), (3, .int x4)]) [0, 1, 3] rfl ?_
          exact hj71
        refine T_iload_n hok 3 rfl rfl dX11_among_60 ?_
        refine T_ci0 (CR_S (rest := []) hok (ct_X11_manyOf x4) mw_X11_manyOf mst_X11_manyOf ml_X11_467 dX11_among_61 rfl rfl (roomOk rfl) rfl) rfl rfl ?_
        intro x8
        refine T_iload_n hok 2 rfl rfl dX11_among_64 ?_
        refine T_ci0 (CR_S (rest := [.int x8]) hok (ct_X11_manyOf x3) mw_X11_manyOf mst_X11_manyOf ml_X11_467 dX11_among_65 rfl rfl (roomOk rfl) rfl) rfl rfl ?_
        intro x9
        refine T_icmp_ge (tgt := 73) hok dX11_among_68 rfl ?_ ?_
        · exact hj73 x3
        refine T_sub (lv' := [(0, .ref (b + 0)), (1, .int a1), (3, .int x4)]) [0, 1, 3] rfl ?_
        exact hj71
      refine T_goto (tgt := 73) hok dX11_among_53 rfl ?_
      exact hj73 x3
    exact hj73 x3
  refine T_iconst hok ic_m1 dX11_among_16 ?_
  exact T_iret hok dX11_among_17 (Nat.zero_le _) (Nat.zero_le _) rfl

set_option maxHeartbeats 4000000 in
set_option maxRecDepth 100000 in
theorem ct_X11_rescue {G : Gx} {l0 : Launch} {A : Nat → Prop} {b : Nat} (hA : ∀ k, k < Lm.length → A (b + k)) (I : MI) (J : MJ) : Ct G l0 A yX11_rescue cX11_rescue 4 (some .int) { frames := 7, cells := 0, slots := 0, locals := 168 } [.ref (b + 0)] (Rg G b Lm (Rm b) I J) (ii2 (fun (I' : MI) (J' : MJ) => Rg G b Lm (Rm b) I' J')) (f_X11_rescue I J) := by
  refine Ct.of rfl (Nat.le_of_ble_eq_true rfl) ?_
  intro X hok
  replace hok : Ok G l0 X RX11 cX11_rescue 4 { frames := 7, cells := 0, slots := 0, locals := 168 } (some .int) := hok
  delta f_X11_rescue
  show T X A (Zm X A (ii2 (fun (I' : MI) (J' : MJ) => Rg G b Lm (Rm b) I' J'))) 4 0 0 0 [(0, .ref (b + 0))] [] (Rg G b Lm (Rm b) I J) _
  refine T_aload_n hok 0 rfl rfl dX11_rescue_0 ?_
  refine T_iconst hok ic_0 dX11_rescue_1 ?_
  refine T_putI hok hA fr_X11_151 rfl rfl lm_0 dX11_rescue_2 ?_
  intro I1
  refine T_aload_n hok 0 rfl rfl dX11_rescue_5 ?_
  refine T_cv1 (CR_V (rest := []) hok (ct_X11_layTried hA I1 J) mw_X11_layTried mv_X11_layTried ml_X11_461 lm_0 dX11_rescue_6 rfl rfl (roomOk rfl) rfl) rfl rfl ?_
  intro I2
  refine T_aload_n hok 0 rfl rfl dX11_rescue_9 ?_
  refine T_aload_n hok 0 rfl rfl dX11_rescue_10 ?_
  refine T_getR hok fr_X11_24 lm_0 rm_0_23 dX11_rescue_11 ?_
  refine T_iconst hok ic_0 dX11_rescue_14 ?_
  refine T_iald hok lm_4 dX11_rescue_15 ?_
  refine T_aload_n hok 0 rfl rfl dX11_rescue_16 ?_
  refine T_getR hok fr_X11_118 lm_0 rm_0_61 dX11_rescue_17 ?_
  refine T_iconst hok ic_0 dX11_rescue_20 ?_
  refine T_iald hok lm_35 dX11_rescue_21 ?_
  refine T_aload_n hok 0 rfl rfl dX11_rescue_22 ?_
  refine T_getR hok fr_X11_24 lm_0 rm_0_23 dX11_rescue_23 ?_
  refine T_iconst hok ic_0 dX11_rescue_26 ?_
  refine T_iald hok lm_4 dX11_rescue_27 ?_
  refine T_irem hok dX11_rescue_28 ?_
  refine T_isub hok dX11_rescue_29 ?_
  refine T_cv2 (CR_V (rest := []) hok (ct_X11_goMany hA I2 J ((I2 4 (ix (0 : Int32))) - (irem (I2 35 (ix (0 : Int32))) (I2 4 (ix (0 : Int32)))))) mw_X11_goMany mv_X11_goMany ml_X11_464 lm_0 dX11_rescue_30 rfl rfl (roomOk rfl) rfl) rfl rfl ?_
  intro I3 J4
  refine T_iconst hok ic_0 dX11_rescue_33 ?_
  refine T_istore_n (lv' := [(1, .int (0 : Int32)), (0, .ref (b + 0))]) hok rfl (by decide) rfl dX11_rescue_34 ?_
  refine T_iconst hok ic_0 dX11_rescue_35 ?_
  refine T_istore_n (lv' := [(2, .int (0 : Int32)), (1, .int (0 : Int32)), (0, .ref (b + 0))]) hok rfl (by decide) rfl dX11_rescue_36 ?_
  refine T_iconst hok ic_0 dX11_rescue_37 ?_
  refine T_istore_n (lv' := [(3, .int (0 : Int32)), (2, .int (0 : Int32)), (1, .int (0 : Int32)), (0, .ref (b + 0))]) hok rfl (by decide) rfl dX11_rescue_38 ?_
  refine T_jp _ (fun (j110 : Int32 → Int32 → Option (Int32 × MI × MJ)) => ∀ (x5 : Int32) (x6 : Int32), T X A (Zm X A (ii2 (fun (I' : MI) (J' : MJ) => Rg G b Lm (Rm b) I' J'))) 4 0 0 110 [(1, .int x5), (2, .int x6)] [] (Rg G b Lm (Rm b) I3 J4) (j110 x5 x6)) _ ?_ ?_
  · intro x5 x6
    refine T_iload_n hok 1 rfl rfl dX11_rescue_110 ?_
    refine T_iload_n hok 0 rfl rfl dX11_rescue_111 ?_
    refine T_jp _ (fun (j121 : Int32 → Option (Int32 × MI × MJ)) => ∀ (x7 : Int32), T X A (Zm X A (ii2 (fun (I' : MI) (J' : MJ) => Rg G b Lm (Rm b) I' J'))) 4 0 0 121 [] [.int x7] (Rg G b Lm (Rm b) I3 J4) (j121 x7)) _ ?_ ?_
    · intro x7
      exact T_iret hok dX11_rescue_121 (Nat.zero_le _) (Nat.zero_le _) rfl
    intro j121 hj121
    refine T_icmp_ge (tgt := 120) hok dX11_rescue_112 rfl ?_ ?_
    · refine T_iload_n hok 0 rfl rfl dX11_rescue_120 ?_
      refine T_sub (lv' := []) [] rfl ?_
      exact hj121 x5
    refine T_bipush hok bp_m2 dX11_rescue_115 ?_
    refine T_goto (tgt := 121) hok dX11_rescue_117 rfl ?_
    refine T_sub (lv' := []) [] rfl ?_
    exact hj121 (-2 : Int32)
  intro j110 hj110
  refine T_sub (lv' := [(0, .ref (b + 0)), (1, .int (0 : Int32)), (2, .int (0 : Int32)), (3, .int (0 : Int32))]) [3, 2, 1, 0] rfl ?_
  refine T_fix3 _ (fun (x8 : Int32) (x9 : Int32) (x10 : Int32) => [(0, .ref (b + 0)), (1, .int x8), (2, .int x9), (3, .int x10)]) (fun (x8 : Int32) (x9 : Int32) (x10 : Int32) => Rg G b Lm (Rm b) I3 J4) ?_ FU (0 : Int32) (0 : Int32) (0 : Int32)
  intro r39 hr39 x8 x9 x10
  refine T_iload_n hok 3 rfl rfl dX11_rescue_39 ?_
  refine T_aload_n hok 0 rfl rfl dX11_rescue_40 ?_
  refine T_getI hok fr_X11_234 lm_0 dX11_rescue_41 ?_
  refine T_icmp_ge (tgt := 110) hok dX11_rescue_44 rfl ?_ ?_
  · refine T_sub (lv' := [(1, .int x8), (2, .int x9)]) [1, 2] rfl ?_
    exact hj110 x8 x9
  refine T_aload_n hok 0 rfl rfl dX11_rescue_47 ?_
  refine T_getR hok fr_X11_106 lm_0 rm_0_57 dX11_rescue_48 ?_
  refine T_iconst hok ic_1 dX11_rescue_51 ?_
  refine T_iald hok lm_31 dX11_rescue_52 ?_
  refine T_iload_n hok 3 rfl rfl dX11_rescue_53 ?_
  refine T_cz0 (CR_S (rest := []) hok (ct_X11_isOf (I3 31 (ix (1 : Int32))) x10) mw_X11_isOf mst_X11_isOf ml_X11_430 dX11_rescue_54 rfl rfl (roomOk rfl) rfl) rfl rfl ?_
  intro x11
  refine T_jp _ (fun (j104 : Int32 → Int32 → Option (Int32 × MI × MJ)) => ∀ (x12 : Int32) (x13 : Int32), T X A (Zm X A (ii2 (fun (I' : MI) (J' : MJ) => Rg G b Lm (Rm b) I' J'))) 4 0 0 104 [(0, .ref (b + 0)), (1, .int x12), (2, .int x13), (3, .int x10)] [] (Rg G b Lm (Rm b) I3 J4) (j104 x12 x13)) _ ?_ ?_
  · intro x12 x13
    refine T_iinc (lvs := fun x14 => [(3, .int x14), (0, .ref (b + 0)), (1, .int x12), (2, .int x13)]) hok 3 rfl ic_1 (by decide) (fun _ => rfl) dX11_rescue_104 ?_
    intro x14
    refine T_goto (tgt := 39) hok dX11_rescue_107 rfl ?_
    refine T_sub (lv' := [(0, .ref (b + 0)), (1, .int x12), (2, .int x13), (3, .int x14)]) [1, 2, 3, 0] rfl ?_
    exact hr39 x12 x13 x14
  intro j104 hj104
  refine T_ifb_eq (tgt := 92) hok dX11_rescue_57 rfl ?_ ?_
  · refine T_iload_n hok 1 rfl rfl dX11_rescue_60 ?_
    refine T_aload_n hok 0 rfl rfl dX11_rescue_61 ?_
    refine T_getR hok fr_X11_106 lm_0 rm_0_57 dX11_rescue_62 ?_
    refine T_iconst hok ic_0 dX11_rescue_65 ?_
    refine T_iald hok lm_31 dX11_rescue_66 ?_
    refine T_iload_n hok 3 rfl rfl dX11_rescue_67 ?_
    refine T_cz0 (CR_S (rest := [.int x8]) hok (ct_X11_isOf (I3 31 (ix (0 : Int32))) x10) mw_X11_isOf mst_X11_isOf ml_X11_430 dX11_rescue_68 rfl rfl (roomOk rfl) rfl) rfl rfl ?_
    intro x15
    refine T_jp _ (fun (j87 : Int32 → Int32 → Option (Int32 × MI × MJ)) => ∀ (x16 : Int32) (x17 : Int32), T X A (Zm X A (ii2 (fun (I' : MI) (J' : MJ) => Rg G b Lm (Rm b) I' J'))) 4 0 0 87 [(0, .ref (b + 0)), (2, .int x9), (3, .int x10)] [.int x16, .int x17] (Rg G b Lm (Rm b) I3 J4) (j87 x16 x17)) _ ?_ ?_
    · intro x16 x17
      refine T_isub hok dX11_rescue_87 ?_
      refine T_lti ?_
      intro x18
      refine T_istore_n (lv' := [(1, .int x18), (0, .ref (b + 0)), (2, .int x9), (3, .int x10)]) hok rfl (by decide) rfl dX11_rescue_88 ?_
      refine T_goto (tgt := 104) hok dX11_rescue_89 rfl ?_
      refine T_sub (lv' := [(0, .ref (b + 0)), (1, .int x18), (2, .int x9), (3, .int x10)]) [1, 0, 2, 3] rfl ?_
      exact hj104 x18 x9
    intro j87 hj87
    refine T_ifb_eq (tgt := 78) hok dX11_rescue_71 rfl ?_ ?_
    · refine T_iconst hok ic_0 dX11_rescue_74 ?_
      refine T_goto (tgt := 87) hok dX11_rescue_75 rfl ?_
      refine T_sub (lv' := [(0, .ref (b + 0)), (2, .int x9), (3, .int x10)]) [0, 2, 3] rfl ?_
      exact hj87 (0 : Int32) x8
    refine T_aload_n hok 0 rfl rfl dX11_rescue_78 ?_
    refine T_getR hok fr_X11_91 lm_0 rm_0_52 dX11_rescue_79 ?_
    refine T_bipush hok bp_6 dX11_rescue_82 ?_
    refine T_iload_n hok 3 rfl rfl dX11_rescue_84 ?_
    refine T_iadd hok dX11_rescue_85 ?_
    refine T_iald hok lm_26 dX11_rescue_86 ?_
    refine T_sub (lv' := [(0, .ref (b + 0)), (2, .int x9), (3, .int x10)]) [0, 2, 3] rfl ?_
    exact hj87 (I3 26 (ix ((6 : Int32) + x10))) x8
  refine T_iload_n hok 2 rfl rfl dX11_rescue_92 ?_
  refine T_aload_n hok 0 rfl rfl dX11_rescue_93 ?_
  refine T_getR hok fr_X11_91 lm_0 rm_0_52 dX11_rescue_94 ?_
  refine T_bipush hok bp_6 dX11_rescue_97 ?_
  refine T_iload_n hok 3 rfl rfl dX11_rescue_99 ?_
  refine T_iadd hok dX11_rescue_100 ?_
  refine T_iald hok lm_26 dX11_rescue_101 ?_
  refine T_iadd hok dX11_rescue_102 ?_
  refine T_lti ?_
  intro x19
  refine T_istore_n (lv' := [(2, .int x19), (0, .ref (b + 0)), (1, .int x8), (3, .int x10)]) hok rfl (by decide) rfl dX11_rescue_103 ?_
  refine T_sub (lv' := [(0, .ref (b + 0)), (1, .int x8), (2, .int x19), (3, .int x10)]) [1, 2, 0, 3] rfl ?_
  exact hj104 x8 x19

set_option maxHeartbeats 4000000 in
set_option maxRecDepth 100000 in
theorem ct_X11_have {G : Gx} {l0 : Launch} {A : Nat → Prop} {b : Nat} (hA : ∀ k, k < Lm.length → A (b + k)) (I : MI) (J : MJ) (a1 : Int32) : Ct G l0 A yX11_have cX11_have 2 (some .int) { frames := 2, cells := 0, slots := 0, locals := 45 } [.ref (b + 0), .int a1] (Rg G b Lm (Rm b) I J) (ii1 (fun (I' : MI) => Rg G b Lm (Rm b) I' J)) (f_X11_have I a1) := by
  refine Ct.of rfl (Nat.le_of_ble_eq_true rfl) ?_
  intro X hok
  replace hok : Ok G l0 X RX11 cX11_have 2 { frames := 2, cells := 0, slots := 0, locals := 45 } (some .int) := hok
  delta f_X11_have
  show T X A (Zm X A (ii1 (fun (I' : MI) => Rg G b Lm (Rm b) I' J))) 2 0 0 0 [(0, .ref (b + 0)), (1, .int a1)] [] (Rg G b Lm (Rm b) I J) _
  refine T_aload_n hok 0 rfl rfl dX11_have_0 ?_
  refine T_iconst hok ic_0 dX11_have_1 ?_
  refine T_putI hok hA fr_X11_151 rfl rfl lm_0 dX11_have_2 ?_
  intro I1
  refine T_aload_n hok 0 rfl rfl dX11_have_5 ?_
  refine T_iload_n hok 1 rfl rfl dX11_have_6 ?_
  refine T_cz0 (CR_V (rest := []) hok (ct_X11_areHouses hA I1 J a1) mw_X11_areHouses mv_X11_areHouses ml_X11_497 lm_0 dX11_have_7 rfl rfl (roomOk rfl) rfl) rfl rfl ?_
  intro x2
  refine T_jp _ (fun (j24 : Int32 → Option (Int32 × MI)) => ∀ (x3 : Int32), T X A (Zm X A (ii1 (fun (I' : MI) => Rg G b Lm (Rm b) I' J))) 2 0 0 24 [] [.int x3] (Rg G b Lm (Rm b) I1 J) (j24 x3)) _ ?_ ?_
  · intro x3
    exact T_iret hok dX11_have_24 (Nat.zero_le _) (Nat.zero_le _) rfl
  intro j24 hj24
  refine T_ifb_eq (tgt := 21) hok dX11_have_10 rfl ?_ ?_
  · refine T_aload_n hok 0 rfl rfl dX11_have_13 ?_
    refine T_iload_n hok 1 rfl rfl dX11_have_14 ?_
    refine T_ci0 (CR_V (rest := []) hok (ct_X11_sumOf hA I1 J a1) mw_X11_sumOf mv_X11_sumOf ml_X11_523 lm_0 dX11_have_15 rfl rfl (roomOk rfl) rfl) rfl rfl ?_
    intro x4
    refine T_goto (tgt := 24) hok dX11_have_18 rfl ?_
    refine T_sub (lv' := []) [] rfl ?_
    exact hj24 x4
  refine T_ldcw hok lk_X11_460 dX11_have_21 ?_
  refine T_sub (lv' := []) [] rfl ?_
  exact hj24 (-2147483648 : Int32)

set_option maxHeartbeats 4000000 in
set_option maxRecDepth 100000 in
theorem ct_X11_dearest {G : Gx} {l0 : Launch} {A : Nat → Prop} {b : Nat} (hA : ∀ k, k < Lm.length → A (b + k)) (I : MI) (J : MJ) : Ct G l0 A yX11_dearest cX11_dearest 3 (some .int) { frames := 0, cells := 0, slots := 0, locals := 0 } [.ref (b + 0)] (Rg G b Lm (Rm b) I J) (ii1 (fun (I' : MI) => Rg G b Lm (Rm b) I' J)) (f_X11_dearest I) := by
  refine Ct.of rfl (Nat.le_of_ble_eq_true rfl) ?_
  intro X hok
  replace hok : Ok G l0 X RX11 cX11_dearest 3 { frames := 0, cells := 0, slots := 0, locals := 0 } (some .int) := hok
  delta f_X11_dearest
  show T X A (Zm X A (ii1 (fun (I' : MI) => Rg G b Lm (Rm b) I' J))) 3 0 0 0 [(0, .ref (b + 0))] [] (Rg G b Lm (Rm b) I J) _
  refine T_aload_n hok 0 rfl rfl dX11_dearest_0 ?_
  refine T_iconst hok ic_0 dX11_dearest_1 ?_
  refine T_putI hok hA fr_X11_151 rfl rfl lm_0 dX11_dearest_2 ?_
  intro I1
  refine T_bipush hok bp_m2 dX11_dearest_5 ?_
  refine T_istore_n (lv' := [(1, .int (-2 : Int32)), (0, .ref (b + 0))]) hok rfl (by decide) rfl dX11_dearest_7 ?_
  refine T_iconst hok ic_0 dX11_dearest_8 ?_
  refine T_istore_n (lv' := [(2, .int (0 : Int32)), (1, .int (-2 : Int32)), (0, .ref (b + 0))]) hok rfl (by decide) rfl dX11_dearest_9 ?_
  refine T_sub (lv' := [(0, .ref (b + 0)), (1, .int (-2 : Int32)), (2, .int (0 : Int32))]) [2, 1, 0] rfl ?_
  refine T_fix2 _ (fun (x2 : Int32) (x3 : Int32) => [(0, .ref (b + 0)), (1, .int x2), (2, .int x3)]) (fun (x2 : Int32) (x3 : Int32) => Rg G b Lm (Rm b) I1 J) ?_ FU (-2 : Int32) (0 : Int32)
  intro r10 hr10 x2 x3
  refine T_iload_n hok 2 rfl rfl dX11_dearest_10 ?_
  refine T_aload_n hok 0 rfl rfl dX11_dearest_11 ?_
  refine T_getI hok fr_X11_231 lm_0 dX11_dearest_12 ?_
  refine T_icmp_ge (tgt := 59) hok dX11_dearest_15 rfl ?_ ?_
  · refine T_iload_n hok 1 rfl rfl dX11_dearest_59 ?_
    exact T_iret hok dX11_dearest_60 (Nat.zero_le _) (Nat.zero_le _) rfl
  refine T_iload_n hok 1 rfl rfl dX11_dearest_18 ?_
  refine T_jp _ (fun (j53 : Int32 → Option (Int32 × MI)) => ∀ (x4 : Int32), T X A (Zm X A (ii1 (fun (I' : MI) => Rg G b Lm (Rm b) I' J))) 3 0 0 53 [(0, .ref (b + 0)), (1, .int x4), (2, .int x3)] [] (Rg G b Lm (Rm b) I1 J) (j53 x4)) _ ?_ ?_
  · intro x4
    refine T_iinc (lvs := fun x5 => [(2, .int x5), (0, .ref (b + 0)), (1, .int x4)]) hok 2 rfl ic_1 (by decide) (fun _ => rfl) dX11_dearest_53 ?_
    intro x5
    refine T_goto (tgt := 10) hok dX11_dearest_56 rfl ?_
    refine T_sub (lv' := [(0, .ref (b + 0)), (1, .int x4), (2, .int x5)]) [1, 2, 0] rfl ?_
    exact hr10 x4 x5
  intro j53 hj53
  refine T_jp _ (fun (j51 : Option (Int32 × MI)) => T X A (Zm X A (ii1 (fun (I' : MI) => Rg G b Lm (Rm b) I' J))) 3 0 0 51 [(0, .ref (b + 0)), (2, .int x3)] [] (Rg G b Lm (Rm b) I1 J) (j51)) _ ?_ ?_
  · skip
    refine T_iload_n hok 1 rfl rfl dX11_dearest_51 ?_
    refine T_istore_n (lv' := [(1, .int x3), (0, .ref (b + 0)), (2, .int x3)]) hok rfl (by decide) rfl dX11_dearest_52 ?_
    refine T_sub (lv' := [(0, .ref (b + 0)), (1, .int x3), (2, .int x3)]) [1, 0, 2] rfl ?_
    exact hj53 x3
  intro j51 hj51
  refine T_if_lt (tgt := 51) hok dX11_dearest_19 rfl ?_ ?_
  · refine T_sub (lv' := [(0, .ref (b + 0)), (2, .int x3)]) [0, 2] rfl ?_
    exact hj51
  refine T_aload_n hok 0 rfl rfl dX11_dearest_22 ?_
  refine T_getR hok fr_X11_30 lm_0 rm_0_25 dX11_dearest_23 ?_
  refine T_iload_n hok 2 rfl rfl dX11_dearest_26 ?_
  refine T_iald hok lm_6 dX11_dearest_27 ?_
  refine T_aload_n hok 0 rfl rfl dX11_dearest_28 ?_
  refine T_getR hok fr_X11_33 lm_0 rm_0_26 dX11_dearest_29 ?_
  refine T_iload_n hok 2 rfl rfl dX11_dearest_32 ?_
  refine T_iald hok lm_7 dX11_dearest_33 ?_
  refine T_imul hok dX11_dearest_34 ?_
  refine T_aload_n hok 0 rfl rfl dX11_dearest_35 ?_
  refine T_getR hok fr_X11_30 lm_0 rm_0_25 dX11_dearest_36 ?_
  refine T_iload_n hok 1 rfl rfl dX11_dearest_39 ?_
  refine T_iald hok lm_6 dX11_dearest_40 ?_
  refine T_aload_n hok 0 rfl rfl dX11_dearest_41 ?_
  refine T_getR hok fr_X11_33 lm_0 rm_0_26 dX11_dearest_42 ?_
  refine T_iload_n hok 1 rfl rfl dX11_dearest_45 ?_
  refine T_iald hok lm_7 dX11_dearest_46 ?_
  refine T_imul hok dX11_dearest_47 ?_
  refine T_icmp_le (tgt := 53) hok dX11_dearest_48 rfl ?_ ?_
  · exact hj53 x2
  refine T_sub (lv' := [(0, .ref (b + 0)), (2, .int x3)]) [0, 2] rfl ?_
  exact hj51

set_option maxHeartbeats 4000000 in
set_option maxRecDepth 100000 in
theorem ct_X11_notes1 {G : Gx} {l0 : Launch} {A : Nat → Prop} {b : Nat} (hA : ∀ k, k < Lm.length → A (b + k)) (I : MI) (J : MJ) (a1 : Int32) (a2 : Int32) (a3 : Int32) (a4 : Int32) : Ct G l0 A yX11_notes1 cX11_notes1 6 (some .int) { frames := 0, cells := 0, slots := 0, locals := 0 } [.ref (b + 0), .int a1, .int a2, .int a3, .int a4] (Rg G b Lm (Rm b) I J) (ii1 (fun (I' : MI) => Rg G b Lm (Rm b) I' J)) (f_X11_notes1 I a1 a2 a3 a4) := by
  refine Ct.of rfl (Nat.le_of_ble_eq_true rfl) ?_
  intro X hok
  replace hok : Ok G l0 X RX11 cX11_notes1 6 { frames := 0, cells := 0, slots := 0, locals := 0 } (some .int) := hok
  delta f_X11_notes1
  show T X A (Zm X A (ii1 (fun (I' : MI) => Rg G b Lm (Rm b) I' J))) 6 0 0 0 [(0, .ref (b + 0)), (1, .int a1), (2, .int a2), (3, .int a3), (4, .int a4)] [] (Rg G b Lm (Rm b) I J) _
  refine T_aload_n hok 0 rfl rfl dX11_notes1_0 ?_
  refine T_getI hok fr_X11_362 lm_0 dX11_notes1_1 ?_
  refine T_bipush hok bp_24 dX11_notes1_4 ?_
  refine T_icmp_ne (tgt := 11) hok dX11_notes1_6 rfl ?_ ?_
  · refine T_iconst hok ic_m1 dX11_notes1_9 ?_
    exact T_iret hok dX11_notes1_10 (Nat.zero_le _) (Nat.zero_le _) rfl
  refine T_iconst hok ic_4 dX11_notes1_11 ?_
  refine T_aload_n hok 0 rfl rfl dX11_notes1_12 ?_
  refine T_getI hok fr_X11_362 lm_0 dX11_notes1_13 ?_
  refine T_imul hok dX11_notes1_16 ?_
  refine T_lti ?_
  intro x1
  refine T_istore (lv' := [(5, .int x1), (0, .ref (b + 0)), (1, .int a1), (2, .int a2), (3, .int a3), (4, .int a4)]) hok (by decide) rfl dX11_notes1_17 ?_
  refine T_aload_n hok 1 rfl rfl dX11_notes1_19 ?_
  refine T_getR hok fr_X11_130 lm_0 rm_0_72 dX11_notes1_20 ?_
  refine T_iload hok 0 rfl dX11_notes1_23 ?_
  refine T_iload_n hok 2 rfl rfl dX11_notes1_25 ?_
  refine T_iast hok hA lm_38 dX11_notes1_26 ?_
  intro I2
  refine T_aload_n hok 1 rfl rfl dX11_notes1_27 ?_
  refine T_getR hok fr_X11_130 lm_0 rm_0_72 dX11_notes1_28 ?_
  refine T_iload hok 0 rfl dX11_notes1_31 ?_
  refine T_iconst hok ic_1 dX11_notes1_33 ?_
  refine T_iadd hok dX11_notes1_34 ?_
  refine T_iload_n hok 3 rfl rfl dX11_notes1_35 ?_
  refine T_iast hok hA lm_38 dX11_notes1_36 ?_
  intro I3
  refine T_aload_n hok 1 rfl rfl dX11_notes1_37 ?_
  refine T_getR hok fr_X11_130 lm_0 rm_0_72 dX11_notes1_38 ?_
  refine T_iload hok 0 rfl dX11_notes1_41 ?_
  refine T_iconst hok ic_2 dX11_notes1_43 ?_
  refine T_iadd hok dX11_notes1_44 ?_
  refine T_iload_n hok 4 rfl rfl dX11_notes1_45 ?_
  refine T_iast hok hA lm_38 dX11_notes1_46 ?_
  intro I4
  refine T_aload_n hok 1 rfl rfl dX11_notes1_47 ?_
  refine T_getR hok fr_X11_130 lm_0 rm_0_72 dX11_notes1_48 ?_
  refine T_iload hok 0 rfl dX11_notes1_51 ?_
  refine T_iconst hok ic_3 dX11_notes1_53 ?_
  refine T_iadd hok dX11_notes1_54 ?_
  refine T_iload hok 5 rfl dX11_notes1_55 ?_
  refine T_iast hok hA lm_38 dX11_notes1_57 ?_
  intro I5
  refine T_aload_n hok 1 rfl rfl dX11_notes1_58 ?_
  refine T_dup hok rfl dX11_notes1_59 ?_
  refine T_getI hok fr_X11_362 lm_0 dX11_notes1_60 ?_
  refine T_iconst hok ic_1 dX11_notes1_63 ?_
  refine T_iadd hok dX11_notes1_64 ?_
  refine T_putI hok hA fr_X11_362 rfl rfl lm_0 dX11_notes1_65 ?_
  intro I6
  refine T_aload_n hok 1 rfl rfl dX11_notes1_68 ?_
  refine T_getI hok fr_X11_362 lm_0 dX11_notes1_69 ?_
  refine T_iconst hok ic_1 dX11_notes1_72 ?_
  refine T_isub hok dX11_notes1_73 ?_
  exact T_iret hok dX11_notes1_74 (Nat.zero_le _) (Nat.zero_le _) rfl

set_option maxHeartbeats 4000000 in
set_option maxRecDepth 100000 in
theorem ct_X11_note {G : Gx} {l0 : Launch} {A : Nat → Prop} {b : Nat} (hA : ∀ k, k < Lm.length → A (b + k)) (I : MI) (J : MJ) (a1 : Int32) (a2 : Int32) (a3 : Int32) (a4 : Int32) : Ct G l0 A yX11_note cX11_note 5 (some .int) { frames := 1, cells := 0, slots := 0, locals := 25 } [.ref (b + 0), .int a1, .int a2, .int a3, .int a4] (Rg G b Lm (Rm b) I J) (ii1 (fun (I' : MI) => Rg G b Lm (Rm b) I' J)) (f_X11_note I a1 a2 a3 a4) := by
  refine Ct.of rfl (Nat.le_of_ble_eq_true rfl) ?_
  intro X hok
  replace hok : Ok G l0 X RX11 cX11_note 5 { frames := 1, cells := 0, slots := 0, locals := 25 } (some .int) := hok
  delta f_X11_note
  show T X A (Zm X A (ii1 (fun (I' : MI) => Rg G b Lm (Rm b) I' J))) 5 0 0 0 [(0, .ref (b + 0)), (1, .int a1), (2, .int a2), (3, .int a3), (4, .int a4)] [] (Rg G b Lm (Rm b) I J) _
  refine T_aload_n hok 0 rfl rfl dX11_note_0 ?_
  refine T_iconst hok ic_0 dX11_note_1 ?_
  refine T_putI hok hA fr_X11_151 rfl rfl lm_0 dX11_note_2 ?_
  intro I1
  refine T_iload_n hok 1 rfl rfl dX11_note_5 ?_
  refine T_iconst hok ic_0 dX11_note_6 ?_
  refine T_bipush hok bp_99 dX11_note_7 ?_
  refine T_cz0 (CR_S (rest := []) hok (ct_X11_isIn a1 (0 : Int32) (99 : Int32)) mw_X11_isIn mst_X11_isIn ml_X11_196 dX11_note_9 rfl rfl (roomOk rfl) rfl) rfl rfl ?_
  intro x2
  refine T_jp _ (fun (j55 : Int32 → MI → Option (Int32 × MI)) => ∀ (x3 : Int32) (I4 : MI), T X A (Zm X A (ii1 (fun (I' : MI) => Rg G b Lm (Rm b) I' J))) 5 0 0 55 [] [.int x3] (Rg G b Lm (Rm b) I4 J) (j55 x3 I4)) _ ?_ ?_
  · intro x3 I4
    exact T_iret hok dX11_note_55 (Nat.zero_le _) (Nat.zero_le _) rfl
  intro j55 hj55
  refine T_jp _ (fun (j54 : Option (Int32 × MI)) => T X A (Zm X A (ii1 (fun (I' : MI) => Rg G b Lm (Rm b) I' J))) 5 0 0 54 [] [] (Rg G b Lm (Rm b) I1 J) (j54)) _ ?_ ?_
  · skip
    refine T_iconst hok ic_m1 dX11_note_54 ?_
    exact hj55 (-1 : Int32) I1
  intro j54 hj54
  refine T_ifb_eq (tgt := 54) hok dX11_note_12 rfl ?_ ?_
  · refine T_aload_n hok 0 rfl rfl dX11_note_15 ?_
    refine T_iload_n hok 2 rfl rfl dX11_note_16 ?_
    refine T_cz0 (CR_V (rest := []) hok (ct_X11_isHouse hA I1 J a2) mw_X11_isHouse mv_X11_isHouse ml_X11_443 lm_0 dX11_note_17 rfl rfl (roomOk rfl) rfl) rfl rfl ?_
    intro x5
    refine T_ifb_eq (tgt := 54) hok dX11_note_20 rfl ?_ ?_
    · refine T_iload_n hok 3 rfl rfl dX11_note_23 ?_
      refine T_iconst hok ic_0 dX11_note_24 ?_
      refine T_sipush hok sp_999 dX11_note_25 ?_
      refine T_cz0 (CR_S (rest := []) hok (ct_X11_isIn a3 (0 : Int32) (999 : Int32)) mw_X11_isIn mst_X11_isIn ml_X11_196 dX11_note_28 rfl rfl (roomOk rfl) rfl) rfl rfl ?_
      intro x6
      refine T_ifb_eq (tgt := 54) hok dX11_note_31 rfl ?_ ?_
      · refine T_aload_n hok 0 rfl rfl dX11_note_34 ?_
        refine T_iload_n hok 1 rfl rfl dX11_note_35 ?_
        refine T_iload_n hok 2 rfl rfl dX11_note_36 ?_
        refine T_iload_n hok 3 rfl rfl dX11_note_37 ?_
        refine T_iload hok 4 rfl dX11_note_38 ?_
        refine T_jp _ (fun (j48 : Bool → Int32 → Int32 → Int32 → Option (Int32 × MI)) => ∀ (x7 : Bool) (x8 : Int32) (x9 : Int32) (x10 : Int32), T X A (Zm X A (ii1 (fun (I' : MI) => Rg G b Lm (Rm b) I' J))) 5 0 0 48 [] [.int (bi x7), .int x8, .int x9, .int x10, .ref (b + 0)] (Rg G b Lm (Rm b) I1 J) (j48 x7 x8 x9 x10)) _ ?_ ?_
        · intro x7 x8 x9 x10
          refine T_ci1 (CR_V (rest := []) hok (ct_X11_notes1 hA I1 J x10 x9 x8 (bi x7)) mw_X11_notes1 mv_X11_notes1 ml_X11_526 lm_0 dX11_note_48 rfl rfl (roomOk rfl) rfl) rfl rfl ?_
          intro x11 I12
          refine T_goto (tgt := 55) hok dX11_note_51 rfl ?_
          exact hj55 x11 I12
        intro j48 hj48
        refine T_if_eq (tgt := 47) hok dX11_note_40 rfl ?_ ?_
        · refine T_iconst hok ic_0 dX11_note_47 ?_
          refine T_sub (lv' := []) [] rfl ?_
          exact hj48 false a3 a2 a1
        refine T_iconst hok ic_1 dX11_note_43 ?_
        refine T_goto (tgt := 48) hok dX11_note_44 rfl ?_
        refine T_sub (lv' := []) [] rfl ?_
        exact hj48 true a3 a2 a1
      refine T_sub (lv' := []) [] rfl ?_
      exact hj54
    refine T_sub (lv' := []) [] rfl ?_
    exact hj54
  refine T_sub (lv' := []) [] rfl ?_
  exact hj54

set_option maxHeartbeats 4000000 in
set_option maxRecDepth 100000 in
theorem ct_X11_strike {G : Gx} {l0 : Launch} {A : Nat → Prop} {b : Nat} (hA : ∀ k, k < Lm.length → A (b + k)) (I : MI) (J : MJ) (a1 : Int32) : Ct G l0 A yX11_strike cX11_strike 2 (some .int) { frames := 1, cells := 0, slots := 0, locals := 25 } [.ref (b + 0), .int a1] (Rg G b Lm (Rm b) I J) (ii1 (fun (I' : MI) => Rg G b Lm (Rm b) I' J)) (f_X11_strike I a1) := by
  refine Ct.of rfl (Nat.le_of_ble_eq_true rfl) ?_
  intro X hok
  replace hok : Ok G l0 X RX11 cX11_strike 2 { frames := 1, cells := 0, slots := 0, locals := 25 } (some .int) := hok
  delta f_X11_strike
  show T X A (Zm X A (ii1 (fun (I' : MI) => Rg G b Lm (Rm b) I' J))) 2 0 0 0 [(0, .ref (b + 0)), (1, .int a1)] [] (Rg G b Lm (Rm b) I J) _
  refine T_aload_n hok 0 rfl rfl dX11_strike_0 ?_
  refine T_iconst hok ic_0 dX11_strike_1 ?_
  refine T_putI hok hA fr_X11_151 rfl rfl lm_0 dX11_strike_2 ?_
  intro I1
  refine T_iload_n hok 1 rfl rfl dX11_strike_5 ?_
  refine T_jp _ (fun (j29 : Int32 → MI → Option (Int32 × MI)) => ∀ (x2 : Int32) (I3 : MI), T X A (Zm X A (ii1 (fun (I' : MI) => Rg G b Lm (Rm b) I' J))) 2 0 0 29 [] [.int x2] (Rg G b Lm (Rm b) I3 J) (j29 x2 I3)) _ ?_ ?_
  · intro x2 I3
    exact T_iret hok dX11_strike_29 (Nat.zero_le _) (Nat.zero_le _) rfl
  intro j29 hj29
  refine T_jp _ (fun (j17 : Option (Int32 × MI)) => T X A (Zm X A (ii1 (fun (I' : MI) => Rg G b Lm (Rm b) I' J))) 2 0 0 17 [] [] (Rg G b Lm (Rm b) I1 J) (j17)) _ ?_ ?_
  · skip
    refine T_iconst hok ic_m1 dX11_strike_17 ?_
    refine T_goto (tgt := 29) hok dX11_strike_18 rfl ?_
    exact hj29 (-1 : Int32) I1
  intro j17 hj17
  refine T_if_lt (tgt := 17) hok dX11_strike_6 rfl ?_ ?_
  · refine T_sub (lv' := []) [] rfl ?_
    exact hj17
  refine T_iload_n hok 1 rfl rfl dX11_strike_9 ?_
  refine T_aload_n hok 0 rfl rfl dX11_strike_10 ?_
  refine T_getI hok fr_X11_362 lm_0 dX11_strike_11 ?_
  refine T_icmp_lt (tgt := 21) hok dX11_strike_14 rfl ?_ ?_
  · refine T_aload_n hok 0 rfl rfl dX11_strike_21 ?_
    refine T_iconst hok ic_m1 dX11_strike_22 ?_
    refine T_iload_n hok 1 rfl rfl dX11_strike_23 ?_
    refine T_iconst hok ic_0 dX11_strike_24 ?_
    refine T_iconst hok ic_0 dX11_strike_25 ?_
    refine T_ci1 (CR_V (rest := []) hok (ct_X11_notes1 hA I1 J (-1 : Int32) a1 (0 : Int32) (0 : Int32)) mw_X11_notes1 mv_X11_notes1 ml_X11_526 lm_0 dX11_strike_26 rfl rfl (roomOk rfl) rfl) rfl rfl ?_
    intro x4 I5
    refine T_sub (lv' := []) [] rfl ?_
    exact hj29 x4 I5
  refine T_sub (lv' := []) [] rfl ?_
  exact hj17

set_option maxHeartbeats 4000000 in
set_option maxRecDepth 100000 in
theorem ct_X11_known {G : Gx} {l0 : Launch} {A : Nat → Prop} {b : Nat} (hA : ∀ k, k < Lm.length → A (b + k)) (I : MI) (J : MJ) (a1 : Int32) : Ct G l0 A yX11_known cX11_known 2 (some .boolean) { frames := 1, cells := 0, slots := 0, locals := 22 } [.ref (b + 0), .int a1] (Rg G b Lm (Rm b) I J) (iz1 (fun (I' : MI) => Rg G b Lm (Rm b) I' J)) (f_X11_known I a1) := by
  refine Ct.of rfl (Nat.le_of_ble_eq_true rfl) ?_
  intro X hok
  replace hok : Ok G l0 X RX11 cX11_known 2 { frames := 1, cells := 0, slots := 0, locals := 22 } (some .boolean) := hok
  delta f_X11_known
  show T X A (Zm X A (iz1 (fun (I' : MI) => Rg G b Lm (Rm b) I' J))) 2 0 0 0 [(0, .ref (b + 0)), (1, .int a1)] [] (Rg G b Lm (Rm b) I J) _
  refine T_aload_n hok 0 rfl rfl dX11_known_0 ?_
  refine T_iconst hok ic_0 dX11_known_1 ?_
  refine T_putI hok hA fr_X11_151 rfl rfl lm_0 dX11_known_2 ?_
  intro I1
  refine T_iload_n hok 1 rfl rfl dX11_known_5 ?_
  refine T_iconst hok ic_m1 dX11_known_6 ?_
  refine T_aload_n hok 0 rfl rfl dX11_known_7 ?_
  refine T_getI hok fr_X11_362 lm_0 dX11_known_8 ?_
  refine T_cz0 (CR_S (rest := []) hok (ct_X11_isIn a1 (-1 : Int32) (I1 0 70)) mw_X11_isIn mst_X11_isIn ml_X11_196 dX11_known_11 rfl rfl (roomOk rfl) rfl) rfl rfl ?_
  intro x2
  refine T_ifb_ne (tgt := 19) hok dX11_known_14 rfl ?_ ?_
  · refine T_aload_n hok 0 rfl rfl dX11_known_19 ?_
    refine T_iload_n hok 1 rfl rfl dX11_known_20 ?_
    refine T_putI hok hA fr_X11_127 rfl rfl lm_0 dX11_known_21 ?_
    intro I3
    refine T_iconst hok ic_1 dX11_known_24 ?_
    exact T_zret hok dX11_known_25 (Nat.zero_le _) (Nat.zero_le _) rfl rfl
  refine T_iconst hok ic_0 dX11_known_17 ?_
  exact T_zret hok dX11_known_18 (Nat.zero_le _) (Nat.zero_le _) rfl rfl

set_option maxHeartbeats 4000000 in
set_option maxRecDepth 100000 in
theorem ct_X11_knownBy {G : Gx} {l0 : Launch} {A : Nat → Prop} {b : Nat} (hA : ∀ k, k < Lm.length → A (b + k)) (I : MI) (J : MJ) : Ct G l0 A yX11_knownBy cX11_knownBy 1 (some .int) { frames := 0, cells := 0, slots := 0, locals := 0 } [.ref (b + 0)] (Rg G b Lm (Rm b) I J) (ii0 (Rg G b Lm (Rm b) I J)) (f_X11_knownBy I) := by
  refine Ct.of rfl (Nat.le_of_ble_eq_true rfl) ?_
  intro X hok
  replace hok : Ok G l0 X RX11 cX11_knownBy 1 { frames := 0, cells := 0, slots := 0, locals := 0 } (some .int) := hok
  delta f_X11_knownBy
  show T X A (Zm X A (ii0 (Rg G b Lm (Rm b) I J))) 1 0 0 0 [(0, .ref (b + 0))] [] (Rg G b Lm (Rm b) I J) _
  refine T_aload_n hok 0 rfl rfl dX11_knownBy_0 ?_
  refine T_getI hok fr_X11_127 lm_0 dX11_knownBy_1 ?_
  refine T_jp _ (fun (j18 : Int32 → Option (Int32)) => ∀ (x1 : Int32), T X A (Zm X A (ii0 (Rg G b Lm (Rm b) I J))) 1 0 0 18 [] [.int x1] (Rg G b Lm (Rm b) I J) (j18 x1)) _ ?_ ?_
  · intro x1
    exact T_iret hok dX11_knownBy_18 (Nat.zero_le _) (Nat.zero_le _) rfl
  intro j18 hj18
  refine T_if_ge (tgt := 14) hok dX11_knownBy_4 rfl ?_ ?_
  · refine T_aload_n hok 0 rfl rfl dX11_knownBy_14 ?_
    refine T_getI hok fr_X11_127 lm_0 dX11_knownBy_15 ?_
    refine T_sub (lv' := []) [] rfl ?_
    exact hj18 (I 0 71)
  refine T_aload_n hok 0 rfl rfl dX11_knownBy_7 ?_
  refine T_getI hok fr_X11_362 lm_0 dX11_knownBy_8 ?_
  refine T_goto (tgt := 18) hok dX11_knownBy_11 rfl ?_
  refine T_sub (lv' := []) [] rfl ?_
  exact hj18 (I 0 70)

set_option maxHeartbeats 4000000 in
set_option maxRecDepth 100000 in
theorem ct_X11_fitsOf {G : Gx} {l0 : Launch} {A : Nat → Prop} {b : Nat} (hA : ∀ k, k < Lm.length → A (b + k)) (I : MI) (J : MJ) (a1 : Int32) : Ct G l0 A yX11_fitsOf cX11_fitsOf 7 (some .int) { frames := 1, cells := 0, slots := 0, locals := 22 } [.ref (b + 0), .int a1] (Rg G b Lm (Rm b) I J) (ii1 (fun (I' : MI) => Rg G b Lm (Rm b) I' J)) (f_X11_fitsOf I a1) := by
  refine Ct.of rfl (Nat.le_of_ble_eq_true rfl) ?_
  intro X hok
  replace hok : Ok G l0 X RX11 cX11_fitsOf 7 { frames := 1, cells := 0, slots := 0, locals := 22 } (some .int) := hok
  delta f_X11_fitsOf
  show T X A (Zm X A (ii1 (fun (I' : MI) => Rg G b Lm (Rm b) I' J))) 7 0 0 0 [(0, .ref (b + 0)), (1, .int a1)] [] (Rg G b Lm (Rm b) I J) _
  refine T_iconst hok ic_0 dX11_fitsOf_0 ?_
  refine T_istore_n (lv' := [(2, .int (0 : Int32)), (0, .ref (b + 0)), (1, .int a1)]) hok rfl (by decide) rfl dX11_fitsOf_1 ?_
  refine T_jp _ (fun (j23 : MI → Option (Int32 × MI)) => ∀ (I1 : MI), T X A (Zm X A (ii1 (fun (I' : MI) => Rg G b Lm (Rm b) I' J))) 7 0 0 23 [(0, .ref (b + 0)), (1, .int a1)] [] (Rg G b Lm (Rm b) I1 J) (j23 I1)) _ ?_ ?_
  · intro I1
    refine T_aload_n hok 0 rfl rfl dX11_fitsOf_23 ?_
    refine T_ci0 (CR_V (rest := []) hok (ct_X11_knownBy hA I1 J) mw_X11_knownBy mv_X11_knownBy ml_X11_529 lm_0 dX11_fitsOf_24 rfl rfl (roomOk rfl) rfl) rfl rfl ?_
    intro x2
    refine T_iconst hok ic_1 dX11_fitsOf_27 ?_
    refine T_isub hok dX11_fitsOf_28 ?_
    refine T_lti ?_
    intro x3
    refine T_istore_n (lv' := [(2, .int x3), (0, .ref (b + 0)), (1, .int a1)]) hok rfl (by decide) rfl dX11_fitsOf_29 ?_
    refine T_jp _ (fun (j76 : MI → Option (Int32 × MI)) => ∀ (I4 : MI), T X A (Zm X A (ii1 (fun (I' : MI) => Rg G b Lm (Rm b) I' J))) 7 0 0 76 [(0, .ref (b + 0)), (1, .int a1)] [] (Rg G b Lm (Rm b) I4 J) (j76 I4)) _ ?_ ?_
    · intro I4
      refine T_iconst hok ic_0 dX11_fitsOf_76 ?_
      refine T_istore_n (lv' := [(2, .int (0 : Int32)), (0, .ref (b + 0)), (1, .int a1)]) hok rfl (by decide) rfl dX11_fitsOf_77 ?_
      refine T_iconst hok ic_0 dX11_fitsOf_78 ?_
      refine T_istore_n (lv' := [(3, .int (0 : Int32)), (2, .int (0 : Int32)), (0, .ref (b + 0)), (1, .int a1)]) hok rfl (by decide) rfl dX11_fitsOf_79 ?_
      refine T_sub (lv' := [(0, .ref (b + 0)), (1, .int a1), (2, .int (0 : Int32)), (3, .int (0 : Int32))]) [2, 3, 1, 0] rfl ?_
      refine T_fix2 _ (fun (x5 : Int32) (x6 : Int32) => [(0, .ref (b + 0)), (1, .int a1), (2, .int x5), (3, .int x6)]) (fun (x5 : Int32) (x6 : Int32) => Rg G b Lm (Rm b) I4 J) ?_ FU (0 : Int32) (0 : Int32)
      intro r80 hr80 x5 x6
      refine T_iload_n hok 3 rfl rfl dX11_fitsOf_80 ?_
      refine T_aload_n hok 0 rfl rfl dX11_fitsOf_81 ?_
      refine T_getI hok fr_X11_231 lm_0 dX11_fitsOf_82 ?_
      refine T_icmp_ge (tgt := 224) hok dX11_fitsOf_85 rfl ?_ ?_
      · refine T_iload_n hok 2 rfl rfl dX11_fitsOf_224 ?_
        exact T_iret hok dX11_fitsOf_225 (Nat.zero_le _) (Nat.zero_le _) rfl
      refine T_iconst hok ic_1 dX11_fitsOf_88 ?_
      refine T_istore (lv' := [(4, .int (1 : Int32)), (0, .ref (b + 0)), (1, .int a1), (2, .int x5), (3, .int x6)]) hok (by decide) rfl dX11_fitsOf_89 ?_
      refine T_iconst hok ic_0 dX11_fitsOf_91 ?_
      refine T_istore (lv' := [(5, .int (0 : Int32)), (4, .int (1 : Int32)), (0, .ref (b + 0)), (1, .int a1), (2, .int x5), (3, .int x6)]) hok (by decide) rfl dX11_fitsOf_92 ?_
      refine T_jp _ (fun (j203 : Int32 → Option (Int32 × MI)) => ∀ (x7 : Int32), T X A (Zm X A (ii1 (fun (I' : MI) => Rg G b Lm (Rm b) I' J))) 7 0 0 203 [(0, .ref (b + 0)), (1, .int a1), (2, .int x5), (3, .int x6), (4, .int x7)] [] (Rg G b Lm (Rm b) I4 J) (j203 x7)) _ ?_ ?_
      · intro x7
        refine T_iload_n hok 2 rfl rfl dX11_fitsOf_203 ?_
        refine T_iload hok 4 rfl dX11_fitsOf_204 ?_
        refine T_jp _ (fun (j216 : Int32 → Int32 → Option (Int32 × MI)) => ∀ (x8 : Int32) (x9 : Int32), T X A (Zm X A (ii1 (fun (I' : MI) => Rg G b Lm (Rm b) I' J))) 7 0 0 216 [(0, .ref (b + 0)), (1, .int a1), (3, .int x6)] [.int x8, .int x9] (Rg G b Lm (Rm b) I4 J) (j216 x8 x9)) _ ?_ ?_
        · intro x8 x9
          refine T_ior hok dX11_fitsOf_216 ?_
          refine T_lti ?_
          intro x10
          refine T_istore_n (lv' := [(2, .int x10), (0, .ref (b + 0)), (1, .int a1), (3, .int x6)]) hok rfl (by decide) rfl dX11_fitsOf_217 ?_
          refine T_iinc (lvs := fun x11 => [(3, .int x11), (2, .int x10), (0, .ref (b + 0)), (1, .int a1)]) hok 3 rfl ic_1 (by decide) (fun _ => rfl) dX11_fitsOf_218 ?_
          intro x11
          refine T_goto (tgt := 80) hok dX11_fitsOf_221 rfl ?_
          refine T_sub (lv' := [(0, .ref (b + 0)), (1, .int a1), (2, .int x10), (3, .int x11)]) [2, 3, 1, 0] rfl ?_
          exact hr80 x10 x11
        intro j216 hj216
        refine T_if_eq (tgt := 215) hok dX11_fitsOf_206 rfl ?_ ?_
        · refine T_iconst hok ic_0 dX11_fitsOf_215 ?_
          refine T_sub (lv' := [(0, .ref (b + 0)), (1, .int a1), (3, .int x6)]) [0, 1, 3] rfl ?_
          exact hj216 (0 : Int32) x5
        refine T_iconst hok ic_1 dX11_fitsOf_209 ?_
        refine T_iload_n hok 3 rfl rfl dX11_fitsOf_210 ?_
        refine T_ishl hok dX11_fitsOf_211 ?_
        refine T_goto (tgt := 216) hok dX11_fitsOf_212 rfl ?_
        refine T_sub (lv' := [(0, .ref (b + 0)), (1, .int a1), (3, .int x6)]) [0, 1, 3] rfl ?_
        exact hj216 ((1 : Int32) <<< (x6 &&& (31 : Int32))) x5
      intro j203 hj203
      refine T_sub (lv' := [(0, .ref (b + 0)), (1, .int a1), (2, .int x5), (3, .int x6), (4, .int (1 : Int32)), (5, .int (0 : Int32))]) [2, 3, 4, 5, 1, 0] rfl ?_
      refine T_fix2 _ (fun (x12 : Int32) (x13 : Int32) => [(0, .ref (b + 0)), (1, .int a1), (2, .int x5), (3, .int x6), (4, .int x12), (5, .int x13)]) (fun (x12 : Int32) (x13 : Int32) => Rg G b Lm (Rm b) I4 J) ?_ FU (1 : Int32) (0 : Int32)
      intro r94 hr94 x12 x13
      refine T_iload hok 5 rfl dX11_fitsOf_94 ?_
      refine T_aload_n hok 0 rfl rfl dX11_fitsOf_96 ?_
      refine T_ci0 (CR_V (rest := [.int x13]) hok (ct_X11_knownBy hA I4 J) mw_X11_knownBy mv_X11_knownBy ml_X11_529 lm_0 dX11_fitsOf_97 rfl rfl (roomOk rfl) rfl) rfl rfl ?_
      intro x14
      refine T_icmp_ge (tgt := 203) hok dX11_fitsOf_100 rfl ?_ ?_
      · refine T_sub (lv' := [(0, .ref (b + 0)), (1, .int a1), (2, .int x5), (3, .int x6), (4, .int x12)]) [0, 1, 2, 3, 4] rfl ?_
        exact hj203 x12
      refine T_iconst hok ic_4 dX11_fitsOf_103 ?_
      refine T_iload hok 5 rfl dX11_fitsOf_104 ?_
      refine T_imul hok dX11_fitsOf_106 ?_
      refine T_lti ?_
      intro x15
      refine T_istore (lv' := [(6, .int x15), (0, .ref (b + 0)), (1, .int a1), (2, .int x5), (3, .int x6), (4, .int x12), (5, .int x13)]) hok (by decide) rfl dX11_fitsOf_107 ?_
      refine T_aload_n hok 1 rfl rfl dX11_fitsOf_109 ?_
      refine T_getR hok fr_X11_133 lm_0 rm_0_73 dX11_fitsOf_110 ?_
      refine T_iload hok 6 rfl dX11_fitsOf_113 ?_
      refine T_zald hok lm_39 dX11_fitsOf_115 ?_
      refine T_jp _ (fun (j197 : Int32 → Option (Int32 × MI)) => ∀ (x16 : Int32), T X A (Zm X A (ii1 (fun (I' : MI) => Rg G b Lm (Rm b) I' J))) 7 0 0 197 [(0, .ref (b + 0)), (1, .int a1), (2, .int x5), (3, .int x6), (4, .int x16), (5, .int x13)] [] (Rg G b Lm (Rm b) I4 J) (j197 x16)) _ ?_ ?_
      · intro x16
        refine T_iinc (lvs := fun x17 => [(5, .int x17), (0, .ref (b + 0)), (1, .int a1), (2, .int x5), (3, .int x6), (4, .int x16)]) hok 5 rfl ic_1 (by decide) (fun _ => rfl) dX11_fitsOf_197 ?_
        intro x17
        refine T_goto (tgt := 94) hok dX11_fitsOf_200 rfl ?_
        refine T_sub (lv' := [(0, .ref (b + 0)), (1, .int a1), (2, .int x5), (3, .int x6), (4, .int x16), (5, .int x17)]) [1, 2, 3, 4, 5, 0] rfl ?_
        exact hr94 x16 x17
      intro j197 hj197
      refine T_if_eq (tgt := 197) hok dX11_fitsOf_116 rfl ?_ ?_
      · refine T_sub (lv' := [(0, .ref (b + 0)), (1, .int a1), (2, .int x5), (3, .int x6), (4, .int x12), (5, .int x13)]) [1, 2, 3, 4, 5, 6] rfl ?_
        exact hj197 x12
      refine T_aload_n hok 1 rfl rfl dX11_fitsOf_119 ?_
      refine T_getR hok fr_X11_130 lm_0 rm_0_72 dX11_fitsOf_120 ?_
      refine T_iload hok 0 rfl dX11_fitsOf_123 ?_
      refine T_iald hok lm_38 dX11_fitsOf_125 ?_
      refine T_iload_n hok 2 rfl rfl dX11_fitsOf_126 ?_
      refine T_icmp_eq (tgt := 133) hok dX11_fitsOf_127 rfl ?_ ?_
      · refine T_iload hok 5 rfl dX11_fitsOf_133 ?_
        refine T_jp _ (fun (j195 : Bool → Option (Int32 × MI)) => ∀ (x18 : Bool), T X A (Zm X A (ii1 (fun (I' : MI) => Rg G b Lm (Rm b) I' J))) 7 0 0 195 [(0, .ref (b + 0)), (1, .int a1), (2, .int x5), (3, .int x6), (5, .int x13)] [.int (bi x18)] (Rg G b Lm (Rm b) I4 J) (j195 x18)) _ ?_ ?_
        · intro x18
          refine T_lti ?_
          intro x19
          refine T_istore (lv' := [(4, .int x19), (0, .ref (b + 0)), (1, .int a1), (2, .int x5), (3, .int x6), (5, .int x13)]) hok (by decide) rfl dX11_fitsOf_195 ?_
          refine T_sub (lv' := [(0, .ref (b + 0)), (1, .int a1), (2, .int x5), (3, .int x6), (4, .int x19), (5, .int x13)]) [1, 2, 3, 4, 0, 5] rfl ?_
          exact hj197 x19
        intro j195 hj195
        refine T_jp _ (fun (j194 : Option (Int32 × MI)) => T X A (Zm X A (ii1 (fun (I' : MI) => Rg G b Lm (Rm b) I' J))) 7 0 0 194 [(0, .ref (b + 0)), (1, .int a1), (2, .int x5), (3, .int x6), (5, .int x13)] [] (Rg G b Lm (Rm b) I4 J) (j194)) _ ?_ ?_
        · skip
          refine T_iconst hok ic_0 dX11_fitsOf_194 ?_
          exact hj195 false
        intro j194 hj194
        refine T_if_eq (tgt := 194) hok dX11_fitsOf_135 rfl ?_ ?_
        · refine T_sub (lv' := [(0, .ref (b + 0)), (1, .int a1), (2, .int x5), (3, .int x6), (5, .int x13)]) [1, 2, 3, 4, 6] rfl ?_
          exact hj194
        refine T_aload_n hok 1 rfl rfl dX11_fitsOf_138 ?_
        refine T_aload_n hok 1 rfl rfl dX11_fitsOf_139 ?_
        refine T_getR hok fr_X11_130 lm_0 rm_0_72 dX11_fitsOf_140 ?_
        refine T_iload hok 0 rfl dX11_fitsOf_143 ?_
        refine T_iconst hok ic_1 dX11_fitsOf_145 ?_
        refine T_iadd hok dX11_fitsOf_146 ?_
        refine T_iald hok lm_38 dX11_fitsOf_147 ?_
        refine T_iload_n hok 4 rfl rfl dX11_fitsOf_148 ?_
        refine T_ci0 (CR_V (rest := []) hok (ct_X11_paysOf hA I4 J (I4 38 (ix (x15 + (1 : Int32)))) x6) mw_X11_paysOf mv_X11_paysOf ml_X11_500 lm_0 dX11_fitsOf_149 rfl rfl (roomOk rfl) rfl) rfl rfl ?_
        intro x20
        refine T_aload_n hok 1 rfl rfl dX11_fitsOf_152 ?_
        refine T_getR hok fr_X11_130 lm_0 rm_0_72 dX11_fitsOf_153 ?_
        refine T_iload hok 0 rfl dX11_fitsOf_156 ?_
        refine T_iconst hok ic_2 dX11_fitsOf_158 ?_
        refine T_iadd hok dX11_fitsOf_159 ?_
        refine T_iald hok lm_38 dX11_fitsOf_160 ?_
        refine T_jp _ (fun (j169 : Bool → Option (Int32 × MI)) => ∀ (x21 : Bool), T X A (Zm X A (ii1 (fun (I' : MI) => Rg G b Lm (Rm b) I' J))) 7 0 0 169 [(0, .ref (b + 0)), (1, .int a1), (2, .int x5), (3, .int x6), (5, .int x13), (6, .int x15)] [.int (bi x21)] (Rg G b Lm (Rm b) I4 J) (j169 x21)) _ ?_ ?_
        · intro x21
          refine T_aload_n hok 0 rfl rfl dX11_fitsOf_169 ?_
          refine T_getR hok fr_X11_130 lm_0 rm_0_72 dX11_fitsOf_170 ?_
          refine T_iload hok 5 rfl dX11_fitsOf_173 ?_
          refine T_iconst hok ic_3 dX11_fitsOf_175 ?_
          refine T_iadd hok dX11_fitsOf_176 ?_
          refine T_iald hok lm_38 dX11_fitsOf_177 ?_
          refine T_iconst hok ic_1 dX11_fitsOf_178 ?_
          refine T_jp _ (fun (j187 : Bool → Bool → Option (Int32 × MI)) => ∀ (x22 : Bool) (x23 : Bool), T X A (Zm X A (ii1 (fun (I' : MI) => Rg G b Lm (Rm b) I' J))) 7 0 0 187 [(0, .ref (b + 0)), (1, .int a1), (2, .int x5), (3, .int x6), (5, .int x13)] [.int (bi x22), .int (bi x23)] (Rg G b Lm (Rm b) I4 J) (j187 x22 x23)) _ ?_ ?_
          · intro x22 x23
            refine T_icmp_ne (tgt := 194) hok dX11_fitsOf_187 rfl ?_ ?_
            · refine T_iconst hok ic_1 dX11_fitsOf_190 ?_
              refine T_goto (tgt := 195) hok dX11_fitsOf_191 rfl ?_
              exact hj195 true
            exact hj194
          intro j187 hj187
          refine T_icmp_ne (tgt := 186) hok dX11_fitsOf_179 rfl ?_ ?_
          · refine T_iconst hok ic_1 dX11_fitsOf_182 ?_
            refine T_goto (tgt := 187) hok dX11_fitsOf_183 rfl ?_
            refine T_sub (lv' := [(0, .ref (b + 0)), (1, .int a1), (2, .int x5), (3, .int x6), (5, .int x13)]) [0, 1, 2, 3, 4] rfl ?_
            exact hj187 true x21
          refine T_iconst hok ic_0 dX11_fitsOf_186 ?_
          refine T_sub (lv' := [(0, .ref (b + 0)), (1, .int a1), (2, .int x5), (3, .int x6), (5, .int x13)]) [0, 1, 2, 3, 4] rfl ?_
          exact hj187 false x21
        intro j169 hj169
        refine T_icmp_gt (tgt := 168) hok dX11_fitsOf_161 rfl ?_ ?_
        · refine T_iconst hok ic_0 dX11_fitsOf_168 ?_
          refine T_sub (lv' := [(0, .ref (b + 0)), (1, .int a1), (2, .int x5), (3, .int x6), (5, .int x13), (6, .int x15)]) [1, 2, 3, 4, 6, 0] rfl ?_
          exact hj169 false
        refine T_iconst hok ic_1 dX11_fitsOf_164 ?_
        refine T_goto (tgt := 169) hok dX11_fitsOf_165 rfl ?_
        refine T_sub (lv' := [(0, .ref (b + 0)), (1, .int a1), (2, .int x5), (3, .int x6), (5, .int x13), (6, .int x15)]) [1, 2, 3, 4, 6, 0] rfl ?_
        exact hj169 true
      refine T_goto (tgt := 197) hok dX11_fitsOf_130 rfl ?_
      refine T_sub (lv' := [(0, .ref (b + 0)), (1, .int a1), (2, .int x5), (3, .int x6), (4, .int x12), (5, .int x13)]) [1, 2, 3, 4, 5, 6] rfl ?_
      exact hj197 x12
    intro j76 hj76
    refine T_sub (lv' := [(0, .ref (b + 0)), (1, .int a1), (2, .int x3)]) [1, 2, 0] rfl ?_
    refine T_fix2 _ (fun (x24 : Int32) (I25 : MI) => [(0, .ref (b + 0)), (1, .int a1), (2, .int x24)]) (fun (x24 : Int32) (I25 : MI) => Rg G b Lm (Rm b) I25 J) ?_ FU x3 I1
    intro r30 hr30 x24 I25
    refine T_iload_n hok 2 rfl rfl dX11_fitsOf_30 ?_
    refine T_if_lt (tgt := 76) hok dX11_fitsOf_31 rfl ?_ ?_
    · refine T_sub (lv' := [(0, .ref (b + 0)), (1, .int a1)]) [0, 1] rfl ?_
      exact hj76 I25
    refine T_aload_n hok 0 rfl rfl dX11_fitsOf_34 ?_
    refine T_getR hok fr_X11_133 lm_0 rm_0_73 dX11_fitsOf_35 ?_
    refine T_iload_n hok 2 rfl rfl dX11_fitsOf_38 ?_
    refine T_zald hok lm_39 dX11_fitsOf_39 ?_
    refine T_jp _ (fun (j70 : MI → Option (Int32 × MI)) => ∀ (I26 : MI), T X A (Zm X A (ii1 (fun (I' : MI) => Rg G b Lm (Rm b) I' J))) 7 0 0 70 [(0, .ref (b + 0)), (1, .int a1), (2, .int x24)] [] (Rg G b Lm (Rm b) I26 J) (j70 I26)) _ ?_ ?_
    · intro I26
      refine T_iinc (lvs := fun x27 => [(2, .int x27), (0, .ref (b + 0)), (1, .int a1)]) hok 2 rfl ic_m1 (by decide) (fun _ => rfl) dX11_fitsOf_70 ?_
      intro x27
      refine T_goto (tgt := 30) hok dX11_fitsOf_73 rfl ?_
      refine T_sub (lv' := [(0, .ref (b + 0)), (1, .int a1), (2, .int x27)]) [1, 2, 0] rfl ?_
      exact hr30 x27 I26
    intro j70 hj70
    refine T_if_eq (tgt := 70) hok dX11_fitsOf_40 rfl ?_ ?_
    · exact hj70 I25
    refine T_aload_n hok 0 rfl rfl dX11_fitsOf_43 ?_
    refine T_getR hok fr_X11_130 lm_0 rm_0_72 dX11_fitsOf_44 ?_
    refine T_iconst hok ic_4 dX11_fitsOf_47 ?_
    refine T_iload_n hok 2 rfl rfl dX11_fitsOf_48 ?_
    refine T_imul hok dX11_fitsOf_49 ?_
    refine T_iald hok lm_38 dX11_fitsOf_50 ?_
    refine T_if_ge (tgt := 70) hok dX11_fitsOf_51 rfl ?_ ?_
    · exact hj70 I25
    refine T_aload_n hok 0 rfl rfl dX11_fitsOf_54 ?_
    refine T_getR hok fr_X11_133 lm_0 rm_0_73 dX11_fitsOf_55 ?_
    refine T_aload_n hok 0 rfl rfl dX11_fitsOf_58 ?_
    refine T_getR hok fr_X11_130 lm_0 rm_0_72 dX11_fitsOf_59 ?_
    refine T_iconst hok ic_4 dX11_fitsOf_62 ?_
    refine T_iload_n hok 2 rfl rfl dX11_fitsOf_63 ?_
    refine T_imul hok dX11_fitsOf_64 ?_
    refine T_iconst hok ic_1 dX11_fitsOf_65 ?_
    refine T_iadd hok dX11_fitsOf_66 ?_
    refine T_iald hok lm_38 dX11_fitsOf_67 ?_
    refine T_iconst hok ic_0 dX11_fitsOf_68 ?_
    refine T_zast hok hA lm_39 dX11_fitsOf_69 ?_
    intro I28
    exact hj70 I28
  intro j23 hj23
  refine T_sub (lv' := [(0, .ref (b + 0)), (1, .int a1), (2, .int (0 : Int32))]) [1, 2, 0] rfl ?_
  refine T_fix2 _ (fun (x29 : Int32) (I30 : MI) => [(0, .ref (b + 0)), (1, .int a1), (2, .int x29)]) (fun (x29 : Int32) (I30 : MI) => Rg G b Lm (Rm b) I30 J) ?_ FU (0 : Int32) I
  intro r2 hr2 x29 I30
  refine T_iload_n hok 2 rfl rfl dX11_fitsOf_2 ?_
  refine T_aload_n hok 0 rfl rfl dX11_fitsOf_3 ?_
  refine T_ci0 (CR_V (rest := [.int x29]) hok (ct_X11_knownBy hA I30 J) mw_X11_knownBy mv_X11_knownBy ml_X11_529 lm_0 dX11_fitsOf_4 rfl rfl (roomOk rfl) rfl) rfl rfl ?_
  intro x31
  refine T_icmp_ge (tgt := 23) hok dX11_fitsOf_7 rfl ?_ ?_
  · refine T_sub (lv' := [(0, .ref (b + 0)), (1, .int a1)]) [0, 1] rfl ?_
    exact hj23 I30
  refine T_aload_n hok 0 rfl rfl dX11_fitsOf_10 ?_
  refine T_getR hok fr_X11_133 lm_0 rm_0_73 dX11_fitsOf_11 ?_
  refine T_iload_n hok 2 rfl rfl dX11_fitsOf_14 ?_
  refine T_iconst hok ic_1 dX11_fitsOf_15 ?_
  refine T_zast hok hA lm_39 dX11_fitsOf_16 ?_
  intro I32
  refine T_iinc (lvs := fun x33 => [(2, .int x33), (0, .ref (b + 0)), (1, .int a1)]) hok 2 rfl ic_1 (by decide) (fun _ => rfl) dX11_fitsOf_17 ?_
  intro x33
  refine T_goto (tgt := 2) hok dX11_fitsOf_20 rfl ?_
  refine T_sub (lv' := [(0, .ref (b + 0)), (1, .int a1), (2, .int x33)]) [1, 2, 0] rfl ?_
  exact hr2 x33 I32

set_option maxHeartbeats 4000000 in
set_option maxRecDepth 100000 in
theorem ct_X11_fits {G : Gx} {l0 : Launch} {A : Nat → Prop} {b : Nat} (hA : ∀ k, k < Lm.length → A (b + k)) (I : MI) (J : MJ) (a1 : Int32) : Ct G l0 A yX11_fits cX11_fits 2 (some .int) { frames := 2, cells := 0, slots := 0, locals := 48 } [.ref (b + 0), .int a1] (Rg G b Lm (Rm b) I J) (ii1 (fun (I' : MI) => Rg G b Lm (Rm b) I' J)) (f_X11_fits I a1) := by
  refine Ct.of rfl (Nat.le_of_ble_eq_true rfl) ?_
  intro X hok
  replace hok : Ok G l0 X RX11 cX11_fits 2 { frames := 2, cells := 0, slots := 0, locals := 48 } (some .int) := hok
  delta f_X11_fits
  show T X A (Zm X A (ii1 (fun (I' : MI) => Rg G b Lm (Rm b) I' J))) 2 0 0 0 [(0, .ref (b + 0)), (1, .int a1)] [] (Rg G b Lm (Rm b) I J) _
  refine T_aload_n hok 0 rfl rfl dX11_fits_0 ?_
  refine T_iconst hok ic_0 dX11_fits_1 ?_
  refine T_putI hok hA fr_X11_151 rfl rfl lm_0 dX11_fits_2 ?_
  intro I1
  refine T_iload_n hok 1 rfl rfl dX11_fits_5 ?_
  refine T_iconst hok ic_0 dX11_fits_6 ?_
  refine T_bipush hok bp_99 dX11_fits_7 ?_
  refine T_cz0 (CR_S (rest := []) hok (ct_X11_isIn a1 (0 : Int32) (99 : Int32)) mw_X11_isIn mst_X11_isIn ml_X11_196 dX11_fits_9 rfl rfl (roomOk rfl) rfl) rfl rfl ?_
  intro x2
  refine T_jp _ (fun (j24 : Int32 → MI → Option (Int32 × MI)) => ∀ (x3 : Int32) (I4 : MI), T X A (Zm X A (ii1 (fun (I' : MI) => Rg G b Lm (Rm b) I' J))) 2 0 0 24 [] [.int x3] (Rg G b Lm (Rm b) I4 J) (j24 x3 I4)) _ ?_ ?_
  · intro x3 I4
    exact T_iret hok dX11_fits_24 (Nat.zero_le _) (Nat.zero_le _) rfl
  intro j24 hj24
  refine T_ifb_eq (tgt := 23) hok dX11_fits_12 rfl ?_ ?_
  · refine T_aload_n hok 0 rfl rfl dX11_fits_15 ?_
    refine T_iload_n hok 1 rfl rfl dX11_fits_16 ?_
    refine T_ci1 (CR_V (rest := []) hok (ct_X11_fitsOf hA I1 J a1) mw_X11_fitsOf mv_X11_fitsOf ml_X11_532 lm_0 dX11_fits_17 rfl rfl (roomOk rfl) rfl) rfl rfl ?_
    intro x5 I6
    refine T_goto (tgt := 24) hok dX11_fits_20 rfl ?_
    refine T_sub (lv' := []) [] rfl ?_
    exact hj24 x5 I6
  refine T_iconst hok ic_m1 dX11_fits_23 ?_
  refine T_sub (lv' := []) [] rfl ?_
  exact hj24 (-1 : Int32) I1

set_option maxHeartbeats 4000000 in
set_option maxRecDepth 100000 in
theorem ct_X11_worstBy {G : Gx} {l0 : Launch} {A : Nat → Prop} {b : Nat} (hA : ∀ k, k < Lm.length → A (b + k)) (I : MI) (J : MJ) (a1 : Int32) (a2 : Int32) : Ct G l0 A yX11_worstBy cX11_worstBy 7 (some .int) { frames := 1, cells := 0, slots := 0, locals := 22 } [.ref (b + 0), .int a1, .int a2] (Rg G b Lm (Rm b) I J) (ii0 (Rg G b Lm (Rm b) I J)) (f_X11_worstBy I a1 a2) := by
  refine Ct.of rfl (Nat.le_of_ble_eq_true rfl) ?_
  intro X hok
  replace hok : Ok G l0 X RX11 cX11_worstBy 7 { frames := 1, cells := 0, slots := 0, locals := 22 } (some .int) := hok
  delta f_X11_worstBy
  show T X A (Zm X A (ii0 (Rg G b Lm (Rm b) I J))) 7 0 0 0 [(0, .ref (b + 0)), (1, .int a1), (2, .int a2)] [] (Rg G b Lm (Rm b) I J) _
  refine T_iconst hok ic_0 dX11_worstBy_0 ?_
  refine T_istore_n (lv' := [(3, .int (0 : Int32)), (0, .ref (b + 0)), (1, .int a1), (2, .int a2)]) hok rfl (by decide) rfl dX11_worstBy_1 ?_
  refine T_iconst hok ic_0 dX11_worstBy_2 ?_
  refine T_istore (lv' := [(4, .int (0 : Int32)), (3, .int (0 : Int32)), (0, .ref (b + 0)), (1, .int a1), (2, .int a2)]) hok (by decide) rfl dX11_worstBy_3 ?_
  refine T_sub (lv' := [(0, .ref (b + 0)), (1, .int a1), (2, .int a2), (3, .int (0 : Int32)), (4, .int (0 : Int32))]) [2, 3, 4, 1, 0] rfl ?_
  refine T_fix2 _ (fun (x1 : Int32) (x2 : Int32) => [(0, .ref (b + 0)), (1, .int a1), (2, .int a2), (3, .int x1), (4, .int x2)]) (fun (x1 : Int32) (x2 : Int32) => Rg G b Lm (Rm b) I J) ?_ FU (0 : Int32) (0 : Int32)
  intro r5 hr5 x1 x2
  refine T_iload hok 4 rfl dX11_worstBy_5 ?_
  refine T_aload_n hok 0 rfl rfl dX11_worstBy_7 ?_
  refine T_getI hok fr_X11_231 lm_0 dX11_worstBy_8 ?_
  refine T_icmp_ge (tgt := 99) hok dX11_worstBy_11 rfl ?_ ?_
  · refine T_iload_n hok 3 rfl rfl dX11_worstBy_99 ?_
    exact T_iret hok dX11_worstBy_100 (Nat.zero_le _) (Nat.zero_le _) rfl
  refine T_iconst hok ic_0 dX11_worstBy_14 ?_
  refine T_istore (lv' := [(5, .int (0 : Int32)), (0, .ref (b + 0)), (1, .int a1), (2, .int a2), (3, .int x1), (4, .int x2)]) hok (by decide) rfl dX11_worstBy_15 ?_
  refine T_iconst hok ic_0 dX11_worstBy_17 ?_
  refine T_istore (lv' := [(6, .int (0 : Int32)), (5, .int (0 : Int32)), (0, .ref (b + 0)), (1, .int a1), (2, .int a2), (3, .int x1), (4, .int x2)]) hok (by decide) rfl dX11_worstBy_18 ?_
  refine T_jp _ (fun (j80 : Int32 → Option (Int32)) => ∀ (x3 : Int32), T X A (Zm X A (ii0 (Rg G b Lm (Rm b) I J))) 7 0 0 80 [(0, .ref (b + 0)), (1, .int a1), (2, .int a2), (3, .int x1), (4, .int x2), (5, .int x3)] [] (Rg G b Lm (Rm b) I J) (j80 x3)) _ ?_ ?_
  · intro x3
    refine T_iload hok 5 rfl dX11_worstBy_80 ?_
    refine T_iload_n hok 3 rfl rfl dX11_worstBy_82 ?_
    refine T_jp _ (fun (j92 : Int32 → Option (Int32)) => ∀ (x4 : Int32), T X A (Zm X A (ii0 (Rg G b Lm (Rm b) I J))) 7 0 0 92 [(0, .ref (b + 0)), (1, .int a1), (2, .int a2), (4, .int x2)] [.int x4] (Rg G b Lm (Rm b) I J) (j92 x4)) _ ?_ ?_
    · intro x4
      refine T_istore_n (lv' := [(3, .int x4), (0, .ref (b + 0)), (1, .int a1), (2, .int a2), (4, .int x2)]) hok rfl (by decide) rfl dX11_worstBy_92 ?_
      refine T_iinc (lvs := fun x5 => [(4, .int x5), (3, .int x4), (0, .ref (b + 0)), (1, .int a1), (2, .int a2)]) hok 4 rfl ic_1 (by decide) (fun _ => rfl) dX11_worstBy_93 ?_
      intro x5
      refine T_goto (tgt := 5) hok dX11_worstBy_96 rfl ?_
      refine T_sub (lv' := [(0, .ref (b + 0)), (1, .int a1), (2, .int a2), (3, .int x4), (4, .int x5)]) [2, 3, 4, 1, 0] rfl ?_
      exact hr5 x4 x5
    intro j92 hj92
    refine T_icmp_le (tgt := 91) hok dX11_worstBy_83 rfl ?_ ?_
    · refine T_iload_n hok 3 rfl rfl dX11_worstBy_91 ?_
      refine T_sub (lv' := [(0, .ref (b + 0)), (1, .int a1), (2, .int a2), (4, .int x2)]) [0, 1, 2, 4] rfl ?_
      exact hj92 x1
    refine T_iload hok 5 rfl dX11_worstBy_86 ?_
    refine T_goto (tgt := 92) hok dX11_worstBy_88 rfl ?_
    refine T_sub (lv' := [(0, .ref (b + 0)), (1, .int a1), (2, .int a2), (4, .int x2)]) [0, 1, 2, 4] rfl ?_
    exact hj92 x3
  intro j80 hj80
  refine T_sub (lv' := [(0, .ref (b + 0)), (1, .int a1), (2, .int a2), (3, .int x1), (4, .int x2), (5, .int (0 : Int32)), (6, .int (0 : Int32))]) [2, 3, 4, 5, 6, 1, 0] rfl ?_
  refine T_fix2 _ (fun (x6 : Int32) (x7 : Int32) => [(0, .ref (b + 0)), (1, .int a1), (2, .int a2), (3, .int x1), (4, .int x2), (5, .int x6), (6, .int x7)]) (fun (x6 : Int32) (x7 : Int32) => Rg G b Lm (Rm b) I J) ?_ FU (0 : Int32) (0 : Int32)
  intro r20 hr20 x6 x7
  refine T_iload hok 6 rfl dX11_worstBy_20 ?_
  refine T_aload_n hok 0 rfl rfl dX11_worstBy_22 ?_
  refine T_getI hok fr_X11_231 lm_0 dX11_worstBy_23 ?_
  refine T_icmp_ge (tgt := 80) hok dX11_worstBy_26 rfl ?_ ?_
  · refine T_sub (lv' := [(0, .ref (b + 0)), (1, .int a1), (2, .int a2), (3, .int x1), (4, .int x2), (5, .int x6)]) [0, 1, 2, 3, 4, 5] rfl ?_
    exact hj80 x6
  refine T_iload hok 5 rfl dX11_worstBy_29 ?_
  refine T_iload_n hok 2 rfl rfl dX11_worstBy_31 ?_
  refine T_iload hok 4 rfl dX11_worstBy_32 ?_
  refine T_cz0 (CR_S (rest := [.int x6]) hok (ct_X11_isOf a2 x2) mw_X11_isOf mst_X11_isOf ml_X11_430 dX11_worstBy_34 rfl rfl (roomOk rfl) rfl) rfl rfl ?_
  intro x8
  refine T_jp _ (fun (j71 : Bool → Int32 → Option (Int32)) => ∀ (x9 : Bool) (x10 : Int32), T X A (Zm X A (ii0 (Rg G b Lm (Rm b) I J))) 7 0 0 71 [(0, .ref (b + 0)), (1, .int a1), (2, .int a2), (3, .int x1), (4, .int x2), (6, .int x7)] [.int (bi x9), .int x10] (Rg G b Lm (Rm b) I J) (j71 x9 x10)) _ ?_ ?_
  · intro x9 x10
    refine T_iadd hok dX11_worstBy_71 ?_
    refine T_lti ?_
    intro x11
    refine T_istore (lv' := [(5, .int x11), (0, .ref (b + 0)), (1, .int a1), (2, .int a2), (3, .int x1), (4, .int x2), (6, .int x7)]) hok (by decide) rfl dX11_worstBy_72 ?_
    refine T_iinc (lvs := fun x12 => [(6, .int x12), (5, .int x11), (0, .ref (b + 0)), (1, .int a1), (2, .int a2), (3, .int x1), (4, .int x2)]) hok 6 rfl ic_1 (by decide) (fun _ => rfl) dX11_worstBy_74 ?_
    intro x12
    refine T_goto (tgt := 20) hok dX11_worstBy_77 rfl ?_
    refine T_sub (lv' := [(0, .ref (b + 0)), (1, .int a1), (2, .int a2), (3, .int x1), (4, .int x2), (5, .int x11), (6, .int x12)]) [2, 3, 4, 5, 6, 1, 0] rfl ?_
    exact hr20 x11 x12
  intro j71 hj71
  refine T_jp _ (fun (j70 : Int32 → Option (Int32)) => ∀ (x13 : Int32), T X A (Zm X A (ii0 (Rg G b Lm (Rm b) I J))) 7 0 0 70 [(0, .ref (b + 0)), (1, .int a1), (2, .int a2), (3, .int x1), (4, .int x2), (6, .int x7)] [.int x13] (Rg G b Lm (Rm b) I J) (j70 x13)) _ ?_ ?_
  · intro x13
    refine T_iconst hok ic_0 dX11_worstBy_70 ?_
    exact hj71 false x13
  intro j70 hj70
  refine T_ifb_eq (tgt := 70) hok dX11_worstBy_37 rfl ?_ ?_
  · refine T_iload_n hok 2 rfl rfl dX11_worstBy_40 ?_
    refine T_iload hok 6 rfl dX11_worstBy_41 ?_
    refine T_cz0 (CR_S (rest := [.int x6]) hok (ct_X11_isOf a2 x7) mw_X11_isOf mst_X11_isOf ml_X11_430 dX11_worstBy_43 rfl rfl (roomOk rfl) rfl) rfl rfl ?_
    intro x14
    refine T_ifb_eq (tgt := 70) hok dX11_worstBy_46 rfl ?_ ?_
    · refine T_aload_n hok 0 rfl rfl dX11_worstBy_49 ?_
      refine T_iload_n hok 1 rfl rfl dX11_worstBy_50 ?_
      refine T_iload hok 6 rfl dX11_worstBy_51 ?_
      refine T_ci0 (CR_V (rest := [.int x6]) hok (ct_X11_paysOf hA I J a1 x7) mw_X11_paysOf mv_X11_paysOf ml_X11_500 lm_0 dX11_worstBy_53 rfl rfl (roomOk rfl) rfl) rfl rfl ?_
      intro x15
      refine T_aload_n hok 0 rfl rfl dX11_worstBy_56 ?_
      refine T_iload_n hok 1 rfl rfl dX11_worstBy_57 ?_
      refine T_iload hok 4 rfl dX11_worstBy_58 ?_
      refine T_ci0 (CR_V (rest := [.int x15, .int x6]) hok (ct_X11_paysOf hA I J a1 x2) mw_X11_paysOf mv_X11_paysOf ml_X11_500 lm_0 dX11_worstBy_60 rfl rfl (roomOk rfl) rfl) rfl rfl ?_
      intro x16
      refine T_icmp_ne (tgt := 70) hok dX11_worstBy_63 rfl ?_ ?_
      · refine T_iconst hok ic_1 dX11_worstBy_66 ?_
        refine T_goto (tgt := 71) hok dX11_worstBy_67 rfl ?_
        refine T_sub (lv' := [(0, .ref (b + 0)), (1, .int a1), (2, .int a2), (3, .int x1), (4, .int x2), (6, .int x7)]) [0, 1, 2, 3, 4, 6] rfl ?_
        exact hj71 true x6
      refine T_sub (lv' := [(0, .ref (b + 0)), (1, .int a1), (2, .int a2), (3, .int x1), (4, .int x2), (6, .int x7)]) [0, 1, 2, 3, 4, 6] rfl ?_
      exact hj70 x6
    refine T_sub (lv' := [(0, .ref (b + 0)), (1, .int a1), (2, .int a2), (3, .int x1), (4, .int x2), (6, .int x7)]) [0, 1, 2, 3, 4, 6] rfl ?_
    exact hj70 x6
  refine T_sub (lv' := [(0, .ref (b + 0)), (1, .int a1), (2, .int a2), (3, .int x1), (4, .int x2), (6, .int x7)]) [0, 1, 2, 3, 4, 6] rfl ?_
  exact hj70 x6

set_option maxHeartbeats 4000000 in
set_option maxRecDepth 100000 in
theorem ct_X11_ask {G : Gx} {l0 : Launch} {A : Nat → Prop} {b : Nat} (hA : ∀ k, k < Lm.length → A (b + k)) (I : MI) (J : MJ) (a1 : Int32) (a2 : Int32) : Ct G l0 A yX11_ask cX11_ask 6 (some .int) { frames := 2, cells := 0, slots := 0, locals := 48 } [.ref (b + 0), .int a1, .int a2] (Rg G b Lm (Rm b) I J) (ii1 (fun (I' : MI) => Rg G b Lm (Rm b) I' J)) (f_X11_ask I a1 a2) := by
  refine Ct.of rfl (Nat.le_of_ble_eq_true rfl) ?_
  intro X hok
  replace hok : Ok G l0 X RX11 cX11_ask 6 { frames := 2, cells := 0, slots := 0, locals := 48 } (some .int) := hok
  delta f_X11_ask
  show T X A (Zm X A (ii1 (fun (I' : MI) => Rg G b Lm (Rm b) I' J))) 6 0 0 0 [(0, .ref (b + 0)), (1, .int a1), (2, .int a2)] [] (Rg G b Lm (Rm b) I J) _
  refine T_aload_n hok 0 rfl rfl dX11_ask_0 ?_
  refine T_iconst hok ic_0 dX11_ask_1 ?_
  refine T_putI hok hA fr_X11_151 rfl rfl lm_0 dX11_ask_2 ?_
  intro I1
  refine T_iload_n hok 1 rfl rfl dX11_ask_5 ?_
  refine T_iconst hok ic_0 dX11_ask_6 ?_
  refine T_bipush hok bp_99 dX11_ask_7 ?_
  refine T_cz0 (CR_S (rest := []) hok (ct_X11_isIn a1 (0 : Int32) (99 : Int32)) mw_X11_isIn mst_X11_isIn ml_X11_196 dX11_ask_9 rfl rfl (roomOk rfl) rfl) rfl rfl ?_
  intro x2
  refine T_jp _ (fun (j24 : Option (Int32 × MI)) => T X A (Zm X A (ii1 (fun (I' : MI) => Rg G b Lm (Rm b) I' J))) 6 0 0 24 [] [] (Rg G b Lm (Rm b) I1 J) (j24)) _ ?_ ?_
  · skip
    refine T_iconst hok ic_m1 dX11_ask_24 ?_
    exact T_iret hok dX11_ask_25 (Nat.zero_le _) (Nat.zero_le _) rfl
  intro j24 hj24
  refine T_ifb_eq (tgt := 24) hok dX11_ask_12 rfl ?_ ?_
  · refine T_iload_n hok 2 rfl rfl dX11_ask_15 ?_
    refine T_iconst hok ic_0 dX11_ask_16 ?_
    refine T_iconst hok ic_1 dX11_ask_17 ?_
    refine T_cz0 (CR_S (rest := []) hok (ct_X11_isIn a2 (0 : Int32) (1 : Int32)) mw_X11_isIn mst_X11_isIn ml_X11_196 dX11_ask_18 rfl rfl (roomOk rfl) rfl) rfl rfl ?_
    intro x3
    refine T_ifb_ne (tgt := 26) hok dX11_ask_21 rfl ?_ ?_
    · refine T_aload_n hok 0 rfl rfl dX11_ask_26 ?_
      refine T_getI hok fr_X11_234 lm_0 dX11_ask_27 ?_
      refine T_if_ne (tgt := 36) hok dX11_ask_30 rfl ?_ ?_
      · refine T_bipush hok bp_m2 dX11_ask_33 ?_
        exact T_iret hok dX11_ask_35 (Nat.zero_le _) (Nat.zero_le _) rfl
      refine T_aload_n hok 0 rfl rfl dX11_ask_36 ?_
      refine T_iload_n hok 1 rfl rfl dX11_ask_37 ?_
      refine T_ci1 (CR_V (rest := []) hok (ct_X11_fitsOf hA I1 J a1) mw_X11_fitsOf mv_X11_fitsOf ml_X11_532 lm_0 dX11_ask_38 rfl rfl (roomOk rfl) rfl) rfl rfl ?_
      intro x4 I5
      refine T_istore_n (lv' := [(3, .int x4), (0, .ref (b + 0)), (1, .int a1), (2, .int a2)]) hok rfl (by decide) rfl dX11_ask_41 ?_
      refine T_iconst hok ic_0 dX11_ask_42 ?_
      refine T_istore (lv' := [(4, .int (0 : Int32)), (3, .int x4), (0, .ref (b + 0)), (1, .int a1), (2, .int a2)]) hok (by decide) rfl dX11_ask_43 ?_
      refine T_iconst hok ic_1 dX11_ask_45 ?_
      refine T_istore (lv' := [(5, .int (1 : Int32)), (4, .int (0 : Int32)), (3, .int x4), (0, .ref (b + 0)), (1, .int a1), (2, .int a2)]) hok (by decide) rfl dX11_ask_46 ?_
      refine T_jp _ (fun (j89 : Int32 → Option (Int32 × MI)) => ∀ (x6 : Int32), T X A (Zm X A (ii1 (fun (I' : MI) => Rg G b Lm (Rm b) I' J))) 6 0 0 89 [(0, .ref (b + 0)), (2, .int a2), (3, .int x4), (4, .int x6)] [] (Rg G b Lm (Rm b) I5 J) (j89 x6)) _ ?_ ?_
      · intro x6
        refine T_iload_n hok 1 rfl rfl dX11_ask_89 ?_
        refine T_jp _ (fun (j105 : Int32 → Option (Int32 × MI)) => ∀ (x7 : Int32), T X A (Zm X A (ii1 (fun (I' : MI) => Rg G b Lm (Rm b) I' J))) 6 0 0 105 [] [.int x7] (Rg G b Lm (Rm b) I5 J) (j105 x7)) _ ?_ ?_
        · intro x7
          exact T_iret hok dX11_ask_105 (Nat.zero_le _) (Nat.zero_le _) rfl
        intro j105 hj105
        refine T_if_ne (tgt := 98) hok dX11_ask_90 rfl ?_ ?_
        · refine T_iload hok 3 rfl dX11_ask_93 ?_
          refine T_goto (tgt := 105) hok dX11_ask_95 rfl ?_
          refine T_sub (lv' := []) [] rfl ?_
          exact hj105 x6
        refine T_aload_n hok 0 rfl rfl dX11_ask_98 ?_
        refine T_iload hok 3 rfl dX11_ask_99 ?_
        refine T_iload_n hok 2 rfl rfl dX11_ask_101 ?_
        refine T_ci0 (CR_V (rest := []) hok (ct_X11_worstBy hA I5 J x6 x4) mw_X11_worstBy mv_X11_worstBy ml_X11_535 lm_0 dX11_ask_102 rfl rfl (roomOk rfl) rfl) rfl rfl ?_
        intro x8
        refine T_sub (lv' := []) [] rfl ?_
        exact hj105 x8
      intro j89 hj89
      refine T_sub (lv' := [(0, .ref (b + 0)), (2, .int a2), (3, .int x4), (4, .int (0 : Int32)), (5, .int (1 : Int32))]) [3, 5, 2, 1, 0] rfl ?_
      refine T_fix2 _ (fun (x9 : Int32) (x10 : Int32) => [(0, .ref (b + 0)), (2, .int a2), (3, .int x4), (4, .int x9), (5, .int x10)]) (fun (x9 : Int32) (x10 : Int32) => Rg G b Lm (Rm b) I5 J) ?_ FU (0 : Int32) (1 : Int32)
      intro r48 hr48 x9 x10
      refine T_iload hok 4 rfl dX11_ask_48 ?_
      refine T_aload_n hok 0 rfl rfl dX11_ask_50 ?_
      refine T_getI hok fr_X11_234 lm_0 dX11_ask_51 ?_
      refine T_icmp_ge (tgt := 89) hok dX11_ask_54 rfl ?_ ?_
      · refine T_sub (lv' := [(0, .ref (b + 0)), (2, .int a2), (3, .int x4), (4, .int x9)]) [0, 1, 2, 3] rfl ?_
        exact hj89 x9
      refine T_aload_n hok 0 rfl rfl dX11_ask_57 ?_
      refine T_iload hok 4 rfl dX11_ask_58 ?_
      refine T_iload_n hok 2 rfl rfl dX11_ask_60 ?_
      refine T_ci0 (CR_V (rest := []) hok (ct_X11_worstBy hA I5 J x10 x4) mw_X11_worstBy mv_X11_worstBy ml_X11_535 lm_0 dX11_ask_61 rfl rfl (roomOk rfl) rfl) rfl rfl ?_
      intro x11
      refine T_aload_n hok 0 rfl rfl dX11_ask_64 ?_
      refine T_iload hok 3 rfl dX11_ask_65 ?_
      refine T_iload_n hok 2 rfl rfl dX11_ask_67 ?_
      refine T_ci0 (CR_V (rest := [.int x11]) hok (ct_X11_worstBy hA I5 J x9 x4) mw_X11_worstBy mv_X11_worstBy ml_X11_535 lm_0 dX11_ask_68 rfl rfl (roomOk rfl) rfl) rfl rfl ?_
      intro x12
      refine T_jp _ (fun (j81 : Int32 → Option (Int32 × MI)) => ∀ (x13 : Int32), T X A (Zm X A (ii1 (fun (I' : MI) => Rg G b Lm (Rm b) I' J))) 6 0 0 81 [(0, .ref (b + 0)), (2, .int a2), (3, .int x4), (5, .int x10)] [.int x13] (Rg G b Lm (Rm b) I5 J) (j81 x13)) _ ?_ ?_
      · intro x13
        refine T_istore (lv' := [(4, .int x13), (0, .ref (b + 0)), (2, .int a2), (3, .int x4), (5, .int x10)]) hok (by decide) rfl dX11_ask_81 ?_
        refine T_iinc (lvs := fun x14 => [(5, .int x14), (4, .int x13), (0, .ref (b + 0)), (2, .int a2), (3, .int x4)]) hok 4 rfl ic_1 (by decide) (fun _ => rfl) dX11_ask_83 ?_
        intro x14
        refine T_goto (tgt := 48) hok dX11_ask_86 rfl ?_
        refine T_sub (lv' := [(0, .ref (b + 0)), (2, .int a2), (3, .int x4), (4, .int x13), (5, .int x14)]) [2, 3, 4, 1, 0] rfl ?_
        exact hr48 x13 x14
      intro j81 hj81
      refine T_icmp_ge (tgt := 79) hok dX11_ask_71 rfl ?_ ?_
      · refine T_iload hok 3 rfl dX11_ask_79 ?_
        refine T_sub (lv' := [(0, .ref (b + 0)), (2, .int a2), (3, .int x4), (5, .int x10)]) [0, 1, 2, 4] rfl ?_
        exact hj81 x9
      refine T_iload hok 4 rfl dX11_ask_74 ?_
      refine T_goto (tgt := 81) hok dX11_ask_76 rfl ?_
      refine T_sub (lv' := [(0, .ref (b + 0)), (2, .int a2), (3, .int x4), (5, .int x10)]) [0, 1, 2, 4] rfl ?_
      exact hj81 x10
    refine T_sub (lv' := []) [] rfl ?_
    exact hj24
  refine T_sub (lv' := []) [] rfl ?_
  exact hj24

set_option maxHeartbeats 4000000 in
set_option maxRecDepth 100000 in
theorem ct_X11_chance {G : Gx} {l0 : Launch} {A : Nat → Prop} {b : Nat} (hA : ∀ k, k < Lm.length → A (b + k)) (I : MI) (J : MJ) (a1 : Int32) (a2 : Int32) (a3 : Int32) : Ct G l0 A yX11_chance cX11_chance 8 (some .int) { frames := 7, cells := 0, slots := 0, locals := 168 } [.ref (b + 0), .int a1, .int a2, .int a3] (Rg G b Lm (Rm b) I J) (ii2 (fun (I' : MI) (J' : MJ) => Rg G b Lm (Rm b) I' J')) (f_X11_chance I J a1 a2 a3) := by
  refine Ct.of rfl (Nat.le_of_ble_eq_true rfl) ?_
  intro X hok
  replace hok : Ok G l0 X RX11 cX11_chance 8 { frames := 7, cells := 0, slots := 0, locals := 168 } (some .int) := hok
  delta f_X11_chance
  show T X A (Zm X A (ii2 (fun (I' : MI) (J' : MJ) => Rg G b Lm (Rm b) I' J'))) 8 0 0 0 [(0, .ref (b + 0)), (1, .int a1), (2, .int a2), (3, .int a3)] [] (Rg G b Lm (Rm b) I J) _
  refine T_aload_n hok 0 rfl rfl dX11_chance_0 ?_
  refine T_iconst hok ic_0 dX11_chance_1 ?_
  refine T_putI hok hA fr_X11_151 rfl rfl lm_0 dX11_chance_2 ?_
  intro I1
  refine T_iload_n hok 1 rfl rfl dX11_chance_5 ?_
  refine T_jp _ (fun (j27 : Option (Int32 × MI × MJ)) => T X A (Zm X A (ii2 (fun (I' : MI) (J' : MJ) => Rg G b Lm (Rm b) I' J'))) 8 0 0 27 [] [] (Rg G b Lm (Rm b) I1 J) (j27)) _ ?_ ?_
  · skip
    refine T_iconst hok ic_m1 dX11_chance_27 ?_
    exact T_iret hok dX11_chance_28 (Nat.zero_le _) (Nat.zero_le _) rfl
  intro j27 hj27
  refine T_if_lt (tgt := 27) hok dX11_chance_6 rfl ?_ ?_
  · refine T_sub (lv' := []) [] rfl ?_
    exact hj27
  refine T_iload_n hok 2 rfl rfl dX11_chance_9 ?_
  refine T_iconst hok ic_1 dX11_chance_10 ?_
  refine T_bipush hok bp_99 dX11_chance_11 ?_
  refine T_cz0 (CR_S (rest := []) hok (ct_X11_isIn a2 (1 : Int32) (99 : Int32)) mw_X11_isIn mst_X11_isIn ml_X11_196 dX11_chance_13 rfl rfl (roomOk rfl) rfl) rfl rfl ?_
  intro x2
  refine T_ifb_eq (tgt := 27) hok dX11_chance_16 rfl ?_ ?_
  · refine T_aload_n hok 0 rfl rfl dX11_chance_19 ?_
    refine T_iload_n hok 3 rfl rfl dX11_chance_20 ?_
    refine T_cz0 (CR_V (rest := []) hok (ct_X11_isHouse hA I1 J a3) mw_X11_isHouse mv_X11_isHouse ml_X11_443 lm_0 dX11_chance_21 rfl rfl (roomOk rfl) rfl) rfl rfl ?_
    intro x3
    refine T_ifb_ne (tgt := 29) hok dX11_chance_24 rfl ?_ ?_
    · refine T_aload_n hok 0 rfl rfl dX11_chance_29 ?_
      refine T_getJ hok fr_X11_355 lm_0 dX11_chance_30 ?_
      refine T_ltl ?_
      intro x4
      refine T_lstore (lv' := [(4, .long x4), (0, .ref (b + 0)), (1, .int a1), (2, .int a2), (3, .int a3)]) hok (by decide) rfl dX11_chance_33 ?_
      refine T_aload_n hok 1 rfl rfl dX11_chance_35 ?_
      refine T_iload_n hok 2 rfl rfl dX11_chance_36 ?_
      refine T_i2l hok dX11_chance_37 ?_
      refine T_putJ hok hA fr_X11_355 rfl lm_0 dX11_chance_38 ?_
      intro J5
      refine T_iconst hok ic_0 dX11_chance_41 ?_
      refine T_istore (lv' := [(6, .int (0 : Int32)), (4, .long x4), (0, .ref (b + 0)), (1, .int a1), (2, .int a2), (3, .int a3)]) hok (by decide) rfl dX11_chance_42 ?_
      refine T_iconst hok ic_0 dX11_chance_44 ?_
      refine T_istore (lv' := [(7, .int (0 : Int32)), (6, .int (0 : Int32)), (4, .long x4), (0, .ref (b + 0)), (1, .int a1), (2, .int a2), (3, .int a3)]) hok (by decide) rfl dX11_chance_45 ?_
      refine T_sub (lv' := [(0, .ref (b + 0)), (2, .int a2), (3, .int a3), (4, .long x4), (6, .int (0 : Int32)), (7, .int (0 : Int32))]) [3, 5, 6, 2, 1, 0] rfl ?_
      refine T_fix4 _ (fun (x6 : Int32) (x7 : Int32) (I8 : MI) (J9 : MJ) => [(0, .ref (b + 0)), (2, .int a2), (3, .int a3), (4, .long x4), (6, .int x6), (7, .int x7)]) (fun (x6 : Int32) (x7 : Int32) (I8 : MI) (J9 : MJ) => Rg G b Lm (Rm b) I8 J9) ?_ FU (0 : Int32) (0 : Int32) I1 J5
      intro r47 hr47 x6 x7 I8 J9
      refine T_iload hok 5 rfl dX11_chance_47 ?_
      refine T_bipush hok bp_10 dX11_chance_49 ?_
      refine T_icmp_ge (tgt := 89) hok dX11_chance_51 rfl ?_ ?_
      · refine T_aload_n hok 0 rfl rfl dX11_chance_89 ?_
        refine T_iconst hok ic_0 dX11_chance_90 ?_
        refine T_putZ hok hA fr_X11_371 rfl rfl lm_0 dX11_chance_91 ?_
        intro I10
        refine T_aload_n hok 0 rfl rfl dX11_chance_94 ?_
        refine T_lload hok 3 rfl dX11_chance_95 ?_
        refine T_putJ hok hA fr_X11_355 rfl lm_0 dX11_chance_97 ?_
        intro J11
        refine T_iload hok 4 rfl dX11_chance_100 ?_
        exact T_iret hok dX11_chance_102 (Nat.zero_le _) (Nat.zero_le _) rfl
      refine T_aload_n hok 0 rfl rfl dX11_chance_54 ?_
      refine T_cv1 (CR_V (rest := []) hok (ct_X11_layTried hA I8 J9) mw_X11_layTried mv_X11_layTried ml_X11_461 lm_0 dX11_chance_55 rfl rfl (roomOk rfl) rfl) rfl rfl ?_
      intro I12
      refine T_aload_n hok 0 rfl rfl dX11_chance_58 ?_
      refine T_iconst hok ic_1 dX11_chance_59 ?_
      refine T_putZ hok hA fr_X11_371 rfl rfl lm_0 dX11_chance_60 ?_
      intro I13
      refine T_aload_n hok 0 rfl rfl dX11_chance_63 ?_
      refine T_iload_n hok 1 rfl rfl dX11_chance_64 ?_
      refine T_cv2 (CR_V (rest := []) hok (ct_X11_goMany hA I13 J9 a2) mw_X11_goMany mv_X11_goMany ml_X11_464 lm_0 dX11_chance_65 rfl rfl (roomOk rfl) rfl) rfl rfl ?_
      intro I14 J15
      refine T_iload hok 4 rfl dX11_chance_68 ?_
      refine T_aload_n hok 0 rfl rfl dX11_chance_70 ?_
      refine T_getR hok fr_X11_106 lm_0 rm_0_57 dX11_chance_71 ?_
      refine T_iconst hok ic_1 dX11_chance_74 ?_
      refine T_iald hok lm_31 dX11_chance_75 ?_
      refine T_iload_n hok 2 rfl rfl dX11_chance_76 ?_
      refine T_ishr hok dX11_chance_77 ?_
      refine T_iconst hok ic_1 dX11_chance_78 ?_
      refine T_iand hok dX11_chance_79 ?_
      refine T_iadd hok dX11_chance_80 ?_
      refine T_lti ?_
      intro x16
      refine T_istore (lv' := [(6, .int x16), (0, .ref (b + 0)), (2, .int a2), (3, .int a3), (4, .long x4), (7, .int x7)]) hok (by decide) rfl dX11_chance_81 ?_
      refine T_iinc (lvs := fun x17 => [(7, .int x17), (6, .int x16), (0, .ref (b + 0)), (2, .int a2), (3, .int a3), (4, .long x4)]) hok 5 rfl ic_1 (by decide) (fun _ => rfl) dX11_chance_83 ?_
      intro x17
      refine T_goto (tgt := 47) hok dX11_chance_86 rfl ?_
      refine T_sub (lv' := [(0, .ref (b + 0)), (2, .int a2), (3, .int a3), (4, .long x4), (6, .int x16), (7, .int x17)]) [2, 3, 4, 5, 1, 0] rfl ?_
      exact hr47 x16 x17 I14 J15
    refine T_sub (lv' := []) [] rfl ?_
    exact hj27
  refine T_sub (lv' := []) [] rfl ?_
  exact hj27

set_option maxHeartbeats 4000000 in
set_option maxRecDepth 100000 in
theorem ct_X11_tried {G : Gx} {l0 : Launch} {A : Nat → Prop} {b : Nat} (hA : ∀ k, k < Lm.length → A (b + k)) (I : MI) (J : MJ) (a1 : Int32) (a2 : Int32) (a3 : Int32) : Ct G l0 A yX11_tried cX11_tried 6 (some .int) { frames := 7, cells := 0, slots := 0, locals := 168 } [.ref (b + 0), .int a1, .int a2, .int a3] (Rg G b Lm (Rm b) I J) (ii2 (fun (I' : MI) (J' : MJ) => Rg G b Lm (Rm b) I' J')) (f_X11_tried I J a1 a2 a3) := by
  refine Ct.of rfl (Nat.le_of_ble_eq_true rfl) ?_
  intro X hok
  replace hok : Ok G l0 X RX11 cX11_tried 6 { frames := 7, cells := 0, slots := 0, locals := 168 } (some .int) := hok
  delta f_X11_tried
  show T X A (Zm X A (ii2 (fun (I' : MI) (J' : MJ) => Rg G b Lm (Rm b) I' J'))) 6 0 0 0 [(0, .ref (b + 0)), (1, .int a1), (2, .int a2), (3, .int a3)] [] (Rg G b Lm (Rm b) I J) _
  refine T_aload_n hok 0 rfl rfl dX11_tried_0 ?_
  refine T_iconst hok ic_0 dX11_tried_1 ?_
  refine T_putI hok hA fr_X11_151 rfl rfl lm_0 dX11_tried_2 ?_
  intro I1
  refine T_iload_n hok 1 rfl rfl dX11_tried_5 ?_
  refine T_iconst hok ic_0 dX11_tried_6 ?_
  refine T_iconst hok ic_4 dX11_tried_7 ?_
  refine T_cz0 (CR_S (rest := []) hok (ct_X11_isIn a1 (0 : Int32) (4 : Int32)) mw_X11_isIn mst_X11_isIn ml_X11_196 dX11_tried_8 rfl rfl (roomOk rfl) rfl) rfl rfl ?_
  intro x2
  refine T_jp _ (fun (j45 : Option (Int32 × MI × MJ)) => T X A (Zm X A (ii2 (fun (I' : MI) (J' : MJ) => Rg G b Lm (Rm b) I' J'))) 6 0 0 45 [] [] (Rg G b Lm (Rm b) I1 J) (j45)) _ ?_ ?_
  · skip
    refine T_ldcw hok lk_X11_460 dX11_tried_45 ?_
    exact T_iret hok dX11_tried_48 (Nat.zero_le _) (Nat.zero_le _) rfl
  intro j45 hj45
  refine T_ifb_eq (tgt := 45) hok dX11_tried_11 rfl ?_ ?_
  · refine T_iload_n hok 3 rfl rfl dX11_tried_14 ?_
    refine T_iconst hok ic_0 dX11_tried_15 ?_
    refine T_sipush hok sp_200 dX11_tried_16 ?_
    refine T_cz0 (CR_S (rest := []) hok (ct_X11_isIn a3 (0 : Int32) (200 : Int32)) mw_X11_isIn mst_X11_isIn ml_X11_196 dX11_tried_19 rfl rfl (roomOk rfl) rfl) rfl rfl ?_
    intro x3
    refine T_ifb_eq (tgt := 45) hok dX11_tried_22 rfl ?_ ?_
    · refine T_iload_n hok 1 rfl rfl dX11_tried_25 ?_
      refine T_iconst hok ic_2 dX11_tried_26 ?_
      refine T_jp _ (fun (j49 : Option (Int32 × MI × MJ)) => T X A (Zm X A (ii2 (fun (I' : MI) (J' : MJ) => Rg G b Lm (Rm b) I' J'))) 6 0 0 49 [(0, .ref (b + 0)), (1, .int a1), (2, .int a2), (3, .int a3)] [] (Rg G b Lm (Rm b) I1 J) (j49)) _ ?_ ?_
      · skip
        refine T_aload_n hok 0 rfl rfl dX11_tried_49 ?_
        refine T_cv1 (CR_V (rest := []) hok (ct_X11_layTried hA I1 J) mw_X11_layTried mv_X11_layTried ml_X11_461 lm_0 dX11_tried_50 rfl rfl (roomOk rfl) rfl) rfl rfl ?_
        intro I4
        refine T_iload_n hok 1 rfl rfl dX11_tried_53 ?_
        refine T_jp _ (fun (j65 : MI → Option (Int32 × MI × MJ)) => ∀ (I5 : MI), T X A (Zm X A (ii2 (fun (I' : MI) (J' : MJ) => Rg G b Lm (Rm b) I' J'))) 6 0 0 65 [(0, .ref (b + 0)), (1, .int a1), (2, .int a2), (3, .int a3)] [] (Rg G b Lm (Rm b) I5 J) (j65 I5)) _ ?_ ?_
        · intro I5
          refine T_iload_n hok 1 rfl rfl dX11_tried_65 ?_
          refine T_iconst hok ic_2 dX11_tried_66 ?_
          refine T_jp _ (fun (j82 : MI → Option (Int32 × MI × MJ)) => ∀ (I6 : MI), T X A (Zm X A (ii2 (fun (I' : MI) (J' : MJ) => Rg G b Lm (Rm b) I' J'))) 6 0 0 82 [(0, .ref (b + 0)), (1, .int a1), (3, .int a3)] [] (Rg G b Lm (Rm b) I6 J) (j82 I6)) _ ?_ ?_
          · intro I6
            refine T_aload_n hok 0 rfl rfl dX11_tried_82 ?_
            refine T_iload_n hok 1 rfl rfl dX11_tried_83 ?_
            refine T_iconst hok ic_1 dX11_tried_84 ?_
            refine T_jp _ (fun (j93 : Bool → Option (Int32 × MI × MJ)) => ∀ (x7 : Bool), T X A (Zm X A (ii2 (fun (I' : MI) (J' : MJ) => Rg G b Lm (Rm b) I' J'))) 6 0 0 93 [(0, .ref (b + 0)), (1, .int a1), (3, .int a3)] [.int (bi x7), .ref (b + 0)] (Rg G b Lm (Rm b) I6 J) (j93 x7)) _ ?_ ?_
            · intro x7
              refine T_putZ hok hA fr_X11_374 rfl rfl lm_0 dX11_tried_93 ?_
              intro I8
              refine T_aload_n hok 0 rfl rfl dX11_tried_96 ?_
              refine T_iload_n hok 1 rfl rfl dX11_tried_97 ?_
              refine T_iconst hok ic_3 dX11_tried_98 ?_
              refine T_jp _ (fun (j107 : Bool → Option (Int32 × MI × MJ)) => ∀ (x9 : Bool), T X A (Zm X A (ii2 (fun (I' : MI) (J' : MJ) => Rg G b Lm (Rm b) I' J'))) 6 0 0 107 [(0, .ref (b + 0)), (1, .int a1), (3, .int a3)] [.int (bi x9), .ref (b + 0)] (Rg G b Lm (Rm b) I8 J) (j107 x9)) _ ?_ ?_
              · intro x9
                refine T_putZ hok hA fr_X11_377 rfl rfl lm_0 dX11_tried_107 ?_
                intro I10
                refine T_aload_n hok 0 rfl rfl dX11_tried_110 ?_
                refine T_iload_n hok 1 rfl rfl dX11_tried_111 ?_
                refine T_iconst hok ic_4 dX11_tried_112 ?_
                refine T_jp _ (fun (j121 : Bool → Option (Int32 × MI × MJ)) => ∀ (x11 : Bool), T X A (Zm X A (ii2 (fun (I' : MI) (J' : MJ) => Rg G b Lm (Rm b) I' J'))) 6 0 0 121 [(0, .ref (b + 0)), (3, .int a3)] [.int (bi x11), .ref (b + 0)] (Rg G b Lm (Rm b) I10 J) (j121 x11)) _ ?_ ?_
                · intro x11
                  refine T_putZ hok hA fr_X11_380 rfl rfl lm_0 dX11_tried_121 ?_
                  intro I12
                  refine T_aload_n hok 0 rfl rfl dX11_tried_124 ?_
                  refine T_iload_n hok 1 rfl rfl dX11_tried_125 ?_
                  refine T_cv2 (CR_V (rest := []) hok (ct_X11_goMany hA I12 J a3) mw_X11_goMany mv_X11_goMany ml_X11_464 lm_0 dX11_tried_126 rfl rfl (roomOk rfl) rfl) rfl rfl ?_
                  intro I13 J14
                  refine T_aload_n hok 0 rfl rfl dX11_tried_129 ?_
                  refine T_cv1 (CR_V (rest := []) hok (ct_X11_plainTried hA I13 J14) mw_X11_plainTried mv_X11_plainTried ml_X11_359 lm_0 dX11_tried_130 rfl rfl (roomOk rfl) rfl) rfl rfl ?_
                  intro I15
                  refine T_iconst hok ic_0 dX11_tried_133 ?_
                  refine T_istore (lv' := [(4, .int (0 : Int32)), (0, .ref (b + 0)), (3, .int a3)]) hok (by decide) rfl dX11_tried_134 ?_
                  refine T_iconst hok ic_0 dX11_tried_136 ?_
                  refine T_istore (lv' := [(5, .int (0 : Int32)), (4, .int (0 : Int32)), (0, .ref (b + 0)), (3, .int a3)]) hok (by decide) rfl dX11_tried_137 ?_
                  refine T_sub (lv' := [(0, .ref (b + 0)), (4, .int (0 : Int32)), (5, .int (0 : Int32))]) [2, 1, 0] rfl ?_
                  refine T_fix2 _ (fun (x16 : Int32) (x17 : Int32) => [(0, .ref (b + 0)), (4, .int x16), (5, .int x17)]) (fun (x16 : Int32) (x17 : Int32) => Rg G b Lm (Rm b) I15 J14) ?_ FU (0 : Int32) (0 : Int32)
                  intro r139 hr139 x16 x17
                  refine T_iload hok 2 rfl dX11_tried_139 ?_
                  refine T_aload_n hok 0 rfl rfl dX11_tried_141 ?_
                  refine T_getI hok fr_X11_234 lm_0 dX11_tried_142 ?_
                  refine T_icmp_ge (tgt := 166) hok dX11_tried_145 rfl ?_ ?_
                  · refine T_iload hok 1 rfl dX11_tried_166 ?_
                    exact T_iret hok dX11_tried_168 (Nat.zero_le _) (Nat.zero_le _) rfl
                  refine T_iload hok 1 rfl dX11_tried_148 ?_
                  refine T_aload_n hok 0 rfl rfl dX11_tried_150 ?_
                  refine T_iconst hok ic_1 dX11_tried_151 ?_
                  refine T_iload hok 2 rfl dX11_tried_152 ?_
                  refine T_ci0 (CR_V (rest := [.int x16]) hok (ct_X11_hasOf hA I15 J14 (1 : Int32) x17) mw_X11_hasOf mv_X11_hasOf ml_X11_473 lm_0 dX11_tried_154 rfl rfl (roomOk rfl) rfl) rfl rfl ?_
                  intro x18
                  refine T_iadd hok dX11_tried_157 ?_
                  refine T_lti ?_
                  intro x19
                  refine T_istore (lv' := [(4, .int x19), (0, .ref (b + 0)), (5, .int x17)]) hok (by decide) rfl dX11_tried_158 ?_
                  refine T_iinc (lvs := fun x20 => [(5, .int x20), (4, .int x19), (0, .ref (b + 0))]) hok 2 rfl ic_1 (by decide) (fun _ => rfl) dX11_tried_160 ?_
                  intro x20
                  refine T_goto (tgt := 139) hok dX11_tried_163 rfl ?_
                  refine T_sub (lv' := [(0, .ref (b + 0)), (4, .int x19), (5, .int x20)]) [2, 1, 0] rfl ?_
                  exact hr139 x19 x20
                intro j121 hj121
                refine T_icmp_ne (tgt := 120) hok dX11_tried_113 rfl ?_ ?_
                · refine T_iconst hok ic_1 dX11_tried_116 ?_
                  refine T_goto (tgt := 121) hok dX11_tried_117 rfl ?_
                  refine T_sub (lv' := [(0, .ref (b + 0)), (3, .int a3)]) [0, 2] rfl ?_
                  exact hj121 true
                refine T_iconst hok ic_0 dX11_tried_120 ?_
                refine T_sub (lv' := [(0, .ref (b + 0)), (3, .int a3)]) [0, 2] rfl ?_
                exact hj121 false
              intro j107 hj107
              refine T_icmp_ne (tgt := 106) hok dX11_tried_99 rfl ?_ ?_
              · refine T_iconst hok ic_1 dX11_tried_102 ?_
                refine T_goto (tgt := 107) hok dX11_tried_103 rfl ?_
                exact hj107 true
              refine T_iconst hok ic_0 dX11_tried_106 ?_
              exact hj107 false
            intro j93 hj93
            refine T_icmp_ne (tgt := 92) hok dX11_tried_85 rfl ?_ ?_
            · refine T_iconst hok ic_1 dX11_tried_88 ?_
              refine T_goto (tgt := 93) hok dX11_tried_89 rfl ?_
              exact hj93 true
            refine T_iconst hok ic_0 dX11_tried_92 ?_
            exact hj93 false
          intro j82 hj82
          refine T_icmp_ne (tgt := 82) hok dX11_tried_67 rfl ?_ ?_
          · refine T_aload_n hok 0 rfl rfl dX11_tried_70 ?_
            refine T_getR hok fr_X11_109 lm_0 rm_0_58 dX11_tried_71 ?_
            refine T_iconst hok ic_1 dX11_tried_74 ?_
            refine T_dup2 hok rfl rfl dX11_tried_75 ?_
            refine T_iald hok lm_32 dX11_tried_76 ?_
            refine T_iconst hok ic_1 dX11_tried_77 ?_
            refine T_iload_n hok 2 rfl rfl dX11_tried_78 ?_
            refine T_ishl hok dX11_tried_79 ?_
            refine T_ior hok dX11_tried_80 ?_
            refine T_iast hok hA lm_32 dX11_tried_81 ?_
            intro I21
            refine T_sub (lv' := [(0, .ref (b + 0)), (1, .int a1), (3, .int a3)]) [0, 1, 3] rfl ?_
            exact hj82 I21
          refine T_sub (lv' := [(0, .ref (b + 0)), (1, .int a1), (3, .int a3)]) [0, 1, 3] rfl ?_
          exact hj82 I5
        intro j65 hj65
        refine T_if_ne (tgt := 65) hok dX11_tried_54 rfl ?_ ?_
        · refine T_aload_n hok 0 rfl rfl dX11_tried_57 ?_
          refine T_getR hok fr_X11_109 lm_0 rm_0_58 dX11_tried_58 ?_
          refine T_iconst hok ic_1 dX11_tried_61 ?_
          refine T_bipush hok bp_63 dX11_tried_62 ?_
          refine T_iast hok hA lm_32 dX11_tried_64 ?_
          intro I22
          exact hj65 I22
        exact hj65 I4
      intro j49 hj49
      refine T_icmp_ne (tgt := 41) hok dX11_tried_27 rfl ?_ ?_
      · refine T_aload_n hok 0 rfl rfl dX11_tried_30 ?_
        refine T_iload_n hok 2 rfl rfl dX11_tried_31 ?_
        refine T_cz0 (CR_V (rest := []) hok (ct_X11_isHouse hA I1 J a2) mw_X11_isHouse mv_X11_isHouse ml_X11_443 lm_0 dX11_tried_32 rfl rfl (roomOk rfl) rfl) rfl rfl ?_
        intro x23
        refine T_ifb_ne (tgt := 49) hok dX11_tried_35 rfl ?_ ?_
        · exact hj49
        refine T_goto (tgt := 45) hok dX11_tried_38 rfl ?_
        refine T_sub (lv' := []) [] rfl ?_
        exact hj45
      refine T_iload_n hok 2 rfl rfl dX11_tried_41 ?_
      refine T_if_eq (tgt := 49) hok dX11_tried_42 rfl ?_ ?_
      · exact hj49
      refine T_sub (lv' := []) [] rfl ?_
      exact hj45
    refine T_sub (lv' := []) [] rfl ?_
    exact hj45
  refine T_sub (lv' := []) [] rfl ?_
  exact hj45
