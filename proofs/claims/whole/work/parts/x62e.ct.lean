set_option maxHeartbeats 4000000 in
set_option maxRecDepth 100000 in
theorem ct_X11_keepText {G : Gx} {l0 : Launch} {A : Nat → Prop} {b : Nat} (hA : ∀ k, k < Lm.length → A (b + k)) (I : MI) (J : MJ) : Ct G l0 A yX11_keepText cX11_keepText 2 none { frames := 2, cells := 0, slots := 0, locals := 41 } [.ref (b + 0)] (Rg G b Lm (Rm b) I J) (iv2 (fun (I' : MI) (J' : MJ) => Rg G b Lm (Rm b) I' J')) (f_X11_keepText I J) := by
  refine Ct.of rfl (Nat.le_of_ble_eq_true rfl) ?_
  intro X hok
  replace hok : Ok G l0 X RX11 cX11_keepText 2 { frames := 2, cells := 0, slots := 0, locals := 41 } none := hok
  delta f_X11_keepText
  show T X A (Zm X A (iv2 (fun (I' : MI) (J' : MJ) => Rg G b Lm (Rm b) I' J'))) 2 0 0 0 [(0, .ref (b + 0))] [] (Rg G b Lm (Rm b) I J) _
  refine T_aload_n hok 0 rfl rfl dX11_keepText_0 ?_
  refine T_aload_n hok 0 rfl rfl dX11_keepText_1 ?_
  refine T_getI hok fr_X11_213 lm_0 dX11_keepText_2 ?_
  refine T_putI hok hA fr_X11_231 rfl rfl lm_0 dX11_keepText_5 ?_
  intro I1
  refine T_aload_n hok 0 rfl rfl dX11_keepText_8 ?_
  refine T_aload_n hok 0 rfl rfl dX11_keepText_9 ?_
  refine T_getI hok fr_X11_216 lm_0 dX11_keepText_10 ?_
  refine T_putI hok hA fr_X11_234 rfl rfl lm_0 dX11_keepText_13 ?_
  intro I2
  refine T_aload_n hok 0 rfl rfl dX11_keepText_16 ?_
  refine T_aload_n hok 0 rfl rfl dX11_keepText_17 ?_
  refine T_getI hok fr_X11_219 lm_0 dX11_keepText_18 ?_
  refine T_putI hok hA fr_X11_237 rfl rfl lm_0 dX11_keepText_21 ?_
  intro I3
  refine T_aload_n hok 0 rfl rfl dX11_keepText_24 ?_
  refine T_aload_n hok 0 rfl rfl dX11_keepText_25 ?_
  refine T_getI hok fr_X11_222 lm_0 dX11_keepText_26 ?_
  refine T_putI hok hA fr_X11_240 rfl rfl lm_0 dX11_keepText_29 ?_
  intro I4
  refine T_aload_n hok 0 rfl rfl dX11_keepText_32 ?_
  refine T_aload_n hok 0 rfl rfl dX11_keepText_33 ?_
  refine T_getI hok fr_X11_225 lm_0 dX11_keepText_34 ?_
  refine T_putI hok hA fr_X11_243 rfl rfl lm_0 dX11_keepText_37 ?_
  intro I5
  refine T_aload_n hok 0 rfl rfl dX11_keepText_40 ?_
  refine T_getR hok fr_X11_24 lm_0 rm_0_23 dX11_keepText_41 ?_
  refine T_iconst hok ic_2 dX11_keepText_44 ?_
  refine T_cv1 (CR_S (rest := []) hok (ct_X11_copies hA lm_4 I5 J (2 : Int32)) mw_X11_copies mst_X11_copies ml_X11_246 dX11_keepText_45 rfl rfl (roomOk rfl) rfl) rfl rfl ?_
  intro I6
  refine T_aload_n hok 0 rfl rfl dX11_keepText_48 ?_
  refine T_getR hok fr_X11_27 lm_0 rm_0_24 dX11_keepText_49 ?_
  refine T_bipush hok bp_6 dX11_keepText_52 ?_
  refine T_cv1 (CR_S (rest := []) hok (ct_X11_copies hA lm_5 I6 J (6 : Int32)) mw_X11_copies mst_X11_copies ml_X11_246 dX11_keepText_54 rfl rfl (roomOk rfl) rfl) rfl rfl ?_
  intro I7
  refine T_aload_n hok 0 rfl rfl dX11_keepText_57 ?_
  refine T_getR hok fr_X11_30 lm_0 rm_0_25 dX11_keepText_58 ?_
  refine T_bipush hok bp_6 dX11_keepText_61 ?_
  refine T_cv1 (CR_S (rest := []) hok (ct_X11_copies hA lm_6 I7 J (6 : Int32)) mw_X11_copies mst_X11_copies ml_X11_246 dX11_keepText_63 rfl rfl (roomOk rfl) rfl) rfl rfl ?_
  intro I8
  refine T_aload_n hok 0 rfl rfl dX11_keepText_66 ?_
  refine T_getR hok fr_X11_33 lm_0 rm_0_26 dX11_keepText_67 ?_
  refine T_bipush hok bp_6 dX11_keepText_70 ?_
  refine T_cv1 (CR_S (rest := []) hok (ct_X11_copies hA lm_7 I8 J (6 : Int32)) mw_X11_copies mst_X11_copies ml_X11_246 dX11_keepText_72 rfl rfl (roomOk rfl) rfl) rfl rfl ?_
  intro I9
  refine T_aload_n hok 0 rfl rfl dX11_keepText_75 ?_
  refine T_getR hok fr_X11_36 lm_0 rm_0_27 dX11_keepText_76 ?_
  refine T_bipush hok bp_6 dX11_keepText_79 ?_
  refine T_cv1 (CR_S (rest := []) hok (ct_X11_copies hA lm_8 I9 J (6 : Int32)) mw_X11_copies mst_X11_copies ml_X11_246 dX11_keepText_81 rfl rfl (roomOk rfl) rfl) rfl rfl ?_
  intro I10
  refine T_aload_n hok 0 rfl rfl dX11_keepText_84 ?_
  refine T_getR hok fr_X11_39 lm_0 rm_0_28 dX11_keepText_85 ?_
  refine T_bipush hok bp_6 dX11_keepText_88 ?_
  refine T_cv1 (CR_S (rest := []) hok (ct_X11_copies hA lm_9 I10 J (6 : Int32)) mw_X11_copies mst_X11_copies ml_X11_246 dX11_keepText_90 rfl rfl (roomOk rfl) rfl) rfl rfl ?_
  intro I11
  refine T_aload_n hok 0 rfl rfl dX11_keepText_93 ?_
  refine T_getR hok fr_X11_42 lm_0 rm_0_29 dX11_keepText_94 ?_
  refine T_bipush hok bp_6 dX11_keepText_97 ?_
  refine T_cv1 (CR_S (rest := []) hok (ct_X11_copies hA lm_10 I11 J (6 : Int32)) mw_X11_copies mst_X11_copies ml_X11_246 dX11_keepText_99 rfl rfl (roomOk rfl) rfl) rfl rfl ?_
  intro I12
  refine T_aload_n hok 0 rfl rfl dX11_keepText_102 ?_
  refine T_getR hok fr_X11_45 lm_0 rm_0_30 dX11_keepText_103 ?_
  refine T_bipush hok bp_6 dX11_keepText_106 ?_
  refine T_cv1 (CR_S (rest := []) hok (ct_X11_copies hA lm_11 I12 J (6 : Int32)) mw_X11_copies mst_X11_copies ml_X11_246 dX11_keepText_108 rfl rfl (roomOk rfl) rfl) rfl rfl ?_
  intro I13
  refine T_aload_n hok 0 rfl rfl dX11_keepText_111 ?_
  refine T_getR hok fr_X11_48 lm_0 rm_0_31 dX11_keepText_112 ?_
  refine T_bipush hok bp_20 dX11_keepText_115 ?_
  refine T_cv1 (CR_S (rest := []) hok (ct_X11_copies hA lm_12 I13 J (20 : Int32)) mw_X11_copies mst_X11_copies ml_X11_246 dX11_keepText_117 rfl rfl (roomOk rfl) rfl) rfl rfl ?_
  intro I14
  refine T_aload_n hok 0 rfl rfl dX11_keepText_120 ?_
  refine T_getR hok fr_X11_51 lm_0 rm_0_32 dX11_keepText_121 ?_
  refine T_bipush hok bp_20 dX11_keepText_124 ?_
  refine T_cv1 (CR_S (rest := []) hok (ct_X11_copies hA lm_13 I14 J (20 : Int32)) mw_X11_copies mst_X11_copies ml_X11_246 dX11_keepText_126 rfl rfl (roomOk rfl) rfl) rfl rfl ?_
  intro I15
  refine T_aload_n hok 0 rfl rfl dX11_keepText_129 ?_
  refine T_getR hok fr_X11_54 lm_0 rm_0_33 dX11_keepText_130 ?_
  refine T_bipush hok bp_6 dX11_keepText_133 ?_
  refine T_cv1 (CR_S (rest := []) hok (ct_X11_copies hA lm_14 I15 J (6 : Int32)) mw_X11_copies mst_X11_copies ml_X11_246 dX11_keepText_135 rfl rfl (roomOk rfl) rfl) rfl rfl ?_
  intro I16
  refine T_aload_n hok 0 rfl rfl dX11_keepText_138 ?_
  refine T_getR hok fr_X11_57 lm_0 rm_0_34 dX11_keepText_139 ?_
  refine T_bipush hok bp_6 dX11_keepText_142 ?_
  refine T_cv1 (CR_S (rest := []) hok (ct_X11_copies hA lm_15 I16 J (6 : Int32)) mw_X11_copies mst_X11_copies ml_X11_246 dX11_keepText_144 rfl rfl (roomOk rfl) rfl) rfl rfl ?_
  intro I17
  refine T_iconst hok ic_0 dX11_keepText_147 ?_
  refine T_istore_n (lv' := [(1, .int (0 : Int32)), (0, .ref (b + 0))]) hok rfl (by decide) rfl dX11_keepText_148 ?_
  refine T_jp _ (fun (j174 : MI → Option (MI × MJ)) => ∀ (I18 : MI), T X A (Zm X A (iv2 (fun (I' : MI) (J' : MJ) => Rg G b Lm (Rm b) I' J'))) 2 0 0 174 [(0, .ref (b + 0))] [] (Rg G b Lm (Rm b) I18 J) (j174 I18)) _ ?_ ?_
  · intro I18
    refine T_aload_n hok 0 rfl rfl dX11_keepText_174 ?_
    refine T_getR hok fr_X11_63 lm_0 rm_0_36 dX11_keepText_175 ?_
    refine T_iconst hok ic_3 dX11_keepText_178 ?_
    refine T_cv1 (CR_S (rest := []) hok (ct_X11_copies hA lm_17 I18 J (3 : Int32)) mw_X11_copies mst_X11_copies ml_X11_246 dX11_keepText_179 rfl rfl (roomOk rfl) rfl) rfl rfl ?_
    intro I19
    refine T_aload_n hok 0 rfl rfl dX11_keepText_182 ?_
    refine T_getR hok fr_X11_66 lm_0 rm_0_37 dX11_keepText_183 ?_
    refine T_iconst hok ic_3 dX11_keepText_186 ?_
    refine T_cv1 (CR_S (rest := []) hok (ct_X11_copies hA lm_18 I19 J (3 : Int32)) mw_X11_copies mst_X11_copies ml_X11_246 dX11_keepText_187 rfl rfl (roomOk rfl) rfl) rfl rfl ?_
    intro I20
    refine T_aload_n hok 0 rfl rfl dX11_keepText_190 ?_
    refine T_getR hok fr_X11_69 lm_0 rm_0_38 dX11_keepText_191 ?_
    refine T_bipush hok bp_64 dX11_keepText_194 ?_
    refine T_cv1 (CR_S (rest := []) hok (ct_X11_copies hA lm_19 I20 J (64 : Int32)) mw_X11_copies mst_X11_copies ml_X11_246 dX11_keepText_196 rfl rfl (roomOk rfl) rfl) rfl rfl ?_
    intro I21
    refine T_aload_n hok 0 rfl rfl dX11_keepText_199 ?_
    refine T_getR hok fr_X11_72 lm_0 rm_0_39 dX11_keepText_200 ?_
    refine T_bipush hok bp_64 dX11_keepText_203 ?_
    refine T_cv1 (CR_S (rest := []) hok (ct_X11_copies hA lm_20 I21 J (64 : Int32)) mw_X11_copies mst_X11_copies ml_X11_246 dX11_keepText_205 rfl rfl (roomOk rfl) rfl) rfl rfl ?_
    intro I22
    refine T_aload_n hok 0 rfl rfl dX11_keepText_208 ?_
    refine T_getR hok fr_X11_75 lm_0 rm_0_40 dX11_keepText_209 ?_
    refine T_bipush hok bp_64 dX11_keepText_212 ?_
    refine T_cv1 (CR_S (rest := []) hok (ct_X11_copies hA lm_21 I22 J (64 : Int32)) mw_X11_copies mst_X11_copies ml_X11_246 dX11_keepText_214 rfl rfl (roomOk rfl) rfl) rfl rfl ?_
    intro I23
    refine T_aload_n hok 0 rfl rfl dX11_keepText_217 ?_
    refine T_cv2 (CR_V (rest := []) hok (ct_X11_begin hA I23 J) mw_X11_begin mv_X11_begin ml_X11_250 lm_0 dX11_keepText_218 rfl rfl (roomOk rfl) rfl) rfl rfl ?_
    intro I24 J25
    exact T_vret hok dX11_keepText_221 (Nat.zero_le _) (Nat.zero_le _) rfl
  intro j174 hj174
  refine T_sub (lv' := [(0, .ref (b + 0)), (1, .int (0 : Int32))]) [1, 0] rfl ?_
  refine T_fix2 _ (fun (x26 : Int32) (I27 : MI) => [(0, .ref (b + 0)), (1, .int x26)]) (fun (x26 : Int32) (I27 : MI) => Rg G b Lm (Rm b) I27 J) ?_ FU (0 : Int32) I17
  intro r149 hr149 x26 I27
  refine T_iload_n hok 1 rfl rfl dX11_keepText_149 ?_
  refine T_iconst hok ic_3 dX11_keepText_150 ?_
  refine T_icmp_ge (tgt := 174) hok dX11_keepText_151 rfl ?_ ?_
  · refine T_sub (lv' := [(0, .ref (b + 0))]) [0] rfl ?_
    exact hj174 I27
  refine T_aload_n hok 0 rfl rfl dX11_keepText_154 ?_
  refine T_getR hok fr_X11_60 lm_0 rm_0_35 dX11_keepText_155 ?_
  refine T_iload_n hok 1 rfl rfl dX11_keepText_158 ?_
  refine T_aload_n hok 0 rfl rfl dX11_keepText_159 ?_
  refine T_getR hok fr_X11_60 lm_0 rm_0_35 dX11_keepText_160 ?_
  refine T_iconst hok ic_3 dX11_keepText_163 ?_
  refine T_iload_n hok 1 rfl rfl dX11_keepText_164 ?_
  refine T_iadd hok dX11_keepText_165 ?_
  refine T_zald hok lm_16 dX11_keepText_166 ?_
  refine T_zast hok hA lm_16 dX11_keepText_167 ?_
  intro I28
  refine T_iinc (lvs := fun x29 => [(1, .int x29), (0, .ref (b + 0))]) hok 1 rfl ic_1 (by decide) (fun _ => rfl) dX11_keepText_168 ?_
  intro x29
  refine T_goto (tgt := 149) hok dX11_keepText_171 rfl ?_
  refine T_sub (lv' := [(0, .ref (b + 0)), (1, .int x29)]) [1, 0] rfl ?_
  exact hr149 x29 I28

set_option maxHeartbeats 4000000 in
set_option maxRecDepth 100000 in
theorem ct_X11_find {G : Gx} {l0 : Launch} {A : Nat → Prop} {b : Nat} {L : List Kd} {R : MR} {pa na : Nat} (hA : ∀ k, k < L.length → A (b + k)) (hpa : L[pa]? = some (.inr (0, na))) (I : MI) (J : MJ) (a2 : Int32) (a3 : Int32) (a4 : Int32) : Ct G l0 A yX11_find cX11_find 5 (some .int) { frames := 0, cells := 0, slots := 0, locals := 0 } [.ref (b + pa), .int a2, .int a3, .int a4] (Rg G b L R I J) (ii0 (Rg G b L R I J)) (f_X11_find I pa na a2 a3 a4) := by
  refine Ct.of rfl (Nat.le_of_ble_eq_true rfl) ?_
  intro X hok
  replace hok : Ok G l0 X RX11 cX11_find 5 { frames := 0, cells := 0, slots := 0, locals := 0 } (some .int) := hok
  delta f_X11_find
  show T X A (Zm X A (ii0 (Rg G b L R I J))) 5 0 0 0 [(0, .ref (b + pa)), (1, .int a2), (2, .int a3), (3, .int a4)] [] (Rg G b L R I J) _
  refine T_iconst hok ic_0 dX11_find_0 ?_
  refine T_istore (lv' := [(4, .int (0 : Int32)), (0, .ref (b + pa)), (1, .int a2), (2, .int a3), (3, .int a4)]) hok (by decide) rfl dX11_find_1 ?_
  refine T_sub (lv' := [(0, .ref (b + pa)), (1, .int a2), (2, .int a3), (3, .int a4), (4, .int (0 : Int32))]) [1, 2, 3, 4, 0] rfl ?_
  refine T_fix1 _ (fun (x1 : Int32) => [(0, .ref (b + pa)), (1, .int a2), (2, .int a3), (3, .int a4), (4, .int x1)]) (fun (x1 : Int32) => Rg G b L R I J) ?_ FU (0 : Int32)
  intro r3 hr3 x1
  refine T_iload hok 4 rfl dX11_find_3 ?_
  refine T_iload_n hok 2 rfl rfl dX11_find_5 ?_
  refine T_icmp_ge (tgt := 28) hok dX11_find_6 rfl ?_ ?_
  · refine T_iconst hok ic_m1 dX11_find_28 ?_
    exact T_iret hok dX11_find_29 (Nat.zero_le _) (Nat.zero_le _) rfl
  refine T_aload_n hok 0 rfl rfl dX11_find_9 ?_
  refine T_iload_n hok 1 rfl rfl dX11_find_10 ?_
  refine T_iload hok 4 rfl dX11_find_11 ?_
  refine T_iadd hok dX11_find_13 ?_
  refine T_iald hok hpa dX11_find_14 ?_
  refine T_iload_n hok 3 rfl rfl dX11_find_15 ?_
  refine T_icmp_ne (tgt := 22) hok dX11_find_16 rfl ?_ ?_
  · refine T_iload hok 4 rfl dX11_find_19 ?_
    exact T_iret hok dX11_find_21 (Nat.zero_le _) (Nat.zero_le _) rfl
  refine T_iinc (lvs := fun x2 => [(4, .int x2), (0, .ref (b + pa)), (1, .int a2), (2, .int a3), (3, .int a4)]) hok 4 rfl ic_1 (by decide) (fun _ => rfl) dX11_find_22 ?_
  intro x2
  refine T_goto (tgt := 3) hok dX11_find_25 rfl ?_
  refine T_sub (lv' := [(0, .ref (b + pa)), (1, .int a2), (2, .int a3), (3, .int a4), (4, .int x2)]) [1, 2, 3, 4, 0] rfl ?_
  exact hr3 x2

set_option maxHeartbeats 4000000 in
set_option maxRecDepth 100000 in
theorem ct_X11_newName {G : Gx} {l0 : Launch} {A : Nat → Prop} {b : Nat} {pa na : Nat} (hA : ∀ k, k < Lm.length → A (b + k)) (hpa : Lm[pa]? = some (.inr (0, na))) (I : MI) (J : MJ) (a2 : Int32) (a3 : Int32) : Ct G l0 A yX11_newName cX11_newName 4 (some .boolean) { frames := 2, cells := 0, slots := 0, locals := 47 } [.ref (b + 0), .ref (b + pa), .int a2, .int a3] (Rg G b Lm (Rm b) I J) (iz1 (fun (I' : MI) => Rg G b Lm (Rm b) I' J)) (f_X11_newName I pa na a2 a3) := by
  refine Ct.of rfl (Nat.le_of_ble_eq_true rfl) ?_
  intro X hok
  replace hok : Ok G l0 X RX11 cX11_newName 4 { frames := 2, cells := 0, slots := 0, locals := 47 } (some .boolean) := hok
  delta f_X11_newName
  show T X A (Zm X A (iz1 (fun (I' : MI) => Rg G b Lm (Rm b) I' J))) 4 0 0 0 [(0, .ref (b + 0)), (1, .ref (b + pa)), (2, .int a2), (3, .int a3)] [] (Rg G b Lm (Rm b) I J) _
  refine T_aload_n hok 0 rfl rfl dX11_newName_0 ?_
  refine T_getI hok fr_X11_169 lm_0 dX11_newName_1 ?_
  refine T_iconst hok ic_2 dX11_newName_4 ?_
  refine T_icmp_eq (tgt := 14) hok dX11_newName_5 rfl ?_ ?_
  · refine T_aload_n hok 1 rfl rfl dX11_newName_14 ?_
    refine T_iload_n hok 2 rfl rfl dX11_newName_15 ?_
    refine T_iload_n hok 3 rfl rfl dX11_newName_16 ?_
    refine T_aload_n hok 0 rfl rfl dX11_newName_17 ?_
    refine T_getI hok fr_X11_180 lm_0 dX11_newName_18 ?_
    refine T_ci0 (CR_S (rest := []) hok (ct_X11_find hA hpa I J a2 a3 (I 0 9)) mw_X11_find mst_X11_find ml_X11_253 dX11_newName_21 rfl rfl (roomOk rfl) rfl) rfl rfl ?_
    intro x1
    refine T_if_lt (tgt := 33) hok dX11_newName_24 rfl ?_ ?_
    · refine T_aload_n hok 1 rfl rfl dX11_newName_33 ?_
      refine T_iload_n hok 2 rfl rfl dX11_newName_34 ?_
      refine T_iload_n hok 3 rfl rfl dX11_newName_35 ?_
      refine T_iadd hok dX11_newName_36 ?_
      refine T_aload_n hok 0 rfl rfl dX11_newName_37 ?_
      refine T_getI hok fr_X11_180 lm_0 dX11_newName_38 ?_
      refine T_iast hok hA hpa dX11_newName_41 ?_
      intro I2
      refine T_aload_n hok 0 rfl rfl dX11_newName_42 ?_
      refine T_cv1 (CR_V (rest := []) hok (ct_X11_token hA I2 J) mw_X11_token mv_X11_token ml_X11_203 lm_0 dX11_newName_43 rfl rfl (roomOk rfl) rfl) rfl rfl ?_
      intro I3
      refine T_iconst hok ic_1 dX11_newName_46 ?_
      exact T_zret hok dX11_newName_47 (Nat.zero_le _) (Nat.zero_le _) rfl rfl
    refine T_aload_n hok 0 rfl rfl dX11_newName_27 ?_
    refine T_iconst hok ic_3 dX11_newName_28 ?_
    refine T_cz1 (CR_V (rest := []) hok (ct_X11_wrong hA I J (3 : Int32)) mw_X11_wrong mv_X11_wrong ml_X11_193 lm_0 dX11_newName_29 rfl rfl (roomOk rfl) rfl) rfl rfl ?_
    intro x4 I5
    exact T_zret hok dX11_newName_32 (Nat.zero_le _) (Nat.zero_le _) (bi_01 _) rfl
  refine T_aload_n hok 0 rfl rfl dX11_newName_8 ?_
  refine T_iconst hok ic_1 dX11_newName_9 ?_
  refine T_cz1 (CR_V (rest := []) hok (ct_X11_wrong hA I J (1 : Int32)) mw_X11_wrong mv_X11_wrong ml_X11_193 lm_0 dX11_newName_10 rfl rfl (roomOk rfl) rfl) rfl rfl ?_
  intro x6 I7
  exact T_zret hok dX11_newName_13 (Nat.zero_le _) (Nat.zero_le _) (bi_01 _) rfl

set_option maxHeartbeats 4000000 in
set_option maxRecDepth 100000 in
theorem ct_X11_thereIn {G : Gx} {l0 : Launch} {A : Nat → Prop} {b : Nat} {pa na : Nat} (hA : ∀ k, k < Lm.length → A (b + k)) (hpa : Lm[pa]? = some (.inr (0, na))) (I : MI) (J : MJ) (a2 : Int32) (a3 : Int32) : Ct G l0 A yX11_thereIn cX11_thereIn 5 (some .boolean) { frames := 2, cells := 0, slots := 0, locals := 47 } [.ref (b + 0), .ref (b + pa), .int a2, .int a3] (Rg G b Lm (Rm b) I J) (iz1 (fun (I' : MI) => Rg G b Lm (Rm b) I' J)) (f_X11_thereIn I pa na a2 a3) := by
  refine Ct.of rfl (Nat.le_of_ble_eq_true rfl) ?_
  intro X hok
  replace hok : Ok G l0 X RX11 cX11_thereIn 5 { frames := 2, cells := 0, slots := 0, locals := 47 } (some .boolean) := hok
  delta f_X11_thereIn
  show T X A (Zm X A (iz1 (fun (I' : MI) => Rg G b Lm (Rm b) I' J))) 5 0 0 0 [(0, .ref (b + 0)), (1, .ref (b + pa)), (2, .int a2), (3, .int a3)] [] (Rg G b Lm (Rm b) I J) _
  refine T_aload_n hok 0 rfl rfl dX11_thereIn_0 ?_
  refine T_getI hok fr_X11_169 lm_0 dX11_thereIn_1 ?_
  refine T_iconst hok ic_2 dX11_thereIn_4 ?_
  refine T_icmp_eq (tgt := 14) hok dX11_thereIn_5 rfl ?_ ?_
  · refine T_aload_n hok 1 rfl rfl dX11_thereIn_14 ?_
    refine T_iload_n hok 2 rfl rfl dX11_thereIn_15 ?_
    refine T_iload_n hok 3 rfl rfl dX11_thereIn_16 ?_
    refine T_aload_n hok 0 rfl rfl dX11_thereIn_17 ?_
    refine T_getI hok fr_X11_180 lm_0 dX11_thereIn_18 ?_
    refine T_ci0 (CR_S (rest := []) hok (ct_X11_find hA hpa I J a2 a3 (I 0 9)) mw_X11_find mst_X11_find ml_X11_253 dX11_thereIn_21 rfl rfl (roomOk rfl) rfl) rfl rfl ?_
    intro x1
    refine T_istore (lv' := [(4, .int x1), (0, .ref (b + 0)), (1, .ref (b + pa)), (2, .int a2), (3, .int a3)]) hok (by decide) rfl dX11_thereIn_24 ?_
    refine T_iload hok 0 rfl dX11_thereIn_26 ?_
    refine T_if_ge (tgt := 37) hok dX11_thereIn_28 rfl ?_ ?_
    · refine T_aload_n hok 1 rfl rfl dX11_thereIn_37 ?_
      refine T_cv1 (CR_V (rest := []) hok (ct_X11_token hA I J) mw_X11_token mv_X11_token ml_X11_203 lm_0 dX11_thereIn_38 rfl rfl (roomOk rfl) rfl) rfl rfl ?_
      intro I2
      refine T_aload_n hok 1 rfl rfl dX11_thereIn_41 ?_
      refine T_iload hok 0 rfl dX11_thereIn_42 ?_
      refine T_putI hok hA fr_X11_200 rfl rfl lm_0 dX11_thereIn_44 ?_
      intro I3
      refine T_iconst hok ic_1 dX11_thereIn_47 ?_
      exact T_zret hok dX11_thereIn_48 (Nat.zero_le _) (Nat.zero_le _) rfl rfl
    refine T_aload_n hok 1 rfl rfl dX11_thereIn_31 ?_
    refine T_iconst hok ic_4 dX11_thereIn_32 ?_
    refine T_cz1 (CR_V (rest := []) hok (ct_X11_wrong hA I J (4 : Int32)) mw_X11_wrong mv_X11_wrong ml_X11_193 lm_0 dX11_thereIn_33 rfl rfl (roomOk rfl) rfl) rfl rfl ?_
    intro x4 I5
    exact T_zret hok dX11_thereIn_36 (Nat.zero_le _) (Nat.zero_le _) (bi_01 _) rfl
  refine T_aload_n hok 0 rfl rfl dX11_thereIn_8 ?_
  refine T_iconst hok ic_1 dX11_thereIn_9 ?_
  refine T_cz1 (CR_V (rest := []) hok (ct_X11_wrong hA I J (1 : Int32)) mw_X11_wrong mv_X11_wrong ml_X11_193 lm_0 dX11_thereIn_10 rfl rfl (roomOk rfl) rfl) rfl rfl ?_
  intro x6 I7
  exact T_zret hok dX11_thereIn_13 (Nat.zero_le _) (Nat.zero_le _) (bi_01 _) rfl

set_option maxHeartbeats 4000000 in
set_option maxRecDepth 100000 in
theorem ct_X11_kindLine {G : Gx} {l0 : Launch} {A : Nat → Prop} {b : Nat} (hA : ∀ k, k < Lm.length → A (b + k)) (I : MI) (J : MJ) : Ct G l0 A yX11_kindLine cX11_kindLine 2 (some .boolean) { frames := 3, cells := 0, slots := 0, locals := 70 } [.ref (b + 0)] (Rg G b Lm (Rm b) I J) (iz1 (fun (I' : MI) => Rg G b Lm (Rm b) I' J)) (f_X11_kindLine I) := by
  refine Ct.of rfl (Nat.le_of_ble_eq_true rfl) ?_
  intro X hok
  replace hok : Ok G l0 X RX11 cX11_kindLine 2 { frames := 3, cells := 0, slots := 0, locals := 70 } (some .boolean) := hok
  delta f_X11_kindLine
  show T X A (Zm X A (iz1 (fun (I' : MI) => Rg G b Lm (Rm b) I' J))) 2 0 0 0 [(0, .ref (b + 0))] [] (Rg G b Lm (Rm b) I J) _
  refine T_aload_n hok 0 rfl rfl dX11_kindLine_0 ?_
  refine T_getI hok fr_X11_213 lm_0 dX11_kindLine_1 ?_
  refine T_bipush hok bp_6 dX11_kindLine_4 ?_
  refine T_icmp_ne (tgt := 15) hok dX11_kindLine_6 rfl ?_ ?_
  · refine T_aload_n hok 0 rfl rfl dX11_kindLine_9 ?_
    refine T_iconst hok ic_2 dX11_kindLine_10 ?_
    refine T_cz1 (CR_V (rest := []) hok (ct_X11_wrong hA I J (2 : Int32)) mw_X11_wrong mv_X11_wrong ml_X11_193 lm_0 dX11_kindLine_11 rfl rfl (roomOk rfl) rfl) rfl rfl ?_
    intro x1 I2
    exact T_zret hok dX11_kindLine_14 (Nat.zero_le _) (Nat.zero_le _) (bi_01 _) rfl
  refine T_aload_n hok 0 rfl rfl dX11_kindLine_15 ?_
  refine T_cv1 (CR_V (rest := []) hok (ct_X11_token hA I J) mw_X11_token mv_X11_token ml_X11_203 lm_0 dX11_kindLine_16 rfl rfl (roomOk rfl) rfl) rfl rfl ?_
  intro I3
  refine T_aload_n hok 0 rfl rfl dX11_kindLine_19 ?_
  refine T_aload_n hok 0 rfl rfl dX11_kindLine_20 ?_
  refine T_getR hok fr_X11_27 lm_0 rm_0_24 dX11_kindLine_21 ?_
  refine T_bipush hok bp_6 dX11_kindLine_24 ?_
  refine T_aload_n hok 0 rfl rfl dX11_kindLine_26 ?_
  refine T_getI hok fr_X11_213 lm_0 dX11_kindLine_27 ?_
  refine T_cz1 (CR_V (rest := []) hok (ct_X11_newName hA lm_5 I3 J (6 : Int32) (I3 0 17)) mw_X11_newName mv_X11_newName ml_X11_257 lm_0 dX11_kindLine_30 rfl rfl (roomOk rfl) rfl) rfl rfl ?_
  intro x4 I5
  refine T_ifb_ne (tgt := 38) hok dX11_kindLine_33 rfl ?_ ?_
  · refine T_bipush hok bp_6 dX11_kindLine_38 ?_
    refine T_aload_n hok 0 rfl rfl dX11_kindLine_40 ?_
    refine T_getI hok fr_X11_213 lm_0 dX11_kindLine_41 ?_
    refine T_iadd hok dX11_kindLine_44 ?_
    refine T_lti ?_
    intro x6
    refine T_istore_n (lv' := [(1, .int x6), (0, .ref (b + 0))]) hok rfl (by decide) rfl dX11_kindLine_45 ?_
    refine T_aload_n hok 1 rfl rfl dX11_kindLine_46 ?_
    refine T_iconst hok ic_0 dX11_kindLine_47 ?_
    refine T_bipush hok bp_99 dX11_kindLine_48 ?_
    refine T_cz1 (CR_V (rest := []) hok (ct_X11_number hA I5 J (0 : Int32) (99 : Int32)) mw_X11_number mv_X11_number ml_X11_209 lm_0 dX11_kindLine_50 rfl rfl (roomOk rfl) rfl) rfl rfl ?_
    intro x7 I8
    refine T_ifb_ne (tgt := 58) hok dX11_kindLine_53 rfl ?_ ?_
    · refine T_aload_n hok 1 rfl rfl dX11_kindLine_58 ?_
      refine T_getR hok fr_X11_30 lm_0 rm_0_25 dX11_kindLine_59 ?_
      refine T_iload_n hok 0 rfl rfl dX11_kindLine_62 ?_
      refine T_aload_n hok 1 rfl rfl dX11_kindLine_63 ?_
      refine T_getI hok fr_X11_200 lm_0 dX11_kindLine_64 ?_
      refine T_iast hok hA lm_6 dX11_kindLine_67 ?_
      intro I9
      refine T_aload_n hok 1 rfl rfl dX11_kindLine_68 ?_
      refine T_iconst hok ic_0 dX11_kindLine_69 ?_
      refine T_bipush hok bp_99 dX11_kindLine_70 ?_
      refine T_cz1 (CR_V (rest := []) hok (ct_X11_number hA I9 J (0 : Int32) (99 : Int32)) mw_X11_number mv_X11_number ml_X11_209 lm_0 dX11_kindLine_72 rfl rfl (roomOk rfl) rfl) rfl rfl ?_
      intro x10 I11
      refine T_ifb_ne (tgt := 80) hok dX11_kindLine_75 rfl ?_ ?_
      · refine T_aload_n hok 1 rfl rfl dX11_kindLine_80 ?_
        refine T_getR hok fr_X11_33 lm_0 rm_0_26 dX11_kindLine_81 ?_
        refine T_iload_n hok 0 rfl rfl dX11_kindLine_84 ?_
        refine T_aload_n hok 1 rfl rfl dX11_kindLine_85 ?_
        refine T_getI hok fr_X11_200 lm_0 dX11_kindLine_86 ?_
        refine T_iast hok hA lm_7 dX11_kindLine_89 ?_
        intro I12
        refine T_aload_n hok 1 rfl rfl dX11_kindLine_90 ?_
        refine T_dup hok rfl dX11_kindLine_91 ?_
        refine T_getI hok fr_X11_213 lm_0 dX11_kindLine_92 ?_
        refine T_iconst hok ic_1 dX11_kindLine_95 ?_
        refine T_iadd hok dX11_kindLine_96 ?_
        refine T_putI hok hA fr_X11_213 rfl rfl lm_0 dX11_kindLine_97 ?_
        intro I13
        refine T_iconst hok ic_1 dX11_kindLine_100 ?_
        exact T_zret hok dX11_kindLine_101 (Nat.zero_le _) (Nat.zero_le _) rfl rfl
      refine T_iconst hok ic_0 dX11_kindLine_78 ?_
      exact T_zret hok dX11_kindLine_79 (Nat.zero_le _) (Nat.zero_le _) rfl rfl
    refine T_iconst hok ic_0 dX11_kindLine_56 ?_
    exact T_zret hok dX11_kindLine_57 (Nat.zero_le _) (Nat.zero_le _) rfl rfl
  refine T_iconst hok ic_0 dX11_kindLine_36 ?_
  exact T_zret hok dX11_kindLine_37 (Nat.zero_le _) (Nat.zero_le _) rfl rfl

set_option maxHeartbeats 4000000 in
set_option maxRecDepth 100000 in
theorem ct_X11_houseLine {G : Gx} {l0 : Launch} {A : Nat → Prop} {b : Nat} (hA : ∀ k, k < Lm.length → A (b + k)) (I : MI) (J : MJ) : Ct G l0 A yX11_houseLine cX11_houseLine 2 (some .boolean) { frames := 3, cells := 0, slots := 0, locals := 70 } [.ref (b + 0)] (Rg G b Lm (Rm b) I J) (iz1 (fun (I' : MI) => Rg G b Lm (Rm b) I' J)) (f_X11_houseLine I) := by
  refine Ct.of rfl (Nat.le_of_ble_eq_true rfl) ?_
  intro X hok
  replace hok : Ok G l0 X RX11 cX11_houseLine 2 { frames := 3, cells := 0, slots := 0, locals := 70 } (some .boolean) := hok
  delta f_X11_houseLine
  show T X A (Zm X A (iz1 (fun (I' : MI) => Rg G b Lm (Rm b) I' J))) 2 0 0 0 [(0, .ref (b + 0))] [] (Rg G b Lm (Rm b) I J) _
  refine T_aload_n hok 0 rfl rfl dX11_houseLine_0 ?_
  refine T_getI hok fr_X11_216 lm_0 dX11_houseLine_1 ?_
  refine T_bipush hok bp_6 dX11_houseLine_4 ?_
  refine T_icmp_ne (tgt := 15) hok dX11_houseLine_6 rfl ?_ ?_
  · refine T_aload_n hok 0 rfl rfl dX11_houseLine_9 ?_
    refine T_iconst hok ic_2 dX11_houseLine_10 ?_
    refine T_cz1 (CR_V (rest := []) hok (ct_X11_wrong hA I J (2 : Int32)) mw_X11_wrong mv_X11_wrong ml_X11_193 lm_0 dX11_houseLine_11 rfl rfl (roomOk rfl) rfl) rfl rfl ?_
    intro x1 I2
    exact T_zret hok dX11_houseLine_14 (Nat.zero_le _) (Nat.zero_le _) (bi_01 _) rfl
  refine T_aload_n hok 0 rfl rfl dX11_houseLine_15 ?_
  refine T_cv1 (CR_V (rest := []) hok (ct_X11_token hA I J) mw_X11_token mv_X11_token ml_X11_203 lm_0 dX11_houseLine_16 rfl rfl (roomOk rfl) rfl) rfl rfl ?_
  intro I3
  refine T_aload_n hok 0 rfl rfl dX11_houseLine_19 ?_
  refine T_aload_n hok 0 rfl rfl dX11_houseLine_20 ?_
  refine T_getR hok fr_X11_36 lm_0 rm_0_27 dX11_houseLine_21 ?_
  refine T_bipush hok bp_6 dX11_houseLine_24 ?_
  refine T_aload_n hok 0 rfl rfl dX11_houseLine_26 ?_
  refine T_getI hok fr_X11_216 lm_0 dX11_houseLine_27 ?_
  refine T_cz1 (CR_V (rest := []) hok (ct_X11_newName hA lm_8 I3 J (6 : Int32) (I3 0 18)) mw_X11_newName mv_X11_newName ml_X11_257 lm_0 dX11_houseLine_30 rfl rfl (roomOk rfl) rfl) rfl rfl ?_
  intro x4 I5
  refine T_ifb_ne (tgt := 38) hok dX11_houseLine_33 rfl ?_ ?_
  · refine T_bipush hok bp_6 dX11_houseLine_38 ?_
    refine T_aload_n hok 0 rfl rfl dX11_houseLine_40 ?_
    refine T_getI hok fr_X11_216 lm_0 dX11_houseLine_41 ?_
    refine T_iadd hok dX11_houseLine_44 ?_
    refine T_lti ?_
    intro x6
    refine T_istore_n (lv' := [(1, .int x6), (0, .ref (b + 0))]) hok rfl (by decide) rfl dX11_houseLine_45 ?_
    refine T_aload_n hok 1 rfl rfl dX11_houseLine_46 ?_
    refine T_iconst hok ic_0 dX11_houseLine_47 ?_
    refine T_sipush hok sp_999 dX11_houseLine_48 ?_
    refine T_cz1 (CR_V (rest := []) hok (ct_X11_number hA I5 J (0 : Int32) (999 : Int32)) mw_X11_number mv_X11_number ml_X11_209 lm_0 dX11_houseLine_51 rfl rfl (roomOk rfl) rfl) rfl rfl ?_
    intro x7 I8
    refine T_ifb_ne (tgt := 59) hok dX11_houseLine_54 rfl ?_ ?_
    · refine T_aload_n hok 1 rfl rfl dX11_houseLine_59 ?_
      refine T_getR hok fr_X11_39 lm_0 rm_0_28 dX11_houseLine_60 ?_
      refine T_iload_n hok 0 rfl rfl dX11_houseLine_63 ?_
      refine T_aload_n hok 1 rfl rfl dX11_houseLine_64 ?_
      refine T_getI hok fr_X11_200 lm_0 dX11_houseLine_65 ?_
      refine T_iast hok hA lm_9 dX11_houseLine_68 ?_
      intro I9
      refine T_aload_n hok 1 rfl rfl dX11_houseLine_69 ?_
      refine T_iconst hok ic_0 dX11_houseLine_70 ?_
      refine T_bipush hok bp_9 dX11_houseLine_71 ?_
      refine T_cz1 (CR_V (rest := []) hok (ct_X11_number hA I9 J (0 : Int32) (9 : Int32)) mw_X11_number mv_X11_number ml_X11_209 lm_0 dX11_houseLine_73 rfl rfl (roomOk rfl) rfl) rfl rfl ?_
      intro x10 I11
      refine T_ifb_ne (tgt := 81) hok dX11_houseLine_76 rfl ?_ ?_
      · refine T_aload_n hok 1 rfl rfl dX11_houseLine_81 ?_
        refine T_getR hok fr_X11_42 lm_0 rm_0_29 dX11_houseLine_82 ?_
        refine T_iload_n hok 0 rfl rfl dX11_houseLine_85 ?_
        refine T_aload_n hok 1 rfl rfl dX11_houseLine_86 ?_
        refine T_getI hok fr_X11_200 lm_0 dX11_houseLine_87 ?_
        refine T_iast hok hA lm_10 dX11_houseLine_90 ?_
        intro I12
        refine T_aload_n hok 1 rfl rfl dX11_houseLine_91 ?_
        refine T_iconst hok ic_0 dX11_houseLine_92 ?_
        refine T_bipush hok bp_99 dX11_houseLine_93 ?_
        refine T_cz1 (CR_V (rest := []) hok (ct_X11_number hA I12 J (0 : Int32) (99 : Int32)) mw_X11_number mv_X11_number ml_X11_209 lm_0 dX11_houseLine_95 rfl rfl (roomOk rfl) rfl) rfl rfl ?_
        intro x13 I14
        refine T_ifb_ne (tgt := 103) hok dX11_houseLine_98 rfl ?_ ?_
        · refine T_aload_n hok 1 rfl rfl dX11_houseLine_103 ?_
          refine T_getR hok fr_X11_45 lm_0 rm_0_30 dX11_houseLine_104 ?_
          refine T_iload_n hok 0 rfl rfl dX11_houseLine_107 ?_
          refine T_aload_n hok 1 rfl rfl dX11_houseLine_108 ?_
          refine T_getI hok fr_X11_200 lm_0 dX11_houseLine_109 ?_
          refine T_iast hok hA lm_11 dX11_houseLine_112 ?_
          intro I15
          refine T_aload_n hok 1 rfl rfl dX11_houseLine_113 ?_
          refine T_dup hok rfl dX11_houseLine_114 ?_
          refine T_getI hok fr_X11_216 lm_0 dX11_houseLine_115 ?_
          refine T_iconst hok ic_1 dX11_houseLine_118 ?_
          refine T_iadd hok dX11_houseLine_119 ?_
          refine T_putI hok hA fr_X11_216 rfl rfl lm_0 dX11_houseLine_120 ?_
          intro I16
          refine T_iconst hok ic_1 dX11_houseLine_123 ?_
          exact T_zret hok dX11_houseLine_124 (Nat.zero_le _) (Nat.zero_le _) rfl rfl
        refine T_iconst hok ic_0 dX11_houseLine_101 ?_
        exact T_zret hok dX11_houseLine_102 (Nat.zero_le _) (Nat.zero_le _) rfl rfl
      refine T_iconst hok ic_0 dX11_houseLine_79 ?_
      exact T_zret hok dX11_houseLine_80 (Nat.zero_le _) (Nat.zero_le _) rfl rfl
    refine T_iconst hok ic_0 dX11_houseLine_57 ?_
    exact T_zret hok dX11_houseLine_58 (Nat.zero_le _) (Nat.zero_le _) rfl rfl
  refine T_iconst hok ic_0 dX11_houseLine_36 ?_
  exact T_zret hok dX11_houseLine_37 (Nat.zero_le _) (Nat.zero_le _) rfl rfl

set_option maxHeartbeats 4000000 in
set_option maxRecDepth 100000 in
theorem ct_X11_dayLine {G : Gx} {l0 : Launch} {A : Nat → Prop} {b : Nat} (hA : ∀ k, k < Lm.length → A (b + k)) (I : MI) (J : MJ) : Ct G l0 A yX11_dayLine cX11_dayLine 3 (some .boolean) { frames := 3, cells := 0, slots := 0, locals := 71 } [.ref (b + 0)] (Rg G b Lm (Rm b) I J) (iz1 (fun (I' : MI) => Rg G b Lm (Rm b) I' J)) (f_X11_dayLine I) := by
  refine Ct.of rfl (Nat.le_of_ble_eq_true rfl) ?_
  intro X hok
  replace hok : Ok G l0 X RX11 cX11_dayLine 3 { frames := 3, cells := 0, slots := 0, locals := 71 } (some .boolean) := hok
  delta f_X11_dayLine
  show T X A (Zm X A (iz1 (fun (I' : MI) => Rg G b Lm (Rm b) I' J))) 3 0 0 0 [(0, .ref (b + 0))] [] (Rg G b Lm (Rm b) I J) _
  refine T_aload_n hok 0 rfl rfl dX11_dayLine_0 ?_
  refine T_getI hok fr_X11_219 lm_0 dX11_dayLine_1 ?_
  refine T_bipush hok bp_20 dX11_dayLine_4 ?_
  refine T_icmp_ne (tgt := 15) hok dX11_dayLine_6 rfl ?_ ?_
  · refine T_aload_n hok 0 rfl rfl dX11_dayLine_9 ?_
    refine T_iconst hok ic_2 dX11_dayLine_10 ?_
    refine T_cz1 (CR_V (rest := []) hok (ct_X11_wrong hA I J (2 : Int32)) mw_X11_wrong mv_X11_wrong ml_X11_193 lm_0 dX11_dayLine_11 rfl rfl (roomOk rfl) rfl) rfl rfl ?_
    intro x1 I2
    exact T_zret hok dX11_dayLine_14 (Nat.zero_le _) (Nat.zero_le _) (bi_01 _) rfl
  refine T_aload_n hok 0 rfl rfl dX11_dayLine_15 ?_
  refine T_cv1 (CR_V (rest := []) hok (ct_X11_token hA I J) mw_X11_token mv_X11_token ml_X11_203 lm_0 dX11_dayLine_16 rfl rfl (roomOk rfl) rfl) rfl rfl ?_
  intro I3
  refine T_aload_n hok 0 rfl rfl dX11_dayLine_19 ?_
  refine T_getI hok fr_X11_160 lm_0 dX11_dayLine_20 ?_
  refine T_lti ?_
  intro x4
  refine T_istore_n (lv' := [(1, .int x4), (0, .ref (b + 0))]) hok rfl (by decide) rfl dX11_dayLine_23 ?_
  refine T_aload_n hok 1 rfl rfl dX11_dayLine_24 ?_
  refine T_iconst hok ic_0 dX11_dayLine_25 ?_
  refine T_bipush hok bp_99 dX11_dayLine_26 ?_
  refine T_cz1 (CR_V (rest := []) hok (ct_X11_number hA I3 J (0 : Int32) (99 : Int32)) mw_X11_number mv_X11_number ml_X11_209 lm_0 dX11_dayLine_28 rfl rfl (roomOk rfl) rfl) rfl rfl ?_
  intro x5 I6
  refine T_ifb_ne (tgt := 36) hok dX11_dayLine_31 rfl ?_ ?_
  · refine T_bipush hok bp_20 dX11_dayLine_36 ?_
    refine T_aload_n hok 1 rfl rfl dX11_dayLine_38 ?_
    refine T_getI hok fr_X11_219 lm_0 dX11_dayLine_39 ?_
    refine T_iadd hok dX11_dayLine_42 ?_
    refine T_lti ?_
    intro x7
    refine T_istore_n (lv' := [(2, .int x7), (1, .int x4), (0, .ref (b + 0))]) hok rfl (by decide) rfl dX11_dayLine_43 ?_
    refine T_aload_n hok 2 rfl rfl dX11_dayLine_44 ?_
    refine T_getR hok fr_X11_48 lm_0 rm_0_31 dX11_dayLine_45 ?_
    refine T_iload_n hok 0 rfl rfl dX11_dayLine_48 ?_
    refine T_aload_n hok 2 rfl rfl dX11_dayLine_49 ?_
    refine T_getI hok fr_X11_200 lm_0 dX11_dayLine_50 ?_
    refine T_iast hok hA lm_12 dX11_dayLine_53 ?_
    intro I8
    refine T_aload_n hok 2 rfl rfl dX11_dayLine_54 ?_
    refine T_getR hok fr_X11_48 lm_0 rm_0_31 dX11_dayLine_55 ?_
    refine T_bipush hok bp_20 dX11_dayLine_58 ?_
    refine T_aload_n hok 2 rfl rfl dX11_dayLine_60 ?_
    refine T_getI hok fr_X11_219 lm_0 dX11_dayLine_61 ?_
    refine T_aload_n hok 2 rfl rfl dX11_dayLine_64 ?_
    refine T_getI hok fr_X11_200 lm_0 dX11_dayLine_65 ?_
    refine T_ci0 (CR_S (rest := []) hok (ct_X11_find hA lm_12 I8 J (20 : Int32) (I8 0 19) (I8 0 11)) mw_X11_find mst_X11_find ml_X11_253 dX11_dayLine_68 rfl rfl (roomOk rfl) rfl) rfl rfl ?_
    intro x9
    refine T_if_lt (tgt := 85) hok dX11_dayLine_71 rfl ?_ ?_
    · refine T_aload_n hok 2 rfl rfl dX11_dayLine_85 ?_
      refine T_aload_n hok 2 rfl rfl dX11_dayLine_86 ?_
      refine T_getR hok fr_X11_27 lm_0 rm_0_24 dX11_dayLine_87 ?_
      refine T_bipush hok bp_6 dX11_dayLine_90 ?_
      refine T_aload_n hok 2 rfl rfl dX11_dayLine_92 ?_
      refine T_getI hok fr_X11_213 lm_0 dX11_dayLine_93 ?_
      refine T_cz1 (CR_V (rest := []) hok (ct_X11_thereIn hA lm_5 I8 J (6 : Int32) (I8 0 17)) mw_X11_thereIn mv_X11_thereIn ml_X11_261 lm_0 dX11_dayLine_96 rfl rfl (roomOk rfl) rfl) rfl rfl ?_
      intro x10 I11
      refine T_ifb_ne (tgt := 104) hok dX11_dayLine_99 rfl ?_ ?_
      · refine T_aload_n hok 2 rfl rfl dX11_dayLine_104 ?_
        refine T_getR hok fr_X11_51 lm_0 rm_0_32 dX11_dayLine_105 ?_
        refine T_iload_n hok 0 rfl rfl dX11_dayLine_108 ?_
        refine T_aload_n hok 2 rfl rfl dX11_dayLine_109 ?_
        refine T_getI hok fr_X11_200 lm_0 dX11_dayLine_110 ?_
        refine T_iast hok hA lm_13 dX11_dayLine_113 ?_
        intro I12
        refine T_aload_n hok 2 rfl rfl dX11_dayLine_114 ?_
        refine T_dup hok rfl dX11_dayLine_115 ?_
        refine T_getI hok fr_X11_219 lm_0 dX11_dayLine_116 ?_
        refine T_iconst hok ic_1 dX11_dayLine_119 ?_
        refine T_iadd hok dX11_dayLine_120 ?_
        refine T_putI hok hA fr_X11_219 rfl rfl lm_0 dX11_dayLine_121 ?_
        intro I13
        refine T_iconst hok ic_1 dX11_dayLine_124 ?_
        exact T_zret hok dX11_dayLine_125 (Nat.zero_le _) (Nat.zero_le _) rfl rfl
      refine T_iconst hok ic_0 dX11_dayLine_102 ?_
      exact T_zret hok dX11_dayLine_103 (Nat.zero_le _) (Nat.zero_le _) rfl rfl
    refine T_aload_n hok 2 rfl rfl dX11_dayLine_74 ?_
    refine T_iload_n hok 1 rfl rfl dX11_dayLine_75 ?_
    refine T_putI hok hA fr_X11_160 rfl rfl lm_0 dX11_dayLine_76 ?_
    intro I14
    refine T_aload_n hok 2 rfl rfl dX11_dayLine_79 ?_
    refine T_iconst hok ic_3 dX11_dayLine_80 ?_
    refine T_cz1 (CR_V (rest := []) hok (ct_X11_wrong hA I14 J (3 : Int32)) mw_X11_wrong mv_X11_wrong ml_X11_193 lm_0 dX11_dayLine_81 rfl rfl (roomOk rfl) rfl) rfl rfl ?_
    intro x15 I16
    exact T_zret hok dX11_dayLine_84 (Nat.zero_le _) (Nat.zero_le _) (bi_01 _) rfl
  refine T_iconst hok ic_0 dX11_dayLine_34 ?_
  exact T_zret hok dX11_dayLine_35 (Nat.zero_le _) (Nat.zero_le _) rfl rfl

set_option maxHeartbeats 4000000 in
set_option maxRecDepth 100000 in
theorem ct_X11_workLine {G : Gx} {l0 : Launch} {A : Nat → Prop} {b : Nat} (hA : ∀ k, k < Lm.length → A (b + k)) (I : MI) (J : MJ) : Ct G l0 A yX11_workLine cX11_workLine 2 (some .boolean) { frames := 3, cells := 0, slots := 0, locals := 71 } [.ref (b + 0)] (Rg G b Lm (Rm b) I J) (iz1 (fun (I' : MI) => Rg G b Lm (Rm b) I' J)) (f_X11_workLine I) := by
  refine Ct.of rfl (Nat.le_of_ble_eq_true rfl) ?_
  intro X hok
  replace hok : Ok G l0 X RX11 cX11_workLine 2 { frames := 3, cells := 0, slots := 0, locals := 71 } (some .boolean) := hok
  delta f_X11_workLine
  show T X A (Zm X A (iz1 (fun (I' : MI) => Rg G b Lm (Rm b) I' J))) 2 0 0 0 [(0, .ref (b + 0))] [] (Rg G b Lm (Rm b) I J) _
  refine T_aload_n hok 0 rfl rfl dX11_workLine_0 ?_
  refine T_getI hok fr_X11_222 lm_0 dX11_workLine_1 ?_
  refine T_bipush hok bp_6 dX11_workLine_4 ?_
  refine T_icmp_ne (tgt := 15) hok dX11_workLine_6 rfl ?_ ?_
  · refine T_aload_n hok 0 rfl rfl dX11_workLine_9 ?_
    refine T_iconst hok ic_2 dX11_workLine_10 ?_
    refine T_cz1 (CR_V (rest := []) hok (ct_X11_wrong hA I J (2 : Int32)) mw_X11_wrong mv_X11_wrong ml_X11_193 lm_0 dX11_workLine_11 rfl rfl (roomOk rfl) rfl) rfl rfl ?_
    intro x1 I2
    exact T_zret hok dX11_workLine_14 (Nat.zero_le _) (Nat.zero_le _) (bi_01 _) rfl
  refine T_aload_n hok 0 rfl rfl dX11_workLine_15 ?_
  refine T_cv1 (CR_V (rest := []) hok (ct_X11_token hA I J) mw_X11_token mv_X11_token ml_X11_203 lm_0 dX11_workLine_16 rfl rfl (roomOk rfl) rfl) rfl rfl ?_
  intro I3
  refine T_bipush hok bp_6 dX11_workLine_19 ?_
  refine T_aload_n hok 0 rfl rfl dX11_workLine_21 ?_
  refine T_getI hok fr_X11_222 lm_0 dX11_workLine_22 ?_
  refine T_iadd hok dX11_workLine_25 ?_
  refine T_lti ?_
  intro x4
  refine T_istore_n (lv' := [(1, .int x4), (0, .ref (b + 0))]) hok rfl (by decide) rfl dX11_workLine_26 ?_
  refine T_aload_n hok 1 rfl rfl dX11_workLine_27 ?_
  refine T_aload_n hok 1 rfl rfl dX11_workLine_28 ?_
  refine T_getR hok fr_X11_36 lm_0 rm_0_27 dX11_workLine_29 ?_
  refine T_bipush hok bp_6 dX11_workLine_32 ?_
  refine T_aload_n hok 1 rfl rfl dX11_workLine_34 ?_
  refine T_getI hok fr_X11_216 lm_0 dX11_workLine_35 ?_
  refine T_cz1 (CR_V (rest := []) hok (ct_X11_thereIn hA lm_8 I3 J (6 : Int32) (I3 0 18)) mw_X11_thereIn mv_X11_thereIn ml_X11_261 lm_0 dX11_workLine_38 rfl rfl (roomOk rfl) rfl) rfl rfl ?_
  intro x5 I6
  refine T_ifb_ne (tgt := 46) hok dX11_workLine_41 rfl ?_ ?_
  · refine T_aload_n hok 1 rfl rfl dX11_workLine_46 ?_
    refine T_getR hok fr_X11_54 lm_0 rm_0_33 dX11_workLine_47 ?_
    refine T_iload_n hok 0 rfl rfl dX11_workLine_50 ?_
    refine T_aload_n hok 1 rfl rfl dX11_workLine_51 ?_
    refine T_getI hok fr_X11_200 lm_0 dX11_workLine_52 ?_
    refine T_iast hok hA lm_14 dX11_workLine_55 ?_
    intro I7
    refine T_aload_n hok 1 rfl rfl dX11_workLine_56 ?_
    refine T_aload_n hok 1 rfl rfl dX11_workLine_57 ?_
    refine T_getR hok fr_X11_27 lm_0 rm_0_24 dX11_workLine_58 ?_
    refine T_bipush hok bp_6 dX11_workLine_61 ?_
    refine T_aload_n hok 1 rfl rfl dX11_workLine_63 ?_
    refine T_getI hok fr_X11_213 lm_0 dX11_workLine_64 ?_
    refine T_cz1 (CR_V (rest := []) hok (ct_X11_thereIn hA lm_5 I7 J (6 : Int32) (I7 0 17)) mw_X11_thereIn mv_X11_thereIn ml_X11_261 lm_0 dX11_workLine_67 rfl rfl (roomOk rfl) rfl) rfl rfl ?_
    intro x8 I9
    refine T_ifb_ne (tgt := 75) hok dX11_workLine_70 rfl ?_ ?_
    · refine T_aload_n hok 1 rfl rfl dX11_workLine_75 ?_
      refine T_getR hok fr_X11_57 lm_0 rm_0_34 dX11_workLine_76 ?_
      refine T_iload_n hok 0 rfl rfl dX11_workLine_79 ?_
      refine T_aload_n hok 1 rfl rfl dX11_workLine_80 ?_
      refine T_getI hok fr_X11_200 lm_0 dX11_workLine_81 ?_
      refine T_iast hok hA lm_15 dX11_workLine_84 ?_
      intro I10
      refine T_aload_n hok 1 rfl rfl dX11_workLine_85 ?_
      refine T_dup hok rfl dX11_workLine_86 ?_
      refine T_getI hok fr_X11_222 lm_0 dX11_workLine_87 ?_
      refine T_iconst hok ic_1 dX11_workLine_90 ?_
      refine T_iadd hok dX11_workLine_91 ?_
      refine T_putI hok hA fr_X11_222 rfl rfl lm_0 dX11_workLine_92 ?_
      intro I11
      refine T_iconst hok ic_1 dX11_workLine_95 ?_
      exact T_zret hok dX11_workLine_96 (Nat.zero_le _) (Nat.zero_le _) rfl rfl
    refine T_iconst hok ic_0 dX11_workLine_73 ?_
    exact T_zret hok dX11_workLine_74 (Nat.zero_le _) (Nat.zero_le _) rfl rfl
  refine T_iconst hok ic_0 dX11_workLine_44 ?_
  exact T_zret hok dX11_workLine_45 (Nat.zero_le _) (Nat.zero_le _) rfl rfl

set_option maxHeartbeats 4000000 in
set_option maxRecDepth 100000 in
theorem ct_X11_onceLine {G : Gx} {l0 : Launch} {A : Nat → Prop} {b : Nat} (hA : ∀ k, k < Lm.length → A (b + k)) (I : MI) (J : MJ) (a1 : Int32) (a2 : Int32) (a3 : Int32) : Ct G l0 A yX11_onceLine cX11_onceLine 4 (some .boolean) { frames := 3, cells := 0, slots := 0, locals := 69 } [.ref (b + 0), .int a1, .int a2, .int a3] (Rg G b Lm (Rm b) I J) (iz1 (fun (I' : MI) => Rg G b Lm (Rm b) I' J)) (f_X11_onceLine I a1 a2 a3) := by
  refine Ct.of rfl (Nat.le_of_ble_eq_true rfl) ?_
  intro X hok
  replace hok : Ok G l0 X RX11 cX11_onceLine 4 { frames := 3, cells := 0, slots := 0, locals := 69 } (some .boolean) := hok
  delta f_X11_onceLine
  show T X A (Zm X A (iz1 (fun (I' : MI) => Rg G b Lm (Rm b) I' J))) 4 0 0 0 [(0, .ref (b + 0)), (1, .int a1), (2, .int a2), (3, .int a3)] [] (Rg G b Lm (Rm b) I J) _
  refine T_aload_n hok 0 rfl rfl dX11_onceLine_0 ?_
  refine T_getR hok fr_X11_20 lm_0 rm_0_22 dX11_onceLine_1 ?_
  refine T_iload_n hok 1 rfl rfl dX11_onceLine_4 ?_
  refine T_zald hok lm_3 dX11_onceLine_5 ?_
  refine T_if_eq (tgt := 15) hok dX11_onceLine_6 rfl ?_ ?_
  · refine T_aload_n hok 0 rfl rfl dX11_onceLine_15 ?_
    refine T_getR hok fr_X11_20 lm_0 rm_0_22 dX11_onceLine_16 ?_
    refine T_iload_n hok 1 rfl rfl dX11_onceLine_19 ?_
    refine T_iconst hok ic_1 dX11_onceLine_20 ?_
    refine T_zast hok hA lm_3 dX11_onceLine_21 ?_
    intro I1
    refine T_aload_n hok 0 rfl rfl dX11_onceLine_22 ?_
    refine T_cv1 (CR_V (rest := []) hok (ct_X11_token hA I1 J) mw_X11_token mv_X11_token ml_X11_203 lm_0 dX11_onceLine_23 rfl rfl (roomOk rfl) rfl) rfl rfl ?_
    intro I2
    refine T_aload_n hok 0 rfl rfl dX11_onceLine_26 ?_
    refine T_iload_n hok 2 rfl rfl dX11_onceLine_27 ?_
    refine T_iload_n hok 3 rfl rfl dX11_onceLine_28 ?_
    refine T_cz1 (CR_V (rest := []) hok (ct_X11_number hA I2 J a2 a3) mw_X11_number mv_X11_number ml_X11_209 lm_0 dX11_onceLine_29 rfl rfl (roomOk rfl) rfl) rfl rfl ?_
    intro x3 I4
    refine T_ifb_ne (tgt := 37) hok dX11_onceLine_32 rfl ?_ ?_
    · refine T_aload_n hok 0 rfl rfl dX11_onceLine_37 ?_
      refine T_getR hok fr_X11_24 lm_0 rm_0_23 dX11_onceLine_38 ?_
      refine T_iconst hok ic_2 dX11_onceLine_41 ?_
      refine T_iload_n hok 1 rfl rfl dX11_onceLine_42 ?_
      refine T_iadd hok dX11_onceLine_43 ?_
      refine T_aload_n hok 0 rfl rfl dX11_onceLine_44 ?_
      refine T_getI hok fr_X11_200 lm_0 dX11_onceLine_45 ?_
      refine T_iast hok hA lm_4 dX11_onceLine_48 ?_
      intro I5
      refine T_iconst hok ic_1 dX11_onceLine_49 ?_
      exact T_zret hok dX11_onceLine_50 (Nat.zero_le _) (Nat.zero_le _) rfl rfl
    refine T_iconst hok ic_0 dX11_onceLine_35 ?_
    exact T_zret hok dX11_onceLine_36 (Nat.zero_le _) (Nat.zero_le _) rfl rfl
  refine T_aload_n hok 0 rfl rfl dX11_onceLine_9 ?_
  refine T_iconst hok ic_3 dX11_onceLine_10 ?_
  refine T_cz1 (CR_V (rest := []) hok (ct_X11_wrong hA I J (3 : Int32)) mw_X11_wrong mv_X11_wrong ml_X11_193 lm_0 dX11_onceLine_11 rfl rfl (roomOk rfl) rfl) rfl rfl ?_
  intro x6 I7
  exact T_zret hok dX11_onceLine_14 (Nat.zero_le _) (Nat.zero_le _) (bi_01 _) rfl

set_option maxHeartbeats 4000000 in
set_option maxRecDepth 100000 in
theorem ct_X11_waitsFor {G : Gx} {l0 : Launch} {A : Nat → Prop} {b : Nat} (hA : ∀ k, k < Lm.length → A (b + k)) (I : MI) (J : MJ) (a1 : Int32) : Ct G l0 A yX11_waitsFor cX11_waitsFor 2 none { frames := 0, cells := 0, slots := 0, locals := 0 } [.ref (b + 0), .int a1] (Rg G b Lm (Rm b) I J) (iv1 (fun (I' : MI) => Rg G b Lm (Rm b) I' J)) (f_X11_waitsFor I a1) := by
  refine Ct.of rfl (Nat.le_of_ble_eq_true rfl) ?_
  intro X hok
  replace hok : Ok G l0 X RX11 cX11_waitsFor 2 { frames := 0, cells := 0, slots := 0, locals := 0 } none := hok
  delta f_X11_waitsFor
  show T X A (Zm X A (iv1 (fun (I' : MI) => Rg G b Lm (Rm b) I' J))) 2 0 0 0 [(0, .ref (b + 0)), (1, .int a1)] [] (Rg G b Lm (Rm b) I J) _
  refine T_aload_n hok 0 rfl rfl dX11_waitsFor_0 ?_
  refine T_getR hok fr_X11_78 lm_0 rm_0_41 dX11_waitsFor_1 ?_
  refine T_aload_n hok 0 rfl rfl dX11_waitsFor_4 ?_
  refine T_getI hok fr_X11_289 lm_0 dX11_waitsFor_5 ?_
  refine T_iload_n hok 1 rfl rfl dX11_waitsFor_8 ?_
  refine T_iast hok hA lm_22 dX11_waitsFor_9 ?_
  intro I1
  refine T_aload_n hok 0 rfl rfl dX11_waitsFor_10 ?_
  refine T_dup hok rfl dX11_waitsFor_11 ?_
  refine T_getI hok fr_X11_289 lm_0 dX11_waitsFor_12 ?_
  refine T_iconst hok ic_1 dX11_waitsFor_15 ?_
  refine T_iadd hok dX11_waitsFor_16 ?_
  refine T_putI hok hA fr_X11_289 rfl rfl lm_0 dX11_waitsFor_17 ?_
  intro I2
  exact T_vret hok dX11_waitsFor_20 (Nat.zero_le _) (Nat.zero_le _) rfl

set_option maxHeartbeats 4000000 in
set_option maxRecDepth 100000 in
theorem ct_X11_isCounted {G : Gx} {l0 : Launch} {A : Nat → Prop} {b : Nat} (hA : ∀ k, k < Lm.length → A (b + k)) (I : MI) (J : MJ) : Ct G l0 A yX11_isCounted cX11_isCounted 1 (some .boolean) { frames := 1, cells := 0, slots := 0, locals := 21 } [.ref (b + 0)] (Rg G b Lm (Rm b) I J) (iz1 (fun (I' : MI) => Rg G b Lm (Rm b) I' J)) (f_X11_isCounted I) := by
  refine Ct.of rfl (Nat.le_of_ble_eq_true rfl) ?_
  intro X hok
  replace hok : Ok G l0 X RX11 cX11_isCounted 1 { frames := 1, cells := 0, slots := 0, locals := 21 } (some .boolean) := hok
  delta f_X11_isCounted
  show T X A (Zm X A (iz1 (fun (I' : MI) => Rg G b Lm (Rm b) I' J))) 1 0 0 0 [(0, .ref (b + 0))] [] (Rg G b Lm (Rm b) I J) _
  refine T_aload_n hok 0 rfl rfl dX11_isCounted_0 ?_
  refine T_getI hok fr_X11_228 lm_0 dX11_isCounted_1 ?_
  refine T_bipush hok bp_64 dX11_isCounted_4 ?_
  refine T_icmp_ne (tgt := 15) hok dX11_isCounted_6 rfl ?_ ?_
  · refine T_aload_n hok 0 rfl rfl dX11_isCounted_9 ?_
    refine T_iconst hok ic_2 dX11_isCounted_10 ?_
    refine T_cz1 (CR_V (rest := []) hok (ct_X11_wrong hA I J (2 : Int32)) mw_X11_wrong mv_X11_wrong ml_X11_193 lm_0 dX11_isCounted_11 rfl rfl (roomOk rfl) rfl) rfl rfl ?_
    intro x1 I2
    exact T_zret hok dX11_isCounted_14 (Nat.zero_le _) (Nat.zero_le _) (bi_01 _) rfl
  refine T_aload_n hok 0 rfl rfl dX11_isCounted_15 ?_
  refine T_dup hok rfl dX11_isCounted_16 ?_
  refine T_getI hok fr_X11_228 lm_0 dX11_isCounted_17 ?_
  refine T_iconst hok ic_1 dX11_isCounted_20 ?_
  refine T_iadd hok dX11_isCounted_21 ?_
  refine T_putI hok hA fr_X11_228 rfl rfl lm_0 dX11_isCounted_22 ?_
  intro I3
  refine T_iconst hok ic_1 dX11_isCounted_25 ?_
  exact T_zret hok dX11_isCounted_26 (Nat.zero_le _) (Nat.zero_le _) rfl rfl

set_option maxHeartbeats 4000000 in
set_option maxRecDepth 100000 in
theorem ct_X11_nameMet {G : Gx} {l0 : Launch} {A : Nat → Prop} {b : Nat} (hA : ∀ k, k < Lm.length → A (b + k)) (I : MI) (J : MJ) : Ct G l0 A yX11_nameMet cX11_nameMet 1 (some .int) { frames := 0, cells := 0, slots := 0, locals := 0 } [.ref (b + 0)] (Rg G b Lm (Rm b) I J) (ii0 (Rg G b Lm (Rm b) I J)) (f_X11_nameMet I) := by
  refine Ct.of rfl (Nat.le_of_ble_eq_true rfl) ?_
  intro X hok
  replace hok : Ok G l0 X RX11 cX11_nameMet 1 { frames := 0, cells := 0, slots := 0, locals := 0 } (some .int) := hok
  delta f_X11_nameMet
  show T X A (Zm X A (ii0 (Rg G b Lm (Rm b) I J))) 1 0 0 0 [(0, .ref (b + 0))] [] (Rg G b Lm (Rm b) I J) _
  refine T_aload_n hok 0 rfl rfl dX11_nameMet_0 ?_
  refine T_getI hok fr_X11_169 lm_0 dX11_nameMet_1 ?_
  refine T_iconst hok ic_1 dX11_nameMet_4 ?_
  refine T_jp _ (fun (j28 : Int32 → Option (Int32)) => ∀ (x1 : Int32), T X A (Zm X A (ii0 (Rg G b Lm (Rm b) I J))) 1 0 0 28 [] [.int x1] (Rg G b Lm (Rm b) I J) (j28 x1)) _ ?_ ?_
  · intro x1
    exact T_iret hok dX11_nameMet_28 (Nat.zero_le _) (Nat.zero_le _) rfl
  intro j28 hj28
  refine T_jp _ (fun (j27 : Option (Int32)) => T X A (Zm X A (ii0 (Rg G b Lm (Rm b) I J))) 1 0 0 27 [] [] (Rg G b Lm (Rm b) I J) (j27)) _ ?_ ?_
  · skip
    refine T_iconst hok ic_m1 dX11_nameMet_27 ?_
    exact hj28 (-1 : Int32)
  intro j27 hj27
  refine T_icmp_ne (tgt := 27) hok dX11_nameMet_5 rfl ?_ ?_
  · refine T_aload_n hok 0 rfl rfl dX11_nameMet_8 ?_
    refine T_getI hok fr_X11_180 lm_0 dX11_nameMet_9 ?_
    refine T_bipush hok bp_13 dX11_nameMet_12 ?_
    refine T_icmp_lt (tgt := 27) hok dX11_nameMet_14 rfl ?_ ?_
    · refine T_sub (lv' := []) [] rfl ?_
      exact hj27
    refine T_aload_n hok 0 rfl rfl dX11_nameMet_17 ?_
    refine T_getI hok fr_X11_180 lm_0 dX11_nameMet_18 ?_
    refine T_bipush hok bp_13 dX11_nameMet_21 ?_
    refine T_isub hok dX11_nameMet_23 ?_
    refine T_goto (tgt := 28) hok dX11_nameMet_24 rfl ?_
    refine T_sub (lv' := []) [] rfl ?_
    exact hj28 ((I 0 9) - (13 : Int32))
  refine T_sub (lv' := []) [] rfl ?_
  exact hj27

set_option maxHeartbeats 4000000 in
set_option maxRecDepth 100000 in
theorem ct_X11_grown {G : Gx} {l0 : Launch} {A : Nat → Prop} {b : Nat} (hA : ∀ k, k < Lm.length → A (b + k)) (I : MI) (J : MJ) (a1 : Int32) (a2 : Int32) (a3 : Int32) : Ct G l0 A yX11_grown cX11_grown 4 none { frames := 0, cells := 0, slots := 0, locals := 0 } [.ref (b + 0), .int a1, .int a2, .int a3] (Rg G b Lm (Rm b) I J) (iv1 (fun (I' : MI) => Rg G b Lm (Rm b) I' J)) (f_X11_grown I a1 a2 a3) := by
  refine Ct.of rfl (Nat.le_of_ble_eq_true rfl) ?_
  intro X hok
  replace hok : Ok G l0 X RX11 cX11_grown 4 { frames := 0, cells := 0, slots := 0, locals := 0 } none := hok
  delta f_X11_grown
  show T X A (Zm X A (iv1 (fun (I' : MI) => Rg G b Lm (Rm b) I' J))) 4 0 0 0 [(0, .ref (b + 0)), (1, .int a1), (2, .int a2), (3, .int a3)] [] (Rg G b Lm (Rm b) I J) _
  refine T_aload_n hok 0 rfl rfl dX11_grown_0 ?_
  refine T_getR hok fr_X11_69 lm_0 rm_0_38 dX11_grown_1 ?_
  refine T_bipush hok bp_64 dX11_grown_4 ?_
  refine T_aload_n hok 0 rfl rfl dX11_grown_6 ?_
  refine T_getI hok fr_X11_225 lm_0 dX11_grown_7 ?_
  refine T_iadd hok dX11_grown_10 ?_
  refine T_iload_n hok 1 rfl rfl dX11_grown_11 ?_
  refine T_iast hok hA lm_19 dX11_grown_12 ?_
  intro I1
  refine T_aload_n hok 0 rfl rfl dX11_grown_13 ?_
  refine T_getR hok fr_X11_72 lm_0 rm_0_39 dX11_grown_14 ?_
  refine T_bipush hok bp_64 dX11_grown_17 ?_
  refine T_aload_n hok 0 rfl rfl dX11_grown_19 ?_
  refine T_getI hok fr_X11_225 lm_0 dX11_grown_20 ?_
  refine T_iadd hok dX11_grown_23 ?_
  refine T_iload_n hok 2 rfl rfl dX11_grown_24 ?_
  refine T_iast hok hA lm_20 dX11_grown_25 ?_
  intro I2
  refine T_aload_n hok 0 rfl rfl dX11_grown_26 ?_
  refine T_getR hok fr_X11_75 lm_0 rm_0_40 dX11_grown_27 ?_
  refine T_bipush hok bp_64 dX11_grown_30 ?_
  refine T_aload_n hok 0 rfl rfl dX11_grown_32 ?_
  refine T_getI hok fr_X11_225 lm_0 dX11_grown_33 ?_
  refine T_iadd hok dX11_grown_36 ?_
  refine T_iload_n hok 3 rfl rfl dX11_grown_37 ?_
  refine T_iast hok hA lm_21 dX11_grown_38 ?_
  intro I3
  refine T_aload_n hok 0 rfl rfl dX11_grown_39 ?_
  refine T_getR hok fr_X11_81 lm_0 rm_0_42 dX11_grown_40 ?_
  refine T_aload_n hok 0 rfl rfl dX11_grown_43 ?_
  refine T_getI hok fr_X11_286 lm_0 dX11_grown_44 ?_
  refine T_aload_n hok 0 rfl rfl dX11_grown_47 ?_
  refine T_getI hok fr_X11_225 lm_0 dX11_grown_48 ?_
  refine T_iast hok hA lm_23 dX11_grown_51 ?_
  intro I4
  refine T_aload_n hok 0 rfl rfl dX11_grown_52 ?_
  refine T_dup hok rfl dX11_grown_53 ?_
  refine T_getI hok fr_X11_286 lm_0 dX11_grown_54 ?_
  refine T_iconst hok ic_1 dX11_grown_57 ?_
  refine T_iadd hok dX11_grown_58 ?_
  refine T_putI hok hA fr_X11_286 rfl rfl lm_0 dX11_grown_59 ?_
  intro I5
  refine T_aload_n hok 0 rfl rfl dX11_grown_62 ?_
  refine T_dup hok rfl dX11_grown_63 ?_
  refine T_getI hok fr_X11_225 lm_0 dX11_grown_64 ?_
  refine T_iconst hok ic_1 dX11_grown_67 ?_
  refine T_iadd hok dX11_grown_68 ?_
  refine T_putI hok hA fr_X11_225 rfl rfl lm_0 dX11_grown_69 ?_
  intro I6
  exact T_vret hok dX11_grown_72 (Nat.zero_le _) (Nat.zero_le _) rfl

set_option maxHeartbeats 4000000 in
set_option maxRecDepth 100000 in
theorem ct_X11_leafRead {G : Gx} {l0 : Launch} {A : Nat → Prop} {b : Nat} (hA : ∀ k, k < Lm.length → A (b + k)) (I : MI) (J : MJ) : Ct G l0 A yX11_leafRead cX11_leafRead 2 (some .boolean) { frames := 2, cells := 0, slots := 0, locals := 47 } [.ref (b + 0)] (Rg G b Lm (Rm b) I J) (iz1 (fun (I' : MI) => Rg G b Lm (Rm b) I' J)) (f_X11_leafRead I) := by
  refine Ct.of rfl (Nat.le_of_ble_eq_true rfl) ?_
  intro X hok
  replace hok : Ok G l0 X RX11 cX11_leafRead 2 { frames := 2, cells := 0, slots := 0, locals := 47 } (some .boolean) := hok
  delta f_X11_leafRead
  show T X A (Zm X A (iz1 (fun (I' : MI) => Rg G b Lm (Rm b) I' J))) 2 0 0 0 [(0, .ref (b + 0))] [] (Rg G b Lm (Rm b) I J) _
  refine T_aload_n hok 0 rfl rfl dX11_leafRead_0 ?_
  refine T_bipush hok bp_40 dX11_leafRead_1 ?_
  refine T_cz0 (CR_V (rest := []) hok (ct_X11_isSign hA I J (40 : Int32)) mw_X11_isSign mv_X11_isSign ml_X11_206 lm_0 dX11_leafRead_3 rfl rfl (roomOk rfl) rfl) rfl rfl ?_
  intro x1
  refine T_ifb_eq (tgt := 50) hok dX11_leafRead_6 rfl ?_ ?_
  · refine T_aload_n hok 0 rfl rfl dX11_leafRead_9 ?_
    refine T_getI hok fr_X11_304 lm_0 dX11_leafRead_10 ?_
    refine T_bipush hok bp_8 dX11_leafRead_13 ?_
    refine T_icmp_ne (tgt := 24) hok dX11_leafRead_15 rfl ?_ ?_
    · refine T_aload_n hok 0 rfl rfl dX11_leafRead_18 ?_
      refine T_iconst hok ic_2 dX11_leafRead_19 ?_
      refine T_cz1 (CR_V (rest := []) hok (ct_X11_wrong hA I J (2 : Int32)) mw_X11_wrong mv_X11_wrong ml_X11_193 lm_0 dX11_leafRead_20 rfl rfl (roomOk rfl) rfl) rfl rfl ?_
      intro x2 I3
      exact T_zret hok dX11_leafRead_23 (Nat.zero_le _) (Nat.zero_le _) (bi_01 _) rfl
    refine T_aload_n hok 0 rfl rfl dX11_leafRead_24 ?_
    refine T_dup hok rfl dX11_leafRead_25 ?_
    refine T_getI hok fr_X11_304 lm_0 dX11_leafRead_26 ?_
    refine T_iconst hok ic_1 dX11_leafRead_29 ?_
    refine T_iadd hok dX11_leafRead_30 ?_
    refine T_putI hok hA fr_X11_304 rfl rfl lm_0 dX11_leafRead_31 ?_
    intro I4
    refine T_aload_n hok 0 rfl rfl dX11_leafRead_34 ?_
    refine T_iconst hok ic_0 dX11_leafRead_35 ?_
    refine T_cv1 (CR_V (rest := []) hok (ct_X11_waitsFor hA I4 J (0 : Int32)) mw_X11_waitsFor mv_X11_waitsFor ml_X11_307 lm_0 dX11_leafRead_36 rfl rfl (roomOk rfl) rfl) rfl rfl ?_
    intro I5
    refine T_aload_n hok 0 rfl rfl dX11_leafRead_39 ?_
    refine T_iconst hok ic_1 dX11_leafRead_40 ?_
    refine T_putZ hok hA fr_X11_311 rfl rfl lm_0 dX11_leafRead_41 ?_
    intro I6
    refine T_aload_n hok 0 rfl rfl dX11_leafRead_44 ?_
    refine T_cv1 (CR_V (rest := []) hok (ct_X11_token hA I6 J) mw_X11_token mv_X11_token ml_X11_203 lm_0 dX11_leafRead_45 rfl rfl (roomOk rfl) rfl) rfl rfl ?_
    intro I7
    refine T_iconst hok ic_1 dX11_leafRead_48 ?_
    exact T_zret hok dX11_leafRead_49 (Nat.zero_le _) (Nat.zero_le _) rfl rfl
  refine T_aload_n hok 0 rfl rfl dX11_leafRead_50 ?_
  refine T_bipush hok bp_12 dX11_leafRead_51 ?_
  refine T_cz0 (CR_V (rest := []) hok (ct_X11_isKey hA I J (12 : Int32)) mw_X11_isKey mv_X11_isKey ml_X11_315 lm_0 dX11_leafRead_53 rfl rfl (roomOk rfl) rfl) rfl rfl ?_
  intro x8
  refine T_jp _ (fun (j86 : Option (Bool × MI)) => T X A (Zm X A (iz1 (fun (I' : MI) => Rg G b Lm (Rm b) I' J))) 2 0 0 86 [(0, .ref (b + 0))] [] (Rg G b Lm (Rm b) I J) (j86)) _ ?_ ?_
  · skip
    refine T_aload_n hok 0 rfl rfl dX11_leafRead_86 ?_
    refine T_ci0 (CR_V (rest := []) hok (ct_X11_nameMet hA I J) mw_X11_nameMet mv_X11_nameMet ml_X11_321 lm_0 dX11_leafRead_87 rfl rfl (roomOk rfl) rfl) rfl rfl ?_
    intro x9
    refine T_istore_n (lv' := [(1, .int x9), (0, .ref (b + 0))]) hok rfl (by decide) rfl dX11_leafRead_90 ?_
    refine T_iload_n hok 0 rfl rfl dX11_leafRead_91 ?_
    refine T_jp _ (fun (j109 : Option (Bool × MI)) => T X A (Zm X A (iz1 (fun (I' : MI) => Rg G b Lm (Rm b) I' J))) 2 0 0 109 [(0, .ref (b + 0)), (1, .int x9)] [] (Rg G b Lm (Rm b) I J) (j109)) _ ?_ ?_
    · skip
      refine T_iload_n hok 1 rfl rfl dX11_leafRead_109 ?_
      refine T_jp _ (fun (j129 : Option (Bool × MI)) => T X A (Zm X A (iz1 (fun (I' : MI) => Rg G b Lm (Rm b) I' J))) 2 0 0 129 [(0, .ref (b + 0)), (1, .int x9)] [] (Rg G b Lm (Rm b) I J) (j129)) _ ?_ ?_
      · skip
        refine T_aload_n hok 0 rfl rfl dX11_leafRead_129 ?_
        refine T_cz1 (CR_V (rest := []) hok (ct_X11_isCounted hA I J) mw_X11_isCounted mv_X11_isCounted ml_X11_318 lm_0 dX11_leafRead_130 rfl rfl (roomOk rfl) rfl) rfl rfl ?_
        intro x10 I11
        refine T_ifb_ne (tgt := 138) hok dX11_leafRead_133 rfl ?_ ?_
        · refine T_aload_n hok 0 rfl rfl dX11_leafRead_138 ?_
          refine T_iload_n hok 1 rfl rfl dX11_leafRead_139 ?_
          refine T_jp _ (fun (j148 : Bool → Option (Bool × MI)) => ∀ (x12 : Bool), T X A (Zm X A (iz1 (fun (I' : MI) => Rg G b Lm (Rm b) I' J))) 2 0 0 148 [(0, .ref (b + 0)), (1, .int x9)] [.int (bi x12), .ref (b + 0)] (Rg G b Lm (Rm b) I11 J) (j148 x12)) _ ?_ ?_
          · intro x12
            refine T_iload_n hok 1 rfl rfl dX11_leafRead_148 ?_
            refine T_jp _ (fun (j160 : Int32 → Bool → Option (Bool × MI)) => ∀ (x13 : Int32) (x14 : Bool), T X A (Zm X A (iz1 (fun (I' : MI) => Rg G b Lm (Rm b) I' J))) 2 0 0 160 [(0, .ref (b + 0))] [.int x13, .int (bi x14), .ref (b + 0)] (Rg G b Lm (Rm b) I11 J) (j160 x13 x14)) _ ?_ ?_
            · intro x13 x14
              refine T_iconst hok ic_0 dX11_leafRead_160 ?_
              refine T_cv1 (CR_V (rest := []) hok (ct_X11_grown hA I11 J (bi x14) x13 (0 : Int32)) mw_X11_grown mv_X11_grown ml_X11_300 lm_0 dX11_leafRead_161 rfl rfl (roomOk rfl) rfl) rfl rfl ?_
              intro I15
              refine T_aload_n hok 0 rfl rfl dX11_leafRead_164 ?_
              refine T_iconst hok ic_0 dX11_leafRead_165 ?_
              refine T_putZ hok hA fr_X11_324 rfl rfl lm_0 dX11_leafRead_166 ?_
              intro I16
              refine T_aload_n hok 0 rfl rfl dX11_leafRead_169 ?_
              refine T_cv1 (CR_V (rest := []) hok (ct_X11_token hA I16 J) mw_X11_token mv_X11_token ml_X11_203 lm_0 dX11_leafRead_170 rfl rfl (roomOk rfl) rfl) rfl rfl ?_
              intro I17
              refine T_iconst hok ic_1 dX11_leafRead_173 ?_
              exact T_zret hok dX11_leafRead_174 (Nat.zero_le _) (Nat.zero_le _) rfl rfl
            intro j160 hj160
            refine T_if_lt (tgt := 156) hok dX11_leafRead_149 rfl ?_ ?_
            · refine T_aload_n hok 0 rfl rfl dX11_leafRead_156 ?_
              refine T_getI hok fr_X11_180 lm_0 dX11_leafRead_157 ?_
              refine T_sub (lv' := [(0, .ref (b + 0))]) [0] rfl ?_
              exact hj160 (I11 0 9) x12
            refine T_iload_n hok 1 rfl rfl dX11_leafRead_152 ?_
            refine T_goto (tgt := 160) hok dX11_leafRead_153 rfl ?_
            refine T_sub (lv' := [(0, .ref (b + 0))]) [0] rfl ?_
            exact hj160 x9 x12
          intro j148 hj148
          refine T_if_lt (tgt := 147) hok dX11_leafRead_140 rfl ?_ ?_
          · refine T_iconst hok ic_0 dX11_leafRead_147 ?_
            exact hj148 false
          refine T_iconst hok ic_1 dX11_leafRead_143 ?_
          refine T_goto (tgt := 148) hok dX11_leafRead_144 rfl ?_
          exact hj148 true
        refine T_iconst hok ic_0 dX11_leafRead_136 ?_
        exact T_zret hok dX11_leafRead_137 (Nat.zero_le _) (Nat.zero_le _) rfl rfl
      intro j129 hj129
      refine T_if_ge (tgt := 129) hok dX11_leafRead_110 rfl ?_ ?_
      · exact hj129
      refine T_aload_n hok 0 rfl rfl dX11_leafRead_113 ?_
      refine T_getI hok fr_X11_180 lm_0 dX11_leafRead_114 ?_
      refine T_sipush hok sp_9999 dX11_leafRead_117 ?_
      refine T_icmp_le (tgt := 129) hok dX11_leafRead_120 rfl ?_ ?_
      · exact hj129
      refine T_aload_n hok 0 rfl rfl dX11_leafRead_123 ?_
      refine T_iconst hok ic_2 dX11_leafRead_124 ?_
      refine T_cz1 (CR_V (rest := []) hok (ct_X11_wrong hA I J (2 : Int32)) mw_X11_wrong mv_X11_wrong ml_X11_193 lm_0 dX11_leafRead_125 rfl rfl (roomOk rfl) rfl) rfl rfl ?_
      intro x18 I19
      exact T_zret hok dX11_leafRead_128 (Nat.zero_le _) (Nat.zero_le _) (bi_01 _) rfl
    intro j109 hj109
    refine T_if_ge (tgt := 109) hok dX11_leafRead_92 rfl ?_ ?_
    · refine T_sub (lv' := [(0, .ref (b + 0)), (1, .int x9)]) [1, 0] rfl ?_
      exact hj109
    refine T_aload_n hok 1 rfl rfl dX11_leafRead_95 ?_
    refine T_getI hok fr_X11_169 lm_0 dX11_leafRead_96 ?_
    refine T_iconst hok ic_3 dX11_leafRead_99 ?_
    refine T_icmp_eq (tgt := 109) hok dX11_leafRead_100 rfl ?_ ?_
    · refine T_sub (lv' := [(0, .ref (b + 0)), (1, .int x9)]) [1, 0] rfl ?_
      exact hj109
    refine T_aload_n hok 1 rfl rfl dX11_leafRead_103 ?_
    refine T_iconst hok ic_1 dX11_leafRead_104 ?_
    refine T_cz1 (CR_V (rest := []) hok (ct_X11_wrong hA I J (1 : Int32)) mw_X11_wrong mv_X11_wrong ml_X11_193 lm_0 dX11_leafRead_105 rfl rfl (roomOk rfl) rfl) rfl rfl ?_
    intro x20 I21
    exact T_zret hok dX11_leafRead_108 (Nat.zero_le _) (Nat.zero_le _) (bi_01 _) rfl
  intro j86 hj86
  refine T_ifb_eq (tgt := 86) hok dX11_leafRead_56 rfl ?_ ?_
  · refine T_aload_n hok 0 rfl rfl dX11_leafRead_59 ?_
    refine T_getI hok fr_X11_311 lm_0 dX11_leafRead_60 ?_
    refine T_if_eq (tgt := 86) hok dX11_leafRead_63 rfl ?_ ?_
    · exact hj86
    refine T_aload_n hok 0 rfl rfl dX11_leafRead_66 ?_
    refine T_cz1 (CR_V (rest := []) hok (ct_X11_isCounted hA I J) mw_X11_isCounted mv_X11_isCounted ml_X11_318 lm_0 dX11_leafRead_67 rfl rfl (roomOk rfl) rfl) rfl rfl ?_
    intro x22 I23
    refine T_ifb_ne (tgt := 75) hok dX11_leafRead_70 rfl ?_ ?_
    · refine T_aload_n hok 0 rfl rfl dX11_leafRead_75 ?_
      refine T_iconst hok ic_2 dX11_leafRead_76 ?_
      refine T_cv1 (CR_V (rest := []) hok (ct_X11_waitsFor hA I23 J (2 : Int32)) mw_X11_waitsFor mv_X11_waitsFor ml_X11_307 lm_0 dX11_leafRead_77 rfl rfl (roomOk rfl) rfl) rfl rfl ?_
      intro I24
      refine T_aload_n hok 0 rfl rfl dX11_leafRead_80 ?_
      refine T_cv1 (CR_V (rest := []) hok (ct_X11_token hA I24 J) mw_X11_token mv_X11_token ml_X11_203 lm_0 dX11_leafRead_81 rfl rfl (roomOk rfl) rfl) rfl rfl ?_
      intro I25
      refine T_iconst hok ic_1 dX11_leafRead_84 ?_
      exact T_zret hok dX11_leafRead_85 (Nat.zero_le _) (Nat.zero_le _) rfl rfl
    refine T_iconst hok ic_0 dX11_leafRead_73 ?_
    exact T_zret hok dX11_leafRead_74 (Nat.zero_le _) (Nat.zero_le _) rfl rfl
  exact hj86

set_option maxHeartbeats 4000000 in
set_option maxRecDepth 100000 in
theorem ct_X11_standing {G : Gx} {l0 : Launch} {A : Nat → Prop} {Wd : Heap → Prop} (a1 : Int32) : Ct G l0 A yX11_standing cX11_standing 1 (some .int) { frames := 0, cells := 0, slots := 0, locals := 0 } [.int a1] (Wd) (ii0 (Wd)) (f_X11_standing a1) := by
  refine Ct.of rfl (Nat.le_of_ble_eq_true rfl) ?_
  intro X hok
  replace hok : Ok G l0 X RX11 cX11_standing 1 { frames := 0, cells := 0, slots := 0, locals := 0 } (some .int) := hok
  delta f_X11_standing
  show T X A (Zm X A (ii0 (Wd))) 1 0 0 0 [(0, .int a1)] [] (Wd) _
  refine T_iload_n hok 0 rfl rfl dX11_standing_0 ?_
  refine T_bipush hok bp_13 dX11_standing_1 ?_
  refine T_jp _ (fun (j58 : Int32 → Option (Int32)) => ∀ (x1 : Int32), T X A (Zm X A (ii0 (Wd))) 1 0 0 58 [] [.int x1] (Wd) (j58 x1)) _ ?_ ?_
  · intro x1
    exact T_iret hok dX11_standing_58 (Nat.zero_le _) (Nat.zero_le _) rfl
  intro j58 hj58
  refine T_icmp_lt (tgt := 11) hok dX11_standing_3 rfl ?_ ?_
  · refine T_iload_n hok 0 rfl rfl dX11_standing_11 ?_
    refine T_bipush hok bp_11 dX11_standing_12 ?_
    refine T_icmp_lt (tgt := 21) hok dX11_standing_14 rfl ?_ ?_
    · refine T_iload_n hok 0 rfl rfl dX11_standing_21 ?_
      refine T_iconst hok ic_5 dX11_standing_22 ?_
      refine T_icmp_lt (tgt := 30) hok dX11_standing_23 rfl ?_ ?_
      · refine T_iload_n hok 0 rfl rfl dX11_standing_30 ?_
        refine T_iconst hok ic_2 dX11_standing_31 ?_
        refine T_icmp_ne (tgt := 39) hok dX11_standing_32 rfl ?_ ?_
        · refine T_iconst hok ic_3 dX11_standing_35 ?_
          refine T_goto (tgt := 58) hok dX11_standing_36 rfl ?_
          refine T_sub (lv' := []) [] rfl ?_
          exact hj58 (3 : Int32)
        refine T_iload_n hok 0 rfl rfl dX11_standing_39 ?_
        refine T_iconst hok ic_3 dX11_standing_40 ?_
        refine T_icmp_ne (tgt := 48) hok dX11_standing_41 rfl ?_ ?_
        · refine T_iconst hok ic_2 dX11_standing_44 ?_
          refine T_goto (tgt := 58) hok dX11_standing_45 rfl ?_
          refine T_sub (lv' := []) [] rfl ?_
          exact hj58 (2 : Int32)
        refine T_iload_n hok 0 rfl rfl dX11_standing_48 ?_
        refine T_iconst hok ic_4 dX11_standing_49 ?_
        refine T_icmp_ne (tgt := 57) hok dX11_standing_50 rfl ?_ ?_
        · refine T_iconst hok ic_1 dX11_standing_53 ?_
          refine T_goto (tgt := 58) hok dX11_standing_54 rfl ?_
          refine T_sub (lv' := []) [] rfl ?_
          exact hj58 (1 : Int32)
        refine T_iconst hok ic_0 dX11_standing_57 ?_
        refine T_sub (lv' := []) [] rfl ?_
        exact hj58 (0 : Int32)
      refine T_iconst hok ic_4 dX11_standing_26 ?_
      refine T_goto (tgt := 58) hok dX11_standing_27 rfl ?_
      refine T_sub (lv' := []) [] rfl ?_
      exact hj58 (4 : Int32)
    refine T_iconst hok ic_5 dX11_standing_17 ?_
    refine T_goto (tgt := 58) hok dX11_standing_18 rfl ?_
    refine T_sub (lv' := []) [] rfl ?_
    exact hj58 (5 : Int32)
  refine T_bipush hok bp_6 dX11_standing_6 ?_
  refine T_goto (tgt := 58) hok dX11_standing_8 rfl ?_
  refine T_sub (lv' := []) [] rfl ?_
  exact hj58 (6 : Int32)

set_option maxHeartbeats 4000000 in
set_option maxRecDepth 100000 in
theorem ct_X11_dropHeld {G : Gx} {l0 : Launch} {A : Nat → Prop} {b : Nat} (hA : ∀ k, k < Lm.length → A (b + k)) (I : MI) (J : MJ) : Ct G l0 A yX11_dropHeld cX11_dropHeld 1 (some .int) { frames := 0, cells := 0, slots := 0, locals := 0 } [.ref (b + 0)] (Rg G b Lm (Rm b) I J) (ii1 (fun (I' : MI) => Rg G b Lm (Rm b) I' J)) (f_X11_dropHeld I) := by
  refine Ct.of rfl (Nat.le_of_ble_eq_true rfl) ?_
  intro X hok
  replace hok : Ok G l0 X RX11 cX11_dropHeld 1 { frames := 0, cells := 0, slots := 0, locals := 0 } (some .int) := hok
  delta f_X11_dropHeld
  show T X A (Zm X A (ii1 (fun (I' : MI) => Rg G b Lm (Rm b) I' J))) 1 0 0 0 [(0, .ref (b + 0))] [] (Rg G b Lm (Rm b) I J) _
  refine T_aload_n hok 0 rfl rfl dX11_dropHeld_0 ?_
  refine T_dup hok rfl dX11_dropHeld_1 ?_
  refine T_getI hok fr_X11_286 lm_0 dX11_dropHeld_2 ?_
  refine T_iconst hok ic_1 dX11_dropHeld_5 ?_
  refine T_isub hok dX11_dropHeld_6 ?_
  refine T_putI hok hA fr_X11_286 rfl rfl lm_0 dX11_dropHeld_7 ?_
  intro I1
  refine T_aload_n hok 0 rfl rfl dX11_dropHeld_10 ?_
  refine T_getR hok fr_X11_81 lm_0 rm_0_42 dX11_dropHeld_11 ?_
  refine T_aload_n hok 0 rfl rfl dX11_dropHeld_14 ?_
  refine T_getI hok fr_X11_286 lm_0 dX11_dropHeld_15 ?_
  refine T_iald hok lm_23 dX11_dropHeld_18 ?_
  exact T_iret hok dX11_dropHeld_19 (Nat.zero_le _) (Nat.zero_le _) rfl

set_option maxHeartbeats 4000000 in
set_option maxRecDepth 100000 in
theorem ct_X11_bind {G : Gx} {l0 : Launch} {A : Nat → Prop} {b : Nat} (hA : ∀ k, k < Lm.length → A (b + k)) (I : MI) (J : MJ) (a1 : Int32) : Ct G l0 A yX11_bind cX11_bind 5 none { frames := 1, cells := 0, slots := 0, locals := 23 } [.ref (b + 0), .int a1] (Rg G b Lm (Rm b) I J) (iv1 (fun (I' : MI) => Rg G b Lm (Rm b) I' J)) (f_X11_bind I a1) := by
  refine Ct.of rfl (Nat.le_of_ble_eq_true rfl) ?_
  intro X hok
  replace hok : Ok G l0 X RX11 cX11_bind 5 { frames := 1, cells := 0, slots := 0, locals := 23 } none := hok
  delta f_X11_bind
  show T X A (Zm X A (iv1 (fun (I' : MI) => Rg G b Lm (Rm b) I' J))) 5 0 0 0 [(0, .ref (b + 0)), (1, .int a1)] [] (Rg G b Lm (Rm b) I J) _
  refine T_jp _ (fun (j76 : MI → Option (MI)) => ∀ (I1 : MI), T X A (Zm X A (iv1 (fun (I' : MI) => Rg G b Lm (Rm b) I' J))) 5 0 0 76 [] [] (Rg G b Lm (Rm b) I1 J) (j76 I1)) _ ?_ ?_
  · intro I1
    exact T_vret hok dX11_bind_76 (Nat.zero_le _) (Nat.zero_le _) rfl
  intro j76 hj76
  refine T_fix1 _ (fun (I2 : MI) => [(0, .ref (b + 0)), (1, .int a1)]) (fun (I2 : MI) => Rg G b Lm (Rm b) I2 J) ?_ FU I
  intro r0 hr0 I2
  refine T_aload_n hok 0 rfl rfl dX11_bind_0 ?_
  refine T_getI hok fr_X11_289 lm_0 dX11_bind_1 ?_
  refine T_if_le (tgt := 76) hok dX11_bind_4 rfl ?_ ?_
  · refine T_sub (lv' := []) [] rfl ?_
    exact hj76 I2
  refine T_aload_n hok 0 rfl rfl dX11_bind_7 ?_
  refine T_getR hok fr_X11_78 lm_0 rm_0_41 dX11_bind_8 ?_
  refine T_aload_n hok 0 rfl rfl dX11_bind_11 ?_
  refine T_getI hok fr_X11_289 lm_0 dX11_bind_12 ?_
  refine T_iconst hok ic_1 dX11_bind_15 ?_
  refine T_isub hok dX11_bind_16 ?_
  refine T_iald hok lm_22 dX11_bind_17 ?_
  refine T_ci0 (CR_S (rest := []) hok (ct_X11_standing (I2 22 (ix ((I2 0 43) - (1 : Int32))))) mw_X11_standing mst_X11_standing ml_X11_292 dX11_bind_18 rfl rfl (roomOk rfl) rfl) rfl rfl ?_
  intro x3
  refine T_iload_n hok 1 rfl rfl dX11_bind_21 ?_
  refine T_icmp_lt (tgt := 76) hok dX11_bind_22 rfl ?_ ?_
  · refine T_sub (lv' := []) [] rfl ?_
    exact hj76 I2
  refine T_aload_n hok 0 rfl rfl dX11_bind_25 ?_
  refine T_dup hok rfl dX11_bind_26 ?_
  refine T_getI hok fr_X11_289 lm_0 dX11_bind_27 ?_
  refine T_iconst hok ic_1 dX11_bind_30 ?_
  refine T_isub hok dX11_bind_31 ?_
  refine T_putI hok hA fr_X11_289 rfl rfl lm_0 dX11_bind_32 ?_
  intro I4
  refine T_aload_n hok 0 rfl rfl dX11_bind_35 ?_
  refine T_getR hok fr_X11_78 lm_0 rm_0_41 dX11_bind_36 ?_
  refine T_aload_n hok 0 rfl rfl dX11_bind_39 ?_
  refine T_getI hok fr_X11_289 lm_0 dX11_bind_40 ?_
  refine T_iald hok lm_22 dX11_bind_43 ?_
  refine T_lti ?_
  intro x5
  refine T_istore_n (lv' := [(2, .int x5), (0, .ref (b + 0)), (1, .int a1)]) hok rfl (by decide) rfl dX11_bind_44 ?_
  refine T_iload_n hok 0 rfl rfl dX11_bind_45 ?_
  refine T_iconst hok ic_2 dX11_bind_46 ?_
  refine T_jp _ (fun (j58 : Int32 → MI → Option (MI)) => ∀ (x6 : Int32) (I7 : MI), T X A (Zm X A (iv1 (fun (I' : MI) => Rg G b Lm (Rm b) I' J))) 5 0 0 58 [(0, .ref (b + 0)), (1, .int a1), (2, .int x5)] [.int x6] (Rg G b Lm (Rm b) I7 J) (j58 x6 I7)) _ ?_ ?_
  · intro x6 I7
    refine T_istore_n (lv' := [(3, .int x6), (0, .ref (b + 0)), (1, .int a1), (2, .int x5)]) hok rfl (by decide) rfl dX11_bind_58 ?_
    refine T_aload_n hok 1 rfl rfl dX11_bind_59 ?_
    refine T_ci1 (CR_V (rest := []) hok (ct_X11_dropHeld hA I7 J) mw_X11_dropHeld mv_X11_dropHeld ml_X11_296 lm_0 dX11_bind_60 rfl rfl (roomOk rfl) rfl) rfl rfl ?_
    intro x8 I9
    refine T_istore (lv' := [(4, .int x8), (3, .int x6), (0, .ref (b + 0)), (1, .int a1), (2, .int x5)]) hok (by decide) rfl dX11_bind_63 ?_
    refine T_aload_n hok 2 rfl rfl dX11_bind_65 ?_
    refine T_iload_n hok 4 rfl rfl dX11_bind_66 ?_
    refine T_iload hok 0 rfl dX11_bind_67 ?_
    refine T_iload_n hok 1 rfl rfl dX11_bind_69 ?_
    refine T_cv1 (CR_V (rest := []) hok (ct_X11_grown hA I9 J x5 x8 x6) mw_X11_grown mv_X11_grown ml_X11_300 lm_0 dX11_bind_70 rfl rfl (roomOk rfl) rfl) rfl rfl ?_
    intro I10
    refine T_goto (tgt := 0) hok dX11_bind_73 rfl ?_
    refine T_sub (lv' := [(0, .ref (b + 0)), (1, .int a1)]) [2, 3] rfl ?_
    exact hr0 I10
  intro j58 hj58
  refine T_icmp_ne (tgt := 54) hok dX11_bind_47 rfl ?_ ?_
  · refine T_iconst hok ic_m1 dX11_bind_50 ?_
    refine T_goto (tgt := 58) hok dX11_bind_51 rfl ?_
    refine T_sub (lv' := [(0, .ref (b + 0)), (1, .int a1), (2, .int x5)]) [1, 2, 0] rfl ?_
    exact hj58 (-1 : Int32) I4
  refine T_aload_n hok 1 rfl rfl dX11_bind_54 ?_
  refine T_ci1 (CR_V (rest := []) hok (ct_X11_dropHeld hA I4 J) mw_X11_dropHeld mv_X11_dropHeld ml_X11_296 lm_0 dX11_bind_55 rfl rfl (roomOk rfl) rfl) rfl rfl ?_
  intro x11 I12
  refine T_sub (lv' := [(0, .ref (b + 0)), (1, .int a1), (2, .int x5)]) [1, 2, 0] rfl ?_
  exact hj58 x11 I12

set_option maxHeartbeats 4000000 in
set_option maxRecDepth 100000 in
theorem ct_X11_signs {G : Gx} {l0 : Launch} {A : Nat → Prop} {b : Nat} (hA : ∀ k, k < Lm.length → A (b + k)) (I : MI) (J : MJ) : Ct G l0 A yX11_signs cX11_signs 2 (some .boolean) { frames := 2, cells := 0, slots := 0, locals := 47 } [.ref (b + 0)] (Rg G b Lm (Rm b) I J) (iz1 (fun (I' : MI) => Rg G b Lm (Rm b) I' J)) (f_X11_signs I) := by
  refine Ct.of rfl (Nat.le_of_ble_eq_true rfl) ?_
  intro X hok
  replace hok : Ok G l0 X RX11 cX11_signs 2 { frames := 2, cells := 0, slots := 0, locals := 47 } (some .boolean) := hok
  delta f_X11_signs
  show T X A (Zm X A (iz1 (fun (I' : MI) => Rg G b Lm (Rm b) I' J))) 2 0 0 0 [(0, .ref (b + 0))] [] (Rg G b Lm (Rm b) I J) _
  refine T_aload_n hok 0 rfl rfl dX11_signs_0 ?_
  refine T_bipush hok bp_41 dX11_signs_1 ?_
  refine T_cz0 (CR_V (rest := []) hok (ct_X11_isSign hA I J (41 : Int32)) mw_X11_isSign mv_X11_isSign ml_X11_206 lm_0 dX11_signs_3 rfl rfl (roomOk rfl) rfl) rfl rfl ?_
  intro x1
  refine T_jp _ (fun (j47 : Option (Bool × MI)) => T X A (Zm X A (iz1 (fun (I' : MI) => Rg G b Lm (Rm b) I' J))) 2 0 0 47 [(0, .ref (b + 0))] [] (Rg G b Lm (Rm b) I J) (j47)) _ ?_ ?_
  · skip
    refine T_aload_n hok 0 rfl rfl dX11_signs_47 ?_
    refine T_bipush hok bp_10 dX11_signs_48 ?_
    refine T_cz0 (CR_V (rest := []) hok (ct_X11_isKey hA I J (10 : Int32)) mw_X11_isKey mv_X11_isKey ml_X11_315 lm_0 dX11_signs_50 rfl rfl (roomOk rfl) rfl) rfl rfl ?_
    intro x2
    refine T_jp _ (fun (j147 : Int32 → Option (Bool × MI)) => ∀ (x3 : Int32), T X A (Zm X A (iz1 (fun (I' : MI) => Rg G b Lm (Rm b) I' J))) 2 0 0 147 [(0, .ref (b + 0))] [.int x3] (Rg G b Lm (Rm b) I J) (j147 x3)) _ ?_ ?_
    · intro x3
      refine T_istore_n (lv' := [(1, .int x3), (0, .ref (b + 0))]) hok rfl (by decide) rfl dX11_signs_147 ?_
      refine T_iload_n hok 0 rfl rfl dX11_signs_148 ?_
      refine T_if_ne (tgt := 158) hok dX11_signs_149 rfl ?_ ?_
      · refine T_aload_n hok 1 rfl rfl dX11_signs_152 ?_
        refine T_iconst hok ic_1 dX11_signs_153 ?_
        refine T_cz1 (CR_V (rest := []) hok (ct_X11_wrong hA I J (1 : Int32)) mw_X11_wrong mv_X11_wrong ml_X11_193 lm_0 dX11_signs_154 rfl rfl (roomOk rfl) rfl) rfl rfl ?_
        intro x4 I5
        exact T_zret hok dX11_signs_157 (Nat.zero_le _) (Nat.zero_le _) (bi_01 _) rfl
      refine T_aload_n hok 1 rfl rfl dX11_signs_158 ?_
      refine T_iload_n hok 0 rfl rfl dX11_signs_159 ?_
      refine T_ci0 (CR_S (rest := [.ref (b + 0)]) hok (ct_X11_standing x3) mw_X11_standing mst_X11_standing ml_X11_292 dX11_signs_160 rfl rfl (roomOk rfl) rfl) rfl rfl ?_
      intro x6
      refine T_iconst hok ic_4 dX11_signs_163 ?_
      refine T_jp _ (fun (j175 : Int32 → Option (Bool × MI)) => ∀ (x7 : Int32), T X A (Zm X A (iz1 (fun (I' : MI) => Rg G b Lm (Rm b) I' J))) 2 0 0 175 [(0, .ref (b + 0)), (1, .int x3)] [.int x7, .ref (b + 0)] (Rg G b Lm (Rm b) I J) (j175 x7)) _ ?_ ?_
      · intro x7
        refine T_cv1 (CR_V (rest := []) hok (ct_X11_bind hA I J x7) mw_X11_bind mv_X11_bind ml_X11_327 lm_0 dX11_signs_175 rfl rfl (roomOk rfl) rfl) rfl rfl ?_
        intro I8
        refine T_iload_n hok 1 rfl rfl dX11_signs_178 ?_
        refine T_ci0 (CR_S (rest := []) hok (ct_X11_standing x3) mw_X11_standing mst_X11_standing ml_X11_292 dX11_signs_179 rfl rfl (roomOk rfl) rfl) rfl rfl ?_
        intro x9
        refine T_iconst hok ic_4 dX11_signs_182 ?_
        refine T_jp _ (fun (j217 : Option (Bool × MI)) => T X A (Zm X A (iz1 (fun (I' : MI) => Rg G b Lm (Rm b) I' J))) 2 0 0 217 [(0, .ref (b + 0)), (1, .int x3)] [] (Rg G b Lm (Rm b) I8 J) (j217)) _ ?_ ?_
        · skip
          refine T_aload_n hok 0 rfl rfl dX11_signs_217 ?_
          refine T_cz1 (CR_V (rest := []) hok (ct_X11_isCounted hA I8 J) mw_X11_isCounted mv_X11_isCounted ml_X11_318 lm_0 dX11_signs_218 rfl rfl (roomOk rfl) rfl) rfl rfl ?_
          intro x10 I11
          refine T_ifb_ne (tgt := 226) hok dX11_signs_221 rfl ?_ ?_
          · refine T_aload_n hok 0 rfl rfl dX11_signs_226 ?_
            refine T_iload_n hok 1 rfl rfl dX11_signs_227 ?_
            refine T_cv1 (CR_V (rest := []) hok (ct_X11_waitsFor hA I11 J x3) mw_X11_waitsFor mv_X11_waitsFor ml_X11_307 lm_0 dX11_signs_228 rfl rfl (roomOk rfl) rfl) rfl rfl ?_
            intro I12
            refine T_aload_n hok 0 rfl rfl dX11_signs_231 ?_
            refine T_iconst hok ic_1 dX11_signs_232 ?_
            refine T_putZ hok hA fr_X11_324 rfl rfl lm_0 dX11_signs_233 ?_
            intro I13
            refine T_aload_n hok 0 rfl rfl dX11_signs_236 ?_
            refine T_iload_n hok 1 rfl rfl dX11_signs_237 ?_
            refine T_ci0 (CR_S (rest := [.ref (b + 0)]) hok (ct_X11_standing x3) mw_X11_standing mst_X11_standing ml_X11_292 dX11_signs_238 rfl rfl (roomOk rfl) rfl) rfl rfl ?_
            intro x14
            refine T_iconst hok ic_3 dX11_signs_241 ?_
            refine T_jp _ (fun (j250 : Bool → Option (Bool × MI)) => ∀ (x15 : Bool), T X A (Zm X A (iz1 (fun (I' : MI) => Rg G b Lm (Rm b) I' J))) 2 0 0 250 [(0, .ref (b + 0))] [.int (bi x15), .ref (b + 0)] (Rg G b Lm (Rm b) I13 J) (j250 x15)) _ ?_ ?_
            · intro x15
              refine T_putZ hok hA fr_X11_311 rfl rfl lm_0 dX11_signs_250 ?_
              intro I16
              refine T_aload_n hok 0 rfl rfl dX11_signs_253 ?_
              refine T_cv1 (CR_V (rest := []) hok (ct_X11_token hA I16 J) mw_X11_token mv_X11_token ml_X11_203 lm_0 dX11_signs_254 rfl rfl (roomOk rfl) rfl) rfl rfl ?_
              intro I17
              refine T_iconst hok ic_1 dX11_signs_257 ?_
              exact T_zret hok dX11_signs_258 (Nat.zero_le _) (Nat.zero_le _) rfl rfl
            intro j250 hj250
            refine T_icmp_ge (tgt := 249) hok dX11_signs_242 rfl ?_ ?_
            · refine T_iconst hok ic_0 dX11_signs_249 ?_
              refine T_sub (lv' := [(0, .ref (b + 0))]) [0] rfl ?_
              exact hj250 false
            refine T_iconst hok ic_1 dX11_signs_245 ?_
            refine T_goto (tgt := 250) hok dX11_signs_246 rfl ?_
            refine T_sub (lv' := [(0, .ref (b + 0))]) [0] rfl ?_
            exact hj250 true
          refine T_iconst hok ic_0 dX11_signs_224 ?_
          exact T_zret hok dX11_signs_225 (Nat.zero_le _) (Nat.zero_le _) rfl rfl
        intro j217 hj217
        refine T_icmp_ne (tgt := 217) hok dX11_signs_183 rfl ?_ ?_
        · refine T_aload_n hok 0 rfl rfl dX11_signs_186 ?_
          refine T_getI hok fr_X11_289 lm_0 dX11_signs_187 ?_
          refine T_if_le (tgt := 217) hok dX11_signs_190 rfl ?_ ?_
          · exact hj217
          refine T_aload_n hok 0 rfl rfl dX11_signs_193 ?_
          refine T_getR hok fr_X11_78 lm_0 rm_0_41 dX11_signs_194 ?_
          refine T_aload_n hok 0 rfl rfl dX11_signs_197 ?_
          refine T_getI hok fr_X11_289 lm_0 dX11_signs_198 ?_
          refine T_iconst hok ic_1 dX11_signs_201 ?_
          refine T_isub hok dX11_signs_202 ?_
          refine T_iald hok lm_22 dX11_signs_203 ?_
          refine T_ci0 (CR_S (rest := []) hok (ct_X11_standing (I8 22 (ix ((I8 0 43) - (1 : Int32))))) mw_X11_standing mst_X11_standing ml_X11_292 dX11_signs_204 rfl rfl (roomOk rfl) rfl) rfl rfl ?_
          intro x18
          refine T_iconst hok ic_4 dX11_signs_207 ?_
          refine T_icmp_ne (tgt := 217) hok dX11_signs_208 rfl ?_ ?_
          · refine T_aload_n hok 0 rfl rfl dX11_signs_211 ?_
            refine T_iconst hok ic_1 dX11_signs_212 ?_
            refine T_cz1 (CR_V (rest := []) hok (ct_X11_wrong hA I8 J (1 : Int32)) mw_X11_wrong mv_X11_wrong ml_X11_193 lm_0 dX11_signs_213 rfl rfl (roomOk rfl) rfl) rfl rfl ?_
            intro x19 I20
            exact T_zret hok dX11_signs_216 (Nat.zero_le _) (Nat.zero_le _) (bi_01 _) rfl
          exact hj217
        exact hj217
      intro j175 hj175
      refine T_icmp_ne (tgt := 171) hok dX11_signs_164 rfl ?_ ?_
      · refine T_iconst hok ic_5 dX11_signs_167 ?_
        refine T_goto (tgt := 175) hok dX11_signs_168 rfl ?_
        refine T_sub (lv' := [(0, .ref (b + 0)), (1, .int x3)]) [1, 0] rfl ?_
        exact hj175 (5 : Int32)
      refine T_iload_n hok 0 rfl rfl dX11_signs_171 ?_
      refine T_ci0 (CR_S (rest := [.ref (b + 0)]) hok (ct_X11_standing x3) mw_X11_standing mst_X11_standing ml_X11_292 dX11_signs_172 rfl rfl (roomOk rfl) rfl) rfl rfl ?_
      intro x21
      refine T_sub (lv' := [(0, .ref (b + 0)), (1, .int x3)]) [1, 0] rfl ?_
      exact hj175 x21
    intro j147 hj147
    refine T_ifb_eq (tgt := 60) hok dX11_signs_53 rfl ?_ ?_
    · refine T_iconst hok ic_3 dX11_signs_56 ?_
      refine T_goto (tgt := 147) hok dX11_signs_57 rfl ?_
      exact hj147 (3 : Int32)
    refine T_aload_n hok 0 rfl rfl dX11_signs_60 ?_
    refine T_bipush hok bp_11 dX11_signs_61 ?_
    refine T_cz0 (CR_V (rest := []) hok (ct_X11_isKey hA I J (11 : Int32)) mw_X11_isKey mv_X11_isKey ml_X11_315 lm_0 dX11_signs_63 rfl rfl (roomOk rfl) rfl) rfl rfl ?_
    intro x22
    refine T_ifb_eq (tgt := 73) hok dX11_signs_66 rfl ?_ ?_
    · refine T_iconst hok ic_4 dX11_signs_69 ?_
      refine T_goto (tgt := 147) hok dX11_signs_70 rfl ?_
      exact hj147 (4 : Int32)
    refine T_aload_n hok 0 rfl rfl dX11_signs_73 ?_
    refine T_getI hok fr_X11_169 lm_0 dX11_signs_74 ?_
    refine T_iconst hok ic_5 dX11_signs_77 ?_
    refine T_icmp_ne (tgt := 90) hok dX11_signs_78 rfl ?_ ?_
    · refine T_iconst hok ic_5 dX11_signs_81 ?_
      refine T_aload_n hok 0 rfl rfl dX11_signs_82 ?_
      refine T_getI hok fr_X11_180 lm_0 dX11_signs_83 ?_
      refine T_iadd hok dX11_signs_86 ?_
      refine T_goto (tgt := 147) hok dX11_signs_87 rfl ?_
      exact hj147 ((5 : Int32) + (I 0 9))
    refine T_aload_n hok 0 rfl rfl dX11_signs_90 ?_
    refine T_bipush hok bp_43 dX11_signs_91 ?_
    refine T_cz0 (CR_V (rest := []) hok (ct_X11_isSign hA I J (43 : Int32)) mw_X11_isSign mv_X11_isSign ml_X11_206 lm_0 dX11_signs_93 rfl rfl (roomOk rfl) rfl) rfl rfl ?_
    intro x23
    refine T_ifb_eq (tgt := 104) hok dX11_signs_96 rfl ?_ ?_
    · refine T_bipush hok bp_11 dX11_signs_99 ?_
      refine T_goto (tgt := 147) hok dX11_signs_101 rfl ?_
      exact hj147 (11 : Int32)
    refine T_aload_n hok 0 rfl rfl dX11_signs_104 ?_
    refine T_bipush hok bp_45 dX11_signs_105 ?_
    refine T_cz0 (CR_V (rest := []) hok (ct_X11_isSign hA I J (45 : Int32)) mw_X11_isSign mv_X11_isSign ml_X11_206 lm_0 dX11_signs_107 rfl rfl (roomOk rfl) rfl) rfl rfl ?_
    intro x24
    refine T_ifb_eq (tgt := 118) hok dX11_signs_110 rfl ?_ ?_
    · refine T_bipush hok bp_12 dX11_signs_113 ?_
      refine T_goto (tgt := 147) hok dX11_signs_115 rfl ?_
      exact hj147 (12 : Int32)
    refine T_aload_n hok 0 rfl rfl dX11_signs_118 ?_
    refine T_bipush hok bp_42 dX11_signs_119 ?_
    refine T_cz0 (CR_V (rest := []) hok (ct_X11_isSign hA I J (42 : Int32)) mw_X11_isSign mv_X11_isSign ml_X11_206 lm_0 dX11_signs_121 rfl rfl (roomOk rfl) rfl) rfl rfl ?_
    intro x25
    refine T_ifb_eq (tgt := 132) hok dX11_signs_124 rfl ?_ ?_
    · refine T_bipush hok bp_13 dX11_signs_127 ?_
      refine T_goto (tgt := 147) hok dX11_signs_129 rfl ?_
      exact hj147 (13 : Int32)
    refine T_aload_n hok 0 rfl rfl dX11_signs_132 ?_
    refine T_bipush hok bp_47 dX11_signs_133 ?_
    refine T_cz0 (CR_V (rest := []) hok (ct_X11_isSign hA I J (47 : Int32)) mw_X11_isSign mv_X11_isSign ml_X11_206 lm_0 dX11_signs_135 rfl rfl (roomOk rfl) rfl) rfl rfl ?_
    intro x26
    refine T_ifb_eq (tgt := 146) hok dX11_signs_138 rfl ?_ ?_
    · refine T_bipush hok bp_14 dX11_signs_141 ?_
      refine T_goto (tgt := 147) hok dX11_signs_143 rfl ?_
      exact hj147 (14 : Int32)
    refine T_iconst hok ic_0 dX11_signs_146 ?_
    exact hj147 (0 : Int32)
  intro j47 hj47
  refine T_ifb_eq (tgt := 47) hok dX11_signs_6 rfl ?_ ?_
  · refine T_aload_n hok 0 rfl rfl dX11_signs_9 ?_
    refine T_getI hok fr_X11_304 lm_0 dX11_signs_10 ?_
    refine T_if_le (tgt := 47) hok dX11_signs_13 rfl ?_ ?_
    · exact hj47
    refine T_aload_n hok 0 rfl rfl dX11_signs_16 ?_
    refine T_iconst hok ic_1 dX11_signs_17 ?_
    refine T_cv1 (CR_V (rest := []) hok (ct_X11_bind hA I J (1 : Int32)) mw_X11_bind mv_X11_bind ml_X11_327 lm_0 dX11_signs_18 rfl rfl (roomOk rfl) rfl) rfl rfl ?_
    intro I27
    refine T_aload_n hok 0 rfl rfl dX11_signs_21 ?_
    refine T_dup hok rfl dX11_signs_22 ?_
    refine T_getI hok fr_X11_289 lm_0 dX11_signs_23 ?_
    refine T_iconst hok ic_1 dX11_signs_26 ?_
    refine T_isub hok dX11_signs_27 ?_
    refine T_putI hok hA fr_X11_289 rfl rfl lm_0 dX11_signs_28 ?_
    intro I28
    refine T_aload_n hok 0 rfl rfl dX11_signs_31 ?_
    refine T_dup hok rfl dX11_signs_32 ?_
    refine T_getI hok fr_X11_304 lm_0 dX11_signs_33 ?_
    refine T_iconst hok ic_1 dX11_signs_36 ?_
    refine T_isub hok dX11_signs_37 ?_
    refine T_putI hok hA fr_X11_304 rfl rfl lm_0 dX11_signs_38 ?_
    intro I29
    refine T_aload_n hok 0 rfl rfl dX11_signs_41 ?_
    refine T_cv1 (CR_V (rest := []) hok (ct_X11_token hA I29 J) mw_X11_token mv_X11_token ml_X11_203 lm_0 dX11_signs_42 rfl rfl (roomOk rfl) rfl) rfl rfl ?_
    intro I30
    refine T_iconst hok ic_1 dX11_signs_45 ?_
    exact T_zret hok dX11_signs_46 (Nat.zero_le _) (Nat.zero_le _) rfl rfl
  exact hj47

set_option maxHeartbeats 4000000 in
set_option maxRecDepth 100000 in
theorem ct_X11_sumRead {G : Gx} {l0 : Launch} {A : Nat → Prop} {b : Nat} (hA : ∀ k, k < Lm.length → A (b + k)) (I : MI) (J : MJ) : Ct G l0 A yX11_sumRead cX11_sumRead 1 (some .boolean) { frames := 3, cells := 0, slots := 0, locals := 68 } [.ref (b + 0)] (Rg G b Lm (Rm b) I J) (iz1 (fun (I' : MI) => Rg G b Lm (Rm b) I' J)) (f_X11_sumRead I) := by
  refine Ct.of rfl (Nat.le_of_ble_eq_true rfl) ?_
  intro X hok
  replace hok : Ok G l0 X RX11 cX11_sumRead 1 { frames := 3, cells := 0, slots := 0, locals := 68 } (some .boolean) := hok
  delta f_X11_sumRead
  show T X A (Zm X A (iz1 (fun (I' : MI) => Rg G b Lm (Rm b) I' J))) 1 0 0 0 [(0, .ref (b + 0))] [] (Rg G b Lm (Rm b) I J) _
  refine T_aload_n hok 0 rfl rfl dX11_sumRead_0 ?_
  refine T_iconst hok ic_0 dX11_sumRead_1 ?_
  refine T_putI hok hA fr_X11_289 rfl rfl lm_0 dX11_sumRead_2 ?_
  intro I1
  refine T_aload_n hok 0 rfl rfl dX11_sumRead_5 ?_
  refine T_iconst hok ic_0 dX11_sumRead_6 ?_
  refine T_putI hok hA fr_X11_286 rfl rfl lm_0 dX11_sumRead_7 ?_
  intro I2
  refine T_aload_n hok 0 rfl rfl dX11_sumRead_10 ?_
  refine T_iconst hok ic_0 dX11_sumRead_11 ?_
  refine T_putI hok hA fr_X11_304 rfl rfl lm_0 dX11_sumRead_12 ?_
  intro I3
  refine T_aload_n hok 0 rfl rfl dX11_sumRead_15 ?_
  refine T_iconst hok ic_1 dX11_sumRead_16 ?_
  refine T_putZ hok hA fr_X11_324 rfl rfl lm_0 dX11_sumRead_17 ?_
  intro I4
  refine T_aload_n hok 0 rfl rfl dX11_sumRead_20 ?_
  refine T_iconst hok ic_1 dX11_sumRead_21 ?_
  refine T_putZ hok hA fr_X11_311 rfl rfl lm_0 dX11_sumRead_22 ?_
  intro I5
  refine T_jp _ (fun (j72 : MI → Option (Bool × MI)) => ∀ (I6 : MI), T X A (Zm X A (iz1 (fun (I' : MI) => Rg G b Lm (Rm b) I' J))) 1 0 0 72 [] [] (Rg G b Lm (Rm b) I6 J) (j72 I6)) _ ?_ ?_
  · intro I6
    refine T_iconst hok ic_0 dX11_sumRead_72 ?_
    exact T_zret hok dX11_sumRead_73 (Nat.zero_le _) (Nat.zero_le _) rfl rfl
  intro j72 hj72
  refine T_jp _ (fun (j74 : MI → Option (Bool × MI)) => ∀ (I7 : MI), T X A (Zm X A (iz1 (fun (I' : MI) => Rg G b Lm (Rm b) I' J))) 1 0 0 74 [(0, .ref (b + 0))] [] (Rg G b Lm (Rm b) I7 J) (j74 I7)) _ ?_ ?_
  · intro I7
    refine T_aload_n hok 0 rfl rfl dX11_sumRead_74 ?_
    refine T_iconst hok ic_1 dX11_sumRead_75 ?_
    refine T_cv1 (CR_V (rest := []) hok (ct_X11_bind hA I7 J (1 : Int32)) mw_X11_bind mv_X11_bind ml_X11_327 lm_0 dX11_sumRead_76 rfl rfl (roomOk rfl) rfl) rfl rfl ?_
    intro I8
    refine T_iconst hok ic_1 dX11_sumRead_79 ?_
    exact T_zret hok dX11_sumRead_80 (Nat.zero_le _) (Nat.zero_le _) rfl rfl
  intro j74 hj74
  refine T_fix1 _ (fun (I9 : MI) => [(0, .ref (b + 0))]) (fun (I9 : MI) => Rg G b Lm (Rm b) I9 J) ?_ FU I5
  intro r25 hr25 I9
  refine T_aload_n hok 0 rfl rfl dX11_sumRead_25 ?_
  refine T_bipush hok bp_59 dX11_sumRead_26 ?_
  refine T_cz0 (CR_V (rest := []) hok (ct_X11_isSign hA I9 J (59 : Int32)) mw_X11_isSign mv_X11_isSign ml_X11_206 lm_0 dX11_sumRead_28 rfl rfl (roomOk rfl) rfl) rfl rfl ?_
  intro x10
  refine T_jp _ (fun (j48 : Option (Bool × MI)) => T X A (Zm X A (iz1 (fun (I' : MI) => Rg G b Lm (Rm b) I' J))) 1 0 0 48 [(0, .ref (b + 0))] [] (Rg G b Lm (Rm b) I9 J) (j48)) _ ?_ ?_
  · skip
    refine T_aload_n hok 0 rfl rfl dX11_sumRead_48 ?_
    refine T_getI hok fr_X11_324 lm_0 dX11_sumRead_49 ?_
    refine T_if_eq (tgt := 65) hok dX11_sumRead_52 rfl ?_ ?_
    · refine T_aload_n hok 0 rfl rfl dX11_sumRead_65 ?_
      refine T_cz1 (CR_V (rest := []) hok (ct_X11_signs hA I9 J) mw_X11_signs mv_X11_signs ml_X11_333 lm_0 dX11_sumRead_66 rfl rfl (roomOk rfl) rfl) rfl rfl ?_
      intro x11 I12
      refine T_ifb_ne (tgt := 25) hok dX11_sumRead_69 rfl ?_ ?_
      · exact hr25 I12
      refine T_sub (lv' := []) [] rfl ?_
      exact hj72 I12
    refine T_aload_n hok 0 rfl rfl dX11_sumRead_55 ?_
    refine T_cz1 (CR_V (rest := []) hok (ct_X11_leafRead hA I9 J) mw_X11_leafRead mv_X11_leafRead ml_X11_330 lm_0 dX11_sumRead_56 rfl rfl (roomOk rfl) rfl) rfl rfl ?_
    intro x13 I14
    refine T_ifb_eq (tgt := 72) hok dX11_sumRead_59 rfl ?_ ?_
    · refine T_goto (tgt := 25) hok dX11_sumRead_62 rfl ?_
      exact hr25 I14
    refine T_sub (lv' := []) [] rfl ?_
    exact hj72 I14
  intro j48 hj48
  refine T_ifb_eq (tgt := 48) hok dX11_sumRead_31 rfl ?_ ?_
  · refine T_aload_n hok 0 rfl rfl dX11_sumRead_34 ?_
    refine T_getI hok fr_X11_324 lm_0 dX11_sumRead_35 ?_
    refine T_if_ne (tgt := 48) hok dX11_sumRead_38 rfl ?_ ?_
    · refine T_aload_n hok 0 rfl rfl dX11_sumRead_41 ?_
      refine T_getI hok fr_X11_304 lm_0 dX11_sumRead_42 ?_
      refine T_if_le (tgt := 74) hok dX11_sumRead_45 rfl ?_ ?_
      · exact hj74 I9
      exact hj48
    exact hj48
  exact hj48

set_option maxHeartbeats 4000000 in
set_option maxRecDepth 100000 in
theorem ct_X11_lineRead {G : Gx} {l0 : Launch} {A : Nat → Prop} {b : Nat} (hA : ∀ k, k < Lm.length → A (b + k)) (I : MI) (J : MJ) : Ct G l0 A yX11_lineRead cX11_lineRead 3 (some .boolean) { frames := 4, cells := 0, slots := 0, locals := 93 } [.ref (b + 0)] (Rg G b Lm (Rm b) I J) (iz1 (fun (I' : MI) => Rg G b Lm (Rm b) I' J)) (f_X11_lineRead I) := by
  refine Ct.of rfl (Nat.le_of_ble_eq_true rfl) ?_
  intro X hok
  replace hok : Ok G l0 X RX11 cX11_lineRead 3 { frames := 4, cells := 0, slots := 0, locals := 93 } (some .boolean) := hok
  delta f_X11_lineRead
  show T X A (Zm X A (iz1 (fun (I' : MI) => Rg G b Lm (Rm b) I' J))) 3 0 0 0 [(0, .ref (b + 0))] [] (Rg G b Lm (Rm b) I J) _
  refine T_aload_n hok 0 rfl rfl dX11_lineRead_0 ?_
  refine T_getI hok fr_X11_169 lm_0 dX11_lineRead_1 ?_
  refine T_iconst hok ic_1 dX11_lineRead_4 ?_
  refine T_jp _ (fun (j17 : Option (Bool × MI)) => T X A (Zm X A (iz1 (fun (I' : MI) => Rg G b Lm (Rm b) I' J))) 3 0 0 17 [(0, .ref (b + 0))] [] (Rg G b Lm (Rm b) I J) (j17)) _ ?_ ?_
  · skip
    refine T_aload_n hok 0 rfl rfl dX11_lineRead_17 ?_
    refine T_iconst hok ic_1 dX11_lineRead_18 ?_
    refine T_cz1 (CR_V (rest := []) hok (ct_X11_wrong hA I J (1 : Int32)) mw_X11_wrong mv_X11_wrong ml_X11_193 lm_0 dX11_lineRead_19 rfl rfl (roomOk rfl) rfl) rfl rfl ?_
    intro x1 I2
    exact T_zret hok dX11_lineRead_22 (Nat.zero_le _) (Nat.zero_le _) (bi_01 _) rfl
  intro j17 hj17
  refine T_icmp_ne (tgt := 17) hok dX11_lineRead_5 rfl ?_ ?_
  · refine T_aload_n hok 0 rfl rfl dX11_lineRead_8 ?_
    refine T_getI hok fr_X11_180 lm_0 dX11_lineRead_9 ?_
    refine T_bipush hok bp_6 dX11_lineRead_12 ?_
    refine T_icmp_le (tgt := 23) hok dX11_lineRead_14 rfl ?_ ?_
    · refine T_aload_n hok 0 rfl rfl dX11_lineRead_23 ?_
      refine T_getI hok fr_X11_180 lm_0 dX11_lineRead_24 ?_
      refine T_jp _ (fun (j217 : Int32 → MI → Option (Bool × MI)) => ∀ (x3 : Int32) (I4 : MI), T X A (Zm X A (iz1 (fun (I' : MI) => Rg G b Lm (Rm b) I' J))) 3 0 0 217 [(0, .ref (b + 0)), (1, .int x3)] [] (Rg G b Lm (Rm b) I4 J) (j217 x3 I4)) _ ?_ ?_
      · intro x3 I4
        refine T_iload_n hok 1 rfl rfl dX11_lineRead_217 ?_
        refine T_if_ne (tgt := 223) hok dX11_lineRead_218 rfl ?_ ?_
        · refine T_iconst hok ic_0 dX11_lineRead_221 ?_
          exact T_zret hok dX11_lineRead_222 (Nat.zero_le _) (Nat.zero_le _) rfl rfl
        refine T_aload_n hok 0 rfl rfl dX11_lineRead_223 ?_
        refine T_bipush hok bp_59 dX11_lineRead_224 ?_
        refine T_cz0 (CR_V (rest := []) hok (ct_X11_isSign hA I4 J (59 : Int32)) mw_X11_isSign mv_X11_isSign ml_X11_206 lm_0 dX11_lineRead_226 rfl rfl (roomOk rfl) rfl) rfl rfl ?_
        intro x5
        refine T_ifb_ne (tgt := 238) hok dX11_lineRead_229 rfl ?_ ?_
        · refine T_aload_n hok 0 rfl rfl dX11_lineRead_238 ?_
          refine T_cv1 (CR_V (rest := []) hok (ct_X11_token hA I4 J) mw_X11_token mv_X11_token ml_X11_203 lm_0 dX11_lineRead_239 rfl rfl (roomOk rfl) rfl) rfl rfl ?_
          intro I6
          refine T_iconst hok ic_1 dX11_lineRead_242 ?_
          exact T_zret hok dX11_lineRead_243 (Nat.zero_le _) (Nat.zero_le _) rfl rfl
        refine T_aload_n hok 0 rfl rfl dX11_lineRead_232 ?_
        refine T_iconst hok ic_1 dX11_lineRead_233 ?_
        refine T_cz1 (CR_V (rest := []) hok (ct_X11_wrong hA I4 J (1 : Int32)) mw_X11_wrong mv_X11_wrong ml_X11_193 lm_0 dX11_lineRead_234 rfl rfl (roomOk rfl) rfl) rfl rfl ?_
        intro x7 I8
        exact T_zret hok dX11_lineRead_237 (Nat.zero_le _) (Nat.zero_le _) (bi_01 _) rfl
      intro j217 hj217
      refine T_swc (fun hx0 => ?_) (fun hx0 => ?_)
      · refine T_tin (tgt := 64) hok hx0 dX11_lineRead_27 (by decide) (by decide) rfl rfl ?_
        refine T_aload_n hok 0 rfl rfl dX11_lineRead_64 ?_
        refine T_cz1 (CR_V (rest := []) hok (ct_X11_kindLine hA I J) mw_X11_kindLine mv_X11_kindLine ml_X11_264 lm_0 dX11_lineRead_65 rfl rfl (roomOk rfl) rfl) rfl rfl ?_
        intro x9 I10
        refine T_lti ?_
        intro x11
        refine T_istore_n (lv' := [(1, .int x11), (0, .ref (b + 0))]) hok rfl (by decide) rfl dX11_lineRead_68 ?_
        refine T_goto (tgt := 217) hok dX11_lineRead_69 rfl ?_
        refine T_sub (lv' := [(0, .ref (b + 0)), (1, .int x11)]) [1, 0] rfl ?_
        exact hj217 x11 I10
      refine T_swc (fun hx1 => ?_) (fun hx1 => ?_)
      · refine T_tin (tgt := 72) hok hx1 dX11_lineRead_27 (by decide) (by decide) rfl rfl ?_
        refine T_aload_n hok 0 rfl rfl dX11_lineRead_72 ?_
        refine T_cz1 (CR_V (rest := []) hok (ct_X11_houseLine hA I J) mw_X11_houseLine mv_X11_houseLine ml_X11_268 lm_0 dX11_lineRead_73 rfl rfl (roomOk rfl) rfl) rfl rfl ?_
        intro x12 I13
        refine T_lti ?_
        intro x14
        refine T_istore_n (lv' := [(1, .int x14), (0, .ref (b + 0))]) hok rfl (by decide) rfl dX11_lineRead_76 ?_
        refine T_goto (tgt := 217) hok dX11_lineRead_77 rfl ?_
        refine T_sub (lv' := [(0, .ref (b + 0)), (1, .int x14)]) [1, 0] rfl ?_
        exact hj217 x14 I13
      refine T_swc (fun hx2 => ?_) (fun hx2 => ?_)
      · refine T_tin (tgt := 80) hok hx2 dX11_lineRead_27 (by decide) (by decide) rfl rfl ?_
        refine T_aload_n hok 0 rfl rfl dX11_lineRead_80 ?_
        refine T_cz1 (CR_V (rest := []) hok (ct_X11_dayLine hA I J) mw_X11_dayLine mv_X11_dayLine ml_X11_271 lm_0 dX11_lineRead_81 rfl rfl (roomOk rfl) rfl) rfl rfl ?_
        intro x15 I16
        refine T_lti ?_
        intro x17
        refine T_istore_n (lv' := [(1, .int x17), (0, .ref (b + 0))]) hok rfl (by decide) rfl dX11_lineRead_84 ?_
        refine T_goto (tgt := 217) hok dX11_lineRead_85 rfl ?_
        refine T_sub (lv' := [(0, .ref (b + 0)), (1, .int x17)]) [1, 0] rfl ?_
        exact hj217 x17 I16
      refine T_swc (fun hx3 => ?_) (fun hx3 => ?_)
      · refine T_tin (tgt := 88) hok hx3 dX11_lineRead_27 (by decide) (by decide) rfl rfl ?_
        refine T_aload_n hok 0 rfl rfl dX11_lineRead_88 ?_
        refine T_cz1 (CR_V (rest := []) hok (ct_X11_workLine hA I J) mw_X11_workLine mv_X11_workLine ml_X11_274 lm_0 dX11_lineRead_89 rfl rfl (roomOk rfl) rfl) rfl rfl ?_
        intro x18 I19
        refine T_lti ?_
        intro x20
        refine T_istore_n (lv' := [(1, .int x20), (0, .ref (b + 0))]) hok rfl (by decide) rfl dX11_lineRead_92 ?_
        refine T_goto (tgt := 217) hok dX11_lineRead_93 rfl ?_
        refine T_sub (lv' := [(0, .ref (b + 0)), (1, .int x20)]) [1, 0] rfl ?_
        exact hj217 x20 I19
      refine T_swc (fun hx4 => ?_) (fun hx4 => ?_)
      · refine T_tin (tgt := 96) hok hx4 dX11_lineRead_27 (by decide) (by decide) rfl rfl ?_
        refine T_aload_n hok 0 rfl rfl dX11_lineRead_96 ?_
        refine T_iconst hok ic_0 dX11_lineRead_97 ?_
        refine T_iconst hok ic_1 dX11_lineRead_98 ?_
        refine T_bipush hok bp_99 dX11_lineRead_99 ?_
        refine T_cz1 (CR_V (rest := []) hok (ct_X11_onceLine hA I J (0 : Int32) (1 : Int32) (99 : Int32)) mw_X11_onceLine mv_X11_onceLine ml_X11_277 lm_0 dX11_lineRead_101 rfl rfl (roomOk rfl) rfl) rfl rfl ?_
        intro x21 I22
        refine T_lti ?_
        intro x23
        refine T_istore_n (lv' := [(1, .int x23), (0, .ref (b + 0))]) hok rfl (by decide) rfl dX11_lineRead_104 ?_
        refine T_goto (tgt := 217) hok dX11_lineRead_105 rfl ?_
        refine T_sub (lv' := [(0, .ref (b + 0)), (1, .int x23)]) [1, 0] rfl ?_
        exact hj217 x23 I22
      refine T_swc (fun hx5 => ?_) (fun hx5 => ?_)
      · refine T_tin (tgt := 108) hok hx5 dX11_lineRead_27 (by decide) (by decide) rfl rfl ?_
        refine T_aload_n hok 0 rfl rfl dX11_lineRead_108 ?_
        refine T_iconst hok ic_1 dX11_lineRead_109 ?_
        refine T_iconst hok ic_0 dX11_lineRead_110 ?_
        refine T_ldc hok lk_X11_189 dX11_lineRead_111 ?_
        refine T_cz1 (CR_V (rest := []) hok (ct_X11_onceLine hA I J (1 : Int32) (0 : Int32) (99999 : Int32)) mw_X11_onceLine mv_X11_onceLine ml_X11_277 lm_0 dX11_lineRead_113 rfl rfl (roomOk rfl) rfl) rfl rfl ?_
        intro x24 I25
        refine T_lti ?_
        intro x26
        refine T_istore_n (lv' := [(1, .int x26), (0, .ref (b + 0))]) hok rfl (by decide) rfl dX11_lineRead_116 ?_
        refine T_goto (tgt := 217) hok dX11_lineRead_117 rfl ?_
        refine T_sub (lv' := [(0, .ref (b + 0)), (1, .int x26)]) [1, 0] rfl ?_
        exact hj217 x26 I25
      refine T_swd ?_
      have nhx0 := toInt_ne (n := 0) rfl hx0
      have nhx1 := toInt_ne (n := 1) rfl hx1
      have nhx2 := toInt_ne (n := 2) rfl hx2
      have nhx3 := toInt_ne (n := 3) rfl hx3
      have nhx4 := toInt_ne (n := 4) rfl hx4
      have nhx5 := toInt_ne (n := 5) rfl hx5
      refine T_tdf (tgt := 120) (n := 6) hok dX11_lineRead_27 rfl (fun j hj he => ?_) rfl ?_
      · rcases (show j = 0 ∨ j = 1 ∨ j = 2 ∨ j = 3 ∨ j = 4 ∨ j = 5 by omega) with rfl | rfl | rfl | rfl | rfl | rfl <;> first | rfl | (exfalso; omega)
      refine T_aload_n hok 0 rfl rfl dX11_lineRead_120 ?_
      refine T_cv1 (CR_V (rest := []) hok (ct_X11_token hA I J) mw_X11_token mv_X11_token ml_X11_203 lm_0 dX11_lineRead_121 rfl rfl (roomOk rfl) rfl) rfl rfl ?_
      intro I27
      refine T_aload_n hok 0 rfl rfl dX11_lineRead_124 ?_
      refine T_getI hok fr_X11_169 lm_0 dX11_lineRead_125 ?_
      refine T_iconst hok ic_1 dX11_lineRead_128 ?_
      refine T_jp _ (fun (j150 : Option (Bool × MI)) => T X A (Zm X A (iz1 (fun (I' : MI) => Rg G b Lm (Rm b) I' J))) 3 0 0 150 [(0, .ref (b + 0))] [] (Rg G b Lm (Rm b) I27 J) (j150)) _ ?_ ?_
      · skip
        refine T_aload_n hok 0 rfl rfl dX11_lineRead_150 ?_
        refine T_iconst hok ic_1 dX11_lineRead_151 ?_
        refine T_cz1 (CR_V (rest := []) hok (ct_X11_wrong hA I27 J (1 : Int32)) mw_X11_wrong mv_X11_wrong ml_X11_193 lm_0 dX11_lineRead_152 rfl rfl (roomOk rfl) rfl) rfl rfl ?_
        intro x28 I29
        exact T_zret hok dX11_lineRead_155 (Nat.zero_le _) (Nat.zero_le _) (bi_01 _) rfl
      intro j150 hj150
      refine T_icmp_ne (tgt := 150) hok dX11_lineRead_129 rfl ?_ ?_
      · refine T_aload_n hok 0 rfl rfl dX11_lineRead_132 ?_
        refine T_getI hok fr_X11_180 lm_0 dX11_lineRead_133 ?_
        refine T_bipush hok bp_7 dX11_lineRead_136 ?_
        refine T_icmp_lt (tgt := 150) hok dX11_lineRead_138 rfl ?_ ?_
        · exact hj150
        refine T_aload_n hok 0 rfl rfl dX11_lineRead_141 ?_
        refine T_getI hok fr_X11_180 lm_0 dX11_lineRead_142 ?_
        refine T_bipush hok bp_9 dX11_lineRead_145 ?_
        refine T_icmp_le (tgt := 156) hok dX11_lineRead_147 rfl ?_ ?_
        · refine T_iconst hok ic_3 dX11_lineRead_156 ?_
          refine T_aload_n hok 0 rfl rfl dX11_lineRead_157 ?_
          refine T_getI hok fr_X11_180 lm_0 dX11_lineRead_158 ?_
          refine T_iadd hok dX11_lineRead_161 ?_
          refine T_bipush hok bp_7 dX11_lineRead_162 ?_
          refine T_isub hok dX11_lineRead_164 ?_
          refine T_lti ?_
          intro x30
          refine T_istore_n (lv' := [(2, .int x30), (0, .ref (b + 0))]) hok rfl (by decide) rfl dX11_lineRead_165 ?_
          refine T_aload_n hok 1 rfl rfl dX11_lineRead_166 ?_
          refine T_getR hok fr_X11_60 lm_0 rm_0_35 dX11_lineRead_167 ?_
          refine T_iload_n hok 0 rfl rfl dX11_lineRead_170 ?_
          refine T_zald hok lm_16 dX11_lineRead_171 ?_
          refine T_if_eq (tgt := 181) hok dX11_lineRead_172 rfl ?_ ?_
          · refine T_aload_n hok 1 rfl rfl dX11_lineRead_181 ?_
            refine T_getR hok fr_X11_60 lm_0 rm_0_35 dX11_lineRead_182 ?_
            refine T_iload_n hok 0 rfl rfl dX11_lineRead_185 ?_
            refine T_iconst hok ic_1 dX11_lineRead_186 ?_
            refine T_zast hok hA lm_16 dX11_lineRead_187 ?_
            intro I31
            refine T_aload_n hok 1 rfl rfl dX11_lineRead_188 ?_
            refine T_cv1 (CR_V (rest := []) hok (ct_X11_token hA I31 J) mw_X11_token mv_X11_token ml_X11_203 lm_0 dX11_lineRead_189 rfl rfl (roomOk rfl) rfl) rfl rfl ?_
            intro I32
            refine T_aload_n hok 1 rfl rfl dX11_lineRead_192 ?_
            refine T_getR hok fr_X11_63 lm_0 rm_0_36 dX11_lineRead_193 ?_
            refine T_iload_n hok 0 rfl rfl dX11_lineRead_196 ?_
            refine T_aload_n hok 1 rfl rfl dX11_lineRead_197 ?_
            refine T_getI hok fr_X11_225 lm_0 dX11_lineRead_198 ?_
            refine T_iast hok hA lm_17 dX11_lineRead_201 ?_
            intro I33
            refine T_aload_n hok 1 rfl rfl dX11_lineRead_202 ?_
            refine T_cz1 (CR_V (rest := []) hok (ct_X11_sumRead hA I33 J) mw_X11_sumRead mv_X11_sumRead ml_X11_280 lm_0 dX11_lineRead_203 rfl rfl (roomOk rfl) rfl) rfl rfl ?_
            intro x34 I35
            refine T_lti ?_
            intro x36
            refine T_istore_n (lv' := [(1, .int x36), (2, .int x30), (0, .ref (b + 0))]) hok rfl (by decide) rfl dX11_lineRead_206 ?_
            refine T_aload_n hok 2 rfl rfl dX11_lineRead_207 ?_
            refine T_getR hok fr_X11_66 lm_0 rm_0_37 dX11_lineRead_208 ?_
            refine T_iload_n hok 1 rfl rfl dX11_lineRead_211 ?_
            refine T_aload_n hok 2 rfl rfl dX11_lineRead_212 ?_
            refine T_getI hok fr_X11_225 lm_0 dX11_lineRead_213 ?_
            refine T_iast hok hA lm_18 dX11_lineRead_216 ?_
            intro I37
            refine T_sub (lv' := [(0, .ref (b + 0)), (1, .int x36)]) [2, 0] rfl ?_
            exact hj217 x36 I37
          refine T_aload_n hok 1 rfl rfl dX11_lineRead_175 ?_
          refine T_iconst hok ic_3 dX11_lineRead_176 ?_
          refine T_cz1 (CR_V (rest := []) hok (ct_X11_wrong hA I27 J (3 : Int32)) mw_X11_wrong mv_X11_wrong ml_X11_193 lm_0 dX11_lineRead_177 rfl rfl (roomOk rfl) rfl) rfl rfl ?_
          intro x38 I39
          exact T_zret hok dX11_lineRead_180 (Nat.zero_le _) (Nat.zero_le _) (bi_01 _) rfl
        exact hj150
      exact hj150
    exact hj17
  exact hj17

set_option maxHeartbeats 4000000 in
set_option maxRecDepth 100000 in
theorem ct_X11_text {G : Gx} {l0 : Launch} {A : Nat → Prop} {b : Nat} (hA : ∀ k, k < Lm.length → A (b + k)) (I : MI) (J : MJ) (a1 : Int32) : Ct G l0 A yX11_text cX11_text 3 (some .int) { frames := 5, cells := 0, slots := 0, locals := 115 } [.ref (b + 0), .int a1] (Rg G b Lm (Rm b) I J) (ii2 (fun (I' : MI) (J' : MJ) => Rg G b Lm (Rm b) I' J')) (f_X11_text I J a1) := by
  refine Ct.of rfl (Nat.le_of_ble_eq_true rfl) ?_
  intro X hok
  replace hok : Ok G l0 X RX11 cX11_text 3 { frames := 5, cells := 0, slots := 0, locals := 115 } (some .int) := hok
  delta f_X11_text
  show T X A (Zm X A (ii2 (fun (I' : MI) (J' : MJ) => Rg G b Lm (Rm b) I' J'))) 3 0 0 0 [(0, .ref (b + 0)), (1, .int a1)] [] (Rg G b Lm (Rm b) I J) _
  refine T_aload_n hok 0 rfl rfl dX11_text_0 ?_
  refine T_iconst hok ic_0 dX11_text_1 ?_
  refine T_putI hok hA fr_X11_151 rfl rfl lm_0 dX11_text_2 ?_
  intro I1
  refine T_iload_n hok 1 rfl rfl dX11_text_5 ?_
  refine T_jp _ (fun (j17 : Option (Int32 × MI × MJ)) => T X A (Zm X A (ii2 (fun (I' : MI) (J' : MJ) => Rg G b Lm (Rm b) I' J'))) 3 0 0 17 [] [] (Rg G b Lm (Rm b) I1 J) (j17)) _ ?_ ?_
  · skip
    refine T_bipush hok bp_m2 dX11_text_17 ?_
    exact T_iret hok dX11_text_19 (Nat.zero_le _) (Nat.zero_le _) rfl
  intro j17 hj17
  refine T_if_lt (tgt := 17) hok dX11_text_6 rfl ?_ ?_
  · refine T_sub (lv' := []) [] rfl ?_
    exact hj17
  refine T_iload_n hok 1 rfl rfl dX11_text_9 ?_
  refine T_aload_n hok 0 rfl rfl dX11_text_10 ?_
  refine T_getI hok fr_X11_154 lm_0 dX11_text_11 ?_
  refine T_icmp_le (tgt := 20) hok dX11_text_14 rfl ?_ ?_
  · refine T_aload_n hok 0 rfl rfl dX11_text_20 ?_
    refine T_iload_n hok 1 rfl rfl dX11_text_21 ?_
    refine T_putI hok hA fr_X11_163 rfl rfl lm_0 dX11_text_22 ?_
    intro I2
    refine T_aload_n hok 0 rfl rfl dX11_text_25 ?_
    refine T_iconst hok ic_0 dX11_text_26 ?_
    refine T_putI hok hA fr_X11_154 rfl rfl lm_0 dX11_text_27 ?_
    intro I3
    refine T_aload_n hok 0 rfl rfl dX11_text_30 ?_
    refine T_iconst hok ic_0 dX11_text_31 ?_
    refine T_putI hok hA fr_X11_157 rfl rfl lm_0 dX11_text_32 ?_
    intro I4
    refine T_aload_n hok 0 rfl rfl dX11_text_35 ?_
    refine T_iconst hok ic_m1 dX11_text_36 ?_
    refine T_putI hok hA fr_X11_16 rfl rfl lm_0 dX11_text_37 ?_
    intro I5
    refine T_aload_n hok 0 rfl rfl dX11_text_40 ?_
    refine T_iconst hok ic_0 dX11_text_41 ?_
    refine T_putI hok hA fr_X11_166 rfl rfl lm_0 dX11_text_42 ?_
    intro I6
    refine T_aload_n hok 0 rfl rfl dX11_text_45 ?_
    refine T_cv1 (CR_V (rest := []) hok (ct_X11_plain hA I6 J) mw_X11_plain mv_X11_plain ml_X11_145 lm_0 dX11_text_46 rfl rfl (roomOk rfl) rfl) rfl rfl ?_
    intro I7
    refine T_aload_n hok 0 rfl rfl dX11_text_49 ?_
    refine T_cv1 (CR_V (rest := []) hok (ct_X11_token hA I7 J) mw_X11_token mv_X11_token ml_X11_203 lm_0 dX11_text_50 rfl rfl (roomOk rfl) rfl) rfl rfl ?_
    intro I8
    refine T_iconst hok ic_0 dX11_text_53 ?_
    refine T_istore_n (lv' := [(2, .int (0 : Int32)), (0, .ref (b + 0)), (1, .int a1)]) hok rfl (by decide) rfl dX11_text_54 ?_
    refine T_jp _ (fun (j77 : Int32 → MI → Option (Int32 × MI × MJ)) => ∀ (x9 : Int32) (I10 : MI), T X A (Zm X A (ii2 (fun (I' : MI) (J' : MJ) => Rg G b Lm (Rm b) I' J'))) 3 0 0 77 [(0, .ref (b + 0)), (2, .int x9)] [] (Rg G b Lm (Rm b) I10 J) (j77 x9 I10)) _ ?_ ?_
    · intro x9 I10
      refine T_aload_n hok 0 rfl rfl dX11_text_77 ?_
      refine T_cv2 (CR_V (rest := []) hok (ct_X11_keepText hA I10 J) mw_X11_keepText mv_X11_keepText ml_X11_148 lm_0 dX11_text_78 rfl rfl (roomOk rfl) rfl) rfl rfl ?_
      intro I11 J12
      refine T_iload_n hok 1 rfl rfl dX11_text_81 ?_
      exact T_iret hok dX11_text_82 (Nat.zero_le _) (Nat.zero_le _) rfl
    intro j77 hj77
    refine T_sub (lv' := [(0, .ref (b + 0)), (2, .int (0 : Int32))]) [1, 0] rfl ?_
    refine T_fix2 _ (fun (x13 : Int32) (I14 : MI) => [(0, .ref (b + 0)), (2, .int x13)]) (fun (x13 : Int32) (I14 : MI) => Rg G b Lm (Rm b) I14 J) ?_ FU (0 : Int32) I8
    intro r55 hr55 x13 I14
    refine T_aload_n hok 0 rfl rfl dX11_text_55 ?_
    refine T_getI hok fr_X11_169 lm_0 dX11_text_56 ?_
    refine T_if_eq (tgt := 77) hok dX11_text_59 rfl ?_ ?_
    · exact hj77 x13 I14
    refine T_aload_n hok 0 rfl rfl dX11_text_62 ?_
    refine T_cz1 (CR_V (rest := []) hok (ct_X11_lineRead hA I14 J) mw_X11_lineRead mv_X11_lineRead ml_X11_283 lm_0 dX11_text_63 rfl rfl (roomOk rfl) rfl) rfl rfl ?_
    intro x15 I16
    refine T_ifb_ne (tgt := 71) hok dX11_text_66 rfl ?_ ?_
    · refine T_iinc (lvs := fun x17 => [(2, .int x17), (0, .ref (b + 0))]) hok 1 rfl ic_1 (by decide) (fun _ => rfl) dX11_text_71 ?_
      intro x17
      refine T_goto (tgt := 55) hok dX11_text_74 rfl ?_
      refine T_sub (lv' := [(0, .ref (b + 0)), (2, .int x17)]) [1, 0] rfl ?_
      exact hr55 x17 I16
    refine T_iconst hok ic_m1 dX11_text_69 ?_
    exact T_iret hok dX11_text_70 (Nat.zero_le _) (Nat.zero_le _) rfl
  refine T_sub (lv' := []) [] rfl ?_
  exact hj17

set_option maxHeartbeats 4000000 in
set_option maxRecDepth 100000 in
theorem ct_X11_fault {G : Gx} {l0 : Launch} {A : Nat → Prop} {b : Nat} (hA : ∀ k, k < Lm.length → A (b + k)) (I : MI) (J : MJ) (a1 : Int32) : Ct G l0 A yX11_fault cX11_fault 2 (some .int) { frames := 0, cells := 0, slots := 0, locals := 0 } [.ref (b + 0), .int a1] (Rg G b Lm (Rm b) I J) (ii1 (fun (I' : MI) => Rg G b Lm (Rm b) I' J)) (f_X11_fault I a1) := by
  refine Ct.of rfl (Nat.le_of_ble_eq_true rfl) ?_
  intro X hok
  replace hok : Ok G l0 X RX11 cX11_fault 2 { frames := 0, cells := 0, slots := 0, locals := 0 } (some .int) := hok
  delta f_X11_fault
  show T X A (Zm X A (ii1 (fun (I' : MI) => Rg G b Lm (Rm b) I' J))) 2 0 0 0 [(0, .ref (b + 0)), (1, .int a1)] [] (Rg G b Lm (Rm b) I J) _
  refine T_aload_n hok 0 rfl rfl dX11_fault_0 ?_
  refine T_iconst hok ic_0 dX11_fault_1 ?_
  refine T_putI hok hA fr_X11_151 rfl rfl lm_0 dX11_fault_2 ?_
  intro I1
  refine T_iload_n hok 1 rfl rfl dX11_fault_5 ?_
  refine T_jp _ (fun (j29 : Int32 → Option (Int32 × MI)) => ∀ (x2 : Int32), T X A (Zm X A (ii1 (fun (I' : MI) => Rg G b Lm (Rm b) I' J))) 2 0 0 29 [] [.int x2] (Rg G b Lm (Rm b) I1 J) (j29 x2)) _ ?_ ?_
  · intro x2
    exact T_iret hok dX11_fault_29 (Nat.zero_le _) (Nat.zero_le _) rfl
  intro j29 hj29
  refine T_if_ne (tgt := 16) hok dX11_fault_6 rfl ?_ ?_
  · refine T_aload_n hok 0 rfl rfl dX11_fault_9 ?_
    refine T_getI hok fr_X11_157 lm_0 dX11_fault_10 ?_
    refine T_goto (tgt := 29) hok dX11_fault_13 rfl ?_
    refine T_sub (lv' := []) [] rfl ?_
    exact hj29 (I1 0 4)
  refine T_iload_n hok 1 rfl rfl dX11_fault_16 ?_
  refine T_iconst hok ic_1 dX11_fault_17 ?_
  refine T_icmp_ne (tgt := 28) hok dX11_fault_18 rfl ?_ ?_
  · refine T_aload_n hok 0 rfl rfl dX11_fault_21 ?_
    refine T_getI hok fr_X11_16 lm_0 dX11_fault_22 ?_
    refine T_goto (tgt := 29) hok dX11_fault_25 rfl ?_
    refine T_sub (lv' := []) [] rfl ?_
    exact hj29 (I1 0 5)
  refine T_iconst hok ic_m1 dX11_fault_28 ?_
  refine T_sub (lv' := []) [] rfl ?_
  exact hj29 (-1 : Int32)

set_option maxHeartbeats 4000000 in
set_option maxRecDepth 100000 in
theorem ct_X11_named {G : Gx} {l0 : Launch} {A : Nat → Prop} {b : Nat} (hA : ∀ k, k < Lm.length → A (b + k)) (I : MI) (J : MJ) (a1 : Int32) (a2 : Int32) : Ct G l0 A yX11_named cX11_named 3 (some .int) { frames := 1, cells := 0, slots := 0, locals := 24 } [.ref (b + 0), .int a1, .int a2] (Rg G b Lm (Rm b) I J) (ii1 (fun (I' : MI) => Rg G b Lm (Rm b) I' J)) (f_X11_named I a1 a2) := by
  refine Ct.of rfl (Nat.le_of_ble_eq_true rfl) ?_
  intro X hok
  replace hok : Ok G l0 X RX11 cX11_named 3 { frames := 1, cells := 0, slots := 0, locals := 24 } (some .int) := hok
  delta f_X11_named
  show T X A (Zm X A (ii1 (fun (I' : MI) => Rg G b Lm (Rm b) I' J))) 3 0 0 0 [(0, .ref (b + 0)), (1, .int a1), (2, .int a2)] [] (Rg G b Lm (Rm b) I J) _
  refine T_aload_n hok 0 rfl rfl dX11_named_0 ?_
  refine T_iconst hok ic_0 dX11_named_1 ?_
  refine T_putI hok hA fr_X11_151 rfl rfl lm_0 dX11_named_2 ?_
  intro I1
  refine T_iload_n hok 1 rfl rfl dX11_named_5 ?_
  refine T_jp _ (fun (j47 : Int32 → Option (Int32 × MI)) => ∀ (x2 : Int32), T X A (Zm X A (ii1 (fun (I' : MI) => Rg G b Lm (Rm b) I' J))) 3 0 0 47 [] [.int x2] (Rg G b Lm (Rm b) I1 J) (j47 x2)) _ ?_ ?_
  · intro x2
    exact T_iret hok dX11_named_47 (Nat.zero_le _) (Nat.zero_le _) rfl
  intro j47 hj47
  refine T_if_ne (tgt := 25) hok dX11_named_6 rfl ?_ ?_
  · refine T_aload_n hok 0 rfl rfl dX11_named_9 ?_
    refine T_getR hok fr_X11_27 lm_0 rm_0_24 dX11_named_10 ?_
    refine T_iconst hok ic_0 dX11_named_13 ?_
    refine T_aload_n hok 0 rfl rfl dX11_named_14 ?_
    refine T_getI hok fr_X11_231 lm_0 dX11_named_15 ?_
    refine T_iload_n hok 2 rfl rfl dX11_named_18 ?_
    refine T_ci0 (CR_S (rest := []) hok (ct_X11_find hA lm_5 I1 J (0 : Int32) (I1 0 12) a2) mw_X11_find mst_X11_find ml_X11_253 dX11_named_19 rfl rfl (roomOk rfl) rfl) rfl rfl ?_
    intro x3
    refine T_goto (tgt := 47) hok dX11_named_22 rfl ?_
    refine T_sub (lv' := []) [] rfl ?_
    exact hj47 x3
  refine T_iload_n hok 1 rfl rfl dX11_named_25 ?_
  refine T_iconst hok ic_1 dX11_named_26 ?_
  refine T_icmp_ne (tgt := 46) hok dX11_named_27 rfl ?_ ?_
  · refine T_aload_n hok 0 rfl rfl dX11_named_30 ?_
    refine T_getR hok fr_X11_36 lm_0 rm_0_27 dX11_named_31 ?_
    refine T_iconst hok ic_0 dX11_named_34 ?_
    refine T_aload_n hok 0 rfl rfl dX11_named_35 ?_
    refine T_getI hok fr_X11_234 lm_0 dX11_named_36 ?_
    refine T_iload_n hok 2 rfl rfl dX11_named_39 ?_
    refine T_ci0 (CR_S (rest := []) hok (ct_X11_find hA lm_8 I1 J (0 : Int32) (I1 0 13) a2) mw_X11_find mst_X11_find ml_X11_253 dX11_named_40 rfl rfl (roomOk rfl) rfl) rfl rfl ?_
    intro x4
    refine T_goto (tgt := 47) hok dX11_named_43 rfl ?_
    refine T_sub (lv' := []) [] rfl ?_
    exact hj47 x4
  refine T_iconst hok ic_m1 dX11_named_46 ?_
  refine T_sub (lv' := []) [] rfl ?_
  exact hj47 (-1 : Int32)

set_option maxHeartbeats 4000000 in
set_option maxRecDepth 100000 in
theorem ct_X11_bounded {G : Gx} {l0 : Launch} {A : Nat → Prop} {b : Nat} (hA : ∀ k, k < Lm.length → A (b + k)) (I : MI) (J : MJ) (a1 : Int64) : Ct G l0 A yX11_bounded cX11_bounded 3 (some .long) { frames := 0, cells := 0, slots := 0, locals := 0 } [.ref (b + 0), .long a1] (Rg G b Lm (Rm b) I J) (il1 (fun (I' : MI) => Rg G b Lm (Rm b) I' J)) (f_X11_bounded I a1) := by
  refine Ct.of rfl (Nat.le_of_ble_eq_true rfl) ?_
  intro X hok
  replace hok : Ok G l0 X RX11 cX11_bounded 3 { frames := 0, cells := 0, slots := 0, locals := 0 } (some .long) := hok
  delta f_X11_bounded
  show T X A (Zm X A (il1 (fun (I' : MI) => Rg G b Lm (Rm b) I' J))) 3 0 0 0 [(0, .ref (b + 0)), (1, .long a1)] [] (Rg G b Lm (Rm b) I J) _
  refine T_aload_n hok 0 rfl rfl dX11_bounded_0 ?_
  refine T_aload_n hok 0 rfl rfl dX11_bounded_1 ?_
  refine T_getI hok fr_X11_336 lm_0 dX11_bounded_2 ?_
  refine T_jp _ (fun (j29 : Bool → Option (Int64 × MI)) => ∀ (x1 : Bool), T X A (Zm X A (il1 (fun (I' : MI) => Rg G b Lm (Rm b) I' J))) 3 0 0 29 [(0, .ref (b + 0)), (1, .long a1)] [.int (bi x1), .ref (b + 0)] (Rg G b Lm (Rm b) I J) (j29 x1)) _ ?_ ?_
  · intro x1
    refine T_putZ hok hA fr_X11_336 rfl rfl lm_0 dX11_bounded_29 ?_
    intro I2
    refine T_aload_n hok 0 rfl rfl dX11_bounded_32 ?_
    refine T_getI hok fr_X11_336 lm_0 dX11_bounded_33 ?_
    refine T_jp _ (fun (j44 : Int64 → Option (Int64 × MI)) => ∀ (x3 : Int64), T X A (Zm X A (il1 (fun (I' : MI) => Rg G b Lm (Rm b) I' J))) 3 0 0 44 [] [.long x3] (Rg G b Lm (Rm b) I2 J) (j44 x3)) _ ?_ ?_
    · intro x3
      exact T_lret hok dX11_bounded_44 (Nat.zero_le _) (Nat.zero_le _) rfl
    intro j44 hj44
    refine T_if_eq (tgt := 43) hok dX11_bounded_36 rfl ?_ ?_
    · refine T_lload_n hok 1 rfl rfl dX11_bounded_43 ?_
      refine T_sub (lv' := []) [] rfl ?_
      exact hj44 a1
    refine T_lconst (v := 0) hok rfl dX11_bounded_39 ?_
    refine T_goto (tgt := 44) hok dX11_bounded_40 rfl ?_
    refine T_sub (lv' := []) [] rfl ?_
    exact hj44 (0 : Int64)
  intro j29 hj29
  refine T_jp _ (fun (j24 : Option (Int64 × MI)) => T X A (Zm X A (il1 (fun (I' : MI) => Rg G b Lm (Rm b) I' J))) 3 0 0 24 [(0, .ref (b + 0)), (1, .long a1)] [.ref (b + 0)] (Rg G b Lm (Rm b) I J) (j24)) _ ?_ ?_
  · skip
    refine T_iconst hok ic_1 dX11_bounded_24 ?_
    refine T_goto (tgt := 29) hok dX11_bounded_25 rfl ?_
    exact hj29 true
  intro j24 hj24
  refine T_if_ne (tgt := 24) hok dX11_bounded_5 rfl ?_ ?_
  · refine T_lload_n hok 1 rfl rfl dX11_bounded_8 ?_
    refine T_ldc2 hok lk_X11_339 dX11_bounded_9 ?_
    refine T_lcmp_gt (tgt := 24) hok dX11_bounded_12 rfl dX11_bounded_13 rfl ?_ ?_
    · exact hj24
    refine T_lload_n hok 1 rfl rfl dX11_bounded_16 ?_
    refine T_ldc2 hok lk_X11_341 dX11_bounded_17 ?_
    refine T_lcmp_ge (tgt := 28) hok dX11_bounded_20 rfl dX11_bounded_21 rfl ?_ ?_
    · refine T_iconst hok ic_0 dX11_bounded_28 ?_
      exact hj29 false
    exact hj24
  exact hj24

set_option maxHeartbeats 4000000 in
set_option maxRecDepth 100000 in
theorem ct_X11_compares {G : Gx} {l0 : Launch} {A : Nat → Prop} {Wd : Heap → Prop} (a1 : Int32) (a2 : Int64) (a3 : Int64) : Ct G l0 A yX11_compares cX11_compares 5 (some .boolean) { frames := 0, cells := 0, slots := 0, locals := 0 } [.int a1, .long a2, .long a3] (Wd) (iz0 (Wd)) (f_X11_compares a1 a2 a3) := by
  refine Ct.of rfl (Nat.le_of_ble_eq_true rfl) ?_
  intro X hok
  replace hok : Ok G l0 X RX11 cX11_compares 5 { frames := 0, cells := 0, slots := 0, locals := 0 } (some .boolean) := hok
  delta f_X11_compares
  show T X A (Zm X A (iz0 (Wd))) 5 0 0 0 [(0, .int a1), (1, .long a2), (3, .long a3)] [] (Wd) _
  refine T_iload_n hok 0 rfl rfl dX11_compares_0 ?_
  refine T_swc (fun hx5 => ?_) (fun hx5 => ?_)
  · refine T_tin (tgt := 36) hok hx5 dX11_compares_1 (by decide) (by decide) rfl rfl ?_
    refine T_lload_n hok 1 rfl rfl dX11_compares_36 ?_
    refine T_lload_n hok 2 rfl rfl dX11_compares_37 ?_
    refine T_jp _ (fun (j47 : Bool → Option (Bool)) => ∀ (x1 : Bool), T X A (Zm X A (iz0 (Wd))) 5 0 0 47 [] [.int (bi x1)] (Wd) (j47 x1)) _ ?_ ?_
    · intro x1
      exact T_zret hok dX11_compares_47 (Nat.zero_le _) (Nat.zero_le _) (bi_01 _) rfl
    intro j47 hj47
    refine T_lcmp_ge (tgt := 46) hok dX11_compares_38 rfl dX11_compares_39 rfl ?_ ?_
    · refine T_iconst hok ic_0 dX11_compares_46 ?_
      refine T_sub (lv' := []) [] rfl ?_
      exact hj47 false
    refine T_iconst hok ic_1 dX11_compares_42 ?_
    refine T_goto (tgt := 47) hok dX11_compares_43 rfl ?_
    refine T_sub (lv' := []) [] rfl ?_
    exact hj47 true
  refine T_swc (fun hx6 => ?_) (fun hx6 => ?_)
  · refine T_tin (tgt := 48) hok hx6 dX11_compares_1 (by decide) (by decide) rfl rfl ?_
    refine T_lload_n hok 1 rfl rfl dX11_compares_48 ?_
    refine T_lload_n hok 2 rfl rfl dX11_compares_49 ?_
    refine T_jp _ (fun (j59 : Bool → Option (Bool)) => ∀ (x2 : Bool), T X A (Zm X A (iz0 (Wd))) 5 0 0 59 [] [.int (bi x2)] (Wd) (j59 x2)) _ ?_ ?_
    · intro x2
      exact T_zret hok dX11_compares_59 (Nat.zero_le _) (Nat.zero_le _) (bi_01 _) rfl
    intro j59 hj59
    refine T_lcmp_gt (tgt := 58) hok dX11_compares_50 rfl dX11_compares_51 rfl ?_ ?_
    · refine T_iconst hok ic_0 dX11_compares_58 ?_
      refine T_sub (lv' := []) [] rfl ?_
      exact hj59 false
    refine T_iconst hok ic_1 dX11_compares_54 ?_
    refine T_goto (tgt := 59) hok dX11_compares_55 rfl ?_
    refine T_sub (lv' := []) [] rfl ?_
    exact hj59 true
  refine T_swc (fun hx7 => ?_) (fun hx7 => ?_)
  · refine T_tin (tgt := 60) hok hx7 dX11_compares_1 (by decide) (by decide) rfl rfl ?_
    refine T_lload_n hok 1 rfl rfl dX11_compares_60 ?_
    refine T_lload_n hok 2 rfl rfl dX11_compares_61 ?_
    refine T_jp _ (fun (j71 : Bool → Option (Bool)) => ∀ (x3 : Bool), T X A (Zm X A (iz0 (Wd))) 5 0 0 71 [] [.int (bi x3)] (Wd) (j71 x3)) _ ?_ ?_
    · intro x3
      exact T_zret hok dX11_compares_71 (Nat.zero_le _) (Nat.zero_le _) (bi_01 _) rfl
    intro j71 hj71
    refine T_lcmp_ne (tgt := 70) hok dX11_compares_62 rfl dX11_compares_63 rfl ?_ ?_
    · refine T_iconst hok ic_1 dX11_compares_66 ?_
      refine T_goto (tgt := 71) hok dX11_compares_67 rfl ?_
      refine T_sub (lv' := []) [] rfl ?_
      exact hj71 true
    refine T_iconst hok ic_0 dX11_compares_70 ?_
    refine T_sub (lv' := []) [] rfl ?_
    exact hj71 false
  refine T_swc (fun hx8 => ?_) (fun hx8 => ?_)
  · refine T_tin (tgt := 72) hok hx8 dX11_compares_1 (by decide) (by decide) rfl rfl ?_
    refine T_lload_n hok 1 rfl rfl dX11_compares_72 ?_
    refine T_lload_n hok 2 rfl rfl dX11_compares_73 ?_
    refine T_jp _ (fun (j83 : Bool → Option (Bool)) => ∀ (x4 : Bool), T X A (Zm X A (iz0 (Wd))) 5 0 0 83 [] [.int (bi x4)] (Wd) (j83 x4)) _ ?_ ?_
    · intro x4
      exact T_zret hok dX11_compares_83 (Nat.zero_le _) (Nat.zero_le _) (bi_01 _) rfl
    intro j83 hj83
    refine T_lcmp_eq (tgt := 82) hok dX11_compares_74 rfl dX11_compares_75 rfl ?_ ?_
    · refine T_iconst hok ic_0 dX11_compares_82 ?_
      refine T_sub (lv' := []) [] rfl ?_
      exact hj83 false
    refine T_iconst hok ic_1 dX11_compares_78 ?_
    refine T_goto (tgt := 83) hok dX11_compares_79 rfl ?_
    refine T_sub (lv' := []) [] rfl ?_
    exact hj83 true
  refine T_swc (fun hx9 => ?_) (fun hx9 => ?_)
  · refine T_tin (tgt := 84) hok hx9 dX11_compares_1 (by decide) (by decide) rfl rfl ?_
    refine T_lload_n hok 1 rfl rfl dX11_compares_84 ?_
    refine T_lload_n hok 2 rfl rfl dX11_compares_85 ?_
    refine T_jp _ (fun (j95 : Bool → Option (Bool)) => ∀ (x5 : Bool), T X A (Zm X A (iz0 (Wd))) 5 0 0 95 [] [.int (bi x5)] (Wd) (j95 x5)) _ ?_ ?_
    · intro x5
      exact T_zret hok dX11_compares_95 (Nat.zero_le _) (Nat.zero_le _) (bi_01 _) rfl
    intro j95 hj95
    refine T_lcmp_lt (tgt := 94) hok dX11_compares_86 rfl dX11_compares_87 rfl ?_ ?_
    · refine T_iconst hok ic_0 dX11_compares_94 ?_
      refine T_sub (lv' := []) [] rfl ?_
      exact hj95 false
    refine T_iconst hok ic_1 dX11_compares_90 ?_
    refine T_goto (tgt := 95) hok dX11_compares_91 rfl ?_
    refine T_sub (lv' := []) [] rfl ?_
    exact hj95 true
  refine T_swd ?_
  have nhx5 := toInt_ne (n := 5) rfl hx5
  have nhx6 := toInt_ne (n := 6) rfl hx6
  have nhx7 := toInt_ne (n := 7) rfl hx7
  have nhx8 := toInt_ne (n := 8) rfl hx8
  have nhx9 := toInt_ne (n := 9) rfl hx9
  refine T_tdf (tgt := 96) (n := 5) hok dX11_compares_1 rfl (fun j hj he => ?_) rfl ?_
  · rcases (show j = 0 ∨ j = 1 ∨ j = 2 ∨ j = 3 ∨ j = 4 by omega) with rfl | rfl | rfl | rfl | rfl <;> first | rfl | (exfalso; omega)
  refine T_lload_n hok 1 rfl rfl dX11_compares_96 ?_
  refine T_lload_n hok 2 rfl rfl dX11_compares_97 ?_
  refine T_jp _ (fun (j107 : Bool → Option (Bool)) => ∀ (x6 : Bool), T X A (Zm X A (iz0 (Wd))) 5 0 0 107 [] [.int (bi x6)] (Wd) (j107 x6)) _ ?_ ?_
  · intro x6
    exact T_zret hok dX11_compares_107 (Nat.zero_le _) (Nat.zero_le _) (bi_01 _) rfl
  intro j107 hj107
  refine T_lcmp_le (tgt := 106) hok dX11_compares_98 rfl dX11_compares_99 rfl ?_ ?_
  · refine T_iconst hok ic_0 dX11_compares_106 ?_
    refine T_sub (lv' := []) [] rfl ?_
    exact hj107 false
  refine T_iconst hok ic_1 dX11_compares_102 ?_
  refine T_goto (tgt := 107) hok dX11_compares_103 rfl ?_
  refine T_sub (lv' := []) [] rfl ?_
  exact hj107 true

set_option maxHeartbeats 4000000 in
set_option maxRecDepth 100000 in
theorem ct_X11_times {G : Gx} {l0 : Launch} {A : Nat → Prop} {b : Nat} (hA : ∀ k, k < Lm.length → A (b + k)) (I : MI) (J : MJ) (a1 : Int64) (a2 : Int64) : Ct G l0 A yX11_times cX11_times 6 (some .long) { frames := 0, cells := 0, slots := 0, locals := 0 } [.ref (b + 0), .long a1, .long a2] (Rg G b Lm (Rm b) I J) (il1 (fun (I' : MI) => Rg G b Lm (Rm b) I' J)) (f_X11_times I a1 a2) := by
  refine Ct.of rfl (Nat.le_of_ble_eq_true rfl) ?_
  intro X hok
  replace hok : Ok G l0 X RX11 cX11_times 6 { frames := 0, cells := 0, slots := 0, locals := 0 } (some .long) := hok
  delta f_X11_times
  show T X A (Zm X A (il1 (fun (I' : MI) => Rg G b Lm (Rm b) I' J))) 6 0 0 0 [(0, .ref (b + 0)), (1, .long a1), (3, .long a2)] [] (Rg G b Lm (Rm b) I J) _
  refine T_lload_n hok 1 rfl rfl dX11_times_0 ?_
  refine T_lconst (v := 0) hok rfl dX11_times_1 ?_
  refine T_jp _ (fun (j49 : Bool → Option (Int64 × MI)) => ∀ (x1 : Bool), T X A (Zm X A (il1 (fun (I' : MI) => Rg G b Lm (Rm b) I' J))) 6 0 0 49 [(0, .ref (b + 0)), (1, .long a1), (3, .long a2)] [.int (bi x1)] (Rg G b Lm (Rm b) I J) (j49 x1)) _ ?_ ?_
  · intro x1
    refine T_lti ?_
    intro x2
    refine T_istore (lv' := [(5, .int x2), (0, .ref (b + 0)), (1, .long a1), (3, .long a2)]) hok (by decide) rfl dX11_times_49 ?_
    refine T_aload_n hok 1 rfl rfl dX11_times_51 ?_
    refine T_aload_n hok 1 rfl rfl dX11_times_52 ?_
    refine T_getI hok fr_X11_336 lm_0 dX11_times_53 ?_
    refine T_jp _ (fun (j69 : Bool → Option (Int64 × MI)) => ∀ (x3 : Bool), T X A (Zm X A (il1 (fun (I' : MI) => Rg G b Lm (Rm b) I' J))) 6 0 0 69 [(0, .ref (b + 0)), (1, .long a1), (3, .long a2)] [.int (bi x3), .ref (b + 0)] (Rg G b Lm (Rm b) I J) (j69 x3)) _ ?_ ?_
    · intro x3
      refine T_putZ hok hA fr_X11_336 rfl rfl lm_0 dX11_times_69 ?_
      intro I4
      refine T_aload_n hok 0 rfl rfl dX11_times_72 ?_
      refine T_getI hok fr_X11_336 lm_0 dX11_times_73 ?_
      refine T_jp _ (fun (j86 : Int64 → Option (Int64 × MI)) => ∀ (x5 : Int64), T X A (Zm X A (il1 (fun (I' : MI) => Rg G b Lm (Rm b) I' J))) 6 0 0 86 [] [.long x5] (Rg G b Lm (Rm b) I4 J) (j86 x5)) _ ?_ ?_
      · intro x5
        exact T_lret hok dX11_times_86 (Nat.zero_le _) (Nat.zero_le _) rfl
      intro j86 hj86
      refine T_if_eq (tgt := 83) hok dX11_times_76 rfl ?_ ?_
      · refine T_lload_n hok 1 rfl rfl dX11_times_83 ?_
        refine T_lload_n hok 2 rfl rfl dX11_times_84 ?_
        refine T_lmul hok dX11_times_85 ?_
        refine T_sub (lv' := []) [] rfl ?_
        exact hj86 (a1 * a2)
      refine T_lconst (v := 0) hok rfl dX11_times_79 ?_
      refine T_goto (tgt := 86) hok dX11_times_80 rfl ?_
      refine T_sub (lv' := []) [] rfl ?_
      exact hj86 (0 : Int64)
    intro j69 hj69
    refine T_jp _ (fun (j64 : Option (Int64 × MI)) => T X A (Zm X A (il1 (fun (I' : MI) => Rg G b Lm (Rm b) I' J))) 6 0 0 64 [(0, .ref (b + 0)), (1, .long a1), (3, .long a2)] [.ref (b + 0)] (Rg G b Lm (Rm b) I J) (j64)) _ ?_ ?_
    · skip
      refine T_iconst hok ic_1 dX11_times_64 ?_
      refine T_goto (tgt := 69) hok dX11_times_65 rfl ?_
      exact hj69 true
    intro j64 hj64
    refine T_if_ne (tgt := 64) hok dX11_times_56 rfl ?_ ?_
    · refine T_iload hok 0 rfl dX11_times_59 ?_
      refine T_if_eq (tgt := 68) hok dX11_times_61 rfl ?_ ?_
      · refine T_iconst hok ic_0 dX11_times_68 ?_
        refine T_sub (lv' := [(0, .ref (b + 0)), (1, .long a1), (3, .long a2)]) [1, 2, 3] rfl ?_
        exact hj69 false
      refine T_sub (lv' := [(0, .ref (b + 0)), (1, .long a1), (3, .long a2)]) [1, 2, 3] rfl ?_
      exact hj64
    refine T_sub (lv' := [(0, .ref (b + 0)), (1, .long a1), (3, .long a2)]) [1, 2, 3] rfl ?_
    exact hj64
  intro j49 hj49
  refine T_jp _ (fun (j48 : Option (Int64 × MI)) => T X A (Zm X A (il1 (fun (I' : MI) => Rg G b Lm (Rm b) I' J))) 6 0 0 48 [(0, .ref (b + 0)), (1, .long a1), (3, .long a2)] [] (Rg G b Lm (Rm b) I J) (j48)) _ ?_ ?_
  · skip
    refine T_iconst hok ic_0 dX11_times_48 ?_
    exact hj49 false
  intro j48 hj48
  refine T_lcmp_eq (tgt := 48) hok dX11_times_2 rfl dX11_times_3 rfl ?_ ?_
  · exact hj48
  refine T_lload_n hok 2 rfl rfl dX11_times_6 ?_
  refine T_lconst (v := 0) hok rfl dX11_times_7 ?_
  refine T_lcmp_eq (tgt := 48) hok dX11_times_8 rfl dX11_times_9 rfl ?_ ?_
  · exact hj48
  refine T_lload_n hok 2 rfl rfl dX11_times_12 ?_
  refine T_lconst (v := 0) hok rfl dX11_times_13 ?_
  refine T_jp _ (fun (j24 : Int64 → Option (Int64 × MI)) => ∀ (x6 : Int64), T X A (Zm X A (il1 (fun (I' : MI) => Rg G b Lm (Rm b) I' J))) 6 0 0 24 [(0, .ref (b + 0)), (1, .long a1), (3, .long a2)] [.long x6] (Rg G b Lm (Rm b) I J) (j24 x6)) _ ?_ ?_
  · intro x6
    refine T_ldc2 hok lk_X11_339 dX11_times_24 ?_
    refine T_lload_n hok 1 rfl rfl dX11_times_27 ?_
    refine T_lconst (v := 0) hok rfl dX11_times_28 ?_
    refine T_jp _ (fun (j39 : Int64 → Int64 → Int64 → Option (Int64 × MI)) => ∀ (x7 : Int64) (x8 : Int64) (x9 : Int64), T X A (Zm X A (il1 (fun (I' : MI) => Rg G b Lm (Rm b) I' J))) 6 0 0 39 [(0, .ref (b + 0)), (1, .long a1), (3, .long a2)] [.long x7, .long x8, .long x9] (Rg G b Lm (Rm b) I J) (j39 x7 x8 x9)) _ ?_ ?_
    · intro x7 x8 x9
      refine T_ldiv hok dX11_times_39 ?_
      refine T_lcmp_le (tgt := 48) hok dX11_times_40 rfl dX11_times_41 rfl ?_ ?_
      · exact hj48
      refine T_iconst hok ic_1 dX11_times_44 ?_
      refine T_goto (tgt := 49) hok dX11_times_45 rfl ?_
      exact hj49 true
    intro j39 hj39
    refine T_lcmp_ge (tgt := 38) hok dX11_times_29 rfl dX11_times_30 rfl ?_ ?_
    · refine T_lload_n hok 1 rfl rfl dX11_times_38 ?_
      exact hj39 a1 (1000000000000 : Int64) x6
    refine T_lload_n hok 1 rfl rfl dX11_times_33 ?_
    refine T_lneg hok dX11_times_34 ?_
    refine T_goto (tgt := 39) hok dX11_times_35 rfl ?_
    exact hj39 (-a1) (1000000000000 : Int64) x6
  intro j24 hj24
  refine T_lcmp_ge (tgt := 23) hok dX11_times_14 rfl dX11_times_15 rfl ?_ ?_
  · refine T_lload_n hok 2 rfl rfl dX11_times_23 ?_
    exact hj24 a2
  refine T_lload_n hok 2 rfl rfl dX11_times_18 ?_
  refine T_lneg hok dX11_times_19 ?_
  refine T_goto (tgt := 24) hok dX11_times_20 rfl ?_
  exact hj24 (-a2)

set_option maxHeartbeats 4000000 in
set_option maxRecDepth 100000 in
theorem ct_X11_valueOf {G : Gx} {l0 : Launch} {A : Nat → Prop} {b : Nat} (hA : ∀ k, k < Lm.length → A (b + k)) (I : MI) (J : MJ) (a1 : Int32) : Ct G l0 A yX11_valueOf cX11_valueOf 6 (some .long) { frames := 1, cells := 0, slots := 0, locals := 25 } [.ref (b + 0), .int a1] (Rg G b Lm (Rm b) I J) (il1 (fun (I' : MI) => Rg G b Lm (Rm b) I' J)) (f_X11_valueOf I J a1) := by
  refine Ct.of rfl (Nat.le_of_ble_eq_true rfl) ?_
  intro X hok
  replace hok : Ok G l0 X RX11 cX11_valueOf 6 { frames := 1, cells := 0, slots := 0, locals := 25 } (some .long) := hok
  delta f_X11_valueOf
  show T X A (Zm X A (il1 (fun (I' : MI) => Rg G b Lm (Rm b) I' J))) 6 0 0 0 [(0, .ref (b + 0)), (1, .int a1)] [] (Rg G b Lm (Rm b) I J) _
  refine T_aload_n hok 0 rfl rfl dX11_valueOf_0 ?_
  refine T_getR hok fr_X11_69 lm_0 rm_0_38 dX11_valueOf_1 ?_
  refine T_iload_n hok 1 rfl rfl dX11_valueOf_4 ?_
  refine T_iald hok lm_19 dX11_valueOf_5 ?_
  refine T_if_ne (tgt := 17) hok dX11_valueOf_6 rfl ?_ ?_
  · refine T_aload_n hok 0 rfl rfl dX11_valueOf_9 ?_
    refine T_getR hok fr_X11_72 lm_0 rm_0_39 dX11_valueOf_10 ?_
    refine T_iload_n hok 1 rfl rfl dX11_valueOf_13 ?_
    refine T_iald hok lm_20 dX11_valueOf_14 ?_
    refine T_i2l hok dX11_valueOf_15 ?_
    exact T_lret hok dX11_valueOf_16 (Nat.zero_le _) (Nat.zero_le _) rfl
  refine T_aload_n hok 0 rfl rfl dX11_valueOf_17 ?_
  refine T_getR hok fr_X11_69 lm_0 rm_0_38 dX11_valueOf_18 ?_
  refine T_iload_n hok 1 rfl rfl dX11_valueOf_21 ?_
  refine T_iald hok lm_19 dX11_valueOf_22 ?_
  refine T_iconst hok ic_1 dX11_valueOf_23 ?_
  refine T_icmp_ne (tgt := 39) hok dX11_valueOf_24 rfl ?_ ?_
  · refine T_aload_n hok 0 rfl rfl dX11_valueOf_27 ?_
    refine T_getR hok fr_X11_84 lm_0 rm_0_49 dX11_valueOf_28 ?_
    refine T_aload_n hok 0 rfl rfl dX11_valueOf_31 ?_
    refine T_getR hok fr_X11_72 lm_0 rm_0_39 dX11_valueOf_32 ?_
    refine T_iload_n hok 1 rfl rfl dX11_valueOf_35 ?_
    refine T_iald hok lm_20 dX11_valueOf_36 ?_
    refine T_lald hok lm_24 dX11_valueOf_37 ?_
    exact T_lret hok dX11_valueOf_38 (Nat.zero_le _) (Nat.zero_le _) rfl
  refine T_aload_n hok 0 rfl rfl dX11_valueOf_39 ?_
  refine T_getR hok fr_X11_88 lm_0 rm_0_50 dX11_valueOf_40 ?_
  refine T_aload_n hok 0 rfl rfl dX11_valueOf_43 ?_
  refine T_getR hok fr_X11_72 lm_0 rm_0_39 dX11_valueOf_44 ?_
  refine T_iload_n hok 1 rfl rfl dX11_valueOf_47 ?_
  refine T_iald hok lm_20 dX11_valueOf_48 ?_
  refine T_lald hok lm_25 dX11_valueOf_49 ?_
  refine T_ltl ?_
  intro x1
  refine T_lstore_n (lv' := [(2, .long x1), (0, .ref (b + 0)), (1, .int a1)]) hok rfl (by decide) rfl dX11_valueOf_50 ?_
  refine T_aload_n hok 1 rfl rfl dX11_valueOf_51 ?_
  refine T_getR hok fr_X11_69 lm_0 rm_0_38 dX11_valueOf_52 ?_
  refine T_iload_n hok 2 rfl rfl dX11_valueOf_55 ?_
  refine T_iald hok lm_19 dX11_valueOf_56 ?_
  refine T_iconst hok ic_2 dX11_valueOf_57 ?_
  refine T_icmp_ne (tgt := 73) hok dX11_valueOf_58 rfl ?_ ?_
  · refine T_lload_n hok 0 rfl rfl dX11_valueOf_61 ?_
    refine T_lconst (v := 0) hok rfl dX11_valueOf_62 ?_
    refine T_jp _ (fun (j72 : Int64 → Option (Int64 × MI)) => ∀ (x2 : Int64), T X A (Zm X A (il1 (fun (I' : MI) => Rg G b Lm (Rm b) I' J))) 6 0 0 72 [] [.long x2] (Rg G b Lm (Rm b) I J) (j72 x2)) _ ?_ ?_
    · intro x2
      exact T_lret hok dX11_valueOf_72 (Nat.zero_le _) (Nat.zero_le _) rfl
    intro j72 hj72
    refine T_lcmp_ne (tgt := 71) hok dX11_valueOf_63 rfl dX11_valueOf_64 rfl ?_ ?_
    · refine T_lconst (v := 1) hok rfl dX11_valueOf_67 ?_
      refine T_goto (tgt := 72) hok dX11_valueOf_68 rfl ?_
      refine T_sub (lv' := []) [] rfl ?_
      exact hj72 (1 : Int64)
    refine T_lconst (v := 0) hok rfl dX11_valueOf_71 ?_
    refine T_sub (lv' := []) [] rfl ?_
    exact hj72 (0 : Int64)
  refine T_aload_n hok 1 rfl rfl dX11_valueOf_73 ?_
  refine T_getR hok fr_X11_88 lm_0 rm_0_50 dX11_valueOf_74 ?_
  refine T_aload_n hok 1 rfl rfl dX11_valueOf_77 ?_
  refine T_getR hok fr_X11_75 lm_0 rm_0_40 dX11_valueOf_78 ?_
  refine T_iload_n hok 2 rfl rfl dX11_valueOf_81 ?_
  refine T_iald hok lm_21 dX11_valueOf_82 ?_
  refine T_lald hok lm_25 dX11_valueOf_83 ?_
  refine T_ltl ?_
  intro x3
  refine T_lstore (lv' := [(4, .long x3), (2, .long x1), (0, .ref (b + 0)), (1, .int a1)]) hok (by decide) rfl dX11_valueOf_84 ?_
  refine T_aload_n hok 2 rfl rfl dX11_valueOf_86 ?_
  refine T_getR hok fr_X11_69 lm_0 rm_0_38 dX11_valueOf_87 ?_
  refine T_iload_n hok 3 rfl rfl dX11_valueOf_90 ?_
  refine T_iald hok lm_19 dX11_valueOf_91 ?_
  refine T_swc (fun hx3 => ?_) (fun hx3 => ?_)
  · refine T_tin (tgt := 156) hok hx3 dX11_valueOf_92 (by decide) (by decide) rfl rfl ?_
    refine T_lload_n hok 1 rfl rfl dX11_valueOf_156 ?_
    refine T_lconst (v := 0) hok rfl dX11_valueOf_157 ?_
    refine T_jp _ (fun (j174 : Int64 → Option (Int64 × MI)) => ∀ (x4 : Int64), T X A (Zm X A (il1 (fun (I' : MI) => Rg G b Lm (Rm b) I' J))) 6 0 0 174 [] [.long x4] (Rg G b Lm (Rm b) I J) (j174 x4)) _ ?_ ?_
    · intro x4
      exact T_lret hok dX11_valueOf_174 (Nat.zero_le _) (Nat.zero_le _) rfl
    intro j174 hj174
    refine T_jp _ (fun (j173 : Option (Int64 × MI)) => T X A (Zm X A (il1 (fun (I' : MI) => Rg G b Lm (Rm b) I' J))) 6 0 0 173 [] [] (Rg G b Lm (Rm b) I J) (j173)) _ ?_ ?_
    · skip
      refine T_lconst (v := 0) hok rfl dX11_valueOf_173 ?_
      exact hj174 (0 : Int64)
    intro j173 hj173
    refine T_lcmp_eq (tgt := 173) hok dX11_valueOf_158 rfl dX11_valueOf_159 rfl ?_ ?_
    · refine T_sub (lv' := []) [] rfl ?_
      exact hj173
    refine T_lload hok 0 rfl dX11_valueOf_162 ?_
    refine T_lconst (v := 0) hok rfl dX11_valueOf_164 ?_
    refine T_lcmp_eq (tgt := 173) hok dX11_valueOf_165 rfl dX11_valueOf_166 rfl ?_ ?_
    · refine T_sub (lv' := []) [] rfl ?_
      exact hj173
    refine T_lconst (v := 1) hok rfl dX11_valueOf_169 ?_
    refine T_goto (tgt := 174) hok dX11_valueOf_170 rfl ?_
    refine T_sub (lv' := []) [] rfl ?_
    exact hj174 (1 : Int64)
  refine T_swc (fun hx4 => ?_) (fun hx4 => ?_)
  · refine T_tin (tgt := 175) hok hx4 dX11_valueOf_92 (by decide) (by decide) rfl rfl ?_
    refine T_lload_n hok 1 rfl rfl dX11_valueOf_175 ?_
    refine T_lconst (v := 0) hok rfl dX11_valueOf_176 ?_
    refine T_jp _ (fun (j193 : Int64 → Option (Int64 × MI)) => ∀ (x5 : Int64), T X A (Zm X A (il1 (fun (I' : MI) => Rg G b Lm (Rm b) I' J))) 6 0 0 193 [] [.long x5] (Rg G b Lm (Rm b) I J) (j193 x5)) _ ?_ ?_
    · intro x5
      exact T_lret hok dX11_valueOf_193 (Nat.zero_le _) (Nat.zero_le _) rfl
    intro j193 hj193
    refine T_jp _ (fun (j188 : Option (Int64 × MI)) => T X A (Zm X A (il1 (fun (I' : MI) => Rg G b Lm (Rm b) I' J))) 6 0 0 188 [] [] (Rg G b Lm (Rm b) I J) (j188)) _ ?_ ?_
    · skip
      refine T_lconst (v := 1) hok rfl dX11_valueOf_188 ?_
      refine T_goto (tgt := 193) hok dX11_valueOf_189 rfl ?_
      exact hj193 (1 : Int64)
    intro j188 hj188
    refine T_lcmp_ne (tgt := 188) hok dX11_valueOf_177 rfl dX11_valueOf_178 rfl ?_ ?_
    · refine T_lload hok 0 rfl dX11_valueOf_181 ?_
      refine T_lconst (v := 0) hok rfl dX11_valueOf_183 ?_
      refine T_lcmp_eq (tgt := 192) hok dX11_valueOf_184 rfl dX11_valueOf_185 rfl ?_ ?_
      · refine T_lconst (v := 0) hok rfl dX11_valueOf_192 ?_
        refine T_sub (lv' := []) [] rfl ?_
        exact hj193 (0 : Int64)
      refine T_sub (lv' := []) [] rfl ?_
      exact hj188
    refine T_sub (lv' := []) [] rfl ?_
    exact hj188
  refine T_swc (fun hx11 => ?_) (fun hx11 => ?_)
  · refine T_tin (tgt := 194) hok hx11 dX11_valueOf_92 (by decide) (by decide) rfl rfl ?_
    refine T_aload_n hok 2 rfl rfl dX11_valueOf_194 ?_
    refine T_lload_n hok 1 rfl rfl dX11_valueOf_195 ?_
    refine T_lload hok 0 rfl dX11_valueOf_196 ?_
    refine T_ladd hok dX11_valueOf_198 ?_
    refine T_cl1 (CR_V (rest := []) hok (ct_X11_bounded hA I J (x1 + x3)) mw_X11_bounded mv_X11_bounded ml_X11_343 lm_0 dX11_valueOf_199 rfl rfl (roomOk rfl) rfl) rfl rfl ?_
    intro x6 I7
    exact T_lret hok dX11_valueOf_202 (Nat.zero_le _) (Nat.zero_le _) rfl
  refine T_swc (fun hx12 => ?_) (fun hx12 => ?_)
  · refine T_tin (tgt := 203) hok hx12 dX11_valueOf_92 (by decide) (by decide) rfl rfl ?_
    refine T_aload_n hok 2 rfl rfl dX11_valueOf_203 ?_
    refine T_lload_n hok 1 rfl rfl dX11_valueOf_204 ?_
    refine T_lload hok 0 rfl dX11_valueOf_205 ?_
    refine T_lsub hok dX11_valueOf_207 ?_
    refine T_cl1 (CR_V (rest := []) hok (ct_X11_bounded hA I J (x1 - x3)) mw_X11_bounded mv_X11_bounded ml_X11_343 lm_0 dX11_valueOf_208 rfl rfl (roomOk rfl) rfl) rfl rfl ?_
    intro x8 I9
    exact T_lret hok dX11_valueOf_211 (Nat.zero_le _) (Nat.zero_le _) rfl
  refine T_swc (fun hx13 => ?_) (fun hx13 => ?_)
  · refine T_tin (tgt := 212) hok hx13 dX11_valueOf_92 (by decide) (by decide) rfl rfl ?_
    refine T_aload_n hok 2 rfl rfl dX11_valueOf_212 ?_
    refine T_lload_n hok 1 rfl rfl dX11_valueOf_213 ?_
    refine T_lload hok 0 rfl dX11_valueOf_214 ?_
    refine T_cl1 (CR_V (rest := []) hok (ct_X11_times hA I J x1 x3) mw_X11_times mv_X11_times ml_X11_347 lm_0 dX11_valueOf_216 rfl rfl (roomOk rfl) rfl) rfl rfl ?_
    intro x10 I11
    exact T_lret hok dX11_valueOf_219 (Nat.zero_le _) (Nat.zero_le _) rfl
  refine T_swc (fun hx14 => ?_) (fun hx14 => ?_)
  · refine T_tin (tgt := 220) hok hx14 dX11_valueOf_92 (by decide) (by decide) rfl rfl ?_
    refine T_aload_n hok 2 rfl rfl dX11_valueOf_220 ?_
    refine T_aload_n hok 2 rfl rfl dX11_valueOf_221 ?_
    refine T_getI hok fr_X11_336 lm_0 dX11_valueOf_222 ?_
    refine T_jp _ (fun (j240 : Bool → Option (Int64 × MI)) => ∀ (x12 : Bool), T X A (Zm X A (il1 (fun (I' : MI) => Rg G b Lm (Rm b) I' J))) 6 0 0 240 [(0, .ref (b + 0)), (2, .long x1), (4, .long x3)] [.int (bi x12), .ref (b + 0)] (Rg G b Lm (Rm b) I J) (j240 x12)) _ ?_ ?_
    · intro x12
      refine T_putZ hok hA fr_X11_336 rfl rfl lm_0 dX11_valueOf_240 ?_
      intro I13
      refine T_aload_n hok 0 rfl rfl dX11_valueOf_243 ?_
      refine T_getI hok fr_X11_336 lm_0 dX11_valueOf_244 ?_
      refine T_jp _ (fun (j258 : Int64 → Option (Int64 × MI)) => ∀ (x14 : Int64), T X A (Zm X A (il1 (fun (I' : MI) => Rg G b Lm (Rm b) I' J))) 6 0 0 258 [] [.long x14] (Rg G b Lm (Rm b) I13 J) (j258 x14)) _ ?_ ?_
      · intro x14
        exact T_lret hok dX11_valueOf_258 (Nat.zero_le _) (Nat.zero_le _) rfl
      intro j258 hj258
      refine T_if_eq (tgt := 254) hok dX11_valueOf_247 rfl ?_ ?_
      · refine T_lload_n hok 1 rfl rfl dX11_valueOf_254 ?_
        refine T_lload hok 2 rfl dX11_valueOf_255 ?_
        refine T_ldiv hok dX11_valueOf_257 ?_
        refine T_sub (lv' := []) [] rfl ?_
        exact hj258 (x1 / x3)
      refine T_lconst (v := 0) hok rfl dX11_valueOf_250 ?_
      refine T_goto (tgt := 258) hok dX11_valueOf_251 rfl ?_
      refine T_sub (lv' := []) [] rfl ?_
      exact hj258 (0 : Int64)
    intro j240 hj240
    refine T_jp _ (fun (j235 : Option (Int64 × MI)) => T X A (Zm X A (il1 (fun (I' : MI) => Rg G b Lm (Rm b) I' J))) 6 0 0 235 [(0, .ref (b + 0)), (2, .long x1), (4, .long x3)] [.ref (b + 0)] (Rg G b Lm (Rm b) I J) (j235)) _ ?_ ?_
    · skip
      refine T_iconst hok ic_1 dX11_valueOf_235 ?_
      refine T_goto (tgt := 240) hok dX11_valueOf_236 rfl ?_
      exact hj240 true
    intro j235 hj235
    refine T_if_ne (tgt := 235) hok dX11_valueOf_225 rfl ?_ ?_
    · refine T_lload hok 0 rfl dX11_valueOf_228 ?_
      refine T_lconst (v := 0) hok rfl dX11_valueOf_230 ?_
      refine T_lcmp_ne (tgt := 239) hok dX11_valueOf_231 rfl dX11_valueOf_232 rfl ?_ ?_
      · refine T_sub (lv' := [(0, .ref (b + 0)), (2, .long x1), (4, .long x3)]) [2, 1, 0] rfl ?_
        exact hj235
      refine T_iconst hok ic_0 dX11_valueOf_239 ?_
      refine T_sub (lv' := [(0, .ref (b + 0)), (2, .long x1), (4, .long x3)]) [2, 1, 0] rfl ?_
      exact hj240 false
    refine T_sub (lv' := [(0, .ref (b + 0)), (2, .long x1), (4, .long x3)]) [2, 1, 0] rfl ?_
    exact hj235
  refine T_swd ?_
  have nhx3 := toInt_ne (n := 3) rfl hx3
  have nhx4 := toInt_ne (n := 4) rfl hx4
  have nhx11 := toInt_ne (n := 11) rfl hx11
  have nhx12 := toInt_ne (n := 12) rfl hx12
  have nhx13 := toInt_ne (n := 13) rfl hx13
  have nhx14 := toInt_ne (n := 14) rfl hx14
  refine T_tdf (tgt := 259) (n := 12) hok dX11_valueOf_92 rfl (fun j hj he => ?_) rfl ?_
  · rcases (show j = 0 ∨ j = 1 ∨ j = 2 ∨ j = 3 ∨ j = 4 ∨ j = 5 ∨ j = 6 ∨ j = 7 ∨ j = 8 ∨ j = 9 ∨ j = 10 ∨ j = 11 by omega) with rfl | rfl | rfl | rfl | rfl | rfl | rfl | rfl | rfl | rfl | rfl | rfl <;> first | rfl | (exfalso; omega)
  refine T_aload_n hok 2 rfl rfl dX11_valueOf_259 ?_
  refine T_getR hok fr_X11_69 lm_0 rm_0_38 dX11_valueOf_260 ?_
  refine T_iload_n hok 3 rfl rfl dX11_valueOf_263 ?_
  refine T_iald hok lm_19 dX11_valueOf_264 ?_
  refine T_lload_n hok 1 rfl rfl dX11_valueOf_265 ?_
  refine T_lload hok 0 rfl dX11_valueOf_266 ?_
  refine T_cz0 (CR_S (rest := []) hok (ct_X11_compares (I 19 (ix a1)) x1 x3) mw_X11_compares mst_X11_compares ml_X11_351 dX11_valueOf_268 rfl rfl (roomOk rfl) rfl) rfl rfl ?_
  intro x15
  refine T_jp _ (fun (j279 : Int64 → Option (Int64 × MI)) => ∀ (x16 : Int64), T X A (Zm X A (il1 (fun (I' : MI) => Rg G b Lm (Rm b) I' J))) 6 0 0 279 [] [.long x16] (Rg G b Lm (Rm b) I J) (j279 x16)) _ ?_ ?_
  · intro x16
    exact T_lret hok dX11_valueOf_279 (Nat.zero_le _) (Nat.zero_le _) rfl
  intro j279 hj279
  refine T_ifb_eq (tgt := 278) hok dX11_valueOf_271 rfl ?_ ?_
  · refine T_lconst (v := 1) hok rfl dX11_valueOf_274 ?_
    refine T_goto (tgt := 279) hok dX11_valueOf_275 rfl ?_
    refine T_sub (lv' := []) [] rfl ?_
    exact hj279 (1 : Int64)
  refine T_lconst (v := 0) hok rfl dX11_valueOf_278 ?_
  refine T_sub (lv' := []) [] rfl ?_
  exact hj279 (0 : Int64)

set_option maxHeartbeats 4000000 in
set_option maxRecDepth 100000 in
theorem ct_X11_layTried {G : Gx} {l0 : Launch} {A : Nat → Prop} {b : Nat} (hA : ∀ k, k < Lm.length → A (b + k)) (I : MI) (J : MJ) : Ct G l0 A yX11_layTried cX11_layTried 2 none { frames := 1, cells := 0, slots := 0, locals := 20 } [.ref (b + 0)] (Rg G b Lm (Rm b) I J) (iv1 (fun (I' : MI) => Rg G b Lm (Rm b) I' J)) (f_X11_layTried I) := by
  refine Ct.of rfl (Nat.le_of_ble_eq_true rfl) ?_
  intro X hok
  replace hok : Ok G l0 X RX11 cX11_layTried 2 { frames := 1, cells := 0, slots := 0, locals := 20 } none := hok
  delta f_X11_layTried
  show T X A (Zm X A (iv1 (fun (I' : MI) => Rg G b Lm (Rm b) I' J))) 2 0 0 0 [(0, .ref (b + 0))] [] (Rg G b Lm (Rm b) I J) _
  refine T_iconst hok ic_0 dX11_layTried_0 ?_
  refine T_istore_n (lv' := [(1, .int (0 : Int32)), (0, .ref (b + 0))]) hok rfl (by decide) rfl dX11_layTried_1 ?_
  refine T_jp _ (fun (j89 : MI → Option (MI)) => ∀ (I1 : MI), T X A (Zm X A (iv1 (fun (I' : MI) => Rg G b Lm (Rm b) I' J))) 2 0 0 89 [(0, .ref (b + 0))] [] (Rg G b Lm (Rm b) I1 J) (j89 I1)) _ ?_ ?_
  · intro I1
    refine T_aload_n hok 0 rfl rfl dX11_layTried_89 ?_
    refine T_getR hok fr_X11_106 lm_0 rm_0_57 dX11_layTried_90 ?_
    refine T_iconst hok ic_1 dX11_layTried_93 ?_
    refine T_aload_n hok 0 rfl rfl dX11_layTried_94 ?_
    refine T_getR hok fr_X11_106 lm_0 rm_0_57 dX11_layTried_95 ?_
    refine T_iconst hok ic_0 dX11_layTried_98 ?_
    refine T_iald hok lm_31 dX11_layTried_99 ?_
    refine T_iast hok hA lm_31 dX11_layTried_100 ?_
    intro I2
    refine T_aload_n hok 0 rfl rfl dX11_layTried_101 ?_
    refine T_getR hok fr_X11_109 lm_0 rm_0_58 dX11_layTried_102 ?_
    refine T_iconst hok ic_1 dX11_layTried_105 ?_
    refine T_aload_n hok 0 rfl rfl dX11_layTried_106 ?_
    refine T_getR hok fr_X11_109 lm_0 rm_0_58 dX11_layTried_107 ?_
    refine T_iconst hok ic_0 dX11_layTried_110 ?_
    refine T_iald hok lm_32 dX11_layTried_111 ?_
    refine T_iast hok hA lm_32 dX11_layTried_112 ?_
    intro I3
    refine T_aload_n hok 0 rfl rfl dX11_layTried_113 ?_
    refine T_getR hok fr_X11_112 lm_0 rm_0_59 dX11_layTried_114 ?_
    refine T_iconst hok ic_1 dX11_layTried_117 ?_
    refine T_aload_n hok 0 rfl rfl dX11_layTried_118 ?_
    refine T_getR hok fr_X11_112 lm_0 rm_0_59 dX11_layTried_119 ?_
    refine T_iconst hok ic_0 dX11_layTried_122 ?_
    refine T_iald hok lm_33 dX11_layTried_123 ?_
    refine T_iast hok hA lm_33 dX11_layTried_124 ?_
    intro I4
    refine T_aload_n hok 0 rfl rfl dX11_layTried_125 ?_
    refine T_getR hok fr_X11_115 lm_0 rm_0_60 dX11_layTried_126 ?_
    refine T_iconst hok ic_1 dX11_layTried_129 ?_
    refine T_aload_n hok 0 rfl rfl dX11_layTried_130 ?_
    refine T_getR hok fr_X11_115 lm_0 rm_0_60 dX11_layTried_131 ?_
    refine T_iconst hok ic_0 dX11_layTried_134 ?_
    refine T_iald hok lm_34 dX11_layTried_135 ?_
    refine T_iast hok hA lm_34 dX11_layTried_136 ?_
    intro I5
    refine T_aload_n hok 0 rfl rfl dX11_layTried_137 ?_
    refine T_getR hok fr_X11_118 lm_0 rm_0_61 dX11_layTried_138 ?_
    refine T_iconst hok ic_1 dX11_layTried_141 ?_
    refine T_aload_n hok 0 rfl rfl dX11_layTried_142 ?_
    refine T_getR hok fr_X11_118 lm_0 rm_0_61 dX11_layTried_143 ?_
    refine T_iconst hok ic_0 dX11_layTried_146 ?_
    refine T_iald hok lm_35 dX11_layTried_147 ?_
    refine T_iast hok hA lm_35 dX11_layTried_148 ?_
    intro I6
    refine T_aload_n hok 0 rfl rfl dX11_layTried_149 ?_
    refine T_cv1 (CR_V (rest := []) hok (ct_X11_plainTried hA I6 J) mw_X11_plainTried mv_X11_plainTried ml_X11_359 lm_0 dX11_layTried_150 rfl rfl (roomOk rfl) rfl) rfl rfl ?_
    intro I7
    exact T_vret hok dX11_layTried_153 (Nat.zero_le _) (Nat.zero_le _) rfl
  intro j89 hj89
  refine T_sub (lv' := [(0, .ref (b + 0)), (1, .int (0 : Int32))]) [1, 0] rfl ?_
  refine T_fix2 _ (fun (x8 : Int32) (I9 : MI) => [(0, .ref (b + 0)), (1, .int x8)]) (fun (x8 : Int32) (I9 : MI) => Rg G b Lm (Rm b) I9 J) ?_ FU (0 : Int32) I
  intro r2 hr2 x8 I9
  refine T_iload_n hok 1 rfl rfl dX11_layTried_2 ?_
  refine T_bipush hok bp_6 dX11_layTried_3 ?_
  refine T_icmp_ge (tgt := 89) hok dX11_layTried_5 rfl ?_ ?_
  · refine T_sub (lv' := [(0, .ref (b + 0))]) [0] rfl ?_
    exact hj89 I9
  refine T_aload_n hok 0 rfl rfl dX11_layTried_8 ?_
  refine T_getR hok fr_X11_91 lm_0 rm_0_52 dX11_layTried_9 ?_
  refine T_bipush hok bp_6 dX11_layTried_12 ?_
  refine T_iload_n hok 1 rfl rfl dX11_layTried_14 ?_
  refine T_iadd hok dX11_layTried_15 ?_
  refine T_aload_n hok 0 rfl rfl dX11_layTried_16 ?_
  refine T_getR hok fr_X11_91 lm_0 rm_0_52 dX11_layTried_17 ?_
  refine T_iload_n hok 1 rfl rfl dX11_layTried_20 ?_
  refine T_iald hok lm_26 dX11_layTried_21 ?_
  refine T_iast hok hA lm_26 dX11_layTried_22 ?_
  intro I10
  refine T_aload_n hok 0 rfl rfl dX11_layTried_23 ?_
  refine T_getR hok fr_X11_94 lm_0 rm_0_53 dX11_layTried_24 ?_
  refine T_bipush hok bp_6 dX11_layTried_27 ?_
  refine T_iload_n hok 1 rfl rfl dX11_layTried_29 ?_
  refine T_iadd hok dX11_layTried_30 ?_
  refine T_aload_n hok 0 rfl rfl dX11_layTried_31 ?_
  refine T_getR hok fr_X11_94 lm_0 rm_0_53 dX11_layTried_32 ?_
  refine T_iload_n hok 1 rfl rfl dX11_layTried_35 ?_
  refine T_iald hok lm_27 dX11_layTried_36 ?_
  refine T_iast hok hA lm_27 dX11_layTried_37 ?_
  intro I11
  refine T_aload_n hok 0 rfl rfl dX11_layTried_38 ?_
  refine T_getR hok fr_X11_97 lm_0 rm_0_54 dX11_layTried_39 ?_
  refine T_bipush hok bp_6 dX11_layTried_42 ?_
  refine T_iload_n hok 1 rfl rfl dX11_layTried_44 ?_
  refine T_iadd hok dX11_layTried_45 ?_
  refine T_aload_n hok 0 rfl rfl dX11_layTried_46 ?_
  refine T_getR hok fr_X11_97 lm_0 rm_0_54 dX11_layTried_47 ?_
  refine T_iload_n hok 1 rfl rfl dX11_layTried_50 ?_
  refine T_iald hok lm_28 dX11_layTried_51 ?_
  refine T_iast hok hA lm_28 dX11_layTried_52 ?_
  intro I12
  refine T_aload_n hok 0 rfl rfl dX11_layTried_53 ?_
  refine T_getR hok fr_X11_100 lm_0 rm_0_55 dX11_layTried_54 ?_
  refine T_bipush hok bp_6 dX11_layTried_57 ?_
  refine T_iload_n hok 1 rfl rfl dX11_layTried_59 ?_
  refine T_iadd hok dX11_layTried_60 ?_
  refine T_aload_n hok 0 rfl rfl dX11_layTried_61 ?_
  refine T_getR hok fr_X11_100 lm_0 rm_0_55 dX11_layTried_62 ?_
  refine T_iload_n hok 1 rfl rfl dX11_layTried_65 ?_
  refine T_iald hok lm_29 dX11_layTried_66 ?_
  refine T_iast hok hA lm_29 dX11_layTried_67 ?_
  intro I13
  refine T_aload_n hok 0 rfl rfl dX11_layTried_68 ?_
  refine T_getR hok fr_X11_103 lm_0 rm_0_56 dX11_layTried_69 ?_
  refine T_bipush hok bp_6 dX11_layTried_72 ?_
  refine T_iload_n hok 1 rfl rfl dX11_layTried_74 ?_
  refine T_iadd hok dX11_layTried_75 ?_
  refine T_aload_n hok 0 rfl rfl dX11_layTried_76 ?_
  refine T_getR hok fr_X11_103 lm_0 rm_0_56 dX11_layTried_77 ?_
  refine T_iload_n hok 1 rfl rfl dX11_layTried_80 ?_
  refine T_iald hok lm_30 dX11_layTried_81 ?_
  refine T_iast hok hA lm_30 dX11_layTried_82 ?_
  intro I14
  refine T_iinc (lvs := fun x15 => [(1, .int x15), (0, .ref (b + 0))]) hok 1 rfl ic_1 (by decide) (fun _ => rfl) dX11_layTried_83 ?_
  intro x15
  refine T_goto (tgt := 2) hok dX11_layTried_86 rfl ?_
  refine T_sub (lv' := [(0, .ref (b + 0)), (1, .int x15)]) [1, 0] rfl ?_
  exact hr2 x15 I14

set_option maxHeartbeats 4000000 in
set_option maxRecDepth 100000 in
theorem ct_X11_isKind {G : Gx} {l0 : Launch} {A : Nat → Prop} {b : Nat} (hA : ∀ k, k < Lm.length → A (b + k)) (I : MI) (J : MJ) (a1 : Int32) : Ct G l0 A yX11_isKind cX11_isKind 2 (some .boolean) { frames := 0, cells := 0, slots := 0, locals := 0 } [.ref (b + 0), .int a1] (Rg G b Lm (Rm b) I J) (iz0 (Rg G b Lm (Rm b) I J)) (f_X11_isKind I a1) := by
  refine Ct.of rfl (Nat.le_of_ble_eq_true rfl) ?_
  intro X hok
  replace hok : Ok G l0 X RX11 cX11_isKind 2 { frames := 0, cells := 0, slots := 0, locals := 0 } (some .boolean) := hok
  delta f_X11_isKind
  show T X A (Zm X A (iz0 (Rg G b Lm (Rm b) I J))) 2 0 0 0 [(0, .ref (b + 0)), (1, .int a1)] [] (Rg G b Lm (Rm b) I J) _
  refine T_iload_n hok 1 rfl rfl dX11_isKind_0 ?_
  refine T_jp _ (fun (j17 : Bool → Option (Bool)) => ∀ (x1 : Bool), T X A (Zm X A (iz0 (Rg G b Lm (Rm b) I J))) 2 0 0 17 [] [.int (bi x1)] (Rg G b Lm (Rm b) I J) (j17 x1)) _ ?_ ?_
  · intro x1
    exact T_zret hok dX11_isKind_17 (Nat.zero_le _) (Nat.zero_le _) (bi_01 _) rfl
  intro j17 hj17
  refine T_jp _ (fun (j16 : Option (Bool)) => T X A (Zm X A (iz0 (Rg G b Lm (Rm b) I J))) 2 0 0 16 [] [] (Rg G b Lm (Rm b) I J) (j16)) _ ?_ ?_
  · skip
    refine T_iconst hok ic_0 dX11_isKind_16 ?_
    exact hj17 false
  intro j16 hj16
  refine T_if_lt (tgt := 16) hok dX11_isKind_1 rfl ?_ ?_
  · refine T_sub (lv' := []) [] rfl ?_
    exact hj16
  refine T_iload_n hok 1 rfl rfl dX11_isKind_4 ?_
  refine T_aload_n hok 0 rfl rfl dX11_isKind_5 ?_
  refine T_getI hok fr_X11_231 lm_0 dX11_isKind_6 ?_
  refine T_icmp_ge (tgt := 16) hok dX11_isKind_9 rfl ?_ ?_
  · refine T_sub (lv' := []) [] rfl ?_
    exact hj16
  refine T_iconst hok ic_1 dX11_isKind_12 ?_
  refine T_goto (tgt := 17) hok dX11_isKind_13 rfl ?_
  refine T_sub (lv' := []) [] rfl ?_
  exact hj17 true

set_option maxHeartbeats 4000000 in
set_option maxRecDepth 100000 in
theorem ct_X11_isHouse {G : Gx} {l0 : Launch} {A : Nat → Prop} {b : Nat} (hA : ∀ k, k < Lm.length → A (b + k)) (I : MI) (J : MJ) (a1 : Int32) : Ct G l0 A yX11_isHouse cX11_isHouse 2 (some .boolean) { frames := 0, cells := 0, slots := 0, locals := 0 } [.ref (b + 0), .int a1] (Rg G b Lm (Rm b) I J) (iz0 (Rg G b Lm (Rm b) I J)) (f_X11_isHouse I a1) := by
  refine Ct.of rfl (Nat.le_of_ble_eq_true rfl) ?_
  intro X hok
  replace hok : Ok G l0 X RX11 cX11_isHouse 2 { frames := 0, cells := 0, slots := 0, locals := 0 } (some .boolean) := hok
  delta f_X11_isHouse
  show T X A (Zm X A (iz0 (Rg G b Lm (Rm b) I J))) 2 0 0 0 [(0, .ref (b + 0)), (1, .int a1)] [] (Rg G b Lm (Rm b) I J) _
  refine T_iload_n hok 1 rfl rfl dX11_isHouse_0 ?_
  refine T_jp _ (fun (j17 : Bool → Option (Bool)) => ∀ (x1 : Bool), T X A (Zm X A (iz0 (Rg G b Lm (Rm b) I J))) 2 0 0 17 [] [.int (bi x1)] (Rg G b Lm (Rm b) I J) (j17 x1)) _ ?_ ?_
  · intro x1
    exact T_zret hok dX11_isHouse_17 (Nat.zero_le _) (Nat.zero_le _) (bi_01 _) rfl
  intro j17 hj17
  refine T_jp _ (fun (j16 : Option (Bool)) => T X A (Zm X A (iz0 (Rg G b Lm (Rm b) I J))) 2 0 0 16 [] [] (Rg G b Lm (Rm b) I J) (j16)) _ ?_ ?_
  · skip
    refine T_iconst hok ic_0 dX11_isHouse_16 ?_
    exact hj17 false
  intro j16 hj16
  refine T_if_lt (tgt := 16) hok dX11_isHouse_1 rfl ?_ ?_
  · refine T_sub (lv' := []) [] rfl ?_
    exact hj16
  refine T_iload_n hok 1 rfl rfl dX11_isHouse_4 ?_
  refine T_aload_n hok 0 rfl rfl dX11_isHouse_5 ?_
  refine T_getI hok fr_X11_234 lm_0 dX11_isHouse_6 ?_
  refine T_icmp_ge (tgt := 16) hok dX11_isHouse_9 rfl ?_ ?_
  · refine T_sub (lv' := []) [] rfl ?_
    exact hj16
  refine T_iconst hok ic_1 dX11_isHouse_12 ?_
  refine T_goto (tgt := 17) hok dX11_isHouse_13 rfl ?_
  refine T_sub (lv' := []) [] rfl ?_
  exact hj17 true

set_option maxHeartbeats 4000000 in
set_option maxRecDepth 100000 in
theorem ct_X11_areHouses {G : Gx} {l0 : Launch} {A : Nat → Prop} {b : Nat} (hA : ∀ k, k < Lm.length → A (b + k)) (I : MI) (J : MJ) (a1 : Int32) : Ct G l0 A yX11_areHouses cX11_areHouses 2 (some .boolean) { frames := 0, cells := 0, slots := 0, locals := 0 } [.ref (b + 0), .int a1] (Rg G b Lm (Rm b) I J) (iz0 (Rg G b Lm (Rm b) I J)) (f_X11_areHouses I a1) := by
  refine Ct.of rfl (Nat.le_of_ble_eq_true rfl) ?_
  intro X hok
  replace hok : Ok G l0 X RX11 cX11_areHouses 2 { frames := 0, cells := 0, slots := 0, locals := 0 } (some .boolean) := hok
  delta f_X11_areHouses
  show T X A (Zm X A (iz0 (Rg G b Lm (Rm b) I J))) 2 0 0 0 [(0, .ref (b + 0)), (1, .int a1)] [] (Rg G b Lm (Rm b) I J) _
  refine T_iload_n hok 1 rfl rfl dX11_areHouses_0 ?_
  refine T_jp _ (fun (j18 : Bool → Option (Bool)) => ∀ (x1 : Bool), T X A (Zm X A (iz0 (Rg G b Lm (Rm b) I J))) 2 0 0 18 [] [.int (bi x1)] (Rg G b Lm (Rm b) I J) (j18 x1)) _ ?_ ?_
  · intro x1
    exact T_zret hok dX11_areHouses_18 (Nat.zero_le _) (Nat.zero_le _) (bi_01 _) rfl
  intro j18 hj18
  refine T_jp _ (fun (j17 : Option (Bool)) => T X A (Zm X A (iz0 (Rg G b Lm (Rm b) I J))) 2 0 0 17 [] [] (Rg G b Lm (Rm b) I J) (j17)) _ ?_ ?_
  · skip
    refine T_iconst hok ic_0 dX11_areHouses_17 ?_
    exact hj18 false
  intro j17 hj17
  refine T_if_lt (tgt := 17) hok dX11_areHouses_1 rfl ?_ ?_
  · refine T_sub (lv' := []) [] rfl ?_
    exact hj17
  refine T_iload_n hok 1 rfl rfl dX11_areHouses_4 ?_
  refine T_aload_n hok 0 rfl rfl dX11_areHouses_5 ?_
  refine T_getI hok fr_X11_234 lm_0 dX11_areHouses_6 ?_
  refine T_ishr hok dX11_areHouses_9 ?_
  refine T_if_ne (tgt := 17) hok dX11_areHouses_10 rfl ?_ ?_
  · refine T_iconst hok ic_1 dX11_areHouses_13 ?_
    refine T_goto (tgt := 18) hok dX11_areHouses_14 rfl ?_
    refine T_sub (lv' := []) [] rfl ?_
    exact hj18 true
  refine T_sub (lv' := []) [] rfl ?_
  exact hj17

set_option maxHeartbeats 4000000 in
set_option maxRecDepth 100000 in
theorem ct_X11_manyOf {G : Gx} {l0 : Launch} {A : Nat → Prop} {Wd : Heap → Prop} (a1 : Int32) : Ct G l0 A yX11_manyOf cX11_manyOf 3 (some .int) { frames := 0, cells := 0, slots := 0, locals := 0 } [.int a1] (Wd) (ii0 (Wd)) (f_X11_manyOf a1) := by
  refine Ct.of rfl (Nat.le_of_ble_eq_true rfl) ?_
  intro X hok
  replace hok : Ok G l0 X RX11 cX11_manyOf 3 { frames := 0, cells := 0, slots := 0, locals := 0 } (some .int) := hok
  delta f_X11_manyOf
  show T X A (Zm X A (ii0 (Wd))) 3 0 0 0 [(0, .int a1)] [] (Wd) _
  refine T_iconst hok ic_0 dX11_manyOf_0 ?_
  refine T_istore_n (lv' := [(1, .int (0 : Int32)), (0, .int a1)]) hok rfl (by decide) rfl dX11_manyOf_1 ?_
  refine T_iconst hok ic_0 dX11_manyOf_2 ?_
  refine T_istore_n (lv' := [(2, .int (0 : Int32)), (1, .int (0 : Int32)), (0, .int a1)]) hok rfl (by decide) rfl dX11_manyOf_3 ?_
  refine T_sub (lv' := [(0, .int a1), (1, .int (0 : Int32)), (2, .int (0 : Int32))]) [2, 1, 0] rfl ?_
  refine T_fix2 _ (fun (x1 : Int32) (x2 : Int32) => [(0, .int a1), (1, .int x1), (2, .int x2)]) (fun (x1 : Int32) (x2 : Int32) => Wd) ?_ FU (0 : Int32) (0 : Int32)
  intro r4 hr4 x1 x2
  refine T_iload_n hok 2 rfl rfl dX11_manyOf_4 ?_
  refine T_bipush hok bp_8 dX11_manyOf_5 ?_
  refine T_icmp_ge (tgt := 24) hok dX11_manyOf_7 rfl ?_ ?_
  · refine T_iload_n hok 1 rfl rfl dX11_manyOf_24 ?_
    exact T_iret hok dX11_manyOf_25 (Nat.zero_le _) (Nat.zero_le _) rfl
  refine T_iload_n hok 1 rfl rfl dX11_manyOf_10 ?_
  refine T_iload_n hok 0 rfl rfl dX11_manyOf_11 ?_
  refine T_iload_n hok 2 rfl rfl dX11_manyOf_12 ?_
  refine T_ishr hok dX11_manyOf_13 ?_
  refine T_iconst hok ic_1 dX11_manyOf_14 ?_
  refine T_iand hok dX11_manyOf_15 ?_
  refine T_iadd hok dX11_manyOf_16 ?_
  refine T_lti ?_
  intro x3
  refine T_istore_n (lv' := [(1, .int x3), (0, .int a1), (2, .int x2)]) hok rfl (by decide) rfl dX11_manyOf_17 ?_
  refine T_iinc (lvs := fun x4 => [(2, .int x4), (1, .int x3), (0, .int a1)]) hok 2 rfl ic_1 (by decide) (fun _ => rfl) dX11_manyOf_18 ?_
  intro x4
  refine T_goto (tgt := 4) hok dX11_manyOf_21 rfl ?_
  refine T_sub (lv' := [(0, .int a1), (1, .int x3), (2, .int x4)]) [2, 1, 0] rfl ?_
  exact hr4 x3 x4

set_option maxHeartbeats 4000000 in
set_option maxRecDepth 100000 in
theorem ct_X11_worthOf {G : Gx} {l0 : Launch} {A : Nat → Prop} {b : Nat} (hA : ∀ k, k < Lm.length → A (b + k)) (I : MI) (J : MJ) (a1 : Int32) : Ct G l0 A yX11_worthOf cX11_worthOf 2 (some .int) { frames := 0, cells := 0, slots := 0, locals := 0 } [.ref (b + 0), .int a1] (Rg G b Lm (Rm b) I J) (ii0 (Rg G b Lm (Rm b) I J)) (f_X11_worthOf I a1) := by
  refine Ct.of rfl (Nat.le_of_ble_eq_true rfl) ?_
  intro X hok
  replace hok : Ok G l0 X RX11 cX11_worthOf 2 { frames := 0, cells := 0, slots := 0, locals := 0 } (some .int) := hok
  delta f_X11_worthOf
  show T X A (Zm X A (ii0 (Rg G b Lm (Rm b) I J))) 2 0 0 0 [(0, .ref (b + 0)), (1, .int a1)] [] (Rg G b Lm (Rm b) I J) _
  refine T_aload_n hok 0 rfl rfl dX11_worthOf_0 ?_
  refine T_getI hok fr_X11_374 lm_0 dX11_worthOf_1 ?_
  refine T_jp _ (fun (j17 : Int32 → Option (Int32)) => ∀ (x1 : Int32), T X A (Zm X A (ii0 (Rg G b Lm (Rm b) I J))) 2 0 0 17 [] [.int x1] (Rg G b Lm (Rm b) I J) (j17 x1)) _ ?_ ?_
  · intro x1
    exact T_iret hok dX11_worthOf_17 (Nat.zero_le _) (Nat.zero_le _) rfl
  intro j17 hj17
  refine T_if_eq (tgt := 11) hok dX11_worthOf_4 rfl ?_ ?_
  · refine T_aload_n hok 0 rfl rfl dX11_worthOf_11 ?_
    refine T_getR hok fr_X11_30 lm_0 rm_0_25 dX11_worthOf_12 ?_
    refine T_iload_n hok 1 rfl rfl dX11_worthOf_15 ?_
    refine T_iald hok lm_6 dX11_worthOf_16 ?_
    refine T_sub (lv' := []) [] rfl ?_
    exact hj17 (I 6 (ix a1))
  refine T_iconst hok ic_0 dX11_worthOf_7 ?_
  refine T_goto (tgt := 17) hok dX11_worthOf_8 rfl ?_
  refine T_sub (lv' := []) [] rfl ?_
  exact hj17 (0 : Int32)
