theorem hx_cl1 : Cond.classLink RX10 126 E1 ∈ UW := uw_in (tin_5 (List.mem_of_getElem? (i := 224) (by decide +kernel))) (by decide +kernel)
theorem hx_in1 : Cond.initialized E1 ∈ UW := uw_in (tin_1 (List.mem_of_getElem? (i := 21) (by decide +kernel))) (by decide +kernel)
theorem hx_cl2 : Cond.classLink RX10 156 E2 ∈ UW := uw_in (tin_6 (List.mem_of_getElem? (i := 50) (by decide +kernel))) (by decide +kernel)
theorem hx_in2 : Cond.initialized E2 ∈ UW := uw_in (tin_1 (List.mem_of_getElem? (i := 22) (by decide +kernel))) (by decide +kernel)
def ixh (w : Heap → Prop) : Int32 ⊕ Nat → Rx := fun a => match a with
  | .inl v => .inl (some (.int v), w)
  | .inr k => .inr (if k = 1 then E1 else E2, w)
set_option maxHeartbeats 4000000 in
set_option maxRecDepth 100000 in
theorem ct_X10_house {G : Gx} {l0 : Launch} {K V : Nat → Nat} {A : Nat → Prop} {b bk dr it : Nat} (hst : l0.stackTraces = false) (hA : ∀ k, k < Lc.length → A (b + k)) (hbk : isBk bk = true) (I : MI) (J : MJ) (a1 a2 : Int32) : CtX G l0 K V A yX10_house cX10_house 3 (some .int) { frames := 6, cells := 1, slots := 6, locals := 90 } [.ref (b + 0), .int a1, .int a2] (Rg G b Lc (Rc b bk dr it) I J) (ixh (Rg G b Lc (Rc b bk dr it) I J)) (f_X10_house bk I a1 a2) := by
  refine CtX.of hst rfl (Nat.le_of_ble_eq_true rfl) ?_
  intro X hok hE hX
  replace hok : Ok G l0 X RX10 cX10_house 3 { frames := 6, cells := 1, slots := 6, locals := 90 } (some .int) := hok
  delta f_X10_house
  show T X A (Zx X A (ixh (Rg G b Lc (Rc b bk dr it) I J))) 3 0 0 0 [(0, .ref (b + 0)), (1, .int a1), (2, .int a2)] [] (Rg G b Lc (Rc b bk dr it) I J) _
  refine T_aload_n hok 0 rfl rfl dX10_house_0 ?_
  refine T_iload_n hok 1 rfl rfl dX10_house_1 ?_
  refine T_cz0 (CR_V (rest := []) hok (ct_X10_isHouse hA hbk I J a1) mw_X10_isHouse mv_X10_isHouse ml_X10_122 lc_0 dX10_house_2 rfl rfl (roomOk rfl) rfl) rfl rfl ?_
  intro x1
  refine T_ifb_ne (tgt := 18) hok dX10_house_5 rfl ?_ ?_
  · refine T_iload_n hok 2 rfl rfl dX10_house_18 ?_
    refine T_swc (fun hx0 => ?_) (fun hx0 => ?_)
    · refine T_tin (tgt := 60) hok hx0 dX10_house_19 (by decide) (by decide) rfl rfl ?_
      refine T_aload_n hok 0 rfl rfl dX10_house_60 ?_
      refine T_getR hok fr_X10_37 lc_0 rc_0_5 dX10_house_61 ?_
      refine T_getR hok fr_X10_133 lc_38 rc_38_0 dX10_house_64 ?_
      refine T_iload_n hok 1 rfl rfl dX10_house_67 ?_
      refine T_iald hok lc_39 dX10_house_68 ?_
      exact T_xiret hok dX10_house_69 (Nat.zero_le _) (Nat.zero_le _) rfl
    refine T_swc (fun hx1 => ?_) (fun hx1 => ?_)
    · refine T_tin (tgt := 70) hok hx1 dX10_house_19 (by decide) (by decide) rfl rfl ?_
      refine T_aload_n hok 0 rfl rfl dX10_house_70 ?_
      refine T_getR hok fr_X10_37 lc_0 rc_0_5 dX10_house_71 ?_
      refine T_getR hok fr_X10_137 lc_38 rc_38_1 dX10_house_74 ?_
      refine T_iload_n hok 1 rfl rfl dX10_house_77 ?_
      refine T_iald hok lc_40 dX10_house_78 ?_
      exact T_xiret hok dX10_house_79 (Nat.zero_le _) (Nat.zero_le _) rfl
    refine T_swc (fun hx2 => ?_) (fun hx2 => ?_)
    · refine T_tin (tgt := 80) hok hx2 dX10_house_19 (by decide) (by decide) rfl rfl ?_
      refine T_aload_n hok 0 rfl rfl dX10_house_80 ?_
      refine T_getR hok fr_X10_37 lc_0 rc_0_5 dX10_house_81 ?_
      refine T_getR hok fr_X10_140 lc_38 rc_38_2 dX10_house_84 ?_
      refine T_iload_n hok 1 rfl rfl dX10_house_87 ?_
      refine T_iald hok lc_41 dX10_house_88 ?_
      exact T_xiret hok dX10_house_89 (Nat.zero_le _) (Nat.zero_le _) rfl
    refine T_swc (fun hx3 => ?_) (fun hx3 => ?_)
    · refine T_tin (tgt := 90) hok hx3 dX10_house_19 (by decide) (by decide) rfl rfl ?_
      refine T_aload_n hok 0 rfl rfl dX10_house_90 ?_
      refine T_getR hok fr_X10_18 lc_0 rc_0_2 dX10_house_91 ?_
      refine T_getR hok fr_X10_143 (bookAt_c (b := 0) (bk := 0) (dr := 0) (it := 0) hbk).o (bookAt_c hbk).r5 dX10_house_94 ?_
      refine T_iload_n hok 1 rfl rfl dX10_house_97 ?_
      refine T_iald hok (bookAt_c (b := 0) (bk := 0) (dr := 0) (it := 0) hbk).l5 dX10_house_98 ?_
      exact T_xiret hok dX10_house_99 (Nat.zero_le _) (Nat.zero_le _) rfl
    refine T_swc (fun hx4 => ?_) (fun hx4 => ?_)
    · refine T_tin (tgt := 100) hok hx4 dX10_house_19 (by decide) (by decide) rfl rfl ?_
      refine T_aload_n hok 0 rfl rfl dX10_house_100 ?_
      refine T_getR hok fr_X10_37 lc_0 rc_0_5 dX10_house_101 ?_
      refine T_getR hok fr_X10_146 lc_38 rc_38_3 dX10_house_104 ?_
      refine T_iload_n hok 1 rfl rfl dX10_house_107 ?_
      refine T_iald hok lc_42 dX10_house_108 ?_
      exact T_xiret hok dX10_house_109 (Nat.zero_le _) (Nat.zero_le _) rfl
    refine T_swc (fun hx5 => ?_) (fun hx5 => ?_)
    · refine T_tin (tgt := 110) hok hx5 dX10_house_19 (by decide) (by decide) rfl rfl ?_
      refine T_aload_n hok 0 rfl rfl dX10_house_110 ?_
      refine T_getR hok fr_X10_37 lc_0 rc_0_5 dX10_house_111 ?_
      refine T_getR hok fr_X10_149 lc_38 rc_38_4 dX10_house_114 ?_
      refine T_iload_n hok 1 rfl rfl dX10_house_117 ?_
      refine T_zald hok lc_43 dX10_house_118 ?_
      refine T_jp _ (fun (j127 : Bool → Option (Int32 ⊕ Nat)) => ∀ (x2 : Bool), T X A (Zx X A (ixh (Rg G b Lc (Rc b bk dr it) I J))) 3 0 0 127 [] [.int (bi x2)] (Rg G b Lc (Rc b bk dr it) I J) (j127 x2)) _ ?_ ?_
      · intro x2
        exact T_xiret hok dX10_house_127 (Nat.zero_le _) (Nat.zero_le _) rfl
      intro j127 hj127
      refine T_if_eq (tgt := 126) hok dX10_house_119 rfl ?_ ?_
      · refine T_iconst hok ic_0 dX10_house_126 ?_
        refine T_sub (lv' := []) [] rfl ?_
        exact hj127 false
      refine T_iconst hok ic_1 dX10_house_122 ?_
      refine T_goto (tgt := 127) hok dX10_house_123 rfl ?_
      refine T_sub (lv' := []) [] rfl ?_
      exact hj127 true
    refine T_swc (fun hx6 => ?_) (fun hx6 => ?_)
    · refine T_tin (tgt := 128) hok hx6 dX10_house_19 (by decide) (by decide) rfl rfl ?_
      refine T_aload_n hok 0 rfl rfl dX10_house_128 ?_
      refine T_getR hok fr_X10_37 lc_0 rc_0_5 dX10_house_129 ?_
      refine T_getR hok fr_X10_153 lc_38 rc_38_5 dX10_house_132 ?_
      refine T_iload_n hok 1 rfl rfl dX10_house_135 ?_
      refine T_zald hok lc_44 dX10_house_136 ?_
      refine T_jp _ (fun (j145 : Bool → Option (Int32 ⊕ Nat)) => ∀ (x3 : Bool), T X A (Zx X A (ixh (Rg G b Lc (Rc b bk dr it) I J))) 3 0 0 145 [] [.int (bi x3)] (Rg G b Lc (Rc b bk dr it) I J) (j145 x3)) _ ?_ ?_
      · intro x3
        exact T_xiret hok dX10_house_145 (Nat.zero_le _) (Nat.zero_le _) rfl
      intro j145 hj145
      refine T_if_eq (tgt := 144) hok dX10_house_137 rfl ?_ ?_
      · refine T_iconst hok ic_0 dX10_house_144 ?_
        refine T_sub (lv' := []) [] rfl ?_
        exact hj145 false
      refine T_iconst hok ic_1 dX10_house_140 ?_
      refine T_goto (tgt := 145) hok dX10_house_141 rfl ?_
      refine T_sub (lv' := []) [] rfl ?_
      exact hj145 true
    refine T_swd ?_
    have nhx0 := toInt_ne (n := 0) rfl hx0
    have nhx1 := toInt_ne (n := 1) rfl hx1
    have nhx2 := toInt_ne (n := 2) rfl hx2
    have nhx3 := toInt_ne (n := 3) rfl hx3
    have nhx4 := toInt_ne (n := 4) rfl hx4
    have nhx5 := toInt_ne (n := 5) rfl hx5
    have nhx6 := toInt_ne (n := 6) rfl hx6
    refine T_tdf (tgt := 146) (n := 7) hok dX10_house_19 rfl (fun j hj he => ?_) rfl ?_
    · rcases (show j = 0 ∨ j = 1 ∨ j = 2 ∨ j = 3 ∨ j = 4 ∨ j = 5 ∨ j = 6 by omega) with rfl | rfl | rfl | rfl | rfl | rfl | rfl <;> first | rfl | (exfalso; omega)
    exact T_nthrow (Wd' := Rg G b Lc (Rc b bk dr it) I J) hok hE hX hx_cl2 hx_in2 (fun s H h => h.1.2.2) (by decide +kernel) (by decide +kernel) (by decide +kernel) dX10_house_146 dX10_house_149 dX10_house_150 dX10_house_152 dX10_house_155 (by decide) (Nat.le_of_ble_eq_true rfl) (by decide) (by decide) rfl (fun H H' hq hw => Rg_frame (A1 := fun _ => False) (fun _ _ z => z) (fun q h1 _ => hq q h1) hw)
  exact T_xthrow (names := ["java/lang/RuntimeException", "java/lang/Exception"]) (Wd' := Rg G b Lc (Rc b bk dr it) I J) hok hE hX (by decide +kernel) (by decide +kernel) hx_cl1 hx_in1 (fun s H h => h.1.2.1) (by decide +kernel) (by decide +kernel) (by decide +kernel) dX10_house_8 dX10_house_11 dX10_house_12 dX10_house_14 dX10_house_17 (by decide) (Nat.le_of_ble_eq_true rfl) (by decide) (by decide) rfl (fun H H' hq hw => Rg_frame (A1 := fun _ => False) (fun _ _ z => z) (fun q h1 _ => hq q h1) hw)
theorem mw_X10_house : MWc yX10_house cX10_house 3 (some .int) 2 := ⟨uw_in (tin_5 (List.mem_of_getElem? (i := 223) rfl)) rfl, uw_in (tin_1 (List.mem_of_getElem? (i := 1) (by decide +kernel))) (by decide +kernel), by decide +kernel, by decide +kernel, by decide +kernel⟩
theorem mv_X10_house : MWv yX10_house 10 := ⟨uw_in (tin_5 (List.mem_of_getElem? (i := 221) (by decide +kernel))) (by decide +kernel), uw_in (tin_5 (List.mem_of_getElem? (i := 222) (by decide +kernel))) (by decide +kernel), rfl⟩
theorem ml_L_7 : Cond.methodLink RL 7 yX10_house ∈ UW := uw_in (tin_5 (List.mem_of_getElem? (i := 220) (by decide +kernel))) (by decide +kernel)
theorem cl_L_13 : Cond.classLink RL 13 E1 ∈ UW := uw_in (tin_5 (List.mem_of_getElem? (i := 218) (by decide +kernel))) (by decide +kernel)
theorem cl_L_15 : Cond.classLink RL 15 E2 ∈ UW := uw_in (tin_5 (List.mem_of_getElem? (i := 219) (by decide +kernel))) (by decide +kernel)
/-- out[0] := the answer, other cells beside it -/
theorem T_lastF {G : Gx} {l0 : Launch} {X : Cx} {own : String} {cc : ByteArray} {nL : Nat} {R0 : Room} {ret : Option FieldType} {A : Nat → Prop} {α : Type} {Z : α → State → Prop} {kc ks pc : Nat} {lv : List (Nat × Value)} {st : List Value} {b p n : Nat} {L : List Kd} {R : MR} {I : MI} {J : MJ} {F : Heap → Prop} (h : Ok G l0 X own cc nL R0 ret) (hA : ∀ k, k < L.length → A (b + k)) (hF : ∀ H H' : Heap, (∀ q, q ≠ b + p → H'[q]? = H[q]?) → F H → F H') (hL : L[p]? = some (.inr (1, n))) {i : Int32} {x : Int64} {f : MJ → Option α} (hd : decode cc pc = .ok (.lastore, 1)) (kk : ∀ J' : MJ, T X A Z nL kc ks (pc + 1) lv st (fun H => F H ∧ Rg G b L R I J' H) (f J')) : T X A Z nL kc ks pc lv (.long x :: .int i :: .ref (b + p) :: st) (fun H => F H ∧ Rg G b L R I J H) (gd (inb i n) (lt (st2 J p (ix i) x) f)) := by
  refine T_gdH fun hi => ?_
  have kk := kk (st2 J p (ix i) x)
  obtain ⟨p0, l, e, Rm, s, m, args, below, meth, c⟩ := X
  intro a ha H locs ls hW hS hl
  obtain ⟨h1, h2, h3, h4, h5, h6, h7, h8, h9, h10, h11⟩ := h
  have hap := ws_getL (b := b) (aC := G.2) (R := R) (I := I) (J := J) hL
  refine W.last h1 h2 (hW.2 p _ hap) ((h6.2 1 _ rfl).1 n (fun j => .long (J p j))) (fun q => by cases q) (by show ¬ (i < 0 ∨ (arrV _ _ _).slots.size ≤ _); rw [arrV_size]; exact inb_in hi) rfl rfl hd fun H1 e z oq => ?_
  have e0 : (Sum.inl (G.2 1, n, Sum.inr (Sum.inl (vp_updL (J p) i.toNatClampNeg x))) : va_E) = ent G.2 R I (st2 J p (ix i) x) p (.inr (1, n)) := by
    simp only [ent, arC, st2_eq]
    rfl
  have hP1 : va_P G.1 cls12 ((wsOf b G.2 L R I J).set p (b + p, (Sum.inl (G.2 1, n, Sum.inr (Sum.inl (vp_updL (J p) i.toNatClampNeg x))) : va_E))) H1 := by
    refine va_P.set hW.2 (ws_D (A := fun _ => True) (fun _ _ => trivial)) hap ?_ oq
    show H1[b + p]? = some (vp_cell _ _)
    rw [e, vp_cell_l, vp_cell_l, arrV_store]
    congr 2
    funext q
    by_cases hq : q = i.toNatClampNeg
    · subst hq
      simp [updV, vp_updL]
    · simp [updV, vp_updL, hq]
  rw [e0, ws_set (kd := .inr (1, n)) hL (fun q hq => ⟨rfl, rfl, st2_ne hq⟩)] at hP1
  exact kk a ha H1 _ ls ⟨hF H H1 oq hW.1, hP1⟩ (hS.put z oq (hA p (List.getElem?_eq_some_iff.mp hL).1)) hl
set_option maxHeartbeats 4000000 in
set_option maxRecDepth 100000 in
theorem ct_L_house {G : Gx} {l0 : Launch} {K V : Nat → Nat} {A : Nat → Prop} {b b3 bk dr it : Nat} {R3 : MR} {I3 : MI} (hst : l0.stackTraces = false) (hA : ∀ k, k < Lc.length → A (b + k)) (hA3 : A (b3 + 0)) (hb3 : ∀ k, k < Lc.length → b + k ≠ b3 + 0) (hbk : isBk bk = true) (I : MI) (J J3 : MJ) (a1 a2 : Int32) : ∀ a, f_L_house bk I J3 a1 a2 = some a → Met l0 yL_house (Cond.codeWith yL_house cL_house 5 (some .int) [(0, 10, 13, 13), (0, 10, 17, 15)] :: UW) { frames := 7, cells := 1, slots := 6, locals := 112 } (PvE G K V A [.ref (b + 0), .int a1, .int a2, .ref (b3 + 0)] (fun H => Rg G b Lc (Rc b bk dr it) I J H ∧ Rg G b3 [.inr (1, 1)] R3 I3 J3 H)) (Qv A (ii1 (fun J3' => (fun H => Rg G b Lc (Rc b bk dr it) I J H ∧ Rg G b3 [.inr (1, 1)] R3 I3 J3' H)) a)) 1 6 A := by
  intro a ha
  refine va_MetW (cc := cL_house) (maxL := 5) (ret := some .int) rfl rfl ?_
  intro p e s m args below meth c s₁ B hml hv
  obtain ⟨⟨rfl, hW, hK, hNW⟩, hE⟩ := hv
  have hts := atoms_spec (ws := Cond.codeWith yL_house cL_house 5 (some .int) [(0, 10, 13, 13), (0, 10, 17, 15)] :: UW) B.pre
  have htab := vx_table (x := yL_house) B (hts _ List.mem_cons_self)
  have hown : s.vm.findClass yL_house.cls = some m.cls := findClass_of_methodNamed B.named
  have hl := lv_entry [.ref (b + 0), .int a1, .int a2, .ref (b3 + 0)] (n := 5) (Nat.le_of_ble_eq_true rfl)
  rw [lg_entry_eq]
  have hok : Ok G l0 (p, l0, e, { frames := 7, cells := 1, slots := 6, locals := 112 }, s, m, [.ref (b + 0), .int a1, .int a2, .ref (b3 + 0)].toArray, below, meth, c) RL cL_house 5 { frames := 7, cells := 1, slots := 6, locals := 112 } (some .int) := ⟨B.exec, B.bytes, hml, hown, fun w hw => hts w (List.mem_cons_of_mem _ hw), hK, B.notSynchronized, rfl, B.returns, rfl, hNW⟩
  have hEX : OkE K V A (p, l0, e, { frames := 7, cells := 1, slots := 6, locals := 112 }, s, m, [.ref (b + 0), .int a1, .int a2, .ref (b3 + 0)].toArray, below, meth, c) := hE
  have key : T (p, l0, e, { frames := 7, cells := 1, slots := 6, locals := 112 }, s, m, [.ref (b + 0), .int a1, .int a2, .ref (b3 + 0)].toArray, below, meth, c) A (Zm (p, l0, e, { frames := 7, cells := 1, slots := 6, locals := 112 }, s, m, [.ref (b + 0), .int a1, .int a2, .ref (b3 + 0)].toArray, below, meth, c) A (ii1 (fun J3' => (fun H => Rg G b Lc (Rc b bk dr it) I J H ∧ Rg G b3 [.inr (1, 1)] R3 I3 J3' H)))) 5 0 0 0 [(0, .ref (b + 0)), (1, .int a1), (2, .int a2), (3, .ref (b3 + 0))] [] (fun H => Rg G b Lc (Rc b bk dr it) I J H ∧ Rg G b3 [.inr (1, 1)] R3 I3 J3 H) (f_L_house bk I J3 a1 a2) := by
    have hA30 : ∀ k, k < ([.inr (1, 1)] : List Kd).length → A (b3 + k) := fun k hk => by
      have hk0 : k = 0 := by simpa using hk
      rw [hk0]
      exact hA3
    refine T_aload_n hok 3 rfl rfl dL_house_0 ?_
    refine T_iconst hok ic_0 dL_house_1 ?_
    refine T_aload_n hok 0 rfl rfl dL_house_2 ?_
    refine T_iload_n hok 1 rfl rfl dL_house_3 ?_
    refine T_iload_n hok 2 rfl rfl dL_house_4 ?_
    refine T_callX (A1 := fun q => ∃ k, k < Lc.length ∧ q = b + k) (fun q hq => by obtain ⟨k, hk, rfl⟩ := hq; exact hA k hk) (F := fun H => Rg G b3 [.inr (1, 1)] R3 I3 J3 H) (rest := [.int 0, .ref (b3 + 0)]) hok hEX (ct_X10_house (dr := dr) (it := it) hst (fun k hk => ⟨k, hk, rfl⟩) hbk I J a1 a2) mw_X10_house mv_X10_house ml_L_7 lc_0 dL_house_5 rfl rfl (roomOk rfl) rfl ?_ ?_ ?_ ?_
    · intro H H' _ hk hF
      refine Rg_frame ?_ hk hF
      rintro p hp ⟨k, hk1, hk2⟩
      have hp0 : p = 0 := by simpa using hp
      subst hp0
      exact hb3 k hk1 hk2.symm
    · intro r v w ho hi
      cases r with
      | inr k => simp [ixh] at hi
      | inl v' =>
        simp only [ixh, Sum.inl.injEq, Prod.mk.injEq, Option.some.injEq, Value.int.injEq] at hi
        obtain ⟨rfl, rfl⟩ := hi
        refine T_i2l hok dL_house_8 ?_
        refine T_lastF (L := [.inr (1, 1)]) (F := fun H => Rg G b Lc (Rc b bk dr it) I J H) hok hA30 ?_ rfl dL_house_9 ?_
        · intro H H' hq hF
          exact Rg_frame (A1 := fun q => q = b3 + 0) (fun p hp => hb3 p hp) (fun q _ hn => hq q hn) hF
        · intro J4
          refine T_goto (tgt := 21) hok dL_house_10 rfl ?_
          refine T_iconst hok ic_0 dL_house_21 ?_
          exact T_iret hok dL_house_22 (by decide) (by decide) rfl
    · intro r v w ho hi
      cases r with
      | inr k => simp [ixh] at hi
      | inl v' =>
        simp only [ixh, Sum.inl.injEq, Prod.mk.injEq] at hi
        exact ⟨v', hi.1.symm⟩
    · intro r E w ho hi
      cases r with
      | inl v' => simp [ixh] at hi
      | inr k =>
        simp only [ixh, Sum.inr.injEq, Prod.mk.injEq] at hi
        obtain ⟨rfl, rfl⟩ := hi
        by_cases hk : k = 1
        · subst hk
          rw [show (if (1 : Nat) = 1 then E1 else E2) = E1 from rfl]
          refine ⟨13, fun q9 => ?_, RL, E1, [], [⟨0, 10, 17, 15⟩], ⟨0, 10, 13, 13⟩, rfl, ⟨htab, (fun z hz => by cases hz), hts _ (List.mem_cons_of_mem _ cl_L_13), va_Nw.use (w := .castable E1 E1) rfl (hE.2.2.2.2.2.2.1 _ (by decide +kernel))⟩, rfl, by decide, rfl⟩
          show T _ A _ 5 1 6 13 _ [.ref q9] _ (some (1, J3))
          refine T_astore (lv' := [(4, .ref q9), (0, .ref (b + 0)), (1, .int a1), (2, .int a2), (3, .ref (b3 + 0))]) hok (by decide) rfl dL_house_13 ?_
          refine T_iconst hok ic_1 dL_house_15 ?_
          exact T_iret hok dL_house_16 (by decide) (by decide) rfl
        · rw [if_neg hk]
          refine ⟨17, fun q9 => ?_, RL, E2, [⟨0, 10, 13, 13⟩], [], ⟨0, 10, 17, 15⟩, rfl, ⟨htab, fun z hz => ?_, hts _ (List.mem_cons_of_mem _ cl_L_15), va_Nw.use (w := .castable E2 E2) rfl (hE.2.2.2.2.2.2.1 _ (by decide +kernel))⟩, rfl, by decide, rfl⟩
          · show T _ A _ 5 1 6 17 _ [.ref q9] _ (some (if k = 1 then 1 else 2, J3))
            rw [if_neg hk]
            refine T_astore (lv' := [(4, .ref q9), (0, .ref (b + 0)), (1, .int a1), (2, .int a2), (3, .ref (b3 + 0))]) hok (by decide) rfl dL_house_17 ?_
            refine T_iconst hok ic_2 dL_house_19 ?_
            exact T_iret hok dL_house_20 (by decide) (by decide) rfl
          · rw [List.mem_singleton.mp hz]
            exact Or.inr ⟨by decide, E1, hts _ (List.mem_cons_of_mem _ cl_L_13), hE.2.2.2.2.2.2.2⟩
  exact key a ha s.heap [] _ hW va_S.rf hl
