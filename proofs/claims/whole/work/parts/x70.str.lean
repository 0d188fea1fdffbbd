/-! String.length and charAt of the words' text -/
theorem fj_comp : Cond.fieldLink RJ0 38 "java/lang/String" "COMPACT_STRINGS" "Z" ∈ UW := uw_in (tin_1 (List.mem_of_getElem? (i := 202) (by decide +kernel))) (by decide +kernel)
theorem fj_coder : Cond.fieldLink RJ0 15 "java/lang/String" "coder" "B" ∈ UW := uw_in (tin_9 (List.mem_of_getElem? (i := 125) (by decide +kernel))) (by decide +kernel)
theorem fj_value : Cond.fieldLink RJ0 9 "java/lang/String" "value" "[B" ∈ UW := uw_in (tin_9 (List.mem_of_getElem? (i := 124) (by decide +kernel))) (by decide +kernel)
theorem fj_si : Cond.fieldLink RJ0 1053 "jdk/internal/util/Preconditions" "SIOOBE_FORMATTER" "Ljava/util/function/BiFunction;" ∈ UW := uw_in (tin_1 (List.mem_of_getElem? (i := 218) (by decide +kernel))) (by decide +kernel)
theorem mw_J0_coder_7d493 : MWc yJ0_coder_7d493 cJ0_coder_7d493 1 (some .byte) 0 := ⟨uw_in (tin_1 (List.mem_of_getElem? (i := 201) rfl)) rfl, uw_in (tin_1 (List.mem_of_getElem? (i := 6) (by decide +kernel))) (by decide +kernel), by decide +kernel, by decide +kernel, by decide +kernel⟩
theorem mi_J0_coder_7d493 : Cond.instanceMethod yJ0_coder_7d493 ∈ UW := uw_in (tin_1 (List.mem_of_getElem? (i := 199) (by decide +kernel))) (by decide +kernel)
theorem ms_J0_coder_7d493 : Cond.selects yJ0_coder_7d493.cls yJ0_coder_7d493 yJ0_coder_7d493 ∈ UW := uw_in (tin_1 (List.mem_of_getElem? (i := 200) (by decide +kernel))) (by decide +kernel)
theorem mw_J0_isLatin1_aae02 : MWc yJ0_isLatin1_aae02 cJ0_isLatin1_aae02 1 (some .boolean) 0 := ⟨uw_in (tin_1 (List.mem_of_getElem? (i := 211) rfl)) rfl, uw_in (tin_1 (List.mem_of_getElem? (i := 6) (by decide +kernel))) (by decide +kernel), by decide +kernel, by decide +kernel, by decide +kernel⟩
theorem mi_J0_isLatin1_aae02 : Cond.instanceMethod yJ0_isLatin1_aae02 ∈ UW := uw_in (tin_1 (List.mem_of_getElem? (i := 209) (by decide +kernel))) (by decide +kernel)
theorem ms_J0_isLatin1_aae02 : Cond.selects yJ0_isLatin1_aae02.cls yJ0_isLatin1_aae02 yJ0_isLatin1_aae02 ∈ UW := uw_in (tin_1 (List.mem_of_getElem? (i := 210) (by decide +kernel))) (by decide +kernel)
theorem mw_J0_length_8abf5 : MWc yJ0_length_8abf5 cJ0_length_8abf5 1 (some .int) 0 := ⟨uw_in (tin_1 (List.mem_of_getElem? (i := 197) rfl)) rfl, uw_in (tin_1 (List.mem_of_getElem? (i := 6) (by decide +kernel))) (by decide +kernel), by decide +kernel, by decide +kernel, by decide +kernel⟩
theorem mi_J0_length_8abf5 : Cond.instanceMethod yJ0_length_8abf5 ∈ UW := uw_in (tin_1 (List.mem_of_getElem? (i := 195) (by decide +kernel))) (by decide +kernel)
theorem ms_J0_length_8abf5 : Cond.selects yJ0_length_8abf5.cls yJ0_length_8abf5 yJ0_length_8abf5 ∈ UW := uw_in (tin_1 (List.mem_of_getElem? (i := 196) (by decide +kernel))) (by decide +kernel)
theorem mw_J0_charAt_5068e : MWc yJ0_charAt_5068e cJ0_charAt_5068e 2 (some .char) 1 := ⟨uw_in (tin_1 (List.mem_of_getElem? (i := 207) rfl)) rfl, uw_in (tin_1 (List.mem_of_getElem? (i := 6) (by decide +kernel))) (by decide +kernel), by decide +kernel, by decide +kernel, by decide +kernel⟩
theorem mi_J0_charAt_5068e : Cond.instanceMethod yJ0_charAt_5068e ∈ UW := uw_in (tin_1 (List.mem_of_getElem? (i := 205) (by decide +kernel))) (by decide +kernel)
theorem ms_J0_charAt_5068e : Cond.selects yJ0_charAt_5068e.cls yJ0_charAt_5068e yJ0_charAt_5068e ∈ UW := uw_in (tin_1 (List.mem_of_getElem? (i := 206) (by decide +kernel))) (by decide +kernel)
theorem mw_J0_checkIndex_df160 : MWc yJ0_checkIndex_df160 cJ0_checkIndex_df160 2 none 2 := ⟨uw_in (tin_1 (List.mem_of_getElem? (i := 217) rfl)) rfl, uw_in (tin_1 (List.mem_of_getElem? (i := 6) (by decide +kernel))) (by decide +kernel), by decide +kernel, by decide +kernel, by decide +kernel⟩
theorem mst_J0_checkIndex_df160 : Cond.static yJ0_checkIndex_df160 ∈ UW := uw_in (tin_1 (List.mem_of_getElem? (i := 216) (by decide +kernel))) (by decide +kernel)
theorem mw_J1_charAt_3b067 : MWc yJ1_charAt_3b067 cJ1_charAt_3b067 2 (some .char) 2 := ⟨uw_in (tin_1 (List.mem_of_getElem? (i := 214) rfl)) rfl, uw_in (tin_1 (List.mem_of_getElem? (i := 7) (by decide +kernel))) (by decide +kernel), by decide +kernel, by decide +kernel, by decide +kernel⟩
theorem mst_J1_charAt_3b067 : Cond.static yJ1_charAt_3b067 ∈ UW := uw_in (tin_1 (List.mem_of_getElem? (i := 213) (by decide +kernel))) (by decide +kernel)
theorem mw_J3_checkIndex_8e157 : MWc yJ3_checkIndex_8e157 cJ3_checkIndex_8e157 3 (some .int) 3 := ⟨uw_in (tin_1 (List.mem_of_getElem? (i := 222) rfl)) rfl, uw_in (tin_1 (List.mem_of_getElem? (i := 8) (by decide +kernel))) (by decide +kernel), by decide +kernel, by decide +kernel, by decide +kernel⟩
theorem mst_J3_checkIndex_8e157 : Cond.static yJ3_checkIndex_8e157 ∈ UW := uw_in (tin_1 (List.mem_of_getElem? (i := 221) (by decide +kernel))) (by decide +kernel)
theorem mj_coder : Cond.methodLink RJ0 335 yJ0_coder_7d493 ∈ UW := uw_in (tin_1 (List.mem_of_getElem? (i := 198) (by decide +kernel))) (by decide +kernel)
theorem mj_il : Cond.methodLink RJ0 492 yJ0_isLatin1_aae02 ∈ UW := uw_in (tin_1 (List.mem_of_getElem? (i := 208) (by decide +kernel))) (by decide +kernel)
theorem mj_lc : Cond.methodLink RJ0 495 yJ1_charAt_3b067 ∈ UW := uw_in (tin_1 (List.mem_of_getElem? (i := 212) (by decide +kernel))) (by decide +kernel)
theorem mj_pc : Cond.methodLink RJ0 1059 yJ3_checkIndex_8e157 ∈ UW := uw_in (tin_1 (List.mem_of_getElem? (i := 220) (by decide +kernel))) (by decide +kernel)
theorem mj_ci : Cond.methodLink RJ1 9 yJ0_checkIndex_df160 ∈ UW := uw_in (tin_1 (List.mem_of_getElem? (i := 215) (by decide +kernel))) (by decide +kernel)
theorem mj_len : Cond.methodLink RX7 19 yJ0_length_8abf5 ∈ UW := uw_in (tin_1 (List.mem_of_getElem? (i := 194) (by decide +kernel))) (by decide +kernel)
theorem mj_at : Cond.methodLink RX7 25 yJ0_charAt_5068e ∈ UW := uw_in (tin_1 (List.mem_of_getElem? (i := 204) (by decide +kernel))) (by decide +kernel)
def iv0 (w : Heap → Prop) : Unit → Option Value × (Heap → Prop) := fun _ => (none, w)
section STR
variable {G : Gx} {l0 : Launch} {K V : Nat → Nat} {X : Cx} {own : String} {cc : ByteArray} {nL : Nat} {R0 : Room} {ret : Option FieldType} {A : Nat → Prop} {α : Type} {Z : α → State → Prop} {kc ks pc : Nat} {lv : List (Nat × Value)} {st rest : List Value} {o : Option α} {Wd : Heap → Prop}
theorem T_cv0 {rm : Room} {w : Heap → Prop} {o2 : Option Unit} {f : Unit → Option α} (hr : CR X A kc ks nL pc lv st rest rm Wd (iv0 w) o2) {kc' ks' : Nat} (hkc : kc + rm.cells = kc') (hks : ks + rm.slots = ks') (kk : T X A Z nL kc' ks' (pc + 3) lv rest w (f ())) : T X A Z nL kc ks pc lv st Wd (bd1 o2 f) := T_callG hr hkc hks (fun _ => kk)
theorem T_ifeqN (h : Ok G l0 X own cc nL R0 ret) {x : Int32} {off : Int} {tgt : Nat} (hx : ¬ x = 0) (hd : decode cc pc = .ok (.ifCond .eq off, 3)) (ht : (pc : Int) + off = (tgt : Int)) (kk : T X A Z nL kc ks (pc + 3) lv st Wd o) : T X A Z nL kc ks pc lv (.int x :: st) Wd o := by
  have h1 := T_if_eq (x := x) (o1 := none) h hd ht T_none kk
  rw [if_neg hx] at h1
  exact h1
theorem T_ifneN (h : Ok G l0 X own cc nL R0 ret) {x : Int32} {off : Int} {tgt : Nat} (hx : x = 0) (hd : decode cc pc = .ok (.ifCond .ne off, 3)) (ht : (pc : Int) + off = (tgt : Int)) (kk : T X A Z nL kc ks (pc + 3) lv st Wd o) : T X A Z nL kc ks pc lv (.int x :: st) Wd o := by
  have h1 := T_if_ne (x := x) (o1 := none) h hd ht kk T_none
  rw [if_pos hx] at h1
  exact h1
theorem T_popv (h : Ok G l0 X own cc nL R0 ret) {v : Int32} (hd : decode cc pc = .ok (.pop, 1)) (kk : T X A Z nL kc ks (pc + 1) lv st Wd o) : T X A Z nL kc ks pc lv (.int v :: st) Wd o := T_pop h rfl hd kk
theorem T_nretg {ty : FieldType} {v : Int32} {ι : α → Option Value × (Heap → Prop)} {a : α} (h : Ok G l0 X own cc nL R0 (some ty)) (hd : decode cc pc = .ok (.ireturn, 1)) (hc : kc ≤ R0.cells) (hs : ks ≤ R0.slots) (hi : ι a = (some (.int v), Wd)) : T X A (Zm X A ι) nL kc ks pc lv [.int v] Wd (gd (decide (narrow ty (.int v) = .int v)) (some a)) := T_gdH fun hg => T_nret h hd hc hs (of_decide_eq_true hg) hi
end STR
set_option maxRecDepth 100000 in
theorem ct_coder {G : Gx} {l0 : Launch} {K V : Nat → Nat} {A : Nat → Prop} {Wd : Heap → Prop} : CtE G l0 K V A yJ0_coder_7d493 cJ0_coder_7d493 1 (some .byte) { frames := 0, cells := 0, slots := 0, locals := 0 } [.ref (K 0)] Wd (ii0 Wd) (some (0 : Int32)) := by
  refine CtE.of rfl (Nat.le_of_ble_eq_true rfl) ?_
  intro X hok hE
  replace hok : Ok G l0 X RJ0 cJ0_coder_7d493 1 { frames := 0, cells := 0, slots := 0, locals := 0 } (some .byte) := hok
  show T X A (Zm X A (ii0 Wd)) 1 0 0 0 [(0, .ref (K 0))] [] Wd _
  refine T_gets hok hE (v := .int 1) (fun s H h => h.2.2.1) fj_comp dJ0_coder_7d493_0 ?_
  refine T_ifeqN (tgt := 13) hok (by decide) dJ0_coder_7d493_3 rfl ?_
  refine T_aload_n hok 0 rfl rfl dJ0_coder_7d493_6 ?_
  refine T_sget hok hE (v := .int 0) (fun s H h => (h.2.1.1 0 (by decide)).2.1) fj_coder dJ0_coder_7d493_7 ?_
  refine T_goto (tgt := 14) hok dJ0_coder_7d493_10 rfl ?_
  exact T_nret hok dJ0_coder_7d493_14 (Nat.zero_le _) (Nat.zero_le _) rfl rfl
set_option maxRecDepth 100000 in
theorem ct_isLatin1 {G : Gx} {l0 : Launch} {K V : Nat → Nat} {A : Nat → Prop} {Wd : Heap → Prop} : CtE G l0 K V A yJ0_isLatin1_aae02 cJ0_isLatin1_aae02 1 (some .boolean) { frames := 0, cells := 0, slots := 0, locals := 0 } [.ref (K 0)] Wd (iz0 Wd) (some true) := by
  refine CtE.of rfl (Nat.le_of_ble_eq_true rfl) ?_
  intro X hok hE
  replace hok : Ok G l0 X RJ0 cJ0_isLatin1_aae02 1 { frames := 0, cells := 0, slots := 0, locals := 0 } (some .boolean) := hok
  show T X A (Zm X A (iz0 Wd)) 1 0 0 0 [(0, .ref (K 0))] [] Wd _
  refine T_gets hok hE (v := .int 1) (fun s H h => h.2.2.1) fj_comp dJ0_isLatin1_aae02_0 ?_
  refine T_ifeqN (tgt := 17) hok (by decide) dJ0_isLatin1_aae02_3 rfl ?_
  refine T_aload_n hok 0 rfl rfl dJ0_isLatin1_aae02_6 ?_
  refine T_sget hok hE (v := .int 0) (fun s H h => (h.2.1.1 0 (by decide)).2.1) fj_coder dJ0_isLatin1_aae02_7 ?_
  refine T_ifneN (tgt := 17) hok rfl dJ0_isLatin1_aae02_10 rfl ?_
  refine T_iconst hok ic_1 dJ0_isLatin1_aae02_13 ?_
  refine T_goto (tgt := 18) hok dJ0_isLatin1_aae02_14 rfl ?_
  exact T_zret hok dJ0_isLatin1_aae02_18 (Nat.zero_le _) (Nat.zero_le _) rfl rfl
set_option maxRecDepth 100000 in
theorem ct_strLen {G : Gx} {l0 : Launch} {K V : Nat → Nat} {A : Nat → Prop} {Wd : Heap → Prop} : CtE G l0 K V A yJ0_length_8abf5 cJ0_length_8abf5 1 (some .int) { frames := 1, cells := 0, slots := 0, locals := 20 } [.ref (K 0)] Wd (ii0 Wd) (f_strLen) := by
  refine CtE.of rfl (Nat.le_of_ble_eq_true rfl) ?_
  intro X hok hE
  replace hok : Ok G l0 X RJ0 cJ0_length_8abf5 1 { frames := 1, cells := 0, slots := 0, locals := 20 } (some .int) := hok
  delta f_strLen
  show T X A (Zm X A (ii0 Wd)) 1 0 0 0 [(0, .ref (K 0))] [] Wd _
  refine T_aload_n hok 0 rfl rfl dJ0_length_8abf5_0 ?_
  refine T_sget hok hE (v := .ref (V 0)) (fun s H h => (h.2.1.1 0 (by decide)).2.2.1) fj_value dJ0_length_8abf5_1 ?_
  refine T_slen hok hE (v := 120) (fun s H h => (h.2.1.1 0 (by decide)).2.2.2) rfl dJ0_length_8abf5_4 ?_
  refine T_aload_n hok 0 rfl rfl dJ0_length_8abf5_5 ?_
  refine T_ci0 (CR_VE (rest := [.int 120]) hok hE ct_coder rfl mw_J0_coder_7d493 mi_J0_coder_7d493 ms_J0_coder_7d493 mj_coder dJ0_length_8abf5_6 rfl rfl (roomOk rfl) rfl) rfl rfl ?_
  intro v
  refine T_ishr hok dJ0_length_8abf5_9 ?_
  exact T_iret hok dJ0_length_8abf5_10 (Nat.zero_le _) (Nat.zero_le _) rfl
set_option maxRecDepth 100000 in
theorem ct_chk {G : Gx} {l0 : Launch} {A : Nat → Prop} {Wd : Heap → Prop} {v : Value} (hv : v = .null ∨ ∃ t, v = .ref t) (i n : Int32) : Ct G l0 A yJ3_checkIndex_8e157 cJ3_checkIndex_8e157 3 (some .int) { frames := 0, cells := 0, slots := 0, locals := 0 } [.int i, .int n, v] Wd (ii0 Wd) (f_chk i n) := by
  have key : ∀ w : Value, (lg_sl [.int i, .int n, w]).length = 3 → lv_args 0 [.int i, .int n, w] = [(0, .int i), (1, .int n), (2, w)] → Ct G l0 A yJ3_checkIndex_8e157 cJ3_checkIndex_8e157 3 (some .int) { frames := 0, cells := 0, slots := 0, locals := 0 } [.int i, .int n, w] Wd (ii0 Wd) (f_chk i n) := fun v h3 h4 => by
    refine Ct.of rfl (Nat.le_of_eq h3) ?_
    intro X hok
    replace hok : Ok G l0 X RJ3 cJ3_checkIndex_8e157 3 { frames := 0, cells := 0, slots := 0, locals := 0 } (some .int) := hok
    rw [h4]
    delta f_chk
    refine T_iload_n hok 0 rfl rfl dJ3_checkIndex_8e157_0 ?_
    refine T_if_lt (tgt := 9) hok dJ3_checkIndex_8e157_1 rfl T_none ?_
    refine T_iload_n hok 0 rfl rfl dJ3_checkIndex_8e157_4 ?_
    refine T_iload_n hok 1 rfl rfl dJ3_checkIndex_8e157_5 ?_
    refine T_icmp_lt (tgt := 16) hok dJ3_checkIndex_8e157_6 rfl ?_ T_none
    refine T_iload_n hok 0 rfl rfl dJ3_checkIndex_8e157_16 ?_
    exact T_iret hok dJ3_checkIndex_8e157_17 (Nat.zero_le _) (Nat.zero_le _) rfl
  rcases hv with rfl | ⟨t, rfl⟩
  · exact key _ rfl rfl
  · exact key _ rfl rfl
set_option maxRecDepth 100000 in
theorem ct_chk2 {G : Gx} {l0 : Launch} {K V : Nat → Nat} {A : Nat → Prop} {Wd : Heap → Prop} (i n : Int32) : CtE G l0 K V A yJ0_checkIndex_df160 cJ0_checkIndex_df160 2 none { frames := 1, cells := 0, slots := 0, locals := 22 } [.int i, .int n] Wd (iv0 Wd) (f_chk2 i n) := by
  refine CtE.of rfl (Nat.le_of_ble_eq_true rfl) ?_
  intro X hok hE
  replace hok : Ok G l0 X RJ0 cJ0_checkIndex_df160 2 { frames := 1, cells := 0, slots := 0, locals := 22 } none := hok
  delta f_chk2
  show T X A (Zm X A (iv0 Wd)) 2 0 0 0 [(0, .int i), (1, .int n)] [] Wd _
  refine T_iload_n hok 0 rfl rfl dJ0_checkIndex_df160_0 ?_
  refine T_iload_n hok 1 rfl rfl dJ0_checkIndex_df160_1 ?_
  refine T_getsq hok hE (fun s H h => h.2.2.2.1) fj_si dJ0_checkIndex_df160_2 ?_
  intro v hv
  refine T_ci0 (CR_S (rest := []) hok (ct_chk hv i n) mw_J3_checkIndex_8e157 mst_J3_checkIndex_8e157 mj_pc dJ0_checkIndex_df160_5 rfl rfl (roomOk rfl) rfl) rfl rfl ?_
  intro x
  refine T_popv hok dJ0_checkIndex_df160_8 ?_
  exact T_vret hok dJ0_checkIndex_df160_9 (Nat.zero_le _) (Nat.zero_le _) rfl
set_option maxRecDepth 100000 in
theorem ct_lat {G : Gx} {l0 : Launch} {K V : Nat → Nat} {A : Nat → Prop} {Wd : Heap → Prop} (i : Int32) : CtE G l0 K V A yJ1_charAt_3b067 cJ1_charAt_3b067 2 (some .char) { frames := 2, cells := 0, slots := 0, locals := 43 } [.ref (V 0), .int i] Wd (ii0 Wd) (f_lat i) := by
  refine CtE.of rfl (Nat.le_of_ble_eq_true rfl) ?_
  intro X hok hE
  replace hok : Ok G l0 X RJ1 cJ1_charAt_3b067 2 { frames := 2, cells := 0, slots := 0, locals := 43 } (some .char) := hok
  delta f_lat
  show T X A (Zm X A (ii0 Wd)) 2 0 0 0 [(0, .ref (V 0)), (1, .int i)] [] Wd _
  refine T_iload_n hok 1 rfl rfl dJ1_charAt_3b067_0 ?_
  refine T_aload_n hok 0 rfl rfl dJ1_charAt_3b067_1 ?_
  refine T_slen hok hE (v := 120) (fun s H h => (h.2.1.1 0 (by decide)).2.2.2) rfl dJ1_charAt_3b067_2 ?_
  refine T_cv0 (CR_SE (rest := []) hok hE (ct_chk2 i 120) mw_J0_checkIndex_df160 mst_J0_checkIndex_df160 mj_ci dJ1_charAt_3b067_3 rfl rfl (roomOk rfl) rfl) rfl rfl ?_
  refine T_aload_n hok 0 rfl rfl dJ1_charAt_3b067_6 ?_
  refine T_iload_n hok 1 rfl rfl dJ1_charAt_3b067_7 ?_
  refine T_sbald hok hE (N := 120) (x := wch i) (fun s H h => (h.2.1.1 0 (by decide)).2.2.2) rfl dJ1_charAt_3b067_8 ?_
  refine T_sipush hok sp_255 dJ1_charAt_3b067_9 ?_
  refine T_iand hok dJ1_charAt_3b067_12 ?_
  refine T_i2c hok rfl dJ1_charAt_3b067_13 ?_
  exact T_nret hok dJ1_charAt_3b067_14 (Nat.zero_le _) (Nat.zero_le _) (pk_nc _) rfl
set_option maxRecDepth 100000 in
theorem ct_strAt {G : Gx} {l0 : Launch} {K V : Nat → Nat} {A : Nat → Prop} {Wd : Heap → Prop} (i : Int32) : CtE G l0 K V A yJ0_charAt_5068e cJ0_charAt_5068e 2 (some .char) { frames := 3, cells := 0, slots := 0, locals := 64 } [.ref (K 0), .int i] Wd (ii0 Wd) (f_strAt i) := by
  refine CtE.of rfl (Nat.le_of_ble_eq_true rfl) ?_
  intro X hok hE
  replace hok : Ok G l0 X RJ0 cJ0_charAt_5068e 2 { frames := 3, cells := 0, slots := 0, locals := 64 } (some .char) := hok
  delta f_strAt
  show T X A (Zm X A (ii0 Wd)) 2 0 0 0 [(0, .ref (K 0)), (1, .int i)] [] Wd _
  refine T_aload_n hok 0 rfl rfl dJ0_charAt_5068e_0 ?_
  refine T_cz0 (CR_VE (rest := []) hok hE ct_isLatin1 rfl mw_J0_isLatin1_aae02 mi_J0_isLatin1_aae02 ms_J0_isLatin1_aae02 mj_il dJ0_charAt_5068e_1 rfl rfl (roomOk rfl) rfl) rfl rfl ?_
  intro r
  refine T_ifb_eq (tgt := 16) hok dJ0_charAt_5068e_4 rfl ?_ T_none
  refine T_aload_n hok 0 rfl rfl dJ0_charAt_5068e_7 ?_
  refine T_sget hok hE (v := .ref (V 0)) (fun s H h => (h.2.1.1 0 (by decide)).2.2.1) fj_value dJ0_charAt_5068e_8 ?_
  refine T_iload_n hok 1 rfl rfl dJ0_charAt_5068e_11 ?_
  refine T_ci0 (CR_SE (rest := []) hok hE (ct_lat i) mw_J1_charAt_3b067 mst_J1_charAt_3b067 mj_lc dJ0_charAt_5068e_12 rfl rfl (roomOk rfl) rfl) rfl rfl ?_
  intro v
  exact T_nretg hok dJ0_charAt_5068e_15 (Nat.zero_le _) (Nat.zero_le _) rfl
