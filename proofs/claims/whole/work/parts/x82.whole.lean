/-! THE CLAIM OUT OF ONE WALK OF THE LAW'S BODY. Your part is whole_start (and what it stands on); all else here is the same for every law, but numbers. -/
def R_law : String := "SunBillsLaw"
def lw_P (b : Addr) (xs : List Int32) (args : Array Value) (s : State) : Prop := args = #[.ref b] ∧ s.IntsAt b xs ∧ xs.length ≤ 3072 ∧ (Jvm.Cond.and given_1 narrow_1).before args s = true
def lw_Q (_ : Array Value) (s : State) (o : Outcome) (t : State) : Prop := o = .returned (some (.int 1)) ∧ Framed s o t [] 1150 15786
def lw_Z (below : List Frame) (a : Array Value) (s : State) : State → Prop := fun t => ∃ o, t.status = .running ∧ Ended t below o ∧ lw_Q a s o t
/-- the law's own end, with 1 on the stack, nothing written that was there before, its room as the claim has it -/
theorem lw_ret {p : Program} {l : Launch} {e : Env} {s : State} {m : MethodId} {below : List Frame} {meth : Method} {c : Code} {b : Nat} (hx : p.tables.exec = Jvm.exec) (hb : c.code = code) (hr : meth.sig.returnType = ret) (hlocks : meth.locks = false) {pc : Nat} {H : Heap} {ls : Array Slot} (hdg : decode code pc = .ok (.ireturn, 1)) : W p l e room_1 s m #[Value.ref b] below meth c H [] 1150 15786 (lw_Z below #[Value.ref b] s) (F0 m pc ls [.int 1]) := by
  intro T hT X
  obtain ⟨fs, hret, hrun, hended, hW, hframe⟩ := X.leave (v := some (.int 1)) (hlocks := hlocks) (fun h => by rw [hr] at h; cases h)
  have hmeth' : T.vm.method? m = some meth := X.method'
  refine ⟨T.setFrames fs, ?_, .returned (some (.int 1)), hrun, hended, rfl, ⟨_, rfl⟩, hW, hframe⟩
  jvm_step X.here [X.here.top, hx, hb, hdg, hmeth', hr, ret, narrow_b1]
  (try refine ⟨rfl, ?_⟩); (try refine ⟨rfl, ?_⟩)
  first | (intro acts; rw [hret _ acts rfl rfl rfl]) | rw [hret _ _ rfl rfl rfl]
  exact Steps.refl _
/-- what holds at the law's entry: the machine, the code, the tables' words (any of lw_tbl by 'hts w (by decide +kernel)'), the script of L ints xs at the cell b, what the Statement gives of the start (any of its parts by flat_of_before) -/
def lw_At (p : Program) (s : State) (m : MethodId) (meth : Method) (c : Code) (b L : Nat) (xs : Nat → Int32) : Prop :=
  p.tables.exec = Jvm.exec ∧ c.code = code ∧ meth.sig.returnType = ret ∧ c.maxLocals = 7 ∧ s.vm.findClass R_law = some m.cls ∧ (∀ w ∈ lw_tbl, w.before #[Value.ref b] s = true) ∧ va_X b L xs s s.heap ∧ b < s.heap.size ∧ meth.locks = false ∧ (Jvm.Cond.and given_1 narrow_1).before #[Value.ref b] s = true
def tmS : Nat → Term := fun i => match i with
  | 0 => .string "SunBills$Tokens" 17
  | 1 => .string "SunBills" 128
  | _ => .string "SunBills" 158
def nrw : List Cond := flatC (Jvm.Cond.and given_1 narrow_1)
theorem nr_ex : ∀ i, i < 3 → Cond.exactly (tmS i) "java/lang/String" ∈ nrw := by decide +kernel
theorem nr_co : ∀ i, i < 3 → Cond.eq (.field (tmS i) "java/lang/String" "coder" "B") (.int 0) ∈ nrw := by decide +kernel
theorem nr_ar : ∀ i, i < 3 → Cond.arrayOf (.field (tmS i) "java/lang/String" "value" "[B") .byte ∈ nrw := by decide +kernel
theorem nr_le : ∀ i, i < 3 → Cond.eq (.length (.field (tmS i) "java/lang/String" "value" "[B")) (.int (Int32.ofNat (lenS.getD i 0))) ∈ nrw := by decide +kernel
theorem nr_el : ∀ i, i < 3 → ∀ j, j < lenS.getD i 0 → Cond.eq (.elem (.field (tmS i) "java/lang/String" "value" "[B") (.int (Int32.ofNat j))) (.int ((bytS.getD i []).getD j 0)) ∈ nrw := by decide +kernel
theorem nr_ne : ∀ i, i < 3 → ∀ j, j < 3 → i ≠ j → (Cond.not (Cond.eq (tmS i) (tmS j)) ∈ nrw ∨ Cond.not (Cond.eq (tmS j) (tmS i)) ∈ nrw) := by decide +kernel
theorem nr_cs : Cond.eq (.static "java/lang/String" "COMPACT_STRINGS" "Z") (.int 1) ∈ nrw := by decide +kernel
theorem nr_si : Cond.isRef (.static "jdk/internal/util/Preconditions" "SIOOBE_FORMATTER" "Ljava/util/function/BiFunction;") ∈ nrw := by decide +kernel
theorem nr_us : Cond.isRef (.static Bundle.tN "UNASSIGNED_STACK" Bundle.steD) ∈ nrw := by decide +kernel
theorem nr_ss : Cond.isRef (.static Bundle.tN "SUPPRESSED_SENTINEL" Bundle.listD) ∈ nrw := by decide +kernel
theorem nr_nc : Cond.not (.castable E2 E1) ∈ nrw := by decide +kernel
theorem tb_e : ∀ w ∈ ([.stringRef RX7 17 tx0, .stringRef RX10 128 "no such house", .stringRef RX10 158 "no such what", .laysStatic "java/lang/String" "COMPACT_STRINGS" "Z", .initialized "java/lang/String", .laysStatic "jdk/internal/util/Preconditions" "SIOOBE_FORMATTER" "Ljava/util/function/BiFunction;", .initialized "jdk/internal/util/Preconditions", .laysStatic Bundle.tN "UNASSIGNED_STACK" Bundle.steD, .laysStatic Bundle.tN "SUPPRESSED_SENTINEL" Bundle.listD, .initialized Bundle.tN] ++ EWl : List Cond), w ∈ lw_tbl := by decide +kernel
theorem ev_start {s : State} {args : Array Value} {A : Nat → Prop} (hts : ∀ w ∈ lw_tbl, w.before args s = true) (hs : ∀ w ∈ nrw, w.before args s = true) (hA : ∀ a : Nat, a < s.heap.size → ¬ A a) : ∃ K V, EV K V A s s.heap := by
  obtain ⟨K, V, hS, hev⟩ := vk_Sof (N := 3) (tm := tmS) (len := lenS) (byt := bytS) (A := A) (args := args) (s := s) (by decide) (fun i hi => hs _ (nr_ex i hi)) (fun i hi => hs _ (nr_co i hi)) (fun i hi => hs _ (nr_ar i hi)) (fun i hi => hs _ (nr_le i hi)) (fun i hi j hj => hs _ (nr_el i hi j hj)) (fun i j hi hj hij => (nr_ne i hi j hj hij).elim (fun h => Or.inl (hs _ h)) (fun h => Or.inr (hs _ h))) hA
  have ht : ∀ w : Cond, w ∈ ([.stringRef RX7 17 tx0, .stringRef RX10 128 "no such house", .stringRef RX10 158 "no such what", .laysStatic "java/lang/String" "COMPACT_STRINGS" "Z", .initialized "java/lang/String", .laysStatic "jdk/internal/util/Preconditions" "SIOOBE_FORMATTER" "Ljava/util/function/BiFunction;", .initialized "jdk/internal/util/Preconditions", .laysStatic Bundle.tN "UNASSIGNED_STACK" Bundle.steD, .laysStatic Bundle.tN "SUPPRESSED_SENTINEL" Bundle.listD, .initialized Bundle.tN] ++ EWl : List Cond) → w.before args s = true := fun w hw => hts w (tb_e w hw)
  refine ⟨K, V, ⟨vk_R.of (A := args) (ht (.stringRef RX7 17 tx0) (by simp)) (hev 0 (by decide)), vk_R.of (A := args) (ht (.stringRef RX10 128 "no such house") (by simp)) (hev 1 (by decide)), vk_R.of (A := args) (ht (.stringRef RX10 158 "no such what") (by simp)) (hev 2 (by decide))⟩, hS, va_Zof (args := args) (ht (.laysStatic "java/lang/String" "COMPACT_STRINGS" "Z") (by simp)) (ht (.initialized "java/lang/String") (by simp)) (va_eqt (hs _ nr_cs)) hA, va_Zqof (args := args) (ht (.laysStatic "jdk/internal/util/Preconditions" "SIOOBE_FORMATTER" "Ljava/util/function/BiFunction;") (by simp)) (ht (.initialized "jdk/internal/util/Preconditions") (by simp)) (hs _ nr_si) hA, vx_Zqof (args := args) (ht (.laysStatic Bundle.tN "UNASSIGNED_STACK" Bundle.steD) (by simp)) (ht (.initialized Bundle.tN) (by simp)) (hs _ nr_us) hA, vx_Zqof (args := args) (ht (.laysStatic Bundle.tN "SUPPRESSED_SENTINEL" Bundle.listD) (by simp)) (ht (.initialized Bundle.tN) (by simp)) (hs _ nr_ss) hA, fun w hw => va_Nw.of (ew_on w hw) (ht w (List.mem_append_right _ hw)), va_Nc.of (hs _ nr_nc)⟩
theorem szmono {H H' : Heap} (h : ∀ q, q < H.size → H'[q]? = H[q]?) : H.size ≤ H'.size := by
  by_cases h0 : H.size = 0
  · omega
  · have h1 := h (H.size - 1) (by omega)
    have h2 : H[H.size - 1]? = some (H[H.size - 1]'(by omega)) := Array.getElem?_eq_getElem (by omega)
    rw [h2] at h1
    have := (Array.getElem?_eq_some_iff.mp h1).1
    omega
theorem Rt_null {b : Nat} {tab : List (List Nat)} (h : ∀ r ∈ tab, r = []) : Rt b tab = fun _ _ => .null := by
  funext p k
  have : tab.getD p [] = [] := by
    simp only [List.getD]
    cases hp : tab[p]? with
    | none => rfl
    | some r => exact h r (List.mem_of_getElem? hp)
  simp only [Rt, this]
  rfl
theorem K_start {s : State} {args : Array Value} (hts : ∀ w ∈ UW, w.before args s = true) : ∃ G : Gx, va_K G.1 cls12 (tys4 G.2) s := by
  have hc : ∀ k : Nat, ∃ z : ClassId × (Nat → Nat), ∀ q, cls12[k]? = some q → u_Kn s q.1 q.2.1 q.2.2 z.1 z.2 := by
    intro k
    cases hq : cls12[k]? with
    | none => exact ⟨(0, fun _ => 0), fun q h => by cases h⟩
    | some q =>
      have hin : Cond.instantiable q.1 q.2.2 ∈ UW := by
        have hall : cls12.all (fun q => decide (Cond.instantiable q.1 q.2.2 ∈ lw_tbl) && goodWord (Cond.instantiable q.1 q.2.2)) = true := by decide +kernel
        have h1 := List.all_eq_true.mp hall q (List.mem_of_getElem? hq)
        simp only [Bool.and_eq_true, decide_eq_true_eq] at h1
        exact uw_in h1.1 h1.2
      obtain ⟨cC, iS, h⟩ := u_known (C := q.1) (T := q.2.1) (N := q.2.2) (n := q.2.2) hts (cls_in hq) (hts _ hin)
      exact ⟨(cC, iS), fun q' h' => by cases h'; exact h⟩
  have ha : ∀ ty : FieldType, Cond.arrayClass ty ∈ UW → (∀ s' : State, ∀ cA, va_RA s' cA ty = (s'.vm.findClass ("[" ++ ty.toString) = some cA)) → ∃ cA : ClassId, ArrOfT s cA ty ∧ va_RA s cA ty := by
    intro ty hty hra
    obtain ⟨cA, kA, comp, h1, h2, h3⟩ := Cond.arrayClass_spec (hts _ hty)
    exact ⟨cA, fun n z => ⟨fun k h => (by cases h), kA, h2, comp, h3⟩, by rw [hra]; exact h1⟩
  obtain ⟨z, hz⟩ := Classical.axiomOfChoice hc
  obtain ⟨a0, h0⟩ := ha .int ac_int (fun _ _ => rfl)
  obtain ⟨a1, h1⟩ := ha .long ac_long (fun _ _ => rfl)
  obtain ⟨a2, h2⟩ := ha .byte ac_byte (fun _ _ => rfl)
  obtain ⟨a3, h3⟩ := ha .boolean ac_boolean (fun _ _ => rfl)
  refine ⟨((fun k => (z k).1, fun k => (z k).2), fun k => if k = 0 then a0 else if k = 1 then a1 else if k = 2 then a2 else a3), fun k q hq => hz k q hq, fun k q hq => ?_⟩
  match k, hq with
  | 0, hq => cases hq; exact h0
  | 1, hq => cases hq; exact h1
  | 2, hq => cases hq; exact h2
  | 3, hq => cases hq; exact h3
  | k + 4, hq => simp [tys4] at hq
theorem cl_L_8 : Cond.classLink RL 8 RX10 ∈ UW := uw_in (tin_1 (List.mem_of_getElem? (i := 24) (by decide +kernel))) (by decide +kernel)
theorem cl_L_18 : Cond.classLink RL 18 RX11 ∈ UW := uw_in (tin_6 (List.mem_of_getElem? (i := 66) (by decide +kernel))) (by decide +kernel)
theorem ml_L_17 : Cond.methodLink RL 17 yX10_init ∈ UW := uw_in (tin_1 (List.mem_of_getElem? (i := 26) (by decide +kernel))) (by decide +kernel)
theorem ml_L_20 : Cond.methodLink RL 20 yX11_init ∈ UW := uw_in (tin_6 (List.mem_of_getElem? (i := 68) (by decide +kernel))) (by decide +kernel)
set_option maxHeartbeats 4000000 in
set_option maxRecDepth 100000 in
theorem law_all {G : Gx} {l0 : Launch} {K V : Nat → Nat} {A : Nat → Prop} {X : Cx} {b sb N : Nat} {xs : Nat → Int32} {Zl : Cx → Unit → State → Prop} (hst : l0.stackTraces = false) (hok : Ok G l0 X RL cL_law 7 room_1 (some .boolean)) (hE : OkE K V A X) (hX : OkS X A sb N xs) (hZ : OkZ X b) (hAA : ∀ q, b ≤ q → A q)
    (hend : ∀ (kc ks pc : Nat) (lv : List (Nat × Value)) (Wd : Heap → Prop), kc ≤ 1150 → ks ≤ 15786 → decode cL_law pc = .ok (.ireturn, 1) → T X A (Zl X) 7 kc ks pc lv [.int 1] Wd (some ())) : T X A (Zl X) 7 0 0 0 [(0, .ref sb)] [] (fun H => b ≤ H.size) (f_whole N xs) := by
  delta f_whole
  refine T_newF (b := b) (ci := 10) (kc' := 1) (ks' := 14) hok hZ (fun H H' hq h => Nat.le_trans h (szmono hq)) (fun H h => h) rfl rfl (by decide) rfl rfl cl_L_8 ins_X10 ini_X10 (by decide) (by decide) dL_law_0 ?_
  refine T_dup hok rfl dL_law_3 ?_
  refine T_wd (Wd' := fun H => (Rg G b (Lc.take 1) (Rt b [[], [], [], [], [], [], [], [], [], [], [], [], [], [], [], [], [], [], [], [], [], [], [], [], [], [], [], [], [], [], [], [], [], [], [], [], [], [], [], [], [], [], [], [], [], [], [], [], [], [], [], [], [], [], [], [], [], [], [], [], [], [], [], [], [], [], [], [], [], [], [], [], [], [], [], [], [], [], [], []]) (fun _ _ => 0) (fun _ _ => 0) H ∧ H.size = b + 1) ∧ b ≤ H.size) (fun H h => by rw [Rt_null (by decide)]; exact h) ?_
  refine T_fv2 (A1 := A) (F := fun H => b ≤ H.size) (rest := [.ref (b + 0)]) (kc' := 80) (ks' := 1873) (fun q h => h) (fun H H' hs _ h => Nat.le_trans h hs) (CRF_IE hok hE (ct_X10_init_0 (fun k => hAA _ (by omega)) _ _) mw_X10_init mi_X10_init rfl ml_L_17 dL_law_4 rfl rfl (roomOk rfl) rfl) rfl rfl ?_
  intro I J
  refine T_astore_n (lv' := [(1, .ref (b + 0)), (0, .ref sb)]) hok rfl (by decide) rfl dL_law_7 ?_
  refine T_wd (Wd' := fun H => Rg G b Lc (Rc b 2 18 18) I J H) (fun H h => h.1) ?_
  refine T_newF (b := b + 80) (ci := 11) (kc' := 81) (ks' := 1953) (F := fun H => Rg G b Lc (Rc b 2 18 18) I J H) hok hZ (fun H H' hq h => Rg_frame (A1 := fun _ => False) (fun _ _ z => z) (fun q h1 _ => hq q h1) h) (fun H h => by have h1 := Rg_lt h (p := 79) (by decide); omega) rfl rfl (by decide) rfl rfl cl_L_18 ins_X11 ini_X11 (by decide) (by decide) dL_law_8 ?_
  refine T_dup hok rfl dL_law_11 ?_
  refine T_wd (Wd' := fun H => (Rg G (b + 80) (Lm.take 1) (Rt (b + 80) [[]]) (fun _ _ => 0) (fun _ _ => 0) H ∧ H.size = b + 80 + 1) ∧ Rg G b Lc (Rc b 2 18 18) I J H) (fun H h => by rw [Rt_null (by decide)]; exact h) ?_
  refine T_fv2 (A1 := fun q => b + 80 ≤ q) (F := fun H => Rg G b Lc (Rc b 2 18 18) I J H) (rest := [.ref (b + 80 + 0)]) (kc' := 123) (ks' := 7581) (fun q h => hAA q (by omega)) (fun H H' _ hk h => Rg_frame (fun p hp hq => by have : Lc.length = 80 := rfl; omega) hk h) (CRF_I hok (ct_X11_init_0 (b := b + 80) (A := fun q => b + 80 ≤ q) (fun k => by show b + 80 ≤ b + 80 + k; omega) _ _) mw_X11_init mi_X11_init rfl ml_L_20 dL_law_12 rfl rfl (roomOk rfl) rfl) rfl rfl ?_
  intro I2 J2
  refine T_astore_n (lv' := [(2, .ref (b + 80 + 0)), (1, .ref (b + 0)), (0, .ref sb)]) hok rfl (by decide) rfl dL_law_15 ?_
  refine T_iconst hok ic_1 dL_law_16 ?_
  refine T_newJF (b := b + 123) (N := 1) (x := 1) (kc' := 124) (ks' := 7582) (F := fun H => Rg G (b + 80) Lm (Rm (b + 80)) I2 J2 H ∧ Rg G b Lc (Rc b 2 18 18) I J H) hok hZ (fun H H' hq h => ⟨Rg_frame (A1 := fun _ => False) (fun _ _ z => z) (fun q h1 _ => hq q h1) h.1, Rg_frame (A1 := fun _ => False) (fun _ _ z => z) (fun q h1 _ => hq q h1) h.2⟩) (fun H h => by have h1 := Rg_lt h.1 (p := 42) (by decide); omega) rfl rfl rfl ac_long (by decide) (by decide) (by decide) (by decide) (by decide) dL_law_17 ?_
  refine T_astore_n (lv' := [(3, .ref (b + 123 + 0)), (2, .ref (b + 80 + 0)), (1, .ref (b + 0)), (0, .ref sb)]) hok rfl (by decide) rfl dL_law_19 ?_
  refine T_iconst hok ic_0 dL_law_20 ?_
  refine T_istore (lv' := [(4, .int 0), (3, .ref (b + 123 + 0)), (2, .ref (b + 80 + 0)), (1, .ref (b + 0)), (0, .ref sb)]) hok (by decide) rfl dL_law_21 ?_
  refine T_sub (lv' := [(0, .ref sb), (1, .ref (b + 0)), (2, .ref (b + 80 + 0)), (3, .ref (b + 123 + 0)), (4, .int 0)]) [4, 3, 2, 1, 0] rfl ?_
  refine T_wd (Wd' := fun H => Rg G b Lc (Rc b 2 18 18) I J H ∧ (Rg G (b + 80) Lm (Rm (b + 80)) I2 J2 H ∧ Rg G (b + 123) [.inr (1, 1)] (fun _ _ => .null) (fun _ _ => 0) (fun _ _ => 0) H)) (fun H h => ⟨h.2.2, h.2.1, h.1⟩) ?_
  refine T_widen (kc' := 1150 - 1 * 513) (ks' := 15786 - 6 * 513) (by decide) (by decide) ?_
  exact T_fixW (f_law N xs) (fun x4 bk dr it I J I2 J2 J3 => [(0, .ref sb), (1, .ref (b + 0)), (2, .ref (b + 80 + 0)), (3, .ref (b + 123 + 0)), (4, .int x4)]) (fun x4 bk dr it I J I2 J2 J3 => fun H => Rg G b Lc (Rc b bk dr it) I J H ∧ (Rg G (b + 80) Lm (Rm (b + 80)) I2 J2 H ∧ Rg G (b + 123) [.inr (1, 1)] (fun _ _ => .null) (fun _ _ => 0) J3 H)) 1 6 1150 15786 513 (fun n hn rec hrec x4 bk dr it I J I2 J2 J3 => law_step hst hok hE hX hAA hn hend rec hrec x4 bk dr it I J I2 J2 J3) 513 (Nat.le_refl _) 0 2 18 18 I J I2 J2 (fun _ _ => 0)
theorem whole_start {p : Program} {e : Env} {s : State} {m : MethodId} {below : List Frame} {meth : Method} {c : Code} (l : Launch) (hst : l.stackTraces = false) {b L : Nat} {xs : Nat → Int32} (hL : L ≤ 3072) (C0 : lw_At p s m meth c b L xs) : W p l e room_1 s m #[Value.ref b] below meth c s.heap [] 0 0 (lw_Z below #[Value.ref b] s) (entryFrame m ([Value.ref b] : List Value).toArray 7) := by
  obtain ⟨hx, hb, hr, hml, hown, hts, hX, hbl, hlocks, hgv⟩ := id C0
  have htU : ∀ w ∈ UW, w.before #[Value.ref b] s = true := fun w hw => hts w (List.mem_filter.mp hw).1
  obtain ⟨G, hK⟩ := K_start htU
  obtain ⟨K, V, hE⟩ := ev_start (A := fun q => s.heap.size ≤ q) hts (flat_of_before _ hgv) (fun a ha => by show ¬ s.heap.size ≤ a; omega)
  have hok : Ok G l (p, l, e, room_1, s, m, #[Value.ref b], below, meth, c) RL cL_law 7 room_1 (some .boolean) := ⟨hx, hb, hml, hown, htU, hK, hlocks, rfl, hr, rfl, fun w hw => va_Nw.of (nw_on w hw) (hts w (nw_tbl w hw))⟩
  have hl := lv_entry [Value.ref b] (n := 7) (Nat.le_of_ble_eq_true rfl)
  rw [lg_entry_eq]
  refine law_all (A := fun q => s.heap.size ≤ q) (Zl := fun X _ => lw_Z below #[Value.ref b] s) (b := s.heap.size) (sb := b) (N := L) (xs := xs) hst hok hE ⟨hX, hbl, by show ¬ s.heap.size ≤ b; omega⟩ rfl (fun q h => h) ?_ () (pure_law L xs hL) s.heap [] _ (Nat.le_refl _) va_S.rf hl
  intro kc ks pc lv Wd hkc hks hd a' ha H locs ls hW hS hl
  refine W.widen hkc hks ?_
  refine va_forget (fun q hq => hS.2.2 q hq) ?_
  exact lw_ret hx hb hr hlocks hd
set_option maxHeartbeats 4000000 in
theorem lw_walk (l : Launch) (hst : l.stackTraces = false) (b : Addr) (xs : List Int32) : MetFree l x (headSpec (Jvm.Cond.code x code maxLocals ret :: tables_1) room_1) (lw_P b xs) (fun _ _ _ _ _ => True) lw_Q := by
  refine MetFree.of_bodyS (code := code) (maxLocals := maxLocals) (ret := ret) (by decide) ?_ ?_
  · intro args s m h hn
    obtain ⟨meth, c, h1, h2, h3, h4, h5, h6, -, -⟩ := Cond.code_spec hn (atoms_spec (ws := Jvm.Cond.code x code maxLocals ret :: tables_1) h _ List.mem_cons_self)
    exact ⟨meth, c, h1, h2, h3, h4, h5, h6⟩
  · intro p e s m args below meth c s₁ B hml0 hP _
    obtain ⟨rfl, hx, hbd, hgv⟩ := hP
    obtain ⟨scr, harrAt, hlist, hof, hsmall⟩ := hx
    obtain ⟨hcb, hkn, -, -⟩ := State.arrayAt?_spec harrAt
    have hown : s.vm.findClass R_law = some m.cls := findClass_of_methodNamed B.named
    have hts0 : ∀ c ∈ (Jvm.Cond.code x code maxLocals ret :: tables_1), c.before #[Value.ref b] s = true := atoms_spec (ws := Jvm.Cond.code x code maxLocals ret :: tables_1) B.pre
    have hts : ∀ w ∈ lw_tbl, w.before #[Value.ref b] s = true := k2_hts_sels lw_privs (fun w hw => hts0 w (List.mem_cons_of_mem _ hw)) lw_privs_ok
    have hml : c.maxLocals = 7 := B.maxLocals_eq (hts0 _ List.mem_cons_self)
    have X₀ : Stand p l e room_1 s m #[Value.ref b] below meth c s₁ [] 0 0 := Stand.of_body B
    have hh0 : s₁.heap = s.heap := by rw [B.state]; rfl
    have hsz : scr.slots.size = xs.length := by rw [← Array.length_toList, hlist, List.length_map]
    have hval : ∀ j : Nat, j < xs.length → scr.slots[j]? = some (.int (xs.getD j 0)) := fun j hj => by
      rw [← Array.getElem?_toList, hlist]
      simp [hj]
    have hbl : b < s.heap.size := (Array.getElem?_eq_some_iff.mp hcb).1
    have hX : va_X b xs.length (fun j => xs.getD j 0) s s.heap := ⟨scr, hcb, hof, hkn, hsz, hval⟩
    have K : W p l e room_1 s m #[Value.ref b] below meth c s₁.heap [] 0 0 (lw_Z below #[Value.ref b] s) (entryFrame m ([Value.ref b] : List Value).toArray 7) := by
      rw [hh0]
      exact whole_start l hst hbd ⟨B.exec, B.bytes, B.returns, hml, hown, hts, hX, hbl, B.notSynchronized, hgv⟩
    obtain ⟨t, a1, o, b1, b2, b3⟩ := K s₁ rfl X₀
    exact ⟨t, o, a1, b1, b2, b3⟩
theorem lw_pre_spec {args : Array Value} {s : State} (h : (Jvm.Cond.and given_1 narrow_1).before args s = true) (hr : rest_1_c.before args s = true) : ∃ (b : Addr) (xs : List Int32), lw_P b xs args s := by
  have hs := flat_of_before _ h
  have hq := flat_of_before _ hr
  have hc : (Cond.count 1).before args s = true := hs _ (by decide +kernel)
  have harr : (Cond.arrayOf (.arg 0) .int).before args s = true := hs _ (by decide +kernel)
  have hle : (Cond.le (.length (.arg 0)) (.int 3072)).before args s = true := hs _ (by decide +kernel)
  have hlen : (Cond.isInt (.length (.arg 0))).before args s = true := hq _ (by decide +kernel)
  have hall : (Cond.all (.arg 0) (.isInt (.elem (.arg 0) (.index 0)))).before args s = true := hq _ (by decide +kernel)
  obtain ⟨b, xs, hb, hx⟩ := State.ints_of_pre rfl harr hlen hall
  have hsm : xs.length < 2 ^ 31 := hx.choose_spec.2.2.2
  have hev : (Term.length (.arg 0)).eval args s none [] s = some (.int xs.length.toInt32) := hx.length_eval hb
  have hv := Cond.le_ints hev (show (Term.int 3072).eval args s none [] s = some (.int 3072) from rfl)
  have hd : xs.length.toInt32 ≤ 3072 := by
    simpa [Cond.before, Cond.holds, hv] using hle
  have hN : xs.length ≤ 3072 := (Int32.ofNat_le_ofNat hsm (by decide)).mp (show Int32.ofNat xs.length ≤ Int32.ofNat 3072 from hd)
  exact ⟨b, xs, Cond.one_arg hc (show args[0]? = some (.ref b) from hb), hx, hN, h⟩
theorem lw_comes (l : Launch) (hst : l.stackTraces = false) : Comes l x (Jvm.Cond.code x code maxLocals ret :: tables_1) room_1 (fun tb e args s => Calls_1 tb e args s ∧ rest_1 tb e args s ∧ Pre_1 tb e args s)
    (fun _ _ args s o t => lw_Q args s o t) := by
  intro p e ha hc hk s m args below hf hfit hheap happ hpre
  obtain ⟨b, xs, hP⟩ := lw_pre_spec hpre.2.2 hpre.2.1
  obtain ⟨k, o, h1, h2, h3, hQ⟩ := lw_walk l hst b xs p e ha hc hk s m args below hf ((Spec.applies_iff_loose hf).mp happ).1 hP trivial
  exact ⟨k, o, h1, h2, h3, hQ⟩
theorem lw_frame {s t : State} {o : Outcome} {args : Array Value} (h : Framed s o t [] 1150 15786) :
    Framed s o t (fieldLocs frame_1_writes args s ++ arrayLocs frame_1_arrays args s ++ staticLocs frame_1_statics s) 1150 15786 := h
theorem lw_limb (L : Cond) (hL : ∀ (args : Array Value) (s t : State), L.after args s (.returned (some (.int 1))) t = true) :
    ArmFor flags0 classFile x code maxLocals ret World_1 tables_1 room_1 Calls_1 rest_1 Pre_1
      (fun tb e a s o t => postC L tb e a s o t ∧ Framed s o t (fieldLocs frame_1_writes a s ++ arrayLocs frame_1_arrays a s ++ staticLocs frame_1_statics s) 1150 15786) := by
  intro l hfl _ _ p e ha hc hk s m args below hf hfit hheap happ hpre
  obtain ⟨k, o, h1, h2, h3, rfl, hF⟩ := lw_comes l (by unfold Launch.stackTraces; rw [hfl]; decide +kernel) p e ha hc hk s m args below hf hfit hheap happ hpre
  exact ⟨k, _, h1, h2, h3, hL args s _, lw_frame hF⟩
theorem i_vc : Claimed_1_1 ∧ Claimed_1_2 := ⟨lw_limb limb_1_1 (fun args s t => by simp [limb_1_1, Cond.after, Cond.holds, Cond.value]), lw_limb limb_1_2 (fun args s t => Cond.after_iff.mpr (by
  first | (rw [show limb_1_2 = Cond.eq .result (.int 1) from rfl, Cond.eq_ints (x := 1) (y := 1) rfl rfl]; simp; done) | (simp [limb_1_2, Cond.value, Term.eval]; done)))⟩

