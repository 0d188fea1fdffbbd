/-! String constants and statics of the JDK, which nobody writes -/
def E1 : String := "java/lang/IndexOutOfBoundsException"
def E2 : String := "java/util/NoSuchElementException"
def inS (C : String) : MethodName := ⟨C, "<init>", "(Ljava/lang/String;)V"⟩
def EWl : List Cond := [.castable E1 E1, .castable E2 E2, .declares (inS "java/lang/RuntimeException"), .declares (inS "java/lang/Exception"), .declares (inS "java/lang/Throwable")]
theorem ew_warm {s U : State} (hW : s.WarmedH U.vm) (h : ∀ w ∈ EWl, va_Nw w s) : ∀ w ∈ EWl, va_Nw w U := by
  intro w hw
  have h1 := h w hw
  simp only [EWl, List.mem_cons, List.not_mem_nil, or_false] at hw
  rcases hw with rfl | rfl | rfl | rfl | rfl
  · exact va_Nw.warmC hW h1
  · exact va_Nw.warmC hW h1
  · exact va_Nw.warmD hW h1
  · exact va_Nw.warmD hW h1
  · exact va_Nw.warmD hW h1
theorem ew_on : ∀ w ∈ EWl, w.onTables = true := by decide +kernel
def tx0 : String := "kind  house day   work  term  seed  law   look  use   price or    and   not   worth eager purse bill  used  weightdate  "
def EV (K V : Nat → Nat) (A : Nat → Prop) (U : State) (H : Heap) : Prop :=
  (vk_R RX7 17 tx0 (K 0) U ∧ vk_R RX10 128 "no such house" (K 1) U ∧ vk_R RX10 158 "no such what" (K 2) U) ∧ vk_S 3 lenS bytS K V A U H ∧ va_Z "java/lang/String" "COMPACT_STRINGS" "Z" (.int 1) A U H ∧ va_Zq "jdk/internal/util/Preconditions" "SIOOBE_FORMATTER" "Ljava/util/function/BiFunction;" A U H ∧ vx_Zq Bundle.tN "UNASSIGNED_STACK" Bundle.steD A U H ∧ vx_Zq Bundle.tN "SUPPRESSED_SENTINEL" Bundle.listD A U H ∧ (∀ w ∈ EWl, va_Nw w U) ∧ va_Nc E2 E1 U
theorem EV.to {K V : Nat → Nat} {A : Nat → Prop} {s U : State} {H : Heap} {locs : List Loc} (h : EV K V A s s.heap) (hS : va_S A s.heap H locs) (hW : s.WarmedH U.vm) : EV K V A U H :=
  ⟨⟨vk_R.warm hW h.1.1, vk_R.warm hW h.1.2.1, vk_R.warm hW h.1.2.2⟩, (h.2.1.kept hS.2.1).moved hW.alike, va_Z.moved hW.alike (va_Z.kept h.2.2.1 hS.2.1), va_Zq.moved hW.alike (va_Zq.kept h.2.2.2.1 hS.2.1), vx_Zq.moved hW.alike (vx_Zq.kept h.2.2.2.2.1 hS.2.1), vx_Zq.moved hW.alike (vx_Zq.kept h.2.2.2.2.2.1 hS.2.1), ew_warm hW h.2.2.2.2.2.2.1, va_Nc.moved hW.alike h.2.2.2.2.2.2.2⟩
theorem EV.same {K V : Nat → Nat} {A : Nat → Prop} {s U : State} {H : Heap} (hv : U.vm = s.vm) (h : EV K V A s H) : EV K V A U H := by
  have ha : s.vm.Alike U.vm := by rw [hv]; exact Vm.Alike.refl _
  exact ⟨⟨vk_R.same hv h.1.1, vk_R.same hv h.1.2.1, vk_R.same hv h.1.2.2⟩, h.2.1.moved ha, va_Z.moved ha h.2.2.1, va_Zq.moved ha h.2.2.2.1, vx_Zq.moved ha h.2.2.2.2.1, vx_Zq.moved ha h.2.2.2.2.2.1, fun w hw => va_Nw.same (ew_on w hw) hv.symm (h.2.2.2.2.2.2.1 w hw), va_Nc.moved ha h.2.2.2.2.2.2.2⟩
def OkE (K V : Nat → Nat) (A : Nat → Prop) (X : Cx) : Prop := match X with
  | (_, _, _, _, s, _, _, _, _, _) => EV K V A s s.heap
def PvE (G : Gx) (K V : Nat → Nat) (A : Nat → Prop) (As : List Value) (Wd : Heap → Prop) : Array Value → State → Prop := fun v U => Pv G As Wd v U ∧ EV K V A U U.heap
theorem PvE_blind {G : Gx} {K V : Nat → Nat} {A : Nat → Prop} {As : List Value} {Wd : Heap → Prop} : FrameBlind (PvE G K V A As Wd) := fun a U g mk q => ⟨Pv_blind a U g mk q.1, EV.same (s := U) (U := U.calling g mk a) rfl q.2⟩
def CtE (G : Gx) (l : Launch) (K V : Nat → Nat) (A : Nat → Prop) (y : MethodName) (cc : ByteArray) (nL : Nat) (ret : Option FieldType) (rm : Room) (As : List Value) (Wd : Heap → Prop) {α : Type} (ι : α → Option Value × (Heap → Prop)) (o : Option α) : Prop :=
  ∀ a, o = some a → Met l y (Cond.code y cc nL ret :: UW) rm (PvE G K V A As Wd) (Qv A (ι a)) rm.cells rm.slots A
theorem CtE.of {G : Gx} {l : Launch} {K V : Nat → Nat} {A : Nat → Prop} {y : MethodName} {cc : ByteArray} {nL : Nat} {ret : Option FieldType} {rm : Room} {As : List Value} {Wd : Heap → Prop} {α : Type} {ι : α → Option Value × (Heap → Prop)} {o : Option α}
    (hy : plainName y.cls = true) (hn : (lg_sl As).length ≤ nL)
    (h : ∀ X : Cx, Ok G l X y.cls cc nL rm ret → OkE K V A X → T X A (Zm X A ι) nL 0 0 0 (lv_args 0 As) [] Wd o) : CtE G l K V A y cc nL ret rm As Wd ι o := by
  intro a ha
  refine Met.ofW (cc := cc) (maxL := nL) (ret := ret) hy rfl ?_
  intro p e s m args below meth c s₁ B hml hv
  obtain ⟨⟨rfl, hW, hK, hNW⟩, hE⟩ := hv
  have hts := atoms_spec (ws := Cond.code y cc nL ret :: UW) B.pre
  have hown : s.vm.findClass y.cls = some m.cls := findClass_of_methodNamed B.named
  have hl := lv_entry As (n := nL) hn
  rw [lg_entry_eq]
  exact h (p, l, e, rm, s, m, As.toArray, below, meth, c) ⟨B.exec, B.bytes, hml, hown, fun w hw => hts w (List.mem_cons_of_mem _ hw), hK, B.notSynchronized, rfl, B.returns, rfl, hNW⟩ hE a ha s.heap [] _ hW va_S.rf hl
theorem CtE.ofN {G : Gx} {l : Launch} {K V : Nat → Nat} {A : Nat → Prop} {y : MethodName} {cc : ByteArray} {nL : Nat} {ret : Option FieldType} {rm : Room} {As : List Value} {Wd : Heap → Prop} {sz : Nat} {α : Type} {ι : α → Option Value × (Heap → Prop)} {o : Option α}
    (hy : plainName y.cls = true) (hyn : y.name = "<init>") (hn : (lg_sl As).length ≤ nL)
    (h : ∀ X : Cx, Ok G l X y.cls cc nL rm ret → OkI X sz → OkE K V A X → T X A (Zm X A ι) nL 0 0 0 (lv_args 0 As) [] Wd o) : CtE G l K V A y cc nL ret rm As (fun H => Wd H ∧ H.size = sz) ι o := by
  intro a ha
  refine Met.ofW (cc := cc) (maxL := nL) (ret := ret) hy rfl ?_
  intro p e s m args below meth c s₁ B hml hv
  obtain ⟨⟨rfl, ⟨hW, hsz⟩, hK, hNW⟩, hE⟩ := hv
  have hts := atoms_spec (ws := Cond.code y cc nL ret :: UW) B.pre
  have hown : s.vm.findClass y.cls = some m.cls := findClass_of_methodNamed B.named
  have hin : meth.name = "<init>" := ((name_of_methodNamed B.named B.method).1).trans hyn
  have hl := lv_entry As (n := nL) hn
  rw [lg_entry_eq]
  exact h (p, l, e, rm, s, m, As.toArray, below, meth, c) ⟨B.exec, B.bytes, hml, hown, fun w hw => hts w (List.mem_cons_of_mem _ hw), hK, B.notSynchronized, rfl, B.returns, rfl, hNW⟩ ⟨hsz, hin⟩ hE a ha s.heap [] _ hW va_S.rf hl
section ENV
variable {G : Gx} {l0 : Launch} {K V : Nat → Nat} {X : Cx} {own : String} {cc : ByteArray} {nL : Nat} {R0 : Room} {ret : Option FieldType} {A : Nat → Prop} {α : Type} {Z : α → State → Prop} {kc ks pc : Nat} {lv : List (Nat × Value)} {st rest : List Value} {o : Option α} {b p ci k idx n : Nat} {L : List Kd} {R : MR} {I : MI} {J : MJ} {sz : Nat} {Wd : Heap → Prop}
theorem T_ldcS (h : Ok G l0 X own cc nL R0 ret) (hE : OkE K V A X) {tx : String} {q : Nat} (hq : ∀ s H, EV K V A s H → vk_R own idx tx q s) (hd : decode cc pc = .ok (.ldc idx, 2)) (kk : T X A Z nL kc ks (pc + 2) lv (.ref q :: st) Wd o) : T X A Z nL kc ks pc lv st Wd o := by
  obtain ⟨p0, l, e, Rm, s, m, args, below, meth, c⟩ := X
  obtain ⟨h1, h2, h3, h4, h5, h6, h7, rfl, h9, h10, h11⟩ := h
  intro a ha H locs ls hW hS hl
  exact va_ldcS h1 h2 h4 (hq s _ hE) hd (kk a ha H locs ls hW hS hl)
theorem T_gets (h : Ok G l0 X own cc nL R0 ret) (hE : OkE K V A X) {C nm d : String} {v : Value} (hZ : ∀ s H, EV K V A s H → va_Z C nm d v A s H) (hlk : Cond.fieldLink own idx C nm d ∈ UW) (hd : decode cc pc = .ok (.getstatic idx, 3)) (kk : T X A Z nL kc ks (pc + 3) lv (v :: st) Wd o) : T X A Z nL kc ks pc lv st Wd o := by
  obtain ⟨p0, l, e, Rm, s, m, args, below, meth, c⟩ := X
  obtain ⟨h1, h2, h3, h4, h5, h6, h7, rfl, h9, h10, h11⟩ := h
  intro a ha H locs ls hW hS hl
  exact va_gets h1 h2 (hZ s _ hE) hS h4 (h5 _ hlk) (fun _ z => z) hd (kk a ha H locs ls hW hS hl)
theorem T_getsq (h : Ok G l0 X own cc nL R0 ret) (hE : OkE K V A X) {C nm d : String} (hZ : ∀ s H, EV K V A s H → va_Zq C nm d A s H) (hlk : Cond.fieldLink own idx C nm d ∈ UW) (hd : decode cc pc = .ok (.getstatic idx, 3)) (kk : ∀ v : Value, (v = .null ∨ ∃ t, v = .ref t) → T X A Z nL kc ks (pc + 3) lv (v :: st) Wd o) : T X A Z nL kc ks pc lv st Wd o := by
  obtain ⟨p0, l, e, Rm, s, m, args, below, meth, c⟩ := X
  obtain ⟨h1, h2, h3, h4, h5, h6, h7, rfl, h9, h10, h11⟩ := h
  intro a ha H locs ls hW hS hl
  rcases hZ s _ hE with hz | ⟨t, hz⟩
  · exact va_gets h1 h2 hz hS h4 (h5 _ hlk) (fun _ z => z) hd (kk _ (Or.inl rfl) a ha H locs ls hW hS hl)
  · exact va_gets h1 h2 hz hS h4 (h5 _ hlk) (fun _ z => z) hd (kk _ (Or.inr ⟨t, rfl⟩) a ha H locs ls hW hS hl)
theorem T_sget (h : Ok G l0 X own cc nL R0 ret) (hE : OkE K V A X) {C nm d : String} {v : Value} {q : Nat} (hZ : ∀ s H, EV K V A s H → va_OF C nm d v q A s H) (hlk : Cond.fieldLink own idx C nm d ∈ UW) (hd : decode cc pc = .ok (.getfield idx, 3)) (kk : T X A Z nL kc ks (pc + 3) lv (v :: st) Wd o) : T X A Z nL kc ks pc lv (.ref q :: st) Wd o := by
  obtain ⟨p0, l, e, Rm, s, m, args, below, meth, c⟩ := X
  obtain ⟨h1, h2, h3, h4, h5, h6, h7, rfl, h9, h10, h11⟩ := h
  intro a ha H locs ls hW hS hl
  exact vk_getf h1 h2 (hZ s _ hE) hS h4 (h5 _ hlk) (fun _ z => z) hd (kk a ha H locs ls hW hS hl)
theorem T_slen (h : Ok G l0 X own cc nL R0 ret) (hE : OkE K V A X) {q N : Nat} {f : Nat → Value} {v : Int32} (hZ : ∀ s H, EV K V A s H → va_T .byte q N f A s H) (hv : Int32.ofNat N = v) (hd : decode cc pc = .ok (.arraylength, 1)) (kk : T X A Z nL kc ks (pc + 1) lv (.int v :: st) Wd o) : T X A Z nL kc ks pc lv (.ref q :: st) Wd o := by
  obtain ⟨p0, l, e, Rm, s, m, args, below, meth, c⟩ := X
  obtain ⟨h1, h2, h3, h4, h5, h6, h7, rfl, h9, h10, h11⟩ := h
  intro a ha H locs ls hW hS hl
  exact va_tlen h1 h2 (hZ s _ hE) hS hv hd (kk a ha H locs ls hW hS hl)
theorem T_sbald (h : Ok G l0 X own cc nL R0 ret) (hE : OkE K V A X) {q N : Nat} {f : Nat → Value} {i x : Int32} (hZ : ∀ s H, EV K V A s H → va_T .byte q N f A s H) (hv : f (ix i) = .int x) (hd : decode cc pc = .ok (.baload, 1)) (kk : T X A Z nL kc ks (pc + 1) lv (.int x :: st) Wd o) : T X A Z nL kc ks pc lv (.int i :: .ref q :: st) Wd (gd (inb i N) o) := by
  refine T_gdH fun hi => ?_
  obtain ⟨p0, l, e, Rm, s, m, args, below, meth, c⟩ := X
  obtain ⟨h1, h2, h3, h4, h5, h6, h7, rfl, h9, h10, h11⟩ := h
  intro a ha H locs ls hW hS hl
  exact va_tb h1 h2 (hZ s _ hE) hS (inb_in hi) hv hd (kk a ha H locs ls hW hS hl)
theorem T_i2c (h : Ok G l0 X own cc nL R0 ret) {x v : Int32} (hv : (x.toUInt32 % 65536).toInt32 = v) (hd : decode cc pc = .ok (.i2c, 1)) (kk : T X A Z nL kc ks (pc + 1) lv (.int v :: st) Wd o) : T X A Z nL kc ks pc lv (.int x :: st) Wd o := by
  obtain ⟨p0, l, e, Rm, s, m, args, below, meth, c⟩ := X
  intro a ha H locs ls hW hS hl
  exact lv_i2c h.1 h.2.1 hd hv (kk a ha H locs ls hW hS hl)
theorem T_nret {ty : FieldType} {v : Int32} {ι : α → Option Value × (Heap → Prop)} {a : α} (h : Ok G l0 X own cc nL R0 (some ty)) (hd : decode cc pc = .ok (.ireturn, 1)) (hc : kc ≤ R0.cells) (hs : ks ≤ R0.slots) (hv : narrow ty (.int v) = .int v) (hi : ι a = (some (.int v), Wd)) : T X A (Zm X A ι) nL kc ks pc lv [.int v] Wd (some a) := by
  obtain ⟨p, l, e, R, s, m, args, below, meth, c⟩ := X
  intro a' ha H locs ls hW hS hl
  cases ha
  obtain ⟨h1, h2, h3, h4, h5, h6, h7, rfl, h9, h10⟩ := h
  refine W.widen (k := R.cells) (n := R.slots) hc hs ?_
  exact W.zret h1 h2 h9 hv (fun t ht hWa => ⟨by rw [hi], by rw [hi, ht]; exact hW, hS.F ht⟩) hS.2.2 hd h7
variable {y : MethodName} {cc' : ByteArray} {nL' : Nat} {ret' : Option FieldType} {rm : Room} {As : List Value} {β : Type} {ι : β → Option Value × (Heap → Prop)} {o1 : Option β}
theorem CR_VE (h : Ok G l0 X own cc nL R0 ret) (hE : OkE K V A X) (hC : CtE G l0 K V A y cc' nL' ret' rm (.ref (K 0) :: As) Wd ι o1) (hy : y.cls = "java/lang/String") (hm : MWc y cc' nL' ret' n) (hi : Cond.instanceMethod y ∈ UW) (hsel : Cond.selects y.cls y y ∈ UW) (hlk : Cond.methodLink own idx y ∈ UW) (hd : decode cc pc = .ok (.invokevirtual idx, 3)) (hst : As.reverse ++ .ref (K 0) :: rest = st) (hn : As.length = n) (hR : RoomOk rm nL' R0 kc ks) (hrest : Nat.ble ((rest.map fun v => v.category).sum) 8 = true) : CR X A kc ks nL pc lv st rest rm Wd ι o1 := by
  obtain ⟨p0, l, e, Rm, s, m, args, below, meth, c⟩ := X
  obtain ⟨h1, h2, h3, h4, h5, h6, h7, rfl, h9, rfl, h11⟩ := h
  intro a ha H locs ls hW hS hl
  obtain ⟨m1, m2, m3⟩ := hm
  have hE : EV K V A s s.heap := hE
  have hrc := vk_recv (i := 0) hE.2.1 (by decide) hS
  rw [← hy] at hrc
  subst hst
  exact ⟨_, va_runV (As := As) (rest := rest) (C := y.cls) (b := K 0) ⟨h1, h2, h3, h4, h5⟩ (hC a ha) ⟨callB_of n h5 (goodUW m1) rfl rfl rfl (h5 _ m2) (h5 _ hlk) m3 hR.1, h5 _ hi, h5 _ hsel⟩ ⟨PvE_blind, hrc, fun U hU hWm => ⟨⟨rfl, by rw [hU]; exact hW, va_K.moved hWm.alike h6, nw_warm hWm h11⟩, by rw [hU]; exact hE.to hS hWm⟩⟩ rfl hn hl.1 rfl (lv_room (Nat.le_of_ble_eq_true hrest)) hd hR.2⟩
theorem CR_SE (h : Ok G l0 X own cc nL R0 ret) (hE : OkE K V A X) (hC : CtE G l0 K V A y cc' nL' ret' rm As Wd ι o1) (hm : MWc y cc' nL' ret' n) (hv : Cond.static y ∈ UW) (hlk : Cond.methodLink own idx y ∈ UW) (hd : decode cc pc = .ok (.invokestatic idx, 3)) (hst : As.reverse ++ rest = st) (hn : As.length = n) (hR : RoomOk rm nL' R0 kc ks) (hrest : Nat.ble ((rest.map fun v => v.category).sum) 8 = true) : CR X A kc ks nL pc lv st rest rm Wd ι o1 := by
  obtain ⟨p0, l, e, Rm, s, m, args, below, meth, c⟩ := X
  obtain ⟨h1, h2, h3, h4, h5, h6, h7, rfl, h9, rfl, h11⟩ := h
  intro a ha H locs ls hW hS hl
  obtain ⟨m1, m2, m3⟩ := hm
  have hE : EV K V A s s.heap := hE
  subst hst
  exact ⟨_, va_runS (As := As) (rest := rest) ⟨h1, h2, h3, h4, h5⟩ (hC a ha) ⟨callB_of n h5 (goodUW m1) rfl rfl rfl (h5 _ m2) (h5 _ hlk) m3 hR.1, h5 _ hv⟩ ⟨PvE_blind, fun U hU hWm => ⟨⟨rfl, by rw [hU]; exact hW, va_K.moved hWm.alike h6, nw_warm hWm h11⟩, by rw [hU]; exact hE.to hS hWm⟩⟩ rfl hn hl.1 rfl (lv_room (Nat.le_of_ble_eq_true hrest)) hd hR.2⟩
theorem CR_INE (h : Ok G l0 X own cc nL R0 ret) (hI : OkI X sz) (hE : OkE K V A X) {host : String} {sz' : Nat} (hC : CtE G l0 K V A y cc' nL' none rm (.ref (b + p) :: As) (fun H => Rg G b L R I J H ∧ H.size = sz') ι o1) (hm : MWc y cc' nL' none n) (hv : Cond.instanceMethod y ∈ UW) (hyn : y.name = "<init>") (hlk : Cond.methodLinkNest own idx y host ∈ NWl) (hN : b + L.length = sz') (hn1 : sz + kc = b + L.length) (h0 : L.length = 0 → kc = 0) (hd : decode cc pc = .ok (.invokespecial idx, 3)) (hst : As.reverse ++ .ref (b + p) :: rest = st) (hn : As.length = n) (hR : RoomOk rm nL' R0 kc ks) (hrest : Nat.ble ((rest.map fun v => v.category).sum) 8 = true) : CR X A kc ks nL pc lv st rest rm (Rg G b L R I J) ι o1 := by
  obtain ⟨p0, l, e, Rm, s, m, args, below, meth, c⟩ := X
  obtain ⟨h1, h2, h3, h4, h5, h6, h7, rfl, h9, rfl, h11⟩ := h
  obtain ⟨i1, i2⟩ := hI
  intro a ha H locs ls hW hS hl
  obtain ⟨m1, m2, m3⟩ := hm
  have hE : EV K V A s s.heap := hE
  subst hst
  refine ⟨(Value.ref (b + p) :: As).toArray, fun T0 hT X0 => ?_⟩
  have hz : H.size = b + L.length := sz_of X0 hT i1 hn1 h0 hW
  exact va_runIN (As := As) (rest := rest) (b := b + p) ⟨h1, h2, h3, h4, h5⟩ (hC a ha) ⟨va_cnB n h5 (goodUW m1) rfl rfl rfl (h11 _ hlk) (h5 _ m2) m3 hR.1, hyn, h5 _ hv⟩ ⟨PvE_blind, fun U hU hWm => ⟨⟨rfl, by rw [hU]; exact ⟨hW, hz.trans hN⟩, va_K.moved hWm.alike h6, nw_warm hWm h11⟩, by rw [hU]; exact hE.to hS hWm⟩⟩ rfl hn hl.1 rfl (lv_room (Nat.le_of_ble_eq_true hrest)) hd hR.2 T0 hT X0
theorem CR_IE (h : Ok G l0 X own cc nL R0 ret) (hI : OkI X sz) (hE : OkE K V A X) {sz' : Nat} (hC : CtE G l0 K V A y cc' nL' none rm (.ref (b + p) :: As) (fun H => Rg G b L R I J H ∧ H.size = sz') ι o1) (hm : MWc y cc' nL' none n) (hv : Cond.instanceMethod y ∈ UW) (hyn : y.name = "<init>") (hlk : Cond.methodLink own idx y ∈ UW) (hN : b + L.length = sz') (hn1 : sz + kc = b + L.length) (h0 : L.length = 0 → kc = 0) (hd : decode cc pc = .ok (.invokespecial idx, 3)) (hst : As.reverse ++ .ref (b + p) :: rest = st) (hn : As.length = n) (hR : RoomOk rm nL' R0 kc ks) (hrest : Nat.ble ((rest.map fun v => v.category).sum) 8 = true) : CR X A kc ks nL pc lv st rest rm (Rg G b L R I J) ι o1 := by
  obtain ⟨p0, l, e, Rm, s, m, args, below, meth, c⟩ := X
  obtain ⟨h1, h2, h3, h4, h5, h6, h7, rfl, h9, rfl, h11⟩ := h
  obtain ⟨i1, i2⟩ := hI
  intro a ha H locs ls hW hS hl
  obtain ⟨m1, m2, m3⟩ := hm
  have hE : EV K V A s s.heap := hE
  subst hst
  refine ⟨(Value.ref (b + p) :: As).toArray, fun T0 hT X0 => ?_⟩
  have hz : H.size = b + L.length := sz_of X0 hT i1 hn1 h0 hW
  exact va_runI (As := As) (rest := rest) (b := b + p) ⟨h1, h2, h3, h4, h5⟩ (hC a ha) ⟨callB_of n h5 (goodUW m1) rfl rfl rfl (h5 _ m2) (h5 _ hlk) m3 hR.1, hyn, h5 _ hv⟩ ⟨PvE_blind, fun U hU hWm => ⟨⟨rfl, by rw [hU]; exact ⟨hW, hz.trans hN⟩, va_K.moved hWm.alike h6, nw_warm hWm h11⟩, by rw [hU]; exact hE.to hS hWm⟩⟩ rfl hn hl.1 rfl (lv_room (Nat.le_of_ble_eq_true hrest)) hd hR.2 T0 hT X0
end ENV
