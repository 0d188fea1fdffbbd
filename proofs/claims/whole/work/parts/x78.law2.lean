/-! the law's entry: two systems made one behind the other; calls beside other cells -/
def OkZ (X : Cx) (n : Nat) : Prop := match X with
  | (_, _, _, _, s, _, _, _, _, _) => s.heap.size = n
def Ar (b n : Nat) : Nat → Prop := fun q => b ≤ q ∧ q < b + n
section L2
variable {G : Gx} {l0 : Launch} {K V : Nat → Nat} {X : Cx} {own : String} {cc : ByteArray} {nL : Nat} {R0 : Room} {ret : Option FieldType} {A A1 : Nat → Prop} {α : Type} {Z : α → State → Prop} {kc ks pc : Nat} {lv : List (Nat × Value)} {st rest : List Value} {o : Option α} {b p ci idx n : Nat} {L L' : List Kd} {R : MR} {I : MI} {J : MJ} {sz : Nat} {Wd F : Heap → Prop}
variable {y : MethodName} {cc' : ByteArray} {nL' : Nat} {ret' : Option FieldType} {rm : Room} {As : List Value} {β : Type} {ι : β → Option Value × (Heap → Prop)} {o1 : Option β} {mc ms : Nat}
theorem T_newF (h : Ok G l0 X own cc nL R0 ret) (hI : OkZ X sz) {kc' ks' : Nat} {C : String} {T' : u_T} {N : Nat} (hF : ∀ H H' : Heap, (∀ q, q < H.size → H'[q]? = H[q]?) → F H → F H') (hb : ∀ H, F H → b ≤ H.size) (hc : cls12[ci]? = some (C, T', N)) (hn : sz + kc = b) (hok : ∀ k, k < N → okT (tyF ci k) = true) (hkc : kc + 1 = kc') (hks : ks + N = ks') (hcl : Cond.classLink own idx C ∈ UW) (hins : Cond.instantiable C N ∈ UW) (hini : Cond.initialized C ∈ UW) (hrc : kc' ≤ R0.cells) (hrs : ks' ≤ R0.slots) (hd : decode cc pc = .ok (.new idx, 3))
    (kk : T X A Z nL kc' ks' (pc + 3) lv (.ref (b + 0) :: st) (fun H => (Rg G b [.inl ci] (fun _ _ => .null) (fun _ _ => 0) (fun _ _ => 0) H ∧ H.size = b + 1) ∧ F H) o) : T X A Z nL kc ks pc lv st F o := by
  subst hkc
  subst hks
  obtain ⟨p0, l, e, Rm, s, m, args, below, meth, c⟩ := X
  obtain ⟨h1, h2, h3, h4, h5, h6, h7, rfl, h9, h10, h11⟩ := h
  have i1 : s.heap.size = sz := hI
  intro a ha H locs ls hW hS hl
  intro T0 hT X0
  have hz : H.size = b := by
    have q2 : (T0.setVm s.vm).heap.size ≤ s.heap.size + kc := X0.same.2.2.1
    have e1 : (T0.setVm s.vm).heap = H := hT
    rw [e1] at q2
    have := hb H hW
    omega
  have hKn := h6.1 ci _ hc
  refine W.newcK h1 h2 h4 (h5 _ hcl) (h5 _ hins) (h5 _ hini) (g := F0 m pc ls st) rfl hd hrc hrs hKn.2.1 hz (fun H1 kC hkC e1 z1 o1 => ?_) T0 hT X0
  refine kk a ha H1 locs ls ⟨⟨?_, z1⟩, hF H H1 (fun q hq => o1 q (by omega)) hW⟩ ⟨Nat.le_trans hS.1 (by omega), fun x q1 q2 => (o1 x (by have := hS.1; omega)).trans (hS.2.1 x q1 q2), hS.2.2⟩ hl
  intro k q hq
  have hz1 : k < 1 := (List.getElem?_eq_some_iff.mp hq).1
  rw [show k = 0 by omega] at hq
  cases hq
  refine ⟨_, hc, (u_born (tyF ci) h5 (cls_in hc) hKn hkC e1 (cls_ty hc)).to (fun j hj => ?_)⟩
  have hj : j < N := hj
  have hj2 : j < nF ci := by rw [nF_of hc]; exact hj
  simp only [vp_V, List.getD, flds_get hj2, Option.getD_some]
  exact (fv_dflt (hok j hj)).symm
theorem T_newJF (h : Ok G l0 X own cc nL R0 ret) (hI : OkZ X sz) {kc' ks' N : Nat} (hF : ∀ H H' : Heap, (∀ q, q < H.size → H'[q]? = H[q]?) → F H → F H') (hb : ∀ H, F H → b ≤ H.size) (hn : sz + kc = b) (hkc : kc + 1 = kc') (hks : ks + N = ks') (hcl : Cond.arrayClass .long ∈ UW) (hrc : kc' ≤ R0.cells) (hrs : ks' ≤ R0.slots) {x : Int32} (hx : ¬ x < 0) (hxn : x.toNatClampNeg = N) (hby : N * componentBytes .long ≤ 536870912) (hd : decode cc pc = .ok (.newarray .long, 2))
    (kk : T X A Z nL kc' ks' (pc + 2) lv (.ref (b + 0) :: st) (fun H => Rg G b [.inr (1, N)] (fun _ _ => .null) (fun _ _ => 0) (fun _ _ => 0) H ∧ F H) o) : T X A Z nL kc ks pc lv (.int x :: st) F o := by
  subst hkc
  subst hks
  obtain ⟨p0, l, e, Rm, s, m, args, below, meth, c⟩ := X
  obtain ⟨h1, h2, h3, h4, h5, h6, h7, rfl, h9, h10, h11⟩ := h
  have i1 : s.heap.size = sz := hI
  intro a ha H locs ls hW hS hl
  intro T0 hT X0
  have hz : H.size = b := by
    have q2 : (T0.setVm s.vm).heap.size ≤ s.heap.size + kc := X0.same.2.2.1
    have e1 : (T0.setVm s.vm).heap = H := hT
    rw [e1] at q2
    have := hb H hW
    omega
  refine va_newaK (atype := .long) h1 h2 (h5 _ hcl) (g := F0 m pc ls (.int x :: st)) rfl hd rfl hx hxn hby hrc hrs hz (fun H1 cA e1 z1 o1 hAr hNm => ?_) T0 hT X0
  have hcA : cA = G.2 1 := arr_id (t := 1) (ty := .long) h6 rfl rfl hNm
  subst hcA
  refine kk a ha H1 locs ls ⟨?_, hF H H1 (fun q hq => o1 q (by omega)) hW⟩ ⟨Nat.le_trans hS.1 (by omega), fun x q1 q2 => (o1 x (by have := hS.1; omega)).trans (hS.2.1 x q1 q2), hS.2.2⟩ hl
  intro k q hq
  have hz1 : k < 1 := (List.getElem?_eq_some_iff.mp hq).1
  rw [show k = 0 by omega] at hq
  cases hq
  show H1[b + 0]? = some (vp_cell (G.2 1) (arC 1 N (fun _ => 0) (fun _ => 0)))
  rw [show b + 0 = b from rfl, e1]
  rfl
theorem CRF_I (h : Ok G l0 X own cc nL R0 ret) (hC : Ct G l0 A1 y cc' nL' none rm (.ref (b + p) :: As) Wd ι o1) (hm : MWc y cc' nL' none n) (hv : Cond.instanceMethod y ∈ UW) (hyn : y.name = "<init>") (hlk : Cond.methodLink own idx y ∈ UW) (hd : decode cc pc = .ok (.invokespecial idx, 3)) (hst : As.reverse ++ .ref (b + p) :: rest = st) (hn : As.length = n) (hR : RoomOk rm nL' R0 kc ks) (hrest : Nat.ble ((rest.map fun v => v.category).sum) 8 = true) : CRF X A A1 kc ks nL pc lv st rest rm.cells rm.slots Wd ι o1 := by
  obtain ⟨p0, l, e, Rm, s, m, args, below, meth, c⟩ := X
  obtain ⟨h1, h2, h3, h4, h5, h6, h7, rfl, h9, rfl, h11⟩ := h
  intro a ha H locs ls hW hS hl
  obtain ⟨m1, m2, m3⟩ := hm
  subst hst
  exact ⟨_, va_runI (As := As) (rest := rest) (b := b + p) ⟨h1, h2, h3, h4, h5⟩ (hC a ha) ⟨callB_of n h5 (goodUW m1) rfl rfl rfl (h5 _ m2) (h5 _ hlk) m3 hR.1, hyn, h5 _ hv⟩ ⟨Pv_blind, fun U hU hWm => ⟨rfl, by rw [hU]; exact hW, va_K.moved hWm.alike h6, nw_warm hWm h11⟩⟩ rfl hn hl.1 rfl (lv_room (Nat.le_of_ble_eq_true hrest)) hd hR.2⟩
theorem CRF_IE (h : Ok G l0 X own cc nL R0 ret) (hE : OkE K V A X) (hC : CtE G l0 K V A y cc' nL' none rm (.ref (b + p) :: As) Wd ι o1) (hm : MWc y cc' nL' none n) (hv : Cond.instanceMethod y ∈ UW) (hyn : y.name = "<init>") (hlk : Cond.methodLink own idx y ∈ UW) (hd : decode cc pc = .ok (.invokespecial idx, 3)) (hst : As.reverse ++ .ref (b + p) :: rest = st) (hn : As.length = n) (hR : RoomOk rm nL' R0 kc ks) (hrest : Nat.ble ((rest.map fun v => v.category).sum) 8 = true) : CRF X A A kc ks nL pc lv st rest rm.cells rm.slots Wd ι o1 := by
  obtain ⟨p0, l, e, Rm, s, m, args, below, meth, c⟩ := X
  obtain ⟨h1, h2, h3, h4, h5, h6, h7, rfl, h9, rfl, h11⟩ := h
  intro a ha H locs ls hW hS hl
  obtain ⟨m1, m2, m3⟩ := hm
  have hE : EV K V A s s.heap := hE
  subst hst
  exact ⟨_, va_runI (As := As) (rest := rest) (b := b + p) ⟨h1, h2, h3, h4, h5⟩ (hC a ha) ⟨callB_of n h5 (goodUW m1) rfl rfl rfl (h5 _ m2) (h5 _ hlk) m3 hR.1, hyn, h5 _ hv⟩ ⟨PvE_blind, fun U hU hWm => ⟨⟨rfl, by rw [hU]; exact hW, va_K.moved hWm.alike h6, nw_warm hWm h11⟩, by rw [hU]; exact hE.to hS hWm⟩⟩ rfl hn hl.1 rfl (lv_room (Nat.le_of_ble_eq_true hrest)) hd hR.2⟩
/-- the law's house: a static method with a table -/
theorem CRF_H (h : Ok G l0 X own cc nL R0 ret) (hE : OkE K V A X) {hh : List (Nat × Nat × Nat × Nat)} (hA1 : ∀ q, A1 q → A q) (hC : ∀ a, o1 = some a → Met l0 y (Cond.codeWith y cc' nL' ret' hh :: UW) rm (PvE G K V A1 As Wd) (Qv A1 (ι a)) mc ms A1) (hcode : Cond.codeWith y cc' nL' ret' hh ∈ UW) (hini : Cond.initialized y.cls ∈ UW) (hst2 : Cond.static y ∈ UW) (hnm : y.cls ≠ "java/lang/invoke/MethodHandle" ∧ y.cls ≠ "java/lang/invoke/VarHandle") (hpar : ∀ sig, parseMethodDescriptor y.desc = some sig → n = sig.parameters.length) (hlk : Cond.methodLink own idx y ∈ UW) (hd : decode cc pc = .ok (.invokestatic idx, 3)) (hst : As.reverse ++ rest = st) (hn : As.length = n) (hrc : rm.cells = mc) (hrs : rm.slots = ms) (hR : rm.frames + 1 ≤ R0.frames ∧ 8 + (nL' + 11) + rm.locals ≤ R0.locals) (hRc : kc + mc ≤ R0.cells) (hRs : ks + ms ≤ R0.slots) (hrest : Nat.ble ((rest.map fun v => v.category).sum) 8 = true) : CRF X A A1 kc ks nL pc lv st rest mc ms Wd ι o1 := by
  obtain ⟨p0, l, e, Rm, s, m, args, below, meth, c⟩ := X
  obtain ⟨h1, h2, h3, h4, h5, h6, h7, rfl, h9, rfl, h11⟩ := h
  intro a ha H locs ls hW hS hl
  have hE : EV K V A s s.heap := hE
  subst hst
  exact ⟨_, vx_runSW (As := As) (rest := rest) ⟨h1, h2, h3, h4, h5⟩ (hC a ha) ⟨⟨hrc, hrs, hR.1, hR.2, pay_in h5 (goodUW hcode), List.mem_cons_self⟩, h5 _ hcode, h5 _ hini, hnm, hpar, h5 _ hlk, h5 _ hst2⟩ ⟨PvE_blind, fun U hU hWm => ⟨⟨rfl, by rw [hU]; exact hW, va_K.moved hWm.alike h6, nw_warm hWm h11⟩, by rw [hU]; exact (hE.to hS hWm).narrow hA1⟩⟩ rfl hn hl.1 rfl (lv_room (Nat.le_of_ble_eq_true hrest)) hd ⟨hRc, hRs⟩⟩
theorem T_fi0 {w : Heap → Prop} {o2 : Option (Int32)} {f : Int32 → Option α} (hA : ∀ q, A1 q → A q) (hF : ∀ H H' : Heap, H.size ≤ H'.size → (∀ q, q < H.size → ¬ A1 q → H'[q]? = H[q]?) → F H → F H') (hr : CRF X A A1 kc ks nL pc lv st rest mc ms Wd (ii0 w) o2) {kc' ks' : Nat} (hkc : kc + mc = kc') (hks : ks + ms = ks') (kk : ∀ v, T X A Z nL kc' ks' (pc + 3) lv (.int v :: rest) (fun H => w H ∧ F H) (f v)) : T X A Z nL kc ks pc lv st (fun H => Wd H ∧ F H) (bd1 o2 f) := T_callGF hA hF hr hkc hks (fun a => kk a)
theorem T_fi1 {β1 : Type} {w : β1 → Heap → Prop} {o2 : Option (Int32 × β1)} {f : Int32 → β1 → Option α} (hA : ∀ q, A1 q → A q) (hF : ∀ H H' : Heap, H.size ≤ H'.size → (∀ q, q < H.size → ¬ A1 q → H'[q]? = H[q]?) → F H → F H') (hr : CRF X A A1 kc ks nL pc lv st rest mc ms Wd (ii1 w) o2) {kc' ks' : Nat} (hkc : kc + mc = kc') (hks : ks + ms = ks') (kk : ∀ v x1, T X A Z nL kc' ks' (pc + 3) lv (.int v :: rest) (fun H => w x1 H ∧ F H) (f v x1)) : T X A Z nL kc ks pc lv st (fun H => Wd H ∧ F H) (bd2 o2 f) := T_callGF hA hF hr hkc hks (fun a => kk a.1 a.2)
theorem T_fi2 {β1 β2 : Type} {w : β1 → β2 → Heap → Prop} {o2 : Option (Int32 × β1 × β2)} {f : Int32 → β1 → β2 → Option α} (hA : ∀ q, A1 q → A q) (hF : ∀ H H' : Heap, H.size ≤ H'.size → (∀ q, q < H.size → ¬ A1 q → H'[q]? = H[q]?) → F H → F H') (hr : CRF X A A1 kc ks nL pc lv st rest mc ms Wd (ii2 w) o2) {kc' ks' : Nat} (hkc : kc + mc = kc') (hks : ks + ms = ks') (kk : ∀ v x1 x2, T X A Z nL kc' ks' (pc + 3) lv (.int v :: rest) (fun H => w x1 x2 H ∧ F H) (f v x1 x2)) : T X A Z nL kc ks pc lv st (fun H => Wd H ∧ F H) (bd3 o2 f) := T_callGF hA hF hr hkc hks (fun a => kk a.1 a.2.1 a.2.2)
theorem T_fi3 {β1 β2 β3 : Type} {w : β1 → β2 → β3 → Heap → Prop} {o2 : Option (Int32 × β1 × β2 × β3)} {f : Int32 → β1 → β2 → β3 → Option α} (hA : ∀ q, A1 q → A q) (hF : ∀ H H' : Heap, H.size ≤ H'.size → (∀ q, q < H.size → ¬ A1 q → H'[q]? = H[q]?) → F H → F H') (hr : CRF X A A1 kc ks nL pc lv st rest mc ms Wd (ii3 w) o2) {kc' ks' : Nat} (hkc : kc + mc = kc') (hks : ks + ms = ks') (kk : ∀ v x1 x2 x3, T X A Z nL kc' ks' (pc + 3) lv (.int v :: rest) (fun H => w x1 x2 x3 H ∧ F H) (f v x1 x2 x3)) : T X A Z nL kc ks pc lv st (fun H => Wd H ∧ F H) (bd4 o2 f) := T_callGF hA hF hr hkc hks (fun a => kk a.1 a.2.1 a.2.2.1 a.2.2.2)
theorem T_fi4 {β1 β2 β3 β4 : Type} {w : β1 → β2 → β3 → β4 → Heap → Prop} {o2 : Option (Int32 × β1 × β2 × β3 × β4)} {f : Int32 → β1 → β2 → β3 → β4 → Option α} (hA : ∀ q, A1 q → A q) (hF : ∀ H H' : Heap, H.size ≤ H'.size → (∀ q, q < H.size → ¬ A1 q → H'[q]? = H[q]?) → F H → F H') (hr : CRF X A A1 kc ks nL pc lv st rest mc ms Wd (ii4 w) o2) {kc' ks' : Nat} (hkc : kc + mc = kc') (hks : ks + ms = ks') (kk : ∀ v x1 x2 x3 x4, T X A Z nL kc' ks' (pc + 3) lv (.int v :: rest) (fun H => w x1 x2 x3 x4 H ∧ F H) (f v x1 x2 x3 x4)) : T X A Z nL kc ks pc lv st (fun H => Wd H ∧ F H) (bd5 o2 f) := T_callGF hA hF hr hkc hks (fun a => kk a.1 a.2.1 a.2.2.1 a.2.2.2.1 a.2.2.2.2)
theorem T_fz0 {w : Heap → Prop} {o2 : Option (Bool)} {f : Bool → Option α} (hA : ∀ q, A1 q → A q) (hF : ∀ H H' : Heap, H.size ≤ H'.size → (∀ q, q < H.size → ¬ A1 q → H'[q]? = H[q]?) → F H → F H') (hr : CRF X A A1 kc ks nL pc lv st rest mc ms Wd (iz0 w) o2) {kc' ks' : Nat} (hkc : kc + mc = kc') (hks : ks + ms = ks') (kk : ∀ v, T X A Z nL kc' ks' (pc + 3) lv (.int (bi v) :: rest) (fun H => w H ∧ F H) (f v)) : T X A Z nL kc ks pc lv st (fun H => Wd H ∧ F H) (bd1 o2 f) := T_callGF hA hF hr hkc hks (fun a => kk a)
theorem T_fz1 {β1 : Type} {w : β1 → Heap → Prop} {o2 : Option (Bool × β1)} {f : Bool → β1 → Option α} (hA : ∀ q, A1 q → A q) (hF : ∀ H H' : Heap, H.size ≤ H'.size → (∀ q, q < H.size → ¬ A1 q → H'[q]? = H[q]?) → F H → F H') (hr : CRF X A A1 kc ks nL pc lv st rest mc ms Wd (iz1 w) o2) {kc' ks' : Nat} (hkc : kc + mc = kc') (hks : ks + ms = ks') (kk : ∀ v x1, T X A Z nL kc' ks' (pc + 3) lv (.int (bi v) :: rest) (fun H => w x1 H ∧ F H) (f v x1)) : T X A Z nL kc ks pc lv st (fun H => Wd H ∧ F H) (bd2 o2 f) := T_callGF hA hF hr hkc hks (fun a => kk a.1 a.2)
theorem T_fz2 {β1 β2 : Type} {w : β1 → β2 → Heap → Prop} {o2 : Option (Bool × β1 × β2)} {f : Bool → β1 → β2 → Option α} (hA : ∀ q, A1 q → A q) (hF : ∀ H H' : Heap, H.size ≤ H'.size → (∀ q, q < H.size → ¬ A1 q → H'[q]? = H[q]?) → F H → F H') (hr : CRF X A A1 kc ks nL pc lv st rest mc ms Wd (iz2 w) o2) {kc' ks' : Nat} (hkc : kc + mc = kc') (hks : ks + ms = ks') (kk : ∀ v x1 x2, T X A Z nL kc' ks' (pc + 3) lv (.int (bi v) :: rest) (fun H => w x1 x2 H ∧ F H) (f v x1 x2)) : T X A Z nL kc ks pc lv st (fun H => Wd H ∧ F H) (bd3 o2 f) := T_callGF hA hF hr hkc hks (fun a => kk a.1 a.2.1 a.2.2)
theorem T_fz3 {β1 β2 β3 : Type} {w : β1 → β2 → β3 → Heap → Prop} {o2 : Option (Bool × β1 × β2 × β3)} {f : Bool → β1 → β2 → β3 → Option α} (hA : ∀ q, A1 q → A q) (hF : ∀ H H' : Heap, H.size ≤ H'.size → (∀ q, q < H.size → ¬ A1 q → H'[q]? = H[q]?) → F H → F H') (hr : CRF X A A1 kc ks nL pc lv st rest mc ms Wd (iz3 w) o2) {kc' ks' : Nat} (hkc : kc + mc = kc') (hks : ks + ms = ks') (kk : ∀ v x1 x2 x3, T X A Z nL kc' ks' (pc + 3) lv (.int (bi v) :: rest) (fun H => w x1 x2 x3 H ∧ F H) (f v x1 x2 x3)) : T X A Z nL kc ks pc lv st (fun H => Wd H ∧ F H) (bd4 o2 f) := T_callGF hA hF hr hkc hks (fun a => kk a.1 a.2.1 a.2.2.1 a.2.2.2)
theorem T_fz4 {β1 β2 β3 β4 : Type} {w : β1 → β2 → β3 → β4 → Heap → Prop} {o2 : Option (Bool × β1 × β2 × β3 × β4)} {f : Bool → β1 → β2 → β3 → β4 → Option α} (hA : ∀ q, A1 q → A q) (hF : ∀ H H' : Heap, H.size ≤ H'.size → (∀ q, q < H.size → ¬ A1 q → H'[q]? = H[q]?) → F H → F H') (hr : CRF X A A1 kc ks nL pc lv st rest mc ms Wd (iz4 w) o2) {kc' ks' : Nat} (hkc : kc + mc = kc') (hks : ks + ms = ks') (kk : ∀ v x1 x2 x3 x4, T X A Z nL kc' ks' (pc + 3) lv (.int (bi v) :: rest) (fun H => w x1 x2 x3 x4 H ∧ F H) (f v x1 x2 x3 x4)) : T X A Z nL kc ks pc lv st (fun H => Wd H ∧ F H) (bd5 o2 f) := T_callGF hA hF hr hkc hks (fun a => kk a.1 a.2.1 a.2.2.1 a.2.2.2.1 a.2.2.2.2)
theorem T_fl0 {w : Heap → Prop} {o2 : Option (Int64)} {f : Int64 → Option α} (hA : ∀ q, A1 q → A q) (hF : ∀ H H' : Heap, H.size ≤ H'.size → (∀ q, q < H.size → ¬ A1 q → H'[q]? = H[q]?) → F H → F H') (hr : CRF X A A1 kc ks nL pc lv st rest mc ms Wd (il0 w) o2) {kc' ks' : Nat} (hkc : kc + mc = kc') (hks : ks + ms = ks') (kk : ∀ v, T X A Z nL kc' ks' (pc + 3) lv (.long v :: rest) (fun H => w H ∧ F H) (f v)) : T X A Z nL kc ks pc lv st (fun H => Wd H ∧ F H) (bd1 o2 f) := T_callGF hA hF hr hkc hks (fun a => kk a)
theorem T_fl1 {β1 : Type} {w : β1 → Heap → Prop} {o2 : Option (Int64 × β1)} {f : Int64 → β1 → Option α} (hA : ∀ q, A1 q → A q) (hF : ∀ H H' : Heap, H.size ≤ H'.size → (∀ q, q < H.size → ¬ A1 q → H'[q]? = H[q]?) → F H → F H') (hr : CRF X A A1 kc ks nL pc lv st rest mc ms Wd (il1 w) o2) {kc' ks' : Nat} (hkc : kc + mc = kc') (hks : ks + ms = ks') (kk : ∀ v x1, T X A Z nL kc' ks' (pc + 3) lv (.long v :: rest) (fun H => w x1 H ∧ F H) (f v x1)) : T X A Z nL kc ks pc lv st (fun H => Wd H ∧ F H) (bd2 o2 f) := T_callGF hA hF hr hkc hks (fun a => kk a.1 a.2)
theorem T_fl2 {β1 β2 : Type} {w : β1 → β2 → Heap → Prop} {o2 : Option (Int64 × β1 × β2)} {f : Int64 → β1 → β2 → Option α} (hA : ∀ q, A1 q → A q) (hF : ∀ H H' : Heap, H.size ≤ H'.size → (∀ q, q < H.size → ¬ A1 q → H'[q]? = H[q]?) → F H → F H') (hr : CRF X A A1 kc ks nL pc lv st rest mc ms Wd (il2 w) o2) {kc' ks' : Nat} (hkc : kc + mc = kc') (hks : ks + ms = ks') (kk : ∀ v x1 x2, T X A Z nL kc' ks' (pc + 3) lv (.long v :: rest) (fun H => w x1 x2 H ∧ F H) (f v x1 x2)) : T X A Z nL kc ks pc lv st (fun H => Wd H ∧ F H) (bd3 o2 f) := T_callGF hA hF hr hkc hks (fun a => kk a.1 a.2.1 a.2.2)
theorem T_fl3 {β1 β2 β3 : Type} {w : β1 → β2 → β3 → Heap → Prop} {o2 : Option (Int64 × β1 × β2 × β3)} {f : Int64 → β1 → β2 → β3 → Option α} (hA : ∀ q, A1 q → A q) (hF : ∀ H H' : Heap, H.size ≤ H'.size → (∀ q, q < H.size → ¬ A1 q → H'[q]? = H[q]?) → F H → F H') (hr : CRF X A A1 kc ks nL pc lv st rest mc ms Wd (il3 w) o2) {kc' ks' : Nat} (hkc : kc + mc = kc') (hks : ks + ms = ks') (kk : ∀ v x1 x2 x3, T X A Z nL kc' ks' (pc + 3) lv (.long v :: rest) (fun H => w x1 x2 x3 H ∧ F H) (f v x1 x2 x3)) : T X A Z nL kc ks pc lv st (fun H => Wd H ∧ F H) (bd4 o2 f) := T_callGF hA hF hr hkc hks (fun a => kk a.1 a.2.1 a.2.2.1 a.2.2.2)
theorem T_fl4 {β1 β2 β3 β4 : Type} {w : β1 → β2 → β3 → β4 → Heap → Prop} {o2 : Option (Int64 × β1 × β2 × β3 × β4)} {f : Int64 → β1 → β2 → β3 → β4 → Option α} (hA : ∀ q, A1 q → A q) (hF : ∀ H H' : Heap, H.size ≤ H'.size → (∀ q, q < H.size → ¬ A1 q → H'[q]? = H[q]?) → F H → F H') (hr : CRF X A A1 kc ks nL pc lv st rest mc ms Wd (il4 w) o2) {kc' ks' : Nat} (hkc : kc + mc = kc') (hks : ks + ms = ks') (kk : ∀ v x1 x2 x3 x4, T X A Z nL kc' ks' (pc + 3) lv (.long v :: rest) (fun H => w x1 x2 x3 x4 H ∧ F H) (f v x1 x2 x3 x4)) : T X A Z nL kc ks pc lv st (fun H => Wd H ∧ F H) (bd5 o2 f) := T_callGF hA hF hr hkc hks (fun a => kk a.1 a.2.1 a.2.2.1 a.2.2.2.1 a.2.2.2.2)
theorem T_fv1 {β1 : Type} {w : β1 → Heap → Prop} {o2 : Option (β1)} {f : β1 → Option α} (hA : ∀ q, A1 q → A q) (hF : ∀ H H' : Heap, H.size ≤ H'.size → (∀ q, q < H.size → ¬ A1 q → H'[q]? = H[q]?) → F H → F H') (hr : CRF X A A1 kc ks nL pc lv st rest mc ms Wd (iv1 w) o2) {kc' ks' : Nat} (hkc : kc + mc = kc') (hks : ks + ms = ks') (kk : ∀ x1, T X A Z nL kc' ks' (pc + 3) lv rest (fun H => w x1 H ∧ F H) (f x1)) : T X A Z nL kc ks pc lv st (fun H => Wd H ∧ F H) (bd1 o2 f) := T_callGF hA hF hr hkc hks (fun a => kk a)
theorem T_fv2 {β1 β2 : Type} {w : β1 → β2 → Heap → Prop} {o2 : Option (β1 × β2)} {f : β1 → β2 → Option α} (hA : ∀ q, A1 q → A q) (hF : ∀ H H' : Heap, H.size ≤ H'.size → (∀ q, q < H.size → ¬ A1 q → H'[q]? = H[q]?) → F H → F H') (hr : CRF X A A1 kc ks nL pc lv st rest mc ms Wd (iv2 w) o2) {kc' ks' : Nat} (hkc : kc + mc = kc') (hks : ks + ms = ks') (kk : ∀ x1 x2, T X A Z nL kc' ks' (pc + 3) lv rest (fun H => w x1 x2 H ∧ F H) (f x1 x2)) : T X A Z nL kc ks pc lv st (fun H => Wd H ∧ F H) (bd2 o2 f) := T_callGF hA hF hr hkc hks (fun a => kk a.1 a.2)
end L2
