/-! calls in the judgement T -/
def CR (X : Cx) (A : Nat → Prop) (kc ks nL pc : Nat) (lv : List (Nat × Value)) (st rest : List Value) (rm : Room) (Wd : Heap → Prop) {β : Type} (ι : β → Option Value × (Heap → Prop)) (o1 : Option β) : Prop :=
  match X with
  | (p, l, e, R, s, m, args, below, meth, c) => ∀ a, o1 = some a → ∀ (H : Heap) (locs : List Loc) (ls : Array Slot), Wd H → va_S A s.heap H locs → lv_has ls nL lv → ∃ cargs : Array Value, va_Run p l e R s m args below meth c H locs kc ks rm.cells rm.slots (F0 m pc ls st) rest (Qv A (ι a) cargs) A
def MWc (y : MethodName) (cc : ByteArray) (nL : Nat) (ret : Option FieldType) (n : Nat) : Prop := Cond.code y cc nL ret ∈ UW ∧ Cond.initialized y.cls ∈ UW ∧ (y.cls ≠ "java/lang/invoke/MethodHandle" ∧ y.cls ≠ "java/lang/invoke/VarHandle" ∧ (parseMethodDescriptor y.desc).map (fun d => d.parameters.length) = some n)
def MWv (y : MethodName) (ci : Nat) : Prop := Cond.instanceMethod y ∈ UW ∧ Cond.selects y.cls y y ∈ UW ∧ (cls12[ci]?).map (fun q => q.1) = some y.cls
def RoomOk (rm : Room) (nL' : Nat) (R0 : Room) (kc ks : Nat) : Prop := (rm.frames + 1 ≤ R0.frames ∧ 8 + (nL' + 11) + rm.locals ≤ R0.locals) ∧ kc + rm.cells ≤ R0.cells ∧ ks + rm.slots ≤ R0.slots
theorem roomOk {rm : Room} {nL' : Nat} {R0 : Room} {kc ks : Nat} (h : (Nat.ble (rm.frames + 1) R0.frames && Nat.ble (8 + (nL' + 11) + rm.locals) R0.locals && Nat.ble (kc + rm.cells) R0.cells && Nat.ble (ks + rm.slots) R0.slots) = true) : RoomOk rm nL' R0 kc ks := by
  simp only [Bool.and_eq_true, Nat.ble_eq] at h
  exact ⟨⟨h.1.1.1, h.1.1.2⟩, h.1.2, h.2⟩
theorem goodUW {w : Cond} (hc : w ∈ UW) : GoodIn UW (w :: UW) := fun v hv => by
  have h : v ∈ UW := (List.mem_cons.mp hv).elim (fun e => by rw [e]; exact hc) id
  exact ⟨h, good_of_word (List.mem_filter.mp h).2⟩
section CALLS
variable {G : Gx} {l0 : Launch} {X : Cx} {own : String} {cc : ByteArray} {nL : Nat} {R0 : Room} {ret : Option FieldType} {A : Nat → Prop} {α : Type} {Z : α → State → Prop} {kc ks pc : Nat} {lv : List (Nat × Value)} {st rest : List Value} {b p ci idx n : Nat} {L : List Kd} {R : MR} {I : MI} {J : MJ} {Wd : Heap → Prop}
variable {y : MethodName} {cc' : ByteArray} {nL' : Nat} {ret' : Option FieldType} {rm : Room} {As : List Value} {β : Type} {ι : β → Option Value × (Heap → Prop)} {o1 : Option β}
theorem T_callG {f : β → Option α} (hr : CR X A kc ks nL pc lv st rest rm Wd ι o1) {kc' ks' : Nat} (hkc : kc + rm.cells = kc') (hks : ks + rm.slots = ks') (kk : ∀ a, T X A Z nL kc' ks' (pc + 3) lv ((ι a).1.toList ++ rest) (ι a).2 (f a)) : T X A Z nL kc ks pc lv st Wd (o1.bind f) := by
  obtain ⟨p0, l, e, Rm, s, m, args, below, meth, c⟩ := X
  subst hkc
  subst hks
  intro a' ha H locs ls hW hS hl
  cases ho : o1 with
  | none => rw [ho] at ha; cases ha
  | some a =>
    rw [ho] at ha
    have ha : f a = some a' := ha
    intro T0 hT X0
    obtain ⟨cargs, hr⟩ := hr a ho H locs ls hW hS hl
    obtain ⟨v, st₀, t, T', L', h0, X', hL', e1, e2, ⟨hv, hw, hz, hk⟩, stp⟩ := hr T0 hT X0
    have hv : v = (ι a).1 := by injection hv
    subst hv
    rw [h0] at hz hk
    obtain ⟨t2, a1, b1⟩ := kk a a' ha T'.heap (locs ++ L') ls (by rw [e1]; exact hw) ⟨Nat.le_trans hS.1 (by rw [e1]; exact hz), fun q h1 h2 => by rw [e1, hk q (Nat.lt_of_lt_of_le h1 hS.1) h2]; exact hS.2.1 q h1 h2, fun q hq => by
      rcases List.mem_append.mp hq with h | h
      · exact hS.2.2 q h
      · exact hL' q h⟩ hl T' rfl X'
    exact ⟨t2, stp t2 a1, b1⟩
theorem CR_V (h : Ok G l0 X own cc nL R0 ret) (hC : Ct G l0 A y cc' nL' ret' rm (.ref (b + p) :: As) (Rg G b L R I J) ι o1) (hm : MWc y cc' nL' ret' n) (hv : MWv y ci) (hlk : Cond.methodLink own idx y ∈ UW) (hL : L[p]? = some (.inl ci)) (hd : decode cc pc = .ok (.invokevirtual idx, 3)) (hst : As.reverse ++ .ref (b + p) :: rest = st) (hn : As.length = n) (hR : RoomOk rm nL' R0 kc ks) (hrest : Nat.ble ((rest.map fun v => v.category).sum) 8 = true) : CR X A kc ks nL pc lv st rest rm (Rg G b L R I J) ι o1 := by
  obtain ⟨p0, l, e, Rm, s, m, args, below, meth, c⟩ := X
  obtain ⟨h1, h2, h3, h4, h5, h6, h7, rfl, h9, rfl, h11⟩ := h
  intro a ha H locs ls hW hS hl
  obtain ⟨m1, m2, m3⟩ := hm
  obtain ⟨v1, v2, v3⟩ := hv
  cases hcl : cls12[ci]? with
  | none => rw [hcl] at v3; cases v3
  | some q =>
    rw [hcl] at v3
    have v3 : q.1 = y.cls := by injection v3
    have hrc := va_recv h6 hW hcl (ws_getO hL)
    rw [v3] at hrc
    subst hst
    exact ⟨_, va_runV (As := As) (rest := rest) (C := y.cls) (b := b + p) ⟨h1, h2, h3, h4, h5⟩ (hC a ha) ⟨callB_of n h5 (goodUW m1) rfl rfl rfl (h5 _ m2) (h5 _ hlk) m3 hR.1, h5 _ v1, h5 _ v2⟩ ⟨Pv_blind, hrc, fun U hU hWm => ⟨rfl, by rw [hU]; exact hW, va_K.moved hWm.alike h6, nw_warm hWm h11⟩⟩ rfl hn hl.1 rfl (lv_room (Nat.le_of_ble_eq_true hrest)) hd hR.2⟩
theorem CR_S (h : Ok G l0 X own cc nL R0 ret) (hC : Ct G l0 A y cc' nL' ret' rm As Wd ι o1) (hm : MWc y cc' nL' ret' n) (hv : Cond.static y ∈ UW) (hlk : Cond.methodLink own idx y ∈ UW) (hd : decode cc pc = .ok (.invokestatic idx, 3)) (hst : As.reverse ++ rest = st) (hn : As.length = n) (hR : RoomOk rm nL' R0 kc ks) (hrest : Nat.ble ((rest.map fun v => v.category).sum) 8 = true) : CR X A kc ks nL pc lv st rest rm Wd ι o1 := by
  obtain ⟨p0, l, e, Rm, s, m, args, below, meth, c⟩ := X
  obtain ⟨h1, h2, h3, h4, h5, h6, h7, rfl, h9, rfl, h11⟩ := h
  intro a ha H locs ls hW hS hl
  obtain ⟨m1, m2, m3⟩ := hm
  subst hst
  exact ⟨_, va_runS (As := As) (rest := rest) ⟨h1, h2, h3, h4, h5⟩ (hC a ha) ⟨callB_of n h5 (goodUW m1) rfl rfl rfl (h5 _ m2) (h5 _ hlk) m3 hR.1, h5 _ hv⟩ ⟨Pv_blind, fun U hU hWm => ⟨rfl, by rw [hU]; exact hW, va_K.moved hWm.alike h6, nw_warm hWm h11⟩⟩ rfl hn hl.1 rfl (lv_room (Nat.le_of_ble_eq_true hrest)) hd hR.2⟩
theorem CR_SN (h : Ok G l0 X own cc nL R0 ret) {host : String} (hC : Ct G l0 A y cc' nL' ret' rm As Wd ι o1) (hm : MWc y cc' nL' ret' n) (hv : Cond.static y ∈ UW) (hlk : Cond.methodLinkNest own idx y host ∈ NWl) (hd : decode cc pc = .ok (.invokestatic idx, 3)) (hst : As.reverse ++ rest = st) (hn : As.length = n) (hR : RoomOk rm nL' R0 kc ks) (hrest : Nat.ble ((rest.map fun v => v.category).sum) 8 = true) : CR X A kc ks nL pc lv st rest rm Wd ι o1 := by
  obtain ⟨p0, l, e, Rm, s, m, args, below, meth, c⟩ := X
  obtain ⟨h1, h2, h3, h4, h5, h6, h7, rfl, h9, rfl, h11⟩ := h
  intro a ha H locs ls hW hS hl
  obtain ⟨m1, m2, m3⟩ := hm
  subst hst
  exact ⟨_, va_runSN (As := As) (rest := rest) ⟨h1, h2, h3, h4, h5⟩ (hC a ha) ⟨va_cnB n h5 (goodUW m1) rfl rfl rfl (h11 _ hlk) (h5 _ m2) m3 hR.1, h5 _ hv, trivial⟩ ⟨Pv_blind, fun U hU hWm => ⟨rfl, by rw [hU]; exact hW, va_K.moved hWm.alike h6, nw_warm hWm h11⟩⟩ rfl hn hl.1 rfl (lv_room (Nat.le_of_ble_eq_true hrest)) hd hR.2⟩
def ii0 (w : Heap → Prop) : Int32 → Option Value × (Heap → Prop) := fun a => (some (.int a), w)
theorem T_ci0 {w : Heap → Prop} {o2 : Option (Int32)} {f : Int32 → Option α} (hr : CR X A kc ks nL pc lv st rest rm Wd (ii0 w) o2) {kc' ks' : Nat} (hkc : kc + rm.cells = kc') (hks : ks + rm.slots = ks') (kk : ∀ v, T X A Z nL kc' ks' (pc + 3) lv (.int v :: rest) w (f v)) : T X A Z nL kc ks pc lv st Wd (bd1 o2 f) := T_callG hr hkc hks (fun a => kk a)
def ii1 {β1 : Type} (w : β1 → Heap → Prop) : Int32 × β1 → Option Value × (Heap → Prop) := fun a => (some (.int a.1), w a.2)
theorem T_ci1 {β1 : Type} {w : β1 → Heap → Prop} {o2 : Option (Int32 × β1)} {f : Int32 → β1 → Option α} (hr : CR X A kc ks nL pc lv st rest rm Wd (ii1 w) o2) {kc' ks' : Nat} (hkc : kc + rm.cells = kc') (hks : ks + rm.slots = ks') (kk : ∀ v x1, T X A Z nL kc' ks' (pc + 3) lv (.int v :: rest) (w x1) (f v x1)) : T X A Z nL kc ks pc lv st Wd (bd2 o2 f) := T_callG hr hkc hks (fun a => kk a.1 a.2)
def ii2 {β1 β2 : Type} (w : β1 → β2 → Heap → Prop) : Int32 × β1 × β2 → Option Value × (Heap → Prop) := fun a => (some (.int a.1), w a.2.1 a.2.2)
theorem T_ci2 {β1 β2 : Type} {w : β1 → β2 → Heap → Prop} {o2 : Option (Int32 × β1 × β2)} {f : Int32 → β1 → β2 → Option α} (hr : CR X A kc ks nL pc lv st rest rm Wd (ii2 w) o2) {kc' ks' : Nat} (hkc : kc + rm.cells = kc') (hks : ks + rm.slots = ks') (kk : ∀ v x1 x2, T X A Z nL kc' ks' (pc + 3) lv (.int v :: rest) (w x1 x2) (f v x1 x2)) : T X A Z nL kc ks pc lv st Wd (bd3 o2 f) := T_callG hr hkc hks (fun a => kk a.1 a.2.1 a.2.2)
def ii3 {β1 β2 β3 : Type} (w : β1 → β2 → β3 → Heap → Prop) : Int32 × β1 × β2 × β3 → Option Value × (Heap → Prop) := fun a => (some (.int a.1), w a.2.1 a.2.2.1 a.2.2.2)
theorem T_ci3 {β1 β2 β3 : Type} {w : β1 → β2 → β3 → Heap → Prop} {o2 : Option (Int32 × β1 × β2 × β3)} {f : Int32 → β1 → β2 → β3 → Option α} (hr : CR X A kc ks nL pc lv st rest rm Wd (ii3 w) o2) {kc' ks' : Nat} (hkc : kc + rm.cells = kc') (hks : ks + rm.slots = ks') (kk : ∀ v x1 x2 x3, T X A Z nL kc' ks' (pc + 3) lv (.int v :: rest) (w x1 x2 x3) (f v x1 x2 x3)) : T X A Z nL kc ks pc lv st Wd (bd4 o2 f) := T_callG hr hkc hks (fun a => kk a.1 a.2.1 a.2.2.1 a.2.2.2)
def ii4 {β1 β2 β3 β4 : Type} (w : β1 → β2 → β3 → β4 → Heap → Prop) : Int32 × β1 × β2 × β3 × β4 → Option Value × (Heap → Prop) := fun a => (some (.int a.1), w a.2.1 a.2.2.1 a.2.2.2.1 a.2.2.2.2)
theorem T_ci4 {β1 β2 β3 β4 : Type} {w : β1 → β2 → β3 → β4 → Heap → Prop} {o2 : Option (Int32 × β1 × β2 × β3 × β4)} {f : Int32 → β1 → β2 → β3 → β4 → Option α} (hr : CR X A kc ks nL pc lv st rest rm Wd (ii4 w) o2) {kc' ks' : Nat} (hkc : kc + rm.cells = kc') (hks : ks + rm.slots = ks') (kk : ∀ v x1 x2 x3 x4, T X A Z nL kc' ks' (pc + 3) lv (.int v :: rest) (w x1 x2 x3 x4) (f v x1 x2 x3 x4)) : T X A Z nL kc ks pc lv st Wd (bd5 o2 f) := T_callG hr hkc hks (fun a => kk a.1 a.2.1 a.2.2.1 a.2.2.2.1 a.2.2.2.2)
def iz0 (w : Heap → Prop) : Bool → Option Value × (Heap → Prop) := fun a => (some (.int (bi a)), w)
theorem T_cz0 {w : Heap → Prop} {o2 : Option (Bool)} {f : Bool → Option α} (hr : CR X A kc ks nL pc lv st rest rm Wd (iz0 w) o2) {kc' ks' : Nat} (hkc : kc + rm.cells = kc') (hks : ks + rm.slots = ks') (kk : ∀ v, T X A Z nL kc' ks' (pc + 3) lv (.int (bi v) :: rest) w (f v)) : T X A Z nL kc ks pc lv st Wd (bd1 o2 f) := T_callG hr hkc hks (fun a => kk a)
def iz1 {β1 : Type} (w : β1 → Heap → Prop) : Bool × β1 → Option Value × (Heap → Prop) := fun a => (some (.int (bi a.1)), w a.2)
theorem T_cz1 {β1 : Type} {w : β1 → Heap → Prop} {o2 : Option (Bool × β1)} {f : Bool → β1 → Option α} (hr : CR X A kc ks nL pc lv st rest rm Wd (iz1 w) o2) {kc' ks' : Nat} (hkc : kc + rm.cells = kc') (hks : ks + rm.slots = ks') (kk : ∀ v x1, T X A Z nL kc' ks' (pc + 3) lv (.int (bi v) :: rest) (w x1) (f v x1)) : T X A Z nL kc ks pc lv st Wd (bd2 o2 f) := T_callG hr hkc hks (fun a => kk a.1 a.2)
def iz2 {β1 β2 : Type} (w : β1 → β2 → Heap → Prop) : Bool × β1 × β2 → Option Value × (Heap → Prop) := fun a => (some (.int (bi a.1)), w a.2.1 a.2.2)
theorem T_cz2 {β1 β2 : Type} {w : β1 → β2 → Heap → Prop} {o2 : Option (Bool × β1 × β2)} {f : Bool → β1 → β2 → Option α} (hr : CR X A kc ks nL pc lv st rest rm Wd (iz2 w) o2) {kc' ks' : Nat} (hkc : kc + rm.cells = kc') (hks : ks + rm.slots = ks') (kk : ∀ v x1 x2, T X A Z nL kc' ks' (pc + 3) lv (.int (bi v) :: rest) (w x1 x2) (f v x1 x2)) : T X A Z nL kc ks pc lv st Wd (bd3 o2 f) := T_callG hr hkc hks (fun a => kk a.1 a.2.1 a.2.2)
def iz3 {β1 β2 β3 : Type} (w : β1 → β2 → β3 → Heap → Prop) : Bool × β1 × β2 × β3 → Option Value × (Heap → Prop) := fun a => (some (.int (bi a.1)), w a.2.1 a.2.2.1 a.2.2.2)
theorem T_cz3 {β1 β2 β3 : Type} {w : β1 → β2 → β3 → Heap → Prop} {o2 : Option (Bool × β1 × β2 × β3)} {f : Bool → β1 → β2 → β3 → Option α} (hr : CR X A kc ks nL pc lv st rest rm Wd (iz3 w) o2) {kc' ks' : Nat} (hkc : kc + rm.cells = kc') (hks : ks + rm.slots = ks') (kk : ∀ v x1 x2 x3, T X A Z nL kc' ks' (pc + 3) lv (.int (bi v) :: rest) (w x1 x2 x3) (f v x1 x2 x3)) : T X A Z nL kc ks pc lv st Wd (bd4 o2 f) := T_callG hr hkc hks (fun a => kk a.1 a.2.1 a.2.2.1 a.2.2.2)
def iz4 {β1 β2 β3 β4 : Type} (w : β1 → β2 → β3 → β4 → Heap → Prop) : Bool × β1 × β2 × β3 × β4 → Option Value × (Heap → Prop) := fun a => (some (.int (bi a.1)), w a.2.1 a.2.2.1 a.2.2.2.1 a.2.2.2.2)
theorem T_cz4 {β1 β2 β3 β4 : Type} {w : β1 → β2 → β3 → β4 → Heap → Prop} {o2 : Option (Bool × β1 × β2 × β3 × β4)} {f : Bool → β1 → β2 → β3 → β4 → Option α} (hr : CR X A kc ks nL pc lv st rest rm Wd (iz4 w) o2) {kc' ks' : Nat} (hkc : kc + rm.cells = kc') (hks : ks + rm.slots = ks') (kk : ∀ v x1 x2 x3 x4, T X A Z nL kc' ks' (pc + 3) lv (.int (bi v) :: rest) (w x1 x2 x3 x4) (f v x1 x2 x3 x4)) : T X A Z nL kc ks pc lv st Wd (bd5 o2 f) := T_callG hr hkc hks (fun a => kk a.1 a.2.1 a.2.2.1 a.2.2.2.1 a.2.2.2.2)
def il0 (w : Heap → Prop) : Int64 → Option Value × (Heap → Prop) := fun a => (some (.long a), w)
theorem T_cl0 {w : Heap → Prop} {o2 : Option (Int64)} {f : Int64 → Option α} (hr : CR X A kc ks nL pc lv st rest rm Wd (il0 w) o2) {kc' ks' : Nat} (hkc : kc + rm.cells = kc') (hks : ks + rm.slots = ks') (kk : ∀ v, T X A Z nL kc' ks' (pc + 3) lv (.long v :: rest) w (f v)) : T X A Z nL kc ks pc lv st Wd (bd1 o2 f) := T_callG hr hkc hks (fun a => kk a)
def il1 {β1 : Type} (w : β1 → Heap → Prop) : Int64 × β1 → Option Value × (Heap → Prop) := fun a => (some (.long a.1), w a.2)
theorem T_cl1 {β1 : Type} {w : β1 → Heap → Prop} {o2 : Option (Int64 × β1)} {f : Int64 → β1 → Option α} (hr : CR X A kc ks nL pc lv st rest rm Wd (il1 w) o2) {kc' ks' : Nat} (hkc : kc + rm.cells = kc') (hks : ks + rm.slots = ks') (kk : ∀ v x1, T X A Z nL kc' ks' (pc + 3) lv (.long v :: rest) (w x1) (f v x1)) : T X A Z nL kc ks pc lv st Wd (bd2 o2 f) := T_callG hr hkc hks (fun a => kk a.1 a.2)
def il2 {β1 β2 : Type} (w : β1 → β2 → Heap → Prop) : Int64 × β1 × β2 → Option Value × (Heap → Prop) := fun a => (some (.long a.1), w a.2.1 a.2.2)
theorem T_cl2 {β1 β2 : Type} {w : β1 → β2 → Heap → Prop} {o2 : Option (Int64 × β1 × β2)} {f : Int64 → β1 → β2 → Option α} (hr : CR X A kc ks nL pc lv st rest rm Wd (il2 w) o2) {kc' ks' : Nat} (hkc : kc + rm.cells = kc') (hks : ks + rm.slots = ks') (kk : ∀ v x1 x2, T X A Z nL kc' ks' (pc + 3) lv (.long v :: rest) (w x1 x2) (f v x1 x2)) : T X A Z nL kc ks pc lv st Wd (bd3 o2 f) := T_callG hr hkc hks (fun a => kk a.1 a.2.1 a.2.2)
def il3 {β1 β2 β3 : Type} (w : β1 → β2 → β3 → Heap → Prop) : Int64 × β1 × β2 × β3 → Option Value × (Heap → Prop) := fun a => (some (.long a.1), w a.2.1 a.2.2.1 a.2.2.2)
theorem T_cl3 {β1 β2 β3 : Type} {w : β1 → β2 → β3 → Heap → Prop} {o2 : Option (Int64 × β1 × β2 × β3)} {f : Int64 → β1 → β2 → β3 → Option α} (hr : CR X A kc ks nL pc lv st rest rm Wd (il3 w) o2) {kc' ks' : Nat} (hkc : kc + rm.cells = kc') (hks : ks + rm.slots = ks') (kk : ∀ v x1 x2 x3, T X A Z nL kc' ks' (pc + 3) lv (.long v :: rest) (w x1 x2 x3) (f v x1 x2 x3)) : T X A Z nL kc ks pc lv st Wd (bd4 o2 f) := T_callG hr hkc hks (fun a => kk a.1 a.2.1 a.2.2.1 a.2.2.2)
def il4 {β1 β2 β3 β4 : Type} (w : β1 → β2 → β3 → β4 → Heap → Prop) : Int64 × β1 × β2 × β3 × β4 → Option Value × (Heap → Prop) := fun a => (some (.long a.1), w a.2.1 a.2.2.1 a.2.2.2.1 a.2.2.2.2)
theorem T_cl4 {β1 β2 β3 β4 : Type} {w : β1 → β2 → β3 → β4 → Heap → Prop} {o2 : Option (Int64 × β1 × β2 × β3 × β4)} {f : Int64 → β1 → β2 → β3 → β4 → Option α} (hr : CR X A kc ks nL pc lv st rest rm Wd (il4 w) o2) {kc' ks' : Nat} (hkc : kc + rm.cells = kc') (hks : ks + rm.slots = ks') (kk : ∀ v x1 x2 x3 x4, T X A Z nL kc' ks' (pc + 3) lv (.long v :: rest) (w x1 x2 x3 x4) (f v x1 x2 x3 x4)) : T X A Z nL kc ks pc lv st Wd (bd5 o2 f) := T_callG hr hkc hks (fun a => kk a.1 a.2.1 a.2.2.1 a.2.2.2.1 a.2.2.2.2)
def iv1 {β1 : Type} (w : β1 → Heap → Prop) : β1 → Option Value × (Heap → Prop) := fun a => (none, w a)
theorem T_cv1 {β1 : Type} {w : β1 → Heap → Prop} {o2 : Option (β1)} {f : β1 → Option α} (hr : CR X A kc ks nL pc lv st rest rm Wd (iv1 w) o2) {kc' ks' : Nat} (hkc : kc + rm.cells = kc') (hks : ks + rm.slots = ks') (kk : ∀ x1, T X A Z nL kc' ks' (pc + 3) lv rest (w x1) (f x1)) : T X A Z nL kc ks pc lv st Wd (bd1 o2 f) := T_callG hr hkc hks (fun a => kk a)
def iv2 {β1 β2 : Type} (w : β1 → β2 → Heap → Prop) : β1 × β2 → Option Value × (Heap → Prop) := fun a => (none, w a.1 a.2)
theorem T_cv2 {β1 β2 : Type} {w : β1 → β2 → Heap → Prop} {o2 : Option (β1 × β2)} {f : β1 → β2 → Option α} (hr : CR X A kc ks nL pc lv st rest rm Wd (iv2 w) o2) {kc' ks' : Nat} (hkc : kc + rm.cells = kc') (hks : ks + rm.slots = ks') (kk : ∀ x1 x2, T X A Z nL kc' ks' (pc + 3) lv rest (w x1 x2) (f x1 x2)) : T X A Z nL kc ks pc lv st Wd (bd2 o2 f) := T_callG hr hkc hks (fun a => kk a.1 a.2)
def iv3 {β1 β2 β3 : Type} (w : β1 → β2 → β3 → Heap → Prop) : β1 × β2 × β3 → Option Value × (Heap → Prop) := fun a => (none, w a.1 a.2.1 a.2.2)
theorem T_cv3 {β1 β2 β3 : Type} {w : β1 → β2 → β3 → Heap → Prop} {o2 : Option (β1 × β2 × β3)} {f : β1 → β2 → β3 → Option α} (hr : CR X A kc ks nL pc lv st rest rm Wd (iv3 w) o2) {kc' ks' : Nat} (hkc : kc + rm.cells = kc') (hks : ks + rm.slots = ks') (kk : ∀ x1 x2 x3, T X A Z nL kc' ks' (pc + 3) lv rest (w x1 x2 x3) (f x1 x2 x3)) : T X A Z nL kc ks pc lv st Wd (bd3 o2 f) := T_callG hr hkc hks (fun a => kk a.1 a.2.1 a.2.2)
def iv4 {β1 β2 β3 β4 : Type} (w : β1 → β2 → β3 → β4 → Heap → Prop) : β1 × β2 × β3 × β4 → Option Value × (Heap → Prop) := fun a => (none, w a.1 a.2.1 a.2.2.1 a.2.2.2)
theorem T_cv4 {β1 β2 β3 β4 : Type} {w : β1 → β2 → β3 → β4 → Heap → Prop} {o2 : Option (β1 × β2 × β3 × β4)} {f : β1 → β2 → β3 → β4 → Option α} (hr : CR X A kc ks nL pc lv st rest rm Wd (iv4 w) o2) {kc' ks' : Nat} (hkc : kc + rm.cells = kc') (hks : ks + rm.slots = ks') (kk : ∀ x1 x2 x3 x4, T X A Z nL kc' ks' (pc + 3) lv rest (w x1 x2 x3 x4) (f x1 x2 x3 x4)) : T X A Z nL kc ks pc lv st Wd (bd4 o2 f) := T_callG hr hkc hks (fun a => kk a.1 a.2.1 a.2.2.1 a.2.2.2)
def iv5 {β1 β2 β3 β4 β5 : Type} (w : β1 → β2 → β3 → β4 → β5 → Heap → Prop) : β1 × β2 × β3 × β4 × β5 → Option Value × (Heap → Prop) := fun a => (none, w a.1 a.2.1 a.2.2.1 a.2.2.2.1 a.2.2.2.2)
theorem T_cv5 {β1 β2 β3 β4 β5 : Type} {w : β1 → β2 → β3 → β4 → β5 → Heap → Prop} {o2 : Option (β1 × β2 × β3 × β4 × β5)} {f : β1 → β2 → β3 → β4 → β5 → Option α} (hr : CR X A kc ks nL pc lv st rest rm Wd (iv5 w) o2) {kc' ks' : Nat} (hkc : kc + rm.cells = kc') (hks : ks + rm.slots = ks') (kk : ∀ x1 x2 x3 x4 x5, T X A Z nL kc' ks' (pc + 3) lv rest (w x1 x2 x3 x4 x5) (f x1 x2 x3 x4 x5)) : T X A Z nL kc ks pc lv st Wd (bd5 o2 f) := T_callG hr hkc hks (fun a => kk a.1 a.2.1 a.2.2.1 a.2.2.2.1 a.2.2.2.2)
def MM_mmax : Prop := Cond.static Lib.Math.max.name ∈ UW ∧ Cond.initialized "java/lang/Math" ∈ UW ∧ Cond.code Lib.Math.max.name Lib.Math.max.code 2 (some .int) ∈ UW
theorem T_mmax (h : Ok G l0 X own cc nL R0 ret) {o : Option α} {x y : Int32} (hm : MM_mmax) (hlk : Cond.methodLink own idx Lib.Math.max.name ∈ UW) (hd : decode cc pc = .ok (.invokestatic idx, 3)) (hf : 1 ≤ R0.frames) (hlo : (rest.map fun v => v.category).sum + 13 ≤ R0.locals) (hkc : kc ≤ R0.cells) (hks : ks ≤ R0.slots) (kk : T X A Z nL kc ks (pc + 3) lv (.int (imax x y) :: rest) Wd o) : T X A Z nL kc ks pc lv (.int y :: .int x :: rest) Wd o := by
  obtain ⟨p0, l, e, Rm, s, m, args, below, meth, c⟩ := X
  obtain ⟨h1, h2, h3, h4, h5, h6, h7, rfl, h9, h10⟩ := h
  intro a ha H locs ls hW hS hl
  exact va_mmax h1 h2 (h3.trans hl.1.symm) h4 (h5 _ hlk) (h5 _ hm.1) (h5 _ hm.2.1) (h5 _ hm.2.2) hf hlo hkc hks hd (kk a ha H locs ls hW hS hl)
def MM_mmin : Prop := Cond.static Lib.Math.min.name ∈ UW ∧ Cond.initialized "java/lang/Math" ∈ UW ∧ Cond.code Lib.Math.min.name Lib.Math.min.code 2 (some .int) ∈ UW
theorem T_mmin (h : Ok G l0 X own cc nL R0 ret) {o : Option α} {x y : Int32} (hm : MM_mmin) (hlk : Cond.methodLink own idx Lib.Math.min.name ∈ UW) (hd : decode cc pc = .ok (.invokestatic idx, 3)) (hf : 1 ≤ R0.frames) (hlo : (rest.map fun v => v.category).sum + 13 ≤ R0.locals) (hkc : kc ≤ R0.cells) (hks : ks ≤ R0.slots) (kk : T X A Z nL kc ks (pc + 3) lv (.int (imin x y) :: rest) Wd o) : T X A Z nL kc ks pc lv (.int y :: .int x :: rest) Wd o := by
  obtain ⟨p0, l, e, Rm, s, m, args, below, meth, c⟩ := X
  obtain ⟨h1, h2, h3, h4, h5, h6, h7, rfl, h9, h10⟩ := h
  intro a ha H locs ls hW hS hl
  exact va_mmin h1 h2 (h3.trans hl.1.symm) h4 (h5 _ hlk) (h5 _ hm.1) (h5 _ hm.2.1) (h5 _ hm.2.2) hf hlo hkc hks hd (kk a ha H locs ls hW hS hl)
def MM_mmaxl : Prop := Cond.static Lib.MathLoose.max_long.x ∈ UW ∧ Cond.initialized "java/lang/Math" ∈ UW ∧ Cond.code Lib.MathLoose.max_long.x Lib.MathLoose.max_long.code 4 (some .long) ∈ UW
theorem T_mmaxl (h : Ok G l0 X own cc nL R0 ret) {o : Option α} {x y : Int64} (hm : MM_mmaxl) (hlk : Cond.methodLink own idx Lib.MathLoose.max_long.x ∈ UW) (hd : decode cc pc = .ok (.invokestatic idx, 3)) (hf : 1 ≤ R0.frames) (hlo : (rest.map fun v => v.category).sum + 15 ≤ R0.locals) (hkc : kc ≤ R0.cells) (hks : ks ≤ R0.slots) (kk : T X A Z nL kc ks (pc + 3) lv (.long (lmax x y) :: rest) Wd o) : T X A Z nL kc ks pc lv (.long y :: .long x :: rest) Wd o := by
  obtain ⟨p0, l, e, Rm, s, m, args, below, meth, c⟩ := X
  obtain ⟨h1, h2, h3, h4, h5, h6, h7, rfl, h9, h10⟩ := h
  intro a ha H locs ls hW hS hl
  exact va_mmax_long h1 h2 (h3.trans hl.1.symm) h4 (h5 _ hlk) (h5 _ hm.1) (h5 _ hm.2.1) (h5 _ hm.2.2) hf hlo hkc hks hd (kk a ha H locs ls hW hS hl)
def MM_mminl : Prop := Cond.static Lib.MathLoose.min_long.x ∈ UW ∧ Cond.initialized "java/lang/Math" ∈ UW ∧ Cond.code Lib.MathLoose.min_long.x Lib.MathLoose.min_long.code 4 (some .long) ∈ UW
theorem T_mminl (h : Ok G l0 X own cc nL R0 ret) {o : Option α} {x y : Int64} (hm : MM_mminl) (hlk : Cond.methodLink own idx Lib.MathLoose.min_long.x ∈ UW) (hd : decode cc pc = .ok (.invokestatic idx, 3)) (hf : 1 ≤ R0.frames) (hlo : (rest.map fun v => v.category).sum + 15 ≤ R0.locals) (hkc : kc ≤ R0.cells) (hks : ks ≤ R0.slots) (kk : T X A Z nL kc ks (pc + 3) lv (.long (lmin x y) :: rest) Wd o) : T X A Z nL kc ks pc lv (.long y :: .long x :: rest) Wd o := by
  obtain ⟨p0, l, e, Rm, s, m, args, below, meth, c⟩ := X
  obtain ⟨h1, h2, h3, h4, h5, h6, h7, rfl, h9, h10⟩ := h
  intro a ha H locs ls hW hS hl
  exact va_mmin_long h1 h2 (h3.trans hl.1.symm) h4 (h5 _ hlk) (h5 _ hm.1) (h5 _ hm.2.1) (h5 _ hm.2.2) hf hlo hkc hks hd (kk a ha H locs ls hW hS hl)
end CALLS
