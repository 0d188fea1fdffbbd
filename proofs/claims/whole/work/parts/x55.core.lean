/-! worlds as memories: a region of cells from the address b on; kinds of cells; int, long and reference memories by place and index -/
def UW : List Cond := lw_tbl.filter goodWord
theorem uw_in {w : Cond} (h : w ∈ lw_tbl) (g : goodWord w = true) : w ∈ UW := List.mem_filter.mpr ⟨h, g⟩
theorem uwW {args : Array Value} {s : State} (hts : ∀ w ∈ UW, w.before args s = true) {w : Cond} (hw : w ∈ UW) (a' : Array Value) (U : State) (hW : s.WarmedH U.vm) : w.before a' U = true := word_at hW (good_of_word (List.mem_filter.mp hw).2) (hts w hw)
abbrev Kd : Type := Nat ⊕ (Nat × Nat)
abbrev MR : Type := Nat → Nat → Value
abbrev Gx : Type := va_G × (Nat → ClassId)
abbrev Cx : Type := Program × Launch × Env × Room × State × MethodId × Array Value × List Frame × Method × Code
def cls12 : List vw_C := [(RX0, TX0, 20), (RX1, TX1, 5), (RX2, TX2, 7), (RX3, TX3, 2), (RX4, TX4, 6), (RX5, TX5, 4), (RX6, TX6, 8), (RX7, TX7, 7), (RX8, TX8, 11), (RX9, TX9, 6), (RX10, TX10, 14), (RX11, TX11, 80)]
def tyF : Nat → Nat → FieldType := fun ci => match ci with
  | 0 => tyX0 | 1 => tyX1 | 2 => tyX2 | 3 => tyX3 | 4 => tyX4 | 5 => tyX5 | 6 => tyX6 | 7 => tyX7 | 8 => tyX8 | 9 => tyX9 | 10 => tyX10 | _ => tyX11
def nF (ci : Nat) : Nat := match cls12[ci]? with
  | some q => q.2.2
  | none => 0
def tys4 (aC : Nat → ClassId) : List (ClassId × FieldType) := [(aC 0, .int), (aC 1, .long), (aC 2, .byte), (aC 3, .boolean)]
theorem cls_in0 : cls12.all (fun q => (u_ws q.1 q.2.1 q.2.2).all (fun w => decide (w ∈ lw_tbl) && goodWord w)) = true := by decide +kernel
theorem cls_in {ci : Nat} {q : vw_C} (h : cls12[ci]? = some q) : ∀ w ∈ u_ws q.1 q.2.1 q.2.2, w ∈ UW := fun w hw => by
  have h1 := List.all_eq_true.mp (List.all_eq_true.mp cls_in0 q (List.mem_of_getElem? h)) w hw
  simp only [Bool.and_eq_true, decide_eq_true_eq] at h1
  exact uw_in h1.1 h1.2
theorem cls_ty {ci : Nat} {q : vw_C} (h : cls12[ci]? = some q) : ∀ k, k < q.2.2 → parseFieldDescriptor (q.2.1 k).2.2.1 = some (tyF ci k) := by
  match ci, h with
  | 0, h => cases h; exact tyX0_ok
  | 1, h => cases h; exact tyX1_ok
  | 2, h => cases h; exact tyX2_ok
  | 3, h => cases h; exact tyX3_ok
  | 4, h => cases h; exact tyX4_ok
  | 5, h => cases h; exact tyX5_ok
  | 6, h => cases h; exact tyX6_ok
  | 7, h => cases h; exact tyX7_ok
  | 8, h => cases h; exact tyX8_ok
  | 9, h => cases h; exact tyX9_ok
  | 10, h => cases h; exact tyX10_ok
  | 11, h => cases h; exact tyX11_ok
  | k + 12, h => simp [cls12] at h
theorem cls_nm {ci : Nat} {q : vw_C} (h : cls12[ci]? = some q) : ∀ a, a < q.2.2 → ∀ b, b < q.2.2 → a ≠ b → (q.2.1 a).2.1 ≠ (q.2.1 b).2.1 := by
  match ci, h with
  | 0, h => cases h; exact nmX0
  | 1, h => cases h; exact nmX1
  | 2, h => cases h; exact nmX2
  | 3, h => cases h; exact nmX3
  | 4, h => cases h; exact nmX4
  | 5, h => cases h; exact nmX5
  | 6, h => cases h; exact nmX6
  | 7, h => cases h; exact nmX7
  | 8, h => cases h; exact nmX8
  | 9, h => cases h; exact nmX9
  | 10, h => cases h; exact nmX10
  | 11, h => cases h; exact nmX11
  | k + 12, h => simp [cls12] at h
def fv (t : FieldType) (vr : Value) (vi : Int32) (vj : Int64) : Value := match t with
  | .long => .long vj
  | .array _ => vr
  | .object _ => vr
  | _ => .int vi
def isI (t : FieldType) : Bool := match t with
  | .int => true
  | .boolean => true
  | _ => false
def isR (t : FieldType) : Bool := match t with
  | .array _ => true
  | .object _ => true
  | _ => false
theorem fv_i {t : FieldType} (h : isI t = true) (vr : Value) (vi : Int32) (vj : Int64) : fv t vr vi vj = .int vi := by cases t <;> simp_all [fv, isI]
theorem fv_r {t : FieldType} (h : isR t = true) (vr : Value) (vi : Int32) (vj : Int64) : fv t vr vi vj = vr := by cases t <;> simp_all [fv, isR]
def flds (ci p : Nat) (R : MR) (I : MI) (J : MJ) : List Value := (List.range (nF ci)).map fun k => fv (tyF ci k) (R p k) (I p k) (J p k)
def arC (t n : Nat) (fi : Nat → Int32) (fj : Nat → Int64) : vp_A := if t = 1 then (n, .inr (.inl fj)) else (n, .inl fi)
def ent (aC : Nat → ClassId) (R : MR) (I : MI) (J : MJ) (p : Nat) (kd : Kd) : va_E := match kd with
  | .inl ci => .inr (ci, flds ci p R I J)
  | .inr tn => .inl (aC tn.1, arC tn.1 tn.2 (I p) (J p))
def wsOf (b : Nat) (aC : Nat → ClassId) (L : List Kd) (R : MR) (I : MI) (J : MJ) : va_W := L.mapIdx fun p kd => (b + p, ent aC R I J p kd)
def Rg (G : Gx) (b : Nat) (L : List Kd) (R : MR) (I : MI) (J : MJ) (H : Heap) : Prop := va_P G.1 cls12 (wsOf b G.2 L R I J) H
theorem ws_get {b p : Nat} {aC : Nat → ClassId} {L : List Kd} {R : MR} {I : MI} {J : MJ} {kd : Kd} (h : L[p]? = some kd) : (wsOf b aC L R I J)[p]? = some (b + p, ent aC R I J p kd) := by
  simp [wsOf, List.getElem?_mapIdx, h]
theorem ent_row {aC : Nat → ClassId} {R R' : MR} {I I' : MI} {J J' : MJ} {p : Nat} {kd : Kd} (h1 : R' p = R p) (h2 : I' p = I p) (h3 : J' p = J p) : ent aC R' I' J' p kd = ent aC R I J p kd := by
  cases kd <;> simp [ent, flds, h1, h2, h3]
theorem ws_set {b p : Nat} {aC : Nat → ClassId} {L : List Kd} {R R' : MR} {I I' : MI} {J J' : MJ} {kd : Kd} (h : L[p]? = some kd) (hq : ∀ q, q ≠ p → R' q = R q ∧ I' q = I q ∧ J' q = J q) : (wsOf b aC L R I J).set p (b + p, ent aC R' I' J' p kd) = wsOf b aC L R' I' J' := by
  have hlt : p < L.length := (List.getElem?_eq_some_iff.mp h).1
  apply List.ext_getElem?
  intro i
  rw [List.getElem?_set]
  by_cases hi : p = i
  · subst hi
    rw [if_pos rfl, if_pos (by simpa [wsOf] using hlt), ws_get h]
  · rw [if_neg hi]
    obtain ⟨q1, q2, q3⟩ := hq i (fun e => hi e.symm)
    simp only [wsOf, List.getElem?_mapIdx]
    cases L[i]? with
    | none => rfl
    | some kd2 => simp [ent_row q1 q2 q3]
theorem ws_D {b : Nat} {aC : Nat → ClassId} {L : List Kd} {R : MR} {I : MI} {J : MJ} {A : Nat → Prop} (hA : ∀ k, k < L.length → A (b + k)) : va_D A (wsOf b aC L R I J) := by
  refine ⟨fun i j x y hx hy e => ?_, fun k x hx => ?_⟩
  · simp only [wsOf, List.getElem?_mapIdx] at hx hy
    cases h1 : L[i]? with
    | none => rw [h1] at hx; cases hx
    | some a1 =>
      cases h2 : L[j]? with
      | none => rw [h2] at hy; cases hy
      | some a2 =>
        rw [h1] at hx; rw [h2] at hy
        cases hx; cases hy
        exact Nat.add_left_cancel e
  · simp only [wsOf, List.getElem?_mapIdx] at hx
    cases h1 : L[k]? with
    | none => rw [h1] at hx; cases hx
    | some a1 =>
      rw [h1] at hx; cases hx
      exact hA k (List.getElem?_eq_some_iff.mp h1).1
theorem flds_get {ci p k : Nat} {R : MR} {I : MI} {J : MJ} (hk : k < nF ci) : (flds ci p R I J)[k]? = some (fv (tyF ci k) (R p k) (I p k) (J p k)) := by
  simp [flds, hk]
theorem flds_len {ci p : Nat} {R : MR} {I : MI} {J : MJ} : (flds ci p R I J).length = nF ci := by simp [flds]
theorem flds_set {ci p k : Nat} {R R' : MR} {I I' : MI} {J J' : MJ} {v : Value} (hv : v = fv (tyF ci k) (R' p k) (I' p k) (J' p k)) (ho : ∀ j, j ≠ k → R' p j = R p j ∧ I' p j = I p j ∧ J' p j = J p j) : (flds ci p R I J).set k v = flds ci p R' I' J' := by
  apply List.ext_getElem?
  intro i
  rw [List.getElem?_set]
  by_cases hi : k = i
  · subst hi
    by_cases hk : k < nF ci
    · rw [if_pos rfl, if_pos (by rw [flds_len]; exact hk), flds_get hk, hv]
    · rw [if_pos rfl, if_neg (by rw [flds_len]; exact hk)]
      simp [flds, hk]
  · rw [if_neg hi]
    obtain ⟨q1, q2, q3⟩ := ho i (fun e => hi e.symm)
    by_cases hk : i < nF ci
    · rw [flds_get hk, flds_get hk, q1, q2, q3]
    · simp [flds, hk]
/-- the links of nest mates' methods -/
def NWl : List Cond := [
  (Jvm.Cond.methodLinkNest "SunBills$Book" (44 : Nat) ({ cls := "SunBills$Laws", name := "<init>", desc := "()V" } : Jvm.MethodName) "SunBills"),
  (Jvm.Cond.methodLinkNest "SunBills" (36 : Nat) ({ cls := "SunBills$Town", name := "<init>", desc := "()V" } : Jvm.MethodName) "SunBills"),
  (Jvm.Cond.methodLinkNest "SunBills" (49 : Nat) ({ cls := "SunBills$Days", name := "<init>", desc := "()V" } : Jvm.MethodName) "SunBills"),
  (Jvm.Cond.methodLinkNest "SunBills" (56 : Nat) ({ cls := "SunBills$Undoing", name := "<init>", desc := "()V" } : Jvm.MethodName) "SunBills"),
  (Jvm.Cond.methodLinkNest "SunBills" (63 : Nat) ({ cls := "SunBills$Diary", name := "<init>", desc := "()V" } : Jvm.MethodName) "SunBills"),
  (Jvm.Cond.methodLinkNest "SunBills" (70 : Nat) ({ cls := "SunBills$Planner", name := "<init>", desc := "()V" } : Jvm.MethodName) "SunBills"),
  (Jvm.Cond.methodLinkNest "SunBills" (77 : Nat) ({ cls := "SunBills$Fraction", name := "<init>", desc := "()V" } : Jvm.MethodName) "SunBills"),
  (Jvm.Cond.methodLinkNest "SunBills$Reader" (96 : Nat) ({ cls := "SunBills", name := "isWithin", desc := "(III)Z" } : Jvm.MethodName) "SunBills"),
  (Jvm.Cond.methodLinkNest "SunBills$Book" (88 : Nat) ({ cls := "SunBills", name := "isToldDay", desc := "(I)Z" } : Jvm.MethodName) "SunBills"),
  (Jvm.Cond.methodLinkNest "SunBills$Planner" (48 : Nat) ({ cls := "SunBills", name := "isAmong", desc := "(II)Z" } : Jvm.MethodName) "SunBills"),
  (Jvm.Cond.methodLinkNest "SunBills$Diary" (35 : Nat) ({ cls := "SunBills", name := "isWithin", desc := "(III)Z" } : Jvm.MethodName) "SunBills")]
theorem nw_tbl : ∀ w ∈ NWl, w ∈ lw_tbl := by decide +kernel
theorem nw_on : ∀ w ∈ NWl, w.onTables = true := by decide +kernel
theorem nw_warm {s U : State} (hW : s.WarmedH U.vm) (h : ∀ w ∈ NWl, va_Nw w s) : ∀ w ∈ NWl, va_Nw w U := by
  intro w hw
  have h1 := h w hw
  simp only [NWl, List.mem_cons, List.not_mem_nil, or_false] at hw
  rcases hw with rfl | rfl | rfl | rfl | rfl | rfl | rfl | rfl | rfl | rfl | rfl <;> exact va_Nw.warmM hW h1
theorem nw_same {s U : State} (hv : s.vm = U.vm) (h : ∀ w ∈ NWl, va_Nw w s) : ∀ w ∈ NWl, va_Nw w U := fun w hw => va_Nw.same (nw_on w hw) hv (h w hw)
theorem nF_of {ci : Nat} {q : vw_C} (h : cls12[ci]? = some q) : nF ci = q.2.2 := by simp [nF, h]
theorem Rg_lt {G : Gx} {b : Nat} {L : List Kd} {R : MR} {I : MI} {J : MJ} {H : Heap} (h : Rg G b L R I J H) {p : Nat} (hp : p < L.length) : b + p < H.size := by
  have h1 : L[p]? = some L[p] := List.getElem?_eq_getElem hp
  exact (h p _ (ws_get h1)).lt
/-- the judgement: from this frame and world the machine comes to the end that o's value names -/
def T (X : Cx) (A : Nat → Prop) {α : Type} (Z : α → State → Prop) (nL kc ks pc : Nat) (lv : List (Nat × Value)) (st : List Value) (Wd : Heap → Prop) (o : Option α) : Prop :=
  match X with
  | (p, l, e, R, s, m, args, below, meth, c) => ∀ a, o = some a → ∀ (H : Heap) (locs : List Loc) (ls : Array Slot), Wd H → va_S A s.heap H locs → lv_has ls nL lv → W p l e R s m args below meth c H locs kc ks (Z a) (F0 m pc ls st)
def Ok (G : Gx) (l0 : Launch) (X : Cx) (own : String) (cc : ByteArray) (nL : Nat) (R0 : Room) (ret : Option FieldType) : Prop :=
  match X with
  | (p, l, _, R, s, m, args, _, meth, c) => p.tables.exec = Jvm.exec ∧ c.code = cc ∧ c.maxLocals = nL ∧ s.vm.findClass own = some m.cls ∧ (∀ w ∈ UW, w.before args s = true) ∧ va_K G.1 cls12 (tys4 G.2) s ∧ meth.locks = false ∧ R = R0 ∧ meth.sig.returnType = ret ∧ l = l0 ∧ ∀ w ∈ NWl, va_Nw w s
def Qv (A : Nat → Prop) (r : Option Value × (Heap → Prop)) : Array Value → State → Outcome → State → Prop := fun _ st oc t => oc = .returned r.1 ∧ r.2 t.heap ∧ va_F A st t
def Pv (G : Gx) (As : List Value) (Wd : Heap → Prop) : Array Value → State → Prop := fun v U => v = As.toArray ∧ Wd U.heap ∧ va_K G.1 cls12 (tys4 G.2) U ∧ ∀ w ∈ NWl, va_Nw w U
def Zm (X : Cx) (A : Nat → Prop) {α : Type} (ι : α → Option Value × (Heap → Prop)) : α → State → Prop :=
  match X with
  | (_, _, _, R, s, _, args, below, _, _) => fun a => MQ below (Qv A (ι a)) args s R.cells R.slots A
/-- the contract of a method that does what o says -/
def Ct (G : Gx) (l : Launch) (A : Nat → Prop) (y : MethodName) (cc : ByteArray) (nL : Nat) (ret : Option FieldType) (rm : Room) (As : List Value) (Wd : Heap → Prop) {α : Type} (ι : α → Option Value × (Heap → Prop)) (o : Option α) : Prop :=
  ∀ a, o = some a → Met l y (Cond.code y cc nL ret :: UW) rm (Pv G As Wd) (Qv A (ι a)) rm.cells rm.slots A
theorem Ct.of {G : Gx} {l : Launch} {A : Nat → Prop} {y : MethodName} {cc : ByteArray} {nL : Nat} {ret : Option FieldType} {rm : Room} {As : List Value} {Wd : Heap → Prop} {α : Type} {ι : α → Option Value × (Heap → Prop)} {o : Option α}
    (hy : plainName y.cls = true) (hn : (lg_sl As).length ≤ nL)
    (h : ∀ X : Cx, Ok G l X y.cls cc nL rm ret → T X A (Zm X A ι) nL 0 0 0 (lv_args 0 As) [] Wd o) : Ct G l A y cc nL ret rm As Wd ι o := by
  intro a ha
  refine Met.ofW (cc := cc) (maxL := nL) (ret := ret) hy rfl ?_
  intro p e s m args below meth c s₁ B hml hv
  obtain ⟨rfl, hW, hK, hNW⟩ := hv
  have hts := atoms_spec (ws := Cond.code y cc nL ret :: UW) B.pre
  have hown : s.vm.findClass y.cls = some m.cls := findClass_of_methodNamed B.named
  have hl := lv_entry As (n := nL) hn
  rw [lg_entry_eq]
  exact h (p, l, e, rm, s, m, As.toArray, below, meth, c) ⟨B.exec, B.bytes, hml, hown, fun w hw => hts w (List.mem_cons_of_mem _ hw), hK, B.notSynchronized, rfl, B.returns, rfl, hNW⟩ a ha s.heap [] _ hW va_S.rf hl
theorem Pv_blind {G : Gx} {As : List Value} {Wd : Heap → Prop} : FrameBlind (Pv G As Wd) := fun a U g mk q => by
  obtain ⟨q0, q1, q2, q3⟩ := q
  exact ⟨q0, q1, va_K.moved (u := U) (U := U.calling g mk a) (Vm.Alike.refl U.vm) q2, nw_same (s := U) (U := U.calling g mk a) rfl q3⟩
