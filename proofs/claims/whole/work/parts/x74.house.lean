/-! methods that may throw -/
abbrev Rx : Type := (Option Value × (Heap → Prop)) ⊕ (String × (Heap → Prop))
def Qx (A : Nat → Prop) (r : Rx) : Array Value → State → Outcome → State → Prop := match r with
  | .inl q => Qv A q
  | .inr _ => fun _ _ _ _ => False
def Xx (A : Nat → Prop) (r : Rx) : String → State → State → Prop := match r with
  | .inl _ => fun _ _ _ => False
  | .inr q => fun E st t => E = q.1 ∧ q.2 t.heap ∧ va_F A st t
def Zx (X : Cx) (A : Nat → Prop) {α : Type} (ι : α → Rx) : α → State → Prop := match X with
  | (_, _, _, R, s, _, args, below, _, _) => fun a => vx_MQ below (Qx A (ι a)) (Xx A (ι a)) args s R.cells R.slots A
def OkX (X : Cx) : Prop := match X with
  | (_, l, _, _, _, _, _, _, _, c) => (∀ x ∈ c.exceptionTable.toList, False) ∧ l.stackTraces = false
def CtX (G : Gx) (l : Launch) (K V : Nat → Nat) (A : Nat → Prop) (y : MethodName) (cc : ByteArray) (nL : Nat) (ret : Option FieldType) (rm : Room) (As : List Value) (Wd : Heap → Prop) {α : Type} (ι : α → Rx) (o : Option α) : Prop :=
  ∀ a, o = some a → vx_Met l y (Cond.code y cc nL ret :: UW) rm (PvE G K V A As Wd) (Qx A (ι a)) (Xx A (ι a)) rm.cells rm.slots A
theorem CtX.of {G : Gx} {l : Launch} {K V : Nat → Nat} {A : Nat → Prop} {y : MethodName} {cc : ByteArray} {nL : Nat} {ret : Option FieldType} {rm : Room} {As : List Value} {Wd : Heap → Prop} {α : Type} {ι : α → Rx} {o : Option α} (hst : l.stackTraces = false)
    (hy : plainName y.cls = true) (hn : (lg_sl As).length ≤ nL)
    (h : ∀ X : Cx, Ok G l X y.cls cc nL rm ret → OkE K V A X → OkX X → T X A (Zx X A ι) nL 0 0 0 (lv_args 0 As) [] Wd o) : CtX G l K V A y cc nL ret rm As Wd ι o := by
  intro a ha
  refine vx_ofW (cc := cc) (maxL := nL) (ret := ret) hy rfl ?_
  intro p e s m args below meth c s₁ B hml ht hv
  obtain ⟨⟨rfl, hW, hK, hNW⟩, hE⟩ := hv
  have hts := atoms_spec (ws := Cond.code y cc nL ret :: UW) B.pre
  have hown : s.vm.findClass y.cls = some m.cls := findClass_of_methodNamed B.named
  have hl := lv_entry As (n := nL) hn
  rw [lg_entry_eq]
  exact h (p, l, e, rm, s, m, As.toArray, below, meth, c) ⟨B.exec, B.bytes, hml, hown, fun w hw => hts w (List.mem_cons_of_mem _ hw), hK, B.notSynchronized, rfl, B.returns, rfl, hNW⟩ hE ⟨ht, hst⟩ a ha s.heap [] _ hW va_S.rf hl
theorem EV.narrow {K V : Nat → Nat} {A B : Nat → Prop} {U : State} {H : Heap} (h : EV K V A U H) (hAB : ∀ q, B q → A q) : EV K V B U H :=
  ⟨h.1, h.2.1.narrow hAB, va_Z.narrow h.2.2.1 hAB, va_Zq.narrow h.2.2.2.1 hAB, vx_Zq.narrow h.2.2.2.2.1 hAB, vx_Zq.narrow h.2.2.2.2.2.1 hAB, h.2.2.2.2.2.2.1, h.2.2.2.2.2.2.2⟩
section XR
variable {G : Gx} {l0 : Launch} {K V : Nat → Nat} {X : Cx} {own : String} {cc : ByteArray} {nL : Nat} {R0 : Room} {ret : Option FieldType} {A : Nat → Prop} {α : Type} {Z : α → State → Prop} {kc ks pc : Nat} {lv : List (Nat × Value)} {st rest : List Value} {o : Option α} {b p ci k idx n : Nat} {L : List Kd} {R : MR} {I : MI} {J : MJ} {Wd : Heap → Prop} {ι : α → Rx} {a : α}
theorem T_xiret {v : Int32} (h : Ok G l0 X own cc nL R0 (some .int)) (hd : decode cc pc = .ok (.ireturn, 1)) (hc : kc ≤ R0.cells) (hs : ks ≤ R0.slots) (hi : ι a = .inl (some (.int v), Wd)) : T X A (Zx X A ι) nL kc ks pc lv [.int v] Wd (some a) := by
  obtain ⟨p, l, e, R, s, m, args, below, meth, c⟩ := X
  intro a' ha H locs ls hW hS hl
  cases ha
  obtain ⟨h1, h2, h3, h4, h5, h6, h7, rfl, h9, h10⟩ := h
  refine W.widen (k := R.cells) (n := R.slots) hc hs ?_
  show W p l e R s m args below meth c H locs R.cells R.slots (vx_MQ below (Qx A (ι a)) (Xx A (ι a)) args s R.cells R.slots A) (F0 m pc ls [.int v])
  rw [hi]
  exact vx_ret (W.iret (Qc := Qv A (some (.int v), Wd)) h1 h2 h9 (fun t ht hWa => ⟨rfl, by rw [ht]; exact hW, hS.F ht⟩) hS.2.2 hd h7)
theorem T_xthrow (h : Ok G l0 X own cc nL R0 ret) (hE : OkE K V A X) (hX : OkX X) {cls text : String} {names : List String} {ik is ic sa : Nat} {Wd' : Heap → Prop} (hcls : Bundle.fit cls = true) (hnames : ∀ n ∈ names, Bundle.fit n = true) (hk : Cond.classLink own ik cls ∈ UW) (hini : Cond.initialized cls ∈ UW) (hstr : ∀ s H, EV K V A s H → vk_R own is text sa s) (hg : ∀ w ∈ (vx_atS own ic cls names).filter goodWord, w ∈ lw_tbl) (hng : ∀ w ∈ (vx_atS own ic cls names).filter (fun w => !goodWord w), w ∈ EWl) (hgood : ∀ w ∈ Cond.classLink own ik cls :: Cond.initialized cls :: vx_atS own ic cls names, vx_ot w = true)
    (d0 : decode cc pc = .ok (.new ik, 3)) (d3 : decode cc (pc + 3) = .ok (.dup, 1)) (d4 : decode cc (pc + 4) = .ok (.ldc is, 2)) (d6 : decode cc (pc + 6) = .ok (.invokespecial ic, 3)) (d9 : decode cc (pc + 9) = .ok (.athrow, 1)) (hRf : names.length + 3 < R0.frames) (hRl : (st.map fun v => v.category).sum + (13 * (names.length + 1) + 43) ≤ R0.locals) (hRc : kc + 1 ≤ R0.cells) (hRs : ks + 6 ≤ R0.slots) (hi : ι a = .inr (cls, Wd')) (hWd : ∀ H H' : Heap, (∀ q, q < H.size → H'[q]? = H[q]?) → Wd H → Wd' H') : T X A (Zx X A ι) nL kc ks pc lv st Wd (some a) := by
  obtain ⟨p, l, e, R, s, m, args, below, meth, c⟩ := X
  intro a' ha H locs ls hW hS hl
  cases ha
  obtain ⟨h1, h2, h3, h4, h5, h6, h7, rfl, h9, rfl, h11⟩ := h
  obtain ⟨x1, x2⟩ := hX
  have hE : EV K V A s s.heap := hE
  show W p l e R s m args below meth c H locs kc ks (vx_MQ below (Qx A (ι a)) (Xx A (ι a)) args s R.cells R.slots A) (F0 m pc ls st)
  rw [hi]
  refine vx_throwS h1 h2 x2 h4 hcls hnames (h5 _ hk) (h5 _ hini) (hstr s _ hE) (vx_hat (fun w hw => h5 _ (uw_in (hg w hw) (List.mem_filter.mp hw).2)) hng (fun w hw => va_Nw.use (ew_on w hw) (hE.2.2.2.2.2.2.1 w hw))) hgood hE.2.2.2.2.1 hE.2.2.2.2.2.1 hS (hl.1.trans h3.symm) d0 d3 d4 d6 d9 (fun x hx => (x1 x hx).elim) hRf hRl hRc hRs h7 (fun t ht1 ht2 ht3 => ⟨rfl, hWd H _ ht3 hW, Nat.le_trans hS.1 ht2, fun q q1 q2 => (ht3 q (Nat.lt_of_lt_of_le q1 hS.1)).trans (hS.2.1 q q1 q2)⟩) hS.2.2 hRc hRs
/-- a call of a method that returns an int or throws, in a body that catches -/
theorem T_callX {A1 : Nat → Prop} (hA1 : ∀ q, A1 q → A q) {β : Type} {ιc : β → Rx} {y : MethodName} {cc' : ByteArray} {nL' : Nat} {rm : Room} {As : List Value} {o1 : Option β} {F : Heap → Prop} {f : β → Option α} (h : Ok G l0 X own cc nL R0 ret) (hE : OkE K V A X) (hC : CtX G l0 K V A1 y cc' nL' (some .int) rm (.ref (b + p) :: As) (Rg G b L R I J) ιc o1) (hm : MWc y cc' nL' (some .int) n) (hv : MWv y ci) (hlk : Cond.methodLink own idx y ∈ UW) (hL : L[p]? = some (.inl ci)) (hd : decode cc pc = .ok (.invokevirtual idx, 3)) (hst : As.reverse ++ .ref (b + p) :: rest = st) (hn : As.length = n) (hR : RoomOk rm nL' R0 kc ks) (hrest : Nat.ble ((rest.map fun v => v.category).sum) 8 = true)
    (hF : ∀ H H' : Heap, H.size ≤ H'.size → (∀ q, q < H.size → ¬ A1 q → H'[q]? = H[q]?) → F H → F H')
    (kk : ∀ a v w, o1 = some a → ιc a = .inl (some (.int v), w) → T X A Z nL (kc + rm.cells) (ks + rm.slots) (pc + 3) lv (.int v :: rest) (fun H => w H ∧ F H) (f a))
    (kn : ∀ a v w, o1 = some a → ιc a = .inl (v, w) → ∃ x, v = some (.int x))
    (kx : ∀ a E w, o1 = some a → ιc a = .inr (E, w) → ∃ (hp : Nat), (∀ q9, T X A Z nL (kc + rm.cells) (ks + rm.slots) hp lv [.ref q9] (fun H => w H ∧ F H) (f a)) ∧ ∃ (own2 name : String) (pre suf : List ExceptionTableEntry) (xt : ExceptionTableEntry), own2 = own ∧ (match X with | (_, _, _, _, s, _, args, _, _, c) => c.exceptionTable.toList = pre ++ xt :: suf ∧ (∀ z ∈ pre, covers z pc = false ∨ (z.catchType ≠ 0 ∧ ∃ nm : String, (Cond.classLink own z.catchType nm).before args s = true ∧ va_Nc E nm s)) ∧ (Cond.classLink own xt.catchType name).before args s = true ∧ (Cond.castable E name).before args s = true) ∧ covers xt pc = true ∧ xt.catchType ≠ 0 ∧ xt.handlerPc = hp) :
    T X A Z nL kc ks pc lv st (fun H => Rg G b L R I J H ∧ F H) (o1.bind f) := by
  obtain ⟨p0, l, e, Rm, s, m, args, below, meth, c⟩ := X
  obtain ⟨h1, h2, h3, h4, h5, h6, h7, rfl, h9, rfl, h11⟩ := h
  have hE : EV K V A s s.heap := hE
  intro a' ha H locs ls hW hS hl
  obtain ⟨m1, m2, m3⟩ := hm
  obtain ⟨v1, v2, v3⟩ := hv
  cases ho : o1 with
  | none => rw [ho] at ha; cases ha
  | some a =>
    rw [ho] at ha
    have ha : f a = some a' := ha
    cases hcl : cls12[ci]? with
    | none => rw [hcl] at v3; cases v3
    | some q =>
      rw [hcl] at v3
      have v3 : q.1 = y.cls := by injection v3
      have hrc := va_recv h6 hW.1 hcl (ws_getO hL)
      rw [v3] at hrc
      subst hst
      have hrun := vx_runV (As := As) (rest := rest) (C := y.cls) (b := b + p) (locs := locs) (cells := kc) (slots := ks) (g := F0 m pc ls (As.reverse ++ .ref (b + p) :: rest)) (below := below) (meth := meth) (e := e) (H := H) ⟨h1, h2, h3, h4, h5⟩ (hC a ho) ⟨callB_of n h5 (goodUW m1) rfl rfl rfl (h5 _ m2) (h5 _ hlk) m3 hR.1, h5 _ v1, h5 _ v2⟩ ⟨PvE_blind, hrc, fun U hU hWm => ⟨⟨rfl, by rw [hU]; exact hW.1, va_K.moved hWm.alike h6, nw_warm hWm h11⟩, by rw [hU]; exact (hE.to hS hWm).narrow hA1⟩⟩ rfl hn hl.1 rfl (lv_room (Nat.le_of_ble_eq_true hrest)) hd hR.2
      intro T0 hT X0
      rcases hrun T0 hT X0 with ⟨v, st₀, t, T', L', h0, X', hL', e1, e2, hq, stp⟩ | ⟨q9, st₀, t, T', L', E, ce, h0, X', hL', e1, e2, hx, hce, hcv, hcf, stp⟩
      · cases hia : ιc a with
        | inr r =>
          rw [hia] at hq
          exact hq.elim
        | inl r =>
          obtain ⟨rv, rw'⟩ := r
          rw [hia] at hq
          obtain ⟨hv', hw, hz, hk⟩ := hq
          have hv' : v = rv := by injection hv'
          subst hv'
          obtain ⟨x, rfl⟩ := kn a _ _ ho hia
          rw [h0] at hz hk
          obtain ⟨t2, a1, b1⟩ := kk a x rw' ho hia a' ha T'.heap (locs ++ L') ls ⟨by rw [e1]; exact hw, hF H _ (by rw [e1]; exact hz) (fun q h1 h2 => by rw [e1]; exact hk q h1 h2) hW.2⟩ ⟨Nat.le_trans hS.1 (by rw [e1]; exact hz), fun q h1 h2 => by rw [e1, hk q (Nat.lt_of_lt_of_le h1 hS.1) (fun z => h2 (hA1 q z))]; exact hS.2.1 q h1 h2, fun q hq => by
            rcases List.mem_append.mp hq with h | h
            · exact hS.2.2 q h
            · exact hA1 _ (hL' q h)⟩ hl T' rfl X'
          exact ⟨t2, stp t2 a1, b1⟩
      · cases hia : ιc a with
        | inl r =>
          rw [hia] at hx
          exact hx.elim
        | inr r =>
          obtain ⟨rE, rw'⟩ := r
          rw [hia] at hx
          obtain ⟨hEq, hw, hz, hk⟩ := hx
          have hEq : E = rE := hEq
          subst hEq
          rw [h0] at hz hk
          obtain ⟨hp, kh, own2, name, pre, suf, xt, rfl, ⟨q1, q2, q3, q4⟩, q5, q6, rfl⟩ := kx a E rw' ho hia
          have hV : vx_W p0 l e Rm s m args below meth c T'.heap (locs ++ L') (kc + rm.cells) (ks + rm.slots) (Z a') (F0 m pc ls rest) q9 := vx_catch h4 pre xt suf q1 q2 q5 q6 q3 q4 (by rw [e1]; exact hce) hcv hcf (kh q9 a' ha T'.heap (locs ++ L') ls ⟨by rw [e1]; exact hw, hF H _ (by rw [e1]; exact hz) (fun q h1 h2 => by rw [e1]; exact hk q h1 h2) hW.2⟩ ⟨Nat.le_trans hS.1 (by rw [e1]; exact hz), fun q h1 h2 => by rw [e1, hk q (Nat.lt_of_lt_of_le h1 hS.1) (fun z => h2 (hA1 q z))]; exact hS.2.1 q h1 h2, fun q hq => by
            rcases List.mem_append.mp hq with h | h
            · exact hS.2.2 q h
            · exact hA1 _ (hL' q h)⟩ hl)
          obtain ⟨t2, a1, b1⟩ := hV T' rfl X'
          exact ⟨t2, stp.trans a1, b1⟩
end XR
