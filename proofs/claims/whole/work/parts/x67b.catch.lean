/-! a throw caught by this method's own table: my own search through the rows -/
theorem hs_row {Q : Handler → Pre} {E : CtlPost} {e : Env} {d : Bool} {acts : List Action} {S : State} {f : JFrame} {a : Addr} {x : ExceptionTableEntry} {t : List ExceptionTableEntry} {k : ClassId} {cell : Cell} (hx : covers x f.pc = true) (h0 : x.catchType ≠ 0) (hl : S.vm.ClassLinks e.platform f.method.cls x.catchType k) (hcell : S.heap[a]? = some cell) (hobj : ∀ k, cell.vm ≠ .statics k) (h1 : ∃ z, S.vm.classes[cell.cls]? = some z) (h2 : ∃ z, S.vm.classes[k]? = some z) : wp (findHandler.go f a (x :: t)) Q E e d acts S ↔ (if S.vm.assignable cell.cls k = true then Q (.found x.handlerPc) d acts (S.setVm (S.vm.noted f.method.cls x.catchType (.cls k))) else wp (findHandler.go f a t) Q E e d acts (S.setVm (S.vm.noted f.method.cls x.catchType (.cls k)))) := by
  have hal : S.vm.Alike (S.vm.noted f.method.cls x.catchType (.cls k)) := (Vm.Alike.refl S.vm).noted _ _ _
  have ⟨r1, r2⟩ := (resolveClass_links e.toSetting hl).op (op := VmOp.resolveClass f.method.cls x.catchType) rfl
  obtain ⟨z1, h1⟩ := h1
  obtain ⟨z2, h2⟩ := h2
  obtain ⟨y1, g1, -⟩ := hal.2.2 _ _ h1
  obtain ⟨y2, g2, -⟩ := hal.2.2 _ _ h2
  have he := hal.assignable cell.cls k
  simp only [covers] at hx
  cases hc : S.vm.assignable cell.cls k with
  | true => simp [findHandler.go, hx, h0, r1, r2, hcell, hobj, g1, g2, he, hc, VmOp.dirties, VmOp.acts]
  | false => simp [findHandler.go, hx, h0, r1, r2, hcell, hobj, g1, g2, he, hc, VmOp.dirties, VmOp.acts]
/-- the rows ahead of x let it by, x takes it: the search ends at x, and the tables are only warmer -/
theorem hs_go {e : Env} {s S : State} {f : JFrame} {a : Addr} {cell : Cell} {x : ExceptionTableEntry} {suf : List ExceptionTableEntry} {k : ClassId} (hobj : ∀ k, cell.vm ≠ .statics k) (hk : ∃ z, s.vm.classes[cell.cls]? = some z) (hx : covers x f.pc = true) (h0 : x.catchType ≠ 0) (hl : s.vm.ClassLinks e.platform f.method.cls x.catchType k) (hfit : s.vm.assignable cell.cls k = true) (hcell : S.heap[a]? = some cell) : ∀ (pre : List ExceptionTableEntry) (u : Vm), s.WarmedH u → (∀ y ∈ pre, covers y f.pc = false ∨ (y.catchType ≠ 0 ∧ ∃ j, s.vm.ClassLinks e.platform f.method.cls y.catchType j ∧ s.vm.assignable cell.cls j = false)) → ∃ vm', s.WarmedH vm' ∧ ∀ (Q : Handler → Pre) (E : CtlPost) (d : Bool) (acts : List Action), wp (findHandler.go f a (pre ++ x :: suf)) Q E e d acts (S.setVm u) ↔ Q (.found x.handlerPc) d acts (S.setVm vm')
  | [], u, hW, _ => by
    obtain ⟨z, hk⟩ := hk
    obtain ⟨z', hk', -⟩ := hW.alike.2.2 _ _ hk
    obtain ⟨_, _, _, q, hd, _, _, _, _, hq, _, ho⟩ := hl.here
    obtain ⟨q', hq', -⟩ := hW.alike.2.2 _ _ hq
    refine ⟨u.noted f.method.cls x.catchType (.cls k), hW.noted hd ho (State.rightAt_cls hl), fun Q E d acts => ?_⟩
    rw [List.nil_append, hs_row (S := S.setVm u) hx h0 (hW.classLinks hl) hcell hobj ⟨z', hk'⟩ ⟨q', hq'⟩, if_pos (show (S.setVm u).vm.assignable cell.cls k = true from (hW.alike.assignable _ _).trans hfit)]
    exact Iff.rfl
  | y :: ys, u, hW, hp => by
    have hys := fun z hz => hp z (List.mem_cons_of_mem y hz)
    cases hcov : covers y f.pc with
    | false =>
      obtain ⟨vm', hW', hQ⟩ := hs_go (suf := suf) hobj hk hx h0 hl hfit hcell ys u hW hys
      refine ⟨vm', hW', fun Q E d acts => ?_⟩
      rw [List.cons_append, W.findHandler_go_skip hcov]
      exact hQ Q E d acts
    | true =>
      rcases hp y List.mem_cons_self with h | ⟨hy0, j, hj, hno⟩
      · rw [h] at hcov; cases hcov
      · obtain ⟨z, hk1⟩ := hk
        obtain ⟨z', hk', -⟩ := hW.alike.2.2 _ _ hk1
        obtain ⟨_, _, _, q, hd, _, _, _, _, hq, _, ho⟩ := hj.here
        obtain ⟨q', hq', -⟩ := hW.alike.2.2 _ _ hq
        obtain ⟨vm', hW', hQ⟩ := hs_go (suf := suf) hobj ⟨z, hk1⟩ hx h0 hl hfit hcell ys (u.noted f.method.cls y.catchType (.cls j)) (hW.noted hd ho (State.rightAt_cls hj)) hys
        refine ⟨vm', hW', fun Q E d acts => ?_⟩
        rw [List.cons_append, hs_row (S := S.setVm u) hcov hy0 (hW.classLinks hj) hcell hobj ⟨z', hk'⟩ ⟨q', hq'⟩, if_neg (show ¬ (S.setVm u).vm.assignable cell.cls j = true from fun h => by rw [show (S.setVm u).vm.assignable cell.cls j = false from (hW.alike.assignable _ _).trans hno] at h; cases h)]
        exact hQ Q E d acts
/-- one step: the frame goes on at the handler -/
theorem hs_step {tb : Tables} {e : Env} {T target : State} {g : JFrame} {c : Code} {below : List Frame} {a : Addr} {pc : Nat} {vm' : Vm} (h : At T g.method c below) (hf : ∀ (Q : Handler → Pre) (E : CtlPost) (d : Bool) (acts : List Action), wp (findHandler g a) Q E e d acts ((T.setTop g).pushFrame (.throwing a)) ↔ Q (.found pc) d acts (((T.setTop g).pushFrame (.throwing a)).setVm vm')) (hr : Steps tb e below ((T.setVm vm').setTop { g with pc := pc, stack := [.ref a] }) target) : Steps tb e below ((T.setTop g).pushFrame (.throwing a)) target := by
  obtain ⟨g0, hg0⟩ := Option.isSome_iff_exists.mp h.top
  obtain ⟨r, hfr⟩ := State.topJava?_eq_some.mp hg0
  obtain ⟨hgo, hin⟩ := h.throwing a
  have key : (stepThrowing e ((T.setTop g).pushFrame (.throwing a)) a (.java g :: r)).1 = (T.setVm vm').setTop { g with pc := pc, stack := [.ref a] } := by
    rw [State.setTop_of_frames _ (show (T.setVm vm').frames = .java g0 :: r from hfr)]
    simp only [stepThrowing, searchFrame, vmDo]
    generalize hres : Sem.go _ e false [] ((T.setTop g).pushFrame (.throwing a)) = res
    obtain ⟨as, rfl, -⟩ := Sem.eq_ok_of hres (a := Handler.found pc) (s' := ((T.setTop g).pushFrame (.throwing a)).setVm vm') (acts' := []) (by simp [hf _ _ _ _])
    rw [State.pushFrame, State.setTop_of_frames _ hfr, State.setFrames_setFrames]
    show ((T.setVm vm').setFrames _).setFrames _ = _
    rw [State.setFrames_setFrames]
  refine Steps.head hgo hin ?_
  rw [stepThread_throwing (frames_entered h.top _), hfr, List.tail_cons, key]
  exact hr
theorem hs_catch {p : Program} {l : Launch} {e : Env} {R : Room} {s : State} {m : MethodId} {args : Array Value} {below : List Frame} {meth : Method} {c : Code} {T : State} {locs : List Loc} {cells slots : Nat} (X : Stand p l e R s m args below meth c T locs cells slots) {a : Addr} {g : JFrame} (hg : g.method = m) {cell : Cell} (hcell : T.heap[a]? = some cell) (hobj : cell.vm.isStatics = false) (hk : ∃ z, s.vm.classes[cell.cls]? = some z) {pre suf : List ExceptionTableEntry} {x : ExceptionTableEntry} (hs : c.exceptionTable.toList = pre ++ x :: suf) (hp : ∀ y ∈ pre, covers y g.pc = false ∨ (y.catchType ≠ 0 ∧ ∃ j, s.vm.ClassLinks e.platform m.cls y.catchType j ∧ s.vm.assignable cell.cls j = false)) (hx : covers x g.pc = true) (h0 : x.catchType ≠ 0) {k : ClassId} (hl : s.vm.ClassLinks e.platform m.cls x.catchType k) (hfit : s.vm.assignable cell.cls k = true) : ∃ vm', Stand p l e R s m args below meth c (T.setVm vm') locs cells slots ∧ Steps p.tables e below ((T.setTop g).pushFrame (.throwing a)) ((T.setVm vm').setTop { g with pc := x.handlerPc, stack := [.ref a] }) := by
  subst hg
  obtain ⟨vm', hW', hQ⟩ := hs_go (e := e) (S := (T.setTop g).pushFrame (.throwing a)) (f := g) (a := a) (suf := suf) (VmData.ne_statics_of hobj) hk hx h0 hl hfit hcell pre T.vm X.warmed hp
  refine ⟨vm', X.noted hW', hs_step X.here (fun Q E d acts => ?_) (Steps.refl _)⟩
  rw [W.findHandler_eq (s := (T.setTop g).pushFrame (.throwing a)) (meth := meth) (code := c) X.method' X.code, hs]
  exact hQ Q E d acts
