/-! a throw of NoSuchElementException with a text, no stack traces: her constructor calls her superclass by the pool's entry 13 -/
def nsC : String := "java/util/NoSuchElementException"
def rtC : String := "java/lang/RuntimeException"
def exC : String := "java/lang/Exception"
def b13 : ByteArray := ⟨#[0x2a, 0x2b, 0xb7, 0x00, 0x0d, 0xb1]⟩
def nsA : Cond := .code (Bundle.initS nsC) Bundle.six 2 none
def nsB : Cond := .methodLink nsC 7 (Bundle.initS rtC)
/-- the words of such a throw: those of the library's but two, which speak of entry 7 -/
def nsL (own : String) (ic : Nat) : List Cond := (Bundle.ownAtoms own ic nsC [rtC, exC]).filter (fun w => decide (w ≠ nsA) && decide (w ≠ nsB)) ++ Bundle.passSAtoms nsC rtC 13 b13
theorem ns_t : ∀ w ∈ Bundle.throwableAtoms, w ≠ nsA ∧ w ≠ nsB := by decide +kernel
theorem ns_s : ∀ w ∈ Bundle.throwableSAtoms, w ≠ nsA ∧ w ≠ nsB := by decide +kernel
theorem ns_c : ∀ w ∈ Bundle.chainSAtoms rtC [exC], w ≠ nsA ∧ w ≠ nsB := by decide +kernel
section NS
variable {p : Program} {l : Launch} {e : Env} {R : Room} {s : State} {m : MethodId} {args : Array Value} {below : List Frame} {meth : Method} {c : Code} {T0 : State} {locs : List Loc} {cells slots : Nat}
set_option maxHeartbeats 1000000 in
theorem ns_ctor (X : Stand p l e R s m args below meth c T0 locs cells slots) (hexec : p.tables.exec = Jvm.exec) (htr : e.platform.stackTraces = false) {own : String} {ic : Nat} (hown : s.vm.findClass own = some m.cls) (h : ∀ w ∈ nsL own ic, w.before args s = true)
    (hlocs : ∀ x ∈ locs, ∀ cell, s.heap[x.base]? = some cell → cell.vm.isStatics = false)
    {a : Addr} {cX : ClassId} {kX : Class} (hfX : s.vm.findClass nsC = some cX) (hkX : s.vm.classes[cX]? = some kX) (hcell : T0.heap[a]? = some (freshCell cX kX)) (hnew : s.heap.size ≤ a) {msg : Value} (hmsg : msg.isRef = true)
    {g : JFrame} (hg : g.method = m) (hsize : g.locals.size = c.maxLocals) (hlocked : g.locked = none) (hentered : g.entered = []) {rest : List Value} (hstack : g.stack = msg :: .ref a :: .ref a :: rest)
    (hd6 : decode c.code g.pc = .ok (.invokespecial ic, 3)) (hd9 : decode c.code (g.pc + 3) = .ok (.athrow, 1)) (hout : ∀ x ∈ c.exceptionTable.toList, covers x (g.pc + 3) = false)
    (hRf : 5 < R.frames) (hRl : 2 * g.monitorRoom + ((Value.ref a :: rest).map fun v => v.category).sum + 81 ≤ R.locals) (hlocks : meth.locks = false) :
    ∃ U : State, Steps p.tables e below (T0.setTop g) U ∧ U.status = .running ∧ Ended U below (.threw a) ∧ s.WarmedH U.vm ∧ s.sameButNew ({ U with vm := s.vm } : State) locs cells slots ∧ ∃ ce, U.heap[a]? = some ce ∧ s.vm.findClass nsC = some ce.cls ∧ ce.vm = .none := by
  have o1 : e.platform.frameOwnsMonitors = true := by rw [X.admits.platform]
  have o2 : e.platform.finalization = false := by rw [X.admits.platform]
  have o3 : e.platform.magicAccessors = ({} : Platform).magicAccessors := by rw [X.admits.platform]
  have kk : ∀ w, w ∈ Bundle.ownAtoms own ic nsC [rtC, exC] → w ≠ nsA ∧ w ≠ nsB → w.before args s = true := fun w hw hn => h w (List.mem_append_left _ (List.mem_filter.mpr ⟨hw, by simp [hn.1, hn.2]⟩))
  have kp : ∀ w, w ∈ Bundle.passSAtoms nsC rtC 13 b13 → w.before args s = true := fun w hw => h w (List.mem_append_right _ hw)
  -- the words of the tables
  obtain ⟨T, Z0, L, -, Y⟩ := ThrowableC.of_atoms (args := args) o1 o2 o3 (fun w hw => kk w (by simp [Bundle.ownAtoms, hw]) (ns_t w hw))
  obtain ⟨Z, M, LZ, LM, hnZ⟩ := Init0T.ofS_atoms (args := args) o3 L Y (fun w hw => kk w (by simp [Bundle.ownAtoms, hw]) (ns_s w hw))
  obtain ⟨P2, Ps, hlen, L2, hL, hP2, hl2, hl3⟩ := Bundle.chainS (args := args) o3 hnZ [exC] rtC (by decide +kernel) (by decide +kernel) (fun w hw => kk w (List.mem_append_left _ (List.mem_append_right _ (List.mem_append_right (Bundle.passSAtoms nsC rtC 7 Bundle.six) hw))) (ns_c w hw))
  obtain ⟨P1, L1, hP1, hs1⟩ := PassC.ofS_atoms (args := args) (s := s) o3 (X := nsC) (Y := rtC) (index := 13) (bytes := b13) (by decide +kernel) (by decide) (by decide +kernel) (by decide +kernel) (by decide +kernel) (by decide +kernel) kp
  have hsup : P1.sup = firstOf (Z.m T.toThrowableT) ((P2 :: Ps).map (·.toPassT)) := Option.some.inj (hs1.symm.trans hP2)
  have hcl : s.vm.findClass nsC = some P1.m.cls := findClass_of_methodNamed hP1
  cases Option.some.inj (hfX.symm.trans hcl)
  have kw : ∀ w, w ∈ Bundle.ownAtoms own ic nsC [rtC, exC] → w ≠ nsA ∧ w ≠ nsB → w.holds args s none s [] = true := fun w hw hn => kk w hw hn
  obtain ⟨q1, kX', hq1, hk, hord, -, -, -⟩ := Cond.instantiable_spec (kw (.instantiable nsC 6) (by simp [Bundle.ownAtoms]) (by decide +kernel))
  cases Option.some.inj (hq1.symm.trans hcl)
  cases Option.some.inj (hkX.symm.trans hk)
  -- which fillInStackTrace
  have sel : ∀ (y : MethodName) (my : MethodId), s.methodNamed? y = some my → (Cond.selects nsC y y).holds args s none s [] = true → y.cls = Bundle.tN → selectMethod e.platform s.vm P1.m.cls my = .method my := fun y my hy hsel hpn => by
    obtain ⟨c2, r2, m2, z1, z2, z3, z4, -⟩ := Cond.selects_spec hsel
    cases Option.some.inj (z1.symm.trans hcl)
    cases Option.some.inj (z2.symm.trans (State.methodFound?_of_named hy (by rw [hpn]; decide)))
    cases Option.some.inj (z3.symm.trans hy)
    rw [Launch.admits_selectMethod X.admits]; exact z4
  have hsel0 := sel Bundle.tFill0 T.fill0 Y.fill0 (kw _ (by simp [Bundle.ownAtoms]) (by decide +kernel)) rfl
  have hselF := sel Bundle.tFill T.fill Y.fill (kw _ (by simp [Bundle.ownAtoms]) (by decide +kernel)) rfl
  -- the statics of Throwable
  obtain ⟨cs, hcs, hiss⟩ := Y.statics
  obtain ⟨u0, hu0⟩ := Cond.staticRefV Y.unassigned L.unassignedStatic L.statics hcs hiss (kw (.isRef (.static Bundle.tN "UNASSIGNED_STACK" Bundle.steD)) (by simp [Bundle.ownAtoms]) (by decide +kernel))
  obtain ⟨sen, hsen⟩ := Cond.staticRefV Y.sentinel L.sentinelStatic L.statics hcs hiss (kw (.isRef (.static Bundle.tN "SUPPRESSED_SENTINEL" Bundle.listD)) (by simp [Bundle.ownAtoms]) (by decide +kernel))
  obtain ⟨ct, hct, het, -, hkeep⟩ := X.same.2.2.2.2.2 T.aS cs hcs
  have hfar : ∀ i, (⟨T.aS, i⟩ : Loc) ∉ locs := fun i hi => by
    have hz := hlocs _ hi cs hcs
    rw [hiss] at hz; cases hz
  have hkn : ct.vm ≠ .unknown := by
    rw [het]
    intro hz
    rw [show cs.vm = .unknown from hz] at hiss
    cases hiss
  have hne : T.aS ≠ a := Nat.ne_of_lt (Nat.lt_of_lt_of_le (Array.getElem?_eq_some_iff.mp hcs).1 hnew)
  -- the fields
  obtain ⟨iM, hM⟩ := Y.msg
  obtain ⟨n1, n2, fB, hn1, hn2, hn3, hn4, -, hnB, htB, hB⟩ := Cond.ownField (t := .object "java/lang/Object") Y.found L.cls (by decide +kernel) (kw (.fieldLink Bundle.tN 198 Bundle.tN "backtrace" "Ljava/lang/Object;") (by simp [Bundle.ownAtoms]) (by decide +kernel)) (kw (.lays Bundle.tN Bundle.tN "backtrace" "Ljava/lang/Object;") (by simp [Bundle.ownAtoms]) (by decide +kernel)) e.platform o3
  obtain ⟨tC, dC, hdC, eC⟩ := Cond.laysAt hcl hk Y.cause (kw (.lays nsC Bundle.tN "cause" "Ljava/lang/Throwable;") (by simp [Bundle.ownAtoms]) (by decide +kernel))
  obtain ⟨tS, dS, hdS, eS⟩ := Cond.laysAt hcl hk Y.stack (kw (.lays nsC Bundle.tN "stackTrace" Bundle.steD) (by simp [Bundle.ownAtoms]) (by decide +kernel))
  obtain ⟨tP, dP, hdP, eP⟩ := Cond.laysAt hcl hk Y.supp (kw (.lays nsC Bundle.tN "suppressedExceptions" Bundle.listD) (by simp [Bundle.ownAtoms]) (by decide +kernel))
  obtain ⟨tM, dM, hdM, eM⟩ := Cond.laysAt hcl hk hM (kw (.lays nsC Bundle.tN "detailMessage" "Ljava/lang/String;") (by simp [Bundle.ownAtoms]) (by decide +kernel))
  obtain ⟨tB, dB, hdB, eB⟩ := Cond.laysAt hcl hk hB (kw (.lays nsC Bundle.tN "backtrace" "Ljava/lang/Object;") (by simp [Bundle.ownAtoms]) (by decide +kernel))
  have xC := Cond.laysApart hdB hdC eB eC (by rw [hnB, Y.causeName]; decide)
  have xS := Cond.laysApart hdB hdS eB eS (by rw [hnB, Y.stackName]; decide)
  have xP := Cond.laysApart hdB hdP eB eP (by rw [hnB, Y.suppName]; decide)
  have hskip : SkipFacts T e.platform s (fun u => u) u0 ((preparedCellV T.toThrowableT (freshCell P1.m.cls kX) a u0 sen).withEntry T0.cur) := by
    refine ⟨{ ci198 := n1, i198 := n2, fBack := fB }, ⟨hn1, hn2, hn3, hn4⟩, ?_, fun _ _ => rfl⟩
    have hz := fresh_default (c := P1.m.cls) tB
    rw [htB] at hz
    simpa [preparedCellV, Cell.setSlot, Cell.withEntry, Array.getElem?_setIfInBounds, xC, xS, xP, xC.symm, xS.symm, xP.symm, defaultValue] using hz
  -- into the constructor, through the chain, back, and out
  obtain ⟨tm, _, _, _, vm1, htm, -, -, -, -, -, -, -, hW1, st1⟩ := Steps.initColdS (tb := p.tables) (e := e) (below := below) (s := s) (U := T0) X.here hexec X.warmed o3 hown (t := Bundle.initS nsC) rfl rfl (by decide)
    (kw (.methodLink own ic (Bundle.initS nsC)) (by simp [Bundle.ownAtoms]) ⟨fun z => (by cases z), fun z => (by injection z with _ _ z; exact absurd z (by decide))⟩) (kp (.instanceMethod (Bundle.initS nsC)) (by simp [Bundle.passSAtoms])) (bytes := b13) (maxL := 2) (kp (.code (Bundle.initS nsC) b13 2 none) (by simp [Bundle.passSAtoms]))
    (f := g) hg (a := a) (msg := msg) (rest := .ref a :: rest) hstack hd6
  cases Option.some.inj (htm.symm.trans hP1)
  have X1 := X.noted hW1
  obtain ⟨vm2, X2, st2⟩ := X1.ctorMessageOffV hexec (g := { g with stack := .ref a :: rest }) hg hsize T L Z LZ M LM (P1 :: P2 :: Ps)
    (fun P hP => by
      rcases List.mem_cons.mp hP with rfl | hP
      · exact L1
      · rcases List.mem_cons.mp hP with rfl | hP
        · exact L2
        · exact hL P hP) ⟨hsup, hl2, hl3⟩ (u0 := u0) (sen := sen) (self := a) hmsg (cell := freshCell P1.m.cls kX) (cellS := ct)
    hcell (fun _ => by simp) (by simp) rfl rfl hsel0 hselF hct hne hkn (by rw [hkeep _ (hfar _)]; exact hu0) (by rw [hkeep _ (hfar _)]; exact hsen)
    (Takes.of_laid hk hord tC (by rw [Y.causeType]; rfl)) (Takes.of_laid hk hord tS (by rw [Y.stackType]; exact fits_refV_array _ u0)) (Takes.of_laid hk hord tP (by rw [Y.suppType]; exact fits_refV_object _ sen))
    (Takes.of_laid hk hord tM (by rw [Y.msgType]; exact fits_refV_object _ ⟨msg, hmsg⟩)) Y.objLocals hskip htr [] hd6
    (by simp only [List.length_cons, hlen, List.length_nil]; omega) (by simp only [List.length_cons, hlen, List.length_nil]; exact hRl)
  obtain ⟨hwalk, hrun, hend, hWU, hsame⟩ := X2.athrowLeaves hexec (g := { g with stack := .ref a :: rest, pc := g.pc + 3 }) hg hlocked hentered hout (a := a) (rest := rest) rfl hd9
  have hlt : a < ((T0.setVm vm1).setVm vm2).heap.size := (Array.getElem?_eq_some_iff.mp hcell).1
  have hU := heapAt_setCell_self (s := (T0.setVm vm1).setVm vm2) (plainBareV T.toThrowableT (freshCell P1.m.cls kX) a u0 sen msg) hlt
  refine ⟨_, st1 _ (fun acts => ?_), hrun, hend, hWU, hsame.weaken (fun y hy hlt' => ?_) (Nat.le_refl _) (Nat.le_refl _), _, hU, hcl, rfl⟩
  · rw [doInvoke_state]
    exact st2 _ hwalk
  · rcases List.mem_append.mp hy with h1 | h1
    · exact h1
    · have hb : y.base = a := by
        simp only [List.mem_cons, List.not_mem_nil, or_false] at h1
        rcases h1 with rfl | rfl | rfl | rfl | rfl <;> rfl
      rw [hb] at hlt'
      exact absurd hlt' (Nat.not_lt.mpr hnew)
end NS
