/-! constructors: new cells at the end of the region -/
def Rt (b : Nat) (tab : List (List Nat)) : MR := fun p k => rvv b ((tab.getD p []).getD k 0)
def setp : List Nat → Nat → Nat → List Nat
  | [], 0, v => [v]
  | _ :: r, 0, v => v :: r
  | [], k + 1, v => 0 :: setp [] k v
  | a :: r, k + 1, v => a :: setp r k v
def setT (tab : List (List Nat)) (p k v : Nat) : List (List Nat) := tab.set p (setp (tab.getD p []) k v)
theorem setp_get (r : List Nat) (k v j : Nat) : (setp r k v).getD j 0 = if j = k then v else r.getD j 0 := by
  induction k generalizing r j with
  | zero => cases r <;> cases j <;> simp [setp]
  | succ k ih =>
    cases r with
    | nil =>
      cases j with
      | zero => simp [setp]
      | succ j => simpa [setp] using ih [] j
    | cons a r =>
      cases j with
      | zero => simp [setp]
      | succ j => simpa [setp] using ih r j
theorem Rt_k {b : Nat} {tab : List (List Nat)} {p k v : Nat} (hp : p < tab.length) (j : Nat) : Rt b (setT tab p k v) p j = if j = k then rvv b v else Rt b tab p j := by
  simp only [Rt, setT]
  rw [show (tab.set p (setp (tab.getD p []) k v)).getD p [] = setp (tab.getD p []) k v by simp [List.getD, hp], setp_get]
  split <;> rfl
theorem Rt_p {b : Nat} {tab : List (List Nat)} {p k v : Nat} {q : Nat} (hq : q ≠ p) : Rt b (setT tab p k v) q = Rt b tab q := by
  funext j
  simp [Rt, setT, List.getD, List.getElem?_set, Ne.symm hq]
theorem Rt_out {b : Nat} {tab : List (List Nat)} {p : Nat} (hp : (tab.getD p []) = []) : ∀ k, Rt b tab p k = .null := fun k => by
  simp only [Rt, hp]
  rfl
def OkI (X : Cx) (n : Nat) : Prop := match X with
  | (_, _, _, _, s, _, _, _, meth, _) => s.heap.size = n ∧ meth.name = "<init>"
theorem Ct.ofN {G : Gx} {l : Launch} {A : Nat → Prop} {y : MethodName} {cc : ByteArray} {nL : Nat} {ret : Option FieldType} {rm : Room} {As : List Value} {Wd : Heap → Prop} {sz : Nat} {α : Type} {ι : α → Option Value × (Heap → Prop)} {o : Option α}
    (hy : plainName y.cls = true) (hyn : y.name = "<init>") (hn : (lg_sl As).length ≤ nL)
    (h : ∀ X : Cx, Ok G l X y.cls cc nL rm ret → OkI X sz → T X A (Zm X A ι) nL 0 0 0 (lv_args 0 As) [] Wd o) : Ct G l A y cc nL ret rm As (fun H => Wd H ∧ H.size = sz) ι o := by
  intro a ha
  refine Met.ofW (cc := cc) (maxL := nL) (ret := ret) hy rfl ?_
  intro p e s m args below meth c s₁ B hml hv
  obtain ⟨rfl, ⟨hW, hsz⟩, hK, hNW⟩ := hv
  have hts := atoms_spec (ws := Cond.code y cc nL ret :: UW) B.pre
  have hown : s.vm.findClass y.cls = some m.cls := findClass_of_methodNamed B.named
  have hin : meth.name = "<init>" := ((name_of_methodNamed B.named B.method).1).trans hyn
  have hl := lv_entry As (n := nL) hn
  rw [lg_entry_eq]
  exact h (p, l, e, rm, s, m, As.toArray, below, meth, c) ⟨B.exec, B.bytes, hml, hown, fun w hw => hts w (List.mem_cons_of_mem _ hw), hK, B.notSynchronized, rfl, B.returns, rfl, hNW⟩ ⟨hsz, hin⟩ a ha s.heap [] _ hW va_S.rf hl
theorem ws_app {b : Nat} {aC : Nat → ClassId} {L : List Kd} {R R' : MR} {I I' : MI} {J J' : MJ} {kd : Kd} (h : ∀ q, q < L.length → R' q = R q ∧ I' q = I q ∧ J' q = J q) : wsOf b aC (L ++ [kd]) R' I' J' = wsOf b aC L R I J ++ [(b + L.length, ent aC R' I' J' L.length kd)] := by
  simp only [wsOf, List.mapIdx_append, List.mapIdx_cons, List.mapIdx_nil, Nat.zero_add]
  congr 1
  apply List.ext_getElem?
  intro i
  simp only [List.getElem?_mapIdx]
  cases hi : L[i]? with
  | none => rfl
  | some kd2 =>
    obtain ⟨q1, q2, q3⟩ := h i (List.getElem?_eq_some_iff.mp hi).1
    simp [ent_row q1 q2 q3]
theorem Rg_app {G : Gx} {b : Nat} {L : List Kd} {R R' : MR} {I I' : MI} {J J' : MJ} {kd : Kd} {H H' : Heap} (hR : Rg G b L R I J H) (hk : ∀ q, q < H.size → H'[q]? = H[q]?) (h : ∀ q, q < L.length → R' q = R q ∧ I' q = I q ∧ J' q = J q) (hn : va_at G.1 cls12 (b + L.length, ent G.2 R' I' J' L.length kd) H') : Rg G b (L ++ [kd]) R' I' J' H' := by
  unfold Rg
  rw [ws_app h]
  refine va_P.app (va_P.kept hR fun k q hq => hk q.1 (hR k q hq).lt) ?_
  intro k q hq
  have hz : k < 1 := (List.getElem?_eq_some_iff.mp hq).1
  rw [show k = 0 by omega] at hq
  cases hq
  exact hn
theorem sz_of {p : Program} {l : Launch} {e : Env} {R0 : Room} {s : State} {m : MethodId} {args : Array Value} {below : List Frame} {meth : Method} {c : Code} {T0 : State} {locs : List Loc} {kc ks : Nat} {G : Gx} {b : Nat} {L : List Kd} {R : MR} {I : MI} {J : MJ} {H : Heap} {sz : Nat} (X : Stand p l e R0 s m args below meth c T0 locs kc ks) (hT : T0.heap = H) (hs : s.heap.size = sz) (hn : sz + kc = b + L.length) (hL : L.length = 0 → kc = 0) (hR : Rg G b L R I J H) : H.size = b + L.length := by
  have h1 : s.heap.size ≤ (T0.setVm s.vm).heap.size := X.same.2.1
  have h2 : (T0.setVm s.vm).heap.size ≤ s.heap.size + kc := X.same.2.2.1
  have e1 : (T0.setVm s.vm).heap = H := hT
  rw [e1] at h1 h2
  by_cases h0 : L.length = 0
  · have := hL h0
    omega
  · have h3 := Rg_lt hR (p := L.length - 1) (by omega)
    omega
def okT (t : FieldType) : Bool := match t with
  | .float => false
  | .double => false
  | _ => true
theorem fv_dflt {t : FieldType} (h : okT t = true) : fv t .null 0 0 = defaultValue t := by cases t <;> first | rfl | cases h
section CT
variable {G : Gx} {l0 : Launch} {X : Cx} {own : String} {cc : ByteArray} {nL : Nat} {R0 : Room} {ret : Option FieldType} {A : Nat → Prop} {α : Type} {Z : α → State → Prop} {kc ks pc : Nat} {lv : List (Nat × Value)} {st : List Value} {o : Option α} {b p ci k idx n : Nat} {L L' : List Kd} {R : MR} {I : MI} {J : MJ} {sz : Nat}
theorem T_new (h : Ok G l0 X own cc nL R0 ret) (hI : OkI X sz) {kc' ks' : Nat} {C : String} {T' : u_T} {N : Nat} (hc : cls12[ci]? = some (C, T', N)) (hN : L.length = n) (hn : sz + kc = b + n) (h0 : n = 0 → kc = 0) (hL : L ++ [.inl ci] = L') (hRn : ∀ k, R n k = .null) (hok : ∀ k, k < N → okT (tyF ci k) = true) (hkc : kc + 1 = kc') (hks : ks + N = ks') (hcl : Cond.classLink own idx C ∈ UW) (hins : Cond.instantiable C N ∈ UW) (hini : Cond.initialized C ∈ UW) (hrc : kc' ≤ R0.cells) (hrs : ks' ≤ R0.slots) (hd : decode cc pc = .ok (.new idx, 3)) {f : MI → MJ → Option α}
    (kk : ∀ (I' : MI) (J' : MJ), T X A Z nL kc' ks' (pc + 3) lv (.ref (b + n) :: st) (Rg G b L' R I' J') (f I' J')) : T X A Z nL kc ks pc lv st (Rg G b L R I J) (lt (stR I n (fun _ => 0)) fun I' => lt (stR J n (fun _ => 0)) fun J' => f I' J') := by
  subst hN
  subst hL
  subst hkc
  subst hks
  have kk := kk (stR I L.length (fun _ => 0)) (stR J L.length (fun _ => 0))
  obtain ⟨p0, l, e, Rm, s, m, args, below, meth, c⟩ := X
  obtain ⟨h1, h2, h3, h4, h5, h6, h7, rfl, h9, h10, h11⟩ := h
  obtain ⟨i1, i2⟩ := hI
  intro a ha H locs ls hW hS hl
  intro T0 hT X0
  have hz : H.size = b + L.length := sz_of X0 hT i1 hn h0 hW
  have hKn := h6.1 ci _ hc
  refine W.newcK h1 h2 h4 (h5 _ hcl) (h5 _ hins) (h5 _ hini) (g := F0 m pc ls st) rfl hd hrc hrs hKn.2.1 hz (fun H1 kC hkC e1 z1 o1 => ?_) T0 hT X0
  refine kk a ha H1 locs ls ?_ ⟨Nat.le_trans hS.1 (by omega), fun x q1 q2 => (o1 x (by have := hS.1; omega)).trans (hS.2.1 x q1 q2), hS.2.2⟩ hl
  refine Rg_app hW (fun q hq => o1 q (by omega)) (fun q hq => ⟨rfl, stR_ne (by omega), stR_ne (by omega)⟩) ?_
  refine ⟨_, hc, (u_born (tyF ci) h5 (cls_in hc) hKn hkC e1 (cls_ty hc)).to (fun j hj => ?_)⟩
  have hj : j < N := hj
  have hj2 : j < nF ci := by rw [nF_of hc]; exact hj
  simp only [vp_V, List.getD, flds_get hj2, Option.getD_some, hRn, stR_eq]
  exact (fv_dflt (hok j hj)).symm
theorem arr_id {cA : ClassId} {t : Nat} {ty : FieldType} {s : State} (h6 : va_K G.1 cls12 (tys4 G.2) s) (ht : (tys4 G.2)[t]? = some (G.2 t, ty)) (hp : va_RA s (G.2 t) ty = (s.vm.findClass ("[" ++ ty.toString) = some (G.2 t))) (hf : s.vm.findClass ("[" ++ ty.toString) = some cA) : cA = G.2 t := by
  have h := (h6.2 t _ ht).2
  rw [hp] at h
  exact Option.some.inj (hf.symm.trans h)
theorem T_newI (h : Ok G l0 X own cc nL R0 ret) (hI : OkI X sz) {kc' ks' t N : Nat} {at' : ArrayType} {ty : FieldType} (hty : newarray.typeOf at' = ty) (ht : (tys4 G.2)[t]? = some (G.2 t, ty)) (hp : ∀ s : State, va_RA s (G.2 t) ty = (s.vm.findClass ("[" ++ ty.toString) = some (G.2 t))) (hdf : defaultValue ty = .int 0) (ht1 : t ≠ 1) (hN : L.length = n) (hn : sz + kc = b + n) (h0 : n = 0 → kc = 0) (hL : L ++ [.inr (t, N)] = L') (hkc : kc + 1 = kc') (hks : ks + N = ks') (hcl : Cond.arrayClass ty ∈ UW) (hrc : kc' ≤ R0.cells) (hrs : ks' ≤ R0.slots) {x : Int32} (hx : ¬ x < 0) (hxn : x.toNatClampNeg = N) (hby : N * componentBytes ty ≤ 536870912) (hd : decode cc pc = .ok (.newarray at', 2)) {f : MI → Option α}
    (kk : ∀ (I' : MI), T X A Z nL kc' ks' (pc + 2) lv (.ref (b + n) :: st) (Rg G b L' R I' J) (f I')) : T X A Z nL kc ks pc lv (.int x :: st) (Rg G b L R I J) (lt (stR I n (fun _ => 0)) fun I' => f I') := by
  subst hN
  subst hL
  subst hkc
  subst hks
  subst hty
  have kk := kk (stR I L.length (fun _ => 0))
  obtain ⟨p0, l, e, Rm, s, m, args, below, meth, c⟩ := X
  obtain ⟨h1, h2, h3, h4, h5, h6, h7, rfl, h9, h10, h11⟩ := h
  obtain ⟨i1, i2⟩ := hI
  intro a ha H locs ls hW hS hl
  intro T0 hT X0
  have hz : H.size = b + L.length := sz_of X0 hT i1 hn h0 hW
  refine va_newaK h1 h2 (h5 _ hcl) (g := F0 m pc ls (.int x :: st)) rfl hd rfl hx hxn hby hrc hrs hz (fun H1 cA e1 z1 o1 hAr hNm => ?_) T0 hT X0
  have hcA : cA = G.2 t := arr_id h6 ht (hp s) hNm
  subst hcA
  refine kk a ha H1 locs ls ?_ ⟨Nat.le_trans hS.1 (by omega), fun x q1 q2 => (o1 x (by have := hS.1; omega)).trans (hS.2.1 x q1 q2), hS.2.2⟩ hl
  refine Rg_app hW (fun q hq => o1 q (by omega)) (fun q hq => ⟨rfl, stR_ne (by omega), rfl⟩) ?_
  show H1[b + L.length]? = some (vp_cell (G.2 t) (arC t N (stR I L.length (fun _ => 0) L.length) (J L.length)))
  rw [e1, hdf, stR_eq]
  simp only [arC, if_neg ht1, vp_cell_i]
theorem T_newJ (h : Ok G l0 X own cc nL R0 ret) (hI : OkI X sz) {kc' ks' N : Nat} (hN : L.length = n) (hn : sz + kc = b + n) (h0 : n = 0 → kc = 0) (hL : L ++ [.inr (1, N)] = L') (hkc : kc + 1 = kc') (hks : ks + N = ks') (hcl : Cond.arrayClass .long ∈ UW) (hrc : kc' ≤ R0.cells) (hrs : ks' ≤ R0.slots) {x : Int32} (hx : ¬ x < 0) (hxn : x.toNatClampNeg = N) (hby : N * componentBytes .long ≤ 536870912) (hd : decode cc pc = .ok (.newarray .long, 2)) {f : MJ → Option α}
    (kk : ∀ (J' : MJ), T X A Z nL kc' ks' (pc + 2) lv (.ref (b + n) :: st) (Rg G b L' R I J') (f J')) : T X A Z nL kc ks pc lv (.int x :: st) (Rg G b L R I J) (lt (stR J n (fun _ => 0)) fun J' => f J') := by
  subst hN
  subst hL
  subst hkc
  subst hks
  have kk := kk (stR J L.length (fun _ => 0))
  obtain ⟨p0, l, e, Rm, s, m, args, below, meth, c⟩ := X
  obtain ⟨h1, h2, h3, h4, h5, h6, h7, rfl, h9, h10, h11⟩ := h
  obtain ⟨i1, i2⟩ := hI
  intro a ha H locs ls hW hS hl
  intro T0 hT X0
  have hz : H.size = b + L.length := sz_of X0 hT i1 hn h0 hW
  refine va_newaK (atype := .long) h1 h2 (h5 _ hcl) (g := F0 m pc ls (.int x :: st)) rfl hd rfl hx hxn hby hrc hrs hz (fun H1 cA e1 z1 o1 hAr hNm => ?_) T0 hT X0
  have hcA : cA = G.2 1 := arr_id (t := 1) (ty := .long) h6 rfl rfl hNm
  subst hcA
  refine kk a ha H1 locs ls ?_ ⟨Nat.le_trans hS.1 (by omega), fun x q1 q2 => (o1 x (by have := hS.1; omega)).trans (hS.2.1 x q1 q2), hS.2.2⟩ hl
  refine Rg_app hW (fun q hq => o1 q (by omega)) (fun q hq => ⟨rfl, rfl, stR_ne (by omega)⟩) ?_
  show H1[b + L.length]? = some (vp_cell (G.2 1) (arC 1 N (I L.length) (stR J L.length (fun _ => 0) L.length)))
  rw [e1, stR_eq]
  rfl
theorem T_putFV (h : Ok G l0 X own cc nL R0 ret) (hI : OkI X sz) (hA : ∀ k, A (b + k)) (hF : FL own idx ci k) (hdec : (cls12[ci]?).map (fun q => (q.2.1 k).1) = some own) (hf : nfin ci k = false) (hL : L[p]? = some (.inl ci)) {v : Value} (hn : narrow (tyF ci k) v = v) (hft : fits (tyF ci k) v = true) {R' : MR} {I' : MI} {J' : MJ} (hv : v = fv (tyF ci k) (R' p k) (I' p k) (J' p k)) (ho : ∀ j, j ≠ k → R' p j = R p j ∧ I' p j = I p j ∧ J' p j = J p j) (hq : ∀ q, q ≠ p → R' q = R q ∧ I' q = I q ∧ J' q = J q) (hd : decode cc pc = .ok (.putfield idx, 3)) (kk : T X A Z nL kc ks (pc + 3) lv st (Rg G b L R' I' J') o) : T X A Z nL kc ks pc lv (v :: .ref (b + p) :: st) (Rg G b L R I J) o := by
  obtain ⟨p0, l, e, Rm, s, m, args, below, meth, c⟩ := X
  intro a ha H locs ls hW hS hl
  obtain ⟨h1, h2, h3, h4, h5, h6, h7, h8, h9, h10, h11⟩ := h
  obtain ⟨i1, i2⟩ := hI
  obtain ⟨⟨C, T', N⟩, hc, hk, hlk⟩ := hF
  have hfin : (T' k).2.2.2 = true := by
    unfold nfin at hf
    rw [hc] at hf
    simpa using hf
  have hdc : (T' k).1 = own := by
    rw [hc] at hdec
    simpa using hdec
  refine va_putF h1 h2 h5 (cls_in hc) (tyF ci) (cls_ty hc) (cls_nm hc) h4 h6 hW (ws_D (fun k _ => hA k)) hS p (ws_getO hL) hc k hk (h5 _ hlk) (fun _ z => z) hfin i2 hdc (cls_ty hc k hk) hn hft (by rw [flds_len, nF_of hc]; exact hk) hd ?_
  intro H1 locs1 hP1 _ hS1
  rw [flds_set hv ho] at hP1
  have e1 : (wsOf b G.2 L R I J).set p (b + p, (Sum.inr (ci, flds ci p R' I' J') : va_E)) = wsOf b G.2 L R' I' J' := ws_set (kd := .inl ci) hL hq
  rw [e1] at hP1
  exact kk a ha H1 locs1 ls hP1 hS1 hl
theorem T_putFR (h : Ok G l0 X own cc nL R0 ret) (hI : OkI X sz) (hA : ∀ k, A (b + k)) {tab tab' : List (List Nat)} (hF : FR own idx ci k) (hdec : (cls12[ci]?).map (fun q => (q.2.1 k).1) = some own) (hf : nfin ci k = false) (hL : L[p]? = some (.inl ci)) {x : Nat} (hn : narrow (tyF ci k) (.ref (b + x)) = .ref (b + x)) (hft : fits (tyF ci k) (.ref (b + x)) = true) (hp : p < tab.length) (ht : setT tab p k (x + 1) = tab') (hd : decode cc pc = .ok (.putfield idx, 3)) (kk : T X A Z nL kc ks (pc + 3) lv st (Rg G b L (Rt b tab') I J) o) : T X A Z nL kc ks pc lv (.ref (b + x) :: .ref (b + p) :: st) (Rg G b L (Rt b tab) I J) o := by
  subst ht
  exact T_putFV h hI hA hF.1 hdec hf hL hn hft (by rw [fv_r hF.2, Rt_k hp, if_pos rfl]; rfl) (fun j hj => ⟨by rw [Rt_k hp, if_neg hj], rfl, rfl⟩) (fun q hq1 => ⟨Rt_p hq1, rfl, rfl⟩) hd kk
theorem T_putNR (h : Ok G l0 X own cc nL R0 ret) (hA : ∀ k, A (b + k)) {tab tab' : List (List Nat)} (hF : FR own idx ci k) (hf : nfin ci k = true) (hL : L[p]? = some (.inl ci)) {x : Nat} (hn : narrow (tyF ci k) (.ref (b + x)) = .ref (b + x)) (hft : fits (tyF ci k) (.ref (b + x)) = true) (hp : p < tab.length) (ht : setT tab p k (x + 1) = tab') (hd : decode cc pc = .ok (.putfield idx, 3)) (kk : T X A Z nL kc ks (pc + 3) lv st (Rg G b L (Rt b tab') I J) o) : T X A Z nL kc ks pc lv (.ref (b + x) :: .ref (b + p) :: st) (Rg G b L (Rt b tab) I J) o := by
  subst ht
  exact T_putR h (fun k _ => hA k) hF hf hL hn hft (by rw [Rt_k hp, if_pos rfl]; rfl) (fun j hj => by rw [Rt_k hp, if_neg hj]) (fun q hq1 => Rt_p hq1) hd kk
theorem T_oinit (h : Ok G l0 X own cc nL R0 ret) {Wd : Heap → Prop} {x : Nat} (hlk : Cond.methodLink own idx Lib.objectInit ∈ UW) (hm : Cond.instanceMethod Lib.objectInit ∈ UW) (hc : Cond.code Lib.objectInit ⟨#[0xb1]⟩ 1 none ∈ UW) (hd : decode cc pc = .ok (.invokespecial idx, 3)) (hf : 1 ≤ R0.frames) (hlo : (st.map fun v => v.category).sum + 12 ≤ R0.locals) (kk : T X A Z nL kc ks (pc + 3) lv st Wd o) : T X A Z nL kc ks pc lv (.ref x :: st) Wd o := by
  obtain ⟨p0, l, e, Rm, s, m, args, below, meth, c⟩ := X
  obtain ⟨h1, h2, h3, h4, h5, h6, h7, rfl, h9, h10, h11⟩ := h
  intro a ha H locs ls hW hS hl
  exact W.objInit h1 h2 h4 (h5 _ hlk) (h5 _ hm) (h5 _ hc) (g := F0 m pc ls (.ref x :: st)) rfl (hl.1.trans h3.symm) rfl hd hf (by show 2 * 0 + _ + 12 ≤ _; omega) (kk a ha H locs ls hW hS hl)
/-- a constructor of a nest mate, over a region that ends where the heap ends -/
theorem CR_IN (h : Ok G l0 X own cc nL R0 ret) (hI : OkI X sz) {rest : List Value} {y : MethodName} {cc' : ByteArray} {nL' : Nat} {rm : Room} {As : List Value} {β : Type} {ι : β → Option Value × (Heap → Prop)} {o1 : Option β} {host : String} {sz' : Nat} (hC : Ct G l0 A y cc' nL' none rm (.ref (b + p) :: As) (fun H => Rg G b L R I J H ∧ H.size = sz') ι o1) (hm : MWc y cc' nL' none n) (hv : Cond.instanceMethod y ∈ UW) (hyn : y.name = "<init>") (hlk : Cond.methodLinkNest own idx y host ∈ NWl) (hN : b + L.length = sz') (hn1 : sz + kc = b + L.length) (h0 : L.length = 0 → kc = 0) (hd : decode cc pc = .ok (.invokespecial idx, 3)) (hst : As.reverse ++ .ref (b + p) :: rest = st) (hn : As.length = n) (hR : RoomOk rm nL' R0 kc ks) (hrest : Nat.ble ((rest.map fun v => v.category).sum) 8 = true) : CR X A kc ks nL pc lv st rest rm (Rg G b L R I J) ι o1 := by
  obtain ⟨p0, l, e, Rm, s, m, args, below, meth, c⟩ := X
  obtain ⟨h1, h2, h3, h4, h5, h6, h7, rfl, h9, rfl, h11⟩ := h
  obtain ⟨i1, i2⟩ := hI
  intro a ha H locs ls hW hS hl
  obtain ⟨m1, m2, m3⟩ := hm
  subst hst
  refine ⟨(Value.ref (b + p) :: As).toArray, fun T0 hT X0 => ?_⟩
  have hz : H.size = b + L.length := sz_of X0 hT i1 hn1 h0 hW
  exact va_runIN (As := As) (rest := rest) (b := b + p) ⟨h1, h2, h3, h4, h5⟩ (hC a ha) ⟨va_cnB n h5 (goodUW m1) rfl rfl rfl (h11 _ hlk) (h5 _ m2) m3 hR.1, hyn, h5 _ hv⟩ ⟨Pv_blind, fun U hU hWm => ⟨rfl, by rw [hU]; exact ⟨hW, hz.trans hN⟩, va_K.moved hWm.alike h6, nw_warm hWm h11⟩⟩ rfl hn hl.1 rfl (lv_room (Nat.le_of_ble_eq_true hrest)) hd hR.2 T0 hT X0
theorem CR_I (h : Ok G l0 X own cc nL R0 ret) (hI : OkI X sz) {rest : List Value} {y : MethodName} {cc' : ByteArray} {nL' : Nat} {rm : Room} {As : List Value} {β : Type} {ι : β → Option Value × (Heap → Prop)} {o1 : Option β} {sz' : Nat} (hC : Ct G l0 A y cc' nL' none rm (.ref (b + p) :: As) (fun H => Rg G b L R I J H ∧ H.size = sz') ι o1) (hm : MWc y cc' nL' none n) (hv : Cond.instanceMethod y ∈ UW) (hyn : y.name = "<init>") (hlk : Cond.methodLink own idx y ∈ UW) (hN : b + L.length = sz') (hn1 : sz + kc = b + L.length) (h0 : L.length = 0 → kc = 0) (hd : decode cc pc = .ok (.invokespecial idx, 3)) (hst : As.reverse ++ .ref (b + p) :: rest = st) (hn : As.length = n) (hR : RoomOk rm nL' R0 kc ks) (hrest : Nat.ble ((rest.map fun v => v.category).sum) 8 = true) : CR X A kc ks nL pc lv st rest rm (Rg G b L R I J) ι o1 := by
  obtain ⟨p0, l, e, Rm, s, m, args, below, meth, c⟩ := X
  obtain ⟨h1, h2, h3, h4, h5, h6, h7, rfl, h9, rfl, h11⟩ := h
  obtain ⟨i1, i2⟩ := hI
  intro a ha H locs ls hW hS hl
  obtain ⟨m1, m2, m3⟩ := hm
  subst hst
  refine ⟨(Value.ref (b + p) :: As).toArray, fun T0 hT X0 => ?_⟩
  have hz : H.size = b + L.length := sz_of X0 hT i1 hn1 h0 hW
  exact va_runI (As := As) (rest := rest) (b := b + p) ⟨h1, h2, h3, h4, h5⟩ (hC a ha) ⟨callB_of n h5 (goodUW m1) rfl rfl rfl (h5 _ m2) (h5 _ hlk) m3 hR.1, hyn, h5 _ hv⟩ ⟨Pv_blind, fun U hU hWm => ⟨rfl, by rw [hU]; exact ⟨hW, hz.trans hN⟩, va_K.moved hWm.alike h6, nw_warm hWm h11⟩⟩ rfl hn hl.1 rfl (lv_room (Nat.le_of_ble_eq_true hrest)) hd hR.2 T0 hT X0
end CT
