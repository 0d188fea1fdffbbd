/-! fields, arrays, calls, switches in the judgement T -/
def FL (own : String) (idx ci k : Nat) : Prop := ∃ q : vw_C, cls12[ci]? = some q ∧ k < q.2.2 ∧ Cond.fieldLink own idx (q.2.1 k).1 (q.2.1 k).2.1 (q.2.1 k).2.2.1 ∈ UW
def FI (own : String) (idx ci k : Nat) : Prop := FL own idx ci k ∧ isI (tyF ci k) = true
def FJ (own : String) (idx ci k : Nat) : Prop := FL own idx ci k ∧ tyF ci k = .long
def FR (own : String) (idx ci k : Nat) : Prop := FL own idx ci k ∧ isR (tyF ci k) = true
def nfin (ci k : Nat) : Bool := match cls12[ci]? with
  | some q => !(q.2.1 k).2.2.2
  | none => false
theorem FL.of {own : String} {idx ci k : Nat} {C : String} {T : u_T} {N : Nat} (hc : cls12[ci]? = some (C, T, N)) (hk : k < N) (hl : Cond.fieldLink own idx (T k).1 (T k).2.1 (T k).2.2.1 ∈ UW) : FL own idx ci k := ⟨(C, T, N), hc, hk, hl⟩
theorem toInt_ne {x k : Int32} {n : Int} (hk : k.toInt = n) (h : ¬ x = k) : x.toInt ≠ n := fun e => h (Int32.toInt_inj.mp (e.trans hk.symm))
theorem ws_getO {b p ci : Nat} {aC : Nat → ClassId} {L : List Kd} {R : MR} {I : MI} {J : MJ} (h : L[p]? = some (.inl ci)) : (wsOf b aC L R I J)[p]? = some (b + p, (Sum.inr (ci, flds ci p R I J) : va_E)) := ws_get h
theorem ws_getA {b p t n : Nat} {aC : Nat → ClassId} {L : List Kd} {R : MR} {I : MI} {J : MJ} (h : L[p]? = some (.inr (t, n))) : (wsOf b aC L R I J)[p]? = some (b + p, (Sum.inl (aC t, arC t n (I p) (J p)) : va_E)) := ws_get h
theorem ws_getI {b p t n : Nat} {aC : Nat → ClassId} {L : List Kd} {R : MR} {I : MI} {J : MJ} (ht : t ≠ 1) (h : L[p]? = some (.inr (t, n))) : (wsOf b aC L R I J)[p]? = some (b + p, (Sum.inl (aC t, n, Sum.inl (I p)) : va_E)) := by
  rw [ws_getA h]
  simp [arC, ht]
theorem ws_getL {b p n : Nat} {aC : Nat → ClassId} {L : List Kd} {R : MR} {I : MI} {J : MJ} (h : L[p]? = some (.inr (1, n))) : (wsOf b aC L R I J)[p]? = some (b + p, (Sum.inl (aC 1, n, Sum.inr (Sum.inl (J p))) : va_E)) := by
  rw [ws_getA h]
  simp [arC]
section MEM
variable {G : Gx} {l0 : Launch} {X : Cx} {own : String} {cc : ByteArray} {nL : Nat} {R0 : Room} {ret : Option FieldType} {A : Nat → Prop} {α : Type} {Z : α → State → Prop} {kc ks pc : Nat} {lv : List (Nat × Value)} {st : List Value} {o : Option α} {b p ci k idx n : Nat} {L : List Kd} {R : MR} {I : MI} {J : MJ}
theorem T_getV (h : Ok G l0 X own cc nL R0 ret) (hF : FL own idx ci k) (hL : L[p]? = some (.inl ci)) {v : Value} (hv : fv (tyF ci k) (R p k) (I p k) (J p k) = v) (hd : decode cc pc = .ok (.getfield idx, 3)) (kk : T X A Z nL kc ks (pc + 3) lv (v :: st) (Rg G b L R I J) o) : T X A Z nL kc ks pc lv (.ref (b + p) :: st) (Rg G b L R I J) o := by
  obtain ⟨p0, l, e, Rm, s, m, args, below, meth, c⟩ := X
  intro a ha H locs ls hW hS hl
  obtain ⟨h1, h2, h3, h4, h5, h6, h7, h8, h9, h10, h11⟩ := h
  obtain ⟨⟨C, T', N⟩, hq, hk, hlk⟩ := hF
  subst hv
  exact va_get h1 h2 h5 (cls_in hq) h4 h6 hW p (ws_getO hL) hq k hk (h5 _ hlk) (fun _ z => z) (flds_get (by rw [nF_of hq]; exact hk)) hd (kk a ha H locs ls hW hS hl)
theorem T_getI (h : Ok G l0 X own cc nL R0 ret) (hF : FI own idx ci k) (hL : L[p]? = some (.inl ci)) (hd : decode cc pc = .ok (.getfield idx, 3)) (kk : T X A Z nL kc ks (pc + 3) lv (.int (I p k) :: st) (Rg G b L R I J) o) : T X A Z nL kc ks pc lv (.ref (b + p) :: st) (Rg G b L R I J) o := T_getV h hF.1 hL (fv_i hF.2 _ _ _) hd kk
theorem T_getJ (h : Ok G l0 X own cc nL R0 ret) (hF : FJ own idx ci k) (hL : L[p]? = some (.inl ci)) (hd : decode cc pc = .ok (.getfield idx, 3)) (kk : T X A Z nL kc ks (pc + 3) lv (.long (J p k) :: st) (Rg G b L R I J) o) : T X A Z nL kc ks pc lv (.ref (b + p) :: st) (Rg G b L R I J) o := T_getV h hF.1 hL (by rw [hF.2]; rfl) hd kk
theorem T_getR (h : Ok G l0 X own cc nL R0 ret) (hF : FR own idx ci k) (hL : L[p]? = some (.inl ci)) {x : Nat} (hR : R p k = .ref x) (hd : decode cc pc = .ok (.getfield idx, 3)) (kk : T X A Z nL kc ks (pc + 3) lv (.ref x :: st) (Rg G b L R I J) o) : T X A Z nL kc ks pc lv (.ref (b + p) :: st) (Rg G b L R I J) o := T_getV h hF.1 hL ((fv_r hF.2 _ _ _).trans hR) hd kk
theorem T_putV (h : Ok G l0 X own cc nL R0 ret) (hA : ∀ k, k < L.length → A (b + k)) (hF : FL own idx ci k) (hf : nfin ci k = true) (hL : L[p]? = some (.inl ci)) {v : Value} (hn : narrow (tyF ci k) v = v) (hft : fits (tyF ci k) v = true) {R' : MR} {I' : MI} {J' : MJ} (hv : v = fv (tyF ci k) (R' p k) (I' p k) (J' p k)) (ho : ∀ j, j ≠ k → R' p j = R p j ∧ I' p j = I p j ∧ J' p j = J p j) (hq : ∀ q, q ≠ p → R' q = R q ∧ I' q = I q ∧ J' q = J q) (hd : decode cc pc = .ok (.putfield idx, 3)) (kk : T X A Z nL kc ks (pc + 3) lv st (Rg G b L R' I' J') o) : T X A Z nL kc ks pc lv (v :: .ref (b + p) :: st) (Rg G b L R I J) o := by
  obtain ⟨p0, l, e, Rm, s, m, args, below, meth, c⟩ := X
  intro a ha H locs ls hW hS hl
  obtain ⟨h1, h2, h3, h4, h5, h6, h7, h8, h9, h10, h11⟩ := h
  obtain ⟨⟨C, T', N⟩, hc, hk, hlk⟩ := hF
  have hfin : (T' k).2.2.2 = false := by
    unfold nfin at hf
    rw [hc] at hf
    simpa using hf
  refine va_put h1 h2 h5 (cls_in hc) (tyF ci) (cls_ty hc) (cls_nm hc) h4 h6 hW (ws_D hA) hS p (ws_getO hL) hc k hk (h5 _ hlk) (fun _ z => z) hfin (cls_ty hc k hk) hn hft (by rw [flds_len, nF_of hc]; exact hk) hd ?_
  intro H1 locs1 hP1 _ hS1
  rw [flds_set hv ho] at hP1
  have e1 : (wsOf b G.2 L R I J).set p (b + p, (Sum.inr (ci, flds ci p R' I' J') : va_E)) = wsOf b G.2 L R' I' J' := ws_set (kd := .inl ci) hL hq
  rw [e1] at hP1
  exact kk a ha H1 locs1 ls hP1 hS1 hl
theorem T_putI (h : Ok G l0 X own cc nL R0 ret) (hA : ∀ k, k < L.length → A (b + k)) (hF : FI own idx ci k) (hf : nfin ci k = true) (ht : tyF ci k = .int) (hL : L[p]? = some (.inl ci)) {v : Int32} {f : MI → Option α} (hd : decode cc pc = .ok (.putfield idx, 3)) (kk : ∀ I' : MI, T X A Z nL kc ks (pc + 3) lv st (Rg G b L R I' J) (f I')) : T X A Z nL kc ks pc lv (.int v :: .ref (b + p) :: st) (Rg G b L R I J) (lt (st2 I p k v) f) :=
  T_putV h hA hF.1 hf hL (by rw [ht]; rfl) (by rw [ht]; rfl) (by rw [ht]; simp [fv, st2]) (fun j hj => ⟨rfl, by simp [st2, hj], rfl⟩) (fun q hq => ⟨rfl, st2_ne hq, rfl⟩) hd (kk _)
theorem T_putZ (h : Ok G l0 X own cc nL R0 ret) (hA : ∀ k, k < L.length → A (b + k)) (hF : FI own idx ci k) (hf : nfin ci k = true) (ht : tyF ci k = .boolean) (hL : L[p]? = some (.inl ci)) {v : Int32} {f : MI → Option α} (hd : decode cc pc = .ok (.putfield idx, 3)) (kk : ∀ I' : MI, T X A Z nL kc ks (pc + 3) lv st (Rg G b L R I' J) (f I')) : T X A Z nL kc ks pc lv (.int v :: .ref (b + p) :: st) (Rg G b L R I J) (gd (is01 v) (lt (st2 I p k v) f)) := by
  by_cases hv : is01 v = true
  · have e : gd (is01 v) (lt (st2 I p k v) f) = lt (st2 I p k v) f := by rw [gd, if_pos hv]
    rw [e]
    exact T_putV h hA hF.1 hf hL (by rw [ht]; exact is01_nar hv) (by rw [ht]; exact is01_fit hv) (by rw [ht]; simp [fv, st2]) (fun j hj => ⟨rfl, by simp [st2, hj], rfl⟩) (fun q hq => ⟨rfl, st2_ne hq, rfl⟩) hd (kk _)
  · have e : gd (is01 v) (lt (st2 I p k v) f) = none := by rw [gd, if_neg hv]
    rw [e]
    exact T_none
theorem T_putJ (h : Ok G l0 X own cc nL R0 ret) (hA : ∀ k, k < L.length → A (b + k)) (hF : FJ own idx ci k) (hf : nfin ci k = true) (hL : L[p]? = some (.inl ci)) {v : Int64} {f : MJ → Option α} (hd : decode cc pc = .ok (.putfield idx, 3)) (kk : ∀ J' : MJ, T X A Z nL kc ks (pc + 3) lv st (Rg G b L R I J') (f J')) : T X A Z nL kc ks pc lv (.long v :: .ref (b + p) :: st) (Rg G b L R I J) (lt (st2 J p k v) f) :=
  T_putV h hA hF.1 hf hL (by rw [hF.2]; rfl) (by rw [hF.2]; rfl) (by rw [hF.2]; simp [fv, st2]) (fun j hj => ⟨rfl, rfl, by simp [st2, hj]⟩) (fun q hq => ⟨rfl, rfl, st2_ne hq⟩) hd (kk _)
theorem T_putR (h : Ok G l0 X own cc nL R0 ret) (hA : ∀ k, k < L.length → A (b + k)) (hF : FR own idx ci k) (hf : nfin ci k = true) (hL : L[p]? = some (.inl ci)) {x : Nat} {R' : MR} (hn : narrow (tyF ci k) (.ref x) = .ref x) (hft : fits (tyF ci k) (.ref x) = true) (hv : R' p k = .ref x) (ho : ∀ j, j ≠ k → R' p j = R p j) (hq : ∀ q, q ≠ p → R' q = R q) (hd : decode cc pc = .ok (.putfield idx, 3)) (kk : T X A Z nL kc ks (pc + 3) lv st (Rg G b L R' I J) o) : T X A Z nL kc ks pc lv (.ref x :: .ref (b + p) :: st) (Rg G b L R I J) o :=
  T_putV h hA hF.1 hf hL hn hft (by rw [fv_r hF.2, hv]) (fun j hj => ⟨ho j hj, rfl, rfl⟩) (fun q hq1 => ⟨hq q hq1, rfl, rfl⟩) hd kk
theorem T_gdH {c : Bool} {Wd : Heap → Prop} (k : c = true → T X A Z nL kc ks pc lv st Wd o) : T X A Z nL kc ks pc lv st Wd (gd c o) := by
  by_cases hc : c = true
  · have e : gd c o = o := by rw [gd, if_pos hc]
    rw [e]
    exact k hc
  · have e : gd c o = none := by rw [gd, if_neg hc]
    rw [e]
    exact T_none
theorem T_iald (h : Ok G l0 X own cc nL R0 ret) (hL : L[p]? = some (.inr (0, n))) {i : Int32} (hd : decode cc pc = .ok (.iaload, 1)) (kk : T X A Z nL kc ks (pc + 1) lv (.int (I p (ix i)) :: st) (Rg G b L R I J) o) : T X A Z nL kc ks pc lv (.int i :: .ref (b + p) :: st) (Rg G b L R I J) (gd (inb i n) o) := by
  refine T_gdH fun hi => ?_
  obtain ⟨p0, l, e, Rm, s, m, args, below, meth, c⟩ := X
  intro a ha H locs ls hW hS hl
  obtain ⟨h1, h2, h3, h4, h5, h6, h7, h8, h9, h10, h11⟩ := h
  exact va_iald h1 h2 h6 hW p 0 (ws_getI (t := 0) (by decide) hL) rfl (inb_in hi) hd (kk a ha H locs ls hW hS hl)
theorem T_bald (h : Ok G l0 X own cc nL R0 ret) (hL : L[p]? = some (.inr (2, n))) {i : Int32} (hd : decode cc pc = .ok (.baload, 1)) (kk : T X A Z nL kc ks (pc + 1) lv (.int (I p (ix i)) :: st) (Rg G b L R I J) o) : T X A Z nL kc ks pc lv (.int i :: .ref (b + p) :: st) (Rg G b L R I J) (gd (inb i n) o) := by
  refine T_gdH fun hi => ?_
  obtain ⟨p0, l, e, Rm, s, m, args, below, meth, c⟩ := X
  intro a ha H locs ls hW hS hl
  obtain ⟨h1, h2, h3, h4, h5, h6, h7, h8, h9, h10, h11⟩ := h
  exact va_bald h1 h2 h6 hW p 2 (ws_getI (t := 2) (by decide) hL) rfl (inb_in hi) hd (kk a ha H locs ls hW hS hl)
theorem T_zald (h : Ok G l0 X own cc nL R0 ret) (hL : L[p]? = some (.inr (3, n))) {i : Int32} (hd : decode cc pc = .ok (.baload, 1)) (kk : T X A Z nL kc ks (pc + 1) lv (.int (I p (ix i)) :: st) (Rg G b L R I J) o) : T X A Z nL kc ks pc lv (.int i :: .ref (b + p) :: st) (Rg G b L R I J) (gd (inb i n) o) := by
  refine T_gdH fun hi => ?_
  obtain ⟨p0, l, e, Rm, s, m, args, below, meth, c⟩ := X
  intro a ha H locs ls hW hS hl
  obtain ⟨h1, h2, h3, h4, h5, h6, h7, h8, h9, h10, h11⟩ := h
  exact va_zald h1 h2 h6 hW p 3 (ws_getI (t := 3) (by decide) hL) rfl (inb_in hi) hd (kk a ha H locs ls hW hS hl)
theorem T_lald (h : Ok G l0 X own cc nL R0 ret) (hL : L[p]? = some (.inr (1, n))) {i : Int32} (hd : decode cc pc = .ok (.laload, 1)) (kk : T X A Z nL kc ks (pc + 1) lv (.long (J p (ix i)) :: st) (Rg G b L R I J) o) : T X A Z nL kc ks pc lv (.int i :: .ref (b + p) :: st) (Rg G b L R I J) (gd (inb i n) o) := by
  refine T_gdH fun hi => ?_
  obtain ⟨p0, l, e, Rm, s, m, args, below, meth, c⟩ := X
  intro a ha H locs ls hW hS hl
  obtain ⟨h1, h2, h3, h4, h5, h6, h7, h8, h9, h10, h11⟩ := h
  exact va_lald h1 h2 h6 hW p 1 (ws_getL hL) rfl (inb_in hi) hd (kk a ha H locs ls hW hS hl)
theorem T_alen (h : Ok G l0 X own cc nL R0 ret) {t : Nat} (ht : t < 4) (hL : L[p]? = some (.inr (t, n))) {v : Int32} (hv : Int32.ofNat n = v) (hd : decode cc pc = .ok (.arraylength, 1)) (kk : T X A Z nL kc ks (pc + 1) lv (.int v :: st) (Rg G b L R I J) o) : T X A Z nL kc ks pc lv (.ref (b + p) :: st) (Rg G b L R I J) o := by
  obtain ⟨p0, l, e, Rm, s, m, args, below, meth, c⟩ := X
  intro a ha H locs ls hW hS hl
  obtain ⟨h1, h2, h3, h4, h5, h6, h7, h8, h9, h10, h11⟩ := h
  have hx : (arC t n (I p) (J p)).1 = n := by unfold arC; split <;> rfl
  have hty : ∃ ty, (tys4 G.2)[t]? = some (G.2 t, ty) := by
    match t, ht with
    | 0, _ => exact ⟨_, rfl⟩
    | 1, _ => exact ⟨_, rfl⟩
    | 2, _ => exact ⟨_, rfl⟩
    | 3, _ => exact ⟨_, rfl⟩
  obtain ⟨ty, hty⟩ := hty
  exact va_alen h1 h2 h6 hW p t (ws_getA hL) hty (by rw [hx]; exact hv) hd (kk a ha H locs ls hW hS hl)
theorem T_iast (h : Ok G l0 X own cc nL R0 ret) (hA : ∀ k, k < L.length → A (b + k)) (hL : L[p]? = some (.inr (0, n))) {i x : Int32} {f : MI → Option α} (hd : decode cc pc = .ok (.iastore, 1)) (kk : ∀ I' : MI, T X A Z nL kc ks (pc + 1) lv st (Rg G b L R I' J) (f I')) : T X A Z nL kc ks pc lv (.int x :: .int i :: .ref (b + p) :: st) (Rg G b L R I J) (gd (inb i n) (lt (st2 I p (ix i) x) f)) := by
  refine T_gdH fun hi => ?_
  have kk := kk (st2 I p (ix i) x)
  obtain ⟨p0, l, e, Rm, s, m, args, below, meth, c⟩ := X
  intro a ha H locs ls hW hS hl
  obtain ⟨h1, h2, h3, h4, h5, h6, h7, h8, h9, h10, h11⟩ := h
  refine va_iast h1 h2 h6 hW (ws_D hA) hS p 0 (ws_getI (t := 0) (by decide) hL) rfl (inb_in hi) hd ?_
  intro H1 locs1 hP1 _ hS1
  have e0 : (Sum.inl (G.2 0, n, Sum.inl (upd (I p) i.toNatClampNeg x)) : va_E) = ent G.2 R (st2 I p (ix i) x) J p (.inr (0, n)) := by
    simp only [ent, arC, st2_eq]
    rfl
  rw [e0, ws_set (kd := .inr (0, n)) hL (fun q hq => ⟨rfl, st2_ne hq, rfl⟩)] at hP1
  exact kk a ha H1 locs1 ls hP1 hS1 hl
theorem T_bast (h : Ok G l0 X own cc nL R0 ret) (hA : ∀ k, k < L.length → A (b + k)) (hL : L[p]? = some (.inr (2, n))) {i x : Int32} {f : MI → Option α} (hd : decode cc pc = .ok (.bastore, 1)) (kk : ∀ I' : MI, T X A Z nL kc ks (pc + 1) lv st (Rg G b L R I' J) (f I')) : T X A Z nL kc ks pc lv (.int x :: .int i :: .ref (b + p) :: st) (Rg G b L R I J) (gd (inb i n) (lt (st2 I p (ix i) (i2b x)) f)) := by
  refine T_gdH fun hi => ?_
  have kk := kk (st2 I p (ix i) (i2b x))
  obtain ⟨p0, l, e, Rm, s, m, args, below, meth, c⟩ := X
  intro a ha H locs ls hW hS hl
  obtain ⟨h1, h2, h3, h4, h5, h6, h7, h8, h9, h10, h11⟩ := h
  refine va_bast h1 h2 h6 hW (ws_D hA) hS p 2 (ws_getI (t := 2) (by decide) hL) rfl (inb_in hi) hd ?_
  intro H1 locs1 hP1 _ hS1
  have e0 : (Sum.inl (G.2 2, n, Sum.inl (upd (I p) i.toNatClampNeg (vp_nar .byte x))) : va_E) = ent G.2 R (st2 I p (ix i) (i2b x)) J p (.inr (2, n)) := by
    rw [vp_nar_byte]
    simp only [ent, arC, st2_eq]
    rfl
  rw [e0, ws_set (kd := .inr (2, n)) hL (fun q hq => ⟨rfl, st2_ne hq, rfl⟩)] at hP1
  exact kk a ha H1 locs1 ls hP1 hS1 hl
theorem T_zast (h : Ok G l0 X own cc nL R0 ret) (hA : ∀ k, k < L.length → A (b + k)) (hL : L[p]? = some (.inr (3, n))) {i x : Int32} {f : MI → Option α} (hd : decode cc pc = .ok (.bastore, 1)) (kk : ∀ I' : MI, T X A Z nL kc ks (pc + 1) lv st (Rg G b L R I' J) (f I')) : T X A Z nL kc ks pc lv (.int x :: .int i :: .ref (b + p) :: st) (Rg G b L R I J) (gd (is01 x) (gd (inb i n) (lt (st2 I p (ix i) x) f))) := by
  refine T_gdH fun hx => T_gdH fun hi => ?_
  have kk := kk (st2 I p (ix i) x)
  obtain ⟨p0, l, e, Rm, s, m, args, below, meth, c⟩ := X
  intro a ha H locs ls hW hS hl
  obtain ⟨h1, h2, h3, h4, h5, h6, h7, h8, h9, h10, h11⟩ := h
  refine va_zast h1 h2 h6 hW (ws_D hA) hS p 3 (ws_getI (t := 3) (by decide) hL) rfl (inb_in hi) hd ?_
  intro H1 locs1 hP1 _ hS1
  have e0 : (Sum.inl (G.2 3, n, Sum.inl (upd (I p) i.toNatClampNeg (vp_nar .boolean x))) : va_E) = ent G.2 R (st2 I p (ix i) x) J p (.inr (3, n)) := by
    rw [is01_vp hx]
    simp only [ent, arC, st2_eq]
    rfl
  rw [e0, ws_set (kd := .inr (3, n)) hL (fun q hq => ⟨rfl, st2_ne hq, rfl⟩)] at hP1
  exact kk a ha H1 locs1 ls hP1 hS1 hl
theorem T_last (h : Ok G l0 X own cc nL R0 ret) (hA : ∀ k, k < L.length → A (b + k)) (hL : L[p]? = some (.inr (1, n))) {i : Int32} {x : Int64} {f : MJ → Option α} (hd : decode cc pc = .ok (.lastore, 1)) (kk : ∀ J' : MJ, T X A Z nL kc ks (pc + 1) lv st (Rg G b L R I J') (f J')) : T X A Z nL kc ks pc lv (.long x :: .int i :: .ref (b + p) :: st) (Rg G b L R I J) (gd (inb i n) (lt (st2 J p (ix i) x) f)) := by
  refine T_gdH fun hi => ?_
  have kk := kk (st2 J p (ix i) x)
  obtain ⟨p0, l, e, Rm, s, m, args, below, meth, c⟩ := X
  intro a ha H locs ls hW hS hl
  obtain ⟨h1, h2, h3, h4, h5, h6, h7, h8, h9, h10, h11⟩ := h
  refine va_last h1 h2 h6 hW (ws_D hA) hS p 1 (ws_getL hL) rfl (inb_in hi) hd ?_
  intro H1 locs1 hP1 _ hS1
  have e0 : (Sum.inl (G.2 1, n, Sum.inr (Sum.inl (vp_updL (J p) i.toNatClampNeg x))) : va_E) = ent G.2 R I (st2 J p (ix i) x) p (.inr (1, n)) := by
    simp only [ent, arC, st2_eq]
    rfl
  rw [e0, ws_set (kd := .inr (1, n)) hL (fun q hq => ⟨rfl, rfl, st2_ne hq⟩)] at hP1
  exact kk a ha H1 locs1 ls hP1 hS1 hl
section SW
variable {Wd : Heap → Prop}
theorem T_swc {x c : Int32} {o1 d : Option α} {r : List (Int32 × Option α)} (h1 : x = c → T X A Z nL kc ks pc lv (.int x :: st) Wd o1) (h2 : ¬ x = c → T X A Z nL kc ks pc lv (.int x :: st) Wd (sw x r d)) : T X A Z nL kc ks pc lv (.int x :: st) Wd (sw x ((c, o1) :: r) d) := by
  by_cases hx : x = c
  · have e : sw x ((c, o1) :: r) d = o1 := by simp [sw, hx]
    rw [e]
    exact h1 hx
  · have e : sw x ((c, o1) :: r) d = sw x r d := by simp [sw, hx]
    rw [e]
    exact h2 hx
theorem T_swd {x : Int32} {d : Option α} (h : T X A Z nL kc ks pc lv (.int x :: st) Wd d) : T X A Z nL kc ks pc lv (.int x :: st) Wd (sw x [] d) := h
theorem T_tin (h : Ok G l0 X own cc nL R0 ret) {dflt lo hi off : Int} {offs : Array Int} {len tgt : Nat} {x c : Int32} (hx : x = c) (hd : decode cc pc = .ok (.tableswitch dflt lo hi offs, len)) (h1 : ¬ c.toInt < lo) (h2 : ¬ hi < c.toInt) (ho : offs[(c.toInt - lo).toNat]? = some off) (ht : (pc : Int) + off = (tgt : Int)) (kk : T X A Z nL kc ks tgt lv st Wd o) : T X A Z nL kc ks pc lv (.int x :: st) Wd o := by
  obtain ⟨p0, l, e, Rm, s, m, args, below, meth, cd⟩ := X
  intro a ha H locs ls hW hS hl
  subst hx
  exact lv_tableIn h.1 h.2.1 hd h1 h2 ho ht (kk a ha H locs ls hW hS hl)
theorem T_tout (h : Ok G l0 X own cc nL R0 ret) {dflt lo hi : Int} {offs : Array Int} {len tgt : Nat} {x : Int32} (hd : decode cc pc = .ok (.tableswitch dflt lo hi offs, len)) (h1 : x.toInt < lo ∨ hi < x.toInt) (ht : (pc : Int) + dflt = (tgt : Int)) (kk : T X A Z nL kc ks tgt lv st Wd o) : T X A Z nL kc ks pc lv (.int x :: st) Wd o := by
  obtain ⟨p0, l, e, Rm, s, m, args, below, meth, cd⟩ := X
  intro a ha H locs ls hW hS hl
  exact lv_tableOut h.1 h.2.1 hd h1 ht (kk a ha H locs ls hW hS hl)
theorem T_tdf (h : Ok G l0 X own cc nL R0 ret) {dflt lo hi : Int} {offs : Array Int} {len tgt n : Nat} {x : Int32} (hd : decode cc pc = .ok (.tableswitch dflt lo hi offs, len)) (hn : hi + 1 - lo = (n : Int)) (hj : ∀ j : Nat, j < n → x.toInt = lo + (j : Int) → offs[j]? = some dflt) (ht : (pc : Int) + dflt = (tgt : Int)) (kk : T X A Z nL kc ks tgt lv st Wd o) : T X A Z nL kc ks pc lv (.int x :: st) Wd o := by
  by_cases hx : x.toInt < lo ∨ hi < x.toInt
  · exact T_tout h hd hx ht kk
  · have h1 : ¬ x.toInt < lo := fun q => hx (Or.inl q)
    have h2 : ¬ hi < x.toInt := fun q => hx (Or.inr q)
    exact T_tin h rfl hd h1 h2 (hj (x.toInt - lo).toNat (by omega) (by omega)) ht kk
theorem T_lin (h : Ok G l0 X own cc nL R0 ret) {dflt off : Int} {ps : Array (Int × Int)} {len tgt : Nat} {x c : Int32} (hx : x = c) (hd : decode cc pc = .ok (.lookupswitch dflt ps, len)) (hp : (ps.toList.zip (ps.toList.drop 1)).all (fun (a, next) => a.1 < next.1) = true) (ho : Op.lookupswitch.offset ps.toList dflt c.toInt = off) (ht : (pc : Int) + off = (tgt : Int)) (kk : T X A Z nL kc ks tgt lv st Wd o) : T X A Z nL kc ks pc lv (.int x :: st) Wd o := by
  obtain ⟨p0, l, e, Rm, s, m, args, below, meth, cd⟩ := X
  intro a ha H locs ls hW hS hl
  subst hx
  exact lv_lookup h.1 h.2.1 hd hp ho ht (kk a ha H locs ls hW hS hl)
theorem T_lout (h : Ok G l0 X own cc nL R0 ret) {dflt off : Int} {ps : Array (Int × Int)} {len tgt : Nat} {x : Int32} (hd : decode cc pc = .ok (.lookupswitch dflt ps, len)) (hp : (ps.toList.zip (ps.toList.drop 1)).all (fun (a, next) => a.1 < next.1) = true) (ho : Op.lookupswitch.offset ps.toList dflt x.toInt = off) (ht : (pc : Int) + off = (tgt : Int)) (kk : T X A Z nL kc ks tgt lv st Wd o) : T X A Z nL kc ks pc lv (.int x :: st) Wd o := by
  obtain ⟨p0, l, e, Rm, s, m, args, below, meth, cd⟩ := X
  intro a ha H locs ls hW hS hl
  exact lv_lookup h.1 h.2.1 hd hp ho ht (kk a ha H locs ls hW hS hl)
end SW
end MEM
