/-! the law's own rows: the script, calls beside other cells, its loop, its end -/
theorem Rg_frame {G : Gx} {b : Nat} {L : List Kd} {R : MR} {I : MI} {J : MJ} {A1 : Nat → Prop} {H H' : Heap} (hA : ∀ p, p < L.length → ¬ A1 (b + p)) (hk : ∀ q, q < H.size → ¬ A1 q → H'[q]? = H[q]?) (h : Rg G b L R I J H) : Rg G b L R I J H' := by
  refine va_P.kept h fun k q hq => ?_
  have hq2 : ∃ kd, L[k]? = some kd ∧ q.1 = b + k := by
    simp only [wsOf, List.getElem?_mapIdx] at hq
    cases hL : L[k]? with
    | none => rw [hL] at hq; cases hq
    | some kd => rw [hL] at hq; cases hq; exact ⟨kd, rfl, rfl⟩
  obtain ⟨kd, h1, h2⟩ := hq2
  have hlt : k < L.length := (List.getElem?_eq_some_iff.mp h1).1
  have hsz := (h k q hq).lt
  exact hk q.1 hsz (by rw [h2]; exact hA k hlt)
def CRF (X : Cx) (A A1 : Nat → Prop) (kc ks nL pc : Nat) (lv : List (Nat × Value)) (st rest : List Value) (mc ms : Nat) (Wd : Heap → Prop) {β : Type} (ι : β → Option Value × (Heap → Prop)) (o1 : Option β) : Prop :=
  match X with
  | (p, l, e, R, s, m, args, below, meth, c) => ∀ a, o1 = some a → ∀ (H : Heap) (locs : List Loc) (ls : Array Slot), Wd H → va_S A s.heap H locs → lv_has ls nL lv → ∃ cargs : Array Value, va_Run p l e R s m args below meth c H locs kc ks mc ms (F0 m pc ls st) rest (Qv A1 (ι a) cargs) A1
section LR
variable {G : Gx} {l0 : Launch} {X : Cx} {own : String} {cc : ByteArray} {nL : Nat} {R0 : Room} {ret : Option FieldType} {A A1 : Nat → Prop} {α : Type} {Z : α → State → Prop} {kc ks pc : Nat} {lv : List (Nat × Value)} {st rest : List Value} {o : Option α} {b p ci idx n : Nat} {L : List Kd} {R : MR} {I : MI} {J : MJ} {Wd F : Heap → Prop}
variable {y : MethodName} {cc' : ByteArray} {nL' : Nat} {ret' : Option FieldType} {rm : Room} {As : List Value} {β : Type} {ι : β → Option Value × (Heap → Prop)} {o1 : Option β} {mc ms : Nat}
theorem T_callGF {f : β → Option α} (hA : ∀ q, A1 q → A q) (hF : ∀ H H' : Heap, H.size ≤ H'.size → (∀ q, q < H.size → ¬ A1 q → H'[q]? = H[q]?) → F H → F H') (hr : CRF X A A1 kc ks nL pc lv st rest mc ms Wd ι o1) {kc' ks' : Nat} (hkc : kc + mc = kc') (hks : ks + ms = ks') (kk : ∀ a, T X A Z nL kc' ks' (pc + 3) lv ((ι a).1.toList ++ rest) (fun H => (ι a).2 H ∧ F H) (f a)) : T X A Z nL kc ks pc lv st (fun H => Wd H ∧ F H) (o1.bind f) := by
  obtain ⟨p0, l, e, Rm, s, m, args, below, meth, c⟩ := X
  subst hkc
  subst hks
  intro a' ha H locs ls hW hS hl
  cases ho : o1 with
  | none => rw [ho] at ha; cases ha
  | some a =>
    rw [ho] at ha
    have ha : f a = some a' := ha
    intro T0 hT X0
    obtain ⟨cargs, hr⟩ := hr a ho H locs ls hW.1 hS hl
    obtain ⟨v, st₀, t, T', L', h0, X', hL', e1, e2, ⟨hv, hw, hz, hk⟩, stp⟩ := hr T0 hT X0
    have hv : v = (ι a).1 := by injection hv
    subst hv
    rw [h0] at hz hk
    obtain ⟨t2, a1, b1⟩ := kk a a' ha T'.heap (locs ++ L') ls ⟨by rw [e1]; exact hw, hF H _ (by rw [e1]; exact hz) (fun q h1 h2 => by rw [e1]; exact hk q h1 h2) hW.2⟩ ⟨Nat.le_trans hS.1 (by rw [e1]; exact hz), fun q h1 h2 => by rw [e1, hk q (Nat.lt_of_lt_of_le h1 hS.1) (fun z => h2 (hA q z))]; exact hS.2.1 q h1 h2, fun q hq => by
      rcases List.mem_append.mp hq with h | h
      · exact hS.2.2 q h
      · exact hA _ (hL' q h)⟩ hl T' rfl X'
    exact ⟨t2, stp t2 a1, b1⟩
theorem CRF_V (h : Ok G l0 X own cc nL R0 ret) (hC : Ct G l0 A1 y cc' nL' ret' rm (.ref (b + p) :: As) (Rg G b L R I J) ι o1) (hm : MWc y cc' nL' ret' n) (hv : MWv y ci) (hlk : Cond.methodLink own idx y ∈ UW) (hL : L[p]? = some (.inl ci)) (hd : decode cc pc = .ok (.invokevirtual idx, 3)) (hst : As.reverse ++ .ref (b + p) :: rest = st) (hn : As.length = n) (hR : (rm.frames + 1 ≤ R0.frames ∧ 8 + (nL' + 11) + rm.locals ≤ R0.locals)) (hRc : kc + rm.cells ≤ R0.cells) (hRs : ks + rm.slots ≤ R0.slots) (hrest : Nat.ble ((rest.map fun v => v.category).sum) 8 = true) : CRF X A A1 kc ks nL pc lv st rest rm.cells rm.slots (Rg G b L R I J) ι o1 := by
  obtain ⟨p0, l, e, Rm, s, m, args, below, meth, c⟩ := X
  obtain ⟨h1, h2, h3, h4, h5, h6, h7, rfl, h9, rfl, h11⟩ := h
  intro a ha H locs ls hW hS hl
  obtain ⟨m1, m2, m3⟩ := hm
  obtain ⟨v1, v2, v3⟩ := hv
  cases hcl : cls12[ci]? with
  | none => rw [hcl] at v3; cases v3
  | some q =>
    rw [hcl] at v3
    have v3 : q.1 = y.cls := by injection v3
    have hrc := va_recv h6 hW hcl (ws_getO hL)
    rw [v3] at hrc
    subst hst
    exact ⟨_, va_runV (As := As) (rest := rest) (C := y.cls) (b := b + p) ⟨h1, h2, h3, h4, h5⟩ (hC a ha) ⟨callB_of n h5 (goodUW m1) rfl rfl rfl (h5 _ m2) (h5 _ hlk) m3 hR, h5 _ v1, h5 _ v2⟩ ⟨Pv_blind, hrc, fun U hU hWm => ⟨rfl, by rw [hU]; exact hW, va_K.moved hWm.alike h6, nw_warm hWm h11⟩⟩ rfl hn hl.1 rfl (lv_room (Nat.le_of_ble_eq_true hrest)) hd ⟨hRc, hRs⟩⟩
theorem T_widen {kc' ks' : Nat} (h1 : kc ≤ kc') (h2 : ks ≤ ks') (kk : T X A Z nL kc' ks' pc lv st Wd o) : T X A Z nL kc ks pc lv st Wd o := by
  obtain ⟨p0, l, e, Rm, s, m, args, below, meth, c⟩ := X
  intro a ha H locs ls hW hS hl
  exact W.widen h1 h2 (kk a ha H locs ls hW hS hl)
def OkS (X : Cx) (A : Nat → Prop) (q L : Nat) (xs : Nat → Int32) : Prop := match X with
  | (_, _, _, _, s, _, _, _, _, _) => va_X q L xs s s.heap ∧ q < s.heap.size ∧ ¬ A q
theorem T_sld (h : Ok G l0 X own cc nL R0 ret) {q N : Nat} {xs : Nat → Int32} (hX : OkS X A q N xs) {i : Int32} (hd : decode cc pc = .ok (.iaload, 1)) (kk : T X A Z nL kc ks (pc + 1) lv (.int (xs (ix i)) :: st) Wd o) : T X A Z nL kc ks pc lv (.int i :: .ref q :: st) Wd (gd (inb i N) o) := by
  refine T_gdH fun hi => ?_
  obtain ⟨p0, l, e, Rm, s, m, args, below, meth, c⟩ := X
  obtain ⟨h1, h2, h3, h4, h5, h6, h7, rfl, h9, h10⟩ := h
  obtain ⟨x1, x2, x3⟩ := hX
  intro a ha H locs ls hW hS hl
  exact va_sld h1 h2 x1 x2 x3 hS (inb_in hi) hd (kk a ha H locs ls hW hS hl)
theorem T_slenX (h : Ok G l0 X own cc nL R0 ret) {q N : Nat} {xs : Nat → Int32} (hX : OkS X A q N xs) (hd : decode cc pc = .ok (.arraylength, 1)) (kk : T X A Z nL kc ks (pc + 1) lv (.int (Int32.ofNat N) :: st) Wd o) : T X A Z nL kc ks pc lv (.ref q :: st) Wd o := by
  obtain ⟨p0, l, e, Rm, s, m, args, below, meth, c⟩ := X
  obtain ⟨h1, h2, h3, h4, h5, h6, h7, rfl, h9, h10⟩ := h
  obtain ⟨x1, x2, x3⟩ := hX
  intro a ha H locs ls hW hS hl
  exact va_slen h1 h2 x1 x2 x3 hS hd (kk a ha H locs ls hW hS hl)
/-- a read of a region's long row, other cells beside it -/
theorem T_laldF (h : Ok G l0 X own cc nL R0 ret) (hL : L[p]? = some (.inr (1, n))) {i : Int32} (hd : decode cc pc = .ok (.laload, 1)) (kk : T X A Z nL kc ks (pc + 1) lv (.long (J p (ix i)) :: st) (fun H => Rg G b L R I J H ∧ F H) o) : T X A Z nL kc ks pc lv (.int i :: .ref (b + p) :: st) (fun H => Rg G b L R I J H ∧ F H) (gd (inb i n) o) := by
  refine T_gdH fun hi => ?_
  obtain ⟨p0, l, e, Rm, s, m, args, below, meth, c⟩ := X
  intro a ha H locs ls hW hS hl
  obtain ⟨h1, h2, h3, h4, h5, h6, h7, h8, h9, h10, h11⟩ := h
  exact va_lald h1 h2 h6 hW.1 p 1 (ws_getL hL) rfl (inb_in hi) hd (kk a ha H locs ls hW hS hl)
section FIXW
variable {σ1 σ2 σ3 σ4 σ5 σ6 σ7 σ8 σ9 : Type}
theorem T_fixW (step : (σ1 → σ2 → σ3 → σ4 → σ5 → σ6 → σ7 → σ8 → σ9 → Option α) → σ1 → σ2 → σ3 → σ4 → σ5 → σ6 → σ7 → σ8 → σ9 → Option α) (lvs : σ1 → σ2 → σ3 → σ4 → σ5 → σ6 → σ7 → σ8 → σ9 → List (Nat × Value)) (ws : σ1 → σ2 → σ3 → σ4 → σ5 → σ6 → σ7 → σ8 → σ9 → Heap → Prop) (c d KK SS F0' : Nat)
    (hs : ∀ (n : Nat), n + 1 ≤ F0' → ∀ rec, (∀ x1 x2 x3 x4 x5 x6 x7 x8 x9, T X A Z nL (KK - c * n) (SS - d * n) pc (lvs x1 x2 x3 x4 x5 x6 x7 x8 x9) st (ws x1 x2 x3 x4 x5 x6 x7 x8 x9) (rec x1 x2 x3 x4 x5 x6 x7 x8 x9)) → ∀ x1 x2 x3 x4 x5 x6 x7 x8 x9, T X A Z nL (KK - c * (n + 1)) (SS - d * (n + 1)) pc (lvs x1 x2 x3 x4 x5 x6 x7 x8 x9) st (ws x1 x2 x3 x4 x5 x6 x7 x8 x9) (step rec x1 x2 x3 x4 x5 x6 x7 x8 x9)) (Fu : Nat) (hF : Fu ≤ F0') : ∀ x1 x2 x3 x4 x5 x6 x7 x8 x9, T X A Z nL (KK - c * Fu) (SS - d * Fu) pc (lvs x1 x2 x3 x4 x5 x6 x7 x8 x9) st (ws x1 x2 x3 x4 x5 x6 x7 x8 x9) (fix9 step Fu x1 x2 x3 x4 x5 x6 x7 x8 x9) := by
  induction Fu with
  | zero => exact fun _ _ _ _ _ _ _ _ _ => T_none
  | succ n ih => exact hs n hF (fix9 step n) (ih (by omega))
end FIXW
end LR
