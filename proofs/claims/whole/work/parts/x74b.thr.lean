/-! a throw of NoSuchElementException in a method's walk; as T_xthrow -/
section XR
variable {G : Gx} {l0 : Launch} {K V : Nat → Nat} {X : Cx} {own : String} {cc : ByteArray} {nL : Nat} {R0 : Room} {ret : Option FieldType} {A : Nat → Prop} {α : Type} {Z : α → State → Prop} {kc ks pc : Nat} {lv : List (Nat × Value)} {st rest : List Value} {o : Option α} {b p ci k idx n : Nat} {L : List Kd} {R : MR} {I : MI} {J : MJ} {Wd : Heap → Prop} {ι : α → Rx} {a : α}
theorem T_nthrow (h : Ok G l0 X own cc nL R0 ret) (hE : OkE K V A X) (hX : OkX X) {text : String} {ik is ic sa : Nat} {Wd' : Heap → Prop} (hk : Cond.classLink own ik nsC ∈ UW) (hini : Cond.initialized nsC ∈ UW) (hstr : ∀ s H, EV K V A s H → vk_R own is text sa s) (hg : ∀ w ∈ ((nsL own ic).filter vx_no).filter goodWord, w ∈ lw_tbl) (hng : ∀ w ∈ ((nsL own ic).filter vx_no).filter (fun w => !goodWord w), w ∈ EWl) (hgood : ∀ w ∈ Cond.classLink own ik nsC :: Cond.initialized nsC :: (nsL own ic).filter vx_no, vx_ot w = true)
    (d0 : decode cc pc = .ok (.new ik, 3)) (d3 : decode cc (pc + 3) = .ok (.dup, 1)) (d4 : decode cc (pc + 4) = .ok (.ldc is, 2)) (d6 : decode cc (pc + 6) = .ok (.invokespecial ic, 3)) (d9 : decode cc (pc + 9) = .ok (.athrow, 1)) (hRf : 5 < R0.frames) (hRl : (st.map fun v => v.category).sum + 82 ≤ R0.locals) (hRc : kc + 1 ≤ R0.cells) (hRs : ks + 6 ≤ R0.slots) (hi : ι a = .inr (nsC, Wd')) (hWd : ∀ H H' : Heap, (∀ q, q < H.size → H'[q]? = H[q]?) → Wd H → Wd' H') : T X A (Zx X A ι) nL kc ks pc lv st Wd (some a) := by
  obtain ⟨p, l, e, R, s, m, args, below, meth, c⟩ := X
  intro a' ha H locs ls hW hS hl
  cases ha
  obtain ⟨h1, h2, h3, h4, h5, h6, h7, rfl, h9, rfl, h11⟩ := h
  obtain ⟨x1, x2⟩ := hX
  have hE : EV K V A s s.heap := hE
  show W p l e R s m args below meth c H locs kc ks (vx_MQ below (Qx A (ι a)) (Xx A (ι a)) args s R.cells R.slots A) (F0 m pc ls st)
  rw [hi]
  refine ns_throw h1 h2 x2 h4 (h5 _ hk) (h5 _ hini) (hstr s _ hE) (vx_hat (fun w hw => h5 _ (uw_in (hg w hw) (List.mem_filter.mp hw).2)) hng (fun w hw => va_Nw.use (ew_on w hw) (hE.2.2.2.2.2.2.1 w hw))) hgood hE.2.2.2.2.1 hE.2.2.2.2.2.1 hS (hl.1.trans h3.symm) d0 d3 d4 d6 d9 (fun x hx => (x1 x hx).elim) hRf hRl hRc hRs h7 (fun t ht1 ht2 ht3 => ⟨rfl, hWd H _ ht3 hW, Nat.le_trans hS.1 ht2, fun q q1 q2 => (ht3 q (Nat.lt_of_lt_of_le q1 hS.1)).trans (hS.2.1 q q1 q2)⟩) hS.2.2 hRc hRs
end XR
