/-! rows of the judgement T -/
theorem gd_some {α : Type} {c : Bool} {k : Option α} {a : α} (h : gd c k = some a) : c = true ∧ k = some a := by
  unfold gd at h
  split at h
  · exact ⟨by assumption, h⟩
  · cases h
theorem inb_in {i : Int32} {n : Nat} (h : inb i n = true) : vp_in i n := by
  simp only [inb, Bool.and_eq_true, decide_eq_true_eq] at h
  exact vp_in_iff.mpr h
theorem is01_nar {x : Int32} (h : is01 x = true) : narrow .boolean (.int x) = .int x := by
  simp only [is01, Bool.or_eq_true, decide_eq_true_eq] at h
  rcases h with rfl | rfl <;> rfl
theorem is01_fit {x : Int32} (h : is01 x = true) : fits .boolean (.int x) = true := by
  simp only [is01, Bool.or_eq_true, decide_eq_true_eq] at h
  rcases h with rfl | rfl <;> rfl
theorem is01_vp {x : Int32} (h : is01 x = true) : vp_nar .boolean x = x := by
  simp only [is01, Bool.or_eq_true, decide_eq_true_eq] at h
  rcases h with rfl | rfl <;> rfl
theorem bi_01 (r : Bool) : is01 (bi r) = true := by cases r <;> rfl
theorem nz_ne {x : Int32} (h : nz x = true) : ¬ x = 0 := by simpa [nz] using h
theorem nzl_ne {x : Int64} (h : nzl x = true) : ¬ x = 0 := by simpa [nzl] using h
section RW
variable {G : Gx} {l0 : Launch} {X : Cx} {own : String} {cc : ByteArray} {nL : Nat} {R0 : Room} {ret : Option FieldType} {A : Nat → Prop} {α : Type} {Z : α → State → Prop} {kc ks pc : Nat} {lv lv' : List (Nat × Value)} {st : List Value} {Wd : Heap → Prop} {o : Option α}
theorem T_iconst (h : Ok G l0 X own cc nL R0 ret) {n : Int} {v : Int32} (hv : Int32.ofInt n = v) (hd : decode cc pc = .ok (.iconst n, 1)) (k : T X A Z nL kc ks (pc + 1) lv (.int v :: st) Wd o) : T X A Z nL kc ks pc lv st Wd o := by
  obtain ⟨p, l, e, R, s, m, args, below, meth, c⟩ := X
  intro a ha H locs ls hW hS hl
  exact lv_iconst h.1 h.2.1 hd hv (k a ha H locs ls hW hS hl)
theorem T_bipush (h : Ok G l0 X own cc nL R0 ret) {n : Int} {v : Int32} (hv : (Int8.ofInt n).toInt32 = v) (hd : decode cc pc = .ok (.bipush n, 2)) (k : T X A Z nL kc ks (pc + 2) lv (.int v :: st) Wd o) : T X A Z nL kc ks pc lv st Wd o := by
  obtain ⟨p, l, e, R, s, m, args, below, meth, c⟩ := X
  intro a ha H locs ls hW hS hl
  exact lv_bipush h.1 h.2.1 hd hv (k a ha H locs ls hW hS hl)
theorem T_sipush (h : Ok G l0 X own cc nL R0 ret) {n : Int} {v : Int32} (hv : (Int16.ofInt n).toInt32 = v) (hd : decode cc pc = .ok (.sipush n, 3)) (k : T X A Z nL kc ks (pc + 3) lv (.int v :: st) Wd o) : T X A Z nL kc ks pc lv st Wd o := by
  obtain ⟨p, l, e, R, s, m, args, below, meth, c⟩ := X
  intro a ha H locs ls hW hS hl
  exact lv_sipush h.1 h.2.1 hd hv (k a ha H locs ls hW hS hl)
theorem T_lconst (h : Ok G l0 X own cc nL R0 ret) {n : Fin 2} {v : Int64} (hv : Int64.ofNat (n : Nat) = v) (hd : decode cc pc = .ok (.lconst n, 1)) (k : T X A Z nL kc ks (pc + 1) lv (.long v :: st) Wd o) : T X A Z nL kc ks pc lv st Wd o := by
  obtain ⟨p, l, e, R, s, m, args, below, meth, c⟩ := X
  intro a ha H locs ls hW hS hl
  exact lv_lconst h.1 h.2.1 hd hv (k a ha H locs ls hW hS hl)
theorem T_ldc (h : Ok G l0 X own cc nL R0 ret) {i : Nat} {v : Int32} (hw : Cond.constant own i v ∈ UW) (hd : decode cc pc = .ok (.ldc i, 2)) (k : T X A Z nL kc ks (pc + 2) lv (.int v :: st) Wd o) : T X A Z nL kc ks pc lv st Wd o := by
  obtain ⟨p, l, e, R, s, m, args, below, meth, c⟩ := X
  intro a ha H locs ls hW hS hl
  exact lv_ldc h.1 h.2.1 h.2.2.2.1 (h.2.2.2.2.1 _ hw) hd (k a ha H locs ls hW hS hl)
theorem T_ldcw (h : Ok G l0 X own cc nL R0 ret) {i : Nat} {v : Int32} (hw : Cond.constant own i v ∈ UW) (hd : decode cc pc = .ok (.ldc_w i, 3)) (k : T X A Z nL kc ks (pc + 3) lv (.int v :: st) Wd o) : T X A Z nL kc ks pc lv st Wd o := by
  obtain ⟨p, l, e, R, s, m, args, below, meth, c⟩ := X
  intro a ha H locs ls hW hS hl
  exact lv_ldcw h.1 h.2.1 h.2.2.2.1 (h.2.2.2.2.1 _ hw) hd (k a ha H locs ls hW hS hl)
theorem T_ldc2 (h : Ok G l0 X own cc nL R0 ret) {i : Nat} {v : Int64} (hw : Cond.constantLong own i v ∈ UW) (hd : decode cc pc = .ok (.ldc2_w i, 3)) (k : T X A Z nL kc ks (pc + 3) lv (.long v :: st) Wd o) : T X A Z nL kc ks pc lv st Wd o := by
  obtain ⟨p, l, e, R, s, m, args, below, meth, c⟩ := X
  intro a ha H locs ls hW hS hl
  exact lv_ldc2 h.1 h.2.1 h.2.2.2.1 (h.2.2.2.2.1 _ hw) hd (k a ha H locs ls hW hS hl)
theorem T_iload_n (h : Ok G l0 X own cc nL R0 ret) {f : Fin 4} {i : Nat} {x : Int32} (j : Nat) (hi : (f : Nat) = i) (hj : lv[j]? = some (i, .int x)) (hd : decode cc pc = .ok (.iload_n f, 1)) (k : T X A Z nL kc ks (pc + 1) lv (.int x :: st) Wd o) : T X A Z nL kc ks pc lv st Wd o := by
  obtain ⟨p, l, e, R, s, m, args, below, meth, c⟩ := X
  intro a ha H locs ls hW hS hl
  exact lv_iload_n h.1 h.2.1 hd hi (lv_at hl j hj) (k a ha H locs ls hW hS hl)
theorem T_iload (h : Ok G l0 X own cc nL R0 ret) {i : Nat} {x : Int32} (j : Nat) (hj : lv[j]? = some (i, .int x)) (hd : decode cc pc = .ok (.iload i, 2)) (k : T X A Z nL kc ks (pc + 2) lv (.int x :: st) Wd o) : T X A Z nL kc ks pc lv st Wd o := by
  obtain ⟨p, l, e, R, s, m, args, below, meth, c⟩ := X
  intro a ha H locs ls hW hS hl
  exact lv_iload h.1 h.2.1 hd (lv_at hl j hj) (k a ha H locs ls hW hS hl)
theorem T_istore_n (h : Ok G l0 X own cc nL R0 ret) {f : Fin 4} {i : Nat} {x : Int32} (hi : (f : Nat) = i) (hn : i < nL) (hlv : (i, Value.int x) :: lv.filter (fun q => !(q.1 == i) && !(q.1 + 1 == i && q.2.category == 2)) = lv') (hd : decode cc pc = .ok (.istore_n f, 1)) (k : T X A Z nL kc ks (pc + 1) lv' st Wd o) : T X A Z nL kc ks pc lv (.int x :: st) Wd o := by
  obtain ⟨p, l, e, R, s, m, args, below, meth, c⟩ := X
  intro a ha H locs ls hW hS hl
  exact lv_istore_n h.1 h.2.1 hd hi hl hn hlv (fun ls' hl' => k a ha H locs ls' hW hS hl')
theorem T_istore (h : Ok G l0 X own cc nL R0 ret) {i : Nat} {x : Int32} (hn : i < nL) (hlv : (i, Value.int x) :: lv.filter (fun q => !(q.1 == i) && !(q.1 + 1 == i && q.2.category == 2)) = lv') (hd : decode cc pc = .ok (.istore i, 2)) (k : T X A Z nL kc ks (pc + 2) lv' st Wd o) : T X A Z nL kc ks pc lv (.int x :: st) Wd o := by
  obtain ⟨p, l, e, R, s, m, args, below, meth, c⟩ := X
  intro a ha H locs ls hW hS hl
  exact lv_istore h.1 h.2.1 hd hl hn hlv (fun ls' hl' => k a ha H locs ls' hW hS hl')
theorem T_lload_n (h : Ok G l0 X own cc nL R0 ret) {f : Fin 4} {i : Nat} {x : Int64} (j : Nat) (hi : (f : Nat) = i) (hj : lv[j]? = some (i, .long x)) (hd : decode cc pc = .ok (.lload_n f, 1)) (k : T X A Z nL kc ks (pc + 1) lv (.long x :: st) Wd o) : T X A Z nL kc ks pc lv st Wd o := by
  obtain ⟨p, l, e, R, s, m, args, below, meth, c⟩ := X
  intro a ha H locs ls hW hS hl
  exact lv_lload_n h.1 h.2.1 hd hi (lv_at hl j hj) (k a ha H locs ls hW hS hl)
theorem T_lload (h : Ok G l0 X own cc nL R0 ret) {i : Nat} {x : Int64} (j : Nat) (hj : lv[j]? = some (i, .long x)) (hd : decode cc pc = .ok (.lload i, 2)) (k : T X A Z nL kc ks (pc + 2) lv (.long x :: st) Wd o) : T X A Z nL kc ks pc lv st Wd o := by
  obtain ⟨p, l, e, R, s, m, args, below, meth, c⟩ := X
  intro a ha H locs ls hW hS hl
  exact lv_lload h.1 h.2.1 hd (lv_at hl j hj) (k a ha H locs ls hW hS hl)
theorem T_lstore_n (h : Ok G l0 X own cc nL R0 ret) {f : Fin 4} {i : Nat} {x : Int64} (hi : (f : Nat) = i) (hn : i + 1 < nL) (hlv : (i, Value.long x) :: lv.filter (fun q => !(q.1 == i) && (!(q.1 == i + 1) && !(q.1 + 1 == i && q.2.category == 2))) = lv') (hd : decode cc pc = .ok (.lstore_n f, 1)) (k : T X A Z nL kc ks (pc + 1) lv' st Wd o) : T X A Z nL kc ks pc lv (.long x :: st) Wd o := by
  obtain ⟨p, l, e, R, s, m, args, below, meth, c⟩ := X
  intro a ha H locs ls hW hS hl
  exact lv_lstore_n h.1 h.2.1 hd hi hl hn hlv (fun ls' hl' => k a ha H locs ls' hW hS hl')
theorem T_lstore (h : Ok G l0 X own cc nL R0 ret) {i : Nat} {x : Int64} (hn : i + 1 < nL) (hlv : (i, Value.long x) :: lv.filter (fun q => !(q.1 == i) && (!(q.1 == i + 1) && !(q.1 + 1 == i && q.2.category == 2))) = lv') (hd : decode cc pc = .ok (.lstore i, 2)) (k : T X A Z nL kc ks (pc + 2) lv' st Wd o) : T X A Z nL kc ks pc lv (.long x :: st) Wd o := by
  obtain ⟨p, l, e, R, s, m, args, below, meth, c⟩ := X
  intro a ha H locs ls hW hS hl
  exact lv_lstore h.1 h.2.1 hd hl hn hlv (fun ls' hl' => k a ha H locs ls' hW hS hl')
theorem T_aload_n (h : Ok G l0 X own cc nL R0 ret) {f : Fin 4} {i : Nat} {x : Nat} (j : Nat) (hi : (f : Nat) = i) (hj : lv[j]? = some (i, .ref x)) (hd : decode cc pc = .ok (.aload_n f, 1)) (k : T X A Z nL kc ks (pc + 1) lv (.ref x :: st) Wd o) : T X A Z nL kc ks pc lv st Wd o := by
  obtain ⟨p, l, e, R, s, m, args, below, meth, c⟩ := X
  intro a ha H locs ls hW hS hl
  exact lv_aload_n h.1 h.2.1 hd hi (lv_at hl j hj) (k a ha H locs ls hW hS hl)
theorem T_aload (h : Ok G l0 X own cc nL R0 ret) {i : Nat} {x : Nat} (j : Nat) (hj : lv[j]? = some (i, .ref x)) (hd : decode cc pc = .ok (.aload i, 2)) (k : T X A Z nL kc ks (pc + 2) lv (.ref x :: st) Wd o) : T X A Z nL kc ks pc lv st Wd o := by
  obtain ⟨p, l, e, R, s, m, args, below, meth, c⟩ := X
  intro a ha H locs ls hW hS hl
  exact lv_aload h.1 h.2.1 hd (lv_at hl j hj) (k a ha H locs ls hW hS hl)
theorem T_astore_n (h : Ok G l0 X own cc nL R0 ret) {f : Fin 4} {i : Nat} {x : Nat} (hi : (f : Nat) = i) (hn : i < nL) (hlv : (i, Value.ref x) :: lv.filter (fun q => !(q.1 == i) && !(q.1 + 1 == i && q.2.category == 2)) = lv') (hd : decode cc pc = .ok (.astore_n f, 1)) (k : T X A Z nL kc ks (pc + 1) lv' st Wd o) : T X A Z nL kc ks pc lv (.ref x :: st) Wd o := by
  obtain ⟨p, l, e, R, s, m, args, below, meth, c⟩ := X
  intro a ha H locs ls hW hS hl
  exact lv_astore_n h.1 h.2.1 hd hi hl hn hlv (fun ls' hl' => k a ha H locs ls' hW hS hl')
theorem T_astore (h : Ok G l0 X own cc nL R0 ret) {i : Nat} {x : Nat} (hn : i < nL) (hlv : (i, Value.ref x) :: lv.filter (fun q => !(q.1 == i) && !(q.1 + 1 == i && q.2.category == 2)) = lv') (hd : decode cc pc = .ok (.astore i, 2)) (k : T X A Z nL kc ks (pc + 2) lv' st Wd o) : T X A Z nL kc ks pc lv (.ref x :: st) Wd o := by
  obtain ⟨p, l, e, R, s, m, args, below, meth, c⟩ := X
  intro a ha H locs ls hW hS hl
  exact lv_astore h.1 h.2.1 hd hl hn hlv (fun ls' hl' => k a ha H locs ls' hW hS hl')
theorem T_iinc (h : Ok G l0 X own cc nL R0 ret) {i : Nat} {n : Int} {x c : Int32} {lvs : Int32 → List (Nat × Value)} {f : Int32 → Option α} (j : Nat) (hj : lv[j]? = some (i, .int x)) (hv : Int32.ofInt n = c) (hn : i < nL) (hlv : ∀ v, (i, Value.int v) :: lv.filter (fun q => !(q.1 == i) && !(q.1 + 1 == i && q.2.category == 2)) = lvs v) (hd : decode cc pc = .ok (.iinc i n, 3)) (k : ∀ v, T X A Z nL kc ks (pc + 3) (lvs v) st Wd (f v)) : T X A Z nL kc ks pc lv st Wd (lt (x + c) f) := by
  obtain ⟨p, l, e, R, s, m, args, below, meth, c⟩ := X
  intro a ha H locs ls hW hS hl
  subst hv
  exact lv_iinc h.1 h.2.1 hd hl hj rfl hn (hlv _) (fun ls' hl' => k _ a ha H locs ls' hW hS hl')
theorem T_iadd (h : Ok G l0 X own cc nL R0 ret) {x y : Int32} (hd : decode cc pc = .ok (.iadd, 1)) (k : T X A Z nL kc ks (pc + 1) lv (.int (x + y) :: st) Wd o) : T X A Z nL kc ks pc lv (.int y :: .int x :: st) Wd o := by
  obtain ⟨p, l, e, R, s, m, args, below, meth, c⟩ := X
  intro a ha H locs ls hW hS hl
  exact lv_iadd h.1 h.2.1 hd (k a ha H locs ls hW hS hl)
theorem T_isub (h : Ok G l0 X own cc nL R0 ret) {x y : Int32} (hd : decode cc pc = .ok (.isub, 1)) (k : T X A Z nL kc ks (pc + 1) lv (.int (x - y) :: st) Wd o) : T X A Z nL kc ks pc lv (.int y :: .int x :: st) Wd o := by
  obtain ⟨p, l, e, R, s, m, args, below, meth, c⟩ := X
  intro a ha H locs ls hW hS hl
  exact lv_isub h.1 h.2.1 hd (k a ha H locs ls hW hS hl)
theorem T_imul (h : Ok G l0 X own cc nL R0 ret) {x y : Int32} (hd : decode cc pc = .ok (.imul, 1)) (k : T X A Z nL kc ks (pc + 1) lv (.int (x * y) :: st) Wd o) : T X A Z nL kc ks pc lv (.int y :: .int x :: st) Wd o := by
  obtain ⟨p, l, e, R, s, m, args, below, meth, c⟩ := X
  intro a ha H locs ls hW hS hl
  exact lv_imul h.1 h.2.1 hd (k a ha H locs ls hW hS hl)
theorem T_iand (h : Ok G l0 X own cc nL R0 ret) {x y : Int32} (hd : decode cc pc = .ok (.iand, 1)) (k : T X A Z nL kc ks (pc + 1) lv (.int (x &&& y) :: st) Wd o) : T X A Z nL kc ks pc lv (.int y :: .int x :: st) Wd o := by
  obtain ⟨p, l, e, R, s, m, args, below, meth, c⟩ := X
  intro a ha H locs ls hW hS hl
  exact lv_iand h.1 h.2.1 hd (k a ha H locs ls hW hS hl)
theorem T_ior (h : Ok G l0 X own cc nL R0 ret) {x y : Int32} (hd : decode cc pc = .ok (.ior, 1)) (k : T X A Z nL kc ks (pc + 1) lv (.int (x ||| y) :: st) Wd o) : T X A Z nL kc ks pc lv (.int y :: .int x :: st) Wd o := by
  obtain ⟨p, l, e, R, s, m, args, below, meth, c⟩ := X
  intro a ha H locs ls hW hS hl
  exact lv_ior h.1 h.2.1 hd (k a ha H locs ls hW hS hl)
theorem T_ixor (h : Ok G l0 X own cc nL R0 ret) {x y : Int32} (hd : decode cc pc = .ok (.ixor, 1)) (k : T X A Z nL kc ks (pc + 1) lv (.int (x ^^^ y) :: st) Wd o) : T X A Z nL kc ks pc lv (.int y :: .int x :: st) Wd o := by
  obtain ⟨p, l, e, R, s, m, args, below, meth, c⟩ := X
  intro a ha H locs ls hW hS hl
  exact lv_ixor h.1 h.2.1 hd (k a ha H locs ls hW hS hl)
theorem T_ishl (h : Ok G l0 X own cc nL R0 ret) {x y : Int32} (hd : decode cc pc = .ok (.ishl, 1)) (k : T X A Z nL kc ks (pc + 1) lv (.int (x <<< (y &&& 31)) :: st) Wd o) : T X A Z nL kc ks pc lv (.int y :: .int x :: st) Wd o := by
  obtain ⟨p, l, e, R, s, m, args, below, meth, c⟩ := X
  intro a ha H locs ls hW hS hl
  exact lv_ishl h.1 h.2.1 hd (k a ha H locs ls hW hS hl)
theorem T_ishr (h : Ok G l0 X own cc nL R0 ret) {x y : Int32} (hd : decode cc pc = .ok (.ishr, 1)) (k : T X A Z nL kc ks (pc + 1) lv (.int (x >>> (y &&& 31)) :: st) Wd o) : T X A Z nL kc ks pc lv (.int y :: .int x :: st) Wd o := by
  obtain ⟨p, l, e, R, s, m, args, below, meth, c⟩ := X
  intro a ha H locs ls hW hS hl
  exact lv_ishr h.1 h.2.1 hd (k a ha H locs ls hW hS hl)
theorem T_ladd (h : Ok G l0 X own cc nL R0 ret) {x y : Int64} (hd : decode cc pc = .ok (.ladd, 1)) (k : T X A Z nL kc ks (pc + 1) lv (.long (x + y) :: st) Wd o) : T X A Z nL kc ks pc lv (.long y :: .long x :: st) Wd o := by
  obtain ⟨p, l, e, R, s, m, args, below, meth, c⟩ := X
  intro a ha H locs ls hW hS hl
  exact lv_ladd h.1 h.2.1 hd (k a ha H locs ls hW hS hl)
theorem T_lsub (h : Ok G l0 X own cc nL R0 ret) {x y : Int64} (hd : decode cc pc = .ok (.lsub, 1)) (k : T X A Z nL kc ks (pc + 1) lv (.long (x - y) :: st) Wd o) : T X A Z nL kc ks pc lv (.long y :: .long x :: st) Wd o := by
  obtain ⟨p, l, e, R, s, m, args, below, meth, c⟩ := X
  intro a ha H locs ls hW hS hl
  exact lv_lsub h.1 h.2.1 hd (k a ha H locs ls hW hS hl)
theorem T_lmul (h : Ok G l0 X own cc nL R0 ret) {x y : Int64} (hd : decode cc pc = .ok (.lmul, 1)) (k : T X A Z nL kc ks (pc + 1) lv (.long (x * y) :: st) Wd o) : T X A Z nL kc ks pc lv (.long y :: .long x :: st) Wd o := by
  obtain ⟨p, l, e, R, s, m, args, below, meth, c⟩ := X
  intro a ha H locs ls hW hS hl
  exact lv_lmul h.1 h.2.1 hd (k a ha H locs ls hW hS hl)
theorem T_land (h : Ok G l0 X own cc nL R0 ret) {x y : Int64} (hd : decode cc pc = .ok (.land, 1)) (k : T X A Z nL kc ks (pc + 1) lv (.long (x &&& y) :: st) Wd o) : T X A Z nL kc ks pc lv (.long y :: .long x :: st) Wd o := by
  obtain ⟨p, l, e, R, s, m, args, below, meth, c⟩ := X
  intro a ha H locs ls hW hS hl
  exact lv_land h.1 h.2.1 hd (k a ha H locs ls hW hS hl)
theorem T_lneg (h : Ok G l0 X own cc nL R0 ret) {x : Int64} (hd : decode cc pc = .ok (.lneg, 1)) (k : T X A Z nL kc ks (pc + 1) lv (.long (-x) :: st) Wd o) : T X A Z nL kc ks pc lv (.long x :: st) Wd o := by
  obtain ⟨p, l, e, R, s, m, args, below, meth, c⟩ := X
  intro a ha H locs ls hW hS hl
  exact lv_lneg h.1 h.2.1 hd (k a ha H locs ls hW hS hl)
theorem T_i2l (h : Ok G l0 X own cc nL R0 ret) {x : Int32} (hd : decode cc pc = .ok (.i2l, 1)) (k : T X A Z nL kc ks (pc + 1) lv (.long x.toInt64 :: st) Wd o) : T X A Z nL kc ks pc lv (.int x :: st) Wd o := by
  obtain ⟨p, l, e, R, s, m, args, below, meth, c⟩ := X
  intro a ha H locs ls hW hS hl
  exact lv_i2l h.1 h.2.1 hd rfl (k a ha H locs ls hW hS hl)
theorem T_l2i (h : Ok G l0 X own cc nL R0 ret) {x : Int64} (hd : decode cc pc = .ok (.l2i, 1)) (k : T X A Z nL kc ks (pc + 1) lv (.int x.toInt32 :: st) Wd o) : T X A Z nL kc ks pc lv (.long x :: st) Wd o := by
  obtain ⟨p, l, e, R, s, m, args, below, meth, c⟩ := X
  intro a ha H locs ls hW hS hl
  exact lv_l2i h.1 h.2.1 hd rfl (k a ha H locs ls hW hS hl)
theorem T_i2b (h : Ok G l0 X own cc nL R0 ret) {x : Int32} (hd : decode cc pc = .ok (.i2b, 1)) (k : T X A Z nL kc ks (pc + 1) lv (.int (i2b x) :: st) Wd o) : T X A Z nL kc ks pc lv (.int x :: st) Wd o := by
  obtain ⟨p, l, e, R, s, m, args, below, meth, c⟩ := X
  intro a ha H locs ls hW hS hl
  exact lv_i2b h.1 h.2.1 hd rfl (k a ha H locs ls hW hS hl)
theorem T_iushr (h : Ok G l0 X own cc nL R0 ret) {x y : Int32} (hd : decode cc pc = .ok (.iushr, 1)) (k : T X A Z nL kc ks (pc + 1) lv (.int (iushr x y) :: st) Wd o) : T X A Z nL kc ks pc lv (.int y :: .int x :: st) Wd o := by
  obtain ⟨p, l, e, R, s, m, args, below, meth, c⟩ := X
  intro a ha H locs ls hW hS hl
  exact lv_iushr h.1 h.2.1 hd rfl (k a ha H locs ls hW hS hl)
theorem T_dup (h : Ok G l0 X own cc nL R0 ret) {va : Value} (hv : va.category = 1) (hd : decode cc pc = .ok (.dup, 1)) (k : T X A Z nL kc ks (pc + 1) lv (va :: va :: st) Wd o) : T X A Z nL kc ks pc lv (va :: st) Wd o := by
  obtain ⟨p, l, e, R, s, m, args, below, meth, c⟩ := X
  intro a ha H locs ls hW hS hl
  exact lv_dup h.1 h.2.1 hd hv (k a ha H locs ls hW hS hl)
theorem T_dup2 (h : Ok G l0 X own cc nL R0 ret) {va vb : Value} (hv : va.category = 1) (hv2 : vb.category = 1) (hd : decode cc pc = .ok (.dup2, 1)) (k : T X A Z nL kc ks (pc + 1) lv (va :: vb :: va :: vb :: st) Wd o) : T X A Z nL kc ks pc lv (va :: vb :: st) Wd o := by
  obtain ⟨p, l, e, R, s, m, args, below, meth, c⟩ := X
  intro a ha H locs ls hW hS hl
  exact lv_dup2_11 h.1 h.2.1 hd hv hv2 (k a ha H locs ls hW hS hl)
theorem T_pop (h : Ok G l0 X own cc nL R0 ret) {va : Value} (hv : va.category = 1) (hd : decode cc pc = .ok (.pop, 1)) (k : T X A Z nL kc ks (pc + 1) lv st Wd o) : T X A Z nL kc ks pc lv (va :: st) Wd o := by
  obtain ⟨p, l, e, R, s, m, args, below, meth, c⟩ := X
  intro a ha H locs ls hW hS hl
  exact lv_pop h.1 h.2.1 hd hv (k a ha H locs ls hW hS hl)
theorem T_idiv (h : Ok G l0 X own cc nL R0 ret) {x y : Int32} (hd : decode cc pc = .ok (.idiv, 1)) (k : T X A Z nL kc ks (pc + 1) lv (.int (x / y) :: st) Wd o) : T X A Z nL kc ks pc lv (.int y :: .int x :: st) Wd (gd (nz y) o) := by
  obtain ⟨p, l, e, R, s, m, args, below, meth, c⟩ := X
  intro a ha H locs ls hW hS hl
  obtain ⟨h1, h2⟩ := gd_some ha
  exact lv_idiv h.1 h.2.1 hd (nz_ne h1) (k a h2 H locs ls hW hS hl)
theorem T_irem (h : Ok G l0 X own cc nL R0 ret) {x y : Int32} (hd : decode cc pc = .ok (.irem, 1)) (k : T X A Z nL kc ks (pc + 1) lv (.int (irem x y) :: st) Wd o) : T X A Z nL kc ks pc lv (.int y :: .int x :: st) Wd (gd (nz y) o) := by
  obtain ⟨p, l, e, R, s, m, args, below, meth, c⟩ := X
  intro a ha H locs ls hW hS hl
  obtain ⟨h1, h2⟩ := gd_some ha
  exact lv_irem h.1 h.2.1 hd (nz_ne h1) (k a h2 H locs ls hW hS hl)
theorem T_ldiv (h : Ok G l0 X own cc nL R0 ret) {x y : Int64} (hd : decode cc pc = .ok (.ldiv, 1)) (k : T X A Z nL kc ks (pc + 1) lv (.long (x / y) :: st) Wd o) : T X A Z nL kc ks pc lv (.long y :: .long x :: st) Wd (gd (nzl y) o) := by
  obtain ⟨p, l, e, R, s, m, args, below, meth, c⟩ := X
  intro a ha H locs ls hW hS hl
  obtain ⟨h1, h2⟩ := gd_some ha
  exact lv_ldiv h.1 h.2.1 hd (nzl_ne h1) (k a h2 H locs ls hW hS hl)
theorem T_lrem (h : Ok G l0 X own cc nL R0 ret) {x y : Int64} (hd : decode cc pc = .ok (.lrem, 1)) (k : T X A Z nL kc ks (pc + 1) lv (.long (lrem x y) :: st) Wd o) : T X A Z nL kc ks pc lv (.long y :: .long x :: st) Wd (gd (nzl y) o) := by
  obtain ⟨p, l, e, R, s, m, args, below, meth, c⟩ := X
  intro a ha H locs ls hW hS hl
  obtain ⟨h1, h2⟩ := gd_some ha
  exact lv_lrem h.1 h.2.1 hd (nzl_ne h1) (k a h2 H locs ls hW hS hl)
theorem T_if_eq (h : Ok G l0 X own cc nL R0 ret) {x : Int32} {off : Int} {tgt : Nat} {o1 o2 : Option α} [Decidable (x = 0)] (hd : decode cc pc = .ok (.ifCond .eq off, 3)) (ht : (pc : Int) + off = (tgt : Int)) (k1 : T X A Z nL kc ks tgt lv st Wd o1) (k2 : T X A Z nL kc ks (pc + 3) lv st Wd o2) : T X A Z nL kc ks pc lv (.int x :: st) Wd (if x = 0 then o1 else o2) := by
  obtain ⟨p, l, e, R, s, m, args, below, meth, c⟩ := X
  intro a ha H locs ls hW hS hl
  refine lv_if_eq h.1 h.2.1 hd ht (fun q => ?_) (fun q => ?_)
  · rw [if_pos q] at ha
    exact k1 a ha H locs ls hW hS hl
  · rw [if_neg q] at ha
    exact k2 a ha H locs ls hW hS hl
theorem T_if_lt (h : Ok G l0 X own cc nL R0 ret) {x : Int32} {off : Int} {tgt : Nat} {o1 o2 : Option α} [Decidable (x < 0)] (hd : decode cc pc = .ok (.ifCond .lt off, 3)) (ht : (pc : Int) + off = (tgt : Int)) (k1 : T X A Z nL kc ks tgt lv st Wd o1) (k2 : T X A Z nL kc ks (pc + 3) lv st Wd o2) : T X A Z nL kc ks pc lv (.int x :: st) Wd (if x < 0 then o1 else o2) := by
  obtain ⟨p, l, e, R, s, m, args, below, meth, c⟩ := X
  intro a ha H locs ls hW hS hl
  refine lv_if_lt h.1 h.2.1 hd ht (fun q => ?_) (fun q => ?_)
  · rw [if_pos q] at ha
    exact k1 a ha H locs ls hW hS hl
  · rw [if_neg q] at ha
    exact k2 a ha H locs ls hW hS hl
theorem T_if_ge (h : Ok G l0 X own cc nL R0 ret) {x : Int32} {off : Int} {tgt : Nat} {o1 o2 : Option α} [Decidable (0 ≤ x)] (hd : decode cc pc = .ok (.ifCond .ge off, 3)) (ht : (pc : Int) + off = (tgt : Int)) (k1 : T X A Z nL kc ks tgt lv st Wd o1) (k2 : T X A Z nL kc ks (pc + 3) lv st Wd o2) : T X A Z nL kc ks pc lv (.int x :: st) Wd (if 0 ≤ x then o1 else o2) := by
  obtain ⟨p, l, e, R, s, m, args, below, meth, c⟩ := X
  intro a ha H locs ls hW hS hl
  refine lv_if_ge h.1 h.2.1 hd ht (fun q => ?_) (fun q => ?_)
  · rw [if_pos q] at ha
    exact k1 a ha H locs ls hW hS hl
  · rw [if_neg q] at ha
    exact k2 a ha H locs ls hW hS hl
theorem T_if_gt (h : Ok G l0 X own cc nL R0 ret) {x : Int32} {off : Int} {tgt : Nat} {o1 o2 : Option α} [Decidable (0 < x)] (hd : decode cc pc = .ok (.ifCond .gt off, 3)) (ht : (pc : Int) + off = (tgt : Int)) (k1 : T X A Z nL kc ks tgt lv st Wd o1) (k2 : T X A Z nL kc ks (pc + 3) lv st Wd o2) : T X A Z nL kc ks pc lv (.int x :: st) Wd (if 0 < x then o1 else o2) := by
  obtain ⟨p, l, e, R, s, m, args, below, meth, c⟩ := X
  intro a ha H locs ls hW hS hl
  refine lv_if_gt h.1 h.2.1 hd ht (fun q => ?_) (fun q => ?_)
  · rw [if_pos q] at ha
    exact k1 a ha H locs ls hW hS hl
  · rw [if_neg q] at ha
    exact k2 a ha H locs ls hW hS hl
theorem T_if_le (h : Ok G l0 X own cc nL R0 ret) {x : Int32} {off : Int} {tgt : Nat} {o1 o2 : Option α} [Decidable (x ≤ 0)] (hd : decode cc pc = .ok (.ifCond .le off, 3)) (ht : (pc : Int) + off = (tgt : Int)) (k1 : T X A Z nL kc ks tgt lv st Wd o1) (k2 : T X A Z nL kc ks (pc + 3) lv st Wd o2) : T X A Z nL kc ks pc lv (.int x :: st) Wd (if x ≤ 0 then o1 else o2) := by
  obtain ⟨p, l, e, R, s, m, args, below, meth, c⟩ := X
  intro a ha H locs ls hW hS hl
  refine lv_if_le h.1 h.2.1 hd ht (fun q => ?_) (fun q => ?_)
  · rw [if_pos q] at ha
    exact k1 a ha H locs ls hW hS hl
  · rw [if_neg q] at ha
    exact k2 a ha H locs ls hW hS hl
theorem T_icmp_eq (h : Ok G l0 X own cc nL R0 ret) {x y : Int32} {off : Int} {tgt : Nat} {o1 o2 : Option α} [Decidable (x = y)] (hd : decode cc pc = .ok (.if_icmp .eq off, 3)) (ht : (pc : Int) + off = (tgt : Int)) (k1 : T X A Z nL kc ks tgt lv st Wd o1) (k2 : T X A Z nL kc ks (pc + 3) lv st Wd o2) : T X A Z nL kc ks pc lv (.int y :: .int x :: st) Wd (if x = y then o1 else o2) := by
  obtain ⟨p, l, e, R, s, m, args, below, meth, c⟩ := X
  intro a ha H locs ls hW hS hl
  refine lv_icmp_eq h.1 h.2.1 hd ht (fun q => ?_) (fun q => ?_)
  · rw [if_pos q] at ha
    exact k1 a ha H locs ls hW hS hl
  · rw [if_neg q] at ha
    exact k2 a ha H locs ls hW hS hl
theorem T_icmp_lt (h : Ok G l0 X own cc nL R0 ret) {x y : Int32} {off : Int} {tgt : Nat} {o1 o2 : Option α} [Decidable (x < y)] (hd : decode cc pc = .ok (.if_icmp .lt off, 3)) (ht : (pc : Int) + off = (tgt : Int)) (k1 : T X A Z nL kc ks tgt lv st Wd o1) (k2 : T X A Z nL kc ks (pc + 3) lv st Wd o2) : T X A Z nL kc ks pc lv (.int y :: .int x :: st) Wd (if x < y then o1 else o2) := by
  obtain ⟨p, l, e, R, s, m, args, below, meth, c⟩ := X
  intro a ha H locs ls hW hS hl
  refine lv_icmp_lt h.1 h.2.1 hd ht (fun q => ?_) (fun q => ?_)
  · rw [if_pos q] at ha
    exact k1 a ha H locs ls hW hS hl
  · rw [if_neg q] at ha
    exact k2 a ha H locs ls hW hS hl
theorem T_icmp_ge (h : Ok G l0 X own cc nL R0 ret) {x y : Int32} {off : Int} {tgt : Nat} {o1 o2 : Option α} [Decidable (y ≤ x)] (hd : decode cc pc = .ok (.if_icmp .ge off, 3)) (ht : (pc : Int) + off = (tgt : Int)) (k1 : T X A Z nL kc ks tgt lv st Wd o1) (k2 : T X A Z nL kc ks (pc + 3) lv st Wd o2) : T X A Z nL kc ks pc lv (.int y :: .int x :: st) Wd (if y ≤ x then o1 else o2) := by
  obtain ⟨p, l, e, R, s, m, args, below, meth, c⟩ := X
  intro a ha H locs ls hW hS hl
  refine lv_icmp_ge h.1 h.2.1 hd ht (fun q => ?_) (fun q => ?_)
  · rw [if_pos q] at ha
    exact k1 a ha H locs ls hW hS hl
  · rw [if_neg q] at ha
    exact k2 a ha H locs ls hW hS hl
theorem T_icmp_gt (h : Ok G l0 X own cc nL R0 ret) {x y : Int32} {off : Int} {tgt : Nat} {o1 o2 : Option α} [Decidable (y < x)] (hd : decode cc pc = .ok (.if_icmp .gt off, 3)) (ht : (pc : Int) + off = (tgt : Int)) (k1 : T X A Z nL kc ks tgt lv st Wd o1) (k2 : T X A Z nL kc ks (pc + 3) lv st Wd o2) : T X A Z nL kc ks pc lv (.int y :: .int x :: st) Wd (if y < x then o1 else o2) := by
  obtain ⟨p, l, e, R, s, m, args, below, meth, c⟩ := X
  intro a ha H locs ls hW hS hl
  refine lv_icmp_gt h.1 h.2.1 hd ht (fun q => ?_) (fun q => ?_)
  · rw [if_pos q] at ha
    exact k1 a ha H locs ls hW hS hl
  · rw [if_neg q] at ha
    exact k2 a ha H locs ls hW hS hl
theorem T_icmp_le (h : Ok G l0 X own cc nL R0 ret) {x y : Int32} {off : Int} {tgt : Nat} {o1 o2 : Option α} [Decidable (x ≤ y)] (hd : decode cc pc = .ok (.if_icmp .le off, 3)) (ht : (pc : Int) + off = (tgt : Int)) (k1 : T X A Z nL kc ks tgt lv st Wd o1) (k2 : T X A Z nL kc ks (pc + 3) lv st Wd o2) : T X A Z nL kc ks pc lv (.int y :: .int x :: st) Wd (if x ≤ y then o1 else o2) := by
  obtain ⟨p, l, e, R, s, m, args, below, meth, c⟩ := X
  intro a ha H locs ls hW hS hl
  refine lv_icmp_le h.1 h.2.1 hd ht (fun q => ?_) (fun q => ?_)
  · rw [if_pos q] at ha
    exact k1 a ha H locs ls hW hS hl
  · rw [if_neg q] at ha
    exact k2 a ha H locs ls hW hS hl
theorem T_if_ne (h : Ok G l0 X own cc nL R0 ret) {x : Int32} {off : Int} {tgt : Nat} {o1 o2 : Option α} [Decidable (x = 0)] (hd : decode cc pc = .ok (.ifCond .ne off, 3)) (ht : (pc : Int) + off = (tgt : Int)) (k2 : T X A Z nL kc ks (pc + 3) lv st Wd o2) (k1 : T X A Z nL kc ks tgt lv st Wd o1) : T X A Z nL kc ks pc lv (.int x :: st) Wd (if x = 0 then o2 else o1) := by
  obtain ⟨p, l, e, R, s, m, args, below, meth, c⟩ := X
  intro a ha H locs ls hW hS hl
  refine lv_if_ne h.1 h.2.1 hd ht (fun q => ?_) (fun q => ?_)
  · rw [if_neg q] at ha
    exact k1 a ha H locs ls hW hS hl
  · rw [if_pos q] at ha
    exact k2 a ha H locs ls hW hS hl
theorem T_icmp_ne (h : Ok G l0 X own cc nL R0 ret) {x y : Int32} {off : Int} {tgt : Nat} {o1 o2 : Option α} [Decidable (x = y)] (hd : decode cc pc = .ok (.if_icmp .ne off, 3)) (ht : (pc : Int) + off = (tgt : Int)) (k2 : T X A Z nL kc ks (pc + 3) lv st Wd o2) (k1 : T X A Z nL kc ks tgt lv st Wd o1) : T X A Z nL kc ks pc lv (.int y :: .int x :: st) Wd (if x = y then o2 else o1) := by
  obtain ⟨p, l, e, R, s, m, args, below, meth, c⟩ := X
  intro a ha H locs ls hW hS hl
  refine lv_icmp_ne h.1 h.2.1 hd ht (fun q => ?_) (fun q => ?_)
  · rw [if_neg q] at ha
    exact k1 a ha H locs ls hW hS hl
  · rw [if_pos q] at ha
    exact k2 a ha H locs ls hW hS hl
theorem T_ifb_eq (h : Ok G l0 X own cc nL R0 ret) {r : Bool} {off : Int} {tgt : Nat} {o1 o2 : Option α} (hd : decode cc pc = .ok (.ifCond .eq off, 3)) (ht : (pc : Int) + off = (tgt : Int)) (k2 : T X A Z nL kc ks (pc + 3) lv st Wd o2) (k1 : T X A Z nL kc ks tgt lv st Wd o1) : T X A Z nL kc ks pc lv (.int (bi r) :: st) Wd (if r = true then o2 else o1) := by
  obtain ⟨p, l, e, R, s, m, args, below, meth, c⟩ := X
  intro a ha H locs ls hW hS hl
  refine lv_if_eq h.1 h.2.1 hd ht (fun q => ?_) (fun q => ?_)
  · have hr : r = false := by cases r with
      | false => rfl
      | true => exact absurd q (by decide)
    rw [if_neg (by rw [hr]; decide)] at ha
    exact k1 a ha H locs ls hW hS hl
  · have hr : r = true := by cases r with
      | true => rfl
      | false => exact absurd rfl q
    rw [if_pos hr] at ha
    exact k2 a ha H locs ls hW hS hl
theorem T_ifb_ne (h : Ok G l0 X own cc nL R0 ret) {r : Bool} {off : Int} {tgt : Nat} {o1 o2 : Option α} (hd : decode cc pc = .ok (.ifCond .ne off, 3)) (ht : (pc : Int) + off = (tgt : Int)) (k1 : T X A Z nL kc ks tgt lv st Wd o1) (k2 : T X A Z nL kc ks (pc + 3) lv st Wd o2) : T X A Z nL kc ks pc lv (.int (bi r) :: st) Wd (if r = true then o1 else o2) := by
  obtain ⟨p, l, e, R, s, m, args, below, meth, c⟩ := X
  intro a ha H locs ls hW hS hl
  refine lv_if_ne h.1 h.2.1 hd ht (fun q => ?_) (fun q => ?_)
  · have hr : r = true := by cases r with
      | true => rfl
      | false => exact absurd rfl q
    rw [if_pos hr] at ha
    exact k1 a ha H locs ls hW hS hl
  · have hr : r = false := by cases r with
      | false => rfl
      | true => exact absurd q (by decide)
    rw [if_neg (by rw [hr]; decide)] at ha
    exact k2 a ha H locs ls hW hS hl
theorem T_lcmp_eq (h : Ok G l0 X own cc nL R0 ret) {x y : Int64} {off : Int} {tgt pc1 : Nat} {o1 o2 : Option α} [Decidable (x = y)] (hd : decode cc pc = .ok (.lcmp, 1)) (hp : pc + 1 = pc1) (hd2 : decode cc pc1 = .ok (.ifCond .eq off, 3)) (ht : (pc1 : Int) + off = (tgt : Int)) (k1 : T X A Z nL kc ks tgt lv st Wd o1) (k2 : T X A Z nL kc ks (pc1 + 3) lv st Wd o2) : T X A Z nL kc ks pc lv (.long y :: .long x :: st) Wd (if x = y then o1 else o2) := by
  obtain ⟨p, l, e, R, s, m, args, below, meth, c⟩ := X
  intro a ha H locs ls hW hS hl
  subst hp
  refine W.lcmp h.1 h.2.1 hd (lv_if_eq h.1 h.2.1 hd2 ht (fun q => ?_) (fun q => ?_))
  · rw [if_pos ((lg_cmp_eq x y).mp q)] at ha
    exact k1 a ha H locs ls hW hS hl
  · rw [if_neg (fun z => q ((lg_cmp_eq x y).mpr z))] at ha
    exact k2 a ha H locs ls hW hS hl
theorem T_lcmp_lt (h : Ok G l0 X own cc nL R0 ret) {x y : Int64} {off : Int} {tgt pc1 : Nat} {o1 o2 : Option α} [Decidable (x < y)] (hd : decode cc pc = .ok (.lcmp, 1)) (hp : pc + 1 = pc1) (hd2 : decode cc pc1 = .ok (.ifCond .lt off, 3)) (ht : (pc1 : Int) + off = (tgt : Int)) (k1 : T X A Z nL kc ks tgt lv st Wd o1) (k2 : T X A Z nL kc ks (pc1 + 3) lv st Wd o2) : T X A Z nL kc ks pc lv (.long y :: .long x :: st) Wd (if x < y then o1 else o2) := by
  obtain ⟨p, l, e, R, s, m, args, below, meth, c⟩ := X
  intro a ha H locs ls hW hS hl
  subst hp
  refine W.lcmp h.1 h.2.1 hd (lv_if_lt h.1 h.2.1 hd2 ht (fun q => ?_) (fun q => ?_))
  · rw [if_pos ((lg_cmp_lt x y).mp q)] at ha
    exact k1 a ha H locs ls hW hS hl
  · rw [if_neg (fun z => q ((lg_cmp_lt x y).mpr z))] at ha
    exact k2 a ha H locs ls hW hS hl
theorem T_lcmp_ge (h : Ok G l0 X own cc nL R0 ret) {x y : Int64} {off : Int} {tgt pc1 : Nat} {o1 o2 : Option α} [Decidable (y ≤ x)] (hd : decode cc pc = .ok (.lcmp, 1)) (hp : pc + 1 = pc1) (hd2 : decode cc pc1 = .ok (.ifCond .ge off, 3)) (ht : (pc1 : Int) + off = (tgt : Int)) (k1 : T X A Z nL kc ks tgt lv st Wd o1) (k2 : T X A Z nL kc ks (pc1 + 3) lv st Wd o2) : T X A Z nL kc ks pc lv (.long y :: .long x :: st) Wd (if y ≤ x then o1 else o2) := by
  obtain ⟨p, l, e, R, s, m, args, below, meth, c⟩ := X
  intro a ha H locs ls hW hS hl
  subst hp
  refine W.lcmp h.1 h.2.1 hd (lv_if_ge h.1 h.2.1 hd2 ht (fun q => ?_) (fun q => ?_))
  · rw [if_pos ((lg_cmp_ge x y).mp q)] at ha
    exact k1 a ha H locs ls hW hS hl
  · rw [if_neg (fun z => q ((lg_cmp_ge x y).mpr z))] at ha
    exact k2 a ha H locs ls hW hS hl
theorem T_lcmp_gt (h : Ok G l0 X own cc nL R0 ret) {x y : Int64} {off : Int} {tgt pc1 : Nat} {o1 o2 : Option α} [Decidable (y < x)] (hd : decode cc pc = .ok (.lcmp, 1)) (hp : pc + 1 = pc1) (hd2 : decode cc pc1 = .ok (.ifCond .gt off, 3)) (ht : (pc1 : Int) + off = (tgt : Int)) (k1 : T X A Z nL kc ks tgt lv st Wd o1) (k2 : T X A Z nL kc ks (pc1 + 3) lv st Wd o2) : T X A Z nL kc ks pc lv (.long y :: .long x :: st) Wd (if y < x then o1 else o2) := by
  obtain ⟨p, l, e, R, s, m, args, below, meth, c⟩ := X
  intro a ha H locs ls hW hS hl
  subst hp
  refine W.lcmp h.1 h.2.1 hd (lv_if_gt h.1 h.2.1 hd2 ht (fun q => ?_) (fun q => ?_))
  · rw [if_pos ((lg_cmp_gt x y).mp q)] at ha
    exact k1 a ha H locs ls hW hS hl
  · rw [if_neg (fun z => q ((lg_cmp_gt x y).mpr z))] at ha
    exact k2 a ha H locs ls hW hS hl
theorem T_lcmp_le (h : Ok G l0 X own cc nL R0 ret) {x y : Int64} {off : Int} {tgt pc1 : Nat} {o1 o2 : Option α} [Decidable (x ≤ y)] (hd : decode cc pc = .ok (.lcmp, 1)) (hp : pc + 1 = pc1) (hd2 : decode cc pc1 = .ok (.ifCond .le off, 3)) (ht : (pc1 : Int) + off = (tgt : Int)) (k1 : T X A Z nL kc ks tgt lv st Wd o1) (k2 : T X A Z nL kc ks (pc1 + 3) lv st Wd o2) : T X A Z nL kc ks pc lv (.long y :: .long x :: st) Wd (if x ≤ y then o1 else o2) := by
  obtain ⟨p, l, e, R, s, m, args, below, meth, c⟩ := X
  intro a ha H locs ls hW hS hl
  subst hp
  refine W.lcmp h.1 h.2.1 hd (lv_if_le h.1 h.2.1 hd2 ht (fun q => ?_) (fun q => ?_))
  · rw [if_pos ((lg_cmp_le x y).mp q)] at ha
    exact k1 a ha H locs ls hW hS hl
  · rw [if_neg (fun z => q ((lg_cmp_le x y).mpr z))] at ha
    exact k2 a ha H locs ls hW hS hl
theorem T_lcmp_ne (h : Ok G l0 X own cc nL R0 ret) {x y : Int64} {off : Int} {tgt pc1 : Nat} {o1 o2 : Option α} [Decidable (x = y)] (hd : decode cc pc = .ok (.lcmp, 1)) (hp : pc + 1 = pc1) (hd2 : decode cc pc1 = .ok (.ifCond .ne off, 3)) (ht : (pc1 : Int) + off = (tgt : Int)) (k2 : T X A Z nL kc ks (pc1 + 3) lv st Wd o2) (k1 : T X A Z nL kc ks tgt lv st Wd o1) : T X A Z nL kc ks pc lv (.long y :: .long x :: st) Wd (if x = y then o2 else o1) := by
  obtain ⟨p, l, e, R, s, m, args, below, meth, c⟩ := X
  intro a ha H locs ls hW hS hl
  subst hp
  refine W.lcmp h.1 h.2.1 hd (lv_if_ne h.1 h.2.1 hd2 ht (fun q => ?_) (fun q => ?_))
  · rw [if_neg (fun z => q ((lg_cmp_eq x y).mpr z))] at ha
    exact k1 a ha H locs ls hW hS hl
  · rw [if_pos ((lg_cmp_eq x y).mp q)] at ha
    exact k2 a ha H locs ls hW hS hl
theorem T_goto (h : Ok G l0 X own cc nL R0 ret) {off : Int} {tgt : Nat} (hd : decode cc pc = .ok (.goto off, 3)) (ht : (pc : Int) + off = (tgt : Int)) (k : T X A Z nL kc ks tgt lv st Wd o) : T X A Z nL kc ks pc lv st Wd o := by
  obtain ⟨p, l, e, R, s, m, args, below, meth, c⟩ := X
  intro a ha H locs ls hW hS hl
  exact lv_goto h.1 h.2.1 hd ht (k a ha H locs ls hW hS hl)
theorem T_none : T X A Z nL kc ks pc lv st Wd (none : Option α) := by
  obtain ⟨p, l, e, R, s, m, args, below, meth, c⟩ := X
  intro a ha
  cases ha
theorem T_sub (ks' : List Nat) (hk : lv_pick lv ks' = lv') (k : T X A Z nL kc ks pc lv' st Wd o) : T X A Z nL kc ks pc lv st Wd o := by
  obtain ⟨p, l, e, R, s, m, args, below, meth, c⟩ := X
  intro a ha H locs ls hW hS hl
  exact k a ha H locs ls hW hS (lv_sub hl ks' hk)
theorem T_lti {e : Int32} {f : Int32 → Option α} (k : ∀ x : Int32, T X A Z nL kc ks pc lv (.int x :: st) Wd (f x)) : T X A Z nL kc ks pc lv (.int e :: st) Wd (lt e f) := k e
theorem T_ltl {e : Int64} {f : Int64 → Option α} (k : ∀ x : Int64, T X A Z nL kc ks pc lv (.long x :: st) Wd (f x)) : T X A Z nL kc ks pc lv (.long e :: st) Wd (lt e f) := k e
theorem T_jp {β : Type} (rest : β) (P : β → Prop) (body : β → Option α) (hr : P rest) (hb : ∀ j, P j → T X A Z nL kc ks pc lv st Wd (body j)) : T X A Z nL kc ks pc lv st Wd (lt rest body) := hb rest hr
theorem T_wd {Wd' : Heap → Prop} (hw : ∀ H, Wd H → Wd' H) (k : T X A Z nL kc ks pc lv st Wd' o) : T X A Z nL kc ks pc lv st Wd o := by
  obtain ⟨p, l, e, R, s, m, args, below, meth, c⟩ := X
  intro a ha H locs ls hW hS hl
  exact k a ha H locs ls (hw H hW) hS hl
theorem T_gd {c : Bool} (k : T X A Z nL kc ks pc lv st Wd o) : T X A Z nL kc ks pc lv st Wd (gd c o) := by
  obtain ⟨p, l, e, R, s, m, args, below, meth, c⟩ := X
  intro a ha H locs ls hW hS hl
  exact k a (gd_some ha).2 H locs ls hW hS hl
theorem T_fix1 {σ1 : Type} (step : (σ1 → Option α) → σ1 → Option α) (lvs : σ1 → List (Nat × Value)) (ws : σ1 → Heap → Prop) (hs : ∀ rec : σ1 → Option α, (∀ x1, T X A Z nL kc ks pc (lvs x1) st (ws x1) (rec x1)) → ∀ x1, T X A Z nL kc ks pc (lvs x1) st (ws x1) (step rec x1)) (F : Nat) : ∀ x1, T X A Z nL kc ks pc (lvs x1) st (ws x1) (fix1 step F x1) := by
  induction F with
  | zero => exact fun _ => T_none
  | succ n ih => exact hs (fix1 step n) ih
theorem T_fix2 {σ1 σ2 : Type} (step : (σ1 → σ2 → Option α) → σ1 → σ2 → Option α) (lvs : σ1 → σ2 → List (Nat × Value)) (ws : σ1 → σ2 → Heap → Prop) (hs : ∀ rec : σ1 → σ2 → Option α, (∀ x1 x2, T X A Z nL kc ks pc (lvs x1 x2) st (ws x1 x2) (rec x1 x2)) → ∀ x1 x2, T X A Z nL kc ks pc (lvs x1 x2) st (ws x1 x2) (step rec x1 x2)) (F : Nat) : ∀ x1 x2, T X A Z nL kc ks pc (lvs x1 x2) st (ws x1 x2) (fix2 step F x1 x2) := by
  induction F with
  | zero => exact fun _ _ => T_none
  | succ n ih => exact hs (fix2 step n) ih
theorem T_fix3 {σ1 σ2 σ3 : Type} (step : (σ1 → σ2 → σ3 → Option α) → σ1 → σ2 → σ3 → Option α) (lvs : σ1 → σ2 → σ3 → List (Nat × Value)) (ws : σ1 → σ2 → σ3 → Heap → Prop) (hs : ∀ rec : σ1 → σ2 → σ3 → Option α, (∀ x1 x2 x3, T X A Z nL kc ks pc (lvs x1 x2 x3) st (ws x1 x2 x3) (rec x1 x2 x3)) → ∀ x1 x2 x3, T X A Z nL kc ks pc (lvs x1 x2 x3) st (ws x1 x2 x3) (step rec x1 x2 x3)) (F : Nat) : ∀ x1 x2 x3, T X A Z nL kc ks pc (lvs x1 x2 x3) st (ws x1 x2 x3) (fix3 step F x1 x2 x3) := by
  induction F with
  | zero => exact fun _ _ _ => T_none
  | succ n ih => exact hs (fix3 step n) ih
theorem T_fix4 {σ1 σ2 σ3 σ4 : Type} (step : (σ1 → σ2 → σ3 → σ4 → Option α) → σ1 → σ2 → σ3 → σ4 → Option α) (lvs : σ1 → σ2 → σ3 → σ4 → List (Nat × Value)) (ws : σ1 → σ2 → σ3 → σ4 → Heap → Prop) (hs : ∀ rec : σ1 → σ2 → σ3 → σ4 → Option α, (∀ x1 x2 x3 x4, T X A Z nL kc ks pc (lvs x1 x2 x3 x4) st (ws x1 x2 x3 x4) (rec x1 x2 x3 x4)) → ∀ x1 x2 x3 x4, T X A Z nL kc ks pc (lvs x1 x2 x3 x4) st (ws x1 x2 x3 x4) (step rec x1 x2 x3 x4)) (F : Nat) : ∀ x1 x2 x3 x4, T X A Z nL kc ks pc (lvs x1 x2 x3 x4) st (ws x1 x2 x3 x4) (fix4 step F x1 x2 x3 x4) := by
  induction F with
  | zero => exact fun _ _ _ _ => T_none
  | succ n ih => exact hs (fix4 step n) ih
theorem T_fix5 {σ1 σ2 σ3 σ4 σ5 : Type} (step : (σ1 → σ2 → σ3 → σ4 → σ5 → Option α) → σ1 → σ2 → σ3 → σ4 → σ5 → Option α) (lvs : σ1 → σ2 → σ3 → σ4 → σ5 → List (Nat × Value)) (ws : σ1 → σ2 → σ3 → σ4 → σ5 → Heap → Prop) (hs : ∀ rec : σ1 → σ2 → σ3 → σ4 → σ5 → Option α, (∀ x1 x2 x3 x4 x5, T X A Z nL kc ks pc (lvs x1 x2 x3 x4 x5) st (ws x1 x2 x3 x4 x5) (rec x1 x2 x3 x4 x5)) → ∀ x1 x2 x3 x4 x5, T X A Z nL kc ks pc (lvs x1 x2 x3 x4 x5) st (ws x1 x2 x3 x4 x5) (step rec x1 x2 x3 x4 x5)) (F : Nat) : ∀ x1 x2 x3 x4 x5, T X A Z nL kc ks pc (lvs x1 x2 x3 x4 x5) st (ws x1 x2 x3 x4 x5) (fix5 step F x1 x2 x3 x4 x5) := by
  induction F with
  | zero => exact fun _ _ _ _ _ => T_none
  | succ n ih => exact hs (fix5 step n) ih
theorem T_fix6 {σ1 σ2 σ3 σ4 σ5 σ6 : Type} (step : (σ1 → σ2 → σ3 → σ4 → σ5 → σ6 → Option α) → σ1 → σ2 → σ3 → σ4 → σ5 → σ6 → Option α) (lvs : σ1 → σ2 → σ3 → σ4 → σ5 → σ6 → List (Nat × Value)) (ws : σ1 → σ2 → σ3 → σ4 → σ5 → σ6 → Heap → Prop) (hs : ∀ rec : σ1 → σ2 → σ3 → σ4 → σ5 → σ6 → Option α, (∀ x1 x2 x3 x4 x5 x6, T X A Z nL kc ks pc (lvs x1 x2 x3 x4 x5 x6) st (ws x1 x2 x3 x4 x5 x6) (rec x1 x2 x3 x4 x5 x6)) → ∀ x1 x2 x3 x4 x5 x6, T X A Z nL kc ks pc (lvs x1 x2 x3 x4 x5 x6) st (ws x1 x2 x3 x4 x5 x6) (step rec x1 x2 x3 x4 x5 x6)) (F : Nat) : ∀ x1 x2 x3 x4 x5 x6, T X A Z nL kc ks pc (lvs x1 x2 x3 x4 x5 x6) st (ws x1 x2 x3 x4 x5 x6) (fix6 step F x1 x2 x3 x4 x5 x6) := by
  induction F with
  | zero => exact fun _ _ _ _ _ _ => T_none
  | succ n ih => exact hs (fix6 step n) ih
theorem T_fix7 {σ1 σ2 σ3 σ4 σ5 σ6 σ7 : Type} (step : (σ1 → σ2 → σ3 → σ4 → σ5 → σ6 → σ7 → Option α) → σ1 → σ2 → σ3 → σ4 → σ5 → σ6 → σ7 → Option α) (lvs : σ1 → σ2 → σ3 → σ4 → σ5 → σ6 → σ7 → List (Nat × Value)) (ws : σ1 → σ2 → σ3 → σ4 → σ5 → σ6 → σ7 → Heap → Prop) (hs : ∀ rec : σ1 → σ2 → σ3 → σ4 → σ5 → σ6 → σ7 → Option α, (∀ x1 x2 x3 x4 x5 x6 x7, T X A Z nL kc ks pc (lvs x1 x2 x3 x4 x5 x6 x7) st (ws x1 x2 x3 x4 x5 x6 x7) (rec x1 x2 x3 x4 x5 x6 x7)) → ∀ x1 x2 x3 x4 x5 x6 x7, T X A Z nL kc ks pc (lvs x1 x2 x3 x4 x5 x6 x7) st (ws x1 x2 x3 x4 x5 x6 x7) (step rec x1 x2 x3 x4 x5 x6 x7)) (F : Nat) : ∀ x1 x2 x3 x4 x5 x6 x7, T X A Z nL kc ks pc (lvs x1 x2 x3 x4 x5 x6 x7) st (ws x1 x2 x3 x4 x5 x6 x7) (fix7 step F x1 x2 x3 x4 x5 x6 x7) := by
  induction F with
  | zero => exact fun _ _ _ _ _ _ _ => T_none
  | succ n ih => exact hs (fix7 step n) ih
theorem T_fix8 {σ1 σ2 σ3 σ4 σ5 σ6 σ7 σ8 : Type} (step : (σ1 → σ2 → σ3 → σ4 → σ5 → σ6 → σ7 → σ8 → Option α) → σ1 → σ2 → σ3 → σ4 → σ5 → σ6 → σ7 → σ8 → Option α) (lvs : σ1 → σ2 → σ3 → σ4 → σ5 → σ6 → σ7 → σ8 → List (Nat × Value)) (ws : σ1 → σ2 → σ3 → σ4 → σ5 → σ6 → σ7 → σ8 → Heap → Prop) (hs : ∀ rec : σ1 → σ2 → σ3 → σ4 → σ5 → σ6 → σ7 → σ8 → Option α, (∀ x1 x2 x3 x4 x5 x6 x7 x8, T X A Z nL kc ks pc (lvs x1 x2 x3 x4 x5 x6 x7 x8) st (ws x1 x2 x3 x4 x5 x6 x7 x8) (rec x1 x2 x3 x4 x5 x6 x7 x8)) → ∀ x1 x2 x3 x4 x5 x6 x7 x8, T X A Z nL kc ks pc (lvs x1 x2 x3 x4 x5 x6 x7 x8) st (ws x1 x2 x3 x4 x5 x6 x7 x8) (step rec x1 x2 x3 x4 x5 x6 x7 x8)) (F : Nat) : ∀ x1 x2 x3 x4 x5 x6 x7 x8, T X A Z nL kc ks pc (lvs x1 x2 x3 x4 x5 x6 x7 x8) st (ws x1 x2 x3 x4 x5 x6 x7 x8) (fix8 step F x1 x2 x3 x4 x5 x6 x7 x8) := by
  induction F with
  | zero => exact fun _ _ _ _ _ _ _ _ => T_none
  | succ n ih => exact hs (fix8 step n) ih
theorem T_fix9 {σ1 σ2 σ3 σ4 σ5 σ6 σ7 σ8 σ9 : Type} (step : (σ1 → σ2 → σ3 → σ4 → σ5 → σ6 → σ7 → σ8 → σ9 → Option α) → σ1 → σ2 → σ3 → σ4 → σ5 → σ6 → σ7 → σ8 → σ9 → Option α) (lvs : σ1 → σ2 → σ3 → σ4 → σ5 → σ6 → σ7 → σ8 → σ9 → List (Nat × Value)) (ws : σ1 → σ2 → σ3 → σ4 → σ5 → σ6 → σ7 → σ8 → σ9 → Heap → Prop) (hs : ∀ rec : σ1 → σ2 → σ3 → σ4 → σ5 → σ6 → σ7 → σ8 → σ9 → Option α, (∀ x1 x2 x3 x4 x5 x6 x7 x8 x9, T X A Z nL kc ks pc (lvs x1 x2 x3 x4 x5 x6 x7 x8 x9) st (ws x1 x2 x3 x4 x5 x6 x7 x8 x9) (rec x1 x2 x3 x4 x5 x6 x7 x8 x9)) → ∀ x1 x2 x3 x4 x5 x6 x7 x8 x9, T X A Z nL kc ks pc (lvs x1 x2 x3 x4 x5 x6 x7 x8 x9) st (ws x1 x2 x3 x4 x5 x6 x7 x8 x9) (step rec x1 x2 x3 x4 x5 x6 x7 x8 x9)) (F : Nat) : ∀ x1 x2 x3 x4 x5 x6 x7 x8 x9, T X A Z nL kc ks pc (lvs x1 x2 x3 x4 x5 x6 x7 x8 x9) st (ws x1 x2 x3 x4 x5 x6 x7 x8 x9) (fix9 step F x1 x2 x3 x4 x5 x6 x7 x8 x9) := by
  induction F with
  | zero => exact fun _ _ _ _ _ _ _ _ _ => T_none
  | succ n ih => exact hs (fix9 step n) ih
theorem T_fix10 {σ1 σ2 σ3 σ4 σ5 σ6 σ7 σ8 σ9 σ10 : Type} (step : (σ1 → σ2 → σ3 → σ4 → σ5 → σ6 → σ7 → σ8 → σ9 → σ10 → Option α) → σ1 → σ2 → σ3 → σ4 → σ5 → σ6 → σ7 → σ8 → σ9 → σ10 → Option α) (lvs : σ1 → σ2 → σ3 → σ4 → σ5 → σ6 → σ7 → σ8 → σ9 → σ10 → List (Nat × Value)) (ws : σ1 → σ2 → σ3 → σ4 → σ5 → σ6 → σ7 → σ8 → σ9 → σ10 → Heap → Prop) (hs : ∀ rec : σ1 → σ2 → σ3 → σ4 → σ5 → σ6 → σ7 → σ8 → σ9 → σ10 → Option α, (∀ x1 x2 x3 x4 x5 x6 x7 x8 x9 x10, T X A Z nL kc ks pc (lvs x1 x2 x3 x4 x5 x6 x7 x8 x9 x10) st (ws x1 x2 x3 x4 x5 x6 x7 x8 x9 x10) (rec x1 x2 x3 x4 x5 x6 x7 x8 x9 x10)) → ∀ x1 x2 x3 x4 x5 x6 x7 x8 x9 x10, T X A Z nL kc ks pc (lvs x1 x2 x3 x4 x5 x6 x7 x8 x9 x10) st (ws x1 x2 x3 x4 x5 x6 x7 x8 x9 x10) (step rec x1 x2 x3 x4 x5 x6 x7 x8 x9 x10)) (F : Nat) : ∀ x1 x2 x3 x4 x5 x6 x7 x8 x9 x10, T X A Z nL kc ks pc (lvs x1 x2 x3 x4 x5 x6 x7 x8 x9 x10) st (ws x1 x2 x3 x4 x5 x6 x7 x8 x9 x10) (fix10 step F x1 x2 x3 x4 x5 x6 x7 x8 x9 x10) := by
  induction F with
  | zero => exact fun _ _ _ _ _ _ _ _ _ _ => T_none
  | succ n ih => exact hs (fix10 step n) ih

section ENDS
variable {ι : α → Option Value × (Heap → Prop)} {a : α}
theorem T_iret {v : Int32} (h : Ok G l0 X own cc nL R0 (some .int)) (hd : decode cc pc = .ok (.ireturn, 1)) (hc : kc ≤ R0.cells) (hs : ks ≤ R0.slots) (hi : ι a = (some (.int v), Wd)) : T X A (Zm X A ι) nL kc ks pc lv [.int v] Wd (some a) := by
  obtain ⟨p, l, e, R, s, m, args, below, meth, c⟩ := X
  intro a' ha H locs ls hW hS hl
  cases ha
  obtain ⟨h1, h2, h3, h4, h5, h6, h7, rfl, h9, h10⟩ := h
  refine W.widen (k := R.cells) (n := R.slots) hc hs ?_
  exact W.iret h1 h2 h9 (fun t ht hWa => ⟨by rw [hi], by rw [hi, ht]; exact hW, hS.F ht⟩) hS.2.2 hd h7
theorem T_lret {v : Int64} (h : Ok G l0 X own cc nL R0 (some .long)) (hd : decode cc pc = .ok (.lreturn, 1)) (hc : kc ≤ R0.cells) (hs : ks ≤ R0.slots) (hi : ι a = (some (.long v), Wd)) : T X A (Zm X A ι) nL kc ks pc lv [.long v] Wd (some a) := by
  obtain ⟨p, l, e, R, s, m, args, below, meth, c⟩ := X
  intro a' ha H locs ls hW hS hl
  cases ha
  obtain ⟨h1, h2, h3, h4, h5, h6, h7, rfl, h9, h10⟩ := h
  refine W.widen (k := R.cells) (n := R.slots) hc hs ?_
  exact W.lret h1 h2 h9 (fun t ht hWa => ⟨by rw [hi], by rw [hi, ht]; exact hW, hS.F ht⟩) hS.2.2 hd h7
theorem T_vret (h : Ok G l0 X own cc nL R0 none) (hd : decode cc pc = .ok (.return_, 1)) (hc : kc ≤ R0.cells) (hs : ks ≤ R0.slots) (hi : ι a = (none, Wd)) : T X A (Zm X A ι) nL kc ks pc lv [] Wd (some a) := by
  obtain ⟨p, l, e, R, s, m, args, below, meth, c⟩ := X
  intro a' ha H locs ls hW hS hl
  cases ha
  obtain ⟨h1, h2, h3, h4, h5, h6, h7, rfl, h9, h10⟩ := h
  refine W.widen (k := R.cells) (n := R.slots) hc hs ?_
  exact W.vret h1 h2 h9 (fun t ht hWa => ⟨by rw [hi], by rw [hi, ht]; exact hW, hS.F ht⟩) hS.2.2 hd h7
theorem T_zret {v : Int32} (h : Ok G l0 X own cc nL R0 (some .boolean)) (hd : decode cc pc = .ok (.ireturn, 1)) (hc : kc ≤ R0.cells) (hs : ks ≤ R0.slots) (hv : is01 v = true) (hi : ι a = (some (.int v), Wd)) : T X A (Zm X A ι) nL kc ks pc lv [.int v] Wd (some a) := by
  obtain ⟨p, l, e, R, s, m, args, below, meth, c⟩ := X
  intro a' ha H locs ls hW hS hl
  cases ha
  obtain ⟨h1, h2, h3, h4, h5, h6, h7, rfl, h9, h10⟩ := h
  refine W.widen (k := R.cells) (n := R.slots) hc hs ?_
  exact W.zret h1 h2 h9 (is01_nar hv) (fun t ht hWa => ⟨by rw [hi], by rw [hi, ht]; exact hW, hS.F ht⟩) hS.2.2 hd h7
theorem T_zretv {v : Int32} {f : Bool → α} (h : Ok G l0 X own cc nL R0 (some .boolean)) (hd : decode cc pc = .ok (.ireturn, 1)) (hc : kc ≤ R0.cells) (hs : ks ≤ R0.slots) (hi : ∀ r, ι (f r) = (some (.int (bi r)), Wd)) : T X A (Zm X A ι) nL kc ks pc lv [.int v] Wd (gd (is01 v) (some (f (decide (v = 1))))) := by
  have key : is01 v = true → T X A (Zm X A ι) nL kc ks pc lv [.int v] Wd (some (f (decide (v = 1)))) := fun hv => by
    refine T_zret h hd hc hs hv ?_
    rw [hi]
    simp only [is01, Bool.or_eq_true, decide_eq_true_eq] at hv
    rcases hv with rfl | rfl <;> rfl
  obtain ⟨p, l, e, R, s, m, args, below, meth, c⟩ := X
  intro a' ha H locs ls hW hS hl
  obtain ⟨h1, h2⟩ := gd_some ha
  exact key h1 a' h2 H locs ls hW hS hl
end ENDS
end RW
