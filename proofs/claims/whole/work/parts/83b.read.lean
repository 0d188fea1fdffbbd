/-! reading: words, numbers, ends -/
def flI (I : MI) (c : Int32) : MI := st2 (st2 I 34 5 c) 34 6 (I 36 5)
def flM (M : MI) (c : Int32) : MI := st2 (st2 M 0 4 c) 0 5 (M 0 10)
theorem p_fails {I : MI} {c : Int32} : f_X6_fails I c = some (false, flI I c) := by
  delta f_X6_fails
  simp only [lt]
  rw [show st2 I 34 5 c 36 5 = I 36 5 from s2x (by omega)]; rfl
theorem m_wrong {M : MI} {c : Int32} : f_X11_wrong M c = some (false, flM M c) := by
  delta f_X11_wrong
  simp only [lt]
  rw [show st2 M 0 4 c 0 10 = M 0 10 from s2x (by omega)]; rfl
theorem fl_R {I M : MI} {c : Int32} (h : I 36 5 = M 0 10) : FlR (flI I c) (flM M c) := by
  unfold FlR flI flM
  rw [s2x (by omega), st2_at, if_pos rfl, s2x (by omega), st2_at, if_pos rfl, st2_at, if_pos rfl, st2_at, if_pos rfl]
  exact ⟨rfl, h⟩
theorem fl_TF {I : MI} {c : Int32} : TF I (flI I c) := fun p k a b => by unfold flI; rw [s2x (by omega), s2x (by omega)]
theorem fl_TFM {M : MI} {c : Int32} : TFM M (flM M c) := fun p k a => by unfold flM; rw [s2x (by omega), s2x (by omega)]
theorem Ahd.to {M M' : MI} {T : Nat → Nat} {n p : Nat} (h : Ahd M T n p) (h1 : M' 1 = M 1) (h2 : M' 2 = M 2) (h0 : ∀ k, 6 ≤ k → k ≤ 10 → M' 0 k = M 0 k) : Ahd M' T n p := by
  obtain ⟨a, b, c⟩ := h
  exact ⟨a.to h1 h2 (h0 6 (by omega) (by omega)) ((h0 7 (by omega) (by omega)).trans a.2.2.2.2.2.2) a.2.2.1, by rw [h0 10 (by omega) (by omega)]; exact b, by rw [h0 8 (by omega) (by omega), h0 9 (by omega) (by omega)]; exact c⟩
theorem TkI.st {I I' : MI} {T : Nat → Nat} {n p : Nat} (h : TkI I T n p) (h1 : I' 1 = I 1) (h2 : I' 37 = I 37) (h3 : ∀ k, 2 ≤ k → k ≤ 3 → I' 36 k = I 36 k) : TkI I' T n p :=
  h.to h1 h2 (h3 2 (by omega) (by omega)) ((h3 3 (by omega) (by omega)).trans h.2.2.2.2.2.2) h.2.2.1
theorem n_cd {c d : Nat} {y : Int32} (hc : c ≤ 36) (hd : d ≤ 36) (hy : y = Int32.ofNat d) : (Int32.ofNat c = y) ↔ c = d := by rw [hy]; exact n_eq (by omega) (by omega)
theorem qC_le {T : Nat → Nat} {n p : Nat} (hT : ∀ k, T k < 256) : qC T n p ≤ 36 := by
  unfold qC tC
  split
  · omega
  · split
    · unfold tWc
      split
      · omega
      · cases h : wfn (pkv T (tA T n p) (tL T n (tA T n p) - tA T n p)) with
        | none => exact (by decide : 34 ≤ 36)
        | some e => have := wfn_lt h; show e ≤ 36; omega
    · split
      · omega
      · exact (sgt_c _ (hT _)).2.1
theorem p_code {I : MI} {T : Nat → Nat} {n p d : Nat} {y : Int32} (h : TkI I T n p) (hd : d ≤ 36) (hy : y = Int32.ofNat d) : (∃ I', qC T n p = d ∧ bd1 (f_X7_step I) (fun I1 => lt (fun (x2 : Bool) (I3 : MI) => some (x2, I3)) (fun j32 => lt (fun (I4 : MI) => j32 true I4) (fun j27 => if (I1 36 4) = y then (j27 I1) else (bd2 (f_X6_fails I1 (1 : Int32)) (fun x5 I6 => if x5 = true then (j27 I6) else (j32 false I6)))))) = some (true, I') ∧ FT I I' ∧ Std I' T n p) ∨ (∃ I', qC T n p ≠ d ∧ bd1 (f_X7_step I) (fun I1 => lt (fun (x2 : Bool) (I3 : MI) => some (x2, I3)) (fun j32 => lt (fun (I4 : MI) => j32 true I4) (fun j27 => if (I1 36 4) = y then (j27 I1) else (bd2 (f_X6_fails I1 (1 : Int32)) (fun x5 I6 => if x5 = true then (j27 I6) else (j32 false I6)))))) = some (false, I') ∧ TF I I' ∧ I' 34 5 = 1 ∧ I' 34 6 = Int32.ofNat (tA T n p)) := by
  obtain ⟨I1, e, f, s⟩ := c_step h
  have hc := qC_le (n := n) (p := p) h.1
  rw [e, bd1_s]
  simp only [lt]
  rw [s.2.2.1]
  by_cases c : qC T n p = d
  · refine Or.inl ⟨I1, c, ?_, f, s⟩
    rw [if_pos ((n_cd hc hd hy).mpr c)]
  · refine Or.inr ⟨flI I1 1, c, ?_, f.tf.tr fl_TF, ?_, ?_⟩
    · rw [if_neg (fun e => c ((n_cd hc hd hy).mp e)), p_fails, bd2_s]; rfl
    · unfold flI; rw [s2x (by omega), st2_at, if_pos rfl]
    · unfold flI; rw [st2_at, if_pos rfl]; exact s.2.1
theorem p_isWord {I : MI} {T : Nat → Nat} {n p : Nat} (h : TkI I T n p) : (∃ I', qC T n p = 34 ∧ f_X6_isWord I = some (true, I') ∧ FT I I' ∧ Std I' T n p) ∨ (∃ I', qC T n p ≠ 34 ∧ f_X6_isWord I = some (false, I') ∧ TF I I' ∧ I' 34 5 = 1 ∧ I' 34 6 = Int32.ofNat (tA T n p)) := p_code h (by decide) rfl
theorem p_isEnd {I : MI} {T : Nat → Nat} {n p : Nat} (h : TkI I T n p) : (∃ I', qC T n p = 20 ∧ f_X6_isEnd I = some (true, I') ∧ FT I I' ∧ Std I' T n p) ∨ (∃ I', qC T n p ≠ 20 ∧ f_X6_isEnd I = some (false, I') ∧ TF I I' ∧ I' 34 5 = 1 ∧ I' 34 6 = Int32.ofNat (tA T n p)) := p_code h (by decide) rfl
def Bad (o1 o2 : Option (Bool × MI)) (I M : MI) : Prop := ∃ I' M', o1 = some (false, I') ∧ o2 = some (false, M') ∧ FlR I' M' ∧ TF I I' ∧ TFM M M'
theorem isW {v lo hi : Nat} (hv : v < 2147483648) (hl : lo < 2147483648) (hh : hi < 2147483648) : f_X10_isWithin (Int32.ofNat v) (Int32.ofNat lo) (Int32.ofNat hi) = some (decide (lo ≤ v ∧ v ≤ hi)) ∧ f_X11_isIn (Int32.ofNat v) (Int32.ofNat lo) (Int32.ofNat hi) = some (decide (lo ≤ v ∧ v ≤ hi)) := by
  rw [p_isWithin, m_isIn, n_toInt hv, n_toInt hl, n_toInt hh]
  have : decide ((lo : Int) ≤ v ∧ (v : Int) ≤ hi) = decide (lo ≤ v ∧ v ≤ hi) := by
    apply decide_eq_decide.mpr; omega
  rw [this]; exact ⟨rfl, rfl⟩
theorem c_num {I M : MI} {T : Nat → Nat} {n p lo hi : Nat} (h : TkI I T n p) (h2 : Ahd M T n p) (hh : hi ≤ 99999) (hlo : lo ≤ hi) : (∃ z I' M', lo ≤ z ∧ z ≤ hi ∧ f_X6_isNumber I (Int32.ofNat lo) (Int32.ofNat hi) = some (true, I') ∧ f_X11_number M (Int32.ofNat lo) (Int32.ofNat hi) = some (true, M') ∧ I' 36 6 = Int32.ofNat z ∧ M' 0 11 = Int32.ofNat z ∧ FT I I' ∧ TFS M M' ∧ Std I' T n p ∧ Ahd M' T n (qQ T n p) ∧ qC T n p ≠ 35) ∨ Bad (f_X6_isNumber I (Int32.ofNat lo) (Int32.ofNat hi)) (f_X11_number M (Int32.ofNat lo) (Int32.ofNat hi)) I M := by
  obtain ⟨I1, e, f, s⟩ := c_step h
  have hc := qC_le (n := n) (p := p) h.1
  have k3 := h2.2.2.k3
  have hpl : ∀ c, FlR (flI I1 c) (flM M c) := fun c => fl_R (s.2.1.trans h2.2.1.symm)
  delta f_X6_isNumber f_X11_number
  rw [e, bd1_s, s.2.2.1]
  by_cases c : qC T n p = 33
  · obtain ⟨x, hx, hx1, hv, hxv⟩ := k3.2 c
    rw [if_pos ((n_cd (y := 33) (d := 33) hc (by decide) rfl).mpr c), if_pos (k3.1.mpr c), s.2.2.2 (Or.inl c), hx, (isW (by omega) (by omega) (by omega)).1, (isW (by omega) (by omega) (by omega)).2, bd1_s, bd1_s]
    simp only [lt]
    by_cases cr : lo ≤ x ∧ x ≤ hi
    · have hvx : qV T n p = x := by omega
      rw [hvx, decide_eq_true cr, if_pos rfl, if_pos rfl]
      have h3 : Ahd (st2 M 0 11 (Int32.ofNat x)) T n p := h2.to rfl rfl (fun k a b => s2x (by omega))
      obtain ⟨M', e', f', a'⟩ := m_next h3.1
      refine Or.inl ⟨x, I1, M', cr.1, cr.2, rfl, by rw [e', bd1_s], by rw [s.2.2.2 (Or.inl c), hvx], by rw [f' 0 11 (by omega), st2_at, if_pos rfl], f, fun p k a => by rw [f' p k (by omega), s2x (by omega)], s, a', by omega⟩
    · have cr2 : ¬ (lo ≤ qV T n p ∧ qV T n p ≤ hi) := by omega
      rw [decide_eq_false cr, decide_eq_false cr2, if_neg (by decide), if_neg (by decide), p_fails, m_wrong, bd2_s, bd2_s]
      exact Or.inr ⟨_, _, rfl, rfl, hpl 2, f.tf.tr fl_TF, fl_TFM⟩
  · rw [if_neg (fun e => c ((n_cd (y := 33) (d := 33) hc (by decide) rfl).mp e)), if_neg (fun e => c (k3.1.mp e)), p_fails, m_wrong, bd2_s, bd2_s]
    exact Or.inr ⟨_, _, rfl, rfl, hpl 1, f.tf.tr fl_TF, fl_TFM⟩
/-- a name that must be new, row pa of the model, m of them told -/
theorem m_newName {M : MI} {T : Nat → Nat} {n p pa m : Nat} (h2 : Ahd M T n p) (hm : m < 6) (hpa : 5 ≤ pa ∧ pa < 12) : (qC T n p ≠ 34 ∧ f_X11_newName M pa 12 6 (Int32.ofNat m) = some (false, flM M 1)) ∨ (qC T n p = 34 ∧ sf (fun k => M pa (6 + k)) (Int32.ofNat (qV T n p)) m 0 ≠ -1 ∧ f_X11_newName M pa 12 6 (Int32.ofNat m) = some (false, flM M 3)) ∨ (qC T n p = 34 ∧ sf (fun k => M pa (6 + k)) (Int32.ofNat (qV T n p)) m 0 = -1 ∧ ∃ M', f_X11_newName M pa 12 6 (Int32.ofNat m) = some (true, M') ∧ FM (st2 M pa (6 + m) (Int32.ofNat (qV T n p))) M' ∧ Ahd M' T n (qQ T n p)) := by
  have k2 := h2.2.2.k2
  delta f_X11_newName
  by_cases c : qC T n p = 34
  · rw [if_pos (k2.1.mpr c), k2.2 c, show (6 : Int32) = Int32.ofNat 6 from rfl, m_find (by omega) (by omega), bd1_s]
    rcases sf_c (fun k => M pa (6 + k)) (Int32.ofNat (qV T n p)) m 0 with hs | ⟨j, _, hj, _, hs⟩
    · rw [hs, if_pos (by decide), n_add, gd_t ((n_inb (by omega)).mpr (by omega)), n_ix (by omega)]
      have h3 : Ahd (st2 M pa (6 + m) (Int32.ofNat (qV T n p))) T n p := h2.to (st2_ne (by omega)) (st2_ne (by omega)) (fun k a b => s2x (by omega))
      obtain ⟨M', e', f', a'⟩ := m_next h3.1
      refine Or.inr (Or.inr ⟨c, rfl, M', ?_, f', a'⟩)
      simp only [lt]
      rw [e', bd1_s]
    · have e1 := (enc_neg (j := j) (by omega))
      rw [hs, if_neg e1.2.1, m_wrong, bd2_s]
      exact Or.inr (Or.inl ⟨c, e1.2.2.1, rfl⟩)
  · rw [if_neg (fun e => c (k2.1.mp e)), m_wrong, bd2_s]
    exact Or.inl ⟨c, rfl⟩
theorem m_thereIn {M : MI} {T : Nat → Nat} {n p pa m : Nat} (h2 : Ahd M T n p) (hm : m ≤ 6) : (qC T n p ≠ 34 ∧ f_X11_thereIn M pa 12 6 (Int32.ofNat m) = some (false, flM M 1)) ∨ (qC T n p = 34 ∧ sf (fun k => M pa (6 + k)) (Int32.ofNat (qV T n p)) m 0 = -1 ∧ f_X11_thereIn M pa 12 6 (Int32.ofNat m) = some (false, flM M 4)) ∨ (qC T n p = 34 ∧ ∃ j M', j < m ∧ sf (fun k => M pa (6 + k)) (Int32.ofNat (qV T n p)) m 0 = Int32.ofNat j ∧ f_X11_thereIn M pa 12 6 (Int32.ofNat m) = some (true, M') ∧ TFS M M' ∧ M' 0 11 = Int32.ofNat j ∧ Ahd M' T n (qQ T n p)) := by
  have k2 := h2.2.2.k2
  delta f_X11_thereIn
  by_cases c : qC T n p = 34
  · rw [if_pos (k2.1.mpr c), k2.2 c, show (6 : Int32) = Int32.ofNat 6 from rfl, m_find (by omega) (by omega), bd1_s]
    rcases sf_c (fun k => M pa (6 + k)) (Int32.ofNat (qV T n p)) m 0 with hs | ⟨j, _, hj, _, hs⟩
    · rw [hs, if_neg (by decide), m_wrong, bd2_s]
      exact Or.inr (Or.inl ⟨c, rfl, rfl⟩)
    · have e1 := (enc_neg (j := j) (by omega))
      obtain ⟨M', e', f', a'⟩ := m_next h2.1
      rw [hs, if_pos e1.2.2.2, e', bd1_s]
      refine Or.inr (Or.inr ⟨c, j, st2 M' 0 11 (Int32.ofNat j), by omega, rfl, rfl, fun p k a => by rw [s2x (by omega)]; exact f' p k (by omega), by rw [st2_at, if_pos rfl], a'.to (st2_ne (by omega)) (st2_ne (by omega)) (fun k a b => s2x (by omega))⟩)
  · rw [if_neg (fun e => c (k2.1.mp e)), m_wrong, bd2_s]
    exact Or.inl ⟨c, rfl⟩
