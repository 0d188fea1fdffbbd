/-! reading: a token ahead -/
def qQ (T : Nat → Nat) (n p : Nat) : Nat := tQ T n (tA T n p)
def qC (T : Nat → Nat) (n p : Nat) : Nat := tC T n (tA T n p)
def qV (T : Nat → Nat) (n p : Nat) : Nat := tV T n (tA T n p)
/-- the model has read the token from p on -/
def Ahd (M : MI) (T : Nat → Nat) (n p : Nat) : Prop := TkM M T n (qQ T n p) ∧ M 0 10 = Int32.ofNat (tA T n p) ∧ TkR (qC T n p) (qV T n p) (M 0 8) (M 0 9)
def TF (I I' : MI) : Prop := ∀ p k, p ≠ 34 → p ≠ 36 → I' p k = I p k
def TFM (M M' : MI) : Prop := ∀ p k, ¬ (p = 0 ∧ 4 ≤ k ∧ k ≤ 11 ∧ k ≠ 6) → M' p k = M p k
def TFS (M M' : MI) : Prop := ∀ p k, ¬ (p = 0 ∧ 7 ≤ k ∧ k ≤ 11) → M' p k = M p k
theorem TFS.tf {M M' : MI} (h : TFS M M') : TFM M M' := fun p k a => h p k (by omega)
theorem TFS.p {M M' : MI} (h : TFS M M') (q k : Nat) (hq : ¬ (q = 0 ∧ 7 ≤ k ∧ k ≤ 11)) : M' q k = M q k := h q k hq
/-- what a line leaves of the fault and of the reader -/
def FlS (I I' M M' : MI) : Prop := (∀ k, 4 ≤ k → I' 34 k = I 34 k) ∧ M' 0 4 = M 0 4 ∧ M' 0 5 = M 0 5
theorem FlS.tr {I I' I'' M M' M'' : MI} (h : FlS I I' M M') (h' : FlS I' I'' M' M'') : FlS I I'' M M'' := ⟨fun k hk => (h'.1 k hk).trans (h.1 k hk), h'.2.1.trans h.2.1, h'.2.2.trans h.2.2⟩
def FlR (I M : MI) : Prop := I 34 5 = M 0 4 ∧ I 34 6 = M 0 5
theorem TF.tr {I I' I'' : MI} (h : TF I I') (h' : TF I' I'') : TF I I'' := fun p k a b => (h' p k a b).trans (h p k a b)
theorem TFM.tr {I I' I'' : MI} (h : TFM I I') (h' : TFM I' I'') : TFM I I'' := fun p k a => (h' p k a).trans (h p k a)
theorem FM.tf {M M' : MI} (h : FM M M') : TFM M M' := fun p k a => h p k (by omega)
theorem FT.tf {I I' : MI} (h : FT I I') : TF I I' := fun p k _ b => h p k (by omega)
/-- the component has stepped over the token at p -/
def Std (I' : MI) (T : Nat → Nat) (n p : Nat) : Prop := TkI I' T n (qQ T n p) ∧ I' 36 5 = Int32.ofNat (tA T n p) ∧ I' 36 4 = Int32.ofNat (qC T n p) ∧ ((qC T n p = 33 ∨ qC T n p = 34) → I' 36 6 = Int32.ofNat (qV T n p))
theorem c_step {I : MI} {T : Nat → Nat} {n p : Nat} (h : TkI I T n p) : ∃ I', f_X7_step I = some I' ∧ FT I I' ∧ Std I' T n p := by
  obtain ⟨I', e, f, h5, h3, h4, h6⟩ := p_step h
  exact ⟨I', e, f, h.ft f h3 (tok_b h.1 h.2.2.1).2.2.1, h5, h4, h6⟩
theorem m_next {M : MI} {T : Nat → Nat} {n p : Nat} (h : TkM M T n p) : ∃ M', f_X11_token M = some M' ∧ FM M M' ∧ Ahd M' T n p := by
  obtain ⟨M', e, f, h10, h7, hr⟩ := m_token h
  exact ⟨M', e, f, h.ft f h7 (tok_b h.1 h.2.2.1).2.2.1, h10, hr⟩
theorem sw_lt {j : Nat} (h : j < 20) : swp j < 20 := (wd_4 ⟨j, h⟩).1
theorem TkR.k0 {c v : Nat} {k w : Int32} (h : TkR c v k w) : k = 0 ↔ c = 35 := by
  rcases h with ⟨rfl, rfl⟩ | ⟨rfl, j, hj, rfl, rfl⟩ | ⟨rfl, rfl, rfl⟩ | ⟨rfl, rfl, _⟩ | ⟨rfl, t, _, ht⟩ | ⟨rfl, i, hi, rfl, rfl⟩ | ⟨rfl, rfl⟩
  · exact ⟨fun _ => rfl, fun _ => rfl⟩
  · have := sw_lt hj
    exact ⟨fun e => absurd e (by decide), fun e => by omega⟩
  · exact ⟨fun e => absurd e (by decide), fun e => by omega⟩
  · exact ⟨fun e => absurd e (by decide), fun e => by omega⟩
  · exact ⟨fun e => absurd e (by decide), fun e => by omega⟩
  · exact ⟨fun e => absurd e (by decide), fun e => by omega⟩
  · exact ⟨fun e => absurd e (by decide), fun e => by omega⟩
theorem TkR.k1 {c v : Nat} {k w : Int32} (h : TkR c v k w) : (k = 1 ↔ c < 20) ∧ (c < 20 → w = Int32.ofNat (swp c)) := by
  rcases h with ⟨rfl, rfl⟩ | ⟨rfl, j, hj, rfl, rfl⟩ | ⟨rfl, rfl, rfl⟩ | ⟨rfl, rfl, _⟩ | ⟨rfl, t, _, ht⟩ | ⟨rfl, i, hi, rfl, rfl⟩ | ⟨rfl, rfl⟩
  · exact ⟨⟨fun e => absurd e (by decide), fun e => by omega⟩, fun e => by omega⟩
  · have := sw_lt hj
    exact ⟨⟨fun _ => this, fun _ => rfl⟩, fun _ => by rw [(wd_4 ⟨j, hj⟩).2]⟩
  · exact ⟨⟨fun e => absurd e (by decide), fun e => by omega⟩, fun e => by omega⟩
  · exact ⟨⟨fun e => absurd e (by decide), fun e => by omega⟩, fun e => by omega⟩
  · exact ⟨⟨fun e => absurd e (by decide), fun e => by omega⟩, fun e => by omega⟩
  · exact ⟨⟨fun e => absurd e (by decide), fun e => by omega⟩, fun e => by omega⟩
  · exact ⟨⟨fun e => absurd e (by decide), fun e => by omega⟩, fun e => by omega⟩
theorem TkR.k2 {c v : Nat} {k w : Int32} (h : TkR c v k w) : (k = 2 ↔ c = 34) ∧ (c = 34 → w = Int32.ofNat v) := by
  rcases h with ⟨rfl, rfl⟩ | ⟨rfl, j, hj, rfl, rfl⟩ | ⟨rfl, rfl, rfl⟩ | ⟨rfl, rfl, _⟩ | ⟨rfl, t, _, ht⟩ | ⟨rfl, i, hi, rfl, rfl⟩ | ⟨rfl, rfl⟩
  · exact ⟨⟨fun e => absurd e (by decide), fun e => by omega⟩, fun e => by omega⟩
  · have := sw_lt hj
    exact ⟨⟨fun e => absurd e (by decide), fun e => by omega⟩, fun e => by omega⟩
  · exact ⟨⟨fun _ => rfl, fun _ => rfl⟩, fun _ => rfl⟩
  · exact ⟨⟨fun e => absurd e (by decide), fun e => by omega⟩, fun e => by omega⟩
  · exact ⟨⟨fun e => absurd e (by decide), fun e => by omega⟩, fun e => by omega⟩
  · exact ⟨⟨fun e => absurd e (by decide), fun e => by omega⟩, fun e => by omega⟩
  · exact ⟨⟨fun e => absurd e (by decide), fun e => by omega⟩, fun e => by omega⟩
theorem TkR.k3 {c v : Nat} {k w : Int32} (h : TkR c v k w) : (k = 3 ↔ c = 33) ∧ (c = 33 → ∃ x, w = Int32.ofNat x ∧ x ≤ 999999 ∧ v ≤ 1000000 ∧ ((v = x ∧ x ≤ 99999) ∨ (99999 < v ∧ 99999 < x))) := by
  rcases h with ⟨rfl, rfl⟩ | ⟨rfl, j, hj, rfl, rfl⟩ | ⟨rfl, rfl, rfl⟩ | ⟨rfl, rfl, hx⟩ | ⟨rfl, t, _, ht⟩ | ⟨rfl, i, hi, rfl, rfl⟩ | ⟨rfl, rfl⟩
  · exact ⟨⟨fun e => absurd e (by decide), fun e => by omega⟩, fun e => by omega⟩
  · have := sw_lt hj
    exact ⟨⟨fun e => absurd e (by decide), fun e => by omega⟩, fun e => by omega⟩
  · exact ⟨⟨fun e => absurd e (by decide), fun e => by omega⟩, fun e => by omega⟩
  · exact ⟨⟨fun _ => rfl, fun _ => rfl⟩, fun _ => hx⟩
  · exact ⟨⟨fun e => absurd e (by decide), fun e => by omega⟩, fun e => by omega⟩
  · exact ⟨⟨fun e => absurd e (by decide), fun e => by omega⟩, fun e => by omega⟩
  · exact ⟨⟨fun e => absurd e (by decide), fun e => by omega⟩, fun e => by omega⟩
theorem TkR.k5 {c v : Nat} {k w : Int32} (h : TkR c v k w) : (k = 5 ↔ 23 ≤ c ∧ c ≤ 28) ∧ (23 ≤ c ∧ c ≤ 28 → w = Int32.ofNat (c - 23)) := by
  rcases h with ⟨rfl, rfl⟩ | ⟨rfl, j, hj, rfl, rfl⟩ | ⟨rfl, rfl, rfl⟩ | ⟨rfl, rfl, hx⟩ | ⟨rfl, t, _, ht⟩ | ⟨rfl, i, hi, rfl, rfl⟩ | ⟨rfl, rfl⟩
  · exact ⟨⟨fun e => absurd e (by decide), fun e => by omega⟩, fun e => by omega⟩
  · have := sw_lt hj
    exact ⟨⟨fun e => absurd e (by decide), fun e => by omega⟩, fun e => by omega⟩
  · exact ⟨⟨fun e => absurd e (by decide), fun e => by omega⟩, fun e => by omega⟩
  · exact ⟨⟨fun e => absurd e (by decide), fun e => by omega⟩, fun e => by omega⟩
  · exact ⟨⟨fun e => absurd e (by decide), fun e => by omega⟩, fun e => by omega⟩
  · exact ⟨⟨fun _ => by omega, fun _ => rfl⟩, fun _ => by rw [show 23 + i - 23 = i by omega]⟩
  · exact ⟨⟨fun e => absurd e (by decide), fun e => by omega⟩, fun e => by omega⟩
def sgC (t : Nat) : Nat := if t = 59 then 20 else if t = 40 then 21 else if t = 41 then 22 else if t = 43 then 29 else if t = 45 then 30 else if t = 42 then 31 else 32
theorem TkR.k4 {c v : Nat} {k w : Int32} (h : TkR c v k w) {t : Nat} (ht : t = 59 ∨ t = 40 ∨ t = 41 ∨ t = 43 ∨ t = 45 ∨ t = 42 ∨ t = 47) : (k = 4 ∧ w = Int32.ofNat t) ↔ c = sgC t := by
  have hs : 20 ≤ sgC t ∧ sgC t ≤ 32 ∧ ¬ (23 ≤ sgC t ∧ sgC t ≤ 28) := by
    rcases ht with rfl | rfl | rfl | rfl | rfl | rfl | rfl <;> decide
  rcases h with ⟨rfl, rfl⟩ | ⟨rfl, j, hj, rfl, rfl⟩ | ⟨rfl, rfl, rfl⟩ | ⟨rfl, rfl, hx⟩ | ⟨rfl, u, rfl, hu⟩ | ⟨rfl, i, hi, rfl, rfl⟩ | ⟨rfl, rfl⟩
  · exact ⟨fun e => absurd e.1 (by decide), fun e => by omega⟩
  · have := sw_lt hj
    exact ⟨fun e => absurd e.1 (by decide), fun e => by omega⟩
  · exact ⟨fun e => absurd e.1 (by decide), fun e => by omega⟩
  · exact ⟨fun e => absurd e.1 (by decide), fun e => by omega⟩
  · rw [n_eq (by omega) (by omega)]
    have : c = sgC u ∨ (u = 37 ∧ c = 36) := by
      rcases hu with ⟨rfl, rfl⟩ | ⟨rfl, rfl⟩ | ⟨rfl, rfl⟩ | ⟨rfl, rfl⟩ | ⟨rfl, rfl⟩ | ⟨rfl, rfl⟩ | ⟨rfl, rfl⟩ | ⟨rfl, rfl⟩
      all_goals first | exact Or.inr ⟨rfl, rfl⟩ | exact Or.inl rfl
    constructor
    · rintro ⟨_, rfl⟩
      rcases this with h | ⟨h, _⟩
      · exact h
      · omega
    · intro e
      refine ⟨rfl, ?_⟩
      unfold sgC at e
      rcases hu with ⟨rfl, rfl⟩ | ⟨rfl, rfl⟩ | ⟨rfl, rfl⟩ | ⟨rfl, rfl⟩ | ⟨rfl, rfl⟩ | ⟨rfl, rfl⟩ | ⟨rfl, rfl⟩ | ⟨rfl, rfl⟩ <;> rcases ht with rfl | rfl | rfl | rfl | rfl | rfl | rfl <;> first | rfl | (exact absurd e (by decide))
  · exact ⟨fun e => absurd e.1 (by decide), fun e => by omega⟩
  · exact ⟨fun e => absurd e.1 (by decide), fun e => by omega⟩
theorem m_isSign {M : MI} {T : Nat → Nat} {n p : Nat} (h : Ahd M T n p) {t : Nat} (ht : t = 59 ∨ t = 40 ∨ t = 41 ∨ t = 43 ∨ t = 45 ∨ t = 42 ∨ t = 47) : f_X11_isSign M (Int32.ofNat t) = some (decide (qC T n p = sgC t)) := by
  have k4 := h.2.2.k4 ht
  delta f_X11_isSign
  simp only [lt]
  by_cases c1 : M 0 8 = 4
  · rw [if_pos c1]
    by_cases c2 : M 0 9 = Int32.ofNat t
    · rw [if_pos c2, decide_eq_true (k4.mp ⟨c1, c2⟩)]
    · rw [if_neg c2, decide_eq_false (fun e => c2 (k4.mpr e).2)]
  · rw [if_neg c1, decide_eq_false (fun e => c1 (k4.mpr e).1)]
theorem m_isKey {M : MI} {T : Nat → Nat} {n p : Nat} (h : Ahd M T n p) {j : Nat} (hj : j < 20) : f_X11_isKey M (Int32.ofNat j) = some (decide (qC T n p = swp j)) := by
  have k1 := h.2.2.k1
  have w4 := wd_4 ⟨j, hj⟩
  simp only at w4
  delta f_X11_isKey
  simp only [lt]
  by_cases c1 : M 0 8 = 1
  · have hc := k1.1.mp c1
    have w4' := wd_4 ⟨qC T n p, hc⟩
    simp only at w4'
    rw [if_pos c1, k1.2 hc]
    by_cases c2 : qC T n p = swp j
    · rw [if_pos (by rw [c2, w4.2]), decide_eq_true c2]
    · rw [if_neg (fun e => c2 (by
        have := (n_eq (by omega) (by omega)).mp e
        rw [← this, w4'.2])), decide_eq_false c2]
  · rw [if_neg c1, decide_eq_false (fun e => c1 (k1.1.mpr (by rw [e]; exact w4.1)))]
