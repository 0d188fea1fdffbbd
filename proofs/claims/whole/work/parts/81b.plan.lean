/-! works laid on days: the choice -/
def gq (bk : Nat) (I : MI) (kd : Nat → Int32) (n nw w t d : Nat) : Bool := frw bk I kd n w d t && decide (cdw bk I kd n nw w t d = Vw bk I kd n nw w t)
def gd8 (bk : Nat) (I : MI) (kd : Nat → Int32) (n nw w t : Nat) : Option Nat := fd (gq bk I kd n nw w t) 8 0
def tkn (g : Nat → Nat → Option Nat) : Nat → Nat
  | 0 => 0
  | w + 1 => match g w (tkn g w) with
    | none => tkn g w
    | some d => tkn g w ||| 2 ^ d
def e2 : Option Nat → Int32
  | none => -2
  | some d => Int32.ofNat d
theorem gd8_c {bk n nw w t : Nat} {I : MI} {kd : Nat → Int32} (hw : w < nw) : (gd8 bk I kd n nw w t = none ∧ Vw bk I kd n nw w t = Vw bk I kd n nw (w + 1) t) ∨ ∃ d, gd8 bk I kd n nw w t = some d ∧ d < 8 ∧ d < n ∧ Vw bk I kd n nw w t = cdw bk I kd n nw w t d := by
  unfold gd8
  rcases fd_c (q := gq bk I kd n nw w t) 8 0 with ⟨h1, h2⟩ | ⟨d, h1, _, h3, h4⟩
  · refine Or.inl ⟨h1, ?_⟩
    rcases pF_c (fr := fun d => frw bk I kd n w d t) (cd := cdw bk I kd n nw w t) (p0 := Vw bk I kd n nw (w + 1) t) 8 with h | ⟨e, he, hf, h⟩
    · rw [Vw_s hw]; exact h
    · have := h2 e (by omega) (by omega)
      unfold gq at this
      rw [hf, Bool.true_and, decide_eq_true (by rw [Vw_s hw]; exact h.symm)] at this
      cases this
  · unfold gq at h4
    have hf := (Bool.and_eq_true_iff.mp h4).1
    have hv := of_decide_eq_true (Bool.and_eq_true_iff.mp h4).2
    have hd : d < n := by
      unfold frw at hf
      exact of_decide_eq_true (Bool.and_eq_true_iff.mp hf).1
    exact Or.inr ⟨d, h1, by omega, hd, hv.symm⟩
theorem tkn_lt {bk n nw : Nat} {I : MI} {kd : Nat → Int32} (hn : n ≤ 8) : ∀ w, w ≤ nw → tkn (gd8 bk I kd n nw) w < 2 ^ n
  | 0, _ => Nat.two_pow_pos n
  | w + 1, h => by
    have ih := tkn_lt (bk := bk) (nw := nw) (I := I) (kd := kd) hn w (by omega)
    show (match gd8 bk I kd n nw w (tkn (gd8 bk I kd n nw) w) with | none => tkn (gd8 bk I kd n nw) w | some d => tkn (gd8 bk I kd n nw) w ||| 2 ^ d) < 2 ^ n
    rcases gd8_c (bk := bk) (I := I) (kd := kd) (n := n) (t := tkn (gd8 bk I kd n nw) w) (show w < nw by omega) with ⟨h1, _⟩ | ⟨d, h1, _, h2, _⟩
    · rw [h1]; exact ih
    · rw [h1]; exact (or_n hn ih h2).2
theorem tkn_v {bk n nw : Nat} {I : MI} {kd : Nat → Int32} : ∀ w, w ≤ nw → ∃ a b, a + (Vw bk I kd n nw w (tkn (gd8 bk I kd n nw) w)).1 = (Vw bk I kd n nw 0 0).1 ∧ b + (Vw bk I kd n nw w (tkn (gd8 bk I kd n nw) w)).2 = (Vw bk I kd n nw 0 0).2
  | 0, _ => ⟨0, 0, Nat.zero_add _, Nat.zero_add _⟩
  | w + 1, h => by
    obtain ⟨a, b, h1, h2⟩ := tkn_v (bk := bk) (n := n) (nw := nw) (I := I) (kd := kd) w (by omega)
    have e : tkn (gd8 bk I kd n nw) (w + 1) = (match gd8 bk I kd n nw w (tkn (gd8 bk I kd n nw) w) with | none => tkn (gd8 bk I kd n nw) w | some d => tkn (gd8 bk I kd n nw) w ||| 2 ^ d) := rfl
    rw [e]
    rcases gd8_c (bk := bk) (I := I) (kd := kd) (n := n) (t := tkn (gd8 bk I kd n nw) w) (show w < nw by omega) with ⟨g1, g2⟩ | ⟨d, g1, _, _, g2⟩
    · rw [g1]
      rw [g2] at h1 h2
      exact ⟨a, b, h1, h2⟩
    · rw [g1]
      rw [g2] at h1 h2
      unfold cdw at h1 h2
      dsimp only at h1 h2 ⊢
      exact ⟨a + 1, b + cst bk I w, by omega, by omega⟩
