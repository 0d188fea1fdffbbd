/-! dearest -/
theorem c_dearest {bk nk nh nw kn : Nat} {I I2 : MI} (B : BookR bk I I2 nk nh nw kn) : ∃ v, f_X10_dearest bk I = some v ∧ f_X11_dearest I2 = some (v, st2 I2 0 2 0) := by
  have lk := B.lk
  have key : Ev2 (f_X10_dearest bk I) (f_X11_dearest I2) (fun a b => b = (a, st2 I2 0 2 0)) := by
    delta f_X10_dearest f_X11_dearest
    refine Ev2_lsR ?_
    refine Ev2_fix22 (fun x1 x2 y1 y2 => y1 = x1 ∧ y2 = x2 ∧ ∃ i, i ≤ nk ∧ x2 = Int32.ofNat i ∧ (x1 = -2 ∨ ∃ j, j < nk ∧ x1 = Int32.ofNat j)) (fun _ x2 _ _ => (6 - x2.toInt).toNat) ?_ FU _ _ _ _ (FU_lt (by decide)) ⟨rfl, rfl, 0, by omega, rfl, Or.inl rfl⟩
    rintro r q x1 x2 y1 y2 ⟨rfl, rfl, i, hi, rfl, hx⟩ hrec
    rw [B.k1, st0_at (by omega), B.k2]
    refine Ev2_if Iff.rfl (fun _ _ => Ev2_some rfl) (fun c _ => ?_)
    have hlt : i < nk := Nat.lt_of_not_le (fun h => c ((n_le (by omega) (by omega)).mpr h))
    have hn1 : Int32.ofNat i + 1 = Int32.ofNat (i + 1) := n_add i 1
    have hgo : ∀ x : Int32, (x = -2 ∨ ∃ j, j < nk ∧ x = Int32.ofNat j) → Ev2 (r x (Int32.ofNat i + 1)) (q x (Int32.ofNat i + 1)) (fun a b => b = (a, st2 I2 0 2 0)) := fun x hx => by
      rw [hn1]
      refine hrec _ _ _ _ ⟨rfl, rfl, i + 1, by omega, rfl, hx⟩ ?_
      rw [n_toInt (by omega), n_toInt (by omega)]; omega
    have hi1 : ∃ j, j < nk ∧ Int32.ofNat i = Int32.ofNat j := ⟨i, hlt, rfl⟩
    refine Ev2_lsL (Ev2_lsR (Ev2_lsL (Ev2_lsR ?_)))
    rcases hx with rfl | ⟨j, hj, rfl⟩
    · rw [if_pos rfl, if_pos (by decide)]
      exact hgo _ (Or.inr hi1)
    · have hne : Int32.ofNat j ≠ -2 := fun h => by
        have := congrArg Int32.toInt h
        rw [n_toInt (by omega)] at this
        have h2 : (-2 : Int32).toInt = -2 := rfl
        omega
      have hnl : ¬ (Int32.ofNat j < 0) := fun h => by
        rw [Int32.lt_iff_toInt_lt, n_toInt (by omega), z0] at h; omega
      rw [if_neg hne, if_neg hnl]
      have g6 : ∀ a, a < nk → inb (Int32.ofNat a) 6 = true := fun a ha => (n_inb (by omega)).mpr (by omega)
      have g12 : ∀ a, a < nk → inb (Int32.ofNat a) 12 = true := fun a ha => (n_inb (by omega)).mpr (by omega)
      rw [gd_t (g6 i hlt), gd_t (g6 i hlt), gd_t (g6 j hj), gd_t (g6 j hj), gd_t (g12 i hlt), gd_t (g12 i hlt), gd_t (g12 j hj), gd_t (g12 j hj), n_ix (by omega), n_ix (by omega)]
      obtain ⟨_, _, u1, u2⟩ := B.kw i hlt
      obtain ⟨_, _, u3, u4⟩ := B.kg i hlt
      obtain ⟨_, _, u5, u6⟩ := B.kw j hj
      obtain ⟨_, _, u7, u8⟩ := B.kg j hj
      rw [st0_row (by omega), st0_row (by omega), u1, u2, u3, u4, u5, u6, u7, u8]
      exact Ev2_if Iff.rfl (fun _ _ => hgo _ (Or.inr ⟨j, hj, rfl⟩)) (fun _ _ => hgo _ (Or.inr hi1))
  obtain ⟨a, b, e, e', q⟩ := key
  exact ⟨a, e, by rw [e', q]⟩
