/-! two houses and a kind -/
theorem c_view {bk nk nh nw kn : Nat} {I I2 : MI} (B : BookR bk I I2 nk nh nw kn) (a b c : Int32) : ∃ v, f_X10_isView bk I a b c = some v ∧ f_X11_areTwo (st2 I2 0 2 0) a b c = some v ∧ (v = true → ok6 nh a = true ∧ ok6 nh b = true ∧ a ≠ b ∧ ok6 nk c = true) := by
  delta f_X10_isView f_X11_areTwo
  rw [p_isHouse B, p_isHouse B, p_isKind B, m_isHouse B, m_isHouse B, m_isKind B]
  simp only [bd1_s, lt]
  cases h1 : ok6 nh a with
  | false => exact ⟨false, rfl, rfl, fun h => by cases h⟩
  | true =>
    cases h2 : ok6 nh b with
    | false => exact ⟨false, rfl, rfl, fun h => by cases h⟩
    | true =>
      by_cases h3 : a = b
      · simp only [if_pos h3, if_true]
        exact ⟨false, rfl, rfl, fun h => by cases h⟩
      · simp only [if_neg h3, if_true]
        cases h4 : ok6 nk c with
        | false => exact ⟨false, rfl, rfl, fun h => by cases h⟩
        | true => exact ⟨true, rfl, rfl, fun _ => ⟨trivial, trivial, h3, rfl⟩⟩
theorem c_gain {bk nk nh nw kn : Nat} {I I2 : MI} (B : BookR bk I I2 nk nh nw kn) {h k : Nat} (hh : h < nh) (hk : k < nk) (x y : Int32) : ∃ v, f_X10_gain bk I (Int32.ofNat h) (Int32.ofNat k) x y = some v ∧ f_X11_hasBy (st2 I2 0 2 0) (Int32.ofNat h) (Int32.ofNat k) x y = some v := by
  have lh := B.lh
  have lk := B.lk
  obtain ⟨z, _, e1, e2⟩ := B.he h hh
  obtain ⟨u, _, e3, e4⟩ := B.kw k hk
  delta f_X10_gain f_X11_hasBy
  simp only [lt, gd_t ((n_inb (a := h) (n := 6) (by omega)).mpr (by omega)), gd_t ((n_inb (a := k) (n := 6) (by omega)).mpr (by omega)), gd_t ((n_inb (a := h) (n := 12) (by omega)).mpr (by omega)), gd_t ((n_inb (a := k) (n := 12) (by omega)).mpr (by omega)), n_ix (show h < 2147483648 by omega), n_ix (show k < 2147483648 by omega), st0_row (show (10 : Nat) ≠ 0 by decide), st0_row (show (6 : Nat) ≠ 0 by decide), e1, e2, e3, e4, gd_t (show nz 10 = true by decide), gd_t (show nz 5 = true by decide), gd_t (show nz 2 = true by decide)]
  by_cases hx : x = 0
  · by_cases hy : y = 0
    · exact ⟨_, by rw [if_pos hx, if_pos hy], by rw [if_pos hx, if_pos hy]⟩
    · exact ⟨_, by rw [if_pos hx, if_neg hy], by rw [if_pos hx, if_neg hy]⟩
  · by_cases hy : y = 0
    · exact ⟨_, by rw [if_neg hx, if_pos hy], by rw [if_neg hx, if_pos hy]⟩
    · exact ⟨_, by rw [if_neg hx, if_neg hy], by rw [if_neg hx, if_neg hy]⟩
