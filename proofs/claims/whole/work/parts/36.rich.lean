/-! house as the law sees it; richest -/
theorem c_house {bk nk nh nw kn su dn dy : Nat} {I I2 : MI} {J2 : MJ} (B : BookR bk I I2 nk nh nw kn) (W : TownR I I2 J2 nk nh su dn dy) (J3 : MJ) (a x : Int32) : ∃ z J4 y I4, f_L_house bk I J3 a x = some (z, J4) ∧ f_X11_house I2 a x = some (y, I4) ∧ f_X11_thrown I4 = some z ∧ (z = 0 → J4 0 0 = y.toInt64) ∧ (∀ p k, ¬ (p = 0 ∧ k = 2) → I4 p k = I2 p k) := by
  delta f_L_house
  rcases c_house0 B W a x with ⟨v, e1, e2⟩ | ⟨k, hk, e1, e2⟩
  · refine ⟨0, st2 J3 0 0 v.toInt64, v, st2 I2 0 2 0, by rw [e1]; rfl, e2, rfl, fun _ => rfl, fun p k h => st0_at h⟩
  · refine ⟨if k = 1 then 1 else 2, J3, 0, _, by rw [e1]; rfl, e2, ?_, ?_, ?_⟩
    · rcases hk with rfl | rfl <;> rfl
    · rcases hk with rfl | rfl <;> (intro h; exact absurd h (by decide))
    · intro p k' h
      have h1 : st2 (st2 I2 0 2 0) 0 2 (Int32.ofNat k) p k' = st2 I2 0 2 0 p k' := by
        show (if p = 0 then fun k'' => if k'' = 2 then _ else st2 I2 0 2 0 0 k'' else st2 I2 0 2 0 p) k' = _
        by_cases h0 : p = 0
        · subst h0
          rw [if_pos rfl]
          show (if k' = 2 then _ else _) = _
          rw [if_neg (fun e => h ⟨rfl, e⟩)]
        · rw [if_neg h0]
      rw [h1]; exact st0_at h
theorem p_isOf {a b : Int32} : f_X11_isOf a b = some (decide (((a >>> (b &&& 31)) &&& 1) = 1)) := by
  delta f_X11_isOf
  show (if _ then some true else some false) = _
  split
  · next h => rw [decide_eq_true h]
  · next h => rw [decide_eq_false h]
theorem isOf_s {s h : Nat} (hs : s < 64) (hh : h < 6) : f_X11_isOf (Int32.ofNat s) (Int32.ofNat h) = some (s.testBit h) := by
  rw [p_isOf, bit_s hs hh]
  cases s.testBit h <;> rfl
theorem p_worthOf {bk nk nh nw kn su dn dy : Nat} {I I2 : MI} {J2 : MJ} (B : BookR bk I I2 nk nh nw kn) (W : TownR I I2 J2 nk nh su dn dy) {h : Nat} (hh : h < nh) : f_X8_worthOf I 38 (Int32.ofNat h) = some (I2 26 h - I2 27 h) := by
  have lh := B.lh
  delta f_X8_worthOf
  rw [gd_t ((n_inb (by omega)).mpr (by omega)), gd_t ((n_inb (by omega)).mpr (by omega)), n_ix (by omega)]
  show some (I 39 h - I 40 h) = _
  rw [W.pu h hh, W.bi h hh]
theorem m_hasOf {I2 : MI} {h : Nat} (hh : h < 6) : f_X11_hasOf (st2 I2 0 2 0) 0 (Int32.ofNat h) = some (I2 26 h - I2 27 h) := by
  delta f_X11_hasOf
  have e : (6 : Int32) * 0 + Int32.ofNat h = Int32.ofNat h := by
    have e0 : (6 : Int32) * 0 = Int32.ofNat 0 := rfl
    rw [e0, n_add, Nat.zero_add]
  rw [e, gd_t ((n_inb (by omega)).mpr (by omega)), gd_t ((n_inb (by omega)).mpr (by omega)), n_ix (by omega)]
  rfl
theorem c_richest {bk nk nh nw kn su dn dy : Nat} {I I2 : MI} {J2 : MJ} (B : BookR bk I I2 nk nh nw kn) (W : TownR I I2 J2 nk nh su dn dy) : ∃ v, f_X10_richest bk I = some v ∧ f_X11_richest I2 = some (v, st2 I2 0 2 0) := by
  have lh := B.lh
  have key : Ev2 (f_X10_richest bk I) (f_X11_richest I2) (fun a b => b = (a, st2 I2 0 2 0)) := by
    delta f_X10_richest f_X11_richest
    refine Ev2_lsR ?_
    refine Ev2_fix22 (fun x1 x2 y1 y2 => y1 = x1 ∧ y2 = x2 ∧ ∃ i, i ≤ nh ∧ x2 = Int32.ofNat i ∧ (x1 = -2 ∨ ∃ j, j < nh ∧ x1 = Int32.ofNat j)) (fun _ x2 _ _ => (6 - x2.toInt).toNat) ?_ FU _ _ _ _ (FU_lt (by decide)) ⟨rfl, rfl, 0, by omega, rfl, Or.inl rfl⟩
    rintro r q x1 x2 y1 y2 ⟨rfl, rfl, i, hi, rfl, hx⟩ hrec
    rw [B.h1, st0_at (by omega), B.h2]
    refine Ev2_if Iff.rfl (fun _ _ => Ev2_some rfl) (fun c _ => ?_)
    have hlt : i < nh := Nat.lt_of_not_le (fun h => c ((n_le (by omega) (by omega)).mpr h))
    have hn1 : Int32.ofNat i + 1 = Int32.ofNat (i + 1) := n_add i 1
    have hgo : ∀ x : Int32, (x = -2 ∨ ∃ j, j < nh ∧ x = Int32.ofNat j) → Ev2 (r x (Int32.ofNat i + 1)) (q x (Int32.ofNat i + 1)) (fun a b => b = (a, st2 I2 0 2 0)) := fun x hx => by
      rw [hn1]
      refine hrec _ _ _ _ ⟨rfl, rfl, i + 1, by omega, rfl, hx⟩ ?_
      rw [n_toInt (by omega), n_toInt (by omega)]; omega
    have hi1 : ∃ j, j < nh ∧ Int32.ofNat i = Int32.ofNat j := ⟨i, hlt, rfl⟩
    refine Ev2_gdL ((n_inb (by omega)).mpr (by omega)) (Ev2_gdR rfl ?_)
    have e31 : st2 I2 0 2 0 31 (ix 0) = Int32.ofNat su := W.s2
    rw [e31, isOf_s W.sl (by omega), n_ix (by omega), W.s1 i (by omega)]
    refine Ev2_lsL (Ev2_R rfl (Ev2_lsR ?_))
    cases hb : su.testBit i with
    | true => exact hgo _ hx
    | false =>
      refine Ev2_ifL (fun _ => Ev2_ifR (fun h => by cases h) (fun _ => Ev2_lsL (Ev2_lsR ?_))) (fun h => absurd rfl h)
      rcases hx with rfl | ⟨j, hj, rfl⟩
      · exact hgo _ (Or.inr hi1)
      · have hne : Int32.ofNat j ≠ -2 := fun h => by
          have := congrArg Int32.toInt h
          rw [n_toInt (by omega)] at this
          have h2 : (-2 : Int32).toInt = -2 := rfl
          omega
        have hnl : ¬ (Int32.ofNat j < 0) := fun h => by
          rw [Int32.lt_iff_toInt_lt, n_toInt (by omega), z0] at h; omega
        rw [if_neg hne, if_neg hnl]
        refine Ev2_L (p_worthOf B W hlt) (Ev2_L (p_worthOf B W hj) (Ev2_R (m_hasOf (by omega)) (Ev2_R (m_hasOf (by omega)) ?_)))
        exact Ev2_if Iff.rfl (fun _ _ => hgo _ (Or.inr ⟨j, hj, rfl⟩)) (fun _ _ => hgo _ (Or.inr hi1))
  obtain ⟨a, b, e, e', q⟩ := key
  exact ⟨a, e, by rw [e', q]⟩
