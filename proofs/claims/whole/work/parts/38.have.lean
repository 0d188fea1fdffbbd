/-! have -/
theorem p_areHouses {bk nk nh nw kn : Nat} {I I2 : MI} (B : BookR bk I I2 nk nh nw kn) (a : Int32) : f_X10_areHouses bk I a = some (ok6 (2 ^ nh) a) := by
  delta f_X10_areHouses
  have lh := B.lh
  have hp : 1 ≤ 2 ^ nh ∧ 2 ^ nh ≤ 64 := ⟨Nat.one_le_two_pow, Nat.pow_le_pow_right (n := 2) (by decide) lh⟩
  have e := pw_sh ⟨nh, by omega⟩
  simp only at e
  rw [B.h1, e, p_isWithin, bd1_s, n_toInt (by omega), z0]
  unfold ok6
  congr 1
  apply decide_eq_decide.mpr
  omega
theorem m_areHouses {bk nk nh nw kn : Nat} {I I2 : MI} (B : BookR bk I I2 nk nh nw kn) (a : Int32) : f_X11_areHouses (st2 I2 0 2 0) a = some (ok6 (2 ^ nh) a) := by
  delta f_X11_areHouses
  have lh := B.lh
  have hp : 1 ≤ 2 ^ nh ∧ 2 ^ nh ≤ 64 := ⟨Nat.one_le_two_pow, Nat.pow_le_pow_right (n := 2) (by decide) lh⟩
  show (if a < 0 then some false else if a >>> (I2 0 13 &&& 31) = 0 then some true else some false) = _
  rw [B.h2]
  unfold ok6
  by_cases h1 : a < 0
  · rw [if_pos h1]
    rw [Int32.lt_iff_toInt_lt, z0] at h1
    rw [decide_eq_false (by omega)]
  · rw [if_neg h1]
    rw [Int32.lt_iff_toInt_lt, z0] at h1
    have hlt : a.toInt < 2147483648 := Int32.toInt_lt a
    obtain ⟨m, hm⟩ : ∃ m : Nat, a.toInt = m := ⟨a.toInt.toNat, by omega⟩
    have ha : a = Int32.ofNat m := by
      apply Int32.toInt.inj
      rw [n_toInt (by omega)]; exact hm
    have hs := sh_toInt (m := m) (n := nh) (by omega) (by omega)
    rw [← ha] at hs
    by_cases h2 : a >>> (Int32.ofNat nh &&& 31) = 0
    · rw [if_pos h2]
      rw [h2, z0] at hs
      have h3 : m / 2 ^ nh = 0 := by omega
      have h4 : m < 2 ^ nh := by
        rcases Nat.div_eq_zero_iff.mp h3 with h | h
        · omega
        · exact h
      rw [decide_eq_true (by omega)]
    · rw [if_neg h2]
      have h4 : ¬ m < 2 ^ nh := fun h => h2 (by
        apply Int32.toInt.inj
        rw [hs, Nat.div_eq_of_lt h]; rfl)
      rw [decide_eq_false (by omega)]
theorem am_is {a b : Int32} : f_X10_isAmong a b = f_X11_isOf b a := rfl
theorem c_sumOf {bk nk nh nw kn su dn dy : Nat} {I I2 : MI} {J2 : MJ} (B : BookR bk I I2 nk nh nw kn) (W : TownR I I2 J2 nk nh su dn dy) (a : Int32) : ∃ v, f_X10_sumOf bk I a = some v ∧ f_X11_sumOf (st2 I2 0 2 0) a = some v := by
  have lh := B.lh
  have key : Ev2 (f_X10_sumOf bk I a) (f_X11_sumOf (st2 I2 0 2 0) a) (fun a b => b = a) := by
    delta f_X10_sumOf f_X11_sumOf
    refine Ev2_fix22 (fun x1 x2 y1 y2 => y1 = x1 ∧ y2 = x2 ∧ ∃ i, i ≤ nh ∧ x2 = Int32.ofNat i) (fun _ x2 _ _ => (6 - x2.toInt).toNat) ?_ FU _ _ _ _ (FU_lt (by decide)) ⟨rfl, rfl, 0, by omega, rfl⟩
    rintro r q x1 x2 y1 y2 ⟨rfl, rfl, i, hi, rfl⟩ hrec
    rw [B.h1, st0_at (by omega), B.h2]
    refine Ev2_if Iff.rfl (fun _ _ => Ev2_some rfl) (fun c _ => ?_)
    have hlt : i < nh := Nat.lt_of_not_le (fun h => c ((n_le (by omega) (by omega)).mpr h))
    have hn1 : Int32.ofNat i + 1 = Int32.ofNat (i + 1) := n_add i 1
    have hgo : ∀ x : Int32, Ev2 (r x (Int32.ofNat i + 1)) (q x (Int32.ofNat i + 1)) (fun a b => b = a) := fun x => by
      rw [hn1]
      refine hrec _ _ _ _ ⟨rfl, rfl, i + 1, by omega, rfl⟩ ?_
      rw [n_toInt (by omega), n_toInt (by omega)]; omega
    rw [am_is, p_isOf]
    refine Ev2_L rfl (Ev2_R rfl (Ev2_lsL (Ev2_lsR ?_)))
    refine Ev2_if Iff.rfl (fun _ _ => ?_) (fun _ _ => ?_)
    · exact Ev2_L (p_worthOf B W hlt) (Ev2_R (m_hasOf (by omega)) (hgo _))
    · have e : y1 + 0 = y1 := Int32.add_zero y1
      show Ev2 (r y1 (Int32.ofNat i + 1)) (q (y1 + 0) (Int32.ofNat i + 1)) _
      rw [e]; exact hgo _
  obtain ⟨a, b, e, e', q⟩ := key
  exact ⟨a, e, by rw [e', q]⟩
theorem c_have {bk nk nh nw kn su dn dy : Nat} {I I2 : MI} {J2 : MJ} (B : BookR bk I I2 nk nh nw kn) (W : TownR I I2 J2 nk nh su dn dy) (a : Int32) : ∃ v, f_X10_have bk I a = some v ∧ f_X11_have I2 a = some (v, st2 I2 0 2 0) := by
  obtain ⟨v, e1, e2⟩ := c_sumOf B W a
  delta f_X10_have f_X11_have
  show ∃ v, _ ∧ bd1 (f_X11_areHouses (st2 I2 0 2 0) a) _ = _
  rw [p_areHouses B, m_areHouses B, bd1_s, bd1_s, e1]
  cases ok6 (2 ^ nh) a with
  | false => exact ⟨_, rfl, rfl⟩
  | true =>
    refine ⟨v, rfl, ?_⟩
    show bd1 (f_X11_sumOf (st2 I2 0 2 0) a) _ = _
    rw [e2]; rfl
