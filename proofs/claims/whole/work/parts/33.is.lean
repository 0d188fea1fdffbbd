/-! what numbers may stand for -/
theorem z0 : (0 : Int32).toInt = 0 := rfl
theorem p_isWithin {a lo hi : Int32} : f_X10_isWithin a lo hi = some (decide (lo.toInt ≤ a.toInt ∧ a.toInt ≤ hi.toInt)) := by
  delta f_X10_isWithin
  show (if a < lo then some false else if hi < a then some false else some true) = _
  by_cases h1 : a < lo
  · rw [if_pos h1]
    rw [Int32.lt_iff_toInt_lt] at h1
    rw [decide_eq_false (by omega)]
  · rw [if_neg h1]
    rw [Int32.lt_iff_toInt_lt] at h1
    by_cases h2 : hi < a
    · rw [if_pos h2]
      rw [Int32.lt_iff_toInt_lt] at h2
      rw [decide_eq_false (by omega)]
    · rw [if_neg h2]
      rw [Int32.lt_iff_toInt_lt] at h2
      rw [decide_eq_true (by omega)]
theorem i_sub1 {n : Nat} (h : n < 2147483648) : (Int32.ofNat n - 1).toInt = n - 1 := by
  have h1 : (1 : Int32).toInt = 1 := rfl
  have h2 := n_toInt h
  rw [i_sub (by omega) (by omega), h2, h1]
def ok6 (n : Nat) (a : Int32) : Bool := decide (0 ≤ a.toInt ∧ a.toInt < n)
theorem ok6_t {n : Nat} {a : Int32} (h : ok6 n a = true) : ∃ k, k < n ∧ a = Int32.ofNat k := by
  have h := of_decide_eq_true h
  refine ⟨a.toInt.toNat, by omega, ?_⟩
  apply Int32.toInt.inj
  have : a.toInt < 2147483648 := Int32.toInt_lt a
  rw [n_toInt (by omega)]; omega
theorem p_isKind {bk nk nh nw kn : Nat} {I I2 : MI} (B : BookR bk I I2 nk nh nw kn) (a : Int32) : f_X10_isKind bk I a = some (ok6 nk a) := by
  delta f_X10_isKind
  have := B.lk
  rw [B.k1, p_isWithin, bd1_s, i_sub1 (by omega), z0]
  unfold ok6
  congr 1
  apply decide_eq_decide.mpr
  omega
theorem p_isHouse {bk nk nh nw kn : Nat} {I I2 : MI} (B : BookR bk I I2 nk nh nw kn) (a : Int32) : f_X10_isHouse bk I a = some (ok6 nh a) := by
  delta f_X10_isHouse
  have := B.lh
  rw [B.h1, p_isWithin, bd1_s, i_sub1 (by omega), z0]
  unfold ok6
  congr 1
  apply decide_eq_decide.mpr
  omega
theorem m_is {a c : Int32} {n : Nat} (hc : c = Int32.ofNat n) (hn : n < 2147483648) : (if a < 0 then some false else if c ≤ a then some false else some true : Option Bool) = some (ok6 n a) := by
  unfold ok6
  subst hc
  by_cases h1 : a < 0
  · rw [if_pos h1]
    rw [Int32.lt_iff_toInt_lt, z0] at h1
    rw [decide_eq_false (by omega)]
  · rw [if_neg h1]
    rw [Int32.lt_iff_toInt_lt, z0] at h1
    by_cases h2 : Int32.ofNat n ≤ a
    · rw [if_pos h2]
      rw [Int32.le_iff_toInt_le, n_toInt hn] at h2
      rw [decide_eq_false (by omega)]
    · rw [if_neg h2]
      rw [Int32.le_iff_toInt_le, n_toInt hn] at h2
      rw [decide_eq_true (by omega)]
theorem m_isKind {bk nk nh nw kn : Nat} {I I2 : MI} (B : BookR bk I I2 nk nh nw kn) (a : Int32) : f_X11_isKind (st2 I2 0 2 0) a = some (ok6 nk a) := m_is (c := I2 0 12) B.k2 (by have := B.lk; omega)
theorem m_isHouse {bk nk nh nw kn : Nat} {I I2 : MI} (B : BookR bk I I2 nk nh nw kn) (a : Int32) : f_X11_isHouse (st2 I2 0 2 0) a = some (ok6 nh a) := m_is (c := I2 0 13) B.h2 (by have := B.lh; omega)
theorem c_kind {bk nk nh nw kn : Nat} {I I2 : MI} (B : BookR bk I I2 nk nh nw kn) (ht : ∀ k, k < 6 → I 45 k = I2 30 k) (a x : Int32) : ∃ v, f_X10_kind bk I a x = some v ∧ f_X11_kind I2 a x = some (v, st2 I2 0 2 0) := by
  have lk := B.lk
  delta f_X10_kind f_X11_kind
  show ∃ v, _ ∧ bd1 (f_X11_isKind (st2 I2 0 2 0) a) _ = _
  rw [p_isKind B, m_isKind B, bd1_s, bd1_s]
  cases h : ok6 nk a with
  | false => exact ⟨-1, rfl, rfl⟩
  | true =>
    obtain ⟨k, hk, rfl⟩ := ok6_t h
    obtain ⟨z1, _, u1, u2⟩ := B.kw k hk
    obtain ⟨z2, _, v1, v2⟩ := B.kg k hk
    rw [if_pos rfl, if_pos rfl]
    rw [gd_t ((n_inb (by omega)).mpr (by omega)), gd_t ((n_inb (by omega)).mpr (by omega)), gd_t ((n_inb (by omega)).mpr (by omega)), n_ix (by omega), u1, v1, ht k (by omega)]
    refine ⟨if x = 0 then Int32.ofNat z1 else if x = 1 then Int32.ofNat z2 else if x = 2 then I2 30 k else -1, ?_, ?_⟩
    · show (if x = 0 then _ else if x = 1 then _ else if x = 2 then _ else _) = _
      split
      · rfl
      · split
        · rfl
        · split <;> rfl
    · show (if x = 0 then gd (inb (Int32.ofNat k) 12) (some (I2 6 k, _)) else if x = 1 then gd (inb (Int32.ofNat k) 12) (some (I2 7 k, _)) else if x = 2 then gd (inb (Int32.ofNat k) 12) (some (I2 30 k, _)) else _) = _
      rw [gd_t ((n_inb (by omega)).mpr (by omega)), gd_t ((n_inb (by omega)).mpr (by omega)), gd_t ((n_inb (by omega)).mpr (by omega)), u2, v2]
      split
      · rfl
      · split
        · rfl
        · split <;> rfl
