/-! long numbers that are small; fractions -/
theorem l_toInt {n : Nat} (h : n < 9223372036854775808) : (Int64.ofNat n).toInt = n := Int64.toInt_ofNat_of_lt (by omega)
theorem l_eq {a b : Nat} (ha : a < 9223372036854775808) (hb : b < 9223372036854775808) : Int64.ofNat a = Int64.ofNat b ↔ a = b := by
  constructor
  · intro h
    have := congrArg Int64.toInt h
    rw [l_toInt ha, l_toInt hb] at this; omega
  · intro h; rw [h]
theorem l_le {a b : Nat} (ha : a < 9223372036854775808) (hb : b < 9223372036854775808) : Int64.ofNat a ≤ Int64.ofNat b ↔ a ≤ b := by
  rw [Int64.le_iff_toInt_le, l_toInt ha, l_toInt hb]; omega
theorem l_lt {a b : Nat} (ha : a < 9223372036854775808) (hb : b < 9223372036854775808) : Int64.ofNat a < Int64.ofNat b ↔ a < b := by
  rw [Int64.lt_iff_toInt_lt, l_toInt ha, l_toInt hb]; omega
theorem l_add (a b : Nat) : Int64.ofNat a + Int64.ofNat b = Int64.ofNat (a + b) := (Int64.ofNat_add a b).symm
theorem l_mul (a b : Nat) : Int64.ofNat a * Int64.ofNat b = Int64.ofNat (a * b) := (Int64.ofNat_mul a b).symm
theorem l_sub {a b : Nat} (h : b ≤ a) : Int64.ofNat a - Int64.ofNat b = Int64.ofNat (a - b) := by
  have h1 : Int64.ofNat a = Int64.ofNat (a - b) + Int64.ofNat b := by rw [l_add, Nat.sub_add_cancel h]
  rw [h1, Int64.add_sub_cancel]
theorem n_sub {a b : Nat} (h : b ≤ a) : Int32.ofNat a - Int32.ofNat b = Int32.ofNat (a - b) := by
  have h1 : Int32.ofNat a = Int32.ofNat (a - b) + Int32.ofNat b := by rw [n_add, Nat.sub_add_cancel h]
  rw [h1, Int32.add_sub_cancel]
theorem l_bm {z : Int} (h1 : 0 ≤ z) (h2 : z < 9223372036854775808) : z.bmod (2 ^ 64) = z := Int.bmod_eq_of_le (by omega) (by omega)
theorem n_bm {z : Int} (h1 : 0 ≤ z) (h2 : z < 2147483648) : z.bmod (2 ^ 32) = z := Int.bmod_eq_of_le (by omega) (by omega)
theorem l_div {a b : Nat} (ha : a < 9223372036854775808) (hb : b < 9223372036854775808) : Int64.ofNat a / Int64.ofNat b = Int64.ofNat (a / b) := by
  have h : a / b ≤ a := Nat.div_le_self a b
  apply Int64.toInt.inj
  rw [Int64.toInt_div, l_toInt ha, l_toInt hb, l_toInt (by omega), Int.tdiv_eq_ediv_of_nonneg (by omega), ← Int.natCast_ediv, l_bm (Int.natCast_nonneg _) (Int.lt_of_le_of_lt (Int.ofNat_le.mpr h) (by omega))]
theorem n_div {a b : Nat} (ha : a < 2147483648) (hb : b < 2147483648) : Int32.ofNat a / Int32.ofNat b = Int32.ofNat (a / b) := by
  have h : a / b ≤ a := Nat.div_le_self a b
  apply Int32.toInt.inj
  rw [Int32.toInt_div, n_toInt ha, n_toInt hb, n_toInt (by omega), Int.tdiv_eq_ediv_of_nonneg (by omega), ← Int.natCast_ediv, n_bm (Int.natCast_nonneg _) (Int.lt_of_le_of_lt (Int.ofNat_le.mpr h) (by omega))]
theorem mod_as (a b : Nat) : a - a / b * b = a % b := by
  have h1 := Nat.div_add_mod a b
  rw [Nat.mul_comm] at h1
  omega
theorem l_rem {a b : Nat} (ha : a < 9223372036854775808) (hb : b < 9223372036854775808) : lrem (Int64.ofNat a) (Int64.ofNat b) = Int64.ofNat (a % b) := by
  unfold lrem
  rw [l_div ha hb, l_mul, l_sub (Nat.div_mul_le_self a b), mod_as]
theorem n_rem {a b : Nat} (ha : a < 2147483648) (hb : b < 2147483648) : irem (Int32.ofNat a) (Int32.ofNat b) = Int32.ofNat (a % b) := by
  unfold irem
  rw [n_div ha hb, n_mul, n_sub (Nat.div_mul_le_self a b), mod_as]
theorem n_64 {a : Nat} (ha : a < 2147483648) : (Int32.ofNat a).toInt64 = Int64.ofNat a := by
  apply Int64.toInt.inj
  rw [Int32.toInt_toInt64, n_toInt ha, l_toInt (by omega)]
theorem l_32 {a : Nat} (ha : a < 2147483648) : (Int64.ofNat a).toInt32 = Int32.ofNat a := by
  rw [← n_64 ha, Int32.toInt32_toInt64]
theorem l_nz {b : Nat} (hb : 0 < b) (h : b < 9223372036854775808) : nzl (Int64.ofNat b) = true := by
  unfold nzl
  rw [decide_eq_false (fun e => by
    have := (l_eq (a := b) (b := 0) h (by omega)).mp e
    omega)]
  rfl
theorem n_nz {b : Nat} (hb : 0 < b) (h : b < 2147483648) : nz (Int32.ofNat b) = true := by
  unfold nz
  rw [decide_eq_false (fun e => by
    have := (n_eq (a := b) (b := 0) h (by omega)).mp e
    omega)]
  rfl
theorem gcd_st (x y : Nat) : Nat.gcd y (x % y) = Nat.gcd x y := by
  rw [Nat.gcd_comm x y, Nat.gcd_rec y x, Nat.gcd_comm]
theorem rem_2 {x y : Nat} (h : y ≤ x) (h0 : 0 < y) : 2 * (x % y) ≤ x := by
  have h1 := Nat.mod_add_div x y
  have h2 : 1 ≤ x / y := (Nat.le_div_iff_mul_le h0).mpr (by omega)
  have h3 : y * 1 ≤ y * (x / y) := Nat.mul_le_mul_left y h2
  have h4 := Nat.mod_lt x h0
  omega
theorem p_common {a b : Nat} (ha : a < 2 ^ 62) (hb : b < 2 ^ 62) : f_X3_commonOf (Int64.ofNat a) (Int64.ofNat b) = some (Int64.ofNat (Nat.gcd a b)) := by
  apply Ev_eq
  delta f_X3_commonOf
  refine Ev_ls ?_
  refine Ev_fix3 (fun x2 x3 x4 => ∃ x y i, i ≤ 200 ∧ x < 2 ^ 62 ∧ y < 2 ^ 62 ∧ x2 = Int64.ofNat x ∧ x3 = Int64.ofNat y ∧ x4 = Int32.ofNat i ∧ Nat.gcd x y = Nat.gcd a b ∧ (i = 0 ∨ (y < x ∧ x * y * 2 ^ (i - 1) < 2 ^ 124))) (fun _ _ x4 => (300 - x4.toInt).toNat) ?_ FU _ _ _ (FU_lt (by decide)) ⟨a, b, 0, by omega, ha, hb, rfl, rfl, rfl, rfl, Or.inl rfl⟩
  rintro rec x2 x3 x4 ⟨x, y, i, hi, hx, hy, rfl, rfl, rfl, hg, hp⟩ hrec
  have hfar : 0 < y → i ≤ 125 := fun h0 => by
    rcases hp with h | ⟨h1, h2⟩
    · omega
    · have h3 : 1 ≤ x * y := Nat.mul_pos (by omega) h0
      have h4 : 1 * 2 ^ (i - 1) ≤ x * y * 2 ^ (i - 1) := Nat.mul_le_mul_right _ h3
      have h5 : 2 ^ (i - 1) < 2 ^ 124 := by omega
      have h6 := (Nat.pow_lt_pow_iff_right (a := 2) (by decide)).mp h5
      omega
  refine Ev_if (fun c => ?_) (fun c => ?_)
  · have c' := (n_le (a := 200) (by omega) (by omega)).mp c
    have hy0 : y = 0 := by
      by_cases h : 0 < y
      · have := hfar h; omega
      · omega
    subst hy0
    rw [← hg, Nat.gcd_zero_right]
    exact Ev_some rfl
  · refine Ev_if (fun c => ?_) (fun c => ?_)
    · have hy0 : y = 0 := (l_eq (b := 0) (by omega) (by omega)).mp c
      subst hy0
      rw [← hg, Nat.gcd_zero_right]
      exact Ev_some rfl
    · have hy0 : 0 < y := by
        by_cases h : 0 < y
        · exact h
        · exact absurd ((l_eq (b := 0) (by omega) (by omega)).mpr (by omega : y = 0)) c
      have hi5 := hfar hy0
      have hn1 : Int32.ofNat i + 1 = Int32.ofNat (i + 1) := n_add i 1
      have hm := Nat.mod_lt x hy0
      refine Ev_gd (l_nz hy0 (by omega)) (Ev_ls (Ev_ls ?_))
      rw [l_rem (by omega) (by omega), hn1]
      refine hrec _ _ _ ⟨y, x % y, i + 1, by omega, hy, by omega, rfl, rfl, rfl, (gcd_st x y).trans hg, Or.inr ⟨hm, ?_⟩⟩ ?_
      · rw [Nat.add_sub_cancel]
        rcases hp with h | ⟨h1, h2⟩
        · subst h
          rw [Nat.pow_zero, Nat.mul_one]
          have h3 : y * (x % y) < 2 ^ 62 * 2 ^ 62 := Nat.mul_lt_mul'' hy (by omega)
          rw [← Nat.pow_add] at h3
          exact h3
        · by_cases hi0 : i = 0
          · subst hi0
            rw [Nat.pow_zero, Nat.mul_one]
            have h3 : y * (x % y) < 2 ^ 62 * 2 ^ 62 := Nat.mul_lt_mul'' hy (by omega)
            rw [← Nat.pow_add] at h3
            exact h3
          · have h4 := rem_2 (Nat.le_of_lt h1) hy0
            have h5 : y * (x % y) * 2 ^ i = y * (2 * (x % y)) * 2 ^ (i - 1) := by
              have : 2 ^ i = 2 * 2 ^ (i - 1) := by
                rw [← Nat.pow_succ', Nat.succ_eq_add_one, Nat.sub_add_cancel (by omega)]
              rw [this, ← Nat.mul_assoc, Nat.mul_assoc y, Nat.mul_comm (x % y) 2]
            rw [h5]
            have h6 : y * (2 * (x % y)) ≤ x * y := by
              rw [Nat.mul_comm x y]
              exact Nat.mul_le_mul_left y h4
            have h7 := Nat.mul_le_mul_right (2 ^ (i - 1)) h6
            omega
      · rw [n_toInt (by omega), n_toInt (by omega)]; omega
theorem m_shared {a b : Nat} (ha : a < 9223372036854775808) (hb : b < 4611686018427387904) : f_X11_shared (Int64.ofNat a) (Int64.ofNat b) = some (Int64.ofNat (Nat.gcd a b)) := by
  apply Ev_eq
  delta f_X11_shared
  refine Ev_fix2 (fun x2 x3 => ∃ x y, x < 9223372036854775808 ∧ y < 4611686018427387904 ∧ x2 = Int64.ofNat x ∧ x3 = Int64.ofNat y ∧ Nat.gcd x y = Nat.gcd a b) (fun _ x3 => x3.toInt.toNat) ?_ FU _ _ (by rw [l_toInt (by omega)]; exact Nat.lt_trans hb (by decide)) ⟨a, b, ha, hb, rfl, rfl, rfl⟩
  rintro rec x2 x3 ⟨x, y, hx, hy, rfl, rfl, hg⟩ hrec
  refine Ev_if (fun c => ?_) (fun c => ?_)
  · have hy0 : y = 0 := (l_eq (b := 0) (by omega) (by omega)).mp c
    subst hy0
    rw [← hg, Nat.gcd_zero_right]
    exact Ev_some rfl
  · have hy0 : 0 < y := by
      by_cases h : 0 < y
      · exact h
      · exact absurd ((l_eq (b := 0) (by omega) (by omega)).mpr (by omega : y = 0)) c
    have hm := Nat.mod_lt x hy0
    refine Ev_gd (l_nz hy0 (by omega)) (Ev_ls ?_)
    rw [l_rem (by omega) (by omega)]
    refine hrec _ _ ⟨y, x % y, by omega, by omega, rfl, rfl, (gcd_st x y).trans hg⟩ ?_
    rw [l_toInt (by omega), l_toInt (by omega)]; omega
theorem p_put {J : MJ} {a b : Nat} (ha : a < 2 ^ 62) (hb : b < 2 ^ 62) (h0 : 0 < b) : f_X3_put J (Int64.ofNat a) (Int64.ofNat b) = some (st2 (st2 J 79 0 (Int64.ofNat (a / Nat.gcd a b))) 79 1 (Int64.ofNat (b / Nat.gcd a b))) := by
  have hg : 0 < Nat.gcd a b := Nat.gcd_pos_of_pos_right a h0
  have hl : Nat.gcd a b ≤ b := Nat.gcd_le_right a h0
  delta f_X3_put
  rw [p_common ha hb, bd1_s]
  simp only [lt]
  rw [if_neg (fun h => by
    have := (l_le (a := Nat.gcd a b) (b := 0) (by omega) (by omega)).mp h
    omega), gd_t (l_nz hg (by omega)), gd_t (l_nz hg (by omega)), l_div (by omega) (by omega), l_div (by omega) (by omega)]
theorem p_told {J : MJ} {a b : Int64} (w : Int32) : f_X3_told (st2 (st2 J 79 0 a) 79 1 b) w = some (if w = 0 then a else b) := by
  delta f_X3_told
  show (if w = 0 then some a else some b) = _
  split <;> rfl
theorem m_least {a b : Nat} (ha : a < 4611686018427387904) (hb : b < 9223372036854775808) (h0 : 0 < b) (w : Int32) : f_X11_least (Int64.ofNat a) (Int64.ofNat b) w = some (if w = 0 then Int64.ofNat (a / Nat.gcd a b) else Int64.ofNat (b / Nat.gcd a b)) := by
  have hg : 0 < Nat.gcd a b := Nat.gcd_pos_of_pos_right a h0
  have hl : Nat.gcd a b ≤ b := Nat.gcd_le_right a h0
  delta f_X11_least
  rw [m_shared hb ha, bd1_s, Nat.gcd_comm b a]
  simp only [lt]
  rw [gd_t (l_nz hg (by omega)), gd_t (l_nz hg (by omega)), l_div (by omega) (by omega), l_div (by omega) (by omega)]
  split <;> rfl
/-! weights together -/
def smn (g : Nat → Nat) : Nat → Nat
  | 0 => 0
  | n + 1 => smn g n + g n
theorem sm_nat {f : Nat → Int32} {g : Nat → Nat} : ∀ n, (∀ k, k < n → f k = Int32.ofNat (g k)) → sm f n = Int32.ofNat (smn g n)
  | 0, _ => rfl
  | n + 1, h => by
    show sm f n + f n = Int32.ofNat (smn g n + g n)
    rw [sm_nat n (fun k hk => h k (by omega)), h n (by omega), n_add]
theorem smn_le {g : Nat → Nat} {b : Nat} : ∀ n, (∀ k, k < n → g k ≤ b) → smn g n ≤ b * n
  | 0, _ => Nat.zero_le _
  | n + 1, h => by
    have h1 := smn_le n (fun k hk => h k (by omega))
    have h2 := h n (by omega)
    show smn g n + g n ≤ b * (n + 1)
    rw [Nat.mul_add, Nat.mul_one]; omega
theorem smn_ge {g : Nat → Nat} : ∀ n k, k < n → g k ≤ smn g n
  | 0, _, h => absurd h (Nat.not_lt_zero _)
  | n + 1, k, h => by
    show g k ≤ smn g n + g n
    by_cases h' : k = n
    · subst h'; omega
    · have := smn_ge (g := g) n k (by omega); omega
def nws (bk : Nat) (I : MI) (nk : Nat) : Nat := smn (nwg bk I) nk
theorem nws_sm {bk nk nh nw kn : Nat} {I M : MI} (B : BookR bk I M nk nh nw kn) : sm (M 7) nk = Int32.ofNat (nws bk I nk) ∧ nws bk I nk ≤ 594 := by
  have lk := B.lk
  refine ⟨sm_nat nk (fun k hk => (B.wg hk).2.2), ?_⟩
  have := smn_le (g := nwg bk I) (b := 99) nk (fun k hk => (B.wg hk).1)
  unfold nws; omega
theorem m_weightAll {bk nk nh nw kn : Nat} {I M : MI} (B : BookR bk I M nk nh nw kn) : f_X11_weightAll M = some (Int32.ofNat (nws bk I nk)) := by
  have lk := B.lk
  rw [← (nws_sm B).1]
  apply Ev_eq
  delta f_X11_weightAll
  refine Ev_fix2 (fun x1 x2 => ∃ i, i ≤ nk ∧ x2 = Int32.ofNat i ∧ x1 = sm (M 7) i) (fun _ x2 => (8 - x2.toInt).toNat) ?_ FU 0 0 (FU_lt (by decide)) ⟨0, by omega, rfl, rfl⟩
  rintro rec x1 x2 ⟨i, hi, rfl, rfl⟩ hrec
  rw [B.k2]
  refine Ev_if (fun c => ?_) (fun c => ?_)
  · have := (n_le (by omega) (by omega)).mp c
    have : i = nk := by omega
    subst this
    exact Ev_some rfl
  · have hlt : i < nk := Nat.lt_of_not_le (fun h => c ((n_le (by omega) (by omega)).mpr h))
    have hn1 : Int32.ofNat i + 1 = Int32.ofNat (i + 1) := n_add i 1
    refine Ev_gd ((n_inb (by omega)).mpr (by omega)) (Ev_ls (Ev_ls ?_))
    rw [n_ix (by omega), hn1]
    refine hrec _ _ ⟨i + 1, by omega, rfl, rfl⟩ ?_
    rw [n_toInt (by omega), n_toInt (by omega)]; omega
theorem p_power {b n : Nat} (hb : b < 2147483648) (hn : n ≤ 5) : f_X10_power (Int32.ofNat b) (Int32.ofNat n) = some (Int64.ofNat (b ^ n)) := by
  apply Ev_eq
  delta f_X10_power
  refine Ev_fix2 (fun x1 x2 => ∃ i, i ≤ n ∧ x2 = Int32.ofNat i ∧ x1 = Int64.ofNat (b ^ i)) (fun _ x2 => (8 - x2.toInt).toNat) ?_ FU 1 0 (FU_lt (by decide)) ⟨0, by omega, rfl, rfl⟩
  rintro rec x1 x2 ⟨i, hi, rfl, rfl⟩ hrec
  refine Ev_if (fun c => ?_) (fun c => ?_)
  · have := (n_le (by omega) (by omega)).mp c
    have : i = n := by omega
    subst this
    exact Ev_some rfl
  · have hlt : i < n := Nat.lt_of_not_le (fun h => c ((n_le (by omega) (by omega)).mpr h))
    have hn1 : Int32.ofNat i + 1 = Int32.ofNat (i + 1) := n_add i 1
    refine Ev_ls (Ev_ls ?_)
    rw [n_64 hb, l_mul, hn1]
    refine hrec _ _ ⟨i + 1, by omega, rfl, rfl⟩ ?_
    rw [n_toInt (by omega), n_toInt (by omega)]; omega
theorem pow5 {b n : Nat} (hb : b ≤ 594) (hn : n ≤ 5) : b ^ n ≤ 73949060978784 := by
  have h1 : b ^ n ≤ 594 ^ n := Nat.pow_le_pow_left hb n
  have h2 : 594 ^ n ≤ 594 ^ 5 := Nat.pow_le_pow_right (by decide) hn
  have h3 : 594 ^ 5 ≤ 73949060978784 := by decide
  omega
theorem c_likely {bk nk nh nw kn nd : Nat} {I I2 : MI} (J : MJ) (B : BookR bk I I2 nk nh nw kn) (D : DayR bk I I2 nk nd) (a b c : Int32) : ∃ v J', f_X10_likely bk I J a b c = some (v, J') ∧ f_X11_likely I2 a b c = some (v, st2 I2 0 2 0) := by
  have lk := B.lk
  have B' := B.st0
  have hw := nws_sm B
  have hW : I bk 17 = Int32.ofNat (nws bk I nk) := by rw [D.ws, hw.1]
  have key : Ev2 (f_X10_likely bk I J a b c) (f_X11_likely I2 a b c) (fun a b => b = (a.1, st2 I2 0 2 0)) := by
    delta f_X10_likely f_X11_likely
    refine Ev2_lsR (Ev2_L (p_isKind B a) (Ev2_R (m_isKind B a) (Ev2_lsL (Ev2_lsR ?_))))
    cases ha : ok6 nk a with
    | false => exact Ev2_some rfl
    | true =>
      obtain ⟨k, hk, rfl⟩ := ok6_t ha
      rw [if_pos rfl, if_pos rfl]
      refine Ev2_L p_isWithin (Ev2_R m_isIn ?_)
      cases hb : decide ((0 : Int32).toInt ≤ b.toInt ∧ b.toInt ≤ (5 : Int32).toInt) with
      | false => exact Ev2_some rfl
      | true =>
        obtain ⟨n, hn, rfl⟩ := in_t (n := 5) (by omega) hb
        rw [if_pos rfl, if_pos rfl]
        refine Ev2_L p_isWithin (Ev2_R m_isIn ?_)
        cases hc : decide ((0 : Int32).toInt ≤ c.toInt ∧ c.toInt ≤ (1 : Int32).toInt) with
        | false => exact Ev2_some rfl
        | true =>
          rw [if_pos rfl, if_pos rfl, hW]
          have hg := B.wg hk
          have hge : nwg bk I k ≤ nws bk I nk := smn_ge nk k hk
          have hp1 := pow5 hw.2 hn
          have hp2 := pow5 (b := nws bk I nk - nwg bk I k) (by omega) hn
          have hp3 : (nws bk I nk - nwg bk I k) ^ n ≤ nws bk I nk ^ n := Nat.pow_le_pow_left (by omega) n
          have hm7 : st2 I2 0 2 0 7 k = Int32.ofNat (nwg bk I k) := hg.2.2
          refine Ev2_lsL (Ev2_lsR ?_)
          by_cases h0 : nws bk I nk = 0
          · have hz : Int32.ofNat (nws bk I nk) = 0 := by rw [h0]; rfl
            have e0 : (0 : Int64) = Int64.ofNat 0 := rfl
            have e1 : (1 : Int64) = Int64.ofNat 1 := rfl
            rw [if_pos hz]
            have hu : ∀ R : Option (Int64 × MI), R = some (if c = 0 then Int64.ofNat 0 else Int64.ofNat 1, st2 I2 0 2 0) → Ev2 (bd1 (f_X3_put J (0 : Int64) (1 : Int64)) (fun J6 => bd1 (f_X3_told J6 c) (fun x5 => some (x5, J6)))) R (fun a b => b = (a.1, st2 I2 0 2 0)) := fun R hR => by
              rw [e0, e1, p_put (by decide) (by decide) (by decide), bd1_s, p_told, bd1_s, Nat.gcd_one_right, Nat.div_one, Nat.div_one, hR]
              exact Ev2_some rfl
            refine hu _ ?_
            apply Ev_eq
            refine Ev_fix3 (fun x8 x9 x10 => x8 = 1 ∧ x9 = 1 ∧ ∃ i, i ≤ n ∧ x10 = Int32.ofNat i) (fun _ _ x2 => (8 - x2.toInt).toNat) ?_ FU 1 1 0 (FU_lt (by decide)) ⟨rfl, rfl, 0, by omega, rfl⟩
            rintro rec x8 x9 x10 ⟨rfl, rfl, i, hi, rfl⟩ hrec
            have hend : bd1 (f_X11_least (1 - 1) 1 c) (fun x7 => some (x7, st2 I2 0 2 0)) = some (if c = 0 then Int64.ofNat 0 else Int64.ofNat 1, st2 I2 0 2 0) := by
              have e2 : (1 : Int64) - 1 = Int64.ofNat 0 := rfl
              rw [e2, e1, m_least (by decide) (by decide) (by decide), bd1_s, Nat.gcd_one_right, Nat.div_one, Nat.div_one]
            refine Ev_if (fun _ => Ev_of hend rfl) (fun _ => ?_)
            rw [m_weightAll B', bd1_s, if_pos (by rw [hz]; decide)]
            exact Ev_of hend rfl
          · have hpos : 0 < nws bk I nk ^ n := Nat.pow_pos (by omega)
            have hne : ¬ Int32.ofNat (nws bk I nk) = 0 := fun e => h0 ((n_eq (b := 0) (by omega) (by omega)).mp e)
            rw [if_neg hne]
            refine Ev2_L (p_power (by omega) hn) (Ev2_gdL ((n_inb (by omega)).mpr (by omega)) ?_)
            rw [n_ix (by omega), hg.2.1, n_sub hge]
            refine Ev2_L (p_power (by omega) hn) ?_
            rw [l_sub hp3]
            refine Ev2_L (p_put (by omega) (by omega) hpos) (Ev2_L (p_told c) ?_)
            obtain ⟨G, hG⟩ : ∃ G, G = Nat.gcd (nws bk I nk ^ n - (nws bk I nk - nwg bk I k) ^ n) (nws bk I nk ^ n) := ⟨_, rfl⟩
            rw [← hG]
            refine ⟨_, (if c = 0 then Int64.ofNat ((nws bk I nk ^ n - (nws bk I nk - nwg bk I k) ^ n) / G) else Int64.ofNat (nws bk I nk ^ n / G), st2 I2 0 2 0), rfl, ?_, rfl⟩
            apply Ev_eq
            refine Ev_fix3 (fun x8 x9 x10 => ∃ i, i ≤ n ∧ x10 = Int32.ofNat i ∧ x8 = Int64.ofNat (nws bk I nk ^ i) ∧ x9 = Int64.ofNat ((nws bk I nk - nwg bk I k) ^ i)) (fun _ _ x2 => (8 - x2.toInt).toNat) ?_ FU 1 1 0 (FU_lt (by decide)) ⟨0, by omega, rfl, rfl, rfl⟩
            rintro rec x8 x9 x10 ⟨i, hi, rfl, rfl, rfl⟩ hrec
            refine Ev_if (fun c => ?_) (fun c => ?_)
            · have := (n_le (by omega) (by omega)).mp c
              have : i = n := by omega
              subst this
              refine Ev_of (v := _) ?_ rfl
              show bd1 (f_X11_least (Int64.ofNat (nws bk I nk ^ i) - Int64.ofNat ((nws bk I nk - nwg bk I k) ^ i)) (Int64.ofNat (nws bk I nk ^ i)) _) _ = _
              rw [l_sub hp3, m_least (by omega) (by omega) hpos, bd1_s, ← hG]
            · have hlt : i < n := Nat.lt_of_not_le (fun h => c ((n_le (by omega) (by omega)).mpr h))
              have hn1 : Int32.ofNat i + 1 = Int32.ofNat (i + 1) := n_add i 1
              rw [m_weightAll B', bd1_s, if_neg (fun e => by
                have := (n_le (b := 0) (by omega) (by omega)).mp e
                omega), bd1_s]
              refine Ev_ls ?_
              rw [bd1_s]
              refine Ev_gd ((n_inb (by omega)).mpr (by omega)) (Ev_ls (Ev_ls ?_))
              rw [hm7, n_sub hge, n_64 (by omega), n_64 (by omega), l_mul, l_mul, hn1]
              refine hrec _ _ _ ⟨i + 1, by omega, rfl, rfl, rfl⟩ ?_
              rw [n_toInt (by omega), n_toInt (by omega)]; omega
  obtain ⟨a, b, e, e', q⟩ := key
  exact ⟨a.1, a.2, e, by rw [e', q]⟩
