/-! what a law's knots come to -/
def Bd (x : Int64) : Prop := -1000000000000 ≤ x.toInt ∧ x.toInt ≤ 1000000000000
def jn (k : Nat) (a b : Int64) : Option Int64 :=
  if k = 3 then some (if a = 0 then 0 else if b = 0 then 0 else 1)
  else if k = 4 then some (if a = 0 then (if b = 0 then 0 else 1) else 1)
  else if k = 5 then some (if b ≤ a then 0 else 1)
  else if k = 6 then some (if b < a then 0 else 1)
  else if k = 7 then some (if a = b then 1 else 0)
  else if k = 8 then some (if a = b then 0 else 1)
  else if k = 9 then some (if a < b then 0 else 1)
  else if k = 10 then some (if a ≤ b then 0 else 1)
  else if k = 11 then (if 1000000000000 < a + b then none else if -1000000000000 ≤ a + b then some (a + b) else none)
  else if k = 12 then (if 1000000000000 < a - b then none else if -1000000000000 ≤ a - b then some (a - b) else none)
  else if k = 13 then (if a = 0 then some 0 else (if (1000000000000 : Int64) / (if (0 : Int64) ≤ a then a else -a) < b then none else if -((1000000000000 : Int64) / (if (0 : Int64) ≤ a then a else -a)) ≤ b then some (a * b) else none))
  else (if b = 0 then none else some (a / b))
def sgn (k : Nat) : Nat := if k = 3 then 11 else if k = 4 then 10 else k + 18
theorem L0 : (0 : Int64).toInt = 0 := rfl
theorem L12 : (1000000000000 : Int64).toInt = 1000000000000 := rfl
theorem Lm12 : (-1000000000000 : Int64).toInt = -1000000000000 := rfl
theorem l_add' {a b : Int64} (h1 : -9223372036854775808 ≤ a.toInt + b.toInt) (h2 : a.toInt + b.toInt ≤ 9223372036854775807) : (a + b).toInt = a.toInt + b.toInt := by
  rw [Int64.toInt_add]; exact Int.bmod_eq_of_le (by omega) (by omega)
theorem l_sub' {a b : Int64} (h1 : -9223372036854775808 ≤ a.toInt - b.toInt) (h2 : a.toInt - b.toInt ≤ 9223372036854775807) : (a - b).toInt = a.toInt - b.toInt := by
  rw [Int64.toInt_sub]; exact Int.bmod_eq_of_le (by omega) (by omega)
theorem l_mul' {a b : Int64} (h1 : -9223372036854775808 ≤ a.toInt * b.toInt) (h2 : a.toInt * b.toInt ≤ 9223372036854775807) : (a * b).toInt = a.toInt * b.toInt := by
  rw [Int64.toInt_mul]; exact Int.bmod_eq_of_le (by omega) (by omega)
theorem l_neg' {a : Int64} (h1 : -9223372036854775808 < a.toInt) : (-a).toInt = -a.toInt := by
  have h2 : a.toInt < 9223372036854775808 := Int64.toInt_lt a
  rw [Int64.toInt_neg]; exact Int.bmod_eq_of_le (by omega) (by omega)
theorem l_ne0 {a : Int64} (h : ¬ a = 0) : a.toInt ≠ 0 := fun e => h (Int64.toInt.inj (e.trans L0.symm))
theorem Bd01 {c : Prop} [Decidable c] : Bd (if c then (0 : Int64) else 1) := by
  unfold Bd
  split <;> decide
theorem Bd10 {c : Prop} [Decidable c] : Bd (if c then (1 : Int64) else 0) := by
  unfold Bd
  split <;> decide
theorem tdiv_le {a b : Int} (hb : b ≠ 0) (h1 : -1000000000000 ≤ a) (h2 : a ≤ 1000000000000) : -1000000000000 ≤ a.tdiv b ∧ a.tdiv b ≤ 1000000000000 := by
  have h : (a.tdiv b).natAbs ≤ a.natAbs := by
    rw [Int.natAbs_tdiv]
    exact Nat.div_le_self _ _
  omega
theorem l_div' {a b : Int64} (ha : Bd a) (hb : ¬ b = 0) : (a / b).toInt = a.toInt.tdiv b.toInt := by
  have h := tdiv_le (l_ne0 hb) ha.1 ha.2
  rw [Int64.toInt_div]; exact Int.bmod_eq_of_le (by omega) (by omega)
/-- how much the other side of a product may be -/
theorem l_most {a : Int64} (ha : Bd a) (h0 : ¬ a = 0) : ∃ m : Nat, ((1000000000000 : Int64) / (if (0 : Int64) ≤ a then a else -a)).toInt = m ∧ m = 1000000000000 / a.toInt.natAbs ∧ m ≤ 1000000000000 ∧ nzl (if (0 : Int64) ≤ a then a else -a) = true := by
  have h0' := l_ne0 h0
  obtain ⟨x, hx⟩ : ∃ x, x = (if (0 : Int64) ≤ a then a else -a) := ⟨_, rfl⟩
  rw [← hx]
  have hxa : x.toInt = a.toInt.natAbs := by
    rw [hx]
    by_cases h : (0 : Int64) ≤ a
    · rw [if_pos h]
      rw [Int64.le_iff_toInt_le, L0] at h
      omega
    · rw [if_neg h]
      rw [Int64.le_iff_toInt_le, L0] at h
      have := ha.1
      rw [l_neg' (by omega)]; omega
  have hx0 : ¬ x = 0 := fun e => by
    rw [e, L0] at hxa; omega
  refine ⟨1000000000000 / a.toInt.natAbs, ?_, rfl, Nat.div_le_self _ _, ?_⟩
  · rw [l_div' (by unfold Bd; decide) hx0, hxa, L12]
    rfl
  · unfold nzl
    rw [decide_eq_false hx0]; rfl
theorem mul_bd {a b : Int} {m : Nat} (hm : m = 1000000000000 / a.natAbs) (h1 : b ≤ m) (h2 : -(m : Int) ≤ b) : -1000000000000 ≤ a * b ∧ a * b ≤ 1000000000000 := by
  have hb : b.natAbs ≤ m := by omega
  have h : (a * b).natAbs ≤ 1000000000000 := by
    rw [Int.natAbs_mul]
    have h3 : a.natAbs * b.natAbs ≤ a.natAbs * m := Nat.mul_le_mul_left _ hb
    have h4 : a.natAbs * m ≤ 1000000000000 := by
      rw [hm, Nat.mul_comm]
      exact Nat.div_mul_le_self _ _
    omega
  omega
theorem lim_bd {y x : Int64} (h : (if 1000000000000 < y then none else if -1000000000000 ≤ y then some y else none) = some x) : Bd x := by
  by_cases c1 : (1000000000000 : Int64) < y
  · rw [if_pos c1] at h; cases h
  · rw [if_neg c1] at h
    by_cases c2 : (-1000000000000 : Int64) ≤ y
    · rw [if_pos c2] at h
      cases h
      rw [Int64.lt_iff_toInt_lt, L12] at c1
      rw [Int64.le_iff_toInt_le, Lm12] at c2
      exact ⟨c2, by omega⟩
    · rw [if_neg c2] at h; cases h
theorem jn_bd {k : Nat} {a b x : Int64} (ha : Bd a) (hb : Bd b) (h : jn k a b = some x) : Bd x := by
  unfold jn at h
  by_cases h3 : k = 3
  · rw [if_pos h3] at h
    cases h
    by_cases c : a = 0
    · rw [if_pos c]; unfold Bd; decide
    · rw [if_neg c]; exact Bd01
  rw [if_neg h3] at h
  by_cases h4 : k = 4
  · rw [if_pos h4] at h
    cases h
    by_cases c : a = 0
    · rw [if_pos c]; exact Bd01
    · rw [if_neg c]; unfold Bd; decide
  rw [if_neg h4] at h
  by_cases h5 : k = 5
  · rw [if_pos h5] at h
    cases h; exact Bd01
  rw [if_neg h5] at h
  by_cases h6 : k = 6
  · rw [if_pos h6] at h
    cases h; exact Bd01
  rw [if_neg h6] at h
  by_cases h7 : k = 7
  · rw [if_pos h7] at h
    cases h; exact Bd10
  rw [if_neg h7] at h
  by_cases h8 : k = 8
  · rw [if_pos h8] at h
    cases h; exact Bd01
  rw [if_neg h8] at h
  by_cases h9 : k = 9
  · rw [if_pos h9] at h
    cases h; exact Bd01
  rw [if_neg h9] at h
  by_cases h10 : k = 10
  · rw [if_pos h10] at h
    cases h; exact Bd01
  rw [if_neg h10] at h
  by_cases h11 : k = 11
  · rw [if_pos h11] at h
    exact lim_bd h
  rw [if_neg h11] at h
  by_cases h12 : k = 12
  · rw [if_pos h12] at h
    exact lim_bd h
  rw [if_neg h12] at h
  by_cases h13 : k = 13
  · rw [if_pos h13] at h
    by_cases c0 : a = 0
    · rw [if_pos c0] at h
      cases h; unfold Bd; decide
    · rw [if_neg c0] at h
      obtain ⟨m, e1, e2, e3, _⟩ := l_most ha c0
      obtain ⟨y, hy⟩ : ∃ y, y = (1000000000000 : Int64) / (if (0 : Int64) ≤ a then a else -a) := ⟨_, rfl⟩
      rw [← hy] at h e1
      by_cases c1 : y < b
      · rw [if_pos c1] at h; cases h
      · rw [if_neg c1] at h
        by_cases c2 : -y ≤ b
        · rw [if_pos c2] at h
          cases h
          rw [Int64.lt_iff_toInt_lt, e1] at c1
          rw [Int64.le_iff_toInt_le, l_neg' (by omega), e1] at c2
          have := mul_bd e2 (b := b.toInt) (by omega) c2
          unfold Bd
          rw [l_mul' (by omega) (by omega)]
          exact this
        · rw [if_neg c2] at h; cases h
  rw [if_neg h13] at h
  by_cases c0 : b = 0
  · rw [if_pos c0] at h; cases h
  · rw [if_neg c0] at h
    cases h
    unfold Bd
    rw [l_div' ha c0]
    exact tdiv_le (l_ne0 c0) ha.1 ha.2
theorem p_truth (b : Bool) : f_X4_truth (bi b) = some (if b then 1 else 0) := by cases b <;> rfl
def er64 : Option Int64 → Int64
  | none => -9223372036854775808
  | some x => x
theorem p_limited (a : Int64) : f_X4_limited a = some (er64 (if 1000000000000 < a then none else if -1000000000000 ≤ a then some a else none)) := by
  delta f_X4_limited
  simp only [lt]
  split
  · rfl
  · split <;> rfl
theorem p_joined {k : Nat} {a b : Int64} (hk : 3 ≤ k) (hk2 : k ≤ 14) (ha : Bd a) : f_X4_joined (Int32.ofNat (sgn k)) a b = some (er64 (jn k a b)) := by
  delta f_X4_joined
  have hc : k = 3 ∨ k = 4 ∨ k = 5 ∨ k = 6 ∨ k = 7 ∨ k = 8 ∨ k = 9 ∨ k = 10 ∨ k = 11 ∨ k = 12 ∨ k = 13 ∨ k = 14 := by omega
  rcases hc with rfl | rfl | rfl | rfl | rfl | rfl | rfl | rfl | rfl | rfl | rfl | rfl
  · show (if a = 0 then bd1 (f_X4_truth (bi false)) (fun x => some x) else if b = 0 then bd1 (f_X4_truth (bi false)) (fun x => some x) else bd1 (f_X4_truth (bi true)) (fun x => some x)) = some (if a = 0 then 0 else if b = 0 then 0 else 1)
    rw [p_truth, p_truth]
    split
    · rfl
    · split <;> rfl
  · show (if a = 0 then (if b = 0 then bd1 (f_X4_truth (bi false)) (fun x => some x) else bd1 (f_X4_truth (bi true)) (fun x => some x)) else bd1 (f_X4_truth (bi true)) (fun x => some x)) = some (if a = 0 then (if b = 0 then 0 else 1) else 1)
    rw [p_truth, p_truth]
    split
    · split <;> rfl
    · rfl
  · show (if b ≤ a then bd1 (f_X4_truth (bi false)) (fun x => some x) else bd1 (f_X4_truth (bi true)) (fun x => some x)) = some (if b ≤ a then 0 else 1)
    rw [p_truth, p_truth]
    split <;> rfl
  · show (if b < a then bd1 (f_X4_truth (bi false)) (fun x => some x) else bd1 (f_X4_truth (bi true)) (fun x => some x)) = some (if b < a then 0 else 1)
    rw [p_truth, p_truth]
    split <;> rfl
  · show (if a = b then bd1 (f_X4_truth (bi true)) (fun x => some x) else bd1 (f_X4_truth (bi false)) (fun x => some x)) = some (if a = b then 1 else 0)
    rw [p_truth, p_truth]
    split <;> rfl
  · show (if a = b then bd1 (f_X4_truth (bi false)) (fun x => some x) else bd1 (f_X4_truth (bi true)) (fun x => some x)) = some (if a = b then 0 else 1)
    rw [p_truth, p_truth]
    split <;> rfl
  · show (if a < b then bd1 (f_X4_truth (bi false)) (fun x => some x) else bd1 (f_X4_truth (bi true)) (fun x => some x)) = some (if a < b then 0 else 1)
    rw [p_truth, p_truth]
    split <;> rfl
  · show (if a ≤ b then bd1 (f_X4_truth (bi false)) (fun x => some x) else bd1 (f_X4_truth (bi true)) (fun x => some x)) = some (if a ≤ b then 0 else 1)
    rw [p_truth, p_truth]
    split <;> rfl
  · show bd1 (f_X4_limited (a + b)) (fun x => some x) = _
    rw [p_limited]; rfl
  · show bd1 (f_X4_limited (a - b)) (fun x => some x) = _
    rw [p_limited]; rfl
  · show bd1 (f_X4_product a b) (fun x => some x) = some (er64 (if a = 0 then some 0 else (if (1000000000000 : Int64) / (if (0 : Int64) ≤ a then a else -a) < b then none else if -((1000000000000 : Int64) / (if (0 : Int64) ≤ a then a else -a)) ≤ b then some (a * b) else none)))
    delta f_X4_product
    by_cases h0 : a = 0
    · subst h0; rfl
    · obtain ⟨m, _, _, _, hz⟩ := l_most ha h0
      by_cases hp : (0 : Int64) ≤ a
      · rw [if_pos hp] at hz
        simp only [lt, if_pos hp, if_neg h0]
        rw [gd_t hz]
        split
        · rfl
        · split <;> rfl
      · rw [if_neg hp] at hz
        have h1 : ¬ -a = 0 := fun e => by
          rw [e] at hz
          exact absurd hz (by decide)
        simp only [lt, if_neg hp, if_neg h0, if_neg h1]
        rw [gd_t hz]
        split
        · rfl
        · split <;> rfl
  · show (if b = 0 then some (-9223372036854775808 : Int64) else gd (nzl b) (some (a / b))) = some (er64 (if b = 0 then none else some (a / b)))
    split
    · rfl
    · next h =>
      rw [gd_t (by unfold nzl; rw [decide_eq_false h]; rfl)]; rfl
