/-! sums of rows -/
def sm (f : Nat → Int32) : Nat → Int32
  | 0 => 0
  | n + 1 => sm f n + f n
theorem sm_congr {f g : Nat → Int32} : ∀ n, (∀ k, k < n → f k = g k) → sm f n = sm g n
  | 0, _ => rfl
  | n + 1, h => by
    show sm f n + f n = sm g n + g n
    rw [sm_congr n (fun k hk => h k (by omega)), h n (by omega)]
theorem sm_tail {f : Nat → Int32} {n : Nat} : ∀ d, (∀ k, n ≤ k → k < n + d → f k = 0) → sm f (n + d) = sm f n
  | 0, _ => rfl
  | d + 1, h => by
    show sm f (n + d) + f (n + d) = sm f n
    rw [sm_tail d (fun k h1 h2 => h k h1 (by omega)), h (n + d) (by omega) (by omega)]
    exact Int32.add_zero _
theorem p_sumOfRow {I : MI} {pa : Nat} : f_X10_sumOfRow I pa 6 = some (sm (I pa) 6) := by
  apply Ev_eq
  delta f_X10_sumOfRow
  refine Ev_ls ?_
  refine Ev_fix2 (fun x2 x3 => ∃ i, i ≤ 6 ∧ x3 = Int32.ofNat i ∧ x2 = sm (I pa) i) (fun _ x3 => (6 - x3.toInt).toNat) ?_ FU 0 0 (FU_lt (by decide)) ⟨0, by omega, rfl, rfl⟩
  rintro rec x2 x3 ⟨i, hi, rfl, rfl⟩ hrec
  refine Ev_if (fun c => ?_) (fun c => ?_)
  · have := (n_le (by omega) (by omega)).mp c
    have : i = 6 := by omega
    subst this
    exact Ev_some rfl
  · have hlt : i < 6 := Nat.lt_of_not_le (fun h => c ((n_le (by omega) (by omega)).mpr h))
    refine Ev_gd ((n_inb (by omega)).mpr (by omega)) ?_
    rw [n_ix (by omega)]
    have hn1 : Int32.ofNat i + 1 = Int32.ofNat (i + 1) := n_add i 1
    refine Ev_ls (Ev_ls (Ev_ls ?_))
    rw [hn1]
    refine hrec _ _ ⟨i + 1, by omega, rfl, rfl⟩ ?_
    rw [n_toInt (by omega), n_toInt (by omega)]; omega
