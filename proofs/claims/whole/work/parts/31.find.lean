/-! finding a name -/
theorem Ev_eq {α : Type} {o : Option α} {v : α} (h : Ev o (fun a => a = v)) : o = some v := by
  obtain ⟨a, e, q⟩ := h; rw [e, q]
theorem Ev_of {α : Type} {o : Option α} {v : α} {Q : α → Prop} (h : o = some v) (q : Q v) : Ev o Q := ⟨v, h, q⟩
def sf (f : Nat → Int32) (x : Int32) : Nat → Nat → Int32
  | 0, _ => -1
  | m + 1, i => if f i = x then Int32.ofNat i else sf f x m (i + 1)
theorem sf_congr {f g : Nat → Int32} {x : Int32} : ∀ (m i : Nat), (∀ k, i ≤ k → k < i + m → f k = g k) → sf f x m i = sf g x m i
  | 0, _, _ => rfl
  | m + 1, i, h => by
    show (if f i = x then _ else sf f x m (i + 1)) = (if g i = x then _ else sf g x m (i + 1))
    rw [h i (by omega) (by omega), sf_congr m (i + 1) (fun k h1 h2 => h k (by omega) (by omega))]
theorem p_placeOf {I : MI} {x : Int32} {pa na n : Nat} (hn : n ≤ na) (hm : na < 1000) : f_X0_placeOf I x pa na (Int32.ofNat n) = some (sf (I pa) x n 0) := by
  apply Ev_eq
  delta f_X0_placeOf
  refine Ev_ls ?_
  refine Ev_fix1 (fun x1 => ∃ i, i ≤ n ∧ x1 = Int32.ofNat i ∧ sf (I pa) x n 0 = sf (I pa) x (n - i) i) (fun x1 => (1000 - x1.toInt).toNat) ?_ FU 0 (FU_lt (by decide)) ⟨0, by omega, rfl, rfl⟩
  rintro rec x1 ⟨i, hi, rfl, hs⟩ hrec
  refine Ev_if (fun c => ?_) (fun c => ?_)
  · have := (n_le (by omega) (by omega)).mp c
    have : n - i = 0 := by omega
    rw [this] at hs
    exact Ev_some hs.symm
  · have hlt : i < n := Nat.lt_of_not_le (fun h => c ((n_le (by omega) (by omega)).mpr h))
    refine Ev_if (fun c => absurd ((n_le (by omega) (by omega)).mp c) (by omega)) (fun _ => ?_)
    refine Ev_gd ((n_inb (by omega)).mpr (by omega)) ?_
    rw [n_ix (by omega)]
    have h1 : n - i = n - (i + 1) + 1 := by omega
    rw [h1] at hs
    refine Ev_if (fun c => ?_) (fun c => ?_)
    · exact Ev_some (by rw [hs]; show _ = if I pa i = x then _ else _; rw [if_pos c])
    · refine Ev_ls ?_
      have hn1 : Int32.ofNat i + 1 = Int32.ofNat (i + 1) := n_add i 1
      rw [hn1]
      refine hrec _ ⟨i + 1, by omega, rfl, ?_⟩ ?_
      · rw [hs]; show (if I pa i = x then _ else _) = _; rw [if_neg c]
      · rw [n_toInt (by omega), n_toInt (by omega)]; omega
theorem m_find {I : MI} {x : Int32} {pa na b n : Nat} (hn : b + n ≤ na) (hm : na < 1000) : f_X11_find I pa na (Int32.ofNat b) (Int32.ofNat n) x = some (sf (fun k => I pa (b + k)) x n 0) := by
  apply Ev_eq
  delta f_X11_find
  refine Ev_fix1 (fun x1 => ∃ i, i ≤ n ∧ x1 = Int32.ofNat i ∧ sf (fun k => I pa (b + k)) x n 0 = sf (fun k => I pa (b + k)) x (n - i) i) (fun x1 => (1000 - x1.toInt).toNat) ?_ FU 0 (FU_lt (by decide)) ⟨0, by omega, rfl, rfl⟩
  rintro rec x1 ⟨i, hi, rfl, hs⟩ hrec
  refine Ev_if (fun c => ?_) (fun c => ?_)
  · have := (n_le (by omega) (by omega)).mp c
    have : n - i = 0 := by omega
    rw [this] at hs
    exact Ev_some hs.symm
  · have hlt : i < n := Nat.lt_of_not_le (fun h => c ((n_le (by omega) (by omega)).mpr h))
    rw [n_add]
    refine Ev_gd ((n_inb (by omega)).mpr (by omega)) ?_
    rw [n_ix (by omega)]
    have h1 : n - i = n - (i + 1) + 1 := by omega
    rw [h1] at hs
    refine Ev_if (fun c => ?_) (fun c => ?_)
    · exact Ev_some (by rw [hs]; show _ = if I pa (b + i) = x then _ else _; rw [if_pos c])
    · refine Ev_ls ?_
      have hn1 : Int32.ofNat i + 1 = Int32.ofNat (i + 1) := n_add i 1
      rw [hn1]
      refine hrec _ ⟨i + 1, by omega, rfl, ?_⟩ ?_
      · rw [hs]; show (if I pa (b + i) = x then _ else _) = _; rw [if_neg c]
      · rw [n_toInt (by omega), n_toInt (by omega)]; omega
