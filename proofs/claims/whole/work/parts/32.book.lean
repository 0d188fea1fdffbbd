/-! what a text tells: the component's book against the model's kept rows -/
def BookR (bk : Nat) (I I2 : MI) (nk nh nw kn : Nat) : Prop := (nk ≤ 6) ∧ (nh ≤ 6) ∧ (nw ≤ 6) ∧ (kn ≤ 64) ∧ (I bk 11 = Int32.ofNat nk) ∧ (I2 0 12 = Int32.ofNat nk) ∧ (I bk 12 = Int32.ofNat nh) ∧ (I2 0 13 = Int32.ofNat nh) ∧ (I bk 13 = Int32.ofNat nw) ∧ (I2 0 15 = Int32.ofNat nw) ∧ (I (bk + 11) 4 = Int32.ofNat kn) ∧ (I2 0 16 = Int32.ofNat kn) ∧ (∀ k, k < nk → I (bk + 1) k = I2 5 k) ∧ (∀ k, k < nk → ∃ z, z ≤ 99 ∧ I (bk + 2) k = Int32.ofNat z ∧ I2 6 k = Int32.ofNat z) ∧ (∀ k, k < nk → ∃ z, z ≤ 99 ∧ I (bk + 3) k = Int32.ofNat z ∧ I2 7 k = Int32.ofNat z) ∧ (∀ k, k < nh → I (bk + 4) k = I2 8 k) ∧ (∀ k, k < nh → ∃ z, z ≤ 999 ∧ I (bk + 5) k = Int32.ofNat z ∧ I2 9 k = Int32.ofNat z) ∧ (∀ k, k < nh → ∃ z, z ≤ 9 ∧ I (bk + 6) k = Int32.ofNat z ∧ I2 10 k = Int32.ofNat z) ∧ (∀ k, k < nh → ∃ z, z ≤ 99 ∧ I (bk + 7) k = Int32.ofNat z ∧ I2 11 k = Int32.ofNat z) ∧ (∀ k, k < nw → ∃ z, z < nh ∧ I (bk + 8) k = Int32.ofNat z ∧ I2 14 k = Int32.ofNat z) ∧ (∀ k, k < nw → ∃ z, z < nk ∧ I (bk + 9) k = Int32.ofNat z ∧ I2 15 k = Int32.ofNat z) ∧ (∃ z, 1 ≤ z ∧ z ≤ 99 ∧ I bk 15 = Int32.ofNat z ∧ I2 4 0 = Int32.ofNat z) ∧ (∃ z, z ≤ 99999 ∧ I bk 16 = Int32.ofNat z ∧ I2 4 1 = Int32.ofNat z)
theorem BookR.lk {bk : Nat} {I I2 : MI} {nk nh nw kn : Nat} (B_ : BookR bk I I2 nk nh nw kn) : nk ≤ 6 := B_.1
theorem BookR.lh {bk : Nat} {I I2 : MI} {nk nh nw kn : Nat} (B_ : BookR bk I I2 nk nh nw kn) : nh ≤ 6 := B_.2.1
theorem BookR.lw {bk : Nat} {I I2 : MI} {nk nh nw kn : Nat} (B_ : BookR bk I I2 nk nh nw kn) : nw ≤ 6 := B_.2.2.1
theorem BookR.lkn {bk : Nat} {I I2 : MI} {nk nh nw kn : Nat} (B_ : BookR bk I I2 nk nh nw kn) : kn ≤ 64 := B_.2.2.2.1
theorem BookR.k1 {bk : Nat} {I I2 : MI} {nk nh nw kn : Nat} (B_ : BookR bk I I2 nk nh nw kn) : I bk 11 = Int32.ofNat nk := B_.2.2.2.2.1
theorem BookR.k2 {bk : Nat} {I I2 : MI} {nk nh nw kn : Nat} (B_ : BookR bk I I2 nk nh nw kn) : I2 0 12 = Int32.ofNat nk := B_.2.2.2.2.2.1
theorem BookR.h1 {bk : Nat} {I I2 : MI} {nk nh nw kn : Nat} (B_ : BookR bk I I2 nk nh nw kn) : I bk 12 = Int32.ofNat nh := B_.2.2.2.2.2.2.1
theorem BookR.h2 {bk : Nat} {I I2 : MI} {nk nh nw kn : Nat} (B_ : BookR bk I I2 nk nh nw kn) : I2 0 13 = Int32.ofNat nh := B_.2.2.2.2.2.2.2.1
theorem BookR.w1 {bk : Nat} {I I2 : MI} {nk nh nw kn : Nat} (B_ : BookR bk I I2 nk nh nw kn) : I bk 13 = Int32.ofNat nw := B_.2.2.2.2.2.2.2.2.1
theorem BookR.w2 {bk : Nat} {I I2 : MI} {nk nh nw kn : Nat} (B_ : BookR bk I I2 nk nh nw kn) : I2 0 15 = Int32.ofNat nw := B_.2.2.2.2.2.2.2.2.2.1
theorem BookR.n1 {bk : Nat} {I I2 : MI} {nk nh nw kn : Nat} (B_ : BookR bk I I2 nk nh nw kn) : I (bk + 11) 4 = Int32.ofNat kn := B_.2.2.2.2.2.2.2.2.2.2.1
theorem BookR.n2 {bk : Nat} {I I2 : MI} {nk nh nw kn : Nat} (B_ : BookR bk I I2 nk nh nw kn) : I2 0 16 = Int32.ofNat kn := B_.2.2.2.2.2.2.2.2.2.2.2.1
theorem BookR.kl {bk : Nat} {I I2 : MI} {nk nh nw kn : Nat} (B_ : BookR bk I I2 nk nh nw kn) : ∀ k, k < nk → I (bk + 1) k = I2 5 k := B_.2.2.2.2.2.2.2.2.2.2.2.2.1
theorem BookR.kw {bk : Nat} {I I2 : MI} {nk nh nw kn : Nat} (B_ : BookR bk I I2 nk nh nw kn) : ∀ k, k < nk → ∃ z, z ≤ 99 ∧ I (bk + 2) k = Int32.ofNat z ∧ I2 6 k = Int32.ofNat z := B_.2.2.2.2.2.2.2.2.2.2.2.2.2.1
theorem BookR.kg {bk : Nat} {I I2 : MI} {nk nh nw kn : Nat} (B_ : BookR bk I I2 nk nh nw kn) : ∀ k, k < nk → ∃ z, z ≤ 99 ∧ I (bk + 3) k = Int32.ofNat z ∧ I2 7 k = Int32.ofNat z := B_.2.2.2.2.2.2.2.2.2.2.2.2.2.2.1
theorem BookR.hn {bk : Nat} {I I2 : MI} {nk nh nw kn : Nat} (B_ : BookR bk I I2 nk nh nw kn) : ∀ k, k < nh → I (bk + 4) k = I2 8 k := B_.2.2.2.2.2.2.2.2.2.2.2.2.2.2.2.1
theorem BookR.hp {bk : Nat} {I I2 : MI} {nk nh nw kn : Nat} (B_ : BookR bk I I2 nk nh nw kn) : ∀ k, k < nh → ∃ z, z ≤ 999 ∧ I (bk + 5) k = Int32.ofNat z ∧ I2 9 k = Int32.ofNat z := B_.2.2.2.2.2.2.2.2.2.2.2.2.2.2.2.2.1
theorem BookR.he {bk : Nat} {I I2 : MI} {nk nh nw kn : Nat} (B_ : BookR bk I I2 nk nh nw kn) : ∀ k, k < nh → ∃ z, z ≤ 9 ∧ I (bk + 6) k = Int32.ofNat z ∧ I2 10 k = Int32.ofNat z := B_.2.2.2.2.2.2.2.2.2.2.2.2.2.2.2.2.2.1
theorem BookR.hr {bk : Nat} {I I2 : MI} {nk nh nw kn : Nat} (B_ : BookR bk I I2 nk nh nw kn) : ∀ k, k < nh → ∃ z, z ≤ 99 ∧ I (bk + 7) k = Int32.ofNat z ∧ I2 11 k = Int32.ofNat z := B_.2.2.2.2.2.2.2.2.2.2.2.2.2.2.2.2.2.2.1
theorem BookR.wh {bk : Nat} {I I2 : MI} {nk nh nw kn : Nat} (B_ : BookR bk I I2 nk nh nw kn) : ∀ k, k < nw → ∃ z, z < nh ∧ I (bk + 8) k = Int32.ofNat z ∧ I2 14 k = Int32.ofNat z := B_.2.2.2.2.2.2.2.2.2.2.2.2.2.2.2.2.2.2.2.1
theorem BookR.wk {bk : Nat} {I I2 : MI} {nk nh nw kn : Nat} (B_ : BookR bk I I2 nk nh nw kn) : ∀ k, k < nw → ∃ z, z < nk ∧ I (bk + 9) k = Int32.ofNat z ∧ I2 15 k = Int32.ofNat z := B_.2.2.2.2.2.2.2.2.2.2.2.2.2.2.2.2.2.2.2.2.1
theorem BookR.te {bk : Nat} {I I2 : MI} {nk nh nw kn : Nat} (B_ : BookR bk I I2 nk nh nw kn) : ∃ z, 1 ≤ z ∧ z ≤ 99 ∧ I bk 15 = Int32.ofNat z ∧ I2 4 0 = Int32.ofNat z := B_.2.2.2.2.2.2.2.2.2.2.2.2.2.2.2.2.2.2.2.2.2.1
theorem BookR.sd {bk : Nat} {I I2 : MI} {nk nh nw kn : Nat} (B_ : BookR bk I I2 nk nh nw kn) : ∃ z, z ≤ 99999 ∧ I bk 16 = Int32.ofNat z ∧ I2 4 1 = Int32.ofNat z := B_.2.2.2.2.2.2.2.2.2.2.2.2.2.2.2.2.2.2.2.2.2.2
theorem st0_at {I : MI} {p k : Nat} (h : ¬ (p = 0 ∧ k = 2)) : st2 I 0 2 0 p k = I p k := by
  unfold st2
  by_cases h0 : p = 0
  · subst h0; rw [if_pos rfl, if_neg (fun e => h ⟨rfl, e⟩)]
  · rw [if_neg h0]
theorem st0_row {I : MI} {p : Nat} (h : p ≠ 0) : st2 I 0 2 0 p = I p := by
  unfold st2; rw [if_neg h]
theorem c_fault {I I2 : MI} (a : Int32) (h1 : I 34 5 = I2 0 4) (h2 : I 34 6 = I2 0 5) : ∃ v, f_X10_fault I a = some v ∧ f_X11_fault I2 a = some (v, st2 I2 0 2 0) := by
  refine ⟨if a = 0 then I 34 5 else if a = 1 then I 34 6 else -1, ?_, ?_⟩
  · delta f_X10_fault
    show (if a = 0 then _ else if a = 1 then _ else _) = _
    split
    · rfl
    · split <;> rfl
  · delta f_X11_fault
    show (if a = 0 then some (I2 0 4, _) else if a = 1 then some (I2 0 5, _) else _) = _
    rw [h1, h2]
    split
    · rfl
    · split <;> rfl
theorem c_named {bk nk nh nw kn : Nat} {I I2 : MI} (B : BookR bk I I2 nk nh nw kn) (a x : Int32) : ∃ v, f_X10_named bk I a x = some v ∧ f_X11_named I2 a x = some (v, st2 I2 0 2 0) := by
  have lk := B.lk
  have lh := B.lh
  have e1 : f_X0_kindNamed I bk x = some (sf (I (bk + 1)) x nk 0) := by
    delta f_X0_kindNamed
    rw [B.k1, p_placeOf (by omega) (by omega), bd1_s]
  have e2 : f_X0_houseNamed I bk x = some (sf (I (bk + 4)) x nh 0) := by
    delta f_X0_houseNamed
    rw [B.h1, p_placeOf (by omega) (by omega), bd1_s]
  have e3 : f_X11_find (st2 I2 0 2 0) 5 12 0 (st2 I2 0 2 0 0 12) x = some (sf (I (bk + 1)) x nk 0) := by
    rw [st0_at (by omega), B.k2]
    refine (m_find (b := 0) (by omega) (by omega)).trans (congrArg some ?_)
    refine sf_congr _ _ (fun k _ hk => ?_)
    rw [st0_row (by omega), Nat.zero_add]; exact (B.kl k (by omega)).symm
  have e4 : f_X11_find (st2 I2 0 2 0) 8 12 0 (st2 I2 0 2 0 0 13) x = some (sf (I (bk + 4)) x nh 0) := by
    rw [st0_at (by omega), B.h2]
    refine (m_find (b := 0) (by omega) (by omega)).trans (congrArg some ?_)
    refine sf_congr _ _ (fun k _ hk => ?_)
    rw [st0_row (by omega), Nat.zero_add]; exact (B.hn k (by omega)).symm
  refine ⟨if a = 0 then sf (I (bk + 1)) x nk 0 else if a = 1 then sf (I (bk + 4)) x nh 0 else -1, ?_, ?_⟩
  · delta f_X10_named
    rw [e1, e2]
    show (if a = 0 then _ else if a = 1 then _ else _) = _
    split
    · rfl
    · split <;> rfl
  · delta f_X11_named
    show (if a = 0 then bd1 (f_X11_find (st2 I2 0 2 0) 5 12 0 (st2 I2 0 2 0 0 12) x) _ else if a = 1 then bd1 (f_X11_find (st2 I2 0 2 0) 8 12 0 (st2 I2 0 2 0 0 13) x) _ else _) = _
    rw [e3, e4]
    split
    · rfl
    · split <;> rfl
