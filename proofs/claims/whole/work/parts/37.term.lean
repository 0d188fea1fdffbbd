/-! termIn; some houses by their bits -/
theorem c_termIn {bk nk nh nw kn su dn dy : Nat} {I I2 : MI} {J2 : MJ} (B : BookR bk I I2 nk nh nw kn) (W : TownR I I2 J2 nk nh su dn dy) : ∃ v, f_X10_termIn bk I = some v ∧ f_X11_termIn I2 = some (v, st2 I2 0 2 0) := by
  obtain ⟨z, h1, h2, e1, e2⟩ := B.te
  have hz : nz (Int32.ofNat z) = true := by
    unfold nz
    rw [decide_eq_false (fun h => by
      have := (n_eq (a := z) (b := 0) (by omega) (by omega)).mp h
      omega)]
    rfl
  refine ⟨Int32.ofNat z - irem (Int32.ofNat dy) (Int32.ofNat z), ?_, ?_⟩
  · delta f_X10_termIn f_X0_daysToTerm
    rw [e1, W.y1]
    have hn : ¬ (Int32.ofNat z ≤ 0) := fun h => by
      rw [Int32.le_iff_toInt_le, n_toInt (by omega), z0] at h; omega
    show bd1 (if Int32.ofNat z ≤ 0 then _ else _) _ = _
    rw [if_neg hn, gd_t hz]; rfl
  · delta f_X11_termIn
    show gd (inb (0 : Int32) 4) (gd (inb (0 : Int32) 2) (gd (inb (0 : Int32) 4) (gd (nz (I2 4 0)) (some (I2 4 0 - irem (I2 35 0) (I2 4 0), st2 I2 0 2 0))))) = _
    rw [e2, W.y2, gd_t (c := inb 0 4) rfl, gd_t (c := inb 0 2) rfl, gd_t (c := inb 0 4) rfl, gd_t hz]
theorem pw_sh : ∀ n : Fin 7, ((1 : Int32) <<< (Int32.ofNat n.1 &&& 31)) - 1 = Int32.ofNat (2 ^ n.1 - 1) := by decide +kernel
theorem sh_toInt {m n : Nat} (hm : m < 2147483648) (hn : n < 7) : (Int32.ofNat m >>> (Int32.ofNat n &&& 31)).toInt = ((m / 2 ^ n : Nat) : Int) := by
  have hb : ((Int32.ofNat n &&& 31).toBitVec.smod 32).toNat = n := by
    have hall : ∀ n : Fin 7, ((Int32.ofNat n.1 &&& 31).toBitVec.smod 32).toNat = n.1 := by decide +kernel
    exact hall ⟨n, hn⟩
  have h1 : (Int32.ofNat m >>> (Int32.ofNat n &&& 31)).toInt = ((Int32.ofNat m).toBitVec.sshiftRight ((Int32.ofNat n &&& 31).toBitVec.smod 32).toNat).toInt := rfl
  rw [h1, hb, BitVec.toInt_sshiftRight]
  have h2 : (Int32.ofNat m).toBitVec.toInt = m := n_toInt hm
  rw [h2, Int.shiftRight_eq_div_pow]
  norm_cast
