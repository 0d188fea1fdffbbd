/-! came -/
def skn (g : Nat → Nat) (m : Nat) : Nat → Nat → Nat
  | 0, _ => 0
  | n + 1, r => g (r % m) + skn g m n (r / m)
theorem p_sumOfKinds {bk nk nh nw kn : Nat} {I M : MI} (B : BookR bk I M nk nh nw kn) {h n row : Nat} (hh : h < nh) (hn : n ≤ 5) (hr : row < 10000) (h0 : n = 0 ∨ 0 < nk) : f_X10_sumOfKinds bk I (Int32.ofNat row) (Int32.ofNat n) (Int32.ofNat h) = some (Int32.ofNat (skn (fun k => nwo bk I k * nea bk I h) nk n row)) := by
  have lk := B.lk
  apply Ev_eq
  delta f_X10_sumOfKinds
  refine Ev_ls ?_
  refine Ev_fix3 (fun x2 x3 x4 => ∃ s r i, i ≤ n ∧ r < 10000 ∧ x2 = Int32.ofNat s ∧ x3 = Int32.ofNat r ∧ x4 = Int32.ofNat i ∧ s + skn (fun k => nwo bk I k * nea bk I h) nk (n - i) r = skn (fun k => nwo bk I k * nea bk I h) nk n row) (fun _ _ x2 => (8 - x2.toInt).toNat) ?_ FU _ _ _ (FU_lt (by decide)) ⟨0, row, 0, by omega, hr, rfl, rfl, rfl, Nat.zero_add _⟩
  rintro rec x2 x3 x4 ⟨s, r, i, hi, hr', rfl, rfl, rfl, hs⟩ hrec
  rw [B.k1]
  refine Ev_if (fun c => ?_) (fun c => ?_)
  · have := (n_le (by omega) (by omega)).mp c
    have e : n - i = 0 := by omega
    rw [e] at hs
    refine Ev_some ?_
    rw [← hs]; rfl
  · have hlt : i < n := Nat.lt_of_not_le (fun h => c ((n_le (by omega) (by omega)).mpr h))
    have hk0 : 0 < nk := by omega
    have hn1 : Int32.ofNat i + 1 = Int32.ofNat (i + 1) := n_add i 1
    have hm := Nat.mod_lt r hk0
    have hd := Nat.div_le_self r nk
    refine Ev_if (fun c => ?_) (fun _ => ?_)
    · have := (n_le (b := 0) (by omega) (by omega)).mp c
      omega
    refine Ev_gd (n_nz hk0 (by omega)) ?_
    rw [n_rem (by omega) (by omega), p_alone B hh hm, bd1_s]
    refine Ev_ls (Ev_gd (n_nz hk0 (by omega)) (Ev_ls (Ev_ls ?_)))
    rw [n_div (by omega) (by omega), hn1, n_add]
    refine hrec _ _ _ ⟨_, r / nk, i + 1, by omega, by omega, rfl, rfl, rfl, ?_⟩ ?_
    · have e : n - i = n - (i + 1) + 1 := by omega
      rw [e] at hs
      rw [← hs, Nat.add_assoc]
      rfl
    rw [n_toInt (by omega), n_toInt (by omega)]; omega
def ctn (q : Nat → Bool) : Nat → Nat
  | 0 => 0
  | n + 1 => ctn q n + (if q n then 1 else 0)
theorem c_came {bk nk nh nw kn : Nat} {I I2 : MI} (B : BookR bk I I2 nk nh nw kn) (a b c : Int32) : ∃ v, f_X10_came bk I a b c = some v ∧ f_X11_came I2 a b c = some (v, st2 I2 0 2 0) := by
  have lk := B.lk
  have B' := B.st0
  have key : Ev2 (f_X10_came bk I a b c) (f_X11_came I2 a b c) (fun a b => b = (a, st2 I2 0 2 0)) := by
    delta f_X10_came f_X11_came
    refine Ev2_lsR (Ev2_L (p_isHouse B a) (Ev2_R (m_isHouse B a) (Ev2_lsL (Ev2_lsR ?_))))
    cases ha : ok6 nh a with
    | false => exact Ev2_some rfl
    | true =>
      obtain ⟨h, hh, rfl⟩ := ok6_t ha
      rw [if_pos rfl, if_pos rfl]
      refine Ev2_L p_isWithin (Ev2_R m_isIn ?_)
      cases hb : decide ((0 : Int32).toInt ≤ b.toInt ∧ b.toInt ≤ (5 : Int32).toInt) with
      | false => exact Ev2_some rfl
      | true =>
        obtain ⟨n, hn, rfl⟩ := in_t (n := 5) (by omega) hb
        rw [if_pos rfl, if_pos rfl]
        refine Ev2_L p_isWithin (Ev2_R m_isIn ?_)
        cases hc : decide ((0 : Int32).toInt ≤ c.toInt ∧ c.toInt ≤ (9999 : Int32).toInt) with
        | false => exact Ev2_some rfl
        | true =>
          rw [if_pos rfl, if_pos rfl, B.k1]
          have hpw : nk ^ n ≤ 7776 := by
            have h1 : nk ^ n ≤ 6 ^ n := Nat.pow_le_pow_left lk n
            have h2 : 6 ^ n ≤ 6 ^ 5 := Nat.pow_le_pow_right (by decide) hn
            omega
          have hk0 : ∀ row, row < nk ^ n → n = 0 ∨ 0 < nk := fun row hrow => by
            by_cases h0 : n = 0
            · exact Or.inl h0
            · by_cases h1 : nk = 0
              · rw [h1, Nat.zero_pow (by omega)] at hrow; omega
              · exact Or.inr (by omega)
          refine Ev2_L (p_power (by omega) hn) (Ev2_lsL ?_)
          rw [l_32 (by omega)]
          obtain ⟨g, hg⟩ : ∃ g : Nat → Nat, g = fun k => nwo bk I k * nea bk I h := ⟨_, rfl⟩
          refine ⟨Int32.ofNat (ctn (fun row => decide (Int32.ofNat (skn g nk n row) = c)) (nk ^ n)), (Int32.ofNat (ctn (fun row => decide (Int32.ofNat (skn g nk n row) = c)) (nk ^ n)), st2 I2 0 2 0), ?_, ?_, rfl⟩
          · apply Ev_eq
            refine Ev_fix2 (fun x1 x2 => ∃ i, i ≤ nk ^ n ∧ x2 = Int32.ofNat i ∧ x1 = Int32.ofNat (ctn (fun row => decide (Int32.ofNat (skn g nk n row) = c)) i)) (fun _ x2 => (8000 - x2.toInt).toNat) ?_ FU 0 0 (FU_lt (by decide)) ⟨0, by omega, rfl, rfl⟩
            rintro rec x1 x2 ⟨i, hi, rfl, rfl⟩ hrec
            refine Ev_if (fun c => ?_) (fun c' => ?_)
            · have := (n_le (by omega) (by omega)).mp c
              have : i = nk ^ n := by omega
              subst this
              exact Ev_some rfl
            · have hlt : i < nk ^ n := Nat.lt_of_not_le (fun h => c' ((n_le (by omega) (by omega)).mpr h))
              have hn1 : Int32.ofNat i + 1 = Int32.ofNat (i + 1) := n_add i 1
              have hgo : ∀ z, z = Int32.ofNat (ctn (fun row => decide (Int32.ofNat (skn g nk n row) = c)) (i + 1)) → Ev (rec z (Int32.ofNat i + 1)) (fun a => a = Int32.ofNat (ctn (fun row => decide (Int32.ofNat (skn g nk n row) = c)) (nk ^ n))) := fun z hz => by
                rw [hn1]
                refine hrec _ _ ⟨i + 1, by omega, rfl, hz⟩ ?_
                rw [n_toInt (by omega), n_toInt (by omega)]; omega
              rw [p_sumOfKinds B hh hn (by omega) (hk0 i hlt), bd1_s, ← hg]
              refine Ev_ls (Ev_if (fun e => Ev_ls ?_) (fun e => ?_))
              · refine hgo _ ?_
                show Int32.ofNat _ + Int32.ofNat 1 = Int32.ofNat (_ + (if decide _ then 1 else 0))
                rw [n_add, decide_eq_true e]; rfl
              · refine hgo _ ?_
                show Int32.ofNat _ = Int32.ofNat (_ + (if decide _ then 1 else 0))
                rw [decide_eq_false e]; rfl
          · apply Ev_eq
            refine Ev_j1 (fun x5 => x5 = Int32.ofNat (nk ^ n)) ?_ ?_
            · rintro x5 rfl
              refine Ev_fix2 (fun x1 x2 => ∃ i, i ≤ nk ^ n ∧ x2 = Int32.ofNat i ∧ x1 = Int32.ofNat (ctn (fun row => decide (Int32.ofNat (skn g nk n row) = c)) i)) (fun _ x2 => (8000 - x2.toInt).toNat) ?_ FU 0 0 (FU_lt (by decide)) ⟨0, by omega, rfl, rfl⟩
              rintro rec x1 x2 ⟨i, hi, rfl, rfl⟩ hrec
              refine Ev_if (fun c => ?_) (fun c' => ?_)
              · have := (n_le (by omega) (by omega)).mp c
                have : i = nk ^ n := by omega
                subst this
                exact Ev_some rfl
              · have hlt : i < nk ^ n := Nat.lt_of_not_le (fun h => c' ((n_le (by omega) (by omega)).mpr h))
                have hn1 : Int32.ofNat i + 1 = Int32.ofNat (i + 1) := n_add i 1
                have hgo : ∀ z, z = Int32.ofNat (ctn (fun row => decide (Int32.ofNat (skn g nk n row) = c)) (i + 1)) → Ev (rec z (Int32.ofNat i + 1)) (fun a => a = (Int32.ofNat (ctn (fun row => decide (Int32.ofNat (skn g nk n row) = c)) (nk ^ n)), st2 I2 0 2 0)) := fun z hz => by
                  rw [hn1]
                  refine hrec _ _ ⟨i + 1, by omega, rfl, hz⟩ ?_
                  rw [n_toInt (by omega), n_toInt (by omega)]; omega
                have hk := hk0 i hlt
                refine Ev_j1 (fun x8 => x8 = Int32.ofNat (skn g nk n i)) ?_ ?_
                · rintro x8 rfl
                  refine Ev_ls (Ev_if (fun e => ?_) (fun e => ?_))
                  · refine hgo _ ?_
                    show Int32.ofNat _ + Int32.ofNat 1 = Int32.ofNat (_ + (if decide _ then 1 else 0))
                    rw [n_add, decide_eq_true e]; rfl
                  · refine hgo _ ?_
                    show Int32.ofNat _ + Int32.ofNat 0 = Int32.ofNat (_ + (if decide _ then 1 else 0))
                    rw [n_add, decide_eq_false e]; rfl
                · intro j hj
                  refine Ev_fix3 (fun x3 x2 x4 => ∃ s r i', i' ≤ n ∧ r < 10000 ∧ x2 = Int32.ofNat s ∧ x3 = Int32.ofNat r ∧ x4 = Int32.ofNat i' ∧ s + skn g nk (n - i') r = skn g nk n i) (fun _ _ x2 => (8 - x2.toInt).toNat) ?_ FU _ _ _ (FU_lt (by decide)) ⟨0, i, 0, by omega, by omega, rfl, rfl, rfl, Nat.zero_add _⟩
                  rintro rec' x3 x2 x4 ⟨s, r, i', hi', hr', rfl, rfl, rfl, hs⟩ hrec'
                  rw [B'.k2]
                  refine Ev_if (fun c => ?_) (fun c => ?_)
                  · have := (n_le (by omega) (by omega)).mp c
                    have e : n - i' = 0 := by omega
                    rw [e] at hs
                    refine hj _ ?_
                    rw [← hs]; rfl
                  · have hlt' : i' < n := Nat.lt_of_not_le (fun h => c ((n_le (by omega) (by omega)).mpr h))
                    have hk0 : 0 < nk := by omega
                    have hn1' : Int32.ofNat i' + 1 = Int32.ofNat (i' + 1) := n_add i' 1
                    have hm := Nat.mod_lt r hk0
                    have hd := Nat.div_le_self r nk
                    refine Ev_gd (n_nz hk0 (by omega)) ?_
                    rw [n_rem (by omega) (by omega), m_paysOf B' hh hm, bd1_s]
                    refine Ev_ls (Ev_gd (n_nz hk0 (by omega)) (Ev_ls (Ev_ls ?_)))
                    rw [n_div (by omega) (by omega), hn1', n_add]
                    refine hrec' _ _ _ ⟨_, r / nk, i' + 1, by omega, by omega, rfl, rfl, rfl, ?_⟩ ?_
                    · have e : n - i' = n - (i' + 1) + 1 := by omega
                      rw [e] at hs
                      rw [← hs, Nat.add_assoc, hg]
                      rfl
                    rw [n_toInt (by omega), n_toInt (by omega)]; omega
            · intro j hj
              refine Ev_fix2 (fun x1 x2 => ∃ i, i ≤ n ∧ x2 = Int32.ofNat i ∧ x1 = Int32.ofNat (nk ^ i)) (fun _ x2 => (8 - x2.toInt).toNat) ?_ FU 1 0 (FU_lt (by decide)) ⟨0, by omega, rfl, rfl⟩
              rintro rec x1 x2 ⟨i, hi, rfl, rfl⟩ hrec
              refine Ev_if (fun c => ?_) (fun c => ?_)
              · have := (n_le (by omega) (by omega)).mp c
                have : i = n := by omega
                subst this
                exact hj _ rfl
              · have hlt : i < n := Nat.lt_of_not_le (fun h => c ((n_le (by omega) (by omega)).mpr h))
                have hn1 : Int32.ofNat i + 1 = Int32.ofNat (i + 1) := n_add i 1
                refine Ev_ls (Ev_ls ?_)
                rw [B'.k2, n_mul, hn1]
                refine hrec _ _ ⟨i + 1, by omega, rfl, rfl⟩ ?_
                rw [n_toInt (by omega), n_toInt (by omega)]; omega
  obtain ⟨a, b, e, e', q⟩ := key
  exact ⟨a, e, by rw [e', q]⟩
