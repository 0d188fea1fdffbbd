/-! waits -/
theorem Ev2_rr {α β : Type} {o : Option α} {u : Option β} {Q : α → β → Prop} : Ev u (fun b => ∃ a, o = some a ∧ Q a b) ↔ Ev2 o u Q :=
  ⟨fun ⟨b, e, a, e', q⟩ => ⟨a, b, e', e, q⟩, fun ⟨a, b, e, e', q⟩ => ⟨b, e', a, e, q⟩⟩
theorem Ev2_ll {α β : Type} {o : Option α} {u : Option β} {Q : α → β → Prop} : Ev o (fun a => ∃ b, u = some b ∧ Q a b) ↔ Ev2 o u Q :=
  ⟨fun ⟨a, e, b, e', q⟩ => ⟨a, b, e, e', q⟩, fun ⟨a, b, e, e', q⟩ => ⟨a, e, b, e', q⟩⟩
def sb (g w : Nat → Nat) (l u : Nat) : Nat → Nat
  | 0 => 0
  | n + 1 => sb g w l u n + g n * max (w n * l) u
theorem sb_le {g w : Nat → Nat} {l u : Nat} (hu : u ≤ 99 * l) : ∀ n, (∀ k, k < n → w k ≤ 99) → sb g w l u n ≤ smn g n * (99 * l)
  | 0, _ => Nat.zero_le _
  | n + 1, h => by
    have h1 := sb_le (g := g) hu n (fun k hk => h k (by omega))
    have h2 : w n * l ≤ 99 * l := Nat.mul_le_mul_right l (h n (by omega))
    have h3 : max (w n * l) u ≤ 99 * l := Nat.max_le.mpr ⟨h2, hu⟩
    have h4 : g n * max (w n * l) u ≤ g n * (99 * l) := Nat.mul_le_mul_left _ h3
    show sb g w l u n + g n * max (w n * l) u ≤ (smn g n + g n) * (99 * l)
    rw [Nat.add_mul]; omega
theorem l_max {a b : Nat} (ha : a < 9223372036854775808) (hb : b < 9223372036854775808) : lmax (Int64.ofNat a) (Int64.ofNat b) = Int64.ofNat (max a b) := by
  unfold lmax
  by_cases h : b < a
  · rw [if_pos ((l_lt hb ha).mpr h), Nat.max_eq_left (by omega)]
  · rw [if_neg (fun c => h ((l_lt hb ha).mp c)), Nat.max_eq_right (by omega)]
theorem p_sumOfBetter {bk nk nh nw kn : Nat} {I M : MI} {J : MJ} (B : BookR bk I M nk nh nw kn) {l u : Nat} (hl : l < 40000000000000000) (hu : u ≤ 99 * l) (j0 : J 79 0 = Int64.ofNat u) (j1 : J 79 1 = Int64.ofNat l) : f_X10_sumOfBetter bk I J = some (Int64.ofNat (sb (nwg bk I) (nwo bk I) l u nk)) := by
  have lk := B.lk
  apply Ev_eq
  delta f_X10_sumOfBetter
  refine Ev_fix2 (fun x1 x2 => ∃ i, i ≤ nk ∧ x2 = Int32.ofNat i ∧ x1 = Int64.ofNat (sb (nwg bk I) (nwo bk I) l u i)) (fun _ x2 => (8 - x2.toInt).toNat) ?_ FU 0 0 (FU_lt (by decide)) ⟨0, by omega, rfl, rfl⟩
  rintro rec x1 x2 ⟨i, hi, rfl, rfl⟩ hrec
  rw [B.k1]
  refine Ev_if (fun c => ?_) (fun c => ?_)
  · have := (n_le (by omega) (by omega)).mp c
    have : i = nk := by omega
    subst this
    exact Ev_some rfl
  · have hlt : i < nk := Nat.lt_of_not_le (fun h => c ((n_le (by omega) (by omega)).mpr h))
    have hn1 : Int32.ofNat i + 1 = Int32.ofNat (i + 1) := n_add i 1
    have hw := B.wo hlt
    have hg := B.wg hlt
    have h2 : nwo bk I i * l ≤ 99 * l := Nat.mul_le_mul_right l hw.1
    refine Ev_gd ((n_inb (by omega)).mpr (by omega)) (Ev_gd ((n_inb (by omega)).mpr (by omega)) (Ev_ls (Ev_ls ?_)))
    rw [n_ix (by omega), hn1, hw.2.1, hg.2.1, j0, j1, n_64 (by omega), n_64 (by omega), l_mul, l_max (by omega) (by omega), l_mul, l_add]
    refine hrec _ _ ⟨i + 1, by omega, rfl, rfl⟩ ?_
    rw [n_toInt (by omega), n_toInt (by omega)]; omega
theorem pw594 : ∀ i : Fin 7, 594 ^ i.1 * 99 ≤ 4400000000000000000 := by decide
theorem c_waits {bk nk nh nw kn nd : Nat} {I I2 : MI} (J : MJ) (B : BookR bk I I2 nk nh nw kn) (D : DayR bk I I2 nk nd) (a b : Int32) : ∃ v J', f_X10_waits bk I J a b = some (v, J') ∧ f_X11_waits I2 a b = some (v, st2 I2 0 2 0) := by
  have lk := B.lk
  have B' := B.st0
  have hw := nws_sm B
  have hW : I bk 17 = Int32.ofNat (nws bk I nk) := by rw [D.ws, hw.1]
  have key : Ev2 (f_X10_waits bk I J a b) (f_X11_waits I2 a b) (fun a b => b = (a.1, st2 I2 0 2 0)) := by
    delta f_X10_waits f_X11_waits
    refine Ev2_lsR (Ev2_L p_isWithin (Ev2_R m_isIn (Ev2_lsL (Ev2_lsR ?_))))
    cases ha : decide ((0 : Int32).toInt ≤ a.toInt ∧ a.toInt ≤ (6 : Int32).toInt) with
    | false => exact Ev2_some rfl
    | true =>
      obtain ⟨n, hn, rfl⟩ := in_t (n := 6) (by omega) ha
      rw [if_pos rfl, if_pos rfl]
      refine Ev2_L p_isWithin (Ev2_R m_isIn ?_)
      cases hb : decide ((0 : Int32).toInt ≤ b.toInt ∧ b.toInt ≤ (1 : Int32).toInt) with
      | false => exact Ev2_some rfl
      | true =>
        rw [if_pos rfl, if_pos rfl, hW]
        have hput : f_X3_put J 0 1 = some (st2 (st2 J 79 0 (Int64.ofNat (0 / Nat.gcd 0 1))) 79 1 (Int64.ofNat (1 / Nat.gcd 0 1))) := p_put (a := 0) (b := 1) (by decide) (by decide) (by decide)
        rw [Nat.gcd_one_right, Nat.div_one, Nat.div_one] at hput
        refine Ev2_L hput (Ev2_lsL (Ev2_lsR ?_))
        have hend : ∀ (J7 : MJ) (x7 x8 : Int64), J7 79 0 = x7 → J7 79 1 = x8 → Ev2 (bd1 (f_X3_told J7 b) (fun x5 => some (x5, J7))) (lt (fun (x6 : Int64) => some (x6, st2 I2 0 2 0)) (fun j155 => if b = (0 : Int32) then (j155 x7) else (j155 x8))) (fun a b => b = (a.1, st2 I2 0 2 0)) := fun J7 x7 x8 h7 h8 => by
          delta f_X3_told
          rw [h7, h8]
          by_cases hb0 : b = 0
          · simp only [lt, if_pos hb0, bd1_s]
            exact Ev2_some rfl
          · simp only [lt, if_neg hb0, bd1_s]
            exact Ev2_some rfl
        refine Ev2_fix23 (fun x6 J7 x7 x8 x9 => x9 = x6 ∧ ∃ i u l, i ≤ n ∧ x6 = Int32.ofNat i ∧ J7 79 0 = x7 ∧ J7 79 1 = x8 ∧ x7 = Int64.ofNat u ∧ x8 = Int64.ofNat l ∧ 0 < l ∧ l ≤ 594 ^ i ∧ u ≤ 99 * l) (fun x6 _ _ _ _ => (80 - x6.toInt).toNat) ?_ FU _ _ _ _ _ (FU_lt (by decide)) ⟨rfl, 0, 0, 1, by omega, rfl, rfl, rfl, rfl, rfl, by omega, by omega, by omega⟩
        rintro r q x6 J7 x7 x8 x9 ⟨rfl, i, u, l, hi, rfl, h7, h8, rfl, rfl, hl0, hl, hu⟩ hrec
        refine Ev2_if Iff.rfl (fun _ _ => hend _ _ _ h7 h8) (fun c _ => ?_)
        have hlt : i < n := Nat.lt_of_not_le (fun h => c ((n_le (by omega) (by omega)).mpr h))
        have hn1 : Int32.ofNat i + 1 = Int32.ofNat (i + 1) := n_add i 1
        refine Ev2_R (m_weightAll B') ?_
        refine Ev2_if Iff.rfl (fun _ _ => hend _ _ _ h7 h8) (fun c' _ => ?_)
        have hW0 : 0 < nws bk I nk := Nat.lt_of_not_le (fun h => c' ((n_le (b := 0) (by omega) (by omega)).mpr h))
        have hp := pw594 ⟨i + 1, by omega⟩
        simp only at hp
        rw [Nat.pow_succ] at hp
        have hl2 : l * 594 ≤ 594 ^ i * 594 := Nat.mul_le_mul_right _ hl
        have hT : l * nws bk I nk ≤ l * 594 := Nat.mul_le_mul_left _ hw.2
        have hT0 : 0 < l * nws bk I nk := Nat.mul_pos hl0 hW0
        have hS := sb_le (g := nwg bk I) (w := nwo bk I) hu nk (fun k hk => (B.wo hk).1)
        have hS2 : smn (nwg bk I) nk * (99 * l) = 99 * (l * nws bk I nk) := by
          show nws bk I nk * (99 * l) = _
          rw [Nat.mul_comm, Nat.mul_assoc]
        rw [hS2] at hS
        obtain ⟨S, hSe⟩ : ∃ S, S = sb (nwg bk I) (nwo bk I) l u nk := ⟨_, rfl⟩
        obtain ⟨T, hTe⟩ : ∃ T, T = l * nws bk I nk := ⟨_, rfl⟩
        rw [← hSe] at hS
        rw [← hTe] at hS hT hT0
        have hl3 : l < 40000000000000000 := by omega
        refine Ev2_L (p_sumOfBetter B hl3 hu h7 h8) ?_
        rw [h8, n_64 (by omega), l_mul, ← hSe, ← hTe]
        refine Ev2_L (p_put (by omega) (by omega) hT0) (Ev2_lsL ?_)
        have hg0 : 0 < Nat.gcd S T := Nat.gcd_pos_of_pos_right S hT0
        have hgS : Nat.gcd S T ∣ S := Nat.gcd_dvd_left S T
        have hgT : Nat.gcd S T ∣ T := Nat.gcd_dvd_right S T
        have hg1 : Nat.gcd S T ≤ T := Nat.le_of_dvd hT0 hgT
        refine Ev2_rr.mp ?_
        have hcont : Ev2 (r (Int32.ofNat i + 1) (st2 (st2 J7 79 0 (Int64.ofNat (S / Nat.gcd S T))) 79 1 (Int64.ofNat (T / Nat.gcd S T)))) (bd1 (f_X11_weightAll (st2 I2 0 2 0)) (fun x12 => lt (Int64.ofNat l * (Int32.toInt64 x12)) (fun x13 => bd1 (f_X11_least (Int64.ofNat S) x13 (0 : Int32)) (fun x14 => bd1 (f_X11_least (Int64.ofNat S) x13 (1 : Int32)) (fun x15 => lt (Int32.ofNat i + (1 : Int32)) (fun x16 => q x14 x15 x16)))))) (fun a b => b = (a.1, st2 I2 0 2 0)) := by
          refine Ev2_R (m_weightAll B') (Ev2_lsR ?_)
          rw [n_64 (by omega), l_mul, ← hTe]
          refine Ev2_R (m_least (by omega) (by omega) hT0 0) (Ev2_R (m_least (by omega) (by omega) hT0 1) (Ev2_lsR ?_))
          rw [if_pos rfl, if_neg (by decide), hn1]
          refine hrec _ _ _ _ _ ⟨rfl, i + 1, S / Nat.gcd S T, T / Nat.gcd S T, by omega, rfl, rfl, rfl, rfl, rfl, Nat.div_pos hg1 hg0, ?_, ?_⟩ ?_
          · have h1 : T / Nat.gcd S T ≤ T := Nat.div_le_self _ _
            rw [Nat.pow_succ]; omega
          · have h1 := Nat.div_le_div_right (c := Nat.gcd S T) hS
            rw [Nat.mul_div_assoc 99 hgT] at h1
            exact h1
          · rw [n_toInt (by omega), n_toInt (by omega)]; omega
        refine Ev_j1 (fun x11 => x11 = Int64.ofNat S) ?_ ?_
        · rintro x11 rfl
          exact Ev2_rr.mpr hcont
        · intro j hj
          refine Ev_fix2 (fun x1 x2 => ∃ i, i ≤ nk ∧ x2 = Int32.ofNat i ∧ x1 = Int64.ofNat (sb (nwg bk I) (nwo bk I) l u i)) (fun _ x2 => (8 - x2.toInt).toNat) ?_ FU 0 0 (FU_lt (by decide)) ⟨0, by omega, rfl, rfl⟩
          rintro rec x1 x2 ⟨i, hi, rfl, rfl⟩ hrec
          rw [B'.k2]
          refine Ev_if (fun c => ?_) (fun c => ?_)
          · have := (n_le (by omega) (by omega)).mp c
            have : i = nk := by omega
            subst this
            exact hj _ (by rw [hSe])
          · have hlt : i < nk := Nat.lt_of_not_le (fun h => c ((n_le (by omega) (by omega)).mpr h))
            have hn1 : Int32.ofNat i + 1 = Int32.ofNat (i + 1) := n_add i 1
            have hw := B'.wo hlt
            have hg := B'.wg hlt
            have h2 : nwo bk I i * l ≤ 99 * l := Nat.mul_le_mul_right l hw.1
            have hgo : ∀ z, z = max (nwo bk I i * l) u → Ev (rec (Int64.ofNat (sb (nwg bk I) (nwo bk I) l u i) + Int64.ofNat (nwg bk I i) * Int64.ofNat z) (Int32.ofNat i + 1)) (fun b => ∃ a, r (Int32.ofNat _ + 1) _ = some a ∧ b = (a.1, st2 I2 0 2 0)) := fun z hz => by
              rw [hn1, l_mul, l_add, hz]
              refine hrec _ _ ⟨i + 1, by omega, rfl, rfl⟩ ?_
              rw [n_toInt (by omega), n_toInt (by omega)]; omega
            refine Ev_gd ((n_inb (by omega)).mpr (by omega)) (Ev_ls (Ev_gd ((n_inb (by omega)).mpr (by omega)) (Ev_ls ?_)))
            rw [n_ix (by omega), hw.2.2, hg.2.2, n_64 (by omega), n_64 (by omega), l_mul]
            refine Ev_if (fun c => ?_) (fun c => ?_)
            · have c' := (l_le (by omega) (by omega)).mp c
              exact hgo _ (Nat.max_eq_right c').symm
            · have c' : ¬ _ ≤ _ := fun h => c ((l_le (by omega) (by omega)).mpr h)
              exact hgo _ (Nat.max_eq_left (by omega)).symm
  obtain ⟨a, b, e, e', q⟩ := key
  exact ⟨a.1, a.2, e, by rw [e', q]⟩
