/-! share -/
def Fs (N : Nat → Nat) : Nat → Nat
  | 0 => 0
  | x + 1 => Fs N x + 60 / N (x + 1)
theorem Fs_add {N : Nat → Nat} {L c : Nat} : ∀ d, (∀ u, L < u → u ≤ L + d → N u = c) → Fs N (L + d) = Fs N L + d * (60 / c)
  | 0, _ => by rw [Nat.zero_mul]; rfl
  | d + 1, h => by
    show Fs N (L + d) + 60 / N (L + d + 1) = _
    rw [Fs_add d (fun u a b => h u a (by omega)), h (L + d + 1) (by omega) (by omega), Nat.add_mul]; omega
theorem Fs_le (N : Nat → Nat) : ∀ x, Fs N x ≤ 60 * x
  | 0 => Nat.le_refl _
  | x + 1 => by
    have h1 := Fs_le N x
    have h2 : 60 / N (x + 1) ≤ 60 := Nat.div_le_self _ _
    show Fs N x + 60 / N (x + 1) ≤ 60 * (x + 1)
    omega
theorem ctn_congr {p q : Nat → Bool} : ∀ n, (∀ k, k < n → p k = q k) → ctn p n = ctn q n
  | 0, _ => rfl
  | n + 1, h => by
    show ctn p n + _ = ctn q n + _
    rw [ctn_congr n (fun k hk => h k (by omega)), h n (by omega)]
theorem ctn_le {p : Nat → Bool} : ∀ n, ctn p n ≤ n
  | 0 => Nat.le_refl _
  | n + 1 => by
    have := ctn_le (p := p) n
    show ctn p n + _ ≤ n + 1
    split <;> omega
theorem ctn_pos {p : Nat → Bool} : ∀ n k, k < n → p k = true → 0 < ctn p n
  | 0, _, h, _ => absurd h (Nat.not_lt_zero _)
  | n + 1, k, h, hp => by
    show 0 < ctn p n + _
    by_cases h' : k = n
    · subst h'; rw [if_pos hp]; omega
    · have := ctn_pos (p := p) n k (by omega) hp; omega
def Ny (g : Nat → Nat) (s nh u : Nat) : Nat := ctn (fun h => s.testBit h && decide (u ≤ g h)) nh
theorem n_t1 (x : Nat) : Int32.ofNat x + 1 = Int32.ofNat (x + 1) := n_add x 1
theorem p_partsOf {bk nk nh nw kn : Nat} {I M : MI} (B : BookR bk I M nk nh nw kn) {s h k : Nat} (hs : s < 64) (hh : h < nh) (hk : k < nk) (hb : s.testBit h = true) : f_X10_partsOf bk I (Int32.ofNat s) (Int32.ofNat h) (Int32.ofNat k) = some (Int32.ofNat (Fs (Ny (pay bk I k) s nh) (pay bk I k h))) := by
  have lh := B.lh
  have hp := pay_le B hh hk
  apply Ev_eq
  delta f_X10_partsOf
  rw [p_alone B hh hk, bd1_s, show nwo bk I k * nea bk I h = pay bk I k h from rfl]
  refine Ev_fix2 (fun x2 x3 => ∃ i, i ≤ pay bk I k h ∧ x3 = Int32.ofNat (i + 1) ∧ x2 = Int32.ofNat (Fs (Ny (pay bk I k) s nh) i)) (fun _ x3 => (2000 - x3.toInt).toNat) ?_ FU 0 1 (FU_lt (by decide)) ⟨0, by omega, rfl, rfl⟩
  rintro rec x2 x3 ⟨i, hi, rfl, rfl⟩ hrec
  refine Ev_if (fun c => ?_) (fun c => ?_)
  · have := (n_lt (by omega) (by omega)).mp c
    have : i = pay bk I k h := by omega
    subst this
    exact Ev_some rfl
  · have hlt : i < pay bk I k h := by
      have : ¬ (pay bk I k h < i + 1) := fun h => c ((n_lt (by omega) (by omega)).mpr h)
      omega
    have hN0 : 0 < Ny (pay bk I k) s nh (i + 1) := ctn_pos nh h hh (by rw [hb, decide_eq_true (show i + 1 ≤ pay bk I k h by omega)]; rfl)
    have hN6 : Ny (pay bk I k) s nh (i + 1) ≤ nh := ctn_le nh
    refine Ev_j1 (fun x4 => x4 = Int32.ofNat (Ny (pay bk I k) s nh (i + 1))) ?_ ?_
    · rintro x4 rfl
      refine Ev_ls (Ev_if (fun c => ?_) (fun _ => ?_))
      · have := (n_le (b := 0) (by omega) (by omega)).mp c
        omega
      · refine Ev_gd (n_nz hN0 (by omega)) (Ev_ls (Ev_ls ?_))
        rw [show (60 : Int32) = Int32.ofNat 60 from rfl, n_div (by omega) (by omega), n_add, n_t1]
        refine hrec _ _ ⟨i + 1, by omega, rfl, rfl⟩ ?_
        rw [n_toInt (by omega), n_toInt (by omega)]; omega
    · intro j hj
      refine Ev_fix2 (fun x8 x9 => ∃ m, m ≤ nh ∧ x9 = Int32.ofNat m ∧ x8 = Int32.ofNat (Ny (pay bk I k) s m (i + 1))) (fun _ x9 => (8 - x9.toInt).toNat) ?_ FU 0 0 (FU_lt (by decide)) ⟨0, by omega, rfl, rfl⟩
      rintro rec' x8 x9 ⟨m, hm, rfl, rfl⟩ hrec'
      rw [B.h1]
      refine Ev_if (fun c => ?_) (fun c => ?_)
      · have := (n_le (by omega) (by omega)).mp c
        have : m = nh := by omega
        subst this
        exact hj _ rfl
      · have hlt' : m < nh := Nat.lt_of_not_le (fun h => c ((n_le (by omega) (by omega)).mpr h))
        have hpm := pay_le B hlt' hk
        have hgo : ∀ z, z = Ny (pay bk I k) s (m + 1) (i + 1) → Ev (rec' (Int32.ofNat z) (Int32.ofNat m + 1)) (fun a => a = Int32.ofNat (Fs (Ny (pay bk I k) s nh) (pay bk I k h))) := fun z hz => by
          rw [n_t1]
          refine hrec' _ _ ⟨m + 1, by omega, rfl, by rw [hz]⟩ ?_
          rw [n_toInt (by omega), n_toInt (by omega)]; omega
        have hNy : Ny (pay bk I k) s (m + 1) (i + 1) = Ny (pay bk I k) s m (i + 1) + (if s.testBit m && decide (i + 1 ≤ pay bk I k m) then 1 else 0) := rfl
        rw [am_is, isOf_s hs (by omega), bd1_s]
        refine Ev_ls ?_
        cases hbm : s.testBit m with
        | false =>
          rw [hbm, Bool.false_and] at hNy
          exact hgo _ hNy.symm
        | true =>
          rw [hbm, Bool.true_and] at hNy
          rw [if_pos rfl, p_alone B hlt' hk, bd1_s, show nwo bk I k * nea bk I m = pay bk I k m from rfl]
          refine Ev_if (fun c => ?_) (fun c => ?_)
          · have c' := (n_lt (by omega) (by omega)).mp c
            rw [decide_eq_false (by omega)] at hNy
            exact hgo _ hNy.symm
          · have c' : ¬ (pay bk I k m < i + 1) := fun h => c ((n_lt (by omega) (by omega)).mpr h)
            rw [decide_eq_true (by omega)] at hNy
            refine Ev_ls ?_
            rw [n_t1 (Ny (pay bk I k) s m (i + 1))]
            exact hgo _ hNy.symm
theorem c_share {bk nk nh nw kn : Nat} {I I2 : MI} (J : MJ) (B : BookR bk I I2 nk nh nw kn) (a b c d : Int32) : ∃ v J', f_X10_share bk I J a b c d = some (v, J') ∧ f_X11_share I2 a b c d = some (v, st2 I2 0 2 0) := by
  have lh := B.lh
  have B' := B.st0
  have hp6 : 2 ^ nh ≤ 64 := Nat.pow_le_pow_right (n := 2) (by decide) lh
  have key : Ev2 (f_X10_share bk I J a b c d) (f_X11_share I2 a b c d) (fun a b => b = (a.1, st2 I2 0 2 0)) := by
    delta f_X10_share f_X11_share
    refine Ev2_lsR (Ev2_L (p_areHouses B a) (Ev2_R (m_areHouses B a) (Ev2_lsR (Ev2_lsL ?_))))
    cases ha : ok6 (2 ^ nh) a with
    | false => exact Ev2_some rfl
    | true =>
      obtain ⟨s, hs, rfl⟩ := ok6_t ha
      rw [if_pos rfl, if_pos rfl]
      refine Ev2_L (p_isHouse B b) (Ev2_R (m_isHouse B b) ?_)
      cases hb : ok6 nh b with
      | false => exact Ev2_some rfl
      | true =>
        obtain ⟨h, hh, rfl⟩ := ok6_t hb
        rw [if_pos rfl, if_pos rfl]
        refine Ev2_L (p_isKind B c) (Ev2_R (m_isKind B c) ?_)
        cases hc : ok6 nk c with
        | false => exact Ev2_some rfl
        | true =>
          obtain ⟨k, hk, rfl⟩ := ok6_t hc
          rw [if_pos rfl, if_pos rfl]
          refine Ev2_L p_isWithin (Ev2_R m_isIn ?_)
          cases hd : decide ((0 : Int32).toInt ≤ d.toInt ∧ d.toInt ≤ (1 : Int32).toInt) with
          | false => exact Ev2_some rfl
          | true =>
            rw [if_pos rfl, if_pos rfl]
            rw [am_is]
            refine Ev2_L (isOf_s (by omega) (by omega)) ?_
            have hp := pay_le B hh hk
            have hF := Fs_le (Ny (pay bk I k) s nh) (pay bk I k h)
            have e60 : (60 : Int64) = Int64.ofNat 60 := rfl
            have hfin : ∀ P, P < 60000 → Ev2 (bd1 (f_X3_put J (Int64.ofNat P) (60 : Int64)) (fun J7 => bd1 (f_X3_told J7 d) (fun x8 => some (Int64.toInt32 x8, J7)))) (bd1 (f_X11_least (Int64.ofNat P) (60 : Int64) d) (fun x7 => some (Int64.toInt32 x7, st2 I2 0 2 0))) (fun a b => b = (a.1, st2 I2 0 2 0)) := fun P hP => by
              rw [e60]
              exact Ev2_L (p_put (by omega) (by decide) (by decide)) (Ev2_L (p_told d) (Ev2_R (m_least (by omega) (by decide) (by decide) d) (Ev2_some rfl)))
            refine Ev2_lsL (Ev2_lsR ?_)
            cases hb' : s.testBit h with
            | false =>
              refine Ev2_rr.mp ?_
              refine Ev_fix2 (fun x8 x9 => x9 = 0) (fun _ _ => 0) ?_ FU 0 0 (FU_lt (by decide)) rfl
              rintro rec x8 x9 rfl _
              rw [isOf_s (by omega) (by omega), hb', bd1_s]
              exact Ev2_rr.mpr (hfin 0 (by omega))
            | true =>
              rw [if_pos rfl]
              refine Ev2_L (p_partsOf B (by omega) hh hk hb') ?_
              rw [n_64 (by omega)]
              refine Ev2_rr.mp ?_
              refine Ev_fix2 (fun x8 x9 => ∃ L, L ≤ pay bk I k h ∧ x8 = Int32.ofNat L ∧ x9 = Int32.ofNat (Fs (Ny (pay bk I k) s nh) L)) (fun x8 _ => (2000 - x8.toInt).toNat) ?_ FU 0 0 (FU_lt (by decide)) ⟨0, by omega, rfl, rfl⟩
              rintro rec x8 x9 ⟨L, hL, rfl, rfl⟩ hrec
              rw [isOf_s (by omega) (by omega), hb', bd1_s, if_pos rfl, m_paysOf B' hh hk, bd1_s, show nwo bk I k * nea bk I h = pay bk I k h from rfl]
              refine Ev_if (fun c => ?_) (fun c => ?_)
              · have := (n_le (by omega) (by omega)).mp c
                have : L = pay bk I k h := by omega
                subst this
                show Ev (bd1 (f_X11_least (Int32.toInt64 (Int32.ofNat (Fs (Ny (pay bk I k) s nh) (pay bk I k h)))) 60 d) _) _
                rw [n_64 (by omega)]
                exact Ev2_rr.mpr (hfin _ (by omega))
              · have hlt : L < pay bk I k h := Nat.lt_of_not_le (fun h => c ((n_le (by omega) (by omega)).mpr h))
                have hN0 : 0 < Ny (pay bk I k) s nh (L + 1) := ctn_pos nh h hh (by rw [hb', decide_eq_true (show L + 1 ≤ pay bk I k h by omega)]; rfl)
                have hN6 : Ny (pay bk I k) s nh (L + 1) ≤ nh := ctn_le nh
                rw [bd1_s]
                refine Ev_j2 (fun x13 x14 => ∃ x, L < x ∧ x ≤ pay bk I k h ∧ (∀ m, m < nh → s.testBit m = true → L < pay bk I k m → x ≤ pay bk I k m) ∧ x13 = Int32.ofNat x ∧ x14 = Int32.ofNat (Ny (pay bk I k) s nh (L + 1))) ?_ ?_
                · rintro x13 x14 ⟨x, hx1, hx2, hx3, rfl, rfl⟩
                  refine Ev_gd (n_nz hN0 (by omega)) (Ev_ls ?_)
                  rw [show (60 : Int32) = Int32.ofNat 60 from rfl, n_div (by omega) (by omega), n_sub (by omega), n_mul, n_add]
                  refine hrec _ _ ⟨x, hx2, rfl, ?_⟩ ?_
                  · have h1 := Fs_add (N := Ny (pay bk I k) s nh) (L := L) (c := Ny (pay bk I k) s nh (L + 1)) (x - L) (fun u h1 h2 => by
                      refine ctn_congr nh (fun m hm => ?_)
                      cases hbm : s.testBit m with
                      | false => rfl
                      | true =>
                        rw [Bool.true_and, Bool.true_and]
                        apply decide_eq_decide.mpr
                        constructor
                        · intro h; omega
                        · intro h
                          have := hx3 m hm hbm (by omega)
                          omega)
                    rw [show L + (x - L) = x by omega] at h1
                    rw [h1]
                  · rw [n_toInt (by omega), n_toInt (by omega)]; omega
                · intro j hj
                  refine Ev_fix3 (fun x16 x17 x18 => ∃ x m, m ≤ nh ∧ x18 = Int32.ofNat m ∧ x17 = Int32.ofNat (Ny (pay bk I k) s m (L + 1)) ∧ x16 = Int32.ofNat x ∧ L < x ∧ x ≤ pay bk I k h ∧ (∀ m', m' < m → s.testBit m' = true → L < pay bk I k m' → x ≤ pay bk I k m')) (fun _ _ x9 => (8 - x9.toInt).toNat) ?_ FU _ 0 0 (FU_lt (by decide)) ⟨pay bk I k h, 0, by omega, rfl, rfl, rfl, hlt, Nat.le_refl _, fun m' h => absurd h (by omega)⟩
                  rintro rec' x16 x17 x18 ⟨x, m, hm, rfl, rfl, rfl, hx1, hx2, hx3⟩ hrec'
                  rw [B'.h2]
                  refine Ev_if (fun c => ?_) (fun c => ?_)
                  · have := (n_le (by omega) (by omega)).mp c
                    have : m = nh := by omega
                    subst this
                    exact hj _ _ ⟨x, hx1, hx2, hx3, rfl, rfl⟩
                  · have hlt' : m < nh := Nat.lt_of_not_le (fun h => c ((n_le (by omega) (by omega)).mpr h))
                    have hpm := pay_le B hlt' hk
                    have hgo : ∀ y z, z = Ny (pay bk I k) s (m + 1) (L + 1) → L < y → y ≤ pay bk I k h → y ≤ x → (s.testBit m = true → L < pay bk I k m → y ≤ pay bk I k m) → Ev (rec' (Int32.ofNat y) (Int32.ofNat z) (Int32.ofNat m + 1)) _ := fun y z hz hy1 hy2 hyx hy3 => by
                      rw [n_t1]
                      refine hrec' _ _ _ ⟨y, m + 1, by omega, rfl, by rw [hz], rfl, hy1, hy2, fun m' h1 h2 h3 => ?_⟩ ?_
                      · by_cases he : m' = m
                        · subst he; exact hy3 h2 h3
                        · have := hx3 m' (by omega) h2 h3; omega
                      rw [n_toInt (by omega), n_toInt (by omega)]; omega
                    have hNy : Ny (pay bk I k) s (m + 1) (L + 1) = Ny (pay bk I k) s m (L + 1) + (if s.testBit m && decide (L + 1 ≤ pay bk I k m) then 1 else 0) := rfl
                    rw [isOf_s (by omega) (by omega), bd1_s]
                    refine Ev_ls ?_
                    cases hbm : s.testBit m with
                    | false =>
                      rw [hbm, Bool.false_and] at hNy
                      exact hgo x _ hNy.symm hx1 hx2 (by omega) (fun h => by rw [hbm] at h; cases h)
                    | true =>
                      rw [hbm, Bool.true_and] at hNy
                      rw [if_pos rfl, m_paysOf B' hlt' hk, bd1_s, show nwo bk I k * nea bk I m = pay bk I k m from rfl]
                      refine Ev_if (fun c => ?_) (fun c => ?_)
                      · have c' := (n_lt (by omega) (by omega)).mp c
                        rw [decide_eq_true (by omega)] at hNy
                        rw [bd1_s]
                        refine Ev_ls (Ev_if (fun c2 => ?_) (fun c2 => ?_))
                        · have c3 := (n_le (by omega) (by omega)).mp c2
                          refine Ev_ls ?_
                          rw [n_t1 (Ny (pay bk I k) s m (L + 1))]
                          exact hgo x _ hNy.symm hx1 hx2 (by omega) (fun _ _ => c3)
                        · have c3 : ¬ x ≤ pay bk I k m := fun h => c2 ((n_le (by omega) (by omega)).mpr h)
                          rw [bd1_s]
                          refine Ev_ls ?_
                          rw [n_t1 (Ny (pay bk I k) s m (L + 1))]
                          exact hgo _ _ hNy.symm c' (by omega) (by omega) (fun _ _ => Nat.le_refl _)
                      · have c' : ¬ (L < pay bk I k m) := fun h => c ((n_lt (by omega) (by omega)).mpr h)
                        rw [decide_eq_false (by omega)] at hNy
                        exact hgo x _ hNy.symm hx1 hx2 (by omega) (fun _ h => absurd h c')
  obtain ⟨a, b, e, e', q⟩ := key
  exact ⟨a.1, a.2, e, by rw [e', q]⟩
