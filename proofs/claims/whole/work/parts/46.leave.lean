/-! leave -/
def mo (g : Nat → Nat) (s : Nat) : Nat → Nat
  | 0 => 0
  | n + 1 => if s.testBit n then max (mo g s n) (g n) else mo g s n
theorem mo_le {g : Nat → Nat} {s b : Nat} : ∀ n, (∀ k, k < n → g k ≤ b) → mo g s n ≤ b
  | 0, _ => Nat.zero_le _
  | n + 1, h => by
    have h1 := mo_le (s := s) n (fun k hk => h k (by omega))
    have h2 := h n (by omega)
    show (if _ then _ else _) ≤ b
    split
    · exact Nat.max_le.mpr ⟨h1, h2⟩
    · exact h1
theorem n_max {a b : Nat} (ha : a < 2147483648) (hb : b < 2147483648) : imax (Int32.ofNat a) (Int32.ofNat b) = Int32.ofNat (max a b) := by
  unfold imax
  by_cases h : a < b
  · rw [if_pos ((n_lt ha hb).mpr h), Nat.max_eq_right (by omega)]
  · rw [if_neg (fun c => h ((n_lt ha hb).mp c)), Nat.max_eq_left (by omega)]
def pay (bk : Nat) (I : MI) (k h : Nat) : Nat := nwo bk I k * nea bk I h
theorem pay_le {bk nk nh nw kn : Nat} {I M : MI} (B : BookR bk I M nk nh nw kn) {h k : Nat} (hh : h < nh) (hk : k < nk) : pay bk I k h ≤ 891 := by
  have h1 := (B.wo hk).1
  have h2 := (B.ea hh).1
  exact Nat.mul_le_mul h1 h2
theorem p_mostOf {bk nk nh nw kn : Nat} {I M : MI} (B : BookR bk I M nk nh nw kn) {s k : Nat} (hs : s < 64) (hk : k < nk) : f_X10_mostOf bk I (Int32.ofNat s) (Int32.ofNat k) = some (Int32.ofNat (mo (pay bk I k) s nh)) := by
  have lh := B.lh
  apply Ev_eq
  delta f_X10_mostOf
  refine Ev_fix2 (fun x1 x2 => ∃ i, i ≤ nh ∧ x2 = Int32.ofNat i ∧ x1 = Int32.ofNat (mo (pay bk I k) s i)) (fun _ x2 => (8 - x2.toInt).toNat) ?_ FU 0 0 (FU_lt (by decide)) ⟨0, by omega, rfl, rfl⟩
  rintro rec x1 x2 ⟨i, hi, rfl, rfl⟩ hrec
  rw [B.h1]
  refine Ev_if (fun c => ?_) (fun c => ?_)
  · have := (n_le (by omega) (by omega)).mp c
    have : i = nh := by omega
    subst this
    exact Ev_some rfl
  · have hlt : i < nh := Nat.lt_of_not_le (fun h => c ((n_le (by omega) (by omega)).mpr h))
    have hn1 : Int32.ofNat i + 1 = Int32.ofNat (i + 1) := n_add i 1
    have hgo : ∀ x, x = mo (pay bk I k) s (i + 1) → Ev (rec (Int32.ofNat x) (Int32.ofNat i + 1)) (fun a => a = Int32.ofNat (mo (pay bk I k) s nh)) := fun x hx => by
      rw [hn1]
      refine hrec _ _ ⟨i + 1, by omega, rfl, by rw [hx]⟩ ?_
      rw [n_toInt (by omega), n_toInt (by omega)]; omega
    rw [am_is, isOf_s hs (by omega), bd1_s]
    have hm := mo_le (g := pay bk I k) (s := s) (b := 891) i (fun h hh => pay_le B (by omega) hk)
    have hp := pay_le B hlt hk
    refine Ev_ls ?_
    have hmo : mo (pay bk I k) s (i + 1) = if s.testBit i then max (mo (pay bk I k) s i) (pay bk I k i) else mo (pay bk I k) s i := rfl
    cases hb : s.testBit i with
    | true =>
      rw [if_pos rfl, p_alone B hlt hk, bd1_s]
      refine Ev_ls ?_
      rw [show nwo bk I k * nea bk I i = pay bk I k i from rfl, n_max (by omega) (by omega)]
      refine hgo _ ?_
      rw [hmo, if_pos hb]
    | false =>
      refine hgo _ ?_
      rw [hmo, if_neg (by rw [hb]; decide)]
theorem m_mostOf {bk nk nh nw kn : Nat} {I M : MI} (B : BookR bk I M nk nh nw kn) {s k : Nat} (hs : s < 64) (hk : k < nk) : f_X11_mostOf M (Int32.ofNat s) (Int32.ofNat k) = some (Int32.ofNat (mo (pay bk I k) s nh)) := by
  have lh := B.lh
  apply Ev_eq
  delta f_X11_mostOf
  refine Ev_fix2 (fun x1 x2 => ∃ i, i ≤ nh ∧ x2 = Int32.ofNat i ∧ x1 = Int32.ofNat (mo (pay bk I k) s i)) (fun _ x2 => (8 - x2.toInt).toNat) ?_ FU 0 0 (FU_lt (by decide)) ⟨0, by omega, rfl, rfl⟩
  rintro rec x1 x2 ⟨i, hi, rfl, rfl⟩ hrec
  rw [B.h2]
  refine Ev_if (fun c => ?_) (fun c => ?_)
  · have := (n_le (by omega) (by omega)).mp c
    have : i = nh := by omega
    subst this
    exact Ev_some rfl
  · have hlt : i < nh := Nat.lt_of_not_le (fun h => c ((n_le (by omega) (by omega)).mpr h))
    have hn1 : Int32.ofNat i + 1 = Int32.ofNat (i + 1) := n_add i 1
    have hgo : ∀ x, x = mo (pay bk I k) s (i + 1) → Ev (rec (Int32.ofNat x) (Int32.ofNat i + 1)) (fun a => a = Int32.ofNat (mo (pay bk I k) s nh)) := fun x hx => by
      rw [hn1]
      refine hrec _ _ ⟨i + 1, by omega, rfl, by rw [hx]⟩ ?_
      rw [n_toInt (by omega), n_toInt (by omega)]; omega
    rw [isOf_s hs (by omega), bd1_s]
    have hm := mo_le (g := pay bk I k) (s := s) (b := 891) i (fun h hh => pay_le B (by omega) hk)
    have hp := pay_le B hlt hk
    refine Ev_ls (Ev_ls ?_)
    have hmo : mo (pay bk I k) s (i + 1) = if s.testBit i then max (mo (pay bk I k) s i) (pay bk I k i) else mo (pay bk I k) s i := rfl
    cases hb : s.testBit i with
    | true =>
      rw [if_pos rfl, m_paysOf B hlt hk, bd1_s, bd1_s, show nwo bk I k * nea bk I i = pay bk I k i from rfl]
      rw [if_pos hb] at hmo
      refine Ev_if (fun c => ?_) (fun c => ?_)
      · have := (n_le (by omega) (by omega)).mp c
        refine hgo _ ?_
        rw [hmo, Nat.max_eq_left (by omega)]
      · have : mo (pay bk I k) s i < pay bk I k i := Nat.lt_of_not_le (fun h => c ((n_le (by omega) (by omega)).mpr h))
        refine hgo _ ?_
        rw [hmo, Nat.max_eq_right (by omega)]
    | false =>
      refine hgo _ ?_
      rw [hmo, if_neg (by rw [hb]; decide)]
theorem sub_is : ∀ s t : Fin 64, (Int32.ofNat s.1 &&& Int32.ofNat t.1 = Int32.ofNat s.1) ↔ (Int32.ofNat s.1 &&& (Int32.ofNat t.1 ^^^ (-1 : Int32)) = 0) := by decide +kernel
theorem c_leave {bk nk nh nw kn : Nat} {I I2 : MI} (B : BookR bk I I2 nk nh nw kn) (a b : Int32) : ∃ v, f_X10_leave bk I a b = some v ∧ f_X11_leave I2 a b = some (v, st2 I2 0 2 0) := by
  have lh := B.lh
  have B' := B.st0
  have hp6 : 2 ^ nh ≤ 64 := Nat.pow_le_pow_right (n := 2) (by decide) lh
  have z1 : (1 : Int32).toInt = 1 := rfl
  have key : Ev2 (f_X10_leave bk I a b) (f_X11_leave I2 a b) (fun a b => b = (a, st2 I2 0 2 0)) := by
    delta f_X10_leave f_X11_leave
    refine Ev2_lsR (Ev2_R (m_areHouses B a) (Ev2_lsR (Ev2_lsL ?_)))
    cases ha : ok6 (2 ^ nh) a with
    | false =>
      refine Ev2_ifL (fun _ => Ev2_some rfl) (fun _ => ?_)
      refine Ev2_L (p_areHouses B a) ?_
      rw [ha]
      exact Ev2_some rfl
    | true =>
      have ha' := ha
      obtain ⟨s, hs, rfl⟩ := ok6_t ha
      rw [if_pos rfl]
      by_cases h0 : s = 0
      · subst h0
        exact Ev2_some rfl
      have hn0 : ¬ Int32.ofNat s = 0 := fun e => h0 ((n_eq (b := 0) (by omega) (by omega)).mp e)
      have hn1 : ¬ Int32.ofNat s < 1 := fun e => by
        rw [Int32.lt_iff_toInt_lt, n_toInt (by omega), z1] at e; omega
      rw [if_neg hn0, if_neg hn1]
      refine Ev2_L (p_areHouses B _) ?_
      rw [ha', if_pos rfl]
      refine Ev2_L (p_isKind B b) (Ev2_R (m_isKind B b) ?_)
      cases hb : ok6 nk b with
      | false => exact Ev2_some rfl
      | true =>
        obtain ⟨k, hk, rfl⟩ := ok6_t hb
        rw [if_pos rfl, if_pos rfl]
        refine Ev2_L (p_bitCount ⟨s, by omega⟩) (Ev2_L (p_mostOf B (by omega) hk) ?_)
        refine Ev2_fix11 (fun x y => y = x ∧ ∃ i, i ≤ s + 1 ∧ x = Int32.ofNat i) (fun x _ => (80 - x.toInt).toNat) ?_ FU _ _ (FU_lt (by decide)) ⟨rfl, 1, by omega, rfl⟩
        rintro r q x y ⟨rfl, i, hi, rfl⟩ hrec
        refine Ev2_if Iff.rfl (fun _ _ => Ev2_some rfl) (fun c _ => ?_)
        have hlt : i ≤ s := Nat.le_of_not_lt (fun h => c ((n_lt (by omega) (by omega)).mpr h))
        have hn1 : Int32.ofNat i + 1 = Int32.ofNat (i + 1) := n_add i 1
        have hgo : Ev2 (r (Int32.ofNat i + 1)) (q (Int32.ofNat i + 1)) (fun a b => b = (a, st2 I2 0 2 0)) := by
          rw [hn1]
          refine hrec _ _ ⟨rfl, i + 1, by omega, rfl⟩ ?_
          rw [n_toInt (by omega), n_toInt (by omega)]; omega
        refine Ev2_lsL (Ev2_lsR ?_)
        have hsi := sub_is ⟨i, by omega⟩ ⟨s, by omega⟩
        refine Ev2_if hsi (fun _ _ => ?_) (fun _ _ => ?_)
        · refine Ev2_lsL (Ev2_lsL ?_)
          rw [if_neg (by decide)]
          refine Ev2_L (p_mostOf B (by omega) hk) (Ev2_L (p_bitCount ⟨i, by omega⟩) ?_)
          refine Ev2_R (m_mostOf B' (by omega) hk) (Ev2_R (m_manyOf (by omega)) (Ev2_R (m_mostOf B' (by omega) hk) (Ev2_R (m_manyOf (by omega)) ?_)))
          simp only [n_mul, Nat.mul_comm (pcn i 6)]
          exact Ev2_if Iff.rfl (fun _ _ => hgo) (fun _ _ => Ev2_some rfl)
        · refine Ev2_lsL (Ev2_lsL ?_)
          rw [if_pos (by rfl)]
          exact hgo
  obtain ⟨a, b, e, e', q⟩ := key
  exact ⟨a, e, by rw [e', q]⟩
