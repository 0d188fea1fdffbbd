/-! among -/
def sS (I2 : MI) (nh s : Nat) : Int32 := sm (fun h => if s.testBit h then I2 26 h - I2 27 h else 0) nh
theorem p_sumOf {bk nk nh nw kn su dn dy : Nat} {I I2 : MI} {J2 : MJ} (B : BookR bk I I2 nk nh nw kn) (W : TownR I I2 J2 nk nh su dn dy) {s : Nat} (hs : s < 64) : f_X10_sumOf bk I (Int32.ofNat s) = some (sS I2 nh s) := by
  have lh := B.lh
  apply Ev_eq
  delta f_X10_sumOf
  refine Ev_fix2 (fun x1 x2 => ∃ i, i ≤ nh ∧ x2 = Int32.ofNat i ∧ x1 = sS I2 i s) (fun _ x2 => (8 - x2.toInt).toNat) ?_ FU 0 0 (FU_lt (by decide)) ⟨0, by omega, rfl, rfl⟩
  rintro rec x1 x2 ⟨i, hi, rfl, rfl⟩ hrec
  rw [B.h1]
  refine Ev_if (fun c => ?_) (fun c => ?_)
  · have := (n_le (by omega) (by omega)).mp c
    have : i = nh := by omega
    subst this
    exact Ev_some rfl
  · have hlt : i < nh := Nat.lt_of_not_le (fun h => c ((n_le (by omega) (by omega)).mpr h))
    have hn1 : Int32.ofNat i + 1 = Int32.ofNat (i + 1) := n_add i 1
    have hgo : ∀ x, x = sS I2 (i + 1) s → Ev (rec x (Int32.ofNat i + 1)) (fun a => a = sS I2 nh s) := fun x hx => by
      rw [hn1]
      refine hrec _ _ ⟨i + 1, by omega, rfl, hx⟩ ?_
      rw [n_toInt (by omega), n_toInt (by omega)]; omega
    rw [am_is, isOf_s hs (by omega), bd1_s]
    refine Ev_ls ?_
    cases hb : s.testBit i with
    | true =>
      rw [if_pos rfl, p_worthOf B W hlt, bd1_s]
      refine Ev_ls ?_
      refine hgo _ ?_
      show _ = sS I2 i s + (if s.testBit i then _ else _)
      rw [if_pos hb]
    | false =>
      refine hgo _ ?_
      show _ = sS I2 i s + (if s.testBit i then _ else _)
      rw [if_neg (by rw [hb]; decide)]
      exact (Int32.add_zero _).symm
theorem m_sumOf {bk nk nh nw kn su dn dy : Nat} {I I2 : MI} {J2 : MJ} (B : BookR bk I I2 nk nh nw kn) (W : TownR I I2 J2 nk nh su dn dy) {s : Nat} (hs : s < 64) : f_X11_sumOf (st2 I2 0 2 0) (Int32.ofNat s) = some (sS I2 nh s) := by
  obtain ⟨v, e1, e2⟩ := c_sumOf B W (Int32.ofNat s)
  rw [p_sumOf B W hs] at e1
  rw [e2, ← e1]
theorem sS0 (I2 : MI) (nh : Nat) : sS I2 nh 0 = 0 := by
  have h := sm_tail (f := fun h => if Nat.testBit 0 h then I2 26 h - I2 27 h else 0) (n := 0) nh (fun k _ _ => by rw [Nat.zero_testBit]; rfl)
  rw [Nat.zero_add] at h
  exact h
def nos (s su n : Nat) : Bool := decide (∀ h, h < n → ¬ (s.testBit h = true ∧ su.testBit h = true))
theorem p_none {bk nk nh nw kn su dn dy : Nat} {I I2 : MI} {J2 : MJ} (B : BookR bk I I2 nk nh nw kn) (W : TownR I I2 J2 nk nh su dn dy) {s : Nat} (hs : s < 64) : f_X10_noneSoldUp bk I (Int32.ofNat s) = some (nos s su nh) := by
  have lh := B.lh
  apply Ev_eq
  delta f_X10_noneSoldUp
  refine Ev_fix1 (fun x2 => ∃ i, i ≤ nh ∧ x2 = Int32.ofNat i ∧ ∀ h, h < i → ¬ (s.testBit h = true ∧ su.testBit h = true)) (fun x2 => (8 - x2.toInt).toNat) ?_ FU 0 (FU_lt (by decide)) ⟨0, by omega, rfl, fun h hh => absurd hh (by omega)⟩
  rintro rec x2 ⟨i, hi, rfl, hq⟩ hrec
  rw [B.h1]
  refine Ev_if (fun c => ?_) (fun c => ?_)
  · have := (n_le (by omega) (by omega)).mp c
    have : i = nh := by omega
    subst this
    exact Ev_some (decide_eq_true hq).symm
  · have hlt : i < nh := Nat.lt_of_not_le (fun h => c ((n_le (by omega) (by omega)).mpr h))
    have hn1 : Int32.ofNat i + 1 = Int32.ofNat (i + 1) := n_add i 1
    have hgo : ¬ (s.testBit i = true ∧ su.testBit i = true) → Ev (rec (Int32.ofNat i + 1)) (fun a => a = nos s su nh) := fun hx => by
      rw [hn1]
      refine hrec _ ⟨i + 1, by omega, rfl, fun h hh => ?_⟩ ?_
      · by_cases h' : h = i
        · subst h'; exact hx
        · exact hq h (by omega)
      rw [n_toInt (by omega), n_toInt (by omega)]; omega
    rw [am_is, isOf_s hs (by omega), bd1_s]
    refine Ev_ls ?_
    cases hb : s.testBit i with
    | false => exact hgo (fun h => by rw [hb] at h; cases h.1)
    | true =>
      rw [if_pos rfl]
      refine Ev_gd ((n_inb (by omega)).mpr (by omega)) ?_
      rw [n_ix (by omega), W.s1 i (by omega)]
      cases hc : su.testBit i with
      | false =>
        rw [if_pos (by rfl)]
        exact hgo (fun h => by rw [hc] at h; cases h.2)
      | true =>
        rw [if_neg (by decide)]
        refine Ev_some (decide_eq_false (fun h => ?_)).symm
        exact h i hlt ⟨hb, hc⟩
theorem and_0 : ∀ s t : Fin 64, (Int32.ofNat s.1 &&& Int32.ofNat t.1 = 0) ↔ ∀ h : Fin 6, ¬ (s.1.testBit h.1 = true ∧ t.1.testBit h.1 = true) := by decide +kernel
theorem nos_and {s su n : Nat} (hn : n ≤ 6) (hs : s < 2 ^ n) (hu : su < 64) : (Int32.ofNat s &&& Int32.ofNat su = 0) ↔ nos s su n = true := by
  have h6 : s < 64 := Nat.lt_of_lt_of_le hs (Nat.pow_le_pow_right (n := 2) (by decide) hn)
  rw [and_0 ⟨s, h6⟩ ⟨su, hu⟩]
  unfold nos
  rw [decide_eq_true_iff]
  constructor
  · intro h k hk
    exact h ⟨k, by omega⟩
  · intro h k
    by_cases hk : k.1 < n
    · exact h k.1 hk
    · intro ⟨h1, _⟩
      have : s.testBit k.1 = false := Nat.testBit_lt_two_pow (Nat.lt_of_lt_of_le hs (Nat.pow_le_pow_right (n := 2) (by decide) (by omega)))
      rw [this] at h1; cases h1
def enc : Option Nat → Int32
  | none => -2
  | some j => Int32.ofNat j
def amf (q : Nat → Bool) : Nat → Option Nat
  | 0 => none
  | i + 1 => match amf q i with
    | none => if q i then some i else none
    | some j => if q i then (if pcn i 6 < pcn j 6 then some i else some j) else some j
theorem amf_s (q : Nat → Bool) (i : Nat) : amf q (i + 1) = match amf q i with
    | none => if q i then some i else none
    | some j => if q i then (if pcn i 6 < pcn j 6 then some i else some j) else some j := rfl
theorem amf_lt (q : Nat → Bool) : ∀ i j, amf q i = some j → j < i
  | 0, j, h => by cases h
  | i + 1, j, h => by
    unfold amf at h
    split at h
    · split at h
      · cases h; omega
      · cases h
    · next e =>
      have := amf_lt q i _ e
      split at h
      · split at h
        · cases h; omega
        · cases h; omega
      · cases h; omega
theorem pw_1 : ∀ n : Fin 7, (1 : Int32) <<< (Int32.ofNat n.1 &&& 31) = Int32.ofNat (2 ^ n.1) := by decide +kernel
theorem enc_neg {j : Nat} (h : j < 2147483648) : ¬ Int32.ofNat j = -2 ∧ ¬ Int32.ofNat j < 0 ∧ ¬ Int32.ofNat j = -1 ∧ (0 : Int32) ≤ Int32.ofNat j := by
  refine ⟨fun e => ?_, fun e => ?_, fun e => ?_, ?_⟩
  · have := congrArg Int32.toInt e
    rw [n_toInt h] at this
    have h2 : (-2 : Int32).toInt = -2 := rfl
    omega
  · rw [Int32.lt_iff_toInt_lt, n_toInt h, z0] at e; omega
  · have := congrArg Int32.toInt e
    rw [n_toInt h] at this
    have h2 : (-1 : Int32).toInt = -1 := rfl
    omega
  · rw [Int32.le_iff_toInt_le, n_toInt h, z0]; omega
theorem c_among {bk nk nh nw kn su dn dy : Nat} {I I2 : MI} {J2 : MJ} (B : BookR bk I I2 nk nh nw kn) (W : TownR I I2 J2 nk nh su dn dy) (a : Int32) : ∃ v, f_X10_among bk I a = some v ∧ f_X11_among I2 a = some (v, st2 I2 0 2 0) := by
  have lh := B.lh
  have B' := B.st0
  delta f_X10_among f_X11_among
  rw [p_isWithin, bd1_s]
  show ∃ v, _ ∧ bd1 (f_X11_isIn a 1 9999) _ = _
  rw [m_isIn, bd1_s]
  have z1 : (1 : Int32).toInt = 1 := rfl
  by_cases ha : (1 : Int32).toInt ≤ a.toInt ∧ a.toInt ≤ (9999 : Int32).toInt
  case neg => 
    rw [decide_eq_false ha]
    exact ⟨_, rfl, rfl⟩
  rw [decide_eq_true ha, if_pos rfl, if_pos rfl]
  have hp6 : 2 ^ nh ≤ 64 := Nat.pow_le_pow_right (n := 2) (by decide) lh
  have hp0 : 1 ≤ 2 ^ nh := Nat.one_le_two_pow
  have e1 := pw_1 ⟨nh, by omega⟩
  simp only at e1
  obtain ⟨Q, hQ⟩ : ∃ Q : Nat → Bool, ∀ s, Q s = (nos s su nh && decide (a ≤ sS I2 nh s)) := ⟨_, fun _ => rfl⟩
  refine ⟨enc (amf Q (2 ^ nh)), ?_, ?_⟩
  · apply Ev_eq
    rw [B.h1, e1]
    refine Ev_fix2 (fun x1 x2 => ∃ i, i ≤ 2 ^ nh ∧ x2 = Int32.ofNat i ∧ x1 = enc (amf Q i)) (fun _ x2 => (80 - x2.toInt).toNat) ?_ FU (-2) 1 (FU_lt (by decide)) ⟨1, by omega, rfl, ?_⟩
    case refine_2 =>
      have h0 : ¬ a ≤ sS I2 nh 0 := by
        rw [sS0, Int32.le_iff_toInt_le, z0]; omega
      rw [show (1 : Nat) = 0 + 1 from rfl, amf_s, hQ, decide_eq_false h0, Bool.and_false]
      rfl
    rintro rec x1 x2 ⟨i, hi, rfl, rfl⟩ hrec
    refine Ev_if (fun c => ?_) (fun c => ?_)
    · have := (n_le (by omega) (by omega)).mp c
      have : i = 2 ^ nh := by omega
      rw [this]
      exact Ev_some rfl
    · have hlt : i < 2 ^ nh := Nat.lt_of_not_le (fun h => c ((n_le (by omega) (by omega)).mpr h))
      have hn1 : Int32.ofNat i + 1 = Int32.ofNat (i + 1) := n_add i 1
      have hgo : ∀ o, amf Q (i + 1) = o → Ev (rec (enc o) (Int32.ofNat i + 1)) (fun a' => a' = enc (amf Q (2 ^ nh))) := fun o hx => by
        rw [hn1]
        refine hrec _ _ ⟨i + 1, by omega, rfl, by rw [hx]⟩ ?_
        rw [n_toInt (by omega), n_toInt (by omega)]; omega
      have hbc : ∀ s, s < 64 → f_J6_bitCount_0f7a4 (Int32.ofNat s) = some (Int32.ofNat (pcn s 6)) := fun s hs => p_bitCount ⟨s, hs⟩
      have hpl := fun s => pcn_le s 6
      rw [amf_s, hQ] at hgo
      cases hm : amf Q i with
      | none =>
        rw [hm] at hgo
        simp only at hgo
        refine Ev_ls (Ev_ls ?_)
        rw [if_pos (by rfl)]
        refine Ev_ls (Ev_ls ?_)
        rw [if_neg (by decide), p_none B W (by omega), bd1_s]
        cases hq : nos i su nh with
        | false =>
          rw [hq, Bool.false_and] at hgo
          exact hgo _ (by rfl)
        | true =>
          rw [hq, Bool.true_and] at hgo
          rw [if_pos rfl, p_sumOf B W (by omega), bd1_s]
          refine Ev_if (fun c => ?_) (fun c => ?_)
          · rw [decide_eq_false (Int32.not_le.mpr c)] at hgo
            exact hgo _ (by rfl)
          · rw [decide_eq_true (Int32.not_lt.mp c)] at hgo
            exact hgo _ (by rfl)
      | some j =>
        have hj := amf_lt _ _ _ hm
        rw [hm] at hgo
        simp only at hgo
        have hpj := hpl j
        have hpi := hpl i
        refine Ev_ls (Ev_ls ?_)
        rw [show enc (some j) = Int32.ofNat j from rfl, if_neg (enc_neg (by omega)).1, hbc i (by omega), bd1_s, hbc j (by omega), bd1_s]
        refine Ev_if (fun c => ?_) (fun c => ?_)
        · have c' := (n_le (by omega) (by omega)).mp c
          refine Ev_ls (Ev_ls ?_)
          rw [if_pos (by rfl)]
          refine hgo (some j) ?_
          split
          · rw [if_neg (by omega)]
          · rfl
        · have c' : pcn i 6 < pcn j 6 := Nat.lt_of_not_le (fun h => c ((n_le (by omega) (by omega)).mpr h))
          refine Ev_ls (Ev_ls ?_)
          rw [if_neg (by decide), p_none B W (by omega), bd1_s]
          cases hq : nos i su nh with
          | false =>
            rw [hq, Bool.false_and] at hgo
            exact hgo (some j) (by rfl)
          | true =>
            rw [hq, Bool.true_and] at hgo
            rw [if_pos rfl, p_sumOf B W (by omega), bd1_s]
            refine Ev_if (fun c => ?_) (fun c => ?_)
            · rw [decide_eq_false (Int32.not_le.mpr c)] at hgo
              exact hgo (some j) (by rfl)
            · rw [decide_eq_true (Int32.not_lt.mp c), if_pos c'] at hgo
              exact hgo (some i) (by rfl)
  · apply Ev_eq
    rw [B'.h2, e1]
    refine Ev_fix2 (fun x1 x2 => ∃ i, i ≤ 2 ^ nh ∧ x2 = Int32.ofNat i ∧ x1 = enc (amf Q i)) (fun _ x2 => (80 - x2.toInt).toNat) ?_ FU (-2) 0 (FU_lt (by decide)) ⟨0, by omega, rfl, rfl⟩
    rintro rec x1 x2 ⟨i, hi, rfl, rfl⟩ hrec
    refine Ev_if (fun c => ?_) (fun c => ?_)
    · have := (n_le (by omega) (by omega)).mp c
      have : i = 2 ^ nh := by omega
      rw [this]
      exact Ev_some rfl
    · have hlt : i < 2 ^ nh := Nat.lt_of_not_le (fun h => c ((n_le (by omega) (by omega)).mpr h))
      have hn1 : Int32.ofNat i + 1 = Int32.ofNat (i + 1) := n_add i 1
      have hgo : ∀ o, amf Q (i + 1) = o → Ev (rec (enc o) (Int32.ofNat i + 1)) (fun a' => a' = (enc (amf Q (2 ^ nh)), st2 I2 0 2 0)) := fun o hx => by
        rw [hn1]
        refine hrec _ _ ⟨i + 1, by omega, rfl, by rw [hx]⟩ ?_
        rw [n_toInt (by omega), n_toInt (by omega)]; omega
      have hpl := fun s => pcn_le s 6
      rw [amf_s, hQ] at hgo
      refine Ev_gd rfl (Ev_ls ?_)
      rw [show st2 I2 0 2 0 31 (ix 0) = Int32.ofNat su from W.s2]
      have hna := nos_and lh hlt W.sl
      cases hq : nos i su nh with
      | false =>
        rw [if_neg (fun h => by have := hna.mp h; rw [hq] at this; cases this)]
        rw [hq, Bool.false_and] at hgo
        refine hgo _ ?_
        cases amf Q i <;> rfl
      | true =>
        rw [if_pos (hna.mpr hq), m_sumOf B W (by omega), bd1_s]
        rw [hq, Bool.true_and] at hgo
        refine Ev_if (fun c => ?_) (fun c => ?_)
        · rw [decide_eq_true c] at hgo
          refine Ev_ls ?_
          cases hm : amf Q i with
          | none =>
            rw [hm] at hgo
            simp only at hgo
            rw [if_pos (by decide)]
            exact hgo (some i) (by rfl)
          | some j =>
            have hj := amf_lt _ _ _ hm
            rw [hm] at hgo
            simp only at hgo
            have hpj := hpl j
            have hpi := hpl i
            rw [show enc (some j) = Int32.ofNat j from rfl, if_neg (enc_neg (by omega)).2.1, m_manyOf (by omega), bd1_s, m_manyOf (by omega), bd1_s]
            refine Ev_if (fun c => ?_) (fun c => ?_)
            · have c' := (n_le (by omega) (by omega)).mp c
              refine hgo (some j) ?_
              rw [if_pos trivial, if_neg (by omega)]
            · have c' : pcn i 6 < pcn j 6 := Nat.lt_of_not_le (fun h => c ((n_le (by omega) (by omega)).mpr h))
              refine hgo (some i) ?_
              rw [if_pos trivial, if_pos c']
        · rw [decide_eq_false c] at hgo
          refine hgo _ ?_
          cases amf Q i <;> rfl
