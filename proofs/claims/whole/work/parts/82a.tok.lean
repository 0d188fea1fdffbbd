/-! the tokens of a text: numbers -/
def isL (t : Nat) : Bool := decide (97 ≤ t ∧ t ≤ 122)
def isD (t : Nat) : Bool := decide (48 ≤ t ∧ t ≤ 57)
def isB (t : Nat) : Bool := decide (t = 32 ∨ t = 10)
def run (f : Nat → Bool) : Nat → Nat → Nat
  | 0, p => p
  | m + 1, p => if f p then run f m (p + 1) else p
/-- from p up to q, and no further -/
def RunTo (f : Nat → Bool) (n p q : Nat) : Prop := p ≤ q ∧ q ≤ n ∧ (∀ k, p ≤ k → k < q → f k = true) ∧ (q < n → f q = false)
theorem run_ok {f : Nat → Bool} : ∀ m p, RunTo f (p + m) p (run f m p)
  | 0, p => ⟨Nat.le_refl _, Nat.le_refl _, fun k a b => absurd b (by show ¬ k < p; omega), fun h => absurd h (by show ¬ p < p + 0; omega)⟩
  | m + 1, p => by
    have ih := run_ok (f := f) m (p + 1)
    show RunTo f (p + (m + 1)) p (if f p then run f m (p + 1) else p)
    cases hf : f p with
    | false => exact ⟨by show p ≤ p; omega, by show p ≤ _; omega, fun k a b => absurd b (by show ¬ k < p; omega), fun _ => hf⟩
    | true =>
      obtain ⟨h1, h2, h3, h4⟩ := ih
      refine ⟨?_, ?_, fun k a b => ?_, fun h => ?_⟩
      · show p ≤ run f m (p + 1); omega
      · show run f m (p + 1) ≤ _; omega
      · by_cases c : k = p
        · rw [c]; exact hf
        · exact h3 k (by omega) b
      · exact h4 (by have h : run f m (p + 1) < p + (m + 1) := h; omega)
theorem RunTo.un {f : Nat → Bool} {n p q q' : Nat} (h : RunTo f n p q) (h' : RunTo f n p q') : q = q' := by
  obtain ⟨a1, a2, a3, a4⟩ := h
  obtain ⟨b1, b2, b3, b4⟩ := h'
  apply Nat.le_antisymm
  · apply Nat.le_of_not_lt
    intro c
    have := a3 q' (by omega) c
    rw [b4 (by omega)] at this; cases this
  · apply Nat.le_of_not_lt
    intro c
    have := b3 q (by omega) c
    rw [a4 (by omega)] at this; cases this
def rn (f : Nat → Bool) (n p : Nat) : Nat := run f (n - p) p
theorem rn_ok {f : Nat → Bool} {n p : Nat} (h : p ≤ n) : RunTo f n p (rn f n p) := by
  have := run_ok (f := f) (n - p) p
  rw [show p + (n - p) = n by omega] at this
  exact this
theorem rn_eq {f : Nat → Bool} {n p q : Nat} (h : RunTo f n p q) : q = rn f n p := h.un (rn_ok (by have h1 := h.1; have h2 := h.2.1; omega))
def cN (T : Nat → Nat) (a : Nat) : Nat → Nat
  | 0 => 0
  | m + 1 => min 1000000 (cN T a m * 10 + (T (a + m) - 48))
def mN (T : Nat → Nat) (a : Nat) : Nat → Nat
  | 0 => 0
  | m + 1 => if 99999 < mN T a m then mN T a m else 10 * mN T a m + (T (a + m) - 48)
theorem cN_mN {T : Nat → Nat} {a : Nat} : ∀ m, (∀ i, i < m → isD (T (a + i)) = true) → cN T a m ≤ 1000000 ∧ mN T a m ≤ 999999 ∧ ((cN T a m = mN T a m ∧ cN T a m ≤ 99999) ∨ (99999 < cN T a m ∧ 99999 < mN T a m))
  | 0, _ => ⟨by show 0 ≤ _; omega, by show 0 ≤ _; omega, Or.inl ⟨rfl, by show 0 ≤ _; omega⟩⟩
  | m + 1, h => by
    obtain ⟨h1, h2, h3⟩ := cN_mN (T := T) (a := a) m (fun i hi => h i (by omega))
    have hd := of_decide_eq_true (h m (by omega))
    have e1 : cN T a (m + 1) = min 1000000 (cN T a m * 10 + (T (a + m) - 48)) := rfl
    have e2 : mN T a (m + 1) = if 99999 < mN T a m then mN T a m else 10 * mN T a m + (T (a + m) - 48) := rfl
    rw [e1, e2]
    rcases h3 with ⟨h3, h4⟩ | ⟨h3, h4⟩
    · rw [if_neg (by omega), Nat.min_eq_right (by omega)]
      omega
    · rw [if_pos h4]
      omega
/-- letters, five bits each, the first one highest -/
def hrn (D : Nat → Nat) : Nat → Nat
  | 0 => 0
  | m + 1 => hrn D m * 32 + D m
theorem hrn_lt {D : Nat → Nat} : ∀ m, (∀ i, i < m → D i < 32) → hrn D m < 32 ^ m
  | 0, _ => by show 0 < _; decide
  | m + 1, h => by
    have := hrn_lt (D := D) m (fun i hi => h i (by omega))
    have hd := h m (by omega)
    show hrn D m * 32 + D m < 32 ^ (m + 1)
    rw [Nat.pow_succ]; omega
theorem hrn_congr {D E : Nat → Nat} : ∀ m, (∀ i, i < m → D i = E i) → hrn D m = hrn E m
  | 0, _ => rfl
  | m + 1, h => by
    show hrn D m * 32 + D m = hrn E m * 32 + E m
    rw [hrn_congr m (fun i hi => h i (by omega)), h m (by omega)]
theorem hrn_inj {D E : Nat → Nat} : ∀ m, (∀ i, i < m → D i < 32 ∧ E i < 32) → hrn D m = hrn E m → ∀ i, i < m → D i = E i
  | 0, _, _, i, hi => absurd hi (by omega)
  | m + 1, h, he, i, hi => by
    have he : hrn D m * 32 + D m = hrn E m * 32 + E m := he
    have hm := h m (by omega)
    by_cases c : i = m
    · rw [c]; omega
    · exact hrn_inj m (fun i hi => h i (by omega)) (by omega) i (by omega)
theorem hrn_pad {D : Nat → Nat} {s : Nat} (h : ∀ i, s ≤ i → D i = 0) : ∀ j, hrn D (s + j) = hrn D s * 32 ^ j
  | 0 => by rw [Nat.add_zero, Nat.pow_zero, Nat.mul_one]
  | j + 1 => by
    show hrn D (s + j) * 32 + D (s + j) = _
    rw [hrn_pad h j, h (s + j) (by omega), Nat.pow_succ, Nat.add_zero, Nat.mul_assoc]
def dg (T : Nat → Nat) (a s i : Nat) : Nat := if i < s then T (a + i) - 96 else 0
def pkv (T : Nat → Nat) (a s : Nat) : Nat := hrn (dg T a s) 6
theorem n_or {a b : Nat} : Int32.ofNat a ||| Int32.ofNat b = Int32.ofNat (a ||| b) := by
  apply Int32.toBitVec_inj.mp
  rw [Int32.toBitVec_or]
  apply BitVec.eq_of_toNat_eq
  rw [BitVec.toNat_or]
  have e1 : ∀ N, (Int32.ofNat N).toBitVec.toNat = N % 2 ^ 32 := fun N => BitVec.toNat_ofNat N 32
  rw [e1, e1, e1, Nat.or_mod_two_pow]
theorem n_sl5 (a : Nat) : Int32.ofNat a <<< ((5 : Int32) &&& 31) = Int32.ofNat (a * 32) := by
  apply Int32.toBitVec_inj.mp
  rw [Int32.toBitVec_shiftLeft]
  apply BitVec.eq_of_toNat_eq
  have e1 : ∀ N, (Int32.ofNat N).toBitVec.toNat = N % 2 ^ 32 := fun N => BitVec.toNat_ofNat N 32
  have e2 : (((5 : Int32) &&& 31).toBitVec.smod 32).toNat = 5 := by decide
  rw [BitVec.shiftLeft_eq', BitVec.toNat_shiftLeft, e1, e1, e2, Nat.shiftLeft_eq]
  omega
theorem n_let : ∀ d : Fin 27, ∀ m : Fin 6, ((Int32.ofNat (96 + d.1) - 97) + 1) <<< (((5 : Int32) * ((5 : Int32) - Int32.ofNat m.1)) &&& (31 : Int32)) = Int32.ofNat (d.1 * 32 ^ (5 - m.1)) := by decide +kernel
theorem n_pow5 : ∀ m : Fin 6, 32 ^ (6 - m.1) = 2 ^ (5 * (6 - m.1)) ∧ 32 ^ (6 - m.1) = 32 * 32 ^ (5 - m.1) := by decide +kernel
theorem n_put {X d m : Nat} (hm : m < 6) (hd : d < 27) : Int32.ofNat (X * 32 ^ (6 - m)) ||| (((Int32.ofNat (96 + d) - 97) + 1) <<< (((5 : Int32) * ((5 : Int32) - Int32.ofNat m)) &&& (31 : Int32))) = Int32.ofNat ((X * 32 + d) * 32 ^ (5 - m)) := by
  have h := n_let ⟨d, hd⟩ ⟨m, hm⟩
  have h2 := n_pow5 ⟨m, hm⟩
  simp only at h h2
  rw [h, n_or, h2.1, Nat.mul_comm X, ← Nat.two_pow_add_eq_or_of_lt, ← h2.1, h2.2]
  · congr 1
    rw [Nat.add_mul, Nat.mul_comm (32 * 32 ^ (5 - m)) X, Nat.mul_assoc]
  · rw [← h2.1, h2.2]
    exact Nat.mul_lt_mul_of_pos_right (by omega) (Nat.pow_pos (by decide))
theorem n_and255 (x : Int32) : ∃ t, t < 256 ∧ x &&& 255 = Int32.ofNat t := by
  refine ⟨x.toBitVec.toNat % 256, Nat.mod_lt _ (by decide), ?_⟩
  apply Int32.toBitVec_inj.mp
  rw [Int32.toBitVec_and]
  apply BitVec.eq_of_toNat_eq
  rw [BitVec.toNat_and]
  have e1 : ∀ N, (Int32.ofNat N).toBitVec.toNat = N % 2 ^ 32 := fun N => BitVec.toNat_ofNat N 32
  have e2 : (255 : Int32).toBitVec.toNat = 2 ^ 8 - 1 := by decide
  rw [e1, e2, Nat.and_two_pow_sub_one_eq_mod]
  omega
