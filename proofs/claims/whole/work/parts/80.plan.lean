/-! works laid on days: numbers -/
theorem b8 : ∀ s : Fin 256, ∀ d : Fin 8, f_X11_isOf (Int32.ofNat s.1) (Int32.ofNat d.1) = some (s.1.testBit d.1) ∧ Int32.ofNat s.1 ||| ((1 : Int32) <<< (Int32.ofNat d.1 &&& 31)) = Int32.ofNat (s.1 ||| 2 ^ d.1) ∧ s.1 ||| 2 ^ d.1 < 256 := by decide +kernel
def bet (q p : Nat × Nat) : Bool := decide (p.1 < q.1 ∨ (q.1 = p.1 ∧ q.2 < p.2))
def pF (fr : Nat → Bool) (cd : Nat → Nat × Nat) (p0 : Nat × Nat) : Nat → Nat × Nat
  | 0 => p0
  | d + 1 => if fr d then (if bet (cd d) (pF fr cd p0 d) then cd d else pF fr cd p0 d) else pF fr cd p0 d
def pV (nw : Nat) (fr : Nat → Nat → Nat → Bool) (cst : Nat → Nat) : Nat → Nat → Nat × Nat
  | 0, _ => (0, 0)
  | j + 1, s => pF (fun d => fr (nw - (j + 1)) d s) (fun d => ((pV nw fr cst j (s ||| 2 ^ d)).1 + 1, (pV nw fr cst j (s ||| 2 ^ d)).2 + cst (nw - (j + 1)))) (pV nw fr cst j s) 8
def okp (j : Nat) (p : Nat × Nat) : Prop := p.2 ≤ 891 * p.1 ∧ p.1 ≤ j
theorem pF_c {fr : Nat → Bool} {cd : Nat → Nat × Nat} {p0 : Nat × Nat} : ∀ d, pF fr cd p0 d = p0 ∨ ∃ e, e < d ∧ fr e = true ∧ pF fr cd p0 d = cd e
  | 0 => Or.inl rfl
  | d + 1 => by
    have h := pF_c (fr := fr) (cd := cd) (p0 := p0) d
    have e : pF fr cd p0 (d + 1) = if fr d then (if bet (cd d) (pF fr cd p0 d) then cd d else pF fr cd p0 d) else pF fr cd p0 d := rfl
    have hk : pF fr cd p0 (d + 1) = pF fr cd p0 d → pF fr cd p0 (d + 1) = p0 ∨ ∃ e, e < d + 1 ∧ fr e = true ∧ pF fr cd p0 (d + 1) = cd e := fun e1 => by
      rw [e1]
      rcases h with h | ⟨x, a, b, c⟩
      · exact Or.inl h
      · exact Or.inr ⟨x, by omega, b, c⟩
    cases hf : fr d with
    | false =>
      rw [hf] at e
      exact hk e
    | true =>
      rw [hf, if_pos rfl] at e
      cases hb : bet (cd d) (pF fr cd p0 d) with
      | false => rw [hb] at e; exact hk e
      | true =>
        rw [hb, if_pos rfl] at e
        exact Or.inr ⟨d, by omega, hf, e⟩
theorem pV_ok {nw : Nat} {fr : Nat → Nat → Nat → Bool} {cst : Nat → Nat} : ∀ j, j ≤ nw → (∀ w, w < nw → cst w ≤ 891) → ∀ s, okp j (pV nw fr cst j s)
  | 0, _, _, s => ⟨Nat.le_refl _, Nat.le_refl _⟩
  | j + 1, hj, hc, s => by
    have ih := pV_ok (fr := fr) j (by omega) hc
    have e : pV nw fr cst (j + 1) s = pF (fun d => fr (nw - (j + 1)) d s) (fun d => ((pV nw fr cst j (s ||| 2 ^ d)).1 + 1, (pV nw fr cst j (s ||| 2 ^ d)).2 + cst (nw - (j + 1)))) (pV nw fr cst j s) 8 := rfl
    rw [e]
    rcases pF_c (fr := fun d => fr (nw - (j + 1)) d s) (cd := fun d => ((pV nw fr cst j (s ||| 2 ^ d)).1 + 1, (pV nw fr cst j (s ||| 2 ^ d)).2 + cst (nw - (j + 1)))) (p0 := pV nw fr cst j s) 8 with h | ⟨d, _, _, h⟩
    · rw [h]
      have := ih s
      exact ⟨this.1, by have := this.2; omega⟩
    · rw [h]
      have h1 := ih (s ||| 2 ^ d)
      have h2 := hc (nw - (j + 1)) (by omega)
      unfold okp at h1 ⊢
      dsimp only
      omega
def val (p : Nat × Nat) : Nat := 10000 * p.1 - p.2
theorem val_lt {j : Nat} (hj : j ≤ 6) {p : Nat × Nat} (h : okp j p) : val p ≤ 60000 := by
  unfold okp at h; unfold val; omega
theorem val_b {j : Nat} (hj : j ≤ 6) {p q : Nat × Nat} (hp : okp j p) (hq : okp j q) : (val p = val q ↔ p = q) ∧ max (val p) (val q) = val (if bet q p then q else p) := by
  unfold okp at hp hq
  unfold val bet
  constructor
  · constructor
    · intro h
      have h1 : p.1 = q.1 := by omega
      have h2 : p.2 = q.2 := by omega
      exact Prod.ext h1 h2
    · intro h; rw [h]
  · by_cases c : p.1 < q.1 ∨ (q.1 = p.1 ∧ q.2 < p.2)
    · rw [decide_eq_true c, if_pos rfl, Nat.max_eq_right (by omega)]
    · rw [decide_eq_false c, if_neg (by decide), Nat.max_eq_left (by omega)]
theorem pF_ge {fr : Nat → Bool} {cd : Nat → Nat × Nat} {p0 : Nat × Nat} : ∀ d n, n ≤ d → (∀ e, n ≤ e → fr e = false) → pF fr cd p0 d = pF fr cd p0 n
  | 0, n, h, _ => by rw [show n = 0 by omega]
  | d + 1, n, h, hf => by
    by_cases c : n = d + 1
    · rw [c]
    · have e : pF fr cd p0 (d + 1) = if fr d then (if bet (cd d) (pF fr cd p0 d) then cd d else pF fr cd p0 d) else pF fr cd p0 d := rfl
      rw [e, hf d (by omega)]
      exact pF_ge d n (by omega) hf
/-- the first day by which the best still comes -/
def fd (q : Nat → Bool) : Nat → Nat → Option Nat
  | 0, _ => none
  | m + 1, d => if q d then some d else fd q m (d + 1)
theorem fd_c {q : Nat → Bool} : ∀ m d, (fd q m d = none ∧ ∀ e, d ≤ e → e < d + m → q e = false) ∨ ∃ e, fd q m d = some e ∧ d ≤ e ∧ e < d + m ∧ q e = true
  | 0, d => Or.inl ⟨rfl, fun e a b => absurd b (by omega)⟩
  | m + 1, d => by
    show ((if q d then some d else fd q m (d + 1)) = none ∧ _) ∨ ∃ e, (if q d then some d else fd q m (d + 1)) = some e ∧ _
    cases hq : q d with
    | true => exact Or.inr ⟨d, rfl, by omega, by omega, hq⟩
    | false =>
      rcases fd_c (q := q) m (d + 1) with ⟨h1, h2⟩ | ⟨e, h1, h2, h3, h4⟩
      · refine Or.inl ⟨h1, fun e a b => ?_⟩
        by_cases c : e = d
        · rw [c]; exact hq
        · exact h2 e (by omega) (by omega)
      · exact Or.inr ⟨e, h1, by omega, by omega, h4⟩
theorem fd_ge {q : Nat → Bool} : ∀ m d n, (∀ e, n ≤ e → q e = false) → d ≤ n → n ≤ d + m → fd q m d = fd q (n - d) d
  | 0, d, n, _, h1, h2 => by rw [show n - d = 0 by omega]
  | m + 1, d, n, hq, h1, h2 => by
    show (if q d then some d else fd q m (d + 1)) = _
    by_cases c : n = d
    · rw [c, Nat.sub_self, hq d (by omega)]
      show fd q m (d + 1) = none
      rcases fd_c (q := q) m (d + 1) with ⟨h, _⟩ | ⟨e, _, h3, _, h4⟩
      · exact h
      · rw [hq e (by omega)] at h4; cases h4
    · rw [show n - d = (n - (d + 1)) + 1 by omega]
      show _ = (if q d then some d else fd q (n - (d + 1)) (d + 1))
      rw [fd_ge m (d + 1) n hq (by omega) (by omega)]
