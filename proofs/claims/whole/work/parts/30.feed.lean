/-! feed -/
theorem p_putNumber {I : MI} {a : Int32} {t : Nat} (ht : I 0 1 = Int32.ofNat t) (hh : t + 4 ≤ 700) : Ev (f_X10_putNumber I a) (fun I' => I' 0 1 = Int32.ofNat (t + 4) ∧ (∀ p k, p ≠ 1 → ¬ (p = 0 ∧ k = 1) → I' p k = I p k) ∧ ∀ k, I' 1 k = if t ≤ k ∧ k < t + 4 then i2b (i2b (a >>> (Int32.ofNat (24 - 8 * (k - t))))) else I 1 k) := by
  delta f_X10_putNumber
  refine Ev_ls ?_
  refine Ev_fix2 (fun x2 I3 => ∃ i : Nat, i ≤ 4 ∧ x2 = Int32.ofInt (24 - 8 * i) ∧ I3 0 1 = Int32.ofNat (t + i) ∧ (∀ p k, p ≠ 1 → ¬ (p = 0 ∧ k = 1) → I3 p k = I p k) ∧ ∀ k, I3 1 k = if t ≤ k ∧ k < t + i then i2b (i2b (a >>> (Int32.ofNat (24 - 8 * (k - t))))) else I 1 k) (fun x2 _ => (x2.toInt + 8).toNat) ?_ FU 24 I (FU_lt (by decide)) ⟨0, by omega, rfl, ht, fun p k _ _ => rfl, fun k => by rw [if_neg (by omega)]⟩
  rintro rec x2 I3 ⟨i, hi, rfl, h1, h2, h3⟩ hrec
  have hx : (Int32.ofInt (24 - 8 * i)).toInt = 24 - 8 * i := by
    exact i_ofInt (by omega) (by omega)
  refine Ev_if (fun hc => ?_) (fun hc => ?_)
  · rw [Int32.lt_iff_toInt_lt, hx] at hc
    have : i = 4 := by have : (0 : Int32).toInt = 0 := rfl; omega
    subst this
    exact Ev_some ⟨h1, h2, h3⟩
  · rw [Int32.lt_iff_toInt_lt, hx] at hc
    have hi4 : i < 4 := by have : (0 : Int32).toInt = 0 := rfl; omega
    refine Ev_if (fun hc2 => ?_) (fun _ => ?_)
    · rw [h1] at hc2
      have := (n_le (a := 700) (by omega) (by omega)).mp hc2
      omega
    · rw [h1]
      refine Ev_gd ((n_inb (by omega)).mpr (by omega)) ?_
      rw [n_ix (by omega)]
      refine Ev_ls (Ev_ls (Ev_ls ?_))
      have he : Int32.ofInt (24 - 8 * i) + -8 = Int32.ofInt (24 - 8 * (i + 1 : Nat)) := by
        have : (-8 : Int32) = Int32.ofInt (-8) := rfl
        rw [this, ← Int32.ofInt_add]; congr 1; omega
      have hs : Int32.ofInt (24 - 8 * i) &&& 31 = Int32.ofNat (24 - 8 * i) := by
        match i, hi4 with
        | 0, _ => rfl
        | 1, _ => rfl
        | 2, _ => rfl
        | 3, _ => rfl
      rw [he, hs]
      refine hrec _ _ ⟨i + 1, by omega, rfl, ?_, ?_, ?_⟩ ?_
      · simp only [st2, if_true]
        rw [if_neg (by decide), h1]; exact n_add _ 1
      · intro p k hp hpk
        by_cases h0 : p = 0
        · subst h0
          have : k ≠ 1 := fun h => hpk ⟨rfl, h⟩
          simp only [st2, if_true, if_neg this, if_neg hp]; exact h2 0 k hp hpk
        · simp only [st2, if_neg h0, if_neg hp]; exact h2 p k hp hpk
      · intro k
        simp only [st2, if_true]
        rw [if_neg (by decide)]
        by_cases hk : k = t + i
        · subst hk
          rw [if_pos rfl, if_pos (by omega)]
          have : t + i - t = i := by omega
          rw [this]
        · rw [if_neg hk, h3 k]
          by_cases hk2 : t ≤ k ∧ k < t + i
          · rw [if_pos hk2, if_pos (by omega)]
          · rw [if_neg hk2, if_neg (by omega)]
      · rw [← he]
        have : (-8 : Int32).toInt = -8 := rfl
        rw [i_add (by omega) (by omega)]
        omega
def fW (a1 a2 a3 a4 a5 : Int32) (j : Nat) : Int32 := if j < 4 then a1 else if j < 8 then a2 else if j < 12 then a3 else if j < 16 then a4 else a5
theorem p_feed {I : MI} {a1 a2 a3 a4 a5 : Int32} {t : Nat} (ht : I 0 1 = Int32.ofNat t) (hh : t + 20 ≤ 700) : Ev (f_X10_feed I a1 a2 a3 a4 a5) (fun r => r.1 = Int32.ofNat (t + 20) ∧ r.2 0 1 = Int32.ofNat (t + 20) ∧ (∀ p k, p ≠ 1 → ¬ (p = 0 ∧ k = 1) → r.2 p k = I p k) ∧ ∀ k, r.2 1 k = if t ≤ k ∧ k < t + 20 then i2b (i2b (fW a1 a2 a3 a4 a5 (k - t) >>> (Int32.ofNat (24 - 8 * ((k - t) % 4))))) else I 1 k) := by
  delta f_X10_feed
  refine Ev_if (fun _ => ?_) (fun hc => absurd ((by rw [ht]; show Int32.ofNat t + Int32.ofNat 20 ≤ Int32.ofNat 700; rw [n_add]; exact (n_le (by omega) (by omega)).mpr hh) : I 0 1 + 20 ≤ 700) hc)
  refine Ev_bd1 (p_putNumber ht (by omega)) ?_
  intro I1 ⟨h11, h12, h13⟩
  refine Ev_bd1 (p_putNumber h11 (by omega)) ?_
  intro I2 ⟨h21, h22, h23⟩
  refine Ev_bd1 (p_putNumber h21 (by omega)) ?_
  intro I3 ⟨h31, h32, h33⟩
  refine Ev_bd1 (p_putNumber h31 (by omega)) ?_
  intro I4 ⟨h41, h42, h43⟩
  refine Ev_bd1 (p_putNumber h41 (by omega)) ?_
  intro I5 ⟨h51, h52, h53⟩
  refine Ev_some ⟨h51, h51, fun p k hp hk => by show I5 p k = I p k; rw [h52 p k hp hk, h42 p k hp hk, h32 p k hp hk, h22 p k hp hk, h12 p k hp hk], fun k => ?_⟩
  show I5 1 k = _
  rw [h53, h43, h33, h23, h13]
  by_cases c0 : k < t
  · rw [if_neg (by omega), if_neg (by omega), if_neg (by omega), if_neg (by omega), if_neg (by omega), if_neg (by omega)]
  · obtain ⟨j, rfl⟩ : ∃ j, k = t + j := ⟨k - t, by omega⟩
    have e0 : t + j - t = j := by omega
    have e1 : t + j - (t + 4) = j - 4 := by omega
    have e2 : t + j - (t + 4 + 4) = j - 8 := by omega
    have e3 : t + j - (t + 4 + 4 + 4) = j - 12 := by omega
    have e4 : t + j - (t + 4 + 4 + 4 + 4) = j - 16 := by omega
    rw [e0, e1, e2, e3, e4]
    unfold fW
    by_cases c1 : j < 4
    · have : j % 4 = j := by omega
      rw [if_neg (by omega), if_neg (by omega), if_neg (by omega), if_neg (by omega), if_pos (by omega), if_pos (by omega), if_pos c1, this]
    · by_cases c2 : j < 8
      · have : j % 4 = j - 4 := by omega
        rw [if_neg (by omega), if_neg (by omega), if_neg (by omega), if_pos (by omega), if_pos (by omega), if_neg c1, if_pos c2, this]
      · by_cases c3 : j < 12
        · have : j % 4 = j - 8 := by omega
          rw [if_neg (by omega), if_neg (by omega), if_pos (by omega), if_pos (by omega), if_neg c1, if_neg c2, if_pos c3, this]
        · by_cases c4 : j < 16
          · have : j % 4 = j - 12 := by omega
            rw [if_neg (by omega), if_pos (by omega), if_pos (by omega), if_neg c1, if_neg c2, if_neg c3, if_pos c4, this]
          · by_cases c5 : j < 20
            · have : j % 4 = j - 16 := by omega
              rw [if_pos (by omega), if_pos (by omega), if_neg c1, if_neg c2, if_neg c3, if_neg c4, this]
            · rw [if_neg (by omega), if_neg (by omega), if_neg (by omega), if_neg (by omega), if_neg (by omega), if_neg (by omega)]
theorem m_feed {I : MI} {a1 a2 a3 a4 a5 : Int32} {t : Nat} (ht : I 0 1 = Int32.ofNat t) (hh : t + 20 ≤ 700) : Ev (f_X11_feed I a1 a2 a3 a4 a5) (fun r => r.1 = Int32.ofNat (t + 20) ∧ r.2 0 1 = Int32.ofNat (t + 20) ∧ (∀ p k, p ≠ 1 → ¬ (p = 0 ∧ (k = 1 ∨ k = 2)) → r.2 p k = I p k) ∧ ∀ k, r.2 1 k = if t ≤ k ∧ k < t + 20 then (fW a1 a2 a3 a4 a5 (k - t) >>> (Int32.ofNat (24 - 8 * ((k - t) % 4)))) &&& 255 else I 1 k) := by
  delta f_X11_feed
  refine Ev_lt ?_
  intro I1 hI1
  have e1 : I1 0 1 = Int32.ofNat t := by rw [hI1]; exact ht
  have e2 : ∀ p k, p ≠ 1 → ¬ (p = 0 ∧ (k = 1 ∨ k = 2)) → I1 p k = I p k := by
    intro p k hp hk
    rw [hI1]; unfold st2
    by_cases h0 : p = 0
    · subst h0
      rw [if_pos rfl, if_neg (fun h => hk ⟨rfl, Or.inr h⟩)]
    · rw [if_neg h0]
  have e3 : I1 1 = I 1 := by rw [hI1]; rfl
  clear hI1
  refine Ev_if (fun _ => ?_) (fun hc => absurd ((by rw [e1]; show Int32.ofNat t + Int32.ofNat 20 ≤ Int32.ofNat 700; rw [n_add]; exact (n_le (by omega) (by omega)).mpr hh) : I1 0 1 + 20 ≤ 700) hc)
  refine Ev_j1 (fun I2 => I2 0 1 = Int32.ofNat t ∧ (∀ p k, p ≠ 1 → ¬ (p = 0 ∧ (k = 1 ∨ k = 2)) → I2 p k = I p k) ∧ ∀ k, I2 1 k = if t ≤ k ∧ k < t + 20 then (fW a1 a2 a3 a4 a5 (k - t) >>> (Int32.ofNat (24 - 8 * ((k - t) % 4)))) &&& 255 else I 1 k) ?_ ?_
  · rintro I2 ⟨h1, h2, h3⟩
    refine Ev_ls ?_
    have h4 : st2 I2 0 1 (I2 0 1 + 20) 0 1 = Int32.ofNat (t + 20) := by
      rw [h1]; exact n_add t 20
    refine Ev_some ⟨h4, h4, ?_, fun k => ?_⟩
    · intro p k hp hk
      show st2 I2 0 1 (I2 0 1 + 20) p k = _
      unfold st2
      by_cases h0 : p = 0
      · subst h0
        rw [if_pos rfl, if_neg (fun h => hk ⟨rfl, Or.inl h⟩)]; exact h2 _ _ hp hk
      · rw [if_neg h0]; exact h2 _ _ hp hk
    · show st2 I2 0 1 (I2 0 1 + 20) 1 k = _
      unfold st2
      rw [if_neg (by decide)]; exact h3 k
  · intro j hj
    refine Ev_fix2 (fun x4 I3 => ∃ i : Nat, i ≤ 20 ∧ x4 = Int32.ofNat i ∧ I3 0 1 = Int32.ofNat t ∧ (∀ p k, p ≠ 1 → ¬ (p = 0 ∧ (k = 1 ∨ k = 2)) → I3 p k = I p k) ∧ ∀ k, I3 1 k = if t ≤ k ∧ k < t + i then (fW a1 a2 a3 a4 a5 (k - t) >>> (Int32.ofNat (24 - 8 * ((k - t) % 4)))) &&& 255 else I 1 k) (fun x4 _ => (20 - x4.toInt).toNat) ?_ FU 0 I1 (FU_lt (by decide)) ⟨0, by omega, rfl, e1, e2, fun k => by rw [if_neg (by omega), e3]⟩
    rintro rec x4 I3 ⟨i, hi, rfl, h1, h2, h3⟩ hrec
    refine Ev_if (fun hc => ?_) (fun hc => ?_)
    · have := (n_le (a := 20) (by omega) (by omega)).mp hc
      have : i = 20 := by omega
      subst this
      exact hj I3 ⟨h1, h2, h3⟩
    · have hi' : i < 20 := by
        apply Nat.lt_of_not_le
        intro h; exact hc ((n_le (a := 20) (by omega) (by omega)).mpr h)
      refine Ev_j1 (fun x6 => x6 = fW a1 a2 a3 a4 a5 i) ?_ ?_
      · rintro x6 rfl
        refine Ev_gd rfl ?_
        rw [h1, n_add]
        refine Ev_gd ((n_inb (by omega)).mpr (by omega)) ?_
        rw [n_ix (by omega)]
        have hs : ((24 : Int32) - 8 * irem (Int32.ofNat i) 4) &&& 31 = Int32.ofNat (24 - 8 * (i % 4)) := by
          have hall : ∀ i : Fin 20, ((24 : Int32) - 8 * irem (Int32.ofNat i.1) 4) &&& 31 = Int32.ofNat (24 - 8 * (i.1 % 4)) := by decide +kernel
          exact hall ⟨i, hi'⟩
        rw [hs]
        refine Ev_ls (Ev_ls ?_)
        have hn : Int32.ofNat i + 1 = Int32.ofNat (i + 1) := n_add i 1
        rw [hn]
        refine hrec _ _ ⟨i + 1, by omega, rfl, ?_, ?_, ?_⟩ ?_
        · exact h1
        · intro p k hp hk
          unfold st2
          rw [if_neg hp]; exact h2 p k hp hk
        · intro k
          rw [st2_eq]
          show (if k = t + i then _ else I3 1 k) = _
          by_cases hk : k = t + i
          · subst hk
            have : t + i - t = i := by omega
            rw [if_pos rfl, if_pos (by omega), this]
          · rw [if_neg hk, h3 k]
            by_cases hk2 : t ≤ k ∧ k < t + i
            · rw [if_pos hk2, if_pos (by omega)]
            · rw [if_neg hk2, if_neg (by omega)]
        · rw [n_toInt (by omega), n_toInt (by omega)]; omega
      · intro j2 hj2
        have c4 : ∀ n : Nat, n < 30 → ((Int32.ofNat n ≤ Int32.ofNat i) ↔ n ≤ i) := fun n hn => n_le (by omega) (by omega)
        refine Ev_if (fun c => ?_) (fun c => ?_)
        · have d1 := (c4 4 (by omega)).mp c
          refine Ev_if (fun c => ?_) (fun c => ?_)
          · have d2 := (c4 8 (by omega)).mp c
            refine Ev_if (fun c => ?_) (fun c => ?_)
            · have d3 := (c4 12 (by omega)).mp c
              refine Ev_if (fun c => ?_) (fun c => ?_)
              · have d4 := (c4 16 (by omega)).mp c
                exact hj2 _ (by unfold fW; rw [if_neg (by omega), if_neg (by omega), if_neg (by omega), if_neg (by omega)])
              · have d4 : ¬ 16 ≤ i := fun h => c ((c4 16 (by omega)).mpr h)
                exact hj2 _ (by unfold fW; rw [if_neg (by omega), if_neg (by omega), if_neg (by omega), if_pos (by omega)])
            · have d4 : ¬ 12 ≤ i := fun h => c ((c4 12 (by omega)).mpr h)
              exact hj2 _ (by unfold fW; rw [if_neg (by omega), if_neg (by omega), if_pos (by omega)])
          · have d4 : ¬ 8 ≤ i := fun h => c ((c4 8 (by omega)).mpr h)
            exact hj2 _ (by unfold fW; rw [if_neg (by omega), if_pos (by omega)])
        · have d4 : ¬ 4 ≤ i := fun h => c ((c4 4 (by omega)).mpr h)
          exact hj2 _ (by unfold fW; rw [if_pos (by omega)])
def TapeR (I I2 : MI) : Prop := ∃ t : Nat, t ≤ 700 ∧ I 0 1 = Int32.ofNat t ∧ I2 0 1 = Int32.ofNat t ∧ ∀ k, I 1 k &&& 255 = I2 1 k
theorem c_feed {I I2 : MI} (a1 a2 a3 a4 a5 : Int32) (h : TapeR I I2) : ∃ v I' I2', f_X10_feed I a1 a2 a3 a4 a5 = some (v, I') ∧ f_X11_feed I2 a1 a2 a3 a4 a5 = some (v, I2') ∧ TapeR I' I2' ∧ (∀ p k, p ≠ 1 → ¬ (p = 0 ∧ k = 1) → I' p k = I p k) ∧ (∀ p k, p ≠ 1 → ¬ (p = 0 ∧ (k = 1 ∨ k = 2)) → I2' p k = I2 p k) := by
  obtain ⟨t, ht, h1, h2, h3⟩ := h
  by_cases hh : t + 20 ≤ 700
  · obtain ⟨⟨v, I'⟩, e, q1, q2, q3, q4⟩ := p_feed (a1 := a1) (a2 := a2) (a3 := a3) (a4 := a4) (a5 := a5) h1 hh
    obtain ⟨⟨v2, I2'⟩, e', r1, r2, r3, r4⟩ := m_feed (a1 := a1) (a2 := a2) (a3 := a3) (a4 := a4) (a5 := a5) h2 hh
    have hv : v2 = v := r1.trans q1.symm
    subst hv
    refine ⟨v2, I', I2', e, e', ⟨t + 20, hh, q2, r2, fun k => ?_⟩, q3, r3⟩
    have q := q4 k
    have r := r4 k
    simp only at q r
    rw [q, r]
    split
    · exact i2b_and _
    · exact h3 k
  · refine ⟨-1, I, st2 I2 0 2 0, ?_, ?_, ⟨t, ht, h1, h2, h3⟩, fun _ _ _ _ => rfl, fun p k hp hk => ?_⟩
    · delta f_X10_feed
      rw [if_neg]
      rw [h1]; show ¬ (Int32.ofNat t + Int32.ofNat 20 ≤ Int32.ofNat 700); rw [n_add, n_le (by omega) (by omega)]; exact hh
    · delta f_X11_feed
      show (if I2 0 1 + 20 ≤ 700 then _ else _) = _
      rw [if_neg]
      rw [h2]; show ¬ (Int32.ofNat t + Int32.ofNat 20 ≤ Int32.ofNat 700); rw [n_add, n_le (by omega) (by omega)]; exact hh
    · unfold st2
      by_cases h0 : p = 0
      · subst h0
        rw [if_pos rfl, if_neg (fun h => hk ⟨rfl, Or.inr h⟩)]
      · rw [if_neg h0]
