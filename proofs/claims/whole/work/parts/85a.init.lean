/-! a new object: the words -/
def chr (i : Nat) : Int32 := (f_strAt (Int32.ofNat i)).getD 0
def ltr (i : Nat) : Int32 := if chr i = 32 then 0 else (f_X7_letter (chr i) (irem (Int32.ofNat i) 6)).getD 0
def wG : Nat → Nat → Int32
  | 0, _ => 0
  | i + 1, j => if j = i / 6 ∧ chr i ≠ 32 then wG i j ||| ltr i else wG i j
theorem chr_F : ∀ i : Fin 120, f_strAt (Int32.ofNat i.1) = some (chr i.1) ∧ (chr i.1 ≠ 32 → f_X7_letter (chr i.1) (irem (Int32.ofNat i.1) 6) = some (ltr i.1)) ∧ Int32.ofNat i.1 / 6 = Int32.ofNat (i.1 / 6) ∧ i.1 / 6 < 20 := by decide +kernel
theorem wG_F : ∀ j : Fin 20, wG 120 j.1 = Int32.ofNat (wlc j.1) := by decide +kernel
theorem p_words {I : MI} {J : MJ} : ∃ I', f_X7_init_36 I J = some (I', J) ∧ (∀ q k, q ≠ 37 → I' q k = I q k) ∧ (∀ j, j < 20 → I' 37 j = Int32.ofNat (wlc j)) := by
  suffices h : Ev (f_X7_init_36 I J) (fun r => r.2 = J ∧ (∀ q k, q ≠ 37 → r.1 q k = I q k) ∧ (∀ j, j < 20 → r.1 37 j = Int32.ofNat (wlc j))) by
    obtain ⟨⟨A, C⟩, e, hC, h⟩ := h
    dsimp only at hC h
    subst hC
    exact ⟨A, e, h⟩
  have e120 : f_strLen = some 120 := by decide +kernel
  delta f_X7_init_36
  refine Ev_ls ?_
  refine Ev_j1 (fun I2 => (∀ q k, q ≠ 37 → I2 q k = I q k) ∧ (∀ j, j < 20 → I2 37 j = Int32.ofNat (wlc j))) ?_ ?_
  · rintro I2 h2
    exact Ev_some ⟨rfl, h2⟩
  · intro j hj
    refine Ev_fix2 (fun x6 I7 => ∃ i, i ≤ 120 ∧ x6 = Int32.ofNat i ∧ (∀ q k, q ≠ 37 → I7 q k = I q k) ∧ (∀ j, j < 20 → I7 37 j = wG i j)) (fun x6 _ => (180 - x6.toInt).toNat) ?_ FU _ _ (FU_lt (by decide)) ⟨0, by omega, rfl, fun q k h => by rw [stR_ne h], fun j _ => by rw [stR_eq]; rfl⟩
    rintro rec x6 I7 ⟨i, hi, rfl, g1, g2⟩ hrec
    rw [e120, bd1_s]
    have fin : i = 120 → Ev (j I7) _ := fun e => hj I7 ⟨g1, fun j' hj' => by
      rw [g2 j' hj', e]; exact wG_F ⟨j', hj'⟩⟩
    refine Ev_if (fun c => ?_) (fun c => ?_)
    · have := (k_el (y := 120) (b := 120) rfl (by omega) (by omega)).mp c
      exact fin (by omega)
    · have hlt : i < 120 := Nat.lt_of_not_le (fun h => c ((k_el (y := 120) (b := 120) rfl (by omega) (by omega)).mpr h))
      rw [if_neg c]
      obtain ⟨c1, c2, c3, c4⟩ := chr_F ⟨i, hlt⟩
      simp only at c1 c2 c3 c4
      rw [c1, bd1_s]
      refine Ev_j1 (fun I8 => (∀ q k, q ≠ 37 → I8 q k = I q k) ∧ (∀ j, j < 20 → I8 37 j = wG (i + 1) j)) ?_ ?_
      · rintro I8 h8
        refine Ev_ls ?_
        rw [n_t1]
        refine hrec _ _ ⟨i + 1, by omega, rfl, h8⟩ ?_
        rw [n_toInt (by omega), n_toInt (by omega)]; omega
      · intro j2 hj2
        refine Ev_if (fun d => ?_) (fun d => ?_)
        · refine hj2 _ ⟨g1, fun j' hj' => ?_⟩
          rw [g2 j' hj']
          show _ = if j' = i / 6 ∧ chr i ≠ 32 then wG i j' ||| ltr i else wG i j'
          rw [if_neg (fun h => h.2 d)]
        · have gi : inb (Int32.ofNat i / 6) 20 = true := by rw [c3]; exact (n_inb (by omega)).mpr c4
          refine Ev_gd rfl (Ev_gd gi (Ev_gd rfl ?_))
          rw [c2 d, bd1_s]
          refine Ev_gd gi (Ev_ls ?_)
          rw [c3, n_ix (by omega)]
          refine hj2 _ ⟨fun q k h => ?_, fun j' hj' => ?_⟩
          · rw [s2x (by omega)]; exact g1 q k h
          · show _ = if j' = i / 6 ∧ chr i ≠ 32 then wG i j' ||| ltr i else wG i j'
            by_cases e : j' = i / 6
            · rw [if_pos ⟨e, d⟩, st2_at, if_pos e, g2 _ c4, e]
            · rw [if_neg (fun h => e h.1), s2x (by omega)]; exact g2 j' hj'
