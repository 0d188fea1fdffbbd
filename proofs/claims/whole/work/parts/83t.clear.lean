/-! reading: the draft cleared -/
theorem p_lclear {I : MI} {pl : Nat} : ∃ I', f_X4_clear I pl = some I' ∧ (∀ q k, ¬ (q = pl ∧ (k = 4 ∨ k = 5)) → ¬ (q = pl + 2 ∧ k < 3) → ¬ (q = pl + 3 ∧ k < 3) → I' q k = I q k) ∧ I' pl 4 = 0 ∧ I' pl 5 = 0 ∧ (∀ l, l < 3 → I' (pl + 2) l = 0 ∧ I' (pl + 3) l = 0) := by
  suffices h : Ev (f_X4_clear I pl) (fun I' => (∀ q k, ¬ (q = pl ∧ (k = 4 ∨ k = 5)) → ¬ (q = pl + 2 ∧ k < 3) → ¬ (q = pl + 3 ∧ k < 3) → I' q k = I q k) ∧ I' pl 4 = 0 ∧ I' pl 5 = 0 ∧ (∀ l, l < 3 → I' (pl + 2) l = 0 ∧ I' (pl + 3) l = 0)) from h
  delta f_X4_clear
  refine Ev_ls (Ev_ls ?_)
  refine Ev_fix2 (fun x6 I7 => ∃ i, i ≤ 3 ∧ x6 = Int32.ofNat i ∧ (∀ q k, ¬ (q = pl ∧ (k = 4 ∨ k = 5)) → ¬ (q = pl + 2 ∧ k < 3) → ¬ (q = pl + 3 ∧ k < 3) → I7 q k = I q k) ∧ I7 pl 4 = 0 ∧ I7 pl 5 = 0 ∧ (∀ l, l < i → I7 (pl + 2) l = 0 ∧ I7 (pl + 3) l = 0)) (fun x6 _ => (80 - x6.toInt).toNat) ?_ FU _ _ (FU_lt (by decide)) ⟨0, by omega, rfl, fun q k a b c => by rw [s2x (by omega), s2x (by omega)], by rw [s2x (by omega), st2_at, if_pos rfl], by rw [st2_at, if_pos rfl], fun l hl => absurd hl (by omega)⟩
  rintro rec x6 I7 ⟨i, hi, rfl, g1, g2, g3, g4⟩ hrec
  refine Ev_if (fun c => ?_) (fun c => ?_)
  · have := (n_le (a := 3) (by omega) (by omega)).mp c
    exact Ev_some ⟨g1, g2, g3, fun l hl => g4 l (by omega)⟩
  · have hlt : i < 3 := Nat.lt_of_not_le (fun h => c ((n_le (a := 3) (by omega) (by omega)).mpr h))
    have g : inb (Int32.ofNat i) 3 = true := (n_inb (by omega)).mpr (by omega)
    refine Ev_gd g (Ev_ls (Ev_gd g (Ev_ls (Ev_ls ?_))))
    rw [n_ix (by omega), n_t1]
    refine hrec _ _ ⟨i + 1, by omega, rfl, fun q k a b c => ?_, ?_, ?_, fun l hl => ?_⟩ ?_
    · rw [s2x (by omega), s2x (by omega)]; exact g1 q k a b c
    · rw [s2x (by omega), s2x (by omega)]; exact g2
    · rw [s2x (by omega), s2x (by omega)]; exact g3
    · by_cases e : l = i
      · subst e
        exact ⟨by rw [s2x (by omega), st2_at, if_pos rfl], by rw [st2_at, if_pos rfl]⟩
      · rw [s2x (by omega), s2x (by omega), s2x (by omega), s2x (by omega)]; exact g4 l (by omega)
    · rw [n_toInt (by omega), n_toInt (by omega)]; omega
theorem p_clear {I : MI} {pb : Nat} : ∃ I', f_X0_clear I pb = some I' ∧ (∀ q k, ¬ (pb ≤ q ∧ q < pb + 16) → I' q k = I q k) ∧ (∀ k, 11 ≤ k → k ≤ 14 → I' pb k = 0) ∧ I' pb 15 = -1 ∧ I' pb 16 = -1 ∧ (∀ t, t < 100 → I' (pb + 10) t = -1) ∧ I' (pb + 11) 4 = 0 ∧ I' (pb + 11) 5 = 0 ∧ (∀ l, l < 3 → I' (pb + 13) l = 0 ∧ I' (pb + 14) l = 0) := by
  suffices h : Ev (f_X0_clear I pb) (fun I' => (∀ q k, ¬ (pb ≤ q ∧ q < pb + 16) → I' q k = I q k) ∧ (∀ k, 11 ≤ k → k ≤ 14 → I' pb k = 0) ∧ I' pb 15 = -1 ∧ I' pb 16 = -1 ∧ (∀ t, t < 100 → I' (pb + 10) t = -1) ∧ I' (pb + 11) 4 = 0 ∧ I' (pb + 11) 5 = 0 ∧ (∀ l, l < 3 → I' (pb + 13) l = 0 ∧ I' (pb + 14) l = 0)) from h
  delta f_X0_clear
  refine Ev_ls (Ev_ls (Ev_ls (Ev_ls (Ev_ls (Ev_ls ?_)))))
  obtain ⟨I0, hI0⟩ : ∃ A, A = st2 (st2 (st2 (st2 (st2 (st2 I pb 11 0) pb 12 0) pb 13 0) pb 14 0) pb 15 (-1)) pb 16 (-1) := ⟨_, rfl⟩
  rw [← hI0]
  have z1 : ∀ q k, ¬ (pb ≤ q ∧ q < pb + 16) → I0 q k = I q k := fun q k h => by
    rw [hI0, s2x (by omega), s2x (by omega), s2x (by omega), s2x (by omega), s2x (by omega), s2x (by omega)]
  have z2 : ∀ k, 11 ≤ k → k ≤ 14 → I0 pb k = 0 := fun k a b => by
    rw [hI0, s2x (by omega), s2x (by omega)]
    rcases (show k = 11 ∨ k = 12 ∨ k = 13 ∨ k = 14 by omega) with rfl | rfl | rfl | rfl
    · rw [s2x (by omega), s2x (by omega), s2x (by omega), st2_at, if_pos rfl]
    · rw [s2x (by omega), s2x (by omega), st2_at, if_pos rfl]
    · rw [s2x (by omega), st2_at, if_pos rfl]
    · rw [st2_at, if_pos rfl]
  have z3 : I0 pb 15 = -1 := by rw [hI0, s2x (by omega), st2_at, if_pos rfl]
  have z4 : I0 pb 16 = -1 := by rw [hI0, st2_at, if_pos rfl]
  refine Ev_j1 (fun I1 => (∀ q k, ¬ (q = pb + 10 ∧ k < 100) → I1 q k = I0 q k) ∧ (∀ t, t < 100 → I1 (pb + 10) t = -1)) ?_ ?_
  · rintro I1 ⟨g1, g2⟩
    obtain ⟨I2, e2, l1, l2, l3, l4⟩ := p_lclear (I := I1) (pl := pb + 11)
    refine Ev_bd1 (P := fun x => x = I2) ⟨I2, e2, rfl⟩ (fun x hx => ?_)
    subst hx
    refine Ev_some ⟨fun q k h => ?_, fun k a b => ?_, ?_, ?_, fun t ht => ?_, l2, l3, l4⟩
    · rw [l1 q k (by omega) (by omega) (by omega), g1 q k (by omega), z1 q k h]
    · rw [l1 _ _ (by omega) (by omega) (by omega), g1 _ _ (by omega), z2 k a b]
    · rw [l1 _ _ (by omega) (by omega) (by omega), g1 _ _ (by omega), z3]
    · rw [l1 _ _ (by omega) (by omega) (by omega), g1 _ _ (by omega), z4]
    · rw [l1 _ _ (by omega) (by omega) (by omega), g2 t ht]
  · intro j hj
    refine Ev_fix2 (fun x6 I7 => ∃ i, i ≤ 100 ∧ x6 = Int32.ofNat i ∧ (∀ q k, ¬ (q = pb + 10 ∧ k < 100) → I7 q k = I0 q k) ∧ (∀ t, t < i → I7 (pb + 10) t = -1)) (fun x6 _ => (180 - x6.toInt).toNat) ?_ FU _ _ (FU_lt (by decide)) ⟨0, by omega, rfl, fun _ _ _ => rfl, fun t ht => absurd ht (by omega)⟩
    rintro rec x6 I7 ⟨i, hi, rfl, g1, g2⟩ hrec
    refine Ev_if (fun c => ?_) (fun c => ?_)
    · have := (n_le (a := 100) (by omega) (by omega)).mp c
      exact hj _ ⟨g1, fun t ht => g2 t (by omega)⟩
    · have hlt : i < 100 := Nat.lt_of_not_le (fun h => c ((n_le (a := 100) (by omega) (by omega)).mpr h))
      have g : inb (Int32.ofNat i) 100 = true := (n_inb (by omega)).mpr (by omega)
      refine Ev_gd g (Ev_ls (Ev_ls ?_))
      rw [n_ix (by omega), n_t1]
      refine hrec _ _ ⟨i + 1, by omega, rfl, fun q k a => ?_, fun t ht => ?_⟩ ?_
      · rw [s2x (by omega)]; exact g1 q k a
      · by_cases e : t = i
        · subst e; rw [st2_at, if_pos rfl]
        · rw [s2x (by omega)]; exact g2 t (by omega)
      · rw [n_toInt (by omega), n_toInt (by omega)]; omega
theorem m_plain {M : MI} : ∃ M', f_X11_plain M = some M' ∧ (∀ q k, ¬ (q = 0 ∧ ((17 ≤ k ∧ k ≤ 21) ∨ k = 46)) → ¬ (q = 3 ∧ k < 2) → ¬ (q = 4 ∧ 2 ≤ k ∧ k < 4) → ¬ (q = 16 ∧ 3 ≤ k ∧ k < 6) → M' q k = M q k) ∧ (∀ k, 17 ≤ k → k ≤ 21 → M' 0 k = 0) ∧ M' 0 46 = 0 ∧ M' 3 0 = 0 ∧ M' 3 1 = 0 ∧ M' 4 2 = 30 ∧ M' 4 3 = 0 ∧ (∀ l, l < 3 → M' 16 (3 + l) = 0) := by
  suffices h : Ev (f_X11_plain M) (fun M' => (∀ q k, ¬ (q = 0 ∧ ((17 ≤ k ∧ k ≤ 21) ∨ k = 46)) → ¬ (q = 3 ∧ k < 2) → ¬ (q = 4 ∧ 2 ≤ k ∧ k < 4) → ¬ (q = 16 ∧ 3 ≤ k ∧ k < 6) → M' q k = M q k) ∧ (∀ k, 17 ≤ k → k ≤ 21 → M' 0 k = 0) ∧ M' 0 46 = 0 ∧ M' 3 0 = 0 ∧ M' 3 1 = 0 ∧ M' 4 2 = 30 ∧ M' 4 3 = 0 ∧ (∀ l, l < 3 → M' 16 (3 + l) = 0)) from h
  delta f_X11_plain
  refine Ev_ls (Ev_ls (Ev_ls (Ev_ls (Ev_ls (Ev_ls (Ev_gd rfl (Ev_gd rfl (Ev_ls (Ev_gd rfl (Ev_gd rfl (Ev_ls (Ev_gd rfl (Ev_ls (Ev_gd rfl (Ev_ls ?_)))))))))))))))
  rw [show ix (0 : Int32) = 0 from rfl, show ix (1 : Int32) = 1 from rfl, show ix (2 : Int32) = 2 from rfl, show ix (3 : Int32) = 3 from rfl]
  obtain ⟨M0, hM0⟩ : ∃ A, A = st2 (st2 (st2 (st2 (st2 (st2 (st2 (st2 (st2 (st2 M 0 17 0) 0 18 0) 0 19 0) 0 20 0) 0 21 0) 0 46 0) 3 0 0) 3 1 0) 4 2 30) 4 3 0 := ⟨_, rfl⟩
  rw [← hM0]
  have z1 : ∀ q k, ¬ (q = 0 ∧ ((17 ≤ k ∧ k ≤ 21) ∨ k = 46)) → ¬ (q = 3 ∧ k < 2) → ¬ (q = 4 ∧ 2 ≤ k ∧ k < 4) → M0 q k = M q k := fun q k a b c => by
    rw [hM0, s2x (by omega), s2x (by omega), s2x (by omega), s2x (by omega), s2x (by omega), s2x (by omega), s2x (by omega), s2x (by omega), s2x (by omega), s2x (by omega)]
  have z2 : ∀ k, 17 ≤ k → k ≤ 21 → M0 0 k = 0 := fun k a b => by
    rw [hM0, s2x (by omega), s2x (by omega), s2x (by omega), s2x (by omega), s2x (by omega)]
    rcases (show k = 17 ∨ k = 18 ∨ k = 19 ∨ k = 20 ∨ k = 21 by omega) with rfl | rfl | rfl | rfl | rfl
    · rw [s2x (by omega), s2x (by omega), s2x (by omega), s2x (by omega), st2_at, if_pos rfl]
    · rw [s2x (by omega), s2x (by omega), s2x (by omega), st2_at, if_pos rfl]
    · rw [s2x (by omega), s2x (by omega), st2_at, if_pos rfl]
    · rw [s2x (by omega), st2_at, if_pos rfl]
    · rw [st2_at, if_pos rfl]
  have z3 : M0 0 46 = 0 := by rw [hM0, s2x (by omega), s2x (by omega), s2x (by omega), s2x (by omega), st2_at, if_pos rfl]
  have z4 : M0 3 0 = 0 := by rw [hM0, s2x (by omega), s2x (by omega), s2x (by omega), st2_at, if_pos rfl]
  have z5 : M0 3 1 = 0 := by rw [hM0, s2x (by omega), s2x (by omega), st2_at, if_pos rfl]
  have z6 : M0 4 2 = 30 := by rw [hM0, s2x (by omega), st2_at, if_pos rfl]
  have z7 : M0 4 3 = 0 := by rw [hM0, st2_at, if_pos rfl]
  refine Ev_fix2 (fun x6 I7 => ∃ i, i ≤ 3 ∧ x6 = Int32.ofNat (3 + i) ∧ (∀ q k, ¬ (q = 16 ∧ 3 ≤ k ∧ k < 6) → I7 q k = M0 q k) ∧ (∀ l, l < i → I7 16 (3 + l) = 0)) (fun x6 _ => (80 - x6.toInt).toNat) ?_ FU _ _ (FU_lt (by decide)) ⟨0, by omega, rfl, fun _ _ _ => rfl, fun l hl => absurd hl (by omega)⟩
  rintro rec x6 I7 ⟨i, hi, rfl, g1, g2⟩ hrec
  refine Ev_if (fun c => ?_) (fun c => ?_)
  · have := (n_le (a := 6) (by omega) (by omega)).mp c
    refine Ev_some ⟨fun q k a b c d => ?_, fun k a b => ?_, ?_, ?_, ?_, ?_, ?_, fun l hl => g2 l (by omega)⟩
    · rw [g1 q k d, z1 q k a b c]
    · rw [g1 _ _ (by omega), z2 k a b]
    · rw [g1 _ _ (by omega), z3]
    · rw [g1 _ _ (by omega), z4]
    · rw [g1 _ _ (by omega), z5]
    · rw [g1 _ _ (by omega), z6]
    · rw [g1 _ _ (by omega), z7]
  · have hlt : 3 + i < 6 := Nat.lt_of_not_le (fun h => c ((n_le (a := 6) (by omega) (by omega)).mpr h))
    have g : inb (Int32.ofNat (3 + i)) 6 = true := (n_inb (by omega)).mpr (by omega)
    refine Ev_gd rfl (Ev_gd g (Ev_ls (Ev_ls ?_)))
    rw [n_ix (by omega), n_t1]
    refine hrec _ _ ⟨i + 1, by omega, rfl, fun q k a => ?_, fun l hl => ?_⟩ ?_
    · rw [s2x (by omega)]; exact g1 q k a
    · by_cases e : l = i
      · subst e; rw [st2_at, if_pos rfl]
      · rw [s2x (by omega)]; exact g2 l (by omega)
    · rw [n_toInt (by omega), n_toInt (by omega)]; omega
