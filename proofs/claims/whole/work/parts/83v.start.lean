/-! reading: what was read is settled; a town starts -/
theorem m_begin {M : MI} {J : MJ} : ∃ M', f_X11_begin M J = some (M', st2 J 0 62 (Int32.toInt64 (M 4 1))) ∧ (∀ q k, ¬ (26 ≤ q ∧ q ≤ 30 ∧ k < 6) → ¬ (31 ≤ q ∧ q ≤ 35 ∧ k = 0) → ¬ (q = 0 ∧ ((63 ≤ k ∧ k ≤ 66) ∨ k = 70 ∨ k = 71 ∨ k = 74 ∨ k = 76)) → M' q k = M q k) ∧ (∀ k, k < 6 → M' 26 k = M 9 k) ∧ (∀ q k, 27 ≤ q → q ≤ 30 → k < 6 → M' q k = 0) ∧ M' 31 0 = 0 ∧ M' 32 0 = 0 ∧ M' 33 0 = -1 ∧ M' 34 0 = 0 ∧ M' 35 0 = 0 ∧ (∀ k, 63 ≤ k → k ≤ 66 → M' 0 k = 0) ∧ M' 0 70 = 0 ∧ M' 0 71 = -1 ∧ M' 0 74 = 0 ∧ M' 0 76 = 0 := by
  suffices h : Ev (f_X11_begin M J) (fun r => r.2 = st2 J 0 62 (Int32.toInt64 (M 4 1)) ∧ (∀ q k, ¬ (26 ≤ q ∧ q ≤ 30 ∧ k < 6) → ¬ (31 ≤ q ∧ q ≤ 35 ∧ k = 0) → ¬ (q = 0 ∧ ((63 ≤ k ∧ k ≤ 66) ∨ k = 70 ∨ k = 71 ∨ k = 74 ∨ k = 76)) → r.1 q k = M q k) ∧ (∀ k, k < 6 → r.1 26 k = M 9 k) ∧ (∀ q k, 27 ≤ q → q ≤ 30 → k < 6 → r.1 q k = 0) ∧ r.1 31 0 = 0 ∧ r.1 32 0 = 0 ∧ r.1 33 0 = -1 ∧ r.1 34 0 = 0 ∧ r.1 35 0 = 0 ∧ (∀ k, 63 ≤ k → k ≤ 66 → r.1 0 k = 0) ∧ r.1 0 70 = 0 ∧ r.1 0 71 = -1 ∧ r.1 0 74 = 0 ∧ r.1 0 76 = 0) by
    obtain ⟨⟨A, B⟩, e, hB, h⟩ := h
    dsimp only at hB h
    subst hB
    exact ⟨A, e, h⟩
  delta f_X11_begin
  refine Ev_j1 (fun I1 => (∀ q k, ¬ (26 ≤ q ∧ q ≤ 30 ∧ k < 6) → I1 q k = M q k) ∧ (∀ k, k < 6 → I1 26 k = M 9 k) ∧ (∀ q k, 27 ≤ q → q ≤ 30 → k < 6 → I1 q k = 0)) ?_ ?_
  · rintro I1 ⟨g1, g2, g3⟩
    refine Ev_gd rfl (Ev_ls (Ev_gd rfl (Ev_ls (Ev_gd rfl (Ev_ls (Ev_gd rfl (Ev_ls (Ev_gd rfl (Ev_ls (Ev_gd rfl (Ev_ls ?_)))))))))))
    rw [show ix (0 : Int32) = 0 from rfl, show ix (1 : Int32) = 1 from rfl]
    obtain ⟨A, hA⟩ : ∃ A, A = st2 (st2 (st2 (st2 (st2 I1 31 0 0) 32 0 0) 33 0 (-1)) 34 0 0) 35 0 0 := ⟨_, rfl⟩
    rw [← hA]
    have a1 : ∀ q k, ¬ (31 ≤ q ∧ q ≤ 35 ∧ k = 0) → A q k = I1 q k := fun q k h => by
      rw [hA, s2x (by omega), s2x (by omega), s2x (by omega), s2x (by omega), s2x (by omega)]
    have a31 : A 31 0 = 0 := by rw [hA, s2x (by omega), s2x (by omega), s2x (by omega), s2x (by omega), st2_at, if_pos rfl]
    have a32 : A 32 0 = 0 := by rw [hA, s2x (by omega), s2x (by omega), s2x (by omega), st2_at, if_pos rfl]
    have a33 : A 33 0 = -1 := by rw [hA, s2x (by omega), s2x (by omega), st2_at, if_pos rfl]
    have a34 : A 34 0 = 0 := by rw [hA, s2x (by omega), st2_at, if_pos rfl]
    have a35 : A 35 0 = 0 := by rw [hA, st2_at, if_pos rfl]
    have e41 : A 4 1 = M 4 1 := by rw [a1 _ _ (by omega), g1 _ _ (by omega)]
    rw [e41]
    have ept : f_X11_plainTried A = some (st2 (st2 (st2 (st2 A 0 63 0) 0 64 0) 0 65 0) 0 66 0) := rfl
    rw [ept, bd1_s]
    refine Ev_ls (Ev_ls (Ev_ls (Ev_gd rfl (Ev_ls (Ev_some ?_)))))
    dsimp only
    refine ⟨rfl, fun q k a b c => ?_, fun k a => ?_, fun q k a b c => ?_, ?_, ?_, ?_, ?_, ?_, fun k a b => ?_, ?_, ?_, ?_, ?_⟩
    · rw [s2x (by omega), s2x (by omega), s2x (by omega), s2x (by omega), s2x (by omega), s2x (by omega), s2x (by omega), s2x (by omega), a1 _ _ b, g1 _ _ a]
    · rw [s2x (by omega), s2x (by omega), s2x (by omega), s2x (by omega), s2x (by omega), s2x (by omega), s2x (by omega), s2x (by omega), a1 _ _ (by omega), g2 k a]
    · rw [s2x (by omega), s2x (by omega), s2x (by omega), s2x (by omega), s2x (by omega), s2x (by omega), s2x (by omega), s2x (by omega), a1 _ _ (by omega), g3 q k a b c]
    · rw [s2x (by omega), s2x (by omega), s2x (by omega), s2x (by omega), s2x (by omega), s2x (by omega), s2x (by omega), s2x (by omega), a31]
    · rw [s2x (by omega), s2x (by omega), s2x (by omega), s2x (by omega), s2x (by omega), s2x (by omega), s2x (by omega), s2x (by omega), a32]
    · rw [s2x (by omega), s2x (by omega), s2x (by omega), s2x (by omega), s2x (by omega), s2x (by omega), s2x (by omega), s2x (by omega), a33]
    · rw [s2x (by omega), s2x (by omega), s2x (by omega), s2x (by omega), s2x (by omega), s2x (by omega), s2x (by omega), s2x (by omega), a34]
    · rw [s2x (by omega), s2x (by omega), s2x (by omega), s2x (by omega), s2x (by omega), s2x (by omega), s2x (by omega), s2x (by omega), a35]
    · rw [s2x (by omega), s2x (by omega), s2x (by omega), s2x (by omega)]
      rcases (show k = 63 ∨ k = 64 ∨ k = 65 ∨ k = 66 by omega) with rfl | rfl | rfl | rfl
      · rw [s2x (by omega), s2x (by omega), s2x (by omega), st2_at, if_pos rfl]
      · rw [s2x (by omega), s2x (by omega), st2_at, if_pos rfl]
      · rw [s2x (by omega), st2_at, if_pos rfl]
      · rw [st2_at, if_pos rfl]
    · rw [s2x (by omega), s2x (by omega), s2x (by omega), st2_at, if_pos rfl]
    · rw [s2x (by omega), s2x (by omega), st2_at, if_pos rfl]
    · rw [s2x (by omega), st2_at, if_pos rfl]
    · rw [st2_at, if_pos rfl]
  · intro j hj
    refine Ev_fix2 (fun x6 I7 => ∃ i, i ≤ 6 ∧ x6 = Int32.ofNat i ∧ (∀ q k, ¬ (26 ≤ q ∧ q ≤ 30 ∧ k < 6) → I7 q k = M q k) ∧ (∀ k, k < i → I7 26 k = M 9 k) ∧ (∀ q k, 27 ≤ q → q ≤ 30 → k < i → I7 q k = 0)) (fun x6 _ => (80 - x6.toInt).toNat) ?_ FU _ _ (FU_lt (by decide)) ⟨0, by omega, rfl, fun _ _ _ => rfl, fun k c => absurd c (by omega), fun q k _ _ c => absurd c (by omega)⟩
    rintro rec x6 I7 ⟨i, hi, rfl, g1, g2, g3⟩ hrec
    refine Ev_if (fun c => ?_) (fun c => ?_)
    · have := (n_le (a := 6) (by omega) (by omega)).mp c
      exact hj _ ⟨g1, fun k h => g2 k (by omega), fun q k a b h => g3 q k a b (by omega)⟩
    · have hlt : i < 6 := Nat.lt_of_not_le (fun h => c ((n_le (a := 6) (by omega) (by omega)).mpr h))
      have g : inb (Int32.ofNat i) 12 = true := (n_inb (by omega)).mpr (by omega)
      refine Ev_gd g (Ev_gd g (Ev_ls (Ev_gd g (Ev_ls (Ev_gd g (Ev_ls (Ev_gd g (Ev_ls (Ev_gd g (Ev_ls (Ev_ls ?_)))))))))))
      rw [n_ix (by omega), n_t1]
      refine hrec _ _ ⟨i + 1, by omega, rfl, fun q k a => ?_, fun k h => ?_, fun q k a b h => ?_⟩ ?_
      · rw [s2x (by omega), s2x (by omega), s2x (by omega), s2x (by omega), s2x (by omega)]; exact g1 q k a
      · rw [s2x (by omega), s2x (by omega), s2x (by omega), s2x (by omega)]
        by_cases e : k = i
        · subst e; rw [st2_at, if_pos rfl]; exact g1 _ _ (by omega)
        · rw [s2x (by omega)]; exact g2 k (by omega)
      · by_cases e : k = i
        · subst e
          rcases (show q = 27 ∨ q = 28 ∨ q = 29 ∨ q = 30 by omega) with rfl | rfl | rfl | rfl
          · rw [s2x (by omega), s2x (by omega), s2x (by omega), st2_at, if_pos rfl]
          · rw [s2x (by omega), s2x (by omega), st2_at, if_pos rfl]
          · rw [s2x (by omega), st2_at, if_pos rfl]
          · rw [st2_at, if_pos rfl]
        · rw [s2x (by omega), s2x (by omega), s2x (by omega), s2x (by omega), s2x (by omega)]; exact g3 q k a b (by omega)
      · rw [n_toInt (by omega), n_toInt (by omega)]; omega
theorem p_settle {I : MI} {pb nk : Nat} (hk : I pb 11 = Int32.ofNat nk) (lk : nk ≤ 6) (hw : ∀ k, k < nk → ∃ z, z ≤ 99 ∧ I (pb + 3) k = Int32.ofNat z) : ∃ I', f_X0_settle I pb = some I' ∧ (∀ q k, ¬ (q = pb ∧ 15 ≤ k ∧ k ≤ 19) → I' q k = I q k) ∧ I' pb 15 = (if I pb 15 = -1 then 30 else I pb 15) ∧ I' pb 16 = (if I pb 16 = -1 then 0 else I pb 16) ∧ I' pb 17 = sm (I (pb + 3)) nk ∧ I' pb 18 = Int32.ofNat (wct (I (pb + 3)) nk) ∧ I' pb 19 = hvf (I (pb + 3)) nk := by
  suffices h : Ev (f_X0_settle I pb) (fun I' => (∀ q k, ¬ (q = pb ∧ 15 ≤ k ∧ k ≤ 19) → I' q k = I q k) ∧ I' pb 15 = (if I pb 15 = -1 then 30 else I pb 15) ∧ I' pb 16 = (if I pb 16 = -1 then 0 else I pb 16) ∧ I' pb 17 = sm (I (pb + 3)) nk ∧ I' pb 18 = Int32.ofNat (wct (I (pb + 3)) nk) ∧ I' pb 19 = hvf (I (pb + 3)) nk) from h
  delta f_X0_settle
  refine Ev_j1 (fun I1 => (∀ q k, ¬ (q = pb ∧ k = 15) → I1 q k = I q k) ∧ I1 pb 15 = (if I pb 15 = -1 then 30 else I pb 15)) ?_ ?_
  · rintro I1 ⟨b1, b2⟩
    refine Ev_j1 (fun I2 => (∀ q k, ¬ (q = pb ∧ (k = 15 ∨ k = 16)) → I2 q k = I q k) ∧ I2 pb 15 = (if I pb 15 = -1 then 30 else I pb 15) ∧ I2 pb 16 = (if I pb 16 = -1 then 0 else I pb 16)) ?_ ?_
    · rintro I2 ⟨c1, c2, c3⟩
      refine Ev_ls (Ev_ls (Ev_ls ?_))
      refine Ev_fix2 (fun x6 I7 => ∃ i, i ≤ nk ∧ x6 = Int32.ofNat i ∧ (∀ q k, ¬ (q = pb ∧ 15 ≤ k ∧ k ≤ 19) → I7 q k = I q k) ∧ I7 pb 15 = (if I pb 15 = -1 then 30 else I pb 15) ∧ I7 pb 16 = (if I pb 16 = -1 then 0 else I pb 16) ∧ I7 pb 17 = sm (I (pb + 3)) i ∧ I7 pb 18 = Int32.ofNat (wct (I (pb + 3)) i) ∧ I7 pb 19 = hvf (I (pb + 3)) i) (fun x6 _ => (80 - x6.toInt).toNat) ?_ FU _ _ (FU_lt (by decide)) ⟨0, by omega, rfl, fun q k a => by rw [s2x (by omega), s2x (by omega), s2x (by omega), c1 _ _ (by omega)], by rw [s2x (by omega), s2x (by omega), s2x (by omega), c2], by rw [s2x (by omega), s2x (by omega), s2x (by omega), c3], by rw [s2x (by omega), s2x (by omega), st2_at, if_pos rfl]; rfl, by rw [s2x (by omega), st2_at, if_pos rfl]; rfl, by rw [st2_at, if_pos rfl]; rfl⟩
      rintro rec x6 I7 ⟨i, hi, rfl, g1, g2, g3, g4, g5, g6⟩ hrec
      have e11 : I7 pb 11 = Int32.ofNat nk := by rw [g1 _ _ (by omega)]; exact hk
      rw [e11]
      refine Ev_if (fun c => ?_) (fun c => ?_)
      · have := (n_le (by omega) (by omega)).mp c
        have : i = nk := by omega
        subst this
        exact Ev_some ⟨g1, g2, g3, g4, g5, g6⟩
      · have hlt : i < nk := Nat.lt_of_not_le (fun h => c ((n_le (by omega) (by omega)).mpr h))
        have g : inb (Int32.ofNat i) 6 = true := (n_inb (by omega)).mpr (by omega)
        obtain ⟨z, hz, ez⟩ := hw i hlt
        have e3 : I7 (pb + 3) i = Int32.ofNat z := by rw [g1 _ _ (by omega)]; exact ez
        refine Ev_gd g ?_
        rw [n_ix (by omega), e3]
        have hsm : sm (I (pb + 3)) (i + 1) = sm (I (pb + 3)) i + Int32.ofNat z := by
          show sm (I (pb + 3)) i + I (pb + 3) i = _
          rw [ez]
        have hwc : wct (I (pb + 3)) (i + 1) = wct (I (pb + 3)) i + (if Int32.ofNat z ≤ 0 then 0 else 1) := by
          show wct (I (pb + 3)) i + (if I (pb + 3) i ≤ 0 then 0 else 1) = _
          rw [ez]
        have hhv : hvf (I (pb + 3)) (i + 1) = if Int32.ofNat z ≤ (if (0 : Int32) ≤ hvf (I (pb + 3)) i then I (pb + 3) (ix (hvf (I (pb + 3)) i)) else 0) then hvf (I (pb + 3)) i else Int32.ofNat i := by
          show (if I (pb + 3) i ≤ _ then _ else _) = _
          rw [ez]
        refine Ev_j1 (fun I8 => (∀ q k, ¬ (q = pb ∧ 15 ≤ k ∧ k ≤ 19) → I8 q k = I q k) ∧ I8 pb 15 = (if I pb 15 = -1 then 30 else I pb 15) ∧ I8 pb 16 = (if I pb 16 = -1 then 0 else I pb 16) ∧ I8 pb 17 = sm (I (pb + 3)) (i + 1) ∧ I8 pb 18 = Int32.ofNat (wct (I (pb + 3)) (i + 1)) ∧ I8 pb 19 = hvf (I (pb + 3)) (i + 1)) ?_ ?_
        · rintro I8 h8
          refine Ev_ls ?_
          rw [n_t1]
          refine hrec _ _ ⟨i + 1, by omega, rfl, h8⟩ ?_
          rw [n_toInt (by omega), n_toInt (by omega)]; omega
        · intro j hj
          by_cases z0 : z = 0
          · subst z0
            rw [if_pos (by decide)]
            refine hj _ ⟨g1, g2, g3, ?_, ?_, ?_⟩
            · rw [hsm, g4]; exact (Int32.add_zero _).symm
            · rw [hwc, g5, if_pos (by decide)]; rfl
            · rw [hhv, g6, if_pos]
              rcases hvf_c (I (pb + 3)) i with h | ⟨j', hj', h⟩
              · rw [h, if_neg (show ¬ (0 : Int32) ≤ -1 by decide)]; decide
              · rw [h, if_pos (enc_neg (j := j') (by omega)).2.2.2, n_ix (by omega)]
                obtain ⟨y, hy, ey⟩ := hw j' (by omega)
                rw [ey]; exact (n_le (by omega) (by omega)).mpr (by omega)
          · have hp : ¬ Int32.ofNat z ≤ 0 := fun h => by have := (k_le (y := 0) (b := 0) rfl (by omega) (by omega)).mp h; omega
            rw [if_neg hp]
            refine Ev_gd g (Ev_ls (Ev_ls ?_))
            rw [g4, show st2 I7 pb 17 (sm (I (pb + 3)) i + Int32.ofNat z) pb 18 = Int32.ofNat (wct (I (pb + 3)) i) by rw [s2x (by omega)]; exact g5, n_t1]
            obtain ⟨A, hA⟩ : ∃ A, A = st2 (st2 I7 pb 17 (sm (I (pb + 3)) i + Int32.ofNat z)) pb 18 (Int32.ofNat (wct (I (pb + 3)) i + 1)) := ⟨_, rfl⟩
            rw [← hA]
            have aE : ∀ q k, ¬ (q = pb ∧ (k = 17 ∨ k = 18)) → A q k = I7 q k := fun q k h => by rw [hA, s2x (by omega), s2x (by omega)]
            have a17 : A pb 17 = sm (I (pb + 3)) (i + 1) := by rw [hA, s2x (by omega), st2_at, if_pos rfl, hsm]
            have a18 : A pb 18 = Int32.ofNat (wct (I (pb + 3)) (i + 1)) := by rw [hA, st2_at, if_pos rfl, hwc, if_neg hp]
            have a19 : A pb 19 = hvf (I (pb + 3)) i := by rw [aE _ _ (by omega)]; exact g6
            rw [a19]
            have put : hvf (I (pb + 3)) (i + 1) = Int32.ofNat i → Ev (lt (st2 A pb 19 (Int32.ofNat i)) (fun I12 => j I12)) (fun I' => (∀ q k, ¬ (q = pb ∧ 15 ≤ k ∧ k ≤ 19) → I' q k = I q k) ∧ I' pb 15 = (if I pb 15 = -1 then 30 else I pb 15) ∧ I' pb 16 = (if I pb 16 = -1 then 0 else I pb 16) ∧ I' pb 17 = sm (I (pb + 3)) nk ∧ I' pb 18 = Int32.ofNat (wct (I (pb + 3)) nk) ∧ I' pb 19 = hvf (I (pb + 3)) nk) := fun he => by
              refine Ev_ls (hj _ ⟨fun q k h => ?_, ?_, ?_, ?_, ?_, ?_⟩)
              · rw [s2x (by omega), aE _ _ (by omega)]; exact g1 q k h
              · rw [s2x (by omega), aE _ _ (by omega)]; exact g2
              · rw [s2x (by omega), aE _ _ (by omega)]; exact g3
              · rw [s2x (by omega)]; exact a17
              · rw [s2x (by omega)]; exact a18
              · rw [st2_at, if_pos rfl, he]
            rw [lt_e]
            rcases hvf_c (I (pb + 3)) i with h | ⟨j', hj', h⟩
            · rw [h, if_pos rfl]
              exact put (by rw [hhv, h, if_neg (show ¬ (0 : Int32) ≤ -1 by decide), if_neg hp])
            · have ej := (enc_neg (j := j') (by omega))
              obtain ⟨y, hy, ey⟩ := hw j' (by omega)
              rw [h, if_neg ej.2.2.1]
              refine Ev_gd g (Ev_gd ((n_inb (by omega)).mpr (by omega)) ?_)
              rw [n_ix (by omega), aE (pb + 3) i (by omega), e3, aE (pb + 3) j' (by omega), g1 (pb + 3) j' (by omega), ey]
              rw [h, if_pos ej.2.2.2, n_ix (by omega), ey] at hhv
              by_cases cz : Int32.ofNat z ≤ Int32.ofNat y
              · rw [if_pos cz] at hhv ⊢
                refine hj _ ⟨fun q k hh => ?_, ?_, ?_, a17, a18, ?_⟩
                · rw [aE _ _ (by omega)]; exact g1 q k hh
                · rw [aE _ _ (by omega)]; exact g2
                · rw [aE _ _ (by omega)]; exact g3
                · rw [a19, h, hhv]
              · rw [if_neg cz] at hhv ⊢
                exact put hhv
    · intro j hj
      have e16 : I1 pb 16 = I pb 16 := b1 _ _ (by omega)
      rw [e16]
      refine Ev_if (fun c => ?_) (fun c => ?_)
      · refine Ev_ls (hj _ ⟨fun q k h => ?_, ?_, ?_⟩)
        · rw [s2x (by omega)]; exact b1 _ _ (by omega)
        · rw [s2x (by omega)]; exact b2
        · rw [st2_at, if_pos rfl, if_pos c]
      · exact hj _ ⟨fun q k h => b1 _ _ (by omega), b2, by rw [e16, if_neg c]⟩
  · intro j hj
    refine Ev_if (fun c => ?_) (fun c => ?_)
    · refine Ev_ls (hj _ ⟨fun q k h => ?_, ?_⟩)
      · rw [s2x (by omega)]
      · rw [st2_at, if_pos rfl, if_pos c]
    · exact hj _ ⟨fun q k h => rfl, by rw [if_neg c]⟩
