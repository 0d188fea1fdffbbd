/-! one town taken from another -/
theorem p_takeFrom {I : MI} {pt po : Nat} (hd : pt + 8 ≤ po ∨ po + 8 ≤ pt) (h5 : ∀ h, h < 6 → is01 (I (po + 5) h) = true) (h6 : ∀ h, h < 6 → is01 (I (po + 6) h) = true) : ∃ I', f_X8_takeFrom I pt po = some I' ∧ (∀ p, ¬ (pt ≤ p ∧ p < pt + 8) → I' p = I p) ∧ (∀ q h, 1 ≤ q → q ≤ 7 → h < 6 → I' (pt + q) h = I (po + q) h) ∧ (∀ k, 7 ≤ k → k ≤ 10 → I' pt k = I po k) := by
  suffices h : Ev (f_X8_takeFrom I pt po) (fun I' => (∀ p, ¬ (pt ≤ p ∧ p < pt + 8) → I' p = I p) ∧ (∀ q h, 1 ≤ q → q ≤ 7 → h < 6 → I' (pt + q) h = I (po + q) h) ∧ (∀ k, 7 ≤ k → k ≤ 10 → I' pt k = I po k)) from h
  delta f_X8_takeFrom
  refine Ev_j1 (fun I1 => (∀ p, ¬ (pt + 1 ≤ p ∧ p < pt + 8) → I1 p = I p) ∧ (∀ q h, 1 ≤ q → q ≤ 7 → h < 6 → I1 (pt + q) h = I (po + q) h)) ?_ ?_
  · rintro I1 ⟨g1, g2⟩
    refine Ev_ls (Ev_ls (Ev_ls (Ev_ls (Ev_some ⟨fun p hp => ?_, fun q h a b c => ?_, fun k a b => ?_⟩))))
    · rw [st2_ne (by omega), st2_ne (by omega), st2_ne (by omega), st2_ne (by omega)]
      exact g1 p (by omega)
    · rw [st2_ne (by omega), st2_ne (by omega), st2_ne (by omega), st2_ne (by omega)]
      exact g2 q h a b c
    · have e7 : st2 I1 pt 7 (I1 po 7) po = I po := by rw [st2_ne (by omega), g1 po (by omega)]
      have e8 : st2 (st2 I1 pt 7 (I1 po 7)) pt 8 (st2 I1 pt 7 (I1 po 7) po 8) po = I po := by rw [st2_ne (by omega), e7]
      have e9 : st2 (st2 (st2 I1 pt 7 (I1 po 7)) pt 8 (st2 I1 pt 7 (I1 po 7) po 8)) pt 9 (st2 (st2 I1 pt 7 (I1 po 7)) pt 8 (st2 I1 pt 7 (I1 po 7) po 8) po 9) po = I po := by rw [st2_ne (by omega), e8]
      rw [e9, e8, e7, g1 po (by omega), st2_at, st2_at, st2_at, st2_at]
      have hc : k = 7 ∨ k = 8 ∨ k = 9 ∨ k = 10 := by omega
      rcases hc with rfl | rfl | rfl | rfl
      · rw [if_neg (by decide), if_neg (by decide), if_neg (by decide), if_pos rfl]
      · rw [if_neg (by decide), if_neg (by decide), if_pos rfl]
      · rw [if_neg (by decide), if_pos rfl]
      · rw [if_pos rfl]
  · intro j hj
    refine Ev_fix2 (fun x6 I7 => ∃ i, i ≤ 6 ∧ x6 = Int32.ofNat i ∧ (∀ p, ¬ (pt + 1 ≤ p ∧ p < pt + 8) → I7 p = I p) ∧ (∀ q h, 1 ≤ q → q ≤ 7 → h < i → I7 (pt + q) h = I (po + q) h)) (fun x6 _ => (80 - x6.toInt).toNat) ?_ FU _ _ (FU_lt (by decide)) ⟨0, by omega, rfl, fun _ _ => rfl, fun q h _ _ c => absurd c (by omega)⟩
    rintro rec x6 I7 ⟨i, hi, rfl, g1, g2⟩ hrec
    refine Ev_if (fun c => ?_) (fun c => ?_)
    · have := (n_le (a := 6) (by omega) (by omega)).mp c
      exact hj _ ⟨g1, fun q h a b c => g2 q h a b (by omega)⟩
    · have hlt : i < 6 := Nat.lt_of_not_le (fun h => c ((n_le (a := 6) (by omega) (by omega)).mpr h))
      have g : inb (Int32.ofNat i) 6 = true := (n_inb (by omega)).mpr (by omega)
      have hne : ∀ q, I7 (po + q) = I (po + q) ∨ 8 ≤ q := fun q => by
        by_cases hq : q < 8
        · exact Or.inl (g1 _ (by omega))
        · exact Or.inr (by omega)
      have r : ∀ q, q < 8 → I7 (po + q) = I (po + q) := fun q hq => g1 _ (by omega)
      refine Ev_gd g (Ev_gd g (Ev_ls ?_))
      rw [n_ix (by omega), r 1 (by omega)]
      obtain ⟨A1, hA1⟩ : ∃ A, A = st2 I7 (pt + 1) i (I (po + 1) i) := ⟨_, rfl⟩
      rw [← hA1]
      have a1 : ∀ q, q < 8 → A1 (po + q) = I (po + q) := fun q hq => by rw [hA1, st2_ne (by omega)]; exact r q hq
      refine Ev_gd g (Ev_gd g (Ev_ls ?_))
      rw [a1 2 (by omega)]
      obtain ⟨A2, hA2⟩ : ∃ A, A = st2 A1 (pt + 2) i (I (po + 2) i) := ⟨_, rfl⟩
      rw [← hA2]
      have a2 : ∀ q, q < 8 → A2 (po + q) = I (po + q) := fun q hq => by rw [hA2, st2_ne (by omega)]; exact a1 q hq
      refine Ev_gd g (Ev_gd g (Ev_ls ?_))
      rw [a2 3 (by omega)]
      obtain ⟨A3, hA3⟩ : ∃ A, A = st2 A2 (pt + 3) i (I (po + 3) i) := ⟨_, rfl⟩
      rw [← hA3]
      have a3 : ∀ q, q < 8 → A3 (po + q) = I (po + q) := fun q hq => by rw [hA3, st2_ne (by omega)]; exact a2 q hq
      refine Ev_gd g (Ev_gd g (Ev_ls ?_))
      rw [a3 4 (by omega)]
      obtain ⟨A4, hA4⟩ : ∃ A, A = st2 A3 (pt + 4) i (I (po + 4) i) := ⟨_, rfl⟩
      rw [← hA4]
      have a4 : ∀ q, q < 8 → A4 (po + q) = I (po + q) := fun q hq => by rw [hA4, st2_ne (by omega)]; exact a3 q hq
      refine Ev_gd g (Ev_gd (by rw [a4 5 (by omega)]; exact h5 i hlt) (Ev_gd g (Ev_ls ?_)))
      rw [a4 5 (by omega)]
      obtain ⟨A5, hA5⟩ : ∃ A, A = st2 A4 (pt + 5) i (I (po + 5) i) := ⟨_, rfl⟩
      rw [← hA5]
      have a5 : ∀ q, q < 8 → A5 (po + q) = I (po + q) := fun q hq => by rw [hA5, st2_ne (by omega)]; exact a4 q hq
      refine Ev_gd g (Ev_gd (by rw [a5 6 (by omega)]; exact h6 i hlt) (Ev_gd g (Ev_ls ?_)))
      rw [a5 6 (by omega)]
      obtain ⟨A6, hA6⟩ : ∃ A, A = st2 A5 (pt + 6) i (I (po + 6) i) := ⟨_, rfl⟩
      rw [← hA6]
      have a6 : ∀ q, q < 8 → A6 (po + q) = I (po + q) := fun q hq => by rw [hA6, st2_ne (by omega)]; exact a5 q hq
      refine Ev_gd g (Ev_gd g (Ev_ls ?_))
      rw [a6 7 (by omega)]
      obtain ⟨A7, hA7⟩ : ∃ A, A = st2 A6 (pt + 7) i (I (po + 7) i) := ⟨_, rfl⟩
      rw [← hA7]
      have a7 : ∀ q, q < 8 → A7 (po + q) = I (po + q) := fun q hq => by rw [hA7, st2_ne (by omega)]; exact a6 q hq
      refine Ev_ls ?_
      rw [n_t1]
      refine hrec _ _ ⟨i + 1, by omega, rfl, fun p hp => ?_, fun q h b1 b2 b3 => ?_⟩ ?_
      · rw [hA7, st2_ne (by omega), hA6, st2_ne (by omega), hA5, st2_ne (by omega), hA4, st2_ne (by omega), hA3, st2_ne (by omega), hA2, st2_ne (by omega), hA1, st2_ne (by omega)]
        exact g1 p hp
      · have hc : q = 1 ∨ q = 2 ∨ q = 3 ∨ q = 4 ∨ q = 5 ∨ q = 6 ∨ q = 7 := by omega
        by_cases e : h = i
        · subst e
          rcases hc with rfl | rfl | rfl | rfl | rfl | rfl | rfl
          · rw [hA7, st2_ne (by omega), hA6, st2_ne (by omega), hA5, st2_ne (by omega), hA4, st2_ne (by omega), hA3, st2_ne (by omega), hA2, st2_ne (by omega), hA1, st2_at, if_pos rfl]
          · rw [hA7, st2_ne (by omega), hA6, st2_ne (by omega), hA5, st2_ne (by omega), hA4, st2_ne (by omega), hA3, st2_ne (by omega), hA2, st2_at, if_pos rfl]
          · rw [hA7, st2_ne (by omega), hA6, st2_ne (by omega), hA5, st2_ne (by omega), hA4, st2_ne (by omega), hA3, st2_at, if_pos rfl]
          · rw [hA7, st2_ne (by omega), hA6, st2_ne (by omega), hA5, st2_ne (by omega), hA4, st2_at, if_pos rfl]
          · rw [hA7, st2_ne (by omega), hA6, st2_ne (by omega), hA5, st2_at, if_pos rfl]
          · rw [hA7, st2_ne (by omega), hA6, st2_at, if_pos rfl]
          · rw [hA7, st2_at, if_pos rfl]
        · rw [hA7, s2x (by omega), hA6, s2x (by omega), hA5, s2x (by omega), hA4, s2x (by omega), hA3, s2x (by omega), hA2, s2x (by omega), hA1, s2x (by omega)]
          exact g2 q h b1 b2 (by omega)
      · rw [n_toInt (by omega), n_toInt (by omega)]; omega
theorem n_6h (h : Nat) : (6 : Int32) + Int32.ofNat h = Int32.ofNat (6 + h) := n_add 6 h
theorem m_plainTried (M : MI) : f_X11_plainTried M = some (st2 (st2 (st2 (st2 M 0 63 0) 0 64 0) 0 65 0) 0 66 0) := rfl
theorem p_plain (I : MI) : f_X1_plain I = some (st2 (st2 (st2 (st2 I 62 1 0) 62 2 0) 62 3 0) 62 4 0) := rfl
theorem m_layTried {M : MI} : ∃ M', f_X11_layTried M = some M' ∧ (∀ p k, ¬ (p = 0 ∧ 63 ≤ k ∧ k < 67) → ¬ (26 ≤ p ∧ p < 31 ∧ 6 ≤ k ∧ k < 12) → ¬ (31 ≤ p ∧ p < 36 ∧ k = 1) → M' p k = M p k) ∧ (∀ p h, 26 ≤ p → p < 31 → h < 6 → M' p (6 + h) = M p h) ∧ (∀ p, 31 ≤ p → p < 36 → M' p 1 = M p 0) ∧ (∀ k, 63 ≤ k → k < 67 → M' 0 k = 0) := by
  suffices h : Ev (f_X11_layTried M) (fun M' => (∀ p k, ¬ (p = 0 ∧ 63 ≤ k ∧ k < 67) → ¬ (26 ≤ p ∧ p < 31 ∧ 6 ≤ k ∧ k < 12) → ¬ (31 ≤ p ∧ p < 36 ∧ k = 1) → M' p k = M p k) ∧ (∀ p h, 26 ≤ p → p < 31 → h < 6 → M' p (6 + h) = M p h) ∧ (∀ p, 31 ≤ p → p < 36 → M' p 1 = M p 0) ∧ (∀ k, 63 ≤ k → k < 67 → M' 0 k = 0)) from h
  delta f_X11_layTried
  refine Ev_j1 (fun I1 => (∀ p k, ¬ (26 ≤ p ∧ p < 31 ∧ 6 ≤ k ∧ k < 12) → I1 p k = M p k) ∧ (∀ p h, 26 ≤ p → p < 31 → h < 6 → I1 p (6 + h) = M p h)) ?_ ?_
  · rintro I1 ⟨g1, g2⟩
    have i0 : ix (0 : Int32) = 0 := ixc.1
    have i1 : ix (1 : Int32) = 1 := ixc.2.1
    rw [i0, i1]
    refine Ev_gd rfl (Ev_gd rfl (Ev_ls ?_))
    obtain ⟨A31, hA31⟩ : ∃ A, A = st2 I1 31 1 (I1 31 0) := ⟨_, rfl⟩
    rw [← hA31]
    have a31 : ∀ p k, ¬ (31 ≤ p ∧ p ≤ 31 ∧ k = 1) → A31 p k = I1 p k := fun p k h => by rw [hA31]; exact s2x (by omega)
    refine Ev_gd rfl (Ev_gd rfl (Ev_ls ?_))
    obtain ⟨A32, hA32⟩ : ∃ A, A = st2 A31 32 1 (A31 32 0) := ⟨_, rfl⟩
    rw [← hA32]
    have a32 : ∀ p k, ¬ (31 ≤ p ∧ p ≤ 32 ∧ k = 1) → A32 p k = I1 p k := fun p k h => by rw [hA32, s2x (by omega)]; exact a31 p k (by omega)
    refine Ev_gd rfl (Ev_gd rfl (Ev_ls ?_))
    obtain ⟨A33, hA33⟩ : ∃ A, A = st2 A32 33 1 (A32 33 0) := ⟨_, rfl⟩
    rw [← hA33]
    have a33 : ∀ p k, ¬ (31 ≤ p ∧ p ≤ 33 ∧ k = 1) → A33 p k = I1 p k := fun p k h => by rw [hA33, s2x (by omega)]; exact a32 p k (by omega)
    refine Ev_gd rfl (Ev_gd rfl (Ev_ls ?_))
    obtain ⟨A34, hA34⟩ : ∃ A, A = st2 A33 34 1 (A33 34 0) := ⟨_, rfl⟩
    rw [← hA34]
    have a34 : ∀ p k, ¬ (31 ≤ p ∧ p ≤ 34 ∧ k = 1) → A34 p k = I1 p k := fun p k h => by rw [hA34, s2x (by omega)]; exact a33 p k (by omega)
    refine Ev_gd rfl (Ev_gd rfl (Ev_ls ?_))
    obtain ⟨A35, hA35⟩ : ∃ A, A = st2 A34 35 1 (A34 35 0) := ⟨_, rfl⟩
    rw [← hA35]
    have a35 : ∀ p k, ¬ (31 ≤ p ∧ p ≤ 35 ∧ k = 1) → A35 p k = I1 p k := fun p k h => by rw [hA35, s2x (by omega)]; exact a34 p k (by omega)
    rw [m_plainTried, bd1_s]
    refine Ev_some ⟨fun p k b1 b2 b3 => ?_, fun p h b1 b2 b3 => ?_, fun p b1 b2 => ?_, fun k b1 b2 => ?_⟩
    · rw [s2x (by omega), s2x (by omega), s2x (by omega), s2x (by omega), a35 p k (by omega)]
      exact g1 p k b2
    · rw [s2x (by omega), s2x (by omega), s2x (by omega), s2x (by omega), a35 p (6 + h) (by omega)]
      exact g2 p h b1 b2 b3
    · rw [s2x (by omega), s2x (by omega), s2x (by omega), s2x (by omega)]
      have hc : p = 31 ∨ p = 32 ∨ p = 33 ∨ p = 34 ∨ p = 35 := by omega
      rcases hc with rfl | rfl | rfl | rfl | rfl
      · rw [hA35, s2x (by omega), hA34, s2x (by omega), hA33, s2x (by omega), hA32, s2x (by omega), hA31, st2_at, if_pos rfl, g1 31 0 (by omega)]
      · rw [hA35, s2x (by omega), hA34, s2x (by omega), hA33, s2x (by omega), hA32, st2_at, if_pos rfl, a31 32 0 (by omega), g1 32 0 (by omega)]
      · rw [hA35, s2x (by omega), hA34, s2x (by omega), hA33, st2_at, if_pos rfl, a32 33 0 (by omega), g1 33 0 (by omega)]
      · rw [hA35, s2x (by omega), hA34, st2_at, if_pos rfl, a33 34 0 (by omega), g1 34 0 (by omega)]
      · rw [hA35, st2_at, if_pos rfl, a34 35 0 (by omega), g1 35 0 (by omega)]
    · have hc : k = 63 ∨ k = 64 ∨ k = 65 ∨ k = 66 := by omega
      rcases hc with rfl | rfl | rfl | rfl
      · rw [s2x (by omega), s2x (by omega), s2x (by omega), st2_at, if_pos rfl]
      · rw [s2x (by omega), s2x (by omega), st2_at, if_pos rfl]
      · rw [s2x (by omega), st2_at, if_pos rfl]
      · rw [st2_at, if_pos rfl]
  · intro j hj
    refine Ev_fix2 (fun x8 I9 => ∃ i, i ≤ 6 ∧ x8 = Int32.ofNat i ∧ (∀ p k, ¬ (26 ≤ p ∧ p < 31 ∧ 6 ≤ k ∧ k < 12) → I9 p k = M p k) ∧ (∀ p h, 26 ≤ p → p < 31 → h < i → I9 p (6 + h) = M p h)) (fun x8 _ => (80 - x8.toInt).toNat) ?_ FU _ _ (FU_lt (by decide)) ⟨0, by omega, rfl, fun _ _ _ => rfl, fun p h _ _ c => absurd c (by omega)⟩
    rintro rec x8 I9 ⟨i, hi, rfl, g1, g2⟩ hrec
    refine Ev_if (fun c => ?_) (fun c => ?_)
    · have := (n_le (a := 6) (by omega) (by omega)).mp c
      exact hj _ ⟨g1, fun p h a b c => g2 p h a b (by omega)⟩
    · have hlt : i < 6 := Nat.lt_of_not_le (fun h => c ((n_le (a := 6) (by omega) (by omega)).mpr h))
      have g : inb (Int32.ofNat i) 12 = true := (n_inb (by omega)).mpr (by omega)
      have g' : inb (Int32.ofNat (6 + i)) 12 = true := (n_inb (by omega)).mpr (by omega)
      rw [n_6h, n_ix (show i < 2147483648 by omega), n_ix (show 6 + i < 2147483648 by omega)]
      refine Ev_gd g (Ev_gd g' (Ev_ls ?_))
      rw [g1 26 i (by omega)]
      obtain ⟨A26, hA26⟩ : ∃ A, A = st2 I9 26 (6 + i) (M 26 i) := ⟨_, rfl⟩
      rw [← hA26]
      have a26 : ∀ p k, ¬ (26 ≤ p ∧ p < 31 ∧ 6 ≤ k ∧ k < 12) → A26 p k = M p k := fun p k h => by rw [hA26, s2x (by omega)]; exact g1 p k h
      refine Ev_gd g (Ev_gd g' (Ev_ls ?_))
      rw [a26 27 i (by omega)]
      obtain ⟨A27, hA27⟩ : ∃ A, A = st2 A26 27 (6 + i) (M 27 i) := ⟨_, rfl⟩
      rw [← hA27]
      have a27 : ∀ p k, ¬ (26 ≤ p ∧ p < 31 ∧ 6 ≤ k ∧ k < 12) → A27 p k = M p k := fun p k h => by rw [hA27, s2x (by omega)]; exact a26 p k h
      refine Ev_gd g (Ev_gd g' (Ev_ls ?_))
      rw [a27 28 i (by omega)]
      obtain ⟨A28, hA28⟩ : ∃ A, A = st2 A27 28 (6 + i) (M 28 i) := ⟨_, rfl⟩
      rw [← hA28]
      have a28 : ∀ p k, ¬ (26 ≤ p ∧ p < 31 ∧ 6 ≤ k ∧ k < 12) → A28 p k = M p k := fun p k h => by rw [hA28, s2x (by omega)]; exact a27 p k h
      refine Ev_gd g (Ev_gd g' (Ev_ls ?_))
      rw [a28 29 i (by omega)]
      obtain ⟨A29, hA29⟩ : ∃ A, A = st2 A28 29 (6 + i) (M 29 i) := ⟨_, rfl⟩
      rw [← hA29]
      have a29 : ∀ p k, ¬ (26 ≤ p ∧ p < 31 ∧ 6 ≤ k ∧ k < 12) → A29 p k = M p k := fun p k h => by rw [hA29, s2x (by omega)]; exact a28 p k h
      refine Ev_gd g (Ev_gd g' (Ev_ls ?_))
      rw [a29 30 i (by omega)]
      obtain ⟨A30, hA30⟩ : ∃ A, A = st2 A29 30 (6 + i) (M 30 i) := ⟨_, rfl⟩
      rw [← hA30]
      have a30 : ∀ p k, ¬ (26 ≤ p ∧ p < 31 ∧ 6 ≤ k ∧ k < 12) → A30 p k = M p k := fun p k h => by rw [hA30, s2x (by omega)]; exact a29 p k h
      refine Ev_ls ?_
      rw [n_t1]
      refine hrec _ _ ⟨i + 1, by omega, rfl, a30, fun p h b1 b2 b3 => ?_⟩ ?_
      · by_cases e : h = i
        · subst e
          have hc : p = 26 ∨ p = 27 ∨ p = 28 ∨ p = 29 ∨ p = 30 := by omega
          rcases hc with rfl | rfl | rfl | rfl | rfl
          · rw [hA30, s2x (by omega), hA29, s2x (by omega), hA28, s2x (by omega), hA27, s2x (by omega), hA26, st2_at, if_pos rfl]
          · rw [hA30, s2x (by omega), hA29, s2x (by omega), hA28, s2x (by omega), hA27, st2_at, if_pos rfl]
          · rw [hA30, s2x (by omega), hA29, s2x (by omega), hA28, st2_at, if_pos rfl]
          · rw [hA30, s2x (by omega), hA29, st2_at, if_pos rfl]
          · rw [hA30, st2_at, if_pos rfl]
        · rw [hA30, s2x (by omega), hA29, s2x (by omega), hA28, s2x (by omega), hA27, s2x (by omega), hA26, s2x (by omega)]
          exact g2 p h b1 b2 (by omega)
      · rw [n_toInt (by omega), n_toInt (by omega)]; omega
