/-! keep, back -/
def ImgR (I M : MI) (J2 : MJ) (nk nh sui dni dyi : Nat) : Prop := (I 0 8 = M 0 76) ∧ (I 0 8 = 0 ∨ I 0 8 = 1) ∧ (I 0 8 = 1 → TwR (fun _ => true) I 54 (fun h => M 41 (2 + h)) (M 42) (fun h => M 42 (6 + h)) (fun h => M 42 (12 + h)) (fun k => M 42 (18 + k)) sui dni dyi (M 42 25) (M 41 1) nk nh) ∧ (I 0 8 = 1 → M 42 24 = Int32.ofNat sui) ∧ (I 0 8 = 1 → M 41 0 = Int32.ofNat dni) ∧ (I 0 8 = 1 → M 42 26 = Int32.ofNat dyi) ∧ (I 0 8 = 1 → J2 0 79 = (I 54 10).toInt64) ∧ (I 0 8 = 1 → 0 ≤ (I 54 10).toInt) ∧ (I 0 8 = 1 → ∀ h, nh ≤ h → h < 6 → dni.testBit h = false) ∧ (I 0 8 = 1 → dyi ≤ 9000)
theorem ImgR.i1 {I M : MI} {J2 : MJ} {nk nh sui dni dyi : Nat} (B_ : ImgR I M J2 nk nh sui dni dyi) : I 0 8 = M 0 76 := B_.1
theorem ImgR.i2 {I M : MI} {J2 : MJ} {nk nh sui dni dyi : Nat} (B_ : ImgR I M J2 nk nh sui dni dyi) : I 0 8 = 0 ∨ I 0 8 = 1 := B_.2.1
theorem ImgR.tw {I M : MI} {J2 : MJ} {nk nh sui dni dyi : Nat} (B_ : ImgR I M J2 nk nh sui dni dyi) : I 0 8 = 1 → TwR (fun _ => true) I 54 (fun h => M 41 (2 + h)) (M 42) (fun h => M 42 (6 + h)) (fun h => M 42 (12 + h)) (fun k => M 42 (18 + k)) sui dni dyi (M 42 25) (M 41 1) nk nh := B_.2.2.1
theorem ImgR.s2 {I M : MI} {J2 : MJ} {nk nh sui dni dyi : Nat} (B_ : ImgR I M J2 nk nh sui dni dyi) : I 0 8 = 1 → M 42 24 = Int32.ofNat sui := B_.2.2.2.1
theorem ImgR.d2 {I M : MI} {J2 : MJ} {nk nh sui dni dyi : Nat} (B_ : ImgR I M J2 nk nh sui dni dyi) : I 0 8 = 1 → M 41 0 = Int32.ofNat dni := B_.2.2.2.2.1
theorem ImgR.y2 {I M : MI} {J2 : MJ} {nk nh sui dni dyi : Nat} (B_ : ImgR I M J2 nk nh sui dni dyi) : I 0 8 = 1 → M 42 26 = Int32.ofNat dyi := B_.2.2.2.2.2.1
theorem ImgR.nu {I M : MI} {J2 : MJ} {nk nh sui dni dyi : Nat} (B_ : ImgR I M J2 nk nh sui dni dyi) : I 0 8 = 1 → J2 0 79 = (I 54 10).toInt64 := B_.2.2.2.2.2.2.1
theorem ImgR.n0 {I M : MI} {J2 : MJ} {nk nh sui dni dyi : Nat} (B_ : ImgR I M J2 nk nh sui dni dyi) : I 0 8 = 1 → 0 ≤ (I 54 10).toInt := B_.2.2.2.2.2.2.2.1
theorem ImgR.dz {I M : MI} {J2 : MJ} {nk nh sui dni dyi : Nat} (B_ : ImgR I M J2 nk nh sui dni dyi) : I 0 8 = 1 → ∀ h, nh ≤ h → h < 6 → dni.testBit h = false := B_.2.2.2.2.2.2.2.2.1
theorem ImgR.yl {I M : MI} {J2 : MJ} {nk nh sui dni dyi : Nat} (B_ : ImgR I M J2 nk nh sui dni dyi) : I 0 8 = 1 → dyi ≤ 9000 := B_.2.2.2.2.2.2.2.2.2
theorem ImgR.fr {I I' M M' : MI} {J J' : MJ} {nk nh sui dni dyi : Nat} (G : ImgR I M J nk nh sui dni dyi) (h8 : I' 0 8 = I 0 8) (hI : ∀ p, 54 ≤ p → p < 62 → I' p = I p) (h41 : M' 41 = M 41) (h42 : M' 42 = M 42) (h76 : M' 0 76 = M 0 76) (h79 : J' 0 79 = J 0 79) : ImgR I' M' J' nk nh sui dni dyi := by
  unfold ImgR at G ⊢
  rw [h8, h41, h42, h76, h79, hI 54 (by omega) (by omega)]
  exact ⟨G.1, G.2.1, fun e => (G.2.2.1 e).fr hI, G.2.2.2⟩
theorem ImgR.nil {I M : MI} {J : MJ} {nk nh sui dni dyi : Nat} (h1 : I 0 8 = 0) (h2 : M 0 76 = 0) : ImgR I M J nk nh sui dni dyi := by
  have e : ∀ {P : Prop}, I 0 8 = 1 → P := fun h => absurd (h1.symm.trans h) (by decide)
  exact ⟨h1.trans h2.symm, Or.inl h1, e, e, e, e, e, e, e, e⟩
theorem m_keep {M : MI} {J : MJ} : ∃ M', f_X11_keep M J = some (M 35 0, M', st2 J 0 79 (J 0 62)) ∧ (∀ p k, ¬ (p = 0 ∧ (k = 2 ∨ k = 76)) → p ≠ 41 → p ≠ 42 → M' p k = M p k) ∧ M' 0 76 = 1 ∧ (∀ k, k < 8 → M' 41 k = cu M k) ∧ (∀ k, k < 6 → M' 42 k = M 27 k ∧ M' 42 (6 + k) = M 28 k ∧ M' 42 (12 + k) = M 29 k ∧ M' 42 (18 + k) = M 30 k) ∧ M' 42 24 = M 31 0 ∧ M' 42 25 = M 34 0 ∧ M' 42 26 = M 35 0 := by
  suffices h : Ev (f_X11_keep M J) (fun a => a.1 = M 35 0 ∧ a.2.2 = st2 J 0 79 (J 0 62) ∧ (∀ p k, ¬ (p = 0 ∧ (k = 2 ∨ k = 76)) → p ≠ 41 → p ≠ 42 → a.2.1 p k = M p k) ∧ a.2.1 0 76 = 1 ∧ (∀ k, k < 8 → a.2.1 41 k = cu M k) ∧ (∀ k, k < 6 → a.2.1 42 k = M 27 k ∧ a.2.1 42 (6 + k) = M 28 k ∧ a.2.1 42 (12 + k) = M 29 k ∧ a.2.1 42 (18 + k) = M 30 k) ∧ a.2.1 42 24 = M 31 0 ∧ a.2.1 42 25 = M 34 0 ∧ a.2.1 42 26 = M 35 0) by
    obtain ⟨⟨a, M', J'⟩, e, h1, h2, h3⟩ := h
    dsimp only at h1 h2 h3
    exact ⟨M', by rw [e, h1, h2], h3⟩
  delta f_X11_keep
  refine Ev_ls (Ev_gd rfl (Ev_ls ?_))
  obtain ⟨M2, hM2⟩ : ∃ A, A = st2 (st2 M 0 2 0) 0 76 1 := ⟨_, rfl⟩
  rw [← hM2]
  have m2 : ∀ p k, ¬ (p = 0 ∧ (k = 2 ∨ k = 76)) → M2 p k = M p k := fun p k h => by rw [hM2, s2x (by omega), s2x (by omega)]
  have m76 : M2 0 76 = 1 := by rw [hM2, st2_at, if_pos rfl]
  obtain ⟨M3, e3, p1, p2, p3⟩ := m_put (M := M2) (pa := 41) (na := 8) (x := 0) (by omega) (by omega) (by omega)
  rw [show (0 : Int32) = Int32.ofNat 0 from rfl, e3, bd1_s]
  have q1 : ∀ p k, ¬ (p = 0 ∧ (k = 2 ∨ k = 76)) → p ≠ 41 → M3 p k = M p k := fun p k a b => by rw [p1 p b, m2 p k a]
  have q41 : ∀ k, k < 8 → M3 41 k = cu M k := fun k hk => by
    have := p3 k hk
    rw [Nat.zero_add] at this
    rw [this]
    unfold cu
    rw [m2 32 0 (by omega), m2 33 0 (by omega), m2 26 _ (by omega)]
  have q76 : M3 0 76 = 1 := by rw [p1 0 (by omega), m76]
  refine Ev_j1 (fun I4 => (∀ p k, p ≠ 42 → I4 p k = M3 p k) ∧ (∀ k, k < 6 → I4 42 k = M 27 k ∧ I4 42 (6 + k) = M 28 k ∧ I4 42 (12 + k) = M 29 k ∧ I4 42 (18 + k) = M 30 k)) ?_ ?_
  · rintro I4 ⟨g1, g2⟩
    have i24 : ix (24 : Int32) = 24 := by decide
    have i25 : ix (25 : Int32) = 25 := by decide
    have i26 : ix (26 : Int32) = 26 := by decide
    have i0 : ix (Int32.ofNat 0) = 0 := ixc.1
    rw [i24, i25, i26, i0]
    refine Ev_gd rfl (Ev_gd rfl (Ev_ls (Ev_gd rfl (Ev_gd rfl (Ev_ls (Ev_gd rfl (Ev_gd rfl (Ev_ls (Ev_ls (Ev_gd rfl ?_))))))))))
    have e31 : I4 31 0 = M 31 0 := by rw [g1 31 0 (by omega), q1 31 0 (by omega) (by omega)]
    have e34 : ∀ x, st2 I4 42 24 x 34 0 = M 34 0 := fun x => by rw [st2_ne (by omega), g1 34 0 (by omega), q1 34 0 (by omega) (by omega)]
    have e35 : ∀ x y, st2 (st2 I4 42 24 x) 42 25 y 35 0 = M 35 0 := fun x y => by rw [st2_ne (by omega), st2_ne (by omega), g1 35 0 (by omega), q1 35 0 (by omega) (by omega)]
    rw [e31, e34, e35]
    refine Ev_some ⟨?_, rfl, fun p k a b c => ?_, ?_, fun k hk => ?_, fun k hk => ?_, ?_, ?_, ?_⟩
    · show st2 (st2 (st2 I4 42 24 (M 31 0)) 42 25 (M 34 0)) 42 26 (M 35 0) 35 0 = _
      rw [st2_ne (by omega)]; exact e35 _ _
    · show st2 (st2 (st2 I4 42 24 (M 31 0)) 42 25 (M 34 0)) 42 26 (M 35 0) p k = _
      rw [st2_ne c, st2_ne c, st2_ne c, g1 p k c, q1 p k a b]
    · show st2 (st2 (st2 I4 42 24 (M 31 0)) 42 25 (M 34 0)) 42 26 (M 35 0) 0 76 = _
      rw [st2_ne (by omega), st2_ne (by omega), st2_ne (by omega), g1 0 76 (by omega), q76]
    · show st2 (st2 (st2 I4 42 24 (M 31 0)) 42 25 (M 34 0)) 42 26 (M 35 0) 41 k = _
      rw [st2_ne (by omega), st2_ne (by omega), st2_ne (by omega), g1 41 k (by omega), q41 k hk]
    · show st2 (st2 (st2 I4 42 24 (M 31 0)) 42 25 (M 34 0)) 42 26 (M 35 0) 42 k = _ ∧ st2 (st2 (st2 I4 42 24 (M 31 0)) 42 25 (M 34 0)) 42 26 (M 35 0) 42 (6 + k) = _ ∧ st2 (st2 (st2 I4 42 24 (M 31 0)) 42 25 (M 34 0)) 42 26 (M 35 0) 42 (12 + k) = _ ∧ st2 (st2 (st2 I4 42 24 (M 31 0)) 42 25 (M 34 0)) 42 26 (M 35 0) 42 (18 + k) = _
      have hx : ∀ j, j < 24 → st2 (st2 (st2 I4 42 24 (M 31 0)) 42 25 (M 34 0)) 42 26 (M 35 0) 42 j = I4 42 j := fun j hj => by rw [s2x (by omega), s2x (by omega), s2x (by omega)]
      rw [hx k (by omega), hx (6 + k) (by omega), hx (12 + k) (by omega), hx (18 + k) (by omega)]
      exact g2 k hk
    · show st2 (st2 (st2 I4 42 24 (M 31 0)) 42 25 (M 34 0)) 42 26 (M 35 0) 42 24 = _
      rw [s2x (by omega), s2x (by omega), st2_at, if_pos rfl]
    · show st2 (st2 (st2 I4 42 24 (M 31 0)) 42 25 (M 34 0)) 42 26 (M 35 0) 42 25 = _
      rw [s2x (by omega), st2_at, if_pos rfl]
    · show st2 (st2 (st2 I4 42 24 (M 31 0)) 42 25 (M 34 0)) 42 26 (M 35 0) 42 26 = _
      rw [st2_at, if_pos rfl]
  · intro j hj
    refine Ev_fix2 (fun x9 I10 => ∃ i, i ≤ 6 ∧ x9 = Int32.ofNat i ∧ (∀ p k, p ≠ 42 → I10 p k = M3 p k) ∧ (∀ k, k < i → I10 42 k = M 27 k ∧ I10 42 (6 + k) = M 28 k ∧ I10 42 (12 + k) = M 29 k ∧ I10 42 (18 + k) = M 30 k)) (fun x9 _ => (80 - x9.toInt).toNat) ?_ FU _ _ (FU_lt (by decide)) ⟨0, by omega, rfl, fun _ _ _ => rfl, fun k hk => absurd hk (by omega)⟩
    rintro rec x9 I10 ⟨i, hi, rfl, g1, g2⟩ hrec
    refine Ev_if (fun c => ?_) (fun c => ?_)
    · have := (n_le (a := 6) (by omega) (by omega)).mp c
      exact hj _ ⟨g1, fun k hk => g2 k (by omega)⟩
    · have hlt : i < 6 := Nat.lt_of_not_le (fun h => c ((n_le (a := 6) (by omega) (by omega)).mpr h))
      have g12 : inb (Int32.ofNat i) 12 = true := (n_inb (by omega)).mpr (by omega)
      have n12 : (12 : Int32) + Int32.ofNat i = Int32.ofNat (12 + i) := n_add 12 i
      have n18 : (18 : Int32) + Int32.ofNat i = Int32.ofNat (18 + i) := n_add 18 i
      rw [n_6h, n12, n18, n_ix (show i < 2147483648 by omega), n_ix (show 6 + i < 2147483648 by omega), n_ix (show 12 + i < 2147483648 by omega), n_ix (show 18 + i < 2147483648 by omega)]
      refine Ev_gd g12 (Ev_gd ((n_inb (by omega)).mpr (by omega)) (Ev_ls ?_))
      rw [g1 27 i (by omega), q1 27 i (by omega) (by omega)]
      obtain ⟨A0, hA0⟩ : ∃ A, A = st2 I10 42 (i) (M 27 i) := ⟨_, rfl⟩
      rw [← hA0]
      have b0 : ∀ p k, (27 ≤ p ∧ p < 31) → A0 p k = M p k := fun p k h => by rw [hA0, st2_ne (by omega)]; exact (g1 p k (by omega)).trans (q1 p k (by omega) (by omega))
      refine Ev_gd g12 (Ev_gd ((n_inb (by omega)).mpr (by omega)) (Ev_ls ?_))
      rw [b0 28 i (by omega)]
      obtain ⟨A1, hA1⟩ : ∃ A, A = st2 A0 42 (6 + i) (M 28 i) := ⟨_, rfl⟩
      rw [← hA1]
      have b1 : ∀ p k, (27 ≤ p ∧ p < 31) → A1 p k = M p k := fun p k h => by rw [hA1, st2_ne (by omega)]; exact b0 p k h
      refine Ev_gd g12 (Ev_gd ((n_inb (by omega)).mpr (by omega)) (Ev_ls ?_))
      rw [b1 29 i (by omega)]
      obtain ⟨A2, hA2⟩ : ∃ A, A = st2 A1 42 (12 + i) (M 29 i) := ⟨_, rfl⟩
      rw [← hA2]
      have b2 : ∀ p k, (27 ≤ p ∧ p < 31) → A2 p k = M p k := fun p k h => by rw [hA2, st2_ne (by omega)]; exact b1 p k h
      refine Ev_gd g12 (Ev_gd ((n_inb (by omega)).mpr (by omega)) (Ev_ls ?_))
      rw [b2 30 i (by omega)]
      obtain ⟨A3, hA3⟩ : ∃ A, A = st2 A2 42 (18 + i) (M 30 i) := ⟨_, rfl⟩
      rw [← hA3]
      have b3 : ∀ p k, (27 ≤ p ∧ p < 31) → A3 p k = M p k := fun p k h => by rw [hA3, st2_ne (by omega)]; exact b2 p k h
      refine Ev_ls ?_
      rw [n_t1]
      refine hrec _ _ ⟨i + 1, by omega, rfl, fun p k h => ?_, fun k hk => ?_⟩ ?_
      · rw [hA3, st2_ne h, hA2, st2_ne h, hA1, st2_ne h, hA0, st2_ne h]; exact g1 p k h
      · by_cases e : k = i
        · subst e
          refine ⟨?_, ?_, ?_, ?_⟩
          · rw [hA3, s2x (by omega), hA2, s2x (by omega), hA1, s2x (by omega), hA0, st2_at, if_pos rfl]
          · rw [hA3, s2x (by omega), hA2, s2x (by omega), hA1, st2_at, if_pos rfl]
          · rw [hA3, s2x (by omega), hA2, st2_at, if_pos rfl]
          · rw [hA3, st2_at, if_pos rfl]
        · have hx : ∀ j, j ≠ i → j ≠ 6 + i → j ≠ 12 + i → j ≠ 18 + i → A3 42 j = I10 42 j := fun j a b c d => by
            rw [hA3, s2x (by omega), hA2, s2x (by omega), hA1, s2x (by omega), hA0, s2x (by omega)]
          rw [hx k (by omega) (by omega) (by omega) (by omega), hx (6 + k) (by omega) (by omega) (by omega) (by omega), hx (12 + k) (by omega) (by omega) (by omega) (by omega), hx (18 + k) (by omega) (by omega) (by omega) (by omega)]
          exact g2 k (by omega)
      · rw [n_toInt (by omega), n_toInt (by omega)]; omega
def FrK (I I' M M' : MI) (J J' : MJ) : Prop := (∀ p k, ¬ (p = 0 ∧ k = 8) → ¬ (54 ≤ p ∧ p < 62) → I' p k = I p k) ∧ (∀ p k, ¬ (p = 0 ∧ (k = 2 ∨ k = 76)) → p ≠ 41 → p ≠ 42 → M' p k = M p k) ∧ (∀ p k, ¬ (p = 0 ∧ k = 79) → J' p k = J p k)
theorem c_keep {bk nk nh nw kn su dn dy : Nat} {I I2 : MI} {J2 : MJ} (B : BookR bk I I2 nk nh nw kn) (N : NowR I I2 J2 su dn dy nk nh) : ∃ v I' M' J', f_X10_keep I = some (v, I') ∧ f_X11_keep I2 J2 = some (v, M', J') ∧ FrK I I' I2 M' J2 J' ∧ ImgR I' M' J' nk nh su dn dy := by
  have lh := B.lh
  have T := N.tw
  obtain ⟨M', em, m1, m2, m3, m4, m5, m6, m7⟩ := m_keep (M := I2) (J := J2)
  obtain ⟨I1, ei, t1, t2, t3⟩ := p_takeFrom (I := I) (pt := 54) (po := 38) (by omega) T.z5 T.z6
  have hI : ∀ q h, 1 ≤ q → q ≤ 7 → h < 6 → st2 I1 0 8 1 (54 + q) h = I (38 + q) h := fun q h a b c => by rw [st2_ne (by omega), t2 q h a b c]
  have hk : ∀ k, 7 ≤ k → k ≤ 10 → st2 I1 0 8 1 54 k = I 38 k := fun k a b => by rw [st2_ne (by omega), t3 k a b]
  have h8 : st2 I1 0 8 1 0 8 = 1 := by rw [st2_at, if_pos rfl]
  refine ⟨I2 35 0, st2 I1 0 8 1, M', st2 J2 0 79 (J2 0 62), ?_, em, ⟨fun p k a b => ?_, m1, fun p k a => s2y a⟩, ?_⟩
  · delta f_X10_keep
    rw [ei, bd1_s, gd_t (show is01 1 = true from rfl)]
    simp only [lt]
    rw [st2_ne (by omega), t1 38 (by omega), T.y1, N.y2]
  · rw [s2x a, t1 p b]
  · have hcu : ∀ h, h < 6 → M' 41 (2 + h) = I2 26 h := fun h hh => by
      rw [m3 (2 + h) (by omega)]
      unfold cu
      rw [if_neg (by omega), if_neg (by omega), show 2 + h - 2 = h by omega]
    refine ⟨by rw [h8, m2], Or.inr h8, fun _ => ⟨?_, ?_, ?_, ?_, ?_, ?_, ?_, ?_, ?_, T.sl, T.sz, T.dl, ?_, ?_, ?_, ?_, ?_, ?_, ?_, ?_⟩, fun _ => by rw [m5]; exact N.s2, fun _ => ?_, fun _ => by rw [m7]; exact N.y2, fun _ => ?_, fun _ => ?_, fun _ => N.dz, fun _ => N.yl⟩
    · intro h a _
      show st2 I1 0 8 1 (54 + 1) h = M' 41 (2 + h)
      rw [hI 1 h (by omega) (by omega) (by omega), hcu h (by omega)]; exact T.pu h a rfl
    · intro h a _
      rw [hI 2 h (by omega) (by omega) (by omega), (m4 h (by omega)).1]; exact T.bi h a rfl
    · intro h a _
      show st2 I1 0 8 1 (54 + 3) h = M' 42 (6 + h)
      rw [hI 3 h (by omega) (by omega) (by omega), (m4 h (by omega)).2.1]; exact T.us h a rfl
    · intro h a _
      show st2 I1 0 8 1 (54 + 4) h = M' 42 (12 + h)
      rw [hI 4 h (by omega) (by omega) (by omega), (m4 h (by omega)).2.2.1]; exact T.lo h a rfl
    · intro h a _
      rw [hI 5 h (by omega) (by omega) (by omega)]; exact T.so h a rfl
    · intro h a _
      rw [hI 6 h (by omega) (by omega) (by omega)]; exact T.dw h a rfl
    · intro h a
      rw [hI 5 h (by omega) (by omega) a]; exact T.z5 h a
    · intro h a
      rw [hI 6 h (by omega) (by omega) a]; exact T.z6 h a
    · intro h a b
      rw [hI 1 h (by omega) (by omega) b, hI 2 h (by omega) (by omega) b, hI 3 h (by omega) (by omega) b, hI 4 h (by omega) (by omega) b, hI 5 h (by omega) (by omega) b, hI 6 h (by omega) (by omega) b]
      exact T.ze h a b
    · intro k a
      show st2 I1 0 8 1 (54 + 7) k = M' 42 (18 + k)
      rw [hI 7 k (by omega) (by omega) a, (m4 k a).2.2.2]; exact T.ti k a
    · rw [hk 7 (by omega) (by omega), m6]; exact T.du
    · rw [hk 8 (by omega) (by omega)]; exact T.y1
    · rw [hk 9 (by omega) (by omega), m3 1 (by omega)]; exact T.se
    · rw [m3 1 (by omega)]; exact T.sx
    · intro h a _
      show -99999 ≤ (M' 41 (2 + h)).toInt ∧ (M' 41 (2 + h)).toInt ≤ 99999 ∧ (su.testBit h = false → 0 ≤ (M' 41 (2 + h)).toInt)
      rw [hcu h (by omega)]; exact T.pb h a rfl
    · intro h a _
      rw [(m4 h (by omega)).1]; exact T.bb h a rfl
    · intro h a _
      show 0 ≤ (M' 42 (6 + h)).toInt ∧ (M' 42 (6 + h)).toInt ≤ 99999
      rw [(m4 h (by omega)).2.1]; exact T.ub h a rfl
    · rw [m3 0 (by omega)]; exact N.d2
    · rw [st2_at, if_pos rfl, hk 10 (by omega) (by omega)]; exact N.nu
    · rw [hk 10 (by omega) (by omega)]; exact N.n0
