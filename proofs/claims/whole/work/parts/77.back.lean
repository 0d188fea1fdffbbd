/-! back -/
theorem m_back {M : MI} {J : MJ} (h76 : ¬ M 0 76 = 0) : ∃ M', f_X11_back M J = some (M 42 26, M', st2 J 0 62 (J 0 79)) ∧ (∀ p k, ¬ (p = 0 ∧ (k = 2 ∨ k = 74)) → ¬ (26 ≤ p ∧ p < 31 ∧ k < 6) → ¬ (31 ≤ p ∧ p < 36 ∧ k = 0) → M' p k = M p k) ∧ M' 0 74 = 0 ∧ M' 32 0 = M 41 0 ∧ M' 33 0 = M 41 1 ∧ (∀ h, h < 6 → M' 26 h = M 41 (2 + h)) ∧ (∀ k, k < 6 → M' 27 k = M 42 k ∧ M' 28 k = M 42 (6 + k) ∧ M' 29 k = M 42 (12 + k) ∧ M' 30 k = M 42 (18 + k)) ∧ M' 31 0 = M 42 24 ∧ M' 34 0 = M 42 25 ∧ M' 35 0 = M 42 26 := by
  suffices h : Ev (f_X11_back M J) (fun a => a.1 = M 42 26 ∧ a.2.2 = st2 J 0 62 (J 0 79) ∧ (∀ p k, ¬ (p = 0 ∧ (k = 2 ∨ k = 74)) → ¬ (26 ≤ p ∧ p < 31 ∧ k < 6) → ¬ (31 ≤ p ∧ p < 36 ∧ k = 0) → a.2.1 p k = M p k) ∧ a.2.1 0 74 = 0 ∧ a.2.1 32 0 = M 41 0 ∧ a.2.1 33 0 = M 41 1 ∧ (∀ h, h < 6 → a.2.1 26 h = M 41 (2 + h)) ∧ (∀ k, k < 6 → a.2.1 27 k = M 42 k ∧ a.2.1 28 k = M 42 (6 + k) ∧ a.2.1 29 k = M 42 (12 + k) ∧ a.2.1 30 k = M 42 (18 + k)) ∧ a.2.1 31 0 = M 42 24 ∧ a.2.1 34 0 = M 42 25 ∧ a.2.1 35 0 = M 42 26) by
    obtain ⟨⟨a, M', J'⟩, e, h1, h2, h3⟩ := h
    dsimp only at h1 h2 h3
    exact ⟨M', by rw [e, h1, h2], h3⟩
  delta f_X11_back
  refine Ev_ls ?_
  have h76' : ¬ st2 M 0 2 0 0 76 = 0 := h76
  rw [if_neg h76']
  obtain ⟨M2, et, t1, t2, t3, t4⟩ := m_take (M := st2 M 0 2 0) (pa := 41) (na := 8) (x := 0) (by omega) (by omega) (by omega)
  have et' : f_X11_take (st2 M 0 2 0) 41 8 0 = some M2 := et
  rw [et', bd1_s]
  have q1 : ∀ p k, ¬ (p = 0 ∧ k = 2) → ¬ (p = 32 ∧ k = 0) → ¬ (p = 33 ∧ k = 0) → ¬ (p = 26 ∧ k < 6) → M2 p k = M p k := fun p k a b c d => by rw [t1 p k b c d, s2x a]
  refine Ev_j1 (fun I3 => (∀ p k, ¬ (27 ≤ p ∧ p < 31 ∧ k < 6) → I3 p k = M2 p k) ∧ (∀ k, k < 6 → I3 27 k = M 42 k ∧ I3 28 k = M 42 (6 + k) ∧ I3 29 k = M 42 (12 + k) ∧ I3 30 k = M 42 (18 + k))) ?_ ?_
  · rintro I3 ⟨g1, g2⟩
    have i24 : ix (24 : Int32) = 24 := by decide
    have i25 : ix (25 : Int32) = 25 := by decide
    have i26 : ix (26 : Int32) = 26 := by decide
    have i0 : ix (0 : Int32) = 0 := ixc.1
    rw [i24, i25, i26, i0]
    refine Ev_gd rfl (Ev_gd rfl (Ev_ls (Ev_gd rfl (Ev_gd rfl (Ev_ls (Ev_gd rfl (Ev_gd rfl (Ev_ls (Ev_ls (Ev_ls (Ev_gd rfl ?_)))))))))))
    have e24 : I3 42 24 = M 42 24 := by rw [g1 42 24 (by omega), q1 42 24 (by omega) (by omega) (by omega) (by omega)]
    have e25 : ∀ x, st2 I3 31 0 x 42 25 = M 42 25 := fun x => by rw [st2_ne (by omega), g1 42 25 (by omega), q1 42 25 (by omega) (by omega) (by omega) (by omega)]
    have e26 : ∀ x y, st2 (st2 I3 31 0 x) 34 0 y 42 26 = M 42 26 := fun x y => by rw [st2_ne (by omega), st2_ne (by omega), g1 42 26 (by omega), q1 42 26 (by omega) (by omega) (by omega) (by omega)]
    rw [e24, e25, e26]
    obtain ⟨Z, hZ⟩ : ∃ Z, Z = st2 (st2 (st2 (st2 I3 31 0 (M 42 24)) 34 0 (M 42 25)) 35 0 (M 42 26)) 0 74 0 := ⟨_, rfl⟩
    have z1 : ∀ p k, ¬ (p = 31 ∧ k = 0) → ¬ (p = 34 ∧ k = 0) → ¬ (p = 35 ∧ k = 0) → ¬ (p = 0 ∧ k = 74) → Z p k = I3 p k := fun p k a b c d => by rw [hZ, s2x d, s2x c, s2x b, s2x a]
    have z35 : Z 35 0 = M 42 26 := by rw [hZ, s2x (by omega), st2_at, if_pos rfl]
    rw [← hZ]
    refine Ev_some ?_
    dsimp only
    refine ⟨z35, rfl, fun p k a b c => ?_, ?_, ?_, ?_, fun h hh => ?_, fun k hk => ?_, ?_, ?_, z35⟩
    · rw [z1 p k (by omega) (by omega) (by omega) (by omega), g1 p k (by omega), q1 p k (by omega) (by omega) (by omega) (by omega)]
    · rw [hZ, st2_at, if_pos rfl]
    · rw [z1 32 0 (by omega) (by omega) (by omega) (by omega), g1 32 0 (by omega), t2, s2x (by omega)]
    · rw [z1 33 0 (by omega) (by omega) (by omega) (by omega), g1 33 0 (by omega), t3, s2x (by omega)]
    · rw [z1 26 h (by omega) (by omega) (by omega) (by omega), g1 26 h (by omega), t4 h hh, s2x (by omega)]
    · rw [z1 27 k (by omega) (by omega) (by omega) (by omega), z1 28 k (by omega) (by omega) (by omega) (by omega), z1 29 k (by omega) (by omega) (by omega) (by omega), z1 30 k (by omega) (by omega) (by omega) (by omega)]
      exact g2 k hk
    · rw [hZ, s2x (by omega), s2x (by omega), s2x (by omega), st2_at, if_pos rfl]
    · rw [hZ, s2x (by omega), s2x (by omega), st2_at, if_pos rfl]
  · intro j hj
    refine Ev_fix2 (fun x9 I10 => ∃ i, i ≤ 6 ∧ x9 = Int32.ofNat i ∧ (∀ p k, ¬ (27 ≤ p ∧ p < 31 ∧ k < 6) → I10 p k = M2 p k) ∧ (∀ k, k < i → I10 27 k = M 42 k ∧ I10 28 k = M 42 (6 + k) ∧ I10 29 k = M 42 (12 + k) ∧ I10 30 k = M 42 (18 + k))) (fun x9 _ => (80 - x9.toInt).toNat) ?_ FU _ _ (FU_lt (by decide)) ⟨0, by omega, rfl, fun _ _ _ => rfl, fun k hk => absurd hk (by omega)⟩
    rintro rec x9 I10 ⟨i, hi, rfl, g1, g2⟩ hrec
    refine Ev_if (fun c => ?_) (fun c => ?_)
    · have := (n_le (a := 6) (by omega) (by omega)).mp c
      exact hj _ ⟨g1, fun k hk => g2 k (by omega)⟩
    · have hlt : i < 6 := Nat.lt_of_not_le (fun h => c ((n_le (a := 6) (by omega) (by omega)).mpr h))
      have g12 : inb (Int32.ofNat i) 12 = true := (n_inb (by omega)).mpr (by omega)
      have n12 : (12 : Int32) + Int32.ofNat i = Int32.ofNat (12 + i) := n_add 12 i
      have n18 : (18 : Int32) + Int32.ofNat i = Int32.ofNat (18 + i) := n_add 18 i
      have q42 : ∀ k, I10 42 k = M 42 k := fun k => by rw [g1 42 k (by omega), q1 42 k (by omega) (by omega) (by omega) (by omega)]
      rw [n_6h, n12, n18, n_ix (show i < 2147483648 by omega), n_ix (show 6 + i < 2147483648 by omega), n_ix (show 12 + i < 2147483648 by omega), n_ix (show 18 + i < 2147483648 by omega)]
      refine Ev_gd ((n_inb (by omega)).mpr (by omega)) (Ev_gd g12 (Ev_ls ?_))
      rw [q42 i]
      obtain ⟨A0, hA0⟩ : ∃ A, A = st2 I10 27 i (M 42 i) := ⟨_, rfl⟩
      rw [← hA0]
      have b0 : ∀ k, A0 42 k = M 42 k := fun k => by rw [hA0, st2_ne (by omega)]; exact q42 k
      refine Ev_gd ((n_inb (by omega)).mpr (by omega)) (Ev_gd g12 (Ev_ls ?_))
      rw [b0 (6 + i)]
      obtain ⟨A1, hA1⟩ : ∃ A, A = st2 A0 28 i (M 42 (6 + i)) := ⟨_, rfl⟩
      rw [← hA1]
      have b1 : ∀ k, A1 42 k = M 42 k := fun k => by rw [hA1, st2_ne (by omega)]; exact b0 k
      refine Ev_gd ((n_inb (by omega)).mpr (by omega)) (Ev_gd g12 (Ev_ls ?_))
      rw [b1 (12 + i)]
      obtain ⟨A2, hA2⟩ : ∃ A, A = st2 A1 29 i (M 42 (12 + i)) := ⟨_, rfl⟩
      rw [← hA2]
      have b2 : ∀ k, A2 42 k = M 42 k := fun k => by rw [hA2, st2_ne (by omega)]; exact b1 k
      refine Ev_gd ((n_inb (by omega)).mpr (by omega)) (Ev_gd g12 (Ev_ls ?_))
      rw [b2 (18 + i)]
      obtain ⟨A3, hA3⟩ : ∃ A, A = st2 A2 30 i (M 42 (18 + i)) := ⟨_, rfl⟩
      rw [← hA3]
      have b3 : ∀ k, A3 42 k = M 42 k := fun k => by rw [hA3, st2_ne (by omega)]; exact b2 k
      refine Ev_ls ?_
      rw [n_t1]
      refine hrec _ _ ⟨i + 1, by omega, rfl, fun p k h => ?_, fun k hk => ?_⟩ ?_
      · rw [hA3, s2x (by omega), hA2, s2x (by omega), hA1, s2x (by omega), hA0, s2x (by omega)]; exact g1 p k h
      · by_cases e : k = i
        · subst e
          refine ⟨?_, ?_, ?_, ?_⟩
          · rw [hA3, s2x (by omega), hA2, s2x (by omega), hA1, s2x (by omega), hA0, st2_at, if_pos rfl]
          · rw [hA3, s2x (by omega), hA2, s2x (by omega), hA1, st2_at, if_pos rfl]
          · rw [hA3, s2x (by omega), hA2, st2_at, if_pos rfl]
          · rw [hA3, st2_at, if_pos rfl]
        · have hx : ∀ p, A3 p k = I10 p k := fun p => by
            rw [hA3, s2x (by omega), hA2, s2x (by omega), hA1, s2x (by omega), hA0, s2x (by omega)]
          rw [hx, hx, hx, hx]
          exact g2 k (by omega)
      · rw [n_toInt (by omega), n_toInt (by omega)]; omega
def FrB (I I' M M' : MI) (J J' : MJ) : Prop := (∀ p, ¬ (38 ≤ p ∧ p < 46) → p ≠ 64 → I' p = I p) ∧ (∀ p k, ¬ (p = 0 ∧ (k = 2 ∨ k = 74)) → ¬ (26 ≤ p ∧ p < 31 ∧ k < 6) → ¬ (31 ≤ p ∧ p < 36 ∧ k = 0) → M' p k = M p k) ∧ (∀ p k, ¬ (p = 0 ∧ k = 62) → J' p k = J p k)
theorem c_back {bk nk nh nw kn su dn dy us sui dni dyi : Nat} {I I2 : MI} {J2 : MJ} (B : BookR bk I I2 nk nh nw kn) (N : NowR I I2 J2 su dn dy nk nh) (U : UndR I I2 nk nh us) (G : ImgR I I2 J2 nk nh sui dni dyi) : ∃ v I' M' J' su' dn' dy' us', f_X10_back I = some (v, I') ∧ f_X11_back I2 J2 = some (v, M', J') ∧ FrB I I' I2 M' J2 J' ∧ NowR I' M' J' su' dn' dy' nk nh ∧ UndR I' M' nk nh us' := by
  have lh := B.lh
  rcases G.i2 with h0 | h1
  · refine ⟨-1, I, st2 I2 0 2 0, J2, su, dn, dy, us, ?_, ?_, ⟨fun _ _ _ => rfl, fun p k a _ _ => s2x (by omega), fun _ _ _ => rfl⟩, N.st0 lh, U.fr lh (fun _ _ _ => rfl) rfl rfl rfl rfl (fun _ _ => rfl)⟩
    · delta f_X10_back
      rw [if_pos h0]
    · delta f_X11_back
      have : st2 I2 0 2 0 0 76 = 0 := G.i1.symm.trans h0
      simp only [lt]
      rw [if_pos this]
  · have hne : ¬ I2 0 76 = 0 := by rw [← G.i1, h1]; decide
    have T := G.tw h1
    obtain ⟨M', em, m1, m2, m3, m4, m5, m6, m7, m8, m9⟩ := m_back (M := I2) (J := J2) hne
    obtain ⟨I1, ei, t1, t2, t3⟩ := p_takeFrom (I := I) (pt := 38) (po := 54) (by omega) T.z5 T.z6
    have hI : ∀ q h, 1 ≤ q → q ≤ 7 → h < 6 → st2 I1 64 5 0 (38 + q) h = I (54 + q) h := fun q h a b c => by rw [st2_ne (by omega), t2 q h a b c]
    have hk : ∀ k, 7 ≤ k → k ≤ 10 → st2 I1 64 5 0 38 k = I 54 k := fun k a b => by rw [st2_ne (by omega), t3 k a b]
    refine ⟨I2 42 26, st2 I1 64 5 0, M', st2 J2 0 62 (J2 0 79), sui, dni, dyi, 0, ?_, em, ⟨fun p a b => ?_, m1, fun p k a => s2y a⟩, ?_, UndR.nil (by rw [st2_at, if_pos rfl]) m2⟩
    · delta f_X10_back f_X9_clear
      rw [if_neg (by rw [h1]; decide), ei, bd1_s]
      simp only [lt]
      rw [bd1_s, hk 8 (by omega) (by omega), T.y1, G.y2 h1]
    · rw [st2_ne b, t1 p a]
    · refine ⟨⟨?_, ?_, ?_, ?_, ?_, ?_, ?_, ?_, ?_, T.sl, T.sz, T.dl, ?_, ?_, ?_, ?_, ?_, ?_, ?_, ?_⟩, by rw [m7]; exact G.s2 h1, by rw [m3]; exact G.d2 h1, by rw [m9]; exact G.y2 h1, ?_, ?_, G.dz h1, G.yl h1⟩
      · intro h a _
        rw [hI 1 h (by omega) (by omega) (by omega), m5 h (by omega)]; exact T.pu h a rfl
      · intro h a _
        rw [hI 2 h (by omega) (by omega) (by omega), (m6 h (by omega)).1]; exact T.bi h a rfl
      · intro h a _
        rw [hI 3 h (by omega) (by omega) (by omega), (m6 h (by omega)).2.1]; exact T.us h a rfl
      · intro h a _
        rw [hI 4 h (by omega) (by omega) (by omega), (m6 h (by omega)).2.2.1]; exact T.lo h a rfl
      · intro h a _
        rw [hI 5 h (by omega) (by omega) (by omega)]; exact T.so h a rfl
      · intro h a _
        rw [hI 6 h (by omega) (by omega) (by omega)]; exact T.dw h a rfl
      · intro h a
        rw [hI 5 h (by omega) (by omega) a]; exact T.z5 h a
      · intro h a
        rw [hI 6 h (by omega) (by omega) a]; exact T.z6 h a
      · intro h a b
        rw [hI 1 h (by omega) (by omega) b, hI 2 h (by omega) (by omega) b, hI 3 h (by omega) (by omega) b, hI 4 h (by omega) (by omega) b, hI 5 h (by omega) (by omega) b, hI 6 h (by omega) (by omega) b]
        exact T.ze h a b
      · intro k a
        rw [hI 7 k (by omega) (by omega) a, (m6 k a).2.2.2]; exact T.ti k a
      · rw [hk 7 (by omega) (by omega), m8]; exact T.du
      · rw [hk 8 (by omega) (by omega)]; exact T.y1
      · rw [hk 9 (by omega) (by omega), m4]; exact T.se
      · rw [m4]; exact T.sx
      · intro h a _
        rw [m5 h (by omega)]; exact T.pb h a rfl
      · intro h a _
        rw [(m6 h (by omega)).1]; exact T.bb h a rfl
      · intro h a _
        rw [(m6 h (by omega)).2.1]; exact T.ub h a rfl
      · rw [st2_at, if_pos rfl, hk 10 (by omega) (by omega)]; exact G.nu h1
      · rw [hk 10 (by omega) (by omega)]; exact G.n0 h1
