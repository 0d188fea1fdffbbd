/-! undo -/
theorem c_undo {bk nk nh nw kn su dn dy us : Nat} {I I2 : MI} {J2 : MJ} (B : BookR bk I I2 nk nh nw kn) (N : NowR I I2 J2 su dn dy nk nh) (U : UndR I I2 nk nh us) : ∃ v I' M' dn' us', f_X10_undo I = some (v, I') ∧ f_X11_undo I2 = some (v, M') ∧ FrU I I' I2 M' ∧ NowR I' M' J2 su dn' dy nk nh ∧ UndR I' M' nk nh us' := by
  have lh := B.lh
  have hul := U.ul
  have h74 : st2 I2 0 2 0 0 74 = Int32.ofNat us := U.u2
  delta f_X10_undo f_X11_undo f_X9_undoLatest
  simp only [lt]
  rw [U.u1, h74]
  by_cases h0 : us = 0
  · subst h0
    exact ⟨-1, I, st2 I2 0 2 0, dn, 0, rfl, rfl, FrU.r0 I I2, N.st0 lh, U.fr lh (fun _ _ _ => rfl) rfl rfl rfl rfl (fun _ _ => rfl)⟩
  obtain ⟨v, rfl⟩ : ∃ v, us = v + 1 := ⟨us - 1, by omega⟩
  have hn0 : ¬ Int32.ofNat (v + 1) = 0 := fun e => by
    have := (n_eq (b := 0) (by omega) (by omega)).mp e
    omega
  have h1 : (1 : Int32) ≤ Int32.ofNat (v + 1) := (n_le (a := 1) (by omega) (by omega)).mpr (by omega)
  have es : Int32.ofNat (v + 1) - 1 = Int32.ofNat v := n_sub (a := v + 1) (b := 1) (by omega)
  have gv : inb (Int32.ofNat v) 20 = true := (n_inb (by omega)).mpr (by omega)
  rw [if_pos h1, if_neg hn0, es]
  obtain ⟨I1, hI1⟩ : ∃ A, A = st2 I 64 5 (Int32.ofNat v) := ⟨_, rfl⟩
  obtain ⟨M2, hM2⟩ : ∃ A, A = st2 (st2 I2 0 2 0) 0 74 (Int32.ofNat v) := ⟨_, rfl⟩
  rw [← hI1, ← hM2]
  have i5 : I1 64 5 = Int32.ofNat v := by rw [hI1, st2_at, if_pos rfl]
  have ip : ∀ p, p ≠ 64 → I1 p = I p := fun p h => by rw [hI1, st2_ne h]
  have m74 : M2 0 74 = Int32.ofNat v := by rw [hM2, st2_at, if_pos rfl]
  have mp : ∀ p k, ¬ (p = 0 ∧ (k = 2 ∨ k = 74)) → M2 p k = I2 p k := fun p k h => by rw [hM2, s2x (by omega), s2x (by omega)]
  have e8 : (8 : Int32) * M2 0 74 = Int32.ofNat (8 * v) := by rw [m74]; exact n_mul 8 v
  obtain ⟨M3, et, t1, t2, t3, t4⟩ := m_take (M := M2) (pa := 40) (na := 160) (x := 8 * v) (by omega) (by omega) (by omega)
  rw [e8, et, bd1_s, i5, gd_t gv, gd_t gv, n_ix (show v < 2147483648 by omega)]
  have X : ∀ k, sn I2 (v + 1) v k = I2 40 (8 * v + k) := fun k => by unfold sn; rw [if_pos (by omega)]
  have Y : ∀ k, sn I2 (v + 1) (v + 1) k = cu I2 k := fun k => by unfold sn; rw [if_neg (by omega)]
  have m32 : M3 32 0 = sn I2 (v + 1) v 0 := by rw [t2, mp 40 _ (by omega), X]; rfl
  have m33 : M3 33 0 = sn I2 (v + 1) v 1 := by rw [t3, mp 40 _ (by omega), X]
  have m26 : ∀ h, h < 6 → M3 26 h = sn I2 (v + 1) v (2 + h) := fun h hh => by rw [t4 h hh, mp 40 _ (by omega), X]; congr 1; omega
  have mf : ∀ p k, ¬ (p = 0 ∧ (k = 2 ∨ k = 74)) → ¬ (p = 32 ∧ k = 0) → ¬ (p = 33 ∧ k = 0) → ¬ (p = 26 ∧ k < 6) → M3 p k = I2 p k := fun p k a b c d => by rw [t1 p k b c d, mp p k a]
  have m74' : M3 0 74 = Int32.ofNat v := by rw [t1 0 74 (by omega) (by omega) (by omega), m74]
  have hst := U.st v (by omega)
  have hUn : ∀ I', (∀ p, ¬ (38 ≤ p ∧ p < 46) → I' p = I1 p) → UndR I' M3 nk nh v := fun I' hI' => by
    have hs : ∀ i k, i ≤ v → k < 8 → sn M3 v i k = sn I2 (v + 1) i k := fun i k hi hk => by
      by_cases e : i = v
      · subst e
        have : sn M3 i i k = cu M3 k := by unfold sn; rw [if_neg (by omega)]
        rw [this]
        unfold cu
        by_cases k0 : k = 0
        · rw [if_pos k0, k0]; exact m32
        · by_cases k1 : k = 1
          · rw [if_neg k0, if_pos k1, k1]; exact m33
          · rw [if_neg k0, if_neg k1, m26 (k - 2) (by omega), show 2 + (k - 2) = k by omega]
      · unfold sn
        rw [if_pos (by omega), if_pos (by omega), mf 40 _ (by omega) (by omega) (by omega) (by omega)]
    refine ⟨by omega, by rw [hI' 64 (by omega)]; exact i5, m74', fun i hi => ?_⟩
    rw [hI' 65 (by omega), hI' 66 (by omega), hI' 67 (by omega), hI' 68 (by omega), hI' 69 (by omega), ip 65 (by omega), ip 66 (by omega), ip 67 (by omega), ip 68 (by omega), ip 69 (by omega)]
    exact (U.st i (by omega)).cg lh (fun k hk => hs i k (by omega) hk) (fun k hk => hs (i + 1) k (by omega) hk)
  have hFr : ∀ I', (∀ p, ¬ (38 ≤ p ∧ p < 46) → I' p = I1 p) → FrU I I' I2 M3 := fun I' hI' =>
    ⟨fun p a b => by rw [hI' p a, ip p (by omega)], fun p k a _ c d e => mf p k a c d e⟩
  have hmr : ∀ p, p ≠ 0 → p ≠ 26 → p ≠ 32 → p ≠ 33 → M3 p = I2 p := fun p a b c d => funext (fun k => mf p k (by omega) (by omega) (by omega) (by omega))
  have hpu : (∀ h, h < 6 → M3 26 h = I2 26 h) → M3 34 0 = I2 34 0 → TwR (fun _ => true) I 38 (M3 26) (M3 27) (M3 28) (M3 29) (M3 30) su dn dy (M3 34 0) (I2 33 0) nk nh := fun hp h34 => by
    rw [h34, hmr 27 (by omega) (by omega) (by omega) (by omega), hmr 28 (by omega) (by omega) (by omega) (by omega), hmr 29 (by omega) (by omega) (by omega) (by omega), hmr 30 (by omega) (by omega) (by omega) (by omega)]
    exact N.tw.cg (fun h a _ => ⟨hp h (by omega), rfl, rfl, rfl, rfl⟩) N.tw.sl N.tw.sz (fun _ _ => rfl)
  have c34 : M3 34 0 = I2 34 0 := by rw [hmr 34 (by omega) (by omega) (by omega) (by omega)]
  have c31 : M3 31 0 = I2 31 0 := by rw [hmr 31 (by omega) (by omega) (by omega) (by omega)]
  have c35 : M3 35 0 = I2 35 0 := by rw [hmr 35 (by omega) (by omega) (by omega) (by omega)]
  rw [ip 65 (by omega), ip 66 (by omega)]
  rcases hst with ⟨w0, ⟨h, hh, wf, w1⟩, w2⟩ | ⟨w0, w1, w2, w3⟩ | ⟨w0, a, c, ha, hc, hac, wf, ws, wp, wq, wb, wc, w3⟩
  · have g6 : inb (Int32.ofNat h) 6 = true := (n_inb (by omega)).mpr (by omega)
    have hx := xr_p ⟨dn, N.tw.dl⟩ ⟨h, by omega⟩
    simp only at hx
    obtain ⟨x1, x2, x3, x40⟩ := hx
    have x4 : ∀ j, j < 6 → (dn ^^^ 2 ^ h).testBit j = if j = h then !dn.testBit j else dn.testBit j := fun j hj => x40 ⟨j, hj⟩
    have hd44 : I1 (38 + 6) h = if dn.testBit h then 1 else 0 := by rw [ip (38 + 6) (by omega)]; exact N.tw.dw h hh rfl
    obtain ⟨nb, hnb⟩ : ∃ nb, nb = !dn.testBit h := ⟨_, rfl⟩
    have hI' : ∀ p, ¬ (38 ≤ p ∧ p < 46) → st2 I1 44 h (bi nb) p = I1 p := fun p hp => st2_ne (by omega)
    refine ⟨Int32.ofNat v, st2 I1 44 h (bi nb), M3, dn ^^^ 2 ^ h, v, ?_, ?_, hFr _ hI', ?_, hUn _ hI'⟩
    · rw [w0, wf]
      have hsw : ∀ (A C D : Option (Bool × MI)), sw (0 : Int32) [(0, A), (1, C)] D = A := fun A C D => rfl
      rw [hsw, gd_t g6]
      simp only [n_ix (show h < 2147483648 by omega)]
      rw [hd44]
      cases hb : dn.testBit h with
      | true =>
        rw [hb] at hnb
        have hnb' : nb = false := hnb
        rw [if_neg (by decide), gd_t (show is01 (bi false) = true from rfl), gd_t g6, bd2_s, if_pos rfl, hnb']
        show some (st2 I1 44 h (bi false) 64 5, st2 I1 44 h (bi false)) = _
        rw [st2_ne (by omega), i5]
      | false =>
        rw [hb] at hnb
        have hnb' : nb = true := hnb
        rw [if_pos (by rfl), gd_t (show is01 (bi true) = true from rfl), gd_t g6, bd2_s, if_pos rfl, hnb']
        show some (st2 I1 44 h (bi true) 64 5, st2 I1 44 h (bi true)) = _
        rw [st2_ne (by omega), i5]
    · rw [m74']
    · have hp : ∀ j, j < 6 → M3 26 j = I2 26 j := fun j hj => by
        rw [m26 j hj, w2 (2 + j) (by omega) (by omega), Y]
        unfold cu
        rw [if_neg (by omega), if_neg (by omega), show 2 + j - 2 = j by omega]
      have h33 : M3 33 0 = I2 33 0 := by rw [m33, w2 1 (by omega) (by omega), Y]; rfl
      have h32 : M3 32 0 = Int32.ofNat (dn ^^^ 2 ^ h) := by
        rw [m32, w1, Y]
        show I2 32 0 ^^^ _ = _
        rw [N.d2, x1]
      refine N.up ?_ c31 h32 c35 (by rw [st2_ne (by omega), ip 38 (by omega)]) (fun j a b => by rw [x4 j b, if_neg (by omega)]; exact N.dz j a b)
      rw [h33]
      refine (hpu hp c34).dn (fun p a b c => by rw [st2_ne c, ip p (by omega)]) x2 (fun j a => ?_) (fun j a b => ?_) lh
      · rw [st2_at, x4 j (by omega)]
        by_cases e : j = h
        · rw [if_pos e, if_pos e, e, ← hnb]
          cases nb <;> rfl
        · rw [if_neg e, if_neg e, ip 44 (by omega)]
          exact N.tw.dw j a rfl
      · rw [st2_at, if_neg (by omega), ip 44 (by omega)]
        exact (N.tw.ze j a b).2.2.2.2.2
  · have hI' : ∀ p, ¬ (38 ≤ p ∧ p < 46) → st2 I1 38 9 (I 66 v) p = I1 p := fun p hp => st2_ne (by omega)
    refine ⟨Int32.ofNat v, st2 I1 38 9 (I 66 v), M3, dn, v, ?_, ?_, hFr _ hI', ?_, hUn _ hI'⟩
    · rw [w0]
      have hsw : ∀ (A C D : Option (Bool × MI)), sw (1 : Int32) [(0, A), (1, C)] D = C := fun A C D => rfl
      rw [hsw, bd2_s, if_pos rfl, st2_ne (by omega), i5]
    · rw [m74']
    · have hp : ∀ j, j < 6 → M3 26 j = I2 26 j := fun j hj => by
        rw [m26 j hj, w3 (2 + j) (by omega) (by omega), Y]
        unfold cu
        rw [if_neg (by omega), if_neg (by omega), show 2 + j - 2 = j by omega]
      have h32 : M3 32 0 = Int32.ofNat dn := by rw [m32, w3 0 (by omega) (by omega), Y]; exact N.d2
      refine N.up ?_ c31 h32 c35 (by rw [s2x (by omega), ip 38 (by omega)]) N.dz
      rw [m33, ← w1]
      exact (hpu hp c34).snd (fun p k a b c => by rw [s2x c, ip p (by omega)]) (by rw [st2_at, if_pos rfl]) w2
  · have ga : inb (Int32.ofNat a) 6 = true := (n_inb (by omega)).mpr (by omega)
    have gc : inb (Int32.ofNat c) 6 = true := (n_inb (by omega)).mpr (by omega)
    have hI' : ∀ p, ¬ (38 ≤ p ∧ p < 46) → st2 (st2 I1 39 a (I 68 v)) 39 c (I 69 v) p = I1 p := fun p hp => by rw [st2_ne (by omega), st2_ne (by omega)]
    refine ⟨Int32.ofNat v, st2 (st2 I1 39 a (I 68 v)) 39 c (I 69 v), M3, dn, v, ?_, ?_, hFr _ hI', ?_, hUn _ hI'⟩
    · rw [w0, wf]
      have hsw : ∀ (A C D : Option (Bool × MI)), sw (2 : Int32) [(0, A), (1, C)] D = D := fun A C D => rfl
      rw [hsw, gd_t ga]
      have e1 : I1 68 v = I 68 v := by rw [ip 68 (by omega)]
      have e2 : st2 I1 (38 + 1) (ix (Int32.ofNat a)) (I1 68 v) 64 5 = Int32.ofNat v := by rw [st2_ne (by omega)]; exact i5
      have e3 : st2 I1 (38 + 1) (ix (Int32.ofNat a)) (I1 68 v) 67 v = Int32.ofNat c := by rw [st2_ne (by omega), ip 67 (by omega)]; exact ws
      have e4 : st2 I1 (38 + 1) (ix (Int32.ofNat a)) (I1 68 v) 69 v = I 69 v := by rw [st2_ne (by omega), ip 69 (by omega)]
      rw [e2, gd_t gv, gd_t gv, gd_t gv, n_ix (show v < 2147483648 by omega), e3, e4, gd_t gc, bd2_s, if_pos rfl, n_ix (show a < 2147483648 by omega), n_ix (show c < 2147483648 by omega), e1]
      show some (st2 (st2 I1 39 a (I 68 v)) 39 c (I 69 v) 64 5, _) = _
      rw [hI' 64 (by omega), i5]
    · rw [m74']
    · have h33 : M3 33 0 = I2 33 0 := by rw [m33, w3 1 (by omega) (by omega) (by omega), Y]; rfl
      have h32 : M3 32 0 = Int32.ofNat dn := by rw [m32, w3 0 (by omega) (by omega) (by omega), Y]; exact N.d2
      have rI : ∀ k, st2 (st2 I1 39 a (I 68 v)) 39 c (I 69 v) 39 k = if k = c then I 69 v else if k = a then I 68 v else I 39 k := fun k => by rw [st2_at, st2_at, ip 39 (by omega)]
      have rM : ∀ k, k < 6 → M3 26 k = if k = c then I 69 v else if k = a then I 68 v else I2 26 k := fun k hk => by
        rw [m26 k hk]
        by_cases e1 : k = c
        · rw [if_pos e1, e1, wq]
        · rw [if_neg e1]
          by_cases e2 : k = a
          · rw [if_pos e2, e2, wp]
          · rw [if_neg e2, w3 (2 + k) (by omega) (by omega) (by omega), Y]
            unfold cu
            rw [if_neg (by omega), if_neg (by omega), show 2 + k - 2 = k by omega]
      refine N.up ?_ c31 h32 c35 (by rw [st2_ne (by omega), st2_ne (by omega), ip 38 (by omega)]) N.dz
      rw [h33, c34, hmr 27 (by omega) (by omega) (by omega) (by omega), hmr 28 (by omega) (by omega) (by omega) (by omega), hmr 29 (by omega) (by omega) (by omega) (by omega), hmr 30 (by omega) (by omega) (by omega) (by omega)]
      refine N.tw.pur (fun p x y z => by rw [st2_ne z, st2_ne z, ip p (by omega)]) (fun h hh => ?_) (fun h x y => ?_) (fun h hh => ?_)
      · rw [rI, rM h (by omega)]
        split
        · rfl
        · split
          · rfl
          · exact N.tw.pu h hh rfl
      · rw [rI, if_neg (by omega), if_neg (by omega)]
        exact (N.tw.ze h x y).1
      · rw [rM h (by omega)]
        split
        · exact ⟨by omega, by omega, fun _ => by omega⟩
        · split
          · exact ⟨by omega, by omega, fun _ => by omega⟩
          · exact N.tw.pb h hh rfl
