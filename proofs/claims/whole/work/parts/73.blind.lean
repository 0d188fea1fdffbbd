/-! blind, send -/
def FrU (I I' M M' : MI) : Prop := (∀ p, ¬ (38 ≤ p ∧ p < 46) → ¬ (64 ≤ p ∧ p < 70) → I' p = I p) ∧ (∀ p k, ¬ (p = 0 ∧ (k = 2 ∨ k = 74)) → p ≠ 40 → ¬ (p = 32 ∧ k = 0) → ¬ (p = 33 ∧ k = 0) → ¬ (p = 26 ∧ k < 6) → M' p k = M p k)
theorem FrU.r0 (I M : MI) : FrU I I M (st2 M 0 2 0) := ⟨fun _ _ _ => rfl, fun p k a _ _ _ _ => s2x (by omega)⟩
theorem FrU.st0 {I I' M M' : MI} (h : FrU I I' (st2 M 0 2 0) M') : FrU I I' M M' := ⟨h.1, fun p k a b c d e => (h.2 p k a b c d e).trans (s2x (by omega))⟩
theorem NowR.up {I I' M M' : MI} {J : MJ} {su dn dn' dy nk nh : Nat} (N : NowR I M J su dn dy nk nh) (T : TwR (fun _ => true) I' 38 (M' 26) (M' 27) (M' 28) (M' 29) (M' 30) su dn' dy (M' 34 0) (M' 33 0) nk nh) (h31 : M' 31 0 = M 31 0) (h32 : M' 32 0 = Int32.ofNat dn') (h35 : M' 35 0 = M 35 0) (hn : I' 38 10 = I 38 10) (hz : ∀ h, nh ≤ h → h < 6 → dn'.testBit h = false) : NowR I' M' J su dn' dy nk nh :=
  ⟨T, h31.trans N.s2, h32, h35.trans N.y2, by rw [hn]; exact N.nu, by rw [hn]; exact N.n0, hz, N.yl⟩
theorem xr_p : ∀ s : Fin 64, ∀ h : Fin 6, Int32.ofNat s.1 ^^^ ((1 : Int32) <<< (Int32.ofNat h.1 &&& 31)) = Int32.ofNat (s.1 ^^^ 2 ^ h.1) ∧ s.1 ^^^ 2 ^ h.1 < 64 ∧ (s.1 ^^^ 2 ^ h.1) ^^^ 2 ^ h.1 = s.1 ∧ ∀ j : Fin 6, (s.1 ^^^ 2 ^ h.1).testBit j.1 = (if j.1 = h.1 then !s.1.testBit j.1 else s.1.testBit j.1) := by decide +kernel
theorem TwR.dn {I I' : MI} {pu bi us lo ti : Nat → Int32} {su dn dn' dy : Nat} {du se : Int32} {nk nh : Nat} (T : TwR (fun _ => true) I 38 pu bi us lo ti su dn dy du se nk nh) (hI : ∀ p, 38 ≤ p → p < 46 → p ≠ 44 → I' p = I p) (hd : dn' < 64) (hw : ∀ h, h < nh → I' 44 h = if dn'.testBit h then 1 else 0) (h0 : ∀ h, nh ≤ h → h < 6 → I' 44 h = 0) (hn : nh ≤ 6) : TwR (fun _ => true) I' 38 pu bi us lo ti su dn' dy du se nk nh := by
  refine ⟨?_, ?_, ?_, ?_, ?_, fun h a _ => hw h a, ?_, fun h a => ?_, fun h a b => ?_, T.sl, T.sz, hd, ?_, ?_, ?_, ?_, T.sx, T.pb, T.bb, T.ub⟩
  · rw [hI (38 + 1) (by omega) (by omega) (by omega)]; exact T.pu
  · rw [hI (38 + 2) (by omega) (by omega) (by omega)]; exact T.bi
  · rw [hI (38 + 3) (by omega) (by omega) (by omega)]; exact T.us
  · rw [hI (38 + 4) (by omega) (by omega) (by omega)]; exact T.lo
  · rw [hI (38 + 5) (by omega) (by omega) (by omega)]; exact T.so
  · rw [hI (38 + 5) (by omega) (by omega) (by omega)]; exact T.z5
  · show is01 (I' 44 h) = true
    by_cases c : h < nh
    · rw [hw h c]; split <;> rfl
    · rw [h0 h (by omega) a]; rfl
  · obtain ⟨z1, z2, z3, z4, z5, _⟩ := T.ze h a b
    rw [hI (38 + 1) (by omega) (by omega) (by omega), hI (38 + 2) (by omega) (by omega) (by omega), hI (38 + 3) (by omega) (by omega) (by omega), hI (38 + 4) (by omega) (by omega) (by omega), hI (38 + 5) (by omega) (by omega) (by omega)]
    exact ⟨z1, z2, z3, z4, z5, h0 h a b⟩
  · rw [hI (38 + 7) (by omega) (by omega) (by omega)]; exact T.ti
  · rw [hI 38 (by omega) (by omega) (by omega)]; exact T.du
  · rw [hI 38 (by omega) (by omega) (by omega)]; exact T.y1
  · rw [hI 38 (by omega) (by omega) (by omega)]; exact T.se
theorem c_blind {bk nk nh nw kn su dn dy us : Nat} {I I2 : MI} {J2 : MJ} (B : BookR bk I I2 nk nh nw kn) (N : NowR I I2 J2 su dn dy nk nh) (U : UndR I I2 nk nh us) (a : Int32) : ∃ v I' M' dn' us', f_X10_blind bk I a = some (v, I') ∧ f_X11_blind I2 a = some (v, M') ∧ FrU I I' I2 M' ∧ NowR I' M' J2 su dn' dy nk nh ∧ UndR I' M' nk nh us' := by
  have lh := B.lh
  delta f_X10_blind f_X11_blind
  show ∃ v I' M' dn' us', _ ∧ bd1 (f_X11_isHouse (st2 I2 0 2 0) a) _ = _ ∧ _
  rw [p_isHouse B, m_isHouse B, bd1_s, bd1_s]
  cases ha : ok6 nh a with
  | false => exact ⟨-1, I, st2 I2 0 2 0, dn, us, rfl, rfl, FrU.r0 I I2, N.st0 lh, U.fr lh (fun _ _ _ => rfl) rfl rfl rfl rfl (fun _ _ => rfl)⟩
  | true =>
    obtain ⟨h, hh, rfl⟩ := ok6_t ha
    rw [if_pos rfl, if_pos rfl]
    have hul := U.ul
    obtain ⟨I3, e1, a1, a2, a3, a4, a5⟩ := p_add (I := I) U.ul U.u1 0 (Int32.ofNat h)
    have h74 : st2 I2 0 2 0 0 74 = Int32.ofNat us := U.u2
    obtain ⟨M3, e2, b1, b2, b3, b4⟩ := m_remember (M := st2 I2 0 2 0) U.ul h74
    have g6 : inb (Int32.ofNat h) 6 = true := (n_inb (by omega)).mpr (by omega)
    have hx := xr_p ⟨dn, N.tw.dl⟩ ⟨h, by omega⟩
    simp only at hx
    obtain ⟨x1, x2, x3, x40⟩ := hx
    have x4 : ∀ j, j < 6 → (dn ^^^ 2 ^ h).testBit j = if j = h then !dn.testBit j else dn.testBit j := fun j hj => x40 ⟨j, hj⟩
    have hd44 : I3 44 h = if dn.testBit h then 1 else 0 := by rw [a1 44 (by omega)]; exact N.tw.dw h hh rfl
    have hd32 : M3 32 0 = Int32.ofNat dn := by rw [b1 32 0 (by omega) (by omega)]; exact N.d2
    obtain ⟨nb, hnb⟩ : ∃ nb, nb = !dn.testBit h := ⟨_, rfl⟩
    have hbit : (dn ^^^ 2 ^ h).testBit h = nb := by rw [x4 h (by omega), if_pos rfl, hnb]
    refine ⟨bi nb, st2 I3 44 h (bi nb), st2 M3 32 0 (Int32.ofNat (dn ^^^ 2 ^ h)), dn ^^^ 2 ^ h, us - fo us + 1, ?_, ?_, ?_, ?_, ?_⟩
    · delta f_X9_drew
      rw [e1, bd1_s, bd1_s, gd_t g6]
      simp only [lt, n_ix (show h < 2147483648 by omega)]
      rw [hd44]
      have hend : (gd (is01 (bi nb)) (gd (inb (Int32.ofNat h) 6) (gd (inb (Int32.ofNat h) 6) (if (st2 I3 44 (ix (Int32.ofNat h)) (bi nb) 44 (ix (Int32.ofNat h))) = 0 then some (bi false, st2 I3 44 (ix (Int32.ofNat h)) (bi nb)) else some (bi true, st2 I3 44 (ix (Int32.ofNat h)) (bi nb)))))) = some (bi nb, st2 I3 44 h (bi nb)) := by
        rw [gd_t (is01_bi nb), gd_t g6, gd_t g6, n_ix (by omega), st2_at, if_pos rfl]
        cases nb <;> rfl
      rw [n_ix (by omega)] at hend
      cases hb : dn.testBit h with
      | true =>
        rw [hb] at hnb
        have hnb' : nb = false := hnb
        rw [hnb'] at hend ⊢
        rw [if_neg (by decide)]
        exact hend
      | false =>
        rw [hb] at hnb
        have hnb' : nb = true := hnb
        rw [hnb'] at hend ⊢
        rw [if_pos (by rfl)]
        exact hend
    · rw [e2, bd1_s]
      simp only [lt]
      rw [ixc.1, gd_t g02, gd_t g02, gd_t g02, hd32, x1, st2_at, if_pos rfl, bit_s x2 (by omega), hbit]
      cases nb <;> rfl
    · refine FrU.st0 ⟨fun p c d => ?_, fun p k c d e f g => ?_⟩
      · rw [st2_ne (by omega)]; exact a1 p d
      · rw [s2x (by omega)]; exact b1 p k d (by omega)
    · have hr : ∀ p, p ≠ 0 → p ≠ 32 → p ≠ 40 → st2 M3 32 0 (Int32.ofNat (dn ^^^ 2 ^ h)) p = I2 p := fun p c d e => by
        rw [st2_ne d]
        funext k
        rw [b1 p k e (by omega), st0_row c]
      refine N.up ?_ (by rw [hr 31 (by omega) (by omega) (by omega)]) (by rw [st2_at, if_pos rfl]) (by rw [hr 35 (by omega) (by omega) (by omega)]) (by rw [st2_ne (by omega), a1 38 (by omega)]) (fun j c d => ?_)
      · rw [hr 26 (by omega) (by omega) (by omega), hr 27 (by omega) (by omega) (by omega), hr 28 (by omega) (by omega) (by omega), hr 29 (by omega) (by omega) (by omega), hr 30 (by omega) (by omega) (by omega), hr 34 (by omega) (by omega) (by omega), hr 33 (by omega) (by omega) (by omega)]
        refine N.tw.dn (fun p c d e => by rw [st2_ne e]; exact a1 p (by omega)) x2 (fun j c => ?_) (fun j c d => ?_) lh
        · rw [st2_at, x4 j (by omega)]
          by_cases e : j = h
          · rw [if_pos e, if_pos e, e, ← hnb]
            cases nb <;> rfl
          · rw [if_neg e, if_neg e, a1 44 (by omega)]
            exact N.tw.dw j c rfl
        · rw [st2_at, if_neg (by omega), a1 44 (by omega)]
          exact (N.tw.ze j c d).2.2.2.2.2
      · rw [x4 j d, if_neg (by omega)]
        exact N.dz j c d
    · refine U.push lh ?_ (fun q k c d e => by rw [st2_ne (by omega)]; exact a3 q k c d e) ?_ (fun i k c d => ?_) (fun k c => ?_) ?_
      · rw [st2_ne (by omega)]; exact a2
      · rw [st2_ne (by omega)]; exact b2
      · rw [st2_ne (by omega), b3 i k c d, st0_row (by omega)]
      · rw [st2_ne (by omega), b4 k c]
        unfold cu
        rw [st0_row (by omega), st0_row (by omega), st0_row (by omega)]
      · rw [st2_ne (by omega), st2_ne (by omega), a4, a5]
        refine Or.inl ⟨rfl, ⟨h, hh, rfl, ?_⟩, fun k c d => ?_⟩
        · show I2 32 0 = st2 M3 32 0 (Int32.ofNat (dn ^^^ 2 ^ h)) 32 0 ^^^ _
          have := (xr_p ⟨dn ^^^ 2 ^ h, x2⟩ ⟨h, by omega⟩).1
          simp only at this
          rw [st2_at, if_pos rfl, this, x3]; exact N.d2
        · unfold cu
          rw [if_neg d, if_neg d, st2_ne (by omega), st2_ne (by omega)]
          split
          · rw [b1 33 0 (by omega) (by omega), st0_row (by omega)]
          · rw [b1 26 _ (by omega) (by omega), st0_row (by omega)]
theorem TwR.snd {I I' : MI} {pu bi us lo ti : Nat → Int32} {su dn dy : Nat} {du se se' : Int32} {nk nh : Nat} (T : TwR (fun _ => true) I 38 pu bi us lo ti su dn dy du se nk nh) (hI : ∀ p k, 38 ≤ p → p < 46 → ¬ (p = 38 ∧ k = 9) → I' p k = I p k) (h9 : I' 38 9 = se') (hx : se' = -1 ∨ ∃ k, k < nk ∧ se' = Int32.ofNat k) : TwR (fun _ => true) I' 38 pu bi us lo ti su dn dy du se' nk nh := by
  have hr : ∀ p, 38 < p → p < 46 → I' p = I p := fun p a b => funext (fun k => hI p k (by omega) b (by omega))
  refine ⟨?_, ?_, ?_, ?_, ?_, ?_, ?_, ?_, ?_, T.sl, T.sz, T.dl, ?_, ?_, ?_, h9, hx, T.pb, T.bb, T.ub⟩
  · rw [hr (38 + 1) (by omega) (by omega)]; exact T.pu
  · rw [hr (38 + 2) (by omega) (by omega)]; exact T.bi
  · rw [hr (38 + 3) (by omega) (by omega)]; exact T.us
  · rw [hr (38 + 4) (by omega) (by omega)]; exact T.lo
  · rw [hr (38 + 5) (by omega) (by omega)]; exact T.so
  · rw [hr (38 + 6) (by omega) (by omega)]; exact T.dw
  · rw [hr (38 + 5) (by omega) (by omega)]; exact T.z5
  · rw [hr (38 + 6) (by omega) (by omega)]; exact T.z6
  · rw [hr (38 + 1) (by omega) (by omega), hr (38 + 2) (by omega) (by omega), hr (38 + 3) (by omega) (by omega), hr (38 + 4) (by omega) (by omega), hr (38 + 5) (by omega) (by omega), hr (38 + 6) (by omega) (by omega)]; exact T.ze
  · rw [hr (38 + 7) (by omega) (by omega)]; exact T.ti
  · rw [hI 38 7 (by omega) (by omega) (by omega)]; exact T.du
  · rw [hI 38 8 (by omega) (by omega) (by omega)]; exact T.y1
theorem c_send {bk nk nh nw kn su dn dy us : Nat} {I I2 : MI} {J2 : MJ} (B : BookR bk I I2 nk nh nw kn) (N : NowR I I2 J2 su dn dy nk nh) (U : UndR I I2 nk nh us) (a : Int32) : ∃ v I' M' us', f_X10_send bk I a = some (v, I') ∧ f_X11_send I2 a = some (v, M') ∧ FrU I I' I2 M' ∧ NowR I' M' J2 su dn dy nk nh ∧ UndR I' M' nk nh us' := by
  have lh := B.lh
  delta f_X10_send f_X11_send
  show ∃ v I' M' us', _ ∧ bd1 (f_X11_isKind (st2 I2 0 2 0) a) _ = _ ∧ _
  rw [p_isKind B, m_isKind B, bd1_s, bd1_s]
  cases ha : ok6 nk a with
  | false => exact ⟨false, I, st2 I2 0 2 0, us, rfl, rfl, FrU.r0 I I2, N.st0 lh, U.fr lh (fun _ _ _ => rfl) rfl rfl rfl rfl (fun _ _ => rfl)⟩
  | true =>
    obtain ⟨k0, hk0, rfl⟩ := ok6_t ha
    rw [if_pos rfl, if_pos rfl]
    obtain ⟨I3, e1, a1, a2, a3, a4, a5⟩ := p_add (I := I) U.ul U.u1 1 (I 38 9)
    have h74 : st2 I2 0 2 0 0 74 = Int32.ofNat us := U.u2
    obtain ⟨M3, e2, b1, b2, b3, b4⟩ := m_remember (M := st2 I2 0 2 0) U.ul h74
    have hul := U.ul
    refine ⟨true, st2 I3 38 9 (Int32.ofNat k0), st2 M3 33 0 (Int32.ofNat k0), us - fo us + 1, ?_, ?_, ?_, ?_, ?_⟩
    · delta f_X9_sent
      rw [e1, bd1_s, bd1_s]; rfl
    · rw [e2, bd1_s]
      simp only [lt]
      rw [ixc.1, gd_t g02]
    · refine FrU.st0 ⟨fun p c d => ?_, fun p k c d e f g => ?_⟩
      · rw [st2_ne (by omega)]; exact a1 p d
      · rw [s2x (by omega)]; exact b1 p k d (by omega)
    · have hr : ∀ p, p ≠ 0 → p ≠ 33 → p ≠ 40 → st2 M3 33 0 (Int32.ofNat k0) p = I2 p := fun p c d e => by
        rw [st2_ne d]
        funext k
        rw [b1 p k e (by omega), st0_row c]
      refine N.up ?_ (by rw [hr 31 (by omega) (by omega) (by omega)]) (by rw [hr 32 (by omega) (by omega) (by omega)]; exact N.d2) (by rw [hr 35 (by omega) (by omega) (by omega)]) (by rw [s2x (by omega), a1 38 (by omega)]) N.dz
      rw [hr 26 (by omega) (by omega) (by omega), hr 27 (by omega) (by omega) (by omega), hr 28 (by omega) (by omega) (by omega), hr 29 (by omega) (by omega) (by omega), hr 30 (by omega) (by omega) (by omega), hr 34 (by omega) (by omega) (by omega), st2_at, if_pos rfl]
      exact N.tw.snd (fun p k c d e => by rw [s2x e, a1 p (by omega)]) (by rw [st2_at, if_pos rfl]) (Or.inr ⟨k0, hk0, rfl⟩)
    · refine U.push lh ?_ (fun q k c d e => by rw [st2_ne (by omega)]; exact a3 q k c d e) ?_ (fun i k c d => ?_) (fun k c => ?_) ?_
      · rw [st2_ne (by omega)]; exact a2
      · rw [st2_ne (by omega)]; exact b2
      · rw [st2_ne (by omega), b3 i k c d, st0_row (by omega)]
      · rw [st2_ne (by omega), b4 k c]
        unfold cu
        rw [st0_row (by omega), st0_row (by omega), st0_row (by omega)]
      · rw [st2_ne (by omega), st2_ne (by omega), a4, a5]
        refine Or.inr (Or.inl ⟨rfl, ?_, ?_, fun k c d => ?_⟩)
        · show I 38 9 = I2 33 0
          exact N.tw.se
        · have h := N.tw.se
          rcases N.tw.sx with c | ⟨k, hk, c⟩
          · exact Or.inl (h.trans c)
          · exact Or.inr ⟨k, hk, h.trans c⟩
        · unfold cu
          rw [if_neg d, if_neg d, st2_ne (by omega), st2_ne (by omega)]
          split
          · rw [b1 32 0 (by omega) (by omega), st0_row (by omega)]
          · rw [b1 26 _ (by omega) (by omega), st0_row (by omega)]
