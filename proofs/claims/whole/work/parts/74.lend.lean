/-! lend -/
theorem p_lent {I : MI} {us a c : Nat} (hu : us ≤ 20) (h5 : I 64 5 = Int32.ofNat us) (ha : a < 6) (hc : c < 6) : ∃ I', f_X9_lent I 38 (Int32.ofNat a) (Int32.ofNat c) = some I' ∧ (∀ p, ¬ (64 ≤ p ∧ p < 70) → I' p = I p) ∧ I' 64 5 = Int32.ofNat (us - fo us + 1) ∧ (∀ q k, 65 ≤ q → q < 70 → k < us - fo us → I' q k = I q (k + fo us)) ∧ I' 65 (us - fo us) = 2 ∧ I' 66 (us - fo us) = Int32.ofNat a ∧ I' 67 (us - fo us) = Int32.ofNat c ∧ I' 68 (us - fo us) = I 39 a ∧ I' 69 (us - fo us) = I 39 c := by
  obtain ⟨I1, e1, a1, a2, a3, a4, a5⟩ := p_add (I := I) hu h5 2 (Int32.ofNat a)
  obtain ⟨v, hv⟩ : ∃ v, v = us - fo us := ⟨_, rfl⟩
  have hv19 : v ≤ 19 := by
    rw [hv]; unfold fo; split <;> omega
  rw [← hv] at a2 a3 a4 a5 ⊢
  have g6 : inb (Int32.ofNat a) 6 = true := (n_inb (by omega)).mpr (by omega)
  have g6c : inb (Int32.ofNat c) 6 = true := (n_inb (by omega)).mpr (by omega)
  have gv : inb (Int32.ofNat v) 20 = true := (n_inb (by omega)).mpr (by omega)
  have es : Int32.ofNat (v + 1) - 1 = Int32.ofNat v := n_sub (a := v + 1) (b := 1) (by omega)
  refine ⟨st2 (st2 (st2 I1 67 v (Int32.ofNat c)) 68 v (I 39 a)) 69 v (I 39 c), ?_, fun p hp => ?_, ?_, fun q k b1 b2 b3 => ?_, ?_, ?_, ?_, ?_, ?_⟩
  · delta f_X9_lent
    rw [e1, bd1_s]
    simp only [lt]
    have f1 : I1 64 5 - 1 = Int32.ofNat v := by rw [a2, es]
    have f2 : st2 I1 67 (ix (Int32.ofNat v)) (Int32.ofNat c) 64 5 - 1 = Int32.ofNat v := by rw [st2_ne (by omega), f1]
    have f3 : ∀ x, st2 (st2 I1 67 (ix (Int32.ofNat v)) (Int32.ofNat c)) 68 (ix (Int32.ofNat v)) x 64 5 - 1 = Int32.ofNat v := fun x => by rw [st2_ne (by omega), f2]
    have f4 : st2 I1 67 (ix (Int32.ofNat v)) (Int32.ofNat c) (38 + 1) (ix (Int32.ofNat a)) = I 39 a := by rw [st2_ne (by omega), a1 (38 + 1) (by omega), n_ix (by omega)]
    have f5 : ∀ x, st2 (st2 I1 67 (ix (Int32.ofNat v)) (Int32.ofNat c)) 68 (ix (Int32.ofNat v)) x (38 + 1) (ix (Int32.ofNat c)) = I 39 c := fun x => by rw [st2_ne (by omega), st2_ne (by omega), a1 (38 + 1) (by omega), n_ix (by omega)]
    rw [f1, f2, f3, f4, f5, gd_t gv, gd_t gv, gd_t gv, gd_t g6, gd_t g6c, n_ix (by omega)]
  · rw [st2_ne (by omega), st2_ne (by omega), st2_ne (by omega)]; exact a1 p hp
  · rw [st2_ne (by omega), st2_ne (by omega), st2_ne (by omega)]; exact a2
  · rw [s2x (by omega), s2x (by omega), s2x (by omega)]; exact a3 q k b1 b2 b3
  · rw [st2_ne (by omega), st2_ne (by omega), st2_ne (by omega)]; exact a4
  · rw [st2_ne (by omega), st2_ne (by omega), st2_ne (by omega)]; exact a5
  · rw [st2_ne (by omega), st2_ne (by omega), st2_at, if_pos rfl]
  · rw [st2_ne (by omega), st2_at, if_pos rfl]
  · rw [st2_at, if_pos rfl]
theorem TwR.pur {I I' : MI} {pu pu' bi us lo ti : Nat → Int32} {su dn dy : Nat} {du se : Int32} {nk nh : Nat} (T : TwR (fun _ => true) I 38 pu bi us lo ti su dn dy du se nk nh) (hI : ∀ p, 38 ≤ p → p < 46 → p ≠ 39 → I' p = I p) (hp : ∀ h, h < nh → I' 39 h = pu' h) (h0 : ∀ h, nh ≤ h → h < 6 → I' 39 h = 0) (hb : ∀ h, h < nh → -99999 ≤ (pu' h).toInt ∧ (pu' h).toInt ≤ 99999 ∧ (su.testBit h = false → 0 ≤ (pu' h).toInt)) : TwR (fun _ => true) I' 38 pu' bi us lo ti su dn dy du se nk nh := by
  refine ⟨fun h a _ => hp h a, ?_, ?_, ?_, ?_, ?_, ?_, ?_, fun h a b => ?_, T.sl, T.sz, T.dl, ?_, ?_, ?_, ?_, T.sx, fun h a _ => hb h a, T.bb, T.ub⟩
  · rw [hI (38 + 2) (by omega) (by omega) (by omega)]; exact T.bi
  · rw [hI (38 + 3) (by omega) (by omega) (by omega)]; exact T.us
  · rw [hI (38 + 4) (by omega) (by omega) (by omega)]; exact T.lo
  · rw [hI (38 + 5) (by omega) (by omega) (by omega)]; exact T.so
  · rw [hI (38 + 6) (by omega) (by omega) (by omega)]; exact T.dw
  · rw [hI (38 + 5) (by omega) (by omega) (by omega)]; exact T.z5
  · rw [hI (38 + 6) (by omega) (by omega) (by omega)]; exact T.z6
  · obtain ⟨_, z2, z3, z4, z5, z6⟩ := T.ze h a b
    rw [hI (38 + 2) (by omega) (by omega) (by omega), hI (38 + 3) (by omega) (by omega) (by omega), hI (38 + 4) (by omega) (by omega) (by omega), hI (38 + 5) (by omega) (by omega) (by omega), hI (38 + 6) (by omega) (by omega) (by omega)]
    exact ⟨h0 h a b, z2, z3, z4, z5, z6⟩
  · rw [hI (38 + 7) (by omega) (by omega) (by omega)]; exact T.ti
  · rw [hI 38 (by omega) (by omega) (by omega)]; exact T.du
  · rw [hI 38 (by omega) (by omega) (by omega)]; exact T.y1
  · rw [hI 38 (by omega) (by omega) (by omega)]; exact T.se
theorem clp_imin {x : Int32} (h : -99999 ≤ x.toInt) : clp x.toInt64 (-99999) 99999 = imin 99999 x := by
  have e1 : (-99999 : Int32).toInt = -99999 := rfl
  have e9 : (99999 : Int32).toInt = 99999 := rfl
  rw [clp_eq (by decide)]
  unfold imin
  have e0 : (-99999 : Int32).toInt64 ≤ x.toInt64 := by
    rw [Int64.le_iff_toInt_le, Int32.toInt_toInt64, Int32.toInt_toInt64, e1]; exact h
  rw [if_pos e0, Int32.toInt32_toInt64]
  by_cases c : x.toInt64 ≤ (99999 : Int32).toInt64
  · rw [if_pos c]
    rw [Int64.le_iff_toInt_le, Int32.toInt_toInt64, Int32.toInt_toInt64] at c
    by_cases c2 : x < 99999
    · rw [if_pos c2]
    · rw [if_neg c2]
      rw [Int32.lt_iff_toInt_lt] at c2
      exact Int32.toInt.inj (by omega)
  · rw [if_neg c]
    rw [Int64.le_iff_toInt_le, Int32.toInt_toInt64, Int32.toInt_toInt64] at c
    rw [if_neg (fun c2 => by rw [Int32.lt_iff_toInt_lt] at c2; omega)]
theorem c_lend {bk nk nh nw kn su dn dy us : Nat} {I I2 : MI} {J2 : MJ} (B : BookR bk I I2 nk nh nw kn) (N : NowR I I2 J2 su dn dy nk nh) (U : UndR I I2 nk nh us) (a b m : Int32) : ∃ v I' M' us', f_X10_lend bk I a b m = some (v, I') ∧ f_X11_lend I2 a b m = some (v, M') ∧ FrU I I' I2 M' ∧ NowR I' M' J2 su dn dy nk nh ∧ UndR I' M' nk nh us' := by
  have lh := B.lh
  have hul := U.ul
  have key : Ev2 (f_X10_lend bk I a b m) (f_X11_lend I2 a b m) (fun x y => x.1 = y.1 ∧ FrU I x.2 I2 y.2 ∧ NowR x.2 y.2 J2 su dn dy nk nh ∧ ∃ us', UndR x.2 y.2 nk nh us') := by
    have hno : ∀ v : Int32, Ev2 (some (v, I)) (some (v, st2 I2 0 2 0)) (fun x y => x.1 = y.1 ∧ FrU I x.2 I2 y.2 ∧ NowR x.2 y.2 J2 su dn dy nk nh ∧ ∃ us', UndR x.2 y.2 nk nh us') := fun v => Ev2_some ⟨rfl, FrU.r0 I I2, N.st0 lh, us, U.fr lh (fun _ _ _ => rfl) rfl rfl rfl rfl (fun _ _ => rfl)⟩
    delta f_X10_lend f_X11_lend
    refine Ev2_lsR (Ev2_L (p_isHouse B a) (Ev2_R (m_isHouse B a) (Ev2_lsL (Ev2_lsR ?_))))
    cases ha : ok6 nh a with
    | false => exact hno _
    | true =>
      obtain ⟨x, hx, rfl⟩ := ok6_t ha
      rw [if_pos rfl, if_pos rfl]
      refine Ev2_L (p_isHouse B b) (Ev2_R (m_isHouse B b) ?_)
      cases hb : ok6 nh b with
      | false => exact hno _
      | true =>
        obtain ⟨y, hy, rfl⟩ := ok6_t hb
        rw [if_pos rfl, if_pos rfl]
        refine Ev2_if Iff.rfl (fun _ _ => hno _) (fun cxy _ => ?_)
        have hxy : x ≠ y := fun e => cxy (by rw [e])
        refine Ev2_L p_isWithin (Ev2_R m_isIn ?_)
        cases hm : decide ((1 : Int32).toInt ≤ m.toInt ∧ m.toInt ≤ (999 : Int32).toInt) with
        | false => exact hno _
        | true =>
          obtain ⟨z, hz1, hz, rfl⟩ := in_1 (n := 999) (by omega) hm
          rw [if_pos rfl, if_pos rfl]
          have gx : inb (Int32.ofNat x) 6 = true := (n_inb (by omega)).mpr (by omega)
          have gy : inb (Int32.ofNat y) 6 = true := (n_inb (by omega)).mpr (by omega)
          have gx2 : inb (Int32.ofNat x) 12 = true := (n_inb (by omega)).mpr (by omega)
          have gy2 : inb (Int32.ofNat y) 12 = true := (n_inb (by omega)).mpr (by omega)
          have s31 : st2 I2 0 2 0 31 (ix 0) = Int32.ofNat su := by rw [ixc.1, st0_row (by omega)]; exact N.s2
          rw [s31, n_ix (show x < 2147483648 by omega), n_ix (show y < 2147483648 by omega)]
          refine Ev2_gdL gx (Ev2_gdR rfl (Ev2_R (isOf_s N.tw.sl (by omega)) (Ev2_lsL (Ev2_lsR ?_))))
          have tx5 : I 43 x = if su.testBit x then 1 else 0 := N.tw.so x hx rfl
          have ty5 : I 43 y = if su.testBit y then 1 else 0 := N.tw.so y hy rfl
          rw [tx5]
          cases hsx : su.testBit x with
          | true => exact hno _
          | false =>
            rw [if_pos (show (if (false = true) then (1 : Int32) else 0) = 0 from rfl), if_neg Bool.false_ne_true]
            refine Ev2_gdL gy (Ev2_gdR rfl (Ev2_R (isOf_s N.tw.sl (by omega)) ?_))
            rw [ty5]
            cases hsy : su.testBit y with
            | true => exact hno _
            | false =>
              rw [if_pos (show (if (false = true) then (1 : Int32) else 0) = 0 from rfl), if_neg Bool.false_ne_true]
              have t1 : I 39 x = I2 26 x := N.tw.pu x hx rfl
              have t2 : I 39 y = I2 26 y := N.tw.pu y hy rfl
              rw [t1]
              refine Ev2_gdL gx (Ev2_gdR gx2 (Ev2_if Iff.rfl (fun cp _ => ?_) (fun _ _ => hno _)))
              have px := N.tw.pb x hx rfl
              have py := N.tw.pb y hy rfl
              have px0 := px.2.2 hsx
              have py0 := py.2.2 hsy
              have ez := n_toInt (n := z) (by omega)
              have cp' : (z : Int) ≤ (I2 26 x).toInt := by
                have cp := cp
                rw [Int32.le_iff_toInt_le, ez] at cp
                exact cp
              obtain ⟨I4, e1, a1, a2, a3, a4, a5, a6, a7, a8⟩ := p_lent (I := I) U.ul U.u1 (a := x) (c := y) (by omega) (by omega)
              have h74 : st2 I2 0 2 0 0 74 = Int32.ofNat us := U.u2
              obtain ⟨M7, e2, b1, b2, b3, b4⟩ := m_remember (M := st2 I2 0 2 0) U.ul h74
              refine Ev2_L e1 (Ev2_R e2 (Ev2_gdL gx (Ev2_gdL gx (Ev2_lsL (Ev2_gdL gy (Ev2_gdL gy (Ev2_lsL (Ev2_gdL gy ?_))))))))
              refine Ev2_gdR gx2 (Ev2_gdR gx2 (Ev2_lsR (Ev2_gdR gy2 ?_)))
              have i39 : ∀ k, I4 39 k = I 39 k := fun k => by rw [a1 39 (by omega)]
              have m26 : ∀ k, M7 26 k = I2 26 k := fun k => by rw [b1 26 k (by omega) (by omega), st0_row (by omega)]
              rw [m_bounded_ (by decide)]
              refine Ev2_R rfl (Ev2_gdR gy2 (Ev2_lsR (Ev2_gdR gy2 ?_)))
              rw [i39 x, t1, m26 x]
              have ey1 : st2 I4 39 x (I2 26 x - Int32.ofNat z) 39 y = I2 26 y := by rw [s2x (by omega), i39 y, t2]
              have ey2 : st2 M7 26 x (I2 26 x - Int32.ofNat z) 26 y = I2 26 y := by rw [s2x (by omega), m26 y]
              rw [ey1, ey2]
              have esum : (I2 26 y + Int32.ofNat z).toInt = (I2 26 y).toInt + z := by rw [i_add (by omega) (by omega), ez]
              have edif : (I2 26 x - Int32.ofNat z).toInt = (I2 26 x).toInt - z := by rw [i_sub (by omega) (by omega), ez]
              rw [clp_imin (by omega)]
              obtain ⟨qx, hqx⟩ : ∃ q, q = I2 26 x - Int32.ofNat z := ⟨_, rfl⟩
              obtain ⟨qy, hqy⟩ : ∃ q, q = imin 99999 (I2 26 y + Int32.ofNat z) := ⟨_, rfl⟩
              have bx : 0 ≤ qx.toInt ∧ qx.toInt ≤ 99999 := by rw [hqx]; omega
              have hby : 0 ≤ qy.toInt ∧ qy.toInt ≤ 99999 := by rw [hqy]; exact imin_bd (by omega)
              rw [← hqx, ← hqy]
              have rI : ∀ k, st2 (st2 I4 39 x qx) 39 y qy 39 k = if k = y then qy else if k = x then qx else I 39 k := fun k => by rw [st2_at, st2_at, i39]
              have rM : ∀ k, st2 (st2 M7 26 x qx) 26 y qy 26 k = if k = y then qy else if k = x then qx else I2 26 k := fun k => by rw [st2_at, st2_at, m26]
              have oI : ∀ p, p ≠ 39 → ¬ (64 ≤ p ∧ p < 70) → st2 (st2 I4 39 x qx) 39 y qy p = I p := fun p c d => by rw [st2_ne c, st2_ne c]; exact a1 p d
              have oM : ∀ p k, p ≠ 26 → p ≠ 40 → ¬ (p = 0 ∧ (k = 2 ∨ k = 74)) → st2 (st2 M7 26 x qx) 26 y qy p k = I2 p k := fun p k c d e => by rw [st2_ne c, st2_ne c, b1 p k d (by omega), s2x (by omega)]
              refine Ev2_some ?_
              dsimp only
              refine ⟨?_, ⟨fun p c d => oI p (by omega) d, fun p k c d e f g => ?_⟩, ?_, us - fo us + 1, ?_⟩
              · show st2 (st2 I4 39 x qx) 39 y qy 39 y = st2 (st2 M7 26 x qx) 26 y qy 26 y
                rw [rI, rM, if_pos rfl, if_pos rfl]
              · show st2 (st2 M7 26 x qx) 26 y qy p k = _
                by_cases e26 : p = 26
                · subst e26
                  rw [rM, if_neg (by omega), if_neg (by omega)]
                · exact oM p k e26 d (by omega)
              · have hr : ∀ p, p ≠ 0 → p ≠ 26 → p ≠ 40 → st2 (st2 M7 26 x qx) 26 y qy p = I2 p := fun p c d e => funext (fun k => oM p k d e (by omega))
                refine N.up ?_ (by rw [hr 31 (by omega) (by omega) (by omega)]) (by rw [hr 32 (by omega) (by omega) (by omega)]; exact N.d2) (by rw [hr 35 (by omega) (by omega) (by omega)]) (by rw [oI 38 (by omega) (by omega)]) N.dz
                rw [hr 27 (by omega) (by omega) (by omega), hr 28 (by omega) (by omega) (by omega), hr 29 (by omega) (by omega) (by omega), hr 30 (by omega) (by omega) (by omega), hr 34 (by omega) (by omega) (by omega), hr 33 (by omega) (by omega) (by omega)]
                refine N.tw.pur (fun p c d e => oI p e (by omega)) (fun h c => ?_) (fun h c d => ?_) (fun h c => ?_)
                · rw [rI, rM]
                  split
                  · rfl
                  · split
                    · rfl
                    · exact N.tw.pu h c rfl
                · rw [rI, if_neg (by omega), if_neg (by omega)]
                  exact (N.tw.ze h c d).1
                · rw [rM]
                  split
                  · exact ⟨by omega, by omega, fun _ => by omega⟩
                  · split
                    · exact ⟨by omega, by omega, fun _ => by omega⟩
                    · exact N.tw.pb h c rfl
              · refine U.push lh ?_ (fun q k c d e => by rw [st2_ne (by omega), st2_ne (by omega)]; exact a3 q k c d e) ?_ (fun i k c d => ?_) (fun k c => ?_) ?_
                · rw [st2_ne (by omega), st2_ne (by omega)]; exact a2
                · rw [st2_ne (by omega), st2_ne (by omega)]; exact b2
                · rw [st2_ne (by omega), st2_ne (by omega), b3 i k c d, st0_row (by omega)]
                · rw [st2_ne (by omega), st2_ne (by omega), b4 k c]
                  unfold cu
                  rw [st0_row (by omega), st0_row (by omega), st0_row (by omega)]
                · have hw : ∀ p, 64 ≤ p → st2 (st2 I4 39 x qx) 39 y qy p = I4 p := fun p c => by rw [st2_ne (by omega), st2_ne (by omega)]
                  rw [hw 65 (by omega), hw 66 (by omega), hw 67 (by omega), hw 68 (by omega), hw 69 (by omega), a4, a5, a6, a7, a8]
                  refine Or.inr (Or.inr ⟨rfl, x, y, hx, hy, hxy, rfl, rfl, ?_, ?_, ?_, ?_, fun k c d e => ?_⟩)
                  · unfold cu
                    rw [if_neg (by omega), if_neg (by omega), show 2 + x - 2 = x by omega]; exact t1
                  · unfold cu
                    rw [if_neg (by omega), if_neg (by omega), show 2 + y - 2 = y by omega]; exact t2
                  · rw [t1]; omega
                  · rw [t2]; omega
                  · unfold cu
                    rw [oM 32 0 (by omega) (by omega) (by omega), oM 33 0 (by omega) (by omega) (by omega), rM]
                    split
                    · rfl
                    · split
                      · rfl
                      · rw [if_neg (by omega), if_neg (by omega)]
  obtain ⟨⟨v, I'⟩, ⟨w, M'⟩, e, e', q1, q2, q3, us', q4⟩ := key
  cases q1
  exact ⟨v, I', M', us', e, e', q2, q3, q4⟩
