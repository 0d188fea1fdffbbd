/-! rescue, the call law -/
theorem c_rescue {bk nk nh nw kn nd su dn dy : Nat} {I I2 : MI} (J : MJ) {J2 : MJ} (hbk : bk = 2 ∨ bk = 18) (B : BookR bk I I2 nk nh nw kn) (D : DayR bk I I2 nk nd) (L : LawR bk I I2) (N : NowR I I2 J2 su dn dy nk nh) : ∃ v I' J' M' J2', f_X10_rescue bk I J = some (v, I', J') ∧ f_X11_rescue I2 J2 = some (v, M', J2') ∧ FrT I I' I2 M' J2 J2' := by
  have lh := B.lh
  have key : Ev2 (f_X10_rescue bk I J) (f_X11_rescue I2 J2) (fun x y => x.1 = y.1 ∧ FrT I x.2.1 I2 y.2.1 J2 y.2.2) := by
    delta f_X10_rescue f_X11_rescue
    refine Ev2_lsR ?_
    obtain ⟨I3, M3, e1, e2, P3, F3, z3⟩ := c_reh (H := fun _ => true) (bk := bk) lh (N.st0 lh)
    refine Ev2_L e1 (Ev2_R e2 ?_)
    obtain ⟨B3, D3, L3⟩ := F3.of hbk B.st0 D.st0 L.st0
    have N3 := F3.now lh (N.st0 lh)
    obtain ⟨z, hz1, hz2, ez1, ez2⟩ := B3.te
    have hyl := N.yl
    have hmod := Nat.mod_lt dy (show 0 < z by omega)
    have hT : f_X10_termIn bk I3 = some (Int32.ofNat (z - dy % z)) := by
      delta f_X10_termIn f_X0_daysToTerm
      simp only [lt]
      rw [ez1, N3.tw.y1, if_neg (fun c => by
        have := (n_le (b := 0) (by omega) (by omega)).mp c
        omega), gd_t (n_nz (by omega) (by omega)), n_rem (by omega) (by omega), n_sub (by omega), bd1_s]
    refine Ev2_L hT (Ev2_gdR rfl (Ev2_gdR rfl (Ev2_gdR rfl ?_)))
    rw [ixc.1, ez2, N3.y2]
    refine Ev2_gdR (n_nz (by omega) (by omega)) ?_
    rw [n_rem (by omega) (by omega), n_sub (by omega)]
    obtain ⟨⟨I6, J7⟩, ⟨M6, J8⟩, e3, e4, ⟨su', P6, _⟩, F6⟩ := c_many (J := J) hbk B3 D3 L3 P3 N.yl (n := z - dy % z) (by omega) (fun h _ => meant_all h)
    dsimp only at P6 F6
    refine Ev2_b2L e3 (Ev2_b2R e4 (Ev2_lsL (Ev2_lsR ?_)))
    have F := FrT.st0 (F3.tr (F6.ft z3))
    have N6 := (F6.ft z3).now lh N3
    have B6 := B3.fr (F6.bkI hbk (by omega)) F6.bkM F6.bk0
    refine Ev2_fix33 (fun x8 x9 x10 y8 y9 y10 => y8 = x8 ∧ y9 = x9 ∧ y10 = x10 ∧ ∃ i, i ≤ nh ∧ x10 = Int32.ofNat i) (fun _ _ x10 _ _ _ => (600 - x10.toInt).toNat) ?_ FU _ _ _ _ _ _ (FU_lt (by decide)) ⟨rfl, rfl, rfl, 0, by omega, rfl⟩
    rintro r q x8 x9 x10 y8 y9 y10 ⟨rfl, rfl, rfl, i, hi, rfl⟩ hrec
    rw [B6.h1, B6.h2]
    refine Ev2_if Iff.rfl (fun _ _ => ?_) (fun c _ => ?_)
    · refine Ev2_lsL (Ev2_lsR (Ev2_if Iff.rfl (fun _ _ => Ev2_some ⟨rfl, F⟩) (fun _ _ => Ev2_some ⟨rfl, F⟩)))
    have hlt : i < nh := Nat.lt_of_not_le (fun h => c ((n_le (by omega) (by omega)).mpr h))
    have g6 : inb (Int32.ofNat i) 6 = true := (n_inb (by omega)).mpr (by omega)
    have g12 : inb (Int32.ofNat (6 + i)) 12 = true := (n_inb (by omega)).mpr (by omega)
    have hgo : ∀ u v, Ev2 (r u v (Int32.ofNat i + 1)) (q u v (Int32.ofNat i + 1)) (fun x y => x.1 = y.1 ∧ FrT I x.2.1 I2 y.2.1 J2 y.2.2) := fun u v => by
      rw [n_t1]
      refine hrec _ _ _ _ _ _ ⟨rfl, rfl, rfl, i + 1, by omega, rfl⟩ ?_
      rw [n_toInt (by omega), n_toInt (by omega)]; omega
    refine Ev2_gdL g6 (Ev2_gdR rfl ?_)
    rw [ixc.2.1, P6.s2]
    refine Ev2_R (isOf_s P6.tw.sl (by omega)) (Ev2_lsL (Ev2_lsR ?_))
    rw [n_ix (show i < 2147483648 by omega), P6.tw.so i hlt rfl, n_6h, n_ix (show 6 + i < 2147483648 by omega), P6.tw.pu i hlt rfl, show 6 * 1 + i = 6 + i by omega]
    cases hb : su'.testBit i with
    | false =>
      rw [if_pos (by rfl), if_neg (by decide)]
      exact Ev2_gdL g6 (Ev2_gdR g12 (Ev2_lsL (Ev2_lsR (hgo _ _))))
    | true =>
      rw [if_neg (by decide), if_pos rfl, N6.s2]
      refine Ev2_gdL g6 (Ev2_gdR rfl (Ev2_R (isOf_s N6.tw.sl (by omega)) (Ev2_lsR ?_)))
      rw [N6.tw.so i hlt rfl]
      cases hb2 : su.testBit i with
      | false =>
        rw [if_pos (by rfl), if_neg (by decide)]
        exact Ev2_gdL g6 (Ev2_gdR g12 (Ev2_lsL (Ev2_lsR (hgo _ _))))
      | true =>
        rw [if_neg (by decide), if_pos rfl]
        refine Ev2_lsR ?_
        show Ev2 (r y8 y9 (Int32.ofNat i + 1)) (q (y8 - 0) y9 (Int32.ofNat i + 1)) _
        rw [Int32.sub_zero]
        exact hgo _ _
  obtain ⟨⟨v, I', J'⟩, ⟨w, M', J2'⟩, e, e', q1, q2⟩ := key
  cases q1
  exact ⟨v, I', J', M', J2', e, e', q2⟩
theorem c_law {bk nk nh nw kn nd su dn dy : Nat} {I I2 : MI} (J : MJ) {J2 : MJ} (hbk : bk = 2 ∨ bk = 18) (B : BookR bk I I2 nk nh nw kn) (D : DayR bk I I2 nk nd) (L : LawR bk I I2) (N : NowR I I2 J2 su dn dy nk nh) (a b c : Int32) : ∃ v I' J' M' J2', f_X10_law bk I J a b c = some (v, I', J') ∧ f_X11_law I2 J2 a b c = some (v, M', J2') ∧ FrT I I' I2 M' J2 J2' := by
  have lh := B.lh
  have lk := B.lk
  have key : Ev2 (f_X10_law bk I J a b c) (f_X11_law I2 J2 a b c) (fun x y => x.1 = y.1 ∧ FrT I x.2.1 I2 y.2.1 J2 y.2.2) := by
    have hno : ∀ v : Int64, Ev2 (some (v, I, J)) (some (v, st2 I2 0 2 0, J2)) (fun x y => x.1 = y.1 ∧ FrT I x.2.1 I2 y.2.1 J2 y.2.2) := fun v => Ev2_some ⟨rfl, FrT.r0 I I2 J2⟩
    delta f_X10_law f_X11_law
    refine Ev2_lsR (Ev2_L p_isWithin (Ev2_R m_isIn (Ev2_lsL (Ev2_lsR ?_))))
    cases ha : decide ((0 : Int32).toInt ≤ a.toInt ∧ a.toInt ≤ (2 : Int32).toInt) with
    | false => exact hno _
    | true =>
      obtain ⟨l, hl, rfl⟩ := in_t (n := 2) (by omega) ha
      rw [if_pos rfl, if_pos rfl]
      refine Ev2_gdR ((n_inb (by omega)).mpr (by omega)) ?_
      rw [n_ix (by omega)]
      have B' := B.st0
      have L' := L.st0
      have N' := N.st0 lh
      obtain ⟨A, hA⟩ : ∃ A, A = st2 (st2 (st2 (st2 I 62 1 0) 62 2 0) 62 3 0) 62 4 0 := ⟨_, rfl⟩
      have hAp : ∀ p, p ≠ 62 → A p = I p := fun p h => by rw [hA, st2_ne h, st2_ne h, st2_ne h, st2_ne h]
      have hA2 : A 62 2 = 0 := by rw [hA, st2_at, if_neg (by decide), st2_at, if_neg (by decide), st2_at, if_pos rfl]
      have hA3 : A 62 3 = 0 := by rw [hA, st2_at, if_neg (by decide), st2_at, if_pos rfl]
      have LA : LawR bk A (st2 I2 0 2 0) := L'.fr (fun p _ _ => hAp p (by omega)) (fun _ _ _ => rfl)
      have hleft : ∀ h k, h < nh → k < nk → Ev (bd1 (f_X1_plain I) (fun I4 => bd1 (f_X1_name I4 J bk 38 (Int32.ofNat h) (Int32.ofNat k)) (fun J5 => bd2 (f_X4_value I4 J5 (bk + 11) (Int32.ofNat l) 63 7) (fun x6 J7 => some (x6, I4, J7))))) (fun x => x.1 = lawv bk I (st2 I2 0 2 0) l (nmF (I (bk + 2) k) (I (bk + 6) h) (I 39 h) (I 40 h) (I 41 h) (I (bk + 3) k) (I 38 8)) ∧ x.2.1 = A) := fun h k hh hk => by
        rw [p_plain, bd1_s, ← hA]
        have hnm := p_name (bk := bk) (pt := 38) (I := A) (J := J) (h := h) (k := k) (by omega) (by omega)
        have ew : wF bk A k = I (bk + 2) k := by unfold wF; rw [hA2, if_pos rfl, hAp (bk + 2) (by omega)]
        have ee : eF bk A h = I (bk + 6) h := by unfold eF; rw [hA3, if_pos rfl, hAp (bk + 6) (by omega)]
        rw [ew, ee, hAp (38 + 1) (by omega), hAp (38 + 2) (by omega), hAp (38 + 3) (by omega), hAp (bk + 3) (by omega), hAp 38 (by omega)] at hnm
        refine Ev_bd1 (P := fun J' => ∀ z, z < 7 → nmF (I (bk + 2) k) (I (bk + 6) h) (I 39 h) (I 40 h) (I 41 h) (I (bk + 3) k) (I 38 8) z = J' 63 z) (Ev_mono hnm (fun a h => h.2)) ?_
        intro J5 hn5
        refine Ev_bd2 (P := fun x _ => x = lawv bk I (st2 I2 0 2 0) l (nmF (I (bk + 2) k) (I (bk + 6) h) (I 39 h) (I 40 h) (I 41 h) (I (bk + 3) k) (I 38 8))) (Ev_mono (p_law (by omega) LA (l := l) (by omega) (fun z hz => ⟨hn5 z hz, nmF_bd _ _ _ _ _ _ _ z⟩)) (fun a h => h.1.trans (lawv_fr (fun p _ _ => hAp p (by omega)) (fun _ _ _ => rfl) l _))) ?_
        rintro x6 J7 rfl
        exact Ev_some ⟨rfl, rfl⟩
      have hFA : ∀ M' J', FrT I I I2 M' J2 J' → FrT I A I2 M' J2 J' := fun M' J' h => ⟨fun p _ b => hAp p b, h.2⟩
      by_cases h16 : st2 I2 0 2 0 16 l = 0
      · rw [if_pos h16]
        have hv : ∀ nm, lawv bk I (st2 I2 0 2 0) l nm = -9223372036854775808 := fun nm => by unfold lawv; rw [if_pos h16]
        refine Ev2_L (p_isHouse B b) ?_
        cases hb : ok6 nh b with
        | false => exact hno _
        | true =>
          obtain ⟨h, hh, rfl⟩ := ok6_t hb
          rw [if_pos rfl]
          refine Ev2_L (p_isKind B c) ?_
          cases hc : ok6 nk c with
          | false => exact hno _
          | true =>
            obtain ⟨k, hk, rfl⟩ := ok6_t hc
            rw [if_pos rfl]
            obtain ⟨⟨x, I4, J4⟩, e, q1, q2⟩ := hleft h k hh hk
            dsimp only at q1 q2
            refine ⟨_, _, e, rfl, q1.trans (hv _), ?_⟩
            show FrT I I4 I2 (st2 I2 0 2 0) J2 J2
            rw [q2]
            exact hFA _ _ (FrT.r0 I I2 J2)
      · rw [if_neg h16]
        refine Ev2_L (p_isHouse B b) (Ev2_R (m_isHouse B b) ?_)
        cases hb : ok6 nh b with
        | false => exact hno _
        | true =>
          obtain ⟨h, hh, rfl⟩ := ok6_t hb
          rw [if_pos rfl, if_pos rfl]
          refine Ev2_L (p_isKind B c) (Ev2_R (m_isKind B c) ?_)
          cases hc : ok6 nk c with
          | false => exact hno _
          | true =>
            obtain ⟨k, hk, rfl⟩ := ok6_t hc
            rw [if_pos rfl, if_pos rfl]
            obtain ⟨⟨x, I4, J4⟩, e, q1, q2⟩ := hleft h k hh hk
            dsimp only at q1 q2
            refine Ev2_rr.mp ?_
            rw [m_plainTried, bd1_s]
            obtain ⟨C, hC⟩ : ∃ C, C = st2 (st2 (st2 (st2 (st2 I2 0 2 0) 0 63 0) 0 64 0) 0 65 0) 0 66 0 := ⟨_, rfl⟩
            rw [← hC]
            have hCp : ∀ p, p ≠ 0 → C p = I2 p := fun p h => by rw [hC, st2_ne h, st2_ne h, st2_ne h, st2_ne h, st2_ne h]
            have hC64 : C 0 64 = 0 := by rw [hC, s2x (by omega), s2x (by omega), st2_at, if_pos rfl]
            have hC65 : C 0 65 = 0 := by rw [hC, s2x (by omega), st2_at, if_pos rfl]
            have hCf : ∀ p k, ¬ (p = 0 ∧ (k = 2 ∨ k = 51 ∨ (63 ≤ k ∧ k < 67))) → C p k = I2 p k := fun p k h => by
              rw [hC, s2x (by omega), s2x (by omega), s2x (by omega), s2x (by omega), s2x (by omega)]
            have hlay := m_lay (M := C) (J := J2) (b := 0) (h := h) (k := k) (by omega) (by omega) (by omega)
            have ew : wM C k = I (bk + 2) k := by unfold wM; rw [hC64, if_pos rfl, hCp 6 (by omega), (B.wo hk).2.1, (B.wo hk).2.2]
            have ee : eM C h = I (bk + 6) h := by unfold eM; rw [hC65, if_pos rfl, hCp 10 (by omega), (B.ea hh).2.1, (B.ea hh).2.2]
            have e26 : C 26 (6 * 0 + h) = I 39 h := by rw [hCp 26 (by omega), show 6 * 0 + h = h by omega]; exact (N.tw.pu h hh rfl).symm
            have e27 : C 27 (6 * 0 + h) = I 40 h := by rw [hCp 27 (by omega), show 6 * 0 + h = h by omega]; exact (N.tw.bi h hh rfl).symm
            have e28 : C 28 (6 * 0 + h) = I 41 h := by rw [hCp 28 (by omega), show 6 * 0 + h = h by omega]; exact (N.tw.us h hh rfl).symm
            have e7 : C 7 k = I (bk + 3) k := by rw [hCp 7 (by omega), (B.wg hk).2.1, (B.wg hk).2.2]
            have e35 : C 35 0 = I 38 8 := by rw [hCp 35 (by omega), N.y2, N.tw.y1]
            rw [ew, ee, e26, e27, e28, e7, e35] at hlay
            have LC : LawR bk I C := L.fr (fun _ _ _ => rfl) (fun p _ _ => hCp p (by omega))
            have hvC : ∀ nm, lawv bk I C l nm = lawv bk I (st2 I2 0 2 0) l nm := fun nm => lawv_fr (fun _ _ _ => rfl) (fun p _ _ => by rw [hCp p (by omega), st0_row (by omega)]) l nm
            refine Ev_bd1 (P := fun J' => (∀ p, p ≠ 24 → J' p = J2 p) ∧ ∀ z, z < 7 → nmF (I (bk + 2) k) (I (bk + 6) h) (I 39 h) (I 40 h) (I 41 h) (I (bk + 3) k) (I 38 8) z = J' 24 z) hlay ?_
            rintro J6 ⟨hJ6, hn6⟩
            refine Ev_bd3 (P := fun x1 I2' J3 => FE C I2' ∧ (∀ p, p ≠ 25 → J3 p = J6 p) ∧ ((I2' 0 51 = 1 ∧ lawv bk I C l (nmF (I (bk + 2) k) (I (bk + 6) h) (I 39 h) (I 40 h) (I 41 h) (I (bk + 3) k) (I 38 8)) = -9223372036854775808) ∨ (I2' 0 51 = 0 ∧ x1 = lawv bk I C l (nmF (I (bk + 2) k) (I (bk + 6) h) (I 39 h) (I 40 h) (I 41 h) (I (bk + 3) k) (I 38 8)) ∧ Bd (lawv bk I C l (nmF (I (bk + 2) k) (I (bk + 6) h) (I 39 h) (I 40 h) (I 41 h) (I (bk + 3) k) (I 38 8)))))) (m_law LC (l := l) (by omega) (by rw [hCp 16 (by omega)]; rw [st0_row (by omega)] at h16; exact h16) (fun z hz => ⟨hn6 z hz, nmF_bd _ _ _ _ _ _ _ z⟩)) ?_
            rintro x7 I8 J9 ⟨h1, h2, h3⟩
            have hF : FrT I I4 I2 I8 J2 J9 := by
              rw [q2]
              refine hFA _ _ ⟨fun _ _ _ => rfl, fun p k a c d => ?_, fun p k a c => ?_⟩
              · rw [h1 p k (by omega)]; exact hCf p k a
              · rw [h2 p c, hJ6 p a]
            refine Ev_ls ?_
            rcases h3 with ⟨h4, h5⟩ | ⟨h4, h5, _⟩
            · rw [if_neg (by rw [h4]; decide)]
              exact Ev_some ⟨_, e, q1.trans (by rw [← hvC]; exact h5), hF⟩
            · rw [if_pos h4]
              exact Ev_some ⟨_, e, q1.trans (by rw [← hvC]; exact h5.symm), hF⟩
  obtain ⟨⟨v, I', J'⟩, ⟨w, M', J2'⟩, e, e', q1, q2⟩ := key
  cases q1
  exact ⟨v, I', J', M', J2', e, e', q2⟩
