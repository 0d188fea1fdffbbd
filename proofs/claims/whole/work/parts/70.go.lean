/-! go -/
def FrG (I I' M M' : MI) (J J' : MJ) : Prop := (∀ p, ¬ (38 ≤ p ∧ p < 46) → p ≠ 62 → p ≠ 64 → I' p = I p) ∧ (∀ p k, ¬ (p = 0 ∧ (k = 2 ∨ k = 51 ∨ (63 ≤ k ∧ k < 67) ∨ k = 74)) → ¬ (26 ≤ p ∧ p < 31 ∧ k < 6) → ¬ (31 ≤ p ∧ p < 36 ∧ k = 0) → M' p k = M p k) ∧ (∀ p k, p ≠ 24 → p ≠ 25 → ¬ (p = 0 ∧ k = 62) → J' p k = J p k)
theorem NowR.ps {bk su dn dy nk nh : Nat} {I M : MI} {J : MJ} (N : NowR I M J su dn dy nk nh) (f1 : I 62 1 = M 0 63) (f2 : I 62 2 = M 0 64) (f3 : I 62 3 = M 0 65) (f4 : I 62 4 = M 0 66) : PsR (fun _ => true) bk I 38 M J 0 su dn dy nk nh := by
  have e : ∀ h, 6 * 0 + h = h := fun h => by omega
  refine ⟨?_, N.s2, N.d2, N.y2, f1, f2, f3, f4, N.nu, N.n0⟩
  exact N.tw.cg (fun h _ _ => ⟨by rw [e], by rw [e], by rw [e], by rw [e], rfl⟩) N.tw.sl N.tw.sz (fun k _ => by rw [e])
theorem PsR.now {bk su dn dy nk nh : Nat} {I M : MI} {J : MJ} (P : PsR (fun _ => true) bk I 38 M J 0 su dn dy nk nh) (hz : ∀ h, nh ≤ h → h < 6 → dn.testBit h = false) (hy : dy ≤ 9000) : NowR I M J su dn dy nk nh := by
  have e : ∀ h, 6 * 0 + h = h := fun h => by omega
  refine ⟨?_, P.s2, P.d2, P.y2, P.nu, P.n0, hz, hy⟩
  exact P.tw.cg (fun h _ _ => ⟨by rw [e], by rw [e], by rw [e], by rw [e], rfl⟩) P.tw.sl P.tw.sz (fun k _ => by rw [e])
theorem c_go {bk nk nh nw kn nd su dn dy : Nat} {I I2 : MI} (J : MJ) {J2 : MJ} (hbk : bk = 2 ∨ bk = 18) (B : BookR bk I I2 nk nh nw kn) (D : DayR bk I I2 nk nd) (L : LawR bk I I2) (N : NowR I I2 J2 su dn dy nk nh) (a : Int32) : ∃ v I' J' M' J2' su' dy', f_X10_go bk I J a = some (v, I', J') ∧ f_X11_go I2 J2 a = some (v, M', J2') ∧ FrG I I' I2 M' J2 J2' ∧ NowR I' M' J2' su' dn dy' nk nh ∧ ((I' 64 5 = 0 ∧ M' 0 74 = 0) ∨ (I' 64 = I 64 ∧ M' 0 74 = I2 0 74 ∧ (∀ p, 38 ≤ p → p < 46 → I' p = I p) ∧ (∀ p k, 26 ≤ p → p < 36 → M' p k = I2 p k) ∧ su' = su)) := by
  have lh := B.lh
  have hyl := N.yl
  have key : Ev2 (f_X10_go bk I J a) (f_X11_go I2 J2 a) (fun x y => x.1 = y.1 ∧ FrG I x.2.1 I2 y.2.1 J2 y.2.2 ∧ ∃ su' dy', NowR x.2.1 y.2.1 y.2.2 su' dn dy' nk nh ∧ ((x.2.1 64 5 = 0 ∧ y.2.1 0 74 = 0) ∨ (x.2.1 64 = I 64 ∧ y.2.1 0 74 = I2 0 74 ∧ (∀ p, 38 ≤ p → p < 46 → x.2.1 p = I p) ∧ (∀ p k, 26 ≤ p → p < 36 → y.2.1 p k = I2 p k) ∧ su' = su))) := by
    have hno : ∀ v : Int32, Ev2 (some (v, I, J)) (some (v, st2 I2 0 2 0, J2)) (fun x y => x.1 = y.1 ∧ FrG I x.2.1 I2 y.2.1 J2 y.2.2 ∧ ∃ su' dy', NowR x.2.1 y.2.1 y.2.2 su' dn dy' nk nh ∧ ((x.2.1 64 5 = 0 ∧ y.2.1 0 74 = 0) ∨ (x.2.1 64 = I 64 ∧ y.2.1 0 74 = I2 0 74 ∧ (∀ p, 38 ≤ p → p < 46 → x.2.1 p = I p) ∧ (∀ p k, 26 ≤ p → p < 36 → y.2.1 p k = I2 p k) ∧ su' = su))) := fun v => Ev2_some ⟨rfl, ⟨fun _ _ _ _ => rfl, fun p k a' _ _ => s2x (by omega), fun _ _ _ _ _ => rfl⟩, su, dy, N.st0 lh, Or.inr ⟨rfl, rfl, fun _ _ _ => rfl, fun p k _ _ => s2x (by omega), rfl⟩⟩
    delta f_X10_go f_X11_go
    refine Ev2_lsR (Ev2_L p_isWithin (Ev2_R m_isIn (Ev2_lsL (Ev2_lsR ?_))))
    cases ha : decide ((0 : Int32).toInt ≤ a.toInt ∧ a.toInt ≤ (200 : Int32).toInt) with
    | false => exact hno _
    | true =>
      obtain ⟨n, hn, rfl⟩ := in_t (n := 200) (by omega) ha
      rw [if_pos rfl, if_pos rfl]
      refine Ev2_gdR rfl ?_
      have eI : I 38 8 + Int32.ofNat n = Int32.ofNat (dy + n) := by rw [N.tw.y1, n_add]
      have eM : st2 I2 0 2 0 35 (ix 0) + Int32.ofNat n = Int32.ofNat (dy + n) := by rw [ixc.1, st0_row (by omega), N.y2, n_add]
      rw [eI, eM]
      refine Ev2_if Iff.rfl (fun c9 _ => ?_) (fun _ _ => hno _)
      have c9' := (n_le (b := 9000) (by omega) (by omega)).mp c9
      rw [p_plain, m_plainTried]
      refine Ev2_L rfl (Ev2_R rfl (Ev2_gdL rfl (Ev2_gdR rfl (Ev2_lsL (Ev2_lsR ?_)))))
      obtain ⟨IA, hIA⟩ : ∃ A, A = st2 (st2 (st2 (st2 (st2 I 62 1 0) 62 2 0) 62 3 0) 62 4 0) 62 1 1 := ⟨_, rfl⟩
      obtain ⟨MA, hMA⟩ : ∃ A, A = st2 (st2 (st2 (st2 (st2 (st2 I2 0 2 0) 0 63 0) 0 64 0) 0 65 0) 0 66 0) 0 63 1 := ⟨_, rfl⟩
      rw [← hIA, ← hMA]
      have hI : ∀ p, p ≠ 62 → IA p = I p := fun p h => by rw [hIA, st2_ne h, st2_ne h, st2_ne h, st2_ne h, st2_ne h]
      have hM : ∀ p k, ¬ (p = 0 ∧ (k = 2 ∨ (63 ≤ k ∧ k < 67))) → MA p k = I2 p k := fun p k h => by rw [hMA, s2x (by omega), s2x (by omega), s2x (by omega), s2x (by omega), s2x (by omega), s2x (by omega)]
      have hMr : ∀ p, p ≠ 0 → MA p = I2 p := fun p h => funext (fun k => hM p k (fun e => h e.1))
      have NA : NowR IA MA J2 su dn dy nk nh := N.fr lh (fun p _ _ => hI p (by omega)) (fun p k _ _ _ => hM p k (by omega)) (fun p _ _ => hM p 0 (by omega)) rfl
      have PA : PsR (fun _ => true) bk IA 38 MA J2 0 su dn dy nk nh := by
        refine NA.ps ?_ ?_ ?_ ?_
        · rw [hIA, st2_at, if_pos rfl, hMA, st2_at, if_pos rfl]
        · rw [hIA, s2x (by omega), s2x (by omega), s2x (by omega), st2_at, if_pos rfl, hMA, s2x (by omega), s2x (by omega), s2x (by omega), st2_at, if_pos rfl]
        · rw [hIA, s2x (by omega), s2x (by omega), st2_at, if_pos rfl, hMA, s2x (by omega), s2x (by omega), st2_at, if_pos rfl]
        · rw [hIA, s2x (by omega), st2_at, if_pos rfl, hMA, s2x (by omega), st2_at, if_pos rfl]
      have BA := B.fr (fun p _ _ => hI p (by omega)) (fun p _ _ => hMr p (by omega)) (fun k _ _ => hM 0 k (by omega))
      have DA := D.fr (fun p _ _ => hI p (by omega)) (fun p _ _ => hMr p (by omega)) (fun k _ _ => hM 0 k (by omega))
      have LA := L.fr (fun p _ _ => hI p (by omega)) (fun p _ _ => hMr p (by omega))
      refine Ev2_lsL (Ev2_lsR ?_)
      refine Ev2_fix33 (fun x1 I9 J10 y1 M11 J12 => y1 = x1 ∧ ∃ i su', i ≤ n ∧ x1 = Int32.ofNat i ∧ PsR (fun _ => true) bk I9 38 M11 J12 0 su' dn (dy + i) nk nh ∧ FrX 38 0 IA I9 MA M11 J2 J12 ∧ (i = 0 → I9 = IA ∧ M11 = MA ∧ J12 = J2 ∧ su' = su)) (fun x1 _ _ _ _ _ => (600 - x1.toInt).toNat) ?_ FU _ _ _ _ _ _ (FU_lt (by decide)) ⟨rfl, 0, su, by omega, rfl, PA, FrX.rf 38 0 IA MA J2, fun _ => ⟨rfl, rfl, rfl, rfl⟩⟩
      rintro r q x1 I9 J10 y1 M11 J12 ⟨rfl, i, su', hi, rfl, P9, F9, hz⟩ hrec
      refine Ev2_if Iff.rfl (fun c _ => ?_) (fun c _ => ?_)
      · have := (n_le (by omega) (by omega)).mp c
        have : i = n := by omega
        subst this
        refine Ev2_lsL ?_
        refine Ev2_gdR rfl (Ev2_lsR (Ev2_lsR ?_))
        have hfin : ∀ (IB : MI) (z : Int32), (∀ p k, ¬ (p = 64 ∧ k = 5) → IB p k = I9 p k) → (IB 64 5 = 0 ∧ z = 0 ∨ (IB = I9 ∧ z = st2 M11 0 63 0 0 74 ∧ i = 0)) → Ev2 (some (IB 38 8, IB, J10)) (lt (st2 (st2 M11 0 63 0) 0 74 z) (fun I9 => gd (inb (0 : Int32) 2) (some (I9 35 (ix (0 : Int32)), I9, J12)))) (fun x y => x.1 = y.1 ∧ FrG I x.2.1 I2 y.2.1 J2 y.2.2 ∧ ∃ su' dy', NowR x.2.1 y.2.1 y.2.2 su' dn dy' nk nh ∧ ((x.2.1 64 5 = 0 ∧ y.2.1 0 74 = 0) ∨ (x.2.1 64 = I 64 ∧ y.2.1 0 74 = I2 0 74 ∧ (∀ p, 38 ≤ p → p < 46 → x.2.1 p = I p) ∧ (∀ p k, 26 ≤ p → p < 36 → y.2.1 p k = I2 p k) ∧ su' = su))) := fun IB z hB hz' => by
          refine Ev2_lsR (Ev2_gdR rfl (Ev2_some ?_))
          rw [ixc.1]
          have hBr : ∀ p, p ≠ 64 → IB p = I9 p := fun p h => funext (fun k => hB p k (fun e => h e.1))
          have hMB : ∀ p k, ¬ (p = 0 ∧ (k = 63 ∨ k = 74)) → st2 (st2 M11 0 63 0) 0 74 z p k = M11 p k := fun p k h => by rw [s2x (by omega), s2x (by omega)]
          have NB : NowR IB (st2 (st2 M11 0 63 0) 0 74 z) J12 su' dn (dy + i) nk nh :=
            (P9.now N.dz (by omega)).fr lh (fun p _ _ => hBr p (by omega)) (fun p k _ _ _ => hMB p k (by omega)) (fun p _ _ => hMB p 0 (by omega)) rfl
          refine ⟨?_, ⟨fun p a' b' c' => ?_, fun p k a' c' d' => ?_, fun p k a' c' d' => F9.2.2.1 p k a' c' d'⟩, su', dy + i, NB, ?_⟩
          · show IB 38 8 = st2 (st2 M11 0 63 0) 0 74 z 35 0
            rw [NB.tw.y1, NB.y2]
          · show IB p = I p
            rw [hBr p c', F9.1 p (by omega), hI p b']
          · show st2 (st2 M11 0 63 0) 0 74 z p k = _
            rw [hMB p k (by omega), F9.2.1 p k (by omega) (by omega) (by omega), hM p k (by omega)]
          · rcases hz' with ⟨h1, h2⟩ | ⟨h1, h2, h3⟩
            · refine Or.inl ⟨h1, ?_⟩
              show st2 (st2 M11 0 63 0) 0 74 z 0 74 = 0
              rw [st2_at, if_pos rfl, h2]
            · obtain ⟨w1, w2, _, w4⟩ := hz h3
              refine Or.inr ⟨?_, ?_, fun p a' b' => ?_, fun p k a' b' => ?_, w4⟩
              · show IB 64 = I 64
                rw [h1, w1, hI 64 (by omega)]
              · show st2 (st2 M11 0 63 0) 0 74 z 0 74 = _
                rw [st2_at, if_pos rfl, h2, s2x (by omega), w2, hM 0 74 (by omega)]
              · show IB p = I p
                rw [h1, w1, hI p (by omega)]
              · show st2 (st2 M11 0 63 0) 0 74 z p k = _
                rw [hMB p k (by omega), w2, hM p k (by omega)]
        by_cases h0 : i = 0
        · have hle : Int32.ofNat i ≤ 0 := (n_le (b := 0) (by omega) (by omega)).mpr (by omega)
          rw [if_pos hle, if_pos hle]
          exact hfin I9 _ (fun _ _ _ => rfl) (Or.inr ⟨rfl, rfl, h0⟩)
        · have hle : ¬ Int32.ofNat i ≤ 0 := fun e => by
            have := (n_le (b := 0) (by omega) (by omega)).mp e
            omega
          rw [if_neg hle, if_neg hle]
          refine Ev2_L (v := st2 I9 64 5 0) rfl ?_
          exact hfin (st2 I9 64 5 0) 0 (fun p k h => s2x h) (Or.inl ⟨by rw [st2_at, if_pos rfl], rfl⟩)
      · have hlt : i < n := Nat.lt_of_not_le (fun h => c ((n_le (by omega) (by omega)).mpr h))
        have B' := BA.fr (F9.bkI hbk (by omega)) F9.bkM F9.bk0
        have D' := DA.fr (F9.bkI hbk (by omega)) F9.bkM F9.bk0
        have L' := LA.fr (F9.bkI hbk (by omega)) F9.bkM
        obtain ⟨⟨I5, J7⟩, ⟨M5, J8⟩, e3, e4, ⟨su'', P'', _⟩, F''⟩ := c_pass (J := J10) hbk (by omega) (by omega) (Nat.zero_le 1) B' D' L' P9 (by omega) (fun h _ => meant_all h)
        dsimp only at P'' F''
        refine Ev2_b2L e3 (Ev2_b2R e4 (Ev2_lsL (Ev2_lsR ?_)))
        rw [n_t1]
        refine hrec _ _ _ _ _ _ ⟨rfl, i + 1, su'', by omega, rfl, P'', F9.tr (by omega) F'', fun h => absurd h (by omega)⟩ ?_
        rw [n_toInt (by omega), n_toInt (by omega)]; omega
  obtain ⟨⟨v, I', J'⟩, ⟨w, M', J2'⟩, e, e', q1, q2, su', dy', q3, q4⟩ := key
  cases q1
  exact ⟨v, I', J', M', J2', su', dy', e, e', q2, q3, q4⟩
