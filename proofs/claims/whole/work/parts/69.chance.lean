/-! chance -/
theorem s2y {N : MJ} {p' k' : Nat} {v : Int64} {p x : Nat} (h : ¬ (p = p' ∧ x = k')) : st2 N p' k' v p x = N p x := by
  by_cases e : p = p'
  · subst e; rw [st2_at, if_neg (fun e => h ⟨rfl, e⟩)]
  · rw [st2_ne e]
theorem in_1 {a : Int32} {n : Nat} (hn : n < 2147483648) (h : decide ((1 : Int32).toInt ≤ a.toInt ∧ a.toInt ≤ (Int32.ofNat n).toInt) = true) : ∃ k, 1 ≤ k ∧ k ≤ n ∧ a = Int32.ofNat k := by
  have h := of_decide_eq_true h
  have z1 : (1 : Int32).toInt = 1 := rfl
  rw [z1, n_toInt hn] at h
  refine ⟨a.toInt.toNat, by omega, by omega, ?_⟩
  apply Int32.toInt.inj
  have : a.toInt < 2147483648 := Int32.toInt_lt a
  rw [n_toInt (by omega)]; omega
theorem PsR.nm {H : Nat → Bool} {bk pt b su dn dy nk nh : Nat} {I I' M : MI} {J J' : MJ} (P : PsR H bk I pt M J b su dn dy nk nh) (hI : ∀ p k, ¬ (p = pt ∧ k = 10) → I' p k = I p k) (hp : pt ≠ 62) (hn : J' 0 62 = (I' pt 10).toInt64) (h0 : 0 ≤ (I' pt 10).toInt) : PsR H bk I' pt M J' b su dn dy nk nh := by
  have hr : ∀ p, p ≠ pt → I' p = I p := fun p h => funext (fun k => hI p k (fun e => h e.1))
  have T := P.tw
  refine ⟨⟨?_, ?_, ?_, ?_, ?_, ?_, ?_, ?_, ?_, T.sl, T.sz, T.dl, ?_, ?_, ?_, ?_, T.sx, T.pb, T.bb, T.ub⟩, P.s2, P.d2, P.y2, ?_, ?_, ?_, ?_, hn, h0⟩
  · rw [hr _ (by omega)]; exact T.pu
  · rw [hr _ (by omega)]; exact T.bi
  · rw [hr _ (by omega)]; exact T.us
  · rw [hr _ (by omega)]; exact T.lo
  · rw [hr _ (by omega)]; exact T.so
  · rw [hr _ (by omega)]; exact T.dw
  · rw [hr _ (by omega)]; exact T.z5
  · rw [hr _ (by omega)]; exact T.z6
  · rw [hr (pt + 1) (by omega), hr (pt + 2) (by omega), hr (pt + 3) (by omega), hr (pt + 4) (by omega), hr (pt + 5) (by omega), hr (pt + 6) (by omega)]; exact T.ze
  · rw [hr _ (by omega)]; exact T.ti
  · rw [hI pt 7 (by omega)]; exact T.du
  · rw [hI pt 8 (by omega)]; exact T.y1
  · rw [hI pt 9 (by omega)]; exact T.se
  · rw [hr 62 (by omega)]; exact P.f1
  · rw [hr 62 (by omega)]; exact P.f2
  · rw [hr 62 (by omega)]; exact P.f3
  · rw [hr 62 (by omega)]; exact P.f4
/-- as FrT, but the number drawn may be another -/
def FrC (I I' M M' : MI) (J J' : MJ) : Prop := (∀ p, ¬ (46 ≤ p ∧ p < 54) → p ≠ 62 → I' p = I p) ∧ (∀ p k, ¬ (p = 0 ∧ (k = 2 ∨ k = 51 ∨ (63 ≤ k ∧ k < 67))) → ¬ (26 ≤ p ∧ p < 31 ∧ 6 ≤ k ∧ k < 12) → ¬ (31 ≤ p ∧ p < 36 ∧ k = 1) → M' p k = M p k) ∧ (∀ p k, p ≠ 24 → p ≠ 25 → ¬ (p = 0 ∧ k = 62) → J' p k = J p k)
theorem FrC.tr {I I' I'' M M' M'' : MI} {J J' J'' : MJ} (h : FrC I I' M M' J J') (h' : FrC I' I'' M' M'' J' J'') : FrC I I'' M M'' J J'' :=
  ⟨fun p a b => (h'.1 p a b).trans (h.1 p a b), fun p k a c d => (h'.2.1 p k a c d).trans (h.2.1 p k a c d), fun p k a c d => (h'.2.2 p k a c d).trans (h.2.2 p k a c d)⟩
theorem FrT.fc {I I' M M' : MI} {J J' : MJ} (h : FrT I I' M M' J J') : FrC I I' M M' J J' := ⟨h.1, h.2.1, fun p k a c _ => h.2.2 p k a c⟩
theorem FrX.fc {I I' M M' : MI} {J J' : MJ} (h : FrX 46 1 I I' M M' J J') : FrC I I' M M' J J' := ⟨fun p a _ => h.1 p (by omega), fun p k a c d => h.2.1 p k (by omega) (by omega) (by omega), h.2.2.1⟩
theorem FrC.now {I I' M M' : MI} {J J' : MJ} (h : FrC I I' M M' J J') {su dn dy nk nh : Nat} (hn : nh ≤ 6) (N : NowR I M J su dn dy nk nh) : NowR I' M' J su dn dy nk nh :=
  N.fr hn (fun p _ _ => h.1 p (by omega) (by omega)) (fun p k _ _ _ => h.2.1 p k (by omega) (by omega) (by omega)) (fun p _ _ => h.2.1 p 0 (by omega) (by omega) (by omega)) rfl
theorem FrC.of {I I' M M' : MI} {J J' : MJ} (h : FrC I I' M M' J J') {bk nk nh nw kn nd : Nat} (hbk : bk = 2 ∨ bk = 18) (B : BookR bk I M nk nh nw kn) (D : DayR bk I M nk nd) (L : LawR bk I M) : BookR bk I' M' nk nh nw kn ∧ DayR bk I' M' nk nd ∧ LawR bk I' M' :=
  FrT.of (J := J) (J' := J) ⟨h.1, h.2.1, fun _ _ _ _ => rfl⟩ hbk B D L
theorem c_chance {bk nk nh nw kn nd su dn dy : Nat} {I I2 : MI} (J : MJ) {J2 : MJ} (hbk : bk = 2 ∨ bk = 18) (B : BookR bk I I2 nk nh nw kn) (D : DayR bk I I2 nk nd) (L : LawR bk I I2) (N : NowR I I2 J2 su dn dy nk nh) (a b c : Int32) : ∃ v I' J' M' J2', f_X10_chance bk I J a b c = some (v, I', J') ∧ f_X11_chance I2 J2 a b c = some (v, M', J2') ∧ FrT I I' I2 M' J2 J2' := by
  have lh := B.lh
  have key : Ev2 (f_X10_chance bk I J a b c) (f_X11_chance I2 J2 a b c) (fun x y => x.1 = y.1 ∧ FrT I x.2.1 I2 y.2.1 J2 y.2.2) := by
    have hno : ∀ v : Int32, Ev2 (some (v, I, J)) (some (v, st2 I2 0 2 0, J2)) (fun x y => x.1 = y.1 ∧ FrT I x.2.1 I2 y.2.1 J2 y.2.2) := fun v => Ev2_some ⟨rfl, FrT.r0 I I2 J2⟩
    delta f_X10_chance f_X11_chance
    refine Ev2_lsL (Ev2_lsR (Ev2_lsR ?_))
    refine Ev2_if Iff.rfl (fun _ _ => hno _) (fun ca _ => ?_)
    have ha0 : 0 ≤ a.toInt := by
      rw [Int32.lt_iff_toInt_lt, z0] at ca; omega
    refine Ev2_L p_isWithin (Ev2_R m_isIn ?_)
    cases hb : decide ((1 : Int32).toInt ≤ b.toInt ∧ b.toInt ≤ (99 : Int32).toInt) with
    | false => exact hno _
    | true =>
      obtain ⟨n, hn1, hn, rfl⟩ := in_1 (n := 99) (by omega) hb
      rw [if_pos rfl, if_pos rfl]
      refine Ev2_L (p_isHouse B c) (Ev2_R (m_isHouse B c) ?_)
      cases hc : ok6 nh c with
      | false => exact hno _
      | true =>
        obtain ⟨h, hh, rfl⟩ := ok6_t hc
        rw [if_pos rfl, if_pos rfl]
        refine Ev2_lsR (Ev2_lsR ?_)
        have B0 := B.st0
        have D0 := D.st0
        have L0 := L.st0
        have N0 := N.st0 lh
        refine Ev2_fix54 (fun x3 x4 x5 I6 J7 y6 y7 M8 J9 => y6 = x3 ∧ y7 = x5 ∧ ∃ i, i ≤ 10 ∧ x5 = Int32.ofNat i ∧ 0 ≤ x4.toInt ∧ J9 0 62 = x4.toInt64 ∧ FrC I I6 (st2 I2 0 2 0) M8 J2 J9) (fun _ _ x5 _ _ _ _ _ _ => (80 - x5.toInt).toNat) ?_ FU _ _ _ _ _ _ _ _ _ (FU_lt (by decide)) ⟨rfl, rfl, 0, by omega, rfl, ha0, by rw [st2_at, if_pos rfl], ⟨fun _ _ _ => rfl, fun _ _ _ _ _ => rfl, fun p k _ _ d => s2y d⟩⟩
        rintro r q x3 x4 x5 I6 J7 y6 y7 M8 J9 ⟨rfl, rfl, i, hi, rfl, h4, hJ9, F⟩ hrec
        refine Ev2_if Iff.rfl (fun _ _ => ?_) (fun cc _ => ?_)
        · refine Ev2_gdR rfl (Ev2_lsR (Ev2_lsR (Ev2_some ⟨rfl, ?_⟩)))
          refine FrT.st0 ⟨F.1, fun p k a' c' d' => ?_, fun p k a' c' => ?_⟩
          · show st2 M8 0 63 0 p k = _
            rw [s2x (by omega)]
            exact F.2.1 p k a' c' d'
          · show st2 J9 0 62 (J2 0 62) p k = _
            by_cases e : p = 0 ∧ k = 62
            · rw [e.1, e.2, st2_at, if_pos rfl]
            · have := F.2.2 p k a' c' e
              unfold st2
              by_cases e0 : p = 0
              · subst e0
                rw [if_pos rfl]
                show (if k = 62 then _ else J9 0 k) = _
                rw [if_neg (fun e1 => e ⟨rfl, e1⟩)]; exact this
              · rw [if_neg e0]; exact this
        have hlt : i < 10 := Nat.lt_of_not_le (fun h => cc ((n_le (a := 10) (by omega) (by omega)).mpr h))
        obtain ⟨B6, D6, L6⟩ := F.of hbk B0 D0 L0
        obtain ⟨I8, M12, e1, e2, P8, F8, z8⟩ := c_reh (H := fun x => decide (x = h)) (bk := bk) lh (F.now lh N0)
        refine Ev2_L e1 (Ev2_R e2 (Ev2_gdL rfl (Ev2_gdR rfl (Ev2_lsL (Ev2_lsR (Ev2_lsL ?_))))))
        obtain ⟨IA, hIA⟩ : ∃ A, A = st2 (st2 I8 62 1 1) 46 10 x4 := ⟨_, rfl⟩
        obtain ⟨MA, hMA⟩ : ∃ A, A = st2 M12 0 63 1 := ⟨_, rfl⟩
        rw [← hIA, ← hMA]
        have hM : ∀ p k, ¬ (p = 0 ∧ k = 63) → MA p k = M12 p k := fun p k h => by rw [hMA, s2x h]
        have P8' : PsR (fun x => decide (x = h)) bk (st2 I8 62 1 1) 46 MA J2 1 su dn dy nk nh := by
          refine P8.fl (by omega) (fun p hp => st2_ne hp) (fun p k hk => hM p k (by omega)) ?_ ?_ ?_ ?_
          · rw [st2_at, if_pos rfl, hMA, st2_at, if_pos rfl]
          · rw [s2x (by omega), hM 0 64 (by omega)]; exact P8.f2
          · rw [s2x (by omega), hM 0 65 (by omega)]; exact P8.f3
          · rw [s2x (by omega), hM 0 66 (by omega)]; exact P8.f4
        have e46 : IA 46 10 = x4 := by rw [hIA, st2_at, if_pos rfl]
        have PA : PsR (fun x => decide (x = h)) bk IA 46 MA J9 1 su dn dy nk nh :=
          P8'.nm (fun p k hk => by rw [hIA, s2x hk]) (by omega) (by rw [e46]; exact hJ9) (by rw [e46]; exact h4)
        have FA : FrC I6 IA M8 MA J9 J9 := by
          refine ⟨fun p a' b' => ?_, fun p k a' c' d' => ?_, fun _ _ _ _ _ => rfl⟩
          · rw [hIA, st2_ne (by omega), st2_ne b']; exact F8.1 p a' b'
          · rw [hM p k (by omega)]; exact F8.2.1 p k a' c' d'
        obtain ⟨BA, DA, LA⟩ := FA.of hbk B6 D6 L6
        obtain ⟨⟨I9, J10⟩, ⟨M9, J11⟩, e3, e4, ⟨su', P9, _⟩, F9⟩ := c_many (J := J7) hbk BA DA LA PA N.yl (n := n) (by omega) (fun h' _ => meant_one (h0 := h) (by omega) (show h' < 6 by omega))
        dsimp only at P9 F9
        refine Ev2_b2L e3 (Ev2_b2R e4 (Ev2_lsL ?_))
        have g6 : inb (Int32.ofNat h) 6 = true := (n_inb (by omega)).mpr (by omega)
        refine Ev2_gdL g6 (Ev2_gdR rfl (Ev2_lsL (Ev2_lsR (Ev2_lsR ?_))))
        have t5 : I9 51 h = if su'.testBit h then 1 else 0 := P9.tw.so h hh (decide_eq_true rfl)
        rw [ixc.2.1, P9.s2, bit_s P9.tw.sl (by omega), n_ix (show h < 2147483648 by omega), t5]
        have hgo : Ev2 (r (y6 + if su'.testBit h then 1 else 0) (I9 46 10) (Int32.ofNat i + 1) I9 J10) (q (y6 + if su'.testBit h then 1 else 0) (Int32.ofNat i + 1) M9 J11) (fun x y => x.1 = y.1 ∧ FrT I x.2.1 I2 y.2.1 J2 y.2.2) := by
          rw [n_t1]
          refine hrec _ _ _ _ _ _ _ _ _ ⟨rfl, rfl, i + 1, by omega, rfl, P9.n0, P9.nu, (F.tr FA).tr F9.fc⟩ ?_
          rw [n_toInt (by omega), n_toInt (by omega)]; omega
        cases hs : su'.testBit h with
        | true =>
          rw [hs] at hgo
          rw [if_neg (by decide)]
          exact Ev2_lsL hgo
        | false =>
          rw [hs] at hgo
          rw [if_pos (by rfl)]
          have e0 : y6 + (if false = true then (1 : Int32) else 0) = y6 := Int32.add_zero y6
          rw [e0] at hgo ⊢
          exact hgo
  obtain ⟨⟨v, I', J'⟩, ⟨w, M', J2'⟩, e, e', q1, q2⟩ := key
  cases q1
  exact ⟨v, I', J', M', J2', e, e', q2⟩
