/-! the town now; what is only thought of -/
def NowR (I M : MI) (J2 : MJ) (su dn dy nk nh : Nat) : Prop := (TwR (fun _ => true) I 38 (M 26) (M 27) (M 28) (M 29) (M 30) su dn dy (M 34 0) (M 33 0) nk nh) ∧ (M 31 0 = Int32.ofNat su) ∧ (M 32 0 = Int32.ofNat dn) ∧ (M 35 0 = Int32.ofNat dy) ∧ (J2 0 62 = (I 38 10).toInt64) ∧ (0 ≤ (I 38 10).toInt) ∧ (∀ h, nh ≤ h → h < 6 → dn.testBit h = false) ∧ (dy ≤ 9000)
theorem NowR.tw {I M : MI} {J2 : MJ} {su dn dy nk nh : Nat} (B_ : NowR I M J2 su dn dy nk nh) : TwR (fun _ => true) I 38 (M 26) (M 27) (M 28) (M 29) (M 30) su dn dy (M 34 0) (M 33 0) nk nh := B_.1
theorem NowR.s2 {I M : MI} {J2 : MJ} {su dn dy nk nh : Nat} (B_ : NowR I M J2 su dn dy nk nh) : M 31 0 = Int32.ofNat su := B_.2.1
theorem NowR.d2 {I M : MI} {J2 : MJ} {su dn dy nk nh : Nat} (B_ : NowR I M J2 su dn dy nk nh) : M 32 0 = Int32.ofNat dn := B_.2.2.1
theorem NowR.y2 {I M : MI} {J2 : MJ} {su dn dy nk nh : Nat} (B_ : NowR I M J2 su dn dy nk nh) : M 35 0 = Int32.ofNat dy := B_.2.2.2.1
theorem NowR.nu {I M : MI} {J2 : MJ} {su dn dy nk nh : Nat} (B_ : NowR I M J2 su dn dy nk nh) : J2 0 62 = (I 38 10).toInt64 := B_.2.2.2.2.1
theorem NowR.n0 {I M : MI} {J2 : MJ} {su dn dy nk nh : Nat} (B_ : NowR I M J2 su dn dy nk nh) : 0 ≤ (I 38 10).toInt := B_.2.2.2.2.2.1
theorem NowR.dz {I M : MI} {J2 : MJ} {su dn dy nk nh : Nat} (B_ : NowR I M J2 su dn dy nk nh) : ∀ h, nh ≤ h → h < 6 → dn.testBit h = false := B_.2.2.2.2.2.2.1
theorem NowR.yl {I M : MI} {J2 : MJ} {su dn dy nk nh : Nat} (B_ : NowR I M J2 su dn dy nk nh) : dy ≤ 9000 := B_.2.2.2.2.2.2.2
theorem NowR.town {I M : MI} {J2 : MJ} {su dn dy nk nh : Nat} (N : NowR I M J2 su dn dy nk nh) (hn : nh ≤ 6) : TownR I M J2 nk nh su dn dy := by
  have T := N.tw
  refine ⟨fun h a => T.pu h a rfl, fun h a => T.bi h a rfl, fun h a => T.us h a rfl, fun h a => T.lo h a rfl, fun h a b => ?_, T.sl, N.s2, fun h a => ?_, T.dl, N.d2, fun h a => ?_, T.ti, T.du, N.yl, T.y1, N.y2, T.se, ?_⟩
  · obtain ⟨z1, z2, z3, z4, _, _⟩ := T.ze h a b
    exact ⟨z1, z2, z3, z4, T.sz h a b, N.dz h a b⟩
  · by_cases c : h < nh
    · exact T.so h c rfl
    · obtain ⟨_, _, _, _, z5, _⟩ := T.ze h (by omega) a
      rw [T.sz h (by omega) a]; exact z5
  · by_cases c : h < nh
    · exact T.dw h c rfl
    · obtain ⟨_, _, _, _, _, z6⟩ := T.ze h (by omega) a
      rw [N.dz h (by omega) a]; exact z6
  · have h := T.se
    rcases T.sx with c | ⟨k, hk, c⟩
    · exact Or.inl (h.trans c)
    · exact Or.inr ⟨k, hk, h.trans c⟩
theorem TwR.fr {H : Nat → Bool} {I I' : MI} {pt : Nat} {pu bi us lo ti : Nat → Int32} {su dn dy : Nat} {du se : Int32} {nk nh : Nat} (T : TwR H I pt pu bi us lo ti su dn dy du se nk nh) (hI : ∀ p, pt ≤ p → p < pt + 8 → I' p = I p) : TwR H I' pt pu bi us lo ti su dn dy du se nk nh := by
  unfold TwR at T ⊢
  rw [hI pt (by omega) (by omega), hI (pt + 1) (by omega) (by omega), hI (pt + 2) (by omega) (by omega), hI (pt + 3) (by omega) (by omega), hI (pt + 4) (by omega) (by omega), hI (pt + 5) (by omega) (by omega), hI (pt + 6) (by omega) (by omega), hI (pt + 7) (by omega) (by omega)]
  exact T
theorem NowR.fr {I I' M M' : MI} {J J' : MJ} {su dn dy nk nh : Nat} (N : NowR I M J su dn dy nk nh) (hn : nh ≤ 6) (hI : ∀ p, 38 ≤ p → p < 46 → I' p = I p) (hM : ∀ p k, 26 ≤ p → p < 31 → k < 6 → M' p k = M p k) (hM2 : ∀ p, 31 ≤ p → p < 36 → M' p 0 = M p 0) (hJ : J' 0 62 = J 0 62) : NowR I' M' J' su dn dy nk nh := by
  refine ⟨?_, by rw [hM2 31 (by omega) (by omega)]; exact N.s2, by rw [hM2 32 (by omega) (by omega)]; exact N.d2, by rw [hM2 35 (by omega) (by omega)]; exact N.y2, by rw [hJ, hI 38 (by omega) (by omega)]; exact N.nu, by rw [hI 38 (by omega) (by omega)]; exact N.n0, N.dz, N.yl⟩
  rw [hM2 34 (by omega) (by omega), hM2 33 (by omega) (by omega)]
  exact (N.tw.fr hI).cg (fun h a _ => ⟨hM 26 h (by omega) (by omega) (by omega), hM 27 h (by omega) (by omega) (by omega), hM 28 h (by omega) (by omega) (by omega), hM 29 h (by omega) (by omega) (by omega), rfl⟩) N.tw.sl N.tw.sz (fun k a => hM 30 k (by omega) (by omega) a)
theorem NowR.st0 {I M : MI} {J : MJ} {su dn dy nk nh : Nat} (N : NowR I M J su dn dy nk nh) (hn : nh ≤ 6) : NowR I (st2 M 0 2 0) J su dn dy nk nh :=
  N.fr hn (fun _ _ _ => rfl) (fun p k _ _ _ => by rw [st0_row (by omega)]) (fun p _ _ => by rw [st0_row (by omega)]) rfl
/-- what thinking ahead leaves as it was -/
def FrT (I I' M M' : MI) (J J' : MJ) : Prop := (∀ p, ¬ (46 ≤ p ∧ p < 54) → p ≠ 62 → I' p = I p) ∧ (∀ p k, ¬ (p = 0 ∧ (k = 2 ∨ k = 51 ∨ (63 ≤ k ∧ k < 67))) → ¬ (26 ≤ p ∧ p < 31 ∧ 6 ≤ k ∧ k < 12) → ¬ (31 ≤ p ∧ p < 36 ∧ k = 1) → M' p k = M p k) ∧ (∀ p k, p ≠ 24 → p ≠ 25 → J' p k = J p k)
theorem FrT.rf (I M : MI) (J : MJ) : FrT I I M M J J := ⟨fun _ _ _ => rfl, fun _ _ _ _ _ => rfl, fun _ _ _ _ => rfl⟩
theorem FrT.tr {I I' I'' M M' M'' : MI} {J J' J'' : MJ} (h : FrT I I' M M' J J') (h' : FrT I' I'' M' M'' J' J'') : FrT I I'' M M'' J J'' :=
  ⟨fun p a b => (h'.1 p a b).trans (h.1 p a b), fun p k a c d => (h'.2.1 p k a c d).trans (h.2.1 p k a c d), fun p k a c => (h'.2.2 p k a c).trans (h.2.2 p k a c)⟩
theorem FrT.st0 {I I' M M' : MI} {J J' : MJ} (h : FrT I I' (st2 M 0 2 0) M' J J') : FrT I I' M M' J J' :=
  ⟨h.1, fun p k a c d => (h.2.1 p k a c d).trans (st0_at (fun e => a ⟨e.1, Or.inl e.2⟩)), h.2.2⟩
theorem FrT.r0 (I M : MI) (J : MJ) : FrT I I M (st2 M 0 2 0) J J := FrT.st0 (FrT.rf _ _ _)
theorem FrT.mrow {I I' M M' : MI} {J J' : MJ} (h : FrT I I' M M' J J') {p : Nat} (h0 : p ≠ 0) (hp : ¬ (26 ≤ p ∧ p < 36)) : M' p = M p := by
  funext k
  exact h.2.1 p k (fun e => h0 e.1) (fun e => hp ⟨e.1, by omega⟩) (fun e => hp ⟨by omega, e.2.1⟩)
theorem FrT.of {I I' M M' : MI} {J J' : MJ} (h : FrT I I' M M' J J') {bk nk nh nw kn nd : Nat} (hbk : bk = 2 ∨ bk = 18) (B : BookR bk I M nk nh nw kn) (D : DayR bk I M nk nd) (L : LawR bk I M) : BookR bk I' M' nk nh nw kn ∧ DayR bk I' M' nk nd ∧ LawR bk I' M' :=
  ⟨B.fr (fun p _ _ => h.1 p (by omega) (by omega)) (fun p _ _ => h.mrow (by omega) (by omega)) (fun k _ _ => h.2.1 0 k (by omega) (by omega) (by omega)), D.fr (fun p _ _ => h.1 p (by omega) (by omega)) (fun p _ _ => h.mrow (by omega) (by omega)) (fun k _ _ => h.2.1 0 k (by omega) (by omega) (by omega)), L.fr (fun p _ _ => h.1 p (by omega) (by omega)) (fun p _ _ => h.mrow (by omega) (by omega))⟩
theorem FrT.now {I I' M M' : MI} {J J' : MJ} (h : FrT I I' M M' J J') {su dn dy nk nh : Nat} (hn : nh ≤ 6) (N : NowR I M J su dn dy nk nh) : NowR I' M' J' su dn dy nk nh :=
  N.fr hn (fun p _ _ => h.1 p (by omega) (by omega)) (fun p k _ _ _ => h.2.1 p k (by omega) (by omega) (by omega)) (fun p _ _ => h.2.1 p 0 (by omega) (by omega) (by omega)) (h.2.2 0 62 (by decide) (by decide))
theorem FrX.ft {I I' M M' : MI} {J J' : MJ} (h : FrX 46 1 I I' M M' J J') (h0 : I 62 1 = 0) : FrT I I' M M' J J' :=
  ⟨fun p a _ => h.1 p (by omega), fun p k a c d => h.2.1 p k (by omega) (by omega) (by omega), fun p k a c => by
    by_cases e : p = 0 ∧ k = 62
    · rw [e.1, e.2]; exact h.2.2.2 h0
    · exact h.2.2.1 p k a c e⟩
theorem c_reh {H : Nat → Bool} {bk su dn dy nk nh : Nat} {I M : MI} {J2 : MJ} (hn : nh ≤ 6) (N : NowR I M J2 su dn dy nk nh) : Ev2 (f_X10_rehearse I) (f_X11_layTried M) (fun I' M' => PsR H bk I' 46 M' J2 1 su dn dy nk nh ∧ FrT I I' M M' J2 J2 ∧ I' 62 1 = 0) := by
  have T := N.tw
  obtain ⟨M', e2, m1, m2, m3, m4⟩ := m_layTried (M := M)
  obtain ⟨A, hA⟩ : ∃ A, A = st2 (st2 (st2 (st2 I 62 1 0) 62 2 0) 62 3 0) 62 4 0 := ⟨_, rfl⟩
  have hAp : ∀ p, p ≠ 62 → A p = I p := fun p h => by rw [hA, st2_ne h, st2_ne h, st2_ne h, st2_ne h]
  obtain ⟨I', e1, t1, t2, t3⟩ := p_takeFrom (I := A) (pt := 46) (po := 38) (by omega) (by rw [hAp 43 (by decide)]; exact T.z5) (by rw [hAp 44 (by decide)]; exact T.z6)
  have hI : ∀ q h, 1 ≤ q → q ≤ 7 → h < 6 → I' (46 + q) h = I (38 + q) h := fun q h a b c => by rw [t2 q h a b c, hAp (38 + q) (by omega)]
  have hk : ∀ k, 7 ≤ k → k ≤ 10 → I' 46 k = I 38 k := fun k a b => by rw [t3 k a b, hAp 38 (by decide)]
  have h62 : ∀ k, 1 ≤ k → k ≤ 4 → I' 62 k = 0 := fun k a b => by
    rw [t1 62 (by omega), hA, st2_at, st2_at, st2_at, st2_at]
    have hc : k = 1 ∨ k = 2 ∨ k = 3 ∨ k = 4 := by omega
    rcases hc with rfl | rfl | rfl | rfl <;> simp
  have e6 : ∀ h, 6 * 1 + h = 6 + h := fun h => by omega
  refine ⟨I', M', ?_, e2, ⟨⟨?_, ?_, ?_, ?_, ?_, ?_, ?_, ?_, ?_, T.sl, T.sz, T.dl, ?_, ?_, ?_, ?_, ?_, ?_, ?_, ?_⟩, ?_, ?_, ?_, ?_, ?_, ?_, ?_, ?_, ?_⟩, ⟨fun p a b => ?_, fun p k a c d => m1 p k (by omega) c d, fun _ _ _ _ => rfl⟩, h62 1 (by omega) (by omega)⟩
  · delta f_X10_rehearse
    rw [p_plain, bd1_s, ← hA, e1, bd1_s]
  · intro h a _
    show I' (46 + 1) h = M' 26 (6 * 1 + h)
    rw [hI 1 h (by omega) (by omega) (by omega), e6, m2 26 h (by omega) (by omega) (by omega)]; exact T.pu h a rfl
  · intro h a _
    show I' (46 + 2) h = M' 27 (6 * 1 + h)
    rw [hI 2 h (by omega) (by omega) (by omega), e6, m2 27 h (by omega) (by omega) (by omega)]; exact T.bi h a rfl
  · intro h a _
    show I' (46 + 3) h = M' 28 (6 * 1 + h)
    rw [hI 3 h (by omega) (by omega) (by omega), e6, m2 28 h (by omega) (by omega) (by omega)]; exact T.us h a rfl
  · intro h a _
    show I' (46 + 4) h = M' 29 (6 * 1 + h)
    rw [hI 4 h (by omega) (by omega) (by omega), e6, m2 29 h (by omega) (by omega) (by omega)]; exact T.lo h a rfl
  · intro h a _
    rw [hI 5 h (by omega) (by omega) (by omega)]; exact T.so h a rfl
  · intro h a _
    rw [hI 6 h (by omega) (by omega) (by omega)]; exact T.dw h a rfl
  · intro h a
    rw [hI 5 h (by omega) (by omega) a]; exact T.z5 h a
  · intro h a
    rw [hI 6 h (by omega) (by omega) a]; exact T.z6 h a
  · intro h a b
    rw [hI 1 h (by omega) (by omega) b, hI 2 h (by omega) (by omega) b, hI 3 h (by omega) (by omega) b, hI 4 h (by omega) (by omega) b, hI 5 h (by omega) (by omega) b, hI 6 h (by omega) (by omega) b]
    exact T.ze h a b
  · intro k a
    show I' (46 + 7) k = M' 30 (6 * 1 + k)
    rw [hI 7 k (by omega) (by omega) a, e6, m2 30 k (by omega) (by omega) a]; exact T.ti k a
  · rw [hk 7 (by omega) (by omega), m3 34 (by omega) (by omega)]; exact T.du
  · rw [hk 8 (by omega) (by omega)]; exact T.y1
  · rw [hk 9 (by omega) (by omega), m3 33 (by omega) (by omega)]; exact T.se
  · rw [m3 33 (by omega) (by omega)]; exact T.sx
  · intro h a _
    show -99999 ≤ (M' 26 (6 * 1 + h)).toInt ∧ (M' 26 (6 * 1 + h)).toInt ≤ 99999 ∧ (su.testBit h = false → 0 ≤ (M' 26 (6 * 1 + h)).toInt)
    rw [e6, m2 26 h (by omega) (by omega) (by omega)]; exact T.pb h a rfl
  · intro h a _
    show -99999 ≤ (M' 27 (6 * 1 + h)).toInt ∧ (M' 27 (6 * 1 + h)).toInt ≤ 99999
    rw [e6, m2 27 h (by omega) (by omega) (by omega)]; exact T.bb h a rfl
  · intro h a _
    show 0 ≤ (M' 28 (6 * 1 + h)).toInt ∧ (M' 28 (6 * 1 + h)).toInt ≤ 99999
    rw [e6, m2 28 h (by omega) (by omega) (by omega)]; exact T.ub h a rfl
  · rw [m3 31 (by omega) (by omega)]; exact N.s2
  · rw [m3 32 (by omega) (by omega)]; exact N.d2
  · rw [m3 35 (by omega) (by omega)]; exact N.y2
  · rw [h62 1 (by omega) (by omega), m4 63 (by omega) (by omega)]
  · rw [h62 2 (by omega) (by omega), m4 64 (by omega) (by omega)]
  · rw [h62 3 (by omega) (by omega), m4 65 (by omega) (by omega)]
  · rw [h62 4 (by omega) (by omega), m4 66 (by omega) (by omega)]
  · rw [hk 10 (by omega) (by omega)]; exact N.nu
  · rw [hk 10 (by omega) (by omega)]; exact N.n0
  · rw [t1 p (by omega)]; exact hAp p b
theorem c_many {H : Nat → Bool} {bk su dn dy nk nh nw kn nd n : Nat} {I M : MI} {J J2 : MJ} {a3 : Int32} (hbk : bk = 2 ∨ bk = 18) (B : BookR bk I M nk nh nw kn) (D : DayR bk I M nk nd) (L : LawR bk I M) (P : PsR H bk I 46 M J2 1 su dn dy nk nh) (hdy : dy ≤ 9000) (hn : n ≤ 200) (hH : ∀ h, h < nh → f_X1_isMeant (Int32.ofNat h) a3 = some (H h)) : Ev2 (f_X10_passTrial bk I J (Int32.ofNat n) a3) (f_X11_goMany M J2 (Int32.ofNat n)) (fun a c => (∃ su', PsR H bk a.1 46 c.1 c.2 1 su' dn (dy + n) nk nh ∧ ∀ j, j < 6 → su.testBit j = true → su'.testBit j = true) ∧ FrX 46 1 I a.1 M c.1 J2 c.2) := by
  delta f_X10_passTrial f_X11_goMany
  refine Ev2_fix33 (fun x1 I2 J3 y1 M2 J4 => y1 = x1 ∧ ∃ i su', i ≤ n ∧ x1 = Int32.ofNat i ∧ PsR H bk I2 46 M2 J4 1 su' dn (dy + i) nk nh ∧ FrX 46 1 I I2 M M2 J2 J4 ∧ ∀ j, j < 6 → su.testBit j = true → su'.testBit j = true) (fun x1 _ _ _ _ _ => (600 - x1.toInt).toNat) ?_ FU _ _ _ _ _ _ (FU_lt (by decide)) ⟨rfl, 0, su, by omega, rfl, P, FrX.rf 46 1 I M J2, fun _ _ h => h⟩
  rintro r q x1 I2 J3 y1 M2 J4 ⟨rfl, i, su', hi, rfl, P', F, hmo⟩ hrec
  refine Ev2_if Iff.rfl (fun c _ => ?_) (fun c _ => ?_)
  · have := (n_le (by omega) (by omega)).mp c
    have : i = n := by omega
    subst this
    exact Ev2_some ⟨⟨su', P', hmo⟩, F⟩
  · have hlt : i < n := Nat.lt_of_not_le (fun h => c ((n_le (by omega) (by omega)).mpr h))
    have B' := B.fr (F.bkI hbk (by omega)) F.bkM F.bk0
    have D' := D.fr (F.bkI hbk (by omega)) F.bkM F.bk0
    have L' := L.fr (F.bkI hbk (by omega)) F.bkM
    obtain ⟨⟨I5, J5⟩, ⟨M5, J6⟩, e1, e2, ⟨su'', P'', hm2⟩, F''⟩ := c_pass (J := J3) hbk (by omega) (by omega) (Nat.le_refl 1) B' D' L' P' (by omega) hH
    rw [e1, show (1 : Int32) = Int32.ofNat 1 from rfl, e2, bd2_s, bd2_s]
    refine Ev2_lsL (Ev2_lsR ?_)
    rw [show Int32.ofNat i + Int32.ofNat 1 = Int32.ofNat (i + 1) from n_t1 i]
    refine hrec _ _ _ _ _ _ ⟨rfl, i + 1, su'', by omega, rfl, P'', F.tr (by omega) F'', fun j hj hs => hm2 j hj (hmo j hj hs)⟩ ?_
    rw [n_toInt (by omega), n_toInt (by omega)]; omega
theorem meant_all (h : Nat) : f_X1_isMeant (Int32.ofNat h) (-1) = some ((fun _ => true : Nat → Bool) h) := rfl
theorem meant_one {h0 h : Nat} (h1 : h0 < 6) (h2 : h < 6) : f_X1_isMeant (Int32.ofNat h) (Int32.ofNat h0) = some ((fun x => decide (x = h0)) h) := by
  delta f_X1_isMeant
  simp only [lt]
  rw [if_neg (enc_neg (by omega)).2.2.1]
  by_cases c : h = h0
  · rw [if_pos (by rw [c]), decide_eq_true c]
  · rw [if_neg (fun e => c ((n_eq (by omega) (by omega)).mp e.symm)), decide_eq_false c]
