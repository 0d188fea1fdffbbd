/-! sold, credit, owes -/
theorem c_until {bk nk nh nw kn nd su dn dy : Nat} {I M : MI} (J : MJ) {J2 : MJ} (hbk : bk = 2 ∨ bk = 18) (B : BookR bk I M nk nh nw kn) (D : DayR bk I M nk nd) (L : LawR bk I M) (N : NowR I M J2 su dn dy nk nh) {s h : Nat} (hs : s ≤ 2) (hh : h < nh) : Ev2 (f_X10_daysUntil bk I J (Int32.ofNat s) (Int32.ofNat h)) (f_X11_daysTo M J2 (Int32.ofNat s) (Int32.ofNat h)) (fun x y => x.1 = y.1 ∧ FrT I x.2.1 M y.2.1 J2 y.2.2) := by
  have lh := B.lh
  have hok : ok6 nh (Int32.ofNat h) = true := by
    unfold ok6
    rw [n_toInt (by omega)]
    exact decide_eq_true (by omega)
  delta f_X10_daysUntil f_X11_daysTo
  refine Ev2_L (p_isHouse B _) ?_
  rw [hok, if_pos rfl]
  obtain ⟨I3, M3, e1, e2, P3, F3, z3⟩ := c_reh (H := fun x => decide (x = h)) (bk := bk) lh N
  refine Ev2_L e1 (Ev2_R e2 ?_)
  obtain ⟨B3, D3, L3⟩ := F3.of hbk B D L
  refine Ev2_fix33 (fun x1 I4 J5 y1 M4 J6 => y1 = x1 ∧ ∃ i su', i ≤ 200 ∧ x1 = Int32.ofNat i ∧ PsR (fun x => decide (x = h)) bk I4 46 M4 J6 1 su' dn (dy + i) nk nh ∧ FrX 46 1 I3 I4 M3 M4 J2 J6) (fun x1 _ _ _ _ _ => (600 - x1.toInt).toNat) ?_ FU _ _ _ _ _ _ (FU_lt (by decide)) ⟨rfl, 0, su, by omega, rfl, P3, FrX.rf 46 1 I3 M3 J2⟩
  rintro r q x1 I4 J5 y1 M4 J6 ⟨rfl, i, su', hi, rfl, P, F⟩ hrec
  have hyl := N.yl
  have hF : FrT I I4 M M4 J2 J6 := F3.tr (F.ft z3)
  refine Ev2_if Iff.rfl (fun _ _ => Ev2_some ⟨rfl, hF⟩) (fun c _ => ?_)
  have hlt : i < 200 := Nat.lt_of_not_le (fun h => c ((n_le (a := 200) (by omega) (by omega)).mpr h))
  have g6 : inb (Int32.ofNat h) 6 = true := (n_inb (by omega)).mpr (by omega)
  have g12 : inb (Int32.ofNat (6 + h)) 12 = true := (n_inb (by omega)).mpr (by omega)
  have hd : (fun x => decide (x = h)) h = true := decide_eq_true rfl
  have t1 := P.tw.pu h hh hd
  have t2 := P.tw.bi h hh hd
  have t5 := P.tw.so h hh hd
  have hgo : ∀ bb : Bool, Ev2 (if bb = true then (some (Int32.ofNat i, I4, J5)) else (bd2 (f_X1_pass I4 J5 bk 46 (Int32.ofNat h)) (fun I7 J8 => lt (Int32.ofNat i + (1 : Int32)) (fun x9 => r x9 I7 J8)))) (lt (bi bb) (fun x6 => if x6 = (0 : Int32) then (bd2 (f_X11_dayGoes M4 J6 (1 : Int32)) (fun I7 J8 => lt (Int32.ofNat i + (1 : Int32)) (fun x9 => q x9 I7 J8))) else (some (Int32.ofNat i, M4, J6)))) (fun x y => x.1 = y.1 ∧ FrT I x.2.1 M y.2.1 J2 y.2.2) := fun bb => by
    cases bb with
    | true => exact Ev2_some ⟨rfl, hF⟩
    | false =>
      have B' := B3.fr (F.bkI hbk (by omega)) F.bkM F.bk0
      have D' := D3.fr (F.bkI hbk (by omega)) F.bkM F.bk0
      have L' := L3.fr (F.bkI hbk (by omega)) F.bkM
      obtain ⟨⟨I5, J7⟩, ⟨M5, J8⟩, e3, e4, ⟨su'', P'', _⟩, F''⟩ := c_pass (J := J5) hbk (by omega) (by omega) (Nat.le_refl 1) B' D' L' P (by omega) (fun h' _ => meant_one (h0 := h) (by omega) (show h' < 6 by omega))
      dsimp only at P'' F''
      rw [if_neg (by decide)]
      refine Ev2_b2L e3 (Ev2_lsR ?_)
      rw [if_pos (by rfl)]
      refine Ev2_b2R e4 (Ev2_lsL (Ev2_lsR ?_))
      rw [n_t1]
      refine hrec _ _ _ _ _ _ ⟨rfl, i + 1, su'', by omega, rfl, P'', F.tr (by omega) F''⟩ ?_
      rw [n_toInt (by omega), n_toInt (by omega)]; omega
  delta f_X8_shows
  have hc : s = 0 ∨ s = 1 ∨ s = 2 := by omega
  rcases hc with rfl | rfl | rfl
  · have hl : (gd (inb (Int32.ofNat h) 6) (gd (is01 (I4 (46 + 5) (ix (Int32.ofNat h)))) (some (decide (I4 (46 + 5) (ix (Int32.ofNat h)) = 1))))) = some (su'.testBit h) := by
      rw [gd_t g6, n_ix (by omega), t5]
      cases su'.testBit h <;> rfl
    refine Ev2_L hl ?_
    refine Ev2_lsR ?_
    show Ev2 _ (gd (inb (1 : Int32) 2) (bd1 (f_X11_isOf ((M4 31 (ix (1 : Int32)))) (Int32.ofNat h)) _)) _
    refine Ev2_gdR rfl ?_
    rw [ixc.2.1, P.s2]
    exact Ev2_R (isOf_s P.tw.sl (by omega)) (hgo _)
  · have hl : (gd (inb (Int32.ofNat h) 6) (lt (fun (x1 : Bool) => some (x1)) (fun j49 => if (0 : Int32) ≤ (I4 (46 + 2) (ix (Int32.ofNat h))) then (j49 false) else (j49 true)))) = some (!decide ((0 : Int32) ≤ M4 27 (6 * 1 + h))) := by
      rw [gd_t g6, n_ix (by omega), t2]
      simp only [lt]
      split
      · next c => rw [decide_eq_true c]; rfl
      · next c => rw [decide_eq_false c]; rfl
    refine Ev2_L hl ?_
    refine Ev2_lsR ?_
    show Ev2 _ (gd (inb ((6 : Int32) + Int32.ofNat h) 12) (if (0 : Int32) ≤ (M4 27 (ix ((6 : Int32) + Int32.ofNat h))) then _ else _)) _
    rw [n_6h]
    refine Ev2_gdR g12 ?_
    rw [n_ix (by omega), show 6 * 1 + h = 6 + h by omega]
    refine Ev2_ifR (fun c => ?_) (fun c => ?_)
    · rw [decide_eq_true c]; exact hgo false
    · rw [decide_eq_false c]; exact hgo true
  · have hl : (bd1 (f_X8_worthOf I4 46 (Int32.ofNat h)) (fun x2 => lt (fun (x3 : Bool) => some (x3)) (fun j63 => if (0 : Int32) ≤ x2 then (j63 false) else (j63 true)))) = some (!decide ((0 : Int32) ≤ M4 26 (6 * 1 + h) - M4 27 (6 * 1 + h))) := by
      delta f_X8_worthOf
      rw [gd_t g6, gd_t g6, n_ix (by omega), t1, t2, bd1_s]
      simp only [lt]
      split
      · next c => rw [decide_eq_true c]; rfl
      · next c => rw [decide_eq_false c]; rfl
    refine Ev2_L hl ?_
    refine Ev2_lsR ?_
    have hm : f_X11_hasOf M4 1 (Int32.ofNat h) = some (M4 26 (6 * 1 + h) - M4 27 (6 * 1 + h)) := by
      delta f_X11_hasOf
      rw [show (1 : Int32) = Int32.ofNat 1 from rfl, n_6b, gd_t ((n_inb (by omega)).mpr (by omega)), gd_t ((n_inb (by omega)).mpr (by omega)), n_ix (by omega)]
    show Ev2 _ (bd1 (f_X11_hasOf M4 (1 : Int32) (Int32.ofNat h)) (fun x11 => if (0 : Int32) ≤ x11 then _ else _)) _
    refine Ev2_R hm ?_
    refine Ev2_ifR (fun c => ?_) (fun c => ?_)
    · rw [decide_eq_true c]; exact hgo false
    · rw [decide_eq_false c]; exact hgo true
theorem c_unt {bk nk nh nw kn nd su dn dy : Nat} {I I2 : MI} (J : MJ) {J2 : MJ} (hbk : bk = 2 ∨ bk = 18) (B : BookR bk I I2 nk nh nw kn) (D : DayR bk I I2 nk nd) (L : LawR bk I I2) (N : NowR I I2 J2 su dn dy nk nh) {s : Nat} (hs : s ≤ 2) (a : Int32) : ∃ v I' J' M' J2', bd3 (f_X10_daysUntil bk I J (Int32.ofNat s) a) (fun x1 I2 J3 => some (x1, I2, J3)) = some (v, I', J') ∧ (lt (st2 I2 0 2 (0 : Int32)) (fun I1 => bd1 (f_X11_isHouse I1 a) (fun x2 => lt (fun (x3 : Int32) (I4 : MI) (J5 : MJ) => some (x3, I4, J5)) (fun j23 => if x2 = true then (bd3 (f_X11_daysTo I1 J2 (Int32.ofNat s) a) (fun x6 I7 J8 => j23 x6 I7 J8)) else (j23 (-1 : Int32) I1 J2))))) = some (v, M', J2') ∧ FrT I I' I2 M' J2 J2' := by
  have lh := B.lh
  simp only [lt]
  rw [m_isHouse B, bd1_s]
  cases ha : ok6 nh a with
  | false =>
    refine ⟨-1, I, J, st2 I2 0 2 0, J2, ?_, rfl, FrT.r0 I I2 J2⟩
    delta f_X10_daysUntil
    rw [p_isHouse B, ha]; rfl
  | true =>
    obtain ⟨h, hh, rfl⟩ := ok6_t ha
    obtain ⟨⟨v, I', J'⟩, ⟨w, M', J2'⟩, e, e', q1, q2⟩ := c_until J hbk B.st0 D.st0 L.st0 (N.st0 lh) hs hh
    cases q1
    rw [if_pos rfl, e, e']
    exact ⟨v, I', J', M', J2', rfl, rfl, FrT.st0 q2⟩
