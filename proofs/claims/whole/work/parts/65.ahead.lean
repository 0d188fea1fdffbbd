/-! ahead -/
theorem Ev2_b2L {α β γ δ : Type} {o : Option (γ × δ)} {v : γ} {w : δ} {f : γ → δ → Option α} {u : Option β} {Q : α → β → Prop} (e : o = some (v, w)) (h : Ev2 (f v w) u Q) : Ev2 (bd2 o f) u Q := by rw [e]; exact h
theorem Ev2_b2R {α β γ δ : Type} {o : Option α} {v : γ} {w : δ} {u : Option (γ × δ)} {f : γ → δ → Option β} {Q : α → β → Prop} (e : u = some (v, w)) (h : Ev2 o (f v w) Q) : Ev2 o (bd2 u f) Q := by rw [e]; exact h
theorem tr_sum {H : Nat → Bool} {bk su dn dy nk nh : Nat} {I M : MI} {J2 : MJ} (hn : nh ≤ 6) (P : PsR H bk I 46 M J2 1 su dn dy nk nh) (hH : ∀ h, H h = true) : sm (I 47) 6 = sm (fun h => M 26 (6 * 1 + h)) nh ∧ sm (I 48) 6 = sm (fun h => M 27 (6 * 1 + h)) nh ∧ sm (I 50) 6 = sm (fun h => M 29 (6 * 1 + h)) nh :=
  ⟨sm_6 hn (fun h a => P.tw.pu h a (hH h)) (fun h a b => (P.tw.ze h a b).1), sm_6 hn (fun h a => P.tw.bi h a (hH h)) (fun h a b => (P.tw.ze h a b).2.1), sm_6 hn (fun h a => P.tw.lo h a (hH h)) (fun h a b => (P.tw.ze h a b).2.2.2.1)⟩
theorem tr_sold {H : Nat → Bool} {bk su dn dy nk nh : Nat} {I M : MI} {J2 : MJ} (P : PsR H bk I 46 M J2 1 su dn dy nk nh) (hH : ∀ h, H h = true) : f_X8_howManySoldUp I 46 = some (Int32.ofNat (pcn su 6)) ∧ f_X11_manyOf (M 31 1) = some (Int32.ofNat (pcn su 6)) := by
  refine ⟨p_howMany (fun h a => ?_), by rw [P.s2]; exact m_manyOf P.tw.sl⟩
  by_cases c : h < nh
  · exact P.tw.so h c (hH h)
  · rw [P.tw.sz h (by omega) a]
    exact (P.tw.ze h (by omega) a).2.2.2.2.1
theorem c_ahead {bk nk nh nw kn nd su dn dy : Nat} {I I2 : MI} (J : MJ) {J2 : MJ} (hbk : bk = 2 ∨ bk = 18) (B : BookR bk I I2 nk nh nw kn) (D : DayR bk I I2 nk nd) (L : LawR bk I I2) (N : NowR I I2 J2 su dn dy nk nh) (a b c : Int32) : ∃ v I' J' M' J2', f_X10_ahead bk I J a b c = some (v, I', J') ∧ f_X11_ahead I2 J2 a b c = some (v, M', J2') ∧ FrT I I' I2 M' J2 J2' := by
  have lh := B.lh
  have key : Ev2 (f_X10_ahead bk I J a b c) (f_X11_ahead I2 J2 a b c) (fun x y => x.1 = y.1 ∧ FrT I x.2.1 I2 y.2.1 J2 y.2.2) := by
    have hno : ∀ v : Int32, Ev2 (some (v, I, J)) (some (v, st2 I2 0 2 0, J2)) (fun x y => x.1 = y.1 ∧ FrT I x.2.1 I2 y.2.1 J2 y.2.2) := fun v => Ev2_some ⟨rfl, FrT.r0 I I2 J2⟩
    delta f_X10_ahead f_X11_ahead
    refine Ev2_lsR (Ev2_L p_isWithin (Ev2_R m_isIn (Ev2_lsL (Ev2_lsR ?_))))
    cases ha : decide ((0 : Int32).toInt ≤ a.toInt ∧ a.toInt ≤ (200 : Int32).toInt) with
    | false => exact hno _
    | true =>
      obtain ⟨n, hn, rfl⟩ := in_t (n := 200) (by omega) ha
      rw [if_pos rfl, if_pos rfl]
      refine Ev2_L p_isWithin (Ev2_R m_isIn ?_)
      cases hb : decide ((0 : Int32).toInt ≤ b.toInt ∧ b.toInt ≤ (4 : Int32).toInt) with
      | false => exact hno _
      | true =>
        obtain ⟨w, hw, rfl⟩ := in_t (n := 4) (by omega) hb
        rw [if_pos rfl, if_pos rfl]
        refine Ev2_lsL (Ev2_lsR ?_)
        have B' := B.st0
        have D' := D.st0
        have L' := L.st0
        have N' := N.st0 lh
        by_cases h3 : 3 ≤ w
        · have h3' : (3 : Int32) ≤ Int32.ofNat w := (n_le (a := 3) (by omega) (by omega)).mpr h3
          rw [if_pos h3', if_pos h3']
          obtain ⟨I3, M3, e1, e2, P3, F3, z3⟩ := c_reh (H := fun _ => true) (bk := bk) lh N'
          refine Ev2_L e1 (Ev2_R e2 ?_)
          obtain ⟨B3, D3, L3⟩ := F3.of hbk B' D' L'
          obtain ⟨⟨I6, J7⟩, ⟨M6, J8⟩, e3, e4, ⟨su', P6, _⟩, F6⟩ := c_many (J := J) hbk B3 D3 L3 P3 N.yl hn (fun h _ => meant_all h)
          dsimp only at P6 F6
          refine Ev2_lsL ?_
          rw [if_pos h3']
          refine Ev2_b2L e3 (Ev2_b2R e4 ?_)
          have F := FrT.st0 (F3.tr (F6.ft z3))
          have hts := tr_sum lh P6 (fun _ => rfl)
          have hsd := tr_sold P6 (fun _ => rfl)
          have F6' := F6.ft z3
          have hN6 := (F3.tr F6').now lh N'
          have hc : w = 3 ∨ w = 4 := by omega
          rcases hc with rfl | rfl
          · show Ev2 (bd1 (f_X8_howManySoldUp I6 46) (fun x8 => some (x8, I6, J7))) (gd (inb (1 : Int32) 2) (bd1 (f_X11_manyOf (M6 31 (ix (1 : Int32)))) (fun x7 => some (x7, M6, J8)))) _
            rw [ixc.2.1]
            exact Ev2_L hsd.1 (Ev2_gdR rfl (Ev2_R hsd.2 (Ev2_some ⟨rfl, F⟩)))
          · show Ev2 (bd1 (f_X10_sumOfRow I6 50 6) (fun x9 => bd1 (f_X10_sumOfRow I6 42 6) (fun x10 => some (x9 - x10, I6, J7)))) (bd1 (f_X11_lookedAll M6 (1 : Int32)) (fun x8 => bd1 (f_X11_lookedAll M6 (0 : Int32)) (fun x9 => some (x8 - x9, M6, J8)))) _
            have hM13 : M6 0 13 = Int32.ofNat nh := by rw [F6.bk0 13 (by omega) (by omega)]; exact B3.h2
            have l1 : f_X11_lookedAll M6 1 = some (sm (fun k => M6 29 (6 * 1 + k)) nh) := m_lookedAll lh hM13 1 (by omega)
            have l0 : f_X11_lookedAll M6 0 = some (sm (fun k => M6 29 (6 * 0 + k)) nh) := m_lookedAll lh hM13 0 (by omega)
            have hlo : sm (I6 42) 6 = sm (fun k => M6 29 (6 * 0 + k)) nh := sm_6 lh (fun h a => by rw [show 6 * 0 + h = h by omega]; exact hN6.tw.lo h a rfl) (fun h a b => (hN6.tw.ze h a b).2.2.2.1)
            refine Ev2_L p_sumOfRow (Ev2_L p_sumOfRow (Ev2_R l1 (Ev2_R l0 ?_)))
            rw [hts.2.2, hlo]
            exact Ev2_some ⟨rfl, F⟩
        · have h3' : ¬ (3 : Int32) ≤ Int32.ofNat w := fun e => h3 ((n_le (a := 3) (by omega) (by omega)).mp e)
          rw [if_neg h3', if_neg h3']
          refine Ev2_L (p_isHouse B c) (Ev2_R (m_isHouse B c) ?_)
          cases hc : ok6 nh c with
          | false => exact hno _
          | true =>
            obtain ⟨h, hh, rfl⟩ := ok6_t hc
            rw [if_pos rfl, if_pos rfl]
            obtain ⟨I3, M3, e1, e2, P3, F3, z3⟩ := c_reh (H := fun x => decide (x = h)) (bk := bk) lh N'
            refine Ev2_L e1 (Ev2_R e2 ?_)
            obtain ⟨B3, D3, L3⟩ := F3.of hbk B' D' L'
            obtain ⟨⟨I6, J7⟩, ⟨M6, J8⟩, e3, e4, ⟨su', P6, _⟩, F6⟩ := c_many (J := J) hbk B3 D3 L3 P3 N.yl hn (fun h' _ => meant_one (h0 := h) (by omega) (show h' < 6 by omega))
            dsimp only at P6 F6
            refine Ev2_lsL ?_
            rw [if_neg h3']
            refine Ev2_b2L e3 (Ev2_b2R e4 ?_)
            rw [n_6h]
            have F := FrT.st0 (F3.tr (F6.ft z3))
            have g6 : inb (Int32.ofNat h) 6 = true := (n_inb (by omega)).mpr (by omega)
            have g12 : inb (Int32.ofNat (6 + h)) 12 = true := (n_inb (by omega)).mpr (by omega)
            rw [n_ix (show h < 2147483648 by omega), n_ix (show 6 + h < 2147483648 by omega)]
            have hc : w = 0 ∨ w = 1 ∨ w = 2 := by omega
            have t1 := P6.tw.pu h hh (decide_eq_true rfl)
            have t2 := P6.tw.bi h hh (decide_eq_true rfl)
            have t3 := P6.tw.us h hh (decide_eq_true rfl)
            rcases hc with rfl | rfl | rfl
            · show Ev2 (gd (inb (Int32.ofNat h) 6) (some (I6 47 h, I6, J7))) (gd (inb (Int32.ofNat (6 + h)) 12) (some (M6 26 (6 + h), M6, J8))) _
              exact Ev2_gdL g6 (Ev2_gdR g12 (Ev2_some ⟨t1, F⟩))
            · show Ev2 (gd (inb (Int32.ofNat h) 6) (some (I6 48 h, I6, J7))) (gd (inb (Int32.ofNat (6 + h)) 12) (some (M6 27 (6 + h), M6, J8))) _
              exact Ev2_gdL g6 (Ev2_gdR g12 (Ev2_some ⟨t2, F⟩))
            · show Ev2 (gd (inb (Int32.ofNat h) 6) (some (I6 49 h, I6, J7))) (gd (inb (Int32.ofNat (6 + h)) 12) (some (M6 28 (6 + h), M6, J8))) _
              exact Ev2_gdL g6 (Ev2_gdR g12 (Ev2_some ⟨t3, F⟩))
  obtain ⟨⟨v, I', J'⟩, ⟨w, M', J2'⟩, e, e', q1, q2⟩ := key
  cases q1
  exact ⟨v, I', J', M', J2', e, e', q2⟩
