/-! blinds: the call -/
theorem c_blinds {bk nk nh nw kn nd su dn dy : Nat} {I I2 : MI} (J : MJ) {J2 : MJ} (hbk : bk = 2 ∨ bk = 18) (B : BookR bk I I2 nk nh nw kn) (D : DayR bk I I2 nk nd) (L : LawR bk I I2) (N : NowR I I2 J2 su dn dy nk nh) (a b : Int32) : ∃ v I' J' M' J2', f_X10_blinds bk I J a b = some (v, I', J') ∧ f_X11_blinds I2 J2 a b = some (v, M', J2') ∧ FrT I I' I2 M' J2 J2' := by
  have lh := B.lh
  have hp6 : 2 ^ nh ≤ 64 := Nat.pow_le_pow_right (n := 2) (by decide) lh
  have hp0 : 1 ≤ 2 ^ nh := Nat.one_le_two_pow
  have key : Ev2 (f_X10_blinds bk I J a b) (f_X11_blinds I2 J2 a b) (fun x y => x.1 = y.1 ∧ FrT I x.2.1 I2 y.2.1 J2 y.2.2) := by
    have hno : ∀ v : Int32, Ev2 (some (v, I, J)) (some (v, st2 I2 0 2 0, J2)) (fun x y => x.1 = y.1 ∧ FrT I x.2.1 I2 y.2.1 J2 y.2.2) := fun v => Ev2_some ⟨rfl, FrT.r0 I I2 J2⟩
    delta f_X10_blinds f_X11_blinds
    refine Ev2_lsR (Ev2_L p_isWithin (Ev2_R m_isIn (Ev2_lsL (Ev2_lsR ?_))))
    cases ha : decide ((0 : Int32).toInt ≤ a.toInt ∧ a.toInt ≤ (60 : Int32).toInt) with
    | false => exact hno _
    | true =>
      obtain ⟨n, hn, rfl⟩ := in_t (n := 60) (by omega) ha
      rw [if_pos rfl, if_pos rfl]
      refine Ev2_L p_isWithin (Ev2_R m_isIn ?_)
      cases hb : decide ((0 : Int32).toInt ≤ b.toInt ∧ b.toInt ≤ (1 : Int32).toInt) with
      | false => exact hno _
      | true =>
        rw [if_pos rfl, if_pos rfl]
        have B0 := B.st0
        have D0 := D.st0
        have L0 := L.st0
        have N0 := N.st0 lh
        obtain ⟨S, hS⟩ : ∃ S : Nat → Bool → Bool, S = sO bk I J n := ⟨_, rfl⟩
        -- the component's answers do not hang on what was thought of before
        have hA : ∀ Ic Jc, (∀ p, ¬ (46 ≤ p ∧ p < 54) → p ≠ 62 → Ic p = I p) → ∀ h f, h < nh → ∃ I' J', f_X10_isSoldUpIn bk Ic Jc (Int32.ofNat n) (Int32.ofNat h) (bi f) = some (S h f, I', J') ∧ (∀ p, ¬ (46 ≤ p ∧ p < 54) → p ≠ 62 → I' p = I p) := fun Ic Jc hI h f hh => by
          have hfb : ∀ h : Fin 6, Nat.testBit (if f then 63 else 0) h.1 = f := by cases f <;> decide
          have hd : (if f then 63 else 0) < 64 := by cases f <;> decide
          have FI : FrT I Ic (st2 I2 0 2 0) (st2 I2 0 2 0) J2 J2 := ⟨hI, fun _ _ _ _ _ => rfl, fun _ _ _ _ => rfl⟩
          obtain ⟨Bc, Dc, Lc⟩ := FI.of hbk B0 D0 L0
          obtain ⟨v, I', J', M3, M', J2', su', e1, e2, e3, e4, e5, e6, e7, e8, e9⟩ := c_blx (J := Jc) (f := f) hbk Bc Dc Lc (FI.now lh N0) (n := n) (by omega) hh hd (hfb ⟨h, by omega⟩)
          obtain ⟨v', I'', J'', M3', M'', J2'', su'', d1, d2, d3, d4, d5, d6, d7, d8, d9⟩ := c_blx (J := J) (f := f) hbk B0 D0 L0 N0 (n := n) (by omega) hh hd (hfb ⟨h, by omega⟩)
          rw [e2] at d2
          have hm := Option.some.inj d2
          rw [← hm, e3] at d3
          have hm2 := Option.some.inj d3
          have hM : M' = M'' := congrArg Prod.fst hm2
          rw [← hM, e4] at d4
          have hsu : su' = su'' := (n_eq (by omega) (by omega)).mp d4
          have hv : S h f = v := by rw [hS, sO_e d1, ← d7, ← hsu, e7]
          rw [hv]
          exact ⟨I', J', e1, fun p x y => (e9.1 p x y).trans (hI p x y)⟩
        -- the model's, by the set of those that draw the blind
        have hB : ∀ Mc Jc, FrT I I (st2 I2 0 2 0) Mc J2 Jc → ∀ s, s < 2 ^ nh → ∃ M3 M' J' su', f_X11_layTried Mc = some M3 ∧ M3 32 1 = Int32.ofNat dn ∧ f_X11_goMany (st2 M3 32 1 (Int32.ofNat (dn ||| s))) Jc (Int32.ofNat n) = some (M', J') ∧ M' 31 1 = Int32.ofNat su' ∧ su' < 64 ∧ pcn su' 6 = ctn (fun h => S h (dn.testBit h || s.testBit h)) nh ∧ FrT I I (st2 I2 0 2 0) M' J2 J' := fun Mc Jc FM s hs => by
          obtain ⟨Bc, Dc, Lc⟩ := FM.of hbk B0 D0 L0
          have Nc := FM.now lh N0
          have ho := or_s ⟨dn, N.tw.dl⟩ ⟨s, by omega⟩
          simp only at ho
          by_cases hz : nh = 0
          · obtain ⟨I3, M3, e1, e2, P3, F3, z3⟩ := c_reh (H := fun _ => true) (bk := bk) lh Nc
            obtain ⟨B3, D3, L3⟩ := F3.of hbk Bc Dc Lc
            have P4 : PsR (fun _ => true) bk I3 46 (st2 M3 32 1 (Int32.ofNat (dn ||| s))) Jc 1 su (dn ||| s) dy nk nh := by
              refine P3.dn (by omega) (fun _ _ => rfl) (fun p k h => s2x h) ho.2 (by rw [st2_at, if_pos rfl]) (fun h a _ => absurd a (by omega)) P3.tw.z6 (fun h a b => (P3.tw.ze h a b).2.2.2.2.2)
            have hbm : ∀ p, 4 ≤ p → p < 22 → st2 M3 32 1 (Int32.ofNat (dn ||| s)) p = M3 p := fun p _ _ => st2_ne (by omega)
            have B4 := B3.fr (I' := I3) (M' := st2 M3 32 1 (Int32.ofNat (dn ||| s))) (fun _ _ _ => rfl) hbm (fun k _ _ => s2x (by omega))
            have D4 := D3.fr (I' := I3) (M' := st2 M3 32 1 (Int32.ofNat (dn ||| s))) (fun _ _ _ => rfl) hbm (fun k _ _ => s2x (by omega))
            have L4 := L3.fr (I' := I3) (M' := st2 M3 32 1 (Int32.ofNat (dn ||| s))) (fun _ _ _ => rfl) hbm
            obtain ⟨⟨I9, J7⟩, ⟨M9, J8⟩, e3, e4, ⟨su', P9, hmo⟩, F9⟩ := c_many (J := J) hbk B4 D4 L4 P4 N.yl (n := n) (by omega) (fun h _ => meant_all h)
            dsimp only at P9 F9
            refine ⟨M3, M9, J8, su', e2, P3.d2, e4, P9.s2, P9.tw.sl, ?_, ?_⟩
            · rw [pcn_ct]
              have := ctn_tail (p := fun h => su'.testBit h) (n := nh) (6 - nh) (fun k x y => P9.tw.sz k x (by omega))
              rw [show nh + (6 - nh) = 6 by omega] at this
              rw [this, hz]; rfl
            · have FX : FrT I3 I9 M3 M9 Jc J8 := FrT.tr (I' := I3) (M' := st2 M3 32 1 (Int32.ofNat (dn ||| s))) (J' := Jc) ⟨fun _ _ _ => rfl, fun p k _ _ d => s2x (by omega), fun _ _ _ _ => rfl⟩ (F9.ft z3)
              have FY := FM.tr (F3.tr FX)
              exact ⟨fun _ _ _ => rfl, FY.2.1, FY.2.2⟩
          · obtain ⟨v0, I0', J0', M3, M', J', su', e1, e2, e3, e4, e5, e6, e7, e8, e9⟩ := c_blx (J := J) (dn' := dn ||| s) (f := (dn ||| s).testBit 0) hbk Bc Dc Lc Nc (n := n) (by omega) (show 0 < nh by omega) ho.2 rfl
            have h32 : M3 32 1 = Int32.ofNat dn := by
              obtain ⟨M3', f1, _, _, f3, _⟩ := m_layTried (M := Mc)
              rw [e2] at f1
              have := Option.some.inj f1
              rw [this, f3 32 (by omega) (by omega)]; exact Nc.d2
            refine ⟨M3, M', J', su', e2, h32, e3, e4, e5, ?_, ?_⟩
            · rw [pcn_ct]
              have ht := ctn_tail (p := fun h => su'.testBit h) (n := nh) (6 - nh) (fun k x y => e6 k x (by omega))
              rw [show nh + (6 - nh) = 6 by omega] at ht
              rw [ht]
              refine ctn_congr nh (fun h hh => ?_)
              obtain ⟨v, Ih, Jh, M3h, Mh, J2h, suh, g1, g2, g3, g4, g5, g6, g7, g8, g9⟩ := c_blx (J := J) (dn' := dn ||| s) (f := (dn ||| s).testBit h) hbk Bc Dc Lc Nc (n := n) (by omega) hh ho.2 rfl
              rw [e2] at g2
              have hm := Option.some.inj g2
              rw [← hm, e3] at g3
              have hM : M' = Mh := congrArg Prod.fst (Option.some.inj g3)
              rw [← hM, e4] at g4
              have hsu : su' = suh := (n_eq (by omega) (by omega)).mp g4
              show su'.testBit h = S h (dn.testBit h || s.testBit h)
              rw [hsu, g7, hS, ← Nat.testBit_or, sO_e g1]
            · have FY := FM.tr e9
              exact ⟨fun _ _ _ => rfl, FY.2.1, FY.2.2⟩
        -- sold up stays so
        have hsold : ∀ h f, h < nh → su.testBit h = true → S h f = true := fun h f hh hs => by
          have hfb : ∀ h : Fin 6, Nat.testBit (if f then 63 else 0) h.1 = f := by cases f <;> decide
          have hd : (if f then 63 else 0) < 64 := by cases f <;> decide
          obtain ⟨v, I', J', M3, M', J2', su', e1, e2, e3, e4, e5, e6, e7, e8, e9⟩ := c_blx (J := J) (f := f) hbk B0 D0 L0 N0 (n := n) (by omega) hh hd (hfb ⟨h, by omega⟩)
          rw [hS, sO_e e1, ← e7]
          exact e8 h (by omega) hs
        obtain ⟨bitf, hbitf⟩ : ∃ q : Nat → Bool, q = fun h => S h (dn.testBit h) && !S h true := ⟨_, rfl⟩
        obtain ⟨falf, hfalf⟩ : ∃ q : Nat → Bool, q = fun h => S h (dn.testBit h) && S h true := ⟨_, rfl⟩
        obtain ⟨mn, hmn⟩ : ∃ m : Nat → Nat, m = fun s => ctn (fun h => S h (dn.testBit h || s.testBit h)) nh := ⟨_, rfl⟩
        obtain ⟨ad, had⟩ : ∃ q : Nat → Bool, q = fun s => decide (Int32.ofNat s &&& (Int32.ofNat su ||| Int32.ofNat dn) = 0) := ⟨_, rfl⟩
        have hbl := bts_lt bitf nh
        have hbt : ∀ h, h < nh → (bts bitf nh).testBit h = bitf h := fun h hh => bts_t nh h hh
        have hos := or_s ⟨su, N.tw.sl⟩ ⟨dn, N.tw.dl⟩
        simp only at hos
        have hadm : ∀ s, s < 2 ^ nh → (ad s = true ↔ ∀ h, h < nh → ¬ (s.testBit h = true ∧ (su.testBit h = true ∨ dn.testBit h = true))) := fun s hs => by
          rw [had]
          show decide _ = true ↔ _
          rw [decide_eq_true_iff, hos.1, nos_and lh hs hos.2]
          unfold nos
          rw [decide_eq_true_iff]
          constructor
          · intro h k hk ⟨x, y⟩
            refine h k hk ⟨x, ?_⟩
            rw [Nat.testBit_or]
            rcases y with y | y <;> rw [y]
            · rfl
            · exact Bool.or_true _
          · intro h k hk ⟨x, y⟩
            rw [Nat.testBit_or] at y
            refine h k hk ⟨x, ?_⟩
            cases hsu : su.testBit k with
            | true => exact Or.inl rfl
            | false => rw [hsu, Bool.false_or] at y; exact Or.inr y
        have hbad : ad (bts bitf nh) = true := (hadm _ hbl).mpr (fun h hh ⟨x, y⟩ => by
          rw [hbt h hh, hbitf] at x
          have x : (S h (dn.testBit h) && !S h true) = true := x
          rcases y with y | y
          · rw [hsold h true hh y] at x
            rw [Bool.not_true, Bool.and_false] at x; cases x
          · rw [y] at x
            cases hq : S h true with
            | true => rw [hq] at x; cases x
            | false => rw [hq] at x; cases x)
        have hcomp : ∀ s h : Nat, h < nh → S h (dn.testBit h || (bts bitf nh).testBit h) = true → S h (dn.testBit h || s.testBit h) = true := fun s h hh x => by
          rw [hbt h hh, hbitf] at x
          have x : S h (dn.testBit h || (S h (dn.testBit h) && !S h true)) = true := x
          cases hd : dn.testBit h with
          | true =>
            rw [hd, Bool.true_or] at x
            rw [Bool.true_or]; exact x
          | false =>
            rw [hd, Bool.false_or] at x
            rw [Bool.false_or]
            cases h1 : S h true with
            | true =>
              rw [h1, Bool.not_true, Bool.and_false] at x
              cases s.testBit h with
              | true => exact h1
              | false => exact x
            | false =>
              rw [h1, Bool.not_false, Bool.and_true] at x
              cases h2 : S h false with
              | true => rw [h2, h1] at x; cases x
              | false => rw [h2, h2] at x; cases x
        have hfal : ctn falf nh = mn (bts bitf nh) := by
          rw [hmn]
          refine ctn_congr nh (fun h hh => ?_)
          rw [hfalf]
          show (S h (dn.testBit h) && S h true) = S h (dn.testBit h || (bts bitf nh).testBit h)
          rw [hbt h hh, hbitf]
          show _ = S h (dn.testBit h || (S h (dn.testBit h) && !S h true))
          cases hd : dn.testBit h with
          | true => rw [Bool.true_or, Bool.and_self]
          | false =>
            rw [Bool.false_or]
            cases h1 : S h true with
            | true =>
              rw [Bool.not_true, Bool.and_false, Bool.and_true]
            | false =>
              rw [Bool.not_false, Bool.and_true, Bool.and_false]
              cases h2 : S h false with
              | true => exact h1.symm
              | false => exact h2.symm
        have hbest : bst ad mn (2 ^ nh) = some (bts bitf nh) := by
          obtain ⟨o1, o2⟩ := bst_o (ad := ad) (mn := mn) (2 ^ nh)
          cases hq : bst ad mn (2 ^ nh) with
          | none =>
            have := o1 hq _ hbl
            rw [hbad] at this; cases this
          | some b0 =>
            obtain ⟨g1, g2, g3⟩ := o2 b0 hq
            have g4 := g3 _ hbl hbad
            have hm := ctn_mono (p := fun h => S h (dn.testBit h || (bts bitf nh).testBit h)) (q := fun h => S h (dn.testBit h || b0.testBit h)) nh (hcomp b0)
            have hle : mn (bts bitf nh) ≤ mn b0 := by rw [hmn]; exact hm.1
            have heq : mn b0 = mn (bts bitf nh) := by omega
            have hpw := hm.2 (by rw [hmn] at heq; exact heq.symm)
            have hsub : ∀ h, h < nh → (bts bitf nh).testBit h = true → b0.testBit h = true := fun h hh x => by
              have hp := hpw h hh
              have hp : S h (dn.testBit h || (bts bitf nh).testBit h) = S h (dn.testBit h || b0.testBit h) := hp
              have xb := x
              rw [hbt h hh, hbitf] at xb
              have xb : (S h (dn.testBit h) && !S h true) = true := xb
              cases hd : dn.testBit h with
              | true =>
                rw [hd] at xb
                cases h1 : S h true with
                | true => rw [h1] at xb; cases xb
                | false => rw [h1] at xb; cases xb
              | false =>
                rw [hd] at xb hp
                rw [x, Bool.false_or, Bool.false_or] at hp
                cases hb0 : b0.testBit h with
                | true => rfl
                | false =>
                  rw [hb0] at hp
                  rw [← hp] at xb
                  cases h1 : S h true with
                  | true => rw [h1] at xb; cases xb
                  | false => rw [h1] at xb; cases xb
            have hpb : ∀ s, s < 2 ^ nh → pcn s 6 = ctn (fun h => s.testBit h) nh := fun s hs => by
              rw [pcn_ct]
              have ht := ctn_tail (p := fun h => s.testBit h) (n := nh) (6 - nh) (fun k x y => Nat.testBit_lt_two_pow (Nat.lt_of_lt_of_le hs (Nat.pow_le_pow_right (n := 2) (by decide) x)))
              rw [show nh + (6 - nh) = 6 by omega] at ht
              exact ht
            have hm2 := ctn_mono (p := fun h => (bts bitf nh).testBit h) (q := fun h => b0.testBit h) nh hsub
            have hpe : ctn (fun h => (bts bitf nh).testBit h) nh = ctn (fun h => b0.testBit h) nh := by
              have q1 := hpb _ hbl
              have q2 := hpb _ g1
              omega
            have hall := hm2.2 hpe
            congr 1
            apply Nat.eq_of_testBit_eq
            intro k
            by_cases c : k < nh
            · exact (hall k c).symm
            · rw [Nat.testBit_lt_two_pow (Nat.lt_of_lt_of_le g1 (Nat.pow_le_pow_right (n := 2) (by decide) (by omega))), Nat.testBit_lt_two_pow (Nat.lt_of_lt_of_le hbl (Nat.pow_le_pow_right (n := 2) (by decide) (by omega)))]
        have h12 : ∀ Ic : MI, (∀ p, ¬ (46 ≤ p ∧ p < 54) → p ≠ 62 → Ic p = I p) → Ic bk 12 = Int32.ofNat nh := fun Ic h => by rw [h bk (by omega) (by omega)]; exact B.h1
        have hleft : Ev (lt (fun (x3 : Int32) (x4 : Int32) (I5 : MI) (J6 : MJ) => lt (fun (x7 : Int32) => some (x7, I5, J6)) (fun j101 => if b = (0 : Int32) then (j101 x3) else (j101 x4))) (fun j91 => fix5 (fun (r29 : Int32 → Int32 → Int32 → MI → MJ → Option (Int32 × MI × MJ)) (x8 : Int32) (x9 : Int32) (x10 : Int32) (I11 : MI) (J12 : MJ) => if (I11 bk 12) ≤ x10 then (j91 x8 x9 I11 J12) else (gd (inb x10 6) (bd3 (f_X10_isSoldUpIn bk I11 J12 (Int32.ofNat n) x10 ((I11 44 (ix x10)))) (fun x13 I14 J15 => lt (fun (x16 : Int32) (x17 : Int32) (I18 : MI) (J19 : MJ) => lt (x10 + (1 : Int32)) (fun x20 => r29 x16 x17 x20 I18 J19)) (fun j85 => if x13 = true then (bd3 (f_X10_isSoldUpIn bk I14 J15 (Int32.ofNat n) x10 (1 : Int32)) (fun x21 I22 J23 => if x21 = true then (lt (x9 + (1 : Int32)) (fun x24 => j85 x8 x24 I22 J23)) else (lt (x8 ||| ((1 : Int32) <<< (x10 &&& (31 : Int32)))) (fun x25 => j85 x25 x9 I22 J23)))) else (j85 x8 x9 I14 J15)))))) FU (0 : Int32) (0 : Int32) (0 : Int32) I J)) (fun x => x.1 = (if b = 0 then Int32.ofNat (bts bitf nh) else Int32.ofNat (ctn falf nh)) ∧ (∀ p, ¬ (46 ≤ p ∧ p < 54) → p ≠ 62 → x.2.1 p = I p)) := by
          refine Ev_ls ?_
          refine Ev_fix5 (fun x8 x9 x10 I11 _ => ∃ i, i ≤ nh ∧ x10 = Int32.ofNat i ∧ x8 = Int32.ofNat (bts bitf i) ∧ x9 = Int32.ofNat (ctn falf i) ∧ (∀ p, ¬ (46 ≤ p ∧ p < 54) → p ≠ 62 → I11 p = I p)) (fun _ _ x10 _ _ => (80 - x10.toInt).toNat) ?_ FU _ _ _ _ _ (FU_lt (by decide)) ⟨0, by omega, rfl, rfl, rfl, fun _ _ _ => rfl⟩
          rintro rec x8 x9 x10 I11 J12 ⟨i, hi, rfl, rfl, rfl, g1⟩ hrec
          rw [h12 I11 g1]
          refine Ev_if (fun c => ?_) (fun c => ?_)
          · have := (n_le (by omega) (by omega)).mp c
            have : i = nh := by omega
            subst this
            refine Ev_ls (Ev_if (fun c0 => Ev_some ⟨by rw [if_pos c0], g1⟩) (fun c0 => Ev_some ⟨by rw [if_neg c0], g1⟩))
          · have hlt : i < nh := Nat.lt_of_not_le (fun h => c ((n_le (by omega) (by omega)).mpr h))
            have g6 : inb (Int32.ofNat i) 6 = true := (n_inb (by omega)).mpr (by omega)
            have e44 : I11 44 (ix (Int32.ofNat i)) = bi (dn.testBit i) := by
              rw [n_ix (by omega), g1 44 (by omega) (by omega)]
              have := N.tw.dw i hlt rfl
              rw [show (38 + 6 : Nat) = 44 from rfl] at this
              rw [this]; unfold bi; rfl
            have hgo : ∀ y z I18 J19, y = bts bitf (i + 1) → z = ctn falf (i + 1) → (∀ p, ¬ (46 ≤ p ∧ p < 54) → p ≠ 62 → I18 p = I p) → Ev (rec (Int32.ofNat y) (Int32.ofNat z) (Int32.ofNat i + 1) I18 J19) (fun x => x.1 = (if b = 0 then Int32.ofNat (bts bitf nh) else Int32.ofNat (ctn falf nh)) ∧ (∀ p, ¬ (46 ≤ p ∧ p < 54) → p ≠ 62 → x.2.1 p = I p)) := fun y z I18 J19 hy hz hI => by
              rw [n_t1]
              refine hrec _ _ _ _ _ ⟨i + 1, by omega, rfl, by rw [hy], by rw [hz], hI⟩ ?_
              rw [n_toInt (by omega), n_toInt (by omega)]; omega
            have e1 : bts bitf (i + 1) = if bitf i then bts bitf i + 2 ^ i else bts bitf i := rfl
            have e2 : ctn falf (i + 1) = ctn falf i + (if falf i then 1 else 0) := rfl
            have f1 : bitf i = (S i (dn.testBit i) && !S i true) := by rw [hbitf]
            have f2 : falf i = (S i (dn.testBit i) && S i true) := by rw [hfalf]
            refine Ev_gd g6 ?_
            rw [e44]
            obtain ⟨I14, J15, d1, d2⟩ := hA I11 J12 g1 i (dn.testBit i) hlt
            rw [d1, bd3_s]
            refine Ev_ls ?_
            cases hs : S i (dn.testBit i) with
            | false =>
              rw [hs, Bool.false_and] at f1 f2
              rw [f1] at e1
              rw [f2] at e2
              exact hgo _ _ _ _ e1.symm e2.symm d2
            | true =>
              rw [hs, Bool.true_and] at f1 f2
              rw [if_pos rfl]
              obtain ⟨I22, J23, d3, d4⟩ := hA I14 J15 d2 i true hlt
              have d3' : f_X10_isSoldUpIn bk I14 J15 (Int32.ofNat n) (Int32.ofNat i) 1 = some (S i true, I22, J23) := d3
              rw [d3', bd3_s]
              cases hs1 : S i true with
              | true =>
                rw [hs1] at f1 f2
                rw [f1] at e1
                rw [f2, if_pos rfl] at e2
                rw [if_pos rfl]
                refine Ev_ls ?_
                rw [n_t1 (ctn falf i)]
                exact hgo _ _ _ _ e1.symm e2.symm d4
              | false =>
                rw [hs1] at f1 f2
                rw [f1, Bool.not_false, if_pos rfl] at e1
                rw [f2] at e2
                rw [if_neg (by decide)]
                refine Ev_ls ?_
                rw [bts_or (by omega)]
                exact hgo _ _ _ _ e1.symm e2.symm d4
        obtain ⟨⟨vl, Il, Jl⟩, el, ql, fl'⟩ := hleft
        dsimp only at ql fl'
        rw [el]
        refine Ev2_rr.mp ?_
        refine Ev_ls ?_
        have hst : ∀ x, bst ad mn (x + 1) = if ad x then (match bst ad mn x with
          | none => some x
          | some b => if mn b < mn x then some b else if mn x = mn b then (if pcn x 6 < pcn b 6 then some x else some b) else some x) else bst ad mn x := fun _ => rfl
        have hmn6 : ∀ s, mn s ≤ nh := fun s => by rw [hmn]; exact ctn_le nh
        refine Ev_fix5 (fun x9 x10 x11 I12 J13 => ∃ i, i ≤ 2 ^ nh ∧ x11 = Int32.ofNat i ∧ FrT I I (st2 I2 0 2 0) I12 J2 J13 ∧ ((bst ad mn i = none ∧ x9 = -1) ∨ ∃ b0, bst ad mn i = some b0 ∧ x9 = Int32.ofNat b0 ∧ x10 = Int32.ofNat (mn b0))) (fun _ _ x11 _ _ => (80 - x11.toInt).toNat) ?_ FU _ _ _ _ _ (FU_lt (by decide)) ⟨0, by omega, rfl, FrT.rf _ _ _, Or.inl ⟨rfl, rfl⟩⟩
        rintro rec x9 x10 x11 I12 J13 ⟨i, hi, rfl, FM, hx⟩ hrec
        obtain ⟨Bc, Dc, Lc⟩ := FM.of hbk B0 D0 L0
        have Nc := FM.now lh N0
        have epw := pw_1 ⟨nh, by omega⟩
        simp only at epw
        rw [Bc.h2, epw]
        refine Ev_if (fun c => ?_) (fun c => ?_)
        · have := (n_le (by omega) (by omega)).mp c
          have : i = 2 ^ nh := by omega
          subst this
          rcases hx with ⟨hx, _⟩ | ⟨b0, hx, rfl, rfl⟩
          · rw [hbest] at hx; cases hx
          · rw [hbest] at hx
            have hx := Option.some.inj hx
            have hF : FrT I Il I2 I12 J2 J13 := FrT.st0 ⟨fl', FM.2.1, FM.2.2⟩
            refine Ev_ls (Ev_if (fun c0 => ?_) (fun c0 => ?_))
            · rw [if_pos c0] at ql
              exact Ev_some ⟨_, rfl, ql.trans (by rw [hx]), hF⟩
            · rw [if_neg c0] at ql
              exact Ev_some ⟨_, rfl, ql.trans (by rw [hfal, hx]), hF⟩
        · have hlt : i < 2 ^ nh := Nat.lt_of_not_le (fun h => c ((n_le (by omega) (by omega)).mpr h))
          have hgo : ∀ y z I16 J17, FrT I I (st2 I2 0 2 0) I16 J2 J17 → ((bst ad mn (i + 1) = none ∧ y = -1) ∨ ∃ b0, bst ad mn (i + 1) = some b0 ∧ y = Int32.ofNat b0 ∧ z = Int32.ofNat (mn b0)) → Ev (rec y z (Int32.ofNat i + 1) I16 J17) (fun b => ∃ a, some (vl, Il, Jl) = some a ∧ a.1 = b.1 ∧ FrT I a.2.1 I2 b.2.1 J2 b.2.2) := fun y z I16 J17 hF hy => by
            rw [n_t1]
            refine hrec _ _ _ _ _ ⟨i + 1, by omega, rfl, hF, hy⟩ ?_
            rw [n_toInt (by omega), n_toInt (by omega)]; omega
          refine Ev_gd rfl (Ev_gd rfl (Ev_ls ?_))
          rw [ixc.1, Nc.s2, Nc.d2]
          have hsi := hst i
          have hadi : ad i = decide (Int32.ofNat i &&& (Int32.ofNat su ||| Int32.ofNat dn) = 0) := by rw [had]
          refine Ev_if (fun c0 => ?_) (fun c0 => ?_)
          · rw [decide_eq_true c0] at hadi
            rw [hadi, if_pos rfl] at hsi
            obtain ⟨M3, M', J', su', e1, e32, e3, e4, e5, e6, e7⟩ := hB I12 J13 FM i hlt
            have ho := or_s ⟨dn, N.tw.dl⟩ ⟨i, by omega⟩
            simp only at ho
            rw [e1, bd1_s]
            refine Ev_gd rfl (Ev_gd rfl (Ev_ls ?_))
            rw [ixc.2.1, e32, ho.1, e3, bd2_s]
            refine Ev_gd rfl ?_
            have hmi : mn i = pcn su' 6 := by rw [hmn, e6]
            rw [e4, m_manyOf e5, bd1_s, ← hmi]
            refine Ev_ls ?_
            have q1 := hmn6 i
            rcases hx with ⟨hx, rfl⟩ | ⟨b0, hx, rfl, rfl⟩
            · rw [hx] at hsi
              rw [if_pos (by decide)]
              exact hgo _ _ _ _ e7 (Or.inr ⟨i, hsi, rfl, rfl⟩)
            · rw [hx] at hsi
              have hsi : bst ad mn (i + 1) = if mn b0 < mn i then some b0 else if mn i = mn b0 then (if pcn i 6 < pcn b0 6 then some i else some b0) else some i := hsi
              have hb0 := ((bst_o (ad := ad) (mn := mn) i).2 b0 hx).1
              have q2 := hmn6 b0
              have q3 := pcn_le i 6
              have q4 := pcn_le b0 6
              rw [if_neg (enc_neg (by omega)).2.1]
              refine Ev_if (fun c1 => ?_) (fun c1 => ?_)
              · have c1' := (n_lt (by omega) (by omega)).mp c1
                rw [if_pos c1'] at hsi
                exact hgo _ _ _ _ e7 (Or.inr ⟨b0, hsi, rfl, rfl⟩)
              · have c1' : ¬ mn b0 < mn i := fun h => c1 ((n_lt (by omega) (by omega)).mpr h)
                rw [if_neg c1'] at hsi
                refine Ev_if (fun c2 => ?_) (fun c2 => ?_)
                · have c2' := (n_eq (by omega) (by omega)).mp c2
                  rw [if_pos c2'] at hsi
                  rw [m_manyOf (by omega), bd1_s, m_manyOf (by omega), bd1_s]
                  refine Ev_if (fun c3 => ?_) (fun c3 => ?_)
                  · have c3' := (n_lt (by omega) (by omega)).mp c3
                    rw [if_pos c3'] at hsi
                    exact hgo _ _ _ _ e7 (Or.inr ⟨i, hsi, rfl, rfl⟩)
                  · have c3' : ¬ pcn i 6 < pcn b0 6 := fun h => c3 ((n_lt (by omega) (by omega)).mpr h)
                    rw [if_neg c3'] at hsi
                    exact hgo _ _ _ _ e7 (Or.inr ⟨b0, hsi, rfl, rfl⟩)
                · have c2' : ¬ mn i = mn b0 := fun h => c2 (by rw [h])
                  rw [if_neg c2'] at hsi
                  exact hgo _ _ _ _ e7 (Or.inr ⟨i, hsi, rfl, rfl⟩)
          · rw [decide_eq_false c0] at hadi
            rw [hadi, if_neg (by decide)] at hsi
            refine hgo _ _ _ _ FM ?_
            rw [hsi]; exact hx
  obtain ⟨⟨v, I', J'⟩, ⟨w, M', J2'⟩, e, e', q1, q2⟩ := key
  cases q1
  exact ⟨v, I', J', M', J2', e, e', q2⟩
