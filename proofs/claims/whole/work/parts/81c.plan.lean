/-! works laid on days: the component -/
theorem p_ahead {bk nk nh nw kn n : Nat} {I M Ic : MI} {kd : Nat → Int32} (hbk : bk = 2 ∨ bk = 18) (B : BookR bk I M nk nh nw kn) (P : PlI bk I Ic kd n) {o w : Nat} (ho : o < nw) (hw : w < nw) : f_X5_comesAhead Ic bk (Int32.ofNat o) (Int32.ofNat w) = some (decide (gky (cst bk I) o < gky (cst bk I) w)) := by
  have lw := B.lw
  have c1 := (wk_c B ho).2.2.2.2.2.2
  have c2 := (wk_c B hw).2.2.2.2.2.2
  delta f_X5_comesAhead
  rw [p_cost hbk B P ho, bd1_s, p_cost hbk B P hw, bd1_s]
  simp only [lt]
  have n1 := n_toInt (n := cst bk I o) (by omega)
  have n2 := n_toInt (n := cst bk I w) (by omega)
  have hx : (Int32.ofNat (cst bk I o) - Int32.ofNat (cst bk I w)).toInt = (cst bk I o : Int) - (cst bk I w : Int) := by
    rw [i_sub (by omega) (by omega), n1, n2]
  unfold gky
  by_cases h1 : cst bk I o < cst bk I w
  · rw [if_pos (by rw [Int32.lt_iff_toInt_lt, z0, hx]; omega), decide_eq_true (by omega)]
  · rw [if_neg (by rw [Int32.lt_iff_toInt_lt, z0, hx]; omega)]
    by_cases h2 : cst bk I o = cst bk I w
    · rw [if_pos (Int32.toInt.inj (by rw [hx, z0]; omega))]
      by_cases h3 : w ≤ o
      · rw [if_pos ((n_le (by omega) (by omega)).mpr h3), decide_eq_false (by omega)]
      · rw [if_neg (fun e => h3 ((n_le (by omega) (by omega)).mp e)), decide_eq_true (by omega)]
    · rw [if_neg (fun e => h2 (by rw [e, z0] at hx; omega)), decide_eq_false (by omega)]
theorem p_hasDay {bk nk nh nw kn n : Nat} {I M Ic : MI} {kd : Nat → Int32} (hbk : bk = 2 ∨ bk = 18) (B : BookR bk I M nk nh nw kn) (P : PlI bk I Ic kd n) (hn : n ≤ 8) {w : Nat} (hw : w < nw) : f_X5_hasDay Ic bk (Int32.ofNat n) (Int32.ofNat w) = some (Hw bk I kd n nw 0 0 w) := by
  have lw := B.lw
  have gw : inb (Int32.ofNat w) 6 = true := (n_inb (by omega)).mpr (by omega)
  have hm1 : (-1 : Int32).toInt = -1 := rfl
  have h13 : Ic bk 13 = Int32.ofNat nw := by rw [P.1 bk (by omega)]; exact B.w1
  have hF : fkw kd n 0 (I (bk + 9) w) ≤ n := gS_n n
  apply Ev_eq
  delta f_X5_hasDay
  rw [n_ix (show w < 2147483648 by omega), P.1 (bk + 9) (by omega), h13]
  refine Ev_j1 (fun x1 => x1 = Int32.ofNat (fkw kd n 0 (I (bk + 9) w))) ?_ ?_
  · rintro x1 rfl
    refine Ev_j1 (fun x2 => x2.toInt = (fkw kd n 0 (I (bk + 9) w) : Int) - (grk (I (bk + 9)) (cst bk I) nw 0 (I (bk + 9) w) (gky (cst bk I) w) : Int)) ?_ ?_
    · intro x2 h2
      refine Ev_ls ?_
      unfold Hw
      rw [gH_i (Nat.zero_le _)]
      refine Ev_if (fun c => ?_) (fun c => ?_)
      · rw [Int32.le_iff_toInt_le, z0, h2] at c
        exact Ev_some (decide_eq_false (by omega)).symm
      · rw [Int32.le_iff_toInt_le, z0, h2] at c
        exact Ev_some (decide_eq_true (by omega)).symm
    · intro j hj
      obtain ⟨q, hq⟩ : ∃ q : Nat → Bool, q = fun o => decide (0 ≤ o) && (decide (I (bk + 9) o = I (bk + 9) w) && decide (gky (cst bk I) o < gky (cst bk I) w)) := ⟨_, rfl⟩
      refine Ev_fix2 (fun x4 x5 => ∃ o, o ≤ nw ∧ x5 = Int32.ofNat o ∧ x4.toInt = (fkw kd n 0 (I (bk + 9) w) : Int) - (gS q (fun _ => 1) o : Int)) (fun _ x5 => (80 - x5.toInt).toNat) ?_ FU _ _ (FU_lt (by decide)) ⟨0, by omega, rfl, by rw [n_toInt (by omega)]; show _ = _ - ((0 : Nat) : Int); omega⟩
      rintro rec x4 x5 ⟨o, ho, rfl, h4⟩ hrec
      refine Ev_if (fun c => ?_) (fun c => ?_)
      · have := (n_le (by omega) (by omega)).mp c
        have : o = nw := by omega
        subst this
        refine hj _ ?_
        unfold grk
        rw [h4, hq]
      · have hlt : o < nw := Nat.lt_of_not_le (fun h => c ((n_le (by omega) (by omega)).mpr h))
        have hqn : gS q (fun _ => 1) o ≤ o := gS_n o
        have es := gS_s q (fun _ => 1) o
        refine Ev_gd ((n_inb (by omega)).mpr (by omega)) (Ev_gd gw ?_)
        rw [n_ix (by omega)]
        refine Ev_j1 (fun x6 => x6.toInt = (fkw kd n 0 (I (bk + 9) w) : Int) - (gS q (fun _ => 1) (o + 1) : Int)) ?_ ?_
        · intro x6 h6
          refine Ev_ls ?_
          rw [n_t1]
          refine hrec _ _ ⟨o + 1, by omega, rfl, h6⟩ ?_
          rw [n_toInt (by omega), n_toInt (by omega)]; omega
        · intro j' hj'
          have hno : q o = false → Ev (j' x4) (fun a => a = Hw bk I kd n nw 0 0 w) := fun h => by
            rw [h, if_neg (by decide), Nat.add_zero] at es
            exact hj' _ (by rw [es]; exact h4)
          refine Ev_if (fun c1 => ?_) (fun c1 => ?_)
          · rw [p_ahead hbk B P hlt hw, bd1_s]
            refine Ev_if (fun c2 => ?_) (fun c2 => ?_)
            · have h : q o = true := by rw [hq]; exact b3_t.mpr ⟨Nat.zero_le _, c1, of_decide_eq_true c2⟩
              rw [h, if_pos rfl] at es
              refine Ev_ls (hj' _ ?_)
              rw [i_add (by omega) (by omega), hm1, h4, es]; omega
            · refine hno ?_
              rw [hq]; exact b3_f (fun x => c2 (decide_eq_true x.2.2))
          · refine hno ?_
            rw [hq]; exact b3_f (fun x => c1 x.2.1)
  · intro j hj
    obtain ⟨q, hq⟩ : ∃ q : Nat → Bool, q = fun d => !(0 : Nat).testBit d && decide (kd d = I (bk + 9) w) := ⟨_, rfl⟩
    refine Ev_fix2 (fun x10 x11 => ∃ d, d ≤ n ∧ x11 = Int32.ofNat d ∧ x10 = Int32.ofNat (gS q (fun _ => 1) d)) (fun _ x11 => (80 - x11.toInt).toNat) ?_ FU _ _ (FU_lt (by decide)) ⟨0, by omega, rfl, rfl⟩
    rintro rec x10 x11 ⟨d, hd, rfl, rfl⟩ hrec
    refine Ev_if (fun c => ?_) (fun c => ?_)
    · have := (n_le (by omega) (by omega)).mp c
      have : d = n := by omega
      subst this
      refine hj _ ?_
      unfold fkw
      rw [hq]
    · have hlt : d < n := Nat.lt_of_not_le (fun h => c ((n_le (by omega) (by omega)).mpr h))
      have es := gS_s q (fun _ => 1) d
      have hqd : q d = decide (kd d = I (bk + 9) w) := by rw [hq]; dsimp only; rw [Nat.zero_testBit]; rfl
      refine Ev_gd ((n_inb (by omega)).mpr (by omega)) (Ev_gd gw ?_)
      rw [n_ix (by omega), P.2 d hlt]
      refine Ev_j1 (fun x12 => x12 = Int32.ofNat (gS q (fun _ => 1) (d + 1))) ?_ ?_
      · rintro x12 rfl
        refine Ev_ls ?_
        rw [n_t1]
        refine hrec _ _ ⟨d + 1, by omega, rfl, rfl⟩ ?_
        rw [n_toInt (by omega), n_toInt (by omega)]; omega
      · intro j' hj'
        refine Ev_if (fun c1 => ?_) (fun c1 => ?_)
        · rw [hqd, decide_eq_true c1, if_pos rfl] at es
          refine Ev_ls (hj' _ ?_)
          rw [n_t1, es]
        · rw [hqd, decide_eq_false c1, if_neg (by decide), Nat.add_zero] at es
          exact hj' _ (by rw [es]; rfl)
theorem p_firstFree {bk nk nh nw kn n : Nat} {I M Ic : MI} {kd : Nat → Int32} (hbk : bk = 2 ∨ bk = 18) (B : BookR bk I M nk nh nw kn) (P : PlI bk I Ic kd n) (hn : n ≤ 8) {w t : Nat} (hw : w < nw) (ht : t < 256) : f_X5_firstFree Ic bk (Int32.ofNat n) (Int32.ofNat w) (Int32.ofNat t) = some (e2 (fd (fun d => frw bk I kd n w d t) 8 0)) := by
  have lw := B.lw
  obtain ⟨q, hq⟩ : ∃ q : Nat → Bool, q = fun d => frw bk I kd n w d t := ⟨_, rfl⟩
  have hqd : ∀ d, q d = frw bk I kd n w d t := fun d => by rw [hq]
  have hfg : fd q 8 0 = fd q n 0 := by
    have := fd_ge (q := q) 8 0 n (fun e he => by rw [hqd]; unfold frw; rw [decide_eq_false (by omega)]; rfl) (by omega) (by omega)
    rw [this, Nat.sub_zero]
  apply Ev_eq
  delta f_X5_firstFree
  rw [← hq, hfg]
  refine Ev_fix1 (fun x1 => ∃ d, d ≤ n ∧ x1 = Int32.ofNat d ∧ fd q n 0 = fd q (n - d) d) (fun x1 => (80 - x1.toInt).toNat) ?_ FU _ (FU_lt (by decide)) ⟨0, by omega, rfl, rfl⟩
  rintro rec x1 ⟨d, hd, rfl, k3⟩ hrec
  refine Ev_if (fun c => ?_) (fun c => ?_)
  · have := (n_le (by omega) (by omega)).mp c
    have : d = n := by omega
    subst this
    rw [k3, Nat.sub_self]
    exact Ev_some rfl
  · have hlt : d < n := Nat.lt_of_not_le (fun h => c ((n_le (by omega) (by omega)).mpr h))
    have hfs : fd q (n - d) d = if q d then some d else fd q (n - (d + 1)) (d + 1) := by
      rw [show n - d = (n - (d + 1)) + 1 by omega]; rfl
    have hno : q d = false → Ev (lt (Int32.ofNat d + 1) (fun x3 => rec x3)) (fun a => a = e2 (fd q n 0)) := fun h => by
      refine Ev_ls ?_
      rw [n_t1]
      refine hrec _ ⟨d + 1, by omega, rfl, ?_⟩ ?_
      · rw [k3, hfs, h]; rfl
      · rw [n_toInt (by omega), n_toInt (by omega)]; omega
    rw [am_is, (b8 ⟨t, ht⟩ ⟨d, by omega⟩).1, bd1_s]
    refine Ev_ls ?_
    have hfr : q d = (decide (d < n) && (!t.testBit d && decide (kd d = I (bk + 9) w))) := hqd d
    rw [decide_eq_true hlt, Bool.true_and] at hfr
    cases hb : t.testBit d with
    | true =>
      rw [hb] at hfr
      exact hno hfr
    | false =>
      rw [hb, Bool.not_false, Bool.true_and] at hfr
      rw [if_neg (by decide)]
      refine Ev_gd ((n_inb (by omega)).mpr (by omega)) (Ev_gd ((n_inb (by omega)).mpr (by omega)) ?_)
      rw [n_ix (by omega), n_ix (by omega), P.2 d hlt, P.1 (bk + 9) (by omega)]
      refine Ev_if (fun c1 => ?_) (fun c1 => ?_)
      · rw [decide_eq_true c1] at hfr
        rw [k3, hfs, hfr]
        exact Ev_some rfl
      · rw [decide_eq_false c1] at hfr
        exact hno hfr
theorem p_lay {bk nk nh nw kn n : Nat} {I M Ic : MI} {kd : Nat → Int32} (hbk : bk = 2 ∨ bk = 18) (B : BookR bk I M nk nh nw kn) (P : PlI bk I Ic kd n) (hn : n ≤ 8) : Ev (f_X5_lay Ic bk (Int32.ofNat n)) (fun I' => (∀ p, ¬ (76 ≤ p ∧ p < 80) → I' p = I p) ∧ I' 76 2 = Int32.ofNat (Vw bk I kd n nw 0 0).1 ∧ I' 76 3 = Int32.ofNat (Vw bk I kd n nw 0 0).2 ∧ ∀ w, w < nw → I' 78 w = e2 (gd8 bk I kd n nw w (tkn (gd8 bk I kd n nw) w))) := by
  have lw := B.lw
  have hp8 : 2 ^ n ≤ 256 := Nat.pow_le_pow_right (n := 2) (by decide) hn
  delta f_X5_lay
  refine Ev_ls (Ev_ls ?_)
  refine Ev_fix3 (fun x3 x4 I5 => ∃ w a b, w ≤ nw ∧ x4 = Int32.ofNat w ∧ x3 = Int32.ofNat (tkn (gd8 bk I kd n nw) w) ∧ (∀ p, ¬ (p = 76 ∨ p = 78) → I5 p = Ic p) ∧ I5 76 2 = Int32.ofNat a ∧ I5 76 3 = Int32.ofNat b ∧ a + (Vw bk I kd n nw w (tkn (gd8 bk I kd n nw) w)).1 = (Vw bk I kd n nw 0 0).1 ∧ b + (Vw bk I kd n nw w (tkn (gd8 bk I kd n nw) w)).2 = (Vw bk I kd n nw 0 0).2 ∧ ∀ v, v < w → I5 78 v = e2 (gd8 bk I kd n nw v (tkn (gd8 bk I kd n nw) v))) (fun _ x4 _ => (80 - x4.toInt).toNat) ?_ FU _ _ _ (FU_lt (by decide)) ⟨0, 0, 0, by omega, rfl, rfl, fun p hp => by rw [st2_ne (by omega), st2_ne (by omega)], by rw [s2x (by omega), st2_at, if_pos rfl]; rfl, by rw [st2_at, if_pos rfl]; rfl, Nat.zero_add _, Nat.zero_add _, fun v hv => absurd hv (by omega)⟩
  rintro rec x3 x4 I5 ⟨w, a, b, hw, rfl, rfl, g1, g2, g3, g4, g5, g6⟩ hrec
  have hI5 : ∀ p, ¬ (76 ≤ p ∧ p < 80) → I5 p = I p := fun p hp => by rw [g1 p (by omega)]; exact P.1 p hp
  have h13 : I5 bk 13 = Int32.ofNat nw := by rw [hI5 bk (by omega)]; exact B.w1
  rw [h13]
  refine Ev_if (fun c => ?_) (fun c => ?_)
  · have := (n_le (by omega) (by omega)).mp c
    have : w = nw := by omega
    subst this
    have hz : ∀ s, Vw bk I kd n w w s = (0, 0) := fun s => by unfold Vw; rw [Nat.sub_self]; rfl
    rw [hz] at g4 g5
    refine Ev_some ⟨hI5, ?_, ?_, g6⟩
    · rw [g2]; congr 1
    · rw [g3]; congr 1
  · have hlt : w < nw := Nat.lt_of_not_le (fun h => c ((n_le (by omega) (by omega)).mpr h))
    have ht := tkn_lt (bk := bk) (I := I) (kd := kd) (nw := nw) hn w (by omega)
    have et : tkn (gd8 bk I kd n nw) (w + 1) = (match gd8 bk I kd n nw w (tkn (gd8 bk I kd n nw) w) with | none => tkn (gd8 bk I kd n nw) w | some d => tkn (gd8 bk I kd n nw) w ||| 2 ^ d) := rfl
    have hgc := gd8_c (bk := bk) (I := I) (kd := kd) (n := n) (t := tkn (gd8 bk I kd n nw) w) hlt
    have hG := gd8_G (bk := bk) (I := I) (kd := kd) (n := n) (nw := nw) (w := w) (t := tkn (gd8 bk I kd n nw) w) hn (by omega) hlt
    rw [tkn_H hn (by omega) w w (Nat.le_refl _) hlt] at hG
    obtain ⟨t, htt⟩ : ∃ t, t = tkn (gd8 bk I kd n nw) w := ⟨_, rfl⟩
    rw [← htt] at ht et hgc g4 g5 hG ⊢
    have gw : inb (Int32.ofNat w) 6 = true := (n_inb (by omega)).mpr (by omega)
    have P5 : PlI bk I I5 kd n := ⟨hI5, fun e he => by rw [g1 77 (by omega)]; exact P.2 e he⟩
    rw [p_hasDay hbk B P5 hn hlt, bd1_s]
    refine Ev_j2 (fun x7 x8 => x7 = e2 (gd8 bk I kd n nw w t) ∧ x8 = Int32.ofNat w) ?_ ?_
    · rintro x7 x8 ⟨rfl, rfl⟩
      refine Ev_gd gw (Ev_ls (Ev_gd gw (Ev_ls ?_)))
      rw [n_ix (show w < 2147483648 by omega)]
      obtain ⟨I7, hI7⟩ : ∃ A, A = st2 I5 78 w (e2 (gd8 bk I kd n nw w t)) := ⟨_, rfl⟩
      rw [← hI7]
      have k1 : ∀ p k, ¬ (p = 78 ∧ k = w) → I7 p k = I5 p k := fun p k h => by rw [hI7]; exact s2x h
      have k2 : I7 78 w = e2 (gd8 bk I kd n nw w t) := by rw [hI7, st2_at, if_pos rfl]
      rw [k2]
      have hrow : ∀ p, p ≠ 78 → I7 p = I5 p := fun p h => funext (fun k => k1 p k (fun e => h e.1))
      rcases hgc with ⟨q1, q2⟩ | ⟨d, q1, q0, q3, q2⟩
      · rw [q1] at et k2 ⊢
        rw [if_pos (by rfl)]
        refine Ev_ls ?_
        rw [n_t1]
        refine hrec _ _ _ ⟨w + 1, a, b, by omega, rfl, by rw [et], fun p hp => by rw [hrow p (by omega)]; exact g1 p hp, by rw [hrow 76 (by omega)]; exact g2, by rw [hrow 76 (by omega)]; exact g3, by rw [et, ← q2]; exact g4, by rw [et, ← q2]; exact g5, fun v hv => ?_⟩ ?_
        · by_cases e : v = w
          · rw [e, ← htt, q1]; exact k2
          · rw [k1 78 v (by omega)]; exact g6 v (by omega)
        · rw [n_toInt (by omega), n_toInt (by omega)]; omega
      · rw [q1] at et k2 ⊢
        have et : tkn (gd8 bk I kd n nw) (w + 1) = t ||| 2 ^ d := et
        have h8 := b8 ⟨t, by omega⟩ ⟨d, q0⟩
        simp only at h8
        rw [show e2 (some d) = Int32.ofNat d from rfl, if_neg (enc_neg (by omega)).1]
        refine Ev_gd gw (Ev_ls (Ev_ls ?_))
        have P12 : PlI bk I (st2 I7 76 2 (I7 76 2 + 1)) kd n := ⟨fun p hp => by rw [st2_ne (by omega), hrow p (by omega)]; exact hI5 p hp, fun e he => by rw [st2_ne (by omega), hrow 77 (by omega), g1 77 (by omega)]; exact P.2 e he⟩
        rw [p_cost hbk B P12 hlt, bd1_s]
        refine Ev_ls (Ev_ls ?_)
        have e76 : I7 76 2 = Int32.ofNat a := by rw [hrow 76 (by omega)]; exact g2
        have e764 : st2 I7 76 2 (I7 76 2 + 1) 76 3 = Int32.ofNat b := by rw [s2x (by omega), hrow 76 (by omega)]; exact g3
        rw [e764, e76, n_t1 a, n_add, h8.2.1, n_t1 w]
        rw [q2] at g4 g5
        unfold cdw at g4 g5
        dsimp only at g4 g5
        refine hrec _ _ _ ⟨w + 1, a + 1, b + cst bk I w, by omega, rfl, by rw [et], fun p hp => by rw [st2_ne (by omega), st2_ne (by omega), hrow p (by omega)]; exact g1 p hp, by rw [s2x (by omega), st2_at, if_pos rfl], by rw [st2_at, if_pos rfl], by rw [et]; omega, by rw [et]; omega, fun v hv => ?_⟩ ?_
        · rw [st2_ne (by omega), st2_ne (by omega)]
          by_cases e : v = w
          · rw [e, ← htt, q1]; exact k2
          · rw [k1 78 v (by omega)]; exact g6 v (by omega)
        · rw [n_toInt (by omega), n_toInt (by omega)]; omega
    · intro j hj
      refine Ev_if (fun c1 => ?_) (fun c1 => ?_)
      · rw [p_firstFree hbk B P5 hn hlt (show t < 256 by omega), bd1_s]
        exact hj _ _ ⟨by rw [hG, if_pos c1], rfl⟩
      · exact hj _ _ ⟨by rw [hG, if_neg c1]; rfl, rfl⟩
