/-! works laid on days: the model's choice, and the call -/
def e1 : Option Nat → Int32
  | none => -1
  | some d => Int32.ofNat d
theorem m_dayFor {bk n nk nh nw kn : Nat} {I M Mc : MI} {kd : Nat → Int32} (P : PlM bk I M Mc kd n nk nh nw kn) (hn : n ≤ 8) (hT : ∀ w s, w ≤ nw → s < 256 → TbM bk I Mc kd n nw w s) {w t : Nat} (hw : w < nw) (ht : t < 256) : f_X11_dayFor Mc (Int32.ofNat w) (Int32.ofNat t) = some (e1 (gd8 bk I kd n nw w t)) := by
  have lw := P.bo.lw
  apply Ev_eq
  delta f_X11_dayFor
  rw [n_w5]
  refine Ev_ls ?_
  obtain ⟨x, hxx⟩ : ∃ x, x = 256 * w + t := ⟨_, rfl⟩
  rw [← hxx]
  have gx : inb (Int32.ofNat x) 1792 = true := (n_inb (by omega)).mpr (by omega)
  have htx := hT w t (by omega) ht
  unfold TbM at htx
  rw [← hxx] at htx
  refine Ev_fix1 (fun x2 => ∃ d, d ≤ 8 ∧ x2 = Int32.ofNat d ∧ gd8 bk I kd n nw w t = fd (gq bk I kd n nw w t) (8 - d) d) (fun x2 => (80 - x2.toInt).toNat) ?_ FU _ (FU_lt (by decide)) ⟨0, by omega, rfl, rfl⟩
  rintro rec x2 ⟨d, hd, rfl, k3⟩ hrec
  refine Ev_if (fun c => ?_) (fun c => ?_)
  · have := (n_le (a := 8) (by omega) (by omega)).mp c
    have : d = 8 := by omega
    subst this
    rw [k3]
    exact Ev_some rfl
  · have hdl : d < 8 := Nat.lt_of_not_le (fun h => c ((n_le (a := 8) (by omega) (by omega)).mpr h))
    have h8 := b8 ⟨t, ht⟩ ⟨d, hdl⟩
    simp only at h8
    have hfs : fd (gq bk I kd n nw w t) (8 - d) d = if gq bk I kd n nw w t d then some d else fd (gq bk I kd n nw w t) (8 - (d + 1)) (d + 1) := by
      rw [show 8 - d = (8 - (d + 1)) + 1 by omega]; rfl
    have hno : gq bk I kd n nw w t d = false → Ev (lt (Int32.ofNat d + 1) (fun x4 => rec x4)) (fun a => a = e1 (gd8 bk I kd n nw w t)) := fun hq => by
      refine Ev_ls ?_
      rw [n_t1]
      refine hrec _ ⟨d + 1, by omega, rfl, ?_⟩ ?_
      · rw [k3, hfs, hq]; rfl
      · rw [n_toInt (by omega), n_toInt (by omega)]; omega
    rw [h8.1, bd1_s]
    refine Ev_ls ?_
    have hfr : frw bk I kd n w d t = (decide (d < n) && (!t.testBit d && decide (kd d = I (bk + 9) w))) := rfl
    cases hbit : t.testBit d with
    | true =>
      rw [hbit, Bool.not_true, Bool.false_and, Bool.and_false] at hfr
      exact hno (by unfold gq; rw [hfr]; rfl)
    | false =>
      rw [hbit, Bool.not_false, Bool.true_and] at hfr
      rw [if_neg (by decide), m_suits P hn hw hdl, bd1_s, ← hfr]
      cases hf : frw bk I kd n w d t with
      | false => exact hno (by unfold gq; rw [hf]; rfl)
      | true =>
        rw [if_pos rfl, h8.2.1, n_w6]
        obtain ⟨y, hy⟩ : ∃ y, y = 256 * (w + 1) + (t ||| 2 ^ d) := ⟨_, rfl⟩
        have h256 := h8.2.2
        rw [← hy]
        refine Ev_ls ?_
        have gy : inb (Int32.ofNat y) 1792 = true := (n_inb (by omega)).mpr (by omega)
        have hty := hT (w + 1) (t ||| 2 ^ d) (by omega) h256
        unfold TbM at hty
        rw [← hy] at hty
        refine Ev_gd gy (Ev_gd gx ?_)
        rw [n_ix (show y < 2147483648 by omega), n_ix (show x < 2147483648 by omega), m_costOf P hw, bd1_s, hty.1, hty.2, htx.1, htx.2, n_add, n_t1]
        have o1 := Vw_ok (kd := kd) (n := n) P.bo w t
        have o2 := (cdw_ok (kd := kd) (n := n) P.bo hw t d).1
        have hcd : cdw bk I kd n nw w t d = ((Vw bk I kd n nw (w + 1) (t ||| 2 ^ d)).1 + 1, (Vw bk I kd n nw (w + 1) (t ||| 2 ^ d)).2 + cst bk I w) := rfl
        obtain ⟨c1, hc1e⟩ : ∃ c, c = (Vw bk I kd n nw (w + 1) (t ||| 2 ^ d)).1 + 1 := ⟨_, rfl⟩
        obtain ⟨c2, hc2e⟩ : ∃ c, c = (Vw bk I kd n nw (w + 1) (t ||| 2 ^ d)).2 + cst bk I w := ⟨_, rfl⟩
        rw [← hc1e, ← hc2e] at hcd ⊢
        obtain ⟨V, hV⟩ : ∃ V, V = Vw bk I kd n nw w t := ⟨_, rfl⟩
        have hqe : gq bk I kd n nw w t d = decide ((c1, c2) = V) := by unfold gq; rw [hf, hcd, hV]; rfl
        rw [hcd] at o2
        rw [← hV] at o1 ⊢
        unfold okp at o1 o2
        dsimp only at o2
        refine Ev_if (fun b1 => ?_) (fun b1 => ?_)
        · have b1' := (n_eq (by omega) (by omega)).mp b1
          refine Ev_gd gy (Ev_gd gx (Ev_if (fun b2 => ?_) (fun b2 => ?_)))
          · have b2' := (n_eq (by omega) (by omega)).mp b2
            have hq : gq bk I kd n nw w t d = true := by rw [hqe]; exact decide_eq_true (Prod.ext b1' b2')
            rw [k3, hfs, hq]
            exact Ev_some rfl
          · exact hno (by rw [hqe]; exact decide_eq_false (fun e => b2 (by rw [← e])))
        · exact hno (by rw [hqe]; exact decide_eq_false (fun e => b1 (by rw [← e])))
theorem TownR.fr {I I' M M' : MI} {J2 J2' : MJ} {nk nh su dn dy : Nat} (W : TownR I M J2 nk nh su dn dy) (hI : ∀ p, 38 ≤ p → p < 46 → I' p = I p) (hM : ∀ p, 26 ≤ p → p < 36 → M' p = M p) : TownR I' M' J2' nk nh su dn dy := by
  unfold TownR at W ⊢
  rw [hI 38 (by decide) (by decide), hI 39 (by decide) (by decide), hI 40 (by decide) (by decide), hI 41 (by decide) (by decide), hI 42 (by decide) (by decide), hI 43 (by decide) (by decide), hI 44 (by decide) (by decide), hI 45 (by decide) (by decide), hM 26 (by decide) (by decide), hM 27 (by decide) (by decide), hM 28 (by decide) (by decide), hM 29 (by decide) (by decide), hM 30 (by decide) (by decide), hM 31 (by decide) (by decide), hM 32 (by decide) (by decide), hM 33 (by decide) (by decide), hM 34 (by decide) (by decide), hM 35 (by decide) (by decide)]
  exact W
def FrPl (I I' M M' : MI) : Prop := (∀ p, ¬ (76 ≤ p ∧ p < 80) → I' p = I p) ∧ (∀ p k, p ≠ 36 → p ≠ 37 → ¬ (p = 0 ∧ (k = 2 ∨ k = 69)) → M' p k = M p k)
theorem kd_i {bk nk nh nw kn nd su dn dy : Nat} {I I2 : MI} {J2 : MJ} {kd : Nat → Int32} (hbk : bk = 2 ∨ bk = 18) (B : BookR bk I I2 nk nh nw kn) (D : DayR bk I I2 nk nd) (W : TownR I I2 J2 nk nh su dn dy) (hkd : ∀ d, d ≤ 200 → f_X11_weatherIn I2 (Int32.ofNat d) = some (kd d)) {I' : MI} (h : ∀ p, ¬ (76 ≤ p ∧ p < 80) → I' p = I p) {d : Nat} (hd : d ≤ 200) : f_X10_kindIn bk I' (Int32.ofNat d) = some (kd d) := by
  have B' : BookR bk I' I2 nk nh nw kn := B.fr (fun p _ _ => h p (by omega)) (fun _ _ _ => rfl) (fun _ _ _ => rfl)
  have D' : DayR bk I' I2 nk nd := D.fr (fun p _ _ => h p (by omega)) (fun _ _ _ => rfl) (fun _ _ _ => rfl)
  have W' : TownR I' I2 J2 nk nh su dn dy := W.fr (fun p _ _ => h p (by omega)) (fun _ _ _ => rfl)
  obtain ⟨v, e1, e2, _⟩ := c_kindIn B' D' W' hd
  rw [e1, ← e2, hkd d hd]
theorem kd_m {bk nk nh nw kn nd su dn dy : Nat} {I I2 : MI} {J2 : MJ} {kd : Nat → Int32} (hbk : bk = 2 ∨ bk = 18) (B : BookR bk I I2 nk nh nw kn) (D : DayR bk I I2 nk nd) (W : TownR I I2 J2 nk nh su dn dy) (hkd : ∀ d, d ≤ 200 → f_X11_weatherIn I2 (Int32.ofNat d) = some (kd d)) {M' : MI} (h : ∀ p k, p ≠ 36 → p ≠ 37 → ¬ (p = 0 ∧ (k = 2 ∨ k = 69)) → M' p k = I2 p k) {d : Nat} (hd : d ≤ 200) : f_X11_weatherIn M' (Int32.ofNat d) = some (kd d) := by
  have hr : ∀ p, p ≠ 0 → p ≠ 36 → p ≠ 37 → M' p = I2 p := fun p a b c => funext (fun k => h p k b c (by omega))
  have B' : BookR bk I M' nk nh nw kn := B.fr (fun _ _ _ => rfl) (fun p _ _ => hr p (by omega) (by omega) (by omega)) (fun k _ _ => h 0 k (by omega) (by omega) (by omega))
  have D' : DayR bk I M' nk nd := D.fr (fun _ _ _ => rfl) (fun p _ _ => hr p (by omega) (by omega) (by omega)) (fun k _ _ => h 0 k (by omega) (by omega) (by omega))
  have W' : TownR I M' J2 nk nh su dn dy := W.fr (fun _ _ _ => rfl) (fun p _ _ => hr p (by omega) (by omega) (by omega))
  obtain ⟨v, e1, e2, _⟩ := c_kindIn B' D' W' hd
  rw [e2, ← e1, kd_i hbk B D W hkd (fun _ _ => rfl) hd]
def anw (bk : Nat) (I : MI) (kd : Nat → Int32) (n nw w : Nat) : Int32 := if w = 6 then Int32.ofNat (Vw bk I kd n nw 0 0).1 else if w = 7 then Int32.ofNat (Vw bk I kd n nw 0 0).2 else if nw ≤ w then -2 else e2 (gd8 bk I kd n nw w (tkn (gd8 bk I kd n nw) w))
theorem in_8 : ∀ n : Fin 9, f_X10_isWithin (Int32.ofNat n.1) 0 8 = some true ∧ f_X11_isIn (Int32.ofNat n.1) 0 8 = some true := by decide +kernel
theorem in_7 : ∀ n : Fin 8, f_X10_isWithin (Int32.ofNat n.1) 0 7 = some true ∧ f_X11_isIn (Int32.ofNat n.1) 0 7 = some true := by decide +kernel
theorem p_planX {bk nk nh nw kn nd su dn dy : Nat} {I I2 : MI} {J2 : MJ} {kd : Nat → Int32} (hbk : bk = 2 ∨ bk = 18) (B : BookR bk I I2 nk nh nw kn) (D : DayR bk I I2 nk nd) (W : TownR I I2 J2 nk nh su dn dy) (hkd : ∀ d, d ≤ 200 → f_X11_weatherIn I2 (Int32.ofNat d) = some (kd d)) {n w : Nat} (hn : n ≤ 8) (hw : w ≤ 7) : Ev (f_X10_plan bk I (Int32.ofNat n) (Int32.ofNat w)) (fun r => r.1 = anw bk I kd n nw w ∧ ∀ p, ¬ (76 ≤ p ∧ p < 80) → r.2 p = I p) := by
  have lw := B.lw
  delta f_X10_plan
  rw [(in_8 ⟨n, by omega⟩).1, (in_7 ⟨w, by omega⟩).1, bd1_s]
  refine Ev_ls ?_
  rw [if_pos rfl, bd1_s, if_pos rfl]
  refine Ev_j1 (fun I3 => PlI bk I I3 kd n) ?_ ?_
  · intro I3 h3
    refine Ev_bd1 (p_lay hbk B h3 hn) ?_
    rintro I4 ⟨g1, g2, g3, g4⟩
    unfold anw
    refine Ev_if (fun c => ?_) (fun c => ?_)
    · have c := (n_eq (b := 6) (by omega) (by omega)).mp c
      rw [if_pos c]
      exact Ev_some ⟨g2, g1⟩
    · rw [if_neg (show ¬ w = 6 from fun e => c (by rw [e]; rfl))]
      refine Ev_if (fun c => ?_) (fun c => ?_)
      · have c := (n_eq (b := 7) (by omega) (by omega)).mp c
        rw [if_pos c]
        exact Ev_some ⟨g3, g1⟩
      · rw [if_neg (show ¬ w = 7 from fun e => c (by rw [e]; rfl))]
        refine Ev_ls ?_
        rw [show I4 bk 13 = Int32.ofNat nw by rw [g1 bk (by omega)]; exact B.w1]
        refine Ev_if (fun c => ?_) (fun c => ?_)
        · rw [if_pos ((n_le (by omega) (by omega)).mp c)]
          exact Ev_some ⟨rfl, g1⟩
        · have hlt : w < nw := Nat.lt_of_not_le (fun h => c ((n_le (by omega) (by omega)).mpr h))
          rw [if_neg (by omega), n_ix (by omega)]
          refine Ev_gd ((n_inb (by omega)).mpr (by omega)) (Ev_some ⟨g4 w hlt, g1⟩)
  · intro j hj
    refine Ev_fix2 (fun x6 I7 => ∃ d, d ≤ n ∧ x6 = Int32.ofNat d ∧ (∀ p, p ≠ 77 → I7 p = I p) ∧ ∀ e, e < d → I7 77 e = kd e) (fun x6 _ => (80 - x6.toInt).toNat) ?_ FU _ _ (FU_lt (by decide)) ⟨0, by omega, rfl, fun _ _ => rfl, fun e he => absurd he (by omega)⟩
    rintro rec x6 I7 ⟨d, hd, rfl, g1, g2⟩ hrec
    refine Ev_if (fun c => ?_) (fun c => ?_)
    · have := (n_le (by omega) (by omega)).mp c
      exact hj _ ⟨fun p hp => g1 p (by omega), fun e he => g2 e (by omega)⟩
    · have hlt : d < n := Nat.lt_of_not_le (fun h => c ((n_le (by omega) (by omega)).mpr h))
      rw [kd_i hbk B D W hkd (fun p hp => g1 p (by omega)) (show d ≤ 200 by omega), bd1_s]
      refine Ev_gd ((n_inb (by omega)).mpr (by omega)) (Ev_ls (Ev_ls ?_))
      rw [n_ix (by omega), n_t1]
      refine hrec _ _ ⟨d + 1, by omega, rfl, fun p hp => by rw [st2_ne hp]; exact g1 p hp, fun e he => ?_⟩ ?_
      · by_cases c : e = d
        · rw [c, st2_at, if_pos rfl]
        · rw [s2x (by omega)]; exact g2 e (by omega)
      · rw [n_toInt (by omega), n_toInt (by omega)]; omega
theorem m_planX {bk nk nh nw kn nd su dn dy : Nat} {I I2 : MI} {J2 : MJ} {kd : Nat → Int32} (hbk : bk = 2 ∨ bk = 18) (B : BookR bk I I2 nk nh nw kn) (D : DayR bk I I2 nk nd) (W : TownR I I2 J2 nk nh su dn dy) (hkd : ∀ d, d ≤ 200 → f_X11_weatherIn I2 (Int32.ofNat d) = some (kd d)) {n w : Nat} (hn : n ≤ 8) (hw : w ≤ 7) : Ev (f_X11_plan I2 (Int32.ofNat n) (Int32.ofNat w)) (fun r => r.1 = anw bk I kd n nw w ∧ ∀ p k, p ≠ 36 → p ≠ 37 → ¬ (p = 0 ∧ (k = 2 ∨ k = 69)) → r.2 p k = I2 p k) := by
  have lw := B.lw
  delta f_X11_plan
  refine Ev_ls ?_
  rw [(in_8 ⟨n, by omega⟩).2, (in_7 ⟨w, by omega⟩).2, bd1_s]
  refine Ev_ls ?_
  rw [if_pos rfl, bd1_s, if_pos rfl]
  have h15 : st2 I2 0 2 0 0 15 = Int32.ofNat nw := by rw [s2x (by omega)]; exact B.w2
  obtain ⟨M, hM⟩ : ∃ A, A = st2 (st2 I2 0 2 0) 0 69 (Int32.ofNat n) := ⟨_, rfl⟩
  have hMf : ∀ p k, ¬ (p = 0 ∧ (k = 2 ∨ k = 69)) → M p k = I2 p k := fun p k h => by rw [hM, s2x (by omega), s2x (by omega)]
  have hMr : ∀ p, p ≠ 0 → M p = I2 p := fun p a => funext (fun k => hMf p k (by omega))
  have P : PlM bk I M M kd n nk nh nw kn := ⟨fun _ _ _ _ => rfl, B.fr (fun _ _ _ => rfl) (fun p _ _ => hMr p (by omega)) (fun k _ _ => hMf 0 k (by omega)), by rw [hM, st2_at, if_pos rfl], fun Mx hx d hd => kd_m hbk B D W hkd (fun p k a b c => (hx p k a b).trans (hMf p k c)) (by omega)⟩
  have hin : (6 ≤ w ∨ w < nw) → Ev (lt (st2 (st2 I2 0 2 0) 0 69 (Int32.ofNat n)) (fun I4 => bd1 (f_X11_layPlan I4) (fun I5 => if (Int32.ofNat w) ≤ (5 : Int32) then (lt (fun (x6 : Int32) => bd1 (f_X11_dayFor I5 (Int32.ofNat w) x6) (fun x7 => lt (fun (x8 : Int32) => some (x8, I5)) (fun j142 => if (0 : Int32) ≤ x7 then (j142 x7) else (j142 (-2 : Int32))))) (fun j122 => fix2 (fun (r85 : Int32 → Int32 → Option (Int32 × MI)) (x9 : Int32) (x10 : Int32) => if (Int32.ofNat w) ≤ x10 then (j122 x9) else (bd1 (f_X11_dayFor I5 x10 x9) (fun x11 => lt (fun (x12 : Int32) (x13 : Int32) => lt (x13 ||| x12) (fun x14 => lt (x10 + (1 : Int32)) (fun x15 => r85 x14 x15))) (fun j114 => if (0 : Int32) ≤ x11 then (j114 ((1 : Int32) <<< (x11 &&& (31 : Int32))) x9) else (j114 (0 : Int32) x9))))) FU (0 : Int32) (0 : Int32))) else (lt (fun (x16 : Int32) => some (x16, I5)) (fun j79 => if (Int32.ofNat w) = (6 : Int32) then (gd (inb (0 : Int32) 1792) (j79 (I5 36 (ix (0 : Int32))))) else (gd (inb (0 : Int32) 1792) (j79 (I5 37 (ix (0 : Int32)))))))))) (fun r => r.1 = anw bk I kd n nw w ∧ ∀ p k, p ≠ 36 → p ≠ 37 → ¬ (p = 0 ∧ (k = 2 ∨ k = 69)) → r.2 p k = I2 p k) := fun hor => by
    refine Ev_ls ?_
    rw [← hM]
    refine Ev_bd1 (m_layPlan P hn) ?_
    rintro I5 ⟨g1, g2⟩
    have g3 : ∀ p k, p ≠ 36 → p ≠ 37 → ¬ (p = 0 ∧ (k = 2 ∨ k = 69)) → I5 p k = I2 p k := fun p k a b c => (g1 p k a b).trans (hMf p k c)
    have P5 : PlM bk I M I5 kd n nk nh nw kn := P.st g1
    have g0 := g2 0 0 (by omega) (by omega)
    unfold TbM at g0
    unfold anw
    refine Ev_if (fun c => ?_) (fun c => ?_)
    · have c := (n_le (b := 5) (by omega) (by omega)).mp c
      have hlt : w < nw := by omega
      rw [if_neg (by omega), if_neg (by omega), if_neg (by omega)]
      have hp8 : 2 ^ n ≤ 256 := Nat.pow_le_pow_right (n := 2) (by decide) hn
      have ht : ∀ v, v ≤ nw → tkn (gd8 bk I kd n nw) v < 256 := fun v hv => Nat.lt_of_lt_of_le (tkn_lt hn v hv) hp8
      refine Ev_ls ?_
      refine Ev_fix2 (fun x9 x10 => ∃ v, v ≤ w ∧ x10 = Int32.ofNat v ∧ x9 = Int32.ofNat (tkn (gd8 bk I kd n nw) v)) (fun _ x10 => (80 - x10.toInt).toNat) ?_ FU _ _ (FU_lt (by decide)) ⟨0, by omega, rfl, rfl⟩
      rintro rec x9 x10 ⟨v, hv, rfl, rfl⟩ hrec
      refine Ev_if (fun cc => ?_) (fun cc => ?_)
      · have := (n_le (by omega) (by omega)).mp cc
        have : v = w := by omega
        subst this
        show Ev (bd1 (f_X11_dayFor I5 (Int32.ofNat v) _) _) _
        rw [m_dayFor P5 hn g2 hlt (ht v (by omega)), bd1_s]
        refine Ev_ls ?_
        rcases gd8_c (bk := bk) (I := I) (kd := kd) (n := n) (t := tkn (gd8 bk I kd n nw) v) hlt with ⟨q1, _⟩ | ⟨d, q1, q0, _, _⟩
        · rw [q1, if_neg (by decide)]
          exact Ev_some ⟨rfl, g3⟩
        · rw [q1, show e1 (some d) = Int32.ofNat d from rfl, if_pos (enc_neg (by omega)).2.2.2]
          exact Ev_some ⟨rfl, g3⟩
      · have hvw : v < w := Nat.lt_of_not_le (fun h => cc ((n_le (by omega) (by omega)).mpr h))
        have hvt := ht v (by omega)
        rw [m_dayFor P5 hn g2 (show v < nw by omega) hvt, bd1_s]
        refine Ev_ls ?_
        have et : tkn (gd8 bk I kd n nw) (v + 1) = (match gd8 bk I kd n nw v (tkn (gd8 bk I kd n nw) v) with | none => tkn (gd8 bk I kd n nw) v | some d => tkn (gd8 bk I kd n nw) v ||| 2 ^ d) := rfl
        rcases gd8_c (bk := bk) (I := I) (kd := kd) (n := n) (t := tkn (gd8 bk I kd n nw) v) (show v < nw by omega) with ⟨q1, _⟩ | ⟨d, q1, q0, _, _⟩
        · rw [q1] at et ⊢
          rw [if_neg (by decide)]
          refine Ev_ls (Ev_ls ?_)
          rw [n_t1]
          refine hrec _ _ ⟨v + 1, by omega, rfl, by rw [et]; exact Int32.or_zero⟩ ?_
          rw [n_toInt (by omega), n_toInt (by omega)]; omega
        · rw [q1] at et ⊢
          have h8 := b8 ⟨tkn (gd8 bk I kd n nw) v, hvt⟩ ⟨d, q0⟩
          simp only at h8
          rw [show e1 (some d) = Int32.ofNat d from rfl, if_pos (enc_neg (by omega)).2.2.2]
          refine Ev_ls (Ev_ls ?_)
          rw [n_t1, h8.2.1]
          refine hrec _ _ ⟨v + 1, by omega, rfl, by rw [et]⟩ ?_
          rw [n_toInt (by omega), n_toInt (by omega)]; omega
    · have c : ¬ w ≤ 5 := fun h => c ((n_le (b := 5) (by omega) (by omega)).mpr h)
      refine Ev_ls ?_
      refine Ev_if (fun c => ?_) (fun c => ?_)
      · have c := (n_eq (b := 6) (by omega) (by omega)).mp c
        rw [if_pos c]
        exact Ev_gd rfl (Ev_some ⟨g0.1, g3⟩)
      · have c : ¬ w = 6 := fun e => c (by rw [e]; rfl)
        rw [if_neg c, if_pos (by omega)]
        exact Ev_gd rfl (Ev_some ⟨g0.2, g3⟩)
  refine Ev_ls ?_
  refine Ev_if (fun c => ?_) (fun c => ?_)
  · exact hin (Or.inl ((n_le (a := 6) (by omega) (by omega)).mp c))
  · have c : ¬ 6 ≤ w := fun h => c ((n_le (a := 6) (by omega) (by omega)).mpr h)
    rw [h15]
    refine Ev_if (fun c => ?_) (fun c => ?_)
    · exact hin (Or.inr ((n_lt (by omega) (by omega)).mp c))
    · have c2 : ¬ w < nw := fun h => c ((n_lt (by omega) (by omega)).mpr h)
      unfold anw
      rw [if_neg (by omega), if_neg (by omega), if_pos (by omega)]
      exact Ev_some ⟨rfl, fun p k _ _ h => s2x (by omega)⟩
theorem c_plan {bk nk nh nw kn nd su dn dy : Nat} {I I2 : MI} {J2 : MJ} (hbk : bk = 2 ∨ bk = 18) (B : BookR bk I I2 nk nh nw kn) (D : DayR bk I I2 nk nd) (W : TownR I I2 J2 nk nh su dn dy) (a b : Int32) : ∃ v I' M', f_X10_plan bk I a b = some (v, I') ∧ f_X11_plan I2 a b = some (v, M') ∧ FrPl I I' I2 M' := by
  have hfr0 : FrPl I I I2 (st2 I2 0 2 0) := ⟨fun _ _ => rfl, fun p k _ _ h => s2x (by omega)⟩
  by_cases ha : decide ((0 : Int32).toInt ≤ a.toInt ∧ a.toInt ≤ (8 : Int32).toInt) = true
  · by_cases hb : decide ((0 : Int32).toInt ≤ b.toInt ∧ b.toInt ≤ (7 : Int32).toInt) = true
    · obtain ⟨n, hn, rfl⟩ := in_t (n := 8) (by omega) ha
      obtain ⟨w, hw, rfl⟩ := in_t (n := 7) (by omega) hb
      have hkd : ∀ d, d ≤ 200 → f_X11_weatherIn I2 (Int32.ofNat d) = some ((fun d => (f_X11_weatherIn I2 (Int32.ofNat d)).getD 0) d) := fun d hd => by
        obtain ⟨v, _, e, _⟩ := c_kindIn B D W hd
        simp only [e, Option.getD_some]
      obtain ⟨⟨v, I'⟩, q1, q2, q3⟩ := p_planX hbk B D W hkd hn hw
      obtain ⟨⟨v2, M'⟩, q4, q5, q6⟩ := m_planX hbk B D W hkd hn hw
      dsimp only at q2 q3 q5 q6
      exact ⟨v, I', M', q1, by rw [q4, q5, q2], q3, q6⟩
    · have hb' : decide ((0 : Int32).toInt ≤ b.toInt ∧ b.toInt ≤ (7 : Int32).toInt) = false := Bool.eq_false_iff.mpr hb
      delta f_X10_plan f_X11_plan
      simp only [p_isWithin, m_isIn, lt, bd1_s, ha, hb', if_true]
      exact ⟨_, _, _, rfl, rfl, hfr0⟩
  · have ha' : decide ((0 : Int32).toInt ≤ a.toInt ∧ a.toInt ≤ (8 : Int32).toInt) = false := Bool.eq_false_iff.mpr ha
    delta f_X10_plan f_X11_plan
    simp only [p_isWithin, m_isIn, lt, bd1_s, ha']
    exact ⟨_, _, _, rfl, rfl, hfr0⟩
