/-! works laid on days: the component's table and choice -/
def gq (bk : Nat) (I : MI) (kd : Nat → Int32) (n nw w t d : Nat) : Bool := frw bk I kd n w d t && decide (cdw bk I kd n nw w t d = Vw bk I kd n nw w t)
def gd8 (bk : Nat) (I : MI) (kd : Nat → Int32) (n nw w t : Nat) : Option Nat := fd (gq bk I kd n nw w t) 8 0
def tkn (g : Nat → Nat → Option Nat) : Nat → Nat
  | 0 => 0
  | w + 1 => match g w (tkn g w) with
    | none => tkn g w
    | some d => tkn g w ||| 2 ^ d
def e2 : Option Nat → Int32
  | none => -2
  | some d => Int32.ofNat d
theorem gd8_c {bk n nw w t : Nat} {I : MI} {kd : Nat → Int32} (hw : w < nw) : (gd8 bk I kd n nw w t = none ∧ Vw bk I kd n nw w t = Vw bk I kd n nw (w + 1) t) ∨ ∃ d, gd8 bk I kd n nw w t = some d ∧ d < 8 ∧ d < n ∧ Vw bk I kd n nw w t = cdw bk I kd n nw w t d := by
  unfold gd8
  rcases fd_c (q := gq bk I kd n nw w t) 8 0 with ⟨h1, h2⟩ | ⟨d, h1, _, h3, h4⟩
  · refine Or.inl ⟨h1, ?_⟩
    rcases pF_c (fr := fun d => frw bk I kd n w d t) (cd := cdw bk I kd n nw w t) (p0 := Vw bk I kd n nw (w + 1) t) 8 with h | ⟨e, he, hf, h⟩
    · rw [Vw_s hw]; exact h
    · have := h2 e (by omega) (by omega)
      unfold gq at this
      rw [hf, Bool.true_and, decide_eq_true (by rw [Vw_s hw]; exact h.symm)] at this
      cases this
  · unfold gq at h4
    have hf := (Bool.and_eq_true_iff.mp h4).1
    have hv := of_decide_eq_true (Bool.and_eq_true_iff.mp h4).2
    have hd : d < n := by
      unfold frw at hf
      exact of_decide_eq_true (Bool.and_eq_true_iff.mp hf).1
    exact Or.inr ⟨d, h1, by omega, hd, hv.symm⟩
theorem tkn_lt {bk n nw : Nat} {I : MI} {kd : Nat → Int32} (hn : n ≤ 8) : ∀ w, w ≤ nw → tkn (gd8 bk I kd n nw) w < 2 ^ n
  | 0, _ => Nat.two_pow_pos n
  | w + 1, h => by
    have ih := tkn_lt (bk := bk) (nw := nw) (I := I) (kd := kd) hn w (by omega)
    show (match gd8 bk I kd n nw w (tkn (gd8 bk I kd n nw) w) with | none => tkn (gd8 bk I kd n nw) w | some d => tkn (gd8 bk I kd n nw) w ||| 2 ^ d) < 2 ^ n
    rcases gd8_c (bk := bk) (I := I) (kd := kd) (n := n) (t := tkn (gd8 bk I kd n nw) w) (show w < nw by omega) with ⟨h1, _⟩ | ⟨d, h1, _, h2, _⟩
    · rw [h1]; exact ih
    · rw [h1]; exact (or_n hn ih h2).2
theorem tkn_v {bk n nw : Nat} {I : MI} {kd : Nat → Int32} : ∀ w, w ≤ nw → ∃ a b, a + (Vw bk I kd n nw w (tkn (gd8 bk I kd n nw) w)).1 = (Vw bk I kd n nw 0 0).1 ∧ b + (Vw bk I kd n nw w (tkn (gd8 bk I kd n nw) w)).2 = (Vw bk I kd n nw 0 0).2
  | 0, _ => ⟨0, 0, Nat.zero_add _, Nat.zero_add _⟩
  | w + 1, h => by
    obtain ⟨a, b, h1, h2⟩ := tkn_v (bk := bk) (n := n) (nw := nw) (I := I) (kd := kd) w (by omega)
    have e : tkn (gd8 bk I kd n nw) (w + 1) = (match gd8 bk I kd n nw w (tkn (gd8 bk I kd n nw) w) with | none => tkn (gd8 bk I kd n nw) w | some d => tkn (gd8 bk I kd n nw) w ||| 2 ^ d) := rfl
    rw [e]
    rcases gd8_c (bk := bk) (I := I) (kd := kd) (n := n) (t := tkn (gd8 bk I kd n nw) w) (show w < nw by omega) with ⟨g1, g2⟩ | ⟨d, g1, _, _, g2⟩
    · rw [g1]
      rw [g2] at h1 h2
      exact ⟨a, b, h1, h2⟩
    · rw [g1]
      rw [g2] at h1 h2
      unfold cdw at h1 h2
      dsimp only at h1 h2 ⊢
      exact ⟨a + 1, b + cst bk I w, by omega, by omega⟩
theorem p_choose {bk nk nh nw kn n : Nat} {I M Ic : MI} {kd : Nat → Int32} (hbk : bk = 2 ∨ bk = 18) (B : BookR bk I M nk nh nw kn) (P : PlI bk I Ic kd n) (hn : n ≤ 8) (hT : ∀ w s, w ≤ nw → s < 2 ^ n → Ic 78 (w * 256 + s) = Int32.ofNat (val (Vw bk I kd n nw w s))) : Ev (f_X5_choose Ic bk (Int32.ofNat n)) (fun I' => (∀ p, ¬ (76 ≤ p ∧ p < 80) → I' p = I p) ∧ I' 76 3 = Int32.ofNat (Vw bk I kd n nw 0 0).1 ∧ I' 76 4 = Int32.ofNat (Vw bk I kd n nw 0 0).2 ∧ ∀ w, w < nw → I' 79 w = e2 (gd8 bk I kd n nw w (tkn (gd8 bk I kd n nw) w))) := by
  have lw := B.lw
  have hp8 : 2 ^ n ≤ 256 := Nat.pow_le_pow_right (n := 2) (by decide) hn
  delta f_X5_choose
  refine Ev_ls (Ev_ls ?_)
  refine Ev_fix3 (fun x3 x4 I5 => ∃ w a b, w ≤ nw ∧ x4 = Int32.ofNat w ∧ x3 = Int32.ofNat (tkn (gd8 bk I kd n nw) w) ∧ (∀ p, ¬ (p = 76 ∨ p = 79) → I5 p = Ic p) ∧ I5 76 3 = Int32.ofNat a ∧ I5 76 4 = Int32.ofNat b ∧ a + (Vw bk I kd n nw w (tkn (gd8 bk I kd n nw) w)).1 = (Vw bk I kd n nw 0 0).1 ∧ b + (Vw bk I kd n nw w (tkn (gd8 bk I kd n nw) w)).2 = (Vw bk I kd n nw 0 0).2 ∧ ∀ v, v < w → I5 79 v = e2 (gd8 bk I kd n nw v (tkn (gd8 bk I kd n nw) v))) (fun _ x4 _ => (80 - x4.toInt).toNat) ?_ FU _ _ _ (FU_lt (by decide)) ⟨0, 0, 0, by omega, rfl, rfl, fun p hp => by rw [st2_ne (by omega), st2_ne (by omega)], by rw [s2x (by omega), st2_at, if_pos rfl]; rfl, by rw [st2_at, if_pos rfl]; rfl, Nat.zero_add _, Nat.zero_add _, fun v hv => absurd hv (by omega)⟩
  rintro rec x3 x4 I5 ⟨w, a, b, hw, rfl, rfl, g1, g2, g3, g4, g5, g6⟩ hrec
  have hI5 : ∀ p, ¬ (76 ≤ p ∧ p < 80) → I5 p = I p := fun p hp => by rw [g1 p (by omega)]; exact P.1 p hp
  have h13 : I5 bk 13 = Int32.ofNat nw := by rw [hI5 bk (by omega)]; exact B.w1
  rw [h13]
  refine Ev_if (fun c => ?_) (fun c => ?_)
  · have := (n_le (by omega) (by omega)).mp c
    have : w = nw := by omega
    subst this
    have hz : ∀ s, Vw bk I kd n w w s = (0, 0) := fun s => by unfold Vw; rw [Nat.sub_self]; rfl
    rw [hz] at g4 g5
    refine Ev_some ⟨hI5, ?_, ?_, g6⟩
    · rw [g2]; congr 1
    · rw [g3]; congr 1
  · have hlt : w < nw := Nat.lt_of_not_le (fun h => c ((n_le (by omega) (by omega)).mpr h))
    have ht := tkn_lt (bk := bk) (I := I) (kd := kd) (nw := nw) hn w (by omega)
    have et : tkn (gd8 bk I kd n nw) (w + 1) = (match gd8 bk I kd n nw w (tkn (gd8 bk I kd n nw) w) with | none => tkn (gd8 bk I kd n nw) w | some d => tkn (gd8 bk I kd n nw) w ||| 2 ^ d) := rfl
    have hgc := gd8_c (bk := bk) (I := I) (kd := kd) (n := n) (t := tkn (gd8 bk I kd n nw) w) hlt
    obtain ⟨t, htt⟩ : ∃ t, t = tkn (gd8 bk I kd n nw) w := ⟨_, rfl⟩
    rw [← htt] at ht et hgc g4 g5 ⊢
    have gw : inb (Int32.ofNat w) 6 = true := (n_inb (by omega)).mpr (by omega)
    refine Ev_gd gw (Ev_ls ?_)
    rw [n_ix (show w < 2147483648 by omega)]
    refine Ev_j1 (fun I7 => (∀ p k, ¬ (p = 79 ∧ k = w) → I7 p k = I5 p k) ∧ I7 79 w = e2 (gd8 bk I kd n nw w t)) ?_ ?_
    · rintro I7 ⟨k1, k2⟩
      refine Ev_gd gw (Ev_ls ?_)
      rw [k2]
      have hrow : ∀ p, p ≠ 79 → I7 p = I5 p := fun p h => funext (fun k => k1 p k (fun e => h e.1))
      rcases hgc with ⟨q1, q2⟩ | ⟨d, q1, q0, q3, q2⟩
      · rw [q1] at et k2 ⊢
        rw [if_pos (by rfl)]
        refine Ev_ls ?_
        rw [n_t1]
        refine hrec _ _ _ ⟨w + 1, a, b, by omega, rfl, by rw [et], fun p hp => by rw [hrow p (by omega)]; exact g1 p hp, by rw [hrow 76 (by omega)]; exact g2, by rw [hrow 76 (by omega)]; exact g3, by rw [et, ← q2]; exact g4, by rw [et, ← q2]; exact g5, fun v hv => ?_⟩ ?_
        · by_cases e : v = w
          · rw [e, ← htt, q1]; exact k2
          · rw [k1 79 v (by omega)]; exact g6 v (by omega)
        · rw [n_toInt (by omega), n_toInt (by omega)]; omega
      · rw [q1] at et k2 ⊢
        have et : tkn (gd8 bk I kd n nw) (w + 1) = t ||| 2 ^ d := et
        have h8 := b8 ⟨t, by omega⟩ ⟨d, q0⟩
        simp only at h8
        rw [show e2 (some d) = Int32.ofNat d from rfl, if_neg (enc_neg (by omega)).1]
        refine Ev_gd gw (Ev_ls (Ev_ls ?_))
        have P12 : PlI bk I (st2 I7 76 3 (I7 76 3 + 1)) kd n := ⟨fun p hp => by rw [st2_ne (by omega), hrow p (by omega)]; exact hI5 p hp, fun e he => by rw [st2_ne (by omega), hrow 77 (by omega), g1 77 (by omega)]; exact P.2 e he⟩
        rw [p_cost hbk B P12 hlt, bd1_s]
        refine Ev_ls (Ev_ls ?_)
        have e76 : I7 76 3 = Int32.ofNat a := by rw [hrow 76 (by omega)]; exact g2
        have e764 : st2 I7 76 3 (I7 76 3 + 1) 76 4 = Int32.ofNat b := by rw [s2x (by omega), hrow 76 (by omega)]; exact g3
        rw [e764, e76, n_t1 a, n_add, h8.2.1, n_t1 w]
        rw [q2] at g4 g5
        unfold cdw at g4 g5
        dsimp only at g4 g5
        refine hrec _ _ _ ⟨w + 1, a + 1, b + cst bk I w, by omega, rfl, by rw [et], fun p hp => by rw [st2_ne (by omega), st2_ne (by omega), hrow p (by omega)]; exact g1 p hp, by rw [s2x (by omega), st2_at, if_pos rfl], by rw [st2_at, if_pos rfl], by rw [et]; omega, by rw [et]; omega, fun v hv => ?_⟩ ?_
        · rw [st2_ne (by omega), st2_ne (by omega)]
          by_cases e : v = w
          · rw [e, ← htt, q1]; exact k2
          · rw [k1 79 v (by omega)]; exact g6 v (by omega)
        · rw [n_toInt (by omega), n_toInt (by omega)]; omega
    · intro j hj
      have hfg : fd (gq bk I kd n nw w t) 8 0 = fd (gq bk I kd n nw w t) n 0 := by
        have := fd_ge (q := gq bk I kd n nw w t) 8 0 n (fun e he => by unfold gq frw; rw [decide_eq_false (by omega)]; rfl) (by omega) (by omega)
        rw [this, Nat.sub_zero]
      refine Ev_fix2 (fun x15 I16 => ∃ d, d ≤ n ∧ x15 = Int32.ofNat d ∧ (∀ p k, ¬ (p = 79 ∧ k = w) → I16 p k = I5 p k) ∧ ((I16 79 w = -2 ∧ gd8 bk I kd n nw w t = fd (gq bk I kd n nw w t) (n - d) d) ∨ ∃ e, e < 8 ∧ I16 79 w = Int32.ofNat e ∧ gd8 bk I kd n nw w t = some e)) (fun x15 _ => (80 - x15.toInt).toNat) ?_ FU _ _ (FU_lt (by decide)) ⟨0, by omega, rfl, fun p k h => s2x h, Or.inl ⟨by rw [st2_at, if_pos rfl], hfg⟩⟩
      rintro rec' x15 I16 ⟨d, hd, rfl, k1, k2⟩ hrec'
      have hrow : ∀ p, p ≠ 79 → I16 p = I5 p := fun p h => funext (fun k => k1 p k (fun e => h e.1))
      refine Ev_if (fun cc => ?_) (fun cc => ?_)
      · have := (n_le (by omega) (by omega)).mp cc
        have : d = n := by omega
        subst this
        refine hj _ ⟨k1, ?_⟩
        rcases k2 with ⟨k2, k3⟩ | ⟨e, _, k2, k3⟩
        · rw [k3, Nat.sub_self]; exact k2
        · rw [k3]; exact k2
      · have hdl : d < n := Nat.lt_of_not_le (fun h => cc ((n_le (by omega) (by omega)).mpr h))
        refine Ev_gd gw ?_
        rcases k2 with ⟨k2, k3⟩ | ⟨e, he8, k2, k3⟩
        · rw [k2, if_pos rfl]
          have P16 : PlI bk I I16 kd n := ⟨fun p hp => by rw [hrow p (by omega)]; exact hI5 p hp, fun e he => by rw [hrow 77 (by omega), g1 77 (by omega)]; exact P.2 e he⟩
          have hT16 : ∀ v s, v ≤ nw → s < 2 ^ n → I16 78 (v * 256 + s) = Int32.ofNat (val (Vw bk I kd n nw v s)) := fun v s a1 a2 => by rw [hrow 78 (by omega), g1 78 (by omega)]; exact hT v s a1 a2
          rw [p_isFree hbk B P16 hn hlt hdl (by omega), bd1_s]
          have hfs : fd (gq bk I kd n nw w t) (n - d) d = if gq bk I kd n nw w t d then some d else fd (gq bk I kd n nw w t) (n - (d + 1)) (d + 1) := by
            rw [show n - d = (n - (d + 1)) + 1 by omega]; rfl
          have hno : gq bk I kd n nw w t d = false → Ev (rec' (Int32.ofNat d + 1) I16) (fun I' => (∀ p, ¬ (76 ≤ p ∧ p < 80) → I' p = I p) ∧ I' 76 3 = Int32.ofNat (Vw bk I kd n nw 0 0).1 ∧ I' 76 4 = Int32.ofNat (Vw bk I kd n nw 0 0).2 ∧ ∀ w, w < nw → I' 79 w = e2 (gd8 bk I kd n nw w (tkn (gd8 bk I kd n nw) w))) := fun hq => by
            rw [n_t1]
            refine hrec' _ _ ⟨d + 1, by omega, rfl, k1, Or.inl ⟨k2, ?_⟩⟩ ?_
            · rw [k3, hfs, hq]; rfl
            · rw [n_toInt (by omega), n_toInt (by omega)]; omega
          refine Ev_ls ?_
          cases hf : frw bk I kd n w d t with
          | false => exact hno (by unfold gq; rw [hf]; rfl)
          | true =>
            rw [if_pos rfl, p_bestOn hbk B P16 hn hlt hdl ht (fun s hs => hT16 (w + 1) s (by omega) hs), bd1_s, n_v256]
            refine Ev_gd ((n_inb (by omega)).mpr (by omega)) ?_
            rw [n_ix (by omega), hT16 w t (by omega) ht]
            have l1 := val_lt lw (Vw_ok (kd := kd) (n := n) B w t)
            have l2 := val_lt lw (cdw_ok (kd := kd) (n := n) B hlt t d).1
            have hvb := (val_b lw (cdw_ok (kd := kd) (n := n) B hlt t d).1 (Vw_ok (kd := kd) (n := n) B w t)).1
            refine Ev_if (fun ce => ?_) (fun ce => ?_)
            · have ce' := hvb.mp ((n_eq (by omega) (by omega)).mp ce)
              have hq : gq bk I kd n nw w t d = true := by unfold gq; rw [hf, decide_eq_true ce']; rfl
              refine Ev_gd gw (Ev_ls (Ev_ls ?_))
              rw [n_t1]
              refine hrec' _ _ ⟨d + 1, by omega, rfl, fun p k h => by rw [s2x h]; exact k1 p k h, Or.inr ⟨d, by omega, by rw [st2_at, if_pos rfl], ?_⟩⟩ ?_
              · rw [k3, hfs, hq]; rfl
              · rw [n_toInt (by omega), n_toInt (by omega)]; omega
            · refine hno ?_
              unfold gq
              rw [hf, decide_eq_false (fun e => ce (by rw [hvb.mpr e]))]; rfl
        · rw [k2, if_neg (enc_neg (by omega)).1]
          exact hj _ ⟨k1, by rw [k3]; exact k2⟩
