/-! works laid on days: the model -/
theorem n_w5 (w s : Nat) : (256 : Int32) * Int32.ofNat w + Int32.ofNat s = Int32.ofNat (256 * w + s) := by
  rw [show (256 : Int32) = Int32.ofNat 256 from rfl, n_mul, n_add]
theorem n_w6 (w s : Nat) : (256 : Int32) * (Int32.ofNat w + 1) + Int32.ofNat s = Int32.ofNat (256 * (w + 1) + s) := by
  rw [n_t1, n_w5]
theorem n_p256 (x : Nat) : Int32.ofNat x + 256 = Int32.ofNat (x + 256) := n_add x 256
/-- the model's rows but the two of the plan -/
def PlM (bk : Nat) (I M Mc : MI) (kd : Nat → Int32) (n nk nh nw kn : Nat) : Prop := (∀ p k, p ≠ 36 → p ≠ 37 → Mc p k = M p k) ∧ (BookR bk I M nk nh nw kn) ∧ (M 0 69 = Int32.ofNat n) ∧ (∀ Mx : MI, (∀ p k, p ≠ 36 → p ≠ 37 → Mx p k = M p k) → ∀ d, d < n → f_X11_weatherIn Mx (Int32.ofNat d) = some (kd d))
theorem PlM.fr {bk : Nat} {I M Mc : MI} {kd : Nat → Int32} {n nk nh nw kn : Nat} (B_ : PlM bk I M Mc kd n nk nh nw kn) : ∀ p k, p ≠ 36 → p ≠ 37 → Mc p k = M p k := B_.1
theorem PlM.bo {bk : Nat} {I M Mc : MI} {kd : Nat → Int32} {n nk nh nw kn : Nat} (B_ : PlM bk I M Mc kd n nk nh nw kn) : BookR bk I M nk nh nw kn := B_.2.1
theorem PlM.nn {bk : Nat} {I M Mc : MI} {kd : Nat → Int32} {n nk nh nw kn : Nat} (B_ : PlM bk I M Mc kd n nk nh nw kn) : M 0 69 = Int32.ofNat n := B_.2.2.1
theorem PlM.ki {bk : Nat} {I M Mc : MI} {kd : Nat → Int32} {n nk nh nw kn : Nat} (B_ : PlM bk I M Mc kd n nk nh nw kn) : ∀ Mx : MI, (∀ p k, p ≠ 36 → p ≠ 37 → Mx p k = M p k) → ∀ d, d < n → f_X11_weatherIn Mx (Int32.ofNat d) = some (kd d) := B_.2.2.2
theorem PlM.st {bk n nk nh nw kn : Nat} {I M Mc Md : MI} {kd : Nat → Int32} (P : PlM bk I M Mc kd n nk nh nw kn) (h : ∀ p k, p ≠ 36 → p ≠ 37 → Md p k = Mc p k) : PlM bk I M Md kd n nk nh nw kn := ⟨fun p k a b => (h p k a b).trans (P.fr p k a b), P.bo, P.nn, P.ki⟩
theorem m_suits {bk n nk nh nw kn : Nat} {I M Mc : MI} {kd : Nat → Int32} (P : PlM bk I M Mc kd n nk nh nw kn) (hn : n ≤ 8) {w d : Nat} (hw : w < nw) (hd : d < 8) : f_X11_suits Mc (Int32.ofNat w) (Int32.ofNat d) = some (decide (d < n) && decide (kd d = I (bk + 9) w)) := by
  have lw := P.bo.lw
  delta f_X11_suits
  simp only [lt]
  rw [P.fr 0 69 (by omega) (by omega), P.nn]
  by_cases c : d < n
  · rw [if_neg (fun e => by
      have := (n_le (by omega) (by omega)).mp e
      omega), P.ki Mc P.fr d c, bd1_s, gd_t ((n_inb (by omega)).mpr (by omega)), n_ix (by omega), P.fr 15 w (by omega) (by omega), (wk_c P.bo hw).2.2.2.2.1, ← (wk_c P.bo hw).2.2.1, decide_eq_true c, Bool.true_and]
    by_cases c2 : kd d = I (bk + 9) w
    · rw [if_pos c2, decide_eq_true c2]
    · rw [if_neg c2, decide_eq_false c2]
  · rw [if_pos ((n_le (by omega) (by omega)).mpr (by omega)), decide_eq_false c]; rfl
theorem m_costOf {bk n nk nh nw kn : Nat} {I M Mc : MI} {kd : Nat → Int32} (P : PlM bk I M Mc kd n nk nh nw kn) {w : Nat} (hw : w < nw) : f_X11_costOf Mc (Int32.ofNat w) = some (Int32.ofNat (cst bk I w)) := by
  have lw := P.bo.lw
  have lk := P.bo.lk
  have lh := P.bo.lh
  obtain ⟨a1, a2, a3, a4, a5, a6, a7⟩ := wk_c P.bo hw
  delta f_X11_costOf
  rw [n_ix (show w < 2147483648 by omega), P.fr 15 w (by omega) (by omega), P.fr 14 w (by omega) (by omega), a5, a6, gd_t ((n_inb (by omega)).mpr (by omega)), gd_t ((n_inb (by omega)).mpr (by omega)), gd_t ((n_inb (by omega)).mpr (by omega)), gd_t ((n_inb (by omega)).mpr (by omega)), n_ix (by omega), n_ix (by omega), P.fr 6 _ (by omega) (by omega), P.fr 10 _ (by omega) (by omega), (P.bo.wo a1).2.2, (P.bo.ea a2).2.2, n_mul]
  rfl
/-- the model's table -/
def TbM (bk : Nat) (I Mc : MI) (kd : Nat → Int32) (n nw w s : Nat) : Prop := Mc 36 (256 * w + s) = Int32.ofNat (Vw bk I kd n nw w s).1 ∧ Mc 37 (256 * w + s) = Int32.ofNat (Vw bk I kd n nw w s).2
theorem m_layPlan {bk n nk nh nw kn : Nat} {I M Mc : MI} {kd : Nat → Int32} (P : PlM bk I M Mc kd n nk nh nw kn) (hn : n ≤ 8) : Ev (f_X11_layPlan Mc) (fun M' => (∀ p k, p ≠ 36 → p ≠ 37 → M' p k = Mc p k) ∧ ∀ w s, w ≤ nw → s < 256 → TbM bk I M' kd n nw w s) := by
  have lw := P.bo.lw
  have hz : ∀ s, Vw bk I kd n nw nw s = (0, 0) := fun s => by unfold Vw; rw [Nat.sub_self]; rfl
  have h15 : ∀ Mx : MI, (∀ p k, p ≠ 36 → p ≠ 37 → Mx p k = Mc p k) → Mx 0 15 = Int32.ofNat nw := fun Mx h => by rw [h 0 15 (by omega) (by omega), P.fr 0 15 (by omega) (by omega)]; exact P.bo.w2
  delta f_X11_layPlan
  refine Ev_j1 (fun I1 => (∀ p k, p ≠ 36 → p ≠ 37 → I1 p k = Mc p k) ∧ ∀ s, s < 256 → I1 36 (256 * nw + s) = 0 ∧ I1 37 (256 * nw + s) = 0) ?_ ?_
  · rintro I1 ⟨g1, g2⟩
    rw [h15 I1 g1]
    refine Ev_ls ?_
    refine Ev_fix2 (fun x3 I4 => ∃ w, w ≤ nw ∧ x3.toInt = (w : Int) - 1 ∧ (∀ p k, p ≠ 36 → p ≠ 37 → I4 p k = Mc p k) ∧ ∀ v s, w ≤ v → v ≤ nw → s < 256 → TbM bk I I4 kd n nw v s) (fun x3 _ => (x3.toInt + 1).toNat) ?_ FU _ _ (FU_lt ?_) ⟨nw, by omega, i_sub1 (by omega), g1, fun v s a1 a2 a3 => ?_⟩
    · rintro rec x3 I4 ⟨w, hw, hx, k1, k2⟩ hrec
      refine Ev_if (fun c => ?_) (fun c => ?_)
      · rw [Int32.lt_iff_toInt_lt, z0, hx] at c
        exact Ev_some ⟨k1, fun v s a1 a2 => k2 v s (by omega) a1 a2⟩
      · rw [Int32.lt_iff_toInt_lt, z0, hx] at c
        obtain ⟨w, rfl⟩ : ∃ v, w = v + 1 := ⟨w - 1, by omega⟩
        have hxe : x3 = Int32.ofNat w := by
          apply Int32.toInt.inj
          rw [hx, n_toInt (by omega)]; omega
        subst hxe
        have hm1 : (-1 : Int32).toInt = -1 := rfl
        have hx' : (Int32.ofNat w + -1).toInt = (w : Int) - 1 := by
          have := n_toInt (n := w) (by omega)
          rw [i_add (by omega) (by omega), this, hm1]; omega
        have hwn : w < nw := by omega
        refine Ev_j1 (fun I5 => (∀ p k, p ≠ 36 → p ≠ 37 → I5 p k = Mc p k) ∧ ∀ v s, w ≤ v → v ≤ nw → s < 256 → TbM bk I I5 kd n nw v s) ?_ ?_
        · rintro I5 ⟨q1, q2⟩
          refine Ev_ls ?_
          refine hrec _ _ ⟨w, by omega, hx', q1, q2⟩ ?_
          rw [hx', n_toInt (by omega)]; omega
        · intro j' hj'
          refine Ev_fix2 (fun x7 I8 => ∃ s, s ≤ 256 ∧ x7 = Int32.ofNat s ∧ (∀ p k, p ≠ 36 → p ≠ 37 → I8 p k = Mc p k) ∧ (∀ v s', w + 1 ≤ v → v ≤ nw → s' < 256 → TbM bk I I8 kd n nw v s') ∧ ∀ s', s' < s → TbM bk I I8 kd n nw w s') (fun x7 _ => (600 - x7.toInt).toNat) ?_ FU _ _ (FU_lt (by decide)) ⟨0, by omega, rfl, k1, k2, fun s' h => absurd h (by omega)⟩
          rintro rec' x7 I8 ⟨s, hs, rfl, q1, q2, q3⟩ hrec'
          refine Ev_if (fun cc => ?_) (fun cc => ?_)
          · have := (n_le (a := 256) (by omega) (by omega)).mp cc
            refine hj' _ ⟨q1, fun v s' a1 a2 a3 => ?_⟩
            by_cases e : v = w
            · rw [e]; exact q3 s' (by omega)
            · exact q2 v s' (by omega) a2 a3
          · have hsl : s < 256 := Nat.lt_of_not_le (fun h => cc ((n_le (a := 256) (by omega) (by omega)).mpr h))
            rw [n_w5]
            refine Ev_ls ?_
            obtain ⟨x, hxx⟩ : ∃ x, x = 256 * w + s := ⟨_, rfl⟩
            rw [← hxx, n_p256, n_ix (show x < 2147483648 by omega), n_ix (show x + 256 < 2147483648 by omega)]
            have gx : inb (Int32.ofNat x) 1792 = true := (n_inb (by omega)).mpr (by omega)
            have gx2 : inb (Int32.ofNat (x + 256)) 1792 = true := (n_inb (by omega)).mpr (by omega)
            refine Ev_gd gx2 (Ev_gd gx (Ev_ls (Ev_gd gx2 (Ev_gd gx (Ev_ls ?_)))))
            have hb := q2 (w + 1) s (by omega) (by omega) hsl
            unfold TbM at hb
            rw [show 256 * (w + 1) + s = x + 256 by omega] at hb
            have e37 : ∀ y, st2 I8 36 x y 37 (x + 256) = I8 37 (x + 256) := fun y => by rw [st2_ne (by omega)]
            rw [e37, hb.1, hb.2]
            obtain ⟨I11, hI11⟩ : ∃ A, A = st2 (st2 I8 36 x (Int32.ofNat (Vw bk I kd n nw (w + 1) s).1)) 37 x (Int32.ofNat (Vw bk I kd n nw (w + 1) s).2) := ⟨_, rfl⟩
            rw [← hI11]
            refine Ev_j1 (fun I12 => (∀ p k, ¬ ((p = 36 ∨ p = 37) ∧ k = x) → I12 p k = I8 p k) ∧ I12 36 x = Int32.ofNat (Vw bk I kd n nw w s).1 ∧ I12 37 x = Int32.ofNat (Vw bk I kd n nw w s).2) ?_ ?_
            · rintro I12 ⟨f1, f2, f3⟩
              refine Ev_ls ?_
              rw [n_t1]
              refine hrec' _ _ ⟨s + 1, by omega, rfl, fun p k a b => by rw [f1 p k (by omega)]; exact q1 p k a b, fun v s' a1 a2 a3 => ?_, fun s' h' => ?_⟩ ?_
              · have := q2 v s' a1 a2 a3
                unfold TbM at this ⊢
                rw [f1 36 _ (by omega), f1 37 _ (by omega)]; exact this
              · by_cases e : s' = s
                · unfold TbM
                  rw [e, ← hxx]; exact ⟨f2, f3⟩
                · have := q3 s' (by omega)
                  unfold TbM at this ⊢
                  rw [f1 36 _ (by omega), f1 37 _ (by omega)]; exact this
              · rw [n_toInt (by omega), n_toInt (by omega)]; omega
            · intro j'' hj''
              obtain ⟨PF, hPF⟩ : ∃ f : Nat → Nat × Nat, f = pF (fun d => frw bk I kd n w d s) (cdw bk I kd n nw w s) (Vw bk I kd n nw (w + 1) s) := ⟨_, rfl⟩
              have hok : ∀ d, okp nw (PF d) := fun d => by
                rw [hPF]
                rcases pF_c (fr := fun d => frw bk I kd n w d s) (cd := cdw bk I kd n nw w s) (p0 := Vw bk I kd n nw (w + 1) s) d with h | ⟨e, _, _, h⟩
                · rw [h]; exact Vw_ok P.bo (w + 1) s
                · rw [h]; exact (cdw_ok P.bo hwn s e).1
              have hPs : ∀ d, PF (d + 1) = if frw bk I kd n w d s then (if bet (cdw bk I kd n nw w s d) (PF d) then cdw bk I kd n nw w s d else PF d) else PF d := fun d => by rw [hPF]; rfl
              refine Ev_fix2 (fun x14 I15 => ∃ d, d ≤ 8 ∧ x14 = Int32.ofNat d ∧ (∀ p k, ¬ ((p = 36 ∨ p = 37) ∧ k = x) → I15 p k = I8 p k) ∧ I15 36 x = Int32.ofNat (PF d).1 ∧ I15 37 x = Int32.ofNat (PF d).2) (fun x14 _ => (80 - x14.toInt).toNat) ?_ FU _ _ (FU_lt (by decide)) ⟨0, by omega, rfl, fun p k h => by rw [hI11, s2x (by omega), s2x (by omega)], by rw [hI11, st2_ne (by omega), st2_at, if_pos rfl, hPF]; rfl, by rw [hI11, st2_at, if_pos rfl, hPF]; rfl⟩
              rintro rec3 x14 I15 ⟨d, hd, rfl, f1, f2, f3⟩ hrec3
              refine Ev_if (fun c3 => ?_) (fun c3 => ?_)
              · have := (n_le (a := 8) (by omega) (by omega)).mp c3
                have : d = 8 := by omega
                subst this
                rw [hPF] at f2 f3
                refine hj'' _ ⟨f1, ?_, ?_⟩
                · rw [f2, Vw_s hwn]
                · rw [f3, Vw_s hwn]
              · have hdl : d < 8 := Nat.lt_of_not_le (fun h => c3 ((n_le (a := 8) (by omega) (by omega)).mpr h))
                have h8 := b8 ⟨s, hsl⟩ ⟨d, hdl⟩
                simp only at h8
                have P15 : PlM bk I M I15 kd n nk nh nw kn := P.st (fun p k a b => by rw [f1 p k (by omega)]; exact q1 p k a b)
                have hgo : ∀ I17, PF (d + 1) = PF d → I17 = I15 → Ev (rec3 (Int32.ofNat d + 1) I17) _ := fun I17 h1 h2 => by
                  rw [h2, n_t1]
                  refine hrec3 _ _ ⟨d + 1, by omega, rfl, f1, by rw [h1]; exact f2, by rw [h1]; exact f3⟩ ?_
                  rw [n_toInt (by omega), n_toInt (by omega)]; omega
                have hps := hPs d
                rw [h8.1, bd1_s]
                refine Ev_ls ?_
                have hfr : frw bk I kd n w d s = (decide (d < n) && (!s.testBit d && decide (kd d = I (bk + 9) w))) := rfl
                cases hbit : s.testBit d with
                | true =>
                  rw [hbit, Bool.not_true, Bool.false_and, Bool.and_false] at hfr
                  rw [hfr] at hps
                  exact hgo _ hps rfl
                | false =>
                  rw [hbit, Bool.not_false, Bool.true_and] at hfr
                  rw [if_neg (by decide), m_suits P15 hn hwn hdl, bd1_s, ← hfr]
                  cases hf : frw bk I kd n w d s with
                  | false =>
                    rw [hf] at hps
                    exact hgo _ hps rfl
                  | true =>
                    rw [hf, if_pos rfl] at hps
                    rw [if_pos rfl, h8.2.1, n_w6]
                    obtain ⟨y, hy⟩ : ∃ y, y = 256 * (w + 1) + (s ||| 2 ^ d) := ⟨_, rfl⟩
                    have h256 := h8.2.2
                    rw [← hy]
                    refine Ev_ls ?_
                    have gy : inb (Int32.ofNat y) 1792 = true := (n_inb (by omega)).mpr (by omega)
                    refine Ev_gd gy ?_
                    rw [m_costOf P15 hwn, bd1_s, n_ix (show y < 2147483648 by omega)]
                    have hty := q2 (w + 1) (s ||| 2 ^ d) (by omega) (by omega) h256
                    unfold TbM at hty
                    rw [← hy] at hty
                    have t36 : I15 36 y = Int32.ofNat (Vw bk I kd n nw (w + 1) (s ||| 2 ^ d)).1 := by rw [f1 36 y (by omega)]; exact hty.1
                    have t37 : I15 37 y = Int32.ofNat (Vw bk I kd n nw (w + 1) (s ||| 2 ^ d)).2 := by rw [f1 37 y (by omega)]; exact hty.2
                    rw [t36, t37, n_add, n_t1 (Vw bk I kd n nw (w + 1) (s ||| 2 ^ d)).1, f2, f3]
                    have hc1 := (cdw_ok (kd := kd) (n := n) P.bo hwn s d).1
                    have hp1 := hok d
                    have hcd : cdw bk I kd n nw w s d = ((Vw bk I kd n nw (w + 1) (s ||| 2 ^ d)).1 + 1, (Vw bk I kd n nw (w + 1) (s ||| 2 ^ d)).2 + cst bk I w) := rfl
                    obtain ⟨c1, hc1e⟩ : ∃ c, c = (Vw bk I kd n nw (w + 1) (s ||| 2 ^ d)).1 + 1 := ⟨_, rfl⟩
                    obtain ⟨c2, hc2e⟩ : ∃ c, c = (Vw bk I kd n nw (w + 1) (s ||| 2 ^ d)).2 + cst bk I w := ⟨_, rfl⟩
                    rw [← hc1e, ← hc2e] at hcd ⊢
                    rw [hcd] at hps hc1
                    unfold okp at hc1 hp1
                    dsimp only at hc1
                    have hup : bet (c1, c2) (PF d) = true → Ev (gd (inb (Int32.ofNat y) 1792) (gd (inb (Int32.ofNat x) 1792) (lt (st2 I15 36 x (Int32.ofNat c1)) (fun I23 => gd (inb (Int32.ofNat x) 1792) (lt (st2 I23 37 x (Int32.ofNat c2)) (fun I24 => lt (Int32.ofNat d + 1) (fun x18 => rec3 x18 I24))))))) (fun M' => (∀ p k, p ≠ 36 → p ≠ 37 → M' p k = Mc p k) ∧ ∀ w s, w ≤ nw → s < 256 → TbM bk I M' kd n nw w s) := fun hb => by
                      rw [hb, if_pos rfl] at hps
                      refine Ev_gd gy (Ev_gd gx (Ev_ls (Ev_gd gx (Ev_ls (Ev_ls ?_)))))
                      rw [n_t1]
                      refine hrec3 _ _ ⟨d + 1, by omega, rfl, fun p k h => by rw [s2x (by omega), s2x (by omega)]; exact f1 p k h, by rw [st2_ne (by omega), st2_at, if_pos rfl, hps], by rw [st2_at, if_pos rfl, hps]⟩ ?_
                      rw [n_toInt (by omega), n_toInt (by omega)]; omega
                    have hnot : bet (c1, c2) (PF d) = false → PF (d + 1) = PF d := fun hb => by rw [hb] at hps; exact hps
                    refine Ev_ls (Ev_gd gy (Ev_gd gx ?_))
                    refine Ev_if (fun b1 => ?_) (fun b1 => ?_)
                    · have b1' := (n_lt (by omega) (by omega)).mp b1
                      refine hgo _ (hnot ?_) rfl
                      unfold bet; exact decide_eq_false (by dsimp only; omega)
                    · have b1' : ¬ c1 < (PF d).1 := fun h => b1 ((n_lt (by omega) (by omega)).mpr h)
                      refine Ev_gd gy (Ev_gd gx (Ev_ls ?_))
                      refine Ev_if (fun b2 => ?_) (fun b2 => ?_)
                      · have b2' := (n_eq (by omega) (by omega)).mp b2
                        refine Ev_gd gx (Ev_if (fun b3 => ?_) (fun b3 => ?_))
                        · have b3' := (n_lt (by omega) (by omega)).mp b3
                          exact hup (by unfold bet; exact decide_eq_true (by dsimp only; omega))
                        · have b3' : ¬ c2 < (PF d).2 := fun h => b3 ((n_lt (by omega) (by omega)).mpr h)
                          refine hgo _ (hnot ?_) rfl
                          unfold bet; exact decide_eq_false (by dsimp only; omega)
                      · have b2' : ¬ c1 = (PF d).1 := fun h => b2 (by rw [h])
                        exact hup (by unfold bet; exact decide_eq_true (by dsimp only; omega))
    · rw [i_sub1 (by omega)]; omega
    · have : v = nw := by omega
      unfold TbM
      rw [this, hz, (g2 s a3).1, (g2 s a3).2]; exact ⟨rfl, rfl⟩
  · intro j hj
    refine Ev_fix2 (fun x25 I26 => ∃ s, s ≤ 256 ∧ x25 = Int32.ofNat s ∧ (∀ p k, p ≠ 36 → p ≠ 37 → I26 p k = Mc p k) ∧ ∀ s', s' < s → I26 36 (256 * nw + s') = 0 ∧ I26 37 (256 * nw + s') = 0) (fun x25 _ => (600 - x25.toInt).toNat) ?_ FU _ _ (FU_lt (by decide)) ⟨0, by omega, rfl, fun _ _ _ _ => rfl, fun s' h => absurd h (by omega)⟩
    rintro rec x25 I26 ⟨s, hs, rfl, g1, g2⟩ hrec
    refine Ev_if (fun c => ?_) (fun c => ?_)
    · have := (n_le (a := 256) (by omega) (by omega)).mp c
      exact hj _ ⟨g1, fun s' h' => g2 s' (by omega)⟩
    · have hsl : s < 256 := Nat.lt_of_not_le (fun h => c ((n_le (a := 256) (by omega) (by omega)).mpr h))
      have gx : inb (Int32.ofNat (256 * nw + s)) 1792 = true := (n_inb (by omega)).mpr (by omega)
      rw [h15 I26 g1, n_w5]
      refine Ev_gd gx (Ev_ls ?_)
      have h27 : st2 I26 36 (ix (Int32.ofNat (256 * nw + s))) 0 0 15 = Int32.ofNat nw := by rw [st2_ne (by omega)]; exact h15 I26 g1
      rw [h27, n_w5, n_ix (by omega)]
      refine Ev_gd gx (Ev_ls (Ev_ls ?_))
      rw [n_t1]
      refine hrec _ _ ⟨s + 1, by omega, rfl, fun p k a b => by rw [st2_ne b, st2_ne a]; exact g1 p k a b, fun s' h' => ?_⟩ ?_
      · by_cases e : s' = s
        · rw [e, st2_ne (by omega), st2_at, if_pos rfl, st2_at, if_pos rfl]; exact ⟨rfl, rfl⟩
        · rw [s2x (by omega), s2x (by omega), s2x (by omega), s2x (by omega)]; exact g2 s' (by omega)
      · rw [n_toInt (by omega), n_toInt (by omega)]; omega
