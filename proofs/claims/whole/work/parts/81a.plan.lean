/-! works laid on days: the component -/
def kkw (bk : Nat) (I : MI) (w : Nat) : Nat := (I (bk + 9) w).toInt.toNat
def hhw (bk : Nat) (I : MI) (w : Nat) : Nat := (I (bk + 8) w).toInt.toNat
def cst (bk : Nat) (I : MI) (w : Nat) : Nat := pay bk I (kkw bk I w) (hhw bk I w)
theorem wk_c {bk nk nh nw kn : Nat} {I M : MI} (B : BookR bk I M nk nh nw kn) {w : Nat} (hw : w < nw) : kkw bk I w < nk ∧ hhw bk I w < nh ∧ I (bk + 9) w = Int32.ofNat (kkw bk I w) ∧ I (bk + 8) w = Int32.ofNat (hhw bk I w) ∧ M 15 w = Int32.ofNat (kkw bk I w) ∧ M 14 w = Int32.ofNat (hhw bk I w) ∧ cst bk I w ≤ 891 := by
  have lk := B.lk
  have lh := B.lh
  obtain ⟨z1, a1, a2, a3⟩ := B.wk w hw
  obtain ⟨z2, b1, b2, b3⟩ := B.wh w hw
  have e1 : kkw bk I w = z1 := n_nat (by omega) a2
  have e2 : hhw bk I w = z2 := n_nat (by omega) b2
  unfold cst
  rw [e1, e2]
  exact ⟨a1, b1, a2, b2, a3, b3, pay_le B b1 a1⟩
def frw (bk : Nat) (I : MI) (kd : Nat → Int32) (n w d s : Nat) : Bool := decide (d < n) && (!s.testBit d && decide (kd d = I (bk + 9) w))
def Vw (bk : Nat) (I : MI) (kd : Nat → Int32) (n nw w s : Nat) : Nat × Nat := pV nw (frw bk I kd n) (cst bk I) (nw - w) s
def cdw (bk : Nat) (I : MI) (kd : Nat → Int32) (n nw w s d : Nat) : Nat × Nat := ((Vw bk I kd n nw (w + 1) (s ||| 2 ^ d)).1 + 1, (Vw bk I kd n nw (w + 1) (s ||| 2 ^ d)).2 + cst bk I w)
theorem Vw_s {bk : Nat} {I : MI} {kd : Nat → Int32} {n nw w s : Nat} (hw : w < nw) : Vw bk I kd n nw w s = pF (fun d => frw bk I kd n w d s) (cdw bk I kd n nw w s) (Vw bk I kd n nw (w + 1) s) 8 := by
  unfold Vw cdw
  obtain ⟨j, hj⟩ : ∃ j, nw - w = j + 1 := ⟨nw - w - 1, by omega⟩
  have e1 : nw - (j + 1) = w := by omega
  have e2 : nw - (w + 1) = j := by omega
  unfold Vw
  rw [hj, e2]
  show pF (fun d => frw bk I kd n (nw - (j + 1)) d s) (fun d => ((pV nw (frw bk I kd n) (cst bk I) j (s ||| 2 ^ d)).1 + 1, (pV nw (frw bk I kd n) (cst bk I) j (s ||| 2 ^ d)).2 + cst bk I (nw - (j + 1)))) (pV nw (frw bk I kd n) (cst bk I) j s) 8 = _
  rw [e1]
theorem Vw_ok {bk nk nh nw kn : Nat} {I M : MI} (B : BookR bk I M nk nh nw kn) {kd : Nat → Int32} {n : Nat} (w s : Nat) : okp nw (Vw bk I kd n nw w s) := by
  have h := pV_ok (fr := frw bk I kd n) (nw := nw) (cst := cst bk I) (nw - w) (by omega) (fun w hw => (wk_c B hw).2.2.2.2.2.2) s
  exact ⟨h.1, by have := h.2; unfold Vw; omega⟩
theorem cdw_ok {bk nk nh nw kn : Nat} {I M : MI} (B : BookR bk I M nk nh nw kn) {kd : Nat → Int32} {n w : Nat} (hw : w < nw) (s d : Nat) : okp nw (cdw bk I kd n nw w s d) ∧ val (cdw bk I kd n nw w s d) = 10000 - cst bk I w + val (Vw bk I kd n nw (w + 1) (s ||| 2 ^ d)) := by
  have h := pV_ok (fr := frw bk I kd n) (nw := nw) (cst := cst bk I) (nw - (w + 1)) (by omega) (fun w hw => (wk_c B hw).2.2.2.2.2.2) (s ||| 2 ^ d)
  have hc := (wk_c B hw).2.2.2.2.2.2
  unfold cdw Vw val
  unfold okp at h ⊢
  dsimp only
  omega
/-- what the component's planner keeps as it was -/
def PlI (bk : Nat) (I Ic : MI) (kd : Nat → Int32) (n : Nat) : Prop := (∀ p, ¬ (76 ≤ p ∧ p < 80) → Ic p = I p) ∧ (∀ d, d < n → Ic 77 d = kd d)
theorem p_cost {bk nk nh nw kn n : Nat} {I M Ic : MI} {kd : Nat → Int32} (hbk : bk = 2 ∨ bk = 18) (B : BookR bk I M nk nh nw kn) (P : PlI bk I Ic kd n) {w : Nat} (hw : w < nw) : f_X5_cost Ic bk (Int32.ofNat w) = some (Int32.ofNat (cst bk I w)) := by
  have lw := B.lw
  have g : inb (Int32.ofNat w) 6 = true := (n_inb (by omega)).mpr (by omega)
  obtain ⟨a1, a2, a3, a4, _⟩ := wk_c B hw
  have B' : BookR bk Ic M nk nh nw kn := B.fr (fun p _ _ => P.1 p (by omega)) (fun _ _ _ => rfl) (fun _ _ _ => rfl)
  delta f_X5_cost
  rw [gd_t g, gd_t g, n_ix (by omega), P.1 (bk + 8) (by omega), P.1 (bk + 9) (by omega), a3, a4, p_alone B' a2 a1, bd1_s]
  unfold cst pay nwo nea
  rw [P.1 (bk + 2) (by omega), P.1 (bk + 6) (by omega)]
theorem p_isFree {bk nk nh nw kn n : Nat} {I M Ic : MI} {kd : Nat → Int32} (hbk : bk = 2 ∨ bk = 18) (B : BookR bk I M nk nh nw kn) (P : PlI bk I Ic kd n) (hn : n ≤ 8) {w d s : Nat} (hw : w < nw) (hd : d < n) (hs : s < 256) : f_X5_isFree Ic bk (Int32.ofNat w) (Int32.ofNat d) (Int32.ofNat s) = some (frw bk I kd n w d s) := by
  have lw := B.lw
  delta f_X5_isFree
  rw [am_is, (b8 ⟨s, hs⟩ ⟨d, by omega⟩).1, bd1_s]
  simp only [lt]
  unfold frw
  rw [decide_eq_true hd, Bool.true_and]
  cases hb : s.testBit d with
  | true => rfl
  | false =>
    rw [if_neg (by decide), gd_t ((n_inb (by omega)).mpr (by omega)), gd_t ((n_inb (by omega)).mpr (by omega)), n_ix (by omega), n_ix (by omega), P.2 d hd, P.1 (bk + 9) (by omega)]
    by_cases c : kd d = I (bk + 9) w
    · rw [if_pos c, decide_eq_true c]; rfl
    · rw [if_neg c, decide_eq_false c]; rfl
theorem n_w256 (w s : Nat) : (Int32.ofNat w + 1) * 256 + Int32.ofNat s = Int32.ofNat ((w + 1) * 256 + s) := by
  rw [n_t1, show (256 : Int32) = Int32.ofNat 256 from rfl, n_mul, n_add]
theorem n_v256 (w s : Nat) : Int32.ofNat w * 256 + Int32.ofNat s = Int32.ofNat (w * 256 + s) := by
  rw [show (256 : Int32) = Int32.ofNat 256 from rfl, n_mul, n_add]
theorem or_n {n s d : Nat} (hn : n ≤ 8) (hs : s < 2 ^ n) (hd : d < n) : s < 256 ∧ s ||| 2 ^ d < 2 ^ n := by
  have h8 : 2 ^ n ≤ 256 := Nat.pow_le_pow_right (n := 2) (by decide) hn
  exact ⟨by omega, Nat.or_lt_two_pow hs (Nat.pow_lt_pow_right (by decide) hd)⟩
theorem p_bestOn {bk nk nh nw kn n : Nat} {I M Ic : MI} {kd : Nat → Int32} (hbk : bk = 2 ∨ bk = 18) (B : BookR bk I M nk nh nw kn) (P : PlI bk I Ic kd n) (hn : n ≤ 8) {w d s : Nat} (hw : w < nw) (hd : d < n) (hs : s < 2 ^ n) (hT : ∀ s, s < 2 ^ n → Ic 78 ((w + 1) * 256 + s) = Int32.ofNat (val (Vw bk I kd n nw (w + 1) s))) : f_X5_bestOn Ic bk (Int32.ofNat w) (Int32.ofNat d) (Int32.ofNat s) = some (Int32.ofNat (val (cdw bk I kd n nw w s d))) := by
  have lw := B.lw
  obtain ⟨hs8, ho⟩ := or_n hn hs hd
  have h8 := b8 ⟨s, hs8⟩ ⟨d, by omega⟩
  simp only at h8
  have hc := (wk_c B hw).2.2.2.2.2.2
  delta f_X5_bestOn
  rw [p_cost hbk B P hw, bd1_s, h8.2.1, n_w256, gd_t ((n_inb (by omega)).mpr (by omega)), n_ix (by omega), hT _ ho, show (10000 : Int32) = Int32.ofNat 10000 from rfl, n_sub (by omega), n_add, (cdw_ok B hw s d).2]
theorem p_bestOf {bk nk nh nw kn n : Nat} {I M Ic : MI} {kd : Nat → Int32} (hbk : bk = 2 ∨ bk = 18) (B : BookR bk I M nk nh nw kn) (P : PlI bk I Ic kd n) (hn : n ≤ 8) {w s : Nat} (hw : w < nw) (hs : s < 2 ^ n) (hT : ∀ s, s < 2 ^ n → Ic 78 ((w + 1) * 256 + s) = Int32.ofNat (val (Vw bk I kd n nw (w + 1) s))) : f_X5_bestOf Ic bk (Int32.ofNat n) (Int32.ofNat w) (Int32.ofNat s) = some (Int32.ofNat (val (Vw bk I kd n nw w s))) := by
  have lw := B.lw
  have h8 : 2 ^ n ≤ 256 := Nat.pow_le_pow_right (n := 2) (by decide) hn
  apply Ev_eq
  delta f_X5_bestOf
  rw [n_w256]
  refine Ev_gd ((n_inb (by omega)).mpr (by omega)) (Ev_ls ?_)
  rw [n_ix (by omega), hT s hs]
  have hpf : ∀ e, n ≤ e → (fun d => frw bk I kd n w d s) e = false := fun e he => by
    show frw bk I kd n w e s = false
    unfold frw; rw [decide_eq_false (by omega)]; rfl
  have hV : Vw bk I kd n nw w s = pF (fun d => frw bk I kd n w d s) (cdw bk I kd n nw w s) (Vw bk I kd n nw (w + 1) s) n := by
    rw [Vw_s hw]; exact pF_ge 8 n hn hpf
  have hok : ∀ d, okp nw (pF (fun d => frw bk I kd n w d s) (cdw bk I kd n nw w s) (Vw bk I kd n nw (w + 1) s) d) := fun d => by
    rcases pF_c (fr := fun d => frw bk I kd n w d s) (cd := cdw bk I kd n nw w s) (p0 := Vw bk I kd n nw (w + 1) s) d with h | ⟨e, _, _, h⟩
    · rw [h]; exact Vw_ok B (w + 1) s
    · rw [h]; exact (cdw_ok B hw s e).1
  rw [hV]
  refine Ev_fix2 (fun x2 x3 => ∃ d, d ≤ n ∧ x3 = Int32.ofNat d ∧ x2 = Int32.ofNat (val (pF (fun d => frw bk I kd n w d s) (cdw bk I kd n nw w s) (Vw bk I kd n nw (w + 1) s) d))) (fun _ x3 => (80 - x3.toInt).toNat) ?_ FU _ _ (FU_lt (by decide)) ⟨0, by omega, rfl, rfl⟩
  rintro rec x2 x3 ⟨d, hd, rfl, rfl⟩ hrec
  refine Ev_if (fun c => ?_) (fun c => ?_)
  · have := (n_le (by omega) (by omega)).mp c
    have : d = n := by omega
    subst this
    exact Ev_some rfl
  · have hlt : d < n := Nat.lt_of_not_le (fun h => c ((n_le (by omega) (by omega)).mpr h))
    have hps : pF (fun d => frw bk I kd n w d s) (cdw bk I kd n nw w s) (Vw bk I kd n nw (w + 1) s) (d + 1) = if frw bk I kd n w d s then (if bet (cdw bk I kd n nw w s d) (pF (fun d => frw bk I kd n w d s) (cdw bk I kd n nw w s) (Vw bk I kd n nw (w + 1) s) d) then cdw bk I kd n nw w s d else pF (fun d => frw bk I kd n w d s) (cdw bk I kd n nw w s) (Vw bk I kd n nw (w + 1) s) d) else pF (fun d => frw bk I kd n w d s) (cdw bk I kd n nw w s) (Vw bk I kd n nw (w + 1) s) d := rfl
    have hgo : ∀ z, z = val (pF (fun d => frw bk I kd n w d s) (cdw bk I kd n nw w s) (Vw bk I kd n nw (w + 1) s) (d + 1)) → Ev (rec (Int32.ofNat z) (Int32.ofNat d + 1)) (fun a => a = Int32.ofNat (val (pF (fun d => frw bk I kd n w d s) (cdw bk I kd n nw w s) (Vw bk I kd n nw (w + 1) s) n))) := fun z hz => by
      rw [n_t1]
      refine hrec _ _ ⟨d + 1, by omega, rfl, by rw [hz]⟩ ?_
      rw [n_toInt (by omega), n_toInt (by omega)]; omega
    rw [p_isFree hbk B P hn hw hlt (by omega), bd1_s]
    refine Ev_ls ?_
    cases hf : frw bk I kd n w d s with
    | false =>
      rw [hf] at hps
      refine hgo _ ?_
      rw [hps]; rfl
    | true =>
      rw [hf, if_pos rfl] at hps
      rw [if_pos rfl, p_bestOn hbk B P hn hw hlt hs hT, bd1_s]
      have hb := val_b lw (hok d) (cdw_ok (kd := kd) (n := n) B hw s d).1
      have l1 := val_lt lw (hok d)
      have l2 := val_lt lw (cdw_ok (kd := kd) (n := n) B hw s d).1
      refine Ev_ls ?_
      rw [n_max (by omega) (by omega), hb.2]
      refine hgo _ ?_
      rw [hps]
