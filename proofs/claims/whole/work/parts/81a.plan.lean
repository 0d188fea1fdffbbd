/-! works laid on days: the component -/
def kkw (bk : Nat) (I : MI) (w : Nat) : Nat := (I (bk + 9) w).toInt.toNat
def hhw (bk : Nat) (I : MI) (w : Nat) : Nat := (I (bk + 8) w).toInt.toNat
def cst (bk : Nat) (I : MI) (w : Nat) : Nat := pay bk I (kkw bk I w) (hhw bk I w)
theorem wk_c {bk nk nh nw kn : Nat} {I M : MI} (B : BookR bk I M nk nh nw kn) {w : Nat} (hw : w < nw) : kkw bk I w < nk ∧ hhw bk I w < nh ∧ I (bk + 9) w = Int32.ofNat (kkw bk I w) ∧ I (bk + 8) w = Int32.ofNat (hhw bk I w) ∧ M 15 w = Int32.ofNat (kkw bk I w) ∧ M 14 w = Int32.ofNat (hhw bk I w) ∧ cst bk I w ≤ 891 := by
  have lk := B.lk
  have lh := B.lh
  obtain ⟨z1, a1, a2, a3⟩ := B.wk w hw
  obtain ⟨z2, b1, b2, b3⟩ := B.wh w hw
  have e1 : kkw bk I w = z1 := n_nat (by omega) a2
  have e2 : hhw bk I w = z2 := n_nat (by omega) b2
  unfold cst
  rw [e1, e2]
  exact ⟨a1, b1, a2, b2, a3, b3, pay_le B b1 a1⟩
def frw (bk : Nat) (I : MI) (kd : Nat → Int32) (n w d s : Nat) : Bool := decide (d < n) && (!s.testBit d && decide (kd d = I (bk + 9) w))
def Vw (bk : Nat) (I : MI) (kd : Nat → Int32) (n nw w s : Nat) : Nat × Nat := pV nw (frw bk I kd n) (cst bk I) (nw - w) s
def cdw (bk : Nat) (I : MI) (kd : Nat → Int32) (n nw w s d : Nat) : Nat × Nat := ((Vw bk I kd n nw (w + 1) (s ||| 2 ^ d)).1 + 1, (Vw bk I kd n nw (w + 1) (s ||| 2 ^ d)).2 + cst bk I w)
theorem Vw_s {bk : Nat} {I : MI} {kd : Nat → Int32} {n nw w s : Nat} (hw : w < nw) : Vw bk I kd n nw w s = pF (fun d => frw bk I kd n w d s) (cdw bk I kd n nw w s) (Vw bk I kd n nw (w + 1) s) 8 := by
  unfold Vw cdw
  obtain ⟨j, hj⟩ : ∃ j, nw - w = j + 1 := ⟨nw - w - 1, by omega⟩
  have e1 : nw - (j + 1) = w := by omega
  have e2 : nw - (w + 1) = j := by omega
  unfold Vw
  rw [hj, e2]
  show pF (fun d => frw bk I kd n (nw - (j + 1)) d s) (fun d => ((pV nw (frw bk I kd n) (cst bk I) j (s ||| 2 ^ d)).1 + 1, (pV nw (frw bk I kd n) (cst bk I) j (s ||| 2 ^ d)).2 + cst bk I (nw - (j + 1)))) (pV nw (frw bk I kd n) (cst bk I) j s) 8 = _
  rw [e1]
theorem Vw_ok {bk nk nh nw kn : Nat} {I M : MI} (B : BookR bk I M nk nh nw kn) {kd : Nat → Int32} {n : Nat} (w s : Nat) : okp nw (Vw bk I kd n nw w s) := by
  have h := pV_ok (fr := frw bk I kd n) (nw := nw) (cst := cst bk I) (nw - w) (by omega) (fun w hw => (wk_c B hw).2.2.2.2.2.2) s
  exact ⟨h.1, by have := h.2; unfold Vw; omega⟩
theorem cdw_ok {bk nk nh nw kn : Nat} {I M : MI} (B : BookR bk I M nk nh nw kn) {kd : Nat → Int32} {n w : Nat} (hw : w < nw) (s d : Nat) : okp nw (cdw bk I kd n nw w s d) ∧ val (cdw bk I kd n nw w s d) = 10000 - cst bk I w + val (Vw bk I kd n nw (w + 1) (s ||| 2 ^ d)) := by
  have h := pV_ok (fr := frw bk I kd n) (nw := nw) (cst := cst bk I) (nw - (w + 1)) (by omega) (fun w hw => (wk_c B hw).2.2.2.2.2.2) (s ||| 2 ^ d)
  have hc := (wk_c B hw).2.2.2.2.2.2
  unfold cdw Vw val
  unfold okp at h ⊢
  dsimp only
  omega
/-- what the component's planner keeps as it was -/
def PlI (bk : Nat) (I Ic : MI) (kd : Nat → Int32) (n : Nat) : Prop := (∀ p, ¬ (76 ≤ p ∧ p < 80) → Ic p = I p) ∧ (∀ d, d < n → Ic 77 d = kd d)
theorem p_cost {bk nk nh nw kn n : Nat} {I M Ic : MI} {kd : Nat → Int32} (hbk : bk = 2 ∨ bk = 18) (B : BookR bk I M nk nh nw kn) (P : PlI bk I Ic kd n) {w : Nat} (hw : w < nw) : f_X5_cost Ic bk (Int32.ofNat w) = some (Int32.ofNat (cst bk I w)) := by
  have lw := B.lw
  have g : inb (Int32.ofNat w) 6 = true := (n_inb (by omega)).mpr (by omega)
  obtain ⟨a1, a2, a3, a4, _⟩ := wk_c B hw
  have B' : BookR bk Ic M nk nh nw kn := B.fr (fun p _ _ => P.1 p (by omega)) (fun _ _ _ => rfl) (fun _ _ _ => rfl)
  delta f_X5_cost
  rw [gd_t g, gd_t g, n_ix (by omega), P.1 (bk + 8) (by omega), P.1 (bk + 9) (by omega), a3, a4, p_alone B' a2 a1, bd1_s]
  unfold cst pay nwo nea
  rw [P.1 (bk + 2) (by omega), P.1 (bk + 6) (by omega)]
theorem n_w256 (w s : Nat) : (Int32.ofNat w + 1) * 256 + Int32.ofNat s = Int32.ofNat ((w + 1) * 256 + s) := by
  rw [n_t1, show (256 : Int32) = Int32.ofNat 256 from rfl, n_mul, n_add]
theorem n_v256 (w s : Nat) : Int32.ofNat w * 256 + Int32.ofNat s = Int32.ofNat (w * 256 + s) := by
  rw [show (256 : Int32) = Int32.ofNat 256 from rfl, n_mul, n_add]
theorem or_n {n s d : Nat} (hn : n ≤ 8) (hs : s < 2 ^ n) (hd : d < n) : s < 256 ∧ s ||| 2 ^ d < 2 ^ n := by
  have h8 : 2 ^ n ≤ 256 := Nat.pow_le_pow_right (n := 2) (by decide) hn
  exact ⟨by omega, Nat.or_lt_two_pow hs (Nat.pow_lt_pow_right (by decide) hd)⟩
