/-! a town as it goes: the component's at pt against the model's half b, for the houses of H -/
def TwR (H : Nat → Bool) (I : MI) (pt : Nat) (pu bi us lo ti : Nat → Int32) (su dn dy : Nat) (du se : Int32) (nk nh : Nat) : Prop := (∀ h, h < nh → H h = true → I (pt + 1) h = pu h) ∧ (∀ h, h < nh → H h = true → I (pt + 2) h = bi h) ∧ (∀ h, h < nh → H h = true → I (pt + 3) h = us h) ∧ (∀ h, h < nh → H h = true → I (pt + 4) h = lo h) ∧ (∀ h, h < nh → H h = true → I (pt + 5) h = if su.testBit h then 1 else 0) ∧ (∀ h, h < nh → H h = true → I (pt + 6) h = if dn.testBit h then 1 else 0) ∧ (∀ h, h < 6 → is01 (I (pt + 5) h) = true) ∧ (∀ h, h < 6 → is01 (I (pt + 6) h) = true) ∧ (∀ h, nh ≤ h → h < 6 → I (pt + 1) h = 0 ∧ I (pt + 2) h = 0 ∧ I (pt + 3) h = 0 ∧ I (pt + 4) h = 0 ∧ I (pt + 5) h = 0 ∧ I (pt + 6) h = 0) ∧ (su < 64) ∧ (∀ h, nh ≤ h → h < 6 → su.testBit h = false) ∧ (dn < 64) ∧ (∀ k, k < 6 → I (pt + 7) k = ti k) ∧ (I pt 7 = du) ∧ (I pt 8 = Int32.ofNat dy) ∧ (I pt 9 = se) ∧ (se = -1 ∨ ∃ k, k < nk ∧ se = Int32.ofNat k) ∧ (∀ h, h < nh → H h = true → -99999 ≤ (pu h).toInt ∧ (pu h).toInt ≤ 99999 ∧ (su.testBit h = false → 0 ≤ (pu h).toInt)) ∧ (∀ h, h < nh → H h = true → -99999 ≤ (bi h).toInt ∧ (bi h).toInt ≤ 99999) ∧ (∀ h, h < nh → H h = true → 0 ≤ (us h).toInt ∧ (us h).toInt ≤ 99999)
theorem TwR.pu {H : Nat → Bool} {I : MI} {pt : Nat} {pu bi us lo ti : Nat → Int32} {su dn dy : Nat} {du se : Int32} {nk nh : Nat} (B_ : TwR H I pt pu bi us lo ti su dn dy du se nk nh) : ∀ h, h < nh → H h = true → I (pt + 1) h = pu h := B_.1
theorem TwR.bi {H : Nat → Bool} {I : MI} {pt : Nat} {pu bi us lo ti : Nat → Int32} {su dn dy : Nat} {du se : Int32} {nk nh : Nat} (B_ : TwR H I pt pu bi us lo ti su dn dy du se nk nh) : ∀ h, h < nh → H h = true → I (pt + 2) h = bi h := B_.2.1
theorem TwR.us {H : Nat → Bool} {I : MI} {pt : Nat} {pu bi us lo ti : Nat → Int32} {su dn dy : Nat} {du se : Int32} {nk nh : Nat} (B_ : TwR H I pt pu bi us lo ti su dn dy du se nk nh) : ∀ h, h < nh → H h = true → I (pt + 3) h = us h := B_.2.2.1
theorem TwR.lo {H : Nat → Bool} {I : MI} {pt : Nat} {pu bi us lo ti : Nat → Int32} {su dn dy : Nat} {du se : Int32} {nk nh : Nat} (B_ : TwR H I pt pu bi us lo ti su dn dy du se nk nh) : ∀ h, h < nh → H h = true → I (pt + 4) h = lo h := B_.2.2.2.1
theorem TwR.so {H : Nat → Bool} {I : MI} {pt : Nat} {pu bi us lo ti : Nat → Int32} {su dn dy : Nat} {du se : Int32} {nk nh : Nat} (B_ : TwR H I pt pu bi us lo ti su dn dy du se nk nh) : ∀ h, h < nh → H h = true → I (pt + 5) h = if su.testBit h then 1 else 0 := B_.2.2.2.2.1
theorem TwR.dw {H : Nat → Bool} {I : MI} {pt : Nat} {pu bi us lo ti : Nat → Int32} {su dn dy : Nat} {du se : Int32} {nk nh : Nat} (B_ : TwR H I pt pu bi us lo ti su dn dy du se nk nh) : ∀ h, h < nh → H h = true → I (pt + 6) h = if dn.testBit h then 1 else 0 := B_.2.2.2.2.2.1
theorem TwR.z5 {H : Nat → Bool} {I : MI} {pt : Nat} {pu bi us lo ti : Nat → Int32} {su dn dy : Nat} {du se : Int32} {nk nh : Nat} (B_ : TwR H I pt pu bi us lo ti su dn dy du se nk nh) : ∀ h, h < 6 → is01 (I (pt + 5) h) = true := B_.2.2.2.2.2.2.1
theorem TwR.z6 {H : Nat → Bool} {I : MI} {pt : Nat} {pu bi us lo ti : Nat → Int32} {su dn dy : Nat} {du se : Int32} {nk nh : Nat} (B_ : TwR H I pt pu bi us lo ti su dn dy du se nk nh) : ∀ h, h < 6 → is01 (I (pt + 6) h) = true := B_.2.2.2.2.2.2.2.1
theorem TwR.ze {H : Nat → Bool} {I : MI} {pt : Nat} {pu bi us lo ti : Nat → Int32} {su dn dy : Nat} {du se : Int32} {nk nh : Nat} (B_ : TwR H I pt pu bi us lo ti su dn dy du se nk nh) : ∀ h, nh ≤ h → h < 6 → I (pt + 1) h = 0 ∧ I (pt + 2) h = 0 ∧ I (pt + 3) h = 0 ∧ I (pt + 4) h = 0 ∧ I (pt + 5) h = 0 ∧ I (pt + 6) h = 0 := B_.2.2.2.2.2.2.2.2.1
theorem TwR.sl {H : Nat → Bool} {I : MI} {pt : Nat} {pu bi us lo ti : Nat → Int32} {su dn dy : Nat} {du se : Int32} {nk nh : Nat} (B_ : TwR H I pt pu bi us lo ti su dn dy du se nk nh) : su < 64 := B_.2.2.2.2.2.2.2.2.2.1
theorem TwR.sz {H : Nat → Bool} {I : MI} {pt : Nat} {pu bi us lo ti : Nat → Int32} {su dn dy : Nat} {du se : Int32} {nk nh : Nat} (B_ : TwR H I pt pu bi us lo ti su dn dy du se nk nh) : ∀ h, nh ≤ h → h < 6 → su.testBit h = false := B_.2.2.2.2.2.2.2.2.2.2.1
theorem TwR.dl {H : Nat → Bool} {I : MI} {pt : Nat} {pu bi us lo ti : Nat → Int32} {su dn dy : Nat} {du se : Int32} {nk nh : Nat} (B_ : TwR H I pt pu bi us lo ti su dn dy du se nk nh) : dn < 64 := B_.2.2.2.2.2.2.2.2.2.2.2.1
theorem TwR.ti {H : Nat → Bool} {I : MI} {pt : Nat} {pu bi us lo ti : Nat → Int32} {su dn dy : Nat} {du se : Int32} {nk nh : Nat} (B_ : TwR H I pt pu bi us lo ti su dn dy du se nk nh) : ∀ k, k < 6 → I (pt + 7) k = ti k := B_.2.2.2.2.2.2.2.2.2.2.2.2.1
theorem TwR.du {H : Nat → Bool} {I : MI} {pt : Nat} {pu bi us lo ti : Nat → Int32} {su dn dy : Nat} {du se : Int32} {nk nh : Nat} (B_ : TwR H I pt pu bi us lo ti su dn dy du se nk nh) : I pt 7 = du := B_.2.2.2.2.2.2.2.2.2.2.2.2.2.1
theorem TwR.y1 {H : Nat → Bool} {I : MI} {pt : Nat} {pu bi us lo ti : Nat → Int32} {su dn dy : Nat} {du se : Int32} {nk nh : Nat} (B_ : TwR H I pt pu bi us lo ti su dn dy du se nk nh) : I pt 8 = Int32.ofNat dy := B_.2.2.2.2.2.2.2.2.2.2.2.2.2.2.1
theorem TwR.se {H : Nat → Bool} {I : MI} {pt : Nat} {pu bi us lo ti : Nat → Int32} {su dn dy : Nat} {du se : Int32} {nk nh : Nat} (B_ : TwR H I pt pu bi us lo ti su dn dy du se nk nh) : I pt 9 = se := B_.2.2.2.2.2.2.2.2.2.2.2.2.2.2.2.1
theorem TwR.sx {H : Nat → Bool} {I : MI} {pt : Nat} {pu bi us lo ti : Nat → Int32} {su dn dy : Nat} {du se : Int32} {nk nh : Nat} (B_ : TwR H I pt pu bi us lo ti su dn dy du se nk nh) : se = -1 ∨ ∃ k, k < nk ∧ se = Int32.ofNat k := B_.2.2.2.2.2.2.2.2.2.2.2.2.2.2.2.2.1
theorem TwR.pb {H : Nat → Bool} {I : MI} {pt : Nat} {pu bi us lo ti : Nat → Int32} {su dn dy : Nat} {du se : Int32} {nk nh : Nat} (B_ : TwR H I pt pu bi us lo ti su dn dy du se nk nh) : ∀ h, h < nh → H h = true → -99999 ≤ (pu h).toInt ∧ (pu h).toInt ≤ 99999 ∧ (su.testBit h = false → 0 ≤ (pu h).toInt) := B_.2.2.2.2.2.2.2.2.2.2.2.2.2.2.2.2.2.1
theorem TwR.bb {H : Nat → Bool} {I : MI} {pt : Nat} {pu bi us lo ti : Nat → Int32} {su dn dy : Nat} {du se : Int32} {nk nh : Nat} (B_ : TwR H I pt pu bi us lo ti su dn dy du se nk nh) : ∀ h, h < nh → H h = true → -99999 ≤ (bi h).toInt ∧ (bi h).toInt ≤ 99999 := B_.2.2.2.2.2.2.2.2.2.2.2.2.2.2.2.2.2.2.1
theorem TwR.ub {H : Nat → Bool} {I : MI} {pt : Nat} {pu bi us lo ti : Nat → Int32} {su dn dy : Nat} {du se : Int32} {nk nh : Nat} (B_ : TwR H I pt pu bi us lo ti su dn dy du se nk nh) : ∀ h, h < nh → H h = true → 0 ≤ (us h).toInt ∧ (us h).toInt ≤ 99999 := B_.2.2.2.2.2.2.2.2.2.2.2.2.2.2.2.2.2.2.2
/-- the model's half b, with what the day's going asks for -/
def PsR (H : Nat → Bool) (bk : Nat) (I : MI) (pt : Nat) (M : MI) (J2 : MJ) (b su dn dy nk nh : Nat) : Prop := (TwR H I pt (fun h => M 26 (6 * b + h)) (fun h => M 27 (6 * b + h)) (fun h => M 28 (6 * b + h)) (fun h => M 29 (6 * b + h)) (fun k => M 30 (6 * b + k)) su dn dy (M 34 b) (M 33 b) nk nh) ∧ (M 31 b = Int32.ofNat su) ∧ (M 32 b = Int32.ofNat dn) ∧ (M 35 b = Int32.ofNat dy) ∧ (I 62 1 = M 0 63) ∧ (I 62 2 = M 0 64) ∧ (I 62 3 = M 0 65) ∧ (I 62 4 = M 0 66) ∧ (J2 0 62 = (I pt 10).toInt64) ∧ (0 ≤ (I pt 10).toInt)
theorem PsR.tw {H : Nat → Bool} {bk : Nat} {I : MI} {pt : Nat} {M : MI} {J2 : MJ} {b su dn dy nk nh : Nat} (B_ : PsR H bk I pt M J2 b su dn dy nk nh) : TwR H I pt (fun h => M 26 (6 * b + h)) (fun h => M 27 (6 * b + h)) (fun h => M 28 (6 * b + h)) (fun h => M 29 (6 * b + h)) (fun k => M 30 (6 * b + k)) su dn dy (M 34 b) (M 33 b) nk nh := B_.1
theorem PsR.s2 {H : Nat → Bool} {bk : Nat} {I : MI} {pt : Nat} {M : MI} {J2 : MJ} {b su dn dy nk nh : Nat} (B_ : PsR H bk I pt M J2 b su dn dy nk nh) : M 31 b = Int32.ofNat su := B_.2.1
theorem PsR.d2 {H : Nat → Bool} {bk : Nat} {I : MI} {pt : Nat} {M : MI} {J2 : MJ} {b su dn dy nk nh : Nat} (B_ : PsR H bk I pt M J2 b su dn dy nk nh) : M 32 b = Int32.ofNat dn := B_.2.2.1
theorem PsR.y2 {H : Nat → Bool} {bk : Nat} {I : MI} {pt : Nat} {M : MI} {J2 : MJ} {b su dn dy nk nh : Nat} (B_ : PsR H bk I pt M J2 b su dn dy nk nh) : M 35 b = Int32.ofNat dy := B_.2.2.2.1
theorem PsR.f1 {H : Nat → Bool} {bk : Nat} {I : MI} {pt : Nat} {M : MI} {J2 : MJ} {b su dn dy nk nh : Nat} (B_ : PsR H bk I pt M J2 b su dn dy nk nh) : I 62 1 = M 0 63 := B_.2.2.2.2.1
theorem PsR.f2 {H : Nat → Bool} {bk : Nat} {I : MI} {pt : Nat} {M : MI} {J2 : MJ} {b su dn dy nk nh : Nat} (B_ : PsR H bk I pt M J2 b su dn dy nk nh) : I 62 2 = M 0 64 := B_.2.2.2.2.2.1
theorem PsR.f3 {H : Nat → Bool} {bk : Nat} {I : MI} {pt : Nat} {M : MI} {J2 : MJ} {b su dn dy nk nh : Nat} (B_ : PsR H bk I pt M J2 b su dn dy nk nh) : I 62 3 = M 0 65 := B_.2.2.2.2.2.2.1
theorem PsR.f4 {H : Nat → Bool} {bk : Nat} {I : MI} {pt : Nat} {M : MI} {J2 : MJ} {b su dn dy nk nh : Nat} (B_ : PsR H bk I pt M J2 b su dn dy nk nh) : I 62 4 = M 0 66 := B_.2.2.2.2.2.2.2.1
theorem PsR.nu {H : Nat → Bool} {bk : Nat} {I : MI} {pt : Nat} {M : MI} {J2 : MJ} {b su dn dy nk nh : Nat} (B_ : PsR H bk I pt M J2 b su dn dy nk nh) : J2 0 62 = (I pt 10).toInt64 := B_.2.2.2.2.2.2.2.2.1
theorem PsR.n0 {H : Nat → Bool} {bk : Nat} {I : MI} {pt : Nat} {M : MI} {J2 : MJ} {b su dn dy nk nh : Nat} (B_ : PsR H bk I pt M J2 b su dn dy nk nh) : 0 ≤ (I pt 10).toInt := B_.2.2.2.2.2.2.2.2.2
/-- what a day's going changes -/
def FrP (pt b : Nat) (I I' M M' : MI) (J J' : MJ) : Prop := (∀ p, ¬ (pt ≤ p ∧ p < pt + 8) → I' p = I p) ∧ (∀ p k, ¬ (p = 0 ∧ k = 51) → ¬ (26 ≤ p ∧ p < 31 ∧ 6 * b ≤ k ∧ k < 6 * b + 6) → ¬ (31 ≤ p ∧ p < 36 ∧ k = b) → M' p k = M p k) ∧ (∀ p k, p ≠ 24 → p ≠ 25 → J' p k = J p k)
theorem FrP.rf (pt b : Nat) (I M : MI) (J : MJ) : FrP pt b I I M M J J := ⟨fun _ _ => rfl, fun _ _ _ _ _ => rfl, fun _ _ _ _ => rfl⟩
theorem FrP.tr {pt b : Nat} {I I' I'' M M' M'' : MI} {J J' J'' : MJ} (h : FrP pt b I I' M M' J J') (h' : FrP pt b I' I'' M' M'' J' J'') : FrP pt b I I'' M M'' J J'' :=
  ⟨fun p a => (h'.1 p a).trans (h.1 p a), fun p k a c d => (h'.2.1 p k a c d).trans (h.2.1 p k a c d), fun p k a c => (h'.2.2 p k a c).trans (h.2.2 p k a c)⟩
theorem FrP.mrow {pt b : Nat} {I I' M M' : MI} {J J' : MJ} (h : FrP pt b I I' M M' J J') {p : Nat} (h0 : p ≠ 0) (hp : ¬ (26 ≤ p ∧ p < 36)) : M' p = M p := by
  funext k
  exact h.2.1 p k (fun e => h0 e.1) (fun e => hp ⟨e.1, by omega⟩) (fun e => hp ⟨by omega, e.2.1⟩)
theorem FrP.bkI {pt b : Nat} {I I' M M' : MI} {J J' : MJ} (h : FrP pt b I I' M M' J J') {bk : Nat} (hbk : bk = 2 ∨ bk = 18) (hpt : 38 ≤ pt) : ∀ p, bk ≤ p → p < bk + 16 → I' p = I p := fun p _ _ => h.1 p (by omega)
theorem FrP.bkM {pt b : Nat} {I I' M M' : MI} {J J' : MJ} (h : FrP pt b I I' M M' J J') : ∀ p, 4 ≤ p → p < 22 → M' p = M p := fun p _ _ => h.mrow (by omega) (by omega)
theorem FrP.bk0 {pt b : Nat} {I I' M M' : MI} {J J' : MJ} (h : FrP pt b I I' M M' J J') : ∀ k, 12 ≤ k → k < 17 → M' 0 k = M 0 k := fun k _ _ => h.2.1 0 k (by omega) (by omega) (by omega)
/-- the same of a whole day, or of many, where a number may be drawn -/
def FrX (pt b : Nat) (I I' M M' : MI) (J J' : MJ) : Prop := (∀ p, ¬ (pt ≤ p ∧ p < pt + 8) → I' p = I p) ∧ (∀ p k, ¬ (p = 0 ∧ k = 51) → ¬ (26 ≤ p ∧ p < 31 ∧ 6 * b ≤ k ∧ k < 6 * b + 6) → ¬ (31 ≤ p ∧ p < 36 ∧ k = b) → M' p k = M p k) ∧ (∀ p k, p ≠ 24 → p ≠ 25 → ¬ (p = 0 ∧ k = 62) → J' p k = J p k) ∧ (I 62 1 = 0 → J' 0 62 = J 0 62)
theorem FrX.rf (pt b : Nat) (I M : MI) (J : MJ) : FrX pt b I I M M J J := ⟨fun _ _ => rfl, fun _ _ _ _ _ => rfl, fun _ _ _ _ _ => rfl, fun _ => rfl⟩
theorem FrX.tr {pt b : Nat} (hp : pt ≤ 46) {I I' I'' M M' M'' : MI} {J J' J'' : MJ} (h : FrX pt b I I' M M' J J') (h' : FrX pt b I' I'' M' M'' J' J'') : FrX pt b I I'' M M'' J J'' :=
  ⟨fun p a => (h'.1 p a).trans (h.1 p a), fun p k a c d => (h'.2.1 p k a c d).trans (h.2.1 p k a c d), fun p k a c d => (h'.2.2.1 p k a c d).trans (h.2.2.1 p k a c d), fun e => (h'.2.2.2 (by rw [h.1 62 (by omega)]; exact e)).trans (h.2.2.2 e)⟩
theorem FrX.mrow {pt b : Nat} {I I' M M' : MI} {J J' : MJ} (h : FrX pt b I I' M M' J J') {p : Nat} (h0 : p ≠ 0) (hp : ¬ (26 ≤ p ∧ p < 36)) : M' p = M p := by
  funext k
  exact h.2.1 p k (fun e => h0 e.1) (fun e => hp ⟨e.1, by omega⟩) (fun e => hp ⟨by omega, e.2.1⟩)
theorem FrX.bkI {pt b : Nat} {I I' M M' : MI} {J J' : MJ} (h : FrX pt b I I' M M' J J') {bk : Nat} (hbk : bk = 2 ∨ bk = 18) (hpt : 38 ≤ pt) : ∀ p, bk ≤ p → p < bk + 16 → I' p = I p := fun p _ _ => h.1 p (by omega)
theorem FrX.bkM {pt b : Nat} {I I' M M' : MI} {J J' : MJ} (h : FrX pt b I I' M M' J J') : ∀ p, 4 ≤ p → p < 22 → M' p = M p := fun p _ _ => h.mrow (by omega) (by omega)
theorem FrX.bk0 {pt b : Nat} {I I' M M' : MI} {J J' : MJ} (h : FrX pt b I I' M M' J J') : ∀ k, 12 ≤ k → k < 17 → M' 0 k = M 0 k := fun k _ _ => h.2.1 0 k (by omega) (by omega) (by omega)
/-! bills are paid -/
theorem p_pay {bk pt h : Nat} {I : MI} (hh : h < 6) : f_X1_pay I bk pt (Int32.ofNat h) = some (st2 (st2 (st2 I (pt + 1) h (imin 99999 (I (pt + 1) h + I (bk + 7) h - I (pt + 2) h))) (pt + 2) h 0) (pt + 5) h (if (0 : Int32) ≤ I (pt + 1) h + I (bk + 7) h - I (pt + 2) h then 0 else 1)) := by
  have g : inb (Int32.ofNat h) 6 = true := (n_inb (by omega)).mpr (by omega)
  delta f_X1_pay
  simp only [lt]
  rw [gd_t g, gd_t g, gd_t g, gd_t g, gd_t g, n_ix (by omega)]
  by_cases c : (0 : Int32) ≤ I (pt + 1) h + I (bk + 7) h - I (pt + 2) h
  · rw [if_pos c, if_pos c, gd_t (show is01 (bi false) = true from rfl), gd_t g]; rfl
  · rw [if_neg c, if_neg c, gd_t (show is01 (bi true) = true from rfl), gd_t g]; rfl
theorem or_p : ∀ s : Fin 64, ∀ h : Fin 6, Int32.ofNat s.1 ||| ((1 : Int32) <<< (Int32.ofNat h.1 &&& 31)) = Int32.ofNat (s.1 ||| 2 ^ h.1) ∧ s.1 ||| 2 ^ h.1 < 64 ∧ ∀ j : Fin 6, (s.1 ||| 2 ^ h.1).testBit j.1 = (s.1.testBit j.1 || decide (j.1 = h.1)) := by decide +kernel
theorem m_pays {b h su : Nat} {M : MI} (hb : b ≤ 1) (hh : h < 6) (hs : su < 64) (hs2 : M 31 b = Int32.ofNat su) : ∃ M', f_X11_pays M (Int32.ofNat b) (Int32.ofNat h) = some M' ∧ (∀ p k, ¬ (p = 26 ∧ k = 6 * b + h) → ¬ (p = 27 ∧ k = 6 * b + h) → ¬ (p = 31 ∧ k = b) → M' p k = M p k) ∧ M' 26 (6 * b + h) = (if M 26 (6 * b + h) + M 11 h - M 27 (6 * b + h) ≤ 99999 then M 26 (6 * b + h) + M 11 h - M 27 (6 * b + h) else 99999) ∧ M' 27 (6 * b + h) = 0 ∧ M' 31 b = Int32.ofNat (if (0 : Int32) ≤ M 26 (6 * b + h) + M 11 h - M 27 (6 * b + h) then su else su ||| 2 ^ h) := by
  obtain ⟨x, hx⟩ : ∃ x, x = 6 * b + h := ⟨_, rfl⟩
  rw [← hx]
  have gx : inb (Int32.ofNat x) 12 = true := (n_inb (by omega)).mpr (by omega)
  have gh : inb (Int32.ofNat h) 12 = true := (n_inb (by omega)).mpr (by omega)
  have gb : inb (Int32.ofNat b) 2 = true := (n_inb (by omega)).mpr (by omega)
  have ho := (or_p ⟨su, hs⟩ ⟨h, hh⟩).1
  simp only at ho
  delta f_X11_pays
  simp only [lt]
  rw [n_6b, ← hx, gd_t gx, gd_t gh, gd_t gx, gd_t gx, gd_t gx, gd_t gb, gd_t gb, n_ix (show x < 2147483648 by omega), n_ix (show h < 2147483648 by omega), n_ix (show b < 2147483648 by omega)]
  obtain ⟨y, hy⟩ : ∃ y, y = M 26 x + M 11 h - M 27 x := ⟨_, rfl⟩
  rw [← hy]
  obtain ⟨w, hw⟩ : ∃ w, w = (if y ≤ 99999 then y else 99999) := ⟨_, rfl⟩
  have hr : ∀ v : Int32, (∀ p k, ¬ (p = 26 ∧ k = x) → ¬ (p = 27 ∧ k = x) → ¬ (p = 31 ∧ k = b) → st2 (st2 (st2 M 26 x w) 27 x 0) 31 b v p k = M p k) ∧ (∀ p k, ¬ (p = 26 ∧ k = x) → ¬ (p = 27 ∧ k = x) → ¬ (p = 31 ∧ k = b) → st2 (st2 M 26 x w) 27 x 0 p k = M p k) := fun v => by
    have h1 : ∀ (N : MI) (q j : Nat) (v : Int32) p k, ¬ (p = q ∧ k = j) → st2 N q j v p k = N p k := fun N q j v p k hn => by
      unfold st2
      by_cases e : p = q
      · subst e
        rw [if_pos rfl]
        show (if k = j then v else N p k) = _
        rw [if_neg (fun e => hn ⟨rfl, e⟩)]
      · rw [if_neg e]
    exact ⟨fun p k a b c => by rw [h1 _ _ _ _ p k c, h1 _ _ _ _ p k b, h1 _ _ _ _ p k a], fun p k a b _ => by rw [h1 _ _ _ _ p k b, h1 _ _ _ _ p k a]⟩
  have e31 : st2 (st2 M 26 x w) 27 x 0 31 b = M 31 b := by rw [st2_ne (by omega), st2_ne (by omega)]
  have hfin : ∃ M', (if (0 : Int32) ≤ y then some (st2 (st2 M 26 x w) 27 x 0) else some (st2 (st2 (st2 M 26 x w) 27 x 0) 31 b (st2 (st2 M 26 x w) 27 x 0 31 b ||| ((1 : Int32) <<< (Int32.ofNat h &&& 31))))) = some M' ∧ (∀ p k, ¬ (p = 26 ∧ k = x) → ¬ (p = 27 ∧ k = x) → ¬ (p = 31 ∧ k = b) → M' p k = M p k) ∧ M' 26 x = w ∧ M' 27 x = 0 ∧ M' 31 b = Int32.ofNat (if (0 : Int32) ≤ y then su else su ||| 2 ^ h) := by
    by_cases c : (0 : Int32) ≤ y
    · rw [if_pos c, if_pos c]
      refine ⟨_, rfl, (hr 0).2, ?_, ?_, ?_⟩
      · rw [st2_ne (by omega), st2_at, if_pos rfl]
      · rw [st2_at, if_pos rfl]
      · rw [e31, hs2]
    · rw [if_neg c, if_neg c, e31, hs2, ho]
      refine ⟨_, rfl, (hr _).1, ?_, ?_, ?_⟩
      · rw [st2_ne (by omega), st2_ne (by omega), st2_at, if_pos rfl]
      · rw [st2_ne (by omega), st2_at, if_pos rfl]
      · rw [st2_at, if_pos rfl]
  by_cases c : y ≤ 99999
  · rw [if_pos c] at hw
    rw [if_pos c, if_pos c]
    rw [hw] at hfin
    exact hfin
  · rw [if_neg c] at hw
    rw [if_neg c, if_neg c, gd_t gx, gd_t gx, gd_t gb, gd_t gb]
    rw [hw] at hfin
    exact hfin
