/-! the town now: the component's rows against the model's first halves -/
def TownR (I I2 : MI) (J2 : MJ) (nk nh : Nat) (su dn dy : Nat) : Prop := (∀ h, h < nh → I 39 h = I2 26 h) ∧ (∀ h, h < nh → I 40 h = I2 27 h) ∧ (∀ h, h < nh → I 41 h = I2 28 h) ∧ (∀ h, h < nh → I 42 h = I2 29 h) ∧ (∀ h, nh ≤ h → h < 6 → I 39 h = 0 ∧ I 40 h = 0 ∧ I 41 h = 0 ∧ I 42 h = 0 ∧ su.testBit h = false ∧ dn.testBit h = false) ∧ (su < 64) ∧ (I2 31 0 = Int32.ofNat su) ∧ (∀ h, h < 6 → I 43 h = if su.testBit h then 1 else 0) ∧ (dn < 64) ∧ (I2 32 0 = Int32.ofNat dn) ∧ (∀ h, h < 6 → I 44 h = if dn.testBit h then 1 else 0) ∧ (∀ k, k < 6 → I 45 k = I2 30 k) ∧ (I 38 7 = I2 34 0) ∧ (dy ≤ 9000) ∧ (I 38 8 = Int32.ofNat dy) ∧ (I2 35 0 = Int32.ofNat dy) ∧ (I 38 9 = I2 33 0) ∧ (I 38 9 = -1 ∨ ∃ k, k < nk ∧ I 38 9 = Int32.ofNat k)
theorem TownR.pu {I I2 : MI} {J2 : MJ} {nk nh : Nat} {su dn dy : Nat} (B_ : TownR I I2 J2 nk nh su dn dy) : ∀ h, h < nh → I 39 h = I2 26 h := B_.1
theorem TownR.bi {I I2 : MI} {J2 : MJ} {nk nh : Nat} {su dn dy : Nat} (B_ : TownR I I2 J2 nk nh su dn dy) : ∀ h, h < nh → I 40 h = I2 27 h := B_.2.1
theorem TownR.us {I I2 : MI} {J2 : MJ} {nk nh : Nat} {su dn dy : Nat} (B_ : TownR I I2 J2 nk nh su dn dy) : ∀ h, h < nh → I 41 h = I2 28 h := B_.2.2.1
theorem TownR.lo {I I2 : MI} {J2 : MJ} {nk nh : Nat} {su dn dy : Nat} (B_ : TownR I I2 J2 nk nh su dn dy) : ∀ h, h < nh → I 42 h = I2 29 h := B_.2.2.2.1
theorem TownR.ze {I I2 : MI} {J2 : MJ} {nk nh : Nat} {su dn dy : Nat} (B_ : TownR I I2 J2 nk nh su dn dy) : ∀ h, nh ≤ h → h < 6 → I 39 h = 0 ∧ I 40 h = 0 ∧ I 41 h = 0 ∧ I 42 h = 0 ∧ su.testBit h = false ∧ dn.testBit h = false := B_.2.2.2.2.1
theorem TownR.sl {I I2 : MI} {J2 : MJ} {nk nh : Nat} {su dn dy : Nat} (B_ : TownR I I2 J2 nk nh su dn dy) : su < 64 := B_.2.2.2.2.2.1
theorem TownR.s2 {I I2 : MI} {J2 : MJ} {nk nh : Nat} {su dn dy : Nat} (B_ : TownR I I2 J2 nk nh su dn dy) : I2 31 0 = Int32.ofNat su := B_.2.2.2.2.2.2.1
theorem TownR.s1 {I I2 : MI} {J2 : MJ} {nk nh : Nat} {su dn dy : Nat} (B_ : TownR I I2 J2 nk nh su dn dy) : ∀ h, h < 6 → I 43 h = if su.testBit h then 1 else 0 := B_.2.2.2.2.2.2.2.1
theorem TownR.dl {I I2 : MI} {J2 : MJ} {nk nh : Nat} {su dn dy : Nat} (B_ : TownR I I2 J2 nk nh su dn dy) : dn < 64 := B_.2.2.2.2.2.2.2.2.1
theorem TownR.d2 {I I2 : MI} {J2 : MJ} {nk nh : Nat} {su dn dy : Nat} (B_ : TownR I I2 J2 nk nh su dn dy) : I2 32 0 = Int32.ofNat dn := B_.2.2.2.2.2.2.2.2.2.1
theorem TownR.d1 {I I2 : MI} {J2 : MJ} {nk nh : Nat} {su dn dy : Nat} (B_ : TownR I I2 J2 nk nh su dn dy) : ∀ h, h < 6 → I 44 h = if dn.testBit h then 1 else 0 := B_.2.2.2.2.2.2.2.2.2.2.1
theorem TownR.ti {I I2 : MI} {J2 : MJ} {nk nh : Nat} {su dn dy : Nat} (B_ : TownR I I2 J2 nk nh su dn dy) : ∀ k, k < 6 → I 45 k = I2 30 k := B_.2.2.2.2.2.2.2.2.2.2.2.1
theorem TownR.du {I I2 : MI} {J2 : MJ} {nk nh : Nat} {su dn dy : Nat} (B_ : TownR I I2 J2 nk nh su dn dy) : I 38 7 = I2 34 0 := B_.2.2.2.2.2.2.2.2.2.2.2.2.1
theorem TownR.yl {I I2 : MI} {J2 : MJ} {nk nh : Nat} {su dn dy : Nat} (B_ : TownR I I2 J2 nk nh su dn dy) : dy ≤ 9000 := B_.2.2.2.2.2.2.2.2.2.2.2.2.2.1
theorem TownR.y1 {I I2 : MI} {J2 : MJ} {nk nh : Nat} {su dn dy : Nat} (B_ : TownR I I2 J2 nk nh su dn dy) : I 38 8 = Int32.ofNat dy := B_.2.2.2.2.2.2.2.2.2.2.2.2.2.2.1
theorem TownR.y2 {I I2 : MI} {J2 : MJ} {nk nh : Nat} {su dn dy : Nat} (B_ : TownR I I2 J2 nk nh su dn dy) : I2 35 0 = Int32.ofNat dy := B_.2.2.2.2.2.2.2.2.2.2.2.2.2.2.2.1
theorem TownR.se {I I2 : MI} {J2 : MJ} {nk nh : Nat} {su dn dy : Nat} (B_ : TownR I I2 J2 nk nh su dn dy) : I 38 9 = I2 33 0 := B_.2.2.2.2.2.2.2.2.2.2.2.2.2.2.2.2.1
theorem TownR.sx {I I2 : MI} {J2 : MJ} {nk nh : Nat} {su dn dy : Nat} (B_ : TownR I I2 J2 nk nh su dn dy) : I 38 9 = -1 ∨ ∃ k, k < nk ∧ I 38 9 = Int32.ofNat k := B_.2.2.2.2.2.2.2.2.2.2.2.2.2.2.2.2.2
theorem bit_sh : ∀ s : Fin 64, ∀ h : Fin 6, (Int32.ofNat s.1 >>> (Int32.ofNat h.1 &&& 31)) &&& 1 = if s.1.testBit h.1 then (1 : Int32) else 0 := by decide +kernel
theorem bit_s {s h : Nat} (hs : s < 64) (hh : h < 6) : (Int32.ofNat s >>> (Int32.ofNat h &&& 31)) &&& 1 = if s.testBit h then (1 : Int32) else 0 := bit_sh ⟨s, hs⟩ ⟨h, hh⟩
theorem c_house0 {bk nk nh nw kn su dn dy : Nat} {I I2 : MI} {J2 : MJ} (B : BookR bk I I2 nk nh nw kn) (W : TownR I I2 J2 nk nh su dn dy) (a x : Int32) : (∃ v, f_X10_house bk I a x = some (.inl v) ∧ f_X11_house I2 a x = some (v, st2 I2 0 2 0)) ∨ (∃ k, (k = 1 ∨ k = 2) ∧ f_X10_house bk I a x = some (.inr k) ∧ f_X11_house I2 a x = some (0, st2 (st2 I2 0 2 0) 0 2 (Int32.ofNat k))) := by
  have lh := B.lh
  delta f_X10_house f_X11_house
  show (∃ v, _ ∧ bd1 (f_X11_isHouse (st2 I2 0 2 0) a) _ = _) ∨ (∃ k, _ ∧ _ ∧ bd1 (f_X11_isHouse (st2 I2 0 2 0) a) _ = _)
  rw [p_isHouse B, m_isHouse B, bd1_s, bd1_s]
  cases h : ok6 nh a with
  | false => exact Or.inr ⟨1, Or.inl rfl, rfl, rfl⟩
  | true =>
    obtain ⟨k, hk, rfl⟩ := ok6_t h
    have g6 : inb (Int32.ofNat k) 6 = true := (n_inb (by omega)).mpr (by omega)
    have g12 : inb (Int32.ofNat k) 12 = true := (n_inb (by omega)).mpr (by omega)
    have gz : inb (0 : Int32) 2 = true := rfl
    have iz : ix (0 : Int32) = 0 := rfl
    obtain ⟨z, _, e1, e2⟩ := B.he k hk
    simp only [gd_t g6, gd_t g12, gd_t gz, iz, n_ix (show k < 2147483648 by omega), if_true, lt, st0_row (show (26 : Nat) ≠ 0 by decide), st0_row (show (27 : Nat) ≠ 0 by decide), st0_row (show (28 : Nat) ≠ 0 by decide), st0_row (show (29 : Nat) ≠ 0 by decide), st0_row (show (10 : Nat) ≠ 0 by decide), st0_row (show (31 : Nat) ≠ 0 by decide), st0_row (show (32 : Nat) ≠ 0 by decide), W.pu k hk, W.bi k hk, W.us k hk, W.lo k hk, e1, e2, W.s2, W.d2, bit_s W.sl (show k < 6 by omega), bit_s W.dl (show k < 6 by omega), W.s1 k (by omega), W.d1 k (by omega)]
    by_cases x0 : x = 0
    · subst x0; exact Or.inl ⟨_, rfl, rfl⟩
    by_cases x1 : x = 1
    · subst x1; exact Or.inl ⟨_, rfl, rfl⟩
    by_cases x2 : x = 2
    · subst x2; exact Or.inl ⟨_, rfl, rfl⟩
    by_cases x3 : x = 3
    · subst x3; exact Or.inl ⟨_, rfl, rfl⟩
    by_cases x4 : x = 4
    · subst x4; exact Or.inl ⟨_, rfl, rfl⟩
    by_cases x5 : x = 5
    · subst x5
      cases su.testBit k
      · exact Or.inl ⟨_, rfl, rfl⟩
      · exact Or.inl ⟨_, rfl, rfl⟩
    by_cases x6 : x = 6
    · subst x6
      cases dn.testBit k
      · exact Or.inl ⟨_, rfl, rfl⟩
      · exact Or.inl ⟨_, rfl, rfl⟩
    refine Or.inr ⟨2, Or.inr rfl, ?_, ?_⟩
    · simp only [sw, x0, x1, x2, x3, x4, x5, x6, if_false]
    · simp only [sw, x0, x1, x2, x3, x4, x5, x6, if_false]; rfl
