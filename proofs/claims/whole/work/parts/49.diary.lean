/-! notes and strikes -/
def DiaR (I M : MI) (nh ds : Nat) : Prop := (ds ≤ 24) ∧ (I 70 5 = Int32.ofNat ds) ∧ (M 0 70 = Int32.ofNat ds) ∧ (M 0 71 = I 70 6) ∧ (I 70 6 = -1 ∨ ∃ n, n ≤ ds ∧ I 70 6 = Int32.ofNat n) ∧ (∀ i, i < ds → M 38 (4 * i) = I 71 i ∧ M 38 (4 * i + 1) = I 72 i ∧ M 38 (4 * i + 2) = I 73 i ∧ M 38 (4 * i + 3) = I 74 i ∧ (I 74 i = 0 ∨ I 74 i = 1) ∧ ((I 71 i = -1 ∧ ∃ j, j < i ∧ I 72 i = Int32.ofNat j) ∨ ((∃ t, t < 100 ∧ I 71 i = Int32.ofNat t) ∧ ∃ h, h < nh ∧ I 72 i = Int32.ofNat h)))
theorem DiaR.dl {I M : MI} {nh ds : Nat} (B_ : DiaR I M nh ds) : ds ≤ 24 := B_.1
theorem DiaR.s1 {I M : MI} {nh ds : Nat} (B_ : DiaR I M nh ds) : I 70 5 = Int32.ofNat ds := B_.2.1
theorem DiaR.s2 {I M : MI} {nh ds : Nat} (B_ : DiaR I M nh ds) : M 0 70 = Int32.ofNat ds := B_.2.2.1
theorem DiaR.kb {I M : MI} {nh ds : Nat} (B_ : DiaR I M nh ds) : M 0 71 = I 70 6 := B_.2.2.2.1
theorem DiaR.kx {I M : MI} {nh ds : Nat} (B_ : DiaR I M nh ds) : I 70 6 = -1 ∨ ∃ n, n ≤ ds ∧ I 70 6 = Int32.ofNat n := B_.2.2.2.2.1
theorem DiaR.en {I M : MI} {nh ds : Nat} (B_ : DiaR I M nh ds) : ∀ i, i < ds → M 38 (4 * i) = I 71 i ∧ M 38 (4 * i + 1) = I 72 i ∧ M 38 (4 * i + 2) = I 73 i ∧ M 38 (4 * i + 3) = I 74 i ∧ (I 74 i = 0 ∨ I 74 i = 1) ∧ ((I 71 i = -1 ∧ ∃ j, j < i ∧ I 72 i = Int32.ofNat j) ∨ ((∃ t, t < 100 ∧ I 71 i = Int32.ofNat t) ∧ ∃ h, h < nh ∧ I 72 i = Int32.ofNat h)) := B_.2.2.2.2.2
theorem DiaR.fr {I I' M M' : MI} {nh ds : Nat} (E : DiaR I M nh ds) (h70 : I' 70 = I 70) (h71 : I' 71 = I 71) (h72 : I' 72 = I 72) (h73 : I' 73 = I 73) (h74 : I' 74 = I 74) (hM : M' 38 = M 38) (h0 : M' 0 70 = M 0 70) (h1 : M' 0 71 = M 0 71) : DiaR I' M' nh ds := by
  unfold DiaR at E ⊢
  rw [h70, h71, h72, h73, h74, hM, h0, h1]
  exact E
theorem DiaR.st0 {I M : MI} {nh ds : Nat} (E : DiaR I M nh ds) : DiaR I (st2 M 0 2 0) nh ds := E.fr rfl rfl rfl rfl rfl rfl rfl rfl
/-- only the diary's cells -/
def FrD (I I' M M' : MI) : Prop := (∀ p, ¬ (70 ≤ p ∧ p < 76) → I' p = I p) ∧ (∀ p, p ≠ 38 → p ≠ 39 → p ≠ 0 → M' p = M p) ∧ (∀ k, k ≠ 2 → k ≠ 70 → k ≠ 71 → M' 0 k = M 0 k)
theorem c_add {I M : MI} {nh ds : Nat} (E : DiaR I M nh ds) (a b c d : Int32) (hd : d = 0 ∨ d = 1) (hab : (a = -1 ∧ ∃ j, j < ds ∧ b = Int32.ofNat j) ∨ ((∃ t, t < 100 ∧ a = Int32.ofNat t) ∧ ∃ h, h < nh ∧ b = Int32.ofNat h)) : ∃ v I' M' ds', f_X2_addNote I a b c d = some (v, I') ∧ f_X11_notes1 M a b c d = some (v, M') ∧ DiaR I' M' nh ds' ∧ FrD I I' M M' := by
  have dl := E.dl
  delta f_X2_addNote f_X11_notes1
  by_cases h24 : ds = 24
  · rw [E.s1, E.s2, h24]
    exact ⟨_, I, M, ds, rfl, rfl, E, fun _ _ => rfl, fun _ _ _ _ => rfl, fun _ _ _ _ => rfl⟩
  have hlt : ds < 24 := by omega
  have e4 : (4 : Int32) * Int32.ofNat ds = Int32.ofNat (4 * ds) := n_mul 4 ds
  have e5 : (4 : Int32) * Int32.ofNat ds + 1 = Int32.ofNat (4 * ds + 1) := by rw [e4]; exact n_add _ 1
  have e6 : (4 : Int32) * Int32.ofNat ds + 2 = Int32.ofNat (4 * ds + 2) := by rw [e4]; exact n_add _ 2
  have e7 : (4 : Int32) * Int32.ofNat ds + 3 = Int32.ofNat (4 * ds + 3) := by rw [e4]; exact n_add _ 3
  have hd1 : is01 d = true := by rcases hd with rfl | rfl <;> rfl
  have hlt' : Int32.ofNat ds < 24 := (n_lt (b := 24) (by omega) (by omega)).mpr hlt
  have hne' : ¬ Int32.ofNat ds = 24 := fun e => h24 ((n_eq (b := 24) (by omega) (by omega)).mp e)
  have g24 : inb (Int32.ofNat ds) 24 = true := (n_inb (by omega)).mpr (by omega)
  refine ⟨Int32.ofNat ds + 1 - 1, st2 (st2 (st2 (st2 (st2 I 71 ds a) 72 ds b) 73 ds c) 74 ds d) 70 5 (Int32.ofNat ds + 1), st2 (st2 (st2 (st2 (st2 M 38 (4 * ds) a) 38 (4 * ds + 1) b) 38 (4 * ds + 2) c) 38 (4 * ds + 3) d) 0 70 (Int32.ofNat ds + 1), ds + 1, ?_, ?_, ?_, ?_⟩
  · show (if I 70 5 < 24 then gd (inb (I 70 5) 24) (gd (inb (I 70 5) 24) (gd (inb (I 70 5) 24) (gd (is01 d) (gd (inb (I 70 5) 24) (some (I 70 5 + 1 - 1, st2 (st2 (st2 (st2 (st2 I 71 (ix (I 70 5)) a) 72 (ix (I 70 5)) b) 73 (ix (I 70 5)) c) 74 (ix (I 70 5)) d) 70 5 (I 70 5 + 1))))))) else _) = _
    rw [E.s1, if_pos hlt', gd_t g24, gd_t g24, gd_t g24, gd_t hd1, gd_t g24, n_ix (by omega)]
  · show (if M 0 70 = 24 then _ else gd (inb (4 * M 0 70) 96) (gd (inb (4 * M 0 70 + 1) 96) (gd (inb (4 * M 0 70 + 2) 96) (gd (inb (4 * M 0 70 + 3) 96) (some (M 0 70 + 1 - 1, st2 (st2 (st2 (st2 (st2 M 38 (ix (4 * M 0 70)) a) 38 (ix (4 * M 0 70 + 1)) b) 38 (ix (4 * M 0 70 + 2)) c) 38 (ix (4 * M 0 70 + 3)) d) 0 70 (M 0 70 + 1))))))) = _
    rw [E.s2, if_neg hne', e5, e6, e7, e4, gd_t ((n_inb (by omega)).mpr (by omega)), gd_t ((n_inb (by omega)).mpr (by omega)), gd_t ((n_inb (by omega)).mpr (by omega)), gd_t ((n_inb (by omega)).mpr (by omega)), n_ix (by omega), n_ix (by omega), n_ix (by omega), n_ix (by omega)]
  · have r71 : ∀ i, st2 (st2 (st2 (st2 (st2 I 71 ds a) 72 ds b) 73 ds c) 74 ds d) 70 5 (Int32.ofNat ds + 1) 71 i = if i = ds then a else I 71 i := fun _ => rfl
    have r72 : ∀ i, st2 (st2 (st2 (st2 (st2 I 71 ds a) 72 ds b) 73 ds c) 74 ds d) 70 5 (Int32.ofNat ds + 1) 72 i = if i = ds then b else I 72 i := fun _ => rfl
    have r73 : ∀ i, st2 (st2 (st2 (st2 (st2 I 71 ds a) 72 ds b) 73 ds c) 74 ds d) 70 5 (Int32.ofNat ds + 1) 73 i = if i = ds then c else I 73 i := fun _ => rfl
    have r74 : ∀ i, st2 (st2 (st2 (st2 (st2 I 71 ds a) 72 ds b) 73 ds c) 74 ds d) 70 5 (Int32.ofNat ds + 1) 74 i = if i = ds then d else I 74 i := fun _ => rfl
    have r38 : ∀ k, st2 (st2 (st2 (st2 (st2 M 38 (4 * ds) a) 38 (4 * ds + 1) b) 38 (4 * ds + 2) c) 38 (4 * ds + 3) d) 0 70 (Int32.ofNat ds + 1) 38 k = if k = 4 * ds + 3 then d else if k = 4 * ds + 2 then c else if k = 4 * ds + 1 then b else if k = 4 * ds then a else M 38 k := fun _ => rfl
    refine ⟨by omega, n_t1 ds, n_t1 ds, E.kb, ?_, ?_⟩
    · rcases E.kx with h | ⟨n, hn, h⟩
      · exact Or.inl h
      · exact Or.inr ⟨n, by omega, h⟩
    · intro i hi
      rw [r71, r72, r73, r74, r38, r38, r38, r38]
      by_cases he : i = ds
      · subst he
        have n1 : ¬ 4 * i = 4 * i + 3 := by omega
        have n2 : ¬ 4 * i = 4 * i + 2 := by omega
        have n3 : ¬ 4 * i = 4 * i + 1 := by omega
        have n4 : ¬ 4 * i + 1 = 4 * i + 3 := by omega
        have n5 : ¬ 4 * i + 1 = 4 * i + 2 := by omega
        have n6 : ¬ 4 * i + 2 = 4 * i + 3 := by omega
        simp only [if_true, if_neg n1, if_neg n2, if_neg n3, if_neg n4, if_neg n5, if_neg n6]
        exact ⟨trivial, trivial, trivial, trivial, hd, hab⟩
      · rw [if_neg he, if_neg he, if_neg he, if_neg he, if_neg (by omega), if_neg (by omega), if_neg (by omega), if_neg (by omega), if_neg (by omega), if_neg (by omega), if_neg (by omega), if_neg (by omega), if_neg (by omega), if_neg (by omega), if_neg (by omega), if_neg (by omega), if_neg (by omega), if_neg (by omega), if_neg (by omega), if_neg (by omega)]
        exact E.en i (by omega)
  · refine ⟨fun p hp => ?_, fun p h1 _ h3 => ?_, fun k h1 h2 h3 => ?_⟩
    · rw [st2_ne (by omega), st2_ne (by omega), st2_ne (by omega), st2_ne (by omega), st2_ne (by omega)]
    · rw [st2_ne (by omega), st2_ne (by omega), st2_ne (by omega), st2_ne (by omega), st2_ne (by omega)]
    · show (if k = 70 then _ else M 0 k) = _
      rw [if_neg h2]
theorem FrD.st0 {I I' M M' : MI} (h : FrD I I' (st2 M 0 2 0) M') : FrD I I' M M' :=
  ⟨h.1, fun p a b c => (h.2.1 p a b c).trans (st0_row c), fun k a b c => (h.2.2 k a b c).trans (st0_at (fun e => a e.2))⟩
theorem FrD.r0 (I M : MI) : FrD I I M (st2 M 0 2 0) := FrD.st0 ⟨fun _ _ => rfl, fun _ _ _ _ => rfl, fun _ _ _ _ => rfl⟩
theorem c_note {bk nk nh nw kn ds : Nat} {I I2 : MI} (B : BookR bk I I2 nk nh nw kn) (E : DiaR I I2 nh ds) (a b c : Int32) (t : Bool) : ∃ v I' M' ds', f_X10_note bk I a b c (bi t) = some (v, I') ∧ f_X11_note I2 a b c (bi t) = some (v, M') ∧ DiaR I' M' nh ds' ∧ FrD I I' I2 M' := by
  have lh := B.lh
  have key : Ev2 (f_X10_note bk I a b c (bi t)) (f_X11_note I2 a b c (bi t)) (fun x y => x.1 = y.1 ∧ (∃ ds', DiaR x.2 y.2 nh ds') ∧ FrD I x.2 I2 y.2) := by
    have hno : ∀ v : Int32, Ev2 (some (v, I)) (some (v, st2 I2 0 2 0)) (fun x y => x.1 = y.1 ∧ (∃ ds', DiaR x.2 y.2 nh ds') ∧ FrD I x.2 I2 y.2) := fun v => Ev2_some ⟨rfl, ⟨ds, E.st0⟩, FrD.r0 I I2⟩
    delta f_X10_note f_X11_note
    refine Ev2_lsR ?_
    have ht : f_X10_isToldDay a = some (decide ((0 : Int32).toInt ≤ a.toInt ∧ a.toInt ≤ (99 : Int32).toInt)) := by
      delta f_X10_isToldDay
      rw [p_isWithin, bd1_s]
    refine Ev2_L ht (Ev2_R m_isIn (Ev2_lsL (Ev2_lsR (Ev2_lsR ?_))))
    cases ha : decide ((0 : Int32).toInt ≤ a.toInt ∧ a.toInt ≤ (99 : Int32).toInt) with
    | false => exact hno _
    | true =>
      obtain ⟨d, hd, rfl⟩ := in_t (n := 99) (by omega) ha
      rw [if_pos rfl, if_pos rfl]
      refine Ev2_L (p_isHouse B b) (Ev2_R (m_isHouse B b) ?_)
      cases hb : ok6 nh b with
      | false => exact hno _
      | true =>
        obtain ⟨h, hh, rfl⟩ := ok6_t hb
        rw [if_pos rfl, if_pos rfl]
        refine Ev2_L p_isWithin (Ev2_R m_isIn ?_)
        cases hc : decide ((0 : Int32).toInt ≤ c.toInt ∧ c.toInt ≤ (999 : Int32).toInt) with
        | false => exact hno _
        | true =>
          rw [if_pos rfl, if_pos rfl]
          obtain ⟨v, I', M', ds', e1, e2, e3, e4⟩ := c_add E.st0 (Int32.ofNat d) (Int32.ofNat h) c (bi t) (by cases t; exact Or.inl rfl; exact Or.inr rfl) (Or.inr ⟨⟨d, by omega, rfl⟩, ⟨h, hh, rfl⟩⟩)
          refine Ev2_lsR ?_
          rw [e1, bd2_s]
          have hR : (if bi t = 0 then bd2 (f_X11_notes1 (st2 I2 0 2 0) (Int32.ofNat d) (Int32.ofNat h) c (bi false)) (fun x11 I12 => some (x11, I12)) else bd2 (f_X11_notes1 (st2 I2 0 2 0) (Int32.ofNat d) (Int32.ofNat h) c (bi true)) (fun x11 I12 => some (x11, I12))) = some (v, M') := by
            cases t with
            | false => rw [if_pos (show bi false = 0 from rfl), e2, bd2_s]
            | true => rw [if_neg (by decide), e2, bd2_s]
          exact ⟨_, _, rfl, hR, rfl, ⟨ds', e3⟩, FrD.st0 e4⟩
  obtain ⟨⟨v, I'⟩, ⟨w, M'⟩, e, e', q1, ⟨ds', q2⟩, q3⟩ := key
  cases q1
  exact ⟨v, I', M', ds', e, e', q2, q3⟩
theorem c_strike {I I2 : MI} {nh ds : Nat} (E : DiaR I I2 nh ds) (a : Int32) : ∃ v I' M' ds', f_X10_strike I a = some (v, I') ∧ f_X11_strike I2 a = some (v, M') ∧ DiaR I' M' nh ds' ∧ FrD I I' I2 M' := by
  have dl := E.dl
  delta f_X10_strike f_X2_addStrike
  rw [E.s1, p_isWithin, bd1_s, i_sub1 (by omega), z0]
  have hm : f_X11_strike I2 a = if a < 0 then some (-1, st2 I2 0 2 0) else if a < Int32.ofNat ds then bd2 (f_X11_notes1 (st2 I2 0 2 0) (-1) a 0 0) (fun x4 I5 => some (x4, I5)) else some (-1, st2 I2 0 2 0) := by
    delta f_X11_strike
    show (if a < 0 then some (-1, st2 I2 0 2 0) else if a < I2 0 70 then bd2 (f_X11_notes1 (st2 I2 0 2 0) (-1) a 0 0) (fun x4 I5 => some (x4, I5)) else some (-1, st2 I2 0 2 0)) = _
    rw [E.s2]
  rw [hm]
  by_cases h : 0 ≤ a.toInt ∧ a.toInt ≤ ((ds : Nat) : Int) - 1
  · rw [decide_eq_true h]
    obtain ⟨k, hk, rfl⟩ : ∃ k, k < ds ∧ a = Int32.ofNat k := by
      refine ⟨a.toInt.toNat, by omega, ?_⟩
      apply Int32.toInt.inj
      rw [n_toInt (by omega)]; omega
    obtain ⟨v, I', M', ds', e1, e2, e3, e4⟩ := c_add E.st0 (-1) (Int32.ofNat k) 0 0 (Or.inl rfl) (Or.inl ⟨rfl, k, hk, rfl⟩)
    rw [if_neg (enc_neg (by omega)).2.1, if_pos ((n_lt (by omega) (by omega)).mpr hk), e1, e2]
    exact ⟨v, I', M', ds', rfl, rfl, e3, FrD.st0 e4⟩
  · rw [decide_eq_false h]
    refine ⟨-1, I, st2 I2 0 2 0, ds, rfl, ?_, E.st0, FrD.r0 I I2⟩
    by_cases h1 : a < 0
    · rw [if_pos h1]
    · rw [if_neg h1]
      rw [Int32.lt_iff_toInt_lt, z0] at h1
      rw [if_neg (fun c => by
        rw [Int32.lt_iff_toInt_lt, n_toInt (by omega)] at c
        omega)]
theorem c_known {I I2 : MI} {nh ds : Nat} (E : DiaR I I2 nh ds) (a : Int32) : ∃ v I' M', f_X10_known I a = some (v, I') ∧ f_X11_known I2 a = some (v, M') ∧ DiaR I' M' nh ds ∧ FrD I I' I2 M' := by
  have dl := E.dl
  delta f_X10_known f_X11_known
  show ∃ v I' M', _ ∧ bd1 (f_X11_isIn a (-1) (I2 0 70)) _ = _ ∧ _
  rw [p_isWithin, m_isIn, E.s1, E.s2, bd1_s, bd1_s]
  by_cases h : (-1 : Int32).toInt ≤ a.toInt ∧ a.toInt ≤ (Int32.ofNat ds).toInt
  · rw [decide_eq_true h]
    refine ⟨true, st2 I 70 6 a, st2 (st2 I2 0 2 0) 0 71 a, rfl, rfl, ⟨E.dl, E.s1, E.s2, rfl, ?_, E.en⟩, fun p hp => st2_ne (by omega), fun p h1 h2 h3 => ?_, fun k h1 h2 h3 => ?_⟩
    · show a = -1 ∨ ∃ n, n ≤ ds ∧ a = Int32.ofNat n
      have h2 : (-1 : Int32).toInt = -1 := rfl
      rw [h2, n_toInt (by omega)] at h
      by_cases h1 : a.toInt = -1
      · exact Or.inl (Int32.toInt.inj h1)
      · refine Or.inr ⟨a.toInt.toNat, by omega, ?_⟩
        apply Int32.toInt.inj
        rw [n_toInt (by omega)]; omega
    · rw [st2_ne h3, st2_ne h3]
    · show (if k = 71 then _ else if k = 2 then _ else I2 0 k) = _
      rw [if_neg h3, if_neg h1]
  · rw [decide_eq_false h]
    exact ⟨false, I, st2 I2 0 2 0, rfl, rfl, E.st0, FrD.r0 I I2⟩
