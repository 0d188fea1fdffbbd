/-! fits, ask: the calls -/
theorem p_toldD (a : Int32) : f_X10_isToldDay a = some (decide ((0 : Int32).toInt ≤ a.toInt ∧ a.toInt ≤ (99 : Int32).toInt)) := by
  delta f_X10_isToldDay
  rw [p_isWithin, bd1_s]
theorem FrD.fit {I I' M M' : MI} (h1 : ∀ p, p ≠ 75 → I' p = I p) (h2 : ∀ p, p ≠ 39 → M' p = st2 M 0 2 0 p) : FrD I I' M M' :=
  FrD.st0 ⟨fun p hp => h1 p (by omega), fun p _ h _ => h2 p h, fun k _ _ _ => by rw [h2 0 (by decide)]⟩
theorem DiaR.fit {I I' M M' : MI} {nh ds : Nat} (E : DiaR I M nh ds) (h1 : ∀ p, p ≠ 75 → I' p = I p) (h2 : ∀ p, p ≠ 39 → M' p = st2 M 0 2 0 p) : DiaR I' M' nh ds :=
  E.st0.fr (h1 70 (by decide)) (h1 71 (by decide)) (h1 72 (by decide)) (h1 73 (by decide)) (h1 74 (by decide)) (h2 38 (by decide)) (by rw [h2 0 (by decide)]) (by rw [h2 0 (by decide)])
theorem c_fits {bk nk nh nw kn ds : Nat} {I I2 : MI} (hb : bk = 2 ∨ bk = 18) (B : BookR bk I I2 nk nh nw kn) (E : DiaR I I2 nh ds) (a : Int32) : ∃ v I' M', f_X10_fits bk I a = some (v, I') ∧ f_X11_fits I2 a = some (v, M') ∧ DiaR I' M' nh ds ∧ FrD I I' I2 M' := by
  delta f_X10_fits f_X11_fits
  show ∃ v I' M', _ ∧ bd1 (f_X11_isIn a 0 99) _ = _ ∧ _
  rw [p_toldD, m_isIn, bd1_s, bd1_s]
  cases ha : decide ((0 : Int32).toInt ≤ a.toInt ∧ a.toInt ≤ (99 : Int32).toInt) with
  | false => exact ⟨_, _, _, rfl, rfl, E.st0, FrD.r0 I I2⟩
  | true =>
    obtain ⟨t, ht, rfl⟩ := in_t (n := 99) (by omega) ha
    obtain ⟨I', e1, h1⟩ := p_fitting hb B.st0 E.st0 (t := t) (by omega)
    obtain ⟨M', e2, h2⟩ := m_fitsOf B.st0 E.st0 (t := t) (by omega)
    obtain ⟨V, hV⟩ : ∃ V, V = Int32.ofNat (bts (fun k => al (fck bk I (fl (dsk I) (dtg I) (kno I ds) (fun _ => false)) (Int32.ofNat t) k) (kno I ds)) nk) := ⟨_, rfl⟩
    rw [← hV] at e1 e2
    refine ⟨V, I', M', ?_, ?_, E.fit h1 h2, FrD.fit h1 h2⟩
    · simp only [lt]
      rw [if_pos trivial, e1, bd2_s]
    · simp only [lt]
      rw [if_pos trivial, e2, bd2_s]
def lfn (bk : Nat) (I : MI) (s h nk k : Nat) : Nat := ctn (fun i => s.testBit i && decide (pay bk I i h = pay bk I k h)) nk
def wrs (bk : Nat) (I : MI) (s h nk : Nat) : Nat := mo (lfn bk I s h nk) s nk
theorem p_leftAtWorst {bk nk nh nw kn : Nat} {I M : MI} (B : BookR bk I M nk nh nw kn) {s h : Nat} (hs : s < 64) (hh : h < nh) : f_X10_leftAtWorst bk I (Int32.ofNat s) (Int32.ofNat h) = some (Int32.ofNat (wrs bk I s h nk)) := by
  have lk := B.lk
  apply Ev_eq
  delta f_X10_leftAtWorst
  refine Ev_fix2 (fun x1 x2 => ∃ k, k ≤ nk ∧ x2 = Int32.ofNat k ∧ x1 = Int32.ofNat (mo (lfn bk I s h nk) s k)) (fun _ x3 => (80 - x3.toInt).toNat) ?_ FU _ _ (FU_lt (by decide)) ⟨0, by omega, rfl, rfl⟩
  rintro rec x1 x2 ⟨k, hk, rfl, rfl⟩ hrec
  rw [B.k1]
  refine Ev_if (fun c => ?_) (fun c => ?_)
  · have := (n_le (by omega) (by omega)).mp c
    have : k = nk := by omega
    subst this
    exact Ev_some rfl
  · have hlt : k < nk := Nat.lt_of_not_le (fun h => c ((n_le (by omega) (by omega)).mpr h))
    have hmo : mo (lfn bk I s h nk) s (k + 1) = if s.testBit k then max (mo (lfn bk I s h nk) s k) (lfn bk I s h nk k) else mo (lfn bk I s h nk) s k := rfl
    have hl6 : lfn bk I s h nk k ≤ nk := ctn_le nk
    have hm6 : mo (lfn bk I s h nk) s k ≤ nk := mo_le k (fun _ _ => ctn_le nk)
    refine Ev_j1 (fun x3 => x3 = Int32.ofNat (lfn bk I s h nk k)) ?_ ?_
    · rintro x3 rfl
      rw [am_is, isOf_s hs (by omega), bd1_s]
      refine Ev_ls ?_
      cases hb : s.testBit k with
      | true =>
        rw [if_pos rfl, n_max (by omega) (by omega)]
        refine Ev_ls (Ev_ls ?_)
        rw [n_t1]
        refine hrec _ _ ⟨k + 1, by omega, rfl, by rw [hmo, if_pos hb]⟩ ?_
        rw [n_toInt (by omega), n_toInt (by omega)]; omega
      | false =>
        refine Ev_ls ?_
        rw [n_t1]
        refine hrec _ _ ⟨k + 1, by omega, rfl, by rw [hmo, if_neg (by rw [hb]; decide)]⟩ ?_
        rw [n_toInt (by omega), n_toInt (by omega)]; omega
    · intro j hj
      refine Ev_fix2 (fun x8 x9 => ∃ i, i ≤ nk ∧ x9 = Int32.ofNat i ∧ x8 = Int32.ofNat (lfn bk I s h i k)) (fun _ x3 => (80 - x3.toInt).toNat) ?_ FU _ _ (FU_lt (by decide)) ⟨0, by omega, rfl, rfl⟩
      rintro rec' x8 x9 ⟨i, hi, rfl, rfl⟩ hrec'
      refine Ev_if (fun c => ?_) (fun c => ?_)
      · have := (n_le (by omega) (by omega)).mp c
        have : i = nk := by omega
        subst this
        exact hj _ rfl
      · have hlt' : i < nk := Nat.lt_of_not_le (fun h => c ((n_le (by omega) (by omega)).mpr h))
        have hgo : ∀ z, lfn bk I s h (i + 1) k = z → Ev (rec' (Int32.ofNat z) (Int32.ofNat i + 1)) (fun a => a = Int32.ofNat (wrs bk I s h nk)) := fun z hz => by
          rw [n_t1]
          refine hrec' _ _ ⟨i + 1, by omega, rfl, by rw [hz]⟩ ?_
          rw [n_toInt (by omega), n_toInt (by omega)]; omega
        have hl : lfn bk I s h (i + 1) k = lfn bk I s h i k + (if s.testBit i && decide (pay bk I i h = pay bk I k h) then 1 else 0) := rfl
        have hp1 := pay_le B hh hlt'
        have hp2 := pay_le B hh hlt
        rw [am_is, isOf_s hs (by omega), bd1_s]
        refine Ev_ls ?_
        cases hb : s.testBit i with
        | false =>
          rw [hb, Bool.false_and] at hl
          exact hgo _ hl
        | true =>
          rw [hb, Bool.true_and] at hl
          rw [if_pos rfl, p_alone B hh hlt', bd1_s, p_alone B hh hlt, bd1_s]
          refine Ev_if (fun c => Ev_ls ?_) (fun c => ?_)
          · have c' := (n_eq (show pay bk I i h < 2147483648 by omega) (show pay bk I k h < 2147483648 by omega)).mp c
            rw [decide_eq_true c'] at hl
            rw [n_t1 (lfn bk I s h i k)]
            exact hgo _ hl
          · have c' : ¬ pay bk I i h = pay bk I k h := fun e => c ((n_eq (show pay bk I i h < 2147483648 by omega) (show pay bk I k h < 2147483648 by omega)).mpr e)
            rw [decide_eq_false c'] at hl
            exact hgo _ hl
theorem m_worstBy {bk nk nh nw kn : Nat} {I M : MI} (B : BookR bk I M nk nh nw kn) {s h : Nat} (hs : s < 64) (hh : h < nh) : f_X11_worstBy M (Int32.ofNat h) (Int32.ofNat s) = some (Int32.ofNat (wrs bk I s h nk)) := by
  have lk := B.lk
  apply Ev_eq
  delta f_X11_worstBy
  refine Ev_fix2 (fun x1 x2 => ∃ k, k ≤ nk ∧ x2 = Int32.ofNat k ∧ x1 = Int32.ofNat (mo (lfn bk I s h nk) s k)) (fun _ x3 => (80 - x3.toInt).toNat) ?_ FU _ _ (FU_lt (by decide)) ⟨0, by omega, rfl, rfl⟩
  rintro rec x1 x2 ⟨k, hk, rfl, rfl⟩ hrec
  rw [B.k2]
  refine Ev_if (fun c => ?_) (fun c => ?_)
  · have := (n_le (by omega) (by omega)).mp c
    have : k = nk := by omega
    subst this
    exact Ev_some rfl
  · have hlt : k < nk := Nat.lt_of_not_le (fun h => c ((n_le (by omega) (by omega)).mpr h))
    have hmo : mo (lfn bk I s h nk) s (k + 1) = if s.testBit k then max (mo (lfn bk I s h nk) s k) (lfn bk I s h nk k) else mo (lfn bk I s h nk) s k := rfl
    have hl6 : lfn bk I s h nk k ≤ nk := ctn_le nk
    have hm6 : mo (lfn bk I s h nk) s k ≤ nk := mo_le k (fun _ _ => ctn_le nk)
    refine Ev_j1 (fun x3 => x3 = Int32.ofNat (if s.testBit k then lfn bk I s h nk k else 0)) ?_ ?_
    · rintro x3 rfl
      refine Ev_ls ?_
      have hgo : ∀ z, z = mo (lfn bk I s h nk) s (k + 1) → Ev (rec (Int32.ofNat z) (Int32.ofNat k + 1)) (fun a => a = Int32.ofNat (wrs bk I s h nk)) := fun z hz => by
        rw [n_t1]
        refine hrec _ _ ⟨k + 1, by omega, rfl, by rw [hz]⟩ ?_
        rw [n_toInt (by omega), n_toInt (by omega)]; omega
      cases hb : s.testBit k with
      | true =>
        rw [if_pos hb] at hmo
        rw [if_pos rfl]
        refine Ev_if (fun c => ?_) (fun c => ?_)
        · have c' := (n_le (by omega) (by omega)).mp c
          exact hgo _ (by rw [hmo, Nat.max_eq_left (by omega)])
        · have c' : ¬ lfn bk I s h nk k ≤ mo (lfn bk I s h nk) s k := fun h => c ((n_le (by omega) (by omega)).mpr h)
          exact hgo _ (by rw [hmo, Nat.max_eq_right (by omega)])
      | false =>
        rw [if_neg (by rw [hb]; decide)] at hmo
        have e0 : (if false = true then lfn bk I s h nk k else 0) = 0 := rfl
        rw [e0, if_pos ((n_le (by omega) (by omega)).mpr (Nat.zero_le _))]
        exact hgo _ hmo.symm
    · intro j hj
      refine Ev_fix2 (fun x8 x9 => ∃ i, i ≤ nk ∧ x9 = Int32.ofNat i ∧ x8 = Int32.ofNat (if s.testBit k then lfn bk I s h i k else 0)) (fun _ x3 => (80 - x3.toInt).toNat) ?_ FU _ _ (FU_lt (by decide)) ⟨0, by omega, rfl, by split <;> rfl⟩
      rintro rec' x8 x9 ⟨i, hi, rfl, rfl⟩ hrec'
      refine Ev_if (fun c => ?_) (fun c => ?_)
      · have := (n_le (by omega) (by omega)).mp c
        have : i = nk := by omega
        subst this
        exact hj _ rfl
      · have hlt' : i < nk := Nat.lt_of_not_le (fun h => c ((n_le (by omega) (by omega)).mpr h))
        have hgo : ∀ x, x = Int32.ofNat (if s.testBit k then lfn bk I s h (i + 1) k else 0) → Ev (rec' x (Int32.ofNat i + 1)) (fun a => a = Int32.ofNat (wrs bk I s h nk)) := fun z hz => by
          rw [n_t1]
          refine hrec' _ _ ⟨i + 1, by omega, rfl, hz⟩ ?_
          rw [n_toInt (by omega), n_toInt (by omega)]; omega
        have hl : lfn bk I s h (i + 1) k = lfn bk I s h i k + (if s.testBit i && decide (pay bk I i h = pay bk I k h) then 1 else 0) := rfl
        have hp1 := pay_le B hh hlt'
        have hp2 := pay_le B hh hlt
        have eb0 : ∀ x : Int32, x + bi false = x := fun x => Int32.add_zero x
        rw [isOf_s hs (by omega), bd1_s]
        refine Ev_ls (Ev_ls ?_)
        cases hbk : s.testBit k with
        | false =>
          rw [hbk] at hgo
          refine Ev_ls (Ev_ls ?_)
          exact hgo _ (by rw [eb0]; rfl)
        | true =>
          rw [hbk] at hgo
          rw [if_pos rfl, if_pos rfl, isOf_s hs (by omega), bd1_s]
          cases hb : s.testBit i with
          | false =>
            rw [hb, Bool.false_and] at hl
            refine Ev_ls (Ev_ls ?_)
            exact hgo _ (by rw [eb0, if_pos rfl, hl]; rfl)
          | true =>
            rw [hb, Bool.true_and] at hl
            rw [if_pos rfl, m_paysOf B hh hlt', bd1_s, m_paysOf B hh hlt, bd1_s]
            refine Ev_if (fun c => Ev_ls (Ev_ls ?_)) (fun c => Ev_ls (Ev_ls ?_))
            · have c' := (n_eq (show pay bk I i h < 2147483648 by omega) (show pay bk I k h < 2147483648 by omega)).mp c
              rw [decide_eq_true c'] at hl
              refine hgo _ ?_
              rw [if_pos rfl, hl]
              exact n_add _ 1
            · have c' : ¬ pay bk I i h = pay bk I k h := fun e => c ((n_eq (show pay bk I i h < 2147483648 by omega) (show pay bk I k h < 2147483648 by omega)).mpr e)
              rw [decide_eq_false c'] at hl
              exact hgo _ (by rw [eb0, if_pos rfl, hl]; rfl)
theorem c_ask {bk nk nh nw kn ds : Nat} {I I2 : MI} (hb : bk = 2 ∨ bk = 18) (B : BookR bk I I2 nk nh nw kn) (E : DiaR I I2 nh ds) (a b : Int32) : ∃ v I' M', f_X10_ask bk I a b = some (v, I') ∧ f_X11_ask I2 a b = some (v, M') ∧ DiaR I' M' nh ds ∧ FrD I I' I2 M' := by
  have lh := B.lh
  have lk := B.lk
  have key : Ev2 (f_X10_ask bk I a b) (f_X11_ask I2 a b) (fun x y => x.1 = y.1 ∧ DiaR x.2 y.2 nh ds ∧ FrD I x.2 I2 y.2) := by
    have hno : ∀ v : Int32, Ev2 (some (v, I)) (some (v, st2 I2 0 2 0)) (fun x y => x.1 = y.1 ∧ DiaR x.2 y.2 nh ds ∧ FrD I x.2 I2 y.2) := fun v => Ev2_some ⟨rfl, E.st0, FrD.r0 I I2⟩
    delta f_X10_ask f_X11_ask
    refine Ev2_lsR (Ev2_L (p_toldD a) (Ev2_R m_isIn (Ev2_lsL (Ev2_lsR ?_))))
    cases ha : decide ((0 : Int32).toInt ≤ a.toInt ∧ a.toInt ≤ (99 : Int32).toInt) with
    | false => exact hno _
    | true =>
      obtain ⟨t, ht, rfl⟩ := in_t (n := 99) (by omega) ha
      rw [if_pos rfl, if_pos rfl]
      refine Ev2_L p_isWithin (Ev2_R m_isIn ?_)
      cases hc : decide ((0 : Int32).toInt ≤ b.toInt ∧ b.toInt ≤ (1 : Int32).toInt) with
      | false => exact hno _
      | true =>
        rw [if_pos rfl, if_pos rfl, B.h1, B.st0.h2]
        refine Ev2_if Iff.rfl (fun _ _ => hno _) (fun c _ => ?_)
        have hn0 : 0 < nh := by
          by_cases h : nh = 0
          · exact absurd (by rw [h]; rfl) c
          · omega
        obtain ⟨I', e1, h1⟩ := p_fitting hb B.st0 E.st0 (t := t) (by omega)
        obtain ⟨M', e2, h2⟩ := m_fitsOf B.st0 E.st0 (t := t) (by omega)
        rw [e1, e2, bd2_s, bd2_s]
        have B' : BookR bk I' M' nk nh nw kn := B.st0.fr (fun p _ _ => h1 p (by omega)) (fun p _ _ => h2 p (by omega)) (fun k _ _ => by rw [h2 0 (by decide)])
        obtain ⟨s, hs⟩ : ∃ s, s = bts (fun k => al (fck bk I (fl (dsk I) (dtg I) (kno I ds) (fun _ => false)) (Int32.ofNat t) k) (kno I ds)) nk := ⟨_, rfl⟩
        rw [← hs]
        have hs6 : s < 64 := by
          rw [hs]
          exact Nat.lt_of_lt_of_le (bts_lt _ nk) (Nat.pow_le_pow_right (n := 2) (by decide) lk)
        have hfin : ∀ x : Int32, ∀ y, y < nh → x = Int32.ofNat y → Ev2 (lt (fun (x6 : Int32) => some (x6, I')) (fun j105 => if b = (0 : Int32) then (j105 x) else (bd1 (f_X10_leftAtWorst bk I' (Int32.ofNat s) x) (fun x7 => j105 x7)))) (lt (fun (x7 : Int32) => some (x7, M')) (fun j105 => if b = (0 : Int32) then (j105 x) else (bd1 (f_X11_worstBy M' x (Int32.ofNat s)) (fun x8 => j105 x8)))) (fun x y => x.1 = y.1 ∧ DiaR x.2 y.2 nh ds ∧ FrD I x.2 I2 y.2) := fun x y hy hx => by
          rw [hx, p_leftAtWorst B' hs6 hy, m_worstBy B' hs6 hy]
          refine Ev2_lsL (Ev2_lsR (Ev2_if Iff.rfl (fun _ _ => Ev2_some ⟨rfl, E.fit h1 h2, FrD.fit h1 h2⟩) (fun _ _ => Ev2_some ⟨rfl, E.fit h1 h2, FrD.fit h1 h2⟩)))
        refine Ev2_lsL (Ev2_lsR ?_)
        refine Ev2_fix22 (fun x1 x2 y1 y2 => y1 = x1 ∧ y2 = x2 ∧ ∃ i j, i ≤ nh ∧ j < nh ∧ x2 = Int32.ofNat i ∧ x1 = Int32.ofNat j) (fun _ x2 _ _ => (80 - x2.toInt).toNat) ?_ FU _ _ _ _ (FU_lt (by decide)) ⟨rfl, rfl, 1, 0, by omega, by omega, rfl, rfl⟩
        rintro r q x1 x2 y1 y2 ⟨rfl, rfl, i, j, hi, hj, rfl, rfl⟩ hrec
        rw [B'.h1, B'.h2]
        refine Ev2_if Iff.rfl (fun _ _ => hfin _ j hj rfl) (fun c _ => ?_)
        have hlt : i < nh := Nat.lt_of_not_le (fun h => c ((n_le (by omega) (by omega)).mpr h))
        have hgo : ∀ j', j' < nh → Ev2 (r (Int32.ofNat j') (Int32.ofNat i + 1)) (q (Int32.ofNat j') (Int32.ofNat i + 1)) (fun x y => x.1 = y.1 ∧ DiaR x.2 y.2 nh ds ∧ FrD I x.2 I2 y.2) := fun j' h => by
          rw [n_t1]
          refine hrec _ _ _ _ ⟨rfl, rfl, i + 1, j', by omega, h, rfl, rfl⟩ ?_
          rw [n_toInt (by omega), n_toInt (by omega)]; omega
        refine Ev2_L (p_leftAtWorst B' hs6 hlt) (Ev2_L (p_leftAtWorst B' hs6 hj) (Ev2_R (m_worstBy B' hs6 hlt) (Ev2_R (m_worstBy B' hs6 hj) (Ev2_lsL (Ev2_lsR ?_)))))
        exact Ev2_if Iff.rfl (fun _ _ => hgo _ hj) (fun _ _ => hgo _ hlt)
  obtain ⟨⟨v, I'⟩, ⟨w, M'⟩, e, e', q1, q2, q3⟩ := key
  cases q1
  exact ⟨v, I', M', e, e', q2, q3⟩
