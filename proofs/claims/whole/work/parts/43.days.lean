/-! told days; weights; the weather as it goes -/
def tld (M : MI) (nd t : Nat) : Int32 := if sf (M 12) (Int32.ofNat t) nd 0 = -1 then -1 else M 13 (ix (sf (M 12) (Int32.ofNat t) nd 0))
def hvf (f : Nat → Int32) : Nat → Int32
  | 0 => -1
  | n + 1 => if f n ≤ (if (0 : Int32) ≤ hvf f n then f (ix (hvf f n)) else 0) then hvf f n else Int32.ofNat n
def wct (f : Nat → Int32) : Nat → Nat
  | 0 => 0
  | n + 1 => wct f n + (if f n ≤ 0 then 0 else 1)
def DayR (bk : Nat) (I M : MI) (nk nd : Nat) : Prop := (nd ≤ 20) ∧ (M 0 14 = Int32.ofNat nd) ∧ (∀ d, d < nd → ∃ t, t < 100 ∧ M 12 d = Int32.ofNat t) ∧ (∀ d, d < nd → ∃ k, k < nk ∧ M 13 d = Int32.ofNat k) ∧ (∀ t, t < 100 → I (bk + 10) t = tld M nd t) ∧ (I bk 17 = sm (M 7) nk) ∧ (I bk 18 = Int32.ofNat (wct (M 7) nk)) ∧ (I bk 19 = hvf (M 7) nk)
theorem DayR.dl {bk : Nat} {I M : MI} {nk nd : Nat} (B_ : DayR bk I M nk nd) : nd ≤ 20 := B_.1
theorem DayR.d2 {bk : Nat} {I M : MI} {nk nd : Nat} (B_ : DayR bk I M nk nd) : M 0 14 = Int32.ofNat nd := B_.2.1
theorem DayR.dt {bk : Nat} {I M : MI} {nk nd : Nat} (B_ : DayR bk I M nk nd) : ∀ d, d < nd → ∃ t, t < 100 ∧ M 12 d = Int32.ofNat t := B_.2.2.1
theorem DayR.dk {bk : Nat} {I M : MI} {nk nd : Nat} (B_ : DayR bk I M nk nd) : ∀ d, d < nd → ∃ k, k < nk ∧ M 13 d = Int32.ofNat k := B_.2.2.2.1
theorem DayR.td {bk : Nat} {I M : MI} {nk nd : Nat} (B_ : DayR bk I M nk nd) : ∀ t, t < 100 → I (bk + 10) t = tld M nd t := B_.2.2.2.2.1
theorem DayR.ws {bk : Nat} {I M : MI} {nk nd : Nat} (B_ : DayR bk I M nk nd) : I bk 17 = sm (M 7) nk := B_.2.2.2.2.2.1
theorem DayR.wc {bk : Nat} {I M : MI} {nk nd : Nat} (B_ : DayR bk I M nk nd) : I bk 18 = Int32.ofNat (wct (M 7) nk) := B_.2.2.2.2.2.2.1
theorem DayR.hv {bk : Nat} {I M : MI} {nk nd : Nat} (B_ : DayR bk I M nk nd) : I bk 19 = hvf (M 7) nk := B_.2.2.2.2.2.2.2
theorem DayR.fr {bk nk nd : Nat} {I I' M M' : MI} (D : DayR bk I M nk nd) (hI : ∀ p, bk ≤ p → p < bk + 16 → I' p = I p) (hM : ∀ p, 4 ≤ p → p < 22 → M' p = M p) (h0 : ∀ k, 12 ≤ k → k < 17 → M' 0 k = M 0 k) : DayR bk I' M' nk nd := by
  unfold DayR tld at D ⊢
  rw [hI bk (by omega) (by omega), hI (bk + 10) (by omega) (by omega), hM 12 (by omega) (by omega), hM 13 (by omega) (by omega), hM 7 (by omega) (by omega), h0 14 (by omega) (by omega)]
  exact D
theorem DayR.st0 {bk nk nd : Nat} {I M : MI} (D : DayR bk I M nk nd) : DayR bk I (st2 M 0 2 0) nk nd :=
  D.fr (fun _ _ _ => rfl) (fun p _ _ => st0_row (by omega)) (fun k _ _ => st0_at (by omega))
theorem sf_c (f : Nat → Int32) (x : Int32) : ∀ m i, sf f x m i = -1 ∨ ∃ j, i ≤ j ∧ j < i + m ∧ f j = x ∧ sf f x m i = Int32.ofNat j
  | 0, _ => Or.inl rfl
  | m + 1, i => by
    show (if f i = x then _ else sf f x m (i + 1)) = _ ∨ ∃ j, _ ∧ _ ∧ _ ∧ (if f i = x then _ else sf f x m (i + 1)) = _
    by_cases h : f i = x
    · rw [if_pos h]; exact Or.inr ⟨i, by omega, by omega, h, rfl⟩
    · rw [if_neg h]
      rcases sf_c f x m (i + 1) with e | ⟨j, a, b, c, e⟩
      · exact Or.inl e
      · exact Or.inr ⟨j, by omega, by omega, c, e⟩
theorem hvf_c (f : Nat → Int32) : ∀ n, hvf f n = -1 ∨ ∃ j, j < n ∧ hvf f n = Int32.ofNat j
  | 0 => Or.inl rfl
  | n + 1 => by
    have h := hvf_c f n
    have e : hvf f (n + 1) = if f n ≤ (if (0 : Int32) ≤ hvf f n then f (ix (hvf f n)) else 0) then hvf f n else Int32.ofNat n := rfl
    rw [e]
    by_cases c : f n ≤ (if (0 : Int32) ≤ hvf f n then f (ix (hvf f n)) else 0)
    · rw [if_pos c]
      rcases h with h | ⟨j, hj, e⟩
      · exact Or.inl h
      · exact Or.inr ⟨j, by omega, e⟩
    · rw [if_neg c]
      exact Or.inr ⟨n, by omega, rfl⟩
theorem m_heaviest {bk nk nh nw kn : Nat} {I M : MI} (B : BookR bk I M nk nh nw kn) : f_X11_heaviest M = some (hvf (M 7) nk) := by
  have lk := B.lk
  apply Ev_eq
  delta f_X11_heaviest
  refine Ev_fix2 (fun x1 x2 => ∃ i, i ≤ nk ∧ x2 = Int32.ofNat i ∧ x1 = hvf (M 7) i) (fun _ x2 => (8 - x2.toInt).toNat) ?_ FU (-1) 0 (FU_lt (by decide)) ⟨0, by omega, rfl, rfl⟩
  rintro rec x1 x2 ⟨i, hi, rfl, rfl⟩ hrec
  rw [B.k2]
  refine Ev_if (fun c => ?_) (fun c => ?_)
  · have := (n_le (by omega) (by omega)).mp c
    have : i = nk := by omega
    subst this
    exact Ev_some rfl
  · have hlt : i < nk := Nat.lt_of_not_le (fun h => c ((n_le (by omega) (by omega)).mpr h))
    have hn1 : Int32.ofNat i + 1 = Int32.ofNat (i + 1) := n_add i 1
    have hgo : ∀ x, x = hvf (M 7) (i + 1) → Ev (rec x (Int32.ofNat i + 1)) (fun a => a = hvf (M 7) nk) := fun x hx => by
      rw [hn1]
      refine hrec _ _ ⟨i + 1, by omega, rfl, hx⟩ ?_
      rw [n_toInt (by omega), n_toInt (by omega)]; omega
    refine Ev_gd ((n_inb (by omega)).mpr (by omega)) (Ev_ls ?_)
    rw [n_ix (by omega)]
    have hs : hvf (M 7) (i + 1) = if M 7 i ≤ (if (0 : Int32) ≤ hvf (M 7) i then M 7 (ix (hvf (M 7) i)) else 0) then hvf (M 7) i else Int32.ofNat i := rfl
    rcases hvf_c (M 7) i with h | ⟨j, hj, h⟩
    · rw [h] at hs ⊢
      rw [if_neg (by decide : ¬ (0 : Int32) ≤ -1)] at hs
      rw [if_neg (by decide : ¬ (0 : Int32) ≤ -1)]
      refine Ev_ls ?_
      refine Ev_if (fun c => ?_) (fun c => ?_)
      · exact hgo _ (by rw [hs, if_pos c])
      · exact hgo _ (by rw [hs, if_neg c])
    · rw [h] at hs ⊢
      have h0 := (enc_neg (j := j) (by omega)).2.2.2
      rw [if_pos h0] at hs
      rw [if_pos h0]
      refine Ev_gd ((n_inb (by omega)).mpr (by omega)) (Ev_ls ?_)
      refine Ev_if (fun c => ?_) (fun c => ?_)
      · exact hgo _ (by rw [hs, if_pos c])
      · exact hgo _ (by rw [hs, if_neg c])
theorem tld_c {bk nk nd : Nat} {I M : MI} (D : DayR bk I M nk nd) (t : Nat) : tld M nd t = -1 ∨ ∃ k, k < nk ∧ tld M nd t = Int32.ofNat k := by
  have dl := D.dl
  unfold tld
  rcases sf_c (M 12) (Int32.ofNat t) nd 0 with h | ⟨j, _, hj, _, h⟩
  · exact Or.inl (if_pos h)
  · rw [h, if_neg (enc_neg (by omega)).2.2.1, n_ix (by omega)]
    obtain ⟨k, hk, e⟩ := D.dk j (by omega)
    exact Or.inr ⟨k, hk, e⟩
theorem tld_far {bk nk nd : Nat} {I M : MI} (D : DayR bk I M nk nd) {t : Nat} (h1 : 100 ≤ t) (h2 : t < 2147483648) : tld M nd t = -1 := by
  unfold tld
  rcases sf_c (M 12) (Int32.ofNat t) nd 0 with h | ⟨j, _, hj, e, h⟩
  · exact if_pos h
  · obtain ⟨t', ht, e'⟩ := D.dt j (by omega)
    rw [e'] at e
    have := (n_eq (by omega) (by omega)).mp e
    omega
theorem p_toldDay {t : Nat} (h : t < 2147483648) : f_X10_isToldDay (Int32.ofNat t) = some (decide (t < 100)) := by
  delta f_X10_isToldDay
  rw [p_isWithin, bd1_s, n_toInt h, z0]
  congr 1
  apply decide_eq_decide.mpr
  have : (99 : Int32).toInt = 99 := rfl
  omega
theorem p_kindTold {bk nk nd : Nat} {I M : MI} (D : DayR bk I M nk nd) {t : Nat} (h : t < 2147483648) : f_X0_kindTold I bk (Int32.ofNat t) = some (tld M nd t) := by
  delta f_X0_kindTold
  rw [p_toldDay h, bd1_s]
  by_cases ht : t < 100
  · rw [decide_eq_true ht]
    show gd (inb (Int32.ofNat t) 100) (some (I (bk + 10) (ix (Int32.ofNat t)))) = _
    rw [gd_t ((n_inb h).mpr ht), n_ix h, D.td t ht]
  · rw [decide_eq_false ht, tld_far D (by omega) h]
    rfl
theorem p_asItGoes {bk nk nd : Nat} {I M : MI} (D : DayR bk I M nk nd) {t : Nat} (h : t < 2147483648) : f_X0_kindAsItGoes I bk (Int32.ofNat t) = some (if tld M nd t = -1 then hvf (M 7) nk else tld M nd t) := by
  delta f_X0_kindAsItGoes
  rw [p_kindTold D h, bd1_s, D.hv]
  show (if _ then _ else _) = _
  split <;> rfl
theorem m_told {bk nk nd : Nat} {I M : MI} (D : DayR bk I M nk nd) (lk : nk ≤ 6) (t : Nat) : ∃ s, f_X11_find M 12 40 0 (M 0 14) (Int32.ofNat t) = some s ∧ ((s < 0 ∧ tld M nd t = -1) ∨ (¬ s < 0 ∧ inb s 40 = true ∧ M 13 (ix s) = tld M nd t ∧ tld M nd t ≠ -1)) := by
  have dl := D.dl
  refine ⟨sf (M 12) (Int32.ofNat t) nd 0, ?_, ?_⟩
  · rw [D.d2]
    refine (m_find (b := 0) (by omega) (by omega)).trans (congrArg some ?_)
    exact sf_congr _ _ (fun k _ _ => by rw [Nat.zero_add])
  · rcases sf_c (M 12) (Int32.ofNat t) nd 0 with h | ⟨j, _, hj, e, h⟩
    · refine Or.inl ⟨by rw [h]; decide, if_pos h⟩
    · obtain ⟨k, hk, e'⟩ := D.dk j (by omega)
      have ht : tld M nd t = M 13 j := by
        unfold tld
        rw [h, if_neg (enc_neg (by omega)).2.2.1, n_ix (by omega)]
      rw [ht, h, n_ix (by omega), e']
      exact Or.inr ⟨(enc_neg (by omega)).2.1, (n_inb (by omega)).mpr (by omega), rfl, (enc_neg (by omega)).2.2.1⟩
theorem g02 : inb (0 : Int32) 2 = true := rfl
theorem c_kindIn {bk nk nh nw kn nd su dn dy : Nat} {I M : MI} {J2 : MJ} (B : BookR bk I M nk nh nw kn) (D : DayR bk I M nk nd) (W : TownR I M J2 nk nh su dn dy) {n : Nat} (hn : n ≤ 200) : ∃ v, f_X10_kindIn bk I (Int32.ofNat n) = some v ∧ f_X11_weatherIn M (Int32.ofNat n) = some v ∧ (v = -1 ∨ ∃ k, k < nk ∧ v = Int32.ofNat k) := by
  have lk := B.lk
  have yl := W.yl
  obtain ⟨s, e1, e2⟩ := m_told D lk (dy + n)
  have e3 := m_heaviest B
  have e4 := p_asItGoes D (t := dy + n) (by omega)
  have e5 : I 38 8 + Int32.ofNat n = Int32.ofNat (dy + n) := by rw [W.y1, n_add]
  have e6 : M 35 (ix 0) + Int32.ofNat n = Int32.ofNat (dy + n) := by rw [show M 35 (ix 0) = Int32.ofNat dy from W.y2, n_add]
  have e7 : M 33 (ix 0) = I 38 9 := W.se.symm
  have hgo : ∃ v, bd1 (f_X0_kindAsItGoes I bk (Int32.ofNat (dy + n))) (fun x2 => some x2) = some v ∧ gd (inb (0 : Int32) 2) (bd1 (f_X11_find M 12 40 (0 : Int32) (M 0 14) (Int32.ofNat (dy + n))) (fun x1 => lt (fun (x2 : Int32) => some (x2)) (fun j58 => if x1 < (0 : Int32) then (bd1 (f_X11_heaviest M) (fun x3 => j58 x3)) else (gd (inb x1 40) (j58 (M 13 (ix x1))))))) = some v ∧ (v = -1 ∨ ∃ k, k < nk ∧ v = Int32.ofNat k) := by
    rw [e4, e1, e3, bd1_s, bd1_s, gd_t g02]
    rcases e2 with ⟨h1, h2⟩ | ⟨h1, h2, h3, h4⟩
    · rw [if_pos h2]
      refine ⟨_, rfl, ?_, hvf_c _ _⟩
      show (if s < 0 then _ else _) = _
      rw [if_pos h1]; rfl
    · rw [if_neg h4]
      refine ⟨_, rfl, ?_, tld_c D _⟩
      show (if s < 0 then _ else _) = _
      rw [if_neg h1, gd_t h2, h3]
  delta f_X10_kindIn f_X11_weatherIn
  simp only [lt] at hgo ⊢
  rw [e5, e6, e7]
  by_cases h0 : Int32.ofNat n = 0
  · rw [if_pos h0, if_pos h0, gd_t g02]
    rcases W.sx with h | ⟨k, hk, h⟩
    · rw [h, if_pos rfl, if_pos (by decide)]
      exact hgo
    · rw [h, if_neg (enc_neg (by omega)).2.2.1, if_neg (enc_neg (by omega)).2.1, gd_t g02]
      exact ⟨_, rfl, rfl, Or.inr ⟨k, hk, rfl⟩⟩
  · rw [if_neg h0, if_neg h0]
    exact hgo
theorem in_t {a : Int32} {n : Nat} (hn : n < 2147483648) (h : decide ((0 : Int32).toInt ≤ a.toInt ∧ a.toInt ≤ (Int32.ofNat n).toInt) = true) : ∃ k, k ≤ n ∧ a = Int32.ofNat k := by
  have h := of_decide_eq_true h
  rw [z0, n_toInt hn] at h
  refine ⟨a.toInt.toNat, by omega, ?_⟩
  apply Int32.toInt.inj
  have : a.toInt < 2147483648 := Int32.toInt_lt a
  rw [n_toInt (by omega)]; omega
theorem c_weather {bk nk nh nw kn nd su dn dy : Nat} {I I2 : MI} {J2 : MJ} (B : BookR bk I I2 nk nh nw kn) (D : DayR bk I I2 nk nd) (W : TownR I I2 J2 nk nh su dn dy) (a : Int32) : ∃ v, f_X10_weather bk I a = some v ∧ f_X11_weather I2 a = some (v, st2 I2 0 2 0) := by
  have lk := B.lk
  delta f_X10_weather f_X11_weather
  rw [p_isWithin, bd1_s]
  show ∃ v, _ ∧ bd1 (f_X11_isIn a 0 200) _ = _
  rw [m_isIn, bd1_s]
  cases ha : decide ((0 : Int32).toInt ≤ a.toInt ∧ a.toInt ≤ (200 : Int32).toInt) with
  | false => exact ⟨_, rfl, rfl⟩
  | true =>
    obtain ⟨n, hn, rfl⟩ := in_t (n := 200) (by omega) ha
    obtain ⟨v, e1, e2, hv⟩ := c_kindIn B.st0 D.st0 W.st0 hn
    rw [if_pos rfl, if_pos rfl, e1, e2, bd1_s, bd1_s]
    simp only [lt]
    rcases hv with rfl | ⟨k, hk, rfl⟩
    · exact ⟨_, rfl, rfl⟩
    · rw [if_neg (enc_neg (by omega)).2.2.1, if_pos (enc_neg (by omega)).2.2.2]
      exact ⟨_, rfl, rfl⟩
theorem c_often {bk nk nh nw kn nd su dn dy : Nat} {I I2 : MI} {J2 : MJ} (B : BookR bk I I2 nk nh nw kn) (D : DayR bk I I2 nk nd) (W : TownR I I2 J2 nk nh su dn dy) (a b : Int32) : ∃ v, f_X10_often bk I a b = some v ∧ f_X11_often I2 a b = some (v, st2 I2 0 2 0) := by
  have lk := B.lk
  have key : Ev2 (f_X10_often bk I a b) (f_X11_often I2 a b) (fun a b => b = (a, st2 I2 0 2 0)) := by
    delta f_X10_often f_X11_often
    refine Ev2_lsR (Ev2_L (p_isKind B a) (Ev2_R (m_isKind B a) (Ev2_lsL (Ev2_lsR ?_))))
    cases hk : ok6 nk a with
    | false => exact Ev2_some rfl
    | true =>
      rw [if_pos rfl, if_pos rfl]
      refine Ev2_L p_isWithin (Ev2_R m_isIn ?_)
      cases hb : decide ((0 : Int32).toInt ≤ b.toInt ∧ b.toInt ≤ (200 : Int32).toInt) with
      | false => exact Ev2_some rfl
      | true =>
        rw [if_pos rfl, if_pos rfl]
        obtain ⟨n, hn, rfl⟩ := in_t (n := 200) (by omega) hb
        refine Ev2_fix22 (fun x1 x2 y1 y2 => y1 = x1 ∧ y2 = x2 ∧ ∃ i, i ≤ n ∧ x2 = Int32.ofNat i) (fun _ x2 _ _ => (600 - x2.toInt).toNat) ?_ FU _ _ _ _ (FU_lt (by decide)) ⟨rfl, rfl, 0, by omega, rfl⟩
        rintro r q x1 x2 y1 y2 ⟨rfl, rfl, i, hi, rfl⟩ hrec
        refine Ev2_if Iff.rfl (fun _ _ => Ev2_some rfl) (fun c _ => ?_)
        have hlt : i < n := Nat.lt_of_not_le (fun h => c ((n_le (by omega) (by omega)).mpr h))
        have hn1 : Int32.ofNat i + 1 = Int32.ofNat (i + 1) := n_add i 1
        have hgo : ∀ x : Int32, Ev2 (r x (Int32.ofNat i + 1)) (q x (Int32.ofNat i + 1)) (fun a b => b = (a, st2 I2 0 2 0)) := fun x => by
          rw [hn1]
          refine hrec _ _ _ _ ⟨rfl, rfl, i + 1, by omega, rfl⟩ ?_
          rw [n_toInt (by omega), n_toInt (by omega)]; omega
        obtain ⟨v, e1, e2, _⟩ := c_kindIn B.st0 D.st0 W.st0 (n := i) (by omega)
        refine Ev2_L e1 (Ev2_R e2 (Ev2_lsL (Ev2_lsR ?_)))
        refine Ev2_if Iff.rfl (fun _ _ => ?_) (fun _ _ => ?_)
        · exact hgo _
        · have e : y1 + bi false = y1 := Int32.add_zero y1
          show Ev2 (r y1 (Int32.ofNat i + 1)) (q (y1 + bi false) (Int32.ofNat i + 1)) _
          rw [e]; exact hgo _
  obtain ⟨a, b, e, e', q⟩ := key
  exact ⟨a, e, by rw [e', q]⟩
