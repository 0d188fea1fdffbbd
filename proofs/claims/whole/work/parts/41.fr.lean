/-! what leaves the book as it is -/
theorem BookR.fr {bk nk nh nw kn : Nat} {I I' M M' : MI} (B : BookR bk I M nk nh nw kn) (hI : ∀ p, bk ≤ p → p < bk + 16 → I' p = I p) (hM : ∀ p, 4 ≤ p → p < 22 → M' p = M p) (h0 : ∀ k, 12 ≤ k → k < 17 → M' 0 k = M 0 k) : BookR bk I' M' nk nh nw kn := by
  unfold BookR at B ⊢
  rw [hI bk (by omega) (by omega), hI (bk + 1) (by omega) (by omega), hI (bk + 2) (by omega) (by omega), hI (bk + 3) (by omega) (by omega), hI (bk + 4) (by omega) (by omega), hI (bk + 5) (by omega) (by omega), hI (bk + 6) (by omega) (by omega), hI (bk + 7) (by omega) (by omega), hI (bk + 8) (by omega) (by omega), hI (bk + 9) (by omega) (by omega), hI (bk + 11) (by omega) (by omega), hM 4 (by omega) (by omega), hM 5 (by omega) (by omega), hM 6 (by omega) (by omega), hM 7 (by omega) (by omega), hM 8 (by omega) (by omega), hM 9 (by omega) (by omega), hM 10 (by omega) (by omega), hM 11 (by omega) (by omega), hM 14 (by omega) (by omega), hM 15 (by omega) (by omega), h0 12 (by omega) (by omega), h0 13 (by omega) (by omega), h0 15 (by omega) (by omega), h0 16 (by omega) (by omega)]
  exact B
theorem BookR.st0 {bk nk nh nw kn : Nat} {I M : MI} (B : BookR bk I M nk nh nw kn) : BookR bk I (st2 M 0 2 0) nk nh nw kn :=
  B.fr (fun _ _ _ => rfl) (fun p _ _ => st0_row (by omega)) (fun k _ _ => st0_at (by omega))
theorem TownR.st0 {I I2 : MI} {J2 : MJ} {nk nh su dn dy : Nat} (W : TownR I I2 J2 nk nh su dn dy) : TownR I (st2 I2 0 2 0) J2 nk nh su dn dy := by
  unfold TownR at W ⊢
  rw [st0_row (by omega), st0_row (by omega), st0_row (by omega), st0_row (by omega), st0_row (by omega), st0_row (by omega), st0_row (by omega), st0_row (by omega), st0_row (by omega), st0_row (by omega)]
  exact W
theorem m_isIn {a lo hi : Int32} : f_X11_isIn a lo hi = some (decide (lo.toInt ≤ a.toInt ∧ a.toInt ≤ hi.toInt)) := (show f_X11_isIn a lo hi = f_X10_isWithin a lo hi from rfl).trans p_isWithin
theorem m_isKind' {bk nk nh nw kn : Nat} {I M : MI} (B : BookR bk I M nk nh nw kn) (a : Int32) : f_X11_isKind M a = some (ok6 nk a) := m_is (c := M 0 12) B.k2 (by have := B.lk; omega)
theorem m_isHouse' {bk nk nh nw kn : Nat} {I M : MI} (B : BookR bk I M nk nh nw kn) (a : Int32) : f_X11_isHouse M a = some (ok6 nh a) := m_is (c := M 0 13) B.h2 (by have := B.lh; omega)
/-! worth, weight, eagerness, earnings as numbers -/
def nwo (bk : Nat) (I : MI) (k : Nat) : Nat := (I (bk + 2) k).toInt.toNat
def nwg (bk : Nat) (I : MI) (k : Nat) : Nat := (I (bk + 3) k).toInt.toNat
def nea (bk : Nat) (I : MI) (h : Nat) : Nat := (I (bk + 6) h).toInt.toNat
def ner (bk : Nat) (I : MI) (h : Nat) : Nat := (I (bk + 7) h).toInt.toNat
theorem n_nat {x : Int32} {z : Nat} (hz : z < 2147483648) (h : x = Int32.ofNat z) : x.toInt.toNat = z := by rw [h, n_toInt hz]; rfl
theorem BookR.wo {bk nk nh nw kn : Nat} {I M : MI} (B : BookR bk I M nk nh nw kn) {k : Nat} (hk : k < nk) : nwo bk I k ≤ 99 ∧ I (bk + 2) k = Int32.ofNat (nwo bk I k) ∧ M 6 k = Int32.ofNat (nwo bk I k) := by
  obtain ⟨z, h, e1, e2⟩ := B.kw k hk
  have e : nwo bk I k = z := n_nat (by omega) e1
  rw [e]; exact ⟨h, e1, e2⟩
theorem BookR.wg {bk nk nh nw kn : Nat} {I M : MI} (B : BookR bk I M nk nh nw kn) {k : Nat} (hk : k < nk) : nwg bk I k ≤ 99 ∧ I (bk + 3) k = Int32.ofNat (nwg bk I k) ∧ M 7 k = Int32.ofNat (nwg bk I k) := by
  obtain ⟨z, h, e1, e2⟩ := B.kg k hk
  have e : nwg bk I k = z := n_nat (by omega) e1
  rw [e]; exact ⟨h, e1, e2⟩
theorem BookR.ea {bk nk nh nw kn : Nat} {I M : MI} (B : BookR bk I M nk nh nw kn) {k : Nat} (hk : k < nh) : nea bk I k ≤ 9 ∧ I (bk + 6) k = Int32.ofNat (nea bk I k) ∧ M 10 k = Int32.ofNat (nea bk I k) := by
  obtain ⟨z, h, e1, e2⟩ := B.he k hk
  have e : nea bk I k = z := n_nat (by omega) e1
  rw [e]; exact ⟨h, e1, e2⟩
theorem BookR.er {bk nk nh nw kn : Nat} {I M : MI} (B : BookR bk I M nk nh nw kn) {k : Nat} (hk : k < nh) : ner bk I k ≤ 99 ∧ I (bk + 7) k = Int32.ofNat (ner bk I k) ∧ M 11 k = Int32.ofNat (ner bk I k) := by
  obtain ⟨z, h, e1, e2⟩ := B.hr k hk
  have e : ner bk I k = z := n_nat (by omega) e1
  rw [e]; exact ⟨h, e1, e2⟩
theorem n_mul (a b : Nat) : Int32.ofNat a * Int32.ofNat b = Int32.ofNat (a * b) := (Int32.ofNat_mul a b).symm
theorem p_alone {bk nk nh nw kn : Nat} {I M : MI} (B : BookR bk I M nk nh nw kn) {h k : Nat} (hh : h < nh) (hk : k < nk) : f_X0_alone I bk (Int32.ofNat h) (Int32.ofNat k) = some (Int32.ofNat (nwo bk I k * nea bk I h)) := by
  have lh := B.lh
  have lk := B.lk
  delta f_X0_alone
  rw [gd_t ((n_inb (by omega)).mpr (by omega)), gd_t ((n_inb (by omega)).mpr (by omega)), n_ix (by omega), n_ix (by omega), (B.wo hk).2.1, (B.ea hh).2.1, n_mul]
theorem m_paysOf {bk nk nh nw kn : Nat} {I M : MI} (B : BookR bk I M nk nh nw kn) {h k : Nat} (hh : h < nh) (hk : k < nk) : f_X11_paysOf M (Int32.ofNat h) (Int32.ofNat k) = some (Int32.ofNat (nwo bk I k * nea bk I h)) := by
  have lh := B.lh
  have lk := B.lk
  delta f_X11_paysOf
  rw [gd_t ((n_inb (by omega)).mpr (by omega)), gd_t ((n_inb (by omega)).mpr (by omega)), n_ix (by omega), n_ix (by omega), (B.wo hk).2.2, (B.ea hh).2.2, n_mul]
/-! how many bits -/
def pcn (s : Nat) : Nat → Nat
  | 0 => 0
  | i + 1 => pcn s i + (if s.testBit i then 1 else 0)
theorem bit_s8 : ∀ s : Fin 64, ∀ h : Fin 8, (Int32.ofNat s.1 >>> (Int32.ofNat h.1 &&& 31)) &&& 1 = Int32.ofNat (if s.1.testBit h.1 then 1 else 0) := by decide +kernel
theorem pcn_le (s : Nat) : ∀ i, pcn s i ≤ i
  | 0 => Nat.le_refl _
  | i + 1 => by
    have := pcn_le s i
    show pcn s i + _ ≤ i + 1
    split <;> omega
theorem pcn_6 : ∀ s : Fin 64, pcn s.1 8 = pcn s.1 6 := by decide +kernel
theorem p_bitCount : ∀ s : Fin 64, f_J6_bitCount_0f7a4 (Int32.ofNat s.1) = some (Int32.ofNat (pcn s.1 6)) := by decide +kernel
theorem m_manyOf {s : Nat} (hs : s < 64) : f_X11_manyOf (Int32.ofNat s) = some (Int32.ofNat (pcn s 6)) := by
  rw [← pcn_6 ⟨s, hs⟩]
  apply Ev_eq
  delta f_X11_manyOf
  refine Ev_fix2 (fun x1 x2 => ∃ i, i ≤ 8 ∧ x2 = Int32.ofNat i ∧ x1 = Int32.ofNat (pcn s i)) (fun _ x2 => (8 - x2.toInt).toNat) ?_ FU 0 0 (FU_lt (by decide)) ⟨0, by omega, rfl, rfl⟩
  rintro rec x1 x2 ⟨i, hi, rfl, rfl⟩ hrec
  refine Ev_if (fun c => ?_) (fun c => ?_)
  · have := (n_le (a := 8) (by omega) (by omega)).mp c
    have : i = 8 := by omega
    subst this
    exact Ev_some rfl
  · have hlt : i < 8 := Nat.lt_of_not_le (fun h => c ((n_le (a := 8) (by omega) (by omega)).mpr h))
    refine Ev_ls (Ev_ls ?_)
    have hb := bit_s8 ⟨s, hs⟩ ⟨i, hlt⟩
    simp only at hb
    rw [hb, n_add]
    have hn1 : Int32.ofNat i + 1 = Int32.ofNat (i + 1) := n_add i 1
    rw [hn1]
    refine hrec _ _ ⟨i + 1, by omega, rfl, rfl⟩ ?_
    rw [n_toInt (by omega), n_toInt (by omega)]; omega
theorem p_howMany {I : MI} {pt su : Nat} (hs : ∀ h, h < 6 → I (pt + 5) h = if su.testBit h then 1 else 0) : f_X8_howManySoldUp I pt = some (Int32.ofNat (pcn su 6)) := by
  apply Ev_eq
  delta f_X8_howManySoldUp
  refine Ev_fix2 (fun x1 x2 => ∃ i, i ≤ 6 ∧ x2 = Int32.ofNat i ∧ x1 = Int32.ofNat (pcn su i)) (fun _ x2 => (8 - x2.toInt).toNat) ?_ FU 0 0 (FU_lt (by decide)) ⟨0, by omega, rfl, rfl⟩
  rintro rec x1 x2 ⟨i, hi, rfl, rfl⟩ hrec
  refine Ev_if (fun c => ?_) (fun c => ?_)
  · have := (n_le (a := 6) (by omega) (by omega)).mp c
    have : i = 6 := by omega
    subst this
    exact Ev_some rfl
  · have hlt : i < 6 := Nat.lt_of_not_le (fun h => c ((n_le (a := 6) (by omega) (by omega)).mpr h))
    have hn1 : Int32.ofNat i + 1 = Int32.ofNat (i + 1) := n_add i 1
    have hgo : ∀ z, z = pcn su (i + 1) → Ev (rec (Int32.ofNat z) (Int32.ofNat i + 1)) (fun a => a = Int32.ofNat (pcn su 6)) := fun z hz => by
      rw [hn1]
      refine hrec _ _ ⟨i + 1, by omega, rfl, by rw [hz]⟩ ?_
      rw [n_toInt (by omega), n_toInt (by omega)]; omega
    refine Ev_gd ((n_inb (by omega)).mpr (by omega)) (Ev_ls (Ev_ls ?_))
    rw [n_ix (by omega), hs i hlt]
    cases hb : su.testBit i with
    | true =>
      rw [if_pos rfl, if_neg (by decide)]
      refine Ev_ls ?_
      have e : Int32.ofNat (pcn su i) + 1 = Int32.ofNat (pcn su i + 1) := n_add _ 1
      rw [e]
      refine hgo _ ?_
      show _ = pcn su i + _
      rw [if_pos hb]
    | false =>
      rw [if_pos (by rfl)]
      refine hgo _ ?_
      show _ = pcn su i + _
      rw [if_neg (by rw [hb]; decide)]; rfl
theorem m_lookedAll {M : MI} {nh : Nat} (lh : nh ≤ 6) (h2 : M 0 13 = Int32.ofNat nh) (b : Nat) (hb : b ≤ 1) : f_X11_lookedAll M (Int32.ofNat b) = some (sm (fun k => M 29 (6 * b + k)) nh) := by
  apply Ev_eq
  delta f_X11_lookedAll
  refine Ev_fix2 (fun x1 x2 => ∃ i, i ≤ nh ∧ x2 = Int32.ofNat i ∧ x1 = sm (fun k => M 29 (6 * b + k)) i) (fun _ x2 => (8 - x2.toInt).toNat) ?_ FU 0 0 (FU_lt (by decide)) ⟨0, by omega, rfl, rfl⟩
  rintro rec x1 x2 ⟨i, hi, rfl, rfl⟩ hrec
  rw [h2]
  refine Ev_if (fun c => ?_) (fun c => ?_)
  · have := (n_le (by omega) (by omega)).mp c
    have : i = nh := by omega
    subst this
    exact Ev_some rfl
  · have hlt : i < nh := Nat.lt_of_not_le (fun h => c ((n_le (by omega) (by omega)).mpr h))
    have e6 : (6 : Int32) * Int32.ofNat b + Int32.ofNat i = Int32.ofNat (6 * b + i) := by
      rw [show (6 : Int32) = Int32.ofNat 6 from rfl, n_mul, n_add]
    have hn1 : Int32.ofNat i + 1 = Int32.ofNat (i + 1) := n_add i 1
    rw [e6]
    refine Ev_gd ((n_inb (by omega)).mpr (by omega)) (Ev_ls (Ev_ls ?_))
    rw [n_ix (by omega), hn1]
    refine hrec _ _ ⟨i + 1, by omega, rfl, rfl⟩ ?_
    rw [n_toInt (by omega), n_toInt (by omega)]; omega
theorem m_row {M : MI} {nh p : Nat} (lh : nh ≤ 6) (h2 : M 0 13 = Int32.ofNat nh) : fix2 (fun (r115 : Int32 → Int32 → Option (Int32 × MI)) (x3 : Int32) (x4 : Int32) => if (M 0 13) ≤ x4 then (some (x3, M)) else (gd (inb x4 12) (r115 (x3 + (M p (ix x4))) (x4 + (1 : Int32))))) FU (0 : Int32) (0 : Int32) = some (sm (M p) nh, M) := by
  apply Ev_eq
  refine Ev_fix2 (fun x1 x2 => ∃ i, i ≤ nh ∧ x2 = Int32.ofNat i ∧ x1 = sm (M p) i) (fun _ x2 => (8 - x2.toInt).toNat) ?_ FU 0 0 (FU_lt (by decide)) ⟨0, by omega, rfl, rfl⟩
  rintro rec x1 x2 ⟨i, hi, rfl, rfl⟩ hrec
  rw [h2]
  refine Ev_if (fun c => ?_) (fun c => ?_)
  · have := (n_le (by omega) (by omega)).mp c
    have : i = nh := by omega
    subst this
    exact Ev_some rfl
  · have hlt : i < nh := Nat.lt_of_not_le (fun h => c ((n_le (by omega) (by omega)).mpr h))
    have hn1 : Int32.ofNat i + 1 = Int32.ofNat (i + 1) := n_add i 1
    refine Ev_gd ((n_inb (by omega)).mpr (by omega)) ?_
    rw [n_ix (by omega), hn1]
    refine hrec _ _ ⟨i + 1, by omega, rfl, rfl⟩ ?_
    rw [n_toInt (by omega), n_toInt (by omega)]; omega
theorem sm_6 {f g : Nat → Int32} {n : Nat} (hn : n ≤ 6) (h1 : ∀ k, k < n → f k = g k) (h2 : ∀ k, n ≤ k → k < 6 → f k = 0) : sm f 6 = sm g n := by
  obtain ⟨d, hd⟩ : ∃ d, n + d = 6 := ⟨6 - n, by omega⟩
  rw [← hd, sm_tail d (fun k a b => h2 k a (by omega))]
  exact sm_congr n h1
theorem c_known0 {I M : MI} (hs : I 70 5 = M 0 70) (hk : I 70 6 = M 0 71) (hx : I 70 6 = -1 ∨ ∃ n, n ≤ 24 ∧ I 70 6 = Int32.ofNat n) : f_X2_knownCount I = some (if I 70 6 = -1 then I 70 5 else I 70 6) ∧ f_X11_knownBy M = some (if I 70 6 = -1 then I 70 5 else I 70 6) := by
  delta f_X2_knownCount f_X11_knownBy
  rw [← hs, ← hk]
  rcases hx with h | ⟨n, hn, h⟩
  · rw [h]; exact ⟨rfl, rfl⟩
  · have hne : ¬ Int32.ofNat n = -1 := fun h => by
      have := congrArg Int32.toInt h
      rw [n_toInt (by omega)] at this
      have h2 : (-1 : Int32).toInt = -1 := rfl
      omega
    have hle : (0 : Int32) ≤ Int32.ofNat n := (n_le (a := 0) (by omega) (by omega)).mpr (by omega)
    rw [h, if_neg hne]
    refine ⟨?_, ?_⟩
    · show (if Int32.ofNat n = -1 then _ else _) = _
      rw [if_neg hne]
    · show (if (0 : Int32) ≤ Int32.ofNat n then _ else _) = _
      rw [if_pos hle]
theorem sw_2 {x c v : Int32} {M : MI} {d : Option Int32} {d' : Option (Int32 × MI)} {r : List (Int32 × Option Int32)} {r' : List (Int32 × Option (Int32 × MI))} {u : Option (Int32 × MI)} (h : u = some (v, M)) (h2 : ∃ w, sw x r d = some w ∧ sw x r' d' = some (w, M)) : ∃ w, sw x ((c, some v) :: r) d = some w ∧ sw x ((c, u) :: r') d' = some (w, M) := by
  show ∃ w, (if x = c then some v else sw x r d) = _ ∧ (if x = c then u else sw x r' d') = _
  by_cases hc : x = c
  · rw [if_pos hc, if_pos hc]; exact ⟨v, rfl, h⟩
  · rw [if_neg hc, if_neg hc]; exact h2
theorem c_count {bk nk nh nw kn su dn dy : Nat} {I I2 : MI} {J2 : MJ} (B : BookR bk I I2 nk nh nw kn) (W : TownR I I2 J2 nk nh su dn dy) (hs : I 70 5 = I2 0 70) (hk : I 70 6 = I2 0 71) (hx : I 70 6 = -1 ∨ ∃ n, n ≤ 24 ∧ I 70 6 = Int32.ofNat n) (hu : I 64 5 = I2 0 74) (a : Int32) : ∃ v, f_X10_count bk I a = some v ∧ f_X11_count I2 a = some (v, st2 I2 0 2 0) := by
  have lh := B.lh
  have B' := B.st0
  have W' := W.st0
  obtain ⟨e1, e2⟩ := c_known0 (M := st2 I2 0 2 0) hs hk hx
  have r1 : sm (I 39) 6 = sm (st2 I2 0 2 0 26) nh := sm_6 lh W.pu (fun k a b => (W.ze k a b).1)
  have r2 : sm (I 40) 6 = sm (st2 I2 0 2 0 27) nh := sm_6 lh W.bi (fun k a b => (W.ze k a b).2.1)
  have r3 : sm (I 42) 6 = sm (fun k => st2 I2 0 2 0 29 (6 * 0 + k)) nh := sm_6 lh (fun k hk => by rw [show 6 * 0 + k = k by omega]; exact W.lo k hk) (fun k a b => (W.ze k a b).2.2.2.1)
  have hl : f_X11_lookedAll (st2 I2 0 2 0) 0 = some (sm (fun k => st2 I2 0 2 0 29 (6 * 0 + k)) nh) := m_lookedAll lh B'.h2 0 (by omega)
  have hm : f_X11_manyOf (st2 I2 0 2 0 31 (ix 0)) = some (Int32.ofNat (pcn su 6)) := by
    rw [show st2 I2 0 2 0 31 (ix 0) = Int32.ofNat su from W.s2]; exact m_manyOf W.sl
  delta f_X10_count f_X11_count
  rw [p_sumOfRow, p_sumOfRow, p_sumOfRow, p_howMany (su := su) (fun h hh => W.s1 h hh), e1, r1, r2, r3]
  simp only [lt]
  rw [m_row lh B'.h2, m_row lh B'.h2, hl, hm, e2, gd_t (show inb 0 2 = true from rfl), gd_t (show inb 0 2 = true from rfl), gd_t (show inb 0 2 = true from rfl)]
  rw [B.k1, B.h1, B.w1, B.n1, B'.k2, B'.h2, B'.w2, B'.n2, W.y1, W.du, hs, hu, show st2 I2 0 2 0 35 (ix 0) = Int32.ofNat dy from W.y2]
  simp only [bd1_s]
  refine sw_2 rfl ?_
  refine sw_2 rfl ?_
  refine sw_2 rfl ?_
  refine sw_2 rfl ?_
  refine sw_2 rfl ?_
  refine sw_2 rfl ?_
  refine sw_2 rfl ?_
  refine sw_2 rfl ?_
  refine sw_2 rfl ?_
  refine sw_2 rfl ?_
  refine sw_2 rfl ?_
  refine sw_2 rfl ?_
  refine sw_2 rfl ?_
  exact ⟨_, rfl, rfl⟩
