/-! the kind of a day as it goes -/
theorem hv_w {f : Nat → Int32} {g : Nat → Nat} : ∀ n, (∀ k, k < n → f k = Int32.ofNat (g k) ∧ g k ≤ 99) → n ≤ 6 → (wct f n = 0 ∧ smn g n = 0 ∧ hvf f n = -1) ∨ (∃ j, j < n ∧ hvf f n = Int32.ofNat j ∧ 0 < g j ∧ ((wct f n = 1 ∧ g j = smn g n) ∨ (2 ≤ wct f n ∧ g j < smn g n)))
  | 0, _, _ => Or.inl ⟨rfl, rfl, rfl⟩
  | n + 1, h, hn => by
    have ih := hv_w n (fun k hk => h k (by omega)) (by omega)
    obtain ⟨e, hg⟩ := h n (by omega)
    have h1 : wct f (n + 1) = wct f n + (if f n ≤ 0 then 0 else 1) := rfl
    have h2 : smn g (n + 1) = smn g n + g n := rfl
    have h3 : hvf f (n + 1) = if f n ≤ (if (0 : Int32) ≤ hvf f n then f (ix (hvf f n)) else 0) then hvf f n else Int32.ofNat n := rfl
    have c0 : f n ≤ 0 ↔ g n = 0 := by
      rw [e]
      have := n_le (a := g n) (b := 0) (by omega) (by omega)
      constructor
      · intro c; have := this.mp c; omega
      · intro c; exact this.mpr (by omega)
    rcases ih with ⟨i1, i2, i3⟩ | ⟨j, hj, i1, i2, i3⟩
    · rw [i3, if_neg (by decide : ¬ (0 : Int32) ≤ -1)] at h3
      by_cases c : g n = 0
      · rw [if_pos (c0.mpr c)] at h1 h3
        exact Or.inl ⟨by omega, by omega, h3⟩
      · rw [if_neg (fun x => c (c0.mp x))] at h1 h3
        exact Or.inr ⟨n, by omega, h3, by omega, Or.inl ⟨by omega, by omega⟩⟩
    · obtain ⟨ej, hgj⟩ := h j (by omega)
      rw [i1, if_pos (enc_neg (by omega)).2.2.2, n_ix (by omega), ej, e] at h3
      by_cases c : g n ≤ g j
      · rw [if_pos ((n_le (by omega) (by omega)).mpr c)] at h3
        refine Or.inr ⟨j, by omega, h3, i2, ?_⟩
        by_cases c' : g n = 0
        · rw [if_pos (c0.mpr c')] at h1
          rcases i3 with i3 | i3
          · exact Or.inl ⟨by omega, by omega⟩
          · exact Or.inr ⟨by omega, by omega⟩
        · rw [if_neg (fun x => c' (c0.mp x))] at h1
          rcases i3 with i3 | i3
          · exact Or.inr ⟨by omega, by omega⟩
          · exact Or.inr ⟨by omega, by omega⟩
      · rw [if_neg (fun x => c ((n_le (by omega) (by omega)).mp x))] at h3
        rw [if_neg (fun x => by have := c0.mp x; omega)] at h1
        refine Or.inr ⟨n, by omega, h3, by omega, ?_⟩
        rcases i3 with i3 | i3
        · exact Or.inr ⟨by omega, by omega⟩
        · exact Or.inr ⟨by omega, by omega⟩
theorem n_and31 (N : Nat) : Int32.ofNat N &&& 2147483647 = Int32.ofNat (N % 2 ^ 31) := by
  apply Int32.toBitVec_inj.mp
  rw [Int32.toBitVec_and]
  apply BitVec.eq_of_toNat_eq
  rw [BitVec.toNat_and]
  have e1 : (Int32.ofNat N).toBitVec.toNat = N % 2 ^ 32 := BitVec.toNat_ofNat N 32
  have e2 : (2147483647 : Int32).toBitVec.toNat = 2 ^ 31 - 1 := by decide
  have e3 : (Int32.ofNat (N % 2 ^ 31)).toBitVec.toNat = N % 2 ^ 31 % 2 ^ 32 := BitVec.toNat_ofNat _ 32
  rw [e1, e2, e3, Nat.and_two_pow_sub_one_eq_mod]
  omega
theorem l_and31 (N : Nat) : Int64.ofNat N &&& 2147483647 = Int64.ofNat (N % 2 ^ 31) := by
  apply Int64.toBitVec_inj.mp
  rw [Int64.toBitVec_and]
  apply BitVec.eq_of_toNat_eq
  rw [BitVec.toNat_and]
  have e1 : (Int64.ofNat N).toBitVec.toNat = N % 2 ^ 64 := BitVec.toNat_ofNat N 64
  have e2 : (2147483647 : Int64).toBitVec.toNat = 2 ^ 31 - 1 := by decide
  have e3 : (Int64.ofNat (N % 2 ^ 31)).toBitVec.toNat = N % 2 ^ 31 % 2 ^ 64 := BitVec.toNat_ofNat _ 64
  rw [e1, e2, e3, Nat.and_two_pow_sub_one_eq_mod]
  omega
def nxt (m : Nat) : Nat := (m * 1103515245 + 12345) % 2 ^ 31
theorem nxt_lt (m : Nat) : nxt m < 2147483648 := Nat.mod_lt _ (by decide)
theorem p_nextNumber {I : MI} {pt m : Nat} (hm : I pt 10 = Int32.ofNat m) : f_X8_nextNumber I pt = some (Int32.ofNat (nxt m / 65536), st2 I pt 10 (Int32.ofNat (nxt m))) := by
  delta f_X8_nextNumber
  have e : (I pt 10 * 1103515245 + 12345) &&& 2147483647 = Int32.ofNat (nxt m) := by
    rw [hm, show (1103515245 : Int32) = Int32.ofNat 1103515245 from rfl, show (12345 : Int32) = Int32.ofNat 12345 from rfl, n_mul, n_add, n_and31]
    rfl
  have h := nxt_lt m
  simp only [lt]
  rw [e, gd_t (show nz 65536 = true from rfl), st2_at, if_pos rfl, show (65536 : Int32) = Int32.ofNat 65536 from rfl, n_div (by omega) (by omega)]
theorem m_number1 {J : MJ} {m W : Nat} (hm : J 0 62 = Int64.ofNat m) (hW : 0 < W) (hW2 : W ≤ 594) : f_X11_number1 J (Int32.ofNat W) = some (Int32.ofNat (nxt m / 65536 % W), st2 J 0 62 (Int64.ofNat (nxt m))) := by
  delta f_X11_number1
  have e : (J 0 62 * 1103515245 + 12345) &&& 2147483647 = Int64.ofNat (nxt m) := by
    rw [hm, show (1103515245 : Int64) = Int64.ofNat 1103515245 from rfl, show (12345 : Int64) = Int64.ofNat 12345 from rfl, l_mul, l_add, l_and31]
    rfl
  have h := nxt_lt m
  have h2 := Nat.mod_lt (nxt m / 65536) hW
  simp only [lt]
  rw [e, gd_t (show nzl 65536 = true from rfl), n_64 (by omega), gd_t (l_nz hW (by omega)), st2_at, if_pos rfl, show (65536 : Int64) = Int64.ofNat 65536 from rfl, l_div (by omega) (by omega), l_rem (by omega) (by omega), l_32 (by omega)]
theorem l_nat {x : Int32} (h : 0 ≤ x.toInt) : ∃ m, m < 2147483648 ∧ x = Int32.ofNat m ∧ x.toInt64 = Int64.ofNat m := by
  have h2 : x.toInt < 2147483648 := Int32.toInt_lt x
  have e : x = Int32.ofNat x.toInt.toNat := by
    apply Int32.toInt.inj
    rw [n_toInt (by omega)]; omega
  refine ⟨x.toInt.toNat, by omega, e, ?_⟩
  rw [← n_64 (by omega), ← e]
theorem c_byNumber {bk nk nh nw kn nd : Nat} {I I' M : MI} {J : MJ} (B : BookR bk I M nk nh nw kn) (D : DayR bk I M nk nd) (hI : ∀ p, bk ≤ p → p < bk + 16 → I' p = I p) {q : Nat} (hq : q < 2147483648) (hW : 0 < nws bk I nk) : ∃ k, k < nk ∧ f_X0_kindByNumber I' bk (Int32.ofNat q) = some (Int32.ofNat k) ∧ fix2 (fun (r43 : Int32 → Int32 → Option (Int32 × MJ)) (x6 : Int32) (x7 : Int32) => if Int32.ofNat (q % nws bk I nk) < x7 then (some (x6, J)) else (lt (x6 + (1 : Int32)) (fun x8 => gd (inb x8 12) (lt (x7 + (M 7 (ix x8))) (fun x9 => r43 x8 x9))))) FU (0 : Int32) (M 7 0) = some (Int32.ofNat k, J) := by
  have lk := B.lk
  have hw := nws_sm B
  have hI17 : I' bk 17 = Int32.ofNat (nws bk I nk) := by rw [hI bk (by omega) (by omega), D.ws, hw.1]
  have hr := Nat.mod_lt q hW
  obtain ⟨r, hre⟩ : ∃ r, r = q % nws bk I nk := ⟨_, rfl⟩
  have hk0 : 0 < nk := by
    by_cases h : nk = 0
    · subst h; exact absurd hW (Nat.lt_irrefl 0)
    · omega
  have key : Ev2 (f_X0_kindByNumber I' bk (Int32.ofNat q)) (fix2 (fun (r43 : Int32 → Int32 → Option (Int32 × MJ)) (x6 : Int32) (x7 : Int32) => if Int32.ofNat (q % nws bk I nk) < x7 then (some (x6, J)) else (lt (x6 + (1 : Int32)) (fun x8 => gd (inb x8 12) (lt (x7 + (M 7 (ix x8))) (fun x9 => r43 x8 x9))))) FU (0 : Int32) (M 7 0)) (fun a c => ∃ k, k < nk ∧ a = Int32.ofNat k ∧ c = (Int32.ofNat k, J)) := by
    delta f_X0_kindByNumber
    have h0 : (0 : Int32) < Int32.ofNat (nws bk I nk) := (n_lt (a := 0) (by omega) (by omega)).mpr hW
    rw [hI17, if_pos h0]
    refine Ev2_gdL (n_nz hW (by omega)) (Ev2_lsL ?_)
    rw [n_rem hq (by omega), ← hre, (B.wg hk0).2.2]
    refine Ev2_fix22 (fun x2 x3 y1 y2 => ∃ k, k < nk ∧ smn (nwg bk I) k ≤ r ∧ x2 = Int32.ofNat (r - smn (nwg bk I) k) ∧ x3 = Int32.ofNat k ∧ y1 = Int32.ofNat k ∧ y2 = Int32.ofNat (smn (nwg bk I) (k + 1))) (fun _ x3 _ _ => (80 - x3.toInt).toNat) ?_ FU _ _ _ _ (FU_lt (by decide)) ⟨0, hk0, Nat.zero_le _, by rw [show smn (nwg bk I) 0 = 0 from rfl, Nat.sub_zero], rfl, rfl, by rw [show smn (nwg bk I) (0 + 1) = 0 + nwg bk I 0 from rfl, Nat.zero_add]⟩
    rintro rc qc x2 x3 y1 y2 ⟨k, hk, hs, rfl, rfl, rfl, rfl⟩ hrec
    have hg := B.wg hk
    have hs1 : smn (nwg bk I) (k + 1) = smn (nwg bk I) k + nwg bk I k := rfl
    have hsl := smn_le (g := nwg bk I) (b := 99) k (fun j hj => (B.wg (by omega)).1)
    rw [hI bk (by omega) (by omega), hI (bk + 3) (by omega) (by omega), B.k1]
    refine Ev2_ifL (fun c => absurd ((n_le (by omega) (by omega)).mp c) (by omega)) (fun _ => ?_)
    refine Ev2_gdL ((n_inb (by omega)).mpr (by omega)) (Ev2_lsL ?_)
    rw [n_ix (by omega), hg.2.1]
    by_cases c : smn (nwg bk I) (k + 1) ≤ r
    · have e4 : Int32.ofNat (r - smn (nwg bk I) k) - Int32.ofNat (nwg bk I k) = Int32.ofNat (r - smn (nwg bk I) (k + 1)) := by
        rw [n_sub (by omega)]; congr 1; omega
      have hk1 : k + 1 < nk := by
        by_cases h : k + 1 < nk
        · exact h
        · have : k + 1 = nk := by omega
          rw [this] at c
          have : smn (nwg bk I) nk = nws bk I nk := rfl
          omega
      rw [e4, if_pos (enc_neg (by omega)).2.2.2, if_neg (fun x => by
        have := (n_lt (by omega) (by omega)).mp x
        omega)]
      refine Ev2_lsL (Ev2_lsR ?_)
      rw [n_t1]
      refine Ev2_gdR ((n_inb (by omega)).mpr (by omega)) (Ev2_lsR ?_)
      rw [n_ix (by omega), (B.wg hk1).2.2, n_add]
      refine hrec _ _ _ _ ⟨k + 1, hk1, c, rfl, rfl, rfl, rfl⟩ ?_
      rw [n_toInt (by omega), n_toInt (by omega)]; omega
    · have hz : ¬ (0 : Int32) ≤ Int32.ofNat (r - smn (nwg bk I) k) - Int32.ofNat (nwg bk I k) := fun x => by
        have e1 := n_toInt (n := r - smn (nwg bk I) k) (by omega)
        have e2 := n_toInt (n := nwg bk I k) (by omega)
        rw [Int32.le_iff_toInt_le, z0, i_sub (by omega) (by omega), e1, e2] at x
        omega
      rw [if_neg hz, if_pos ((n_lt (by omega) (by omega)).mpr (by omega))]
      exact Ev2_some ⟨k, hk, rfl, rfl⟩
  obtain ⟨a, c, e, e', k, hk, rfl, rfl⟩ := key
  exact ⟨k, hk, e, e'⟩
theorem c_kindOf {H : Nat → Bool} {bk pt b su dn dy nk nh nw kn nd : Nat} {I M : MI} {J2 : MJ} (hbk : bk = 2 ∨ bk = 18) (hpt : 38 ≤ pt) (hb : b ≤ 1) (B : BookR bk I M nk nh nw kn) (D : DayR bk I M nk nd) (P : PsR H bk I pt M J2 b su dn dy nk nh) (hdy : dy < 100000) : Ev2 (f_X1_kindOf I bk pt) (f_X11_weatherOf M J2 (Int32.ofNat b)) (fun a c => a.1 = c.1 ∧ (a.1 = -1 ∨ ∃ k, k < nk ∧ a.1 = Int32.ofNat k) ∧ (∃ m, m < 2147483648 ∧ a.2 = st2 I pt 10 (Int32.ofNat m) ∧ c.2 0 62 = Int64.ofNat m) ∧ (∀ p k, ¬ (p = 0 ∧ k = 62) → c.2 p k = J2 p k) ∧ (M 0 63 = 0 → c.2 0 62 = J2 0 62)) := by
  have lk := B.lk
  have gb : inb (Int32.ofNat b) 2 = true := (n_inb (by omega)).mpr (by omega)
  obtain ⟨m, hm, em, em2⟩ := l_nat P.n0
  have hst : st2 I pt 10 (Int32.ofNat m) = I := by
    funext p k
    unfold st2
    by_cases h : p = pt
    · subst h
      rw [if_pos rfl]
      show (if k = 10 then _ else I p k) = _
      by_cases h2 : k = 10
      · rw [if_pos h2, h2, em]
      · rw [if_neg h2]
    · rw [if_neg h]
  have hno : ∀ x : Int32, (x = -1 ∨ ∃ k, k < nk ∧ x = Int32.ofNat k) → Ev2 (some (x, I)) (some (x, J2)) (fun a c => a.1 = c.1 ∧ (a.1 = -1 ∨ ∃ k, k < nk ∧ a.1 = Int32.ofNat k) ∧ (∃ m, m < 2147483648 ∧ a.2 = st2 I pt 10 (Int32.ofNat m) ∧ c.2 0 62 = Int64.ofNat m) ∧ (∀ p k, ¬ (p = 0 ∧ k = 62) → c.2 p k = J2 p k) ∧ (M 0 63 = 0 → c.2 0 62 = J2 0 62)) := fun x hx => Ev2_some ⟨rfl, hx, ⟨m, hm, hst.symm, by show J2 0 62 = _; rw [P.nu, em2]⟩, fun _ _ _ => rfl, fun _ => rfl⟩
  delta f_X1_kindOf f_X11_weatherOf
  refine Ev2_gdR gb ?_
  have hse := P.tw.se
  rw [n_ix (by omega), hse]
  rcases P.tw.sx with hs | ⟨k, hk, hs⟩
  case inr =>
    rw [hs, if_neg (enc_neg (by omega)).2.2.1, if_neg (enc_neg (by omega)).2.1]
    exact Ev2_gdR gb (hno _ (Or.inr ⟨k, hk, rfl⟩))
  rw [hs, if_pos rfl, if_pos (by decide)]
  refine Ev2_gdR gb ?_
  rw [P.tw.y1, P.y2]
  obtain ⟨s, e1, e2⟩ := m_told D lk dy
  refine Ev2_L (p_kindTold D (by omega)) (Ev2_R e1 (Ev2_lsR ?_))
  rcases e2 with ⟨h1, h2⟩ | ⟨h1, h2, h3, h4⟩
  case inr =>
    rw [if_neg h4, if_neg h1]
    refine Ev2_gdR h2 ?_
    rw [h3]
    exact hno _ (tld_c D dy)
  rw [h2, if_pos rfl, if_pos h1]
  refine Ev2_lsL ?_
  rw [D.hv, P.f1]
  have hv := m_heaviest B
  have hvc := hvf_c (M 7) nk
  refine Ev2_if Iff.rfl (fun _ _ => Ev2_R hv (hno _ hvc)) (fun hfl _ => ?_)
  delta f_X11_drawnKind
  have hw := nws_sm B
  rw [m_weightAll B, hv, bd1_s, bd1_s, D.wc]
  have hvw := hv_w (f := M 7) (g := nwg bk I) nk (fun k hk => ⟨(B.wg hk).2.2, (B.wg hk).1⟩) lk
  have hse2 : smn (nwg bk I) nk = nws bk I nk := rfl
  rw [hse2] at hvw
  have hct : wct (M 7) nk ≤ nk := by
    have : ∀ n, wct (M 7) n ≤ n := fun n => by
      induction n with
      | zero => exact Nat.le_refl _
      | succ n ih =>
        show wct (M 7) n + _ ≤ n + 1
        split <;> omega
    exact this nk
  simp only [lt]
  rcases hvw with ⟨i1, i2, i3⟩ | ⟨j, hj, i1, i2, i3⟩
  · rw [i1, i2, if_neg (by decide), if_pos (by rfl), bd2_s]
    exact hno _ hvc
  · obtain ⟨hg1, hg2, hg3⟩ := B.wg hj
    have hn0 : ¬ Int32.ofNat (nws bk I nk) = 0 := fun e => by
      have := (n_eq (b := 0) (by omega) (by omega)).mp e
      rcases i3 with i3 | i3 <;> omega
    rw [if_neg hn0, i1, gd_t ((n_inb (by omega)).mpr (by omega)), n_ix (by omega), hg3]
    rcases i3 with ⟨c1, c2⟩ | ⟨c1, c2⟩
    · rw [c1, if_neg (by decide), c2, if_pos rfl, bd2_s]
      exact hno _ (Or.inr ⟨j, hj, rfl⟩)
    · have hc2 : (2 : Int32) ≤ Int32.ofNat (wct (M 7) nk) := (n_le (a := 2) (by omega) (by omega)).mpr c1
      rw [if_pos hc2, if_neg (fun e => by
        have := (n_eq (by omega) (by omega)).mp e
        omega), p_nextNumber em, bd2_s, m_number1 (m := m) (by rw [P.nu, em2]) (by omega) (by omega), bd2_s, gd_t (show inb 0 12 = true from rfl)]
      have hnx := nxt_lt m
      have hI' : ∀ p, bk ≤ p → p < bk + 16 → st2 I pt 10 (Int32.ofNat (nxt m)) p = I p := fun p _ _ => st2_ne (by omega)
      obtain ⟨k, hk, e5, e6⟩ := c_byNumber (J := st2 J2 0 62 (Int64.ofNat (nxt m))) B D hI' (q := nxt m / 65536) (by omega) (by omega)
      simp only [lt] at e6
      rw [e5, bd1_s, ixc.1, e6, bd2_s]
      refine Ev2_some ⟨rfl, Or.inr ⟨k, hk, rfl⟩, ⟨nxt m, hnx, rfl, ?_⟩, fun p k' h => ?_, fun e => absurd e hfl⟩
      · show st2 J2 0 62 (Int64.ofNat (nxt m)) 0 62 = _
        rw [st2_at, if_pos rfl]
      · show st2 J2 0 62 (Int64.ofNat (nxt m)) p k' = _
        unfold st2
        by_cases h0 : p = 0
        · subst h0
          rw [if_pos rfl]
          show (if k' = 62 then _ else J2 0 k') = _
          rw [if_neg (fun e => h ⟨rfl, e⟩)]
        · rw [if_neg h0]
