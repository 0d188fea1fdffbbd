/-! a look at a day -/
def clp (x : Int64) (lo hi : Int32) : Int32 := (lmax lo.toInt64 (lmin hi.toInt64 x)).toInt32
theorem clp_eq {x : Int64} {lo hi : Int32} (h : lo.toInt ≤ hi.toInt) : clp x lo hi = if lo.toInt64 ≤ x then (if x ≤ hi.toInt64 then x.toInt32 else hi) else lo := by
  unfold clp lmax lmin
  by_cases c1 : lo.toInt64 ≤ x
  · rw [if_pos c1]
    by_cases c2 : x ≤ hi.toInt64
    · rw [if_pos c2]
      rw [Int64.le_iff_toInt_le] at c1 c2
      by_cases c3 : x < hi.toInt64
      · rw [if_pos c3]
        by_cases c4 : x < lo.toInt64
        · rw [Int64.lt_iff_toInt_lt] at c4; omega
        · rw [if_neg c4]
      · rw [if_neg c3]
        rw [Int64.lt_iff_toInt_lt] at c3
        have e : x = hi.toInt64 := Int64.toInt.inj (by omega)
        subst e
        by_cases c4 : hi.toInt64 < lo.toInt64
        · rw [Int64.lt_iff_toInt_lt] at c4; omega
        · rw [if_neg c4]
    · rw [if_neg c2]
      rw [Int64.le_iff_toInt_le] at c1 c2
      have c3 : ¬ x < hi.toInt64 := fun c => by rw [Int64.lt_iff_toInt_lt] at c; omega
      have c4 : ¬ hi.toInt64 < lo.toInt64 := fun c => by
        rw [Int64.lt_iff_toInt_lt, Int32.toInt_toInt64, Int32.toInt_toInt64] at c; omega
      rw [if_neg c3, if_neg c4, Int32.toInt32_toInt64]
  · rw [if_neg c1]
    rw [Int64.le_iff_toInt_le] at c1
    have h1 := Int32.toInt_toInt64 lo
    have h2 := Int32.toInt_toInt64 hi
    have c3 : x < hi.toInt64 := by rw [Int64.lt_iff_toInt_lt]; omega
    have c4 : x < lo.toInt64 := by rw [Int64.lt_iff_toInt_lt]; omega
    rw [if_pos c3, if_pos c4, Int32.toInt32_toInt64]
theorem p_clamped (x : Int64) (lo hi : Int32) : f_X1_clamped x lo hi = some (clp x lo hi) := rfl
theorem m_bounded_ {x lo hi : Int32} (h : lo.toInt ≤ hi.toInt) : f_X11_bounded_ x lo hi = some (clp x.toInt64 lo hi) := by
  delta f_X11_bounded_
  rw [clp_eq h]
  simp only [lt]
  have e1 : lo ≤ x ↔ lo.toInt64 ≤ x.toInt64 := by
    rw [Int32.le_iff_toInt_le, Int64.le_iff_toInt_le, Int32.toInt_toInt64, Int32.toInt_toInt64]
  have e2 : x ≤ hi ↔ x.toInt64 ≤ hi.toInt64 := by
    rw [Int32.le_iff_toInt_le, Int64.le_iff_toInt_le, Int32.toInt_toInt64, Int32.toInt_toInt64]
  by_cases c1 : lo ≤ x
  · rw [if_pos c1, if_pos (e1.mp c1)]
    by_cases c2 : x ≤ hi
    · rw [if_pos c2, if_pos (e2.mp c2), Int32.toInt32_toInt64]
    · rw [if_neg c2, if_neg (fun c => c2 (e2.mpr c))]
  · rw [if_neg c1, if_neg (fun c => c1 (e1.mpr c))]
def ERR : Int64 := -9223372036854775808
def bl (v : Int64) (wo lo hi : Int32) : Int32 := if v = -9223372036854775808 then wo else clp v lo hi
theorem m_boundLaw {bk : Nat} {I M : MI} (L : LawR bk I M) {l : Nat} (hl : l < 3) {J : MJ} {nm : Nat → Int64} (hnm : ∀ z, z < 7 → nm z = J 24 z ∧ Bd (nm z)) {wo lo hi : Int32} (h : lo.toInt ≤ hi.toInt) : Ev (f_X11_boundLaw M J (Int32.ofNat l) wo lo hi) (fun a => FE M a.2.1 ∧ (∀ p, p ≠ 25 → a.2.2 p = J p) ∧ a.1 = bl (lawv bk I M l nm) wo lo hi) := by
  delta f_X11_boundLaw
  refine Ev_gd ((n_inb (by omega)).mpr (by omega)) ?_
  rw [n_ix (by omega)]
  refine Ev_if (fun c => ?_) (fun c => ?_)
  · refine Ev_some ⟨FE.rf M, fun _ _ => rfl, ?_⟩
    unfold bl lawv
    rw [if_pos c, if_pos rfl]
  · refine Ev_bd3 (P := fun x1 I2 J3 => FE M I2 ∧ (∀ p, p ≠ 25 → J3 p = J p) ∧ ((I2 0 51 = 1 ∧ lawv bk I M l nm = -9223372036854775808) ∨ (I2 0 51 = 0 ∧ x1 = lawv bk I M l nm ∧ Bd (lawv bk I M l nm)))) (m_law L hl c hnm) ?_
    rintro x1 I2 J3 ⟨h1, h2, h3⟩
    rcases h3 with ⟨h4, h5⟩ | ⟨h4, h5, h6⟩
    · rw [if_neg (by rw [h4]; decide)]
      refine Ev_some ⟨h1, h2, ?_⟩
      unfold bl
      rw [if_pos h5]
    · rw [if_pos h4]
      have hb : bl (lawv bk I M l nm) wo lo hi = if lo.toInt64 ≤ x1 then (if x1 ≤ hi.toInt64 then x1.toInt32 else hi) else lo := by
        unfold bl
        rw [if_neg (ne_err h6), clp_eq h, ← h5]
      rw [hb]
      refine Ev_ls ?_
      by_cases c1 : lo.toInt64 ≤ x1
      · rw [if_pos c1, if_pos c1]
        by_cases c2 : x1 ≤ hi.toInt64
        · rw [if_pos c2, if_pos c2]; exact Ev_some ⟨h1, h2, rfl⟩
        · rw [if_neg c2, if_neg c2]; exact Ev_some ⟨h1, h2, rfl⟩
      · rw [if_neg c1, if_neg c1]; exact Ev_some ⟨h1, h2, rfl⟩
/-- what a look does to USED and BILL; none: no look -/
def lkB (LV : Nat → (Nat → Int64) → Int64) (w e p b u g d : Int32) : Option (Int32 × Int32) :=
  if LV 0 (nmF w e p b u g d) = 0 then none else
    some (imin 99999 (u + bl (LV 1 (nmF w e p b u g d)) e 0 99), clp (b + bl (LV 2 (nmF w e p b (imin 99999 (u + bl (LV 1 (nmF w e p b u g d)) e 0 99)) g d)) (w * bl (LV 1 (nmF w e p b u g d)) e 0 99) (-999) 999).toInt64 (-99999) 99999)
theorem p_look {bk pt h k : Nat} {I M : MI} {J : MJ} (hbk : bk = 2 ∨ bk = 18) (hpt : 38 ≤ pt) (hpt2 : pt ≤ 46) (L : LawR bk I M) (hh : h < 6) (hk : k < 6) : Ev (f_X1_look I J bk pt (Int32.ofNat h) (Int32.ofNat k)) (fun a => a.1 = match lkB (lawv bk I M) (wF bk I k) (eF bk I h) (I (pt + 1) h) (I (pt + 2) h) (I (pt + 3) h) (I (bk + 3) k) (I pt 8) with
    | none => I
    | some q => st2 (st2 (st2 I (pt + 4) h (I (pt + 4) h + 1)) (pt + 3) h q.1) (pt + 2) h q.2) := by
  delta f_X1_look
  have g : inb (Int32.ofNat h) 6 = true := (n_inb (by omega)).mpr (by omega)
  have hb20 : bk < 20 := by omega
  refine Ev_bd1 (P := fun J' => (∀ p, p ≠ 63 → J' p = J p) ∧ ∀ z, z < 7 → nmF (wF bk I k) (eF bk I h) (I (pt + 1) h) (I (pt + 2) h) (I (pt + 3) h) (I (bk + 3) k) (I pt 8) z = J' 63 z) (p_name hh hk) ?_
  rintro J1 ⟨_, hn1⟩
  refine Ev_bd2 (P := fun x J3 => x = lawv bk I M 0 (nmF (wF bk I k) (eF bk I h) (I (pt + 1) h) (I (pt + 2) h) (I (pt + 3) h) (I (bk + 3) k) (I pt 8)) ∧ ∀ p, p ≠ bk + 15 → J3 p = J1 p) (p_law hb20 L (l := 0) (by omega) (fun z hz => ⟨hn1 z hz, nmF_bd _ _ _ _ _ _ _ z⟩)) ?_
  rintro x2 J3 ⟨rfl, hJ3⟩
  unfold lkB
  refine Ev_if (fun c => ?_) (fun c => ?_)
  · rw [if_pos c]; exact Ev_some rfl
  · rw [if_neg c]
    refine Ev_gd g (Ev_gd g (Ev_ls ?_))
    rw [n_ix (by omega)]
    have hI4 : ∀ p, bk ≤ p → p < bk + 16 → st2 I (pt + 4) h (I (pt + 4) h + 1) p = I p := fun p a b => st2_ne (by omega)
    have L4 : LawR bk (st2 I (pt + 4) h (I (pt + 4) h + 1)) M := L.fr hI4 (fun _ _ _ => rfl)
    have hv4 : ∀ nm, lawv bk (st2 I (pt + 4) h (I (pt + 4) h + 1)) M 1 nm = lawv bk I M 1 nm := fun nm => lawv_fr hI4 (fun _ _ _ => rfl) 1 nm
    refine Ev_bd2 (P := fun x J6 => x = lawv bk I M 1 (nmF (wF bk I k) (eF bk I h) (I (pt + 1) h) (I (pt + 2) h) (I (pt + 3) h) (I (bk + 3) k) (I pt 8)) ∧ ∀ p, p ≠ bk + 15 → J6 p = J3 p) (Ev_mono (p_law hb20 L4 (l := 1) (by omega) (fun z hz => ⟨(hn1 z hz).trans (congrFun (hJ3 63 (by omega)).symm z), nmF_bd _ _ _ _ _ _ _ z⟩)) (fun a ha => ⟨ha.1.trans (hv4 _), ha.2⟩)) ?_
    rintro x5 J6 ⟨rfl, hJ6⟩
    refine Ev_j1 (fun x7 => x7 = bl (lawv bk I M 1 (nmF (wF bk I k) (eF bk I h) (I (pt + 1) h) (I (pt + 2) h) (I (pt + 3) h) (I (bk + 3) k) (I pt 8))) (eF bk I h) 0 99) ?_ ?_
    · rintro x7 hx7
      rw [← hx7]
      refine Ev_gd g (Ev_gd g (Ev_ls (Ev_gd g (Ev_gd rfl (Ev_ls ?_)))))
      have e3 : st2 I (pt + 4) h (I (pt + 4) h + 1) (pt + 3) h = I (pt + 3) h := by rw [st2_ne (by omega)]
      have e8 : ∀ v, st2 (st2 I (pt + 4) h (I (pt + 4) h + 1)) (pt + 3) h v (pt + 3) h = v := fun v => by rw [st2_at, if_pos rfl]
      rw [e3, e8, ixc.2.2.2.2.1]
      obtain ⟨u', hu'⟩ : ∃ u', u' = imin 99999 (I (pt + 3) h + x7) := ⟨_, rfl⟩
      rw [← hu']
      have hI8 : ∀ p, bk ≤ p → p < bk + 16 → st2 (st2 I (pt + 4) h (I (pt + 4) h + 1)) (pt + 3) h u' p = I p := fun p a b => by rw [st2_ne (by omega), st2_ne (by omega)]
      have L8 : LawR bk (st2 (st2 I (pt + 4) h (I (pt + 4) h + 1)) (pt + 3) h u') M := L.fr hI8 (fun _ _ _ => rfl)
      have hv8 : ∀ nm, lawv bk (st2 (st2 I (pt + 4) h (I (pt + 4) h + 1)) (pt + 3) h u') M 2 nm = lawv bk I M 2 nm := fun nm => lawv_fr hI8 (fun _ _ _ => rfl) 2 nm
      have hn9 : ∀ z, z < 7 → nmF (wF bk I k) (eF bk I h) (I (pt + 1) h) (I (pt + 2) h) u' (I (bk + 3) k) (I pt 8) z = st2 J6 63 4 u'.toInt64 63 z := fun z hz => by
        rw [st2_at]
        by_cases h4 : z = 4
        · rw [if_pos h4, h4]; unfold nmF; simp
        · rw [if_neg h4, hJ6 63 (by omega), hJ3 63 (by omega), ← hn1 z hz]
          unfold nmF
          have hc : z = 0 ∨ z = 1 ∨ z = 2 ∨ z = 3 ∨ z = 5 ∨ z = 6 := by omega
          rcases hc with rfl | rfl | rfl | rfl | rfl | rfl <;> simp
      refine Ev_bd2 (P := fun x J6 => x = lawv bk I M 2 (nmF (wF bk I k) (eF bk I h) (I (pt + 1) h) (I (pt + 2) h) u' (I (bk + 3) k) (I pt 8)) ∧ True) (Ev_mono (p_law hb20 L8 (l := 2) (by omega) (fun z hz => ⟨hn9 z hz, nmF_bd _ _ _ _ _ _ _ z⟩)) (fun a ha => ⟨ha.1.trans (hv8 _), trivial⟩)) ?_
      rintro x10 J11 ⟨rfl, _⟩
      refine Ev_j1 (fun x12 => x12 = bl (lawv bk I M 2 (nmF (wF bk I k) (eF bk I h) (I (pt + 1) h) (I (pt + 2) h) u' (I (bk + 3) k) (I pt 8))) (wF bk I k * x7) (-999) 999) ?_ ?_
      · rintro x12 rfl
        refine Ev_gd g ?_
        rw [p_clamped, bd1_s]
        refine Ev_gd g (Ev_ls (Ev_some ?_))
        have e2 : st2 (st2 I (pt + 4) h (I (pt + 4) h + 1)) (pt + 3) h u' (pt + 2) h = I (pt + 2) h := by rw [st2_ne (by omega), st2_ne (by omega)]
        rw [e2]
      · intro j hj
        have ew : wF bk (st2 (st2 I (pt + 4) h (I (pt + 4) h + 1)) (pt + 3) h u') k = wF bk I k := by
          unfold wF
          rw [hI8 (bk + 2) (by omega) (by omega), st2_ne (by omega), st2_ne (by omega)]
        rw [p_worth hk, ew, p_clamped, bd1_s, bd1_s]
        refine Ev_if (fun c => hj _ ?_) (fun c => hj _ ?_)
        · unfold bl; rw [if_pos c]
        · unfold bl; rw [if_neg c]
    · intro j hj
      have ee : eF bk (st2 I (pt + 4) h (I (pt + 4) h + 1)) h = eF bk I h := by
        unfold eF
        rw [hI4 (bk + 6) (by omega) (by omega), st2_ne (by omega)]
      rw [p_eager hh, ee, p_clamped, bd1_s, bd1_s]
      refine Ev_if (fun c => hj _ ?_) (fun c => hj _ ?_)
      · unfold bl; rw [if_pos c]
      · unfold bl; rw [if_neg c]
/-- where a look leaves the model as it was -/
def FLq (x : Nat) (M M' : MI) : Prop := ∀ p k, ¬ (p = 0 ∧ k = 51) → ¬ (27 ≤ p ∧ p < 30 ∧ k = x) → M' p k = M p k
theorem FLq.fe {x : Nat} {M M' : MI} (h : FE M M') : FLq x M M' := fun p k a _ => h p k a
theorem FLq.tr {x : Nat} {M M' M'' : MI} (h : FLq x M M') (h' : FLq x M' M'') : FLq x M M'' := fun p k a b => (h' p k a b).trans (h p k a b)
theorem FLq.st {x : Nat} (M : MI) (p : Nat) (v : Int32) (h1 : 27 ≤ p) (h2 : p < 30) : FLq x M (st2 M p x v) := fun q k a b => by
  unfold st2
  by_cases h : q = p
  · subst h
    rw [if_pos rfl]
    show (if k = x then v else M q k) = _
    rw [if_neg (fun e => b ⟨h1, h2, e⟩)]
  · rw [if_neg h]
theorem FLq.row {x : Nat} {M M' : MI} (h : FLq x M M') {p : Nat} (h0 : p ≠ 0) (hp : ¬ (27 ≤ p ∧ p < 30)) : M' p = M p := by
  funext k
  exact h p k (fun e => h0 e.1) (fun e => hp ⟨e.1, e.2.1⟩)
theorem imin_clp {x : Int32} (h : 0 ≤ x.toInt) : clp x.toInt64 0 99999 = imin 99999 x := by
  rw [clp_eq (by decide)]
  unfold imin
  have e0 : (0 : Int32).toInt64 ≤ x.toInt64 := by
    rw [Int64.le_iff_toInt_le, Int32.toInt_toInt64, Int32.toInt_toInt64, z0]; exact h
  rw [if_pos e0, Int32.toInt32_toInt64]
  have e9 : (99999 : Int32).toInt = 99999 := rfl
  by_cases c : x.toInt64 ≤ (99999 : Int32).toInt64
  · rw [if_pos c]
    rw [Int64.le_iff_toInt_le, Int32.toInt_toInt64, Int32.toInt_toInt64] at c
    by_cases c2 : x < 99999
    · rw [if_pos c2]
    · rw [if_neg c2]
      rw [Int32.lt_iff_toInt_lt] at c2
      exact Int32.toInt.inj (by omega)
  · rw [if_neg c]
    rw [Int64.le_iff_toInt_le, Int32.toInt_toInt64, Int32.toInt_toInt64] at c
    rw [if_neg (fun c2 => by rw [Int32.lt_iff_toInt_lt] at c2; omega)]
theorem bl_use {v : Int64} {e : Int32} (he : 0 ≤ e.toInt ∧ e.toInt ≤ 99) : 0 ≤ (bl v e 0 99).toInt ∧ (bl v e 0 99).toInt ≤ 99 := by
  unfold bl
  have e9 : (99 : Int32).toInt = 99 := rfl
  split
  · exact he
  · rw [clp_eq (by decide)]
    split
    · next c1 =>
      split
      · next c2 =>
        rw [Int64.le_iff_toInt_le, Int32.toInt_toInt64, z0] at c1
        rw [Int64.le_iff_toInt_le, Int32.toInt_toInt64, e9] at c2
        have : (v.toInt32).toInt = v.toInt := by
          rw [Int64.toInt_toInt32]; exact Int.bmod_eq_of_le (by omega) (by omega)
        omega
      · omega
    · have := z0; omega
theorem m_looks {bk b h k : Nat} {I M : MI} {J : MJ} (L : LawR bk I M) (hb : b ≤ 1) (hh : h < 6) (hk : k < 6) : Ev (f_X11_looks M J (Int32.ofNat b) (Int32.ofNat h) (Int32.ofNat k)) (fun a => FLq (6 * b + h) M a.1 ∧ (∀ p, p ≠ 24 → p ≠ 25 → a.2 p = J p) ∧ (0 ≤ (M 28 (6 * b + h)).toInt → (M 28 (6 * b + h)).toInt ≤ 99999 → 0 ≤ (eM M h).toInt → (eM M h).toInt ≤ 99 → match lkB (lawv bk I M) (wM M k) (eM M h) (M 26 (6 * b + h)) (M 27 (6 * b + h)) (M 28 (6 * b + h)) (M 7 k) (M 35 b) with
    | none => a.1 29 (6 * b + h) = M 29 (6 * b + h) ∧ a.1 28 (6 * b + h) = M 28 (6 * b + h) ∧ a.1 27 (6 * b + h) = M 27 (6 * b + h)
    | some q => a.1 29 (6 * b + h) = M 29 (6 * b + h) + 1 ∧ a.1 28 (6 * b + h) = q.1 ∧ a.1 27 (6 * b + h) = q.2)) := by
  delta f_X11_looks
  refine Ev_ls ?_
  rw [n_6b]
  obtain ⟨x, hx⟩ : ∃ x, x = 6 * b + h := ⟨_, rfl⟩
  have hx12 : x < 12 := by omega
  have gx : inb (Int32.ofNat x) 12 = true := (n_inb (by omega)).mpr hx12
  rw [← hx]
  refine Ev_bd1 (P := fun J' => (∀ p, p ≠ 24 → J' p = J p) ∧ ∀ z, z < 7 → nmF (wM M k) (eM M h) (M 26 x) (M 27 x) (M 28 x) (M 7 k) (M 35 b) z = J' 24 z) (by rw [hx]; exact m_lay hb hh hk) ?_
  rintro J2 ⟨hJ2, hn2⟩
  refine Ev_gd rfl ?_
  obtain ⟨nm, hnm⟩ : ∃ nm, nm = nmF (wM M k) (eM M h) (M 26 x) (M 27 x) (M 28 x) (M 7 k) (M 35 b) := ⟨_, rfl⟩
  have hbd : ∀ z, Bd (nm z) := fun z => by rw [hnm]; exact nmF_bd _ _ _ _ _ _ _ z
  obtain ⟨Q, hQ⟩ : ∃ Q : MI × MJ → Prop, Q = (fun a => FLq x M a.1 ∧ (∀ p, p ≠ 24 → p ≠ 25 → a.2 p = J p) ∧ (0 ≤ (M 28 x).toInt → (M 28 x).toInt ≤ 99999 → 0 ≤ (eM M h).toInt → (eM M h).toInt ≤ 99 → match lkB (lawv bk I M) (wM M k) (eM M h) (M 26 x) (M 27 x) (M 28 x) (M 7 k) (M 35 b) with
    | none => a.1 29 x = M 29 x ∧ a.1 28 x = M 28 x ∧ a.1 27 x = M 27 x
    | some q => a.1 29 x = M 29 x + 1 ∧ a.1 28 x = q.1 ∧ a.1 27 x = q.2)) := ⟨_, rfl⟩
  have hlk : lkB (lawv bk I M) (wM M k) (eM M h) (M 26 x) (M 27 x) (M 28 x) (M 7 k) (M 35 b) = if lawv bk I M 0 nm = 0 then none else some (imin 99999 (M 28 x + bl (lawv bk I M 1 nm) (eM M h) 0 99), clp (M 27 x + bl (lawv bk I M 2 (nmF (wM M k) (eM M h) (M 26 x) (M 27 x) (imin 99999 (M 28 x + bl (lawv bk I M 1 nm) (eM M h) 0 99)) (M 7 k) (M 35 b))) (wM M k * bl (lawv bk I M 1 nm) (eM M h) 0 99) (-999) 999).toInt64 (-99999) 99999) := by rw [hnm]; rfl
  rw [← hQ]
  refine Ev_j2 (fun I3 J4 => FE M I3 ∧ (∀ p, p ≠ 25 → J4 p = J2 p) ∧ ¬ lawv bk I M 0 nm = 0) ?_ ?_
  · rintro I3 J4 ⟨hI3, hJ4, hne⟩
    rw [if_neg hne] at hlk
    refine Ev_gd gx (Ev_gd gx (Ev_ls ?_))
    rw [n_ix (by omega)]
    have f5 : FLq x M (st2 I3 29 x (I3 29 x + 1)) := (FLq.fe hI3).tr (FLq.st _ 29 _ (by omega) (by omega))
    obtain ⟨I5, hI5⟩ : ∃ I5, I5 = st2 I3 29 x (I3 29 x + 1) := ⟨_, rfl⟩
    rw [← hI5] at f5 ⊢
    have e5 : eM I5 h = eM M h := by
      unfold eM
      rw [f5 0 65 (by omega) (by omega), f5.row (p := 10) (by omega) (by omega)]
    rw [m_eagerOf hh, e5, bd1_s]
    have fr5 : ∀ p, 4 ≤ p → p < 22 → I5 p = M p := fun p a b => f5.row (by omega) (by omega)
    have L5 : LawR bk I I5 := L.fr (fun _ _ _ => rfl) fr5
    have hv5 : ∀ nm, lawv bk I I5 1 nm = lawv bk I M 1 nm := fun nm => lawv_fr (fun _ _ _ => rfl) fr5 1 nm
    refine Ev_bd3 (P := fun x7 I8 J9 => FE I5 I8 ∧ (∀ p, p ≠ 25 → J9 p = J4 p) ∧ x7 = bl (lawv bk I M 1 nm) (eM M h) 0 99) (Ev_mono (m_boundLaw L5 (l := 1) (by omega) (nm := nm) (fun z hz => ⟨by rw [hJ4 24 (by decide), ← hn2 z hz, hnm], hbd z⟩) (by decide)) (fun a ha => ⟨ha.1, ha.2.1, ha.2.2.trans (by rw [hv5])⟩)) ?_
    rintro x7 I8 J9 ⟨hI8, hJ9, hx7⟩
    rw [← hx7] at hlk
    refine Ev_gd gx ?_
    have f8 : FLq x M I8 := f5.tr (FLq.fe hI8)
    have e28 : I8 28 x = M 28 x := by
      rw [hI8 28 x (by omega), hI5, st2_ne (by omega)]
      exact hI3 28 x (by omega)
    rw [m_bounded_ (by decide), bd1_s]
    refine Ev_gd gx (Ev_ls ?_)
    rw [e28]
    obtain ⟨u', hu'⟩ : ∃ u', u' = clp (M 28 x + x7).toInt64 0 99999 := ⟨_, rfl⟩
    rw [← hu']
    have f11 : FLq x M (st2 I8 28 x u') := f8.tr (FLq.st _ 28 _ (by omega) (by omega))
    obtain ⟨I11, hI11⟩ : ∃ I11, I11 = st2 I8 28 x u' := ⟨_, rfl⟩
    rw [← hI11] at f11 ⊢
    have r26 : I11 26 x = M 26 x := by rw [f11.row (p := 26) (by omega) (by omega)]
    have r35 : I11 35 b = M 35 b := by rw [f11.row (p := 35) (by omega) (by omega)]
    have r7 : I11 7 k = M 7 k := by rw [f11.row (p := 7) (by omega) (by omega)]
    have r28 : I11 28 x = u' := by rw [hI11, st2_at, if_pos rfl]
    have r27 : I11 27 x = M 27 x := by
      rw [hI11, st2_ne (by omega), hI8 27 x (by omega), hI5, st2_ne (by omega)]
      exact hI3 27 x (by omega)
    have r29 : I11 29 x = M 29 x + 1 := by
      rw [hI11, st2_ne (by omega), hI8 29 x (by omega), hI5, st2_at, if_pos rfl, hI3 29 x (by omega)]
    have ew : wM I11 k = wM M k := by
      unfold wM
      rw [f11 0 64 (by omega) (by omega), f11.row (p := 6) (by omega) (by omega)]
    have ee : eM I11 h = eM M h := by
      unfold eM
      rw [f11 0 65 (by omega) (by omega), f11.row (p := 10) (by omega) (by omega)]
    have hlay := m_lay (M := I11) (J := J9) hb hh hk
    rw [← hx, r26, r27, r28, r7, r35, ew, ee] at hlay
    refine Ev_bd1 (P := fun J' => (∀ p, p ≠ 24 → J' p = J9 p) ∧ ∀ z, z < 7 → nmF (wM M k) (eM M h) (M 26 x) (M 27 x) u' (M 7 k) (M 35 b) z = J' 24 z) hlay ?_
    rintro J12 ⟨hJ12, hn12⟩
    refine Ev_gd gx ?_
    rw [m_worthOf hk, ew, bd1_s]
    have fr11 : ∀ p, 4 ≤ p → p < 22 → I11 p = M p := fun p a b => f11.row (by omega) (by omega)
    have L11 : LawR bk I I11 := L.fr (fun _ _ _ => rfl) fr11
    have hv11 : ∀ nm, lawv bk I I11 2 nm = lawv bk I M 2 nm := fun nm => lawv_fr (fun _ _ _ => rfl) fr11 2 nm
    refine Ev_bd3 (P := fun x14 I15 J16 => FE I11 I15 ∧ (∀ p, p ≠ 25 → J16 p = J12 p) ∧ x14 = bl (lawv bk I M 2 (nmF (wM M k) (eM M h) (M 26 x) (M 27 x) u' (M 7 k) (M 35 b))) (wM M k * x7) (-999) 999) (Ev_mono (m_boundLaw L11 (l := 2) (by omega) (fun z hz => ⟨hn12 z hz, nmF_bd _ _ _ _ _ _ _ z⟩) (by decide)) (fun a ha => ⟨ha.1, ha.2.1, ha.2.2.trans (by rw [hv11])⟩)) ?_
    rintro x14 I15 J16 ⟨hI15, hJ16, hx14⟩
    rw [m_bounded_ (by decide), bd1_s]
    refine Ev_gd gx (Ev_ls ?_)
    rw [hQ]
    refine Ev_some ⟨f11.tr ((FLq.fe hI15).tr (FLq.st _ 27 _ (by omega) (by omega))), fun p h1 h2 => ?_, fun u0 u1 e0 e1 => ?_⟩
    · show J16 p = J p
      rw [hJ16 p h2, hJ12 p h1, hJ9 p h2, hJ4 p h2, hJ2 p h1]
    · have hxb : 0 ≤ x7.toInt ∧ x7.toInt ≤ 99 := by rw [hx7]; exact bl_use ⟨e0, e1⟩
      have hue : u' = imin 99999 (M 28 x + x7) := by
        rw [hu']
        refine imin_clp ?_
        rw [i_add (by omega) (by omega)]; omega
      rw [hlk, ← hue, ← hx14]
      refine ⟨?_, ?_, ?_⟩
      · show st2 I15 27 x (clp (I11 27 x + x14).toInt64 (-99999) 99999) 29 x = _
        rw [st2_ne (by omega), hI15 29 x (by omega), r29]
      · show st2 I15 27 x (clp (I11 27 x + x14).toInt64 (-99999) 99999) 28 x = _
        rw [st2_ne (by omega), hI15 28 x (by omega), r28]
      · show st2 I15 27 x (clp (I11 27 x + x14).toInt64 (-99999) 99999) 27 x = _
        rw [st2_at, if_pos rfl, r27]
  · intro j hj
    refine Ev_if (fun c => ?_) (fun c => ?_)
    · refine hj _ _ ⟨FE.rf M, fun _ _ => rfl, ?_⟩
      unfold lawv
      rw [if_pos (show M 16 0 = 0 from c)]; decide
    · refine Ev_bd3 (P := fun x1 I2 J3 => FE M I2 ∧ (∀ p, p ≠ 25 → J3 p = J2 p) ∧ ((I2 0 51 = 1 ∧ lawv bk I M 0 nm = -9223372036854775808) ∨ (I2 0 51 = 0 ∧ x1 = lawv bk I M 0 nm ∧ Bd (lawv bk I M 0 nm)))) (m_law L (l := 0) (by omega) c (fun z hz => ⟨by rw [← hn2 z hz, hnm], hbd z⟩)) ?_
      rintro x19 I20 J21 ⟨h1, h2, h3⟩
      rcases h3 with ⟨h4, h5⟩ | ⟨h4, h5, h6⟩
      · have hne : ¬ lawv bk I M 0 nm = 0 := by rw [h5]; decide
        rw [if_neg (show ¬ I20 0 51 = 0 by rw [h4]; decide)]
        exact Ev_if (fun _ => hj _ _ ⟨h1, h2, hne⟩) (fun _ => hj _ _ ⟨h1, h2, hne⟩)
      · rw [if_pos h4]
        refine Ev_if (fun c => ?_) (fun c => ?_)
        · rw [hQ]
          have c' : lawv bk I M 0 nm = 0 := h5.symm.trans c
          rw [if_pos c'] at hlk
          refine Ev_some ⟨FLq.fe h1, fun p a b => (h2 p b).trans (hJ2 p a), fun _ _ _ _ => ?_⟩
          rw [hlk]
          exact ⟨h1 29 x (by omega), h1 28 x (by omega), h1 27 x (by omega)⟩
        · exact hj _ _ ⟨h1, h2, fun e => c (h5.trans e)⟩
