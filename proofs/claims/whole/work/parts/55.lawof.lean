/-! a law read from left to right: the model's knots -/
def FE (I I' : MI) : Prop := ∀ p k, ¬ (p = 0 ∧ k = 51) → I' p k = I p k
theorem FE.st (I : MI) (v : Int32) : FE I (st2 I 0 51 v) := fun p k h => by
  unfold st2
  by_cases h0 : p = 0
  · subst h0; rw [if_pos rfl, if_neg (fun e => h ⟨rfl, e⟩)]
  · rw [if_neg h0]
theorem FE.rf (I : MI) : FE I I := fun _ _ _ => rfl
theorem FE.tr {I I' I'' : MI} (h : FE I I') (h' : FE I' I'') : FE I I'' := fun p k e => (h' p k e).trans (h p k e)
theorem FE.row {I I' : MI} (h : FE I I') {p : Nat} (hp : p ≠ 0) : I' p = I p := by
  funext k
  exact h p k (fun e => hp e.1)
theorem m_bounded (I : MI) (h : I 0 51 = 0) (x : Int64) : f_X11_bounded I x = match (if 1000000000000 < x then none else if -1000000000000 ≤ x then some x else none : Option Int64) with
    | none => some (0, st2 I 0 51 1)
    | some y => some (y, st2 I 0 51 0) := by
  delta f_X11_bounded
  simp only [lt]
  rw [if_pos h]
  by_cases c1 : 1000000000000 < x
  · rw [if_pos c1, if_pos c1]; rfl
  · rw [if_neg c1, if_neg c1]
    by_cases c2 : -1000000000000 ≤ x
    · rw [if_pos c2, if_pos c2]; rfl
    · rw [if_neg c2, if_neg c2]; rfl
theorem m_boundedE (I : MI) (h : I 0 51 = 1) (x : Int64) : f_X11_bounded I x = some (0, st2 I 0 51 1) := by
  delta f_X11_bounded
  simp only [lt]
  rw [if_neg (by rw [h]; decide)]; rfl
theorem l_neg0 {a : Int64} (h : ¬ a = 0) : ¬ -a = 0 := fun e => h (by
  have := congrArg (fun x => -x) e
  simp only [Int64.neg_neg] at this
  rw [this]; rfl)
theorem nzl_t {a : Int64} (h : ¬ a = 0) : nzl a = true := by
  unfold nzl
  rw [decide_eq_false h]; rfl
theorem m_timesE (I : MI) (h : I 0 51 = 1) (x y : Int64) : f_X11_times I x y = some (0, st2 I 0 51 1) := by
  have hn : ¬ I 0 51 = 0 := by rw [h]; decide
  delta f_X11_times
  simp only [lt]
  by_cases hx : x = 0
  · rw [if_pos hx, if_neg hn]; rfl
  · rw [if_neg hx]
    by_cases hy : y = 0
    · rw [if_pos hy, if_neg hn]; rfl
    · rw [if_neg hy]
      have hnx := l_neg0 hx
      rw [gd_t (nzl_t hx), gd_t (nzl_t hnx), gd_t (nzl_t hx), gd_t (nzl_t hnx), if_neg hn, if_neg hn]
      have hs : ∀ c : Prop, [Decidable c] → ∀ (a : Option (Int64 × MI)), (if c then a else a) = a := fun c _ a => by split <;> rfl
      simp only [hs]
      rfl
theorem m_times (I : MI) (h : I 0 51 = 0) {x y : Int64} (hx : Bd x) (hy : Bd y) : f_X11_times I x y = match jn 13 x y with
    | none => some (0, st2 I 0 51 1)
    | some z => some (z, st2 I 0 51 0) := by
  have hj : jn 13 x y = (if x = 0 then some 0 else (if (1000000000000 : Int64) / (if (0 : Int64) ≤ x then x else -x) < y then none else if -((1000000000000 : Int64) / (if (0 : Int64) ≤ x then x else -x)) ≤ y then some (x * y) else none)) := rfl
  rw [hj]
  delta f_X11_times
  simp only [lt]
  by_cases h0 : x = 0
  · rw [if_pos h0, if_pos h0, if_pos h, h0]
    simp only [Int64.zero_mul]
    rfl
  · rw [if_neg h0, if_neg h0]
    obtain ⟨m, e1, e2, e3, hz⟩ := l_most hx h0
    obtain ⟨z, hzz⟩ : ∃ z, z = (1000000000000 : Int64) / (if (0 : Int64) ≤ x then x else -x) := ⟨_, rfl⟩
    rw [← hzz] at e1 ⊢
    by_cases hy0 : y = 0
    · rw [if_pos hy0, if_pos h]
      have c1 : ¬ z < y := fun c => by
        rw [Int64.lt_iff_toInt_lt, e1, hy0, L0] at c; omega
      have c2 : -z ≤ y := by
        rw [Int64.le_iff_toInt_le, l_neg' (by omega), e1, hy0, L0]; omega
      rw [if_neg c1, if_pos c2, hy0]
      simp only [Int64.mul_zero]
      rfl
    · rw [if_neg hy0]
      have hyb := hy
      unfold Bd at hyb
      have ey : (if (0 : Int64) ≤ y then y else -y).toInt = y.toInt.natAbs := by
        by_cases c : (0 : Int64) ≤ y
        · rw [if_pos c]
          rw [Int64.le_iff_toInt_le, L0] at c; omega
        · rw [if_neg c]
          rw [Int64.le_iff_toInt_le, L0] at c
          rw [l_neg' (by omega)]; omega
      have key : ∀ (T E : Option (Int64 × MI)), (if (0 : Int64) ≤ y then (if (0 : Int64) ≤ x then gd (nzl x) (if y ≤ 1000000000000 / x then T else E) else gd (nzl (-x)) (if y ≤ 1000000000000 / (-x) then T else E)) else (if (0 : Int64) ≤ x then gd (nzl x) (if -y ≤ 1000000000000 / x then T else E) else gd (nzl (-x)) (if -y ≤ 1000000000000 / (-x) then T else E))) = if z < y then E else if -z ≤ y then T else E := fun T E => by
        have h1 : (if (0 : Int64) ≤ y then (if (0 : Int64) ≤ x then gd (nzl x) (if y ≤ 1000000000000 / x then T else E) else gd (nzl (-x)) (if y ≤ 1000000000000 / (-x) then T else E)) else (if (0 : Int64) ≤ x then gd (nzl x) (if -y ≤ 1000000000000 / x then T else E) else gd (nzl (-x)) (if -y ≤ 1000000000000 / (-x) then T else E))) = if (if (0 : Int64) ≤ y then y else -y) ≤ z then T else E := by
          rw [hzz]
          by_cases cy : (0 : Int64) ≤ y
          · by_cases cx : (0 : Int64) ≤ x
            · simp only [if_pos cy, if_pos cx]; rw [gd_t (nzl_t h0)]
            · simp only [if_pos cy, if_neg cx]; rw [gd_t (nzl_t (l_neg0 h0))]
          · by_cases cx : (0 : Int64) ≤ x
            · simp only [if_neg cy, if_pos cx]; rw [gd_t (nzl_t h0)]
            · simp only [if_neg cy, if_neg cx]; rw [gd_t (nzl_t (l_neg0 h0))]
        rw [h1]
        by_cases c : (if (0 : Int64) ≤ y then y else -y) ≤ z
        · rw [if_pos c]
          rw [Int64.le_iff_toInt_le, ey, e1] at c
          have c1 : ¬ z < y := fun c' => by
            rw [Int64.lt_iff_toInt_lt, e1] at c'; omega
          have c2 : -z ≤ y := by
            rw [Int64.le_iff_toInt_le, l_neg' (by omega), e1]; omega
          rw [if_neg c1, if_pos c2]
        · rw [if_neg c]
          rw [Int64.le_iff_toInt_le, ey, e1] at c
          by_cases c1 : z < y
          · rw [if_pos c1]
          · have c2 : ¬ -z ≤ y := fun c' => by
              rw [Int64.le_iff_toInt_le, l_neg' (by omega), e1] at c'
              rw [Int64.lt_iff_toInt_lt, e1] at c1
              omega
            rw [if_neg c1, if_neg c2]
      rw [key, if_pos h]
      by_cases c1 : z < y
      · rw [if_pos c1, if_pos c1]; rfl
      · rw [if_neg c1, if_neg c1]
        by_cases c2 : -z ≤ y
        · rw [if_pos c2, if_pos c2, if_pos h]; rfl
        · rw [if_neg c2, if_neg c2]; rfl
/-- the knot itself, whatever the values -/
def Kn (K P O : Nat → Int32) (i : Nat) : Prop := (K i = 0) ∨ (K i = 1 ∧ ∃ z, z < 7 ∧ P i = Int32.ofNat z) ∨ (K i = 2 ∧ ∃ a, a < 64 ∧ P i = Int32.ofNat a) ∨ (∃ a b k, a < 64 ∧ b < 64 ∧ 3 ≤ k ∧ k ≤ 14 ∧ K i = Int32.ofNat k ∧ P i = Int32.ofNat a ∧ O i = Int32.ofNat b)
def VO (I : MI) (J : MJ) (i : Nat) (a : Int64 × MI) : Prop := match ev1 (I 19) (I 20) (I 21) (J 24) (J 25) i with
  | none => a.2 0 51 = 1
  | some x => a.1 = x ∧ a.2 0 51 = 0
theorem VO_n {I : MI} {J : MJ} {i : Nat} {a : Int64 × MI} (h : ev1 (I 19) (I 20) (I 21) (J 24) (J 25) i = none) (h1 : a.2 0 51 = 1) : VO I J i a := by
  unfold VO; rw [h]; exact h1
theorem VO_s {I : MI} {J : MJ} {i : Nat} {a : Int64 × MI} {x : Int64} (h : ev1 (I 19) (I 20) (I 21) (J 24) (J 25) i = some x) (h1 : a.1 = x) (h2 : a.2 0 51 = 0) : VO I J i a := by
  unfold VO; rw [h]; exact ⟨h1, h2⟩
theorem m_valueOf {I : MI} {J : MJ} {i : Nat} (hi : i < 64) (hk : Kn (I 19) (I 20) (I 21) i) (h0 : I 0 51 = 0) (hbb : ¬ I 19 i = 0 → ¬ I 19 i = 1 → ¬ I 19 i = 2 → Bd (J 25 (ix (I 20 i))) ∧ Bd (J 25 (ix (I 21 i)))) : Ev (f_X11_valueOf I J (Int32.ofNat i)) (fun a => FE I a.2 ∧ VO I J i a) := by
  delta f_X11_valueOf
  have g : inb (Int32.ofNat i) 128 = true := (n_inb (by omega)).mpr (by omega)
  have e1 : ∀ x, (if I 19 i = 0 then some (I 20 i).toInt64 else if I 19 i = 1 then some (J 24 (ix (I 20 i))) else if I 19 i = 2 then some (if J 25 (ix (I 20 i)) = 0 then 1 else 0) else jn (ix (I 19 i)) (J 25 (ix (I 20 i))) (J 25 (ix (I 21 i)))) = x → ev1 (I 19) (I 20) (I 21) (J 24) (J 25) i = x := fun _ h => h
  refine Ev_gd g ?_
  rw [n_ix (by omega)]
  rcases hk with ek | ⟨ek, z, hz, ep⟩ | ⟨ek, a, ha, ep⟩ | ⟨a, b, k, ha, hb, hk1, hk2, ek, ep, eo⟩
  · rw [if_pos ek]
    rw [if_pos ek] at e1
    exact Ev_gd g (Ev_some ⟨FE.rf I, VO_s (e1 _ rfl) rfl h0⟩)
  · have n0 : ¬ I 19 i = 0 := by rw [ek]; decide
    rw [if_neg n0]
    rw [if_neg n0, if_pos ek] at e1
    refine Ev_gd g ?_
    rw [if_pos ek]
    refine Ev_gd g ?_
    refine Ev_gd (by rw [ep]; exact (n_inb (by omega)).mpr (by omega)) ?_
    exact Ev_some ⟨FE.rf I, VO_s (e1 _ rfl) rfl h0⟩
  · have n0 : ¬ I 19 i = 0 := by rw [ek]; decide
    have n1 : ¬ I 19 i = 1 := by rw [ek]; decide
    rw [if_neg n0]
    rw [if_neg n0, if_neg n1, if_pos ek] at e1
    refine Ev_gd g ?_
    rw [if_neg n1]
    refine Ev_gd g (Ev_gd (by rw [ep]; exact (n_inb (by omega)).mpr (by omega)) (Ev_ls (Ev_gd g ?_)))
    rw [if_pos ek]
    refine Ev_ls (Ev_if (fun c => Ev_some ⟨FE.rf I, VO_s (e1 _ rfl) ?_ h0⟩) (fun c => Ev_some ⟨FE.rf I, VO_s (e1 _ rfl) ?_ h0⟩))
    · rw [if_pos c]
    · rw [if_neg c]
  · have n0 : ¬ I 19 i = 0 := by
      rw [ek]
      exact fun e => by
        have := (n_eq (b := 0) (by omega) (by omega)).mp e
        omega
    have n1 : ¬ I 19 i = 1 := by
      rw [ek]
      exact fun e => by
        have := (n_eq (b := 1) (by omega) (by omega)).mp e
        omega
    have n2 : ¬ I 19 i = 2 := by
      rw [ek]
      exact fun e => by
        have := (n_eq (b := 2) (by omega) (by omega)).mp e
        omega
    rw [if_neg n0]
    rw [if_neg n0, if_neg n1, if_neg n2] at e1
    refine Ev_gd g ?_
    rw [if_neg n1]
    refine Ev_gd g (Ev_gd (by rw [ep]; exact (n_inb (by omega)).mpr (by omega)) (Ev_ls (Ev_gd g ?_)))
    rw [if_neg n2]
    refine Ev_gd g (Ev_gd (by rw [eo]; exact (n_inb (by omega)).mpr (by omega)) (Ev_ls (Ev_gd g ?_)))
    obtain ⟨hb1, hb2⟩ := hbb n0 n1 n2
    obtain ⟨x, hx⟩ : ∃ x, x = J 25 (ix (I 20 i)) := ⟨_, rfl⟩
    obtain ⟨y, hy⟩ : ∃ y, y = J 25 (ix (I 21 i)) := ⟨_, rfl⟩
    rw [← hx] at hb1 e1 ⊢
    rw [← hy] at hb2 e1 ⊢
    rw [ek] at e1 ⊢
    rw [n_ix (by omega)] at e1
    have hc : k = 3 ∨ k = 4 ∨ k = 5 ∨ k = 6 ∨ k = 7 ∨ k = 8 ∨ k = 9 ∨ k = 10 ∨ k = 11 ∨ k = 12 ∨ k = 13 ∨ k = 14 := by omega
    have hs : ∀ v : Int64, jn k x y = some v → Ev (some (v, I)) (fun a => FE I a.2 ∧ VO I J i a) := fun v hv => Ev_some ⟨FE.rf I, VO_s (e1 _ hv) rfl h0⟩
    have hbn : ∀ w : Int64, (∀ r, (if 1000000000000 < w then none else if -1000000000000 ≤ w then some w else none : Option Int64) = r → jn k x y = r) → Ev (bd2 (f_X11_bounded I w) (fun x6 I7 => some (x6, I7))) (fun a => FE I a.2 ∧ VO I J i a) := fun w hw => by
      rw [m_bounded I h0]
      cases hq : (if 1000000000000 < w then none else if -1000000000000 ≤ w then some w else none : Option Int64) with
      | none => exact Ev_some ⟨FE.st I 1, VO_n (e1 _ (hw _ hq)) rfl⟩
      | some y => exact Ev_some ⟨FE.st I 0, VO_s (e1 _ (hw _ hq)) rfl rfl⟩
    rcases hc with rfl | rfl | rfl | rfl | rfl | rfl | rfl | rfl | rfl | rfl | rfl | rfl
    · show Ev (if x = 0 then some (0, I) else if y = 0 then some (0, I) else some (1, I)) _
      by_cases c : x = 0
      · rw [if_pos c]; exact hs _ (by show some (if x = 0 then _ else _) = _; rw [if_pos c])
      · rw [if_neg c]
        by_cases c' : y = 0
        · rw [if_pos c']; exact hs _ (by show some (if x = 0 then _ else if y = 0 then _ else _) = _; rw [if_neg c, if_pos c'])
        · rw [if_neg c']; exact hs _ (by show some (if x = 0 then _ else if y = 0 then _ else _) = _; rw [if_neg c, if_neg c'])
    · show Ev (if x = 0 then (if y = 0 then some (0, I) else some (1, I)) else some (1, I)) _
      by_cases c : x = 0
      · rw [if_pos c]
        by_cases c' : y = 0
        · rw [if_pos c']; exact hs _ (by show some (if x = 0 then (if y = 0 then _ else _) else _) = _; rw [if_pos c, if_pos c'])
        · rw [if_neg c']; exact hs _ (by show some (if x = 0 then (if y = 0 then _ else _) else _) = _; rw [if_pos c, if_neg c'])
      · rw [if_neg c]; exact hs _ (by show some (if x = 0 then _ else _) = _; rw [if_neg c])
    · refine Ev_gd g ?_
      have e5 : f_X11_compares (Int32.ofNat 5) x y = some (if y ≤ x then false else true) := by
        show (if y ≤ x then some false else some true) = _
        split <;> rfl
      rw [e5, bd1_s]
      refine Ev_ls ?_
      by_cases c : y ≤ x
      · rw [if_pos c]; exact hs _ (by show some (if y ≤ x then _ else _) = _; rw [if_pos c])
      · rw [if_neg c]; exact hs _ (by show some (if y ≤ x then _ else _) = _; rw [if_neg c])
    · refine Ev_gd g ?_
      have e5 : f_X11_compares (Int32.ofNat 6) x y = some (if y < x then false else true) := by
        show (if y < x then some false else some true) = _
        split <;> rfl
      rw [e5, bd1_s]
      refine Ev_ls ?_
      by_cases c : y < x
      · rw [if_pos c]; exact hs _ (by show some (if y < x then _ else _) = _; rw [if_pos c])
      · rw [if_neg c]; exact hs _ (by show some (if y < x then _ else _) = _; rw [if_neg c])
    · refine Ev_gd g ?_
      have e5 : f_X11_compares (Int32.ofNat 7) x y = some (if x = y then true else false) := by
        show (if x = y then some true else some false) = _
        split <;> rfl
      rw [e5, bd1_s]
      refine Ev_ls ?_
      by_cases c : x = y
      · rw [if_pos c]; exact hs _ (by show some (if x = y then _ else _) = _; rw [if_pos c])
      · rw [if_neg c]; exact hs _ (by show some (if x = y then _ else _) = _; rw [if_neg c])
    · refine Ev_gd g ?_
      have e5 : f_X11_compares (Int32.ofNat 8) x y = some (if x = y then false else true) := by
        show (if x = y then some false else some true) = _
        split <;> rfl
      rw [e5, bd1_s]
      refine Ev_ls ?_
      by_cases c : x = y
      · rw [if_pos c]; exact hs _ (by show some (if x = y then _ else _) = _; rw [if_pos c])
      · rw [if_neg c]; exact hs _ (by show some (if x = y then _ else _) = _; rw [if_neg c])
    · refine Ev_gd g ?_
      have e5 : f_X11_compares (Int32.ofNat 9) x y = some (if x < y then false else true) := by
        show (if x < y then some false else some true) = _
        split <;> rfl
      rw [e5, bd1_s]
      refine Ev_ls ?_
      by_cases c : x < y
      · rw [if_pos c]; exact hs _ (by show some (if x < y then _ else _) = _; rw [if_pos c])
      · rw [if_neg c]; exact hs _ (by show some (if x < y then _ else _) = _; rw [if_neg c])
    · refine Ev_gd g ?_
      have e5 : f_X11_compares (Int32.ofNat 10) x y = some (if x ≤ y then false else true) := by
        show (if x ≤ y then some false else some true) = _
        split <;> rfl
      rw [e5, bd1_s]
      refine Ev_ls ?_
      by_cases c : x ≤ y
      · rw [if_pos c]; exact hs _ (by show some (if x ≤ y then _ else _) = _; rw [if_pos c])
      · rw [if_neg c]; exact hs _ (by show some (if x ≤ y then _ else _) = _; rw [if_neg c])
    · exact hbn (x + y) (fun r hr => hr)
    · exact hbn (x - y) (fun r hr => hr)
    · show Ev (bd2 (f_X11_times I x y) (fun x10 I11 => some (x10, I11))) _
      rw [m_times I h0 hb1 hb2]
      cases hq : jn 13 x y with
      | none => exact Ev_some ⟨FE.st I 1, VO_n (e1 _ hq) rfl⟩
      | some z => exact Ev_some ⟨FE.st I 0, VO_s (e1 _ hq) rfl rfl⟩
    · show Ev (if I 0 51 = 0 then (if y = 0 then some (0, st2 I 0 51 1) else gd (nzl y) (some (x / y, st2 I 0 51 0))) else some (0, st2 I 0 51 1)) _
      rw [if_pos h0]
      have hj : jn 14 x y = if y = 0 then none else some (x / y) := rfl
      by_cases c : y = 0
      · rw [if_pos c] at hj ⊢
        exact Ev_some ⟨FE.st I 1, VO_n (e1 _ hj) rfl⟩
      · rw [if_neg c] at hj ⊢
        exact Ev_gd (nzl_t c) (Ev_some ⟨FE.st I 0, VO_s (e1 _ hj) rfl rfl⟩)
theorem m_valueE {I : MI} {J : MJ} {i : Nat} (hi : i < 64) (hk : Kn (I 19) (I 20) (I 21) i) (h0 : I 0 51 = 1) : Ev (f_X11_valueOf I J (Int32.ofNat i)) (fun a => FE I a.2 ∧ a.2 0 51 = 1) := by
  delta f_X11_valueOf
  have g : inb (Int32.ofNat i) 128 = true := (n_inb (by omega)).mpr (by omega)
  refine Ev_gd g ?_
  rw [n_ix (by omega)]
  have hs : ∀ v : Int64, Ev (some (v, I)) (fun a => FE I a.2 ∧ a.2 0 51 = 1) := fun v => Ev_some ⟨FE.rf I, h0⟩
  rcases hk with ek | ⟨ek, z, hz, ep⟩ | ⟨ek, a, ha, ep⟩ | ⟨a, b, k, ha, hb, hk1, hk2, ek, ep, eo⟩
  · rw [if_pos ek]
    exact Ev_gd g (hs _)
  · have n0 : ¬ I 19 i = 0 := by rw [ek]; decide
    rw [if_neg n0]
    refine Ev_gd g ?_
    rw [if_pos ek]
    refine Ev_gd g (Ev_gd (by rw [ep]; exact (n_inb (by omega)).mpr (by omega)) (hs _))
  · have n0 : ¬ I 19 i = 0 := by rw [ek]; decide
    have n1 : ¬ I 19 i = 1 := by rw [ek]; decide
    rw [if_neg n0]
    refine Ev_gd g ?_
    rw [if_neg n1]
    refine Ev_gd g (Ev_gd (by rw [ep]; exact (n_inb (by omega)).mpr (by omega)) (Ev_ls (Ev_gd g ?_)))
    rw [if_pos ek]
    exact Ev_ls (Ev_if (fun _ => hs _) (fun _ => hs _))
  · have n0 : ¬ I 19 i = 0 := by
      rw [ek]
      exact fun e => by
        have := (n_eq (b := 0) (by omega) (by omega)).mp e
        omega
    have n1 : ¬ I 19 i = 1 := by
      rw [ek]
      exact fun e => by
        have := (n_eq (b := 1) (by omega) (by omega)).mp e
        omega
    have n2 : ¬ I 19 i = 2 := by
      rw [ek]
      exact fun e => by
        have := (n_eq (b := 2) (by omega) (by omega)).mp e
        omega
    rw [if_neg n0]
    refine Ev_gd g ?_
    rw [if_neg n1]
    refine Ev_gd g (Ev_gd (by rw [ep]; exact (n_inb (by omega)).mpr (by omega)) (Ev_ls (Ev_gd g ?_)))
    rw [if_neg n2]
    refine Ev_gd g (Ev_gd (by rw [eo]; exact (n_inb (by omega)).mpr (by omega)) (Ev_ls (Ev_gd g ?_)))
    obtain ⟨x, hx⟩ : ∃ x, x = J 25 (ix (I 20 i)) := ⟨_, rfl⟩
    obtain ⟨y, hy⟩ : ∃ y, y = J 25 (ix (I 21 i)) := ⟨_, rfl⟩
    rw [← hx, ← hy, ek]
    have hn : ¬ I 0 51 = 0 := by rw [h0]; decide
    have hc : k = 3 ∨ k = 4 ∨ k = 5 ∨ k = 6 ∨ k = 7 ∨ k = 8 ∨ k = 9 ∨ k = 10 ∨ k = 11 ∨ k = 12 ∨ k = 13 ∨ k = 14 := by omega
    rcases hc with rfl | rfl | rfl | rfl | rfl | rfl | rfl | rfl | rfl | rfl | rfl | rfl
    · show Ev (if x = 0 then some (0, I) else if y = 0 then some (0, I) else some (1, I)) _
      exact Ev_if (fun _ => hs _) (fun _ => Ev_if (fun _ => hs _) (fun _ => hs _))
    · show Ev (if x = 0 then (if y = 0 then some (0, I) else some (1, I)) else some (1, I)) _
      exact Ev_if (fun _ => Ev_if (fun _ => hs _) (fun _ => hs _)) (fun _ => hs _)
    · refine Ev_gd g ?_
      have e5 : f_X11_compares (Int32.ofNat 5) x y = some (if y ≤ x then false else true) := by
        show (if y ≤ x then some false else some true) = _
        split <;> rfl
      rw [e5, bd1_s]
      exact Ev_ls (Ev_if (fun _ => hs _) (fun _ => hs _))
    · refine Ev_gd g ?_
      have e5 : f_X11_compares (Int32.ofNat 6) x y = some (if y < x then false else true) := by
        show (if y < x then some false else some true) = _
        split <;> rfl
      rw [e5, bd1_s]
      exact Ev_ls (Ev_if (fun _ => hs _) (fun _ => hs _))
    · refine Ev_gd g ?_
      have e5 : f_X11_compares (Int32.ofNat 7) x y = some (if x = y then true else false) := by
        show (if x = y then some true else some false) = _
        split <;> rfl
      rw [e5, bd1_s]
      exact Ev_ls (Ev_if (fun _ => hs _) (fun _ => hs _))
    · refine Ev_gd g ?_
      have e5 : f_X11_compares (Int32.ofNat 8) x y = some (if x = y then false else true) := by
        show (if x = y then some false else some true) = _
        split <;> rfl
      rw [e5, bd1_s]
      exact Ev_ls (Ev_if (fun _ => hs _) (fun _ => hs _))
    · refine Ev_gd g ?_
      have e5 : f_X11_compares (Int32.ofNat 9) x y = some (if x < y then false else true) := by
        show (if x < y then some false else some true) = _
        split <;> rfl
      rw [e5, bd1_s]
      exact Ev_ls (Ev_if (fun _ => hs _) (fun _ => hs _))
    · refine Ev_gd g ?_
      have e5 : f_X11_compares (Int32.ofNat 10) x y = some (if x ≤ y then false else true) := by
        show (if x ≤ y then some false else some true) = _
        split <;> rfl
      rw [e5, bd1_s]
      exact Ev_ls (Ev_if (fun _ => hs _) (fun _ => hs _))
    · show Ev (bd2 (f_X11_bounded I (x + y)) (fun x6 I7 => some (x6, I7))) _
      rw [m_boundedE I h0]
      exact Ev_some ⟨FE.st I 1, rfl⟩
    · show Ev (bd2 (f_X11_bounded I (x - y)) (fun x6 I7 => some (x6, I7))) _
      rw [m_boundedE I h0]
      exact Ev_some ⟨FE.st I 1, rfl⟩
    · show Ev (bd2 (f_X11_times I x y) (fun x10 I11 => some (x10, I11))) _
      rw [m_timesE I h0]
      exact Ev_some ⟨FE.st I 1, rfl⟩
    · show Ev (if I 0 51 = 0 then (if y = 0 then some (0, st2 I 0 51 1) else gd (nzl y) (some (x / y, st2 I 0 51 0))) else some (0, st2 I 0 51 1)) _
      rw [if_neg hn]
      exact Ev_some ⟨FE.st I 1, rfl⟩
theorem Wf_kn {C K P O : Nat → Int32} : ∀ n i st, Wf C K P O n i st → i + n ≤ 64 → (∀ a, a ∈ st → a < i) → ∀ j, i ≤ j → j < i + n → Kn K P O j
  | 0, i, st, _, _, _, j, h1, h2 => absurd h2 (by omega)
  | n + 1, i, st, hw, hl, hs, j, h1, h2 => by
    have hi : ∀ r, (∀ a, a ∈ r → a ∈ st) → ∀ a, a ∈ i :: r → a < i + 1 := fun r hr a ha => by
      rcases List.mem_cons.mp ha with rfl | ha
      · omega
      · have := hs a (hr a ha); omega
    rcases hw with ⟨z, hz, ec, ek, ep, hw⟩ | ⟨z, hz, ec, ek, ep, hw⟩ | ⟨a, r, hst, ec, ek, ep, hw⟩ | ⟨a, b, r, k, hst, hk1, hk2, ec, ek, ep, eo, hw⟩
    · by_cases he : j = i
      · subst he; exact Or.inl ek
      · exact Wf_kn n (i + 1) _ hw (by omega) (hi st (fun _ h => h)) j (by omega) (by omega)
    · by_cases he : j = i
      · subst he; exact Or.inr (Or.inl ⟨ek, z, hz, ep⟩)
      · exact Wf_kn n (i + 1) _ hw (by omega) (hi st (fun _ h => h)) j (by omega) (by omega)
    · subst hst
      by_cases he : j = i
      · subst he
        have := hs a List.mem_cons_self
        exact Or.inr (Or.inr (Or.inl ⟨ek, a, by omega, ep⟩))
      · exact Wf_kn n (i + 1) _ hw (by omega) (hi r (fun _ h => List.mem_cons_of_mem _ h)) j (by omega) (by omega)
    · subst hst
      by_cases he : j = i
      · subst he
        have h3 := hs b List.mem_cons_self
        have h4 := hs a (List.mem_cons_of_mem _ List.mem_cons_self)
        exact Or.inr (Or.inr (Or.inr ⟨a, b, k, by omega, by omega, hk1, hk2, ek, ep, eo⟩))
      · exact Wf_kn n (i + 1) _ hw (by omega) (hi r (fun _ h => List.mem_cons_of_mem _ (List.mem_cons_of_mem _ h))) j (by omega) (by omega)
/-- what lawOf answers -/
def LO (M : MI) (J : MJ) (n f : Nat) (a : Int64 × MI × MJ) : Prop := match evr (M 19) (M 20) (M 21) (J 24) n f (J 25) with
  | none => a.2.1 0 51 = 1
  | some v => a.1 = v (f + n - 1) ∧ a.2.1 0 51 = 0
theorem m_lawOf {M : MI} {C : Nat → Int32} {l f n : Nat} (hl : l < 3) (hf : f + n ≤ 64) (hn : 1 ≤ n) (e1 : M 17 l = Int32.ofNat f) (e2 : M 18 l = Int32.ofNat (f + n)) (hw : Wf C (M 19) (M 20) (M 21) n f []) {J : MJ} (hnm : ∀ z, z < 7 → Bd (J 24 z)) : Ev (f_X11_lawOf M J (Int32.ofNat l)) (fun a => FE M a.2.1 ∧ (∀ p, p ≠ 25 → a.2.2 p = J p) ∧ LO M J n f a) := by
  have hkn := Wf_kn n f [] hw hf (fun a h => by cases h)
  delta f_X11_lawOf
  have gl : inb (Int32.ofNat l) 6 = true := (n_inb (by omega)).mpr (by omega)
  refine Ev_gd rfl (Ev_ls (Ev_gd gl (Ev_ls ?_)))
  rw [n_ix (by omega), show st2 M 0 51 0 17 l = Int32.ofNat f from e1]
  obtain ⟨Q, hQ⟩ : ∃ Q : Int64 × MI × MJ → Prop, Q = (fun a => FE M a.2.1 ∧ (∀ p, p ≠ 25 → a.2.2 p = J p) ∧ LO M J n f a) := ⟨_, rfl⟩
  rw [← hQ]
  refine Ev_j2 (fun I3 J4 => FE M I3 ∧ (∀ p, p ≠ 25 → J4 p = J p) ∧ ((I3 0 51 = 0 ∧ evr (M 19) (M 20) (M 21) (J 24) n f (J 25) = some (J4 25)) ∨ (I3 0 51 = 1 ∧ evr (M 19) (M 20) (M 21) (J 24) n f (J 25) = none))) ?_ ?_
  · rintro I3 J4 ⟨h1, h2, h3⟩
    refine Ev_ls ?_
    rcases h3 with ⟨h0, he⟩ | ⟨h0, he⟩
    · rw [if_pos h0, h1.row (by decide), e2]
      refine Ev_gd gl ?_
      have es : Int32.ofNat (f + n) - 1 = Int32.ofNat (f + n - 1) := n_sub (a := f + n) (b := 1) (by omega)
      rw [es]
      refine Ev_gd ((n_inb (by omega)).mpr (by omega)) ?_
      rw [n_ix (by omega), hQ]
      refine Ev_some ⟨h1, h2, ?_⟩
      unfold LO
      rw [he]
      exact ⟨rfl, h0⟩
    · rw [if_neg (by rw [h0]; decide), hQ]
      refine Ev_some ⟨h1, h2, ?_⟩
      unfold LO
      rw [he]
      exact h0
  · intro j hj
    refine Ev_fix3 (fun x6 I7 J8 => ∃ m i, m + i = f + n ∧ f ≤ i ∧ x6 = Int32.ofNat i ∧ FE M I7 ∧ (∀ p, p ≠ 25 → J8 p = J p) ∧ ((I7 0 51 = 0 ∧ evr (M 19) (M 20) (M 21) (J 24) n f (J 25) = evr (M 19) (M 20) (M 21) (J 24) m i (J8 25) ∧ ∃ st, Wf C (M 19) (M 20) (M 21) m i st ∧ ∀ a, a ∈ st → a < i ∧ Bd (J8 25 a)) ∨ (I7 0 51 = 1 ∧ evr (M 19) (M 20) (M 21) (J 24) n f (J 25) = none))) (fun x6 _ _ => (80 - x6.toInt).toNat) ?_ FU _ _ _ (FU_lt ?_) ⟨n, f, by omega, by omega, rfl, FE.st M 0, fun _ _ => rfl, Or.inl ⟨rfl, rfl, [], hw, fun a h => (by cases h)⟩⟩
    · rintro rec x6 I7 J8 ⟨m, i, hmi, hfi, rfl, hI, hJ, hc⟩ hrec
      refine Ev_gd gl ?_
      rw [n_ix (by omega), hI.row (by decide), e2]
      refine Ev_if (fun c => ?_) (fun c => ?_)
      · have := (n_le (by omega) (by omega)).mp c
        have hm : m = 0 := by omega
        subst hm
        refine hj _ _ ⟨hI, hJ, ?_⟩
        rcases hc with ⟨h0, he, _⟩ | h
        · exact Or.inl ⟨h0, he⟩
        · exact Or.inr h
      · have hlt : i < f + n := Nat.lt_of_not_le (fun h => c ((n_le (by omega) (by omega)).mpr h))
        obtain ⟨m, rfl⟩ : ∃ m', m = m' + 1 := ⟨m - 1, by omega⟩
        have hk := hkn i hfi hlt
        have r19 := hI.row (p := 19) (by decide)
        have r20 := hI.row (p := 20) (by decide)
        have r21 := hI.row (p := 21) (by decide)
        rcases hc with ⟨h0, he, st, hw', hb⟩ | ⟨h0, he⟩
        · have hst : ∃ r, Wf C (M 19) (M 20) (M 21) m (i + 1) (i :: r) ∧ (∀ a, a ∈ r → a ∈ st) ∧ (∀ x, ev1 (M 19) (M 20) (M 21) (J 24) (J8 25) i = some x → Bd x) ∧ (¬ M 19 i = 0 → ¬ M 19 i = 1 → ¬ M 19 i = 2 → Bd (J8 25 (ix (M 20 i))) ∧ Bd (J8 25 (ix (M 21 i)))) := by
            rcases hw' with ⟨z, hz, ec, ek, ep, hw⟩ | ⟨z, hz, ec, ek, ep, hw⟩ | ⟨a, r, hst, ec, ek, ep, hw⟩ | ⟨a, b, r, k, hst, hk1, hk2, ec, ek, ep, eo, hw⟩
            · refine ⟨st, hw, fun _ h => h, fun x hx => ?_, fun h _ _ => absurd ek h⟩
              unfold ev1 at hx
              rw [if_pos ek] at hx
              cases hx; exact bd32 _
            · refine ⟨st, hw, fun _ h => h, fun x hx => ?_, fun _ h _ => absurd ek h⟩
              unfold ev1 at hx
              rw [ek, if_neg (by decide), if_pos rfl, ix_n ep (by omega)] at hx
              cases hx; exact hnm z hz
            · subst hst
              refine ⟨r, hw, fun _ h => List.mem_cons_of_mem _ h, fun x hx => ?_, fun _ _ h => absurd ek h⟩
              unfold ev1 at hx
              rw [ek, if_neg (by decide), if_neg (by decide), if_pos rfl] at hx
              cases hx; exact Bd10
            · subst hst
              have hbb := hb b List.mem_cons_self
              have hba := hb a (List.mem_cons_of_mem _ List.mem_cons_self)
              have n0 : ¬ Int32.ofNat k = 0 := fun e => by
                have := (n_eq (b := 0) (by omega) (by omega)).mp e
                omega
              have n1 : ¬ Int32.ofNat k = 1 := fun e => by
                have := (n_eq (b := 1) (by omega) (by omega)).mp e
                omega
              have n2 : ¬ Int32.ofNat k = 2 := fun e => by
                have := (n_eq (b := 2) (by omega) (by omega)).mp e
                omega
              refine ⟨r, hw, fun _ h => List.mem_cons_of_mem _ (List.mem_cons_of_mem _ h), fun x hx => ?_, fun _ _ _ => ?_⟩
              · unfold ev1 at hx
                rw [ek, if_neg n0, if_neg n1, if_neg n2, ix_n ep (by omega), ix_n eo (by omega)] at hx
                exact jn_bd hba.2 hbb.2 hx
              · rw [ix_n ep (by omega), ix_n eo (by omega)]
                exact ⟨hba.2, hbb.2⟩
          obtain ⟨r, hwr, hr, hbx, hbb⟩ := hst
          refine Ev_bd2 (P := fun x9 I10 => FE I7 I10 ∧ VO I7 J8 i (x9, I10)) (m_valueOf (by omega) (by rw [r19, r20, r21]; exact hk) h0 (by rw [r19, r20, r21]; exact hbb)) ?_
          rintro x9 I10 ⟨hF, hvo⟩
          refine Ev_gd ((n_inb (by omega)).mpr (by omega)) (Ev_ls (Ev_ls ?_))
          rw [n_t1]
          unfold VO at hvo
          rw [r19, r20, r21, hJ 24 (by decide)] at hvo
          have hes : evr (M 19) (M 20) (M 21) (J 24) (m + 1) i (J8 25) = match ev1 (M 19) (M 20) (M 21) (J 24) (J8 25) i with
            | none => none
            | some x => evr (M 19) (M 20) (M 21) (J 24) m (i + 1) (fun j => if j = i then x else J8 25 j) := rfl
          refine hrec _ _ _ ⟨m, i + 1, by omega, by omega, rfl, hI.tr hF, fun p hp => (st2_ne hp).trans (hJ p hp), ?_⟩ ?_
          · cases hev : ev1 (M 19) (M 20) (M 21) (J 24) (J8 25) i with
            | none =>
              rw [hev] at hvo hes
              exact Or.inr ⟨hvo, he.trans hes⟩
            | some x =>
              rw [hev] at hvo hes
              obtain ⟨hx, hfl⟩ := hvo
              have hx : x9 = x := hx
              subst hx
              refine Or.inl ⟨hfl, he.trans hes, i :: r, hwr, fun a ha => ?_⟩
              show a < i + 1 ∧ Bd (if a = i then x9 else J8 25 a)
              rcases List.mem_cons.mp ha with rfl | ha
              · rw [if_pos rfl]; exact ⟨by omega, hbx _ hev⟩
              · have := hb a (hr a ha)
                rw [if_neg (by omega)]; exact ⟨by omega, this.2⟩
          · rw [n_toInt (by omega), n_toInt (by omega)]; omega
        · refine Ev_bd2 (P := fun _ I10 => FE I7 I10 ∧ I10 0 51 = 1) (m_valueE (by omega) (by rw [r19, r20, r21]; exact hk) h0) ?_
          rintro x9 I10 ⟨hF, hfl⟩
          refine Ev_gd ((n_inb (by omega)).mpr (by omega)) (Ev_ls (Ev_ls ?_))
          rw [n_t1]
          refine hrec _ _ _ ⟨m, i + 1, by omega, by omega, rfl, hI.tr hF, fun p hp => (st2_ne hp).trans (hJ p hp), Or.inr ⟨hfl, he⟩⟩ ?_
          rw [n_toInt (by omega), n_toInt (by omega)]; omega
    · rw [n_toInt (by omega)]; omega
