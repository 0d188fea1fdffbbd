/-! the tokens of a text: the model's token -/
def TkR (c v : Nat) (k w : Int32) : Prop :=
  (k = 0 ∧ c = 35) ∨ (k = 1 ∧ ∃ j, j < 20 ∧ w = Int32.ofNat j ∧ c = swp j) ∨ (k = 2 ∧ c = 34 ∧ w = Int32.ofNat v) ∨
  (k = 3 ∧ c = 33 ∧ ∃ x, w = Int32.ofNat x ∧ x ≤ 999999 ∧ v ≤ 1000000 ∧ ((v = x ∧ x ≤ 99999) ∨ (99999 < v ∧ 99999 < x))) ∨
  (k = 4 ∧ ∃ t, w = Int32.ofNat t ∧ ((t = 59 ∧ c = 20) ∨ (t = 40 ∧ c = 21) ∨ (t = 41 ∧ c = 22) ∨ (t = 43 ∧ c = 29) ∨ (t = 45 ∧ c = 30) ∨ (t = 42 ∧ c = 31) ∨ (t = 47 ∧ c = 32) ∨ (t = 37 ∧ c = 36))) ∨
  (k = 5 ∧ ∃ i, i < 6 ∧ w = Int32.ofNat i ∧ c = 23 + i) ∨ (k = 6 ∧ c = 36)
theorem m_isSmall {M : MI} {T : Nat → Nat} {n p i : Nat} (h : TkM M T n p) (hi : i ≤ 700) : f_X11_isSmall M (Int32.ofNat i) = some (decide (i < n) && isL (T i)) := by
  obtain ⟨a1, a2, a3, a4, a5, a6, a7⟩ := h
  have ht := a1 i
  delta f_X11_isSmall
  simp only [lt]
  rw [a6]
  by_cases c : i < n
  · rw [if_neg (fun e => by have := (n_le (by omega) (by omega)).mp e; omega), gd_t ((n_inb (by omega)).mpr (by omega)), gd_t ((n_inb (by omega)).mpr (by omega)), n_ix (by omega), a4, decide_eq_true c, Bool.true_and, ← p_isLetter ht]
    rfl
  · rw [if_pos ((n_le (by omega) (by omega)).mpr (by omega)), decide_eq_false c]; rfl
theorem m_isDig {M : MI} {T : Nat → Nat} {n p i : Nat} (h : TkM M T n p) (hi : i ≤ 700) : f_X11_isDigit M (Int32.ofNat i) = some (decide (i < n) && isD (T i)) := by
  obtain ⟨a1, a2, a3, a4, a5, a6, a7⟩ := h
  have ht := a1 i
  delta f_X11_isDigit
  simp only [lt]
  rw [a6]
  by_cases c : i < n
  · rw [if_neg (fun e => by have := (n_le (by omega) (by omega)).mp e; omega), gd_t ((n_inb (by omega)).mpr (by omega)), gd_t ((n_inb (by omega)).mpr (by omega)), n_ix (by omega), a4, decide_eq_true c, Bool.true_and, ← p_isDigit ht]
    rfl
  · rw [if_pos ((n_le (by omega) (by omega)).mpr (by omega)), decide_eq_false c]; rfl
def mS (t u : Nat) : Nat × Nat := if t = 60 then (5, if u = 61 then 1 else if u = 62 then 3 else 0) else if t = 62 then (5, if u = 61 then 4 else 5) else if t = 61 then (5, 2) else if t = 59 ∨ t = 40 ∨ t = 41 ∨ t = 43 ∨ t = 45 ∨ t = 42 ∨ t = 47 ∨ t = 37 then (4, t) else (6, t)
theorem mS_u (t u : Nat) : mS t u = mS t (if u = 61 then 61 else if u = 62 then 62 else 0) := by
  unfold mS
  by_cases h1 : u = 61
  · rw [if_pos h1, if_pos h1, if_pos h1, if_pos rfl]; rfl
  · by_cases h2 : u = 62
    · rw [if_neg h1, if_pos h2, if_neg h1, if_neg h1, if_pos h2]; rfl
    · rw [if_neg h1, if_neg h2, if_neg h1, if_neg h1, if_neg h2]; rfl
def tkb (c k w : Nat) : Bool := (decide (k = 4) && ((decide (w = 59) && decide (c = 20)) || (decide (w = 40) && decide (c = 21)) || (decide (w = 41) && decide (c = 22)) || (decide (w = 43) && decide (c = 29)) || (decide (w = 45) && decide (c = 30)) || (decide (w = 42) && decide (c = 31)) || (decide (w = 47) && decide (c = 32)) || (decide (w = 37) && decide (c = 36)))) || (decide (k = 5) && decide (w < 6) && decide (c = 23 + w)) || (decide (k = 6) && decide (c = 36))
theorem mS_F : ∀ t : Fin 256, ∀ v : Fin 3, tkb (sgt t.1 (if v.1 = 0 then 61 else if v.1 = 1 then 62 else 0)) (mS t.1 (if v.1 = 0 then 61 else if v.1 = 1 then 62 else 0)).1 (mS t.1 (if v.1 = 0 then 61 else if v.1 = 1 then 62 else 0)).2 = true := by decide +kernel
theorem mS_c {t : Nat} (u v : Nat) (ht : t < 256) : TkR (sgt t u) v (Int32.ofNat (mS t u).1) (Int32.ofNat (mS t u).2) := by
  have key : tkb (sgt t u) (mS t u).1 (mS t u).2 = true := by
    rw [sgt_u, mS_u]
    by_cases h1 : u = 61
    · rw [if_pos h1]; exact mS_F ⟨t, ht⟩ 0
    · by_cases h2 : u = 62
      · rw [if_neg h1, if_pos h2]; exact mS_F ⟨t, ht⟩ 1
      · rw [if_neg h1, if_neg h2]; exact mS_F ⟨t, ht⟩ 2
  unfold tkb at key
  simp only [Bool.or_eq_true, Bool.and_eq_true, decide_eq_true_eq] at key
  unfold TkR
  rcases key with (⟨h1, h2⟩ | ⟨⟨h1, h2⟩, h3⟩) | ⟨h1, h2⟩
  · rw [h1]
    refine Or.inr (Or.inr (Or.inr (Or.inr (Or.inl ⟨rfl, _, rfl, ?_⟩))))
    rcases h2 with ((((((h | h) | h) | h) | h) | h) | h) | h
    · exact Or.inl h
    · exact Or.inr (Or.inl h)
    · exact Or.inr (Or.inr (Or.inl h))
    · exact Or.inr (Or.inr (Or.inr (Or.inl h)))
    · exact Or.inr (Or.inr (Or.inr (Or.inr (Or.inl h))))
    · exact Or.inr (Or.inr (Or.inr (Or.inr (Or.inr (Or.inl h)))))
    · exact Or.inr (Or.inr (Or.inr (Or.inr (Or.inr (Or.inr (Or.inl h))))))
    · exact Or.inr (Or.inr (Or.inr (Or.inr (Or.inr (Or.inr (Or.inr h))))))
  · rw [h1]
    exact Or.inr (Or.inr (Or.inr (Or.inr (Or.inr (Or.inl ⟨rfl, _, h2, rfl, h3⟩)))))
  · rw [h1]
    exact Or.inr (Or.inr (Or.inr (Or.inr (Or.inr (Or.inr ⟨rfl, h2⟩)))))
theorem n_c {t c : Nat} {y : Int32} (ht : t < 256) (hy : y = Int32.ofNat c) (hc : c < 256) : (Int32.ofNat t = y) ↔ t = c := by rw [hy]; exact n_eq (by omega) (by omega)
theorem m_signToken {M : MI} {T : Nat → Nat} {n a : Nat} (h : TkM M T n a) (hlt : a < n) : Ev (f_X11_signToken M) (fun M' => (∀ q k, ¬ (q = 0 ∧ 7 ≤ k ∧ k ≤ 9) → M' q k = M q k) ∧ M' 0 7 = Int32.ofNat (if two (sgt (T a) (sg T n (a + 1))) then a + 2 else a + 1) ∧ M' 0 8 = Int32.ofNat (mS (T a) (sg T n (a + 1))).1 ∧ M' 0 9 = Int32.ofNat (mS (T a) (sg T n (a + 1))).2) := by
  obtain ⟨a1, a2, a3, a4, a5, a6, a7⟩ := h
  delta f_X11_signToken
  rw [a7]
  refine Ev_gd ((n_inb (by omega)).mpr (by omega)) (Ev_ls ?_)
  rw [n_ix (by omega), a4]
  have ht := a1 a
  refine Ev_ls ?_
  rw [s2x (by omega), a7, n_t1]
  obtain ⟨I2, hI2⟩ : ∃ A, A = st2 (st2 M 0 9 (Int32.ofNat (T a))) 0 7 (Int32.ofNat (a + 1)) := ⟨_, rfl⟩
  rw [← hI2]
  have f2 : ∀ q k, ¬ (q = 0 ∧ 7 ≤ k ∧ k ≤ 9) → I2 q k = M q k := fun q k hq => by rw [hI2, s2x (by omega), s2x (by omega)]
  have e9 : I2 0 9 = Int32.ofNat (T a) := by rw [hI2, s2x (by omega), st2_at, if_pos rfl]
  have e7 : I2 0 7 = Int32.ofNat (a + 1) := by rw [hI2, st2_at, if_pos rfl]
  have e6 : I2 0 6 = Int32.ofNat n := by rw [f2 0 6 (by omega)]; exact a6
  obtain ⟨t, htt⟩ : ∃ t, t = T a := ⟨_, rfl⟩
  obtain ⟨u, huu⟩ : ∃ u, u = sg T n (a + 1) := ⟨_, rfl⟩
  have hu : u < 256 := by
    rw [huu]; unfold sg
    split
    · exact a1 _
    · decide
  rw [← htt] at e9 ht ⊢
  rw [← huu]
  refine Ev_ls ?_
  rw [e9]
  refine Ev_lt (fun j50 h50 => ?_)
  have hcmp : (t = 60 ∨ t = 61 ∨ t = 62) → Ev j50 (fun M' => (∀ q k, ¬ (q = 0 ∧ 7 ≤ k ∧ k ≤ 9) → M' q k = M q k) ∧ M' 0 7 = Int32.ofNat (if two (sgt t u) then a + 2 else a + 1) ∧ M' 0 8 = Int32.ofNat (mS t u).1 ∧ M' 0 9 = Int32.ofNat (mS t u).2) := fun hor => by
    rw [h50]
    refine Ev_j1 (fun x4 => x4 = Int32.ofNat u) ?_ ?_
    · rintro x4 rfl
      refine Ev_j1 (fun x5 => x5 = decide (t ≠ 61 ∧ u = 61)) ?_ ?_
      · rintro x5 rfl
        refine Ev_ls ?_
        refine Ev_j1 (fun x7 => x7 = decide (t = 60 ∧ u = 62)) ?_ ?_
        · rintro x7 rfl
          refine Ev_ls ?_
          have htwo : two (sgt t u) = (decide (t ≠ 61 ∧ u = 61) || decide (t = 60 ∧ u = 62)) := by
            unfold two sgt
            rcases hor with e | e | e
            · subst e
              by_cases h1 : u = 61
              · subst h1; rfl
              · by_cases h2 : u = 62
                · subst h2; rfl
                · simp [h1, h2]
            · subst e; simp
            · subst e
              by_cases h1 : u = 61
              · subst h1; rfl
              · simp [h1]
          refine Ev_j1 (fun I9 => (∀ q k, ¬ (q = 0 ∧ k = 7) → I9 q k = I2 q k) ∧ I9 0 7 = Int32.ofNat (if two (sgt t u) then a + 2 else a + 1)) ?_ ?_
          · rintro I9 ⟨q1, q2⟩
            have e99 : st2 I9 0 8 5 0 9 = Int32.ofNat t := by rw [s2x (by omega), q1 0 9 (by omega)]; exact e9
            refine Ev_ls ?_
            rw [e99]
            refine Ev_j1 (fun x11 => x11 = Int32.ofNat (mS t u).2 ∧ (mS t u).1 = 5) ?_ ?_
            · rintro x11 ⟨rfl, h5⟩
              refine Ev_ls (Ev_some ⟨fun q k hq => by rw [s2x (by omega), s2x (by omega), q1 q k (by omega)]; exact f2 q k hq, by rw [s2x (by omega), s2x (by omega)]; exact q2, by rw [s2x (by omega), st2_at, if_pos rfl, h5]; rfl, by rw [st2_at, if_pos rfl]⟩)
            · intro j hj
              rcases hor with e | e | e
              · subst e
                rw [if_neg (by decide), if_pos (by decide)]
                by_cases h1 : u = 61
                · subst h1
                  rw [if_neg (by decide)]
                  exact hj _ ⟨rfl, rfl⟩
                · rw [if_pos (show bi (decide (60 ≠ 61 ∧ u = 61)) = 0 by rw [decide_eq_false (fun h => h1 h.2)]; rfl)]
                  by_cases h2 : u = 62
                  · subst h2
                    rw [if_neg (by decide)]
                    exact hj _ ⟨rfl, rfl⟩
                  · rw [if_pos (show bi (decide (60 = 60 ∧ u = 62)) = 0 by rw [decide_eq_false (fun h => h2 h.2)]; rfl)]
                    refine hj _ ⟨?_, rfl⟩
                    show (0 : Int32) = Int32.ofNat (if u = 61 then 1 else if u = 62 then 3 else 0)
                    rw [if_neg h1, if_neg h2]; rfl
              · subst e
                rw [if_pos (by decide)]
                exact hj _ ⟨rfl, rfl⟩
              · subst e
                rw [if_neg (by decide), if_neg (by decide)]
                by_cases h1 : u = 61
                · subst h1
                  rw [if_neg (by decide)]
                  exact hj _ ⟨rfl, rfl⟩
                · rw [if_pos (show bi (decide (62 ≠ 61 ∧ u = 61)) = 0 by rw [decide_eq_false (fun h => h1 h.2)]; rfl)]
                  refine hj _ ⟨?_, rfl⟩
                  show (5 : Int32) = Int32.ofNat (if u = 61 then 4 else 5)
                  rw [if_neg h1]; rfl
          · intro j hj
            rw [e7, n_t1]
            refine Ev_lt (fun j125 h125 => ?_)
            have hy : two (sgt t u) = true → Ev j125 (fun M' => (∀ q k, ¬ (q = 0 ∧ 7 ≤ k ∧ k ≤ 9) → M' q k = M q k) ∧ M' 0 7 = Int32.ofNat (if two (sgt t u) then a + 2 else a + 1) ∧ M' 0 8 = Int32.ofNat (mS t u).1 ∧ M' 0 9 = Int32.ofNat (mS t u).2) := fun hw => by
              rw [h125]
              refine Ev_ls (hj _ ⟨fun q k hq => s2x (by omega), ?_⟩)
              rw [st2_at, if_pos rfl, hw]; rfl
            cases b1 : decide (t ≠ 61 ∧ u = 61) with
            | true =>
              rw [if_neg (by decide)]
              exact hy (by rw [htwo, b1]; rfl)
            | false =>
              rw [if_pos (show bi false = 0 from rfl)]
              cases b2 : decide (t = 60 ∧ u = 62) with
              | true =>
                rw [if_neg (by decide)]
                exact hy (by rw [htwo, b1, b2]; rfl)
              | false =>
                rw [if_pos (show bi false = 0 from rfl)]
                refine hj _ ⟨fun q k hq => rfl, ?_⟩
                rw [e7, htwo, b1, b2]; rfl
        · intro j hj
          refine Ev_lt (fun j115 h115 => ?_)
          refine Ev_if (fun c1 => ?_) (fun c1 => ?_)
          · have c1 := (n_c ht (c := 60) rfl (by decide)).mp c1
            refine Ev_if (fun c2 => ?_) (fun c2 => ?_)
            · have c2 := (n_c hu (c := 62) rfl (by decide)).mp c2
              exact hj _ (by rw [decide_eq_true ⟨c1, c2⟩])
            · rw [h115]
              exact hj _ (by rw [decide_eq_false (fun h => c2 ((n_c hu (c := 62) rfl (by decide)).mpr h.2))])
          · rw [h115]
            exact hj _ (by rw [decide_eq_false (fun h => c1 ((n_c ht (c := 60) rfl (by decide)).mpr h.1))])
      · intro j hj
        refine Ev_lt (fun j94 h94 => ?_)
        refine Ev_if (fun c1 => ?_) (fun c1 => ?_)
        · have c1 := (n_c ht (c := 61) rfl (by decide)).mp c1
          rw [h94]
          exact hj _ (by rw [decide_eq_false (fun h => h.1 c1)])
        · refine Ev_if (fun c2 => ?_) (fun c2 => ?_)
          · have c2 := (n_c hu (c := 61) rfl (by decide)).mp c2
            exact hj _ (by rw [decide_eq_true ⟨fun e => c1 ((n_c ht (c := 61) rfl (by decide)).mpr e), c2⟩])
          · rw [h94]
            exact hj _ (by rw [decide_eq_false (fun h => c2 ((n_c hu (c := 61) rfl (by decide)).mpr h.2))])
    · intro j hj
      rw [e6, e7]
      refine Ev_if (fun c => ?_) (fun c => ?_)
      · have c := (n_le (by omega) (by omega)).mp c
        exact hj _ (by rw [huu]; unfold sg; rw [if_neg (by omega)]; rfl)
      · have c : a + 1 < n := Nat.lt_of_not_le (fun h => c ((n_le (by omega) (by omega)).mpr h))
        refine Ev_gd ((n_inb (by omega)).mpr (by omega)) (hj _ ?_)
        rw [n_ix (by omega), f2 1 _ (by omega), a4, huu]
        unfold sg; rw [if_pos c]
  have hn : ∀ c : Nat, c < 256 → ∀ y : Int32, y = Int32.ofNat c → ¬ (Int32.ofNat t = y) → t ≠ c := fun c hc y hy h e => h ((n_c ht hy hc).mpr e)
  refine Ev_if (fun c1 => hcmp (Or.inl ((n_c ht (c := 60) rfl (by decide)).mp c1))) (fun c1 => ?_)
  refine Ev_if (fun c2 => hcmp (Or.inr (Or.inr ((n_c ht (c := 62) rfl (by decide)).mp c2)))) (fun c2 => ?_)
  refine Ev_if (fun c3 => hcmp (Or.inr (Or.inl ((n_c ht (c := 61) rfl (by decide)).mp c3)))) (fun c3 => ?_)
  have d1 := hn 60 (by decide) 60 rfl c1
  have d2 := hn 62 (by decide) 62 rfl c2
  have d3 := hn 61 (by decide) 61 rfl c3
  have htw : two (sgt t u) = false := by
    unfold two sgt
    apply decide_eq_false
    rw [if_neg d1, if_neg d2, if_neg d3]
    intro h
    repeat' split at h
    all_goals omega
  rw [htw]
  refine Ev_j1 (fun x14 => x14 = decide (t = 59 ∨ t = 40 ∨ t = 41 ∨ t = 43 ∨ t = 45 ∨ t = 42 ∨ t = 47 ∨ t = 37)) ?_ ?_
  · rintro x14 rfl
    refine Ev_ls ?_
    have hfin : ∀ z : Nat, (mS t u) = (z, t) → Ev (lt (st2 I2 0 8 (Int32.ofNat z)) (fun I17 => some I17)) (fun M' => (∀ q k, ¬ (q = 0 ∧ 7 ≤ k ∧ k ≤ 9) → M' q k = M q k) ∧ M' 0 7 = Int32.ofNat (if false = true then a + 2 else a + 1) ∧ M' 0 8 = Int32.ofNat (mS t u).1 ∧ M' 0 9 = Int32.ofNat (mS t u).2) := fun z hz => by
      rw [hz]
      exact Ev_ls (Ev_some ⟨fun q k hq => by rw [s2x (by omega)]; exact f2 q k hq, by rw [s2x (by omega)]; exact e7, by rw [st2_at, if_pos rfl], by rw [s2x (by omega)]; exact e9⟩)
    refine Ev_ls ?_
    by_cases c : t = 59 ∨ t = 40 ∨ t = 41 ∨ t = 43 ∨ t = 45 ∨ t = 42 ∨ t = 47 ∨ t = 37
    · rw [decide_eq_true c, if_neg (by decide)]
      exact hfin 4 (by unfold mS; rw [if_neg d1, if_neg d2, if_neg d3, if_pos c])
    · rw [decide_eq_false c, if_pos (by decide)]
      exact hfin 6 (by unfold mS; rw [if_neg d1, if_neg d2, if_neg d3, if_neg c])
  · intro j hj
    refine Ev_lt (fun j270 h270 => ?_)
    have hy : (t = 59 ∨ t = 40 ∨ t = 41 ∨ t = 43 ∨ t = 45 ∨ t = 42 ∨ t = 47 ∨ t = 37) → Ev j270 (fun M' => (∀ q k, ¬ (q = 0 ∧ 7 ≤ k ∧ k ≤ 9) → M' q k = M q k) ∧ M' 0 7 = Int32.ofNat (if false = true then a + 2 else a + 1) ∧ M' 0 8 = Int32.ofNat (mS t u).1 ∧ M' 0 9 = Int32.ofNat (mS t u).2) := fun c => by
      rw [h270]
      exact hj _ (by rw [decide_eq_true c])
    refine Ev_if (fun c => hy (by have := (n_c ht (c := 59) rfl (by decide)).mp c; omega)) (fun k1 => ?_)
    refine Ev_if (fun c => hy (by have := (n_c ht (c := 40) rfl (by decide)).mp c; omega)) (fun k2 => ?_)
    refine Ev_if (fun c => hy (by have := (n_c ht (c := 41) rfl (by decide)).mp c; omega)) (fun k3 => ?_)
    refine Ev_if (fun c => hy (by have := (n_c ht (c := 43) rfl (by decide)).mp c; omega)) (fun k4 => ?_)
    refine Ev_if (fun c => hy (by have := (n_c ht (c := 45) rfl (by decide)).mp c; omega)) (fun k5 => ?_)
    refine Ev_if (fun c => hy (by have := (n_c ht (c := 42) rfl (by decide)).mp c; omega)) (fun k6 => ?_)
    refine Ev_if (fun c => hy (by have := (n_c ht (c := 47) rfl (by decide)).mp c; omega)) (fun k7 => ?_)
    refine Ev_if (fun c => hy (by have := (n_c ht (c := 37) rfl (by decide)).mp c; omega)) (fun k8 => ?_)
    have k1 := hn 59 (by decide) 59 rfl k1
    have k2 := hn 40 (by decide) 40 rfl k2
    have k3 := hn 41 (by decide) 41 rfl k3
    have k4 := hn 43 (by decide) 43 rfl k4
    have k5 := hn 45 (by decide) 45 rfl k5
    have k6 := hn 42 (by decide) 42 rfl k6
    have k7 := hn 47 (by decide) 47 rfl k7
    have k8 := hn 37 (by decide) 37 rfl k8
    exact hj _ (by rw [decide_eq_false (by omega)])
