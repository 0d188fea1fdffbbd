/-! the tokens of a text: the component's step -/
theorem sgt_u (t u : Nat) : sgt t u = sgt t (if u = 61 then 61 else if u = 62 then 62 else 0) := by
  unfold sgt
  by_cases h1 : u = 61
  · rw [if_pos h1, if_pos h1, if_pos h1, if_pos rfl]; rfl
  · by_cases h2 : u = 62
    · rw [if_neg h1, if_pos h2, if_neg h1, if_neg h1, if_pos h2]; rfl
    · rw [if_neg h1, if_neg h2, if_neg h1, if_neg h1, if_neg h2]; rfl
theorem sgt_F : ∀ t : Fin 256, ∀ v : Fin 3, 20 ≤ sgt t.1 (if v.1 = 0 then 61 else if v.1 = 1 then 62 else 0) ∧ sgt t.1 (if v.1 = 0 then 61 else if v.1 = 1 then 62 else 0) ≤ 36 ∧ sgt t.1 (if v.1 = 0 then 61 else if v.1 = 1 then 62 else 0) ≠ 33 ∧ sgt t.1 (if v.1 = 0 then 61 else if v.1 = 1 then 62 else 0) ≠ 34 ∧ sgt t.1 (if v.1 = 0 then 61 else if v.1 = 1 then 62 else 0) ≠ 35 := by decide +kernel
theorem sgt_c {t : Nat} (u : Nat) (ht : t < 256) : 20 ≤ sgt t u ∧ sgt t u ≤ 36 ∧ sgt t u ≠ 33 ∧ sgt t u ≠ 34 ∧ sgt t u ≠ 35 := by
  rw [sgt_u]
  by_cases h1 : u = 61
  · rw [if_pos h1]; exact sgt_F ⟨t, ht⟩ 0
  · by_cases h2 : u = 62
    · rw [if_neg h1, if_pos h2]; exact sgt_F ⟨t, ht⟩ 1
    · rw [if_neg h1, if_neg h2]; exact sgt_F ⟨t, ht⟩ 2
theorem pkv_eq {T : Nat → Nat} {a s : Nat} (hs : s ≤ 6) : pkv T a s = hrn (fun i => T (a + i) - 96) s * 32 ^ (6 - s) := by
  unfold pkv
  have h := hrn_pad (D := dg T a s) (s := s) (fun i hi => by unfold dg; rw [if_neg (by omega)]) (6 - s)
  rw [show s + (6 - s) = 6 by omega] at h
  rw [h, hrn_congr (D := dg T a s) (E := fun i => T (a + i) - 96) s (fun i hi => by unfold dg; rw [if_pos hi])]
theorem p_stepWord {I : MI} {T : Nat → Nat} {n a : Nat} (h : TkI I T n a) : Ev (f_X7_stepWord I) (fun I' => FT I I' ∧ I' 36 5 = I 36 5 ∧ I' 36 3 = Int32.ofNat (tL T n a) ∧ I' 36 4 = Int32.ofNat (tWc (pkv T a (tL T n a - a)) (tL T n a - a)) ∧ (tL T n a - a ≤ 6 → I' 36 6 = Int32.ofNat (pkv T a (tL T n a - a)))) := by
  have h' := h
  obtain ⟨a1, a2, a3, a4, a5, a6, a7⟩ := h'
  have hr := rn_ok (f := fun k => isL (T k)) a3
  delta f_X7_stepWord
  refine Ev_j3 (fun x1 x2 I3 => FT I I3 ∧ I3 36 5 = I 36 5 ∧ I3 36 3 = Int32.ofNat (tL T n a) ∧ x2 = Int32.ofNat (tL T n a - a) ∧ (tL T n a - a ≤ 6 → x1 = Int32.ofNat (pkv T a (tL T n a - a)))) ?_ ?_
  · rintro x1 x2 I3 ⟨g1, g2, g3, rfl, g4⟩
    have hle : tL T n a ≤ n := hr.2.1
    obtain ⟨s, hs⟩ : ∃ s, s = tL T n a - a := ⟨_, rfl⟩
    rw [← hs] at g4 ⊢
    refine Ev_ls ?_
    refine Ev_j1 (fun x5 => x5 = if 6 < s then 36 else 34) ?_ ?_
    · rintro x5 rfl
      refine Ev_ls (Ev_ls ?_)
      by_cases c : 6 < s
      · rw [if_pos c]
        refine Ev_fix2 (fun x8 I9 => x8 = 0 ∧ I9 = st2 (st2 I3 36 6 x1) 36 4 36) (fun _ _ => 0) ?_ FU _ _ (FU_lt (by decide)) ⟨rfl, rfl⟩
        rintro rec x8 I9 ⟨rfl, rfl⟩ hrec
        rw [if_neg (by decide), if_neg (by rw [st2_at, if_pos rfl]; decide)]
        refine Ev_some ⟨fun q k hq => by rw [s2x (by omega), s2x (by omega)]; exact g1 q k hq, by rw [s2x (by omega), s2x (by omega)]; exact g2, by rw [s2x (by omega), s2x (by omega)]; exact g3, ?_, fun h => absurd h (by omega)⟩
        rw [st2_at, if_pos rfl]
        unfold tWc; rw [if_pos c]; rfl
      · rw [if_neg c]
        have g4 := g4 (by omega)
        subst g4
        have hx : pkv T a s < 2 ^ 30 := hrn_lt 6 (fun i hi => by
          unfold dg
          split
          · have := of_decide_eq_true (hr.2.2.1 (a + i) (by omega) (by show a + i < tL T n a; omega)); omega
          · decide)
        obtain ⟨x, hxx⟩ : ∃ x, x = pkv T a s := ⟨_, rfl⟩
        rw [← hxx] at hx ⊢
        have hwl : ∀ j : Fin 20, wlc j.1 < 2 ^ 30 := by decide +kernel
        obtain ⟨w, hw⟩ : ∃ w, w = wfn x := ⟨_, rfl⟩
        have htw : tWc x s = cdO w := by unfold tWc; rw [if_neg c, hw]
        have hend : ∀ I9 : MI, (∃ y, I9 = st2 (st2 I3 36 6 (Int32.ofNat x)) 36 4 y ∧ y = Int32.ofNat (tWc x s)) ∨ (∃ y, I9 = st2 (st2 (st2 I3 36 6 (Int32.ofNat x)) 36 4 34) 36 4 y ∧ y = Int32.ofNat (tWc x s)) → FT I I9 ∧ I9 36 5 = I 36 5 ∧ I9 36 3 = Int32.ofNat (tL T n a) ∧ I9 36 4 = Int32.ofNat (tWc x s) ∧ (s ≤ 6 → I9 36 6 = Int32.ofNat x) := fun I9 hI => by
          rcases hI with ⟨y, rfl, hy⟩ | ⟨y, rfl, hy⟩
          · exact ⟨fun q k hq => by rw [s2x (by omega), s2x (by omega)]; exact g1 q k hq, by rw [s2x (by omega), s2x (by omega)]; exact g2, by rw [s2x (by omega), s2x (by omega)]; exact g3, by rw [st2_at, if_pos rfl]; exact hy, fun _ => by rw [s2x (by omega), st2_at, if_pos rfl]⟩
          · exact ⟨fun q k hq => by rw [s2x (by omega), s2x (by omega), s2x (by omega)]; exact g1 q k hq, by rw [s2x (by omega), s2x (by omega), s2x (by omega)]; exact g2, by rw [s2x (by omega), s2x (by omega), s2x (by omega)]; exact g3, by rw [st2_at, if_pos rfl]; exact hy, fun _ => by rw [s2x (by omega), s2x (by omega), st2_at, if_pos rfl]⟩
        refine Ev_fix2 (fun x8 I9 => ∃ j, j ≤ 20 ∧ x8 = Int32.ofNat j ∧ ((I9 = st2 (st2 I3 36 6 (Int32.ofNat x)) 36 4 34 ∧ w = fd (fun j => decide (wlc j = x)) (20 - j) j) ∨ ∃ e, e < 20 ∧ w = some e ∧ I9 = st2 (st2 (st2 I3 36 6 (Int32.ofNat x)) 36 4 34) 36 4 (Int32.ofNat e))) (fun x8 _ => (80 - x8.toInt).toNat) ?_ FU _ _ (FU_lt (by decide)) ⟨0, by omega, rfl, Or.inl ⟨rfl, hw⟩⟩
        rintro rec x8 I9 ⟨j, hj, rfl, hI⟩ hrec
        refine Ev_if (fun cc => ?_) (fun cc => ?_)
        · have cc := (n_le (a := 20) (by omega) (by omega)).mp cc
          have : j = 20 := by omega
          subst this
          refine Ev_some (hend I9 ?_)
          rcases hI with ⟨e1, e2⟩ | ⟨e, he, e2, e1⟩
          · refine Or.inl ⟨_, e1, ?_⟩
            rw [htw, e2]; rfl
          · refine Or.inr ⟨_, e1, ?_⟩
            rw [htw, e2]; rfl
        · have hlt : j < 20 := Nat.lt_of_not_le (fun h => cc ((n_le (a := 20) (by omega) (by omega)).mpr h))
          rcases hI with ⟨e1, e2⟩ | ⟨e, he, e2, e1⟩
          · have e37 : I9 37 j = Int32.ofNat (wlc j) := by rw [e1, s2x (by omega), s2x (by omega), g1 37 j (by omega)]; exact a5 j hlt
            have hwj := hwl ⟨j, hlt⟩
            simp only at hwj
            have hfs : fd (fun j => decide (wlc j = x)) (20 - j) j = if decide (wlc j = x) then some j else fd (fun j => decide (wlc j = x)) (20 - (j + 1)) (j + 1) := by
              rw [show 20 - j = (20 - (j + 1)) + 1 by omega]; rfl
            rw [if_pos (by rw [e1, st2_at, if_pos rfl])]
            refine Ev_gd ((n_inb (by omega)).mpr hlt) (Ev_ls ?_)
            rw [n_ix (by omega), e37]
            refine Ev_if (fun c3 => ?_) (fun c3 => ?_)
            · have c3 := (n_eq (by omega) (by omega)).mp c3
              refine Ev_ls (Ev_ls ?_)
              rw [n_t1]
              refine hrec _ _ ⟨j + 1, by omega, rfl, Or.inr ⟨j, hlt, by rw [e2, hfs, decide_eq_true c3]; rfl, by rw [e1]⟩⟩ ?_
              rw [n_toInt (by omega), n_toInt (by omega)]; omega
            · refine Ev_ls ?_
              rw [n_t1]
              refine hrec _ _ ⟨j + 1, by omega, rfl, Or.inl ⟨e1, by rw [e2, hfs, decide_eq_false (fun e => c3 (by rw [e]))]; rfl⟩⟩ ?_
              rw [n_toInt (by omega), n_toInt (by omega)]; omega
          · rw [if_neg (by
              rw [e1, st2_at, if_pos rfl]
              intro e3
              have := (n_eq (b := 34) (by omega) (by omega)).mp e3
              omega)]
            refine Ev_some (hend I9 (Or.inr ⟨_, e1, ?_⟩))
            rw [htw, e2]; rfl
    · intro j hj
      refine Ev_if (fun c => ?_) (fun c => ?_)
      · have c := (n_le (b := 6) (by omega) (by omega)).mp c
        exact hj _ (by rw [if_neg (by omega)])
      · exact hj _ (by rw [if_pos (Nat.lt_of_not_le (fun h => c ((n_le (b := 6) (by omega) (by omega)).mpr h)))])
  · intro j hj
    refine Ev_fix3 (fun x13 x14 I15 => ∃ i, a ≤ i ∧ i ≤ n ∧ (∀ k, a ≤ k → k < i → isL (T k) = true) ∧ FT I I15 ∧ I15 36 5 = I 36 5 ∧ I15 36 3 = Int32.ofNat i ∧ x14 = Int32.ofNat (i - a) ∧ (i - a ≤ 6 → x13 = Int32.ofNat (hrn (fun i => T (a + i) - 96) (i - a) * 32 ^ (6 - (i - a))))) (fun _ _ I15 => (800 - (I15 36 3).toInt).toNat) ?_ FU _ _ _ (FU_lt ?_) ⟨a, by omega, a3, fun k b c => absurd c (by omega), fun _ _ _ => rfl, rfl, a7, by rw [Nat.sub_self]; rfl, fun _ => by rw [Nat.sub_self]; show (0 : Int32) = Int32.ofNat (0 * _); rw [Nat.zero_mul]; rfl⟩
    · rintro rec x13 x14 I15 ⟨i, hi, hin, hrr, g1, g2, g3, rfl, g4⟩ hrec
      have K : TkI I15 T n i := h.ft g1 g3 hin
      have e2 : I15 36 2 = Int32.ofNat n := K.2.2.2.2.2.1
      have hex : RunTo (fun k => isL (T k)) n a i → FT I I15 ∧ I15 36 5 = I 36 5 ∧ I15 36 3 = Int32.ofNat (tL T n a) ∧ Int32.ofNat (i - a) = Int32.ofNat (tL T n a - a) ∧ (tL T n a - a ≤ 6 → x13 = Int32.ofNat (pkv T a (tL T n a - a))) := fun hru => by
        have : i = tL T n a := rn_eq hru
        rw [← this]
        exact ⟨g1, g2, g3, rfl, fun hs => by rw [g4 hs, pkv_eq hs]⟩
      rw [e2, g3]
      refine Ev_if (fun c => ?_) (fun c => ?_)
      · have c := (n_le (by omega) (by omega)).mp c
        exact hj _ _ _ (hex ⟨hi, hin, hrr, fun h => absurd h (by omega)⟩)
      · have hlt : i < n := Nat.lt_of_not_le (fun h => c ((n_le (by omega) (by omega)).mpr h))
        have es : sg T n i = T i := if_pos hlt
        rw [p_signAt K (by omega), bd1_s, es, p_isLetter (a1 i), bd1_s]
        cases hd : isL (T i) with
        | false => exact hj _ _ _ (hex ⟨hi, hin, hrr, fun _ => hd⟩)
        | true =>
          rw [if_pos rfl]
          have hdd := of_decide_eq_true hd
          refine Ev_j1 (fun x18 => i + 1 - a ≤ 6 → x18 = Int32.ofNat (hrn (fun i => T (a + i) - 96) (i + 1 - a) * 32 ^ (6 - (i + 1 - a)))) ?_ ?_
          · intro x18 h18
            refine Ev_ls (Ev_ls ?_)
            rw [n_t1, n_t1]
            refine hrec _ _ _ ⟨i + 1, by omega, by omega, fun k b c => ?_, fun q k hq => by rw [s2x (by omega)]; exact g1 q k hq, by rw [s2x (by omega)]; exact g2, by rw [st2_at, if_pos rfl], by rw [show i - a + 1 = i + 1 - a by omega], h18⟩ ?_
            · by_cases e : k = i
              · rw [e]; exact hd
              · exact hrr k b (by omega)
            · rw [st2_at, if_pos rfl, n_toInt (by omega), g3, n_toInt (by omega)]; omega
          · intro j' hj'
            refine Ev_if (fun c2 => ?_) (fun c2 => ?_)
            · have c2 := (n_le (a := 6) (by omega) (by omega)).mp c2
              exact hj' _ (fun h => absurd h (by omega))
            · have c2 : i - a < 6 := Nat.lt_of_not_le (fun h => c2 ((n_le (a := 6) (by omega) (by omega)).mpr h))
              delta f_X7_letter
              rw [bd1_s, bd1_s]
              refine Ev_ls (hj' _ (fun _ => ?_))
              have hput := n_put (X := hrn (fun i => T (a + i) - 96) (i - a)) (d := T i - 96) c2 (by omega)
              rw [show 96 + (T i - 96) = T i by omega] at hput
              rw [g4 (by omega), hput, show 6 - (i + 1 - a) = 5 - (i - a) by omega, show i + 1 - a = (i - a) + 1 by omega]
              show _ = Int32.ofNat ((hrn (fun i => T (a + i) - 96) (i - a) * 32 + (T (a + (i - a)) - 96)) * _)
              rw [show a + (i - a) = i by omega]
    · rw [a7, n_toInt (by omega)]; omega
theorem p_step {I : MI} {T : Nat → Nat} {n p : Nat} (h : TkI I T n p) : Ev (f_X7_step I) (fun I' => FT I I' ∧ I' 36 5 = Int32.ofNat (tA T n p) ∧ I' 36 3 = Int32.ofNat (tQ T n (tA T n p)) ∧ I' 36 4 = Int32.ofNat (tC T n (tA T n p)) ∧ ((tC T n (tA T n p) = 33 ∨ tC T n (tA T n p) = 34) → I' 36 6 = Int32.ofNat (tV T n (tA T n p)))) := by
  have h' := h
  obtain ⟨a1, a2, a3, a4, a5, a6, a7⟩ := h'
  delta f_X7_step
  refine Ev_j1 (fun I1 => FT I I1 ∧ I1 36 3 = Int32.ofNat (tA T n p)) ?_ ?_
  · rintro I1 ⟨g1, g2⟩
    have hle : tA T n p ≤ n := (rn_ok a3).2.1
    obtain ⟨a, ha⟩ : ∃ a, a = tA T n p := ⟨_, rfl⟩
    rw [← ha] at g2 hle ⊢
    rw [g2]
    refine Ev_ls ?_
    obtain ⟨I2, hI2⟩ : ∃ A, A = st2 I1 36 5 (Int32.ofNat a) := ⟨_, rfl⟩
    rw [← hI2]
    have f2 : FT I I2 := fun q k hq => by rw [hI2, s2x (by omega)]; exact g1 q k hq
    have e3 : I2 36 3 = Int32.ofNat a := by rw [hI2, s2x (by omega)]; exact g2
    have e5 : I2 36 5 = Int32.ofNat a := by rw [hI2, st2_at, if_pos rfl]
    have K : TkI I2 T n a := h.ft f2 e3 hle
    have e2 : I2 36 2 = Int32.ofNat n := K.2.2.2.2.2.1
    rw [e2, e3, p_signAt K (by omega), bd1_s]
    refine Ev_ls ?_
    unfold tQ tC tV
    refine Ev_if (fun c => ?_) (fun c => ?_)
    · have c := (n_lt (by omega) (by omega)).mp c
      have es : sg T n a = T a := if_pos c
      simp only [if_neg (show ¬ n ≤ a by omega)]
      rw [es, p_isLetter (a1 a), bd1_s]
      cases hL : isL (T a) with
      | true =>
        simp only [if_true]
        refine Ev_bd1 (p_stepWord K) ?_
        rintro I6 ⟨q1, q2, q3, q4, q5⟩
        refine Ev_some ⟨fun q k hq => (q1 q k hq).trans (f2 q k hq), q2.trans e5, q3, q4, fun hor => q5 ?_⟩
        apply Nat.le_of_not_lt
        intro hs
        unfold tWc at hor
        rw [if_pos hs] at hor
        omega
      | false =>
        simp only [Bool.false_eq_true, if_false]
        rw [p_isDigit (a1 a), bd1_s]
        cases hD : isD (T a) with
        | true =>
          simp only [if_true]
          refine Ev_bd1 (p_stepNumber K) ?_
          rintro I6 ⟨q1, q2, q3, q4, q5⟩
          exact Ev_some ⟨fun q k hq => (q1 q k hq).trans (f2 q k hq), q2.trans e5, q3, q4, fun _ => q5⟩
        | false =>
          simp only [Bool.false_eq_true, if_false]
          refine Ev_ls ?_
          rw [n_t1]
          have K9 : TkI (st2 I2 36 3 (Int32.ofNat (a + 1))) T n (a + 1) := K.ft (fun q k hq => s2x (by omega)) (by rw [st2_at, if_pos rfl]) (by omega)
          have hsg : sg T n (a + 1) < 256 := by
            unfold sg
            split
            · exact a1 _
            · decide
          rw [show st2 I2 36 3 (Int32.ofNat (a + 1)) 36 3 = Int32.ofNat (a + 1) by rw [st2_at, if_pos rfl], p_signAt K9 (by omega), bd1_s, p_sgtok (a1 a) hsg, bd1_s]
          refine Ev_ls ?_
          have hsc := sgt_c (sg T n (a + 1)) (a1 a)
          obtain ⟨z, hz⟩ : ∃ z, z = sgt (T a) (sg T n (a + 1)) := ⟨_, rfl⟩
          rw [← hz] at hsc ⊢
          have hle36 := hsc.2.1
          have hn33 : ¬ (z = 33 ∨ z = 34) := by omega
          have e4 : st2 (st2 I2 36 3 (Int32.ofNat (a + 1))) 36 4 (Int32.ofNat z) 36 4 = Int32.ofNat z := by rw [st2_at, if_pos rfl]
          have e33 : st2 (st2 I2 36 3 (Int32.ofNat (a + 1))) 36 4 (Int32.ofNat z) 36 3 = Int32.ofNat (a + 1) := by rw [s2x (by omega), st2_at, if_pos rfl]
          refine Ev_ls ?_
          rw [e4, e33, n_t1]
          have hy : two z = true → Ev (lt (st2 (st2 (st2 I2 36 3 (Int32.ofNat (a + 1))) 36 4 (Int32.ofNat z)) 36 3 (Int32.ofNat (a + 1 + 1))) (fun I13 => some I13)) (fun I' => FT I I' ∧ I' 36 5 = Int32.ofNat a ∧ I' 36 3 = Int32.ofNat (if two z = true then a + 2 else a + 1) ∧ I' 36 4 = Int32.ofNat z ∧ (z = 33 ∨ z = 34 → I' 36 6 = Int32.ofNat (cN T a (tD T n a - a)))) := fun ht => by
            refine Ev_ls (Ev_some ⟨fun q k hq => by rw [s2x (by omega), s2x (by omega), s2x (by omega)]; exact f2 q k hq, by rw [s2x (by omega), s2x (by omega), s2x (by omega)]; exact e5, by rw [st2_at, if_pos rfl, ht]; rfl, by rw [s2x (by omega)]; exact e4, fun h => absurd h hn33⟩)
          refine Ev_if (fun c1 => hy (decide_eq_true (Or.inl ((n_eq (b := 24) (by omega) (by omega)).mp c1)))) (fun c1 => ?_)
          refine Ev_if (fun c2 => hy (decide_eq_true (Or.inr (Or.inl ((n_eq (b := 27) (by omega) (by omega)).mp c2))))) (fun c2 => ?_)
          refine Ev_if (fun c3 => hy (decide_eq_true (Or.inr (Or.inr ((n_eq (b := 26) (by omega) (by omega)).mp c3))))) (fun c3 => ?_)
          have ht : two z = false := decide_eq_false (fun hor => by
            rcases hor with e | e | e
            · exact c1 (by rw [e]; rfl)
            · exact c2 (by rw [e]; rfl)
            · exact c3 (by rw [e]; rfl))
          refine Ev_some ⟨fun q k hq => by rw [s2x (by omega), s2x (by omega)]; exact f2 q k hq, by rw [s2x (by omega), s2x (by omega)]; exact e5, by rw [e33, ht]; rfl, e4, fun h => absurd h hn33⟩
    · have c : ¬ a < n := fun h => c ((n_lt (by omega) (by omega)).mpr h)
      simp only [if_pos (show n ≤ a by omega)]
      refine Ev_ls (Ev_some ⟨fun q k hq => by rw [s2x (by omega)]; exact f2 q k hq, by rw [s2x (by omega)]; exact e5, by rw [s2x (by omega)]; exact e3, by rw [st2_at, if_pos rfl]; rfl, fun h => absurd h (by omega)⟩)
  · intro j hj
    refine Ev_fix1 (fun I15 => ∃ i, p ≤ i ∧ i ≤ n ∧ (∀ k, p ≤ k → k < i → isB (T k) = true) ∧ FT I I15 ∧ I15 36 3 = Int32.ofNat i) (fun I15 => (800 - (I15 36 3).toInt).toNat) ?_ FU _ (FU_lt ?_) ⟨p, by omega, a3, fun k b c => absurd c (by omega), fun _ _ _ => rfl, a7⟩
    · rintro rec I15 ⟨i, hi, hin, hr, g1, g3⟩ hrec
      have K : TkI I15 T n i := h.ft g1 g3 hin
      have e2 : I15 36 2 = Int32.ofNat n := K.2.2.2.2.2.1
      rw [e2, g3]
      refine Ev_if (fun c => ?_) (fun c => ?_)
      · have c := (n_le (by omega) (by omega)).mp c
        have : i = tA T n p := rn_eq ⟨hi, hin, hr, fun h => absurd h (by omega)⟩
        exact hj _ ⟨g1, by rw [g3, this]⟩
      · have hlt : i < n := Nat.lt_of_not_le (fun h => c ((n_le (by omega) (by omega)).mpr h))
        have es : sg T n i = T i := if_pos hlt
        have hti := a1 i
        rw [p_signAt K (by omega), bd1_s, es]
        have hgo : isB (T i) = true → Ev (lt (st2 I15 36 3 (Int32.ofNat i + 1)) (fun I17 => rec I17)) (fun I' => FT I I' ∧ I' 36 5 = Int32.ofNat (tA T n p) ∧ I' 36 3 = Int32.ofNat (tQ T n (tA T n p)) ∧ I' 36 4 = Int32.ofNat (tC T n (tA T n p)) ∧ ((tC T n (tA T n p) = 33 ∨ tC T n (tA T n p) = 34) → I' 36 6 = Int32.ofNat (tV T n (tA T n p)))) := fun hb => by
          refine Ev_ls ?_
          rw [n_t1]
          refine hrec _ ⟨i + 1, by omega, by omega, fun k b c => ?_, fun q k hq => by rw [s2x (by omega)]; exact g1 q k hq, by rw [st2_at, if_pos rfl]⟩ ?_
          · by_cases e : k = i
            · rw [e]; exact hb
            · exact hr k b (by omega)
          · rw [st2_at, if_pos rfl, n_toInt (by omega), g3, n_toInt (by omega)]; omega
        refine Ev_ls ?_
        refine Ev_if (fun c1 => hgo (decide_eq_true (Or.inl ((n_eq (b := 32) (by omega) (by omega)).mp c1)))) (fun c1 => ?_)
        rw [bd1_s]
        refine Ev_if (fun c2 => hgo (decide_eq_true (Or.inr ((n_eq (b := 10) (by omega) (by omega)).mp c2)))) (fun c2 => ?_)
        have hb : isB (T i) = false := decide_eq_false (fun hor => by
          rcases hor with e | e
          · exact c1 (by rw [e]; rfl)
          · exact c2 (by rw [e]; rfl))
        have : i = tA T n p := rn_eq ⟨hi, hin, hr, fun _ => hb⟩
        exact hj _ ⟨g1, by rw [g3, this]⟩
    · rw [a7, n_toInt (by omega)]; omega
