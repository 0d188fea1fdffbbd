/-! the tokens of a text: the model's token -/
theorem m_token {M : MI} {T : Nat → Nat} {n p : Nat} (h : TkM M T n p) : Ev (f_X11_token M) (fun M' => FM M M' ∧ M' 0 10 = Int32.ofNat (tA T n p) ∧ M' 0 7 = Int32.ofNat (tQ T n (tA T n p)) ∧ TkR (tC T n (tA T n p)) (tV T n (tA T n p)) (M' 0 8) (M' 0 9)) := by
  have h' := h
  obtain ⟨a1, a2, a3, a4, a5, a6, a7⟩ := h'
  delta f_X11_token
  refine Ev_j1 (fun I1 => FM M I1 ∧ I1 0 7 = Int32.ofNat (tA T n p)) ?_ ?_
  · rintro I1 ⟨g1, g2⟩
    have hle : tA T n p ≤ n := (rn_ok a3).2.1
    obtain ⟨a, ha⟩ : ∃ a, a = tA T n p := ⟨_, rfl⟩
    rw [← ha] at g2 hle ⊢
    rw [g2]
    refine Ev_ls ?_
    obtain ⟨I2, hI2⟩ : ∃ A, A = st2 I1 0 10 (Int32.ofNat a) := ⟨_, rfl⟩
    rw [← hI2]
    have f2 : FM M I2 := fun q k hq => by rw [hI2, s2x (by omega)]; exact g1 q k hq
    have e7 : I2 0 7 = Int32.ofNat a := by rw [hI2, s2x (by omega)]; exact g2
    have e10 : I2 0 10 = Int32.ofNat a := by rw [hI2, st2_at, if_pos rfl]
    have K : TkM I2 T n a := h.ft f2 e7 hle
    have e6 : I2 0 6 = Int32.ofNat n := K.2.2.2.2.2.1
    refine Ev_ls ?_
    rw [e6, e7]
    unfold tQ tC tV
    refine Ev_if (fun c => ?_) (fun c => ?_)
    · have c := (n_eq (by omega) (by omega)).mp c
      simp only [if_pos (show n ≤ a by omega)]
      refine Ev_ls (Ev_some ⟨fun q k hq => by rw [s2x (by omega)]; exact f2 q k hq, by rw [s2x (by omega)]; exact e10, by rw [s2x (by omega)]; exact e7, Or.inl ⟨by rw [st2_at, if_pos rfl], rfl⟩⟩)
    · have c : ¬ a = n := fun e => c (by rw [e])
      have hlt : a < n := by omega
      simp only [if_neg (show ¬ n ≤ a by omega)]
      rw [m_isSmall K (by omega), bd1_s, decide_eq_true hlt, Bool.true_and]
      cases hL : isL (T a) with
      | true =>
        simp only [if_true]
        have hr := rn_ok (f := fun k => isL (T k)) hle
        refine Ev_j1 (fun I6 => (∀ q k, ¬ (q = 0 ∧ k = 7) → I6 q k = I2 q k) ∧ I6 0 7 = Int32.ofNat (tL T n a)) ?_ ?_
        · rintro I6 ⟨q1, q2⟩
          have hql : a ≤ tL T n a := hr.1
          have hqn : tL T n a ≤ n := hr.2.1
          have hl : ∀ i, a ≤ i → i < tL T n a → isL (T i) = true := hr.2.2.1
          have K6 : TkM I6 T n (tL T n a) := K.ft (fun q k hq => q1 q k (by omega)) q2 hqn
          have e610 : I6 0 10 = Int32.ofNat a := by rw [q1 0 10 (by omega)]; exact e10
          rw [e610, q2]
          obtain ⟨q, hq⟩ : ∃ q, q = tL T n a := ⟨_, rfl⟩
          rw [← hq] at hql hqn hl K6 q2 ⊢
          obtain ⟨s, hs⟩ : ∃ s, s = q - a := ⟨_, rfl⟩
          refine Ev_bd1 (m_wordAt K6 hql hqn) ?_
          rintro x7 hx7
          rw [← hs] at hx7 ⊢
          have hl' : ∀ i, i < s → isL (T (a + i)) = true := fun i hi => hl (a + i) (by omega) (by omega)
          have hpk := m_packed (a := a) K6 hql hqn hl
          rw [← hs] at hpk
          refine Ev_ls ?_
          have e9 : st2 I6 0 9 x7 0 9 = x7 := by rw [st2_at, if_pos rfl]
          have e77 : st2 I6 0 9 x7 0 7 = Int32.ofNat q := by rw [s2x (by omega)]; exact q2
          have e71 : st2 I6 0 9 x7 0 10 = Int32.ofNat a := by rw [s2x (by omega)]; exact e610
          refine Ev_j1 (fun x9 => (x9 = 1 ∧ ∃ j, j < 20 ∧ x7 = Int32.ofNat j ∧ tWc (pkv T a s) s = swp j) ∨ (x9 = 2 ∧ s ≤ 6 ∧ tWc (pkv T a s) s = 34) ∨ (x9 = 6 ∧ tWc (pkv T a s) s = 36)) ?_ ?_
          · intro x9 hx9
            refine Ev_ls ?_
            have f10 : FM M (st2 (st2 I6 0 9 x7) 0 8 x9) := fun q k hq => by rw [s2x (by omega), s2x (by omega), q1 q k (by omega)]; exact f2 q k hq
            have t10 : st2 (st2 I6 0 9 x7) 0 8 x9 0 10 = Int32.ofNat a := by rw [s2x (by omega)]; exact e71
            have t7 : st2 (st2 I6 0 9 x7) 0 8 x9 0 7 = Int32.ofNat q := by rw [s2x (by omega)]; exact e77
            have t8 : st2 (st2 I6 0 9 x7) 0 8 x9 0 8 = x9 := by rw [st2_at, if_pos rfl]
            have t9 : st2 (st2 I6 0 9 x7) 0 8 x9 0 9 = x7 := by rw [s2x (by omega)]; exact e9
            rw [t8, t10, t7]
            rcases hx9 with ⟨rfl, j, hj, rfl, hw⟩ | ⟨rfl, h6, hw⟩ | ⟨rfl, hw⟩
            · rw [if_neg (by decide)]
              exact Ev_some ⟨f10, t10, t7, Or.inr (Or.inl ⟨t8, j, hj, t9, hw⟩)⟩
            · rw [if_pos (by rfl)]
              have K10 : TkM (st2 (st2 I6 0 9 x7) 0 8 2) T n q := h.ft f10 t7 hqn
              have hpk10 := m_packed (a := a) K10 hql hqn hl
              rw [← hs] at hpk10
              rw [hpk10, bd1_s]
              refine Ev_ls (Ev_some ⟨fun q k hq => by rw [s2x (by omega)]; exact f10 q k hq, by rw [s2x (by omega)]; exact t10, by rw [s2x (by omega)]; exact t7, Or.inr (Or.inr (Or.inl ⟨by rw [s2x (by omega)]; exact t8, hw, by rw [st2_at, if_pos rfl]⟩))⟩)
            · rw [if_neg (by decide)]
              exact Ev_some ⟨f10, t10, t7, Or.inr (Or.inr (Or.inr (Or.inr (Or.inr (Or.inr ⟨t8, hw⟩)))))⟩
          · intro j hj
            rw [e9, e77, e71, n_sub hql, ← hs]
            rcases hx7 with ⟨k, hk, rfl, hm⟩ | ⟨rfl, hm⟩
            · rw [if_neg (enc_neg (by omega)).2.1]
              obtain ⟨m1, m2⟩ := (mt_pk hk hl').mp hm
              refine hj _ (Or.inl ⟨rfl, k, hk, rfl, ?_⟩)
              unfold tWc
              rw [if_neg (by omega), wfn_s (wd_4 ⟨k, hk⟩).1 m2.symm]; rfl
            · rw [if_pos (by decide)]
              refine Ev_if (fun c6 => ?_) (fun c6 => ?_)
              · have c6 := (n_le (b := 6) (by omega) (by omega)).mp c6
                refine hj _ (Or.inr (Or.inl ⟨rfl, c6, ?_⟩))
                unfold tWc
                rw [if_neg (by omega), wfn_n (fun e he h2 => ?_)]
                · rfl
                · have w4 := wd_4 ⟨e, he⟩
                  simp only at w4
                  exact hm (swp e) w4.1 ((mt_pk w4.1 hl').mpr ⟨c6, by rw [w4.2]; exact h2.symm⟩)
              · have c6 : 6 < s := Nat.lt_of_not_le (fun h => c6 ((n_le (b := 6) (by omega) (by omega)).mpr h))
                refine hj _ (Or.inr (Or.inr ⟨rfl, ?_⟩))
                unfold tWc
                rw [if_pos c6]
        · intro j hj
          refine Ev_fix1 (fun I13 => ∃ i, a ≤ i ∧ i ≤ n ∧ (∀ k, a ≤ k → k < i → isL (T k) = true) ∧ (∀ q k, ¬ (q = 0 ∧ k = 7) → I13 q k = I2 q k) ∧ I13 0 7 = Int32.ofNat i) (fun I13 => (800 - (I13 0 7).toInt).toNat) ?_ FU _ (FU_lt ?_) ⟨a, by omega, hle, fun k b c => absurd c (by omega), fun _ _ _ => rfl, e7⟩
          · rintro rec I13 ⟨i, hi, hin, hrr, q1, q3⟩ hrec
            have K13 : TkM I13 T n i := K.ft (fun q k hq => q1 q k (by omega)) q3 hin
            rw [q3, m_isSmall K13 (by omega), bd1_s]
            refine Ev_if (fun cc => ?_) (fun cc => ?_)
            · obtain ⟨c1, c2⟩ := Bool.and_eq_true_iff.mp cc
              have c1 := of_decide_eq_true c1
              refine Ev_ls ?_
              rw [n_t1]
              refine hrec _ ⟨i + 1, by omega, by omega, fun k b c => ?_, fun q k hq => by rw [s2x (by omega)]; exact q1 q k hq, by rw [st2_at, if_pos rfl]⟩ ?_
              · by_cases e : k = i
                · rw [e]; exact c2
                · exact hrr k b (by omega)
              · rw [st2_at, if_pos rfl, n_toInt (by omega), q3, n_toInt (by omega)]; omega
            · have : i = tL T n a := rn_eq ⟨hi, hin, hrr, fun hh => by
                cases hb : isL (T i) with
                | false => exact hb
                | true => exact absurd (by rw [decide_eq_true hh, hb]; rfl) cc⟩
              exact hj _ ⟨q1, by rw [q3, this]⟩
          · rw [e7, n_toInt (by omega)]; omega
      | false =>
        simp only [Bool.false_eq_true, if_false]
        rw [m_isDig K (by omega), bd1_s, decide_eq_true hlt, Bool.true_and]
        cases hD : isD (T a) with
        | true =>
          simp only [if_true]
          refine Ev_ls (Ev_ls ?_)
          obtain ⟨I18, hI18⟩ : ∃ A, A = st2 (st2 I2 0 8 3) 0 9 0 := ⟨_, rfl⟩
          rw [← hI18]
          have b1 : ∀ q k, ¬ (q = 0 ∧ 8 ≤ k ∧ k ≤ 9) → I18 q k = I2 q k := fun q k hq => by rw [hI18, s2x (by omega), s2x (by omega)]
          have b8' : I18 0 8 = 3 := by rw [hI18, s2x (by omega), st2_at, if_pos rfl]
          have b9 : I18 0 9 = 0 := by rw [hI18, st2_at, if_pos rfl]
          refine Ev_fix1 (fun I19 => ∃ i, a ≤ i ∧ i ≤ n ∧ (∀ k, a ≤ k → k < i → isD (T k) = true) ∧ (∀ q k, ¬ (q = 0 ∧ (k = 7 ∨ k = 9)) → I19 q k = I18 q k) ∧ I19 0 7 = Int32.ofNat i ∧ I19 0 9 = Int32.ofNat (mN T a (i - a))) (fun I19 => (800 - (I19 0 7).toInt).toNat) ?_ FU _ (FU_lt ?_) ⟨a, by omega, hle, fun k b c => absurd c (by omega), fun _ _ _ => rfl, by rw [b1 0 7 (by omega)]; exact e7, by rw [b9, Nat.sub_self]; rfl⟩
          · rintro rec I19 ⟨i, hi, hin, hrr, q1, q3, q4⟩ hrec
            have f19 : FM M I19 := fun q k hq => by rw [q1 q k (by omega), b1 q k (by omega)]; exact f2 q k hq
            have K19 : TkM I19 T n i := h.ft f19 q3 hin
            have hcm := cN_mN (T := T) (a := a) (i - a) (fun j hj => hrr (a + j) (by omega) (by omega))
            rw [q3, m_isDig K19 (by omega), bd1_s]
            refine Ev_if (fun cc => ?_) (fun cc => ?_)
            · obtain ⟨c1, c2⟩ := Bool.and_eq_true_iff.mp cc
              have c1 := of_decide_eq_true c1
              have hdd := of_decide_eq_true c2
              have emn : mN T a (i + 1 - a) = if 99999 < mN T a (i - a) then mN T a (i - a) else 10 * mN T a (i - a) + (T i - 48) := by
                rw [show i + 1 - a = (i - a) + 1 by omega]
                show (if 99999 < mN T a (i - a) then mN T a (i - a) else 10 * mN T a (i - a) + (T (a + (i - a)) - 48)) = _
                rw [show a + (i - a) = i by omega]
              refine Ev_j1 (fun x21 => x21 = Int32.ofNat (mN T a (i + 1 - a))) ?_ ?_
              · rintro x21 rfl
                refine Ev_ls (Ev_ls ?_)
                rw [s2x (by omega), q3, n_t1]
                refine hrec _ ⟨i + 1, by omega, by omega, fun k b c => ?_, fun q k hq => by rw [s2x (by omega), s2x (by omega)]; exact q1 q k hq, by rw [st2_at, if_pos rfl], by rw [s2x (by omega), st2_at, if_pos rfl]⟩ ?_
                · by_cases e : k = i
                  · rw [e]; exact c2
                  · exact hrr k b (by omega)
                · rw [st2_at, if_pos rfl, n_toInt (by omega), q3, n_toInt (by omega)]; omega
              · intro j hj
                rw [q4]
                refine Ev_if (fun c9 => ?_) (fun c9 => ?_)
                · have c9 := (n_le (b := 99999) (by omega) (by omega)).mp c9
                  refine Ev_gd ((n_inb (by omega)).mpr (by omega)) (hj _ ?_)
                  rw [n_ix (by omega), K19.2.2.2.1, show (10 : Int32) = Int32.ofNat 10 from rfl, n_mul, n_add, show (48 : Int32) = Int32.ofNat 48 from rfl, n_sub (by omega), emn, if_neg (by omega)]
                  congr 1; omega
                · have c9 : 99999 < mN T a (i - a) := Nat.lt_of_not_le (fun h => c9 ((n_le (b := 99999) (by omega) (by omega)).mpr h))
                  exact hj _ (by rw [emn, if_pos c9])
            · have hend : i = tD T n a := rn_eq ⟨hi, hin, hrr, fun hh => by
                cases hb : isD (T i) with
                | false => exact hb
                | true => exact absurd (by rw [decide_eq_true hh, hb]; rfl) cc⟩
              rw [hend] at hcm q3 q4
              refine Ev_some ⟨f19, by rw [q1 0 10 (by omega), b1 0 10 (by omega)]; exact e10, q3, Or.inr (Or.inr (Or.inr (Or.inl ⟨by rw [q1 0 8 (by omega)]; exact b8', rfl, _, q4, hcm.2.1, hcm.1, ?_⟩)))⟩
              rcases hcm.2.2 with ⟨h1, h2⟩ | h1
              · exact Or.inl ⟨h1, by omega⟩
              · exact Or.inr h1
          · rw [b1 0 7 (by omega), e7, n_toInt (by omega)]; omega
        | false =>
          simp only [Bool.false_eq_true, if_false]
          refine Ev_bd1 (m_signToken K hlt) ?_
          rintro I24 ⟨q1, q2, q3, q4⟩
          refine Ev_some ⟨fun q k hq => by rw [q1 q k (by omega)]; exact f2 q k hq, by rw [q1 0 10 (by omega)]; exact e10, q2, ?_⟩
          rw [q3, q4]
          exact mS_c _ _ (a1 a)
  · intro j hj
    refine Ev_fix1 (fun I25 => ∃ i, p ≤ i ∧ i ≤ n ∧ (∀ k, p ≤ k → k < i → isB (T k) = true) ∧ FM M I25 ∧ I25 0 7 = Int32.ofNat i) (fun I25 => (800 - (I25 0 7).toInt).toNat) ?_ FU _ (FU_lt ?_) ⟨p, by omega, a3, fun k b c => absurd c (by omega), fun _ _ _ => rfl, a7⟩
    · rintro rec I25 ⟨i, hi, hin, hr, g1, g3⟩ hrec
      have K : TkM I25 T n i := h.ft g1 g3 hin
      have e6 : I25 0 6 = Int32.ofNat n := K.2.2.2.2.2.1
      rw [e6, g3]
      refine Ev_if (fun c => ?_) (fun c => ?_)
      · have c := (n_le (by omega) (by omega)).mp c
        have : i = tA T n p := rn_eq ⟨hi, hin, hr, fun h => absurd h (by omega)⟩
        exact hj _ ⟨g1, by rw [g3, this]⟩
      · have hlt : i < n := Nat.lt_of_not_le (fun h => c ((n_le (by omega) (by omega)).mpr h))
        have hti := a1 i
        refine Ev_gd ((n_inb (by omega)).mpr (by omega)) ?_
        rw [n_ix (by omega), K.2.2.2.1]
        refine Ev_lt (fun j39 h39 => ?_)
        have hgo : isB (T i) = true → Ev j39 (fun M' => FM M M' ∧ M' 0 10 = Int32.ofNat (tA T n p) ∧ M' 0 7 = Int32.ofNat (tQ T n (tA T n p)) ∧ TkR (tC T n (tA T n p)) (tV T n (tA T n p)) (M' 0 8) (M' 0 9)) := fun hb => by
          rw [h39]
          refine Ev_ls ?_
          rw [n_t1]
          refine hrec _ ⟨i + 1, by omega, by omega, fun k b c => ?_, fun q k hq => by rw [s2x (by omega)]; exact g1 q k hq, by rw [st2_at, if_pos rfl]⟩ ?_
          · by_cases e : k = i
            · rw [e]; exact hb
            · exact hr k b (by omega)
          · rw [st2_at, if_pos rfl, n_toInt (by omega), g3, n_toInt (by omega)]; omega
        refine Ev_if (fun c1 => hgo (decide_eq_true (Or.inr ((n_eq (b := 10) (by omega) (by omega)).mp c1)))) (fun c1 => ?_)
        refine Ev_gd ((n_inb (by omega)).mpr (by omega)) ?_
        refine Ev_if (fun c2 => hgo (decide_eq_true (Or.inl ((n_eq (b := 32) (by omega) (by omega)).mp c2)))) (fun c2 => ?_)
        have hb : isB (T i) = false := decide_eq_false (fun hor => by
          rcases hor with e | e
          · exact c2 (by rw [e]; rfl)
          · exact c1 (by rw [e]; rfl))
        have : i = tA T n p := rn_eq ⟨hi, hin, hr, fun _ => hb⟩
        exact hj _ ⟨g1, by rw [g3, this]⟩
    · rw [a7, n_toInt (by omega)]; omega
theorem tok_b {T : Nat → Nat} {n p : Nat} (hT : ∀ k, T k < 256) (hp : p ≤ n) : p ≤ tA T n p ∧ tA T n p ≤ tQ T n (tA T n p) ∧ tQ T n (tA T n p) ≤ n ∧ (tC T n (tA T n p) ≠ 35 → tA T n p < tQ T n (tA T n p)) := by
  have h1 := rn_ok (f := fun k => isB (T k)) hp
  obtain ⟨a, ha⟩ : ∃ a, a = tA T n p := ⟨_, rfl⟩
  have hpa : p ≤ a := by rw [ha]; exact h1.1
  have han : a ≤ n := by rw [ha]; exact h1.2.1
  rw [← ha]
  refine ⟨hpa, ?_⟩
  unfold tQ tC
  by_cases c : n ≤ a
  · rw [if_pos c, if_pos c]
    exact ⟨Nat.le_refl _, han, fun h => absurd rfl h⟩
  · rw [if_neg c, if_neg c]
    have e1 := rn_ok (f := fun k => isL (T k)) han
    have e2 := rn_ok (f := fun k => isD (T k)) han
    cases hL : isL (T a) with
    | true =>
      have : tL T n a ≠ a := fun e => by
        have h4 := e1.2.2.2
        have e' : rn (fun k => isL (T k)) n a = a := e
        rw [e'] at h4
        have : isL (T a) = false := h4 (by omega)
        rw [hL] at this; cases this
      have l1 : a ≤ tL T n a := e1.1
      have l2 : tL T n a ≤ n := e1.2.1
      simp only [if_true]
      exact ⟨l1, l2, fun _ => by omega⟩
    | false =>
      cases hD : isD (T a) with
      | true =>
        have : tD T n a ≠ a := fun e => by
          have h4 := e2.2.2.2
          have e' : rn (fun k => isD (T k)) n a = a := e
          rw [e'] at h4
          have : isD (T a) = false := h4 (by omega)
          rw [hD] at this; cases this
        have l1 : a ≤ tD T n a := e2.1
        have l2 : tD T n a ≤ n := e2.2.1
        simp only [if_true, Bool.false_eq_true, if_false]
        exact ⟨l1, l2, fun _ => by omega⟩
      | false =>
        simp only [Bool.false_eq_true, if_false]
        cases ht : two (sgt (T a) (sg T n (a + 1))) with
        | false =>
          simp only [Bool.false_eq_true, if_false]
          exact ⟨by omega, by omega, fun _ => by omega⟩
        | true =>
          simp only [if_true]
          have : a + 1 < n := by
            apply Nat.lt_of_not_le
            intro hc
            have hs : sg T n (a + 1) = 0 := by unfold sg; rw [if_neg (by omega)]
            rw [hs] at ht
            have hF : ∀ t : Fin 256, two (sgt t.1 0) = false := by decide +kernel
            rw [hF ⟨T a, hT a⟩] at ht; cases ht
          exact ⟨by omega, by omega, fun _ => by omega⟩
