/-! a day goes by: bills paid -/
theorem c_paysR {H : Nat → Bool} {bk pt b su dn dy nk nh nw kn h : Nat} {I M : MI} {J2 : MJ} (hb : b ≤ 1) (B : BookR bk I M nk nh nw kn) (P : PsR H bk I pt M J2 b su dn dy nk nh) (hh : h < nh) (hH : H h = false) : Ev (f_X11_pays M (Int32.ofNat b) (Int32.ofNat h)) (fun c => (∃ su', PsR H bk I pt c J2 b su' dn dy nk nh ∧ ∀ j, j < 6 → j ≠ h → su'.testBit j = su.testBit j) ∧ FrP pt b I I M c J2 J2) := by
  have lh := B.lh
  obtain ⟨M', e, h1, h2, h3, h4⟩ := m_pays hb (show h < 6 by omega) P.tw.sl P.s2
  have ho := or_p ⟨su, P.tw.sl⟩ ⟨h, by omega⟩
  simp only at ho
  obtain ⟨su', hsu'⟩ : ∃ su', su' = (if (0 : Int32) ≤ M 26 (6 * b + h) + M 11 h - M 27 (6 * b + h) then su else su ||| 2 ^ h) := ⟨_, rfl⟩
  rw [← hsu'] at h4
  have hl : su' < 64 := by
    rw [hsu']
    split
    · exact P.tw.sl
    · exact ho.2.1
  have hbit : ∀ j, j < 6 → j ≠ h → su'.testBit j = su.testBit j := fun j hj hne => by
    rw [hsu']
    split
    · rfl
    · rw [ho.2.2 ⟨j, hj⟩, decide_eq_false hne, Bool.or_false]
  have hrow : ∀ p k, p ≠ 26 → p ≠ 27 → p ≠ 31 → M' p k = M p k := fun p k a c d => h1 p k (by omega) (by omega) (by omega)
  refine ⟨M', e, ⟨su', ⟨?_, h4, ?_, ?_, ?_, ?_, ?_, ?_, P.nu, P.n0⟩, hbit⟩, fun _ _ => rfl, fun p k a c d => h1 p k (fun e => c ⟨by omega, by omega, by omega, by omega⟩) (fun e => c ⟨by omega, by omega, by omega, by omega⟩) (fun e => d ⟨by omega, by omega, e.2⟩), fun _ _ _ _ => rfl⟩
  · rw [hrow 34 b (by omega) (by omega) (by omega), hrow 33 b (by omega) (by omega) (by omega)]
    refine P.tw.cg (fun h' a c => ?_) hl (fun j a c => ?_) (fun k' a => hrow 30 _ (by omega) (by omega) (by omega))
    · have hne : h' ≠ h := fun e => by rw [e, hH] at c; cases c
      exact ⟨h1 26 _ (by omega) (by omega) (by omega), h1 27 _ (by omega) (by omega) (by omega), hrow 28 _ (by omega) (by omega) (by omega), hrow 29 _ (by omega) (by omega) (by omega), hbit h' (by omega) hne⟩
    · rw [hbit j c (by omega)]; exact P.tw.sz j a c
  · rw [hrow 32 b (by omega) (by omega) (by omega)]; exact P.d2
  · rw [hrow 35 b (by omega) (by omega) (by omega)]; exact P.y2
  · rw [hrow 0 63 (by omega) (by omega) (by omega)]; exact P.f1
  · rw [hrow 0 64 (by omega) (by omega) (by omega)]; exact P.f2
  · rw [hrow 0 65 (by omega) (by omega) (by omega)]; exact P.f3
  · rw [hrow 0 66 (by omega) (by omega) (by omega)]; exact P.f4
theorem c_pays {H : Nat → Bool} {bk pt b su dn dy nk nh nw kn h : Nat} {I M : MI} {J2 : MJ} (hbk : bk = 2 ∨ bk = 18) (hpt : 38 ≤ pt) (hpt2 : pt ≤ 46) (hb : b ≤ 1) (B : BookR bk I M nk nh nw kn) (P : PsR H bk I pt M J2 b su dn dy nk nh) (hh : h < nh) (hH : H h = true) (hs : su.testBit h = false) : Ev2 (f_X1_pay I bk pt (Int32.ofNat h)) (f_X11_pays M (Int32.ofNat b) (Int32.ofNat h)) (fun a c => (∃ su', PsR H bk a pt c J2 b su' dn dy nk nh ∧ ∀ j, j < 6 → j ≠ h → su'.testBit j = su.testBit j) ∧ FrP pt b I a M c J2 J2) := by
  have lh := B.lh
  obtain ⟨M', e, h1, h2, h3, h4⟩ := m_pays hb (show h < 6 by omega) P.tw.sl P.s2
  have ho := or_p ⟨su, P.tw.sl⟩ ⟨h, by omega⟩
  simp only at ho
  have t1 := P.tw.pu h hh hH
  have t2 := P.tw.bi h hh hH
  have t3 := P.tw.us h hh hH
  have t4 := P.tw.lo h hh hH
  have pb := P.tw.pb h hh hH
  have bb := P.tw.bb h hh hH
  have hr := B.er hh
  have pe := p_pay (bk := bk) (pt := pt) (I := I) (show h < 6 by omega)
  obtain ⟨y, hy⟩ : ∃ y, y = M 26 (6 * b + h) + M 11 h - M 27 (6 * b + h) := ⟨_, rfl⟩
  have hy2 : I (pt + 1) h + I (bk + 7) h - I (pt + 2) h = y := by
    rw [hy, t1, t2, hr.2.1, hr.2.2]
  rw [hy2] at pe
  rw [← hy] at h2 h4
  have hyi : y.toInt = (M 26 (6 * b + h)).toInt + (ner bk I h : Int) - (M 27 (6 * b + h)).toInt := by
    have e1 := n_toInt (n := ner bk I h) (by omega)
    have p1 := pb.2.2 hs
    have e2 : (M 26 (6 * b + h) + M 11 h).toInt = (M 26 (6 * b + h)).toInt + (ner bk I h : Int) := by
      rw [hr.2.2, i_add (by omega) (by omega), e1]
    rw [hy, i_sub (by omega) (by omega), e2]
  have hm : imin 99999 y = (if y ≤ 99999 then y else 99999) := by
    unfold imin
    by_cases c : y < 99999
    · have c2 : y ≤ 99999 := by
        rw [Int32.lt_iff_toInt_lt] at c
        rw [Int32.le_iff_toInt_le]; omega
      rw [if_pos c, if_pos c2]
    · rw [if_neg c]
      by_cases c2 : y ≤ 99999
      · rw [if_pos c2]
        rw [Int32.lt_iff_toInt_lt] at c
        rw [Int32.le_iff_toInt_le] at c2
        exact Int32.toInt.inj (by omega)
      · rw [if_neg c2]
  obtain ⟨su', hsu'⟩ : ∃ su', su' = (if (0 : Int32) ≤ y then su else su ||| 2 ^ h) := ⟨_, rfl⟩
  rw [← hsu'] at h4
  have hl : su' < 64 := by
    rw [hsu']
    split
    · exact P.tw.sl
    · exact ho.2.1
  have hbit : ∀ j, j < 6 → j ≠ h → su'.testBit j = su.testBit j := fun j hj hne => by
    rw [hsu']
    split
    · rfl
    · rw [ho.2.2 ⟨j, hj⟩, decide_eq_false hne, Bool.or_false]
  have hsh : su'.testBit h = !decide ((0 : Int32) ≤ y) := by
    rw [hsu']
    split
    · next c => rw [hs, decide_eq_true c]; rfl
    · next c => rw [ho.2.2 ⟨h, by omega⟩, decide_eq_false c, decide_eq_true rfl, Bool.or_true]; rfl
  have hrow : ∀ p k, p ≠ 26 → p ≠ 27 → p ≠ 31 → M' p k = M p k := fun p k a c d => h1 p k (by omega) (by omega) (by omega)
  obtain ⟨I', hI'⟩ : ∃ I', I' = st2 (st2 (st2 I (pt + 1) h (imin 99999 y)) (pt + 2) h 0) (pt + 5) h (if (0 : Int32) ≤ y then 0 else 1) := ⟨_, rfl⟩
  rw [← hI'] at pe
  have hne : ∀ p, p ≠ pt + 1 → p ≠ pt + 2 → p ≠ pt + 5 → I' p = I p := fun p a c d => by
    rw [hI', st2_ne d, st2_ne c, st2_ne a]
  have hx : ∀ (N : MI) (p' k' : Nat) (v : Int32) p x, x ≠ k' → st2 N p' k' v p x = N p x := fun N p' k' v p x hx => by
    by_cases e : p = p'
    · subst e; rw [st2_at, if_neg hx]
    · rw [st2_ne e]
  have hxx : ∀ p x, x ≠ h → I' p x = I p x := fun p x hp => by
    rw [hI', hx _ _ _ _ _ _ hp, hx _ _ _ _ _ _ hp, hx _ _ _ _ _ _ hp]
  have e5 : I' (pt + 5) h = (if (0 : Int32) ≤ y then 0 else 1) := by rw [hI', st2_at, if_pos rfl]
  have e9 : (99999 : Int32).toInt = 99999 := rfl
  refine ⟨I', M', pe, e, ⟨su', ⟨?_, h4, ?_, ?_, ?_, ?_, ?_, ?_, ?_, ?_⟩, hbit⟩, fun p hp => hne p (by omega) (by omega) (by omega), fun p k a c d => h1 p k (fun e => c ⟨by omega, by omega, by omega, by omega⟩) (fun e => c ⟨by omega, by omega, by omega, by omega⟩) (fun e => d ⟨by omega, by omega, e.2⟩), fun _ _ _ _ => rfl⟩
  · rw [hrow 34 b (by omega) (by omega) (by omega), hrow 33 b (by omega) (by omega) (by omega)]
    have hti : (fun k => M' 30 (6 * b + k)) = (fun k => M 30 (6 * b + k)) := funext (fun k => hrow 30 _ (by omega) (by omega) (by omega))
    rw [hti]
    refine P.tw.up hh lh (fun q' x hx' => hxx _ x hx') (hne pt (by omega) (by omega) (by omega)) (hne (pt + 6) (by omega) (by omega) (by omega)) (hne (pt + 7) (by omega) (by omega) (by omega)) (fun h' a c => ⟨h1 26 _ (by omega) (by omega) (by omega), h1 27 _ (by omega) (by omega) (by omega), hrow 28 _ (by omega) (by omega) (by omega), hrow 29 _ (by omega) (by omega) (by omega), hbit h' (by omega) c⟩) hl (fun j a c => ?_) ?_ (fun hH' => ⟨?_, ?_, ?_, ?_, ?_, ⟨?_, ?_, ?_⟩, ?_, ?_⟩)
    · rw [hbit j c (by omega)]; exact P.tw.sz j a c
    · rw [e5]; split <;> rfl
    · rw [h2, ← hm, hI', st2_ne (by omega), st2_ne (by omega), st2_at, if_pos rfl]
    · rw [h3, hI', st2_ne (by omega), st2_at, if_pos rfl]
    · rw [hrow 28 _ (by omega) (by omega) (by omega), hne (pt + 3) (by omega) (by omega) (by omega)]; exact t3
    · rw [hrow 29 _ (by omega) (by omega) (by omega), hne (pt + 4) (by omega) (by omega) (by omega)]; exact t4
    · rw [e5, hsh]
      by_cases c : (0 : Int32) ≤ y
      · rw [if_pos c, decide_eq_true c]; rfl
      · rw [if_neg c, decide_eq_false c]; rfl
    · rw [h2]
      have p1 := pb.2.2 hs
      split
      · omega
      · omega
    · rw [h2]
      split
      · next c => rw [Int32.le_iff_toInt_le] at c; omega
      · omega
    · intro hsf
      rw [hsh] at hsf
      have c : (0 : Int32) ≤ y := by
        by_cases c : (0 : Int32) ≤ y
        · exact c
        · rw [decide_eq_false c] at hsf; cases hsf
      rw [Int32.le_iff_toInt_le, z0] at c
      rw [h2]
      split
      · exact c
      · omega
    · rw [h3]; decide
    · rw [hrow 28 _ (by omega) (by omega) (by omega)]; exact P.tw.ub h hh hH
  · rw [hrow 32 b (by omega) (by omega) (by omega)]; exact P.d2
  · rw [hrow 35 b (by omega) (by omega) (by omega)]; exact P.y2
  · rw [hrow 0 63 (by omega) (by omega) (by omega), hne 62 (by omega) (by omega) (by omega)]; exact P.f1
  · rw [hrow 0 64 (by omega) (by omega) (by omega), hne 62 (by omega) (by omega) (by omega)]; exact P.f2
  · rw [hrow 0 65 (by omega) (by omega) (by omega), hne 62 (by omega) (by omega) (by omega)]; exact P.f3
  · rw [hrow 0 66 (by omega) (by omega) (by omega), hne 62 (by omega) (by omega) (by omega)]; exact P.f4
  · rw [hne pt (by omega) (by omega) (by omega)]; exact P.nu
  · rw [hne pt (by omega) (by omega) (by omega)]; exact P.n0
