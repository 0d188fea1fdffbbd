/-! a day goes by: house by house -/
theorem TwR.cg {H : Nat → Bool} {I : MI} {pt : Nat} {pu bi us lo ti pu' bi' us' lo' ti' : Nat → Int32} {su su' dn dy : Nat} {du se : Int32} {nk nh : Nat} (T : TwR H I pt pu bi us lo ti su dn dy du se nk nh) (hh : ∀ h, h < nh → H h = true → pu' h = pu h ∧ bi' h = bi h ∧ us' h = us h ∧ lo' h = lo h ∧ su'.testBit h = su.testBit h) (hs : su' < 64) (hz : ∀ h, nh ≤ h → h < 6 → su'.testBit h = false) (ht : ∀ k, k < 6 → ti' k = ti k) : TwR H I pt pu' bi' us' lo' ti' su' dn dy du se nk nh :=
  ⟨fun h a b => (T.pu h a b).trans (hh h a b).1.symm, fun h a b => (T.bi h a b).trans (hh h a b).2.1.symm, fun h a b => (T.us h a b).trans (hh h a b).2.2.1.symm, fun h a b => (T.lo h a b).trans (hh h a b).2.2.2.1.symm, fun h a b => by rw [(hh h a b).2.2.2.2]; exact T.so h a b, T.dw, T.z5, T.z6, T.ze, hs, hz, T.dl, fun k a => (T.ti k a).trans (ht k a).symm, T.du, T.y1, T.se, T.sx, fun h a b => by rw [(hh h a b).1, (hh h a b).2.2.2.2]; exact T.pb h a b, fun h a b => by rw [(hh h a b).2.1]; exact T.bb h a b, fun h a b => by rw [(hh h a b).2.2.1]; exact T.ub h a b⟩
/-- all rows of the component's town as they were but at one house -/
theorem TwR.up {H : Nat → Bool} {I I' : MI} {pt : Nat} {pu bi us lo ti pu' bi' us' lo' : Nat → Int32} {su su' dn dy : Nat} {du se : Int32} {nk nh h0 : Nat} (T : TwR H I pt pu bi us lo ti su dn dy du se nk nh) (h0n : h0 < nh) (hn6 : nh ≤ 6) (hI : ∀ q h, h ≠ h0 → I' (pt + q) h = I (pt + q) h) (hI0 : I' pt = I pt) (hI6 : I' (pt + 6) = I (pt + 6)) (hI7 : I' (pt + 7) = I (pt + 7)) (hh : ∀ h, h < nh → h ≠ h0 → pu' h = pu h ∧ bi' h = bi h ∧ us' h = us h ∧ lo' h = lo h ∧ su'.testBit h = su.testBit h) (hs : su' < 64) (hz : ∀ h, nh ≤ h → h < 6 → su'.testBit h = false) (h5 : is01 (I' (pt + 5) h0) = true)
    (hat : H h0 = true → I' (pt + 1) h0 = pu' h0 ∧ I' (pt + 2) h0 = bi' h0 ∧ I' (pt + 3) h0 = us' h0 ∧ I' (pt + 4) h0 = lo' h0 ∧ I' (pt + 5) h0 = (if su'.testBit h0 then 1 else 0) ∧ (-99999 ≤ (pu' h0).toInt ∧ (pu' h0).toInt ≤ 99999 ∧ (su'.testBit h0 = false → 0 ≤ (pu' h0).toInt)) ∧ (-99999 ≤ (bi' h0).toInt ∧ (bi' h0).toInt ≤ 99999) ∧ (0 ≤ (us' h0).toInt ∧ (us' h0).toInt ≤ 99999)) : TwR H I' pt pu' bi' us' lo' ti su' dn dy du se nk nh := by
  refine ⟨fun h a b => ?_, fun h a b => ?_, fun h a b => ?_, fun h a b => ?_, fun h a b => ?_, fun h a b => ?_, fun h a => ?_, fun h a => ?_, fun h a b => ?_, hs, hz, T.dl, fun k a => ?_, ?_, ?_, ?_, T.sx, fun h a b => ?_, fun h a b => ?_, fun h a b => ?_⟩
  · by_cases e : h = h0
    · subst e; exact (hat b).1
    · rw [hI 1 h e, (hh h a e).1]; exact T.pu h a b
  · by_cases e : h = h0
    · subst e; exact (hat b).2.1
    · rw [hI 2 h e, (hh h a e).2.1]; exact T.bi h a b
  · by_cases e : h = h0
    · subst e; exact (hat b).2.2.1
    · rw [hI 3 h e, (hh h a e).2.2.1]; exact T.us h a b
  · by_cases e : h = h0
    · subst e; exact (hat b).2.2.2.1
    · rw [hI 4 h e, (hh h a e).2.2.2.1]; exact T.lo h a b
  · by_cases e : h = h0
    · subst e; exact (hat b).2.2.2.2.1
    · rw [hI 5 h e, (hh h a e).2.2.2.2]; exact T.so h a b
  · rw [hI6]; exact T.dw h a b
  · by_cases e : h = h0
    · subst e; exact h5
    · rw [hI 5 h e]; exact T.z5 h a
  · rw [hI6]; exact T.z6 h a
  · have e : h ≠ h0 := by omega
    rw [hI 1 h e, hI 2 h e, hI 3 h e, hI 4 h e, hI 5 h e, hI 6 h e]
    exact T.ze h a b
  · rw [hI7]; exact T.ti k a
  · rw [hI0]; exact T.du
  · rw [hI0]; exact T.y1
  · rw [hI0]; exact T.se
  · by_cases e : h = h0
    · subst e; exact (hat b).2.2.2.2.2.1
    · rw [(hh h a e).1, (hh h a e).2.2.2.2]; exact T.pb h a b
  · by_cases e : h = h0
    · subst e; exact (hat b).2.2.2.2.2.2.1
    · rw [(hh h a e).2.1]; exact T.bb h a b
  · by_cases e : h = h0
    · subst e; exact (hat b).2.2.2.2.2.2.2
    · rw [(hh h a e).2.2.1]; exact T.ub h a b
/-- a look of the model alone, at a house that is not followed -/
theorem c_looksR {H : Nat → Bool} {bk pt b su dn dy nk nh nw kn h k : Nat} {I M : MI} {J2 : MJ} (hb : b ≤ 1) (B : BookR bk I M nk nh nw kn) (L : LawR bk I M) (P : PsR H bk I pt M J2 b su dn dy nk nh) (hh : h < nh) (hk : k < nk) (hH : H h = false) : Ev (f_X11_looks M J2 (Int32.ofNat b) (Int32.ofNat h) (Int32.ofNat k)) (fun c => PsR H bk I pt c.1 c.2 b su dn dy nk nh ∧ FrP pt b I I M c.1 J2 c.2) := by
  have lh := B.lh
  have lk := B.lk
  refine Ev_mono (m_looks (J := J2) L hb (show h < 6 by omega) (show k < 6 by omega)) ?_
  rintro ⟨M', J'⟩ ⟨h1, h2, _⟩
  have h1 : FLq (6 * b + h) M M' := h1
  have h2 : ∀ p, p ≠ 24 → p ≠ 25 → J' p = J2 p := h2
  have hrow : ∀ p, p ≠ 0 → ¬ (27 ≤ p ∧ p < 30) → M' p = M p := fun p a b => h1.row a b
  refine ⟨⟨?_, ?_, ?_, ?_, ?_, ?_, ?_, ?_, ?_, P.n0⟩, fun _ _ => rfl, fun p k a c d => h1 p k a (fun e => ?_), fun p k a c => ?_⟩
  · show TwR H I pt (fun h => M' 26 (6 * b + h)) (fun h => M' 27 (6 * b + h)) (fun h => M' 28 (6 * b + h)) (fun h => M' 29 (6 * b + h)) (fun k => M' 30 (6 * b + k)) su dn dy (M' 34 b) (M' 33 b) nk nh
    rw [hrow 34 (by omega) (by omega), hrow 33 (by omega) (by omega)]
    refine P.tw.cg (fun h' a c => ?_) P.tw.sl P.tw.sz (fun k' a => ?_)
    · have hne : h' ≠ h := fun e => by rw [e, hH] at c; cases c
      refine ⟨h1 26 _ (by omega) (by omega), h1 27 _ (by omega) (by omega), h1 28 _ (by omega) (by omega), h1 29 _ (by omega) (by omega), rfl⟩
    · exact h1 30 _ (by omega) (by omega)
  · show M' 31 b = _; rw [hrow 31 (by omega) (by omega)]; exact P.s2
  · show M' 32 b = _; rw [hrow 32 (by omega) (by omega)]; exact P.d2
  · show M' 35 b = _; rw [hrow 35 (by omega) (by omega)]; exact P.y2
  · show _ = M' 0 63; rw [h1 0 63 (by omega) (by omega)]; exact P.f1
  · show _ = M' 0 64; rw [h1 0 64 (by omega) (by omega)]; exact P.f2
  · show _ = M' 0 65; rw [h1 0 65 (by omega) (by omega)]; exact P.f3
  · show _ = M' 0 66; rw [h1 0 66 (by omega) (by omega)]; exact P.f4
  · show J' 0 62 = _; rw [h2 0 (by decide) (by decide)]; exact P.nu
  · exact c ⟨by omega, by omega, by omega, by omega⟩
  · show J' p k = _; rw [h2 p a c]
theorem clp_bd {x : Int64} : -99999 ≤ (clp x (-99999) 99999).toInt ∧ (clp x (-99999) 99999).toInt ≤ 99999 := by
  have e1 : (-99999 : Int32).toInt = -99999 := rfl
  have e2 : (99999 : Int32).toInt = 99999 := rfl
  rw [clp_eq (by decide)]
  split
  · next c1 =>
    split
    · next c2 =>
      rw [Int64.le_iff_toInt_le, Int32.toInt_toInt64, e1] at c1
      rw [Int64.le_iff_toInt_le, Int32.toInt_toInt64, e2] at c2
      have : (x.toInt32).toInt = x.toInt := by
        rw [Int64.toInt_toInt32]; exact Int.bmod_eq_of_le (by omega) (by omega)
      omega
    · omega
  · omega
theorem imin_bd {x : Int32} (h : 0 ≤ x.toInt) : 0 ≤ (imin 99999 x).toInt ∧ (imin 99999 x).toInt ≤ 99999 := by
  have e2 : (99999 : Int32).toInt = 99999 := rfl
  unfold imin
  split
  · next c => rw [Int32.lt_iff_toInt_lt] at c; omega
  · omega
/-- a look of both, at a house that is followed -/
theorem c_looks {H : Nat → Bool} {bk pt b su dn dy nk nh nw kn h k : Nat} {I M : MI} {J J2 : MJ} (hbk : bk = 2 ∨ bk = 18) (hpt : 38 ≤ pt) (hpt2 : pt ≤ 46) (hb : b ≤ 1) (B : BookR bk I M nk nh nw kn) (L : LawR bk I M) (P : PsR H bk I pt M J2 b su dn dy nk nh) (hh : h < nh) (hk : k < nk) (hH : H h = true) : Ev2 (f_X1_look I J bk pt (Int32.ofNat h) (Int32.ofNat k)) (f_X11_looks M J2 (Int32.ofNat b) (Int32.ofNat h) (Int32.ofNat k)) (fun a c => PsR H bk a.1 pt c.1 c.2 b su dn dy nk nh ∧ FrP pt b I a.1 M c.1 J2 c.2) := by
  have lh := B.lh
  have lk := B.lk
  obtain ⟨⟨I', J'⟩, e1, hI'⟩ := p_look (J := J) hbk hpt hpt2 L (show h < 6 by omega) (show k < 6 by omega)
  obtain ⟨⟨M', J2'⟩, e2, h1, h2, h3⟩ := m_looks (J := J2) L hb (show h < 6 by omega) (show k < 6 by omega)
  have h1 : FLq (6 * b + h) M M' := h1
  have h2 : ∀ p, p ≠ 24 → p ≠ 25 → J2' p = J2 p := h2
  have hew : wM M k = wF bk I k := by
    unfold wM wF
    rw [P.f2, (B.wo hk).2.1, (B.wo hk).2.2]
  have hee : eM M h = eF bk I h := by
    unfold eM eF
    rw [P.f3, (B.ea hh).2.1, (B.ea hh).2.2]
  have heb : 0 ≤ (eM M h).toInt ∧ (eM M h).toInt ≤ 99 := by
    unfold eM
    split
    · have := (B.ea hh).1
      rw [(B.ea hh).2.2, n_toInt (by omega)]; omega
    · decide
  have t1 := P.tw.pu h hh hH
  have t2 := P.tw.bi h hh hH
  have t3 := P.tw.us h hh hH
  have t4 := P.tw.lo h hh hH
  have tu := P.tw.ub h hh hH
  have hg : M 7 k = I (bk + 3) k := by rw [(B.wg hk).2.1, (B.wg hk).2.2]
  have hd : M 35 b = I pt 8 := by rw [P.y2, P.tw.y1]
  have h3 := h3 tu.1 tu.2 heb.1 heb.2
  rw [hew, hee, hg, hd, ← t1, ← t2, ← t3] at h3
  have hrow : ∀ p, p ≠ 0 → ¬ (27 ≤ p ∧ p < 30) → M' p = M p := fun p a b => h1.row a b
  refine ⟨_, _, e1, e2, ?_, ?_⟩
  · have hI' : I' = match lkB (lawv bk I M) (wF bk I k) (eF bk I h) (I (pt + 1) h) (I (pt + 2) h) (I (pt + 3) h) (I (bk + 3) k) (I pt 8) with
      | none => I
      | some q => st2 (st2 (st2 I (pt + 4) h (I (pt + 4) h + 1)) (pt + 3) h q.1) (pt + 2) h q.2 := hI'
    have hrest : (∀ p, ¬ (pt + 2 ≤ p ∧ p ≤ pt + 4) → I' p = I p) ∧ (∀ p x, x ≠ h → I' p x = I p x) ∧ TwR H I' pt (fun h => M' 26 (6 * b + h)) (fun h => M' 27 (6 * b + h)) (fun h => M' 28 (6 * b + h)) (fun h => M' 29 (6 * b + h)) (fun k => M' 30 (6 * b + k)) su dn dy (M' 34 b) (M' 33 b) nk nh := by
      rw [hrow 34 (by omega) (by omega), hrow 33 (by omega) (by omega)]
      have hti : (fun k => M' 30 (6 * b + k)) = (fun k => M 30 (6 * b + k)) := by rw [hrow 30 (by omega) (by omega)]
      have hpu : (fun h => M' 26 (6 * b + h)) = (fun h => M 26 (6 * b + h)) := by rw [hrow 26 (by omega) (by omega)]
      rw [hti, hpu]
      cases hq : lkB (lawv bk I M) (wF bk I k) (eF bk I h) (I (pt + 1) h) (I (pt + 2) h) (I (pt + 3) h) (I (bk + 3) k) (I pt 8) with
      | none =>
        rw [hq] at hI' h3
        have hI' : I' = I := hI'
        have h3 : M' 29 (6 * b + h) = M 29 (6 * b + h) ∧ M' 28 (6 * b + h) = I (pt + 3) h ∧ M' 27 (6 * b + h) = I (pt + 2) h := h3
        rw [hI']
        refine ⟨fun _ _ => rfl, fun _ _ _ => rfl, P.tw.cg (fun h' a c => ?_) P.tw.sl P.tw.sz (fun _ _ => rfl)⟩
        refine ⟨rfl, ?_, ?_, ?_, rfl⟩
        · by_cases e : h' = h
          · rw [e]; exact h3.2.2.trans t2
          · exact h1 27 _ (by omega) (by omega)
        · by_cases e : h' = h
          · rw [e]; exact h3.2.1.trans t3
          · exact h1 28 _ (by omega) (by omega)
        · by_cases e : h' = h
          · rw [e]; exact h3.1
          · exact h1 29 _ (by omega) (by omega)
      | some q =>
        rw [hq] at hI' h3
        have hI' : I' = st2 (st2 (st2 I (pt + 4) h (I (pt + 4) h + 1)) (pt + 3) h q.1) (pt + 2) h q.2 := hI'
        have h3 : M' 29 (6 * b + h) = M 29 (6 * b + h) + 1 ∧ M' 28 (6 * b + h) = q.1 ∧ M' 27 (6 * b + h) = q.2 := h3
        have hne : ∀ p, ¬ (pt + 2 ≤ p ∧ p ≤ pt + 4) → I' p = I p := fun p hp => by
          rw [hI', st2_ne (by omega), st2_ne (by omega), st2_ne (by omega)]
        have hx : ∀ (N : MI) (p' k' : Nat) (v : Int32) p x, x ≠ k' → st2 N p' k' v p x = N p x := fun N p' k' v p x hx => by
          by_cases e : p = p'
          · subst e; rw [st2_at, if_neg hx]
          · rw [st2_ne e]
        have hxx : ∀ p x, x ≠ h → I' p x = I p x := fun p x hp => by
          rw [hI', hx _ _ _ _ _ _ hp, hx _ _ _ _ _ _ hp, hx _ _ _ _ _ _ hp]
        refine ⟨hne, hxx, ?_⟩
        have hqb : (-99999 ≤ q.2.toInt ∧ q.2.toInt ≤ 99999) ∧ (0 ≤ q.1.toInt ∧ q.1.toInt ≤ 99999) := by
          unfold lkB at hq
          by_cases c : lawv bk I M 0 (nmF (wF bk I k) (eF bk I h) (I (pt + 1) h) (I (pt + 2) h) (I (pt + 3) h) (I (bk + 3) k) (I pt 8)) = 0
          · rw [if_pos c] at hq; cases hq
          · rw [if_neg c] at hq
            have hq := Option.some.inj hq
            rw [← hq]
            refine ⟨clp_bd, imin_bd ?_⟩
            have hu := bl_use (v := lawv bk I M 1 (nmF (wF bk I k) (eF bk I h) (I (pt + 1) h) (I (pt + 2) h) (I (pt + 3) h) (I (bk + 3) k) (I pt 8))) (e := eF bk I h) (by rw [← hee]; exact heb)
            have tu1 : 0 ≤ (I (pt + 3) h).toInt ∧ (I (pt + 3) h).toInt ≤ 99999 := by rw [t3]; exact tu
            rw [i_add (by omega) (by omega)]; omega
        refine P.tw.up hh lh (fun q' x hx' => hxx _ x hx') (hne pt (by omega)) (hne (pt + 6) (by omega)) (hne (pt + 7) (by omega)) (fun h' a c => ⟨rfl, h1 27 _ (by omega) (by omega), h1 28 _ (by omega) (by omega), h1 29 _ (by omega) (by omega), rfl⟩) P.tw.sl P.tw.sz ?_ (fun hH' => ⟨?_, ?_, ?_, ?_, ?_, ?_, ?_, ?_⟩)
        · rw [hne (pt + 5) (by omega)]; exact P.tw.z5 h (by omega)
        · rw [hne (pt + 1) (by omega)]; exact t1
        · rw [h3.2.2, hI', st2_at, if_pos rfl]
        · rw [h3.2.1, hI', st2_ne (by omega), st2_at, if_pos rfl]
        · rw [h3.1, hI', st2_ne (by omega), st2_ne (by omega), st2_at, if_pos rfl, t4]
        · rw [hne (pt + 5) (by omega)]; exact P.tw.so h hh hH
        · exact P.tw.pb h hh hH
        · rw [h3.2.2]; exact hqb.1
        · rw [h3.2.1]; exact hqb.2
    refine ⟨hrest.2.2, ?_, ?_, ?_, ?_, ?_, ?_, ?_, ?_, ?_⟩
    · show M' 31 b = _; rw [hrow 31 (by omega) (by omega)]; exact P.s2
    · show M' 32 b = _; rw [hrow 32 (by omega) (by omega)]; exact P.d2
    · show M' 35 b = _; rw [hrow 35 (by omega) (by omega)]; exact P.y2
    · show I' 62 1 = M' 0 63; rw [h1 0 63 (by omega) (by omega), hrest.1 62 (by omega)]; exact P.f1
    · show I' 62 2 = M' 0 64; rw [h1 0 64 (by omega) (by omega), hrest.1 62 (by omega)]; exact P.f2
    · show I' 62 3 = M' 0 65; rw [h1 0 65 (by omega) (by omega), hrest.1 62 (by omega)]; exact P.f3
    · show I' 62 4 = M' 0 66; rw [h1 0 66 (by omega) (by omega), hrest.1 62 (by omega)]; exact P.f4
    · show J2' 0 62 = (I' pt 10).toInt64; rw [h2 0 (by decide) (by decide), hrest.1 pt (by omega)]; exact P.nu
    · show 0 ≤ (I' pt 10).toInt; rw [hrest.1 pt (by omega)]; exact P.n0
  · refine ⟨fun p hp => ?_, fun p k a c d => h1 p k a (fun e => ?_), fun p k a c => ?_⟩
    · have hI' : I' = match lkB (lawv bk I M) (wF bk I k) (eF bk I h) (I (pt + 1) h) (I (pt + 2) h) (I (pt + 3) h) (I (bk + 3) k) (I pt 8) with
        | none => I
        | some q => st2 (st2 (st2 I (pt + 4) h (I (pt + 4) h + 1)) (pt + 3) h q.1) (pt + 2) h q.2 := hI'
      show I' p = I p
      rw [hI']
      split
      · rfl
      · rw [st2_ne (by omega), st2_ne (by omega), st2_ne (by omega)]
    · exact c ⟨by omega, by omega, by omega, by omega⟩
    · show J2' p k = _; rw [h2 p a c]
