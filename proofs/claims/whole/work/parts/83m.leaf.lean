/-! reading a law: a value, both sides -/
theorem opn_c0 (W : List Nat) : opn (0 :: W) = opn W + 1 ∧ nn (0 :: W) = nn W ∧ bn (0 :: W) = bn W ∧ rkl (0 :: W) = 0 := ⟨by show (if 0 = 0 then 1 else 0) + opn W = _; rw [if_pos rfl]; omega, by show (if 0 = 0 then 0 else 1) + nn W = _; rw [if_pos rfl]; omega, by show (if 3 ≤ 0 then 1 else 0) + bn W = _; rw [if_neg (by omega)]; omega, rfl⟩
theorem opn_c2 (W : List Nat) : opn (2 :: W) = opn W ∧ nn (2 :: W) = nn W + 1 ∧ bn (2 :: W) = bn W ∧ rkl (2 :: W) = 3 := ⟨by show (if 2 = 0 then 1 else 0) + opn W = _; rw [if_neg (by omega)]; omega, by show (if 2 = 0 then 0 else 1) + nn W = _; rw [if_neg (by omega)]; omega, by show (if 3 ≤ 2 then 1 else 0) + bn W = _; rw [if_neg (by omega)]; omega, rfl⟩
theorem opn_c3 {w : Nat} (W : List Nat) (h : 3 ≤ w) : opn (w :: W) = opn W ∧ nn (w :: W) = nn W + 1 ∧ bn (w :: W) = bn W + 1 ∧ rkl (w :: W) = rk w := ⟨by show (if w = 0 then 1 else 0) + opn W = _; rw [if_neg (by omega)]; omega, by show (if w = 0 then 0 else 1) + nn W = _; rw [if_neg (by omega)]; omega, by show (if 3 ≤ w then 1 else 0) + bn W = _; rw [if_pos h]; omega, rfl⟩
theorem gr_x {M M' : MI} {x h q j : Nat} {k a b : Int32} (he : M' q j = M q j) : gr M' x h k a b q j = gr M x h k a b q j := by
  by_cases c1 : q = 0 ∧ j = 21
  · obtain ⟨rfl, rfl⟩ := c1; rw [gr_21a, gr_21a]
  by_cases c2 : q = 0 ∧ j = 44
  · obtain ⟨rfl, rfl⟩ := c2; rw [gr_44, gr_44]
  by_cases c3 : q = 23 ∧ j = h
  · obtain ⟨rfl, rfl⟩ := c3; rw [gr_23, gr_23]
  by_cases c4 : 19 ≤ q ∧ q ≤ 21 ∧ j = 64 + x
  · obtain ⟨ca, cb, rfl⟩ := c4
    rcases (show q = 19 ∨ q = 20 ∨ q = 21 by omega) with rfl | rfl | rfl
    · rw [gr_19, gr_19]
    · rw [gr_20, gr_20]
    · rw [gr_21, gr_21]
  · rw [gr_ne (by omega) c3 c4, gr_ne (by omega) c3 c4]; exact he
theorem FT.g {dr f : Nat} {I I' : MI} (h : FT I I') : GI dr f I I' := fun q k _ _ c _ _ => h q k (by omega)
theorem c_leaf {dr f n p m c : Nat} {T : Nat → Nat} {I M I1 : MI} {W st : List Nat} (hdr : dr = 2 ∨ dr = 18) (hF : FS dr f I M T n p m W st c true) (f1 : FT I I1) (s1 : Std I1 T n p) : Sout dr f (f_X6_readValue dr I1) (f_X11_leafRead M) I M T n p := by
  obtain ⟨hT, hA, hR, o1, o2, o3, c1, c2, c3, c4, w1, w2, w3⟩ := hF
  rw [if_pos rfl] at w2
  have w3 := w3 rfl
  have hbn := bn_nn W
  have hln := len_on W
  have hcd := qC_le (n := n) (p := p) hT.1
  have hpl : I1 36 5 = M 0 10 := s1.2.1.trans hA.2.1.symm
  have hR1 : FmR dr f I1 M m W st := hR.fr (fun q k h => f1 q k (by omega)) (fun _ _ _ => rfl)
  have o1' : I1 34 3 = Int32.ofNat (opn W) := (f1 _ _ (by omega)).trans o1
  have c1' : I1 (dr + 11) 4 = Int32.ofNat c := (f1 _ _ (by omega)).trans c1
  have hR1' := hR1
  obtain ⟨r1, r2, r3, r4, r5, rW, rH, rP⟩ := hR1'
  have bad : ∀ x : Int32, ∃ I' M', some (false, flI I1 x) = some (false, I') ∧ some (false, flM M x) = some (false, M') ∧ FlR I' M' ∧ GI dr f I I' ∧ GM f M M' := fun x => ⟨_, _, rfl, rfl, fl_R hpl, fun q k a b c d e => by rw [fl_I (by omega), f1 _ _ (by omega)], fun q k a b c d => by rw [fl_M (by omega)]⟩
  by_cases h33 : qC T n p = 33
  · obtain ⟨x, hx, hx1, hv, hxv⟩ := hA.2.2.k3.2 h33
    rw [pv_num (v := qV T n p) (by rw [s1.2.2.1, h33]) (s1.2.2.2 (Or.inl h33)) hv c1' c3 r4 (by omega) hdr, ml_num hA h33 hx (by omega) c2 c3 r5 (by omega) r3 (by omega)]
    by_cases e2 : x ≤ 9999
    · have hvx : qV T n p = x := by omega
      rw [if_pos e2, hvx]
      by_cases e : c = 64
      · rw [if_pos e, if_pos e]; exact Or.inr (bad 2)
      · rw [if_neg e, if_neg e, if_pos e2]
        obtain ⟨Mx, hMx⟩ : ∃ A, A = st2 (gr (st2 M 0 46 (Int32.ofNat (c + 1))) (f + m) st.length 0 (Int32.ofNat x) 0) 0 47 0 := ⟨_, rfl⟩
        rw [← hMx]
        have hMe : ∀ q k, ¬ (q = 0 ∧ (k = 21 ∨ k = 44 ∨ k = 46 ∨ k = 47)) → ¬ (q = 23 ∧ k = st.length) → ¬ (19 ≤ q ∧ q ≤ 21 ∧ k = 64 + (f + m)) → Mx q k = M q k := fun q k a b c => by
          rw [hMx, s2x (by omega), gr_ne (by omega) (by omega) (by omega), s2x (by omega)]
        have hAx : Ahd Mx T n p := hA.to (funext fun k => hMe _ _ (by omega) (by omega) (by omega)) (funext fun k => hMe _ _ (by omega) (by omega) (by omega)) (fun k _ _ => hMe _ _ (by omega) (by omega) (by omega))
        obtain ⟨M', e', f', a'⟩ := m_next hAx.1
        rw [e', bd1_s]
        obtain ⟨I', hI'⟩ : ∃ A, A = st2 (st2 (st2 I1 (dr + 11) 4 (Int32.ofNat (c + 1))) (dr + 12) (f + m) (Int32.ofNat x)) (dr + 11) 5 (Int32.ofNat (f + m + 1)) := ⟨_, rfl⟩
        rw [← hI']
        have hIe : ∀ q k, ¬ (q = dr + 11 ∧ (k = 4 ∨ k = 5)) → ¬ (q = dr + 12 ∧ k = f + m) → I' q k = I1 q k := fun q k a b => by
          rw [hI', s2x (by omega), s2x (by omega), s2x (by omega)]
        refine Or.inl ⟨I', M', m + 1, W, (f + m) :: st, c + 1, rfl, rfl, ⟨s1.1.st (funext fun k => hIe _ _ (by omega) (by omega)) (funext fun k => hIe _ _ (by omega) (by omega)) (fun k _ _ => hIe _ _ (by omega) (by omega)), a', ?_, ?_, ?_, o3, ?_, ?_, by omega, by omega, ?_, ?_, ?_⟩, ?_, by omega, ⟨fun k hk => by rw [hIe _ _ (by omega) (by omega), f1 _ _ (by omega)], by rw [f' _ _ (by omega), hMe _ _ (by omega) (by omega) (by omega)], by rw [f' _ _ (by omega), hMe _ _ (by omega) (by omega) (by omega)]⟩, fun q k a b c d e => ?_, fun q k a b c d => ?_⟩
        · refine hR1.leaf (code := Int32.ofNat x) (k := 0) (a := Int32.ofNat x) (b := 0) (by omega) ?_ (fun j => ?_) (fun q k h => hIe _ _ (by omega) (by omega)) (fun q j h => ?_) (fun C K P O x1 x2 x3 x4 => Or.inl ⟨x, by omega, x1, x2, x3, rfl⟩)
          · rw [hI', st2_at, if_pos rfl]
          · rw [hI', s2x (by omega), st2_at, s2x (by omega)]
          · rw [f' _ _ (by omega), hMx, s2x (by omega)]
            exact gr_x (s2x (by omega))
        · rw [hIe _ _ (by omega) (by omega)]; exact o1'
        · rw [f' _ _ (by omega), hMe _ _ (by omega) (by omega) (by omega)]; exact o2
        · rw [hI', s2x (by omega), s2x (by omega), st2_at, if_pos rfl]
        · rw [f' _ _ (by omega), hMx, s2x (by omega), gr_ne (by omega) (by omega) (by omega), st2_at, if_pos rfl]
        · rw [f' _ _ (by omega), hMx, st2_at, if_pos rfl, h33]; rfl
        · rw [List.length_cons, h33, w2]; rfl
        · intro h; rw [h33] at h; exact absurd h (by decide)
        · rw [hIe _ _ (by omega) (by omega)]; exact s1.2.2.1
        · rw [hIe _ _ (by omega) (by omega), f1 _ _ (by omega)]
        · rw [f' _ _ (by omega), hMe _ _ (by omega) (by omega) (by omega)]
    · rw [if_neg e2, if_neg (show ¬ qV T n p ≤ 9999 by omega)]
      by_cases e : c = 64
      · rw [if_pos e]; exact Or.inr (bad 2)
      · rw [if_neg e]
        refine Or.inr ⟨_, _, rfl, rfl, fl_R (by rw [s2x (by omega)]; exact hpl), fun q k a b c d e => ?_, fun q k a b c d => by rw [fl_M (by omega)]⟩
        rw [fl_I (by omega), s2x (by omega), f1 _ _ (by omega)]
  · by_cases hnm : 13 ≤ qC T n p ∧ qC T n p ≤ 19
    · rw [pv_name s1.2.2.1 hnm c1' c3 r4 (by omega) hdr, ml_name hA hnm c2 c3 r5 (by omega) r3 (by omega)]
      have hvl : vl (qC T n p) = true := by unfold vl; exact decide_eq_true (Or.inr (Or.inr hnm))
      by_cases e : c = 64
      · rw [if_pos e, if_pos e]; exact Or.inr (bad 2)
      · rw [if_neg e, if_neg e]
        obtain ⟨x, hx⟩ : ∃ x, x = qC T n p - 13 := ⟨_, rfl⟩
        rw [← hx]
        obtain ⟨Mx, hMx⟩ : ∃ A, A = st2 (gr (st2 M 0 46 (Int32.ofNat (c + 1))) (f + m) st.length 1 (Int32.ofNat x) 0) 0 47 0 := ⟨_, rfl⟩
        rw [← hMx]
        have hMe : ∀ q k, ¬ (q = 0 ∧ (k = 21 ∨ k = 44 ∨ k = 46 ∨ k = 47)) → ¬ (q = 23 ∧ k = st.length) → ¬ (19 ≤ q ∧ q ≤ 21 ∧ k = 64 + (f + m)) → Mx q k = M q k := fun q k a b c => by
          rw [hMx, s2x (by omega), gr_ne (by omega) (by omega) (by omega), s2x (by omega)]
        have hAx : Ahd Mx T n p := hA.to (funext fun k => hMe _ _ (by omega) (by omega) (by omega)) (funext fun k => hMe _ _ (by omega) (by omega) (by omega)) (fun k _ _ => hMe _ _ (by omega) (by omega) (by omega))
        obtain ⟨M', e', f', a'⟩ := m_next hAx.1
        rw [e', bd1_s]
        obtain ⟨I', hI'⟩ : ∃ A, A = st2 (st2 (st2 I1 (dr + 11) 4 (Int32.ofNat (c + 1))) (dr + 12) (f + m) (Int32.ofNat (10000 + x))) (dr + 11) 5 (Int32.ofNat (f + m + 1)) := ⟨_, rfl⟩
        rw [← hI']
        have hIe : ∀ q k, ¬ (q = dr + 11 ∧ (k = 4 ∨ k = 5)) → ¬ (q = dr + 12 ∧ k = f + m) → I' q k = I1 q k := fun q k a b => by
          rw [hI', s2x (by omega), s2x (by omega), s2x (by omega)]
        refine Or.inl ⟨I', M', m + 1, W, (f + m) :: st, c + 1, rfl, rfl, ⟨s1.1.st (funext fun k => hIe _ _ (by omega) (by omega)) (funext fun k => hIe _ _ (by omega) (by omega)) (fun k _ _ => hIe _ _ (by omega) (by omega)), a', ?_, ?_, ?_, o3, ?_, ?_, by omega, by omega, ?_, ?_, ?_⟩, ?_, by omega, ⟨fun k hk => by rw [hIe _ _ (by omega) (by omega), f1 _ _ (by omega)], by rw [f' _ _ (by omega), hMe _ _ (by omega) (by omega) (by omega)], by rw [f' _ _ (by omega), hMe _ _ (by omega) (by omega) (by omega)]⟩, fun q k a b c d e => ?_, fun q k a b c d => ?_⟩
        · refine hR1.leaf (code := Int32.ofNat (10000 + x)) (k := 1) (a := Int32.ofNat x) (b := 0) (by omega) ?_ (fun j => ?_) (fun q k h => hIe _ _ (by omega) (by omega)) (fun q j h => ?_) (fun C K P O x1 x2 x3 x4 => Or.inr (Or.inl ⟨x, by omega, x1, x2, x3, rfl⟩))
          · rw [hI', st2_at, if_pos rfl]
          · rw [hI', s2x (by omega), st2_at, s2x (by omega)]
          · rw [f' _ _ (by omega), hMx, s2x (by omega)]
            exact gr_x (s2x (by omega))
        · rw [hIe _ _ (by omega) (by omega)]; exact o1'
        · rw [f' _ _ (by omega), hMe _ _ (by omega) (by omega) (by omega)]; exact o2
        · rw [hI', s2x (by omega), s2x (by omega), st2_at, if_pos rfl]
        · rw [f' _ _ (by omega), hMx, s2x (by omega), gr_ne (by omega) (by omega) (by omega), st2_at, if_pos rfl]
        · rw [f' _ _ (by omega), hMx, st2_at, if_pos rfl, hvl]; rfl
        · rw [List.length_cons, hvl, w2]; rfl
        · intro h; rw [hvl] at h; exact absurd h (by decide)
        · rw [hIe _ _ (by omega) (by omega)]; exact s1.2.2.1
        · rw [hIe _ _ (by omega) (by omega), f1 _ _ (by omega)]
        · rw [f' _ _ (by omega), hMe _ _ (by omega) (by omega) (by omega)]
    · by_cases h21 : qC T n p = 21
      · have hvl : vl (qC T n p) = false := by rw [h21]; rfl
        rw [pv_open (by rw [s1.2.2.1, h21]) o1' o3 r1 (by omega), ml_open hA h21 o2 o3 r2 (by omega)]
        by_cases e : opn W = 8
        · rw [if_pos e, if_pos e]; exact Or.inr (bad 2)
        · rw [if_neg e, if_neg e]
          obtain ⟨Mx, hMx⟩ : ∃ A, A = st2 (st2 (st2 (st2 M 0 45 (Int32.ofNat (opn W + 1))) 22 W.length (Int32.ofNat 0)) 0 43 (Int32.ofNat (W.length + 1))) 0 48 1 := ⟨_, rfl⟩
          rw [← hMx]
          have hMe : ∀ q k, ¬ (q = 0 ∧ (k = 43 ∨ k = 45 ∨ k = 48)) → ¬ (q = 22 ∧ k = W.length) → Mx q k = M q k := fun q k a b => by
            rw [hMx, s2x (by omega), s2x (by omega), s2x (by omega), s2x (by omega)]
          have hAx : Ahd Mx T n p := hA.to (funext fun k => hMe _ _ (by omega) (by omega)) (funext fun k => hMe _ _ (by omega) (by omega)) (fun k _ _ => hMe _ _ (by omega) (by omega))
          obtain ⟨M', e', f', a'⟩ := m_next hAx.1
          rw [e', bd1_s]
          obtain ⟨I', hI'⟩ : ∃ A, A = st2 (st2 (st2 I1 34 3 (Int32.ofNat (opn W + 1))) 35 W.length (Int32.ofNat 21)) 34 2 (Int32.ofNat (W.length + 1)) := ⟨_, rfl⟩
          rw [← hI']
          have hIe : ∀ q k, ¬ (q = 34 ∧ (k = 2 ∨ k = 3)) → ¬ (q = 35 ∧ k = W.length) → I' q k = I1 q k := fun q k a b => by
            rw [hI', s2x (by omega), s2x (by omega), s2x (by omega)]
          obtain ⟨y1, y2, y3, y4⟩ := opn_c0 W
          refine Or.inl ⟨I', M', m, 0 :: W, st, c, rfl, rfl, ⟨s1.1.st (funext fun k => hIe _ _ (by omega) (by omega)) (funext fun k => hIe _ _ (by omega) (by omega)) (fun k _ _ => hIe _ _ (by omega) (by omega)), a', ?_, ?_, ?_, by omega, ?_, ?_, by omega, by omega, ?_, ?_, ?_⟩, ?_, by omega, ⟨fun k hk => by rw [hIe _ _ (by omega) (by omega), f1 _ _ (by omega)], by rw [f' _ _ (by omega), hMe _ _ (by omega) (by omega)], by rw [f' _ _ (by omega), hMe _ _ (by omega) (by omega)]⟩, fun q k a b c d e => ?_, fun q k a b c d => ?_⟩
          · refine hR1.push (Or.inl rfl) ?_ ?_ ?_ ?_ (fun q k h => hIe _ _ (by omega) (by omega)) (fun q k h => by rw [f' _ _ (by omega), hMe _ _ (by omega) (by omega)])
            · rw [hI', st2_at, if_pos rfl]
            · rw [hI', s2x (by omega), st2_at, if_pos rfl]; rfl
            · rw [f' _ _ (by omega), hMx, s2x (by omega), st2_at, if_pos rfl]
            · rw [f' _ _ (by omega), hMx, s2x (by omega), s2x (by omega), st2_at, if_pos rfl]
          · rw [hI', s2x (by omega), s2x (by omega), st2_at, if_pos rfl, y1]
          · rw [f' _ _ (by omega), hMx, s2x (by omega), s2x (by omega), s2x (by omega), st2_at, if_pos rfl, y1]
          · rw [hIe _ _ (by omega) (by omega)]; exact c1'
          · rw [f' _ _ (by omega), hMe _ _ (by omega) (by omega)]; exact c2
          · rw [f' _ _ (by omega), hMe _ _ (by omega) (by omega), hvl]; exact w1
          · rw [hvl, y3, w2]; rfl
          · intro _
            rw [f' _ _ (by omega), hMx, st2_at, if_pos rfl, y4]
            exact ⟨fun h => absurd h (by decide), fun h => by omega⟩
          · rw [hIe _ _ (by omega) (by omega)]; exact s1.2.2.1
          · rw [hIe _ _ (by omega) (by omega), f1 _ _ (by omega)]
          · rw [f' _ _ (by omega), hMe _ _ (by omega) (by omega)]
      · by_cases h12 : qC T n p = 12
        · have hvl : vl (qC T n p) = false := by rw [h12]; rfl
          rw [pv_not (by rw [s1.2.2.1, h12]) (p_latest r1 rW (by omega)) (rkl_le W rW) c1' c3 r1 (by omega) hdr, ml_not hA h12 c2 c3 r2 (by omega)]
          by_cases e4 : 4 ≤ rkl W
          · rw [if_pos e4, if_pos (w3.mpr e4)]; exact Or.inr (bad 1)
          · have e48 : ¬ M 0 48 = 0 := fun h => e4 (w3.mp h)
            rw [if_neg e4, if_neg e48]
            by_cases e : c = 64
            · rw [if_pos e, if_pos e]; exact Or.inr (bad 2)
            · rw [if_neg e, if_neg e]
              obtain ⟨Mx, hMx⟩ : ∃ A, A = st2 (st2 (st2 M 0 46 (Int32.ofNat (c + 1))) 22 W.length (Int32.ofNat 2)) 0 43 (Int32.ofNat (W.length + 1)) := ⟨_, rfl⟩
              rw [← hMx]
              have hMe : ∀ q k, ¬ (q = 0 ∧ (k = 43 ∨ k = 46)) → ¬ (q = 22 ∧ k = W.length) → Mx q k = M q k := fun q k a b => by
                rw [hMx, s2x (by omega), s2x (by omega), s2x (by omega)]
              have hAx : Ahd Mx T n p := hA.to (funext fun k => hMe _ _ (by omega) (by omega)) (funext fun k => hMe _ _ (by omega) (by omega)) (fun k _ _ => hMe _ _ (by omega) (by omega))
              obtain ⟨M', e', f', a'⟩ := m_next hAx.1
              rw [e', bd1_s]
              obtain ⟨I', hI'⟩ : ∃ A, A = st2 (st2 (st2 I1 (dr + 11) 4 (Int32.ofNat (c + 1))) 35 W.length (Int32.ofNat 12)) 34 2 (Int32.ofNat (W.length + 1)) := ⟨_, rfl⟩
              rw [← hI']
              have hIe : ∀ q k, ¬ (q = 34 ∧ k = 2) → ¬ (q = 35 ∧ k = W.length) → ¬ (q = dr + 11 ∧ k = 4) → I' q k = I1 q k := fun q k a b c => by
                rw [hI', s2x (by omega), s2x (by omega), s2x (by omega)]
              obtain ⟨y1, y2, y3, y4⟩ := opn_c2 W
              refine Or.inl ⟨I', M', m, 2 :: W, st, c + 1, rfl, rfl, ⟨s1.1.st (funext fun k => hIe _ _ (by omega) (by omega) (by omega)) (funext fun k => hIe _ _ (by omega) (by omega) (by omega)) (fun k _ _ => hIe _ _ (by omega) (by omega) (by omega)), a', ?_, ?_, ?_, by omega, ?_, ?_, by omega, by omega, ?_, ?_, ?_⟩, ?_, by omega, ⟨fun k hk => by rw [hIe _ _ (by omega) (by omega) (by omega), f1 _ _ (by omega)], by rw [f' _ _ (by omega), hMe _ _ (by omega) (by omega)], by rw [f' _ _ (by omega), hMe _ _ (by omega) (by omega)]⟩, fun q k a b c d e => ?_, fun q k a b c d => ?_⟩
              · refine hR1.push (Or.inr ⟨by omega, by omega⟩) ?_ ?_ ?_ ?_ (fun q k h => hIe _ _ (by omega) (by omega) (by omega)) (fun q k h => by rw [f' _ _ (by omega), hMe _ _ (by omega) (by omega)])
                · rw [hI', st2_at, if_pos rfl]
                · rw [hI', s2x (by omega), st2_at, if_pos rfl]; rfl
                · rw [f' _ _ (by omega), hMx, st2_at, if_pos rfl]
                · rw [f' _ _ (by omega), hMx, s2x (by omega), st2_at, if_pos rfl]
              · rw [hIe _ _ (by omega) (by omega) (by omega), y1]; exact o1'
              · rw [f' _ _ (by omega), hMe _ _ (by omega) (by omega), y1]; exact o2
              · rw [hI', s2x (by omega), s2x (by omega), st2_at, if_pos rfl]
              · rw [f' _ _ (by omega), hMx, s2x (by omega), s2x (by omega), st2_at, if_pos rfl]
              · rw [f' _ _ (by omega), hMe _ _ (by omega) (by omega), hvl]; exact w1
              · rw [hvl, y3, w2]; rfl
              · intro _
                rw [f' _ _ (by omega), hMe _ _ (by omega) (by omega), y4]
                exact ⟨fun h => absurd h e48, fun h => by omega⟩
              · rw [hIe _ _ (by omega) (by omega) (by omega)]; exact s1.2.2.1
              · rw [hIe _ _ (by omega) (by omega) (by omega), f1 _ _ (by omega)]
              · rw [f' _ _ (by omega), hMe _ _ (by omega) (by omega)]
        · rw [pv_else s1.2.2.1 hcd h33 hnm h21 h12, ml_else hA h33 hnm h21 h12]
          exact Or.inr (bad 1)
