/-! reading a law: a sign behind a value, both sides -/
theorem rk_n3 : ∀ k : Fin 15, 3 ≤ k.1 → rk k.1 ≠ 3 := by decide +kernel
theorem c_sign {dr f n p m c : Nat} {T : Nat → Nat} {I M I1 : MI} {W st : List Nat} (hdr : dr = 2 ∨ dr = 18) (hF : FS dr f I M T n p m W st c false) (f1 : FT I I1) (s1 : Std I1 T n p) : Sout dr f (f_X6_readBehindValue dr I1) (f_X11_signs M) I M T n p := by
  obtain ⟨hT, hA, hR, o1, o2, o3, c1, c2, c3, c4, w1, w2, w3⟩ := hF
  rw [if_neg ff] at w2
  have hbn := bn_nn W
  have hln := len_on W
  have hcd := qC_le (n := n) (p := p) hT.1
  have hpl : I1 36 5 = M 0 10 := s1.2.1.trans hA.2.1.symm
  have hR1 : FmR dr f I1 M m W st := hR.fr (fun q k h => f1 q k (by omega)) (fun _ _ _ => rfl)
  have o1' : I1 34 3 = Int32.ofNat (opn W) := (f1 _ _ (by omega)).trans o1
  have c1' : I1 (dr + 11) 4 = Int32.ofNat c := (f1 _ _ (by omega)).trans c1
  have bad : ∀ x : Int32, ∃ I' M', some (false, flI I1 x) = some (false, I') ∧ some (false, flM M x) = some (false, M') ∧ FlR I' M' ∧ GI dr f I I' ∧ GM f M M' := fun x => ⟨_, _, rfl, rfl, fl_R hpl, fun q k a b c d e => by rw [fl_I (by omega), f1 _ _ (by omega)], fun q k a b c d => by rw [fl_M (by omega)]⟩
  rw [signs_e, m_isSg (t := 41) (y := 41) hA rfl (by omega), bd1_s, m_kch hA, show sgC 41 = 22 from rfl]
  by_cases hcl : qC T n p = 22 ∧ 0 < opn W
  · obtain ⟨h22, ho⟩ := hcl
    obtain ⟨o, hoe⟩ : ∃ o, opn W = o + 1 := ⟨opn W - 1, by omega⟩
    have hvl : vl (qC T n p) = true := by rw [h22]; rfl
    rw [decide_eq_true h22, if_pos rfl, o2, hoe, if_neg (n_pos (by omega)), pb_close (o := o) (by rw [s1.2.2.1, h22]) (by rw [o1', hoe]) (by omega)]
    obtain ⟨I2, M2, m', W', st', g1, g2, g3, g4, g5, g6, g7, g8, g9, g10⟩ := c_rel (y := 1) (least := 1) hdr rfl (by omega) (by omega) o3 hR1 w2 (by omega)
    rw [g1, g2, bd1_s, bd1_s]
    simp only [lt]
    cases W' with
    | nil => exact absurd g7 (by show ¬ 0 = opn W; omega)
    | cons w R =>
      have g3' := g3
      obtain ⟨r1, r2, r3, r4, r5, rW, rH, rP⟩ := g3'
      obtain ⟨q1, q2, q3, q4⟩ := rW
      have hw0 : w = 0 := (rk_c q3).2.2.2.1 (by have : rk w < 1 := g8; omega)
      subst hw0
      obtain ⟨y1, y2, y3, y4⟩ := opn_c0 R
      rw [List.length_cons] at r1 r2
      have i34 : I2 34 3 = Int32.ofNat (o + 1) := by rw [g9 _ _ (by omega) (by omega) (by omega), o1', hoe]
      have m45 : M2 0 45 = Int32.ofNat (o + 1) := by rw [g10 _ _ (by omega) (by omega) (by omega), o2, hoe]
      rw [r1, r2, n_m1, s2x (by omega), s2x (by omega), i34, m45, n_m1]
      obtain ⟨Mx, hMx⟩ : ∃ A, A = st2 (st2 M2 0 43 (Int32.ofNat R.length)) 0 45 (Int32.ofNat o) := ⟨_, rfl⟩
      rw [← hMx]
      have hMe : ∀ q k, ¬ (q = 0 ∧ (k = 43 ∨ k = 45)) → Mx q k = M2 q k := fun q k a => by rw [hMx, s2x (by omega), s2x (by omega)]
      have hAx : Ahd Mx T n p := hA.to (funext fun k => by rw [hMe _ _ (by omega), g10 _ _ (by omega) (by omega) (by omega)]) (funext fun k => by rw [hMe _ _ (by omega), g10 _ _ (by omega) (by omega) (by omega)]) (fun k _ _ => by rw [hMe _ _ (by omega), g10 _ _ (by omega) (by omega) (by omega)])
      obtain ⟨M', e', f', a'⟩ := m_next hAx.1
      rw [e', bd1_s]
      obtain ⟨I', hI'⟩ : ∃ A, A = st2 (st2 I2 34 2 (Int32.ofNat R.length)) 34 3 (Int32.ofNat o) := ⟨_, rfl⟩
      rw [← hI']
      have hIe : ∀ q k, ¬ (q = 34 ∧ (k = 2 ∨ k = 3)) → I' q k = I2 q k := fun q k a => by rw [hI', s2x (by omega), s2x (by omega)]
      refine Or.inl ⟨I', M', m', R, st', c, rfl, rfl, ⟨s1.1.st (funext fun k => by rw [hIe _ _ (by omega), g9 _ _ (by omega) (by omega) (by omega)]) (funext fun k => by rw [hIe _ _ (by omega), g9 _ _ (by omega) (by omega) (by omega)]) (fun k _ _ => by rw [hIe _ _ (by omega), g9 _ _ (by omega) (by omega) (by omega)]), a', ⟨?_, ?_, ?_, ?_, ?_, q4.fr R (fun k _ => ⟨hIe _ _ (by omega), by rw [f' _ _ (by omega), hMe _ _ (by omega)]⟩), rH.fr st' (fun k _ => by rw [f' _ _ (by omega), hMe _ _ (by omega)]), Wp_congr m' st' (fun j _ _ => ⟨hIe _ _ (by omega), ?_, ?_, ?_⟩) rP⟩, ?_, ?_, by omega, ?_, ?_, by omega, by omega, ?_, ?_, ?_⟩, ?_, by omega, ⟨fun k hk => by rw [hIe _ _ (by omega), g9 _ _ (by omega) (by omega) (by omega), f1 _ _ (by omega)], by rw [f' _ _ (by omega), hMe _ _ (by omega), g10 _ _ (by omega) (by omega) (by omega)], by rw [f' _ _ (by omega), hMe _ _ (by omega), g10 _ _ (by omega) (by omega) (by omega)]⟩, fun q k a b c d e => ?_, fun q k a b c d => ?_⟩
      · rw [hI', s2x (by omega), st2_at, if_pos rfl]
      · rw [f' _ _ (by omega), hMx, s2x (by omega), st2_at, if_pos rfl]
      · rw [f' _ _ (by omega), hMe _ _ (by omega)]; exact r3
      · rw [hIe _ _ (by omega)]; exact r4
      · rw [f' _ _ (by omega), hMe _ _ (by omega)]; exact r5
      · unfold hi64; rw [f' _ _ (by omega), hMe _ _ (by omega)]
      · unfold hi64; rw [f' _ _ (by omega), hMe _ _ (by omega)]
      · unfold hi64; rw [f' _ _ (by omega), hMe _ _ (by omega)]
      · rw [hI', st2_at, if_pos rfl, show opn R = o by omega]
      · rw [f' _ _ (by omega), hMx, st2_at, if_pos rfl, show opn R = o by omega]
      · rw [hIe _ _ (by omega), g9 _ _ (by omega) (by omega) (by omega)]; exact c1'
      · rw [f' _ _ (by omega), hMe _ _ (by omega), g10 _ _ (by omega) (by omega) (by omega)]; exact c2
      · rw [f' _ _ (by omega), hMe _ _ (by omega), g10 _ _ (by omega) (by omega) (by omega), hvl]; exact w1
      · rw [hvl, g4, y3]; rfl
      · intro h; rw [hvl] at h; exact absurd h (by decide)
      · rw [hIe _ _ (by omega), g9 _ _ (by omega) (by omega) (by omega)]; exact s1.2.2.1
      · rw [hIe _ _ (by omega), g9 _ _ (by omega) (by omega) (by omega), f1 _ _ (by omega)]
      · rw [f' _ _ (by omega), hMe _ _ (by omega), g10 _ _ (by omega) (by omega) (by omega)]
  · have hm : (if decide (qC T n p = 22) = true then (if (M 0 45) ≤ (0 : Int32) then (sgF M (Int32.ofNat (kof (qC T n p)))) else (bd1 (f_X11_bind M (1 : Int32)) (fun I27 => lt (st2 I27 0 43 ((I27 0 43) - (1 : Int32))) (fun I28 => lt (st2 I28 0 45 ((I28 0 45) - (1 : Int32))) (fun I29 => bd1 (f_X11_token I29) (fun I30 => some (true, I30))))))) else (sgF M (Int32.ofNat (kof (qC T n p))))) = sgF M (Int32.ofNat (kof (qC T n p))) := by
      by_cases e : qC T n p = 22
      · rw [decide_eq_true e, if_pos rfl, o2, show opn W = 0 by omega, if_pos (by decide)]
      · rw [decide_eq_false e, if_neg ff]
    rw [hm]
    have hK := kof_F ⟨qC T n p, by omega⟩
    simp only at hK
    obtain ⟨hK1, hK2, hK3⟩ := hK
    by_cases hk0 : kof (qC T n p) = 0
    · rw [pb_else s1.2.2.1 hcd o1' (by omega) hk0, hk0, sgF_0]
      exact Or.inr (bad 1)
    · rcases hK1 with hK1 | ⟨k1, k2, k3, k4⟩
      · exact absurd hK1 hk0
      obtain ⟨hvl, h12, h22, h35⟩ := hK3 hk0
      have ho := (rk_c (k := kof (qC T n p)) (Or.inr ⟨by omega, by omega⟩)).2.2.1
      rw [pb_sign s1.2.2.1 hcd hk0, sgF_k k1 k2]
      have hls : 1 ≤ lst (kof (qC T n p)) ∧ lst (kof (qC T n p)) ≤ 6 := by unfold lst; split <;> omega
      obtain ⟨k, hk⟩ : ∃ k, k = kof (qC T n p) := ⟨_, rfl⟩
      rw [← hk] at k1 k2 k3 k4 ho hls ⊢
      obtain ⟨I2, M2, m', W', st', g1, g2, g3, g4, g5, g6, g7, g8, g9, g10⟩ := c_rel (y := Int32.ofNat (lst k)) (least := lst k) hdr rfl hls.1 hls.2 o3 hR1 w2 (by omega)
      rw [g1, g2, bd1_s, bd1_s]
      unfold mG
      have g3' := g3
      obtain ⟨r1, r2, r3, r4, r5, rW, rH, rP⟩ := g3'
      have hlW := len_on W'
      have hbW := bn_nn W'
      have hpl2 : I2 36 5 = M2 0 10 := by rw [g9 _ _ (by omega) (by omega) (by omega), g10 _ _ (by omega) (by omega) (by omega)]; exact hpl
      have c12 : I2 (dr + 11) 4 = Int32.ofNat c := by rw [g9 _ _ (by omega) (by omega) (by omega)]; exact c1'
      have c22 : M2 0 46 = Int32.ofNat c := by rw [g10 _ _ (by omega) (by omega) (by omega)]; exact c2
      have i4 : I2 36 4 = Int32.ofNat (qC T n p) := by rw [g9 _ _ (by omega) (by omega) (by omega)]; exact s1.2.2.1
      have bad2 : ∀ x : Int32, ∃ I' M', some (false, flI I2 x) = some (false, I') ∧ some (false, flM M2 x) = some (false, M') ∧ FlR I' M' ∧ GI dr f I I' ∧ GM f M M' := fun x => ⟨_, _, rfl, rfl, fl_R hpl2, fun q k a b c d e => by rw [fl_I (by omega), g9 _ _ (by omega) (by omega) (by omega), f1 _ _ (by omega)], fun q k a b c d => by rw [fl_M (by omega), g10 _ _ (by omega) (by omega) (by omega)]⟩
      have main : Sout dr f (pH dr (qC T n p) I2) (mH k M2) I M T n p := by
        unfold pH mH
        rw [p_isKnot c12 c3, m_isCounted c22 c3]
        by_cases e : c = 64
        · rw [if_pos e, if_pos e, bd2_s, bd2_s, if_neg ff, if_neg ff]; exact Or.inr (bad2 2)
        · rw [if_neg e, if_neg e, bd2_s, bd2_s, if_pos rfl, if_pos rfl, s2x (show ¬ ((36 : Nat) = dr + 11 ∧ (4 : Nat) = 4) by omega), i4, p_holds (l := W'.length) (by rw [s2x (by omega)]; exact r1) (by omega), bd2_s, if_pos rfl, m_waitsFor (l := W'.length) (by rw [s2x (by omega)]; exact r2) (by omega), bd1_s]
          obtain ⟨Mx, hMx⟩ : ∃ A, A = st2 (st2 (st2 (st2 (st2 M2 0 46 (Int32.ofNat (c + 1))) 22 W'.length (Int32.ofNat k)) 0 43 (Int32.ofNat (W'.length + 1))) 0 47 1) 0 48 (bi (decide (rk k < 3))) := ⟨_, rfl⟩
          rw [← hMx]
          have hMe : ∀ q k, ¬ (q = 0 ∧ (k = 43 ∨ k = 46 ∨ k = 47 ∨ k = 48)) → ¬ (q = 22 ∧ k = W'.length) → Mx q k = M2 q k := fun q k a b => by
            rw [hMx, s2x (by omega), s2x (by omega), s2x (by omega), s2x (by omega), s2x (by omega)]
          have hAx : Ahd Mx T n p := hA.to (funext fun k => by rw [hMe _ _ (by omega) (by omega), g10 _ _ (by omega) (by omega) (by omega)]) (funext fun k => by rw [hMe _ _ (by omega) (by omega), g10 _ _ (by omega) (by omega) (by omega)]) (fun k _ _ => by rw [hMe _ _ (by omega) (by omega), g10 _ _ (by omega) (by omega) (by omega)])
          obtain ⟨M', e', f', a'⟩ := m_next hAx.1
          rw [e', bd1_s]
          obtain ⟨I', hI'⟩ : ∃ A, A = st2 (st2 (st2 I2 (dr + 11) 4 (Int32.ofNat (c + 1))) 35 W'.length (Int32.ofNat (qC T n p))) 34 2 (Int32.ofNat (W'.length + 1)) := ⟨_, rfl⟩
          rw [← hI']
          have hIe : ∀ q k, ¬ (q = 34 ∧ k = 2) → ¬ (q = 35 ∧ k = W'.length) → ¬ (q = dr + 11 ∧ k = 4) → I' q k = I2 q k := fun q k a b c => by
            rw [hI', s2x (by omega), s2x (by omega), s2x (by omega)]
          obtain ⟨y1, y2, y3, y4⟩ := opn_c3 W' k1
          refine Or.inl ⟨I', M', m', k :: W', st', c + 1, rfl, rfl, ⟨s1.1.st (funext fun k => by rw [hIe _ _ (by omega) (by omega) (by omega), g9 _ _ (by omega) (by omega) (by omega)]) (funext fun k => by rw [hIe _ _ (by omega) (by omega) (by omega), g9 _ _ (by omega) (by omega) (by omega)]) (fun k _ _ => by rw [hIe _ _ (by omega) (by omega) (by omega), g9 _ _ (by omega) (by omega) (by omega)]), a', ?_, ?_, ?_, by omega, ?_, ?_, by omega, by omega, ?_, ?_, ?_⟩, ?_, h35, ⟨fun k hk => by rw [hIe _ _ (by omega) (by omega) (by omega), g9 _ _ (by omega) (by omega) (by omega), f1 _ _ (by omega)], by rw [f' _ _ (by omega), hMe _ _ (by omega) (by omega), g10 _ _ (by omega) (by omega) (by omega)], by rw [f' _ _ (by omega), hMe _ _ (by omega) (by omega), g10 _ _ (by omega) (by omega) (by omega)]⟩, fun q k a b c d e => ?_, fun q k a b c d => ?_⟩
          · refine g3.push (Or.inr ⟨by omega, by omega⟩) ?_ ?_ ?_ ?_ (fun q k h => hIe _ _ (by omega) (by omega) (by omega)) (fun q k h => by rw [f' _ _ (by omega), hMe _ _ (by omega) (by omega)])
            · rw [hI', st2_at, if_pos rfl]
            · rw [hI', s2x (by omega), st2_at, if_pos rfl, k3]
            · rw [f' _ _ (by omega), hMx, s2x (by omega), s2x (by omega), st2_at, if_pos rfl]
            · rw [f' _ _ (by omega), hMx, s2x (by omega), s2x (by omega), s2x (by omega), st2_at, if_pos rfl]
          · rw [hIe _ _ (by omega) (by omega) (by omega), g9 _ _ (by omega) (by omega) (by omega), y1, g7]; exact o1'
          · rw [f' _ _ (by omega), hMe _ _ (by omega) (by omega), g10 _ _ (by omega) (by omega) (by omega), y1, g7]; exact o2
          · rw [hI', s2x (by omega), s2x (by omega), st2_at, if_pos rfl]
          · rw [f' _ _ (by omega), hMx, s2x (by omega), s2x (by omega), s2x (by omega), s2x (by omega), st2_at, if_pos rfl]
          · rw [f' _ _ (by omega), hMx, s2x (by omega), st2_at, if_pos rfl, hvl]; rfl
          · rw [hvl, y3, g4]; rfl
          · intro _
            rw [f' _ _ (by omega), hMx, st2_at, if_pos rfl, y4]
            have hk3 : rk k ≠ 3 := rk_n3 ⟨k, by omega⟩ k1
            by_cases e3 : rk k < 3
            · rw [decide_eq_true e3]
              exact ⟨fun h => absurd h (by decide), fun h => by omega⟩
            · rw [decide_eq_false e3]
              exact ⟨fun _ => by omega, fun _ => rfl⟩
          · rw [hIe _ _ (by omega) (by omega) (by omega)]; exact i4
          · rw [hIe _ _ (by omega) (by omega) (by omega), g9 _ _ (by omega) (by omega) (by omega), f1 _ _ (by omega)]
          · rw [f' _ _ (by omega), hMe _ _ (by omega) (by omega), g10 _ _ (by omega) (by omega) (by omega)]
      by_cases e4 : rk k = 4
      · rw [if_pos e4, if_pos e4, m_latest r2 rW (by omega), p_latest r1 rW (by omega), bd1_s]
        have hr6 := rkl_le W' rW
        by_cases e5 : rkl W' = 4
        · rw [if_pos e5, if_pos ((k_eq (y := 4) (b := 4) rfl (by omega) (by omega)).mpr e5)]; exact Or.inr (bad2 1)
        · rw [if_neg e5, if_neg (fun h => e5 ((k_eq (y := 4) (b := 4) rfl (by omega) (by omega)).mp h))]; exact main
      · rw [if_neg e4, if_neg e4]; exact main
