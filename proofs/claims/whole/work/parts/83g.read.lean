/-! reading: the lines of days, of the term and of the seed -/
theorem l_day {dr : Nat} {I M : MI} {T : Nat → Nat} {n p : Nat} (hdr : dr = 2 ∨ dr = 18) (hS : Std I T n p) (hA : Ahd M T n p) (hD : Dr dr I M) : Lout dr (f_X6_readDay dr I) (f_X11_dayLine M) I M T n (qQ T n p) := by
  obtain ⟨nk, nh, nw, nd, kn, K, H, W, D, S, L⟩ := hD
  have lk := K.1
  have hD := D
  obtain ⟨ld, k1, k2, k3, k4⟩ := hD
  delta f_X6_readDay f_X11_dayLine
  rw [k1, k2]
  simp only [lt]
  by_cases c : nd = 20
  · subst c
    rw [if_neg (by decide), if_pos (by rfl), p_fails, m_wrong, bd2_s, bd2_s]
    exact Or.inr ⟨_, _, rfl, rfl, fl_R (hS.2.1.trans hA.2.1.symm), fl_TF.fr, fl_TFM.fr⟩
  · have hlt : nd < 20 := by omega
    obtain ⟨M3, e3, f3, a3⟩ := m_next hA.1
    rw [if_pos (show Int32.ofNat nd < 20 from (n_lt (b := 20) (by omega) (by omega)).mpr hlt), if_neg (show ¬ Int32.ofNat nd = 20 from fun e => c ((n_eq (b := 20) (by omega) (by omega)).mp e)), e3, bd1_s]
    rcases c_nu (x := 0) (y := 99) (lo := 0) (hi := 99) hS.1 a3 rfl rfl (by omega) (by omega) with ⟨t, I2, M6, _, tb, e2, e6, v2, v6, f2, f6, s2, a6, _⟩ | ⟨I2, M6, e2, e6, fl, f2, f6⟩
    · have e619 : M6 0 19 = Int32.ofNat nd := by rw [f6.p _ _ (by omega), f3.p _ _ (by omega)]; exact k2
      have e617 : M6 0 17 = Int32.ofNat nk := by rw [f6.p _ _ (by omega), f3.p _ _ (by omega)]; exact K.2.2.1
      rw [e2, e6, bd2_s, bd2_s, if_pos rfl, if_pos rfl, v2, v6, e619, show (20 : Int32) + Int32.ofNat nd = Int32.ofNat (20 + nd) from n_add 20 nd, gd_t (show inb (Int32.ofNat (20 + nd)) 40 = true from (n_inb (by omega)).mpr (by omega)), n_ix (show 20 + nd < 2147483648 by omega)]
      obtain ⟨M8, hM8⟩ : ∃ A, A = st2 M6 12 (20 + nd) (Int32.ofNat t) := ⟨_, rfl⟩
      rw [← hM8]
      have f8 : ∀ q k, ¬ (q = 12 ∧ k = 20 + nd) → M8 q k = M6 q k := fun q k h => by rw [hM8, s2x h]
      have e819 : M8 0 19 = Int32.ofNat nd := by rw [f8 _ _ (by omega)]; exact e619
      have e811 : M8 0 11 = Int32.ofNat t := by rw [f8 _ _ (by omega)]; exact v6
      have e817 : M8 0 17 = Int32.ofNat nk := by rw [f8 _ _ (by omega)]; exact e617
      have a8 : Ahd M8 T n (qQ T n (qQ T n p)) := a6.to (by rw [hM8, st2_ne (by omega)]) (by rw [hM8, st2_ne (by omega)]) (fun k _ _ => f8 _ _ (by omega))
      rw [e819, e811, e817, show (20 : Int32) = Int32.ofNat 20 from rfl, m_find (by omega) (by omega), bd1_s]
      have hsfe : sf (fun k => M8 12 (20 + k)) (Int32.ofNat t) nd 0 = sf (fun k => M 12 (20 + k)) (Int32.ofNat t) nd 0 := sf_congr _ _ (fun k _ hk => by rw [f8 _ _ (by omega), f6.p _ _ (by omega), f3.p _ _ (by omega)])
      rw [hsfe]
      have htd : f_X0_kindTold I2 dr (Int32.ofNat t) = some (tlD M nd t) := by
        delta f_X0_kindTold
        rw [p_toldDay (by omega), bd1_s, decide_eq_true (show t < 100 by omega)]
        show gd (inb (Int32.ofNat t) 100) (some (I2 (dr + 10) (ix (Int32.ofNat t)))) = _
        rw [gd_t ((n_inb (by omega)).mpr (by omega)), n_ix (by omega), f2.p _ _ (by omega), k4 t (by omega)]
      rw [htd, bd1_s]
      rcases sf_c (fun k => M 12 (20 + k)) (Int32.ofNat t) nd 0 with hs | ⟨j, _, hj, _, hs⟩
      · have htl : tlD M nd t = -1 := by unfold tlD; rw [hs, if_pos rfl]
        rw [htl, if_pos rfl, hs, if_pos (by decide)]
        rcases p_isWord s2.1 with ⟨I6, cw, ew, fw, s6⟩ | ⟨I6, cw, ew, fw, w5, w6⟩
        · rw [ew, bd2_s, if_pos rfl, s6.2.2.2 (Or.inr cw)]
          have K6 : KdR dr I6 M8 nk := K.fr (fun q k h => by rw [fw.p q k (by omega), f2.p q k (by omega)]) (fun q k h => by rw [f8 q k (by omega), f6.p q k (by omega), f3 q k (by omega)])
          rw [p_kNamed K6 rfl, bd1_s]
          rcases m_thereIn (pa := 5) a8 lk with ⟨cn, en⟩ | ⟨_, hsf, en⟩ | ⟨_, i, M11, hi, hsf, en, f11, v11, a11⟩
          · exact absurd cw cn
          · rw [en, bd2_s, if_neg ff, hsf, if_pos rfl, p_fails, bd2_s]
            refine Or.inr ⟨_, _, rfl, rfl, fl_R (s6.2.1.trans a8.2.1.symm), fun q k a b c d => ?_, fun q k a => ?_⟩
            · rw [fl_TF _ _ b d, fw.p _ _ d, f2.p _ _ d]
            · unfold scr at a
              rw [fl_TFM _ _ (by omega), f8 _ _ (by omega), f6.p _ _ (by omega), f3.p _ _ (by omega)]
          · rw [en, bd2_s, if_pos rfl, hsf, if_neg (enc_neg (by omega)).2.2.1, v11, gd_t (show inb (Int32.ofNat (20 + nd)) 40 = true from (n_inb (by omega)).mpr (by omega)), gd_t (show inb (Int32.ofNat t) 100 = true from (n_inb (by omega)).mpr (by omega)), n_ix (show t < 2147483648 by omega)]
            have c14 : st2 I6 (dr + 10) t (Int32.ofNat i) dr 14 = Int32.ofNat nd := by
              rw [s2x (by omega), fw.p _ _ (by omega), f2.p _ _ (by omega)]; exact k1
            have m19 : st2 M11 13 (20 + nd) (Int32.ofNat i) 0 19 = Int32.ofNat nd := by
              rw [s2x (by omega), f11.p _ _ (by omega)]; exact e819
            rw [c14, m19, n_t1]
            have hI : ∀ q k, ¬ (q = dr ∧ k = 14) ∧ ¬ (q = dr + 10 ∧ k = t) ∧ q ≠ 36 → st2 (st2 I6 (dr + 10) t (Int32.ofNat i)) dr 14 (Int32.ofNat (nd + 1)) q k = I q k := fun q k h => by
              rw [s2x (by omega), s2x (by omega), fw.p _ _ (by omega), f2.p _ _ (by omega)]
            have hM : ∀ q k, ¬ (q = 0 ∧ ((7 ≤ k ∧ k ≤ 11) ∨ k = 19)) ∧ ¬ (12 ≤ q ∧ q ≤ 13 ∧ k = 20 + nd) → st2 (st2 M11 13 (20 + nd) (Int32.ofNat i)) 0 19 (Int32.ofNat (nd + 1)) q k = M q k := fun q k h => by
              rw [s2x (by omega), s2x (by omega), f11.p _ _ (by omega), f8 _ _ (by omega), f6.p _ _ (by omega), f3.p _ _ (by omega)]
            have n12 : st2 (st2 M11 13 (20 + nd) (Int32.ofNat i)) 0 19 (Int32.ofNat (nd + 1)) 12 (20 + nd) = Int32.ofNat t := by
              rw [s2x (by omega), s2x (by omega), f11.p _ _ (by omega), hM8, st2_at, if_pos rfl]
            have n13 : st2 (st2 M11 13 (20 + nd) (Int32.ofNat i)) 0 19 (Int32.ofNat (nd + 1)) 13 (20 + nd) = Int32.ofNat i := by
              rw [s2x (by omega), st2_at, if_pos rfl]
            obtain ⟨Mz, hMz⟩ : ∃ A, A = st2 (st2 M11 13 (20 + nd) (Int32.ofNat i)) 0 19 (Int32.ofNat (nd + 1)) := ⟨_, rfl⟩
            have a14 : Ahd Mz T n (qQ T n (qQ T n (qQ T n p))) := by
              rw [hMz]
              refine a11.to ?_ ?_ ?_
              · rw [st2_ne (by omega), st2_ne (by omega)]
              · rw [st2_ne (by omega), st2_ne (by omega)]
              · exact fun k _ _ => by rw [s2x (by omega), st2_ne (by omega)]
            have mz19 : Mz 0 19 = Int32.ofNat (nd + 1) := by rw [hMz, st2_at, if_pos rfl]
            rw [← hMz] at hM n12 n13 ⊢
            have hq0 := q_le hS.1.1 hS.1.2.2.1
            have hq1 := q_le hS.1.1 s2.1.2.2.1
            refine Or.inl ⟨_, _, _, rfl, rfl, ?_, s6.1.st ?_ ?_ ?_, a14, ⟨nk, nh, nw, nd + 1, kn, K.fr (fun q k h => hI q k (by omega)) (fun q k h => hM q k (by omega)), H.fr (fun q k h => hI q k (by omega)) (fun q k h => hM q k (by omega)), W.fr (by omega) (by omega) (fun q k h => hI q k (by omega)) (fun q k h => hM q k (by omega)), ⟨by omega, by rw [st2_at, if_pos rfl], mz19, fun d hd => ?_, fun t' ht' => ?_⟩, S.fr (fun k h => hI dr k (by omega)) (fun q k h => hM q k (by omega)), L.fr (fun q k h => hI q k (by omega)) (fun q k h => hM q k (by omega))⟩, ⟨fun k hk => hI 34 k (by omega), hM 0 4 (by omega), hM 0 5 (by omega)⟩, fun q k a b _ d => hI q k (by omega), fun q k a => hM q k (by unfold scr at a; omega)⟩
            · omega
            · rw [st2_ne (by omega), st2_ne (by omega)]
            · rw [st2_ne (by omega), st2_ne (by omega)]
            · exact fun k _ _ => by rw [st2_ne (by omega), st2_ne (by omega)]
            · by_cases e : d = nd
              · subst e
                exact ⟨⟨t, by omega, n12⟩, ⟨i, hi, n13⟩⟩
              · rw [hM 12 _ (by omega), hM 13 _ (by omega)]
                exact k3 d (by omega)
            · have hfe : sf (fun k => Mz 12 (20 + k)) (Int32.ofNat t') nd 0 = sf (fun k => M 12 (20 + k)) (Int32.ofNat t') nd 0 := sf_congr _ _ (fun k _ hk => hM _ _ (by omega))
              unfold tlD
              rw [sf_snoc nd 0 (by omega), Nat.zero_add, n12, hfe]
              by_cases e : t' = t
              · subst e
                rw [hs, if_pos rfl, if_pos rfl, if_neg (enc_neg (by omega)).2.2.1, n_ix (by omega), n13, s2x (by omega), st2_at, if_pos rfl]
              · rw [hI _ _ (by omega), k4 t' ht', if_neg (show ¬ Int32.ofNat t = Int32.ofNat t' from fun h => e ((n_eq (by omega) (by omega)).mp h).symm)]
                unfold tlD
                rcases sf_c (fun k => M 12 (20 + k)) (Int32.ofNat t') nd 0 with hs' | ⟨j, _, hj, _, hs'⟩
                · rw [hs', if_pos rfl, if_pos rfl, if_pos rfl]
                · have e1 := (enc_neg (j := j) (by omega)).2.2.1
                  rw [hs', if_neg e1, if_neg e1, if_neg e1, n_ix (by omega), hM 13 _ (by omega)]
        · rw [ew, bd2_s, if_neg ff]
          rcases m_thereIn (pa := 5) a8 lk with ⟨cn, en⟩ | ⟨cn, _⟩ | ⟨cn, _⟩
          · rw [en, bd2_s, if_neg ff]
            refine Or.inr ⟨_, _, rfl, rfl, ⟨?_, ?_⟩, fun q k a b c d => ?_, fun q k a => ?_⟩
            · unfold flM; rw [s2x (by omega), st2_at, if_pos rfl]; exact w5
            · unfold flM; rw [st2_at, if_pos rfl, w6]; exact a8.2.1.symm
            · rw [fw _ _ b d, f2.p _ _ d]
            · unfold scr at a
              rw [fl_TFM _ _ (by omega), f8 _ _ (by omega), f6.p _ _ (by omega), f3.p _ _ (by omega)]
          · exact absurd cn cw
          · exact absurd cn cw
      · have htl : tlD M nd t ≠ -1 := by
          unfold tlD
          rw [hs, if_neg (enc_neg (by omega)).2.2.1, n_ix (by omega)]
          obtain ⟨_, k, hk, he⟩ := k3 j (by omega)
          rw [he]; exact (enc_neg (by omega)).2.2.1
        rw [if_neg htl, hs, if_neg (enc_neg (by omega)).2.1, p_fails, m_wrong, bd2_s, bd2_s]
        refine Or.inr ⟨_, _, rfl, rfl, fl_R ?_, fun q k a b c d => ?_, fun q k a => ?_⟩
        · rw [st2_at, if_pos rfl]; exact s2.2.1.trans a3.2.1.symm
        · rw [fl_TF _ _ b d, f2.p _ _ d]
        · unfold scr at a
          rw [fl_TFM _ _ (by omega), s2x (by omega), f8 _ _ (by omega), f6.p _ _ (by omega), f3.p _ _ (by omega)]
    · rw [e2, e6, bd2_s, bd2_s, if_neg ff, if_neg ff]
      exact Or.inr ⟨_, _, rfl, rfl, fl, f2.fr, (f3.tf.tr f6).fr⟩
theorem l_term {dr : Nat} {I M : MI} {T : Nat → Nat} {n p : Nat} (hdr : dr = 2 ∨ dr = 18) (hS : Std I T n p) (hA : Ahd M T n p) (hD : Dr dr I M) : Lout dr (f_X6_readTerm dr I) (f_X11_onceLine M 0 1 99) I M T n (qQ T n p) := by
  obtain ⟨nk, nh, nw, nd, kn, K, H, W, D, S, L⟩ := hD
  delta f_X6_readTerm f_X11_onceLine
  simp only [lt]
  rw [gd_t (show inb (0 : Int32) 2 = true from rfl), show ix (0 : Int32) = 0 from rfl]
  rcases S.1 with ⟨u1, u2, u3⟩ | ⟨u2, z, z1, z2, u1, u3⟩
  · rw [u1, u2, if_pos rfl, if_pos rfl, gd_t (show is01 1 = true from rfl), gd_t (show inb (0 : Int32) 2 = true from rfl)]
    have a1 : Ahd (st2 M 3 0 1) T n p := hA.to (st2_ne (by omega)) (st2_ne (by omega)) (fun k _ _ => s2x (by omega))
    obtain ⟨M3, e3, f3, a3⟩ := m_next a1.1
    rw [e3, bd1_s]
    rcases c_nu (x := 1) (y := 99) (lo := 1) (hi := 99) hS.1 a3 rfl rfl (by omega) (by omega) with ⟨t, I2, M6, t1, tb, e2, e6, v2, v6, f2, f6, s2, a6, _⟩ | ⟨I2, M6, e2, e6, fl, f2, f6⟩
    · rw [e2, e6, bd2_s, bd2_s, if_pos rfl, if_pos rfl, v2, v6, gd_t (show inb ((2 : Int32) + 0) 4 = true from rfl), show ix ((2 : Int32) + 0) = 2 from rfl]
      have hI : ∀ q k, ¬ (q = dr ∧ k = 15) ∧ q ≠ 36 → st2 I2 dr 15 (Int32.ofNat t) q k = I q k := fun q k h => by rw [s2x (by omega), f2.p _ _ (by omega)]
      have hM : ∀ q k, ¬ (q = 0 ∧ 7 ≤ k ∧ k ≤ 11) ∧ ¬ (q = 3 ∧ k = 0) ∧ ¬ (q = 4 ∧ k = 2) → st2 M6 4 2 (Int32.ofNat t) q k = M q k := fun q k h => by rw [s2x (by omega), f6.p _ _ (by omega), f3.p _ _ (by omega), s2x (by omega)]
      have hq0 := q_le hS.1.1 hS.1.2.2.1
      refine Or.inl ⟨_, _, _, rfl, rfl, hq0, s2.1.st (st2_ne (by omega)) (st2_ne (by omega)) (fun k _ _ => s2x (by omega)), a6.to (st2_ne (by omega)) (st2_ne (by omega)) (fun k _ _ => s2x (by omega)), ⟨nk, nh, nw, nd, kn, K.fr (fun q k h => hI q k (by omega)) (fun q k h => hM q k (by omega)), H.fr (fun q k h => hI q k (by omega)) (fun q k h => hM q k (by omega)), W.fr (by omega) (by omega) (fun q k h => hI q k (by omega)) (fun q k h => hM q k (by omega)), D.fr (by omega) (fun q k h => hI q k (by omega)) (fun q k h => hM q k (by omega)), ⟨Or.inr ⟨?_, t, t1, tb, by rw [st2_at, if_pos rfl], by rw [st2_at, if_pos rfl]⟩, ?_⟩, L.fr (fun q k h => hI q k (by omega)) (fun q k h => hM q k (by omega))⟩, ⟨fun k hk => hI 34 k (by omega), hM 0 4 (by omega), hM 0 5 (by omega)⟩, fun q k a b _ d => hI q k (by omega), fun q k a => hM q k (by unfold scr at a; omega)⟩
      · rw [s2x (by omega), f6.p _ _ (by omega), f3.p _ _ (by omega), st2_at, if_pos rfl]
      · rw [hI _ _ (by omega), hM _ _ (by omega), hM _ _ (by omega)]
        exact S.2
    · rw [e2, e6, bd2_s, bd2_s, if_neg ff, if_neg ff]
      refine Or.inr ⟨_, _, rfl, rfl, fl, f2.fr, fun q k a => ?_⟩
      unfold scr at a
      rw [f6.p _ _ (by omega), f3.p _ _ (by omega), s2x (by omega)]
  · rw [u1, u2, if_neg (enc_neg (by omega)).2.2.1, if_neg (by decide), p_fails, m_wrong, bd2_s, bd2_s]
    exact Or.inr ⟨_, _, rfl, rfl, fl_R (hS.2.1.trans hA.2.1.symm), fl_TF.fr, fl_TFM.fr⟩
theorem l_seed {dr : Nat} {I M : MI} {T : Nat → Nat} {n p : Nat} (hdr : dr = 2 ∨ dr = 18) (hS : Std I T n p) (hA : Ahd M T n p) (hD : Dr dr I M) : Lout dr (f_X6_readSeed dr I) (f_X11_onceLine M 1 0 99999) I M T n (qQ T n p) := by
  obtain ⟨nk, nh, nw, nd, kn, K, H, W, D, S, L⟩ := hD
  delta f_X6_readSeed f_X11_onceLine
  simp only [lt]
  rw [gd_t (show inb (1 : Int32) 2 = true from rfl), show ix (1 : Int32) = 1 from rfl]
  rcases S.2 with ⟨u1, u2, u3⟩ | ⟨u2, z, z2, u1, u3⟩
  · rw [u1, u2, if_pos rfl, if_pos rfl, gd_t (show is01 1 = true from rfl), gd_t (show inb (1 : Int32) 2 = true from rfl)]
    have a1 : Ahd (st2 M 3 1 1) T n p := hA.to (st2_ne (by omega)) (st2_ne (by omega)) (fun k _ _ => s2x (by omega))
    obtain ⟨M3, e3, f3, a3⟩ := m_next a1.1
    rw [e3, bd1_s]
    rcases c_nu (x := 0) (y := 99999) (lo := 0) (hi := 99999) hS.1 a3 rfl rfl (by omega) (by omega) with ⟨t, I2, M6, t1, tb, e2, e6, v2, v6, f2, f6, s2, a6, _⟩ | ⟨I2, M6, e2, e6, fl, f2, f6⟩
    · rw [e2, e6, bd2_s, bd2_s, if_pos rfl, if_pos rfl, v2, v6, gd_t (show inb ((2 : Int32) + 1) 4 = true from rfl), show ix ((2 : Int32) + 1) = 3 from rfl]
      have hI : ∀ q k, ¬ (q = dr ∧ k = 16) ∧ q ≠ 36 → st2 I2 dr 16 (Int32.ofNat t) q k = I q k := fun q k h => by rw [s2x (by omega), f2.p _ _ (by omega)]
      have hM : ∀ q k, ¬ (q = 0 ∧ 7 ≤ k ∧ k ≤ 11) ∧ ¬ (q = 3 ∧ k = 1) ∧ ¬ (q = 4 ∧ k = 3) → st2 M6 4 3 (Int32.ofNat t) q k = M q k := fun q k h => by rw [s2x (by omega), f6.p _ _ (by omega), f3.p _ _ (by omega), s2x (by omega)]
      have hq0 := q_le hS.1.1 hS.1.2.2.1
      refine Or.inl ⟨_, _, _, rfl, rfl, hq0, s2.1.st (st2_ne (by omega)) (st2_ne (by omega)) (fun k _ _ => s2x (by omega)), a6.to (st2_ne (by omega)) (st2_ne (by omega)) (fun k _ _ => s2x (by omega)), ⟨nk, nh, nw, nd, kn, K.fr (fun q k h => hI q k (by omega)) (fun q k h => hM q k (by omega)), H.fr (fun q k h => hI q k (by omega)) (fun q k h => hM q k (by omega)), W.fr (by omega) (by omega) (fun q k h => hI q k (by omega)) (fun q k h => hM q k (by omega)), D.fr (by omega) (fun q k h => hI q k (by omega)) (fun q k h => hM q k (by omega)), ⟨?_, Or.inr ⟨?_, t, tb, by rw [st2_at, if_pos rfl], by rw [st2_at, if_pos rfl]⟩⟩, L.fr (fun q k h => hI q k (by omega)) (fun q k h => hM q k (by omega))⟩, ⟨fun k hk => hI 34 k (by omega), hM 0 4 (by omega), hM 0 5 (by omega)⟩, fun q k a b _ d => hI q k (by omega), fun q k a => hM q k (by unfold scr at a; omega)⟩
      · rw [hI _ _ (by omega), hM _ _ (by omega), hM _ _ (by omega)]
        exact S.1
      · rw [s2x (by omega), f6.p _ _ (by omega), f3.p _ _ (by omega), st2_at, if_pos rfl]
    · rw [e2, e6, bd2_s, bd2_s, if_neg ff, if_neg ff]
      refine Or.inr ⟨_, _, rfl, rfl, fl, f2.fr, fun q k a => ?_⟩
      unfold scr at a
      rw [f6.p _ _ (by omega), f3.p _ _ (by omega), s2x (by omega)]
  · rw [u1, u2, if_neg (enc_neg (by omega)).2.2.1, if_neg (by decide), p_fails, m_wrong, bd2_s, bd2_s]
    exact Or.inr ⟨_, _, rfl, rfl, fl_R (hS.2.1.trans hA.2.1.symm), fl_TF.fr, fl_TFM.fr⟩
