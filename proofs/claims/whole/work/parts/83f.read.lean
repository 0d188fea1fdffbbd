/-! reading: the lines of works and days -/
theorem l_work {dr : Nat} {I M : MI} {T : Nat → Nat} {n p : Nat} (hdr : dr = 2 ∨ dr = 18) (hS : Std I T n p) (hA : Ahd M T n p) (hD : Dr dr I M) : Lout dr (f_X6_readWork dr I) (f_X11_workLine M) I M T n (qQ T n p) := by
  obtain ⟨nk, nh, nw, nd, kn, K, H, W, D, S, L⟩ := hD
  have lk := K.1
  have lh := H.1
  have hW := W
  obtain ⟨lw, k1, k2, k3⟩ := hW
  delta f_X6_readWork f_X11_workLine
  rw [k1, k2]
  simp only [lt]
  by_cases c : nw = 6
  · subst c
    rw [if_neg (by decide), if_pos (by rfl), p_fails, m_wrong, bd2_s, bd2_s]
    exact Or.inr ⟨_, _, rfl, rfl, fl_R (hS.2.1.trans hA.2.1.symm), fl_TF.fr, fl_TFM.fr⟩
  · have hlt : nw < 6 := by omega
    have ginb : inb (Int32.ofNat nw) 6 = true := (n_inb (by omega)).mpr hlt
    have g12 : inb (Int32.ofNat (6 + nw)) 12 = true := (n_inb (by omega)).mpr (by omega)
    obtain ⟨M3, e3, f3, a3⟩ := m_next hA.1
    have e20 : M3 0 20 = Int32.ofNat nw := by rw [f3 0 20 (by omega)]; exact k2
    have e18 : M3 0 18 = Int32.ofNat nh := by rw [f3 0 18 (by omega)]; exact H.2.2.1
    have e17 : M3 0 17 = Int32.ofNat nk := by rw [f3 0 17 (by omega)]; exact K.2.2.1
    rw [if_pos (show Int32.ofNat nw < 6 from (n_lt (b := 6) (by omega) (by omega)).mpr hlt), if_neg (show ¬ Int32.ofNat nw = 6 from fun e => c ((n_eq (b := 6) (by omega) (by omega)).mp e)), e3, bd1_s, e18, e20, n_6x, n_ix (show 6 + nw < 2147483648 by omega), n_ix (show nw < 2147483648 by omega)]
    rcases p_isWord hS.1 with ⟨I3, cw, ew, fw, s3⟩ | ⟨I3, cw, ew, fw, w5, w6⟩
    · rw [ew, bd2_s, if_pos rfl, s3.2.2.2 (Or.inr cw)]
      have H3 : HsR dr I3 M3 nh := H.fr (fun q k h => fw.p q k (by omega)) (fun q k h => f3 q k (by omega))
      rw [p_hNamed H3, bd1_s, gd_t ginb, gd_t ginb, st2_at, if_pos rfl]
      rcases m_thereIn (pa := 8) a3 lh with ⟨cn, en⟩ | ⟨_, hsf, en⟩ | ⟨_, j, M6, hj, hsf, en, f6, v6, a6⟩
      · exact absurd cw cn
      · rw [en, bd2_s, if_neg ff, hsf, if_pos rfl, p_fails, bd2_s]
        refine Or.inr ⟨_, _, rfl, rfl, fl_R ?_, fun q k a b c d => ?_, (f3.tf.tr fl_TFM).fr⟩
        · rw [s2x (by omega)]; exact s3.2.1.trans a3.2.1.symm
        · rw [fl_TF _ _ b d, s2x (by omega), fw.p _ _ d]
      · rw [en, bd2_s, if_pos rfl, hsf, if_neg (enc_neg (by omega)).2.2.1, v6, gd_t g12]
        have t5 : TkI (st2 I3 (dr + 8) nw (Int32.ofNat j)) T n (qQ T n (qQ T n p)) := s3.1.st (st2_ne (by omega)) (st2_ne (by omega)) (fun k _ _ => s2x (by omega))
        have a7 : Ahd (st2 M6 14 (6 + nw) (Int32.ofNat j)) T n (qQ T n (qQ T n p)) := a6.to (st2_ne (by omega)) (st2_ne (by omega)) (fun k _ _ => s2x (by omega))
        have e717 : st2 M6 14 (6 + nw) (Int32.ofNat j) 0 17 = Int32.ofNat nk := by rw [s2x (by omega), f6.p _ _ (by omega)]; exact e17
        rw [e717]
        rcases p_isWord t5 with ⟨I9, cw9, ew9, fw9, s9⟩ | ⟨I9, cw9, ew9, fw9, w59, w69⟩
        · rw [ew9, bd2_s, if_pos rfl, s9.2.2.2 (Or.inr cw9)]
          have K9 : KdR dr I9 (st2 M6 14 (6 + nw) (Int32.ofNat j)) nk := K.fr (fun q k h => by rw [fw9.p q k (by omega), s2x (by omega), fw.p q k (by omega)]) (fun q k h => by rw [s2x (by omega), f6.p q k (by omega), f3 q k (by omega)])
          rw [p_kNamed K9 rfl, bd1_s, gd_t ginb, gd_t ginb, st2_at, if_pos rfl]
          rcases m_thereIn (pa := 5) a7 lk with ⟨cn, en9⟩ | ⟨_, hsf9, en9⟩ | ⟨_, i, M9, hi, hsf9, en9, f9, v9, a9⟩
          · exact absurd cw9 cn
          · rw [en9, bd2_s, if_neg ff, hsf9, if_pos rfl, p_fails, bd2_s]
            refine Or.inr ⟨_, _, rfl, rfl, fl_R ?_, fun q k a b c d => ?_, fun q k a => ?_⟩
            · rw [s2x (by omega)]; exact s9.2.1.trans a7.2.1.symm
            · rw [fl_TF _ _ b d, s2x (by omega), fw9.p _ _ d, s2x (by omega), fw.p _ _ d]
            · unfold scr at a
              rw [fl_TFM _ _ (by omega), s2x (by omega), f6.p _ _ (by omega), f3.p _ _ (by omega)]
          · rw [en9, bd2_s, if_pos rfl, hsf9, if_neg (enc_neg (by omega)).2.2.1, v9, gd_t g12]
            have c13 : st2 I9 (dr + 9) nw (Int32.ofNat i) dr 13 = Int32.ofNat nw := by
              rw [s2x (by omega), fw9.p _ _ (by omega), s2x (by omega), fw.p _ _ (by omega)]; exact k1
            have m20 : st2 M9 15 (6 + nw) (Int32.ofNat i) 0 20 = Int32.ofNat nw := by
              rw [s2x (by omega), f9.p _ _ (by omega), s2x (by omega), f6.p _ _ (by omega)]; exact e20
            rw [c13, m20, n_t1]
            have hI : ∀ q k, ¬ (q = dr ∧ k = 13) ∧ ¬ (dr + 8 ≤ q ∧ q ≤ dr + 9 ∧ k = nw) ∧ q ≠ 36 → st2 (st2 I9 (dr + 9) nw (Int32.ofNat i)) dr 13 (Int32.ofNat (nw + 1)) q k = I q k := fun q k h => by
              rw [s2x (by omega), s2x (by omega), fw9.p _ _ (by omega), s2x (by omega), fw.p _ _ (by omega)]
            have hM : ∀ q k, ¬ (q = 0 ∧ ((7 ≤ k ∧ k ≤ 11) ∨ k = 20)) ∧ ¬ (14 ≤ q ∧ q ≤ 15 ∧ k = 6 + nw) → st2 (st2 M9 15 (6 + nw) (Int32.ofNat i)) 0 20 (Int32.ofNat (nw + 1)) q k = M q k := fun q k h => by
              rw [s2x (by omega), s2x (by omega), f9.p _ _ (by omega), s2x (by omega), f6.p _ _ (by omega), f3.p _ _ (by omega)]
            have hq0 := q_le hS.1.1 hS.1.2.2.1
            have hq1 := q_le hS.1.1 s3.1.2.2.1
            refine Or.inl ⟨_, _, _, rfl, rfl, ?_, s9.1.st ?_ ?_ ?_, a9.to ?_ ?_ ?_, ⟨nk, nh, nw + 1, nd, kn, K.fr (fun q k h => hI q k (by omega)) (fun q k h => hM q k (by omega)), H.fr (fun q k h => hI q k (by omega)) (fun q k h => hM q k (by omega)), ⟨by omega, by rw [st2_at, if_pos rfl], by rw [st2_at, if_pos rfl], fun k hk => ?_⟩, D.fr (by omega) (fun q k h => hI q k (by omega)) (fun q k h => hM q k (by omega)), S.fr (fun k h => hI dr k (by omega)) (fun q k h => hM q k (by omega)), L.fr (fun q k h => hI q k (by omega)) (fun q k h => hM q k (by omega))⟩, ⟨fun k hk => hI 34 k (by omega), hM 0 4 (by omega), hM 0 5 (by omega)⟩, fun q k a b _ d => hI q k (by omega), fun q k a => hM q k (by unfold scr at a; omega)⟩
            · omega
            · rw [st2_ne (by omega), st2_ne (by omega)]
            · rw [st2_ne (by omega), st2_ne (by omega)]
            · exact fun k _ _ => by rw [st2_ne (by omega), st2_ne (by omega)]
            · rw [st2_ne (by omega), st2_ne (by omega)]
            · rw [st2_ne (by omega), st2_ne (by omega)]
            · exact fun k _ _ => by rw [s2x (by omega), st2_ne (by omega)]
            · by_cases e : k = nw
              · subst e
                refine ⟨⟨j, hj, ?_, ?_⟩, ⟨i, hi, ?_, ?_⟩⟩
                · rw [s2x (by omega), s2x (by omega), fw9.p _ _ (by omega), st2_at, if_pos rfl]
                · rw [s2x (by omega), s2x (by omega), f9.p _ _ (by omega), st2_at, if_pos rfl]
                · rw [s2x (by omega), st2_at, if_pos rfl]
                · rw [s2x (by omega), st2_at, if_pos rfl]
              · rw [hI (dr + 8) k (by omega), hI (dr + 9) k (by omega), hM 14 _ (by omega), hM 15 _ (by omega)]
                exact k3 k (by omega)
        · rw [ew9, bd2_s, if_neg ff]
          rcases m_thereIn (pa := 5) a7 lk with ⟨cn, en9⟩ | ⟨cn, _⟩ | ⟨cn, _⟩
          · rw [en9, bd2_s, if_neg ff]
            refine Or.inr ⟨_, _, rfl, rfl, ⟨?_, ?_⟩, fun q k a b c d => ?_, fun q k a => ?_⟩
            · unfold flM; rw [s2x (by omega), st2_at, if_pos rfl]; exact w59
            · unfold flM; rw [st2_at, if_pos rfl, w69]; exact a7.2.1.symm
            · rw [fw9 _ _ b d, s2x (by omega), fw.p _ _ d]
            · unfold scr at a
              rw [fl_TFM _ _ (by omega), s2x (by omega), f6.p _ _ (by omega), f3.p _ _ (by omega)]
          · exact absurd cn cw9
          · exact absurd cn cw9
    · rw [ew, bd2_s, if_neg ff]
      rcases m_thereIn (pa := 8) a3 lh with ⟨cn, en⟩ | ⟨cn, _⟩ | ⟨cn, _⟩
      · rw [en, bd2_s, if_neg ff]
        refine Or.inr ⟨_, _, rfl, rfl, ⟨?_, ?_⟩, fw.fr, (f3.tf.tr fl_TFM).fr⟩
        · unfold flM; rw [s2x (by omega), st2_at, if_pos rfl]; exact w5
        · unfold flM; rw [st2_at, if_pos rfl, w6]; exact a3.2.1.symm
      · exact absurd cn cw
      · exact absurd cn cw
theorem sf_snoc {f : Nat → Int32} {x : Int32} : ∀ m i, i + m < 2147483648 → sf f x (m + 1) i = if sf f x m i = -1 then (if f (i + m) = x then Int32.ofNat (i + m) else -1) else sf f x m i
  | 0, i, _ => by
    show (if f i = x then Int32.ofNat i else -1) = if (-1 : Int32) = -1 then _ else _
    rw [if_pos rfl, Nat.add_zero]
  | m + 1, i, h => by
    have ih := sf_snoc (f := f) (x := x) m (i + 1) (by omega)
    show (if f i = x then Int32.ofNat i else sf f x (m + 1) (i + 1)) = if (if f i = x then Int32.ofNat i else sf f x m (i + 1)) = -1 then _ else (if f i = x then Int32.ofNat i else sf f x m (i + 1))
    by_cases c : f i = x
    · rw [if_pos c, if_pos c, if_neg (enc_neg (by omega)).2.2.1]
    · rw [if_neg c, if_neg c, ih, show i + 1 + m = i + (m + 1) by omega]
