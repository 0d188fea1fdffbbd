/-! reading: the lines of houses -/
theorem l_house {dr : Nat} {I M : MI} {T : Nat → Nat} {n p : Nat} (hdr : dr = 2 ∨ dr = 18) (hS : Std I T n p) (hA : Ahd M T n p) (hD : Dr dr I M) : Lout dr (f_X6_readHouse dr I) (f_X11_houseLine M) I M T n (qQ T n p) := by
  obtain ⟨nk, nh, nw, nd, kn, K, H, W, D, S, L⟩ := hD
  have hH := H
  obtain ⟨lk, k1, k2, k3⟩ := hH
  delta f_X6_readHouse f_X11_houseLine
  rw [k1, k2]
  simp only [lt]
  by_cases c : nh = 6
  · subst c
    rw [if_neg (by decide), if_pos (by rfl), p_fails, m_wrong, bd2_s, bd2_s]
    exact Or.inr ⟨_, _, rfl, rfl, fl_R (hS.2.1.trans hA.2.1.symm), fl_TF.fr, fl_TFM.fr⟩
  · have hlt : nh < 6 := by omega
    have ginb : inb (Int32.ofNat nh) 6 = true := (n_inb (by omega)).mpr hlt
    obtain ⟨M3, e3, f3, a3⟩ := m_next hA.1
    have e17 : M3 0 18 = Int32.ofNat nh := by rw [f3 0 18 (by omega)]; exact k2
    rw [if_pos (show Int32.ofNat nh < 6 from (n_lt (b := 6) (by omega) (by omega)).mpr hlt), if_neg (show ¬ Int32.ofNat nh = 6 from fun e => c ((n_eq (b := 6) (by omega) (by omega)).mp e)), e3, bd1_s, e17]
    rcases p_isWord hS.1 with ⟨I3, cw, ew, fw, s3⟩ | ⟨I3, cw, ew, fw, w5, w6⟩
    · have hpl3 : I3 36 5 = M3 0 10 := by
        exact s3.2.1.trans a3.2.1.symm
      rw [ew, bd2_s, if_pos rfl, gd_t ginb, n_ix (show nh < 2147483648 by omega), s3.2.2.2 (Or.inr cw)]
      have K3 : HsR dr I3 M3 nh := H.fr (fun q k h => fw.p q k (by omega)) (fun q k h => f3 q k (by omega))
      rw [p_hNamed K3, bd1_s]
      rcases m_newName (pa := 8) a3 hlt ⟨by omega, by omega⟩ with ⟨cn, en⟩ | ⟨_, hsf, en⟩ | ⟨_, hsf, M5, en, f5, a5⟩
      · exact absurd cw cn
      · rw [en, bd2_s, if_neg ff, if_neg hsf, p_fails, bd2_s]
        exact Or.inr ⟨_, _, rfl, rfl, fl_R hpl3, (fw.tf.tr fl_TF).fr, (f3.tf.tr fl_TFM).fr⟩
      · rw [en, bd2_s, if_pos rfl, if_pos hsf]
        have t5 : TkI (st2 I3 (dr + 4) nh (Int32.ofNat (qV T n (qQ T n p)))) T n (qQ T n (qQ T n p)) := s3.1.st (st2_ne (by omega)) (st2_ne (by omega)) (fun k _ _ => s2x (by omega))
        have e517 : M5 0 18 = Int32.ofNat nh := by rw [f5.p 0 18 (by omega), s2x (by omega)]; exact e17
        have g12 : inb (Int32.ofNat (6 + nh)) 12 = true := (n_inb (by omega)).mpr (by omega)
        rw [e517, n_6x, n_ix (show 6 + nh < 2147483648 by omega)]
        rcases c_nu (x := 0) (y := 999) (lo := 0) (hi := 999) t5 a5 rfl rfl (by omega) (by omega) with ⟨z7, I7, M8, _, z7b, e7, e8, v7, v8, f7, f8, s7, a8, _⟩ | ⟨I7, M8, e7, e8, fl, f7, f8⟩
        · rw [e7, e8, bd2_s, bd2_s, if_pos rfl, if_pos rfl, v7, v8, gd_t ginb, gd_t g12]
          have t8 : TkI (st2 I7 (dr + 5) nh (Int32.ofNat z7)) T n _ := s7.1.st (st2_ne (by omega)) (st2_ne (by omega)) (fun k _ _ => s2x (by omega))
          have a9 : Ahd (st2 M8 9 (6 + nh) (Int32.ofNat z7)) T n _ := a8.to (st2_ne (by omega)) (st2_ne (by omega)) (fun k _ _ => s2x (by omega))
          rcases c_nu (x := 0) (y := 9) (lo := 0) (hi := 9) t8 a9 rfl rfl (by omega) (by omega) with ⟨z, I10, M11, _, zb, e10, e11, v10, v11, f10, f11, s10, a11, _⟩ | ⟨I10, M11, e10, e11, fl, f10, f11⟩
          · rw [e10, e11, bd2_s, bd2_s, if_pos rfl, if_pos rfl, v10, v11, gd_t ginb, gd_t g12]
            have t11 : TkI (st2 I10 (dr + 6) nh (Int32.ofNat z)) T n _ := s10.1.st (st2_ne (by omega)) (st2_ne (by omega)) (fun k _ _ => s2x (by omega))
            have a12 : Ahd (st2 M11 10 (6 + nh) (Int32.ofNat z)) T n _ := a11.to (st2_ne (by omega)) (st2_ne (by omega)) (fun k _ _ => s2x (by omega))
            rcases c_nu (x := 0) (y := 99) (lo := 0) (hi := 99) t11 a12 rfl rfl (by omega) (by omega) with ⟨y, I13, M14, _, yb, e13, e14, v13, v14, f13, f14, s13, a14, _⟩ | ⟨I13, M14, e13, e14, fl, f13, f14⟩
            · rw [e13, e14, bd2_s, bd2_s, if_pos rfl, if_pos rfl, v13, v14, gd_t ginb, gd_t g12]
              have c11 : st2 I13 (dr + 7) nh (Int32.ofNat y) dr 12 = Int32.ofNat nh := by
                rw [s2x (by omega), f13.p _ _ (by omega), s2x (by omega), f10.p _ _ (by omega), s2x (by omega), f7.p _ _ (by omega), s2x (by omega), fw.p _ _ (by omega)]; exact k1
              have m17 : st2 M14 11 (6 + nh) (Int32.ofNat y) 0 18 = Int32.ofNat nh := by
                rw [s2x (by omega), f14.p _ _ (by omega), s2x (by omega), f11.p _ _ (by omega), s2x (by omega), f8.p _ _ (by omega)]; exact e517
              rw [c11, m17, n_t1]
              have hI : ∀ q k, ¬ (q = dr ∧ k = 12) ∧ ¬ (dr + 4 ≤ q ∧ q ≤ dr + 7 ∧ k = nh) ∧ q ≠ 36 → st2 (st2 I13 (dr + 7) nh (Int32.ofNat y)) dr 12 (Int32.ofNat (nh + 1)) q k = I q k := fun q k h => by
                rw [s2x (by omega), s2x (by omega), f13.p _ _ (by omega), s2x (by omega), f10.p _ _ (by omega), s2x (by omega), f7.p _ _ (by omega), s2x (by omega), fw.p _ _ (by omega)]
              have hM : ∀ q k, ¬ (q = 0 ∧ ((7 ≤ k ∧ k ≤ 11) ∨ k = 18)) ∧ ¬ (8 ≤ q ∧ q ≤ 11 ∧ k = 6 + nh) → st2 (st2 M14 11 (6 + nh) (Int32.ofNat y)) 0 18 (Int32.ofNat (nh + 1)) q k = M q k := fun q k h => by
                rw [s2x (by omega), s2x (by omega), f14.p _ _ (by omega), s2x (by omega), f11.p _ _ (by omega), s2x (by omega), f8.p _ _ (by omega), f5.p _ _ (by omega), s2x (by omega), f3.p _ _ (by omega)]
              have hq0 := q_le hS.1.1 hS.1.2.2.1
              have hq1 := q_le hS.1.1 s3.1.2.2.1
              have hq2 := q_le hS.1.1 s7.1.2.2.1
              have hq3 := q_le hS.1.1 s10.1.2.2.1
              refine Or.inl ⟨_, _, _, rfl, rfl, ?_, s13.1.st ?_ ?_ ?_, a14.to ?_ ?_ ?_, ⟨nk, nh + 1, nw, nd, kn, K.fr (fun q k h => hI q k (by omega)) (fun q k h => hM q k (by omega)), ⟨by omega, by rw [st2_at, if_pos rfl], by rw [st2_at, if_pos rfl], fun k hk => ?_⟩, W.fr (by omega) (by omega) (fun q k h => hI q k (by omega)) (fun q k h => hM q k (by omega)), D.fr (by omega) (fun q k h => hI q k (by omega)) (fun q k h => hM q k (by omega)), S.fr (fun k h => hI dr k (by omega)) (fun q k h => hM q k (by omega)), L.fr (fun q k h => hI q k (by omega)) (fun q k h => hM q k (by omega))⟩, ⟨fun k hk => hI 34 k (by omega), hM 0 4 (by omega), hM 0 5 (by omega)⟩, fun q k a b _ d => hI q k (by omega), fun q k a => hM q k (by unfold scr at a; omega)⟩
              · omega
              · rw [st2_ne (by omega), st2_ne (by omega)]
              · rw [st2_ne (by omega), st2_ne (by omega)]
              · exact fun k _ _ => by rw [st2_ne (by omega), st2_ne (by omega)]
              · rw [st2_ne (by omega), st2_ne (by omega)]
              · rw [st2_ne (by omega), st2_ne (by omega)]
              · exact fun k _ _ => by rw [s2x (by omega), st2_ne (by omega)]
              · by_cases e : k = nh
                · subst e
                  refine ⟨?_, ⟨z7, z7b, ?_, ?_⟩, ⟨z, zb, ?_, ?_⟩, ⟨y, yb, ?_, ?_⟩⟩
                  · rw [s2x (by omega), s2x (by omega), f13.p _ _ (by omega), s2x (by omega), f10.p _ _ (by omega), s2x (by omega), f7.p _ _ (by omega), st2_at, if_pos rfl, s2x (by omega), s2x (by omega), f14.p _ _ (by omega), s2x (by omega), f11.p _ _ (by omega), s2x (by omega), f8.p _ _ (by omega), f5.p _ _ (by omega), st2_at, if_pos rfl]
                  · rw [s2x (by omega), s2x (by omega), f13.p _ _ (by omega), s2x (by omega), f10.p _ _ (by omega), st2_at, if_pos rfl]
                  · rw [s2x (by omega), s2x (by omega), f14.p _ _ (by omega), s2x (by omega), f11.p _ _ (by omega), st2_at, if_pos rfl]
                  · rw [s2x (by omega), s2x (by omega), f13.p _ _ (by omega), st2_at, if_pos rfl]
                  · rw [s2x (by omega), s2x (by omega), f14.p _ _ (by omega), st2_at, if_pos rfl]
                  · rw [s2x (by omega), st2_at, if_pos rfl]
                  · rw [s2x (by omega), st2_at, if_pos rfl]
                · rw [hI (dr + 4) k (by omega), hI (dr + 5) k (by omega), hI (dr + 6) k (by omega), hI (dr + 7) k (by omega), hM 8 _ (by omega), hM 9 _ (by omega), hM 10 _ (by omega), hM 11 _ (by omega)]
                  exact k3 k (by omega)
            · rw [e13, e14, bd2_s, bd2_s, if_neg ff, if_neg ff]
              refine Or.inr ⟨_, _, rfl, rfl, fl, fun q k a b _ d => ?_, fun q k a => ?_⟩
              · rw [f13 _ _ b d, s2x (by omega), f10.p _ _ d, s2x (by omega), f7.p _ _ d, s2x (by omega), fw.p _ _ d]
              · unfold scr at a
                rw [f14.p _ _ (by omega), s2x (by omega), f11.p _ _ (by omega), s2x (by omega), f8.p _ _ (by omega), f5.p _ _ (by omega), s2x (by omega), f3.p _ _ (by omega)]
          · rw [e10, e11, bd2_s, bd2_s, if_neg ff, if_neg ff]
            refine Or.inr ⟨_, _, rfl, rfl, fl, fun q k a b _ d => ?_, fun q k a => ?_⟩
            · rw [f10 _ _ b d, s2x (by omega), f7.p _ _ d, s2x (by omega), fw.p _ _ d]
            · unfold scr at a
              rw [f11.p _ _ (by omega), s2x (by omega), f8.p _ _ (by omega), f5.p _ _ (by omega), s2x (by omega), f3.p _ _ (by omega)]
        · rw [e7, e8, bd2_s, bd2_s, if_neg ff, if_neg ff]
          refine Or.inr ⟨_, _, rfl, rfl, fl, fun q k a b _ d => ?_, fun q k a => ?_⟩
          · rw [f7 _ _ b d, s2x (by omega), fw.p _ _ d]
          · unfold scr at a
            rw [f8.p _ _ (by omega), f5.p _ _ (by omega), s2x (by omega), f3.p _ _ (by omega)]
    · rw [ew, bd2_s, if_neg ff]
      rcases m_newName (pa := 8) a3 hlt ⟨by omega, by omega⟩ with ⟨cn, en⟩ | ⟨cn, _⟩ | ⟨cn, _⟩
      · rw [en, bd2_s, if_neg ff]
        refine Or.inr ⟨_, _, rfl, rfl, ⟨?_, ?_⟩, fw.fr, (f3.tf.tr fl_TFM).fr⟩
        · unfold flM; rw [s2x (by omega), st2_at, if_pos rfl]; exact w5
        · unfold flM; rw [st2_at, if_pos rfl, w6]; exact a3.2.1.symm
      · exact absurd cn cw
      · exact absurd cn cw
