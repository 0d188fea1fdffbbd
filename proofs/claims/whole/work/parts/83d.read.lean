/-! reading: the lines of kinds and houses -/
theorem c_nu {I M : MI} {T : Nat → Nat} {n p lo hi : Nat} {x y : Int32} (h : TkI I T n p) (h2 : Ahd M T n p) (hx : x = Int32.ofNat lo) (hy : y = Int32.ofNat hi) (hh : hi ≤ 99999) (hlo : lo ≤ hi) : (∃ z I' M', lo ≤ z ∧ z ≤ hi ∧ f_X6_isNumber I x y = some (true, I') ∧ f_X11_number M x y = some (true, M') ∧ I' 36 6 = Int32.ofNat z ∧ M' 0 11 = Int32.ofNat z ∧ FT I I' ∧ TFS M M' ∧ Std I' T n p ∧ Ahd M' T n (qQ T n p) ∧ qC T n p ≠ 35) ∨ Bad (f_X6_isNumber I x y) (f_X11_number M x y) I M := by
  subst hx hy; exact c_num h h2 hh hlo
theorem TFM.p {M M' : MI} (h : TFM M M') (q k : Nat) (hq : ¬ (q = 0 ∧ 4 ≤ k ∧ k ≤ 11)) : M' q k = M q k := h q k (by omega)
theorem FM.p {M M' : MI} (h : FM M M') (q k : Nat) (hq : ¬ (q = 0 ∧ 7 ≤ k ∧ k ≤ 11)) : M' q k = M q k := h q k (by omega)
theorem ff : ¬ (false = true) := by decide
theorem n_6x {m : Nat} : (6 : Int32) + Int32.ofNat m = Int32.ofNat (6 + m) := n_add 6 m
theorem l_kind {dr : Nat} {I M : MI} {T : Nat → Nat} {n p : Nat} (hdr : dr = 2 ∨ dr = 18) (hS : Std I T n p) (hA : Ahd M T n p) (hD : Dr dr I M) : Lout dr (f_X6_readKind dr I) (f_X11_kindLine M) I M T n (qQ T n p) := by
  obtain ⟨nk, nh, nw, nd, kn, K, H, W, D, S, L⟩ := hD
  have hK := K
  obtain ⟨lk, k1, k2, k3⟩ := hK
  delta f_X6_readKind f_X11_kindLine
  rw [k1, k2]
  simp only [lt]
  by_cases c : nk = 6
  · subst c
    rw [if_neg (by decide), if_pos (by rfl), p_fails, m_wrong, bd2_s, bd2_s]
    exact Or.inr ⟨_, _, rfl, rfl, fl_R (hS.2.1.trans hA.2.1.symm), fl_TF.fr, fl_TFM.fr⟩
  · have hlt : nk < 6 := by omega
    have ginb : inb (Int32.ofNat nk) 6 = true := (n_inb (by omega)).mpr hlt
    obtain ⟨M3, e3, f3, a3⟩ := m_next hA.1
    have e17 : M3 0 17 = Int32.ofNat nk := by rw [f3 0 17 (by omega)]; exact k2
    rw [if_pos (show Int32.ofNat nk < 6 from (n_lt (b := 6) (by omega) (by omega)).mpr hlt), if_neg (show ¬ Int32.ofNat nk = 6 from fun e => c ((n_eq (b := 6) (by omega) (by omega)).mp e)), e3, bd1_s, e17]
    rcases p_isWord hS.1 with ⟨I3, cw, ew, fw, s3⟩ | ⟨I3, cw, ew, fw, w5, w6⟩
    · have hpl3 : I3 36 5 = M3 0 10 := by
        exact s3.2.1.trans a3.2.1.symm
      rw [ew, bd2_s, if_pos rfl, gd_t ginb, n_ix (show nk < 2147483648 by omega), s3.2.2.2 (Or.inr cw)]
      have K3 : KdR dr I3 M3 nk := K.fr (fun q k h => fw.p q k (by omega)) (fun q k h => f3 q k (by omega))
      rw [p_kNamed K3 rfl, bd1_s]
      rcases m_newName (pa := 5) a3 hlt ⟨by omega, by omega⟩ with ⟨cn, en⟩ | ⟨_, hsf, en⟩ | ⟨_, hsf, M5, en, f5, a5⟩
      · exact absurd cw cn
      · rw [en, bd2_s, if_neg ff, if_neg hsf, p_fails, bd2_s]
        exact Or.inr ⟨_, _, rfl, rfl, fl_R hpl3, (fw.tf.tr fl_TF).fr, (f3.tf.tr fl_TFM).fr⟩
      · rw [en, bd2_s, if_pos rfl, if_pos hsf]
        have t5 : TkI (st2 I3 (dr + 1) nk (Int32.ofNat (qV T n (qQ T n p)))) T n (qQ T n (qQ T n p)) := s3.1.st (st2_ne (by omega)) (st2_ne (by omega)) (fun k _ _ => s2x (by omega))
        have e517 : M5 0 17 = Int32.ofNat nk := by rw [f5.p 0 17 (by omega), s2x (by omega)]; exact e17
        have g12 : inb (Int32.ofNat (6 + nk)) 12 = true := (n_inb (by omega)).mpr (by omega)
        rw [e517, n_6x, n_ix (show 6 + nk < 2147483648 by omega)]
        rcases c_nu (x := 0) (y := 99) (lo := 0) (hi := 99) t5 a5 rfl rfl (by omega) (by omega) with ⟨z7, I7, M8, _, z7b, e7, e8, v7, v8, f7, f8, s7, a8, _⟩ | ⟨I7, M8, e7, e8, fl, f7, f8⟩
        · rw [e7, e8, bd2_s, bd2_s, if_pos rfl, if_pos rfl, v7, v8, gd_t ginb, gd_t g12]
          have t8 : TkI (st2 I7 (dr + 2) nk (Int32.ofNat z7)) T n _ := s7.1.st (st2_ne (by omega)) (st2_ne (by omega)) (fun k _ _ => s2x (by omega))
          have a9 : Ahd (st2 M8 6 (6 + nk) (Int32.ofNat z7)) T n _ := a8.to (st2_ne (by omega)) (st2_ne (by omega)) (fun k _ _ => s2x (by omega))
          rcases c_nu (x := 0) (y := 99) (lo := 0) (hi := 99) t8 a9 rfl rfl (by omega) (by omega) with ⟨z, I10, M11, _, zb, e10, e11, v10, v11, f10, f11, s10, a11, _⟩ | ⟨I10, M11, e10, e11, fl, f10, f11⟩
          · rw [e10, e11, bd2_s, bd2_s, if_pos rfl, if_pos rfl, v10, v11, gd_t ginb, gd_t g12]
            have c11 : st2 I10 (dr + 3) nk (Int32.ofNat z) dr 11 = Int32.ofNat nk := by
              rw [s2x (by omega), f10.p _ _ (by omega), s2x (by omega), f7.p _ _ (by omega), s2x (by omega), fw.p _ _ (by omega)]; exact k1
            have m17 : st2 M11 7 (6 + nk) (Int32.ofNat z) 0 17 = Int32.ofNat nk := by
              rw [s2x (by omega), f11.p _ _ (by omega), s2x (by omega), f8.p _ _ (by omega)]; exact e517
            rw [c11, m17, n_t1]
            have hI : ∀ q k, ¬ (q = dr ∧ k = 11) ∧ ¬ (dr + 1 ≤ q ∧ q ≤ dr + 3 ∧ k = nk) ∧ q ≠ 36 → st2 (st2 I10 (dr + 3) nk (Int32.ofNat z)) dr 11 (Int32.ofNat (nk + 1)) q k = I q k := fun q k h => by
              rw [s2x (by omega), s2x (by omega), f10.p _ _ (by omega), s2x (by omega), f7.p _ _ (by omega), s2x (by omega), fw.p _ _ (by omega)]
            have hM : ∀ q k, ¬ (q = 0 ∧ ((7 ≤ k ∧ k ≤ 11) ∨ k = 17)) ∧ ¬ (5 ≤ q ∧ q ≤ 7 ∧ k = 6 + nk) → st2 (st2 M11 7 (6 + nk) (Int32.ofNat z)) 0 17 (Int32.ofNat (nk + 1)) q k = M q k := fun q k h => by
              rw [s2x (by omega), s2x (by omega), f11.p _ _ (by omega), s2x (by omega), f8.p _ _ (by omega), f5.p _ _ (by omega), s2x (by omega), f3.p _ _ (by omega)]
            have hqn := s7.1.2.2.1
            have hq0 := q_le hS.1.1 hS.1.2.2.1
            have hq1 := q_le hS.1.1 s3.1.2.2.1
            have hq2 := q_le hS.1.1 s7.1.2.2.1
            refine Or.inl ⟨_, _, _, rfl, rfl, ?_, s10.1.st ?_ ?_ ?_, a11.to ?_ ?_ ?_, ⟨nk + 1, nh, nw, nd, kn, ⟨by omega, by rw [st2_at, if_pos rfl], by rw [st2_at, if_pos rfl], fun k hk => ?_⟩, H.fr (fun q k h => hI q k (by omega)) (fun q k h => hM q k (by omega)), W.fr (by omega) (by omega) (fun q k h => hI q k (by omega)) (fun q k h => hM q k (by omega)), D.fr (by omega) (fun q k h => hI q k (by omega)) (fun q k h => hM q k (by omega)), S.fr (fun k h => hI dr k (by omega)) (fun q k h => hM q k (by omega)), L.fr (fun q k h => hI q k (by omega)) (fun q k h => hM q k (by omega))⟩, ⟨fun k hk => hI 34 k (by omega), hM 0 4 (by omega), hM 0 5 (by omega)⟩, fun q k a b _ d => hI q k (by omega), fun q k a => hM q k (by unfold scr at a; omega)⟩
            · omega
            · rw [st2_ne (by omega), st2_ne (by omega)]
            · rw [st2_ne (by omega), st2_ne (by omega)]
            · exact fun k _ _ => by rw [st2_ne (by omega), st2_ne (by omega)]
            · rw [st2_ne (by omega), st2_ne (by omega)]
            · rw [st2_ne (by omega), st2_ne (by omega)]
            · exact fun k _ _ => by rw [s2x (by omega), st2_ne (by omega)]
            · by_cases e : k = nk
              · subst e
                refine ⟨?_, ⟨z7, z7b, ?_, ?_⟩, ⟨z, zb, ?_, ?_⟩⟩
                · rw [s2x (by omega), s2x (by omega), f10.p _ _ (by omega), s2x (by omega), f7.p _ _ (by omega), st2_at, if_pos rfl, s2x (by omega), s2x (by omega), f11.p _ _ (by omega), s2x (by omega), f8.p _ _ (by omega), f5.p _ _ (by omega), st2_at, if_pos rfl]
                · rw [s2x (by omega), s2x (by omega), f10.p _ _ (by omega), st2_at, if_pos rfl]
                · rw [s2x (by omega), s2x (by omega), f11.p _ _ (by omega), st2_at, if_pos rfl]
                · rw [s2x (by omega), st2_at, if_pos rfl]
                · rw [s2x (by omega), st2_at, if_pos rfl]
              · rw [hI (dr + 1) k (by omega), hI (dr + 2) k (by omega), hI (dr + 3) k (by omega), hM 5 _ (by omega), hM 6 _ (by omega), hM 7 _ (by omega)]
                exact k3 k (by omega)
          · rw [e10, e11, bd2_s, bd2_s, if_neg ff, if_neg ff]
            refine Or.inr ⟨_, _, rfl, rfl, fl, fun q k a b _ d => ?_, fun q k a => ?_⟩
            · rw [f10 _ _ b d, s2x (by omega), f7.p _ _ d, s2x (by omega), fw.p _ _ d]
            · unfold scr at a
              rw [f11.p _ _ (by omega), s2x (by omega), f8.p _ _ (by omega), f5.p _ _ (by omega), s2x (by omega), f3.p _ _ (by omega)]
        · rw [e7, e8, bd2_s, bd2_s, if_neg ff, if_neg ff]
          refine Or.inr ⟨_, _, rfl, rfl, fl, fun q k a b _ d => ?_, fun q k a => ?_⟩
          · rw [f7 _ _ b d, s2x (by omega), fw.p _ _ d]
          · unfold scr at a
            rw [f8.p _ _ (by omega), f5.p _ _ (by omega), s2x (by omega), f3.p _ _ (by omega)]
    · rw [ew, bd2_s, if_neg ff]
      rcases m_newName (pa := 5) a3 hlt ⟨by omega, by omega⟩ with ⟨cn, en⟩ | ⟨cn, _⟩ | ⟨cn, _⟩
      · rw [en, bd2_s, if_neg ff]
        refine Or.inr ⟨_, _, rfl, rfl, ⟨?_, ?_⟩, fw.fr, (f3.tf.tr fl_TFM).fr⟩
        · unfold flM; rw [s2x (by omega), st2_at, if_pos rfl]; exact w5
        · unfold flM; rw [st2_at, if_pos rfl, w6]; exact a3.2.1.symm
      · exact absurd cn cw
      · exact absurd cn cw
