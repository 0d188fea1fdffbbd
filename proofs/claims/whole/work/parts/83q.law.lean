/-! reading: the line of a law -/
def fin (x3 : Int32) (I4 : MI) : Option (Bool × MI) := if x3 = (0 : Int32) then (some (false, I4)) else (bd1 (f_X11_isSign I4 (59 : Int32)) (fun x5 => if x5 = true then (bd1 (f_X11_token I4) (fun I6 => some (true, I6))) else (bd2 (f_X11_wrong I4 (1 : Int32)) (fun x7 I8 => some (x7, I8)))))
def lawL (I : MI) : Option (Bool × MI) := bd1 (f_X11_token I) (fun I27 => lt (bd2 (f_X11_wrong I27 (1 : Int32)) (fun x28 I29 => some (x28, I29))) (fun j150 => if (I27 0 8) = (1 : Int32) then (if (I27 0 9) < (7 : Int32) then j150 else (if (I27 0 9) ≤ (9 : Int32) then (lt (((3 : Int32) + (I27 0 9)) - (7 : Int32)) (fun x30 => gd (inb x30 6) (if (I27 16 (ix x30)) = (0 : Int32) then (gd (is01 (1 : Int32)) (gd (inb x30 6) (lt (st2 I27 16 (ix x30) (1 : Int32)) (fun I31 => bd1 (f_X11_token I31) (fun I32 => gd (inb x30 6) (lt (st2 I32 17 (ix x30) (I32 0 21)) (fun I33 => bd2 (f_X11_sumRead I33) (fun x34 I35 => lt (bi x34) (fun x36 => gd (inb x30 6) (lt (st2 I35 18 (ix x30) (I35 0 21)) (fun I37 => fin x36 I37))))))))))) else (bd2 (f_X11_wrong I27 (3 : Int32)) (fun x38 I39 => some (x38, I39)))))) else j150)) else j150))
theorem lineRead_e (I : MI) : f_X11_lineRead I = lt (bd2 (f_X11_wrong I (1 : Int32)) (fun x1 I2 => some (x1, I2))) (fun j17 => if (I 0 8) = (1 : Int32) then (if (I 0 9) ≤ (6 : Int32) then (sw (I 0 9) [(0, bd2 (f_X11_kindLine I) (fun x9 I10 => lt (bi x9) (fun x11 => fin x11 I10))), (1, bd2 (f_X11_houseLine I) (fun x12 I13 => lt (bi x12) (fun x14 => fin x14 I13))), (2, bd2 (f_X11_dayLine I) (fun x15 I16 => lt (bi x15) (fun x17 => fin x17 I16))), (3, bd2 (f_X11_workLine I) (fun x18 I19 => lt (bi x18) (fun x20 => fin x20 I19))), (4, bd2 (f_X11_onceLine I (0 : Int32) (1 : Int32) (99 : Int32)) (fun x21 I22 => lt (bi x21) (fun x23 => fin x23 I22))), (5, bd2 (f_X11_onceLine I (1 : Int32) (0 : Int32) (99999 : Int32)) (fun x24 I25 => lt (bi x24) (fun x26 => fin x26 I25)))] (lawL I)) else j17) else j17) := rfl
def Xout (dr : Nat) (o1 o2 : Option (Bool × MI)) (I M : MI) (T : Nat → Nat) (n p : Nat) : Prop := (∃ I' M' p', o1 = some (true, I') ∧ o2 = some (true, M') ∧ p < p' ∧ TkI I' T n p' ∧ Ahd M' T n p' ∧ Dr dr I' M' ∧ FlS I I' M M' ∧ FrI dr I I' ∧ FrM M M') ∨ (∃ I' M', o1 = some (false, I') ∧ o2 = some (false, M') ∧ FlR I' M' ∧ FrI dr I I' ∧ FrM M M')
theorem q_lt {T : Nat → Nat} {n p : Nat} (hT : ∀ k, T k < 256) (hp : p ≤ n) (h : qC T n p ≠ 35) : p < qQ T n p := by
  have := tok_b hT hp
  have := this.2.2.2 h
  unfold qQ
  omega
theorem swp_9 : ∀ c : Fin 20, (swp c.1 < 7 ↔ c.1 < 7) ∧ (swp c.1 ≤ 9 ↔ c.1 ≤ 9) ∧ (c.1 ≤ 9 → swp c.1 = c.1) := by decide +kernel
theorem l_law {dr : Nat} {I M : MI} {T : Nat → Nat} {n p : Nat} (hdr : dr = 2 ∨ dr = 18) (hS : Std I T n p) (hp0 : 0 < qQ T n p) (hA : Ahd M T n p) (hD : Dr dr I M) : Xout dr (f_X6_readLaw dr I) (lawL M) I M T n (qQ T n p) := by
  obtain ⟨nk, nh, nw, nd, kn, K, H, W, D, S, L⟩ := hD
  obtain ⟨l1, l2, l3, l4, l5, l6⟩ := L
  obtain ⟨I1, e1, f1, s1⟩ := c_step hS.1
  obtain ⟨M1, e2, f2, a2⟩ := m_next hA.1
  have hcd := qC_le (n := n) (p := qQ T n p) hS.1.1
  have hpl : I1 36 5 = M1 0 10 := s1.2.1.trans a2.2.1.symm
  have k1 := a2.2.2.k1
  have hq1 := q_le hS.1.1 hS.1.2.2.1
  have bad : ∀ x : Int32, ∃ I' M', some (false, flI I1 x) = some (false, I') ∧ some (false, flM M1 x) = some (false, M') ∧ FlR I' M' ∧ FrI dr I I' ∧ FrM M M' := fun x => ⟨_, _, rfl, rfl, fl_R hpl, (f1.tf.tr fl_TF).fr, (f2.tf.tr fl_TFM).fr⟩
  delta f_X6_readLaw
  unfold lawL
  rw [e1, e2, bd1_s, bd1_s]
  simp only [lt_e, p_fails, m_wrong, bd2_s]
  rw [s1.2.2.1]
  by_cases hr : 7 ≤ qC T n (qQ T n p) ∧ qC T n (qQ T n p) ≤ 9
  · obtain ⟨l, hl⟩ : ∃ l, qC T n (qQ T n p) = 7 + l := ⟨qC T n (qQ T n p) - 7, by omega⟩
    have hl3 : l < 3 := by omega
    have hsw : M1 0 9 = Int32.ofNat (7 + l) := by
      rw [k1.2 (by omega), hl]
      have := (swp_9 ⟨7 + l, by omega⟩).2.2
      simp only at this
      rw [this (by omega)]
    have g7 : ¬ Int32.ofNat (7 + l) < 7 := fun h => by have := (k_lt (y := 7) (b := 7) rfl (by omega) (by omega)).mp h; omega
    have g9 : Int32.ofNat (7 + l) ≤ 9 := (k_le (y := 9) (b := 9) rfl (by omega) (by omega)).mpr (by omega)
    rw [if_pos (k1.1.mpr (by omega)), hsw, hl, if_neg g7, if_neg g7, if_pos g9, if_pos g9]
    have el : Int32.ofNat (7 + l) - 7 = Int32.ofNat l := by
      rw [show (7 : Int32) = Int32.ofNat 7 from rfl, n_sub (by omega), show 7 + l - 7 = l by omega]
    have em : (3 : Int32) + Int32.ofNat (7 + l) - 7 = Int32.ofNat (3 + l) := by
      rw [show (3 : Int32) + Int32.ofNat (7 + l) = Int32.ofNat (3 + (7 + l)) from n_add 3 (7 + l), show (7 : Int32) = Int32.ofNat 7 from rfl, n_sub (by omega), show 3 + (7 + l) - 7 = 3 + l by omega]
    have g3 : inb (Int32.ofNat l) 3 = true := (n_inb (by omega)).mpr hl3
    have g6 : inb (Int32.ofNat (3 + l)) 6 = true := (n_inb (by omega)).mpr (by omega)
    rw [el, em]
    delta f_X4_has f_X4_begin f_X4_end
    simp only [lt_e]
    rw [gd_t g3, gd_t g6, n_ix (show l < 2147483648 by omega), n_ix (show 3 + l < 2147483648 by omega)]
    have i14 : I1 (dr + 11 + 3) l = I (dr + 14) l := f1 _ _ (by omega)
    have m16 : M1 16 (3 + l) = M 16 (3 + l) := f2 _ _ (by omega)
    rw [i14, m16]
    rcases l6 l hl3 with ⟨u1, u2, u3⟩ | ⟨u1, fl, ml, u2, u3, u4, u5, u6, u7, u8⟩
    · rw [u2, u3, if_pos (by decide), bd1_s, if_neg ff, if_pos rfl, gd_t g3, bd1_s, gd_t (show is01 1 = true from rfl), gd_t g6, show I1 (dr + 11) 5 = Int32.ofNat kn from (f1 _ _ (by omega)).trans l3]
      have a3 : Ahd (st2 M1 16 (3 + l) 1) T n (qQ T n p) := a2.to (st2_ne (by omega)) (st2_ne (by omega)) (fun k _ _ => s2x (by omega))
      obtain ⟨M3, e3, f3, a4⟩ := m_next a3.1
      have m321 : M3 0 21 = Int32.ofNat kn := by rw [f3 _ _ (by omega), s2x (by omega), f2 _ _ (by omega)]; exact l4
      rw [e3, bd1_s, gd_t g6, m321, form_e, sum_e]
      obtain ⟨I8, hI8⟩ : ∃ A, A = st2 (st2 (st2 I1 (dr + 11 + 2) l (Int32.ofNat kn)) 34 2 0) 34 3 0 := ⟨_, rfl⟩
      obtain ⟨M8, hM8⟩ : ∃ A, A = sI (st2 M3 17 (3 + l) (Int32.ofNat kn)) := ⟨_, rfl⟩
      rw [← hI8, ← hM8]
      have hIe : ∀ q k, ¬ (q = 34 ∧ (k = 2 ∨ k = 3)) → ¬ (q = dr + 13 ∧ k = l) → I8 q k = I1 q k := fun q k a b => by
        rw [hI8, s2x (by omega), s2x (by omega), s2x (by omega)]
      have hMe : ∀ q k, ¬ (q = 0 ∧ (k = 43 ∨ k = 44 ∨ k = 45 ∨ k = 47 ∨ k = 48)) → ¬ (q = 17 ∧ k = 3 + l) → M8 q k = M3 q k := fun q k a b => by
        rw [hM8]; unfold sI; rw [s2x (by omega), s2x (by omega), s2x (by omega), s2x (by omega), s2x (by omega), s2x (by omega)]
      have t8 : TkI I8 T n (qQ T n (qQ T n p)) := s1.1.st (funext fun k => hIe _ _ (by omega) (by omega)) (funext fun k => hIe _ _ (by omega) (by omega)) (fun k _ _ => hIe _ _ (by omega) (by omega))
      have a8 : Ahd M8 T n (qQ T n (qQ T n p)) := a4.to (funext fun k => hMe _ _ (by omega) (by omega)) (funext fun k => hMe _ _ (by omega) (by omega)) (fun k _ _ => hMe _ _ (by omega) (by omega))
      have hFS : FS dr kn I8 M8 T n (qQ T n (qQ T n p)) 0 [] [] kn true := by
        refine ⟨t8, a8, ⟨?_, ?_, ?_, ?_, ?_, trivial, trivial, rfl⟩, ?_, ?_, by decide, ?_, ?_, l1, rfl, ?_, rfl, fun _ => ⟨fun h => ?_, fun h => absurd h (by decide)⟩⟩
        · rw [hI8, s2x (by omega), st2_at, if_pos rfl]; rfl
        · rw [hM8]; unfold sI; rw [s2x (by omega), s2x (by omega), s2x (by omega), s2x (by omega), st2_at, if_pos rfl]; rfl
        · rw [hM8]; unfold sI; rw [s2x (by omega), s2x (by omega), s2x (by omega), st2_at, if_pos rfl]; rfl
        · rw [hIe _ _ (by omega) (by omega), f1 _ _ (by omega)]; exact l3
        · rw [hMe _ _ (by omega) (by omega)]; exact m321
        · rw [hI8, st2_at, if_pos rfl]; rfl
        · rw [hM8]; unfold sI; rw [s2x (by omega), s2x (by omega), st2_at, if_pos rfl]; rfl
        · rw [hIe _ _ (by omega) (by omega), f1 _ _ (by omega)]; exact l2
        · rw [hMe _ _ (by omega) (by omega), f3 _ _ (by omega), s2x (by omega), f2 _ _ (by omega)]; exact l5
        · rw [hM8]; unfold sI; rw [s2x (by omega), st2_at, if_pos rfl]; rfl
        · rw [hM8] at h; unfold sI at h; rw [st2_at, if_pos rfl] at h; exact absurd h (by decide)
      have hq2 := q_le hS.1.1 s1.1.2.2.1
      have hn7 := hS.1.2.1
      have hpn := t8.2.2.1
      have hq1' := q_le hS.1.1 hS.1.2.2.1
      have hR := form_R hdr n FU FU (qQ T n (qQ T n p)) 0 0 kn [] [] true I8 M8 (by omega) (FU_lt (by omega)) (FU_lt (by omega)) (by omega) hFS
      have hR : Fout dr kn (fix3 (sFc dr) FU 0 0 I8) (fix1 sFm FU M8) I8 M8 T n (qQ T n (qQ T n p)) := hR
      have i13 : I8 (dr + 13) l = Int32.ofNat kn := by rw [hI8, s2x (by omega), s2x (by omega), st2_at, if_pos rfl]
      have m17 : M8 17 (3 + l) = Int32.ofNat kn := by
        rw [hM8]; unfold sI; rw [s2x (by omega), s2x (by omega), s2x (by omega), s2x (by omega), s2x (by omega), st2_at, if_pos rfl]
      have m161 : M8 16 (3 + l) = 1 := by rw [hMe _ _ (by omega) (by omega), f3 _ _ (by omega), st2_at, if_pos rfl]
      rcases hR with ⟨I9, M9, p9, m, c, b1, b2, b3, b4, b5, b6, b7, b8, b9, b10, b11, b12, b13, b14, bS, b15, b16⟩ | ⟨I9, M9, b1, b2, b3, b4, b5⟩
      · rw [b1, b2, bd2_s, bd2_s, if_pos rfl, gd_t g3, gd_t g3, gd_t g6, bd1_s, b10, b11]
        have i913 : I9 (dr + 11 + 2) l = Int32.ofNat kn := by rw [show dr + 11 + 2 = dr + 13 by omega, b15 _ _ (by omega) (by omega) (by omega) (by omega) (by omega)]; exact i13
        rw [i913, n_sub (by omega), show c - kn = m by omega]
        unfold fin
        have a9 : Ahd (st2 M9 18 (3 + l) (Int32.ofNat c)) T n p9 := b4.to (st2_ne (by omega)) (st2_ne (by omega)) (fun k _ _ => s2x (by omega))
        rw [if_neg (show ¬ bi true = 0 by decide), m_isSg (t := 59) (y := 59) a9 rfl (by omega), bd1_s, decide_eq_true (show qC T n p9 = sgC 59 from b5), if_pos rfl]
        obtain ⟨M10, e10, f10, a10⟩ := m_next a9.1
        rw [e10, bd1_s]
        obtain ⟨I10, hI10⟩ : ∃ A, A = st2 I9 (dr + 11 + 3) l (Int32.ofNat m) := ⟨_, rfl⟩
        rw [← hI10]
        have hIf : ∀ q k, ¬ (q = 34 ∧ (k = 2 ∨ k = 3 ∨ k = 5 ∨ k = 6)) → q ≠ 35 → q ≠ 36 → ¬ (q = dr + 11 ∧ (k = 4 ∨ k = 5)) → ¬ (q = dr + 12 ∧ kn ≤ k) → ¬ (q = dr + 13 ∧ k = l) → ¬ (q = dr + 14 ∧ k = l) → I10 q k = I q k := fun q k a b c d e g h => by
          rw [hI10, s2x (by omega), b15 _ _ a b c d e, hIe _ _ (by omega) (by omega), f1 _ _ (by omega)]
        have hMf : ∀ q k, ¬ (q = 0 ∧ ((4 ≤ k ∧ k ≤ 11 ∧ k ≠ 6) ∨ k = 21 ∨ (43 ≤ k ∧ k ≤ 48))) → q ≠ 22 → q ≠ 23 → ¬ (19 ≤ q ∧ q ≤ 21 ∧ 64 + kn ≤ k) → ¬ (16 ≤ q ∧ q ≤ 18 ∧ k = 3 + l) → M10 q k = M q k := fun q k a b c d e => by
          rw [f10 _ _ (by omega), s2x (by omega), b16 _ _ a b c d, hMe _ _ (by omega) (by omega), f3 _ _ (by omega), s2x (by omega), f2 _ _ (by omega)]
        have hqn9 := b4.1.2.2.1
        have hp9 : p9 ≤ n := by
          by_cases h : p9 ≤ n
          · exact h
          · exact absurd b5 (by
              have : qC T n p9 = 35 := by
                unfold qC tC
                rw [if_pos]
                have : tA T n p9 = p9 := by
                  unfold tA rn
                  rw [show n - p9 = 0 by omega]; rfl
                rw [this]; omega
              rw [this]; decide)
        have hlt9 := q_lt (T := T) (n := n) hS.1.1 hp9 (by rw [b5]; decide)
        refine Or.inl ⟨I10, M10, qQ T n p9, rfl, rfl, by omega, b3.st ?_ ?_ ?_, a10, ⟨nk, nh, nw, nd, c, K.fr (fun q k h => hIf q k (by omega) (by omega) (by omega) (by omega) (by omega) (by omega) (by omega)) (fun q k h => hMf q k (by omega) (by omega) (by omega) (by omega) (by omega)), H.fr (fun q k h => hIf q k (by omega) (by omega) (by omega) (by omega) (by omega) (by omega) (by omega)) (fun q k h => hMf q k (by omega) (by omega) (by omega) (by omega) (by omega)), W.fr (by omega) (by omega) (fun q k h => hIf q k (by omega) (by omega) (by omega) (by omega) (by omega) (by omega) (by omega)) (fun q k h => hMf q k (by omega) (by omega) (by omega) (by omega) (by omega)), D.fr (by omega) (fun q k h => hIf q k (by omega) (by omega) (by omega) (by omega) (by omega) (by omega) (by omega)) (fun q k h => hMf q k (by omega) (by omega) (by omega) (by omega) (by omega)), S.fr (fun k h => hIf dr k (by omega) (by omega) (by omega) (by omega) (by omega) (by omega) (by omega)) (fun q k h => hMf q k (by omega) (by omega) (by omega) (by omega) (by omega)), ⟨b9, ?_, ?_, ?_, ?_, fun l' hl' => ?_⟩⟩, ⟨fun k hk => by rw [hI10, s2x (by omega), bS.1 k hk, hIe _ _ (by omega) (by omega), f1 _ _ (by omega)], by rw [f10 _ _ (by omega), s2x (by omega), bS.2.1, hMe _ _ (by omega) (by omega), f3 _ _ (by omega), s2x (by omega), f2 _ _ (by omega)], by rw [f10 _ _ (by omega), s2x (by omega), bS.2.2, hMe _ _ (by omega) (by omega), f3 _ _ (by omega), s2x (by omega), f2 _ _ (by omega)]⟩, fun q k a b c d => hIf q k (by omega) (by omega) (by omega) (by omega) (by omega) (by omega) (by omega), fun q k a => hMf q k (by unfold scr at a; omega) (by unfold scr at a; omega) (by unfold scr at a; omega) (by unfold scr at a; omega) (by unfold scr at a; omega)⟩
        · rw [hI10, st2_ne (by omega)]
        · rw [hI10, st2_ne (by omega)]
        · exact fun k _ _ => by rw [hI10, s2x (by omega)]
        · rw [hI10, s2x (by omega)]; exact b12
        · rw [hI10, s2x (by omega)]; exact b10
        · rw [f10 _ _ (by omega), s2x (by omega)]; exact b11
        · rw [f10 _ _ (by omega), s2x (by omega)]; exact b13
        · by_cases ell : l' = l
          · subst ell
            refine Or.inr ⟨?_, kn, m, by omega, b7, ?_, ?_, ?_, ?_, ?_⟩
            · rw [f10 _ _ (by omega), s2x (by omega), b16 _ _ (by omega) (by omega) (by omega) (by omega)]; exact m161
            · rw [hI10, s2x (by omega)]; exact i913
            · rw [hI10, st2_at, if_pos rfl]
            · rw [f10 _ _ (by omega), s2x (by omega), b16 _ _ (by omega) (by omega) (by omega) (by omega)]; exact m17
            · rw [f10 _ _ (by omega), st2_at, if_pos rfl, b8]
            · refine Wf_congr _ _ _ (fun j _ _ => ⟨?_, ?_, ?_, ?_⟩) b14
              · rw [hI10, s2x (by omega)]
              · unfold hi64; rw [f10 _ _ (by omega), s2x (by omega)]
              · unfold hi64; rw [f10 _ _ (by omega), s2x (by omega)]
              · unfold hi64; rw [f10 _ _ (by omega), s2x (by omega)]
          · rw [hIf (dr + 13) l' (by omega) (by omega) (by omega) (by omega) (by omega) (by omega) (by omega), hIf (dr + 14) l' (by omega) (by omega) (by omega) (by omega) (by omega) (by omega) (by omega), hMf 16 _ (by omega) (by omega) (by omega) (by omega) (by omega), hMf 17 _ (by omega) (by omega) (by omega) (by omega) (by omega), hMf 18 _ (by omega) (by omega) (by omega) (by omega) (by omega)]
            rcases l6 l' hl' with h | ⟨v1, fl, ml, v2, v3, v4, v5, v6, v7, v8⟩
            · exact Or.inl h
            · refine Or.inr ⟨v1, fl, ml, by omega, v3, v4, v5, v6, v7, Wf_congr _ _ _ (fun j _ _ => ⟨?_, ?_, ?_, ?_⟩) v8⟩
              · exact hIf (dr + 12) j (by omega) (by omega) (by omega) (by omega) (by omega) (by omega) (by omega)
              · exact hMf 19 _ (by omega) (by omega) (by omega) (by omega) (by omega)
              · exact hMf 20 _ (by omega) (by omega) (by omega) (by omega) (by omega)
              · exact hMf 21 _ (by omega) (by omega) (by omega) (by omega) (by omega)
      · rw [b1, b2, bd2_s, bd2_s, if_neg ff, gd_t g6]
        unfold fin
        rw [if_pos (show bi false = 0 from rfl)]
        refine Or.inr ⟨_, _, rfl, rfl, ⟨?_, ?_⟩, fun q k a b c d => ?_, fun q k a => ?_⟩
        · rw [s2x (by omega)]; exact b3.1
        · rw [s2x (by omega)]; exact b3.2
        · rw [b4 _ _ (by omega) (by omega) (by omega) (by omega) (by omega), hIe _ _ (by omega) (by omega), f1 _ _ (by omega)]
        · unfold scr at a
          rw [s2x (by omega), b5 _ _ (by omega) (by omega) (by omega) (by omega), hMe _ _ (by omega) (by omega), f3 _ _ (by omega), s2x (by omega), f2 _ _ (by omega)]
    · rw [u5, u1, if_neg (fun h => by have := (k_le (y := 0) (b := 0) rfl (by omega) (by omega)).mp h; omega), bd1_s, if_pos rfl, if_neg (by decide)]
      exact Or.inr (bad 3)
  · have hI0 : ∀ X : Option (Bool × MI), (if Int32.ofNat (qC T n (qQ T n p)) < 7 then some (false, flI I1 1) else if Int32.ofNat (qC T n (qQ T n p)) ≤ 9 then X else some (false, flI I1 1)) = some (false, flI I1 1) := fun X => by
      by_cases c2 : qC T n (qQ T n p) < 7
      · rw [if_pos ((k_lt (y := 7) (b := 7) rfl (by omega) (by omega)).mpr c2)]
      · rw [if_neg (fun h => c2 ((k_lt (y := 7) (b := 7) rfl (by omega) (by omega)).mp h)), if_neg (fun h => by have := (k_le (y := 9) (b := 9) rfl (by omega) (by omega)).mp h; omega)]
    have hM0 : ∀ X : Option (Bool × MI), (if (M1 0 8) = (1 : Int32) then (if (M1 0 9) < (7 : Int32) then some (false, flM M1 1) else (if (M1 0 9) ≤ (9 : Int32) then X else some (false, flM M1 1))) else some (false, flM M1 1)) = some (false, flM M1 1) := fun X => by
      by_cases c1 : M1 0 8 = 1
      · have hc := k1.1.mp c1
        have s9 := swp_9 ⟨qC T n (qQ T n p), hc⟩
        have sl := sw_lt hc
        simp only at s9
        rw [if_pos c1, k1.2 hc]
        by_cases c2 : qC T n (qQ T n p) < 7
        · rw [if_pos ((k_lt (y := 7) (b := 7) rfl (by omega) (by omega)).mpr (s9.1.mpr c2))]
        · rw [if_neg (fun h => c2 (s9.1.mp ((k_lt (y := 7) (b := 7) rfl (by omega) (by omega)).mp h))), if_neg (fun h => by have := s9.2.1.mp ((k_le (y := 9) (b := 9) rfl (by omega) (by omega)).mp h); omega)]
      · rw [if_neg c1]
    rw [hI0, hM0]
    exact Or.inr (bad 1)
