/-! the call text -/
theorem n_of {x : Int32} (h : 0 ≤ x.toInt) : ∃ n, n < 2147483648 ∧ x = Int32.ofNat n := by
  have hx := Int32.toInt_lt x
  refine ⟨x.toInt.toNat, by omega, ?_⟩
  apply Int32.toInt_inj.mp
  rw [n_toInt (by omega)]; omega
theorem Dr_0 {dr : Nat} {I M : MI} (h1 : ∀ k, 11 ≤ k → k ≤ 14 → I dr k = 0) (h2 : I dr 15 = -1) (h3 : I dr 16 = -1) (h4 : ∀ t, t < 100 → I (dr + 10) t = -1) (h5 : I (dr + 11) 4 = 0) (h6 : I (dr + 11) 5 = 0) (h7 : ∀ l, l < 3 → I (dr + 13) l = 0 ∧ I (dr + 14) l = 0) (g1 : ∀ k, 17 ≤ k → k ≤ 21 → M 0 k = 0) (g2 : M 0 46 = 0) (g3 : M 3 0 = 0) (g4 : M 3 1 = 0) (g5 : M 4 2 = 30) (g6 : M 4 3 = 0) (g7 : ∀ l, l < 3 → M 16 (3 + l) = 0) : Dr dr I M := by
  refine ⟨0, 0, 0, 0, 0, ⟨by omega, h1 _ (by omega) (by omega), g1 _ (by omega) (by omega), fun k hk => absurd hk (by omega)⟩, ⟨by omega, h1 _ (by omega) (by omega), g1 _ (by omega) (by omega), fun k hk => absurd hk (by omega)⟩, ⟨by omega, h1 _ (by omega) (by omega), g1 _ (by omega) (by omega), fun k hk => absurd hk (by omega)⟩, ⟨by omega, h1 _ (by omega) (by omega), g1 _ (by omega) (by omega), fun k hk => absurd hk (by omega), fun t ht => ?_⟩, ⟨Or.inl ⟨h2, g3, g5⟩, Or.inl ⟨h3, g4, g6⟩⟩, ⟨by omega, h5, h6, g1 _ (by omega) (by omega), g2, fun l hl => Or.inl ⟨(h7 l hl).1, (h7 l hl).2, g7 l hl⟩⟩⟩
  rw [h4 t ht]
  unfold tlD
  rw [show sf (fun k => M 12 (20 + k)) (Int32.ofNat t) 0 0 = -1 from rfl, if_pos rfl]
theorem r_text {bk dr it : Nat} {I : MI} {J : MJ} {M : MI} {J2 : MJ} (h : R bk dr it I J M J2) (a : Int32) : ∃ x bk' dr' it' I' M' J2', f_X10_text bk dr it I a = some (x, bk', dr', it', I') ∧ f_X11_text M J2 a = some (x, M', J2') ∧ R bk' dr' it' I' J M' J2' := by
  have hR := h
  obtain ⟨nk, nh, nw, kn, nd, su, dn, dy, us, ds, sui, dni, dyi, ⟨hbd, hit, ⟨t, t1, t2, t3, t4⟩, ⟨q1, q2⟩, B, D, L, w1, w2⟩, N, U, G, E⟩ := h
  have hdr : dr = 2 ∨ dr = 18 := by omega
  have lh := B.lh
  have lk := B.lk
  have em1 : st2 M 0 2 0 0 1 = Int32.ofNat t := by rw [s2x (by omega)]; exact t3
  by_cases ha : 0 ≤ a.toInt ∧ a.toInt ≤ t
  · obtain ⟨n, hn, rfl⟩ := n_of ha.1
    rw [n_toInt hn] at ha
    have hnt : n ≤ t := by omega
    have c0 : ¬ Int32.ofNat n < 0 := (enc_neg hn).2.1
    have c1 : Int32.ofNat n ≤ Int32.ofNat t := (n_le hn (by omega)).mpr hnt
    have hT : ∃ T : Nat → Nat, (∀ k, T k < 256) ∧ (∀ k, I 1 k &&& 255 = Int32.ofNat (T k)) ∧ (∀ k, M 1 k = Int32.ofNat (T k)) := by
      refine ⟨fun k => Classical.choose (n_and255 (I 1 k)), fun k => (Classical.choose_spec (n_and255 (I 1 k))).1, fun k => (Classical.choose_spec (n_and255 (I 1 k))).2, fun k => ?_⟩
      rw [← t4 k]; exact (Classical.choose_spec (n_and255 (I 1 k))).2
    obtain ⟨T, T1, T2, T3⟩ := hT
    delta f_X10_text
    rw [lt_e, if_neg c0, t2, if_pos c1, lt_e, text_e, if_neg c0, em1, if_pos c1, read_e]
    obtain ⟨I2, e2, k1, k2, k3, k4, k5, k6, k7, k8⟩ := p_clear (I := st2 I 0 1 0) (pb := dr)
    rw [e2, bd1_s]
    obtain ⟨I3, hI3⟩ : ∃ A, A = st2 (st2 (st2 (st2 (st2 I2 36 2 (Int32.ofNat n)) 36 3 0) 34 4 0) 34 5 0) 34 6 (-1) := ⟨_, rfl⟩
    rw [← hI3]
    have i3 : ∀ q k, q ≠ 34 → q ≠ 36 → I3 q k = I2 q k := fun q k x y => by rw [hI3, s2x (by omega), s2x (by omega), s2x (by omega), s2x (by omega), s2x (by omega)]
    have i3b : ∀ q k, ¬ (dr ≤ q ∧ q < dr + 16) → q ≠ 34 → q ≠ 36 → ¬ (q = 0 ∧ k = 1) → I3 q k = I q k := fun q k x y z u => by rw [i3 q k y z, k1 q k x, s2x (by omega)]
    have tk3 : TkI I3 T n 0 := by
      refine ⟨T1, by omega, by omega, fun k => ?_, fun j hj => ?_, ?_, ?_⟩
      · rw [i3b _ _ (by omega) (by omega) (by omega) (by omega)]; exact T2 k
      · rw [i3b _ _ (by omega) (by omega) (by omega) (by omega)]; exact w1 j hj
      · rw [hI3, s2x (by omega), s2x (by omega), s2x (by omega), s2x (by omega), st2_at, if_pos rfl]
      · rw [hI3, s2x (by omega), s2x (by omega), s2x (by omega), st2_at, if_pos rfl]; rfl
    obtain ⟨I4, e4, f4, s4⟩ := c_step tk3
    rw [e4, bd1_s]
    obtain ⟨M2, hM2⟩ : ∃ A, A = st2 (st2 (st2 (st2 (st2 (st2 M 0 2 0) 0 6 (Int32.ofNat n)) 0 1 0) 0 4 0) 0 5 (-1)) 0 7 0 := ⟨_, rfl⟩
    rw [← hM2]
    have m2 : ∀ q k, ¬ (q = 0 ∧ (k = 1 ∨ k = 2 ∨ (4 ≤ k ∧ k ≤ 7))) → M2 q k = M q k := fun q k x => by rw [hM2, s2x (by omega), s2x (by omega), s2x (by omega), s2x (by omega), s2x (by omega), s2x (by omega)]
    obtain ⟨M3, e3, g1, g2, g3, g4, g5, g6, g7, g8⟩ := m_plain (M := M2)
    rw [e3, bd1_s]
    have tm3 : TkM M3 T n 0 := by
      refine ⟨T1, by omega, by omega, fun k => ?_, fun j hj => ?_, ?_, ?_⟩
      · rw [g1 _ _ (by omega) (by omega) (by omega) (by omega), m2 _ _ (by omega)]; exact T3 k
      · rw [g1 _ _ (by omega) (by omega) (by omega) (by omega), m2 _ _ (by omega)]; exact w2 j hj
      · rw [g1 _ _ (by omega) (by omega) (by omega) (by omega), hM2, s2x (by omega), s2x (by omega), s2x (by omega), s2x (by omega), st2_at, if_pos rfl]
      · rw [g1 _ _ (by omega) (by omega) (by omega) (by omega), hM2, st2_at, if_pos rfl]; rfl
    obtain ⟨M4, e5, f5, a5⟩ := m_next tm3
    rw [e5, bd1_s]
    have i4 : ∀ q k, q ≠ 36 → I4 q k = I3 q k := fun q k x => f4 q k (by omega)
    have D4 : Dr dr I4 M4 := by
      refine Dr_0 (fun k x y => ?_) ?_ ?_ (fun t ht => ?_) ?_ ?_ (fun l hl => ⟨?_, ?_⟩) (fun k x y => ?_) ?_ ?_ ?_ ?_ ?_ (fun l hl => ?_)
      · rw [i4 _ _ (by omega), i3 _ _ (by omega) (by omega)]; exact k2 k x y
      · rw [i4 _ _ (by omega), i3 _ _ (by omega) (by omega)]; exact k3
      · rw [i4 _ _ (by omega), i3 _ _ (by omega) (by omega)]; exact k4
      · rw [i4 _ _ (by omega), i3 _ _ (by omega) (by omega)]; exact k5 t ht
      · rw [i4 _ _ (by omega), i3 _ _ (by omega) (by omega)]; exact k6
      · rw [i4 _ _ (by omega), i3 _ _ (by omega) (by omega)]; exact k7
      · rw [i4 _ _ (by omega), i3 _ _ (by omega) (by omega)]; exact (k8 l hl).1
      · rw [i4 _ _ (by omega), i3 _ _ (by omega) (by omega)]; exact (k8 l hl).2
      · rw [f5 _ _ (by omega)]; exact g2 k x y
      · rw [f5 _ _ (by omega)]; exact g3
      · rw [f5 _ _ (by omega)]; exact g4
      · rw [f5 _ _ (by omega)]; exact g5
      · rw [f5 _ _ (by omega)]; exact g6
      · rw [f5 _ _ (by omega)]; exact g7
      · rw [f5 _ _ (by omega)]; exact g8 l hl
    have h44 : I4 34 4 = Int32.ofNat 0 := by rw [i4 _ _ (by omega), hI3, s2x (by omega), s2x (by omega), st2_at, if_pos rfl]; rfl
    have hTR := text_R (J := J2) hdr n FU FU 0 0 I4 M4 (by omega) (FU_lt (by omega)) (FU_lt (by omega)) (by omega) (by omega) s4 a5 D4 h44
    have hTR : Tout dr (fix1 (sRd dr) FU I4) (fix2 (sTx J2) FU 0 M4) I4 M4 J2 := hTR
    have m4 : ∀ q k, ¬ scr q k → ¬ (q = 0 ∧ (k = 1 ∨ k = 2)) → M4 q k = M q k := fun q k x y => by
      unfold scr at x
      rw [f5 _ _ (by omega), g1 _ _ (by omega) (by omega) (by omega) (by omega), m2 _ _ (by omega)]
    have m41 : M4 0 1 = 0 := by rw [f5 _ _ (by omega), g1 _ _ (by omega) (by omega) (by omega) (by omega), hM2, s2x (by omega), s2x (by omega), s2x (by omega), st2_at, if_pos rfl]
    have i41 : I4 0 1 = 0 := by rw [i4 _ _ (by omega), i3 _ _ (by omega) (by omega), k1 _ _ (by omega), st2_at, if_pos rfl]
    rcases hTR with ⟨I5, M5, i, o1, o2, o3, o4, o5, o6, o7, o8, o9⟩ | ⟨I5, M5, o1, o2, o3, o4, o5⟩
    · obtain ⟨nk', nh', nw', nd', kn', hDr⟩ := o4
      have hDr' := hDr
      obtain ⟨K', H', W', D', S', L'⟩ := hDr'
      have lk' := K'.1
      have lh' := H'.1
      obtain ⟨I6, e6, s1, s2, s3, s5, s6, s7⟩ := p_settle (I := I5) (pb := dr) K'.2.1 lk' (fun k hk => by
        obtain ⟨_, _, z, hz, ez, _⟩ := K'.2.2.2 k hk
        exact ⟨z, hz, ez⟩)
      have h612 : I6 dr 12 = Int32.ofNat nh' := by rw [s1 _ _ (by omega)]; exact H'.2.1
      obtain ⟨I7, e7, p1, p2, p3, p4, p5, p6, p7⟩ := p_start (I := I6) hdr h612 lh'
      obtain ⟨M6, e8, b1, b2, b3, b4, b5, b6, b7, b8, b9, b10, b11, b12, b13⟩ := m_begin (M := kcB M5) (J := J2)
      have hl16 : ∀ l, l < 3 → M5 16 (3 + l) = 0 ∨ M5 16 (3 + l) = 1 := fun l hl => by
        rcases L'.2.2.2.2.2 l hl with ⟨_, _, x⟩ | ⟨x, _⟩
        · exact Or.inl x
        · exact Or.inr x
      rw [o1, e6, bd1_s, bd3_s, if_pos rfl, e7, bd1_s, o2, m_keepText hl16 e8, bd2_s]
      obtain ⟨I8, hI8⟩ : ∃ A, A = st2 (st2 (st2 (st2 I7 70 5 0) 70 6 (-1)) 64 5 0) 0 8 0 := ⟨_, rfl⟩
      have i8 : ∀ q k, ¬ (q = 70 ∧ (k = 5 ∨ k = 6)) → ¬ (q = 64 ∧ k = 5) → ¬ (q = 0 ∧ k = 8) → I8 q k = I7 q k := fun q k x y z => by
        rw [hI8, s2x (by omega), s2x (by omega), s2x (by omega), s2x (by omega)]
      have h834 : I8 34 4 = Int32.ofNat i := by
        rw [i8 _ _ (by omega) (by omega) (by omega), p1 _ _ (by omega) (by omega), s1 _ _ (by omega)]; exact o3
      refine ⟨Int32.ofNat i, dr, bk, dr, I8, M6, st2 J2 0 62 (Int32.toInt64 (kcB M5 4 1)), ?_, rfl, ?_⟩
      · rw [← h834, hI8]; rfl
      have c8 : ∀ q k, dr ≤ q → q < dr + 16 → I8 q k = I6 q k := fun q k x y => by
        rw [i8 _ _ (by omega) (by omega) (by omega), p1 _ _ (by omega) (by omega)]
      have hbook := Dr.book (I' := I8) (M' := M6) hDr (fun q k x y z => by rw [c8 q k x y, s1 q k z]) (by rw [c8 _ _ (by omega) (by omega)]; exact s2) (by rw [c8 _ _ (by omega) (by omega)]; exact s3) (by rw [c8 _ _ (by omega) (by omega)]; exact s5) (by rw [c8 _ _ (by omega) (by omega)]; exact s6) (by rw [c8 _ _ (by omega) (by omega)]; exact s7) (fun k x y => by rw [b1 _ _ (by omega) (by omega) (by omega)]; exact kcB_0 x y) (fun q k x y z => by rw [b1 _ _ (by omega) (by omega) (by omega)]; exact kcB_at x y z)
      obtain ⟨B8, D8, L8⟩ := hbook
      have hI5 : ∀ q k, ¬ (dr ≤ q ∧ q < dr + 16) → q ≠ 34 → q ≠ 35 → q ≠ 36 → ¬ (q = 0 ∧ k = 1) → I5 q k = I q k := fun q k x y z u v => by rw [o8 q k x y z u, i4 _ _ u, i3b _ _ x y u v]
      have hI8f : ∀ q k, ¬ (dr ≤ q ∧ q < dr + 16) → q ≠ 34 → q ≠ 35 → q ≠ 36 → ¬ (38 ≤ q ∧ q ≤ 45) → ¬ (q = 0 ∧ (k = 1 ∨ k = 8)) → q ≠ 64 → q ≠ 70 → I8 q k = I q k := fun q k x y z u v w r t => by
        rw [i8 _ _ (by omega) (by omega) (by omega), p1 _ _ (by omega) (by omega), s1 _ _ (by omega), hI5 _ _ x y z u (by omega)]
      have hMr : ∀ p k, (p = 1 ∨ p = 2) → M6 p k = M p k := fun p k x => by
        rw [b1 _ _ (by omega) (by omega) (by omega), kcB_ne (by omega) (by omega), o9 _ _ (by unfold scr; omega), m4 _ _ (by unfold scr; omega) (by omega)]
      have hM0 : ∀ k, (k = 1 ∨ k = 4 ∨ k = 5) → M6 0 k = M5 0 k := fun k x => by
        rw [b1 _ _ (by omega) (by omega) (by omega), kcB_ne (by omega) (by omega)]
      have i834 : ∀ k, 5 ≤ k → I8 34 k = I3 34 k := fun k x => by
        rw [i8 _ _ (by omega) (by omega) (by omega), p1 _ _ (by omega) (by omega), s1 _ _ (by omega), o5 k x, i4 _ _ (by omega)]
      obtain ⟨z, z1, z2, z3⟩ := B8.sd
      have e810 : I8 38 10 = Int32.ofNat z := by
        rw [i8 _ _ (by omega) (by omega) (by omega), p7, ← z2, c8 _ _ (by omega) (by omega)]
      have ekc : kcB M5 4 1 = Int32.ofNat z := by
        rw [← z3, b1 _ _ (by omega) (by omega) (by omega)]
      have i8z : ∀ q h, 40 ≤ q → q ≤ 45 → h < 6 → I8 q h = 0 := fun q h x y w => by
        rw [i8 _ _ (by omega) (by omega) (by omega)]; exact p3 q h x y w
      have i839 : ∀ h, h < 6 → I8 39 h = if h < nh' then I6 (dr + 5) h else 0 := fun h w => by
        rw [i8 _ _ (by omega) (by omega) (by omega)]; exact p2 h w
      have pur : ∀ h, h < nh' → ∃ y, y ≤ 999 ∧ I8 39 h = Int32.ofNat y ∧ M6 26 h = Int32.ofNat y := fun h w => by
        obtain ⟨_, ⟨y, y1, y2, y3⟩, _, _⟩ := H'.2.2.2 h w
        refine ⟨y, y1, ?_, ?_⟩
        · rw [i839 h (by omega), if_pos w, s1 _ _ (by omega)]; exact y2
        · rw [b2 h (by omega), kcB_at (q := 9) (by omega) (by omega) (by show h < 6; omega)]; exact y3
      have zt : ∀ h, (0 : Nat).testBit h = false := fun h => Nat.zero_testBit h
      refine ⟨nk', nh', nw', kn', nd', 0, 0, 0, 0, 0, 0, 0, 0, ⟨by omega, hdr, ⟨0, by omega, ?_, ?_, fun k => ?_⟩, ⟨?_, ?_⟩, B8, D8, L8, fun j hj => ?_, fun j hj => ?_⟩, ⟨⟨fun h x _ => ?_, fun h x _ => ?_, fun h x _ => ?_, fun h x _ => ?_, fun h x _ => ?_, fun h x _ => ?_, fun h x => ?_, fun h x => ?_, fun h x y => ?_, by omega, fun h _ _ => zt h, by omega, fun k x => ?_, ?_, ?_, ?_, Or.inl b6, fun h x _ => ?_, fun h x _ => ?_, fun h x _ => ?_⟩, b4, b5, b8, ?_, ?_, fun h _ _ => zt h, by omega⟩, ⟨by omega, ?_, b12, fun i hi => absurd hi (by omega)⟩, ⟨?_, Or.inl ?_, fun x => ?_, fun x => ?_, fun x => ?_, fun x => ?_, fun x => ?_, fun x => ?_, fun x => ?_, fun x => ?_⟩, ⟨by omega, ?_, b10, ?_, Or.inl ?_, fun i hi => absurd hi (by omega)⟩⟩
      · rw [i8 _ _ (by omega) (by omega) (by omega), p1 _ _ (by omega) (by omega), s1 _ _ (by omega), o8 _ _ (by omega) (by omega) (by omega) (by omega)]; exact i41
      · rw [hM0 _ (by omega), o9 _ _ (by unfold scr; omega)]; exact m41
      · rw [hI8f _ _ (by omega) (by omega) (by omega) (by omega) (by omega) (by omega) (by omega) (by omega), hMr 1 k (by omega)]; exact t4 k
      · rw [i834 5 (by omega), hM0 _ (by omega), o6, f5 _ _ (by omega), g1 _ _ (by omega) (by omega) (by omega) (by omega), hI3, hM2, s2x (by omega), st2_at, if_pos rfl, s2x (by omega), s2x (by omega), st2_at, if_pos rfl]
      · rw [i834 6 (by omega), hM0 _ (by omega), o7, f5 _ _ (by omega), g1 _ _ (by omega) (by omega) (by omega) (by omega), hI3, hM2, st2_at, if_pos rfl, s2x (by omega), st2_at, if_pos rfl]
      · rw [hI8f _ _ (by omega) (by omega) (by omega) (by omega) (by omega) (by omega) (by omega) (by omega)]; exact w1 j hj
      · rw [hMr 2 j (by omega)]; exact w2 j hj
      · obtain ⟨y, _, y2, y3⟩ := pur h x
        rw [y2, y3]
      · rw [i8z _ _ (by omega) (by omega) (by omega), b3 _ _ (by omega) (by omega) (by omega)]
      · rw [i8z _ _ (by omega) (by omega) (by omega), b3 _ _ (by omega) (by omega) (by omega)]
      · rw [i8z _ _ (by omega) (by omega) (by omega), b3 _ _ (by omega) (by omega) (by omega)]
      · rw [i8z _ _ (by omega) (by omega) (by omega), zt]; rfl
      · rw [i8z _ _ (by omega) (by omega) (by omega), zt]; rfl
      · rw [i8z _ _ (by omega) (by omega) (by omega)]; rfl
      · rw [i8z _ _ (by omega) (by omega) (by omega)]; rfl
      · refine ⟨?_, i8z _ _ (by omega) (by omega) (by omega), i8z _ _ (by omega) (by omega) (by omega), i8z _ _ (by omega) (by omega) (by omega), i8z _ _ (by omega) (by omega) (by omega), i8z _ _ (by omega) (by omega) (by omega)⟩
        rw [i839 h y, if_neg (by omega)]
      · rw [i8z _ _ (by omega) (by omega) (by omega), b3 _ _ (by omega) (by omega) (by omega)]
      · rw [i8 _ _ (by omega) (by omega) (by omega), p4, b7]
      · rw [i8 _ _ (by omega) (by omega) (by omega), p5]; rfl
      · rw [i8 _ _ (by omega) (by omega) (by omega), p6, b6]
      · obtain ⟨y, y1, _, y3⟩ := pur h x
        rw [y3, n_toInt (by omega)]; omega
      · rw [b3 _ _ (by omega) (by omega) (by omega)]; decide
      · rw [b3 _ _ (by omega) (by omega) (by omega)]; decide
      · rw [e810, ekc, st2_at, if_pos rfl]
      · rw [e810, n_toInt (by omega)]; omega
      · rw [hI8, s2x (by omega), st2_at, if_pos rfl]; rfl
      · rw [b13, hI8, st2_at, if_pos rfl]
      · rw [hI8, st2_at, if_pos rfl]
      all_goals first
        | (rw [hI8, st2_at, if_pos rfl] at x; exact absurd x (by decide))
        | (rw [hI8, s2x (by omega), s2x (by omega), s2x (by omega), st2_at, if_pos rfl]; rfl)
        | (rw [b11, hI8, s2x (by omega), s2x (by omega), st2_at, if_pos rfl])
        | (rw [hI8, s2x (by omega), s2x (by omega), st2_at, if_pos rfl])
    · rw [o1, o2]
      refine ⟨-1, bk, dr, dr, I5, M5, J2, rfl, rfl, ?_⟩
      have hI5 : ∀ q k, ¬ (dr ≤ q ∧ q < dr + 16) → q ≠ 34 → q ≠ 35 → q ≠ 36 → ¬ (q = 0 ∧ k = 1) → I5 q k = I q k := fun q k x y z u v => by rw [o4 q k x y z u, i4 _ _ u, i3b _ _ x y u v]
      have hM5 : ∀ q k, ¬ scr q k → ¬ (q = 0 ∧ (k = 1 ∨ k = 2)) → M5 q k = M q k := fun q k x y => by rw [o5 q k x, m4 q k x y]
      have hrow : ∀ p k, 4 ≤ p → p < 22 → k < rn6 p → M5 p k = M p k := fun p k x y z => by
        refine hM5 p k ?_ (by omega)
        unfold rn6 at z
        unfold scr
        rcases (show p = 4 ∨ p = 12 ∨ p = 13 ∨ (16 ≤ p ∧ p ≤ 18) ∨ (19 ≤ p ∧ p ≤ 21) ∨ ((5 ≤ p ∧ p ≤ 11) ∨ p = 14 ∨ p = 15) by omega) with e | e | e | e | e | e
        · rw [if_pos e] at z; omega
        · rw [if_neg (by omega), if_pos (by omega)] at z; omega
        · rw [if_neg (by omega), if_pos (by omega)] at z; omega
        · rw [if_neg (by omega), if_neg (by omega), if_pos (by omega)] at z; omega
        · rw [if_neg (by omega), if_neg (by omega), if_neg (by omega), if_pos (by omega)] at z; omega
        · rw [if_neg (by omega), if_neg (by omega), if_neg (by omega), if_neg (by omega)] at z; omega
      have hM0 : ∀ k, ¬ ((4 ≤ k ∧ k ≤ 11) ∨ (17 ≤ k ∧ k ≤ 21) ∨ (43 ≤ k ∧ k ≤ 48)) → k ≠ 1 → k ≠ 2 → M5 0 k = M 0 k := fun k x y z => hM5 0 k (by unfold scr; omega) (by omega)
      have hMr : ∀ p k, (p = 1 ∨ p = 2 ∨ 24 ≤ p) → M5 p k = M p k := fun p k x => hM5 p k (by unfold scr; omega) (by omega)
      refine ⟨nk, nh, nw, kn, nd, su, dn, dy, us, ds, sui, dni, dyi, ⟨hbd, hdr, ⟨0, by omega, ?_, ?_, fun k => ?_⟩, o3, B.fc (fun p k x y => hI5 p k (by omega) (by omega) (by omega) (by omega) (by omega)) hrow (fun k x y => hM0 k (by omega) (by omega) (by omega)), D.fc lk (fun p k x y => hI5 p k (by omega) (by omega) (by omega) (by omega) (by omega)) hrow (fun k x y => hM0 k (by omega) (by omega) (by omega)), L.fc (fun p k x y => hI5 p k (by omega) (by omega) (by omega) (by omega) (by omega)) hrow, fun j hj => ?_, fun j hj => ?_⟩, N.fr lh (fun p x y => funext fun k => hI5 p k (by omega) (by omega) (by omega) (by omega) (by omega)) (fun p k x y z => hMr p k (by omega)) (fun p x y => hMr p 0 (by omega)) rfl, U.fr lh (fun p x y => funext fun k => hI5 p k (by omega) (by omega) (by omega) (by omega) (by omega)) (funext fun k => hMr 40 k (by omega)) (hM0 _ (by omega) (by omega) (by omega)) (hMr _ _ (by omega)) (hMr _ _ (by omega)) (fun h _ => hMr _ _ (by omega)), G.fr (hI5 _ _ (by omega) (by omega) (by omega) (by omega) (by omega)) (fun p x y => funext fun k => hI5 p k (by omega) (by omega) (by omega) (by omega) (by omega)) (funext fun k => hMr 41 k (by omega)) (funext fun k => hMr 42 k (by omega)) (hM0 _ (by omega) (by omega) (by omega)) rfl, E.fr (funext fun k => hI5 70 k (by omega) (by omega) (by omega) (by omega) (by omega)) (funext fun k => hI5 71 k (by omega) (by omega) (by omega) (by omega) (by omega)) (funext fun k => hI5 72 k (by omega) (by omega) (by omega) (by omega) (by omega)) (funext fun k => hI5 73 k (by omega) (by omega) (by omega) (by omega) (by omega)) (funext fun k => hI5 74 k (by omega) (by omega) (by omega) (by omega) (by omega)) (funext fun k => hMr 38 k (by omega)) (hM0 _ (by omega) (by omega) (by omega)) (hM0 _ (by omega) (by omega) (by omega))⟩
      · rw [o4 _ _ (by omega) (by omega) (by omega) (by omega)]; exact i41
      · rw [o5 _ _ (by unfold scr; omega)]; exact m41
      · rw [hI5 _ _ (by omega) (by omega) (by omega) (by omega) (by omega), hMr 1 k (by omega)]; exact t4 k
      · rw [hI5 _ _ (by omega) (by omega) (by omega) (by omega) (by omega)]; exact w1 j hj
      · rw [hMr 2 j (by omega)]; exact w2 j hj
  · have hc : a < 0 ∨ ¬ a ≤ Int32.ofNat t := by
      by_cases hz : 0 ≤ a.toInt
      · refine Or.inr (fun h => ha ⟨hz, ?_⟩)
        have := Int32.le_iff_toInt_le.mp h
        rw [n_toInt (by omega)] at this; exact this
      · exact Or.inl (Int32.lt_iff_toInt_lt.mpr (by show a.toInt < 0; omega))
    refine ⟨-2, bk, dr, it, I, st2 M 0 2 0, J2, ?_, ?_, hR.st0⟩
    · delta f_X10_text
      rw [lt_e]
      by_cases h0 : a < 0
      · rw [if_pos h0]
      · rw [if_neg h0, t2, if_neg (by rcases hc with h | h; exact absurd h h0; exact h)]
    · rw [text_e]
      by_cases h0 : a < 0
      · rw [if_pos h0]
      · rw [if_neg h0, em1, if_neg (by rcases hc with h | h; exact absurd h h0; exact h)]
