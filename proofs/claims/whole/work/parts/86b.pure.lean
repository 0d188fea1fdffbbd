/-! every call, every run -/
theorem R.bk {bk dr it : Nat} {I : MI} {J : MJ} {M : MI} {J2 : MJ} (h : R bk dr it I J M J2) : isBk bk = true ∧ isBk dr = true ∧ isBk it = true := by
  obtain ⟨nk, nh, nw, kn, nd, su, dn, dy, us, ds, sui, dni, dyi, ⟨h1, h2, _⟩, _⟩ := h
  rcases h1 with ⟨rfl, rfl⟩ | ⟨rfl, rfl⟩ <;> rcases h2 with rfl | rfl <;> decide
theorem pure_run {N : Nat} {xs : Nat → Int32} (hN : N ≤ 3072) {I : MI} {J : MJ} {M : MI} {J2 J3 : MJ} (h : R 2 18 18 I J M J2) : fix9 (f_law N xs) 513 0 2 18 18 I J M J2 J3 = some () := by
  refine law_it (R := R) (fun _ _ _ _ _ _ _ h => h.bk) ?_ ?_ ?_ ?_ ?_ ?_ ?_ ?_ ?_ ?_ ?_ ?_ ?_ ?_ ?_ ?_ ?_ ?_ ?_ ?_ ?_ ?_ ?_ ?_ ?_ ?_ ?_ ?_ ?_ ?_ ?_ ?_ ?_ ?_ ?_ ?_ ?_ ?_ ?_ ?_ ?_ ?_ ?_ hN 513 0 2 18 18 I J M J2 J3 (by decide) (by decide) (by decide) h
  · intro bk dr it I J I2 J2 A1 A2 A3 A4 A5 h
    obtain ⟨nk, nh, nw, kn, nd, su, dn, dy, us, ds, sui, dni, dyi, hl⟩ := h
    obtain ⟨v, I', M', e1, e2, t, f1, f2⟩ := c_feed A1 A2 A3 A4 A5 hl.1.2.2.1
    exact ⟨v, I', M', e1, e2, hl.F t f1 f2⟩
  · intro bk dr it I J I2 J2 A1 h
    exact r_text h A1
  · intro bk dr it I J I2 J2 A1 h
    obtain ⟨nk, nh, nw, kn, nd, su, dn, dy, us, ds, sui, dni, dyi, hl⟩ := id h
    obtain ⟨v, e1, e2⟩ := c_fault A1 hl.1.2.2.2.1.1 hl.1.2.2.2.1.2
    exact ⟨v, _, e1, e2, h.st0⟩
  · intro bk dr it I J I2 J2 A1 A2 h
    obtain ⟨nk, nh, nw, kn, nd, su, dn, dy, us, ds, sui, dni, dyi, ⟨hbd, hit, T, F, Bk, Dy, L, w1, w2⟩, Nw, U, G, E⟩ := id h
    obtain ⟨v, e1, e2⟩ := c_named Bk A1 A2
    exact ⟨v, _, e1, e2, h.st0⟩
  · intro bk dr it I J I2 J2 J3 A1 A2 h
    obtain ⟨nk, nh, nw, kn, nd, su, dn, dy, us, ds, sui, dni, dyi, ⟨hbd, hit, T, F, Bk, Dy, L, w1, w2⟩, Nw, U, G, E⟩ := id h
    obtain ⟨z, J4, y, I4, e1, e2, e3, e4, f⟩ := c_house Bk (Nw.town Bk.lh) J3 A1 A2
    exact ⟨z, J4, y, I4, e1, e2, e3, e4, h.st f⟩
  · intro bk dr it I J I2 J2 A1 A2 h
    obtain ⟨nk, nh, nw, kn, nd, su, dn, dy, us, ds, sui, dni, dyi, ⟨hbd, hit, T, F, Bk, Dy, L, w1, w2⟩, Nw, U, G, E⟩ := id h
    obtain ⟨v, e1, e2⟩ := c_kind Bk Nw.tw.ti A1 A2
    exact ⟨v, _, e1, e2, h.st0⟩
  · intro bk dr it I J I2 J2 A1 h
    obtain ⟨nk, nh, nw, kn, nd, su, dn, dy, us, ds, sui, dni, dyi, ⟨hbd, hit, T, F, Bk, Dy, L, w1, w2⟩, Nw, U, G, E⟩ := id h
    obtain ⟨v, e1, e2⟩ := c_weather Bk Dy (Nw.town Bk.lh) A1
    exact ⟨v, _, e1, e2, h.st0⟩
  · intro bk dr it I J I2 J2 A1 A2 A3 h
    obtain ⟨nk, nh, nw, kn, nd, su, dn, dy, us, ds, sui, dni, dyi, ⟨hbd, hit, T, F, Bk, Dy, L, w1, w2⟩, Nw, U, G, E⟩ := id h
    obtain ⟨v, I', J', M', J2', e1, e2, f⟩ := c_law J (by omega) Bk Dy L Nw A1 A2 A3
    exact ⟨v, I', J', M', J2', e1, e2, h.T f⟩
  · intro bk dr it I J I2 J2 A1 h
    obtain ⟨nk, nh, nw, kn, nd, su, dn, dy, us, ds, sui, dni, dyi, hl⟩ := h
    obtain ⟨v, I', M', dn', us', e1, e2, f, n, u⟩ := c_blind hl.1.2.2.2.2.1 hl.2.1 hl.2.2.1 A1
    exact ⟨v, I', M', e1, e2, hl.U f n u⟩
  · intro bk dr it I J I2 J2 A1 h
    obtain ⟨nk, nh, nw, kn, nd, su, dn, dy, us, ds, sui, dni, dyi, hl⟩ := h
    obtain ⟨v, I', M', us', e1, e2, f, n, u⟩ := c_send hl.1.2.2.2.2.1 hl.2.1 hl.2.2.1 A1
    exact ⟨v, I', M', e1, e2, hl.U f n u⟩
  · intro bk dr it I J I2 J2 A1 A2 A3 h
    obtain ⟨nk, nh, nw, kn, nd, su, dn, dy, us, ds, sui, dni, dyi, hl⟩ := h
    obtain ⟨v, I', M', us', e1, e2, f, n, u⟩ := c_lend hl.1.2.2.2.2.1 hl.2.1 hl.2.2.1 A1 A2 A3
    exact ⟨v, I', M', e1, e2, hl.U f n u⟩
  · intro bk dr it I J I2 J2 A1 h
    obtain ⟨nk, nh, nw, kn, nd, su, dn, dy, us, ds, sui, dni, dyi, hl⟩ := h
    have hb := hl.1.1
    obtain ⟨v, I', J', M', J2', su', dy', e1, e2, f, n, u⟩ := c_go J (by omega) hl.1.2.2.2.2.1 hl.1.2.2.2.2.2.1 hl.1.2.2.2.2.2.2.1 hl.2.1 A1
    exact ⟨v, I', J', M', J2', e1, e2, hl.G f n u⟩
  · intro bk dr it I J I2 J2 A1 A2 A3 h
    obtain ⟨nk, nh, nw, kn, nd, su, dn, dy, us, ds, sui, dni, dyi, ⟨hbd, hit, T, F, Bk, Dy, L, w1, w2⟩, Nw, U, G, E⟩ := id h
    obtain ⟨v, I', J', M', J2', e1, e2, f⟩ := c_ahead J (by omega) Bk Dy L Nw A1 A2 A3
    exact ⟨v, I', J', M', J2', e1, e2, h.T f⟩
  · intro bk dr it I J I2 J2 A1 h
    obtain ⟨nk, nh, nw, kn, nd, su, dn, dy, us, ds, sui, dni, dyi, ⟨hbd, hit, T, F, Bk, Dy, L, w1, w2⟩, Nw, U, G, E⟩ := id h
    obtain ⟨v, I', J', M', J2', e1, e2, f⟩ := c_unt J (by omega) Bk Dy L Nw (s := 0) (by omega) A1
    exact ⟨v, I', J', M', J2', e1, e2, h.T f⟩
  · intro bk dr it I J I2 J2 A1 h
    obtain ⟨nk, nh, nw, kn, nd, su, dn, dy, us, ds, sui, dni, dyi, ⟨hbd, hit, T, F, Bk, Dy, L, w1, w2⟩, Nw, U, G, E⟩ := id h
    obtain ⟨v, I', J', M', J2', e1, e2, f⟩ := c_unt J (by omega) Bk Dy L Nw (s := 1) (by omega) A1
    exact ⟨v, I', J', M', J2', e1, e2, h.T f⟩
  · intro bk dr it I J I2 J2 A1 A2 h
    obtain ⟨nk, nh, nw, kn, nd, su, dn, dy, us, ds, sui, dni, dyi, ⟨hbd, hit, T, F, Bk, Dy, L, w1, w2⟩, Nw, U, G, E⟩ := id h
    obtain ⟨v, I', M', e1, e2, f⟩ := c_plan (by omega) Bk Dy (Nw.town Bk.lh) A1 A2
    exact ⟨v, I', M', e1, e2, h.Pl f⟩
  · intro bk dr it I J I2 J2 A1 A2 A3 A4 h
    obtain ⟨nk, nh, nw, kn, nd, su, dn, dy, us, ds, sui, dni, dyi, ⟨hbd, hit, T, F, Bk, Dy, L, w1, w2⟩, Nw, U, G, E⟩ := id h
    obtain ⟨v, J', e1, e2⟩ := c_share J Bk A1 A2 A3 A4
    exact ⟨v, J', _, e1, e2, h.st0⟩
  · intro bk dr it I J I2 J2 A1 A2 h
    obtain ⟨nk, nh, nw, kn, nd, su, dn, dy, us, ds, sui, dni, dyi, ⟨hbd, hit, T, F, Bk, Dy, L, w1, w2⟩, Nw, U, G, E⟩ := id h
    obtain ⟨v, J', e1, e2⟩ := c_waits J Bk Dy A1 A2
    exact ⟨v, J', _, e1, e2, h.st0⟩
  · intro bk dr it I J I2 J2 A1 A2 A3 h
    obtain ⟨nk, nh, nw, kn, nd, su, dn, dy, us, ds, sui, dni, dyi, ⟨hbd, hit, T, F, Bk, Dy, L, w1, w2⟩, Nw, U, G, E⟩ := id h
    obtain ⟨v, e1, e2⟩ := c_came Bk A1 A2 A3
    exact ⟨v, _, e1, e2, h.st0⟩
  · intro bk dr it I J I2 J2 A1 A2 A3 h
    obtain ⟨nk, nh, nw, kn, nd, su, dn, dy, us, ds, sui, dni, dyi, ⟨hbd, hit, T, F, Bk, Dy, L, w1, w2⟩, Nw, U, G, E⟩ := id h
    obtain ⟨v, J', e1, e2⟩ := c_likely J Bk Dy A1 A2 A3
    exact ⟨v, J', _, e1, e2, h.st0⟩
  · intro bk dr it I J I2 J2 A1 A2 A3 h
    obtain ⟨nk, nh, nw, kn, nd, su, dn, dy, us, ds, sui, dni, dyi, ⟨hbd, hit, T, F, Bk, Dy, L, w1, w2⟩, Nw, U, G, E⟩ := id h
    obtain ⟨v, e1, e2⟩ := c_rests Bk A1 A2 A3
    exact ⟨v, _, e1, e2, h.st0⟩
  · intro bk dr it I J I2 J2 A1 A2 A3 A4 h
    obtain ⟨nk, nh, nw, kn, nd, su, dn, dy, us, ds, sui, dni, dyi, ⟨hbd, hit, T, F, Bk, Dy, L, w1, w2⟩, Nw, U, G, E⟩ := id h
    obtain ⟨v, e1, e2⟩ := c_rest Bk A1 A2 A3 A4
    exact ⟨v, _, e1, e2, h.st0⟩
  · intro bk dr it I J I2 J2 h
    obtain ⟨nk, nh, nw, kn, nd, su, dn, dy, us, ds, sui, dni, dyi, ⟨hbd, hit, T, F, Bk, Dy, L, w1, w2⟩, Nw, U, G, E⟩ := id h
    obtain ⟨v, e1, e2⟩ := c_richest Bk (Nw.town Bk.lh)
    exact ⟨v, _, e1, e2, h.st0⟩
  · intro bk dr it I J I2 J2 A1 A2 h
    obtain ⟨nk, nh, nw, kn, nd, su, dn, dy, us, ds, sui, dni, dyi, ⟨hbd, hit, T, F, Bk, Dy, L, w1, w2⟩, Nw, U, G, E⟩ := id h
    obtain ⟨v, e1, e2⟩ := c_leave Bk A1 A2
    exact ⟨v, _, e1, e2, h.st0⟩
  · intro bk dr it I J I2 J2 A1 A2 h
    obtain ⟨nk, nh, nw, kn, nd, su, dn, dy, us, ds, sui, dni, dyi, ⟨hbd, hit, T, F, Bk, Dy, L, w1, w2⟩, Nw, U, G, E⟩ := id h
    obtain ⟨v, I', J', M', J2', e1, e2, f⟩ := c_blinds J (by omega) Bk Dy L Nw A1 A2
    exact ⟨v, I', J', M', J2', e1, e2, h.T f⟩
  · intro bk dr it I J I2 J2 A1 h
    obtain ⟨nk, nh, nw, kn, nd, su, dn, dy, us, ds, sui, dni, dyi, ⟨hbd, hit, T, F, Bk, Dy, L, w1, w2⟩, Nw, U, G, E⟩ := id h
    obtain ⟨v, e1, e2⟩ := c_among Bk (Nw.town Bk.lh) A1
    exact ⟨v, _, e1, e2, h.st0⟩
  · intro bk dr it I J I2 J2 h
    obtain ⟨nk, nh, nw, kn, nd, su, dn, dy, us, ds, sui, dni, dyi, ⟨hbd, hit, T, F, Bk, Dy, L, w1, w2⟩, Nw, U, G, E⟩ := id h
    obtain ⟨v, I', J', M', J2', e1, e2, f⟩ := c_rescue J (by omega) Bk Dy L Nw
    exact ⟨v, I', J', M', J2', e1, e2, h.T f⟩
  · intro bk dr it I J I2 J2 h
    obtain ⟨nk, nh, nw, kn, nd, su, dn, dy, us, ds, sui, dni, dyi, ⟨hbd, hit, T, F, Bk, Dy, L, w1, w2⟩, Nw, U, G, E⟩ := id h
    obtain ⟨v, e1, e2⟩ := c_termIn Bk (Nw.town Bk.lh)
    exact ⟨v, _, e1, e2, h.st0⟩
  · intro bk dr it I J I2 J2 A1 A2 h
    obtain ⟨nk, nh, nw, kn, nd, su, dn, dy, us, ds, sui, dni, dyi, ⟨hbd, hit, T, F, Bk, Dy, L, w1, w2⟩, Nw, U, G, E⟩ := id h
    obtain ⟨v, e1, e2⟩ := c_often Bk Dy (Nw.town Bk.lh) A1 A2
    exact ⟨v, _, e1, e2, h.st0⟩
  · intro bk dr it I J I2 J2 A1 h
    obtain ⟨nk, nh, nw, kn, nd, su, dn, dy, us, ds, sui, dni, dyi, ⟨hbd, hit, T, F, Bk, Dy, L, w1, w2⟩, Nw, U, G, E⟩ := id h
    obtain ⟨v, I', J', M', J2', e1, e2, f⟩ := c_unt J (by omega) Bk Dy L Nw (s := 2) (by omega) A1
    exact ⟨v, I', J', M', J2', e1, e2, h.T f⟩
  · intro bk dr it I J I2 J2 A1 h
    obtain ⟨nk, nh, nw, kn, nd, su, dn, dy, us, ds, sui, dni, dyi, ⟨hbd, hit, T, F, Bk, Dy, L, w1, w2⟩, Nw, U, G, E⟩ := id h
    obtain ⟨v, e1, e2⟩ := c_have Bk (Nw.town Bk.lh) A1
    exact ⟨v, _, e1, e2, h.st0⟩
  · intro bk dr it I J I2 J2 h
    obtain ⟨nk, nh, nw, kn, nd, su, dn, dy, us, ds, sui, dni, dyi, ⟨hbd, hit, T, F, Bk, Dy, L, w1, w2⟩, Nw, U, G, E⟩ := id h
    obtain ⟨v, e1, e2⟩ := c_dearest Bk
    exact ⟨v, _, e1, e2, h.st0⟩
  · intro bk dr it I J I2 J2 A1 A2 A3 t h
    obtain ⟨nk, nh, nw, kn, nd, su, dn, dy, us, ds, sui, dni, dyi, hl⟩ := h
    obtain ⟨v, I', M', ds', e1, e2, d, f⟩ := c_note hl.1.2.2.2.2.1 hl.2.2.2.2 A1 A2 A3 t
    exact ⟨v, I', M', e1, e2, hl.D f d⟩
  · intro bk dr it I J I2 J2 A1 h
    obtain ⟨nk, nh, nw, kn, nd, su, dn, dy, us, ds, sui, dni, dyi, hl⟩ := h
    obtain ⟨v, I', M', ds', e1, e2, d, f⟩ := c_strike hl.2.2.2.2 A1
    exact ⟨v, I', M', e1, e2, hl.D f d⟩
  · intro bk dr it I J I2 J2 A1 h
    obtain ⟨nk, nh, nw, kn, nd, su, dn, dy, us, ds, sui, dni, dyi, hl⟩ := h
    obtain ⟨v, I', M', e1, e2, d, f⟩ := c_known hl.2.2.2.2 A1
    exact ⟨v, I', M', e1, e2, hl.D f d⟩
  · intro bk dr it I J I2 J2 A1 h
    obtain ⟨nk, nh, nw, kn, nd, su, dn, dy, us, ds, sui, dni, dyi, hl⟩ := h
    have hb := hl.1.1
    obtain ⟨v, I', M', e1, e2, d, f⟩ := c_fits (by omega) hl.1.2.2.2.2.1 hl.2.2.2.2 A1
    exact ⟨v, I', M', e1, e2, hl.D f d⟩
  · intro bk dr it I J I2 J2 A1 A2 h
    obtain ⟨nk, nh, nw, kn, nd, su, dn, dy, us, ds, sui, dni, dyi, hl⟩ := h
    have hb := hl.1.1
    obtain ⟨v, I', M', e1, e2, d, f⟩ := c_ask (by omega) hl.1.2.2.2.2.1 hl.2.2.2.2 A1 A2
    exact ⟨v, I', M', e1, e2, hl.D f d⟩
  · intro bk dr it I J I2 J2 A1 A2 A3 h
    obtain ⟨nk, nh, nw, kn, nd, su, dn, dy, us, ds, sui, dni, dyi, ⟨hbd, hit, T, F, Bk, Dy, L, w1, w2⟩, Nw, U, G, E⟩ := id h
    obtain ⟨v, I', J', M', J2', e1, e2, f⟩ := c_chance J (by omega) Bk Dy L Nw A1 A2 A3
    exact ⟨v, I', J', M', J2', e1, e2, h.T f⟩
  · intro bk dr it I J I2 J2 A1 A2 A3 h
    obtain ⟨nk, nh, nw, kn, nd, su, dn, dy, us, ds, sui, dni, dyi, ⟨hbd, hit, T, F, Bk, Dy, L, w1, w2⟩, Nw, U, G, E⟩ := id h
    obtain ⟨v, I', J', M', J2', e1, e2, f⟩ := c_tried J (by omega) Bk Dy L Nw A1 A2 A3
    exact ⟨v, I', J', M', J2', e1, e2, h.T f⟩
  · intro bk dr it I J I2 J2 h
    obtain ⟨nk, nh, nw, kn, nd, su, dn, dy, us, ds, sui, dni, dyi, hl⟩ := h
    obtain ⟨v, I', M', dn', us', e1, e2, f, n, u⟩ := c_undo hl.1.2.2.2.2.1 hl.2.1 hl.2.2.1
    exact ⟨v, I', M', e1, e2, hl.U f n u⟩
  · intro bk dr it I J I2 J2 h
    obtain ⟨nk, nh, nw, kn, nd, su, dn, dy, us, ds, sui, dni, dyi, hl⟩ := h
    obtain ⟨v, I', M', J', e1, e2, f, g⟩ := c_keep hl.1.2.2.2.2.1 hl.2.1
    exact ⟨v, I', M', J', e1, e2, hl.K f g⟩
  · intro bk dr it I J I2 J2 h
    obtain ⟨nk, nh, nw, kn, nd, su, dn, dy, us, ds, sui, dni, dyi, hl⟩ := h
    obtain ⟨v, I', M', J', su', dn', dy', us', e1, e2, f, n, u⟩ := c_back hl.1.2.2.2.2.1 hl.2.1 hl.2.2.1 hl.2.2.2.1
    exact ⟨v, I', M', J', e1, e2, hl.B f n u⟩
  · intro bk dr it I J I2 J2 A1 h
    obtain ⟨nk, nh, nw, kn, nd, su, dn, dy, us, ds, sui, dni, dyi, ⟨hbd, hit, T, F, Bk, Dy, L, w1, w2⟩, Nw, U, G, E⟩ := id h
    obtain ⟨x1, x2, x3, x4, x5, _⟩ := E
    obtain ⟨v, e1, e2⟩ := c_count Bk (Nw.town Bk.lh) (x2.trans x3.symm) x4.symm (by
      rcases x5 with h | ⟨n, hn, h⟩
      · exact Or.inl h
      · exact Or.inr ⟨n, by omega, h⟩) (U.2.1.trans U.2.2.1.symm) A1
    exact ⟨v, _, e1, e2, h.st0⟩
theorem pure_law (N : Nat) (xs : Nat → Int32) (hN : N ≤ 3072) : f_whole N xs = some () := by
  obtain ⟨⟨I, J⟩, e1, c⟩ := i_comp
  obtain ⟨⟨M, J2⟩, e2, m⟩ := i_model
  delta f_whole
  rw [e1, bd2_s, e2, bd2_s]
  exact pure_run hN (R_init c m)
