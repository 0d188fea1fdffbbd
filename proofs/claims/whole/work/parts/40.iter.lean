/-! the law's loop from the calls' lemmas -/
set_option maxHeartbeats 4000000 in
set_option maxRecDepth 100000 in
theorem law_st {R : Nat → Nat → Nat → MI → MJ → MI → MJ → Prop} (hbk : ∀ bk dr it I J I2 J2, R bk dr it I J I2 J2 → isBk bk = true ∧ isBk dr = true ∧ isBk it = true) (h0 : ∀ bk dr it I J I2 J2 A1 A2 A3 A4 A5, R bk dr it I J I2 J2 → ∃ x10 I11 I13, f_X10_feed I A1 A2 A3 A4 A5 = some (x10, I11) ∧ f_X11_feed I2 A1 A2 A3 A4 A5 = some (x10, I13) ∧ R bk dr it I11 J I13 J2) (h1 : ∀ bk dr it I J I2 J2 A1, R bk dr it I J I2 J2 → ∃ x14 bk15 dr16 it17 I18 I20 J21, f_X10_text bk dr it I A1 = some (x14, bk15, dr16, it17, I18) ∧ f_X11_text I2 J2 A1 = some (x14, I20, J21) ∧ R bk15 dr16 it17 I18 J I20 J21) (h2 : ∀ bk dr it I J I2 J2 A1, R bk dr it I J I2 J2 → ∃ x22 I24, f_X10_fault I A1 = some x22 ∧ f_X11_fault I2 A1 = some (x22, I24) ∧ R bk dr it I J I24 J2) (h3 : ∀ bk dr it I J I2 J2 A1 A2, R bk dr it I J I2 J2 → ∃ x25 I27, f_X10_named bk I A1 A2 = some x25 ∧ f_X11_named I2 A1 A2 = some (x25, I27) ∧ R bk dr it I J I27 J2) (h4 : ∀ bk dr it I J I2 J2 J3 A1 A2, R bk dr it I J I2 J2 → ∃ x J4 y I4, f_L_house bk I J3 A1 A2 = some (x, J4) ∧ f_X11_house I2 A1 A2 = some (y, I4) ∧ f_X11_thrown I4 = some x ∧ (x = 0 → J4 0 0 = y.toInt64) ∧ R bk dr it I J I4 J2) (h5 : ∀ bk dr it I J I2 J2 A1 A2, R bk dr it I J I2 J2 → ∃ x33 I35, f_X10_kind bk I A1 A2 = some x33 ∧ f_X11_kind I2 A1 A2 = some (x33, I35) ∧ R bk dr it I J I35 J2) (h6 : ∀ bk dr it I J I2 J2 A1, R bk dr it I J I2 J2 → ∃ x36 I38, f_X10_weather bk I A1 = some x36 ∧ f_X11_weather I2 A1 = some (x36, I38) ∧ R bk dr it I J I38 J2) (h7 : ∀ bk dr it I J I2 J2 A1 A2 A3, R bk dr it I J I2 J2 → ∃ x39 I40 J41 I43 J44, f_X10_law bk I J A1 A2 A3 = some (x39, I40, J41) ∧ f_X11_law I2 J2 A1 A2 A3 = some (x39, I43, J44) ∧ R bk dr it I40 J41 I43 J44) (h8 : ∀ bk dr it I J I2 J2 A1, R bk dr it I J I2 J2 → ∃ x45 I46 I48, f_X10_blind bk I A1 = some (x45, I46) ∧ f_X11_blind I2 A1 = some (x45, I48) ∧ R bk dr it I46 J I48 J2) (h9 : ∀ bk dr it I J I2 J2 A1, R bk dr it I J I2 J2 → ∃ x49 I50 I52, f_X10_send bk I A1 = some (x49, I50) ∧ f_X11_send I2 A1 = some (x49, I52) ∧ R bk dr it I50 J I52 J2) (h10 : ∀ bk dr it I J I2 J2 A1 A2 A3, R bk dr it I J I2 J2 → ∃ x53 I54 I56, f_X10_lend bk I A1 A2 A3 = some (x53, I54) ∧ f_X11_lend I2 A1 A2 A3 = some (x53, I56) ∧ R bk dr it I54 J I56 J2) (h11 : ∀ bk dr it I J I2 J2 A1, R bk dr it I J I2 J2 → ∃ x57 I58 J59 I61 J62, f_X10_go bk I J A1 = some (x57, I58, J59) ∧ f_X11_go I2 J2 A1 = some (x57, I61, J62) ∧ R bk dr it I58 J59 I61 J62) (h12 : ∀ bk dr it I J I2 J2 A1 A2 A3, R bk dr it I J I2 J2 → ∃ x63 I64 J65 I67 J68, f_X10_ahead bk I J A1 A2 A3 = some (x63, I64, J65) ∧ f_X11_ahead I2 J2 A1 A2 A3 = some (x63, I67, J68) ∧ R bk dr it I64 J65 I67 J68) (h13 : ∀ bk dr it I J I2 J2 A1, R bk dr it I J I2 J2 → ∃ x69 I70 J71 I73 J74, f_X10_sold bk I J A1 = some (x69, I70, J71) ∧ f_X11_sold I2 J2 A1 = some (x69, I73, J74) ∧ R bk dr it I70 J71 I73 J74) (h14 : ∀ bk dr it I J I2 J2 A1, R bk dr it I J I2 J2 → ∃ x75 I76 J77 I79 J80, f_X10_credit bk I J A1 = some (x75, I76, J77) ∧ f_X11_credit I2 J2 A1 = some (x75, I79, J80) ∧ R bk dr it I76 J77 I79 J80) (h15 : ∀ bk dr it I J I2 J2 A1 A2, R bk dr it I J I2 J2 → ∃ x81 I82 I84, f_X10_plan bk I A1 A2 = some (x81, I82) ∧ f_X11_plan I2 A1 A2 = some (x81, I84) ∧ R bk dr it I82 J I84 J2) (h16 : ∀ bk dr it I J I2 J2 A1 A2 A3 A4, R bk dr it I J I2 J2 → ∃ x85 J86 I88, f_X10_share bk I J A1 A2 A3 A4 = some (x85, J86) ∧ f_X11_share I2 A1 A2 A3 A4 = some (x85, I88) ∧ R bk dr it I J86 I88 J2) (h17 : ∀ bk dr it I J I2 J2 A1 A2, R bk dr it I J I2 J2 → ∃ x89 J90 I92, f_X10_waits bk I J A1 A2 = some (x89, J90) ∧ f_X11_waits I2 A1 A2 = some (x89, I92) ∧ R bk dr it I J90 I92 J2) (h18 : ∀ bk dr it I J I2 J2 A1 A2 A3, R bk dr it I J I2 J2 → ∃ x93 I95, f_X10_came bk I A1 A2 A3 = some x93 ∧ f_X11_came I2 A1 A2 A3 = some (x93, I95) ∧ R bk dr it I J I95 J2) (h19 : ∀ bk dr it I J I2 J2 A1 A2 A3, R bk dr it I J I2 J2 → ∃ x96 J97 I99, f_X10_likely bk I J A1 A2 A3 = some (x96, J97) ∧ f_X11_likely I2 A1 A2 A3 = some (x96, I99) ∧ R bk dr it I J97 I99 J2) (h20 : ∀ bk dr it I J I2 J2 A1 A2 A3, R bk dr it I J I2 J2 → ∃ x100 I102, f_X10_rests bk I A1 A2 A3 = some x100 ∧ f_X11_rests I2 A1 A2 A3 = some (x100, I102) ∧ R bk dr it I J I102 J2) (h21 : ∀ bk dr it I J I2 J2 A1 A2 A3 A4, R bk dr it I J I2 J2 → ∃ x103 I105, f_X10_rest bk I A1 A2 A3 A4 = some x103 ∧ f_X11_rest I2 A1 A2 A3 A4 = some (x103, I105) ∧ R bk dr it I J I105 J2) (h22 : ∀ bk dr it I J I2 J2, R bk dr it I J I2 J2 → ∃ x106 I108, f_X10_richest bk I = some x106 ∧ f_X11_richest I2 = some (x106, I108) ∧ R bk dr it I J I108 J2) (h23 : ∀ bk dr it I J I2 J2 A1 A2, R bk dr it I J I2 J2 → ∃ x109 I111, f_X10_leave bk I A1 A2 = some x109 ∧ f_X11_leave I2 A1 A2 = some (x109, I111) ∧ R bk dr it I J I111 J2) (h24 : ∀ bk dr it I J I2 J2 A1 A2, R bk dr it I J I2 J2 → ∃ x112 I113 J114 I116 J117, f_X10_blinds bk I J A1 A2 = some (x112, I113, J114) ∧ f_X11_blinds I2 J2 A1 A2 = some (x112, I116, J117) ∧ R bk dr it I113 J114 I116 J117) (h25 : ∀ bk dr it I J I2 J2 A1, R bk dr it I J I2 J2 → ∃ x118 I120, f_X10_among bk I A1 = some x118 ∧ f_X11_among I2 A1 = some (x118, I120) ∧ R bk dr it I J I120 J2) (h26 : ∀ bk dr it I J I2 J2, R bk dr it I J I2 J2 → ∃ x121 I122 J123 I125 J126, f_X10_rescue bk I J = some (x121, I122, J123) ∧ f_X11_rescue I2 J2 = some (x121, I125, J126) ∧ R bk dr it I122 J123 I125 J126) (h27 : ∀ bk dr it I J I2 J2, R bk dr it I J I2 J2 → ∃ x127 I129, f_X10_termIn bk I = some x127 ∧ f_X11_termIn I2 = some (x127, I129) ∧ R bk dr it I J I129 J2) (h28 : ∀ bk dr it I J I2 J2 A1 A2, R bk dr it I J I2 J2 → ∃ x130 I132, f_X10_often bk I A1 A2 = some x130 ∧ f_X11_often I2 A1 A2 = some (x130, I132) ∧ R bk dr it I J I132 J2) (h29 : ∀ bk dr it I J I2 J2 A1, R bk dr it I J I2 J2 → ∃ x133 I134 J135 I137 J138, f_X10_owes bk I J A1 = some (x133, I134, J135) ∧ f_X11_owes I2 J2 A1 = some (x133, I137, J138) ∧ R bk dr it I134 J135 I137 J138) (h30 : ∀ bk dr it I J I2 J2 A1, R bk dr it I J I2 J2 → ∃ x139 I141, f_X10_have bk I A1 = some x139 ∧ f_X11_have I2 A1 = some (x139, I141) ∧ R bk dr it I J I141 J2) (h31 : ∀ bk dr it I J I2 J2, R bk dr it I J I2 J2 → ∃ x142 I144, f_X10_dearest bk I = some x142 ∧ f_X11_dearest I2 = some (x142, I144) ∧ R bk dr it I J I144 J2) (h32 : ∀ bk dr it I J I2 J2 A1 A2 A3 (t : Bool), R bk dr it I J I2 J2 → ∃ x I3 I4, f_X10_note bk I A1 A2 A3 (bi t) = some (x, I3) ∧ f_X11_note I2 A1 A2 A3 (bi t) = some (x, I4) ∧ R bk dr it I3 J I4 J2) (h33 : ∀ bk dr it I J I2 J2 A1, R bk dr it I J I2 J2 → ∃ x158 I159 I161, f_X10_strike I A1 = some (x158, I159) ∧ f_X11_strike I2 A1 = some (x158, I161) ∧ R bk dr it I159 J I161 J2) (h34 : ∀ bk dr it I J I2 J2 A1, R bk dr it I J I2 J2 → ∃ x162 I163 I165, f_X10_known I A1 = some (x162, I163) ∧ f_X11_known I2 A1 = some (x162, I165) ∧ R bk dr it I163 J I165 J2) (h35 : ∀ bk dr it I J I2 J2 A1, R bk dr it I J I2 J2 → ∃ x166 I167 I169, f_X10_fits bk I A1 = some (x166, I167) ∧ f_X11_fits I2 A1 = some (x166, I169) ∧ R bk dr it I167 J I169 J2) (h36 : ∀ bk dr it I J I2 J2 A1 A2, R bk dr it I J I2 J2 → ∃ x170 I171 I173, f_X10_ask bk I A1 A2 = some (x170, I171) ∧ f_X11_ask I2 A1 A2 = some (x170, I173) ∧ R bk dr it I171 J I173 J2) (h37 : ∀ bk dr it I J I2 J2 A1 A2 A3, R bk dr it I J I2 J2 → ∃ x174 I175 J176 I178 J179, f_X10_chance bk I J A1 A2 A3 = some (x174, I175, J176) ∧ f_X11_chance I2 J2 A1 A2 A3 = some (x174, I178, J179) ∧ R bk dr it I175 J176 I178 J179) (h38 : ∀ bk dr it I J I2 J2 A1 A2 A3, R bk dr it I J I2 J2 → ∃ x180 I181 J182 I184 J185, f_X10_tried bk I J A1 A2 A3 = some (x180, I181, J182) ∧ f_X11_tried I2 J2 A1 A2 A3 = some (x180, I184, J185) ∧ R bk dr it I181 J182 I184 J185) (h39 : ∀ bk dr it I J I2 J2, R bk dr it I J I2 J2 → ∃ x186 I187 I189, f_X10_undo I = some (x186, I187) ∧ f_X11_undo I2 = some (x186, I189) ∧ R bk dr it I187 J I189 J2) (h40 : ∀ bk dr it I J I2 J2, R bk dr it I J I2 J2 → ∃ x190 I191 I193 J194, f_X10_keep I = some (x190, I191) ∧ f_X11_keep I2 J2 = some (x190, I193, J194) ∧ R bk dr it I191 J I193 J194) (h41 : ∀ bk dr it I J I2 J2, R bk dr it I J I2 J2 → ∃ x195 I196 I198 J199, f_X10_back I = some (x195, I196) ∧ f_X11_back I2 J2 = some (x195, I198, J199) ∧ R bk dr it I196 J I198 J199) (h42 : ∀ bk dr it I J I2 J2 A1, R bk dr it I J I2 J2 → ∃ x200 I202, f_X10_count bk I A1 = some x200 ∧ f_X11_count I2 A1 = some (x200, I202) ∧ R bk dr it I J I202 J2) {N : Nat} {xs : Nat → Int32} {rec : Int32 → Nat → Nat → Nat → MI → MJ → MI → MJ → MJ → Option Unit} {x4 : Int32} {bk dr it : Nat} {I : MI} {J : MJ} {I2 : MI} {J2 J3 : MJ} (hN : N ≤ 3072) (hp : 0 ≤ x4.toInt) (hh : x4.toInt ≤ 3072) (hR : R bk dr it I J I2 J2) (hrec : x4.toInt + 6 ≤ N → ∀ bk dr it I J I2 J2 J3, R bk dr it I J I2 J2 → rec (x4 + 6) bk dr it I J I2 J2 J3 = some ()) : f_law N xs rec x4 bk dr it I J I2 J2 J3 = some () := by
  obtain ⟨hb1, hb2, hb3⟩ := hbk _ _ _ _ _ _ _ hR
  delta f_law
  rw [gd_t hb1, gd_t hb2, gd_t hb3]
  split
  · rfl
  · next hlt =>
    have hle : x4.toInt + 6 ≤ N := by
      have h1 : (Int32.ofNat N - 6).toInt = N - 6 := by
        have h2 := i_ofNat (n := N) (by omega)
        have h3 : (6 : Int32).toInt = 6 := rfl
        rw [i_sub (by omega) (by omega), h2, h3]
      have h4 : ¬ ((Int32.ofNat N - 6).toInt < x4.toInt) := fun h => hlt (Int32.lt_iff_toInt_lt.mpr h)
      omega
    have g0 : inb x4 N = true := inb_iff.mpr ⟨hp, by omega⟩
    have g1 : inb (x4 + 1) N = true := by
      have h3 : (1 : Int32).toInt = 1 := rfl
      rw [inb_iff, i_add (by omega) (by omega), h3]; omega
    have g2 : inb (x4 + 2) N = true := by
      have h3 : (2 : Int32).toInt = 2 := rfl
      rw [inb_iff, i_add (by omega) (by omega), h3]; omega
    have g3 : inb (x4 + 3) N = true := by
      have h3 : (3 : Int32).toInt = 3 := rfl
      rw [inb_iff, i_add (by omega) (by omega), h3]; omega
    have g4 : inb (x4 + 4) N = true := by
      have h3 : (4 : Int32).toInt = 4 := rfl
      rw [inb_iff, i_add (by omega) (by omega), h3]; omega
    have g5 : inb (x4 + 5) N = true := by
      have h3 : (5 : Int32).toInt = 5 := rfl
      rw [inb_iff, i_add (by omega) (by omega), h3]; omega
    rw [gd_t g0]
    refine lt_el (p := fun o => o = some ()) ?_
    intro j hj
    have hjj : ∀ bk dr it I J I2 J2 J3, R bk dr it I J I2 J2 → j bk dr it I J I2 J2 J3 = some () := fun bk dr it I J I2 J2 J3 h => by rw [hj]; exact hrec hle bk dr it I J I2 J2 J3 h
    clear hj
    refine sw_c (p := fun o => o = some ()) (fun _ => ?_) ?_
    · obtain ⟨x10, I11, I13, e1, e2, hr⟩ := h0 bk dr it I J I2 J2 (xs (ix (x4 + 1))) (xs (ix (x4 + 2))) (xs (ix (x4 + 3))) (xs (ix (x4 + 4))) (xs (ix (x4 + 5))) hR
      rw [gd_t g1, gd_t g2, gd_t g3, gd_t g4, gd_t g5, e1, bd2_s, gd_t g1, gd_t g2, gd_t g3, gd_t g4, gd_t g5, e2, bd2_s, if_pos rfl]
      exact hjj _ _ _ _ _ _ _ _ hr
    refine sw_c (p := fun o => o = some ()) (fun _ => ?_) ?_
    · obtain ⟨x14, bk15, dr16, it17, I18, I20, J21, e1, e2, hr⟩ := h1 bk dr it I J I2 J2 (xs (ix (x4 + 1))) hR
      rw [gd_t g1, e1, bd5_s, gd_t g1, e2, bd3_s, if_pos rfl]
      exact hjj _ _ _ _ _ _ _ _ hr
    refine sw_c (p := fun o => o = some ()) (fun _ => ?_) ?_
    · obtain ⟨x22, I24, e1, e2, hr⟩ := h2 bk dr it I J I2 J2 (xs (ix (x4 + 1))) hR
      rw [gd_t g1, e1, bd1_s, gd_t g1, e2, bd2_s, if_pos rfl]
      exact hjj _ _ _ _ _ _ _ _ hr
    refine sw_c (p := fun o => o = some ()) (fun _ => ?_) ?_
    · obtain ⟨x25, I27, e1, e2, hr⟩ := h3 bk dr it I J I2 J2 (xs (ix (x4 + 1))) (xs (ix (x4 + 2))) hR
      rw [gd_t g1, gd_t g2, e1, bd1_s, gd_t g1, gd_t g2, e2, bd2_s, if_pos rfl]
      exact hjj _ _ _ _ _ _ _ _ hr
    refine sw_c (p := fun o => o = some ()) (fun _ => ?_) ?_
    · obtain ⟨x, J4, y, I4, e1, e2, e3, e4, hr⟩ := h4 bk dr it I J I2 J2 J3 (xs (ix (x4 + 1))) (xs (ix (x4 + 2))) hR
      rw [gd_t g1, gd_t g2, e1, bd2_s, gd_t g1, gd_t g2, e2, bd2_s, e3, bd1_s, if_pos rfl]
      show (if x = 0 then _ else _) = _
      split
      · next hx => rw [gd_t (by decide)]; show (if J4 0 0 = _ then _ else _) = _; rw [if_pos (e4 hx)]; exact hjj _ _ _ _ _ _ _ _ hr
      · exact hjj _ _ _ _ _ _ _ _ hr
    refine sw_c (p := fun o => o = some ()) (fun _ => ?_) ?_
    · obtain ⟨x33, I35, e1, e2, hr⟩ := h5 bk dr it I J I2 J2 (xs (ix (x4 + 1))) (xs (ix (x4 + 2))) hR
      rw [gd_t g1, gd_t g2, e1, bd1_s, gd_t g1, gd_t g2, e2, bd2_s, if_pos rfl]
      exact hjj _ _ _ _ _ _ _ _ hr
    refine sw_c (p := fun o => o = some ()) (fun _ => ?_) ?_
    · obtain ⟨x36, I38, e1, e2, hr⟩ := h6 bk dr it I J I2 J2 (xs (ix (x4 + 1))) hR
      rw [gd_t g1, e1, bd1_s, gd_t g1, e2, bd2_s, if_pos rfl]
      exact hjj _ _ _ _ _ _ _ _ hr
    refine sw_c (p := fun o => o = some ()) (fun _ => ?_) ?_
    · obtain ⟨x39, I40, J41, I43, J44, e1, e2, hr⟩ := h7 bk dr it I J I2 J2 (xs (ix (x4 + 1))) (xs (ix (x4 + 2))) (xs (ix (x4 + 3))) hR
      rw [gd_t g1, gd_t g2, gd_t g3, e1, bd3_s, gd_t g1, gd_t g2, gd_t g3, e2, bd3_s, if_pos rfl]
      exact hjj _ _ _ _ _ _ _ _ hr
    refine sw_c (p := fun o => o = some ()) (fun _ => ?_) ?_
    · obtain ⟨x45, I46, I48, e1, e2, hr⟩ := h8 bk dr it I J I2 J2 (xs (ix (x4 + 1))) hR
      rw [gd_t g1, e1, bd2_s, gd_t g1, e2, bd2_s, if_pos rfl]
      exact hjj _ _ _ _ _ _ _ _ hr
    refine sw_c (p := fun o => o = some ()) (fun _ => ?_) ?_
    · obtain ⟨x49, I50, I52, e1, e2, hr⟩ := h9 bk dr it I J I2 J2 (xs (ix (x4 + 1))) hR
      rw [gd_t g1, e1, bd2_s, gd_t g1, e2, bd2_s, if_pos rfl]
      exact hjj _ _ _ _ _ _ _ _ hr
    refine sw_c (p := fun o => o = some ()) (fun _ => ?_) ?_
    · obtain ⟨x53, I54, I56, e1, e2, hr⟩ := h10 bk dr it I J I2 J2 (xs (ix (x4 + 1))) (xs (ix (x4 + 2))) (xs (ix (x4 + 3))) hR
      rw [gd_t g1, gd_t g2, gd_t g3, e1, bd2_s, gd_t g1, gd_t g2, gd_t g3, e2, bd2_s, if_pos rfl]
      exact hjj _ _ _ _ _ _ _ _ hr
    refine sw_c (p := fun o => o = some ()) (fun _ => ?_) ?_
    · obtain ⟨x57, I58, J59, I61, J62, e1, e2, hr⟩ := h11 bk dr it I J I2 J2 (xs (ix (x4 + 1))) hR
      rw [gd_t g1, e1, bd3_s, gd_t g1, e2, bd3_s, if_pos rfl]
      exact hjj _ _ _ _ _ _ _ _ hr
    refine sw_c (p := fun o => o = some ()) (fun _ => ?_) ?_
    · obtain ⟨x63, I64, J65, I67, J68, e1, e2, hr⟩ := h12 bk dr it I J I2 J2 (xs (ix (x4 + 1))) (xs (ix (x4 + 2))) (xs (ix (x4 + 3))) hR
      rw [gd_t g1, gd_t g2, gd_t g3, e1, bd3_s, gd_t g1, gd_t g2, gd_t g3, e2, bd3_s, if_pos rfl]
      exact hjj _ _ _ _ _ _ _ _ hr
    refine sw_c (p := fun o => o = some ()) (fun _ => ?_) ?_
    · obtain ⟨x69, I70, J71, I73, J74, e1, e2, hr⟩ := h13 bk dr it I J I2 J2 (xs (ix (x4 + 1))) hR
      rw [gd_t g1, e1, bd3_s, gd_t g1, e2, bd3_s, if_pos rfl]
      exact hjj _ _ _ _ _ _ _ _ hr
    refine sw_c (p := fun o => o = some ()) (fun _ => ?_) ?_
    · obtain ⟨x75, I76, J77, I79, J80, e1, e2, hr⟩ := h14 bk dr it I J I2 J2 (xs (ix (x4 + 1))) hR
      rw [gd_t g1, e1, bd3_s, gd_t g1, e2, bd3_s, if_pos rfl]
      exact hjj _ _ _ _ _ _ _ _ hr
    refine sw_c (p := fun o => o = some ()) (fun _ => ?_) ?_
    · obtain ⟨x81, I82, I84, e1, e2, hr⟩ := h15 bk dr it I J I2 J2 (xs (ix (x4 + 1))) (xs (ix (x4 + 2))) hR
      rw [gd_t g1, gd_t g2, e1, bd2_s, gd_t g1, gd_t g2, e2, bd2_s, if_pos rfl]
      exact hjj _ _ _ _ _ _ _ _ hr
    refine sw_c (p := fun o => o = some ()) (fun _ => ?_) ?_
    · obtain ⟨x85, J86, I88, e1, e2, hr⟩ := h16 bk dr it I J I2 J2 (xs (ix (x4 + 1))) (xs (ix (x4 + 2))) (xs (ix (x4 + 3))) (xs (ix (x4 + 4))) hR
      rw [gd_t g1, gd_t g2, gd_t g3, gd_t g4, e1, bd2_s, gd_t g1, gd_t g2, gd_t g3, gd_t g4, e2, bd2_s, if_pos rfl]
      exact hjj _ _ _ _ _ _ _ _ hr
    refine sw_c (p := fun o => o = some ()) (fun _ => ?_) ?_
    · obtain ⟨x89, J90, I92, e1, e2, hr⟩ := h17 bk dr it I J I2 J2 (xs (ix (x4 + 1))) (xs (ix (x4 + 2))) hR
      rw [gd_t g1, gd_t g2, e1, bd2_s, gd_t g1, gd_t g2, e2, bd2_s, if_pos rfl]
      exact hjj _ _ _ _ _ _ _ _ hr
    refine sw_c (p := fun o => o = some ()) (fun _ => ?_) ?_
    · obtain ⟨x93, I95, e1, e2, hr⟩ := h18 bk dr it I J I2 J2 (xs (ix (x4 + 1))) (xs (ix (x4 + 2))) (xs (ix (x4 + 3))) hR
      rw [gd_t g1, gd_t g2, gd_t g3, e1, bd1_s, gd_t g1, gd_t g2, gd_t g3, e2, bd2_s, if_pos rfl]
      exact hjj _ _ _ _ _ _ _ _ hr
    refine sw_c (p := fun o => o = some ()) (fun _ => ?_) ?_
    · obtain ⟨x96, J97, I99, e1, e2, hr⟩ := h19 bk dr it I J I2 J2 (xs (ix (x4 + 1))) (xs (ix (x4 + 2))) (xs (ix (x4 + 3))) hR
      rw [gd_t g1, gd_t g2, gd_t g3, e1, bd2_s, gd_t g1, gd_t g2, gd_t g3, e2, bd2_s, if_pos rfl]
      exact hjj _ _ _ _ _ _ _ _ hr
    refine sw_c (p := fun o => o = some ()) (fun _ => ?_) ?_
    · obtain ⟨x100, I102, e1, e2, hr⟩ := h20 bk dr it I J I2 J2 (xs (ix (x4 + 1))) (xs (ix (x4 + 2))) (xs (ix (x4 + 3))) hR
      rw [gd_t g1, gd_t g2, gd_t g3, e1, bd1_s, gd_t g1, gd_t g2, gd_t g3, e2, bd2_s, if_pos rfl]
      exact hjj _ _ _ _ _ _ _ _ hr
    refine sw_c (p := fun o => o = some ()) (fun _ => ?_) ?_
    · obtain ⟨x103, I105, e1, e2, hr⟩ := h21 bk dr it I J I2 J2 (xs (ix (x4 + 1))) (xs (ix (x4 + 2))) (xs (ix (x4 + 3))) (xs (ix (x4 + 4))) hR
      rw [gd_t g1, gd_t g2, gd_t g3, gd_t g4, e1, bd1_s, gd_t g1, gd_t g2, gd_t g3, gd_t g4, e2, bd2_s, if_pos rfl]
      exact hjj _ _ _ _ _ _ _ _ hr
    refine sw_c (p := fun o => o = some ()) (fun _ => ?_) ?_
    · obtain ⟨x106, I108, e1, e2, hr⟩ := h22 bk dr it I J I2 J2  hR
      rw [e1, bd1_s, e2, bd2_s, if_pos rfl]
      exact hjj _ _ _ _ _ _ _ _ hr
    refine sw_c (p := fun o => o = some ()) (fun _ => ?_) ?_
    · obtain ⟨x109, I111, e1, e2, hr⟩ := h23 bk dr it I J I2 J2 (xs (ix (x4 + 1))) (xs (ix (x4 + 2))) hR
      rw [gd_t g1, gd_t g2, e1, bd1_s, gd_t g1, gd_t g2, e2, bd2_s, if_pos rfl]
      exact hjj _ _ _ _ _ _ _ _ hr
    refine sw_c (p := fun o => o = some ()) (fun _ => ?_) ?_
    · obtain ⟨x112, I113, J114, I116, J117, e1, e2, hr⟩ := h24 bk dr it I J I2 J2 (xs (ix (x4 + 1))) (xs (ix (x4 + 2))) hR
      rw [gd_t g1, gd_t g2, e1, bd3_s, gd_t g1, gd_t g2, e2, bd3_s, if_pos rfl]
      exact hjj _ _ _ _ _ _ _ _ hr
    refine sw_c (p := fun o => o = some ()) (fun _ => ?_) ?_
    · obtain ⟨x118, I120, e1, e2, hr⟩ := h25 bk dr it I J I2 J2 (xs (ix (x4 + 1))) hR
      rw [gd_t g1, e1, bd1_s, gd_t g1, e2, bd2_s, if_pos rfl]
      exact hjj _ _ _ _ _ _ _ _ hr
    refine sw_c (p := fun o => o = some ()) (fun _ => ?_) ?_
    · obtain ⟨x121, I122, J123, I125, J126, e1, e2, hr⟩ := h26 bk dr it I J I2 J2  hR
      rw [e1, bd3_s, e2, bd3_s, if_pos rfl]
      exact hjj _ _ _ _ _ _ _ _ hr
    refine sw_c (p := fun o => o = some ()) (fun _ => ?_) ?_
    · obtain ⟨x127, I129, e1, e2, hr⟩ := h27 bk dr it I J I2 J2  hR
      rw [e1, bd1_s, e2, bd2_s, if_pos rfl]
      exact hjj _ _ _ _ _ _ _ _ hr
    refine sw_c (p := fun o => o = some ()) (fun _ => ?_) ?_
    · obtain ⟨x130, I132, e1, e2, hr⟩ := h28 bk dr it I J I2 J2 (xs (ix (x4 + 1))) (xs (ix (x4 + 2))) hR
      rw [gd_t g1, gd_t g2, e1, bd1_s, gd_t g1, gd_t g2, e2, bd2_s, if_pos rfl]
      exact hjj _ _ _ _ _ _ _ _ hr
    refine sw_c (p := fun o => o = some ()) (fun _ => ?_) ?_
    · obtain ⟨x133, I134, J135, I137, J138, e1, e2, hr⟩ := h29 bk dr it I J I2 J2 (xs (ix (x4 + 1))) hR
      rw [gd_t g1, e1, bd3_s, gd_t g1, e2, bd3_s, if_pos rfl]
      exact hjj _ _ _ _ _ _ _ _ hr
    refine sw_c (p := fun o => o = some ()) (fun _ => ?_) ?_
    · obtain ⟨x139, I141, e1, e2, hr⟩ := h30 bk dr it I J I2 J2 (xs (ix (x4 + 1))) hR
      rw [gd_t g1, e1, bd1_s, gd_t g1, e2, bd2_s, if_pos rfl]
      exact hjj _ _ _ _ _ _ _ _ hr
    refine sw_c (p := fun o => o = some ()) (fun _ => ?_) ?_
    · obtain ⟨x142, I144, e1, e2, hr⟩ := h31 bk dr it I J I2 J2  hR
      rw [e1, bd1_s, e2, bd2_s, if_pos rfl]
      exact hjj _ _ _ _ _ _ _ _ hr
    refine sw_c (p := fun o => o = some ()) (fun _ => ?_) ?_
    · rw [gd_t g1, gd_t g2, gd_t g3, gd_t g4]
      have hd : ∀ t : Bool, _ := fun t => h32 bk dr it I J I2 J2 (xs (ix (x4 + 1))) (xs (ix (x4 + 2))) (xs (ix (x4 + 3))) t hR
      by_cases hx : xs (ix (x4 + 4)) = 0
      · obtain ⟨x, I3, I4, e1, e2, hr⟩ := hd false
        simp only [lt, hx, if_true, e1, e2, bd2_s, gd_t g1, gd_t g2, gd_t g3, gd_t g4]
        exact hjj _ _ _ _ _ _ _ _ hr
      · obtain ⟨x, I3, I4, e1, e2, hr⟩ := hd true
        simp only [lt, hx, if_false, if_true, e1, e2, bd2_s, gd_t g1, gd_t g2, gd_t g3, gd_t g4]
        exact hjj _ _ _ _ _ _ _ _ hr
    refine sw_c (p := fun o => o = some ()) (fun _ => ?_) ?_
    · obtain ⟨x158, I159, I161, e1, e2, hr⟩ := h33 bk dr it I J I2 J2 (xs (ix (x4 + 1))) hR
      rw [gd_t g1, e1, bd2_s, gd_t g1, e2, bd2_s, if_pos rfl]
      exact hjj _ _ _ _ _ _ _ _ hr
    refine sw_c (p := fun o => o = some ()) (fun _ => ?_) ?_
    · obtain ⟨x162, I163, I165, e1, e2, hr⟩ := h34 bk dr it I J I2 J2 (xs (ix (x4 + 1))) hR
      rw [gd_t g1, e1, bd2_s, gd_t g1, e2, bd2_s, if_pos rfl]
      exact hjj _ _ _ _ _ _ _ _ hr
    refine sw_c (p := fun o => o = some ()) (fun _ => ?_) ?_
    · obtain ⟨x166, I167, I169, e1, e2, hr⟩ := h35 bk dr it I J I2 J2 (xs (ix (x4 + 1))) hR
      rw [gd_t g1, e1, bd2_s, gd_t g1, e2, bd2_s, if_pos rfl]
      exact hjj _ _ _ _ _ _ _ _ hr
    refine sw_c (p := fun o => o = some ()) (fun _ => ?_) ?_
    · obtain ⟨x170, I171, I173, e1, e2, hr⟩ := h36 bk dr it I J I2 J2 (xs (ix (x4 + 1))) (xs (ix (x4 + 2))) hR
      rw [gd_t g1, gd_t g2, e1, bd2_s, gd_t g1, gd_t g2, e2, bd2_s, if_pos rfl]
      exact hjj _ _ _ _ _ _ _ _ hr
    refine sw_c (p := fun o => o = some ()) (fun _ => ?_) ?_
    · obtain ⟨x174, I175, J176, I178, J179, e1, e2, hr⟩ := h37 bk dr it I J I2 J2 (xs (ix (x4 + 1))) (xs (ix (x4 + 2))) (xs (ix (x4 + 3))) hR
      rw [gd_t g1, gd_t g2, gd_t g3, e1, bd3_s, gd_t g1, gd_t g2, gd_t g3, e2, bd3_s, if_pos rfl]
      exact hjj _ _ _ _ _ _ _ _ hr
    refine sw_c (p := fun o => o = some ()) (fun _ => ?_) ?_
    · obtain ⟨x180, I181, J182, I184, J185, e1, e2, hr⟩ := h38 bk dr it I J I2 J2 (xs (ix (x4 + 1))) (xs (ix (x4 + 2))) (xs (ix (x4 + 3))) hR
      rw [gd_t g1, gd_t g2, gd_t g3, e1, bd3_s, gd_t g1, gd_t g2, gd_t g3, e2, bd3_s, if_pos rfl]
      exact hjj _ _ _ _ _ _ _ _ hr
    refine sw_c (p := fun o => o = some ()) (fun _ => ?_) ?_
    · obtain ⟨x186, I187, I189, e1, e2, hr⟩ := h39 bk dr it I J I2 J2  hR
      rw [e1, bd2_s, e2, bd2_s, if_pos rfl]
      exact hjj _ _ _ _ _ _ _ _ hr
    refine sw_c (p := fun o => o = some ()) (fun _ => ?_) ?_
    · obtain ⟨x190, I191, I193, J194, e1, e2, hr⟩ := h40 bk dr it I J I2 J2  hR
      rw [e1, bd2_s, e2, bd3_s, if_pos rfl]
      exact hjj _ _ _ _ _ _ _ _ hr
    refine sw_c (p := fun o => o = some ()) (fun _ => ?_) ?_
    · obtain ⟨x195, I196, I198, J199, e1, e2, hr⟩ := h41 bk dr it I J I2 J2  hR
      rw [e1, bd2_s, e2, bd3_s, if_pos rfl]
      exact hjj _ _ _ _ _ _ _ _ hr
    refine sw_c (p := fun o => o = some ()) (fun _ => ?_) ?_
    · obtain ⟨x200, I202, e1, e2, hr⟩ := h42 bk dr it I J I2 J2 (xs (ix (x4 + 1))) hR
      rw [gd_t g1, e1, bd1_s, gd_t g1, e2, bd2_s, if_pos rfl]
      exact hjj _ _ _ _ _ _ _ _ hr
    exact hjj _ _ _ _ _ _ _ _ hR
theorem law_it {R : Nat → Nat → Nat → MI → MJ → MI → MJ → Prop} (hbk : ∀ bk dr it I J I2 J2, R bk dr it I J I2 J2 → isBk bk = true ∧ isBk dr = true ∧ isBk it = true) (h0 : ∀ bk dr it I J I2 J2 A1 A2 A3 A4 A5, R bk dr it I J I2 J2 → ∃ x10 I11 I13, f_X10_feed I A1 A2 A3 A4 A5 = some (x10, I11) ∧ f_X11_feed I2 A1 A2 A3 A4 A5 = some (x10, I13) ∧ R bk dr it I11 J I13 J2) (h1 : ∀ bk dr it I J I2 J2 A1, R bk dr it I J I2 J2 → ∃ x14 bk15 dr16 it17 I18 I20 J21, f_X10_text bk dr it I A1 = some (x14, bk15, dr16, it17, I18) ∧ f_X11_text I2 J2 A1 = some (x14, I20, J21) ∧ R bk15 dr16 it17 I18 J I20 J21) (h2 : ∀ bk dr it I J I2 J2 A1, R bk dr it I J I2 J2 → ∃ x22 I24, f_X10_fault I A1 = some x22 ∧ f_X11_fault I2 A1 = some (x22, I24) ∧ R bk dr it I J I24 J2) (h3 : ∀ bk dr it I J I2 J2 A1 A2, R bk dr it I J I2 J2 → ∃ x25 I27, f_X10_named bk I A1 A2 = some x25 ∧ f_X11_named I2 A1 A2 = some (x25, I27) ∧ R bk dr it I J I27 J2) (h4 : ∀ bk dr it I J I2 J2 J3 A1 A2, R bk dr it I J I2 J2 → ∃ x J4 y I4, f_L_house bk I J3 A1 A2 = some (x, J4) ∧ f_X11_house I2 A1 A2 = some (y, I4) ∧ f_X11_thrown I4 = some x ∧ (x = 0 → J4 0 0 = y.toInt64) ∧ R bk dr it I J I4 J2) (h5 : ∀ bk dr it I J I2 J2 A1 A2, R bk dr it I J I2 J2 → ∃ x33 I35, f_X10_kind bk I A1 A2 = some x33 ∧ f_X11_kind I2 A1 A2 = some (x33, I35) ∧ R bk dr it I J I35 J2) (h6 : ∀ bk dr it I J I2 J2 A1, R bk dr it I J I2 J2 → ∃ x36 I38, f_X10_weather bk I A1 = some x36 ∧ f_X11_weather I2 A1 = some (x36, I38) ∧ R bk dr it I J I38 J2) (h7 : ∀ bk dr it I J I2 J2 A1 A2 A3, R bk dr it I J I2 J2 → ∃ x39 I40 J41 I43 J44, f_X10_law bk I J A1 A2 A3 = some (x39, I40, J41) ∧ f_X11_law I2 J2 A1 A2 A3 = some (x39, I43, J44) ∧ R bk dr it I40 J41 I43 J44) (h8 : ∀ bk dr it I J I2 J2 A1, R bk dr it I J I2 J2 → ∃ x45 I46 I48, f_X10_blind bk I A1 = some (x45, I46) ∧ f_X11_blind I2 A1 = some (x45, I48) ∧ R bk dr it I46 J I48 J2) (h9 : ∀ bk dr it I J I2 J2 A1, R bk dr it I J I2 J2 → ∃ x49 I50 I52, f_X10_send bk I A1 = some (x49, I50) ∧ f_X11_send I2 A1 = some (x49, I52) ∧ R bk dr it I50 J I52 J2) (h10 : ∀ bk dr it I J I2 J2 A1 A2 A3, R bk dr it I J I2 J2 → ∃ x53 I54 I56, f_X10_lend bk I A1 A2 A3 = some (x53, I54) ∧ f_X11_lend I2 A1 A2 A3 = some (x53, I56) ∧ R bk dr it I54 J I56 J2) (h11 : ∀ bk dr it I J I2 J2 A1, R bk dr it I J I2 J2 → ∃ x57 I58 J59 I61 J62, f_X10_go bk I J A1 = some (x57, I58, J59) ∧ f_X11_go I2 J2 A1 = some (x57, I61, J62) ∧ R bk dr it I58 J59 I61 J62) (h12 : ∀ bk dr it I J I2 J2 A1 A2 A3, R bk dr it I J I2 J2 → ∃ x63 I64 J65 I67 J68, f_X10_ahead bk I J A1 A2 A3 = some (x63, I64, J65) ∧ f_X11_ahead I2 J2 A1 A2 A3 = some (x63, I67, J68) ∧ R bk dr it I64 J65 I67 J68) (h13 : ∀ bk dr it I J I2 J2 A1, R bk dr it I J I2 J2 → ∃ x69 I70 J71 I73 J74, f_X10_sold bk I J A1 = some (x69, I70, J71) ∧ f_X11_sold I2 J2 A1 = some (x69, I73, J74) ∧ R bk dr it I70 J71 I73 J74) (h14 : ∀ bk dr it I J I2 J2 A1, R bk dr it I J I2 J2 → ∃ x75 I76 J77 I79 J80, f_X10_credit bk I J A1 = some (x75, I76, J77) ∧ f_X11_credit I2 J2 A1 = some (x75, I79, J80) ∧ R bk dr it I76 J77 I79 J80) (h15 : ∀ bk dr it I J I2 J2 A1 A2, R bk dr it I J I2 J2 → ∃ x81 I82 I84, f_X10_plan bk I A1 A2 = some (x81, I82) ∧ f_X11_plan I2 A1 A2 = some (x81, I84) ∧ R bk dr it I82 J I84 J2) (h16 : ∀ bk dr it I J I2 J2 A1 A2 A3 A4, R bk dr it I J I2 J2 → ∃ x85 J86 I88, f_X10_share bk I J A1 A2 A3 A4 = some (x85, J86) ∧ f_X11_share I2 A1 A2 A3 A4 = some (x85, I88) ∧ R bk dr it I J86 I88 J2) (h17 : ∀ bk dr it I J I2 J2 A1 A2, R bk dr it I J I2 J2 → ∃ x89 J90 I92, f_X10_waits bk I J A1 A2 = some (x89, J90) ∧ f_X11_waits I2 A1 A2 = some (x89, I92) ∧ R bk dr it I J90 I92 J2) (h18 : ∀ bk dr it I J I2 J2 A1 A2 A3, R bk dr it I J I2 J2 → ∃ x93 I95, f_X10_came bk I A1 A2 A3 = some x93 ∧ f_X11_came I2 A1 A2 A3 = some (x93, I95) ∧ R bk dr it I J I95 J2) (h19 : ∀ bk dr it I J I2 J2 A1 A2 A3, R bk dr it I J I2 J2 → ∃ x96 J97 I99, f_X10_likely bk I J A1 A2 A3 = some (x96, J97) ∧ f_X11_likely I2 A1 A2 A3 = some (x96, I99) ∧ R bk dr it I J97 I99 J2) (h20 : ∀ bk dr it I J I2 J2 A1 A2 A3, R bk dr it I J I2 J2 → ∃ x100 I102, f_X10_rests bk I A1 A2 A3 = some x100 ∧ f_X11_rests I2 A1 A2 A3 = some (x100, I102) ∧ R bk dr it I J I102 J2) (h21 : ∀ bk dr it I J I2 J2 A1 A2 A3 A4, R bk dr it I J I2 J2 → ∃ x103 I105, f_X10_rest bk I A1 A2 A3 A4 = some x103 ∧ f_X11_rest I2 A1 A2 A3 A4 = some (x103, I105) ∧ R bk dr it I J I105 J2) (h22 : ∀ bk dr it I J I2 J2, R bk dr it I J I2 J2 → ∃ x106 I108, f_X10_richest bk I = some x106 ∧ f_X11_richest I2 = some (x106, I108) ∧ R bk dr it I J I108 J2) (h23 : ∀ bk dr it I J I2 J2 A1 A2, R bk dr it I J I2 J2 → ∃ x109 I111, f_X10_leave bk I A1 A2 = some x109 ∧ f_X11_leave I2 A1 A2 = some (x109, I111) ∧ R bk dr it I J I111 J2) (h24 : ∀ bk dr it I J I2 J2 A1 A2, R bk dr it I J I2 J2 → ∃ x112 I113 J114 I116 J117, f_X10_blinds bk I J A1 A2 = some (x112, I113, J114) ∧ f_X11_blinds I2 J2 A1 A2 = some (x112, I116, J117) ∧ R bk dr it I113 J114 I116 J117) (h25 : ∀ bk dr it I J I2 J2 A1, R bk dr it I J I2 J2 → ∃ x118 I120, f_X10_among bk I A1 = some x118 ∧ f_X11_among I2 A1 = some (x118, I120) ∧ R bk dr it I J I120 J2) (h26 : ∀ bk dr it I J I2 J2, R bk dr it I J I2 J2 → ∃ x121 I122 J123 I125 J126, f_X10_rescue bk I J = some (x121, I122, J123) ∧ f_X11_rescue I2 J2 = some (x121, I125, J126) ∧ R bk dr it I122 J123 I125 J126) (h27 : ∀ bk dr it I J I2 J2, R bk dr it I J I2 J2 → ∃ x127 I129, f_X10_termIn bk I = some x127 ∧ f_X11_termIn I2 = some (x127, I129) ∧ R bk dr it I J I129 J2) (h28 : ∀ bk dr it I J I2 J2 A1 A2, R bk dr it I J I2 J2 → ∃ x130 I132, f_X10_often bk I A1 A2 = some x130 ∧ f_X11_often I2 A1 A2 = some (x130, I132) ∧ R bk dr it I J I132 J2) (h29 : ∀ bk dr it I J I2 J2 A1, R bk dr it I J I2 J2 → ∃ x133 I134 J135 I137 J138, f_X10_owes bk I J A1 = some (x133, I134, J135) ∧ f_X11_owes I2 J2 A1 = some (x133, I137, J138) ∧ R bk dr it I134 J135 I137 J138) (h30 : ∀ bk dr it I J I2 J2 A1, R bk dr it I J I2 J2 → ∃ x139 I141, f_X10_have bk I A1 = some x139 ∧ f_X11_have I2 A1 = some (x139, I141) ∧ R bk dr it I J I141 J2) (h31 : ∀ bk dr it I J I2 J2, R bk dr it I J I2 J2 → ∃ x142 I144, f_X10_dearest bk I = some x142 ∧ f_X11_dearest I2 = some (x142, I144) ∧ R bk dr it I J I144 J2) (h32 : ∀ bk dr it I J I2 J2 A1 A2 A3 (t : Bool), R bk dr it I J I2 J2 → ∃ x I3 I4, f_X10_note bk I A1 A2 A3 (bi t) = some (x, I3) ∧ f_X11_note I2 A1 A2 A3 (bi t) = some (x, I4) ∧ R bk dr it I3 J I4 J2) (h33 : ∀ bk dr it I J I2 J2 A1, R bk dr it I J I2 J2 → ∃ x158 I159 I161, f_X10_strike I A1 = some (x158, I159) ∧ f_X11_strike I2 A1 = some (x158, I161) ∧ R bk dr it I159 J I161 J2) (h34 : ∀ bk dr it I J I2 J2 A1, R bk dr it I J I2 J2 → ∃ x162 I163 I165, f_X10_known I A1 = some (x162, I163) ∧ f_X11_known I2 A1 = some (x162, I165) ∧ R bk dr it I163 J I165 J2) (h35 : ∀ bk dr it I J I2 J2 A1, R bk dr it I J I2 J2 → ∃ x166 I167 I169, f_X10_fits bk I A1 = some (x166, I167) ∧ f_X11_fits I2 A1 = some (x166, I169) ∧ R bk dr it I167 J I169 J2) (h36 : ∀ bk dr it I J I2 J2 A1 A2, R bk dr it I J I2 J2 → ∃ x170 I171 I173, f_X10_ask bk I A1 A2 = some (x170, I171) ∧ f_X11_ask I2 A1 A2 = some (x170, I173) ∧ R bk dr it I171 J I173 J2) (h37 : ∀ bk dr it I J I2 J2 A1 A2 A3, R bk dr it I J I2 J2 → ∃ x174 I175 J176 I178 J179, f_X10_chance bk I J A1 A2 A3 = some (x174, I175, J176) ∧ f_X11_chance I2 J2 A1 A2 A3 = some (x174, I178, J179) ∧ R bk dr it I175 J176 I178 J179) (h38 : ∀ bk dr it I J I2 J2 A1 A2 A3, R bk dr it I J I2 J2 → ∃ x180 I181 J182 I184 J185, f_X10_tried bk I J A1 A2 A3 = some (x180, I181, J182) ∧ f_X11_tried I2 J2 A1 A2 A3 = some (x180, I184, J185) ∧ R bk dr it I181 J182 I184 J185) (h39 : ∀ bk dr it I J I2 J2, R bk dr it I J I2 J2 → ∃ x186 I187 I189, f_X10_undo I = some (x186, I187) ∧ f_X11_undo I2 = some (x186, I189) ∧ R bk dr it I187 J I189 J2) (h40 : ∀ bk dr it I J I2 J2, R bk dr it I J I2 J2 → ∃ x190 I191 I193 J194, f_X10_keep I = some (x190, I191) ∧ f_X11_keep I2 J2 = some (x190, I193, J194) ∧ R bk dr it I191 J I193 J194) (h41 : ∀ bk dr it I J I2 J2, R bk dr it I J I2 J2 → ∃ x195 I196 I198 J199, f_X10_back I = some (x195, I196) ∧ f_X11_back I2 J2 = some (x195, I198, J199) ∧ R bk dr it I196 J I198 J199) (h42 : ∀ bk dr it I J I2 J2 A1, R bk dr it I J I2 J2 → ∃ x200 I202, f_X10_count bk I A1 = some x200 ∧ f_X11_count I2 A1 = some (x200, I202) ∧ R bk dr it I J I202 J2) {N : Nat} {xs : Nat → Int32} (hN : N ≤ 3072) : ∀ (n : Nat) (x4 : Int32) (bk dr it : Nat) (I : MI) (J : MJ) (I2 : MI) (J2 J3 : MJ), 0 ≤ x4.toInt → x4.toInt ≤ 3072 → 3078 ≤ x4.toInt + 6 * n → R bk dr it I J I2 J2 → fix9 (f_law N xs) n x4 bk dr it I J I2 J2 J3 = some ()
  | 0, x4, _, _, _, _, _, _, _, _, h0, h1, h2, _ => by omega
  | n + 1, x4, bk, dr, it, I, J, I2, J2, J3, h0', h1', h2', hR => by
    show f_law N xs (fix9 (f_law N xs) n) x4 bk dr it I J I2 J2 J3 = some ()
    refine law_st hbk h0 h1 h2 h3 h4 h5 h6 h7 h8 h9 h10 h11 h12 h13 h14 h15 h16 h17 h18 h19 h20 h21 h22 h23 h24 h25 h26 h27 h28 h29 h30 h31 h32 h33 h34 h35 h36 h37 h38 h39 h40 h41 h42 hN h0' h1' hR ?_
    intro hle bk dr it I J I2 J2 J3 hR'
    have h3' : (6 : Int32).toInt = 6 := rfl
    have h6' : (x4 + 6).toInt = x4.toInt + 6 := by rw [i_add (by omega) (by omega), h3']
    exact law_it hbk h0 h1 h2 h3 h4 h5 h6 h7 h8 h9 h10 h11 h12 h13 h14 h15 h16 h17 h18 h19 h20 h21 h22 h23 h24 h25 h26 h27 h28 h29 h30 h31 h32 h33 h34 h35 h36 h37 h38 h39 h40 h41 h42 hN n (x4 + 6) bk dr it I J I2 J2 J3 (by omega) (by omega) (by omega) hR'
