theorem ml_L_21 : Cond.methodLink RL 21 yX10_feed ∈ UW := uw_in (tin_3 (List.mem_of_getElem? (i := 51) (by decide +kernel))) (by decide +kernel)
theorem ml_L_25 : Cond.methodLink RL 25 yX11_feed ∈ UW := uw_in (tin_7 (List.mem_of_getElem? (i := 96) (by decide +kernel))) (by decide +kernel)
theorem ml_L_26 : Cond.methodLink RL 26 yX10_text ∈ UW := uw_in (tin_3 (List.mem_of_getElem? (i := 59) (by decide +kernel))) (by decide +kernel)
theorem ml_L_30 : Cond.methodLink RL 30 yX11_text ∈ UW := uw_in (tin_7 (List.mem_of_getElem? (i := 100) (by decide +kernel))) (by decide +kernel)
theorem ml_L_31 : Cond.methodLink RL 31 yX10_fault ∈ UW := uw_in (tin_3 (List.mem_of_getElem? (i := 236) (by decide +kernel))) (by decide +kernel)
theorem ml_L_34 : Cond.methodLink RL 34 yX11_fault ∈ UW := uw_in (tin_7 (List.mem_of_getElem? (i := 222) (by decide +kernel))) (by decide +kernel)
theorem ml_L_35 : Cond.methodLink RL 35 yX10_named ∈ UW := uw_in (tin_4 (List.mem_of_getElem? (i := 0) (by decide +kernel))) (by decide +kernel)
theorem ml_L_38 : Cond.methodLink RL 38 yX11_named ∈ UW := uw_in (tin_7 (List.mem_of_getElem? (i := 226) (by decide +kernel))) (by decide +kernel)
theorem ml_L_44 : Cond.methodLink RL 44 yX11_house ∈ UW := uw_in (tin_7 (List.mem_of_getElem? (i := 230) (by decide +kernel))) (by decide +kernel)
theorem ml_L_45 : Cond.methodLink RL 45 yX11_thrown ∈ UW := uw_in (tin_7 (List.mem_of_getElem? (i := 92) (by decide +kernel))) (by decide +kernel)
theorem ml_L_49 : Cond.methodLink RL 49 yX10_kind ∈ UW := uw_in (tin_4 (List.mem_of_getElem? (i := 6) (by decide +kernel))) (by decide +kernel)
theorem ml_L_52 : Cond.methodLink RL 52 yX11_kind ∈ UW := uw_in (tin_8 (List.mem_of_getElem? (i := 2) (by decide +kernel))) (by decide +kernel)
theorem ml_L_53 : Cond.methodLink RL 53 yX10_weather ∈ UW := uw_in (tin_4 (List.mem_of_getElem? (i := 14) (by decide +kernel))) (by decide +kernel)
theorem ml_L_56 : Cond.methodLink RL 56 yX11_weather ∈ UW := uw_in (tin_8 (List.mem_of_getElem? (i := 10) (by decide +kernel))) (by decide +kernel)
theorem ml_L_57 : Cond.methodLink RL 57 yX10_law ∈ UW := uw_in (tin_4 (List.mem_of_getElem? (i := 27) (by decide +kernel))) (by decide +kernel)
theorem ml_L_61 : Cond.methodLink RL 61 yX11_law ∈ UW := uw_in (tin_8 (List.mem_of_getElem? (i := 22) (by decide +kernel))) (by decide +kernel)
theorem ml_L_62 : Cond.methodLink RL 62 yX10_blind ∈ UW := uw_in (tin_4 (List.mem_of_getElem? (i := 140) (by decide +kernel))) (by decide +kernel)
theorem ml_L_65 : Cond.methodLink RL 65 yX11_blind ∈ UW := uw_in (tin_8 (List.mem_of_getElem? (i := 60) (by decide +kernel))) (by decide +kernel)
theorem ml_L_66 : Cond.methodLink RL 66 yX10_send ∈ UW := uw_in (tin_4 (List.mem_of_getElem? (i := 156) (by decide +kernel))) (by decide +kernel)
theorem ml_L_70 : Cond.methodLink RL 70 yX11_send ∈ UW := uw_in (tin_8 (List.mem_of_getElem? (i := 72) (by decide +kernel))) (by decide +kernel)
theorem ml_L_71 : Cond.methodLink RL 71 yX10_lend ∈ UW := uw_in (tin_4 (List.mem_of_getElem? (i := 164) (by decide +kernel))) (by decide +kernel)
theorem ml_L_75 : Cond.methodLink RL 75 yX11_lend ∈ UW := uw_in (tin_8 (List.mem_of_getElem? (i := 76) (by decide +kernel))) (by decide +kernel)
theorem ml_L_76 : Cond.methodLink RL 76 yX10_go ∈ UW := uw_in (tin_4 (List.mem_of_getElem? (i := 174) (by decide +kernel))) (by decide +kernel)
theorem ml_L_79 : Cond.methodLink RL 79 yX11_go ∈ UW := uw_in (tin_8 (List.mem_of_getElem? (i := 87) (by decide +kernel))) (by decide +kernel)
theorem ml_L_80 : Cond.methodLink RL 80 yX10_ahead ∈ UW := uw_in (tin_5 (List.mem_of_getElem? (i := 4) (by decide +kernel))) (by decide +kernel)
theorem ml_L_83 : Cond.methodLink RL 83 yX11_ahead ∈ UW := uw_in (tin_8 (List.mem_of_getElem? (i := 127) (by decide +kernel))) (by decide +kernel)
theorem ml_L_84 : Cond.methodLink RL 84 yX10_sold ∈ UW := uw_in (tin_5 (List.mem_of_getElem? (i := 16) (by decide +kernel))) (by decide +kernel)
theorem ml_L_87 : Cond.methodLink RL 87 yX11_sold ∈ UW := uw_in (tin_8 (List.mem_of_getElem? (i := 147) (by decide +kernel))) (by decide +kernel)
theorem ml_L_88 : Cond.methodLink RL 88 yX10_credit ∈ UW := uw_in (tin_5 (List.mem_of_getElem? (i := 29) (by decide +kernel))) (by decide +kernel)
theorem ml_L_91 : Cond.methodLink RL 91 yX11_credit ∈ UW := uw_in (tin_8 (List.mem_of_getElem? (i := 159) (by decide +kernel))) (by decide +kernel)
theorem ml_L_92 : Cond.methodLink RL 92 yX10_plan ∈ UW := uw_in (tin_5 (List.mem_of_getElem? (i := 41) (by decide +kernel))) (by decide +kernel)
theorem ml_L_95 : Cond.methodLink RL 95 yX11_plan ∈ UW := uw_in (tin_8 (List.mem_of_getElem? (i := 175) (by decide +kernel))) (by decide +kernel)
theorem ml_L_96 : Cond.methodLink RL 96 yX10_share ∈ UW := uw_in (tin_5 (List.mem_of_getElem? (i := 89) (by decide +kernel))) (by decide +kernel)
theorem ml_L_100 : Cond.methodLink RL 100 yX11_share ∈ UW := uw_in (tin_8 (List.mem_of_getElem? (i := 195) (by decide +kernel))) (by decide +kernel)
theorem ml_L_101 : Cond.methodLink RL 101 yX10_waits ∈ UW := uw_in (tin_5 (List.mem_of_getElem? (i := 121) (by decide +kernel))) (by decide +kernel)
theorem ml_L_105 : Cond.methodLink RL 105 yX11_waits ∈ UW := uw_in (tin_8 (List.mem_of_getElem? (i := 214) (by decide +kernel))) (by decide +kernel)
theorem ml_L_106 : Cond.methodLink RL 106 yX10_came ∈ UW := uw_in (tin_5 (List.mem_of_getElem? (i := 131) (by decide +kernel))) (by decide +kernel)
theorem ml_L_109 : Cond.methodLink RL 109 yX11_came ∈ UW := uw_in (tin_8 (List.mem_of_getElem? (i := 219) (by decide +kernel))) (by decide +kernel)
theorem ml_L_110 : Cond.methodLink RL 110 yX10_likely ∈ UW := uw_in (tin_5 (List.mem_of_getElem? (i := 142) (by decide +kernel))) (by decide +kernel)
theorem ml_L_113 : Cond.methodLink RL 113 yX11_likely ∈ UW := uw_in (tin_8 (List.mem_of_getElem? (i := 223) (by decide +kernel))) (by decide +kernel)
theorem ml_L_114 : Cond.methodLink RL 114 yX10_rests ∈ UW := uw_in (tin_5 (List.mem_of_getElem? (i := 146) (by decide +kernel))) (by decide +kernel)
theorem ml_L_117 : Cond.methodLink RL 117 yX11_rests ∈ UW := uw_in (tin_8 (List.mem_of_getElem? (i := 227) (by decide +kernel))) (by decide +kernel)
theorem ml_L_118 : Cond.methodLink RL 118 yX10_rest ∈ UW := uw_in (tin_5 (List.mem_of_getElem? (i := 162) (by decide +kernel))) (by decide +kernel)
theorem ml_L_121 : Cond.methodLink RL 121 yX11_rest ∈ UW := uw_in (tin_9 (List.mem_of_getElem? (i := 3) (by decide +kernel))) (by decide +kernel)
theorem ml_L_122 : Cond.methodLink RL 122 yX10_richest ∈ UW := uw_in (tin_4 (List.mem_of_getElem? (i := 75) (by decide +kernel))) (by decide +kernel)
theorem ml_L_125 : Cond.methodLink RL 125 yX11_richest ∈ UW := uw_in (tin_9 (List.mem_of_getElem? (i := 7) (by decide +kernel))) (by decide +kernel)
theorem ml_L_126 : Cond.methodLink RL 126 yX10_leave ∈ UW := uw_in (tin_5 (List.mem_of_getElem? (i := 110) (by decide +kernel))) (by decide +kernel)
theorem ml_L_129 : Cond.methodLink RL 129 yX11_leave ∈ UW := uw_in (tin_9 (List.mem_of_getElem? (i := 11) (by decide +kernel))) (by decide +kernel)
theorem ml_L_130 : Cond.methodLink RL 130 yX10_blinds ∈ UW := uw_in (tin_5 (List.mem_of_getElem? (i := 68) (by decide +kernel))) (by decide +kernel)
theorem ml_L_133 : Cond.methodLink RL 133 yX11_blinds ∈ UW := uw_in (tin_9 (List.mem_of_getElem? (i := 19) (by decide +kernel))) (by decide +kernel)
theorem ml_L_134 : Cond.methodLink RL 134 yX10_among ∈ UW := uw_in (tin_4 (List.mem_of_getElem? (i := 103) (by decide +kernel))) (by decide +kernel)
theorem ml_L_137 : Cond.methodLink RL 137 yX11_among ∈ UW := uw_in (tin_9 (List.mem_of_getElem? (i := 23) (by decide +kernel))) (by decide +kernel)
theorem ml_L_138 : Cond.methodLink RL 138 yX10_rescue ∈ UW := uw_in (tin_5 (List.mem_of_getElem? (i := 76) (by decide +kernel))) (by decide +kernel)
theorem ml_L_141 : Cond.methodLink RL 141 yX11_rescue ∈ UW := uw_in (tin_9 (List.mem_of_getElem? (i := 31) (by decide +kernel))) (by decide +kernel)
theorem ml_L_142 : Cond.methodLink RL 142 yX10_termIn ∈ UW := uw_in (tin_4 (List.mem_of_getElem? (i := 117) (by decide +kernel))) (by decide +kernel)
theorem ml_L_145 : Cond.methodLink RL 145 yX11_termIn ∈ UW := uw_in (tin_8 (List.mem_of_getElem? (i := 167) (by decide +kernel))) (by decide +kernel)
theorem ml_L_146 : Cond.methodLink RL 146 yX10_often ∈ UW := uw_in (tin_5 (List.mem_of_getElem? (i := 37) (by decide +kernel))) (by decide +kernel)
theorem ml_L_149 : Cond.methodLink RL 149 yX11_often ∈ UW := uw_in (tin_8 (List.mem_of_getElem? (i := 171) (by decide +kernel))) (by decide +kernel)
theorem ml_L_150 : Cond.methodLink RL 150 yX10_owes ∈ UW := uw_in (tin_5 (List.mem_of_getElem? (i := 33) (by decide +kernel))) (by decide +kernel)
theorem ml_L_153 : Cond.methodLink RL 153 yX11_owes ∈ UW := uw_in (tin_8 (List.mem_of_getElem? (i := 163) (by decide +kernel))) (by decide +kernel)
theorem ml_L_154 : Cond.methodLink RL 154 yX10_have ∈ UW := uw_in (tin_4 (List.mem_of_getElem? (i := 87) (by decide +kernel))) (by decide +kernel)
theorem ml_L_157 : Cond.methodLink RL 157 yX11_have ∈ UW := uw_in (tin_9 (List.mem_of_getElem? (i := 35) (by decide +kernel))) (by decide +kernel)
theorem ml_L_158 : Cond.methodLink RL 158 yX10_dearest ∈ UW := uw_in (tin_4 (List.mem_of_getElem? (i := 83) (by decide +kernel))) (by decide +kernel)
theorem ml_L_161 : Cond.methodLink RL 161 yX11_dearest ∈ UW := uw_in (tin_9 (List.mem_of_getElem? (i := 39) (by decide +kernel))) (by decide +kernel)
theorem ml_L_162 : Cond.methodLink RL 162 yX10_note ∈ UW := uw_in (tin_5 (List.mem_of_getElem? (i := 166) (by decide +kernel))) (by decide +kernel)
theorem ml_L_166 : Cond.methodLink RL 166 yX11_note ∈ UW := uw_in (tin_9 (List.mem_of_getElem? (i := 43) (by decide +kernel))) (by decide +kernel)
theorem ml_L_167 : Cond.methodLink RL 167 yX10_strike ∈ UW := uw_in (tin_5 (List.mem_of_getElem? (i := 175) (by decide +kernel))) (by decide +kernel)
theorem ml_L_170 : Cond.methodLink RL 170 yX11_strike ∈ UW := uw_in (tin_9 (List.mem_of_getElem? (i := 51) (by decide +kernel))) (by decide +kernel)
theorem ml_L_171 : Cond.methodLink RL 171 yX10_known ∈ UW := uw_in (tin_5 (List.mem_of_getElem? (i := 185) (by decide +kernel))) (by decide +kernel)
theorem ml_L_174 : Cond.methodLink RL 174 yX11_known ∈ UW := uw_in (tin_9 (List.mem_of_getElem? (i := 55) (by decide +kernel))) (by decide +kernel)
theorem ml_L_175 : Cond.methodLink RL 175 yX10_fits ∈ UW := uw_in (tin_5 (List.mem_of_getElem? (i := 189) (by decide +kernel))) (by decide +kernel)
theorem ml_L_178 : Cond.methodLink RL 178 yX11_fits ∈ UW := uw_in (tin_9 (List.mem_of_getElem? (i := 59) (by decide +kernel))) (by decide +kernel)
theorem ml_L_179 : Cond.methodLink RL 179 yX10_ask ∈ UW := uw_in (tin_5 (List.mem_of_getElem? (i := 207) (by decide +kernel))) (by decide +kernel)
theorem ml_L_182 : Cond.methodLink RL 182 yX11_ask ∈ UW := uw_in (tin_9 (List.mem_of_getElem? (i := 71) (by decide +kernel))) (by decide +kernel)
theorem ml_L_183 : Cond.methodLink RL 183 yX10_chance ∈ UW := uw_in (tin_5 (List.mem_of_getElem? (i := 81) (by decide +kernel))) (by decide +kernel)
theorem ml_L_186 : Cond.methodLink RL 186 yX11_chance ∈ UW := uw_in (tin_9 (List.mem_of_getElem? (i := 79) (by decide +kernel))) (by decide +kernel)
theorem ml_L_187 : Cond.methodLink RL 187 yX10_tried ∈ UW := uw_in (tin_5 (List.mem_of_getElem? (i := 85) (by decide +kernel))) (by decide +kernel)
theorem ml_L_190 : Cond.methodLink RL 190 yX11_tried ∈ UW := uw_in (tin_9 (List.mem_of_getElem? (i := 83) (by decide +kernel))) (by decide +kernel)
theorem ml_L_191 : Cond.methodLink RL 191 yX10_undo ∈ UW := uw_in (tin_4 (List.mem_of_getElem? (i := 224) (by decide +kernel))) (by decide +kernel)
theorem ml_L_194 : Cond.methodLink RL 194 yX11_undo ∈ UW := uw_in (tin_9 (List.mem_of_getElem? (i := 87) (by decide +kernel))) (by decide +kernel)
theorem ml_L_195 : Cond.methodLink RL 195 yX10_keep ∈ UW := uw_in (tin_4 (List.mem_of_getElem? (i := 232) (by decide +kernel))) (by decide +kernel)
theorem ml_L_198 : Cond.methodLink RL 198 yX11_keep ∈ UW := uw_in (tin_9 (List.mem_of_getElem? (i := 95) (by decide +kernel))) (by decide +kernel)
theorem ml_L_199 : Cond.methodLink RL 199 yX10_back ∈ UW := uw_in (tin_5 (List.mem_of_getElem? (i := 0) (by decide +kernel))) (by decide +kernel)
theorem ml_L_202 : Cond.methodLink RL 202 yX11_back ∈ UW := uw_in (tin_9 (List.mem_of_getElem? (i := 99) (by decide +kernel))) (by decide +kernel)
theorem ml_L_203 : Cond.methodLink RL 203 yX10_count ∈ UW := uw_in (tin_4 (List.mem_of_getElem? (i := 125) (by decide +kernel))) (by decide +kernel)
theorem ml_L_206 : Cond.methodLink RL 206 yX11_count ∈ UW := uw_in (tin_9 (List.mem_of_getElem? (i := 103) (by decide +kernel))) (by decide +kernel)
theorem ml_L_39 : Cond.methodLink RL 39 yL_house ∈ UW := uw_in (tin_5 (List.mem_of_getElem? (i := 215) (by decide +kernel))) (by decide +kernel)
theorem st_L_house : Cond.static yL_house ∈ UW := uw_in (tin_5 (List.mem_of_getElem? (i := 216) (by decide +kernel))) (by decide +kernel)
theorem ini_RL : Cond.initialized yL_house.cls ∈ UW := uw_in (tin_1 (List.mem_of_getElem? (i := 0) (by decide +kernel))) (by decide +kernel)
theorem ic_6 : Int32.ofInt 6 = 6 := by decide
theorem par_L_house : ∀ sig, parseMethodDescriptor yL_house.desc = some sig → 4 = sig.parameters.length := fun sig h => by
  have h1 : (parseMethodDescriptor yL_house.desc).map (fun d => d.parameters.length) = some 4 := by decide +kernel
  rw [h] at h1
  exact (Option.some.inj h1).symm
theorem cw_L_house : Cond.codeWith yL_house cL_house 5 (some .int) [(0, 10, 13, 13), (0, 10, 17, 15)] ∈ UW := uw_in (tin_5 (List.mem_of_getElem? (i := 217) rfl)) rfl
theorem hAcb {b : Nat} : ∀ k, k < Lc.length → Ar b 80 (b + k) := fun k hk => ⟨by omega, by have : Lc.length = 80 := rfl; omega⟩
theorem hAmb {b : Nat} : ∀ k, k < Lm.length → Ar b 43 (b + k) := fun k hk => ⟨by omega, by have : Lm.length = 43 := rfl; omega⟩
set_option maxHeartbeats 16000000 in
set_option maxRecDepth 200000 in
theorem law_step {G : Gx} {l0 : Launch} {K V : Nat → Nat} {A : Nat → Prop} {X : Cx} {b sb N n : Nat} {xs : Nat → Int32} {Zl : Cx → Unit → State → Prop} (hst : l0.stackTraces = false) (hok : Ok G l0 X RL cL_law 7 room_1 (some .boolean)) (hE : OkE K V A X) (hX : OkS X A sb N xs) (hAA : ∀ q, b ≤ q → A q) (hn : n + 1 ≤ 513)
    (hend : ∀ (kc ks pc : Nat) (lv : List (Nat × Value)) (Wd : Heap → Prop), kc ≤ 1150 → ks ≤ 15786 → decode cL_law pc = .ok (.ireturn, 1) → T X A (Zl X) 7 kc ks pc lv [.int 1] Wd (some ()))
    (r23 : Int32 → Nat → Nat → Nat → MI → MJ → MI → MJ → MJ → Option Unit) (hr23 : ∀ (x4 : Int32) (bk dr it : Nat) (I : MI) (J : MJ) (I2 : MI) (J2 : MJ) (J3 : MJ), T X A (Zl X) 7 (1150 - 1 * n) (15786 - 6 * n) 23 [(0, .ref sb), (1, .ref (b + 0)), (2, .ref (b + 80 + 0)), (3, .ref (b + 123 + 0)), (4, .int x4)] [] (fun H => Rg G b Lc (Rc b bk dr it) I J H ∧ (Rg G (b + 80) Lm (Rm (b + 80)) I2 J2 H ∧ Rg G (b + 123) [.inr (1, 1)] (fun _ _ => .null) (fun _ _ => 0) J3 H)) (r23 x4 bk dr it I J I2 J2 J3)) (x4 : Int32) (bk dr it : Nat) (I : MI) (J : MJ) (I2 : MI) (J2 : MJ) (J3 : MJ) : T X A (Zl X) 7 (1150 - 1 * (n + 1)) (15786 - 6 * (n + 1)) 23 [(0, .ref sb), (1, .ref (b + 0)), (2, .ref (b + 80 + 0)), (3, .ref (b + 123 + 0)), (4, .int x4)] [] (fun H => Rg G b Lc (Rc b bk dr it) I J H ∧ (Rg G (b + 80) Lm (Rm (b + 80)) I2 J2 H ∧ Rg G (b + 123) [.inr (1, 1)] (fun _ _ => .null) (fun _ _ => 0) J3 H)) (f_law N xs r23 x4 bk dr it I J I2 J2 J3) := by
  have hAc : ∀ k, k < Lc.length → Ar b 80 (b + k) := hAcb
  have hAm : ∀ k, k < Lm.length → Ar (b + 80) 43 (b + 80 + k) := hAmb
  have hAc0 : ∀ q, Ar b 80 q → A q := fun q hq => hAA q hq.1
  have hAm0 : ∀ q, Ar (b + 80) 43 q → A q := fun q hq => hAA q (by have := hq.1; omega)
  have hAh0 : ∀ q, (Ar b 80 q ∨ q = b + 123 + 0) → A q := fun q hq => hAA q (by rcases hq with h | h <;> (try have := h.1) <;> omega)
  have hne3 : ∀ k, k < Lc.length → b + k ≠ b + 123 + 0 := fun k hk => by have : Lc.length = 80 := rfl; omega
  have frC : ∀ {I2 : MI} {J2 J3 : MJ} (H H' : Heap), H.size ≤ H'.size → (∀ q, q < H.size → ¬ Ar b 80 q → H'[q]? = H[q]?) → (Rg G (b + 80) Lm (Rm (b + 80)) I2 J2 H ∧ Rg G (b + 123) [.inr (1, 1)] (fun _ _ => .null) (fun _ _ => 0) J3 H) → (Rg G (b + 80) Lm (Rm (b + 80)) I2 J2 H' ∧ Rg G (b + 123) [.inr (1, 1)] (fun _ _ => .null) (fun _ _ => 0) J3 H') := fun H H' _ hk h => ⟨Rg_frame (fun p hp hq => by have := hq.2; omega) hk h.1, Rg_frame (fun p hp hq => by have := hq.2; omega) hk h.2⟩
  have frM : ∀ {bk dr it : Nat} {I : MI} {J J3 : MJ} (H H' : Heap), H.size ≤ H'.size → (∀ q, q < H.size → ¬ Ar (b + 80) 43 q → H'[q]? = H[q]?) → (Rg G b Lc (Rc b bk dr it) I J H ∧ Rg G (b + 123) [.inr (1, 1)] (fun _ _ => .null) (fun _ _ => 0) J3 H) → (Rg G b Lc (Rc b bk dr it) I J H' ∧ Rg G (b + 123) [.inr (1, 1)] (fun _ _ => .null) (fun _ _ => 0) J3 H') := fun H H' _ hk h => ⟨Rg_frame (fun p hp hq => by have := hq.1; have : Lc.length = 80 := rfl; omega) hk h.1, Rg_frame (fun p hp hq => by have := hq.2; omega) hk h.2⟩
  have frH : ∀ {I2 : MI} {J2 : MJ} (H H' : Heap), H.size ≤ H'.size → (∀ q, q < H.size → ¬ (Ar b 80 q ∨ q = b + 123 + 0) → H'[q]? = H[q]?) → Rg G (b + 80) Lm (Rm (b + 80)) I2 J2 H → Rg G (b + 80) Lm (Rm (b + 80)) I2 J2 H' := fun H H' _ hk h => Rg_frame (fun p hp hq => by have : Lm.length = 43 := rfl; rcases hq with h | h <;> (try have := h.2) <;> omega) hk h
  delta f_law
  refine T_gdH fun hbk => T_gdH fun hdr => T_gdH fun hit => ?_
  refine T_iload hok 4 rfl dL_law_23 ?_
  refine T_aload_n hok 0 rfl rfl dL_law_25 ?_
  refine T_slenX hok hX dL_law_26 ?_
  refine T_bipush hok bp_6 dL_law_27 ?_
  refine T_isub hok dL_law_29 ?_
  refine T_icmp_gt (tgt := 1731) hok dL_law_30 rfl ?_ ?_
  · refine T_iconst hok ic_1 dL_law_1731 ?_
    exact hend _ _ _ _ _ (by omega) (by omega) dL_law_1732
  refine T_aload_n hok 0 rfl rfl dL_law_33 ?_
  refine T_iload hok 4 rfl dL_law_34 ?_
  refine T_sld hok hX dL_law_36 ?_
  refine T_bipush hok bp_63 dL_law_37 ?_
  refine T_iand hok dL_law_39 ?_
  refine T_jp _ (fun (j1725 : Nat → Nat → Nat → MI → MJ → MI → MJ → MJ → Option (Unit)) => ∀ (bk1 : Nat) (dr2 : Nat) (it3 : Nat) (I4 : MI) (J5 : MJ) (I26 : MI) (J27 : MJ) (J38 : MJ), T X A (Zl X) 7 (1150 - 1 * n) (15786 - 6 * n) 1725 [(0, .ref sb), (1, .ref (b + 0)), (2, .ref (b + 80 + 0)), (3, .ref (b + 123 + 0)), (4, .int x4)] [] (fun H => Rg G b Lc (Rc b bk1 dr2 it3) I4 J5 H ∧ (Rg G (b + 80) Lm (Rm (b + 80)) I26 J27 H ∧ Rg G (b + 123) [.inr (1, 1)] (fun _ _ => .null) (fun _ _ => 0) J38 H)) (j1725 bk1 dr2 it3 I4 J5 I26 J27 J38)) _ ?_ ?_
  · intro bk1 dr2 it3 I4 J5 I26 J27 J38
    refine T_iinc (lvs := fun x9 => [(4, .int x9), (0, .ref sb), (1, .ref (b + 0)), (2, .ref (b + 80 + 0)), (3, .ref (b + 123 + 0))]) hok 4 rfl ic_6 (by decide) (fun _ => rfl) dL_law_1725 ?_
    intro x9
    refine T_goto (tgt := 23) hok dL_law_1728 rfl ?_
    refine T_sub (lv' := [(0, .ref sb), (1, .ref (b + 0)), (2, .ref (b + 80 + 0)), (3, .ref (b + 123 + 0)), (4, .int x9)]) [1, 2, 3, 4, 0] rfl ?_
    exact hr23 x9 bk1 dr2 it3 I4 J5 I26 J27 J38
  intro j1725 hj1725
  refine T_swc (fun hx0 => ?_) (fun hx0 => ?_)
  · refine T_tin (tgt := 228) hok hx0 dL_law_40 (by decide) (by decide) rfl rfl ?_
    refine T_aload_n hok 1 rfl rfl dL_law_228 ?_
    refine T_aload_n hok 0 rfl rfl dL_law_229 ?_
    refine T_iload hok 4 rfl dL_law_230 ?_
    refine T_iconst hok ic_1 dL_law_232 ?_
    refine T_iadd hok dL_law_233 ?_
    refine T_sld hok hX dL_law_234 ?_
    refine T_aload_n hok 0 rfl rfl dL_law_235 ?_
    refine T_iload hok 4 rfl dL_law_236 ?_
    refine T_iconst hok ic_2 dL_law_238 ?_
    refine T_iadd hok dL_law_239 ?_
    refine T_sld hok hX dL_law_240 ?_
    refine T_aload_n hok 0 rfl rfl dL_law_241 ?_
    refine T_iload hok 4 rfl dL_law_242 ?_
    refine T_iconst hok ic_3 dL_law_244 ?_
    refine T_iadd hok dL_law_245 ?_
    refine T_sld hok hX dL_law_246 ?_
    refine T_aload_n hok 0 rfl rfl dL_law_247 ?_
    refine T_iload hok 4 rfl dL_law_248 ?_
    refine T_iconst hok ic_4 dL_law_250 ?_
    refine T_iadd hok dL_law_251 ?_
    refine T_sld hok hX dL_law_252 ?_
    refine T_aload_n hok 0 rfl rfl dL_law_253 ?_
    refine T_iload hok 4 rfl dL_law_254 ?_
    refine T_iconst hok ic_5 dL_law_256 ?_
    refine T_iadd hok dL_law_257 ?_
    refine T_sld hok hX dL_law_258 ?_
    refine T_fi1 (A1 := Ar b 80) (kc' := (1150 - 1 * (n + 1))) (ks' := (15786 - 6 * (n + 1))) hAc0 frC (CRF_V (rest := []) hok (ct_X10_feed (A := Ar b 80) hAc I J (xs (ix (x4 + (1 : Int32)))) (xs (ix (x4 + (2 : Int32)))) (xs (ix (x4 + (3 : Int32)))) (xs (ix (x4 + (4 : Int32)))) (xs (ix (x4 + (5 : Int32))))) mw_X10_feed mv_X10_feed ml_L_21 lc_0 dL_law_259 rfl rfl ⟨Nat.le_of_ble_eq_true rfl, Nat.le_of_ble_eq_true rfl⟩ (by show _ + 0 ≤ 1150; omega) (by show _ + 0 ≤ 15786; omega) rfl) rfl rfl ?_
    intro x10 I11
    refine T_wd (Wd' := fun H => Rg G b Lc (Rc b bk dr it) I11 J H ∧ (Rg G (b + 80) Lm (Rm (b + 80)) I2 J2 H ∧ Rg G (b + 123) [.inr (1, 1)] (fun _ _ => .null) (fun _ _ => 0) J3 H)) (fun H h => h) ?_
    refine T_aload_n hok 2 rfl rfl dL_law_262 ?_
    refine T_aload_n hok 0 rfl rfl dL_law_263 ?_
    refine T_iload hok 4 rfl dL_law_264 ?_
    refine T_iconst hok ic_1 dL_law_266 ?_
    refine T_iadd hok dL_law_267 ?_
    refine T_sld hok hX dL_law_268 ?_
    refine T_aload_n hok 0 rfl rfl dL_law_269 ?_
    refine T_iload hok 4 rfl dL_law_270 ?_
    refine T_iconst hok ic_2 dL_law_272 ?_
    refine T_iadd hok dL_law_273 ?_
    refine T_sld hok hX dL_law_274 ?_
    refine T_aload_n hok 0 rfl rfl dL_law_275 ?_
    refine T_iload hok 4 rfl dL_law_276 ?_
    refine T_iconst hok ic_3 dL_law_278 ?_
    refine T_iadd hok dL_law_279 ?_
    refine T_sld hok hX dL_law_280 ?_
    refine T_aload_n hok 0 rfl rfl dL_law_281 ?_
    refine T_iload hok 4 rfl dL_law_282 ?_
    refine T_iconst hok ic_4 dL_law_284 ?_
    refine T_iadd hok dL_law_285 ?_
    refine T_sld hok hX dL_law_286 ?_
    refine T_aload_n hok 0 rfl rfl dL_law_287 ?_
    refine T_iload hok 4 rfl dL_law_288 ?_
    refine T_iconst hok ic_5 dL_law_290 ?_
    refine T_iadd hok dL_law_291 ?_
    refine T_sld hok hX dL_law_292 ?_
    refine T_wd (Wd' := fun H => Rg G (b + 80) Lm (Rm (b + 80)) I2 J2 H ∧ (Rg G b Lc (Rc b bk dr it) I11 J H ∧ Rg G (b + 123) [.inr (1, 1)] (fun _ _ => .null) (fun _ _ => 0) J3 H)) (fun H h => ⟨h.2.1, h.1, h.2.2⟩) ?_
    refine T_fi1 (A1 := Ar (b + 80) 43) (kc' := (1150 - 1 * (n + 1))) (ks' := (15786 - 6 * (n + 1))) hAm0 frM (CRF_V (rest := [.int x10]) hok (ct_X11_feed (b := b + 80) (A := Ar (b + 80) 43) hAm I2 J2 (xs (ix (x4 + (1 : Int32)))) (xs (ix (x4 + (2 : Int32)))) (xs (ix (x4 + (3 : Int32)))) (xs (ix (x4 + (4 : Int32)))) (xs (ix (x4 + (5 : Int32))))) mw_X11_feed mv_X11_feed ml_L_25 lm_0 dL_law_293 rfl rfl ⟨Nat.le_of_ble_eq_true rfl, Nat.le_of_ble_eq_true rfl⟩ (by show _ + 0 ≤ 1150; omega) (by show _ + 0 ≤ 15786; omega) rfl) rfl rfl ?_
    intro x12 I13
    refine T_wd (Wd' := fun H => Rg G b Lc (Rc b bk dr it) I11 J H ∧ (Rg G (b + 80) Lm (Rm (b + 80)) I13 J2 H ∧ Rg G (b + 123) [.inr (1, 1)] (fun _ _ => .null) (fun _ _ => 0) J3 H)) (fun H h => ⟨h.2.1, h.1, h.2.2⟩) ?_
    refine T_icmp_eq (tgt := 1725) hok dL_law_296 rfl ?_ ?_
    · refine T_widen (kc' := 1150 - 1 * n) (ks' := 15786 - 6 * n) (by omega) (by omega) ?_
      exact hj1725 bk dr it I11 J I13 J2 J3
    exact T_none
  refine T_swc (fun hx1 => ?_) (fun hx1 => ?_)
  · refine T_tin (tgt := 301) hok hx1 dL_law_40 (by decide) (by decide) rfl rfl ?_
    refine T_aload_n hok 1 rfl rfl dL_law_301 ?_
    refine T_aload_n hok 0 rfl rfl dL_law_302 ?_
    refine T_iload hok 4 rfl dL_law_303 ?_
    refine T_iconst hok ic_1 dL_law_305 ?_
    refine T_iadd hok dL_law_306 ?_
    refine T_sld hok hX dL_law_307 ?_
    refine T_fi4 (A1 := Ar b 80) (kc' := (1150 - 1 * (n + 1))) (ks' := (15786 - 6 * (n + 1))) hAc0 frC (CRF_V (rest := []) hok (ct_X10_text (A := Ar b 80) hAc hbk hdr hit I J (xs (ix (x4 + (1 : Int32))))) mw_X10_text mv_X10_text ml_L_26 lc_0 dL_law_308 rfl rfl ⟨Nat.le_of_ble_eq_true rfl, Nat.le_of_ble_eq_true rfl⟩ (by show _ + 0 ≤ 1150; omega) (by show _ + 0 ≤ 15786; omega) rfl) rfl rfl ?_
    intro x14 bk15 dr16 it17 I18
    refine T_wd (Wd' := fun H => Rg G b Lc (Rc b bk15 dr16 it17) I18 J H ∧ (Rg G (b + 80) Lm (Rm (b + 80)) I2 J2 H ∧ Rg G (b + 123) [.inr (1, 1)] (fun _ _ => .null) (fun _ _ => 0) J3 H)) (fun H h => h) ?_
    refine T_aload_n hok 2 rfl rfl dL_law_311 ?_
    refine T_aload_n hok 0 rfl rfl dL_law_312 ?_
    refine T_iload hok 4 rfl dL_law_313 ?_
    refine T_iconst hok ic_1 dL_law_315 ?_
    refine T_iadd hok dL_law_316 ?_
    refine T_sld hok hX dL_law_317 ?_
    refine T_wd (Wd' := fun H => Rg G (b + 80) Lm (Rm (b + 80)) I2 J2 H ∧ (Rg G b Lc (Rc b bk15 dr16 it17) I18 J H ∧ Rg G (b + 123) [.inr (1, 1)] (fun _ _ => .null) (fun _ _ => 0) J3 H)) (fun H h => ⟨h.2.1, h.1, h.2.2⟩) ?_
    refine T_fi2 (A1 := Ar (b + 80) 43) (kc' := (1150 - 1 * (n + 1))) (ks' := (15786 - 6 * (n + 1))) hAm0 frM (CRF_V (rest := [.int x14]) hok (ct_X11_text (b := b + 80) (A := Ar (b + 80) 43) hAm I2 J2 (xs (ix (x4 + (1 : Int32))))) mw_X11_text mv_X11_text ml_L_30 lm_0 dL_law_318 rfl rfl ⟨Nat.le_of_ble_eq_true rfl, Nat.le_of_ble_eq_true rfl⟩ (by show _ + 0 ≤ 1150; omega) (by show _ + 0 ≤ 15786; omega) rfl) rfl rfl ?_
    intro x19 I20 J21
    refine T_wd (Wd' := fun H => Rg G b Lc (Rc b bk15 dr16 it17) I18 J H ∧ (Rg G (b + 80) Lm (Rm (b + 80)) I20 J21 H ∧ Rg G (b + 123) [.inr (1, 1)] (fun _ _ => .null) (fun _ _ => 0) J3 H)) (fun H h => ⟨h.2.1, h.1, h.2.2⟩) ?_
    refine T_icmp_eq (tgt := 1725) hok dL_law_321 rfl ?_ ?_
    · refine T_widen (kc' := 1150 - 1 * n) (ks' := 15786 - 6 * n) (by omega) (by omega) ?_
      exact hj1725 bk15 dr16 it17 I18 J I20 J21 J3
    exact T_none
  refine T_swc (fun hx2 => ?_) (fun hx2 => ?_)
  · refine T_tin (tgt := 326) hok hx2 dL_law_40 (by decide) (by decide) rfl rfl ?_
    refine T_aload_n hok 1 rfl rfl dL_law_326 ?_
    refine T_aload_n hok 0 rfl rfl dL_law_327 ?_
    refine T_iload hok 4 rfl dL_law_328 ?_
    refine T_iconst hok ic_1 dL_law_330 ?_
    refine T_iadd hok dL_law_331 ?_
    refine T_sld hok hX dL_law_332 ?_
    refine T_fi0 (A1 := Ar b 80) (kc' := (1150 - 1 * (n + 1))) (ks' := (15786 - 6 * (n + 1))) hAc0 frC (CRF_V (rest := []) hok (ct_X10_fault (A := Ar b 80) hAc I J (xs (ix (x4 + (1 : Int32))))) mw_X10_fault mv_X10_fault ml_L_31 lc_0 dL_law_333 rfl rfl ⟨Nat.le_of_ble_eq_true rfl, Nat.le_of_ble_eq_true rfl⟩ (by show _ + 0 ≤ 1150; omega) (by show _ + 0 ≤ 15786; omega) rfl) rfl rfl ?_
    intro x22
    refine T_wd (Wd' := fun H => Rg G b Lc (Rc b bk dr it) I J H ∧ (Rg G (b + 80) Lm (Rm (b + 80)) I2 J2 H ∧ Rg G (b + 123) [.inr (1, 1)] (fun _ _ => .null) (fun _ _ => 0) J3 H)) (fun H h => h) ?_
    refine T_aload_n hok 2 rfl rfl dL_law_336 ?_
    refine T_aload_n hok 0 rfl rfl dL_law_337 ?_
    refine T_iload hok 4 rfl dL_law_338 ?_
    refine T_iconst hok ic_1 dL_law_340 ?_
    refine T_iadd hok dL_law_341 ?_
    refine T_sld hok hX dL_law_342 ?_
    refine T_wd (Wd' := fun H => Rg G (b + 80) Lm (Rm (b + 80)) I2 J2 H ∧ (Rg G b Lc (Rc b bk dr it) I J H ∧ Rg G (b + 123) [.inr (1, 1)] (fun _ _ => .null) (fun _ _ => 0) J3 H)) (fun H h => ⟨h.2.1, h.1, h.2.2⟩) ?_
    refine T_fi1 (A1 := Ar (b + 80) 43) (kc' := (1150 - 1 * (n + 1))) (ks' := (15786 - 6 * (n + 1))) hAm0 frM (CRF_V (rest := [.int x22]) hok (ct_X11_fault (b := b + 80) (A := Ar (b + 80) 43) hAm I2 J2 (xs (ix (x4 + (1 : Int32))))) mw_X11_fault mv_X11_fault ml_L_34 lm_0 dL_law_343 rfl rfl ⟨Nat.le_of_ble_eq_true rfl, Nat.le_of_ble_eq_true rfl⟩ (by show _ + 0 ≤ 1150; omega) (by show _ + 0 ≤ 15786; omega) rfl) rfl rfl ?_
    intro x23 I24
    refine T_wd (Wd' := fun H => Rg G b Lc (Rc b bk dr it) I J H ∧ (Rg G (b + 80) Lm (Rm (b + 80)) I24 J2 H ∧ Rg G (b + 123) [.inr (1, 1)] (fun _ _ => .null) (fun _ _ => 0) J3 H)) (fun H h => ⟨h.2.1, h.1, h.2.2⟩) ?_
    refine T_icmp_eq (tgt := 1725) hok dL_law_346 rfl ?_ ?_
    · refine T_widen (kc' := 1150 - 1 * n) (ks' := 15786 - 6 * n) (by omega) (by omega) ?_
      exact hj1725 bk dr it I J I24 J2 J3
    exact T_none
  refine T_swc (fun hx3 => ?_) (fun hx3 => ?_)
  · refine T_tin (tgt := 351) hok hx3 dL_law_40 (by decide) (by decide) rfl rfl ?_
    refine T_aload_n hok 1 rfl rfl dL_law_351 ?_
    refine T_aload_n hok 0 rfl rfl dL_law_352 ?_
    refine T_iload hok 4 rfl dL_law_353 ?_
    refine T_iconst hok ic_1 dL_law_355 ?_
    refine T_iadd hok dL_law_356 ?_
    refine T_sld hok hX dL_law_357 ?_
    refine T_aload_n hok 0 rfl rfl dL_law_358 ?_
    refine T_iload hok 4 rfl dL_law_359 ?_
    refine T_iconst hok ic_2 dL_law_361 ?_
    refine T_iadd hok dL_law_362 ?_
    refine T_sld hok hX dL_law_363 ?_
    refine T_fi0 (A1 := Ar b 80) (kc' := (1150 - 1 * (n + 1))) (ks' := (15786 - 6 * (n + 1))) hAc0 frC (CRF_V (rest := []) hok (ct_X10_named (A := Ar b 80) hAc hbk I J (xs (ix (x4 + (1 : Int32)))) (xs (ix (x4 + (2 : Int32))))) mw_X10_named mv_X10_named ml_L_35 lc_0 dL_law_364 rfl rfl ⟨Nat.le_of_ble_eq_true rfl, Nat.le_of_ble_eq_true rfl⟩ (by show _ + 0 ≤ 1150; omega) (by show _ + 0 ≤ 15786; omega) rfl) rfl rfl ?_
    intro x25
    refine T_wd (Wd' := fun H => Rg G b Lc (Rc b bk dr it) I J H ∧ (Rg G (b + 80) Lm (Rm (b + 80)) I2 J2 H ∧ Rg G (b + 123) [.inr (1, 1)] (fun _ _ => .null) (fun _ _ => 0) J3 H)) (fun H h => h) ?_
    refine T_aload_n hok 2 rfl rfl dL_law_367 ?_
    refine T_aload_n hok 0 rfl rfl dL_law_368 ?_
    refine T_iload hok 4 rfl dL_law_369 ?_
    refine T_iconst hok ic_1 dL_law_371 ?_
    refine T_iadd hok dL_law_372 ?_
    refine T_sld hok hX dL_law_373 ?_
    refine T_aload_n hok 0 rfl rfl dL_law_374 ?_
    refine T_iload hok 4 rfl dL_law_375 ?_
    refine T_iconst hok ic_2 dL_law_377 ?_
    refine T_iadd hok dL_law_378 ?_
    refine T_sld hok hX dL_law_379 ?_
    refine T_wd (Wd' := fun H => Rg G (b + 80) Lm (Rm (b + 80)) I2 J2 H ∧ (Rg G b Lc (Rc b bk dr it) I J H ∧ Rg G (b + 123) [.inr (1, 1)] (fun _ _ => .null) (fun _ _ => 0) J3 H)) (fun H h => ⟨h.2.1, h.1, h.2.2⟩) ?_
    refine T_fi1 (A1 := Ar (b + 80) 43) (kc' := (1150 - 1 * (n + 1))) (ks' := (15786 - 6 * (n + 1))) hAm0 frM (CRF_V (rest := [.int x25]) hok (ct_X11_named (b := b + 80) (A := Ar (b + 80) 43) hAm I2 J2 (xs (ix (x4 + (1 : Int32)))) (xs (ix (x4 + (2 : Int32))))) mw_X11_named mv_X11_named ml_L_38 lm_0 dL_law_380 rfl rfl ⟨Nat.le_of_ble_eq_true rfl, Nat.le_of_ble_eq_true rfl⟩ (by show _ + 0 ≤ 1150; omega) (by show _ + 0 ≤ 15786; omega) rfl) rfl rfl ?_
    intro x26 I27
    refine T_wd (Wd' := fun H => Rg G b Lc (Rc b bk dr it) I J H ∧ (Rg G (b + 80) Lm (Rm (b + 80)) I27 J2 H ∧ Rg G (b + 123) [.inr (1, 1)] (fun _ _ => .null) (fun _ _ => 0) J3 H)) (fun H h => ⟨h.2.1, h.1, h.2.2⟩) ?_
    refine T_icmp_eq (tgt := 1725) hok dL_law_383 rfl ?_ ?_
    · refine T_widen (kc' := 1150 - 1 * n) (ks' := 15786 - 6 * n) (by omega) (by omega) ?_
      exact hj1725 bk dr it I J I27 J2 J3
    exact T_none
  refine T_swc (fun hx4 => ?_) (fun hx4 => ?_)
  · refine T_tin (tgt := 388) hok hx4 dL_law_40 (by decide) (by decide) rfl rfl ?_
    refine T_aload_n hok 1 rfl rfl dL_law_388 ?_
    refine T_aload_n hok 0 rfl rfl dL_law_389 ?_
    refine T_iload hok 4 rfl dL_law_390 ?_
    refine T_iconst hok ic_1 dL_law_392 ?_
    refine T_iadd hok dL_law_393 ?_
    refine T_sld hok hX dL_law_394 ?_
    refine T_aload_n hok 0 rfl rfl dL_law_395 ?_
    refine T_iload hok 4 rfl dL_law_396 ?_
    refine T_iconst hok ic_2 dL_law_398 ?_
    refine T_iadd hok dL_law_399 ?_
    refine T_sld hok hX dL_law_400 ?_
    refine T_aload_n hok 3 rfl rfl dL_law_401 ?_
    refine T_wd (Wd' := fun H => (Rg G b Lc (Rc b bk dr it) I J H ∧ Rg G (b + 123) [.inr (1, 1)] (fun _ _ => .null) (fun _ _ => 0) J3 H) ∧ Rg G (b + 80) Lm (Rm (b + 80)) I2 J2 H) (fun H h => ⟨⟨h.1, h.2.2⟩, h.2.1⟩) ?_
    refine T_fi1 (A1 := fun q => Ar b 80 q ∨ q = b + 123 + 0) (kc' := 1150 - 1 * n) (ks' := 15786 - 6 * n) hAh0 frH (CRF_H (n := 4) (rest := []) hok hE hAh0 (ct_L_house (A := fun q => Ar b 80 q ∨ q = b + 123 + 0) hst (fun k hk => Or.inl (hAc k hk)) (Or.inr rfl) hne3 hbk I J J3 (xs (ix (x4 + (1 : Int32)))) (xs (ix (x4 + (2 : Int32))))) cw_L_house ini_RL st_L_house (by decide +kernel) par_L_house ml_L_39 dL_law_402 rfl rfl rfl rfl ⟨Nat.le_of_ble_eq_true rfl, Nat.le_of_ble_eq_true rfl⟩ (by show _ + 1 ≤ 1150; omega) (by show _ + 6 ≤ 15786; omega) rfl) (by omega) (by omega) ?_
    intro x28 J329
    refine T_wd (Wd' := fun H => Rg G b Lc (Rc b bk dr it) I J H ∧ (Rg G (b + 80) Lm (Rm (b + 80)) I2 J2 H ∧ Rg G (b + 123) [.inr (1, 1)] (fun _ _ => .null) (fun _ _ => 0) J329 H)) (fun H h => ⟨h.1.1, h.2, h.1.2⟩) ?_
    refine T_istore (lv' := [(5, .int x28), (0, .ref sb), (1, .ref (b + 0)), (2, .ref (b + 80 + 0)), (3, .ref (b + 123 + 0)), (4, .int x4)]) hok (by decide) rfl dL_law_405 ?_
    refine T_aload_n hok 3 rfl rfl dL_law_407 ?_
    refine T_aload_n hok 1 rfl rfl dL_law_408 ?_
    refine T_iload hok 5 rfl dL_law_409 ?_
    refine T_iconst hok ic_1 dL_law_411 ?_
    refine T_iadd hok dL_law_412 ?_
    refine T_sld hok hX dL_law_413 ?_
    refine T_aload_n hok 1 rfl rfl dL_law_414 ?_
    refine T_iload hok 5 rfl dL_law_415 ?_
    refine T_iconst hok ic_2 dL_law_417 ?_
    refine T_iadd hok dL_law_418 ?_
    refine T_sld hok hX dL_law_419 ?_
    refine T_wd (Wd' := fun H => Rg G (b + 80) Lm (Rm (b + 80)) I2 J2 H ∧ (Rg G b Lc (Rc b bk dr it) I J H ∧ Rg G (b + 123) [.inr (1, 1)] (fun _ _ => .null) (fun _ _ => 0) J329 H)) (fun H h => ⟨h.2.1, h.1, h.2.2⟩) ?_
    refine T_fi1 (A1 := Ar (b + 80) 43) (kc' := (1150 - 1 * n)) (ks' := (15786 - 6 * n)) hAm0 frM (CRF_V (rest := []) hok (ct_X11_house (b := b + 80) (A := Ar (b + 80) 43) hAm I2 J2 (xs (ix (x4 + (1 : Int32)))) (xs (ix (x4 + (2 : Int32))))) mw_X11_house mv_X11_house ml_L_44 lm_0 dL_law_420 rfl rfl ⟨Nat.le_of_ble_eq_true rfl, Nat.le_of_ble_eq_true rfl⟩ (by show _ + 0 ≤ 1150; omega) (by show _ + 0 ≤ 15786; omega) rfl) rfl rfl ?_
    intro x30 I31
    refine T_wd (Wd' := fun H => Rg G b Lc (Rc b bk dr it) I J H ∧ (Rg G (b + 80) Lm (Rm (b + 80)) I31 J2 H ∧ Rg G (b + 123) [.inr (1, 1)] (fun _ _ => .null) (fun _ _ => 0) J329 H)) (fun H h => ⟨h.2.1, h.1, h.2.2⟩) ?_
    refine T_istore (lv' := [(6, .int x30), (5, .int x28), (0, .ref sb), (1, .ref (b + 0)), (2, .ref (b + 80 + 0)), (3, .ref (b + 123 + 0)), (4, .int x4)]) hok (by decide) rfl dL_law_423 ?_
    refine T_aload_n hok 4 rfl rfl dL_law_425 ?_
    refine T_wd (Wd' := fun H => Rg G (b + 80) Lm (Rm (b + 80)) I31 J2 H ∧ (Rg G b Lc (Rc b bk dr it) I J H ∧ Rg G (b + 123) [.inr (1, 1)] (fun _ _ => .null) (fun _ _ => 0) J329 H)) (fun H h => ⟨h.2.1, h.1, h.2.2⟩) ?_
    refine T_fi0 (A1 := Ar (b + 80) 43) (kc' := (1150 - 1 * n)) (ks' := (15786 - 6 * n)) hAm0 frM (CRF_V (rest := []) hok (ct_X11_thrown (b := b + 80) (A := Ar (b + 80) 43) hAm I31 J2) mw_X11_thrown mv_X11_thrown ml_L_45 lm_0 dL_law_426 rfl rfl ⟨Nat.le_of_ble_eq_true rfl, Nat.le_of_ble_eq_true rfl⟩ (by show _ + 0 ≤ 1150; omega) (by show _ + 0 ≤ 15786; omega) rfl) rfl rfl ?_
    intro x32
    refine T_wd (Wd' := fun H => Rg G b Lc (Rc b bk dr it) I J H ∧ (Rg G (b + 80) Lm (Rm (b + 80)) I31 J2 H ∧ Rg G (b + 123) [.inr (1, 1)] (fun _ _ => .null) (fun _ _ => 0) J329 H)) (fun H h => ⟨h.2.1, h.1, h.2.2⟩) ?_
    refine T_iload hok 1 rfl dL_law_429 ?_
    refine T_icmp_eq (tgt := 436) hok dL_law_431 rfl ?_ ?_
    · refine T_iload hok 1 rfl dL_law_436 ?_
      refine T_jp _ (fun (j453 : Option (Unit)) => T X A (Zl X) 7 (1150 - 1 * n) (15786 - 6 * n) 453 [(0, .ref sb), (1, .ref (b + 0)), (2, .ref (b + 80 + 0)), (3, .ref (b + 123 + 0)), (4, .int x4)] [] (fun H => Rg G b Lc (Rc b bk dr it) I J H ∧ (Rg G (b + 80) Lm (Rm (b + 80)) I31 J2 H ∧ Rg G (b + 123) [.inr (1, 1)] (fun _ _ => .null) (fun _ _ => 0) J329 H)) (j453)) _ ?_ ?_
      · skip
        refine T_goto (tgt := 1725) hok dL_law_453 rfl ?_
        refine T_widen (kc' := 1150 - 1 * n) (ks' := 15786 - 6 * n) (by omega) (by omega) ?_
        exact hj1725 bk dr it I J I31 J2 J329
      intro j453 hj453
      refine T_if_ne (tgt := 453) hok dL_law_438 rfl ?_ ?_
      · refine T_aload_n hok 5 rfl rfl dL_law_441 ?_
        refine T_iconst hok ic_0 dL_law_442 ?_
        refine T_wd (Wd' := fun H => Rg G (b + 123) [.inr (1, 1)] (fun _ _ => .null) (fun _ _ => 0) J329 H ∧ (Rg G b Lc (Rc b bk dr it) I J H ∧ Rg G (b + 80) Lm (Rm (b + 80)) I31 J2 H)) (fun H h => ⟨h.2.2, h.1, h.2.1⟩) ?_
        refine T_laldF hok rfl dL_law_443 ?_
        refine T_wd (Wd' := fun H => Rg G b Lc (Rc b bk dr it) I J H ∧ (Rg G (b + 80) Lm (Rm (b + 80)) I31 J2 H ∧ Rg G (b + 123) [.inr (1, 1)] (fun _ _ => .null) (fun _ _ => 0) J329 H)) (fun H h => ⟨h.2.1, h.2.2, h.1⟩) ?_
        refine T_iload hok 0 rfl dL_law_444 ?_
        refine T_i2l hok dL_law_446 ?_
        refine T_lcmp_eq (tgt := 453) hok dL_law_447 rfl dL_law_448 rfl ?_ ?_
        · refine T_sub (lv' := [(0, .ref sb), (1, .ref (b + 0)), (2, .ref (b + 80 + 0)), (3, .ref (b + 123 + 0)), (4, .int x4)]) [2, 3, 4, 5, 6] rfl ?_
          exact hj453
        exact T_none
      refine T_sub (lv' := [(0, .ref sb), (1, .ref (b + 0)), (2, .ref (b + 80 + 0)), (3, .ref (b + 123 + 0)), (4, .int x4)]) [2, 3, 4, 5, 6] rfl ?_
      exact hj453
    exact T_none
  refine T_swc (fun hx5 => ?_) (fun hx5 => ?_)
  · refine T_tin (tgt := 456) hok hx5 dL_law_40 (by decide) (by decide) rfl rfl ?_
    refine T_aload_n hok 1 rfl rfl dL_law_456 ?_
    refine T_aload_n hok 0 rfl rfl dL_law_457 ?_
    refine T_iload hok 4 rfl dL_law_458 ?_
    refine T_iconst hok ic_1 dL_law_460 ?_
    refine T_iadd hok dL_law_461 ?_
    refine T_sld hok hX dL_law_462 ?_
    refine T_aload_n hok 0 rfl rfl dL_law_463 ?_
    refine T_iload hok 4 rfl dL_law_464 ?_
    refine T_iconst hok ic_2 dL_law_466 ?_
    refine T_iadd hok dL_law_467 ?_
    refine T_sld hok hX dL_law_468 ?_
    refine T_fi0 (A1 := Ar b 80) (kc' := (1150 - 1 * (n + 1))) (ks' := (15786 - 6 * (n + 1))) hAc0 frC (CRF_V (rest := []) hok (ct_X10_kind (A := Ar b 80) hAc hbk I J (xs (ix (x4 + (1 : Int32)))) (xs (ix (x4 + (2 : Int32))))) mw_X10_kind mv_X10_kind ml_L_49 lc_0 dL_law_469 rfl rfl ⟨Nat.le_of_ble_eq_true rfl, Nat.le_of_ble_eq_true rfl⟩ (by show _ + 0 ≤ 1150; omega) (by show _ + 0 ≤ 15786; omega) rfl) rfl rfl ?_
    intro x33
    refine T_wd (Wd' := fun H => Rg G b Lc (Rc b bk dr it) I J H ∧ (Rg G (b + 80) Lm (Rm (b + 80)) I2 J2 H ∧ Rg G (b + 123) [.inr (1, 1)] (fun _ _ => .null) (fun _ _ => 0) J3 H)) (fun H h => h) ?_
    refine T_aload_n hok 2 rfl rfl dL_law_472 ?_
    refine T_aload_n hok 0 rfl rfl dL_law_473 ?_
    refine T_iload hok 4 rfl dL_law_474 ?_
    refine T_iconst hok ic_1 dL_law_476 ?_
    refine T_iadd hok dL_law_477 ?_
    refine T_sld hok hX dL_law_478 ?_
    refine T_aload_n hok 0 rfl rfl dL_law_479 ?_
    refine T_iload hok 4 rfl dL_law_480 ?_
    refine T_iconst hok ic_2 dL_law_482 ?_
    refine T_iadd hok dL_law_483 ?_
    refine T_sld hok hX dL_law_484 ?_
    refine T_wd (Wd' := fun H => Rg G (b + 80) Lm (Rm (b + 80)) I2 J2 H ∧ (Rg G b Lc (Rc b bk dr it) I J H ∧ Rg G (b + 123) [.inr (1, 1)] (fun _ _ => .null) (fun _ _ => 0) J3 H)) (fun H h => ⟨h.2.1, h.1, h.2.2⟩) ?_
    refine T_fi1 (A1 := Ar (b + 80) 43) (kc' := (1150 - 1 * (n + 1))) (ks' := (15786 - 6 * (n + 1))) hAm0 frM (CRF_V (rest := [.int x33]) hok (ct_X11_kind (b := b + 80) (A := Ar (b + 80) 43) hAm I2 J2 (xs (ix (x4 + (1 : Int32)))) (xs (ix (x4 + (2 : Int32))))) mw_X11_kind mv_X11_kind ml_L_52 lm_0 dL_law_485 rfl rfl ⟨Nat.le_of_ble_eq_true rfl, Nat.le_of_ble_eq_true rfl⟩ (by show _ + 0 ≤ 1150; omega) (by show _ + 0 ≤ 15786; omega) rfl) rfl rfl ?_
    intro x34 I35
    refine T_wd (Wd' := fun H => Rg G b Lc (Rc b bk dr it) I J H ∧ (Rg G (b + 80) Lm (Rm (b + 80)) I35 J2 H ∧ Rg G (b + 123) [.inr (1, 1)] (fun _ _ => .null) (fun _ _ => 0) J3 H)) (fun H h => ⟨h.2.1, h.1, h.2.2⟩) ?_
    refine T_icmp_eq (tgt := 1725) hok dL_law_488 rfl ?_ ?_
    · refine T_widen (kc' := 1150 - 1 * n) (ks' := 15786 - 6 * n) (by omega) (by omega) ?_
      exact hj1725 bk dr it I J I35 J2 J3
    exact T_none
  refine T_swc (fun hx6 => ?_) (fun hx6 => ?_)
  · refine T_tin (tgt := 493) hok hx6 dL_law_40 (by decide) (by decide) rfl rfl ?_
    refine T_aload_n hok 1 rfl rfl dL_law_493 ?_
    refine T_aload_n hok 0 rfl rfl dL_law_494 ?_
    refine T_iload hok 4 rfl dL_law_495 ?_
    refine T_iconst hok ic_1 dL_law_497 ?_
    refine T_iadd hok dL_law_498 ?_
    refine T_sld hok hX dL_law_499 ?_
    refine T_fi0 (A1 := Ar b 80) (kc' := (1150 - 1 * (n + 1))) (ks' := (15786 - 6 * (n + 1))) hAc0 frC (CRF_V (rest := []) hok (ct_X10_weather (A := Ar b 80) hAc hbk I J (xs (ix (x4 + (1 : Int32))))) mw_X10_weather mv_X10_weather ml_L_53 lc_0 dL_law_500 rfl rfl ⟨Nat.le_of_ble_eq_true rfl, Nat.le_of_ble_eq_true rfl⟩ (by show _ + 0 ≤ 1150; omega) (by show _ + 0 ≤ 15786; omega) rfl) rfl rfl ?_
    intro x36
    refine T_wd (Wd' := fun H => Rg G b Lc (Rc b bk dr it) I J H ∧ (Rg G (b + 80) Lm (Rm (b + 80)) I2 J2 H ∧ Rg G (b + 123) [.inr (1, 1)] (fun _ _ => .null) (fun _ _ => 0) J3 H)) (fun H h => h) ?_
    refine T_aload_n hok 2 rfl rfl dL_law_503 ?_
    refine T_aload_n hok 0 rfl rfl dL_law_504 ?_
    refine T_iload hok 4 rfl dL_law_505 ?_
    refine T_iconst hok ic_1 dL_law_507 ?_
    refine T_iadd hok dL_law_508 ?_
    refine T_sld hok hX dL_law_509 ?_
    refine T_wd (Wd' := fun H => Rg G (b + 80) Lm (Rm (b + 80)) I2 J2 H ∧ (Rg G b Lc (Rc b bk dr it) I J H ∧ Rg G (b + 123) [.inr (1, 1)] (fun _ _ => .null) (fun _ _ => 0) J3 H)) (fun H h => ⟨h.2.1, h.1, h.2.2⟩) ?_
    refine T_fi1 (A1 := Ar (b + 80) 43) (kc' := (1150 - 1 * (n + 1))) (ks' := (15786 - 6 * (n + 1))) hAm0 frM (CRF_V (rest := [.int x36]) hok (ct_X11_weather (b := b + 80) (A := Ar (b + 80) 43) hAm I2 J2 (xs (ix (x4 + (1 : Int32))))) mw_X11_weather mv_X11_weather ml_L_56 lm_0 dL_law_510 rfl rfl ⟨Nat.le_of_ble_eq_true rfl, Nat.le_of_ble_eq_true rfl⟩ (by show _ + 0 ≤ 1150; omega) (by show _ + 0 ≤ 15786; omega) rfl) rfl rfl ?_
    intro x37 I38
    refine T_wd (Wd' := fun H => Rg G b Lc (Rc b bk dr it) I J H ∧ (Rg G (b + 80) Lm (Rm (b + 80)) I38 J2 H ∧ Rg G (b + 123) [.inr (1, 1)] (fun _ _ => .null) (fun _ _ => 0) J3 H)) (fun H h => ⟨h.2.1, h.1, h.2.2⟩) ?_
    refine T_icmp_eq (tgt := 1725) hok dL_law_513 rfl ?_ ?_
    · refine T_widen (kc' := 1150 - 1 * n) (ks' := 15786 - 6 * n) (by omega) (by omega) ?_
      exact hj1725 bk dr it I J I38 J2 J3
    exact T_none
  refine T_swc (fun hx7 => ?_) (fun hx7 => ?_)
  · refine T_tin (tgt := 518) hok hx7 dL_law_40 (by decide) (by decide) rfl rfl ?_
    refine T_aload_n hok 1 rfl rfl dL_law_518 ?_
    refine T_aload_n hok 0 rfl rfl dL_law_519 ?_
    refine T_iload hok 4 rfl dL_law_520 ?_
    refine T_iconst hok ic_1 dL_law_522 ?_
    refine T_iadd hok dL_law_523 ?_
    refine T_sld hok hX dL_law_524 ?_
    refine T_aload_n hok 0 rfl rfl dL_law_525 ?_
    refine T_iload hok 4 rfl dL_law_526 ?_
    refine T_iconst hok ic_2 dL_law_528 ?_
    refine T_iadd hok dL_law_529 ?_
    refine T_sld hok hX dL_law_530 ?_
    refine T_aload_n hok 0 rfl rfl dL_law_531 ?_
    refine T_iload hok 4 rfl dL_law_532 ?_
    refine T_iconst hok ic_3 dL_law_534 ?_
    refine T_iadd hok dL_law_535 ?_
    refine T_sld hok hX dL_law_536 ?_
    refine T_fl2 (A1 := Ar b 80) (kc' := (1150 - 1 * (n + 1))) (ks' := (15786 - 6 * (n + 1))) hAc0 frC (CRF_V (rest := []) hok (ct_X10_law (A := Ar b 80) hAc hbk I J (xs (ix (x4 + (1 : Int32)))) (xs (ix (x4 + (2 : Int32)))) (xs (ix (x4 + (3 : Int32))))) mw_X10_law mv_X10_law ml_L_57 lc_0 dL_law_537 rfl rfl ⟨Nat.le_of_ble_eq_true rfl, Nat.le_of_ble_eq_true rfl⟩ (by show _ + 0 ≤ 1150; omega) (by show _ + 0 ≤ 15786; omega) rfl) rfl rfl ?_
    intro x39 I40 J41
    refine T_wd (Wd' := fun H => Rg G b Lc (Rc b bk dr it) I40 J41 H ∧ (Rg G (b + 80) Lm (Rm (b + 80)) I2 J2 H ∧ Rg G (b + 123) [.inr (1, 1)] (fun _ _ => .null) (fun _ _ => 0) J3 H)) (fun H h => h) ?_
    refine T_aload_n hok 2 rfl rfl dL_law_540 ?_
    refine T_aload_n hok 0 rfl rfl dL_law_541 ?_
    refine T_iload hok 4 rfl dL_law_542 ?_
    refine T_iconst hok ic_1 dL_law_544 ?_
    refine T_iadd hok dL_law_545 ?_
    refine T_sld hok hX dL_law_546 ?_
    refine T_aload_n hok 0 rfl rfl dL_law_547 ?_
    refine T_iload hok 4 rfl dL_law_548 ?_
    refine T_iconst hok ic_2 dL_law_550 ?_
    refine T_iadd hok dL_law_551 ?_
    refine T_sld hok hX dL_law_552 ?_
    refine T_aload_n hok 0 rfl rfl dL_law_553 ?_
    refine T_iload hok 4 rfl dL_law_554 ?_
    refine T_iconst hok ic_3 dL_law_556 ?_
    refine T_iadd hok dL_law_557 ?_
    refine T_sld hok hX dL_law_558 ?_
    refine T_wd (Wd' := fun H => Rg G (b + 80) Lm (Rm (b + 80)) I2 J2 H ∧ (Rg G b Lc (Rc b bk dr it) I40 J41 H ∧ Rg G (b + 123) [.inr (1, 1)] (fun _ _ => .null) (fun _ _ => 0) J3 H)) (fun H h => ⟨h.2.1, h.1, h.2.2⟩) ?_
    refine T_fl2 (A1 := Ar (b + 80) 43) (kc' := (1150 - 1 * (n + 1))) (ks' := (15786 - 6 * (n + 1))) hAm0 frM (CRF_V (rest := [.long x39]) hok (ct_X11_law (b := b + 80) (A := Ar (b + 80) 43) hAm I2 J2 (xs (ix (x4 + (1 : Int32)))) (xs (ix (x4 + (2 : Int32)))) (xs (ix (x4 + (3 : Int32))))) mw_X11_law mv_X11_law ml_L_61 lm_0 dL_law_559 rfl rfl ⟨Nat.le_of_ble_eq_true rfl, Nat.le_of_ble_eq_true rfl⟩ (by show _ + 0 ≤ 1150; omega) (by show _ + 0 ≤ 15786; omega) rfl) rfl rfl ?_
    intro x42 I43 J44
    refine T_wd (Wd' := fun H => Rg G b Lc (Rc b bk dr it) I40 J41 H ∧ (Rg G (b + 80) Lm (Rm (b + 80)) I43 J44 H ∧ Rg G (b + 123) [.inr (1, 1)] (fun _ _ => .null) (fun _ _ => 0) J3 H)) (fun H h => ⟨h.2.1, h.1, h.2.2⟩) ?_
    refine T_lcmp_eq (tgt := 1725) hok dL_law_562 rfl dL_law_563 rfl ?_ ?_
    · refine T_widen (kc' := 1150 - 1 * n) (ks' := 15786 - 6 * n) (by omega) (by omega) ?_
      exact hj1725 bk dr it I40 J41 I43 J44 J3
    exact T_none
  refine T_swc (fun hx8 => ?_) (fun hx8 => ?_)
  · refine T_tin (tgt := 568) hok hx8 dL_law_40 (by decide) (by decide) rfl rfl ?_
    refine T_aload_n hok 1 rfl rfl dL_law_568 ?_
    refine T_aload_n hok 0 rfl rfl dL_law_569 ?_
    refine T_iload hok 4 rfl dL_law_570 ?_
    refine T_iconst hok ic_1 dL_law_572 ?_
    refine T_iadd hok dL_law_573 ?_
    refine T_sld hok hX dL_law_574 ?_
    refine T_fi1 (A1 := Ar b 80) (kc' := (1150 - 1 * (n + 1))) (ks' := (15786 - 6 * (n + 1))) hAc0 frC (CRF_V (rest := []) hok (ct_X10_blind (A := Ar b 80) hAc hbk I J (xs (ix (x4 + (1 : Int32))))) mw_X10_blind mv_X10_blind ml_L_62 lc_0 dL_law_575 rfl rfl ⟨Nat.le_of_ble_eq_true rfl, Nat.le_of_ble_eq_true rfl⟩ (by show _ + 0 ≤ 1150; omega) (by show _ + 0 ≤ 15786; omega) rfl) rfl rfl ?_
    intro x45 I46
    refine T_wd (Wd' := fun H => Rg G b Lc (Rc b bk dr it) I46 J H ∧ (Rg G (b + 80) Lm (Rm (b + 80)) I2 J2 H ∧ Rg G (b + 123) [.inr (1, 1)] (fun _ _ => .null) (fun _ _ => 0) J3 H)) (fun H h => h) ?_
    refine T_aload_n hok 2 rfl rfl dL_law_578 ?_
    refine T_aload_n hok 0 rfl rfl dL_law_579 ?_
    refine T_iload hok 4 rfl dL_law_580 ?_
    refine T_iconst hok ic_1 dL_law_582 ?_
    refine T_iadd hok dL_law_583 ?_
    refine T_sld hok hX dL_law_584 ?_
    refine T_wd (Wd' := fun H => Rg G (b + 80) Lm (Rm (b + 80)) I2 J2 H ∧ (Rg G b Lc (Rc b bk dr it) I46 J H ∧ Rg G (b + 123) [.inr (1, 1)] (fun _ _ => .null) (fun _ _ => 0) J3 H)) (fun H h => ⟨h.2.1, h.1, h.2.2⟩) ?_
    refine T_fi1 (A1 := Ar (b + 80) 43) (kc' := (1150 - 1 * (n + 1))) (ks' := (15786 - 6 * (n + 1))) hAm0 frM (CRF_V (rest := [.int x45]) hok (ct_X11_blind (b := b + 80) (A := Ar (b + 80) 43) hAm I2 J2 (xs (ix (x4 + (1 : Int32))))) mw_X11_blind mv_X11_blind ml_L_65 lm_0 dL_law_585 rfl rfl ⟨Nat.le_of_ble_eq_true rfl, Nat.le_of_ble_eq_true rfl⟩ (by show _ + 0 ≤ 1150; omega) (by show _ + 0 ≤ 15786; omega) rfl) rfl rfl ?_
    intro x47 I48
    refine T_wd (Wd' := fun H => Rg G b Lc (Rc b bk dr it) I46 J H ∧ (Rg G (b + 80) Lm (Rm (b + 80)) I48 J2 H ∧ Rg G (b + 123) [.inr (1, 1)] (fun _ _ => .null) (fun _ _ => 0) J3 H)) (fun H h => ⟨h.2.1, h.1, h.2.2⟩) ?_
    refine T_icmp_eq (tgt := 1725) hok dL_law_588 rfl ?_ ?_
    · refine T_widen (kc' := 1150 - 1 * n) (ks' := 15786 - 6 * n) (by omega) (by omega) ?_
      exact hj1725 bk dr it I46 J I48 J2 J3
    exact T_none
  refine T_swc (fun hx9 => ?_) (fun hx9 => ?_)
  · refine T_tin (tgt := 593) hok hx9 dL_law_40 (by decide) (by decide) rfl rfl ?_
    refine T_aload_n hok 1 rfl rfl dL_law_593 ?_
    refine T_aload_n hok 0 rfl rfl dL_law_594 ?_
    refine T_iload hok 4 rfl dL_law_595 ?_
    refine T_iconst hok ic_1 dL_law_597 ?_
    refine T_iadd hok dL_law_598 ?_
    refine T_sld hok hX dL_law_599 ?_
    refine T_fz1 (A1 := Ar b 80) (kc' := (1150 - 1 * (n + 1))) (ks' := (15786 - 6 * (n + 1))) hAc0 frC (CRF_V (rest := []) hok (ct_X10_send (A := Ar b 80) hAc hbk I J (xs (ix (x4 + (1 : Int32))))) mw_X10_send mv_X10_send ml_L_66 lc_0 dL_law_600 rfl rfl ⟨Nat.le_of_ble_eq_true rfl, Nat.le_of_ble_eq_true rfl⟩ (by show _ + 0 ≤ 1150; omega) (by show _ + 0 ≤ 15786; omega) rfl) rfl rfl ?_
    intro x49 I50
    refine T_wd (Wd' := fun H => Rg G b Lc (Rc b bk dr it) I50 J H ∧ (Rg G (b + 80) Lm (Rm (b + 80)) I2 J2 H ∧ Rg G (b + 123) [.inr (1, 1)] (fun _ _ => .null) (fun _ _ => 0) J3 H)) (fun H h => h) ?_
    refine T_aload_n hok 2 rfl rfl dL_law_603 ?_
    refine T_aload_n hok 0 rfl rfl dL_law_604 ?_
    refine T_iload hok 4 rfl dL_law_605 ?_
    refine T_iconst hok ic_1 dL_law_607 ?_
    refine T_iadd hok dL_law_608 ?_
    refine T_sld hok hX dL_law_609 ?_
    refine T_wd (Wd' := fun H => Rg G (b + 80) Lm (Rm (b + 80)) I2 J2 H ∧ (Rg G b Lc (Rc b bk dr it) I50 J H ∧ Rg G (b + 123) [.inr (1, 1)] (fun _ _ => .null) (fun _ _ => 0) J3 H)) (fun H h => ⟨h.2.1, h.1, h.2.2⟩) ?_
    refine T_fz1 (A1 := Ar (b + 80) 43) (kc' := (1150 - 1 * (n + 1))) (ks' := (15786 - 6 * (n + 1))) hAm0 frM (CRF_V (rest := [.int (bi x49)]) hok (ct_X11_send (b := b + 80) (A := Ar (b + 80) 43) hAm I2 J2 (xs (ix (x4 + (1 : Int32))))) mw_X11_send mv_X11_send ml_L_70 lm_0 dL_law_610 rfl rfl ⟨Nat.le_of_ble_eq_true rfl, Nat.le_of_ble_eq_true rfl⟩ (by show _ + 0 ≤ 1150; omega) (by show _ + 0 ≤ 15786; omega) rfl) rfl rfl ?_
    intro x51 I52
    refine T_wd (Wd' := fun H => Rg G b Lc (Rc b bk dr it) I50 J H ∧ (Rg G (b + 80) Lm (Rm (b + 80)) I52 J2 H ∧ Rg G (b + 123) [.inr (1, 1)] (fun _ _ => .null) (fun _ _ => 0) J3 H)) (fun H h => ⟨h.2.1, h.1, h.2.2⟩) ?_
    refine T_icmp_eq (tgt := 1725) hok dL_law_613 rfl ?_ ?_
    · refine T_widen (kc' := 1150 - 1 * n) (ks' := 15786 - 6 * n) (by omega) (by omega) ?_
      exact hj1725 bk dr it I50 J I52 J2 J3
    exact T_none
  refine T_swc (fun hx10 => ?_) (fun hx10 => ?_)
  · refine T_tin (tgt := 618) hok hx10 dL_law_40 (by decide) (by decide) rfl rfl ?_
    refine T_aload_n hok 1 rfl rfl dL_law_618 ?_
    refine T_aload_n hok 0 rfl rfl dL_law_619 ?_
    refine T_iload hok 4 rfl dL_law_620 ?_
    refine T_iconst hok ic_1 dL_law_622 ?_
    refine T_iadd hok dL_law_623 ?_
    refine T_sld hok hX dL_law_624 ?_
    refine T_aload_n hok 0 rfl rfl dL_law_625 ?_
    refine T_iload hok 4 rfl dL_law_626 ?_
    refine T_iconst hok ic_2 dL_law_628 ?_
    refine T_iadd hok dL_law_629 ?_
    refine T_sld hok hX dL_law_630 ?_
    refine T_aload_n hok 0 rfl rfl dL_law_631 ?_
    refine T_iload hok 4 rfl dL_law_632 ?_
    refine T_iconst hok ic_3 dL_law_634 ?_
    refine T_iadd hok dL_law_635 ?_
    refine T_sld hok hX dL_law_636 ?_
    refine T_fi1 (A1 := Ar b 80) (kc' := (1150 - 1 * (n + 1))) (ks' := (15786 - 6 * (n + 1))) hAc0 frC (CRF_V (rest := []) hok (ct_X10_lend (A := Ar b 80) hAc hbk I J (xs (ix (x4 + (1 : Int32)))) (xs (ix (x4 + (2 : Int32)))) (xs (ix (x4 + (3 : Int32))))) mw_X10_lend mv_X10_lend ml_L_71 lc_0 dL_law_637 rfl rfl ⟨Nat.le_of_ble_eq_true rfl, Nat.le_of_ble_eq_true rfl⟩ (by show _ + 0 ≤ 1150; omega) (by show _ + 0 ≤ 15786; omega) rfl) rfl rfl ?_
    intro x53 I54
    refine T_wd (Wd' := fun H => Rg G b Lc (Rc b bk dr it) I54 J H ∧ (Rg G (b + 80) Lm (Rm (b + 80)) I2 J2 H ∧ Rg G (b + 123) [.inr (1, 1)] (fun _ _ => .null) (fun _ _ => 0) J3 H)) (fun H h => h) ?_
    refine T_aload_n hok 2 rfl rfl dL_law_640 ?_
    refine T_aload_n hok 0 rfl rfl dL_law_641 ?_
    refine T_iload hok 4 rfl dL_law_642 ?_
    refine T_iconst hok ic_1 dL_law_644 ?_
    refine T_iadd hok dL_law_645 ?_
    refine T_sld hok hX dL_law_646 ?_
    refine T_aload_n hok 0 rfl rfl dL_law_647 ?_
    refine T_iload hok 4 rfl dL_law_648 ?_
    refine T_iconst hok ic_2 dL_law_650 ?_
    refine T_iadd hok dL_law_651 ?_
    refine T_sld hok hX dL_law_652 ?_
    refine T_aload_n hok 0 rfl rfl dL_law_653 ?_
    refine T_iload hok 4 rfl dL_law_654 ?_
    refine T_iconst hok ic_3 dL_law_656 ?_
    refine T_iadd hok dL_law_657 ?_
    refine T_sld hok hX dL_law_658 ?_
    refine T_wd (Wd' := fun H => Rg G (b + 80) Lm (Rm (b + 80)) I2 J2 H ∧ (Rg G b Lc (Rc b bk dr it) I54 J H ∧ Rg G (b + 123) [.inr (1, 1)] (fun _ _ => .null) (fun _ _ => 0) J3 H)) (fun H h => ⟨h.2.1, h.1, h.2.2⟩) ?_
    refine T_fi1 (A1 := Ar (b + 80) 43) (kc' := (1150 - 1 * (n + 1))) (ks' := (15786 - 6 * (n + 1))) hAm0 frM (CRF_V (rest := [.int x53]) hok (ct_X11_lend (b := b + 80) (A := Ar (b + 80) 43) hAm I2 J2 (xs (ix (x4 + (1 : Int32)))) (xs (ix (x4 + (2 : Int32)))) (xs (ix (x4 + (3 : Int32))))) mw_X11_lend mv_X11_lend ml_L_75 lm_0 dL_law_659 rfl rfl ⟨Nat.le_of_ble_eq_true rfl, Nat.le_of_ble_eq_true rfl⟩ (by show _ + 0 ≤ 1150; omega) (by show _ + 0 ≤ 15786; omega) rfl) rfl rfl ?_
    intro x55 I56
    refine T_wd (Wd' := fun H => Rg G b Lc (Rc b bk dr it) I54 J H ∧ (Rg G (b + 80) Lm (Rm (b + 80)) I56 J2 H ∧ Rg G (b + 123) [.inr (1, 1)] (fun _ _ => .null) (fun _ _ => 0) J3 H)) (fun H h => ⟨h.2.1, h.1, h.2.2⟩) ?_
    refine T_icmp_eq (tgt := 1725) hok dL_law_662 rfl ?_ ?_
    · refine T_widen (kc' := 1150 - 1 * n) (ks' := 15786 - 6 * n) (by omega) (by omega) ?_
      exact hj1725 bk dr it I54 J I56 J2 J3
    exact T_none
  refine T_swc (fun hx11 => ?_) (fun hx11 => ?_)
  · refine T_tin (tgt := 667) hok hx11 dL_law_40 (by decide) (by decide) rfl rfl ?_
    refine T_aload_n hok 1 rfl rfl dL_law_667 ?_
    refine T_aload_n hok 0 rfl rfl dL_law_668 ?_
    refine T_iload hok 4 rfl dL_law_669 ?_
    refine T_iconst hok ic_1 dL_law_671 ?_
    refine T_iadd hok dL_law_672 ?_
    refine T_sld hok hX dL_law_673 ?_
    refine T_fi2 (A1 := Ar b 80) (kc' := (1150 - 1 * (n + 1))) (ks' := (15786 - 6 * (n + 1))) hAc0 frC (CRF_V (rest := []) hok (ct_X10_go (A := Ar b 80) hAc hbk I J (xs (ix (x4 + (1 : Int32))))) mw_X10_go mv_X10_go ml_L_76 lc_0 dL_law_674 rfl rfl ⟨Nat.le_of_ble_eq_true rfl, Nat.le_of_ble_eq_true rfl⟩ (by show _ + 0 ≤ 1150; omega) (by show _ + 0 ≤ 15786; omega) rfl) rfl rfl ?_
    intro x57 I58 J59
    refine T_wd (Wd' := fun H => Rg G b Lc (Rc b bk dr it) I58 J59 H ∧ (Rg G (b + 80) Lm (Rm (b + 80)) I2 J2 H ∧ Rg G (b + 123) [.inr (1, 1)] (fun _ _ => .null) (fun _ _ => 0) J3 H)) (fun H h => h) ?_
    refine T_aload_n hok 2 rfl rfl dL_law_677 ?_
    refine T_aload_n hok 0 rfl rfl dL_law_678 ?_
    refine T_iload hok 4 rfl dL_law_679 ?_
    refine T_iconst hok ic_1 dL_law_681 ?_
    refine T_iadd hok dL_law_682 ?_
    refine T_sld hok hX dL_law_683 ?_
    refine T_wd (Wd' := fun H => Rg G (b + 80) Lm (Rm (b + 80)) I2 J2 H ∧ (Rg G b Lc (Rc b bk dr it) I58 J59 H ∧ Rg G (b + 123) [.inr (1, 1)] (fun _ _ => .null) (fun _ _ => 0) J3 H)) (fun H h => ⟨h.2.1, h.1, h.2.2⟩) ?_
    refine T_fi2 (A1 := Ar (b + 80) 43) (kc' := (1150 - 1 * (n + 1))) (ks' := (15786 - 6 * (n + 1))) hAm0 frM (CRF_V (rest := [.int x57]) hok (ct_X11_go (b := b + 80) (A := Ar (b + 80) 43) hAm I2 J2 (xs (ix (x4 + (1 : Int32))))) mw_X11_go mv_X11_go ml_L_79 lm_0 dL_law_684 rfl rfl ⟨Nat.le_of_ble_eq_true rfl, Nat.le_of_ble_eq_true rfl⟩ (by show _ + 0 ≤ 1150; omega) (by show _ + 0 ≤ 15786; omega) rfl) rfl rfl ?_
    intro x60 I61 J62
    refine T_wd (Wd' := fun H => Rg G b Lc (Rc b bk dr it) I58 J59 H ∧ (Rg G (b + 80) Lm (Rm (b + 80)) I61 J62 H ∧ Rg G (b + 123) [.inr (1, 1)] (fun _ _ => .null) (fun _ _ => 0) J3 H)) (fun H h => ⟨h.2.1, h.1, h.2.2⟩) ?_
    refine T_icmp_eq (tgt := 1725) hok dL_law_687 rfl ?_ ?_
    · refine T_widen (kc' := 1150 - 1 * n) (ks' := 15786 - 6 * n) (by omega) (by omega) ?_
      exact hj1725 bk dr it I58 J59 I61 J62 J3
    exact T_none
  refine T_swc (fun hx12 => ?_) (fun hx12 => ?_)
  · refine T_tin (tgt := 692) hok hx12 dL_law_40 (by decide) (by decide) rfl rfl ?_
    refine T_aload_n hok 1 rfl rfl dL_law_692 ?_
    refine T_aload_n hok 0 rfl rfl dL_law_693 ?_
    refine T_iload hok 4 rfl dL_law_694 ?_
    refine T_iconst hok ic_1 dL_law_696 ?_
    refine T_iadd hok dL_law_697 ?_
    refine T_sld hok hX dL_law_698 ?_
    refine T_aload_n hok 0 rfl rfl dL_law_699 ?_
    refine T_iload hok 4 rfl dL_law_700 ?_
    refine T_iconst hok ic_2 dL_law_702 ?_
    refine T_iadd hok dL_law_703 ?_
    refine T_sld hok hX dL_law_704 ?_
    refine T_aload_n hok 0 rfl rfl dL_law_705 ?_
    refine T_iload hok 4 rfl dL_law_706 ?_
    refine T_iconst hok ic_3 dL_law_708 ?_
    refine T_iadd hok dL_law_709 ?_
    refine T_sld hok hX dL_law_710 ?_
    refine T_fi2 (A1 := Ar b 80) (kc' := (1150 - 1 * (n + 1))) (ks' := (15786 - 6 * (n + 1))) hAc0 frC (CRF_V (rest := []) hok (ct_X10_ahead (A := Ar b 80) hAc hbk I J (xs (ix (x4 + (1 : Int32)))) (xs (ix (x4 + (2 : Int32)))) (xs (ix (x4 + (3 : Int32))))) mw_X10_ahead mv_X10_ahead ml_L_80 lc_0 dL_law_711 rfl rfl ⟨Nat.le_of_ble_eq_true rfl, Nat.le_of_ble_eq_true rfl⟩ (by show _ + 0 ≤ 1150; omega) (by show _ + 0 ≤ 15786; omega) rfl) rfl rfl ?_
    intro x63 I64 J65
    refine T_wd (Wd' := fun H => Rg G b Lc (Rc b bk dr it) I64 J65 H ∧ (Rg G (b + 80) Lm (Rm (b + 80)) I2 J2 H ∧ Rg G (b + 123) [.inr (1, 1)] (fun _ _ => .null) (fun _ _ => 0) J3 H)) (fun H h => h) ?_
    refine T_aload_n hok 2 rfl rfl dL_law_714 ?_
    refine T_aload_n hok 0 rfl rfl dL_law_715 ?_
    refine T_iload hok 4 rfl dL_law_716 ?_
    refine T_iconst hok ic_1 dL_law_718 ?_
    refine T_iadd hok dL_law_719 ?_
    refine T_sld hok hX dL_law_720 ?_
    refine T_aload_n hok 0 rfl rfl dL_law_721 ?_
    refine T_iload hok 4 rfl dL_law_722 ?_
    refine T_iconst hok ic_2 dL_law_724 ?_
    refine T_iadd hok dL_law_725 ?_
    refine T_sld hok hX dL_law_726 ?_
    refine T_aload_n hok 0 rfl rfl dL_law_727 ?_
    refine T_iload hok 4 rfl dL_law_728 ?_
    refine T_iconst hok ic_3 dL_law_730 ?_
    refine T_iadd hok dL_law_731 ?_
    refine T_sld hok hX dL_law_732 ?_
    refine T_wd (Wd' := fun H => Rg G (b + 80) Lm (Rm (b + 80)) I2 J2 H ∧ (Rg G b Lc (Rc b bk dr it) I64 J65 H ∧ Rg G (b + 123) [.inr (1, 1)] (fun _ _ => .null) (fun _ _ => 0) J3 H)) (fun H h => ⟨h.2.1, h.1, h.2.2⟩) ?_
    refine T_fi2 (A1 := Ar (b + 80) 43) (kc' := (1150 - 1 * (n + 1))) (ks' := (15786 - 6 * (n + 1))) hAm0 frM (CRF_V (rest := [.int x63]) hok (ct_X11_ahead (b := b + 80) (A := Ar (b + 80) 43) hAm I2 J2 (xs (ix (x4 + (1 : Int32)))) (xs (ix (x4 + (2 : Int32)))) (xs (ix (x4 + (3 : Int32))))) mw_X11_ahead mv_X11_ahead ml_L_83 lm_0 dL_law_733 rfl rfl ⟨Nat.le_of_ble_eq_true rfl, Nat.le_of_ble_eq_true rfl⟩ (by show _ + 0 ≤ 1150; omega) (by show _ + 0 ≤ 15786; omega) rfl) rfl rfl ?_
    intro x66 I67 J68
    refine T_wd (Wd' := fun H => Rg G b Lc (Rc b bk dr it) I64 J65 H ∧ (Rg G (b + 80) Lm (Rm (b + 80)) I67 J68 H ∧ Rg G (b + 123) [.inr (1, 1)] (fun _ _ => .null) (fun _ _ => 0) J3 H)) (fun H h => ⟨h.2.1, h.1, h.2.2⟩) ?_
    refine T_icmp_eq (tgt := 1725) hok dL_law_736 rfl ?_ ?_
    · refine T_widen (kc' := 1150 - 1 * n) (ks' := 15786 - 6 * n) (by omega) (by omega) ?_
      exact hj1725 bk dr it I64 J65 I67 J68 J3
    exact T_none
  refine T_swc (fun hx13 => ?_) (fun hx13 => ?_)
  · refine T_tin (tgt := 741) hok hx13 dL_law_40 (by decide) (by decide) rfl rfl ?_
    refine T_aload_n hok 1 rfl rfl dL_law_741 ?_
    refine T_aload_n hok 0 rfl rfl dL_law_742 ?_
    refine T_iload hok 4 rfl dL_law_743 ?_
    refine T_iconst hok ic_1 dL_law_745 ?_
    refine T_iadd hok dL_law_746 ?_
    refine T_sld hok hX dL_law_747 ?_
    refine T_fi2 (A1 := Ar b 80) (kc' := (1150 - 1 * (n + 1))) (ks' := (15786 - 6 * (n + 1))) hAc0 frC (CRF_V (rest := []) hok (ct_X10_sold (A := Ar b 80) hAc hbk I J (xs (ix (x4 + (1 : Int32))))) mw_X10_sold mv_X10_sold ml_L_84 lc_0 dL_law_748 rfl rfl ⟨Nat.le_of_ble_eq_true rfl, Nat.le_of_ble_eq_true rfl⟩ (by show _ + 0 ≤ 1150; omega) (by show _ + 0 ≤ 15786; omega) rfl) rfl rfl ?_
    intro x69 I70 J71
    refine T_wd (Wd' := fun H => Rg G b Lc (Rc b bk dr it) I70 J71 H ∧ (Rg G (b + 80) Lm (Rm (b + 80)) I2 J2 H ∧ Rg G (b + 123) [.inr (1, 1)] (fun _ _ => .null) (fun _ _ => 0) J3 H)) (fun H h => h) ?_
    refine T_aload_n hok 2 rfl rfl dL_law_751 ?_
    refine T_aload_n hok 0 rfl rfl dL_law_752 ?_
    refine T_iload hok 4 rfl dL_law_753 ?_
    refine T_iconst hok ic_1 dL_law_755 ?_
    refine T_iadd hok dL_law_756 ?_
    refine T_sld hok hX dL_law_757 ?_
    refine T_wd (Wd' := fun H => Rg G (b + 80) Lm (Rm (b + 80)) I2 J2 H ∧ (Rg G b Lc (Rc b bk dr it) I70 J71 H ∧ Rg G (b + 123) [.inr (1, 1)] (fun _ _ => .null) (fun _ _ => 0) J3 H)) (fun H h => ⟨h.2.1, h.1, h.2.2⟩) ?_
    refine T_fi2 (A1 := Ar (b + 80) 43) (kc' := (1150 - 1 * (n + 1))) (ks' := (15786 - 6 * (n + 1))) hAm0 frM (CRF_V (rest := [.int x69]) hok (ct_X11_sold (b := b + 80) (A := Ar (b + 80) 43) hAm I2 J2 (xs (ix (x4 + (1 : Int32))))) mw_X11_sold mv_X11_sold ml_L_87 lm_0 dL_law_758 rfl rfl ⟨Nat.le_of_ble_eq_true rfl, Nat.le_of_ble_eq_true rfl⟩ (by show _ + 0 ≤ 1150; omega) (by show _ + 0 ≤ 15786; omega) rfl) rfl rfl ?_
    intro x72 I73 J74
    refine T_wd (Wd' := fun H => Rg G b Lc (Rc b bk dr it) I70 J71 H ∧ (Rg G (b + 80) Lm (Rm (b + 80)) I73 J74 H ∧ Rg G (b + 123) [.inr (1, 1)] (fun _ _ => .null) (fun _ _ => 0) J3 H)) (fun H h => ⟨h.2.1, h.1, h.2.2⟩) ?_
    refine T_icmp_eq (tgt := 1725) hok dL_law_761 rfl ?_ ?_
    · refine T_widen (kc' := 1150 - 1 * n) (ks' := 15786 - 6 * n) (by omega) (by omega) ?_
      exact hj1725 bk dr it I70 J71 I73 J74 J3
    exact T_none
  refine T_swc (fun hx14 => ?_) (fun hx14 => ?_)
  · refine T_tin (tgt := 766) hok hx14 dL_law_40 (by decide) (by decide) rfl rfl ?_
    refine T_aload_n hok 1 rfl rfl dL_law_766 ?_
    refine T_aload_n hok 0 rfl rfl dL_law_767 ?_
    refine T_iload hok 4 rfl dL_law_768 ?_
    refine T_iconst hok ic_1 dL_law_770 ?_
    refine T_iadd hok dL_law_771 ?_
    refine T_sld hok hX dL_law_772 ?_
    refine T_fi2 (A1 := Ar b 80) (kc' := (1150 - 1 * (n + 1))) (ks' := (15786 - 6 * (n + 1))) hAc0 frC (CRF_V (rest := []) hok (ct_X10_credit (A := Ar b 80) hAc hbk I J (xs (ix (x4 + (1 : Int32))))) mw_X10_credit mv_X10_credit ml_L_88 lc_0 dL_law_773 rfl rfl ⟨Nat.le_of_ble_eq_true rfl, Nat.le_of_ble_eq_true rfl⟩ (by show _ + 0 ≤ 1150; omega) (by show _ + 0 ≤ 15786; omega) rfl) rfl rfl ?_
    intro x75 I76 J77
    refine T_wd (Wd' := fun H => Rg G b Lc (Rc b bk dr it) I76 J77 H ∧ (Rg G (b + 80) Lm (Rm (b + 80)) I2 J2 H ∧ Rg G (b + 123) [.inr (1, 1)] (fun _ _ => .null) (fun _ _ => 0) J3 H)) (fun H h => h) ?_
    refine T_aload_n hok 2 rfl rfl dL_law_776 ?_
    refine T_aload_n hok 0 rfl rfl dL_law_777 ?_
    refine T_iload hok 4 rfl dL_law_778 ?_
    refine T_iconst hok ic_1 dL_law_780 ?_
    refine T_iadd hok dL_law_781 ?_
    refine T_sld hok hX dL_law_782 ?_
    refine T_wd (Wd' := fun H => Rg G (b + 80) Lm (Rm (b + 80)) I2 J2 H ∧ (Rg G b Lc (Rc b bk dr it) I76 J77 H ∧ Rg G (b + 123) [.inr (1, 1)] (fun _ _ => .null) (fun _ _ => 0) J3 H)) (fun H h => ⟨h.2.1, h.1, h.2.2⟩) ?_
    refine T_fi2 (A1 := Ar (b + 80) 43) (kc' := (1150 - 1 * (n + 1))) (ks' := (15786 - 6 * (n + 1))) hAm0 frM (CRF_V (rest := [.int x75]) hok (ct_X11_credit (b := b + 80) (A := Ar (b + 80) 43) hAm I2 J2 (xs (ix (x4 + (1 : Int32))))) mw_X11_credit mv_X11_credit ml_L_91 lm_0 dL_law_783 rfl rfl ⟨Nat.le_of_ble_eq_true rfl, Nat.le_of_ble_eq_true rfl⟩ (by show _ + 0 ≤ 1150; omega) (by show _ + 0 ≤ 15786; omega) rfl) rfl rfl ?_
    intro x78 I79 J80
    refine T_wd (Wd' := fun H => Rg G b Lc (Rc b bk dr it) I76 J77 H ∧ (Rg G (b + 80) Lm (Rm (b + 80)) I79 J80 H ∧ Rg G (b + 123) [.inr (1, 1)] (fun _ _ => .null) (fun _ _ => 0) J3 H)) (fun H h => ⟨h.2.1, h.1, h.2.2⟩) ?_
    refine T_icmp_eq (tgt := 1725) hok dL_law_786 rfl ?_ ?_
    · refine T_widen (kc' := 1150 - 1 * n) (ks' := 15786 - 6 * n) (by omega) (by omega) ?_
      exact hj1725 bk dr it I76 J77 I79 J80 J3
    exact T_none
  refine T_swc (fun hx15 => ?_) (fun hx15 => ?_)
  · refine T_tin (tgt := 791) hok hx15 dL_law_40 (by decide) (by decide) rfl rfl ?_
    refine T_aload_n hok 1 rfl rfl dL_law_791 ?_
    refine T_aload_n hok 0 rfl rfl dL_law_792 ?_
    refine T_iload hok 4 rfl dL_law_793 ?_
    refine T_iconst hok ic_1 dL_law_795 ?_
    refine T_iadd hok dL_law_796 ?_
    refine T_sld hok hX dL_law_797 ?_
    refine T_aload_n hok 0 rfl rfl dL_law_798 ?_
    refine T_iload hok 4 rfl dL_law_799 ?_
    refine T_iconst hok ic_2 dL_law_801 ?_
    refine T_iadd hok dL_law_802 ?_
    refine T_sld hok hX dL_law_803 ?_
    refine T_fi1 (A1 := Ar b 80) (kc' := (1150 - 1 * (n + 1))) (ks' := (15786 - 6 * (n + 1))) hAc0 frC (CRF_V (rest := []) hok (ct_X10_plan (A := Ar b 80) hAc hbk I J (xs (ix (x4 + (1 : Int32)))) (xs (ix (x4 + (2 : Int32))))) mw_X10_plan mv_X10_plan ml_L_92 lc_0 dL_law_804 rfl rfl ⟨Nat.le_of_ble_eq_true rfl, Nat.le_of_ble_eq_true rfl⟩ (by show _ + 0 ≤ 1150; omega) (by show _ + 0 ≤ 15786; omega) rfl) rfl rfl ?_
    intro x81 I82
    refine T_wd (Wd' := fun H => Rg G b Lc (Rc b bk dr it) I82 J H ∧ (Rg G (b + 80) Lm (Rm (b + 80)) I2 J2 H ∧ Rg G (b + 123) [.inr (1, 1)] (fun _ _ => .null) (fun _ _ => 0) J3 H)) (fun H h => h) ?_
    refine T_aload_n hok 2 rfl rfl dL_law_807 ?_
    refine T_aload_n hok 0 rfl rfl dL_law_808 ?_
    refine T_iload hok 4 rfl dL_law_809 ?_
    refine T_iconst hok ic_1 dL_law_811 ?_
    refine T_iadd hok dL_law_812 ?_
    refine T_sld hok hX dL_law_813 ?_
    refine T_aload_n hok 0 rfl rfl dL_law_814 ?_
    refine T_iload hok 4 rfl dL_law_815 ?_
    refine T_iconst hok ic_2 dL_law_817 ?_
    refine T_iadd hok dL_law_818 ?_
    refine T_sld hok hX dL_law_819 ?_
    refine T_wd (Wd' := fun H => Rg G (b + 80) Lm (Rm (b + 80)) I2 J2 H ∧ (Rg G b Lc (Rc b bk dr it) I82 J H ∧ Rg G (b + 123) [.inr (1, 1)] (fun _ _ => .null) (fun _ _ => 0) J3 H)) (fun H h => ⟨h.2.1, h.1, h.2.2⟩) ?_
    refine T_fi1 (A1 := Ar (b + 80) 43) (kc' := (1150 - 1 * (n + 1))) (ks' := (15786 - 6 * (n + 1))) hAm0 frM (CRF_V (rest := [.int x81]) hok (ct_X11_plan (b := b + 80) (A := Ar (b + 80) 43) hAm I2 J2 (xs (ix (x4 + (1 : Int32)))) (xs (ix (x4 + (2 : Int32))))) mw_X11_plan mv_X11_plan ml_L_95 lm_0 dL_law_820 rfl rfl ⟨Nat.le_of_ble_eq_true rfl, Nat.le_of_ble_eq_true rfl⟩ (by show _ + 0 ≤ 1150; omega) (by show _ + 0 ≤ 15786; omega) rfl) rfl rfl ?_
    intro x83 I84
    refine T_wd (Wd' := fun H => Rg G b Lc (Rc b bk dr it) I82 J H ∧ (Rg G (b + 80) Lm (Rm (b + 80)) I84 J2 H ∧ Rg G (b + 123) [.inr (1, 1)] (fun _ _ => .null) (fun _ _ => 0) J3 H)) (fun H h => ⟨h.2.1, h.1, h.2.2⟩) ?_
    refine T_icmp_eq (tgt := 1725) hok dL_law_823 rfl ?_ ?_
    · refine T_widen (kc' := 1150 - 1 * n) (ks' := 15786 - 6 * n) (by omega) (by omega) ?_
      exact hj1725 bk dr it I82 J I84 J2 J3
    exact T_none
  refine T_swc (fun hx16 => ?_) (fun hx16 => ?_)
  · refine T_tin (tgt := 828) hok hx16 dL_law_40 (by decide) (by decide) rfl rfl ?_
    refine T_aload_n hok 1 rfl rfl dL_law_828 ?_
    refine T_aload_n hok 0 rfl rfl dL_law_829 ?_
    refine T_iload hok 4 rfl dL_law_830 ?_
    refine T_iconst hok ic_1 dL_law_832 ?_
    refine T_iadd hok dL_law_833 ?_
    refine T_sld hok hX dL_law_834 ?_
    refine T_aload_n hok 0 rfl rfl dL_law_835 ?_
    refine T_iload hok 4 rfl dL_law_836 ?_
    refine T_iconst hok ic_2 dL_law_838 ?_
    refine T_iadd hok dL_law_839 ?_
    refine T_sld hok hX dL_law_840 ?_
    refine T_aload_n hok 0 rfl rfl dL_law_841 ?_
    refine T_iload hok 4 rfl dL_law_842 ?_
    refine T_iconst hok ic_3 dL_law_844 ?_
    refine T_iadd hok dL_law_845 ?_
    refine T_sld hok hX dL_law_846 ?_
    refine T_aload_n hok 0 rfl rfl dL_law_847 ?_
    refine T_iload hok 4 rfl dL_law_848 ?_
    refine T_iconst hok ic_4 dL_law_850 ?_
    refine T_iadd hok dL_law_851 ?_
    refine T_sld hok hX dL_law_852 ?_
    refine T_fi1 (A1 := Ar b 80) (kc' := (1150 - 1 * (n + 1))) (ks' := (15786 - 6 * (n + 1))) hAc0 frC (CRF_V (rest := []) hok (ct_X10_share (A := Ar b 80) hAc hbk I J (xs (ix (x4 + (1 : Int32)))) (xs (ix (x4 + (2 : Int32)))) (xs (ix (x4 + (3 : Int32)))) (xs (ix (x4 + (4 : Int32))))) mw_X10_share mv_X10_share ml_L_96 lc_0 dL_law_853 rfl rfl ⟨Nat.le_of_ble_eq_true rfl, Nat.le_of_ble_eq_true rfl⟩ (by show _ + 0 ≤ 1150; omega) (by show _ + 0 ≤ 15786; omega) rfl) rfl rfl ?_
    intro x85 J86
    refine T_wd (Wd' := fun H => Rg G b Lc (Rc b bk dr it) I J86 H ∧ (Rg G (b + 80) Lm (Rm (b + 80)) I2 J2 H ∧ Rg G (b + 123) [.inr (1, 1)] (fun _ _ => .null) (fun _ _ => 0) J3 H)) (fun H h => h) ?_
    refine T_aload_n hok 2 rfl rfl dL_law_856 ?_
    refine T_aload_n hok 0 rfl rfl dL_law_857 ?_
    refine T_iload hok 4 rfl dL_law_858 ?_
    refine T_iconst hok ic_1 dL_law_860 ?_
    refine T_iadd hok dL_law_861 ?_
    refine T_sld hok hX dL_law_862 ?_
    refine T_aload_n hok 0 rfl rfl dL_law_863 ?_
    refine T_iload hok 4 rfl dL_law_864 ?_
    refine T_iconst hok ic_2 dL_law_866 ?_
    refine T_iadd hok dL_law_867 ?_
    refine T_sld hok hX dL_law_868 ?_
    refine T_aload_n hok 0 rfl rfl dL_law_869 ?_
    refine T_iload hok 4 rfl dL_law_870 ?_
    refine T_iconst hok ic_3 dL_law_872 ?_
    refine T_iadd hok dL_law_873 ?_
    refine T_sld hok hX dL_law_874 ?_
    refine T_aload_n hok 0 rfl rfl dL_law_875 ?_
    refine T_iload hok 4 rfl dL_law_876 ?_
    refine T_iconst hok ic_4 dL_law_878 ?_
    refine T_iadd hok dL_law_879 ?_
    refine T_sld hok hX dL_law_880 ?_
    refine T_wd (Wd' := fun H => Rg G (b + 80) Lm (Rm (b + 80)) I2 J2 H ∧ (Rg G b Lc (Rc b bk dr it) I J86 H ∧ Rg G (b + 123) [.inr (1, 1)] (fun _ _ => .null) (fun _ _ => 0) J3 H)) (fun H h => ⟨h.2.1, h.1, h.2.2⟩) ?_
    refine T_fi1 (A1 := Ar (b + 80) 43) (kc' := (1150 - 1 * (n + 1))) (ks' := (15786 - 6 * (n + 1))) hAm0 frM (CRF_V (rest := [.int x85]) hok (ct_X11_share (b := b + 80) (A := Ar (b + 80) 43) hAm I2 J2 (xs (ix (x4 + (1 : Int32)))) (xs (ix (x4 + (2 : Int32)))) (xs (ix (x4 + (3 : Int32)))) (xs (ix (x4 + (4 : Int32))))) mw_X11_share mv_X11_share ml_L_100 lm_0 dL_law_881 rfl rfl ⟨Nat.le_of_ble_eq_true rfl, Nat.le_of_ble_eq_true rfl⟩ (by show _ + 0 ≤ 1150; omega) (by show _ + 0 ≤ 15786; omega) rfl) rfl rfl ?_
    intro x87 I88
    refine T_wd (Wd' := fun H => Rg G b Lc (Rc b bk dr it) I J86 H ∧ (Rg G (b + 80) Lm (Rm (b + 80)) I88 J2 H ∧ Rg G (b + 123) [.inr (1, 1)] (fun _ _ => .null) (fun _ _ => 0) J3 H)) (fun H h => ⟨h.2.1, h.1, h.2.2⟩) ?_
    refine T_icmp_eq (tgt := 1725) hok dL_law_884 rfl ?_ ?_
    · refine T_widen (kc' := 1150 - 1 * n) (ks' := 15786 - 6 * n) (by omega) (by omega) ?_
      exact hj1725 bk dr it I J86 I88 J2 J3
    exact T_none
  refine T_swc (fun hx17 => ?_) (fun hx17 => ?_)
  · refine T_tin (tgt := 889) hok hx17 dL_law_40 (by decide) (by decide) rfl rfl ?_
    refine T_aload_n hok 1 rfl rfl dL_law_889 ?_
    refine T_aload_n hok 0 rfl rfl dL_law_890 ?_
    refine T_iload hok 4 rfl dL_law_891 ?_
    refine T_iconst hok ic_1 dL_law_893 ?_
    refine T_iadd hok dL_law_894 ?_
    refine T_sld hok hX dL_law_895 ?_
    refine T_aload_n hok 0 rfl rfl dL_law_896 ?_
    refine T_iload hok 4 rfl dL_law_897 ?_
    refine T_iconst hok ic_2 dL_law_899 ?_
    refine T_iadd hok dL_law_900 ?_
    refine T_sld hok hX dL_law_901 ?_
    refine T_fl1 (A1 := Ar b 80) (kc' := (1150 - 1 * (n + 1))) (ks' := (15786 - 6 * (n + 1))) hAc0 frC (CRF_V (rest := []) hok (ct_X10_waits (A := Ar b 80) hAc hbk I J (xs (ix (x4 + (1 : Int32)))) (xs (ix (x4 + (2 : Int32))))) mw_X10_waits mv_X10_waits ml_L_101 lc_0 dL_law_902 rfl rfl ⟨Nat.le_of_ble_eq_true rfl, Nat.le_of_ble_eq_true rfl⟩ (by show _ + 0 ≤ 1150; omega) (by show _ + 0 ≤ 15786; omega) rfl) rfl rfl ?_
    intro x89 J90
    refine T_wd (Wd' := fun H => Rg G b Lc (Rc b bk dr it) I J90 H ∧ (Rg G (b + 80) Lm (Rm (b + 80)) I2 J2 H ∧ Rg G (b + 123) [.inr (1, 1)] (fun _ _ => .null) (fun _ _ => 0) J3 H)) (fun H h => h) ?_
    refine T_aload_n hok 2 rfl rfl dL_law_905 ?_
    refine T_aload_n hok 0 rfl rfl dL_law_906 ?_
    refine T_iload hok 4 rfl dL_law_907 ?_
    refine T_iconst hok ic_1 dL_law_909 ?_
    refine T_iadd hok dL_law_910 ?_
    refine T_sld hok hX dL_law_911 ?_
    refine T_aload_n hok 0 rfl rfl dL_law_912 ?_
    refine T_iload hok 4 rfl dL_law_913 ?_
    refine T_iconst hok ic_2 dL_law_915 ?_
    refine T_iadd hok dL_law_916 ?_
    refine T_sld hok hX dL_law_917 ?_
    refine T_wd (Wd' := fun H => Rg G (b + 80) Lm (Rm (b + 80)) I2 J2 H ∧ (Rg G b Lc (Rc b bk dr it) I J90 H ∧ Rg G (b + 123) [.inr (1, 1)] (fun _ _ => .null) (fun _ _ => 0) J3 H)) (fun H h => ⟨h.2.1, h.1, h.2.2⟩) ?_
    refine T_fl1 (A1 := Ar (b + 80) 43) (kc' := (1150 - 1 * (n + 1))) (ks' := (15786 - 6 * (n + 1))) hAm0 frM (CRF_V (rest := [.long x89]) hok (ct_X11_waits (b := b + 80) (A := Ar (b + 80) 43) hAm I2 J2 (xs (ix (x4 + (1 : Int32)))) (xs (ix (x4 + (2 : Int32))))) mw_X11_waits mv_X11_waits ml_L_105 lm_0 dL_law_918 rfl rfl ⟨Nat.le_of_ble_eq_true rfl, Nat.le_of_ble_eq_true rfl⟩ (by show _ + 0 ≤ 1150; omega) (by show _ + 0 ≤ 15786; omega) rfl) rfl rfl ?_
    intro x91 I92
    refine T_wd (Wd' := fun H => Rg G b Lc (Rc b bk dr it) I J90 H ∧ (Rg G (b + 80) Lm (Rm (b + 80)) I92 J2 H ∧ Rg G (b + 123) [.inr (1, 1)] (fun _ _ => .null) (fun _ _ => 0) J3 H)) (fun H h => ⟨h.2.1, h.1, h.2.2⟩) ?_
    refine T_lcmp_eq (tgt := 1725) hok dL_law_921 rfl dL_law_922 rfl ?_ ?_
    · refine T_widen (kc' := 1150 - 1 * n) (ks' := 15786 - 6 * n) (by omega) (by omega) ?_
      exact hj1725 bk dr it I J90 I92 J2 J3
    exact T_none
  refine T_swc (fun hx18 => ?_) (fun hx18 => ?_)
  · refine T_tin (tgt := 927) hok hx18 dL_law_40 (by decide) (by decide) rfl rfl ?_
    refine T_aload_n hok 1 rfl rfl dL_law_927 ?_
    refine T_aload_n hok 0 rfl rfl dL_law_928 ?_
    refine T_iload hok 4 rfl dL_law_929 ?_
    refine T_iconst hok ic_1 dL_law_931 ?_
    refine T_iadd hok dL_law_932 ?_
    refine T_sld hok hX dL_law_933 ?_
    refine T_aload_n hok 0 rfl rfl dL_law_934 ?_
    refine T_iload hok 4 rfl dL_law_935 ?_
    refine T_iconst hok ic_2 dL_law_937 ?_
    refine T_iadd hok dL_law_938 ?_
    refine T_sld hok hX dL_law_939 ?_
    refine T_aload_n hok 0 rfl rfl dL_law_940 ?_
    refine T_iload hok 4 rfl dL_law_941 ?_
    refine T_iconst hok ic_3 dL_law_943 ?_
    refine T_iadd hok dL_law_944 ?_
    refine T_sld hok hX dL_law_945 ?_
    refine T_fi0 (A1 := Ar b 80) (kc' := (1150 - 1 * (n + 1))) (ks' := (15786 - 6 * (n + 1))) hAc0 frC (CRF_V (rest := []) hok (ct_X10_came (A := Ar b 80) hAc hbk I J (xs (ix (x4 + (1 : Int32)))) (xs (ix (x4 + (2 : Int32)))) (xs (ix (x4 + (3 : Int32))))) mw_X10_came mv_X10_came ml_L_106 lc_0 dL_law_946 rfl rfl ⟨Nat.le_of_ble_eq_true rfl, Nat.le_of_ble_eq_true rfl⟩ (by show _ + 0 ≤ 1150; omega) (by show _ + 0 ≤ 15786; omega) rfl) rfl rfl ?_
    intro x93
    refine T_wd (Wd' := fun H => Rg G b Lc (Rc b bk dr it) I J H ∧ (Rg G (b + 80) Lm (Rm (b + 80)) I2 J2 H ∧ Rg G (b + 123) [.inr (1, 1)] (fun _ _ => .null) (fun _ _ => 0) J3 H)) (fun H h => h) ?_
    refine T_aload_n hok 2 rfl rfl dL_law_949 ?_
    refine T_aload_n hok 0 rfl rfl dL_law_950 ?_
    refine T_iload hok 4 rfl dL_law_951 ?_
    refine T_iconst hok ic_1 dL_law_953 ?_
    refine T_iadd hok dL_law_954 ?_
    refine T_sld hok hX dL_law_955 ?_
    refine T_aload_n hok 0 rfl rfl dL_law_956 ?_
    refine T_iload hok 4 rfl dL_law_957 ?_
    refine T_iconst hok ic_2 dL_law_959 ?_
    refine T_iadd hok dL_law_960 ?_
    refine T_sld hok hX dL_law_961 ?_
    refine T_aload_n hok 0 rfl rfl dL_law_962 ?_
    refine T_iload hok 4 rfl dL_law_963 ?_
    refine T_iconst hok ic_3 dL_law_965 ?_
    refine T_iadd hok dL_law_966 ?_
    refine T_sld hok hX dL_law_967 ?_
    refine T_wd (Wd' := fun H => Rg G (b + 80) Lm (Rm (b + 80)) I2 J2 H ∧ (Rg G b Lc (Rc b bk dr it) I J H ∧ Rg G (b + 123) [.inr (1, 1)] (fun _ _ => .null) (fun _ _ => 0) J3 H)) (fun H h => ⟨h.2.1, h.1, h.2.2⟩) ?_
    refine T_fi1 (A1 := Ar (b + 80) 43) (kc' := (1150 - 1 * (n + 1))) (ks' := (15786 - 6 * (n + 1))) hAm0 frM (CRF_V (rest := [.int x93]) hok (ct_X11_came (b := b + 80) (A := Ar (b + 80) 43) hAm I2 J2 (xs (ix (x4 + (1 : Int32)))) (xs (ix (x4 + (2 : Int32)))) (xs (ix (x4 + (3 : Int32))))) mw_X11_came mv_X11_came ml_L_109 lm_0 dL_law_968 rfl rfl ⟨Nat.le_of_ble_eq_true rfl, Nat.le_of_ble_eq_true rfl⟩ (by show _ + 0 ≤ 1150; omega) (by show _ + 0 ≤ 15786; omega) rfl) rfl rfl ?_
    intro x94 I95
    refine T_wd (Wd' := fun H => Rg G b Lc (Rc b bk dr it) I J H ∧ (Rg G (b + 80) Lm (Rm (b + 80)) I95 J2 H ∧ Rg G (b + 123) [.inr (1, 1)] (fun _ _ => .null) (fun _ _ => 0) J3 H)) (fun H h => ⟨h.2.1, h.1, h.2.2⟩) ?_
    refine T_icmp_eq (tgt := 1725) hok dL_law_971 rfl ?_ ?_
    · refine T_widen (kc' := 1150 - 1 * n) (ks' := 15786 - 6 * n) (by omega) (by omega) ?_
      exact hj1725 bk dr it I J I95 J2 J3
    exact T_none
  refine T_swc (fun hx19 => ?_) (fun hx19 => ?_)
  · refine T_tin (tgt := 976) hok hx19 dL_law_40 (by decide) (by decide) rfl rfl ?_
    refine T_aload_n hok 1 rfl rfl dL_law_976 ?_
    refine T_aload_n hok 0 rfl rfl dL_law_977 ?_
    refine T_iload hok 4 rfl dL_law_978 ?_
    refine T_iconst hok ic_1 dL_law_980 ?_
    refine T_iadd hok dL_law_981 ?_
    refine T_sld hok hX dL_law_982 ?_
    refine T_aload_n hok 0 rfl rfl dL_law_983 ?_
    refine T_iload hok 4 rfl dL_law_984 ?_
    refine T_iconst hok ic_2 dL_law_986 ?_
    refine T_iadd hok dL_law_987 ?_
    refine T_sld hok hX dL_law_988 ?_
    refine T_aload_n hok 0 rfl rfl dL_law_989 ?_
    refine T_iload hok 4 rfl dL_law_990 ?_
    refine T_iconst hok ic_3 dL_law_992 ?_
    refine T_iadd hok dL_law_993 ?_
    refine T_sld hok hX dL_law_994 ?_
    refine T_fl1 (A1 := Ar b 80) (kc' := (1150 - 1 * (n + 1))) (ks' := (15786 - 6 * (n + 1))) hAc0 frC (CRF_V (rest := []) hok (ct_X10_likely (A := Ar b 80) hAc hbk I J (xs (ix (x4 + (1 : Int32)))) (xs (ix (x4 + (2 : Int32)))) (xs (ix (x4 + (3 : Int32))))) mw_X10_likely mv_X10_likely ml_L_110 lc_0 dL_law_995 rfl rfl ⟨Nat.le_of_ble_eq_true rfl, Nat.le_of_ble_eq_true rfl⟩ (by show _ + 0 ≤ 1150; omega) (by show _ + 0 ≤ 15786; omega) rfl) rfl rfl ?_
    intro x96 J97
    refine T_wd (Wd' := fun H => Rg G b Lc (Rc b bk dr it) I J97 H ∧ (Rg G (b + 80) Lm (Rm (b + 80)) I2 J2 H ∧ Rg G (b + 123) [.inr (1, 1)] (fun _ _ => .null) (fun _ _ => 0) J3 H)) (fun H h => h) ?_
    refine T_aload_n hok 2 rfl rfl dL_law_998 ?_
    refine T_aload_n hok 0 rfl rfl dL_law_999 ?_
    refine T_iload hok 4 rfl dL_law_1000 ?_
    refine T_iconst hok ic_1 dL_law_1002 ?_
    refine T_iadd hok dL_law_1003 ?_
    refine T_sld hok hX dL_law_1004 ?_
    refine T_aload_n hok 0 rfl rfl dL_law_1005 ?_
    refine T_iload hok 4 rfl dL_law_1006 ?_
    refine T_iconst hok ic_2 dL_law_1008 ?_
    refine T_iadd hok dL_law_1009 ?_
    refine T_sld hok hX dL_law_1010 ?_
    refine T_aload_n hok 0 rfl rfl dL_law_1011 ?_
    refine T_iload hok 4 rfl dL_law_1012 ?_
    refine T_iconst hok ic_3 dL_law_1014 ?_
    refine T_iadd hok dL_law_1015 ?_
    refine T_sld hok hX dL_law_1016 ?_
    refine T_wd (Wd' := fun H => Rg G (b + 80) Lm (Rm (b + 80)) I2 J2 H ∧ (Rg G b Lc (Rc b bk dr it) I J97 H ∧ Rg G (b + 123) [.inr (1, 1)] (fun _ _ => .null) (fun _ _ => 0) J3 H)) (fun H h => ⟨h.2.1, h.1, h.2.2⟩) ?_
    refine T_fl1 (A1 := Ar (b + 80) 43) (kc' := (1150 - 1 * (n + 1))) (ks' := (15786 - 6 * (n + 1))) hAm0 frM (CRF_V (rest := [.long x96]) hok (ct_X11_likely (b := b + 80) (A := Ar (b + 80) 43) hAm I2 J2 (xs (ix (x4 + (1 : Int32)))) (xs (ix (x4 + (2 : Int32)))) (xs (ix (x4 + (3 : Int32))))) mw_X11_likely mv_X11_likely ml_L_113 lm_0 dL_law_1017 rfl rfl ⟨Nat.le_of_ble_eq_true rfl, Nat.le_of_ble_eq_true rfl⟩ (by show _ + 0 ≤ 1150; omega) (by show _ + 0 ≤ 15786; omega) rfl) rfl rfl ?_
    intro x98 I99
    refine T_wd (Wd' := fun H => Rg G b Lc (Rc b bk dr it) I J97 H ∧ (Rg G (b + 80) Lm (Rm (b + 80)) I99 J2 H ∧ Rg G (b + 123) [.inr (1, 1)] (fun _ _ => .null) (fun _ _ => 0) J3 H)) (fun H h => ⟨h.2.1, h.1, h.2.2⟩) ?_
    refine T_lcmp_eq (tgt := 1725) hok dL_law_1020 rfl dL_law_1021 rfl ?_ ?_
    · refine T_widen (kc' := 1150 - 1 * n) (ks' := 15786 - 6 * n) (by omega) (by omega) ?_
      exact hj1725 bk dr it I J97 I99 J2 J3
    exact T_none
  refine T_swc (fun hx20 => ?_) (fun hx20 => ?_)
  · refine T_tin (tgt := 1026) hok hx20 dL_law_40 (by decide) (by decide) rfl rfl ?_
    refine T_aload_n hok 1 rfl rfl dL_law_1026 ?_
    refine T_aload_n hok 0 rfl rfl dL_law_1027 ?_
    refine T_iload hok 4 rfl dL_law_1028 ?_
    refine T_iconst hok ic_1 dL_law_1030 ?_
    refine T_iadd hok dL_law_1031 ?_
    refine T_sld hok hX dL_law_1032 ?_
    refine T_aload_n hok 0 rfl rfl dL_law_1033 ?_
    refine T_iload hok 4 rfl dL_law_1034 ?_
    refine T_iconst hok ic_2 dL_law_1036 ?_
    refine T_iadd hok dL_law_1037 ?_
    refine T_sld hok hX dL_law_1038 ?_
    refine T_aload_n hok 0 rfl rfl dL_law_1039 ?_
    refine T_iload hok 4 rfl dL_law_1040 ?_
    refine T_iconst hok ic_3 dL_law_1042 ?_
    refine T_iadd hok dL_law_1043 ?_
    refine T_sld hok hX dL_law_1044 ?_
    refine T_fi0 (A1 := Ar b 80) (kc' := (1150 - 1 * (n + 1))) (ks' := (15786 - 6 * (n + 1))) hAc0 frC (CRF_V (rest := []) hok (ct_X10_rests (A := Ar b 80) hAc hbk I J (xs (ix (x4 + (1 : Int32)))) (xs (ix (x4 + (2 : Int32)))) (xs (ix (x4 + (3 : Int32))))) mw_X10_rests mv_X10_rests ml_L_114 lc_0 dL_law_1045 rfl rfl ⟨Nat.le_of_ble_eq_true rfl, Nat.le_of_ble_eq_true rfl⟩ (by show _ + 0 ≤ 1150; omega) (by show _ + 0 ≤ 15786; omega) rfl) rfl rfl ?_
    intro x100
    refine T_wd (Wd' := fun H => Rg G b Lc (Rc b bk dr it) I J H ∧ (Rg G (b + 80) Lm (Rm (b + 80)) I2 J2 H ∧ Rg G (b + 123) [.inr (1, 1)] (fun _ _ => .null) (fun _ _ => 0) J3 H)) (fun H h => h) ?_
    refine T_aload_n hok 2 rfl rfl dL_law_1048 ?_
    refine T_aload_n hok 0 rfl rfl dL_law_1049 ?_
    refine T_iload hok 4 rfl dL_law_1050 ?_
    refine T_iconst hok ic_1 dL_law_1052 ?_
    refine T_iadd hok dL_law_1053 ?_
    refine T_sld hok hX dL_law_1054 ?_
    refine T_aload_n hok 0 rfl rfl dL_law_1055 ?_
    refine T_iload hok 4 rfl dL_law_1056 ?_
    refine T_iconst hok ic_2 dL_law_1058 ?_
    refine T_iadd hok dL_law_1059 ?_
    refine T_sld hok hX dL_law_1060 ?_
    refine T_aload_n hok 0 rfl rfl dL_law_1061 ?_
    refine T_iload hok 4 rfl dL_law_1062 ?_
    refine T_iconst hok ic_3 dL_law_1064 ?_
    refine T_iadd hok dL_law_1065 ?_
    refine T_sld hok hX dL_law_1066 ?_
    refine T_wd (Wd' := fun H => Rg G (b + 80) Lm (Rm (b + 80)) I2 J2 H ∧ (Rg G b Lc (Rc b bk dr it) I J H ∧ Rg G (b + 123) [.inr (1, 1)] (fun _ _ => .null) (fun _ _ => 0) J3 H)) (fun H h => ⟨h.2.1, h.1, h.2.2⟩) ?_
    refine T_fi1 (A1 := Ar (b + 80) 43) (kc' := (1150 - 1 * (n + 1))) (ks' := (15786 - 6 * (n + 1))) hAm0 frM (CRF_V (rest := [.int x100]) hok (ct_X11_rests (b := b + 80) (A := Ar (b + 80) 43) hAm I2 J2 (xs (ix (x4 + (1 : Int32)))) (xs (ix (x4 + (2 : Int32)))) (xs (ix (x4 + (3 : Int32))))) mw_X11_rests mv_X11_rests ml_L_117 lm_0 dL_law_1067 rfl rfl ⟨Nat.le_of_ble_eq_true rfl, Nat.le_of_ble_eq_true rfl⟩ (by show _ + 0 ≤ 1150; omega) (by show _ + 0 ≤ 15786; omega) rfl) rfl rfl ?_
    intro x101 I102
    refine T_wd (Wd' := fun H => Rg G b Lc (Rc b bk dr it) I J H ∧ (Rg G (b + 80) Lm (Rm (b + 80)) I102 J2 H ∧ Rg G (b + 123) [.inr (1, 1)] (fun _ _ => .null) (fun _ _ => 0) J3 H)) (fun H h => ⟨h.2.1, h.1, h.2.2⟩) ?_
    refine T_icmp_eq (tgt := 1725) hok dL_law_1070 rfl ?_ ?_
    · refine T_widen (kc' := 1150 - 1 * n) (ks' := 15786 - 6 * n) (by omega) (by omega) ?_
      exact hj1725 bk dr it I J I102 J2 J3
    exact T_none
  refine T_swc (fun hx21 => ?_) (fun hx21 => ?_)
  · refine T_tin (tgt := 1075) hok hx21 dL_law_40 (by decide) (by decide) rfl rfl ?_
    refine T_aload_n hok 1 rfl rfl dL_law_1075 ?_
    refine T_aload_n hok 0 rfl rfl dL_law_1076 ?_
    refine T_iload hok 4 rfl dL_law_1077 ?_
    refine T_iconst hok ic_1 dL_law_1079 ?_
    refine T_iadd hok dL_law_1080 ?_
    refine T_sld hok hX dL_law_1081 ?_
    refine T_aload_n hok 0 rfl rfl dL_law_1082 ?_
    refine T_iload hok 4 rfl dL_law_1083 ?_
    refine T_iconst hok ic_2 dL_law_1085 ?_
    refine T_iadd hok dL_law_1086 ?_
    refine T_sld hok hX dL_law_1087 ?_
    refine T_aload_n hok 0 rfl rfl dL_law_1088 ?_
    refine T_iload hok 4 rfl dL_law_1089 ?_
    refine T_iconst hok ic_3 dL_law_1091 ?_
    refine T_iadd hok dL_law_1092 ?_
    refine T_sld hok hX dL_law_1093 ?_
    refine T_aload_n hok 0 rfl rfl dL_law_1094 ?_
    refine T_iload hok 4 rfl dL_law_1095 ?_
    refine T_iconst hok ic_4 dL_law_1097 ?_
    refine T_iadd hok dL_law_1098 ?_
    refine T_sld hok hX dL_law_1099 ?_
    refine T_fi0 (A1 := Ar b 80) (kc' := (1150 - 1 * (n + 1))) (ks' := (15786 - 6 * (n + 1))) hAc0 frC (CRF_V (rest := []) hok (ct_X10_rest (A := Ar b 80) hAc hbk I J (xs (ix (x4 + (1 : Int32)))) (xs (ix (x4 + (2 : Int32)))) (xs (ix (x4 + (3 : Int32)))) (xs (ix (x4 + (4 : Int32))))) mw_X10_rest mv_X10_rest ml_L_118 lc_0 dL_law_1100 rfl rfl ⟨Nat.le_of_ble_eq_true rfl, Nat.le_of_ble_eq_true rfl⟩ (by show _ + 0 ≤ 1150; omega) (by show _ + 0 ≤ 15786; omega) rfl) rfl rfl ?_
    intro x103
    refine T_wd (Wd' := fun H => Rg G b Lc (Rc b bk dr it) I J H ∧ (Rg G (b + 80) Lm (Rm (b + 80)) I2 J2 H ∧ Rg G (b + 123) [.inr (1, 1)] (fun _ _ => .null) (fun _ _ => 0) J3 H)) (fun H h => h) ?_
    refine T_aload_n hok 2 rfl rfl dL_law_1103 ?_
    refine T_aload_n hok 0 rfl rfl dL_law_1104 ?_
    refine T_iload hok 4 rfl dL_law_1105 ?_
    refine T_iconst hok ic_1 dL_law_1107 ?_
    refine T_iadd hok dL_law_1108 ?_
    refine T_sld hok hX dL_law_1109 ?_
    refine T_aload_n hok 0 rfl rfl dL_law_1110 ?_
    refine T_iload hok 4 rfl dL_law_1111 ?_
    refine T_iconst hok ic_2 dL_law_1113 ?_
    refine T_iadd hok dL_law_1114 ?_
    refine T_sld hok hX dL_law_1115 ?_
    refine T_aload_n hok 0 rfl rfl dL_law_1116 ?_
    refine T_iload hok 4 rfl dL_law_1117 ?_
    refine T_iconst hok ic_3 dL_law_1119 ?_
    refine T_iadd hok dL_law_1120 ?_
    refine T_sld hok hX dL_law_1121 ?_
    refine T_aload_n hok 0 rfl rfl dL_law_1122 ?_
    refine T_iload hok 4 rfl dL_law_1123 ?_
    refine T_iconst hok ic_4 dL_law_1125 ?_
    refine T_iadd hok dL_law_1126 ?_
    refine T_sld hok hX dL_law_1127 ?_
    refine T_wd (Wd' := fun H => Rg G (b + 80) Lm (Rm (b + 80)) I2 J2 H ∧ (Rg G b Lc (Rc b bk dr it) I J H ∧ Rg G (b + 123) [.inr (1, 1)] (fun _ _ => .null) (fun _ _ => 0) J3 H)) (fun H h => ⟨h.2.1, h.1, h.2.2⟩) ?_
    refine T_fi1 (A1 := Ar (b + 80) 43) (kc' := (1150 - 1 * (n + 1))) (ks' := (15786 - 6 * (n + 1))) hAm0 frM (CRF_V (rest := [.int x103]) hok (ct_X11_rest (b := b + 80) (A := Ar (b + 80) 43) hAm I2 J2 (xs (ix (x4 + (1 : Int32)))) (xs (ix (x4 + (2 : Int32)))) (xs (ix (x4 + (3 : Int32)))) (xs (ix (x4 + (4 : Int32))))) mw_X11_rest mv_X11_rest ml_L_121 lm_0 dL_law_1128 rfl rfl ⟨Nat.le_of_ble_eq_true rfl, Nat.le_of_ble_eq_true rfl⟩ (by show _ + 0 ≤ 1150; omega) (by show _ + 0 ≤ 15786; omega) rfl) rfl rfl ?_
    intro x104 I105
    refine T_wd (Wd' := fun H => Rg G b Lc (Rc b bk dr it) I J H ∧ (Rg G (b + 80) Lm (Rm (b + 80)) I105 J2 H ∧ Rg G (b + 123) [.inr (1, 1)] (fun _ _ => .null) (fun _ _ => 0) J3 H)) (fun H h => ⟨h.2.1, h.1, h.2.2⟩) ?_
    refine T_icmp_eq (tgt := 1725) hok dL_law_1131 rfl ?_ ?_
    · refine T_widen (kc' := 1150 - 1 * n) (ks' := 15786 - 6 * n) (by omega) (by omega) ?_
      exact hj1725 bk dr it I J I105 J2 J3
    exact T_none
  refine T_swc (fun hx22 => ?_) (fun hx22 => ?_)
  · refine T_tin (tgt := 1136) hok hx22 dL_law_40 (by decide) (by decide) rfl rfl ?_
    refine T_aload_n hok 1 rfl rfl dL_law_1136 ?_
    refine T_fi0 (A1 := Ar b 80) (kc' := (1150 - 1 * (n + 1))) (ks' := (15786 - 6 * (n + 1))) hAc0 frC (CRF_V (rest := []) hok (ct_X10_richest (A := Ar b 80) hAc hbk I J) mw_X10_richest mv_X10_richest ml_L_122 lc_0 dL_law_1137 rfl rfl ⟨Nat.le_of_ble_eq_true rfl, Nat.le_of_ble_eq_true rfl⟩ (by show _ + 0 ≤ 1150; omega) (by show _ + 0 ≤ 15786; omega) rfl) rfl rfl ?_
    intro x106
    refine T_wd (Wd' := fun H => Rg G b Lc (Rc b bk dr it) I J H ∧ (Rg G (b + 80) Lm (Rm (b + 80)) I2 J2 H ∧ Rg G (b + 123) [.inr (1, 1)] (fun _ _ => .null) (fun _ _ => 0) J3 H)) (fun H h => h) ?_
    refine T_aload_n hok 2 rfl rfl dL_law_1140 ?_
    refine T_wd (Wd' := fun H => Rg G (b + 80) Lm (Rm (b + 80)) I2 J2 H ∧ (Rg G b Lc (Rc b bk dr it) I J H ∧ Rg G (b + 123) [.inr (1, 1)] (fun _ _ => .null) (fun _ _ => 0) J3 H)) (fun H h => ⟨h.2.1, h.1, h.2.2⟩) ?_
    refine T_fi1 (A1 := Ar (b + 80) 43) (kc' := (1150 - 1 * (n + 1))) (ks' := (15786 - 6 * (n + 1))) hAm0 frM (CRF_V (rest := [.int x106]) hok (ct_X11_richest (b := b + 80) (A := Ar (b + 80) 43) hAm I2 J2) mw_X11_richest mv_X11_richest ml_L_125 lm_0 dL_law_1141 rfl rfl ⟨Nat.le_of_ble_eq_true rfl, Nat.le_of_ble_eq_true rfl⟩ (by show _ + 0 ≤ 1150; omega) (by show _ + 0 ≤ 15786; omega) rfl) rfl rfl ?_
    intro x107 I108
    refine T_wd (Wd' := fun H => Rg G b Lc (Rc b bk dr it) I J H ∧ (Rg G (b + 80) Lm (Rm (b + 80)) I108 J2 H ∧ Rg G (b + 123) [.inr (1, 1)] (fun _ _ => .null) (fun _ _ => 0) J3 H)) (fun H h => ⟨h.2.1, h.1, h.2.2⟩) ?_
    refine T_icmp_eq (tgt := 1725) hok dL_law_1144 rfl ?_ ?_
    · refine T_widen (kc' := 1150 - 1 * n) (ks' := 15786 - 6 * n) (by omega) (by omega) ?_
      exact hj1725 bk dr it I J I108 J2 J3
    exact T_none
  refine T_swc (fun hx23 => ?_) (fun hx23 => ?_)
  · refine T_tin (tgt := 1149) hok hx23 dL_law_40 (by decide) (by decide) rfl rfl ?_
    refine T_aload_n hok 1 rfl rfl dL_law_1149 ?_
    refine T_aload_n hok 0 rfl rfl dL_law_1150 ?_
    refine T_iload hok 4 rfl dL_law_1151 ?_
    refine T_iconst hok ic_1 dL_law_1153 ?_
    refine T_iadd hok dL_law_1154 ?_
    refine T_sld hok hX dL_law_1155 ?_
    refine T_aload_n hok 0 rfl rfl dL_law_1156 ?_
    refine T_iload hok 4 rfl dL_law_1157 ?_
    refine T_iconst hok ic_2 dL_law_1159 ?_
    refine T_iadd hok dL_law_1160 ?_
    refine T_sld hok hX dL_law_1161 ?_
    refine T_fi0 (A1 := Ar b 80) (kc' := (1150 - 1 * (n + 1))) (ks' := (15786 - 6 * (n + 1))) hAc0 frC (CRF_V (rest := []) hok (ct_X10_leave (A := Ar b 80) hAc hbk I J (xs (ix (x4 + (1 : Int32)))) (xs (ix (x4 + (2 : Int32))))) mw_X10_leave mv_X10_leave ml_L_126 lc_0 dL_law_1162 rfl rfl ⟨Nat.le_of_ble_eq_true rfl, Nat.le_of_ble_eq_true rfl⟩ (by show _ + 0 ≤ 1150; omega) (by show _ + 0 ≤ 15786; omega) rfl) rfl rfl ?_
    intro x109
    refine T_wd (Wd' := fun H => Rg G b Lc (Rc b bk dr it) I J H ∧ (Rg G (b + 80) Lm (Rm (b + 80)) I2 J2 H ∧ Rg G (b + 123) [.inr (1, 1)] (fun _ _ => .null) (fun _ _ => 0) J3 H)) (fun H h => h) ?_
    refine T_aload_n hok 2 rfl rfl dL_law_1165 ?_
    refine T_aload_n hok 0 rfl rfl dL_law_1166 ?_
    refine T_iload hok 4 rfl dL_law_1167 ?_
    refine T_iconst hok ic_1 dL_law_1169 ?_
    refine T_iadd hok dL_law_1170 ?_
    refine T_sld hok hX dL_law_1171 ?_
    refine T_aload_n hok 0 rfl rfl dL_law_1172 ?_
    refine T_iload hok 4 rfl dL_law_1173 ?_
    refine T_iconst hok ic_2 dL_law_1175 ?_
    refine T_iadd hok dL_law_1176 ?_
    refine T_sld hok hX dL_law_1177 ?_
    refine T_wd (Wd' := fun H => Rg G (b + 80) Lm (Rm (b + 80)) I2 J2 H ∧ (Rg G b Lc (Rc b bk dr it) I J H ∧ Rg G (b + 123) [.inr (1, 1)] (fun _ _ => .null) (fun _ _ => 0) J3 H)) (fun H h => ⟨h.2.1, h.1, h.2.2⟩) ?_
    refine T_fi1 (A1 := Ar (b + 80) 43) (kc' := (1150 - 1 * (n + 1))) (ks' := (15786 - 6 * (n + 1))) hAm0 frM (CRF_V (rest := [.int x109]) hok (ct_X11_leave (b := b + 80) (A := Ar (b + 80) 43) hAm I2 J2 (xs (ix (x4 + (1 : Int32)))) (xs (ix (x4 + (2 : Int32))))) mw_X11_leave mv_X11_leave ml_L_129 lm_0 dL_law_1178 rfl rfl ⟨Nat.le_of_ble_eq_true rfl, Nat.le_of_ble_eq_true rfl⟩ (by show _ + 0 ≤ 1150; omega) (by show _ + 0 ≤ 15786; omega) rfl) rfl rfl ?_
    intro x110 I111
    refine T_wd (Wd' := fun H => Rg G b Lc (Rc b bk dr it) I J H ∧ (Rg G (b + 80) Lm (Rm (b + 80)) I111 J2 H ∧ Rg G (b + 123) [.inr (1, 1)] (fun _ _ => .null) (fun _ _ => 0) J3 H)) (fun H h => ⟨h.2.1, h.1, h.2.2⟩) ?_
    refine T_icmp_eq (tgt := 1725) hok dL_law_1181 rfl ?_ ?_
    · refine T_widen (kc' := 1150 - 1 * n) (ks' := 15786 - 6 * n) (by omega) (by omega) ?_
      exact hj1725 bk dr it I J I111 J2 J3
    exact T_none
  refine T_swc (fun hx24 => ?_) (fun hx24 => ?_)
  · refine T_tin (tgt := 1186) hok hx24 dL_law_40 (by decide) (by decide) rfl rfl ?_
    refine T_aload_n hok 1 rfl rfl dL_law_1186 ?_
    refine T_aload_n hok 0 rfl rfl dL_law_1187 ?_
    refine T_iload hok 4 rfl dL_law_1188 ?_
    refine T_iconst hok ic_1 dL_law_1190 ?_
    refine T_iadd hok dL_law_1191 ?_
    refine T_sld hok hX dL_law_1192 ?_
    refine T_aload_n hok 0 rfl rfl dL_law_1193 ?_
    refine T_iload hok 4 rfl dL_law_1194 ?_
    refine T_iconst hok ic_2 dL_law_1196 ?_
    refine T_iadd hok dL_law_1197 ?_
    refine T_sld hok hX dL_law_1198 ?_
    refine T_fi2 (A1 := Ar b 80) (kc' := (1150 - 1 * (n + 1))) (ks' := (15786 - 6 * (n + 1))) hAc0 frC (CRF_V (rest := []) hok (ct_X10_blinds (A := Ar b 80) hAc hbk I J (xs (ix (x4 + (1 : Int32)))) (xs (ix (x4 + (2 : Int32))))) mw_X10_blinds mv_X10_blinds ml_L_130 lc_0 dL_law_1199 rfl rfl ⟨Nat.le_of_ble_eq_true rfl, Nat.le_of_ble_eq_true rfl⟩ (by show _ + 0 ≤ 1150; omega) (by show _ + 0 ≤ 15786; omega) rfl) rfl rfl ?_
    intro x112 I113 J114
    refine T_wd (Wd' := fun H => Rg G b Lc (Rc b bk dr it) I113 J114 H ∧ (Rg G (b + 80) Lm (Rm (b + 80)) I2 J2 H ∧ Rg G (b + 123) [.inr (1, 1)] (fun _ _ => .null) (fun _ _ => 0) J3 H)) (fun H h => h) ?_
    refine T_aload_n hok 2 rfl rfl dL_law_1202 ?_
    refine T_aload_n hok 0 rfl rfl dL_law_1203 ?_
    refine T_iload hok 4 rfl dL_law_1204 ?_
    refine T_iconst hok ic_1 dL_law_1206 ?_
    refine T_iadd hok dL_law_1207 ?_
    refine T_sld hok hX dL_law_1208 ?_
    refine T_aload_n hok 0 rfl rfl dL_law_1209 ?_
    refine T_iload hok 4 rfl dL_law_1210 ?_
    refine T_iconst hok ic_2 dL_law_1212 ?_
    refine T_iadd hok dL_law_1213 ?_
    refine T_sld hok hX dL_law_1214 ?_
    refine T_wd (Wd' := fun H => Rg G (b + 80) Lm (Rm (b + 80)) I2 J2 H ∧ (Rg G b Lc (Rc b bk dr it) I113 J114 H ∧ Rg G (b + 123) [.inr (1, 1)] (fun _ _ => .null) (fun _ _ => 0) J3 H)) (fun H h => ⟨h.2.1, h.1, h.2.2⟩) ?_
    refine T_fi2 (A1 := Ar (b + 80) 43) (kc' := (1150 - 1 * (n + 1))) (ks' := (15786 - 6 * (n + 1))) hAm0 frM (CRF_V (rest := [.int x112]) hok (ct_X11_blinds (b := b + 80) (A := Ar (b + 80) 43) hAm I2 J2 (xs (ix (x4 + (1 : Int32)))) (xs (ix (x4 + (2 : Int32))))) mw_X11_blinds mv_X11_blinds ml_L_133 lm_0 dL_law_1215 rfl rfl ⟨Nat.le_of_ble_eq_true rfl, Nat.le_of_ble_eq_true rfl⟩ (by show _ + 0 ≤ 1150; omega) (by show _ + 0 ≤ 15786; omega) rfl) rfl rfl ?_
    intro x115 I116 J117
    refine T_wd (Wd' := fun H => Rg G b Lc (Rc b bk dr it) I113 J114 H ∧ (Rg G (b + 80) Lm (Rm (b + 80)) I116 J117 H ∧ Rg G (b + 123) [.inr (1, 1)] (fun _ _ => .null) (fun _ _ => 0) J3 H)) (fun H h => ⟨h.2.1, h.1, h.2.2⟩) ?_
    refine T_icmp_eq (tgt := 1725) hok dL_law_1218 rfl ?_ ?_
    · refine T_widen (kc' := 1150 - 1 * n) (ks' := 15786 - 6 * n) (by omega) (by omega) ?_
      exact hj1725 bk dr it I113 J114 I116 J117 J3
    exact T_none
  refine T_swc (fun hx25 => ?_) (fun hx25 => ?_)
  · refine T_tin (tgt := 1223) hok hx25 dL_law_40 (by decide) (by decide) rfl rfl ?_
    refine T_aload_n hok 1 rfl rfl dL_law_1223 ?_
    refine T_aload_n hok 0 rfl rfl dL_law_1224 ?_
    refine T_iload hok 4 rfl dL_law_1225 ?_
    refine T_iconst hok ic_1 dL_law_1227 ?_
    refine T_iadd hok dL_law_1228 ?_
    refine T_sld hok hX dL_law_1229 ?_
    refine T_fi0 (A1 := Ar b 80) (kc' := (1150 - 1 * (n + 1))) (ks' := (15786 - 6 * (n + 1))) hAc0 frC (CRF_V (rest := []) hok (ct_X10_among (A := Ar b 80) hAc hbk I J (xs (ix (x4 + (1 : Int32))))) mw_X10_among mv_X10_among ml_L_134 lc_0 dL_law_1230 rfl rfl ⟨Nat.le_of_ble_eq_true rfl, Nat.le_of_ble_eq_true rfl⟩ (by show _ + 0 ≤ 1150; omega) (by show _ + 0 ≤ 15786; omega) rfl) rfl rfl ?_
    intro x118
    refine T_wd (Wd' := fun H => Rg G b Lc (Rc b bk dr it) I J H ∧ (Rg G (b + 80) Lm (Rm (b + 80)) I2 J2 H ∧ Rg G (b + 123) [.inr (1, 1)] (fun _ _ => .null) (fun _ _ => 0) J3 H)) (fun H h => h) ?_
    refine T_aload_n hok 2 rfl rfl dL_law_1233 ?_
    refine T_aload_n hok 0 rfl rfl dL_law_1234 ?_
    refine T_iload hok 4 rfl dL_law_1235 ?_
    refine T_iconst hok ic_1 dL_law_1237 ?_
    refine T_iadd hok dL_law_1238 ?_
    refine T_sld hok hX dL_law_1239 ?_
    refine T_wd (Wd' := fun H => Rg G (b + 80) Lm (Rm (b + 80)) I2 J2 H ∧ (Rg G b Lc (Rc b bk dr it) I J H ∧ Rg G (b + 123) [.inr (1, 1)] (fun _ _ => .null) (fun _ _ => 0) J3 H)) (fun H h => ⟨h.2.1, h.1, h.2.2⟩) ?_
    refine T_fi1 (A1 := Ar (b + 80) 43) (kc' := (1150 - 1 * (n + 1))) (ks' := (15786 - 6 * (n + 1))) hAm0 frM (CRF_V (rest := [.int x118]) hok (ct_X11_among (b := b + 80) (A := Ar (b + 80) 43) hAm I2 J2 (xs (ix (x4 + (1 : Int32))))) mw_X11_among mv_X11_among ml_L_137 lm_0 dL_law_1240 rfl rfl ⟨Nat.le_of_ble_eq_true rfl, Nat.le_of_ble_eq_true rfl⟩ (by show _ + 0 ≤ 1150; omega) (by show _ + 0 ≤ 15786; omega) rfl) rfl rfl ?_
    intro x119 I120
    refine T_wd (Wd' := fun H => Rg G b Lc (Rc b bk dr it) I J H ∧ (Rg G (b + 80) Lm (Rm (b + 80)) I120 J2 H ∧ Rg G (b + 123) [.inr (1, 1)] (fun _ _ => .null) (fun _ _ => 0) J3 H)) (fun H h => ⟨h.2.1, h.1, h.2.2⟩) ?_
    refine T_icmp_eq (tgt := 1725) hok dL_law_1243 rfl ?_ ?_
    · refine T_widen (kc' := 1150 - 1 * n) (ks' := 15786 - 6 * n) (by omega) (by omega) ?_
      exact hj1725 bk dr it I J I120 J2 J3
    exact T_none
  refine T_swc (fun hx26 => ?_) (fun hx26 => ?_)
  · refine T_tin (tgt := 1248) hok hx26 dL_law_40 (by decide) (by decide) rfl rfl ?_
    refine T_aload_n hok 1 rfl rfl dL_law_1248 ?_
    refine T_fi2 (A1 := Ar b 80) (kc' := (1150 - 1 * (n + 1))) (ks' := (15786 - 6 * (n + 1))) hAc0 frC (CRF_V (rest := []) hok (ct_X10_rescue (A := Ar b 80) hAc hbk I J) mw_X10_rescue mv_X10_rescue ml_L_138 lc_0 dL_law_1249 rfl rfl ⟨Nat.le_of_ble_eq_true rfl, Nat.le_of_ble_eq_true rfl⟩ (by show _ + 0 ≤ 1150; omega) (by show _ + 0 ≤ 15786; omega) rfl) rfl rfl ?_
    intro x121 I122 J123
    refine T_wd (Wd' := fun H => Rg G b Lc (Rc b bk dr it) I122 J123 H ∧ (Rg G (b + 80) Lm (Rm (b + 80)) I2 J2 H ∧ Rg G (b + 123) [.inr (1, 1)] (fun _ _ => .null) (fun _ _ => 0) J3 H)) (fun H h => h) ?_
    refine T_aload_n hok 2 rfl rfl dL_law_1252 ?_
    refine T_wd (Wd' := fun H => Rg G (b + 80) Lm (Rm (b + 80)) I2 J2 H ∧ (Rg G b Lc (Rc b bk dr it) I122 J123 H ∧ Rg G (b + 123) [.inr (1, 1)] (fun _ _ => .null) (fun _ _ => 0) J3 H)) (fun H h => ⟨h.2.1, h.1, h.2.2⟩) ?_
    refine T_fi2 (A1 := Ar (b + 80) 43) (kc' := (1150 - 1 * (n + 1))) (ks' := (15786 - 6 * (n + 1))) hAm0 frM (CRF_V (rest := [.int x121]) hok (ct_X11_rescue (b := b + 80) (A := Ar (b + 80) 43) hAm I2 J2) mw_X11_rescue mv_X11_rescue ml_L_141 lm_0 dL_law_1253 rfl rfl ⟨Nat.le_of_ble_eq_true rfl, Nat.le_of_ble_eq_true rfl⟩ (by show _ + 0 ≤ 1150; omega) (by show _ + 0 ≤ 15786; omega) rfl) rfl rfl ?_
    intro x124 I125 J126
    refine T_wd (Wd' := fun H => Rg G b Lc (Rc b bk dr it) I122 J123 H ∧ (Rg G (b + 80) Lm (Rm (b + 80)) I125 J126 H ∧ Rg G (b + 123) [.inr (1, 1)] (fun _ _ => .null) (fun _ _ => 0) J3 H)) (fun H h => ⟨h.2.1, h.1, h.2.2⟩) ?_
    refine T_icmp_eq (tgt := 1725) hok dL_law_1256 rfl ?_ ?_
    · refine T_widen (kc' := 1150 - 1 * n) (ks' := 15786 - 6 * n) (by omega) (by omega) ?_
      exact hj1725 bk dr it I122 J123 I125 J126 J3
    exact T_none
  refine T_swc (fun hx27 => ?_) (fun hx27 => ?_)
  · refine T_tin (tgt := 1261) hok hx27 dL_law_40 (by decide) (by decide) rfl rfl ?_
    refine T_aload_n hok 1 rfl rfl dL_law_1261 ?_
    refine T_fi0 (A1 := Ar b 80) (kc' := (1150 - 1 * (n + 1))) (ks' := (15786 - 6 * (n + 1))) hAc0 frC (CRF_V (rest := []) hok (ct_X10_termIn (A := Ar b 80) hAc hbk I J) mw_X10_termIn mv_X10_termIn ml_L_142 lc_0 dL_law_1262 rfl rfl ⟨Nat.le_of_ble_eq_true rfl, Nat.le_of_ble_eq_true rfl⟩ (by show _ + 0 ≤ 1150; omega) (by show _ + 0 ≤ 15786; omega) rfl) rfl rfl ?_
    intro x127
    refine T_wd (Wd' := fun H => Rg G b Lc (Rc b bk dr it) I J H ∧ (Rg G (b + 80) Lm (Rm (b + 80)) I2 J2 H ∧ Rg G (b + 123) [.inr (1, 1)] (fun _ _ => .null) (fun _ _ => 0) J3 H)) (fun H h => h) ?_
    refine T_aload_n hok 2 rfl rfl dL_law_1265 ?_
    refine T_wd (Wd' := fun H => Rg G (b + 80) Lm (Rm (b + 80)) I2 J2 H ∧ (Rg G b Lc (Rc b bk dr it) I J H ∧ Rg G (b + 123) [.inr (1, 1)] (fun _ _ => .null) (fun _ _ => 0) J3 H)) (fun H h => ⟨h.2.1, h.1, h.2.2⟩) ?_
    refine T_fi1 (A1 := Ar (b + 80) 43) (kc' := (1150 - 1 * (n + 1))) (ks' := (15786 - 6 * (n + 1))) hAm0 frM (CRF_V (rest := [.int x127]) hok (ct_X11_termIn (b := b + 80) (A := Ar (b + 80) 43) hAm I2 J2) mw_X11_termIn mv_X11_termIn ml_L_145 lm_0 dL_law_1266 rfl rfl ⟨Nat.le_of_ble_eq_true rfl, Nat.le_of_ble_eq_true rfl⟩ (by show _ + 0 ≤ 1150; omega) (by show _ + 0 ≤ 15786; omega) rfl) rfl rfl ?_
    intro x128 I129
    refine T_wd (Wd' := fun H => Rg G b Lc (Rc b bk dr it) I J H ∧ (Rg G (b + 80) Lm (Rm (b + 80)) I129 J2 H ∧ Rg G (b + 123) [.inr (1, 1)] (fun _ _ => .null) (fun _ _ => 0) J3 H)) (fun H h => ⟨h.2.1, h.1, h.2.2⟩) ?_
    refine T_icmp_eq (tgt := 1725) hok dL_law_1269 rfl ?_ ?_
    · refine T_widen (kc' := 1150 - 1 * n) (ks' := 15786 - 6 * n) (by omega) (by omega) ?_
      exact hj1725 bk dr it I J I129 J2 J3
    exact T_none
  refine T_swc (fun hx28 => ?_) (fun hx28 => ?_)
  · refine T_tin (tgt := 1274) hok hx28 dL_law_40 (by decide) (by decide) rfl rfl ?_
    refine T_aload_n hok 1 rfl rfl dL_law_1274 ?_
    refine T_aload_n hok 0 rfl rfl dL_law_1275 ?_
    refine T_iload hok 4 rfl dL_law_1276 ?_
    refine T_iconst hok ic_1 dL_law_1278 ?_
    refine T_iadd hok dL_law_1279 ?_
    refine T_sld hok hX dL_law_1280 ?_
    refine T_aload_n hok 0 rfl rfl dL_law_1281 ?_
    refine T_iload hok 4 rfl dL_law_1282 ?_
    refine T_iconst hok ic_2 dL_law_1284 ?_
    refine T_iadd hok dL_law_1285 ?_
    refine T_sld hok hX dL_law_1286 ?_
    refine T_fi0 (A1 := Ar b 80) (kc' := (1150 - 1 * (n + 1))) (ks' := (15786 - 6 * (n + 1))) hAc0 frC (CRF_V (rest := []) hok (ct_X10_often (A := Ar b 80) hAc hbk I J (xs (ix (x4 + (1 : Int32)))) (xs (ix (x4 + (2 : Int32))))) mw_X10_often mv_X10_often ml_L_146 lc_0 dL_law_1287 rfl rfl ⟨Nat.le_of_ble_eq_true rfl, Nat.le_of_ble_eq_true rfl⟩ (by show _ + 0 ≤ 1150; omega) (by show _ + 0 ≤ 15786; omega) rfl) rfl rfl ?_
    intro x130
    refine T_wd (Wd' := fun H => Rg G b Lc (Rc b bk dr it) I J H ∧ (Rg G (b + 80) Lm (Rm (b + 80)) I2 J2 H ∧ Rg G (b + 123) [.inr (1, 1)] (fun _ _ => .null) (fun _ _ => 0) J3 H)) (fun H h => h) ?_
    refine T_aload_n hok 2 rfl rfl dL_law_1290 ?_
    refine T_aload_n hok 0 rfl rfl dL_law_1291 ?_
    refine T_iload hok 4 rfl dL_law_1292 ?_
    refine T_iconst hok ic_1 dL_law_1294 ?_
    refine T_iadd hok dL_law_1295 ?_
    refine T_sld hok hX dL_law_1296 ?_
    refine T_aload_n hok 0 rfl rfl dL_law_1297 ?_
    refine T_iload hok 4 rfl dL_law_1298 ?_
    refine T_iconst hok ic_2 dL_law_1300 ?_
    refine T_iadd hok dL_law_1301 ?_
    refine T_sld hok hX dL_law_1302 ?_
    refine T_wd (Wd' := fun H => Rg G (b + 80) Lm (Rm (b + 80)) I2 J2 H ∧ (Rg G b Lc (Rc b bk dr it) I J H ∧ Rg G (b + 123) [.inr (1, 1)] (fun _ _ => .null) (fun _ _ => 0) J3 H)) (fun H h => ⟨h.2.1, h.1, h.2.2⟩) ?_
    refine T_fi1 (A1 := Ar (b + 80) 43) (kc' := (1150 - 1 * (n + 1))) (ks' := (15786 - 6 * (n + 1))) hAm0 frM (CRF_V (rest := [.int x130]) hok (ct_X11_often (b := b + 80) (A := Ar (b + 80) 43) hAm I2 J2 (xs (ix (x4 + (1 : Int32)))) (xs (ix (x4 + (2 : Int32))))) mw_X11_often mv_X11_often ml_L_149 lm_0 dL_law_1303 rfl rfl ⟨Nat.le_of_ble_eq_true rfl, Nat.le_of_ble_eq_true rfl⟩ (by show _ + 0 ≤ 1150; omega) (by show _ + 0 ≤ 15786; omega) rfl) rfl rfl ?_
    intro x131 I132
    refine T_wd (Wd' := fun H => Rg G b Lc (Rc b bk dr it) I J H ∧ (Rg G (b + 80) Lm (Rm (b + 80)) I132 J2 H ∧ Rg G (b + 123) [.inr (1, 1)] (fun _ _ => .null) (fun _ _ => 0) J3 H)) (fun H h => ⟨h.2.1, h.1, h.2.2⟩) ?_
    refine T_icmp_eq (tgt := 1725) hok dL_law_1306 rfl ?_ ?_
    · refine T_widen (kc' := 1150 - 1 * n) (ks' := 15786 - 6 * n) (by omega) (by omega) ?_
      exact hj1725 bk dr it I J I132 J2 J3
    exact T_none
  refine T_swc (fun hx29 => ?_) (fun hx29 => ?_)
  · refine T_tin (tgt := 1311) hok hx29 dL_law_40 (by decide) (by decide) rfl rfl ?_
    refine T_aload_n hok 1 rfl rfl dL_law_1311 ?_
    refine T_aload_n hok 0 rfl rfl dL_law_1312 ?_
    refine T_iload hok 4 rfl dL_law_1313 ?_
    refine T_iconst hok ic_1 dL_law_1315 ?_
    refine T_iadd hok dL_law_1316 ?_
    refine T_sld hok hX dL_law_1317 ?_
    refine T_fi2 (A1 := Ar b 80) (kc' := (1150 - 1 * (n + 1))) (ks' := (15786 - 6 * (n + 1))) hAc0 frC (CRF_V (rest := []) hok (ct_X10_owes (A := Ar b 80) hAc hbk I J (xs (ix (x4 + (1 : Int32))))) mw_X10_owes mv_X10_owes ml_L_150 lc_0 dL_law_1318 rfl rfl ⟨Nat.le_of_ble_eq_true rfl, Nat.le_of_ble_eq_true rfl⟩ (by show _ + 0 ≤ 1150; omega) (by show _ + 0 ≤ 15786; omega) rfl) rfl rfl ?_
    intro x133 I134 J135
    refine T_wd (Wd' := fun H => Rg G b Lc (Rc b bk dr it) I134 J135 H ∧ (Rg G (b + 80) Lm (Rm (b + 80)) I2 J2 H ∧ Rg G (b + 123) [.inr (1, 1)] (fun _ _ => .null) (fun _ _ => 0) J3 H)) (fun H h => h) ?_
    refine T_aload_n hok 2 rfl rfl dL_law_1321 ?_
    refine T_aload_n hok 0 rfl rfl dL_law_1322 ?_
    refine T_iload hok 4 rfl dL_law_1323 ?_
    refine T_iconst hok ic_1 dL_law_1325 ?_
    refine T_iadd hok dL_law_1326 ?_
    refine T_sld hok hX dL_law_1327 ?_
    refine T_wd (Wd' := fun H => Rg G (b + 80) Lm (Rm (b + 80)) I2 J2 H ∧ (Rg G b Lc (Rc b bk dr it) I134 J135 H ∧ Rg G (b + 123) [.inr (1, 1)] (fun _ _ => .null) (fun _ _ => 0) J3 H)) (fun H h => ⟨h.2.1, h.1, h.2.2⟩) ?_
    refine T_fi2 (A1 := Ar (b + 80) 43) (kc' := (1150 - 1 * (n + 1))) (ks' := (15786 - 6 * (n + 1))) hAm0 frM (CRF_V (rest := [.int x133]) hok (ct_X11_owes (b := b + 80) (A := Ar (b + 80) 43) hAm I2 J2 (xs (ix (x4 + (1 : Int32))))) mw_X11_owes mv_X11_owes ml_L_153 lm_0 dL_law_1328 rfl rfl ⟨Nat.le_of_ble_eq_true rfl, Nat.le_of_ble_eq_true rfl⟩ (by show _ + 0 ≤ 1150; omega) (by show _ + 0 ≤ 15786; omega) rfl) rfl rfl ?_
    intro x136 I137 J138
    refine T_wd (Wd' := fun H => Rg G b Lc (Rc b bk dr it) I134 J135 H ∧ (Rg G (b + 80) Lm (Rm (b + 80)) I137 J138 H ∧ Rg G (b + 123) [.inr (1, 1)] (fun _ _ => .null) (fun _ _ => 0) J3 H)) (fun H h => ⟨h.2.1, h.1, h.2.2⟩) ?_
    refine T_icmp_eq (tgt := 1725) hok dL_law_1331 rfl ?_ ?_
    · refine T_widen (kc' := 1150 - 1 * n) (ks' := 15786 - 6 * n) (by omega) (by omega) ?_
      exact hj1725 bk dr it I134 J135 I137 J138 J3
    exact T_none
  refine T_swc (fun hx30 => ?_) (fun hx30 => ?_)
  · refine T_tin (tgt := 1336) hok hx30 dL_law_40 (by decide) (by decide) rfl rfl ?_
    refine T_aload_n hok 1 rfl rfl dL_law_1336 ?_
    refine T_aload_n hok 0 rfl rfl dL_law_1337 ?_
    refine T_iload hok 4 rfl dL_law_1338 ?_
    refine T_iconst hok ic_1 dL_law_1340 ?_
    refine T_iadd hok dL_law_1341 ?_
    refine T_sld hok hX dL_law_1342 ?_
    refine T_fi0 (A1 := Ar b 80) (kc' := (1150 - 1 * (n + 1))) (ks' := (15786 - 6 * (n + 1))) hAc0 frC (CRF_V (rest := []) hok (ct_X10_have (A := Ar b 80) hAc hbk I J (xs (ix (x4 + (1 : Int32))))) mw_X10_have mv_X10_have ml_L_154 lc_0 dL_law_1343 rfl rfl ⟨Nat.le_of_ble_eq_true rfl, Nat.le_of_ble_eq_true rfl⟩ (by show _ + 0 ≤ 1150; omega) (by show _ + 0 ≤ 15786; omega) rfl) rfl rfl ?_
    intro x139
    refine T_wd (Wd' := fun H => Rg G b Lc (Rc b bk dr it) I J H ∧ (Rg G (b + 80) Lm (Rm (b + 80)) I2 J2 H ∧ Rg G (b + 123) [.inr (1, 1)] (fun _ _ => .null) (fun _ _ => 0) J3 H)) (fun H h => h) ?_
    refine T_aload_n hok 2 rfl rfl dL_law_1346 ?_
    refine T_aload_n hok 0 rfl rfl dL_law_1347 ?_
    refine T_iload hok 4 rfl dL_law_1348 ?_
    refine T_iconst hok ic_1 dL_law_1350 ?_
    refine T_iadd hok dL_law_1351 ?_
    refine T_sld hok hX dL_law_1352 ?_
    refine T_wd (Wd' := fun H => Rg G (b + 80) Lm (Rm (b + 80)) I2 J2 H ∧ (Rg G b Lc (Rc b bk dr it) I J H ∧ Rg G (b + 123) [.inr (1, 1)] (fun _ _ => .null) (fun _ _ => 0) J3 H)) (fun H h => ⟨h.2.1, h.1, h.2.2⟩) ?_
    refine T_fi1 (A1 := Ar (b + 80) 43) (kc' := (1150 - 1 * (n + 1))) (ks' := (15786 - 6 * (n + 1))) hAm0 frM (CRF_V (rest := [.int x139]) hok (ct_X11_have (b := b + 80) (A := Ar (b + 80) 43) hAm I2 J2 (xs (ix (x4 + (1 : Int32))))) mw_X11_have mv_X11_have ml_L_157 lm_0 dL_law_1353 rfl rfl ⟨Nat.le_of_ble_eq_true rfl, Nat.le_of_ble_eq_true rfl⟩ (by show _ + 0 ≤ 1150; omega) (by show _ + 0 ≤ 15786; omega) rfl) rfl rfl ?_
    intro x140 I141
    refine T_wd (Wd' := fun H => Rg G b Lc (Rc b bk dr it) I J H ∧ (Rg G (b + 80) Lm (Rm (b + 80)) I141 J2 H ∧ Rg G (b + 123) [.inr (1, 1)] (fun _ _ => .null) (fun _ _ => 0) J3 H)) (fun H h => ⟨h.2.1, h.1, h.2.2⟩) ?_
    refine T_icmp_eq (tgt := 1725) hok dL_law_1356 rfl ?_ ?_
    · refine T_widen (kc' := 1150 - 1 * n) (ks' := 15786 - 6 * n) (by omega) (by omega) ?_
      exact hj1725 bk dr it I J I141 J2 J3
    exact T_none
  refine T_swc (fun hx31 => ?_) (fun hx31 => ?_)
  · refine T_tin (tgt := 1361) hok hx31 dL_law_40 (by decide) (by decide) rfl rfl ?_
    refine T_aload_n hok 1 rfl rfl dL_law_1361 ?_
    refine T_fi0 (A1 := Ar b 80) (kc' := (1150 - 1 * (n + 1))) (ks' := (15786 - 6 * (n + 1))) hAc0 frC (CRF_V (rest := []) hok (ct_X10_dearest (A := Ar b 80) hAc hbk I J) mw_X10_dearest mv_X10_dearest ml_L_158 lc_0 dL_law_1362 rfl rfl ⟨Nat.le_of_ble_eq_true rfl, Nat.le_of_ble_eq_true rfl⟩ (by show _ + 0 ≤ 1150; omega) (by show _ + 0 ≤ 15786; omega) rfl) rfl rfl ?_
    intro x142
    refine T_wd (Wd' := fun H => Rg G b Lc (Rc b bk dr it) I J H ∧ (Rg G (b + 80) Lm (Rm (b + 80)) I2 J2 H ∧ Rg G (b + 123) [.inr (1, 1)] (fun _ _ => .null) (fun _ _ => 0) J3 H)) (fun H h => h) ?_
    refine T_aload_n hok 2 rfl rfl dL_law_1365 ?_
    refine T_wd (Wd' := fun H => Rg G (b + 80) Lm (Rm (b + 80)) I2 J2 H ∧ (Rg G b Lc (Rc b bk dr it) I J H ∧ Rg G (b + 123) [.inr (1, 1)] (fun _ _ => .null) (fun _ _ => 0) J3 H)) (fun H h => ⟨h.2.1, h.1, h.2.2⟩) ?_
    refine T_fi1 (A1 := Ar (b + 80) 43) (kc' := (1150 - 1 * (n + 1))) (ks' := (15786 - 6 * (n + 1))) hAm0 frM (CRF_V (rest := [.int x142]) hok (ct_X11_dearest (b := b + 80) (A := Ar (b + 80) 43) hAm I2 J2) mw_X11_dearest mv_X11_dearest ml_L_161 lm_0 dL_law_1366 rfl rfl ⟨Nat.le_of_ble_eq_true rfl, Nat.le_of_ble_eq_true rfl⟩ (by show _ + 0 ≤ 1150; omega) (by show _ + 0 ≤ 15786; omega) rfl) rfl rfl ?_
    intro x143 I144
    refine T_wd (Wd' := fun H => Rg G b Lc (Rc b bk dr it) I J H ∧ (Rg G (b + 80) Lm (Rm (b + 80)) I144 J2 H ∧ Rg G (b + 123) [.inr (1, 1)] (fun _ _ => .null) (fun _ _ => 0) J3 H)) (fun H h => ⟨h.2.1, h.1, h.2.2⟩) ?_
    refine T_icmp_eq (tgt := 1725) hok dL_law_1369 rfl ?_ ?_
    · refine T_widen (kc' := 1150 - 1 * n) (ks' := 15786 - 6 * n) (by omega) (by omega) ?_
      exact hj1725 bk dr it I J I144 J2 J3
    exact T_none
  refine T_swc (fun hx32 => ?_) (fun hx32 => ?_)
  · refine T_tin (tgt := 1374) hok hx32 dL_law_40 (by decide) (by decide) rfl rfl ?_
    refine T_aload_n hok 1 rfl rfl dL_law_1374 ?_
    refine T_aload_n hok 0 rfl rfl dL_law_1375 ?_
    refine T_iload hok 4 rfl dL_law_1376 ?_
    refine T_iconst hok ic_1 dL_law_1378 ?_
    refine T_iadd hok dL_law_1379 ?_
    refine T_sld hok hX dL_law_1380 ?_
    refine T_aload_n hok 0 rfl rfl dL_law_1381 ?_
    refine T_iload hok 4 rfl dL_law_1382 ?_
    refine T_iconst hok ic_2 dL_law_1384 ?_
    refine T_iadd hok dL_law_1385 ?_
    refine T_sld hok hX dL_law_1386 ?_
    refine T_aload_n hok 0 rfl rfl dL_law_1387 ?_
    refine T_iload hok 4 rfl dL_law_1388 ?_
    refine T_iconst hok ic_3 dL_law_1390 ?_
    refine T_iadd hok dL_law_1391 ?_
    refine T_sld hok hX dL_law_1392 ?_
    refine T_aload_n hok 0 rfl rfl dL_law_1393 ?_
    refine T_iload hok 4 rfl dL_law_1394 ?_
    refine T_iconst hok ic_4 dL_law_1396 ?_
    refine T_iadd hok dL_law_1397 ?_
    refine T_sld hok hX dL_law_1398 ?_
    refine T_jp _ (fun (j1407 : Bool → Int32 → Int32 → Int32 → Option (Unit)) => ∀ (x145 : Bool) (x146 : Int32) (x147 : Int32) (x148 : Int32), T X A (Zl X) 7 (1150 - 1 * (n + 1)) (15786 - 6 * (n + 1)) 1407 [(0, .ref sb), (1, .ref (b + 0)), (2, .ref (b + 80 + 0)), (3, .ref (b + 123 + 0)), (4, .int x4)] [.int (bi x145), .int x146, .int x147, .int x148, .ref (b + 0)] (fun H => Rg G b Lc (Rc b bk dr it) I J H ∧ (Rg G (b + 80) Lm (Rm (b + 80)) I2 J2 H ∧ Rg G (b + 123) [.inr (1, 1)] (fun _ _ => .null) (fun _ _ => 0) J3 H)) (j1407 x145 x146 x147 x148)) _ ?_ ?_
    · intro x145 x146 x147 x148
      refine T_fi1 (A1 := Ar b 80) (kc' := (1150 - 1 * (n + 1))) (ks' := (15786 - 6 * (n + 1))) hAc0 frC (CRF_V (rest := []) hok (ct_X10_note (A := Ar b 80) hAc hbk I J x148 x147 x146 (bi x145)) mw_X10_note mv_X10_note ml_L_162 lc_0 dL_law_1407 rfl rfl ⟨Nat.le_of_ble_eq_true rfl, Nat.le_of_ble_eq_true rfl⟩ (by show _ + 0 ≤ 1150; omega) (by show _ + 0 ≤ 15786; omega) rfl) rfl rfl ?_
      intro x149 I150
      refine T_wd (Wd' := fun H => Rg G b Lc (Rc b bk dr it) I150 J H ∧ (Rg G (b + 80) Lm (Rm (b + 80)) I2 J2 H ∧ Rg G (b + 123) [.inr (1, 1)] (fun _ _ => .null) (fun _ _ => 0) J3 H)) (fun H h => h) ?_
      refine T_aload_n hok 2 rfl rfl dL_law_1410 ?_
      refine T_aload_n hok 0 rfl rfl dL_law_1411 ?_
      refine T_iload hok 4 rfl dL_law_1412 ?_
      refine T_iconst hok ic_1 dL_law_1414 ?_
      refine T_iadd hok dL_law_1415 ?_
      refine T_sld hok hX dL_law_1416 ?_
      refine T_aload_n hok 0 rfl rfl dL_law_1417 ?_
      refine T_iload hok 4 rfl dL_law_1418 ?_
      refine T_iconst hok ic_2 dL_law_1420 ?_
      refine T_iadd hok dL_law_1421 ?_
      refine T_sld hok hX dL_law_1422 ?_
      refine T_aload_n hok 0 rfl rfl dL_law_1423 ?_
      refine T_iload hok 4 rfl dL_law_1424 ?_
      refine T_iconst hok ic_3 dL_law_1426 ?_
      refine T_iadd hok dL_law_1427 ?_
      refine T_sld hok hX dL_law_1428 ?_
      refine T_aload_n hok 0 rfl rfl dL_law_1429 ?_
      refine T_iload hok 4 rfl dL_law_1430 ?_
      refine T_iconst hok ic_4 dL_law_1432 ?_
      refine T_iadd hok dL_law_1433 ?_
      refine T_sld hok hX dL_law_1434 ?_
      refine T_jp _ (fun (j1443 : Bool → Int32 → Int32 → Int32 → Int32 → Option (Unit)) => ∀ (x151 : Bool) (x152 : Int32) (x153 : Int32) (x154 : Int32) (x155 : Int32), T X A (Zl X) 7 (1150 - 1 * (n + 1)) (15786 - 6 * (n + 1)) 1443 [(0, .ref sb), (1, .ref (b + 0)), (2, .ref (b + 80 + 0)), (3, .ref (b + 123 + 0)), (4, .int x4)] [.int (bi x151), .int x152, .int x153, .int x154, .ref (b + 80 + 0), .int x155] (fun H => Rg G b Lc (Rc b bk dr it) I150 J H ∧ (Rg G (b + 80) Lm (Rm (b + 80)) I2 J2 H ∧ Rg G (b + 123) [.inr (1, 1)] (fun _ _ => .null) (fun _ _ => 0) J3 H)) (j1443 x151 x152 x153 x154 x155)) _ ?_ ?_
      · intro x151 x152 x153 x154 x155
        refine T_wd (Wd' := fun H => Rg G (b + 80) Lm (Rm (b + 80)) I2 J2 H ∧ (Rg G b Lc (Rc b bk dr it) I150 J H ∧ Rg G (b + 123) [.inr (1, 1)] (fun _ _ => .null) (fun _ _ => 0) J3 H)) (fun H h => ⟨h.2.1, h.1, h.2.2⟩) ?_
        refine T_fi1 (A1 := Ar (b + 80) 43) (kc' := (1150 - 1 * (n + 1))) (ks' := (15786 - 6 * (n + 1))) hAm0 frM (CRF_V (rest := [.int x155]) hok (ct_X11_note (b := b + 80) (A := Ar (b + 80) 43) hAm I2 J2 x154 x153 x152 (bi x151)) mw_X11_note mv_X11_note ml_L_166 lm_0 dL_law_1443 rfl rfl ⟨Nat.le_of_ble_eq_true rfl, Nat.le_of_ble_eq_true rfl⟩ (by show _ + 0 ≤ 1150; omega) (by show _ + 0 ≤ 15786; omega) rfl) rfl rfl ?_
        intro x156 I157
        refine T_wd (Wd' := fun H => Rg G b Lc (Rc b bk dr it) I150 J H ∧ (Rg G (b + 80) Lm (Rm (b + 80)) I157 J2 H ∧ Rg G (b + 123) [.inr (1, 1)] (fun _ _ => .null) (fun _ _ => 0) J3 H)) (fun H h => ⟨h.2.1, h.1, h.2.2⟩) ?_
        refine T_icmp_eq (tgt := 1725) hok dL_law_1446 rfl ?_ ?_
        · refine T_widen (kc' := 1150 - 1 * n) (ks' := 15786 - 6 * n) (by omega) (by omega) ?_
          exact hj1725 bk dr it I150 J I157 J2 J3
        exact T_none
      intro j1443 hj1443
      refine T_if_eq (tgt := 1442) hok dL_law_1435 rfl ?_ ?_
      · refine T_iconst hok ic_0 dL_law_1442 ?_
        exact hj1443 false (xs (ix (x4 + (3 : Int32)))) (xs (ix (x4 + (2 : Int32)))) (xs (ix (x4 + (1 : Int32)))) x149
      refine T_iconst hok ic_1 dL_law_1438 ?_
      refine T_goto (tgt := 1443) hok dL_law_1439 rfl ?_
      exact hj1443 true (xs (ix (x4 + (3 : Int32)))) (xs (ix (x4 + (2 : Int32)))) (xs (ix (x4 + (1 : Int32)))) x149
    intro j1407 hj1407
    refine T_if_eq (tgt := 1406) hok dL_law_1399 rfl ?_ ?_
    · refine T_iconst hok ic_0 dL_law_1406 ?_
      exact hj1407 false (xs (ix (x4 + (3 : Int32)))) (xs (ix (x4 + (2 : Int32)))) (xs (ix (x4 + (1 : Int32))))
    refine T_iconst hok ic_1 dL_law_1402 ?_
    refine T_goto (tgt := 1407) hok dL_law_1403 rfl ?_
    exact hj1407 true (xs (ix (x4 + (3 : Int32)))) (xs (ix (x4 + (2 : Int32)))) (xs (ix (x4 + (1 : Int32))))
  refine T_swc (fun hx33 => ?_) (fun hx33 => ?_)
  · refine T_tin (tgt := 1451) hok hx33 dL_law_40 (by decide) (by decide) rfl rfl ?_
    refine T_aload_n hok 1 rfl rfl dL_law_1451 ?_
    refine T_aload_n hok 0 rfl rfl dL_law_1452 ?_
    refine T_iload hok 4 rfl dL_law_1453 ?_
    refine T_iconst hok ic_1 dL_law_1455 ?_
    refine T_iadd hok dL_law_1456 ?_
    refine T_sld hok hX dL_law_1457 ?_
    refine T_fi1 (A1 := Ar b 80) (kc' := (1150 - 1 * (n + 1))) (ks' := (15786 - 6 * (n + 1))) hAc0 frC (CRF_V (rest := []) hok (ct_X10_strike (A := Ar b 80) hAc I J (xs (ix (x4 + (1 : Int32))))) mw_X10_strike mv_X10_strike ml_L_167 lc_0 dL_law_1458 rfl rfl ⟨Nat.le_of_ble_eq_true rfl, Nat.le_of_ble_eq_true rfl⟩ (by show _ + 0 ≤ 1150; omega) (by show _ + 0 ≤ 15786; omega) rfl) rfl rfl ?_
    intro x158 I159
    refine T_wd (Wd' := fun H => Rg G b Lc (Rc b bk dr it) I159 J H ∧ (Rg G (b + 80) Lm (Rm (b + 80)) I2 J2 H ∧ Rg G (b + 123) [.inr (1, 1)] (fun _ _ => .null) (fun _ _ => 0) J3 H)) (fun H h => h) ?_
    refine T_aload_n hok 2 rfl rfl dL_law_1461 ?_
    refine T_aload_n hok 0 rfl rfl dL_law_1462 ?_
    refine T_iload hok 4 rfl dL_law_1463 ?_
    refine T_iconst hok ic_1 dL_law_1465 ?_
    refine T_iadd hok dL_law_1466 ?_
    refine T_sld hok hX dL_law_1467 ?_
    refine T_wd (Wd' := fun H => Rg G (b + 80) Lm (Rm (b + 80)) I2 J2 H ∧ (Rg G b Lc (Rc b bk dr it) I159 J H ∧ Rg G (b + 123) [.inr (1, 1)] (fun _ _ => .null) (fun _ _ => 0) J3 H)) (fun H h => ⟨h.2.1, h.1, h.2.2⟩) ?_
    refine T_fi1 (A1 := Ar (b + 80) 43) (kc' := (1150 - 1 * (n + 1))) (ks' := (15786 - 6 * (n + 1))) hAm0 frM (CRF_V (rest := [.int x158]) hok (ct_X11_strike (b := b + 80) (A := Ar (b + 80) 43) hAm I2 J2 (xs (ix (x4 + (1 : Int32))))) mw_X11_strike mv_X11_strike ml_L_170 lm_0 dL_law_1468 rfl rfl ⟨Nat.le_of_ble_eq_true rfl, Nat.le_of_ble_eq_true rfl⟩ (by show _ + 0 ≤ 1150; omega) (by show _ + 0 ≤ 15786; omega) rfl) rfl rfl ?_
    intro x160 I161
    refine T_wd (Wd' := fun H => Rg G b Lc (Rc b bk dr it) I159 J H ∧ (Rg G (b + 80) Lm (Rm (b + 80)) I161 J2 H ∧ Rg G (b + 123) [.inr (1, 1)] (fun _ _ => .null) (fun _ _ => 0) J3 H)) (fun H h => ⟨h.2.1, h.1, h.2.2⟩) ?_
    refine T_icmp_eq (tgt := 1725) hok dL_law_1471 rfl ?_ ?_
    · refine T_widen (kc' := 1150 - 1 * n) (ks' := 15786 - 6 * n) (by omega) (by omega) ?_
      exact hj1725 bk dr it I159 J I161 J2 J3
    exact T_none
  refine T_swc (fun hx34 => ?_) (fun hx34 => ?_)
  · refine T_tin (tgt := 1476) hok hx34 dL_law_40 (by decide) (by decide) rfl rfl ?_
    refine T_aload_n hok 1 rfl rfl dL_law_1476 ?_
    refine T_aload_n hok 0 rfl rfl dL_law_1477 ?_
    refine T_iload hok 4 rfl dL_law_1478 ?_
    refine T_iconst hok ic_1 dL_law_1480 ?_
    refine T_iadd hok dL_law_1481 ?_
    refine T_sld hok hX dL_law_1482 ?_
    refine T_fz1 (A1 := Ar b 80) (kc' := (1150 - 1 * (n + 1))) (ks' := (15786 - 6 * (n + 1))) hAc0 frC (CRF_V (rest := []) hok (ct_X10_known (A := Ar b 80) hAc I J (xs (ix (x4 + (1 : Int32))))) mw_X10_known mv_X10_known ml_L_171 lc_0 dL_law_1483 rfl rfl ⟨Nat.le_of_ble_eq_true rfl, Nat.le_of_ble_eq_true rfl⟩ (by show _ + 0 ≤ 1150; omega) (by show _ + 0 ≤ 15786; omega) rfl) rfl rfl ?_
    intro x162 I163
    refine T_wd (Wd' := fun H => Rg G b Lc (Rc b bk dr it) I163 J H ∧ (Rg G (b + 80) Lm (Rm (b + 80)) I2 J2 H ∧ Rg G (b + 123) [.inr (1, 1)] (fun _ _ => .null) (fun _ _ => 0) J3 H)) (fun H h => h) ?_
    refine T_aload_n hok 2 rfl rfl dL_law_1486 ?_
    refine T_aload_n hok 0 rfl rfl dL_law_1487 ?_
    refine T_iload hok 4 rfl dL_law_1488 ?_
    refine T_iconst hok ic_1 dL_law_1490 ?_
    refine T_iadd hok dL_law_1491 ?_
    refine T_sld hok hX dL_law_1492 ?_
    refine T_wd (Wd' := fun H => Rg G (b + 80) Lm (Rm (b + 80)) I2 J2 H ∧ (Rg G b Lc (Rc b bk dr it) I163 J H ∧ Rg G (b + 123) [.inr (1, 1)] (fun _ _ => .null) (fun _ _ => 0) J3 H)) (fun H h => ⟨h.2.1, h.1, h.2.2⟩) ?_
    refine T_fz1 (A1 := Ar (b + 80) 43) (kc' := (1150 - 1 * (n + 1))) (ks' := (15786 - 6 * (n + 1))) hAm0 frM (CRF_V (rest := [.int (bi x162)]) hok (ct_X11_known (b := b + 80) (A := Ar (b + 80) 43) hAm I2 J2 (xs (ix (x4 + (1 : Int32))))) mw_X11_known mv_X11_known ml_L_174 lm_0 dL_law_1493 rfl rfl ⟨Nat.le_of_ble_eq_true rfl, Nat.le_of_ble_eq_true rfl⟩ (by show _ + 0 ≤ 1150; omega) (by show _ + 0 ≤ 15786; omega) rfl) rfl rfl ?_
    intro x164 I165
    refine T_wd (Wd' := fun H => Rg G b Lc (Rc b bk dr it) I163 J H ∧ (Rg G (b + 80) Lm (Rm (b + 80)) I165 J2 H ∧ Rg G (b + 123) [.inr (1, 1)] (fun _ _ => .null) (fun _ _ => 0) J3 H)) (fun H h => ⟨h.2.1, h.1, h.2.2⟩) ?_
    refine T_icmp_eq (tgt := 1725) hok dL_law_1496 rfl ?_ ?_
    · refine T_widen (kc' := 1150 - 1 * n) (ks' := 15786 - 6 * n) (by omega) (by omega) ?_
      exact hj1725 bk dr it I163 J I165 J2 J3
    exact T_none
  refine T_swc (fun hx35 => ?_) (fun hx35 => ?_)
  · refine T_tin (tgt := 1501) hok hx35 dL_law_40 (by decide) (by decide) rfl rfl ?_
    refine T_aload_n hok 1 rfl rfl dL_law_1501 ?_
    refine T_aload_n hok 0 rfl rfl dL_law_1502 ?_
    refine T_iload hok 4 rfl dL_law_1503 ?_
    refine T_iconst hok ic_1 dL_law_1505 ?_
    refine T_iadd hok dL_law_1506 ?_
    refine T_sld hok hX dL_law_1507 ?_
    refine T_fi1 (A1 := Ar b 80) (kc' := (1150 - 1 * (n + 1))) (ks' := (15786 - 6 * (n + 1))) hAc0 frC (CRF_V (rest := []) hok (ct_X10_fits (A := Ar b 80) hAc hbk I J (xs (ix (x4 + (1 : Int32))))) mw_X10_fits mv_X10_fits ml_L_175 lc_0 dL_law_1508 rfl rfl ⟨Nat.le_of_ble_eq_true rfl, Nat.le_of_ble_eq_true rfl⟩ (by show _ + 0 ≤ 1150; omega) (by show _ + 0 ≤ 15786; omega) rfl) rfl rfl ?_
    intro x166 I167
    refine T_wd (Wd' := fun H => Rg G b Lc (Rc b bk dr it) I167 J H ∧ (Rg G (b + 80) Lm (Rm (b + 80)) I2 J2 H ∧ Rg G (b + 123) [.inr (1, 1)] (fun _ _ => .null) (fun _ _ => 0) J3 H)) (fun H h => h) ?_
    refine T_aload_n hok 2 rfl rfl dL_law_1511 ?_
    refine T_aload_n hok 0 rfl rfl dL_law_1512 ?_
    refine T_iload hok 4 rfl dL_law_1513 ?_
    refine T_iconst hok ic_1 dL_law_1515 ?_
    refine T_iadd hok dL_law_1516 ?_
    refine T_sld hok hX dL_law_1517 ?_
    refine T_wd (Wd' := fun H => Rg G (b + 80) Lm (Rm (b + 80)) I2 J2 H ∧ (Rg G b Lc (Rc b bk dr it) I167 J H ∧ Rg G (b + 123) [.inr (1, 1)] (fun _ _ => .null) (fun _ _ => 0) J3 H)) (fun H h => ⟨h.2.1, h.1, h.2.2⟩) ?_
    refine T_fi1 (A1 := Ar (b + 80) 43) (kc' := (1150 - 1 * (n + 1))) (ks' := (15786 - 6 * (n + 1))) hAm0 frM (CRF_V (rest := [.int x166]) hok (ct_X11_fits (b := b + 80) (A := Ar (b + 80) 43) hAm I2 J2 (xs (ix (x4 + (1 : Int32))))) mw_X11_fits mv_X11_fits ml_L_178 lm_0 dL_law_1518 rfl rfl ⟨Nat.le_of_ble_eq_true rfl, Nat.le_of_ble_eq_true rfl⟩ (by show _ + 0 ≤ 1150; omega) (by show _ + 0 ≤ 15786; omega) rfl) rfl rfl ?_
    intro x168 I169
    refine T_wd (Wd' := fun H => Rg G b Lc (Rc b bk dr it) I167 J H ∧ (Rg G (b + 80) Lm (Rm (b + 80)) I169 J2 H ∧ Rg G (b + 123) [.inr (1, 1)] (fun _ _ => .null) (fun _ _ => 0) J3 H)) (fun H h => ⟨h.2.1, h.1, h.2.2⟩) ?_
    refine T_icmp_eq (tgt := 1725) hok dL_law_1521 rfl ?_ ?_
    · refine T_widen (kc' := 1150 - 1 * n) (ks' := 15786 - 6 * n) (by omega) (by omega) ?_
      exact hj1725 bk dr it I167 J I169 J2 J3
    exact T_none
  refine T_swc (fun hx36 => ?_) (fun hx36 => ?_)
  · refine T_tin (tgt := 1526) hok hx36 dL_law_40 (by decide) (by decide) rfl rfl ?_
    refine T_aload_n hok 1 rfl rfl dL_law_1526 ?_
    refine T_aload_n hok 0 rfl rfl dL_law_1527 ?_
    refine T_iload hok 4 rfl dL_law_1528 ?_
    refine T_iconst hok ic_1 dL_law_1530 ?_
    refine T_iadd hok dL_law_1531 ?_
    refine T_sld hok hX dL_law_1532 ?_
    refine T_aload_n hok 0 rfl rfl dL_law_1533 ?_
    refine T_iload hok 4 rfl dL_law_1534 ?_
    refine T_iconst hok ic_2 dL_law_1536 ?_
    refine T_iadd hok dL_law_1537 ?_
    refine T_sld hok hX dL_law_1538 ?_
    refine T_fi1 (A1 := Ar b 80) (kc' := (1150 - 1 * (n + 1))) (ks' := (15786 - 6 * (n + 1))) hAc0 frC (CRF_V (rest := []) hok (ct_X10_ask (A := Ar b 80) hAc hbk I J (xs (ix (x4 + (1 : Int32)))) (xs (ix (x4 + (2 : Int32))))) mw_X10_ask mv_X10_ask ml_L_179 lc_0 dL_law_1539 rfl rfl ⟨Nat.le_of_ble_eq_true rfl, Nat.le_of_ble_eq_true rfl⟩ (by show _ + 0 ≤ 1150; omega) (by show _ + 0 ≤ 15786; omega) rfl) rfl rfl ?_
    intro x170 I171
    refine T_wd (Wd' := fun H => Rg G b Lc (Rc b bk dr it) I171 J H ∧ (Rg G (b + 80) Lm (Rm (b + 80)) I2 J2 H ∧ Rg G (b + 123) [.inr (1, 1)] (fun _ _ => .null) (fun _ _ => 0) J3 H)) (fun H h => h) ?_
    refine T_aload_n hok 2 rfl rfl dL_law_1542 ?_
    refine T_aload_n hok 0 rfl rfl dL_law_1543 ?_
    refine T_iload hok 4 rfl dL_law_1544 ?_
    refine T_iconst hok ic_1 dL_law_1546 ?_
    refine T_iadd hok dL_law_1547 ?_
    refine T_sld hok hX dL_law_1548 ?_
    refine T_aload_n hok 0 rfl rfl dL_law_1549 ?_
    refine T_iload hok 4 rfl dL_law_1550 ?_
    refine T_iconst hok ic_2 dL_law_1552 ?_
    refine T_iadd hok dL_law_1553 ?_
    refine T_sld hok hX dL_law_1554 ?_
    refine T_wd (Wd' := fun H => Rg G (b + 80) Lm (Rm (b + 80)) I2 J2 H ∧ (Rg G b Lc (Rc b bk dr it) I171 J H ∧ Rg G (b + 123) [.inr (1, 1)] (fun _ _ => .null) (fun _ _ => 0) J3 H)) (fun H h => ⟨h.2.1, h.1, h.2.2⟩) ?_
    refine T_fi1 (A1 := Ar (b + 80) 43) (kc' := (1150 - 1 * (n + 1))) (ks' := (15786 - 6 * (n + 1))) hAm0 frM (CRF_V (rest := [.int x170]) hok (ct_X11_ask (b := b + 80) (A := Ar (b + 80) 43) hAm I2 J2 (xs (ix (x4 + (1 : Int32)))) (xs (ix (x4 + (2 : Int32))))) mw_X11_ask mv_X11_ask ml_L_182 lm_0 dL_law_1555 rfl rfl ⟨Nat.le_of_ble_eq_true rfl, Nat.le_of_ble_eq_true rfl⟩ (by show _ + 0 ≤ 1150; omega) (by show _ + 0 ≤ 15786; omega) rfl) rfl rfl ?_
    intro x172 I173
    refine T_wd (Wd' := fun H => Rg G b Lc (Rc b bk dr it) I171 J H ∧ (Rg G (b + 80) Lm (Rm (b + 80)) I173 J2 H ∧ Rg G (b + 123) [.inr (1, 1)] (fun _ _ => .null) (fun _ _ => 0) J3 H)) (fun H h => ⟨h.2.1, h.1, h.2.2⟩) ?_
    refine T_icmp_eq (tgt := 1725) hok dL_law_1558 rfl ?_ ?_
    · refine T_widen (kc' := 1150 - 1 * n) (ks' := 15786 - 6 * n) (by omega) (by omega) ?_
      exact hj1725 bk dr it I171 J I173 J2 J3
    exact T_none
  refine T_swc (fun hx37 => ?_) (fun hx37 => ?_)
  · refine T_tin (tgt := 1563) hok hx37 dL_law_40 (by decide) (by decide) rfl rfl ?_
    refine T_aload_n hok 1 rfl rfl dL_law_1563 ?_
    refine T_aload_n hok 0 rfl rfl dL_law_1564 ?_
    refine T_iload hok 4 rfl dL_law_1565 ?_
    refine T_iconst hok ic_1 dL_law_1567 ?_
    refine T_iadd hok dL_law_1568 ?_
    refine T_sld hok hX dL_law_1569 ?_
    refine T_aload_n hok 0 rfl rfl dL_law_1570 ?_
    refine T_iload hok 4 rfl dL_law_1571 ?_
    refine T_iconst hok ic_2 dL_law_1573 ?_
    refine T_iadd hok dL_law_1574 ?_
    refine T_sld hok hX dL_law_1575 ?_
    refine T_aload_n hok 0 rfl rfl dL_law_1576 ?_
    refine T_iload hok 4 rfl dL_law_1577 ?_
    refine T_iconst hok ic_3 dL_law_1579 ?_
    refine T_iadd hok dL_law_1580 ?_
    refine T_sld hok hX dL_law_1581 ?_
    refine T_fi2 (A1 := Ar b 80) (kc' := (1150 - 1 * (n + 1))) (ks' := (15786 - 6 * (n + 1))) hAc0 frC (CRF_V (rest := []) hok (ct_X10_chance (A := Ar b 80) hAc hbk I J (xs (ix (x4 + (1 : Int32)))) (xs (ix (x4 + (2 : Int32)))) (xs (ix (x4 + (3 : Int32))))) mw_X10_chance mv_X10_chance ml_L_183 lc_0 dL_law_1582 rfl rfl ⟨Nat.le_of_ble_eq_true rfl, Nat.le_of_ble_eq_true rfl⟩ (by show _ + 0 ≤ 1150; omega) (by show _ + 0 ≤ 15786; omega) rfl) rfl rfl ?_
    intro x174 I175 J176
    refine T_wd (Wd' := fun H => Rg G b Lc (Rc b bk dr it) I175 J176 H ∧ (Rg G (b + 80) Lm (Rm (b + 80)) I2 J2 H ∧ Rg G (b + 123) [.inr (1, 1)] (fun _ _ => .null) (fun _ _ => 0) J3 H)) (fun H h => h) ?_
    refine T_aload_n hok 2 rfl rfl dL_law_1585 ?_
    refine T_aload_n hok 0 rfl rfl dL_law_1586 ?_
    refine T_iload hok 4 rfl dL_law_1587 ?_
    refine T_iconst hok ic_1 dL_law_1589 ?_
    refine T_iadd hok dL_law_1590 ?_
    refine T_sld hok hX dL_law_1591 ?_
    refine T_aload_n hok 0 rfl rfl dL_law_1592 ?_
    refine T_iload hok 4 rfl dL_law_1593 ?_
    refine T_iconst hok ic_2 dL_law_1595 ?_
    refine T_iadd hok dL_law_1596 ?_
    refine T_sld hok hX dL_law_1597 ?_
    refine T_aload_n hok 0 rfl rfl dL_law_1598 ?_
    refine T_iload hok 4 rfl dL_law_1599 ?_
    refine T_iconst hok ic_3 dL_law_1601 ?_
    refine T_iadd hok dL_law_1602 ?_
    refine T_sld hok hX dL_law_1603 ?_
    refine T_wd (Wd' := fun H => Rg G (b + 80) Lm (Rm (b + 80)) I2 J2 H ∧ (Rg G b Lc (Rc b bk dr it) I175 J176 H ∧ Rg G (b + 123) [.inr (1, 1)] (fun _ _ => .null) (fun _ _ => 0) J3 H)) (fun H h => ⟨h.2.1, h.1, h.2.2⟩) ?_
    refine T_fi2 (A1 := Ar (b + 80) 43) (kc' := (1150 - 1 * (n + 1))) (ks' := (15786 - 6 * (n + 1))) hAm0 frM (CRF_V (rest := [.int x174]) hok (ct_X11_chance (b := b + 80) (A := Ar (b + 80) 43) hAm I2 J2 (xs (ix (x4 + (1 : Int32)))) (xs (ix (x4 + (2 : Int32)))) (xs (ix (x4 + (3 : Int32))))) mw_X11_chance mv_X11_chance ml_L_186 lm_0 dL_law_1604 rfl rfl ⟨Nat.le_of_ble_eq_true rfl, Nat.le_of_ble_eq_true rfl⟩ (by show _ + 0 ≤ 1150; omega) (by show _ + 0 ≤ 15786; omega) rfl) rfl rfl ?_
    intro x177 I178 J179
    refine T_wd (Wd' := fun H => Rg G b Lc (Rc b bk dr it) I175 J176 H ∧ (Rg G (b + 80) Lm (Rm (b + 80)) I178 J179 H ∧ Rg G (b + 123) [.inr (1, 1)] (fun _ _ => .null) (fun _ _ => 0) J3 H)) (fun H h => ⟨h.2.1, h.1, h.2.2⟩) ?_
    refine T_icmp_eq (tgt := 1725) hok dL_law_1607 rfl ?_ ?_
    · refine T_widen (kc' := 1150 - 1 * n) (ks' := 15786 - 6 * n) (by omega) (by omega) ?_
      exact hj1725 bk dr it I175 J176 I178 J179 J3
    exact T_none
  refine T_swc (fun hx38 => ?_) (fun hx38 => ?_)
  · refine T_tin (tgt := 1612) hok hx38 dL_law_40 (by decide) (by decide) rfl rfl ?_
    refine T_aload_n hok 1 rfl rfl dL_law_1612 ?_
    refine T_aload_n hok 0 rfl rfl dL_law_1613 ?_
    refine T_iload hok 4 rfl dL_law_1614 ?_
    refine T_iconst hok ic_1 dL_law_1616 ?_
    refine T_iadd hok dL_law_1617 ?_
    refine T_sld hok hX dL_law_1618 ?_
    refine T_aload_n hok 0 rfl rfl dL_law_1619 ?_
    refine T_iload hok 4 rfl dL_law_1620 ?_
    refine T_iconst hok ic_2 dL_law_1622 ?_
    refine T_iadd hok dL_law_1623 ?_
    refine T_sld hok hX dL_law_1624 ?_
    refine T_aload_n hok 0 rfl rfl dL_law_1625 ?_
    refine T_iload hok 4 rfl dL_law_1626 ?_
    refine T_iconst hok ic_3 dL_law_1628 ?_
    refine T_iadd hok dL_law_1629 ?_
    refine T_sld hok hX dL_law_1630 ?_
    refine T_fi2 (A1 := Ar b 80) (kc' := (1150 - 1 * (n + 1))) (ks' := (15786 - 6 * (n + 1))) hAc0 frC (CRF_V (rest := []) hok (ct_X10_tried (A := Ar b 80) hAc hbk I J (xs (ix (x4 + (1 : Int32)))) (xs (ix (x4 + (2 : Int32)))) (xs (ix (x4 + (3 : Int32))))) mw_X10_tried mv_X10_tried ml_L_187 lc_0 dL_law_1631 rfl rfl ⟨Nat.le_of_ble_eq_true rfl, Nat.le_of_ble_eq_true rfl⟩ (by show _ + 0 ≤ 1150; omega) (by show _ + 0 ≤ 15786; omega) rfl) rfl rfl ?_
    intro x180 I181 J182
    refine T_wd (Wd' := fun H => Rg G b Lc (Rc b bk dr it) I181 J182 H ∧ (Rg G (b + 80) Lm (Rm (b + 80)) I2 J2 H ∧ Rg G (b + 123) [.inr (1, 1)] (fun _ _ => .null) (fun _ _ => 0) J3 H)) (fun H h => h) ?_
    refine T_aload_n hok 2 rfl rfl dL_law_1634 ?_
    refine T_aload_n hok 0 rfl rfl dL_law_1635 ?_
    refine T_iload hok 4 rfl dL_law_1636 ?_
    refine T_iconst hok ic_1 dL_law_1638 ?_
    refine T_iadd hok dL_law_1639 ?_
    refine T_sld hok hX dL_law_1640 ?_
    refine T_aload_n hok 0 rfl rfl dL_law_1641 ?_
    refine T_iload hok 4 rfl dL_law_1642 ?_
    refine T_iconst hok ic_2 dL_law_1644 ?_
    refine T_iadd hok dL_law_1645 ?_
    refine T_sld hok hX dL_law_1646 ?_
    refine T_aload_n hok 0 rfl rfl dL_law_1647 ?_
    refine T_iload hok 4 rfl dL_law_1648 ?_
    refine T_iconst hok ic_3 dL_law_1650 ?_
    refine T_iadd hok dL_law_1651 ?_
    refine T_sld hok hX dL_law_1652 ?_
    refine T_wd (Wd' := fun H => Rg G (b + 80) Lm (Rm (b + 80)) I2 J2 H ∧ (Rg G b Lc (Rc b bk dr it) I181 J182 H ∧ Rg G (b + 123) [.inr (1, 1)] (fun _ _ => .null) (fun _ _ => 0) J3 H)) (fun H h => ⟨h.2.1, h.1, h.2.2⟩) ?_
    refine T_fi2 (A1 := Ar (b + 80) 43) (kc' := (1150 - 1 * (n + 1))) (ks' := (15786 - 6 * (n + 1))) hAm0 frM (CRF_V (rest := [.int x180]) hok (ct_X11_tried (b := b + 80) (A := Ar (b + 80) 43) hAm I2 J2 (xs (ix (x4 + (1 : Int32)))) (xs (ix (x4 + (2 : Int32)))) (xs (ix (x4 + (3 : Int32))))) mw_X11_tried mv_X11_tried ml_L_190 lm_0 dL_law_1653 rfl rfl ⟨Nat.le_of_ble_eq_true rfl, Nat.le_of_ble_eq_true rfl⟩ (by show _ + 0 ≤ 1150; omega) (by show _ + 0 ≤ 15786; omega) rfl) rfl rfl ?_
    intro x183 I184 J185
    refine T_wd (Wd' := fun H => Rg G b Lc (Rc b bk dr it) I181 J182 H ∧ (Rg G (b + 80) Lm (Rm (b + 80)) I184 J185 H ∧ Rg G (b + 123) [.inr (1, 1)] (fun _ _ => .null) (fun _ _ => 0) J3 H)) (fun H h => ⟨h.2.1, h.1, h.2.2⟩) ?_
    refine T_icmp_eq (tgt := 1725) hok dL_law_1656 rfl ?_ ?_
    · refine T_widen (kc' := 1150 - 1 * n) (ks' := 15786 - 6 * n) (by omega) (by omega) ?_
      exact hj1725 bk dr it I181 J182 I184 J185 J3
    exact T_none
  refine T_swc (fun hx39 => ?_) (fun hx39 => ?_)
  · refine T_tin (tgt := 1661) hok hx39 dL_law_40 (by decide) (by decide) rfl rfl ?_
    refine T_aload_n hok 1 rfl rfl dL_law_1661 ?_
    refine T_fi1 (A1 := Ar b 80) (kc' := (1150 - 1 * (n + 1))) (ks' := (15786 - 6 * (n + 1))) hAc0 frC (CRF_V (rest := []) hok (ct_X10_undo (A := Ar b 80) hAc I J) mw_X10_undo mv_X10_undo ml_L_191 lc_0 dL_law_1662 rfl rfl ⟨Nat.le_of_ble_eq_true rfl, Nat.le_of_ble_eq_true rfl⟩ (by show _ + 0 ≤ 1150; omega) (by show _ + 0 ≤ 15786; omega) rfl) rfl rfl ?_
    intro x186 I187
    refine T_wd (Wd' := fun H => Rg G b Lc (Rc b bk dr it) I187 J H ∧ (Rg G (b + 80) Lm (Rm (b + 80)) I2 J2 H ∧ Rg G (b + 123) [.inr (1, 1)] (fun _ _ => .null) (fun _ _ => 0) J3 H)) (fun H h => h) ?_
    refine T_aload_n hok 2 rfl rfl dL_law_1665 ?_
    refine T_wd (Wd' := fun H => Rg G (b + 80) Lm (Rm (b + 80)) I2 J2 H ∧ (Rg G b Lc (Rc b bk dr it) I187 J H ∧ Rg G (b + 123) [.inr (1, 1)] (fun _ _ => .null) (fun _ _ => 0) J3 H)) (fun H h => ⟨h.2.1, h.1, h.2.2⟩) ?_
    refine T_fi1 (A1 := Ar (b + 80) 43) (kc' := (1150 - 1 * (n + 1))) (ks' := (15786 - 6 * (n + 1))) hAm0 frM (CRF_V (rest := [.int x186]) hok (ct_X11_undo (b := b + 80) (A := Ar (b + 80) 43) hAm I2 J2) mw_X11_undo mv_X11_undo ml_L_194 lm_0 dL_law_1666 rfl rfl ⟨Nat.le_of_ble_eq_true rfl, Nat.le_of_ble_eq_true rfl⟩ (by show _ + 0 ≤ 1150; omega) (by show _ + 0 ≤ 15786; omega) rfl) rfl rfl ?_
    intro x188 I189
    refine T_wd (Wd' := fun H => Rg G b Lc (Rc b bk dr it) I187 J H ∧ (Rg G (b + 80) Lm (Rm (b + 80)) I189 J2 H ∧ Rg G (b + 123) [.inr (1, 1)] (fun _ _ => .null) (fun _ _ => 0) J3 H)) (fun H h => ⟨h.2.1, h.1, h.2.2⟩) ?_
    refine T_icmp_eq (tgt := 1725) hok dL_law_1669 rfl ?_ ?_
    · refine T_widen (kc' := 1150 - 1 * n) (ks' := 15786 - 6 * n) (by omega) (by omega) ?_
      exact hj1725 bk dr it I187 J I189 J2 J3
    exact T_none
  refine T_swc (fun hx40 => ?_) (fun hx40 => ?_)
  · refine T_tin (tgt := 1674) hok hx40 dL_law_40 (by decide) (by decide) rfl rfl ?_
    refine T_aload_n hok 1 rfl rfl dL_law_1674 ?_
    refine T_fi1 (A1 := Ar b 80) (kc' := (1150 - 1 * (n + 1))) (ks' := (15786 - 6 * (n + 1))) hAc0 frC (CRF_V (rest := []) hok (ct_X10_keep (A := Ar b 80) hAc I J) mw_X10_keep mv_X10_keep ml_L_195 lc_0 dL_law_1675 rfl rfl ⟨Nat.le_of_ble_eq_true rfl, Nat.le_of_ble_eq_true rfl⟩ (by show _ + 0 ≤ 1150; omega) (by show _ + 0 ≤ 15786; omega) rfl) rfl rfl ?_
    intro x190 I191
    refine T_wd (Wd' := fun H => Rg G b Lc (Rc b bk dr it) I191 J H ∧ (Rg G (b + 80) Lm (Rm (b + 80)) I2 J2 H ∧ Rg G (b + 123) [.inr (1, 1)] (fun _ _ => .null) (fun _ _ => 0) J3 H)) (fun H h => h) ?_
    refine T_aload_n hok 2 rfl rfl dL_law_1678 ?_
    refine T_wd (Wd' := fun H => Rg G (b + 80) Lm (Rm (b + 80)) I2 J2 H ∧ (Rg G b Lc (Rc b bk dr it) I191 J H ∧ Rg G (b + 123) [.inr (1, 1)] (fun _ _ => .null) (fun _ _ => 0) J3 H)) (fun H h => ⟨h.2.1, h.1, h.2.2⟩) ?_
    refine T_fi2 (A1 := Ar (b + 80) 43) (kc' := (1150 - 1 * (n + 1))) (ks' := (15786 - 6 * (n + 1))) hAm0 frM (CRF_V (rest := [.int x190]) hok (ct_X11_keep (b := b + 80) (A := Ar (b + 80) 43) hAm I2 J2) mw_X11_keep mv_X11_keep ml_L_198 lm_0 dL_law_1679 rfl rfl ⟨Nat.le_of_ble_eq_true rfl, Nat.le_of_ble_eq_true rfl⟩ (by show _ + 0 ≤ 1150; omega) (by show _ + 0 ≤ 15786; omega) rfl) rfl rfl ?_
    intro x192 I193 J194
    refine T_wd (Wd' := fun H => Rg G b Lc (Rc b bk dr it) I191 J H ∧ (Rg G (b + 80) Lm (Rm (b + 80)) I193 J194 H ∧ Rg G (b + 123) [.inr (1, 1)] (fun _ _ => .null) (fun _ _ => 0) J3 H)) (fun H h => ⟨h.2.1, h.1, h.2.2⟩) ?_
    refine T_icmp_eq (tgt := 1725) hok dL_law_1682 rfl ?_ ?_
    · refine T_widen (kc' := 1150 - 1 * n) (ks' := 15786 - 6 * n) (by omega) (by omega) ?_
      exact hj1725 bk dr it I191 J I193 J194 J3
    exact T_none
  refine T_swc (fun hx41 => ?_) (fun hx41 => ?_)
  · refine T_tin (tgt := 1687) hok hx41 dL_law_40 (by decide) (by decide) rfl rfl ?_
    refine T_aload_n hok 1 rfl rfl dL_law_1687 ?_
    refine T_fi1 (A1 := Ar b 80) (kc' := (1150 - 1 * (n + 1))) (ks' := (15786 - 6 * (n + 1))) hAc0 frC (CRF_V (rest := []) hok (ct_X10_back (A := Ar b 80) hAc I J) mw_X10_back mv_X10_back ml_L_199 lc_0 dL_law_1688 rfl rfl ⟨Nat.le_of_ble_eq_true rfl, Nat.le_of_ble_eq_true rfl⟩ (by show _ + 0 ≤ 1150; omega) (by show _ + 0 ≤ 15786; omega) rfl) rfl rfl ?_
    intro x195 I196
    refine T_wd (Wd' := fun H => Rg G b Lc (Rc b bk dr it) I196 J H ∧ (Rg G (b + 80) Lm (Rm (b + 80)) I2 J2 H ∧ Rg G (b + 123) [.inr (1, 1)] (fun _ _ => .null) (fun _ _ => 0) J3 H)) (fun H h => h) ?_
    refine T_aload_n hok 2 rfl rfl dL_law_1691 ?_
    refine T_wd (Wd' := fun H => Rg G (b + 80) Lm (Rm (b + 80)) I2 J2 H ∧ (Rg G b Lc (Rc b bk dr it) I196 J H ∧ Rg G (b + 123) [.inr (1, 1)] (fun _ _ => .null) (fun _ _ => 0) J3 H)) (fun H h => ⟨h.2.1, h.1, h.2.2⟩) ?_
    refine T_fi2 (A1 := Ar (b + 80) 43) (kc' := (1150 - 1 * (n + 1))) (ks' := (15786 - 6 * (n + 1))) hAm0 frM (CRF_V (rest := [.int x195]) hok (ct_X11_back (b := b + 80) (A := Ar (b + 80) 43) hAm I2 J2) mw_X11_back mv_X11_back ml_L_202 lm_0 dL_law_1692 rfl rfl ⟨Nat.le_of_ble_eq_true rfl, Nat.le_of_ble_eq_true rfl⟩ (by show _ + 0 ≤ 1150; omega) (by show _ + 0 ≤ 15786; omega) rfl) rfl rfl ?_
    intro x197 I198 J199
    refine T_wd (Wd' := fun H => Rg G b Lc (Rc b bk dr it) I196 J H ∧ (Rg G (b + 80) Lm (Rm (b + 80)) I198 J199 H ∧ Rg G (b + 123) [.inr (1, 1)] (fun _ _ => .null) (fun _ _ => 0) J3 H)) (fun H h => ⟨h.2.1, h.1, h.2.2⟩) ?_
    refine T_icmp_eq (tgt := 1725) hok dL_law_1695 rfl ?_ ?_
    · refine T_widen (kc' := 1150 - 1 * n) (ks' := 15786 - 6 * n) (by omega) (by omega) ?_
      exact hj1725 bk dr it I196 J I198 J199 J3
    exact T_none
  refine T_swc (fun hx42 => ?_) (fun hx42 => ?_)
  · refine T_tin (tgt := 1700) hok hx42 dL_law_40 (by decide) (by decide) rfl rfl ?_
    refine T_aload_n hok 1 rfl rfl dL_law_1700 ?_
    refine T_aload_n hok 0 rfl rfl dL_law_1701 ?_
    refine T_iload hok 4 rfl dL_law_1702 ?_
    refine T_iconst hok ic_1 dL_law_1704 ?_
    refine T_iadd hok dL_law_1705 ?_
    refine T_sld hok hX dL_law_1706 ?_
    refine T_fi0 (A1 := Ar b 80) (kc' := (1150 - 1 * (n + 1))) (ks' := (15786 - 6 * (n + 1))) hAc0 frC (CRF_V (rest := []) hok (ct_X10_count (A := Ar b 80) hAc hbk I J (xs (ix (x4 + (1 : Int32))))) mw_X10_count mv_X10_count ml_L_203 lc_0 dL_law_1707 rfl rfl ⟨Nat.le_of_ble_eq_true rfl, Nat.le_of_ble_eq_true rfl⟩ (by show _ + 0 ≤ 1150; omega) (by show _ + 0 ≤ 15786; omega) rfl) rfl rfl ?_
    intro x200
    refine T_wd (Wd' := fun H => Rg G b Lc (Rc b bk dr it) I J H ∧ (Rg G (b + 80) Lm (Rm (b + 80)) I2 J2 H ∧ Rg G (b + 123) [.inr (1, 1)] (fun _ _ => .null) (fun _ _ => 0) J3 H)) (fun H h => h) ?_
    refine T_aload_n hok 2 rfl rfl dL_law_1710 ?_
    refine T_aload_n hok 0 rfl rfl dL_law_1711 ?_
    refine T_iload hok 4 rfl dL_law_1712 ?_
    refine T_iconst hok ic_1 dL_law_1714 ?_
    refine T_iadd hok dL_law_1715 ?_
    refine T_sld hok hX dL_law_1716 ?_
    refine T_wd (Wd' := fun H => Rg G (b + 80) Lm (Rm (b + 80)) I2 J2 H ∧ (Rg G b Lc (Rc b bk dr it) I J H ∧ Rg G (b + 123) [.inr (1, 1)] (fun _ _ => .null) (fun _ _ => 0) J3 H)) (fun H h => ⟨h.2.1, h.1, h.2.2⟩) ?_
    refine T_fi1 (A1 := Ar (b + 80) 43) (kc' := (1150 - 1 * (n + 1))) (ks' := (15786 - 6 * (n + 1))) hAm0 frM (CRF_V (rest := [.int x200]) hok (ct_X11_count (b := b + 80) (A := Ar (b + 80) 43) hAm I2 J2 (xs (ix (x4 + (1 : Int32))))) mw_X11_count mv_X11_count ml_L_206 lm_0 dL_law_1717 rfl rfl ⟨Nat.le_of_ble_eq_true rfl, Nat.le_of_ble_eq_true rfl⟩ (by show _ + 0 ≤ 1150; omega) (by show _ + 0 ≤ 15786; omega) rfl) rfl rfl ?_
    intro x201 I202
    refine T_wd (Wd' := fun H => Rg G b Lc (Rc b bk dr it) I J H ∧ (Rg G (b + 80) Lm (Rm (b + 80)) I202 J2 H ∧ Rg G (b + 123) [.inr (1, 1)] (fun _ _ => .null) (fun _ _ => 0) J3 H)) (fun H h => ⟨h.2.1, h.1, h.2.2⟩) ?_
    refine T_icmp_eq (tgt := 1725) hok dL_law_1720 rfl ?_ ?_
    · refine T_widen (kc' := 1150 - 1 * n) (ks' := 15786 - 6 * n) (by omega) (by omega) ?_
      exact hj1725 bk dr it I J I202 J2 J3
    exact T_none
  refine T_swd ?_
  have nhx0 := toInt_ne (n := 0) rfl hx0
  have nhx1 := toInt_ne (n := 1) rfl hx1
  have nhx2 := toInt_ne (n := 2) rfl hx2
  have nhx3 := toInt_ne (n := 3) rfl hx3
  have nhx4 := toInt_ne (n := 4) rfl hx4
  have nhx5 := toInt_ne (n := 5) rfl hx5
  have nhx6 := toInt_ne (n := 6) rfl hx6
  have nhx7 := toInt_ne (n := 7) rfl hx7
  have nhx8 := toInt_ne (n := 8) rfl hx8
  have nhx9 := toInt_ne (n := 9) rfl hx9
  have nhx10 := toInt_ne (n := 10) rfl hx10
  have nhx11 := toInt_ne (n := 11) rfl hx11
  have nhx12 := toInt_ne (n := 12) rfl hx12
  have nhx13 := toInt_ne (n := 13) rfl hx13
  have nhx14 := toInt_ne (n := 14) rfl hx14
  have nhx15 := toInt_ne (n := 15) rfl hx15
  have nhx16 := toInt_ne (n := 16) rfl hx16
  have nhx17 := toInt_ne (n := 17) rfl hx17
  have nhx18 := toInt_ne (n := 18) rfl hx18
  have nhx19 := toInt_ne (n := 19) rfl hx19
  have nhx20 := toInt_ne (n := 20) rfl hx20
  have nhx21 := toInt_ne (n := 21) rfl hx21
  have nhx22 := toInt_ne (n := 22) rfl hx22
  have nhx23 := toInt_ne (n := 23) rfl hx23
  have nhx24 := toInt_ne (n := 24) rfl hx24
  have nhx25 := toInt_ne (n := 25) rfl hx25
  have nhx26 := toInt_ne (n := 26) rfl hx26
  have nhx27 := toInt_ne (n := 27) rfl hx27
  have nhx28 := toInt_ne (n := 28) rfl hx28
  have nhx29 := toInt_ne (n := 29) rfl hx29
  have nhx30 := toInt_ne (n := 30) rfl hx30
  have nhx31 := toInt_ne (n := 31) rfl hx31
  have nhx32 := toInt_ne (n := 32) rfl hx32
  have nhx33 := toInt_ne (n := 33) rfl hx33
  have nhx34 := toInt_ne (n := 34) rfl hx34
  have nhx35 := toInt_ne (n := 35) rfl hx35
  have nhx36 := toInt_ne (n := 36) rfl hx36
  have nhx37 := toInt_ne (n := 37) rfl hx37
  have nhx38 := toInt_ne (n := 38) rfl hx38
  have nhx39 := toInt_ne (n := 39) rfl hx39
  have nhx40 := toInt_ne (n := 40) rfl hx40
  have nhx41 := toInt_ne (n := 41) rfl hx41
  have nhx42 := toInt_ne (n := 42) rfl hx42
  refine T_tdf (tgt := 1725) (n := 43) hok dL_law_40 rfl (fun j hj he => ?_) rfl ?_
  · rcases (show j = 0 ∨ j = 1 ∨ j = 2 ∨ j = 3 ∨ j = 4 ∨ j = 5 ∨ j = 6 ∨ j = 7 ∨ j = 8 ∨ j = 9 ∨ j = 10 ∨ j = 11 ∨ j = 12 ∨ j = 13 ∨ j = 14 ∨ j = 15 ∨ j = 16 ∨ j = 17 ∨ j = 18 ∨ j = 19 ∨ j = 20 ∨ j = 21 ∨ j = 22 ∨ j = 23 ∨ j = 24 ∨ j = 25 ∨ j = 26 ∨ j = 27 ∨ j = 28 ∨ j = 29 ∨ j = 30 ∨ j = 31 ∨ j = 32 ∨ j = 33 ∨ j = 34 ∨ j = 35 ∨ j = 36 ∨ j = 37 ∨ j = 38 ∨ j = 39 ∨ j = 40 ∨ j = 41 ∨ j = 42 by omega) with rfl | rfl | rfl | rfl | rfl | rfl | rfl | rfl | rfl | rfl | rfl | rfl | rfl | rfl | rfl | rfl | rfl | rfl | rfl | rfl | rfl | rfl | rfl | rfl | rfl | rfl | rfl | rfl | rfl | rfl | rfl | rfl | rfl | rfl | rfl | rfl | rfl | rfl | rfl | rfl | rfl | rfl | rfl <;> first | rfl | (exfalso; omega)
  refine T_widen (kc' := 1150 - 1 * n) (ks' := 15786 - 6 * n) (by omega) (by omega) ?_
  exact hj1725 bk dr it I J I2 J2 J3
