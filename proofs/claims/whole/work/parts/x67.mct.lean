set_option maxHeartbeats 4000000 in
set_option maxRecDepth 100000 in
theorem ct_X11_init_0 {G : Gx} {l0 : Launch} {A : Nat → Prop} {b : Nat} (hA : ∀ k, A (b + k)) (I : MI) (J : MJ) : Ct G l0 A yX11_init cX11_init 1 none { frames := 3, cells := 42, slots := 5628, locals := 62 } [.ref (b + 0)] (fun H => Rg G b (Lm.take 1) (Rt b [[]]) I J H ∧ H.size = b + 1) (iv2 (fun (I' : MI) (J' : MJ) => Rg G b Lm (Rm b) I' J')) (f_X11_init_0 I J) := by
  refine Ct.ofN rfl rfl (Nat.le_of_ble_eq_true rfl) ?_
  intro X hok hI
  replace hok : Ok G l0 X RX11 cX11_init 1 { frames := 3, cells := 42, slots := 5628, locals := 62 } none := hok
  delta f_X11_init_0
  show T X A (Zm X A (iv2 (fun (I' : MI) (J' : MJ) => Rg G b Lm (Rm b) I' J'))) 1 0 0 0 [(0, .ref (b + 0))] [] (Rg G b (Lm.take 1) (Rt b [[]]) I J) _
  refine T_aload_n hok 0 rfl rfl dX11_init_0 ?_
  refine T_oinit hok oi_X11_1 oim oic dX11_init_1 (Nat.le_of_ble_eq_true rfl) (Nat.le_of_ble_eq_true rfl) ?_
  refine T_aload_n hok 0 rfl rfl dX11_init_4 ?_
  refine T_sipush hok sp_700 dX11_init_5 ?_
  refine T_newI (b := b) (kc := 0) (ks := 0) (t := 0) (N := 700) (x := (700 : Int32)) (ty := .int) (L' := (Lm.take 2)) (kc' := 1) (ks' := 700) (n := 1) hok hI rfl rfl (fun _ => rfl) rfl (by decide) rfl rfl (by decide) rfl rfl rfl ac_int (Nat.le_of_ble_eq_true rfl) (Nat.le_of_ble_eq_true rfl) (by decide) (by decide) (by decide) dX11_init_8 ?_
  intro I1
  refine T_putFR (tab' := [[2]]) hok hI hA fr_X11_7 rfl rfl (show (Lm.take 2)[0]? = some _ from rfl) rfl rfl (by decide) rfl dX11_init_10 ?_
  refine T_aload_n hok 0 rfl rfl dX11_init_13 ?_
  refine T_bipush hok bp_100 dX11_init_14 ?_
  refine T_newI (b := b) (kc := 1) (ks := 700) (t := 0) (N := 100) (x := (100 : Int32)) (ty := .int) (L' := (Lm.take 3)) (kc' := 2) (ks' := 800) (n := 2) hok hI rfl rfl (fun _ => rfl) rfl (by decide) rfl rfl (by decide) rfl rfl rfl ac_int (Nat.le_of_ble_eq_true rfl) (Nat.le_of_ble_eq_true rfl) (by decide) (by decide) (by decide) dX11_init_16 ?_
  intro I2
  refine T_dup hok rfl dX11_init_18 ?_
  refine T_iconst hok ic_0 dX11_init_19 ?_
  refine T_bipush hok bp_107 dX11_init_20 ?_
  refine T_iast hok (fun k _ => hA k) (show (Lm.take 3)[2]? = some _ from rfl) dX11_init_22 ?_
  intro I3
  refine T_dup hok rfl dX11_init_23 ?_
  refine T_iconst hok ic_1 dX11_init_24 ?_
  refine T_bipush hok bp_105 dX11_init_25 ?_
  refine T_iast hok (fun k _ => hA k) (show (Lm.take 3)[2]? = some _ from rfl) dX11_init_27 ?_
  intro I4
  refine T_dup hok rfl dX11_init_28 ?_
  refine T_iconst hok ic_2 dX11_init_29 ?_
  refine T_bipush hok bp_110 dX11_init_30 ?_
  refine T_iast hok (fun k _ => hA k) (show (Lm.take 3)[2]? = some _ from rfl) dX11_init_32 ?_
  intro I5
  refine T_dup hok rfl dX11_init_33 ?_
  refine T_iconst hok ic_3 dX11_init_34 ?_
  refine T_bipush hok bp_100 dX11_init_35 ?_
  refine T_iast hok (fun k _ => hA k) (show (Lm.take 3)[2]? = some _ from rfl) dX11_init_37 ?_
  intro I6
  refine T_dup hok rfl dX11_init_38 ?_
  refine T_iconst hok ic_4 dX11_init_39 ?_
  refine T_bipush hok bp_32 dX11_init_40 ?_
  refine T_iast hok (fun k _ => hA k) (show (Lm.take 3)[2]? = some _ from rfl) dX11_init_42 ?_
  intro I7
  refine T_dup hok rfl dX11_init_43 ?_
  refine T_iconst hok ic_5 dX11_init_44 ?_
  refine T_bipush hok bp_104 dX11_init_45 ?_
  refine T_iast hok (fun k _ => hA k) (show (Lm.take 3)[2]? = some _ from rfl) dX11_init_47 ?_
  intro I8
  refine T_dup hok rfl dX11_init_48 ?_
  refine T_bipush hok bp_6 dX11_init_49 ?_
  refine T_bipush hok bp_111 dX11_init_51 ?_
  refine T_iast hok (fun k _ => hA k) (show (Lm.take 3)[2]? = some _ from rfl) dX11_init_53 ?_
  intro I9
  refine T_dup hok rfl dX11_init_54 ?_
  refine T_bipush hok bp_7 dX11_init_55 ?_
  refine T_bipush hok bp_117 dX11_init_57 ?_
  refine T_iast hok (fun k _ => hA k) (show (Lm.take 3)[2]? = some _ from rfl) dX11_init_59 ?_
  intro I10
  refine T_dup hok rfl dX11_init_60 ?_
  refine T_bipush hok bp_8 dX11_init_61 ?_
  refine T_bipush hok bp_115 dX11_init_63 ?_
  refine T_iast hok (fun k _ => hA k) (show (Lm.take 3)[2]? = some _ from rfl) dX11_init_65 ?_
  intro I11
  refine T_dup hok rfl dX11_init_66 ?_
  refine T_bipush hok bp_9 dX11_init_67 ?_
  refine T_bipush hok bp_101 dX11_init_69 ?_
  refine T_iast hok (fun k _ => hA k) (show (Lm.take 3)[2]? = some _ from rfl) dX11_init_71 ?_
  intro I12
  refine T_dup hok rfl dX11_init_72 ?_
  refine T_bipush hok bp_10 dX11_init_73 ?_
  refine T_bipush hok bp_32 dX11_init_75 ?_
  refine T_iast hok (fun k _ => hA k) (show (Lm.take 3)[2]? = some _ from rfl) dX11_init_77 ?_
  intro I13
  refine T_dup hok rfl dX11_init_78 ?_
  refine T_bipush hok bp_11 dX11_init_79 ?_
  refine T_bipush hok bp_100 dX11_init_81 ?_
  refine T_iast hok (fun k _ => hA k) (show (Lm.take 3)[2]? = some _ from rfl) dX11_init_83 ?_
  intro I14
  refine T_dup hok rfl dX11_init_84 ?_
  refine T_bipush hok bp_12 dX11_init_85 ?_
  refine T_bipush hok bp_97 dX11_init_87 ?_
  refine T_iast hok (fun k _ => hA k) (show (Lm.take 3)[2]? = some _ from rfl) dX11_init_89 ?_
  intro I15
  refine T_dup hok rfl dX11_init_90 ?_
  refine T_bipush hok bp_13 dX11_init_91 ?_
  refine T_bipush hok bp_121 dX11_init_93 ?_
  refine T_iast hok (fun k _ => hA k) (show (Lm.take 3)[2]? = some _ from rfl) dX11_init_95 ?_
  intro I16
  refine T_dup hok rfl dX11_init_96 ?_
  refine T_bipush hok bp_14 dX11_init_97 ?_
  refine T_bipush hok bp_32 dX11_init_99 ?_
  refine T_iast hok (fun k _ => hA k) (show (Lm.take 3)[2]? = some _ from rfl) dX11_init_101 ?_
  intro I17
  refine T_dup hok rfl dX11_init_102 ?_
  refine T_bipush hok bp_15 dX11_init_103 ?_
  refine T_bipush hok bp_119 dX11_init_105 ?_
  refine T_iast hok (fun k _ => hA k) (show (Lm.take 3)[2]? = some _ from rfl) dX11_init_107 ?_
  intro I18
  refine T_dup hok rfl dX11_init_108 ?_
  refine T_bipush hok bp_16 dX11_init_109 ?_
  refine T_bipush hok bp_111 dX11_init_111 ?_
  refine T_iast hok (fun k _ => hA k) (show (Lm.take 3)[2]? = some _ from rfl) dX11_init_113 ?_
  intro I19
  refine T_dup hok rfl dX11_init_114 ?_
  refine T_bipush hok bp_17 dX11_init_115 ?_
  refine T_bipush hok bp_114 dX11_init_117 ?_
  refine T_iast hok (fun k _ => hA k) (show (Lm.take 3)[2]? = some _ from rfl) dX11_init_119 ?_
  intro I20
  refine T_dup hok rfl dX11_init_120 ?_
  refine T_bipush hok bp_18 dX11_init_121 ?_
  refine T_bipush hok bp_107 dX11_init_123 ?_
  refine T_iast hok (fun k _ => hA k) (show (Lm.take 3)[2]? = some _ from rfl) dX11_init_125 ?_
  intro I21
  refine T_dup hok rfl dX11_init_126 ?_
  refine T_bipush hok bp_19 dX11_init_127 ?_
  refine T_bipush hok bp_32 dX11_init_129 ?_
  refine T_iast hok (fun k _ => hA k) (show (Lm.take 3)[2]? = some _ from rfl) dX11_init_131 ?_
  intro I22
  refine T_dup hok rfl dX11_init_132 ?_
  refine T_bipush hok bp_20 dX11_init_133 ?_
  refine T_bipush hok bp_116 dX11_init_135 ?_
  refine T_iast hok (fun k _ => hA k) (show (Lm.take 3)[2]? = some _ from rfl) dX11_init_137 ?_
  intro I23
  refine T_dup hok rfl dX11_init_138 ?_
  refine T_bipush hok bp_21 dX11_init_139 ?_
  refine T_bipush hok bp_101 dX11_init_141 ?_
  refine T_iast hok (fun k _ => hA k) (show (Lm.take 3)[2]? = some _ from rfl) dX11_init_143 ?_
  intro I24
  refine T_dup hok rfl dX11_init_144 ?_
  refine T_bipush hok bp_22 dX11_init_145 ?_
  refine T_bipush hok bp_114 dX11_init_147 ?_
  refine T_iast hok (fun k _ => hA k) (show (Lm.take 3)[2]? = some _ from rfl) dX11_init_149 ?_
  intro I25
  refine T_dup hok rfl dX11_init_150 ?_
  refine T_bipush hok bp_23 dX11_init_151 ?_
  refine T_bipush hok bp_109 dX11_init_153 ?_
  refine T_iast hok (fun k _ => hA k) (show (Lm.take 3)[2]? = some _ from rfl) dX11_init_155 ?_
  intro I26
  refine T_dup hok rfl dX11_init_156 ?_
  refine T_bipush hok bp_24 dX11_init_157 ?_
  refine T_bipush hok bp_32 dX11_init_159 ?_
  refine T_iast hok (fun k _ => hA k) (show (Lm.take 3)[2]? = some _ from rfl) dX11_init_161 ?_
  intro I27
  refine T_dup hok rfl dX11_init_162 ?_
  refine T_bipush hok bp_25 dX11_init_163 ?_
  refine T_bipush hok bp_115 dX11_init_165 ?_
  refine T_iast hok (fun k _ => hA k) (show (Lm.take 3)[2]? = some _ from rfl) dX11_init_167 ?_
  intro I28
  refine T_dup hok rfl dX11_init_168 ?_
  refine T_bipush hok bp_26 dX11_init_169 ?_
  refine T_bipush hok bp_101 dX11_init_171 ?_
  refine T_iast hok (fun k _ => hA k) (show (Lm.take 3)[2]? = some _ from rfl) dX11_init_173 ?_
  intro I29
  refine T_dup hok rfl dX11_init_174 ?_
  refine T_bipush hok bp_27 dX11_init_175 ?_
  refine T_bipush hok bp_101 dX11_init_177 ?_
  refine T_iast hok (fun k _ => hA k) (show (Lm.take 3)[2]? = some _ from rfl) dX11_init_179 ?_
  intro I30
  refine T_dup hok rfl dX11_init_180 ?_
  refine T_bipush hok bp_28 dX11_init_181 ?_
  refine T_bipush hok bp_100 dX11_init_183 ?_
  refine T_iast hok (fun k _ => hA k) (show (Lm.take 3)[2]? = some _ from rfl) dX11_init_185 ?_
  intro I31
  refine T_dup hok rfl dX11_init_186 ?_
  refine T_bipush hok bp_29 dX11_init_187 ?_
  refine T_bipush hok bp_32 dX11_init_189 ?_
  refine T_iast hok (fun k _ => hA k) (show (Lm.take 3)[2]? = some _ from rfl) dX11_init_191 ?_
  intro I32
  refine T_dup hok rfl dX11_init_192 ?_
  refine T_bipush hok bp_30 dX11_init_193 ?_
  refine T_bipush hok bp_108 dX11_init_195 ?_
  refine T_iast hok (fun k _ => hA k) (show (Lm.take 3)[2]? = some _ from rfl) dX11_init_197 ?_
  intro I33
  refine T_dup hok rfl dX11_init_198 ?_
  refine T_bipush hok bp_31 dX11_init_199 ?_
  refine T_bipush hok bp_97 dX11_init_201 ?_
  refine T_iast hok (fun k _ => hA k) (show (Lm.take 3)[2]? = some _ from rfl) dX11_init_203 ?_
  intro I34
  refine T_dup hok rfl dX11_init_204 ?_
  refine T_bipush hok bp_32 dX11_init_205 ?_
  refine T_bipush hok bp_119 dX11_init_207 ?_
  refine T_iast hok (fun k _ => hA k) (show (Lm.take 3)[2]? = some _ from rfl) dX11_init_209 ?_
  intro I35
  refine T_dup hok rfl dX11_init_210 ?_
  refine T_bipush hok bp_33 dX11_init_211 ?_
  refine T_bipush hok bp_32 dX11_init_213 ?_
  refine T_iast hok (fun k _ => hA k) (show (Lm.take 3)[2]? = some _ from rfl) dX11_init_215 ?_
  intro I36
  refine T_dup hok rfl dX11_init_216 ?_
  refine T_bipush hok bp_34 dX11_init_217 ?_
  refine T_bipush hok bp_108 dX11_init_219 ?_
  refine T_iast hok (fun k _ => hA k) (show (Lm.take 3)[2]? = some _ from rfl) dX11_init_221 ?_
  intro I37
  refine T_dup hok rfl dX11_init_222 ?_
  refine T_bipush hok bp_35 dX11_init_223 ?_
  refine T_bipush hok bp_111 dX11_init_225 ?_
  refine T_iast hok (fun k _ => hA k) (show (Lm.take 3)[2]? = some _ from rfl) dX11_init_227 ?_
  intro I38
  refine T_dup hok rfl dX11_init_228 ?_
  refine T_bipush hok bp_36 dX11_init_229 ?_
  refine T_bipush hok bp_111 dX11_init_231 ?_
  refine T_iast hok (fun k _ => hA k) (show (Lm.take 3)[2]? = some _ from rfl) dX11_init_233 ?_
  intro I39
  refine T_dup hok rfl dX11_init_234 ?_
  refine T_bipush hok bp_37 dX11_init_235 ?_
  refine T_bipush hok bp_107 dX11_init_237 ?_
  refine T_iast hok (fun k _ => hA k) (show (Lm.take 3)[2]? = some _ from rfl) dX11_init_239 ?_
  intro I40
  refine T_dup hok rfl dX11_init_240 ?_
  refine T_bipush hok bp_38 dX11_init_241 ?_
  refine T_bipush hok bp_32 dX11_init_243 ?_
  refine T_iast hok (fun k _ => hA k) (show (Lm.take 3)[2]? = some _ from rfl) dX11_init_245 ?_
  intro I41
  refine T_dup hok rfl dX11_init_246 ?_
  refine T_bipush hok bp_39 dX11_init_247 ?_
  refine T_bipush hok bp_117 dX11_init_249 ?_
  refine T_iast hok (fun k _ => hA k) (show (Lm.take 3)[2]? = some _ from rfl) dX11_init_251 ?_
  intro I42
  refine T_dup hok rfl dX11_init_252 ?_
  refine T_bipush hok bp_40 dX11_init_253 ?_
  refine T_bipush hok bp_115 dX11_init_255 ?_
  refine T_iast hok (fun k _ => hA k) (show (Lm.take 3)[2]? = some _ from rfl) dX11_init_257 ?_
  intro I43
  refine T_dup hok rfl dX11_init_258 ?_
  refine T_bipush hok bp_41 dX11_init_259 ?_
  refine T_bipush hok bp_101 dX11_init_261 ?_
  refine T_iast hok (fun k _ => hA k) (show (Lm.take 3)[2]? = some _ from rfl) dX11_init_263 ?_
  intro I44
  refine T_dup hok rfl dX11_init_264 ?_
  refine T_bipush hok bp_42 dX11_init_265 ?_
  refine T_bipush hok bp_32 dX11_init_267 ?_
  refine T_iast hok (fun k _ => hA k) (show (Lm.take 3)[2]? = some _ from rfl) dX11_init_269 ?_
  intro I45
  refine T_dup hok rfl dX11_init_270 ?_
  refine T_bipush hok bp_43 dX11_init_271 ?_
  refine T_bipush hok bp_112 dX11_init_273 ?_
  refine T_iast hok (fun k _ => hA k) (show (Lm.take 3)[2]? = some _ from rfl) dX11_init_275 ?_
  intro I46
  refine T_dup hok rfl dX11_init_276 ?_
  refine T_bipush hok bp_44 dX11_init_277 ?_
  refine T_bipush hok bp_114 dX11_init_279 ?_
  refine T_iast hok (fun k _ => hA k) (show (Lm.take 3)[2]? = some _ from rfl) dX11_init_281 ?_
  intro I47
  refine T_dup hok rfl dX11_init_282 ?_
  refine T_bipush hok bp_45 dX11_init_283 ?_
  refine T_bipush hok bp_105 dX11_init_285 ?_
  refine T_iast hok (fun k _ => hA k) (show (Lm.take 3)[2]? = some _ from rfl) dX11_init_287 ?_
  intro I48
  refine T_dup hok rfl dX11_init_288 ?_
  refine T_bipush hok bp_46 dX11_init_289 ?_
  refine T_bipush hok bp_99 dX11_init_291 ?_
  refine T_iast hok (fun k _ => hA k) (show (Lm.take 3)[2]? = some _ from rfl) dX11_init_293 ?_
  intro I49
  refine T_dup hok rfl dX11_init_294 ?_
  refine T_bipush hok bp_47 dX11_init_295 ?_
  refine T_bipush hok bp_101 dX11_init_297 ?_
  refine T_iast hok (fun k _ => hA k) (show (Lm.take 3)[2]? = some _ from rfl) dX11_init_299 ?_
  intro I50
  refine T_dup hok rfl dX11_init_300 ?_
  refine T_bipush hok bp_48 dX11_init_301 ?_
  refine T_bipush hok bp_32 dX11_init_303 ?_
  refine T_iast hok (fun k _ => hA k) (show (Lm.take 3)[2]? = some _ from rfl) dX11_init_305 ?_
  intro I51
  refine T_dup hok rfl dX11_init_306 ?_
  refine T_bipush hok bp_49 dX11_init_307 ?_
  refine T_bipush hok bp_97 dX11_init_309 ?_
  refine T_iast hok (fun k _ => hA k) (show (Lm.take 3)[2]? = some _ from rfl) dX11_init_311 ?_
  intro I52
  refine T_dup hok rfl dX11_init_312 ?_
  refine T_bipush hok bp_50 dX11_init_313 ?_
  refine T_bipush hok bp_110 dX11_init_315 ?_
  refine T_iast hok (fun k _ => hA k) (show (Lm.take 3)[2]? = some _ from rfl) dX11_init_317 ?_
  intro I53
  refine T_dup hok rfl dX11_init_318 ?_
  refine T_bipush hok bp_51 dX11_init_319 ?_
  refine T_bipush hok bp_100 dX11_init_321 ?_
  refine T_iast hok (fun k _ => hA k) (show (Lm.take 3)[2]? = some _ from rfl) dX11_init_323 ?_
  intro I54
  refine T_dup hok rfl dX11_init_324 ?_
  refine T_bipush hok bp_52 dX11_init_325 ?_
  refine T_bipush hok bp_32 dX11_init_327 ?_
  refine T_iast hok (fun k _ => hA k) (show (Lm.take 3)[2]? = some _ from rfl) dX11_init_329 ?_
  intro I55
  refine T_dup hok rfl dX11_init_330 ?_
  refine T_bipush hok bp_53 dX11_init_331 ?_
  refine T_bipush hok bp_111 dX11_init_333 ?_
  refine T_iast hok (fun k _ => hA k) (show (Lm.take 3)[2]? = some _ from rfl) dX11_init_335 ?_
  intro I56
  refine T_dup hok rfl dX11_init_336 ?_
  refine T_bipush hok bp_54 dX11_init_337 ?_
  refine T_bipush hok bp_114 dX11_init_339 ?_
  refine T_iast hok (fun k _ => hA k) (show (Lm.take 3)[2]? = some _ from rfl) dX11_init_341 ?_
  intro I57
  refine T_dup hok rfl dX11_init_342 ?_
  refine T_bipush hok bp_55 dX11_init_343 ?_
  refine T_bipush hok bp_32 dX11_init_345 ?_
  refine T_iast hok (fun k _ => hA k) (show (Lm.take 3)[2]? = some _ from rfl) dX11_init_347 ?_
  intro I58
  refine T_dup hok rfl dX11_init_348 ?_
  refine T_bipush hok bp_56 dX11_init_349 ?_
  refine T_bipush hok bp_110 dX11_init_351 ?_
  refine T_iast hok (fun k _ => hA k) (show (Lm.take 3)[2]? = some _ from rfl) dX11_init_353 ?_
  intro I59
  refine T_dup hok rfl dX11_init_354 ?_
  refine T_bipush hok bp_57 dX11_init_355 ?_
  refine T_bipush hok bp_111 dX11_init_357 ?_
  refine T_iast hok (fun k _ => hA k) (show (Lm.take 3)[2]? = some _ from rfl) dX11_init_359 ?_
  intro I60
  refine T_dup hok rfl dX11_init_360 ?_
  refine T_bipush hok bp_58 dX11_init_361 ?_
  refine T_bipush hok bp_116 dX11_init_363 ?_
  refine T_iast hok (fun k _ => hA k) (show (Lm.take 3)[2]? = some _ from rfl) dX11_init_365 ?_
  intro I61
  refine T_dup hok rfl dX11_init_366 ?_
  refine T_bipush hok bp_59 dX11_init_367 ?_
  refine T_bipush hok bp_32 dX11_init_369 ?_
  refine T_iast hok (fun k _ => hA k) (show (Lm.take 3)[2]? = some _ from rfl) dX11_init_371 ?_
  intro I62
  refine T_dup hok rfl dX11_init_372 ?_
  refine T_bipush hok bp_60 dX11_init_373 ?_
  refine T_bipush hok bp_119 dX11_init_375 ?_
  refine T_iast hok (fun k _ => hA k) (show (Lm.take 3)[2]? = some _ from rfl) dX11_init_377 ?_
  intro I63
  refine T_dup hok rfl dX11_init_378 ?_
  refine T_bipush hok bp_61 dX11_init_379 ?_
  refine T_bipush hok bp_111 dX11_init_381 ?_
  refine T_iast hok (fun k _ => hA k) (show (Lm.take 3)[2]? = some _ from rfl) dX11_init_383 ?_
  intro I64
  refine T_dup hok rfl dX11_init_384 ?_
  refine T_bipush hok bp_62 dX11_init_385 ?_
  refine T_bipush hok bp_114 dX11_init_387 ?_
  refine T_iast hok (fun k _ => hA k) (show (Lm.take 3)[2]? = some _ from rfl) dX11_init_389 ?_
  intro I65
  refine T_dup hok rfl dX11_init_390 ?_
  refine T_bipush hok bp_63 dX11_init_391 ?_
  refine T_bipush hok bp_116 dX11_init_393 ?_
  refine T_iast hok (fun k _ => hA k) (show (Lm.take 3)[2]? = some _ from rfl) dX11_init_395 ?_
  intro I66
  refine T_dup hok rfl dX11_init_396 ?_
  refine T_bipush hok bp_64 dX11_init_397 ?_
  refine T_bipush hok bp_104 dX11_init_399 ?_
  refine T_iast hok (fun k _ => hA k) (show (Lm.take 3)[2]? = some _ from rfl) dX11_init_401 ?_
  intro I67
  refine T_dup hok rfl dX11_init_402 ?_
  refine T_bipush hok bp_65 dX11_init_403 ?_
  refine T_bipush hok bp_32 dX11_init_405 ?_
  refine T_iast hok (fun k _ => hA k) (show (Lm.take 3)[2]? = some _ from rfl) dX11_init_407 ?_
  intro I68
  refine T_dup hok rfl dX11_init_408 ?_
  refine T_bipush hok bp_66 dX11_init_409 ?_
  refine T_bipush hok bp_101 dX11_init_411 ?_
  refine T_iast hok (fun k _ => hA k) (show (Lm.take 3)[2]? = some _ from rfl) dX11_init_413 ?_
  intro I69
  refine T_dup hok rfl dX11_init_414 ?_
  refine T_bipush hok bp_67 dX11_init_415 ?_
  refine T_bipush hok bp_97 dX11_init_417 ?_
  refine T_iast hok (fun k _ => hA k) (show (Lm.take 3)[2]? = some _ from rfl) dX11_init_419 ?_
  intro I70
  refine T_dup hok rfl dX11_init_420 ?_
  refine T_bipush hok bp_68 dX11_init_421 ?_
  refine T_bipush hok bp_103 dX11_init_423 ?_
  refine T_iast hok (fun k _ => hA k) (show (Lm.take 3)[2]? = some _ from rfl) dX11_init_425 ?_
  intro I71
  refine T_dup hok rfl dX11_init_426 ?_
  refine T_bipush hok bp_69 dX11_init_427 ?_
  refine T_bipush hok bp_101 dX11_init_429 ?_
  refine T_iast hok (fun k _ => hA k) (show (Lm.take 3)[2]? = some _ from rfl) dX11_init_431 ?_
  intro I72
  refine T_dup hok rfl dX11_init_432 ?_
  refine T_bipush hok bp_70 dX11_init_433 ?_
  refine T_bipush hok bp_114 dX11_init_435 ?_
  refine T_iast hok (fun k _ => hA k) (show (Lm.take 3)[2]? = some _ from rfl) dX11_init_437 ?_
  intro I73
  refine T_dup hok rfl dX11_init_438 ?_
  refine T_bipush hok bp_71 dX11_init_439 ?_
  refine T_bipush hok bp_32 dX11_init_441 ?_
  refine T_iast hok (fun k _ => hA k) (show (Lm.take 3)[2]? = some _ from rfl) dX11_init_443 ?_
  intro I74
  refine T_dup hok rfl dX11_init_444 ?_
  refine T_bipush hok bp_72 dX11_init_445 ?_
  refine T_bipush hok bp_112 dX11_init_447 ?_
  refine T_iast hok (fun k _ => hA k) (show (Lm.take 3)[2]? = some _ from rfl) dX11_init_449 ?_
  intro I75
  refine T_dup hok rfl dX11_init_450 ?_
  refine T_bipush hok bp_73 dX11_init_451 ?_
  refine T_bipush hok bp_117 dX11_init_453 ?_
  refine T_iast hok (fun k _ => hA k) (show (Lm.take 3)[2]? = some _ from rfl) dX11_init_455 ?_
  intro I76
  refine T_dup hok rfl dX11_init_456 ?_
  refine T_bipush hok bp_74 dX11_init_457 ?_
  refine T_bipush hok bp_114 dX11_init_459 ?_
  refine T_iast hok (fun k _ => hA k) (show (Lm.take 3)[2]? = some _ from rfl) dX11_init_461 ?_
  intro I77
  refine T_dup hok rfl dX11_init_462 ?_
  refine T_bipush hok bp_75 dX11_init_463 ?_
  refine T_bipush hok bp_115 dX11_init_465 ?_
  refine T_iast hok (fun k _ => hA k) (show (Lm.take 3)[2]? = some _ from rfl) dX11_init_467 ?_
  intro I78
  refine T_dup hok rfl dX11_init_468 ?_
  refine T_bipush hok bp_76 dX11_init_469 ?_
  refine T_bipush hok bp_101 dX11_init_471 ?_
  refine T_iast hok (fun k _ => hA k) (show (Lm.take 3)[2]? = some _ from rfl) dX11_init_473 ?_
  intro I79
  refine T_dup hok rfl dX11_init_474 ?_
  refine T_bipush hok bp_77 dX11_init_475 ?_
  refine T_bipush hok bp_32 dX11_init_477 ?_
  refine T_iast hok (fun k _ => hA k) (show (Lm.take 3)[2]? = some _ from rfl) dX11_init_479 ?_
  intro I80
  refine T_dup hok rfl dX11_init_480 ?_
  refine T_bipush hok bp_78 dX11_init_481 ?_
  refine T_bipush hok bp_98 dX11_init_483 ?_
  refine T_iast hok (fun k _ => hA k) (show (Lm.take 3)[2]? = some _ from rfl) dX11_init_485 ?_
  intro I81
  refine T_dup hok rfl dX11_init_486 ?_
  refine T_bipush hok bp_79 dX11_init_487 ?_
  refine T_bipush hok bp_105 dX11_init_489 ?_
  refine T_iast hok (fun k _ => hA k) (show (Lm.take 3)[2]? = some _ from rfl) dX11_init_491 ?_
  intro I82
  refine T_dup hok rfl dX11_init_492 ?_
  refine T_bipush hok bp_80 dX11_init_493 ?_
  refine T_bipush hok bp_108 dX11_init_495 ?_
  refine T_iast hok (fun k _ => hA k) (show (Lm.take 3)[2]? = some _ from rfl) dX11_init_497 ?_
  intro I83
  refine T_dup hok rfl dX11_init_498 ?_
  refine T_bipush hok bp_81 dX11_init_499 ?_
  refine T_bipush hok bp_108 dX11_init_501 ?_
  refine T_iast hok (fun k _ => hA k) (show (Lm.take 3)[2]? = some _ from rfl) dX11_init_503 ?_
  intro I84
  refine T_dup hok rfl dX11_init_504 ?_
  refine T_bipush hok bp_82 dX11_init_505 ?_
  refine T_bipush hok bp_32 dX11_init_507 ?_
  refine T_iast hok (fun k _ => hA k) (show (Lm.take 3)[2]? = some _ from rfl) dX11_init_509 ?_
  intro I85
  refine T_dup hok rfl dX11_init_510 ?_
  refine T_bipush hok bp_83 dX11_init_511 ?_
  refine T_bipush hok bp_117 dX11_init_513 ?_
  refine T_iast hok (fun k _ => hA k) (show (Lm.take 3)[2]? = some _ from rfl) dX11_init_515 ?_
  intro I86
  refine T_dup hok rfl dX11_init_516 ?_
  refine T_bipush hok bp_84 dX11_init_517 ?_
  refine T_bipush hok bp_115 dX11_init_519 ?_
  refine T_iast hok (fun k _ => hA k) (show (Lm.take 3)[2]? = some _ from rfl) dX11_init_521 ?_
  intro I87
  refine T_dup hok rfl dX11_init_522 ?_
  refine T_bipush hok bp_85 dX11_init_523 ?_
  refine T_bipush hok bp_101 dX11_init_525 ?_
  refine T_iast hok (fun k _ => hA k) (show (Lm.take 3)[2]? = some _ from rfl) dX11_init_527 ?_
  intro I88
  refine T_dup hok rfl dX11_init_528 ?_
  refine T_bipush hok bp_86 dX11_init_529 ?_
  refine T_bipush hok bp_100 dX11_init_531 ?_
  refine T_iast hok (fun k _ => hA k) (show (Lm.take 3)[2]? = some _ from rfl) dX11_init_533 ?_
  intro I89
  refine T_dup hok rfl dX11_init_534 ?_
  refine T_bipush hok bp_87 dX11_init_535 ?_
  refine T_bipush hok bp_32 dX11_init_537 ?_
  refine T_iast hok (fun k _ => hA k) (show (Lm.take 3)[2]? = some _ from rfl) dX11_init_539 ?_
  intro I90
  refine T_dup hok rfl dX11_init_540 ?_
  refine T_bipush hok bp_88 dX11_init_541 ?_
  refine T_bipush hok bp_119 dX11_init_543 ?_
  refine T_iast hok (fun k _ => hA k) (show (Lm.take 3)[2]? = some _ from rfl) dX11_init_545 ?_
  intro I91
  refine T_dup hok rfl dX11_init_546 ?_
  refine T_bipush hok bp_89 dX11_init_547 ?_
  refine T_bipush hok bp_101 dX11_init_549 ?_
  refine T_iast hok (fun k _ => hA k) (show (Lm.take 3)[2]? = some _ from rfl) dX11_init_551 ?_
  intro I92
  refine T_dup hok rfl dX11_init_552 ?_
  refine T_bipush hok bp_90 dX11_init_553 ?_
  refine T_bipush hok bp_105 dX11_init_555 ?_
  refine T_iast hok (fun k _ => hA k) (show (Lm.take 3)[2]? = some _ from rfl) dX11_init_557 ?_
  intro I93
  refine T_dup hok rfl dX11_init_558 ?_
  refine T_bipush hok bp_91 dX11_init_559 ?_
  refine T_bipush hok bp_103 dX11_init_561 ?_
  refine T_iast hok (fun k _ => hA k) (show (Lm.take 3)[2]? = some _ from rfl) dX11_init_563 ?_
  intro I94
  refine T_dup hok rfl dX11_init_564 ?_
  refine T_bipush hok bp_92 dX11_init_565 ?_
  refine T_bipush hok bp_104 dX11_init_567 ?_
  refine T_iast hok (fun k _ => hA k) (show (Lm.take 3)[2]? = some _ from rfl) dX11_init_569 ?_
  intro I95
  refine T_dup hok rfl dX11_init_570 ?_
  refine T_bipush hok bp_93 dX11_init_571 ?_
  refine T_bipush hok bp_116 dX11_init_573 ?_
  refine T_iast hok (fun k _ => hA k) (show (Lm.take 3)[2]? = some _ from rfl) dX11_init_575 ?_
  intro I96
  refine T_dup hok rfl dX11_init_576 ?_
  refine T_bipush hok bp_94 dX11_init_577 ?_
  refine T_bipush hok bp_32 dX11_init_579 ?_
  refine T_iast hok (fun k _ => hA k) (show (Lm.take 3)[2]? = some _ from rfl) dX11_init_581 ?_
  intro I97
  refine T_dup hok rfl dX11_init_582 ?_
  refine T_bipush hok bp_95 dX11_init_583 ?_
  refine T_bipush hok bp_100 dX11_init_585 ?_
  refine T_iast hok (fun k _ => hA k) (show (Lm.take 3)[2]? = some _ from rfl) dX11_init_587 ?_
  intro I98
  refine T_dup hok rfl dX11_init_588 ?_
  refine T_bipush hok bp_96 dX11_init_589 ?_
  refine T_bipush hok bp_97 dX11_init_591 ?_
  refine T_iast hok (fun k _ => hA k) (show (Lm.take 3)[2]? = some _ from rfl) dX11_init_593 ?_
  intro I99
  refine T_dup hok rfl dX11_init_594 ?_
  refine T_bipush hok bp_97 dX11_init_595 ?_
  refine T_bipush hok bp_116 dX11_init_597 ?_
  refine T_iast hok (fun k _ => hA k) (show (Lm.take 3)[2]? = some _ from rfl) dX11_init_599 ?_
  intro I100
  refine T_dup hok rfl dX11_init_600 ?_
  refine T_bipush hok bp_98 dX11_init_601 ?_
  refine T_bipush hok bp_101 dX11_init_603 ?_
  refine T_iast hok (fun k _ => hA k) (show (Lm.take 3)[2]? = some _ from rfl) dX11_init_605 ?_
  intro I101
  refine T_dup hok rfl dX11_init_606 ?_
  refine T_bipush hok bp_99 dX11_init_607 ?_
  refine T_bipush hok bp_32 dX11_init_609 ?_
  refine T_iast hok (fun k _ => hA k) (show (Lm.take 3)[2]? = some _ from rfl) dX11_init_611 ?_
  intro I102
  refine T_putFR (tab' := [[2, 0, 0, 3]]) hok hI hA fr_X11_13 rfl rfl (show (Lm.take 3)[0]? = some _ from rfl) rfl rfl (by decide) rfl dX11_init_612 ?_
  refine T_aload_n hok 0 rfl rfl dX11_init_615 ?_
  refine T_iconst hok ic_m1 dX11_init_616 ?_
  refine T_putI hok (fun k _ => hA k) fr_X11_16 rfl rfl (show (Lm.take 3)[0]? = some _ from rfl) dX11_init_617 ?_
  intro I103
  refine T_aload_n hok 0 rfl rfl dX11_init_620 ?_
  refine T_iconst hok ic_2 dX11_init_621 ?_
  refine T_newI (b := b) (kc := 2) (ks := 800) (t := 3) (N := 2) (x := (2 : Int32)) (ty := .boolean) (L' := (Lm.take 4)) (kc' := 3) (ks' := 802) (n := 3) hok hI rfl rfl (fun _ => rfl) rfl (by decide) rfl rfl (by decide) rfl rfl rfl ac_boolean (Nat.le_of_ble_eq_true rfl) (Nat.le_of_ble_eq_true rfl) (by decide) (by decide) (by decide) dX11_init_622 ?_
  intro I104
  refine T_putFR (tab' := [[2, 0, 0, 3, 0, 0, 0, 0, 0, 0, 0, 0, 0, 0, 0, 0, 0, 0, 0, 0, 0, 0, 4]]) hok hI hA fr_X11_20 rfl rfl (show (Lm.take 4)[0]? = some _ from rfl) rfl rfl (by decide) rfl dX11_init_624 ?_
  refine T_aload_n hok 0 rfl rfl dX11_init_627 ?_
  refine T_iconst hok ic_4 dX11_init_628 ?_
  refine T_newI (b := b) (kc := 3) (ks := 802) (t := 0) (N := 4) (x := (4 : Int32)) (ty := .int) (L' := (Lm.take 5)) (kc' := 4) (ks' := 806) (n := 4) hok hI rfl rfl (fun _ => rfl) rfl (by decide) rfl rfl (by decide) rfl rfl rfl ac_int (Nat.le_of_ble_eq_true rfl) (Nat.le_of_ble_eq_true rfl) (by decide) (by decide) (by decide) dX11_init_629 ?_
  intro I105
  refine T_putFR (tab' := [[2, 0, 0, 3, 0, 0, 0, 0, 0, 0, 0, 0, 0, 0, 0, 0, 0, 0, 0, 0, 0, 0, 4, 5]]) hok hI hA fr_X11_24 rfl rfl (show (Lm.take 5)[0]? = some _ from rfl) rfl rfl (by decide) rfl dX11_init_631 ?_
  refine T_aload_n hok 0 rfl rfl dX11_init_634 ?_
  refine T_bipush hok bp_12 dX11_init_635 ?_
  refine T_newI (b := b) (kc := 4) (ks := 806) (t := 0) (N := 12) (x := (12 : Int32)) (ty := .int) (L' := (Lm.take 6)) (kc' := 5) (ks' := 818) (n := 5) hok hI rfl rfl (fun _ => rfl) rfl (by decide) rfl rfl (by decide) rfl rfl rfl ac_int (Nat.le_of_ble_eq_true rfl) (Nat.le_of_ble_eq_true rfl) (by decide) (by decide) (by decide) dX11_init_637 ?_
  intro I106
  refine T_putFR (tab' := [[2, 0, 0, 3, 0, 0, 0, 0, 0, 0, 0, 0, 0, 0, 0, 0, 0, 0, 0, 0, 0, 0, 4, 5, 6]]) hok hI hA fr_X11_27 rfl rfl (show (Lm.take 6)[0]? = some _ from rfl) rfl rfl (by decide) rfl dX11_init_639 ?_
  refine T_aload_n hok 0 rfl rfl dX11_init_642 ?_
  refine T_bipush hok bp_12 dX11_init_643 ?_
  refine T_newI (b := b) (kc := 5) (ks := 818) (t := 0) (N := 12) (x := (12 : Int32)) (ty := .int) (L' := (Lm.take 7)) (kc' := 6) (ks' := 830) (n := 6) hok hI rfl rfl (fun _ => rfl) rfl (by decide) rfl rfl (by decide) rfl rfl rfl ac_int (Nat.le_of_ble_eq_true rfl) (Nat.le_of_ble_eq_true rfl) (by decide) (by decide) (by decide) dX11_init_645 ?_
  intro I107
  refine T_putFR (tab' := [[2, 0, 0, 3, 0, 0, 0, 0, 0, 0, 0, 0, 0, 0, 0, 0, 0, 0, 0, 0, 0, 0, 4, 5, 6, 7]]) hok hI hA fr_X11_30 rfl rfl (show (Lm.take 7)[0]? = some _ from rfl) rfl rfl (by decide) rfl dX11_init_647 ?_
  refine T_aload_n hok 0 rfl rfl dX11_init_650 ?_
  refine T_bipush hok bp_12 dX11_init_651 ?_
  refine T_newI (b := b) (kc := 6) (ks := 830) (t := 0) (N := 12) (x := (12 : Int32)) (ty := .int) (L' := (Lm.take 8)) (kc' := 7) (ks' := 842) (n := 7) hok hI rfl rfl (fun _ => rfl) rfl (by decide) rfl rfl (by decide) rfl rfl rfl ac_int (Nat.le_of_ble_eq_true rfl) (Nat.le_of_ble_eq_true rfl) (by decide) (by decide) (by decide) dX11_init_653 ?_
  intro I108
  refine T_putFR (tab' := [[2, 0, 0, 3, 0, 0, 0, 0, 0, 0, 0, 0, 0, 0, 0, 0, 0, 0, 0, 0, 0, 0, 4, 5, 6, 7, 8]]) hok hI hA fr_X11_33 rfl rfl (show (Lm.take 8)[0]? = some _ from rfl) rfl rfl (by decide) rfl dX11_init_655 ?_
  refine T_aload_n hok 0 rfl rfl dX11_init_658 ?_
  refine T_bipush hok bp_12 dX11_init_659 ?_
  refine T_newI (b := b) (kc := 7) (ks := 842) (t := 0) (N := 12) (x := (12 : Int32)) (ty := .int) (L' := (Lm.take 9)) (kc' := 8) (ks' := 854) (n := 8) hok hI rfl rfl (fun _ => rfl) rfl (by decide) rfl rfl (by decide) rfl rfl rfl ac_int (Nat.le_of_ble_eq_true rfl) (Nat.le_of_ble_eq_true rfl) (by decide) (by decide) (by decide) dX11_init_661 ?_
  intro I109
  refine T_putFR (tab' := [[2, 0, 0, 3, 0, 0, 0, 0, 0, 0, 0, 0, 0, 0, 0, 0, 0, 0, 0, 0, 0, 0, 4, 5, 6, 7, 8, 9]]) hok hI hA fr_X11_36 rfl rfl (show (Lm.take 9)[0]? = some _ from rfl) rfl rfl (by decide) rfl dX11_init_663 ?_
  refine T_aload_n hok 0 rfl rfl dX11_init_666 ?_
  refine T_bipush hok bp_12 dX11_init_667 ?_
  refine T_newI (b := b) (kc := 8) (ks := 854) (t := 0) (N := 12) (x := (12 : Int32)) (ty := .int) (L' := (Lm.take 10)) (kc' := 9) (ks' := 866) (n := 9) hok hI rfl rfl (fun _ => rfl) rfl (by decide) rfl rfl (by decide) rfl rfl rfl ac_int (Nat.le_of_ble_eq_true rfl) (Nat.le_of_ble_eq_true rfl) (by decide) (by decide) (by decide) dX11_init_669 ?_
  intro I110
  refine T_putFR (tab' := [[2, 0, 0, 3, 0, 0, 0, 0, 0, 0, 0, 0, 0, 0, 0, 0, 0, 0, 0, 0, 0, 0, 4, 5, 6, 7, 8, 9, 10]]) hok hI hA fr_X11_39 rfl rfl (show (Lm.take 10)[0]? = some _ from rfl) rfl rfl (by decide) rfl dX11_init_671 ?_
  refine T_aload_n hok 0 rfl rfl dX11_init_674 ?_
  refine T_bipush hok bp_12 dX11_init_675 ?_
  refine T_newI (b := b) (kc := 9) (ks := 866) (t := 0) (N := 12) (x := (12 : Int32)) (ty := .int) (L' := (Lm.take 11)) (kc' := 10) (ks' := 878) (n := 10) hok hI rfl rfl (fun _ => rfl) rfl (by decide) rfl rfl (by decide) rfl rfl rfl ac_int (Nat.le_of_ble_eq_true rfl) (Nat.le_of_ble_eq_true rfl) (by decide) (by decide) (by decide) dX11_init_677 ?_
  intro I111
  refine T_putFR (tab' := [[2, 0, 0, 3, 0, 0, 0, 0, 0, 0, 0, 0, 0, 0, 0, 0, 0, 0, 0, 0, 0, 0, 4, 5, 6, 7, 8, 9, 10, 11]]) hok hI hA fr_X11_42 rfl rfl (show (Lm.take 11)[0]? = some _ from rfl) rfl rfl (by decide) rfl dX11_init_679 ?_
  refine T_aload_n hok 0 rfl rfl dX11_init_682 ?_
  refine T_bipush hok bp_12 dX11_init_683 ?_
  refine T_newI (b := b) (kc := 10) (ks := 878) (t := 0) (N := 12) (x := (12 : Int32)) (ty := .int) (L' := (Lm.take 12)) (kc' := 11) (ks' := 890) (n := 11) hok hI rfl rfl (fun _ => rfl) rfl (by decide) rfl rfl (by decide) rfl rfl rfl ac_int (Nat.le_of_ble_eq_true rfl) (Nat.le_of_ble_eq_true rfl) (by decide) (by decide) (by decide) dX11_init_685 ?_
  intro I112
  refine T_putFR (tab' := [[2, 0, 0, 3, 0, 0, 0, 0, 0, 0, 0, 0, 0, 0, 0, 0, 0, 0, 0, 0, 0, 0, 4, 5, 6, 7, 8, 9, 10, 11, 12]]) hok hI hA fr_X11_45 rfl rfl (show (Lm.take 12)[0]? = some _ from rfl) rfl rfl (by decide) rfl dX11_init_687 ?_
  refine T_aload_n hok 0 rfl rfl dX11_init_690 ?_
  refine T_bipush hok bp_40 dX11_init_691 ?_
  refine T_newI (b := b) (kc := 11) (ks := 890) (t := 0) (N := 40) (x := (40 : Int32)) (ty := .int) (L' := (Lm.take 13)) (kc' := 12) (ks' := 930) (n := 12) hok hI rfl rfl (fun _ => rfl) rfl (by decide) rfl rfl (by decide) rfl rfl rfl ac_int (Nat.le_of_ble_eq_true rfl) (Nat.le_of_ble_eq_true rfl) (by decide) (by decide) (by decide) dX11_init_693 ?_
  intro I113
  refine T_putFR (tab' := [[2, 0, 0, 3, 0, 0, 0, 0, 0, 0, 0, 0, 0, 0, 0, 0, 0, 0, 0, 0, 0, 0, 4, 5, 6, 7, 8, 9, 10, 11, 12, 13]]) hok hI hA fr_X11_48 rfl rfl (show (Lm.take 13)[0]? = some _ from rfl) rfl rfl (by decide) rfl dX11_init_695 ?_
  refine T_aload_n hok 0 rfl rfl dX11_init_698 ?_
  refine T_bipush hok bp_40 dX11_init_699 ?_
  refine T_newI (b := b) (kc := 12) (ks := 930) (t := 0) (N := 40) (x := (40 : Int32)) (ty := .int) (L' := (Lm.take 14)) (kc' := 13) (ks' := 970) (n := 13) hok hI rfl rfl (fun _ => rfl) rfl (by decide) rfl rfl (by decide) rfl rfl rfl ac_int (Nat.le_of_ble_eq_true rfl) (Nat.le_of_ble_eq_true rfl) (by decide) (by decide) (by decide) dX11_init_701 ?_
  intro I114
  refine T_putFR (tab' := [[2, 0, 0, 3, 0, 0, 0, 0, 0, 0, 0, 0, 0, 0, 0, 0, 0, 0, 0, 0, 0, 0, 4, 5, 6, 7, 8, 9, 10, 11, 12, 13, 14]]) hok hI hA fr_X11_51 rfl rfl (show (Lm.take 14)[0]? = some _ from rfl) rfl rfl (by decide) rfl dX11_init_703 ?_
  refine T_aload_n hok 0 rfl rfl dX11_init_706 ?_
  refine T_bipush hok bp_12 dX11_init_707 ?_
  refine T_newI (b := b) (kc := 13) (ks := 970) (t := 0) (N := 12) (x := (12 : Int32)) (ty := .int) (L' := (Lm.take 15)) (kc' := 14) (ks' := 982) (n := 14) hok hI rfl rfl (fun _ => rfl) rfl (by decide) rfl rfl (by decide) rfl rfl rfl ac_int (Nat.le_of_ble_eq_true rfl) (Nat.le_of_ble_eq_true rfl) (by decide) (by decide) (by decide) dX11_init_709 ?_
  intro I115
  refine T_putFR (tab' := [[2, 0, 0, 3, 0, 0, 0, 0, 0, 0, 0, 0, 0, 0, 0, 0, 0, 0, 0, 0, 0, 0, 4, 5, 6, 7, 8, 9, 10, 11, 12, 13, 14, 15]]) hok hI hA fr_X11_54 rfl rfl (show (Lm.take 15)[0]? = some _ from rfl) rfl rfl (by decide) rfl dX11_init_711 ?_
  refine T_aload_n hok 0 rfl rfl dX11_init_714 ?_
  refine T_bipush hok bp_12 dX11_init_715 ?_
  refine T_newI (b := b) (kc := 14) (ks := 982) (t := 0) (N := 12) (x := (12 : Int32)) (ty := .int) (L' := (Lm.take 16)) (kc' := 15) (ks' := 994) (n := 15) hok hI rfl rfl (fun _ => rfl) rfl (by decide) rfl rfl (by decide) rfl rfl rfl ac_int (Nat.le_of_ble_eq_true rfl) (Nat.le_of_ble_eq_true rfl) (by decide) (by decide) (by decide) dX11_init_717 ?_
  intro I116
  refine T_putFR (tab' := [[2, 0, 0, 3, 0, 0, 0, 0, 0, 0, 0, 0, 0, 0, 0, 0, 0, 0, 0, 0, 0, 0, 4, 5, 6, 7, 8, 9, 10, 11, 12, 13, 14, 15, 16]]) hok hI hA fr_X11_57 rfl rfl (show (Lm.take 16)[0]? = some _ from rfl) rfl rfl (by decide) rfl dX11_init_719 ?_
  refine T_aload_n hok 0 rfl rfl dX11_init_722 ?_
  refine T_bipush hok bp_6 dX11_init_723 ?_
  refine T_newI (b := b) (kc := 15) (ks := 994) (t := 3) (N := 6) (x := (6 : Int32)) (ty := .boolean) (L' := (Lm.take 17)) (kc' := 16) (ks' := 1000) (n := 16) hok hI rfl rfl (fun _ => rfl) rfl (by decide) rfl rfl (by decide) rfl rfl rfl ac_boolean (Nat.le_of_ble_eq_true rfl) (Nat.le_of_ble_eq_true rfl) (by decide) (by decide) (by decide) dX11_init_725 ?_
  intro I117
  refine T_putFR (tab' := [[2, 0, 0, 3, 0, 0, 0, 0, 0, 0, 0, 0, 0, 0, 0, 0, 0, 0, 0, 0, 0, 0, 4, 5, 6, 7, 8, 9, 10, 11, 12, 13, 14, 15, 16, 17]]) hok hI hA fr_X11_60 rfl rfl (show (Lm.take 17)[0]? = some _ from rfl) rfl rfl (by decide) rfl dX11_init_727 ?_
  refine T_aload_n hok 0 rfl rfl dX11_init_730 ?_
  refine T_bipush hok bp_6 dX11_init_731 ?_
  refine T_newI (b := b) (kc := 16) (ks := 1000) (t := 0) (N := 6) (x := (6 : Int32)) (ty := .int) (L' := (Lm.take 18)) (kc' := 17) (ks' := 1006) (n := 17) hok hI rfl rfl (fun _ => rfl) rfl (by decide) rfl rfl (by decide) rfl rfl rfl ac_int (Nat.le_of_ble_eq_true rfl) (Nat.le_of_ble_eq_true rfl) (by decide) (by decide) (by decide) dX11_init_733 ?_
  intro I118
  refine T_putFR (tab' := [[2, 0, 0, 3, 0, 0, 0, 0, 0, 0, 0, 0, 0, 0, 0, 0, 0, 0, 0, 0, 0, 0, 4, 5, 6, 7, 8, 9, 10, 11, 12, 13, 14, 15, 16, 17, 18]]) hok hI hA fr_X11_63 rfl rfl (show (Lm.take 18)[0]? = some _ from rfl) rfl rfl (by decide) rfl dX11_init_735 ?_
  refine T_aload_n hok 0 rfl rfl dX11_init_738 ?_
  refine T_bipush hok bp_6 dX11_init_739 ?_
  refine T_newI (b := b) (kc := 17) (ks := 1006) (t := 0) (N := 6) (x := (6 : Int32)) (ty := .int) (L' := (Lm.take 19)) (kc' := 18) (ks' := 1012) (n := 18) hok hI rfl rfl (fun _ => rfl) rfl (by decide) rfl rfl (by decide) rfl rfl rfl ac_int (Nat.le_of_ble_eq_true rfl) (Nat.le_of_ble_eq_true rfl) (by decide) (by decide) (by decide) dX11_init_741 ?_
  intro I119
  refine T_putFR (tab' := [[2, 0, 0, 3, 0, 0, 0, 0, 0, 0, 0, 0, 0, 0, 0, 0, 0, 0, 0, 0, 0, 0, 4, 5, 6, 7, 8, 9, 10, 11, 12, 13, 14, 15, 16, 17, 18, 19]]) hok hI hA fr_X11_66 rfl rfl (show (Lm.take 19)[0]? = some _ from rfl) rfl rfl (by decide) rfl dX11_init_743 ?_
  refine T_aload_n hok 0 rfl rfl dX11_init_746 ?_
  refine T_sipush hok sp_128 dX11_init_747 ?_
  refine T_newI (b := b) (kc := 18) (ks := 1012) (t := 0) (N := 128) (x := (128 : Int32)) (ty := .int) (L' := (Lm.take 20)) (kc' := 19) (ks' := 1140) (n := 19) hok hI rfl rfl (fun _ => rfl) rfl (by decide) rfl rfl (by decide) rfl rfl rfl ac_int (Nat.le_of_ble_eq_true rfl) (Nat.le_of_ble_eq_true rfl) (by decide) (by decide) (by decide) dX11_init_750 ?_
  intro I120
  refine T_putFR (tab' := [[2, 0, 0, 3, 0, 0, 0, 0, 0, 0, 0, 0, 0, 0, 0, 0, 0, 0, 0, 0, 0, 0, 4, 5, 6, 7, 8, 9, 10, 11, 12, 13, 14, 15, 16, 17, 18, 19, 20]]) hok hI hA fr_X11_69 rfl rfl (show (Lm.take 20)[0]? = some _ from rfl) rfl rfl (by decide) rfl dX11_init_752 ?_
  refine T_aload_n hok 0 rfl rfl dX11_init_755 ?_
  refine T_sipush hok sp_128 dX11_init_756 ?_
  refine T_newI (b := b) (kc := 19) (ks := 1140) (t := 0) (N := 128) (x := (128 : Int32)) (ty := .int) (L' := (Lm.take 21)) (kc' := 20) (ks' := 1268) (n := 20) hok hI rfl rfl (fun _ => rfl) rfl (by decide) rfl rfl (by decide) rfl rfl rfl ac_int (Nat.le_of_ble_eq_true rfl) (Nat.le_of_ble_eq_true rfl) (by decide) (by decide) (by decide) dX11_init_759 ?_
  intro I121
  refine T_putFR (tab' := [[2, 0, 0, 3, 0, 0, 0, 0, 0, 0, 0, 0, 0, 0, 0, 0, 0, 0, 0, 0, 0, 0, 4, 5, 6, 7, 8, 9, 10, 11, 12, 13, 14, 15, 16, 17, 18, 19, 20, 21]]) hok hI hA fr_X11_72 rfl rfl (show (Lm.take 21)[0]? = some _ from rfl) rfl rfl (by decide) rfl dX11_init_761 ?_
  refine T_aload_n hok 0 rfl rfl dX11_init_764 ?_
  refine T_sipush hok sp_128 dX11_init_765 ?_
  refine T_newI (b := b) (kc := 20) (ks := 1268) (t := 0) (N := 128) (x := (128 : Int32)) (ty := .int) (L' := (Lm.take 22)) (kc' := 21) (ks' := 1396) (n := 21) hok hI rfl rfl (fun _ => rfl) rfl (by decide) rfl rfl (by decide) rfl rfl rfl ac_int (Nat.le_of_ble_eq_true rfl) (Nat.le_of_ble_eq_true rfl) (by decide) (by decide) (by decide) dX11_init_768 ?_
  intro I122
  refine T_putFR (tab' := [[2, 0, 0, 3, 0, 0, 0, 0, 0, 0, 0, 0, 0, 0, 0, 0, 0, 0, 0, 0, 0, 0, 4, 5, 6, 7, 8, 9, 10, 11, 12, 13, 14, 15, 16, 17, 18, 19, 20, 21, 22]]) hok hI hA fr_X11_75 rfl rfl (show (Lm.take 22)[0]? = some _ from rfl) rfl rfl (by decide) rfl dX11_init_770 ?_
  refine T_aload_n hok 0 rfl rfl dX11_init_773 ?_
  refine T_bipush hok bp_96 dX11_init_774 ?_
  refine T_newI (b := b) (kc := 21) (ks := 1396) (t := 0) (N := 96) (x := (96 : Int32)) (ty := .int) (L' := (Lm.take 23)) (kc' := 22) (ks' := 1492) (n := 22) hok hI rfl rfl (fun _ => rfl) rfl (by decide) rfl rfl (by decide) rfl rfl rfl ac_int (Nat.le_of_ble_eq_true rfl) (Nat.le_of_ble_eq_true rfl) (by decide) (by decide) (by decide) dX11_init_776 ?_
  intro I123
  refine T_putFR (tab' := [[2, 0, 0, 3, 0, 0, 0, 0, 0, 0, 0, 0, 0, 0, 0, 0, 0, 0, 0, 0, 0, 0, 4, 5, 6, 7, 8, 9, 10, 11, 12, 13, 14, 15, 16, 17, 18, 19, 20, 21, 22, 23]]) hok hI hA fr_X11_78 rfl rfl (show (Lm.take 23)[0]? = some _ from rfl) rfl rfl (by decide) rfl dX11_init_778 ?_
  refine T_aload_n hok 0 rfl rfl dX11_init_781 ?_
  refine T_bipush hok bp_96 dX11_init_782 ?_
  refine T_newI (b := b) (kc := 22) (ks := 1492) (t := 0) (N := 96) (x := (96 : Int32)) (ty := .int) (L' := (Lm.take 24)) (kc' := 23) (ks' := 1588) (n := 23) hok hI rfl rfl (fun _ => rfl) rfl (by decide) rfl rfl (by decide) rfl rfl rfl ac_int (Nat.le_of_ble_eq_true rfl) (Nat.le_of_ble_eq_true rfl) (by decide) (by decide) (by decide) dX11_init_784 ?_
  intro I124
  refine T_putFR (tab' := [[2, 0, 0, 3, 0, 0, 0, 0, 0, 0, 0, 0, 0, 0, 0, 0, 0, 0, 0, 0, 0, 0, 4, 5, 6, 7, 8, 9, 10, 11, 12, 13, 14, 15, 16, 17, 18, 19, 20, 21, 22, 23, 24]]) hok hI hA fr_X11_81 rfl rfl (show (Lm.take 24)[0]? = some _ from rfl) rfl rfl (by decide) rfl dX11_init_786 ?_
  refine T_aload_n hok 0 rfl rfl dX11_init_789 ?_
  refine T_bipush hok bp_7 dX11_init_790 ?_
  refine T_newJ (b := b) (kc := 23) (ks := 1588) (N := 7) (x := (7 : Int32)) (L' := (Lm.take 25)) (kc' := 24) (ks' := 1595) (n := 24) hok hI rfl rfl (by decide) rfl rfl rfl ac_long (Nat.le_of_ble_eq_true rfl) (Nat.le_of_ble_eq_true rfl) (by decide) (by decide) (by decide) dX11_init_792 ?_
  intro J125
  refine T_putFR (tab' := [[2, 0, 0, 3, 0, 0, 0, 0, 0, 0, 0, 0, 0, 0, 0, 0, 0, 0, 0, 0, 0, 0, 4, 5, 6, 7, 8, 9, 10, 11, 12, 13, 14, 15, 16, 17, 18, 19, 20, 21, 22, 23, 24, 0, 0, 0, 0, 0, 0, 25]]) hok hI hA fr_X11_84 rfl rfl (show (Lm.take 25)[0]? = some _ from rfl) rfl rfl (by decide) rfl dX11_init_794 ?_
  refine T_aload_n hok 0 rfl rfl dX11_init_797 ?_
  refine T_bipush hok bp_64 dX11_init_798 ?_
  refine T_newJ (b := b) (kc := 24) (ks := 1595) (N := 64) (x := (64 : Int32)) (L' := (Lm.take 26)) (kc' := 25) (ks' := 1659) (n := 25) hok hI rfl rfl (by decide) rfl rfl rfl ac_long (Nat.le_of_ble_eq_true rfl) (Nat.le_of_ble_eq_true rfl) (by decide) (by decide) (by decide) dX11_init_800 ?_
  intro J126
  refine T_putFR (tab' := [[2, 0, 0, 3, 0, 0, 0, 0, 0, 0, 0, 0, 0, 0, 0, 0, 0, 0, 0, 0, 0, 0, 4, 5, 6, 7, 8, 9, 10, 11, 12, 13, 14, 15, 16, 17, 18, 19, 20, 21, 22, 23, 24, 0, 0, 0, 0, 0, 0, 25, 26]]) hok hI hA fr_X11_88 rfl rfl (show (Lm.take 26)[0]? = some _ from rfl) rfl rfl (by decide) rfl dX11_init_802 ?_
  refine T_aload_n hok 0 rfl rfl dX11_init_805 ?_
  refine T_bipush hok bp_12 dX11_init_806 ?_
  refine T_newI (b := b) (kc := 25) (ks := 1659) (t := 0) (N := 12) (x := (12 : Int32)) (ty := .int) (L' := (Lm.take 27)) (kc' := 26) (ks' := 1671) (n := 26) hok hI rfl rfl (fun _ => rfl) rfl (by decide) rfl rfl (by decide) rfl rfl rfl ac_int (Nat.le_of_ble_eq_true rfl) (Nat.le_of_ble_eq_true rfl) (by decide) (by decide) (by decide) dX11_init_808 ?_
  intro I127
  refine T_putFR (tab' := [[2, 0, 0, 3, 0, 0, 0, 0, 0, 0, 0, 0, 0, 0, 0, 0, 0, 0, 0, 0, 0, 0, 4, 5, 6, 7, 8, 9, 10, 11, 12, 13, 14, 15, 16, 17, 18, 19, 20, 21, 22, 23, 24, 0, 0, 0, 0, 0, 0, 25, 26, 0, 27]]) hok hI hA fr_X11_91 rfl rfl (show (Lm.take 27)[0]? = some _ from rfl) rfl rfl (by decide) rfl dX11_init_810 ?_
  refine T_aload_n hok 0 rfl rfl dX11_init_813 ?_
  refine T_bipush hok bp_12 dX11_init_814 ?_
  refine T_newI (b := b) (kc := 26) (ks := 1671) (t := 0) (N := 12) (x := (12 : Int32)) (ty := .int) (L' := (Lm.take 28)) (kc' := 27) (ks' := 1683) (n := 27) hok hI rfl rfl (fun _ => rfl) rfl (by decide) rfl rfl (by decide) rfl rfl rfl ac_int (Nat.le_of_ble_eq_true rfl) (Nat.le_of_ble_eq_true rfl) (by decide) (by decide) (by decide) dX11_init_816 ?_
  intro I128
  refine T_putFR (tab' := [[2, 0, 0, 3, 0, 0, 0, 0, 0, 0, 0, 0, 0, 0, 0, 0, 0, 0, 0, 0, 0, 0, 4, 5, 6, 7, 8, 9, 10, 11, 12, 13, 14, 15, 16, 17, 18, 19, 20, 21, 22, 23, 24, 0, 0, 0, 0, 0, 0, 25, 26, 0, 27, 28]]) hok hI hA fr_X11_94 rfl rfl (show (Lm.take 28)[0]? = some _ from rfl) rfl rfl (by decide) rfl dX11_init_818 ?_
  refine T_aload_n hok 0 rfl rfl dX11_init_821 ?_
  refine T_bipush hok bp_12 dX11_init_822 ?_
  refine T_newI (b := b) (kc := 27) (ks := 1683) (t := 0) (N := 12) (x := (12 : Int32)) (ty := .int) (L' := (Lm.take 29)) (kc' := 28) (ks' := 1695) (n := 28) hok hI rfl rfl (fun _ => rfl) rfl (by decide) rfl rfl (by decide) rfl rfl rfl ac_int (Nat.le_of_ble_eq_true rfl) (Nat.le_of_ble_eq_true rfl) (by decide) (by decide) (by decide) dX11_init_824 ?_
  intro I129
  refine T_putFR (tab' := [[2, 0, 0, 3, 0, 0, 0, 0, 0, 0, 0, 0, 0, 0, 0, 0, 0, 0, 0, 0, 0, 0, 4, 5, 6, 7, 8, 9, 10, 11, 12, 13, 14, 15, 16, 17, 18, 19, 20, 21, 22, 23, 24, 0, 0, 0, 0, 0, 0, 25, 26, 0, 27, 28, 29]]) hok hI hA fr_X11_97 rfl rfl (show (Lm.take 29)[0]? = some _ from rfl) rfl rfl (by decide) rfl dX11_init_826 ?_
  refine T_aload_n hok 0 rfl rfl dX11_init_829 ?_
  refine T_bipush hok bp_12 dX11_init_830 ?_
  refine T_newI (b := b) (kc := 28) (ks := 1695) (t := 0) (N := 12) (x := (12 : Int32)) (ty := .int) (L' := (Lm.take 30)) (kc' := 29) (ks' := 1707) (n := 29) hok hI rfl rfl (fun _ => rfl) rfl (by decide) rfl rfl (by decide) rfl rfl rfl ac_int (Nat.le_of_ble_eq_true rfl) (Nat.le_of_ble_eq_true rfl) (by decide) (by decide) (by decide) dX11_init_832 ?_
  intro I130
  refine T_putFR (tab' := [[2, 0, 0, 3, 0, 0, 0, 0, 0, 0, 0, 0, 0, 0, 0, 0, 0, 0, 0, 0, 0, 0, 4, 5, 6, 7, 8, 9, 10, 11, 12, 13, 14, 15, 16, 17, 18, 19, 20, 21, 22, 23, 24, 0, 0, 0, 0, 0, 0, 25, 26, 0, 27, 28, 29, 30]]) hok hI hA fr_X11_100 rfl rfl (show (Lm.take 30)[0]? = some _ from rfl) rfl rfl (by decide) rfl dX11_init_834 ?_
  refine T_aload_n hok 0 rfl rfl dX11_init_837 ?_
  refine T_bipush hok bp_12 dX11_init_838 ?_
  refine T_newI (b := b) (kc := 29) (ks := 1707) (t := 0) (N := 12) (x := (12 : Int32)) (ty := .int) (L' := (Lm.take 31)) (kc' := 30) (ks' := 1719) (n := 30) hok hI rfl rfl (fun _ => rfl) rfl (by decide) rfl rfl (by decide) rfl rfl rfl ac_int (Nat.le_of_ble_eq_true rfl) (Nat.le_of_ble_eq_true rfl) (by decide) (by decide) (by decide) dX11_init_840 ?_
  intro I131
  refine T_putFR (tab' := [[2, 0, 0, 3, 0, 0, 0, 0, 0, 0, 0, 0, 0, 0, 0, 0, 0, 0, 0, 0, 0, 0, 4, 5, 6, 7, 8, 9, 10, 11, 12, 13, 14, 15, 16, 17, 18, 19, 20, 21, 22, 23, 24, 0, 0, 0, 0, 0, 0, 25, 26, 0, 27, 28, 29, 30, 31]]) hok hI hA fr_X11_103 rfl rfl (show (Lm.take 31)[0]? = some _ from rfl) rfl rfl (by decide) rfl dX11_init_842 ?_
  refine T_aload_n hok 0 rfl rfl dX11_init_845 ?_
  refine T_iconst hok ic_2 dX11_init_846 ?_
  refine T_newI (b := b) (kc := 30) (ks := 1719) (t := 0) (N := 2) (x := (2 : Int32)) (ty := .int) (L' := (Lm.take 32)) (kc' := 31) (ks' := 1721) (n := 31) hok hI rfl rfl (fun _ => rfl) rfl (by decide) rfl rfl (by decide) rfl rfl rfl ac_int (Nat.le_of_ble_eq_true rfl) (Nat.le_of_ble_eq_true rfl) (by decide) (by decide) (by decide) dX11_init_847 ?_
  intro I132
  refine T_putFR (tab' := [[2, 0, 0, 3, 0, 0, 0, 0, 0, 0, 0, 0, 0, 0, 0, 0, 0, 0, 0, 0, 0, 0, 4, 5, 6, 7, 8, 9, 10, 11, 12, 13, 14, 15, 16, 17, 18, 19, 20, 21, 22, 23, 24, 0, 0, 0, 0, 0, 0, 25, 26, 0, 27, 28, 29, 30, 31, 32]]) hok hI hA fr_X11_106 rfl rfl (show (Lm.take 32)[0]? = some _ from rfl) rfl rfl (by decide) rfl dX11_init_849 ?_
  refine T_aload_n hok 0 rfl rfl dX11_init_852 ?_
  refine T_iconst hok ic_2 dX11_init_853 ?_
  refine T_newI (b := b) (kc := 31) (ks := 1721) (t := 0) (N := 2) (x := (2 : Int32)) (ty := .int) (L' := (Lm.take 33)) (kc' := 32) (ks' := 1723) (n := 32) hok hI rfl rfl (fun _ => rfl) rfl (by decide) rfl rfl (by decide) rfl rfl rfl ac_int (Nat.le_of_ble_eq_true rfl) (Nat.le_of_ble_eq_true rfl) (by decide) (by decide) (by decide) dX11_init_854 ?_
  intro I133
  refine T_putFR (tab' := [[2, 0, 0, 3, 0, 0, 0, 0, 0, 0, 0, 0, 0, 0, 0, 0, 0, 0, 0, 0, 0, 0, 4, 5, 6, 7, 8, 9, 10, 11, 12, 13, 14, 15, 16, 17, 18, 19, 20, 21, 22, 23, 24, 0, 0, 0, 0, 0, 0, 25, 26, 0, 27, 28, 29, 30, 31, 32, 33]]) hok hI hA fr_X11_109 rfl rfl (show (Lm.take 33)[0]? = some _ from rfl) rfl rfl (by decide) rfl dX11_init_856 ?_
  refine T_aload_n hok 0 rfl rfl dX11_init_859 ?_
  refine T_iconst hok ic_2 dX11_init_860 ?_
  refine T_newI (b := b) (kc := 32) (ks := 1723) (t := 0) (N := 2) (x := (2 : Int32)) (ty := .int) (L' := (Lm.take 34)) (kc' := 33) (ks' := 1725) (n := 33) hok hI rfl rfl (fun _ => rfl) rfl (by decide) rfl rfl (by decide) rfl rfl rfl ac_int (Nat.le_of_ble_eq_true rfl) (Nat.le_of_ble_eq_true rfl) (by decide) (by decide) (by decide) dX11_init_861 ?_
  intro I134
  refine T_putFR (tab' := [[2, 0, 0, 3, 0, 0, 0, 0, 0, 0, 0, 0, 0, 0, 0, 0, 0, 0, 0, 0, 0, 0, 4, 5, 6, 7, 8, 9, 10, 11, 12, 13, 14, 15, 16, 17, 18, 19, 20, 21, 22, 23, 24, 0, 0, 0, 0, 0, 0, 25, 26, 0, 27, 28, 29, 30, 31, 32, 33, 34]]) hok hI hA fr_X11_112 rfl rfl (show (Lm.take 34)[0]? = some _ from rfl) rfl rfl (by decide) rfl dX11_init_863 ?_
  refine T_aload_n hok 0 rfl rfl dX11_init_866 ?_
  refine T_iconst hok ic_2 dX11_init_867 ?_
  refine T_newI (b := b) (kc := 33) (ks := 1725) (t := 0) (N := 2) (x := (2 : Int32)) (ty := .int) (L' := (Lm.take 35)) (kc' := 34) (ks' := 1727) (n := 34) hok hI rfl rfl (fun _ => rfl) rfl (by decide) rfl rfl (by decide) rfl rfl rfl ac_int (Nat.le_of_ble_eq_true rfl) (Nat.le_of_ble_eq_true rfl) (by decide) (by decide) (by decide) dX11_init_868 ?_
  intro I135
  refine T_putFR (tab' := [[2, 0, 0, 3, 0, 0, 0, 0, 0, 0, 0, 0, 0, 0, 0, 0, 0, 0, 0, 0, 0, 0, 4, 5, 6, 7, 8, 9, 10, 11, 12, 13, 14, 15, 16, 17, 18, 19, 20, 21, 22, 23, 24, 0, 0, 0, 0, 0, 0, 25, 26, 0, 27, 28, 29, 30, 31, 32, 33, 34, 35]]) hok hI hA fr_X11_115 rfl rfl (show (Lm.take 35)[0]? = some _ from rfl) rfl rfl (by decide) rfl dX11_init_870 ?_
  refine T_aload_n hok 0 rfl rfl dX11_init_873 ?_
  refine T_iconst hok ic_2 dX11_init_874 ?_
  refine T_newI (b := b) (kc := 34) (ks := 1727) (t := 0) (N := 2) (x := (2 : Int32)) (ty := .int) (L' := (Lm.take 36)) (kc' := 35) (ks' := 1729) (n := 35) hok hI rfl rfl (fun _ => rfl) rfl (by decide) rfl rfl (by decide) rfl rfl rfl ac_int (Nat.le_of_ble_eq_true rfl) (Nat.le_of_ble_eq_true rfl) (by decide) (by decide) (by decide) dX11_init_875 ?_
  intro I136
  refine T_putFR (tab' := [[2, 0, 0, 3, 0, 0, 0, 0, 0, 0, 0, 0, 0, 0, 0, 0, 0, 0, 0, 0, 0, 0, 4, 5, 6, 7, 8, 9, 10, 11, 12, 13, 14, 15, 16, 17, 18, 19, 20, 21, 22, 23, 24, 0, 0, 0, 0, 0, 0, 25, 26, 0, 27, 28, 29, 30, 31, 32, 33, 34, 35, 36]]) hok hI hA fr_X11_118 rfl rfl (show (Lm.take 36)[0]? = some _ from rfl) rfl rfl (by decide) rfl dX11_init_877 ?_
  refine T_aload_n hok 0 rfl rfl dX11_init_880 ?_
  refine T_sipush hok sp_1792 dX11_init_881 ?_
  refine T_newI (b := b) (kc := 35) (ks := 1729) (t := 0) (N := 1792) (x := (1792 : Int32)) (ty := .int) (L' := (Lm.take 37)) (kc' := 36) (ks' := 3521) (n := 36) hok hI rfl rfl (fun _ => rfl) rfl (by decide) rfl rfl (by decide) rfl rfl rfl ac_int (Nat.le_of_ble_eq_true rfl) (Nat.le_of_ble_eq_true rfl) (by decide) (by decide) (by decide) dX11_init_884 ?_
  intro I137
  refine T_putFR (tab' := [[2, 0, 0, 3, 0, 0, 0, 0, 0, 0, 0, 0, 0, 0, 0, 0, 0, 0, 0, 0, 0, 0, 4, 5, 6, 7, 8, 9, 10, 11, 12, 13, 14, 15, 16, 17, 18, 19, 20, 21, 22, 23, 24, 0, 0, 0, 0, 0, 0, 25, 26, 0, 27, 28, 29, 30, 31, 32, 33, 34, 35, 36, 0, 0, 0, 0, 0, 37]]) hok hI hA fr_X11_121 rfl rfl (show (Lm.take 37)[0]? = some _ from rfl) rfl rfl (by decide) rfl dX11_init_886 ?_
  refine T_aload_n hok 0 rfl rfl dX11_init_889 ?_
  refine T_sipush hok sp_1792 dX11_init_890 ?_
  refine T_newI (b := b) (kc := 36) (ks := 3521) (t := 0) (N := 1792) (x := (1792 : Int32)) (ty := .int) (L' := (Lm.take 38)) (kc' := 37) (ks' := 5313) (n := 37) hok hI rfl rfl (fun _ => rfl) rfl (by decide) rfl rfl (by decide) rfl rfl rfl ac_int (Nat.le_of_ble_eq_true rfl) (Nat.le_of_ble_eq_true rfl) (by decide) (by decide) (by decide) dX11_init_893 ?_
  intro I138
  refine T_putFR (tab' := [[2, 0, 0, 3, 0, 0, 0, 0, 0, 0, 0, 0, 0, 0, 0, 0, 0, 0, 0, 0, 0, 0, 4, 5, 6, 7, 8, 9, 10, 11, 12, 13, 14, 15, 16, 17, 18, 19, 20, 21, 22, 23, 24, 0, 0, 0, 0, 0, 0, 25, 26, 0, 27, 28, 29, 30, 31, 32, 33, 34, 35, 36, 0, 0, 0, 0, 0, 37, 38]]) hok hI hA fr_X11_124 rfl rfl (show (Lm.take 38)[0]? = some _ from rfl) rfl rfl (by decide) rfl dX11_init_895 ?_
  refine T_aload_n hok 0 rfl rfl dX11_init_898 ?_
  refine T_iconst hok ic_m1 dX11_init_899 ?_
  refine T_putI hok (fun k _ => hA k) fr_X11_127 rfl rfl (show (Lm.take 38)[0]? = some _ from rfl) dX11_init_900 ?_
  intro I139
  refine T_aload_n hok 0 rfl rfl dX11_init_903 ?_
  refine T_bipush hok bp_96 dX11_init_904 ?_
  refine T_newI (b := b) (kc := 37) (ks := 5313) (t := 0) (N := 96) (x := (96 : Int32)) (ty := .int) (L' := (Lm.take 39)) (kc' := 38) (ks' := 5409) (n := 38) hok hI rfl rfl (fun _ => rfl) rfl (by decide) rfl rfl (by decide) rfl rfl rfl ac_int (Nat.le_of_ble_eq_true rfl) (Nat.le_of_ble_eq_true rfl) (by decide) (by decide) (by decide) dX11_init_906 ?_
  intro I140
  refine T_putFR (tab' := [[2, 0, 0, 3, 0, 0, 0, 0, 0, 0, 0, 0, 0, 0, 0, 0, 0, 0, 0, 0, 0, 0, 4, 5, 6, 7, 8, 9, 10, 11, 12, 13, 14, 15, 16, 17, 18, 19, 20, 21, 22, 23, 24, 0, 0, 0, 0, 0, 0, 25, 26, 0, 27, 28, 29, 30, 31, 32, 33, 34, 35, 36, 0, 0, 0, 0, 0, 37, 38, 0, 0, 0, 39]]) hok hI hA fr_X11_130 rfl rfl (show (Lm.take 39)[0]? = some _ from rfl) rfl rfl (by decide) rfl dX11_init_908 ?_
  refine T_aload_n hok 0 rfl rfl dX11_init_911 ?_
  refine T_bipush hok bp_24 dX11_init_912 ?_
  refine T_newI (b := b) (kc := 38) (ks := 5409) (t := 3) (N := 24) (x := (24 : Int32)) (ty := .boolean) (L' := (Lm.take 40)) (kc' := 39) (ks' := 5433) (n := 39) hok hI rfl rfl (fun _ => rfl) rfl (by decide) rfl rfl (by decide) rfl rfl rfl ac_boolean (Nat.le_of_ble_eq_true rfl) (Nat.le_of_ble_eq_true rfl) (by decide) (by decide) (by decide) dX11_init_914 ?_
  intro I141
  refine T_putFR (tab' := [[2, 0, 0, 3, 0, 0, 0, 0, 0, 0, 0, 0, 0, 0, 0, 0, 0, 0, 0, 0, 0, 0, 4, 5, 6, 7, 8, 9, 10, 11, 12, 13, 14, 15, 16, 17, 18, 19, 20, 21, 22, 23, 24, 0, 0, 0, 0, 0, 0, 25, 26, 0, 27, 28, 29, 30, 31, 32, 33, 34, 35, 36, 0, 0, 0, 0, 0, 37, 38, 0, 0, 0, 39, 40]]) hok hI hA fr_X11_133 rfl rfl (show (Lm.take 40)[0]? = some _ from rfl) rfl rfl (by decide) rfl dX11_init_916 ?_
  refine T_aload_n hok 0 rfl rfl dX11_init_919 ?_
  refine T_sipush hok sp_160 dX11_init_920 ?_
  refine T_newI (b := b) (kc := 39) (ks := 5433) (t := 0) (N := 160) (x := (160 : Int32)) (ty := .int) (L' := (Lm.take 41)) (kc' := 40) (ks' := 5593) (n := 40) hok hI rfl rfl (fun _ => rfl) rfl (by decide) rfl rfl (by decide) rfl rfl rfl ac_int (Nat.le_of_ble_eq_true rfl) (Nat.le_of_ble_eq_true rfl) (by decide) (by decide) (by decide) dX11_init_923 ?_
  intro I142
  refine T_putFR (tab' := [[2, 0, 0, 3, 0, 0, 0, 0, 0, 0, 0, 0, 0, 0, 0, 0, 0, 0, 0, 0, 0, 0, 4, 5, 6, 7, 8, 9, 10, 11, 12, 13, 14, 15, 16, 17, 18, 19, 20, 21, 22, 23, 24, 0, 0, 0, 0, 0, 0, 25, 26, 0, 27, 28, 29, 30, 31, 32, 33, 34, 35, 36, 0, 0, 0, 0, 0, 37, 38, 0, 0, 0, 39, 40, 0, 41]]) hok hI hA fr_X11_136 rfl rfl (show (Lm.take 41)[0]? = some _ from rfl) rfl rfl (by decide) rfl dX11_init_925 ?_
  refine T_aload_n hok 0 rfl rfl dX11_init_928 ?_
  refine T_bipush hok bp_8 dX11_init_929 ?_
  refine T_newI (b := b) (kc := 40) (ks := 5593) (t := 0) (N := 8) (x := (8 : Int32)) (ty := .int) (L' := (Lm.take 42)) (kc' := 41) (ks' := 5601) (n := 41) hok hI rfl rfl (fun _ => rfl) rfl (by decide) rfl rfl (by decide) rfl rfl rfl ac_int (Nat.le_of_ble_eq_true rfl) (Nat.le_of_ble_eq_true rfl) (by decide) (by decide) (by decide) dX11_init_931 ?_
  intro I143
  refine T_putFR (tab' := [[2, 0, 0, 3, 0, 0, 0, 0, 0, 0, 0, 0, 0, 0, 0, 0, 0, 0, 0, 0, 0, 0, 4, 5, 6, 7, 8, 9, 10, 11, 12, 13, 14, 15, 16, 17, 18, 19, 20, 21, 22, 23, 24, 0, 0, 0, 0, 0, 0, 25, 26, 0, 27, 28, 29, 30, 31, 32, 33, 34, 35, 36, 0, 0, 0, 0, 0, 37, 38, 0, 0, 0, 39, 40, 0, 41, 0, 42]]) hok hI hA fr_X11_139 rfl rfl (show (Lm.take 42)[0]? = some _ from rfl) rfl rfl (by decide) rfl dX11_init_933 ?_
  refine T_aload_n hok 0 rfl rfl dX11_init_936 ?_
  refine T_bipush hok bp_27 dX11_init_937 ?_
  refine T_newI (b := b) (kc := 41) (ks := 5601) (t := 0) (N := 27) (x := (27 : Int32)) (ty := .int) (L' := Lm) (kc' := 42) (ks' := 5628) (n := 42) hok hI rfl rfl (fun _ => rfl) rfl (by decide) rfl rfl (by decide) rfl rfl rfl ac_int (Nat.le_of_ble_eq_true rfl) (Nat.le_of_ble_eq_true rfl) (by decide) (by decide) (by decide) dX11_init_939 ?_
  intro I144
  refine T_putFR (tab' := [[2, 0, 0, 3, 0, 0, 0, 0, 0, 0, 0, 0, 0, 0, 0, 0, 0, 0, 0, 0, 0, 0, 4, 5, 6, 7, 8, 9, 10, 11, 12, 13, 14, 15, 16, 17, 18, 19, 20, 21, 22, 23, 24, 0, 0, 0, 0, 0, 0, 25, 26, 0, 27, 28, 29, 30, 31, 32, 33, 34, 35, 36, 0, 0, 0, 0, 0, 37, 38, 0, 0, 0, 39, 40, 0, 41, 0, 42, 43]]) hok hI hA fr_X11_142 rfl rfl (show Lm[0]? = some _ from rfl) rfl rfl (by decide) rfl dX11_init_941 ?_
  refine T_aload_n hok 0 rfl rfl dX11_init_944 ?_
  refine T_cv1 (CR_V (rest := []) hok (ct_X11_plain (fun k _ => hA k) I144 J126) mw_X11_plain mv_X11_plain ml_X11_145 (show Lm[0]? = some _ from rfl) dX11_init_945 rfl rfl (roomOk rfl) rfl) (kc' := 42) (ks' := 5628) rfl rfl ?_
  intro I145
  refine T_aload_n hok 0 rfl rfl dX11_init_948 ?_
  refine T_cv2 (CR_V (rest := []) hok (ct_X11_keepText (fun k _ => hA k) I145 J126) mw_X11_keepText mv_X11_keepText ml_X11_148 (show Lm[0]? = some _ from rfl) dX11_init_949 rfl rfl (roomOk rfl) rfl) (kc' := 42) (ks' := 5628) rfl rfl ?_
  intro I146 J147
  exact T_vret hok dX11_init_952 (Nat.le_of_ble_eq_true rfl) (Nat.le_of_ble_eq_true rfl) rfl
