/-! reading a law: numbers, names, brackets, not -/
def vl (c : Nat) : Bool := decide (c = 33 ∨ c = 22 ∨ (13 ≤ c ∧ c ≤ 19))
def FS (dr f : Nat) (I M : MI) (T : Nat → Nat) (n p m : Nat) (W st : List Nat) (c : Nat) (wt : Bool) : Prop := TkI I T n p ∧ Ahd M T n p ∧ FmR dr f I M m W st ∧ I 34 3 = Int32.ofNat (opn W) ∧ M 0 45 = Int32.ofNat (opn W) ∧ opn W ≤ 8 ∧ I (dr + 11) 4 = Int32.ofNat c ∧ M 0 46 = Int32.ofNat c ∧ c ≤ 64 ∧ f + m + nn W = c ∧ M 0 47 = bi wt ∧ st.length = bn W + (if wt = true then 0 else 1) ∧ (wt = true → (M 0 48 = 0 ↔ 4 ≤ rkl W))
def GI (dr f : Nat) (I I' : MI) : Prop := ∀ q k, ¬ (q = 34 ∧ (k = 2 ∨ k = 3 ∨ k = 5 ∨ k = 6)) → q ≠ 35 → q ≠ 36 → ¬ (q = dr + 11 ∧ (k = 4 ∨ k = 5)) → ¬ (q = dr + 12 ∧ f ≤ k) → I' q k = I q k
def GM (f : Nat) (M M' : MI) : Prop := ∀ q k, ¬ (q = 0 ∧ ((4 ≤ k ∧ k ≤ 11 ∧ k ≠ 6) ∨ k = 21 ∨ (43 ≤ k ∧ k ≤ 48))) → q ≠ 22 → q ≠ 23 → ¬ (19 ≤ q ∧ q ≤ 21 ∧ 64 + f ≤ k) → M' q k = M q k
theorem GI.tr {dr f : Nat} {I I' I'' : MI} (h : GI dr f I I') (h' : GI dr f I' I'') : GI dr f I I'' := fun q k a b c d e => (h' q k a b c d e).trans (h q k a b c d e)
theorem GM.tr {f : Nat} {I I' I'' : MI} (h : GM f I I') (h' : GM f I' I'') : GM f I I'' := fun q k a b c d => (h' q k a b c d).trans (h q k a b c d)
def Sout (dr f : Nat) (o1 o2 : Option (Bool × MI)) (I M : MI) (T : Nat → Nat) (n p : Nat) : Prop :=
  (∃ I' M' m' W' st' c', o1 = some (true, I') ∧ o2 = some (true, M') ∧ FS dr f I' M' T n (qQ T n p) m' W' st' c' (!vl (qC T n p)) ∧ I' 36 4 = Int32.ofNat (qC T n p) ∧ qC T n p ≠ 35 ∧ FlS I I' M M' ∧ GI dr f I I' ∧ GM f M M') ∨
  (∃ I' M', o1 = some (false, I') ∧ o2 = some (false, M') ∧ FlR I' M' ∧ GI dr f I I' ∧ GM f M M')
theorem fl_I {I : MI} {c : Int32} {q k : Nat} (h : ¬ (q = 34 ∧ (k = 5 ∨ k = 6))) : flI I c q k = I q k := by unfold flI; rw [s2x (by omega), s2x (by omega)]
theorem fl_M {I : MI} {c : Int32} {q k : Nat} (h : ¬ (q = 0 ∧ (k = 4 ∨ k = 5))) : flM I c q k = I q k := by unfold flM; rw [s2x (by omega), s2x (by omega)]
theorem FmR.fr {dr f m : Nat} {I M I' M' : MI} {W st : List Nat} (h : FmR dr f I M m W st) (hI : ∀ q k, (q = 34 ∧ k = 2) ∨ q = 35 ∨ (q = dr + 11 ∧ k = 5) ∨ q = dr + 12 → I' q k = I q k) (hM : ∀ q k, (q = 0 ∧ (k = 21 ∨ k = 43 ∨ k = 44)) ∨ (19 ≤ q ∧ q ≤ 23) → M' q k = M q k) : FmR dr f I' M' m W st := by
  obtain ⟨e1, e2, e3, e4, e5, hW, hH, hp⟩ := h
  refine ⟨by rw [hI _ _ (by omega)]; exact e1, by rw [hM _ _ (by omega)]; exact e2, by rw [hM _ _ (by omega)]; exact e3, by rw [hI _ _ (by omega)]; exact e4, by rw [hM _ _ (by omega)]; exact e5, hW.fr W (fun k _ => ⟨hI _ _ (by omega), hM _ _ (by omega)⟩), hH.fr st (fun k _ => hM _ _ (by omega)), Wp_congr m st (fun j _ _ => ⟨hI _ _ (by omega), hM _ _ (by omega), hM _ _ (by omega), hM _ _ (by omega)⟩) hp⟩
theorem FmR.push {dr f m w : Nat} {I M I' M' : MI} {W st : List Nat} (h : FmR dr f I M m W st) (hw : okw w) (i1 : I' 34 2 = Int32.ofNat (W.length + 1)) (i2 : I' 35 W.length = Int32.ofNat (cc w)) (i3 : M' 0 43 = Int32.ofNat (W.length + 1)) (i4 : M' 22 W.length = Int32.ofNat w) (hI : ∀ q k, (q = 35 ∧ k < W.length) ∨ (q = dr + 11 ∧ k = 5) ∨ q = dr + 12 → I' q k = I q k) (hM : ∀ q k, (q = 0 ∧ (k = 21 ∨ k = 44)) ∨ (19 ≤ q ∧ q ≤ 21) ∨ q = 23 ∨ (q = 22 ∧ k < W.length) → M' q k = M q k) : FmR dr f I' M' m (w :: W) st := by
  obtain ⟨e1, e2, e3, e4, e5, hW, hH, hp⟩ := h
  refine ⟨i1, i3, by rw [hM _ _ (by omega)]; exact e3, by rw [hI _ _ (by omega)]; exact e4, by rw [hM _ _ (by omega)]; exact e5, ⟨i2, i4, hw, hW.fr W (fun k _ => ⟨hI _ _ (by omega), hM _ _ (by omega)⟩)⟩, hH.fr st (fun k _ => hM _ _ (by omega)), Wp_congr m st (fun j _ _ => ⟨hI _ _ (by omega), hM _ _ (by omega), hM _ _ (by omega), hM _ _ (by omega)⟩) hp⟩
theorem FmR.leaf {dr f m : Nat} {I M I' M' : MI} {W st : List Nat} {code k a b : Int32} (h : FmR dr f I M m W st) (hfm : f + m < 64) (i1 : I' (dr + 11) 5 = Int32.ofNat (f + m + 1)) (i2 : ∀ j, I' (dr + 12) j = if j = f + m then code else I (dr + 12) j) (hI : ∀ q k, (q = 34 ∧ k = 2) ∨ q = 35 → I' q k = I q k) (hM : ∀ q j, (q = 0 ∧ (j = 21 ∨ j = 43 ∨ j = 44)) ∨ (19 ≤ q ∧ q ≤ 23) → M' q j = gr M (f + m) st.length k a b q j) (hs : ∀ C K P O : Nat → Int32, C (f + m) = code → K (f + m) = k → P (f + m) = a → O (f + m) = b → Sp1 C K P O (f + m) st ((f + m) :: st)) : FmR dr f I' M' (m + 1) W ((f + m) :: st) := by
  obtain ⟨e1, e2, e3, e4, e5, hW, hH, hp⟩ := h
  refine ⟨by rw [hI _ _ (by omega)]; exact e1, by rw [hM _ _ (by omega), gr_ne (by omega) (by omega) (by omega)]; exact e2, by rw [hM _ _ (by omega), gr_44, List.length_cons], by rw [i1, show f + m + 1 = f + (m + 1) by omega], by rw [hM _ _ (by omega), gr_21a, show f + m + 1 = f + (m + 1) by omega], hW.fr W (fun k _ => ⟨hI _ _ (by omega), by rw [hM _ _ (by omega), gr_ne (by omega) (by omega) (by omega)]⟩), ⟨by rw [hM _ _ (by omega), gr_23], by omega, hH.fr st (fun k _ => by rw [hM _ _ (by omega), gr_ne (by omega) (by omega) (by omega)])⟩, Wp_put rfl hp i2 (fun q j qa qb => hM q j (by omega)) hs⟩
theorem k_lt {a b : Nat} {y : Int32} (hy : y = Int32.ofNat b) (ha : a < 2147483648) (hb : b < 2147483648) : Int32.ofNat a < y ↔ a < b := by rw [hy]; exact n_lt ha hb
theorem k_tl {a b : Nat} {y : Int32} (hy : y = Int32.ofNat b) (ha : a < 2147483648) (hb : b < 2147483648) : y < Int32.ofNat a ↔ b < a := by rw [hy]; exact n_lt hb ha
theorem k_le {a b : Nat} {y : Int32} (hy : y = Int32.ofNat b) (ha : a < 2147483648) (hb : b < 2147483648) : Int32.ofNat a ≤ y ↔ a ≤ b := by rw [hy]; exact n_le ha hb
theorem k_el {a b : Nat} {y : Int32} (hy : y = Int32.ofNat b) (ha : a < 2147483648) (hb : b < 2147483648) : y ≤ Int32.ofNat a ↔ b ≤ a := by rw [hy]; exact n_le hb ha
theorem k_eq {a b : Nat} {y : Int32} (hy : y = Int32.ofNat b) (ha : a < 2147483648) (hb : b < 2147483648) : Int32.ofNat a = y ↔ a = b := by rw [hy]; exact n_eq ha hb
theorem p_isKnot {it c : Nat} {I : MI} (h : I (it + 11) 4 = Int32.ofNat c) (hc : c ≤ 64) : f_X6_isKnot it I = if c = 64 then some (false, flI I 2) else some (true, st2 I (it + 11) 4 (Int32.ofNat (c + 1))) := by
  delta f_X6_isKnot
  simp only [lt]
  rw [h]
  by_cases e : c = 64
  · rw [if_pos e, if_neg (fun h => by have := (k_lt (y := 64) (b := 64) rfl (by omega) (by omega)).mp h; omega), p_fails, bd2_s]
  · rw [if_neg e, if_pos ((k_lt (y := 64) (b := 64) rfl (by omega) (by omega)).mpr (by omega)), n_t1]
theorem m_isCounted {c : Nat} {M : MI} (h : M 0 46 = Int32.ofNat c) (hc : c ≤ 64) : f_X11_isCounted M = if c = 64 then some (false, flM M 2) else some (true, st2 M 0 46 (Int32.ofNat (c + 1))) := by
  delta f_X11_isCounted
  simp only [lt]
  rw [h]
  by_cases e : c = 64
  · rw [if_pos e, if_pos (by rw [e]; rfl), m_wrong, bd2_s]
  · rw [if_neg e, if_neg (fun h => e ((k_eq (y := 64) (b := 64) rfl (by omega) (by omega)).mp h)), n_t1]
theorem p_puts {it x : Nat} {I : MI} {c : Int32} (h : I (it + 11) 5 = Int32.ofNat x) (hx : x < 64) : f_X6_puts it I c = some (true, st2 (st2 I (it + 12) x c) (it + 11) 5 (Int32.ofNat (x + 1))) := by
  delta f_X6_puts
  rw [p_lad h hx, bd1_s]
theorem p_holds {l : Nat} {I : MI} {c : Int32} (h : I 34 2 = Int32.ofNat l) (hl : l < 72) : f_X6_holds I c = some (true, st2 (st2 I 35 l c) 34 2 (Int32.ofNat (l + 1))) := by
  delta f_X6_holds
  simp only [lt]
  rw [h, if_neg (fun e => by have := (n_le (a := 72) (by omega) (by omega)).mp e; omega), gd_t ((n_inb (by omega)).mpr hl), n_ix (by omega), show st2 I 35 l c 34 2 = Int32.ofNat l by rw [s2x (by omega)]; exact h, n_t1]
theorem m_waitsFor {l : Nat} {M : MI} {c : Int32} (h : M 0 43 = Int32.ofNat l) (hl : l < 96) : f_X11_waitsFor M c = some (st2 (st2 M 22 l c) 0 43 (Int32.ofNat (l + 1))) := by
  delta f_X11_waitsFor
  simp only [lt]
  rw [h, gd_t ((n_inb (by omega)).mpr hl), n_ix (by omega), show st2 M 22 l c 0 43 = Int32.ofNat l by rw [s2x (by omega)]; exact h, n_t1]
theorem p_isName {c : Nat} {I : MI} (h : I 36 4 = Int32.ofNat c) (hc : c ≤ 36) : f_X7_isName I = some (decide (13 ≤ c ∧ c ≤ 19)) := by
  delta f_X7_isName
  simp only [lt]
  rw [h]
  by_cases e : c < 13
  · rw [if_pos ((k_lt (y := 13) (b := 13) rfl (by omega) (by omega)).mpr e), decide_eq_false (by omega)]
  · rw [if_neg (fun h => e ((k_lt (y := 13) (b := 13) rfl (by omega) (by omega)).mp h))]
    by_cases e2 : 19 < c
    · rw [if_pos ((k_tl (y := 19) (b := 19) rfl (by omega) (by omega)).mpr e2), decide_eq_false (by omega)]
    · rw [if_neg (fun h => e2 ((k_tl (y := 19) (b := 19) rfl (by omega) (by omega)).mp h)), decide_eq_true (by omega)]
theorem swp_13 : ∀ c : Fin 20, (13 ≤ swp c.1 ↔ 13 ≤ c.1) ∧ (13 ≤ c.1 → swp c.1 = c.1) := by decide +kernel
theorem m_nameMet {M : MI} {T : Nat → Nat} {n p : Nat} (h : Ahd M T n p) : f_X11_nameMet M = some (if 13 ≤ qC T n p ∧ qC T n p ≤ 19 then Int32.ofNat (qC T n p - 13) else -1) := by
  have k1 := h.2.2.k1
  delta f_X11_nameMet
  simp only [lt]
  by_cases c1 : M 0 8 = 1
  · have hc := k1.1.mp c1
    have s := swp_13 ⟨qC T n p, hc⟩
    have sl := sw_lt hc
    simp only at s
    rw [if_pos c1, k1.2 hc]
    by_cases c2 : 13 ≤ qC T n p
    · rw [s.2 c2, if_neg (fun e => by have := (k_lt (y := 13) (b := 13) rfl (by omega) (by omega)).mp e; omega), if_pos ⟨c2, by omega⟩, show (13 : Int32) = Int32.ofNat 13 from rfl, n_sub c2]
    · rw [if_pos ((k_lt (y := 13) (b := 13) rfl (by omega) (by omega)).mpr (by omega)), if_neg (by omega)]
  · have hc : ¬ qC T n p < 20 := fun e => c1 (k1.1.mpr e)
    rw [if_neg c1, if_neg (by omega)]
theorem p_latest {I M : MI} {W : List Nat} (h : I 34 2 = Int32.ofNat W.length) (hW : WtR I M W) (hl : W.length ≤ 72) : f_X6_rankOfLatest I = some (Int32.ofNat (rkl W)) := by
  delta f_X6_rankOfLatest
  simp only [lt]
  rw [h]
  cases W with
  | nil => rw [if_pos (by decide)]; rfl
  | cons w r =>
    obtain ⟨w1, w2, w3, w4⟩ := hW
    rw [List.length_cons] at hl ⊢
    rw [if_neg (n_pos (by omega)), n_m1, gd_t ((n_inb (by omega)).mpr (by omega)), n_ix (by omega), w1, (rk_c w3).1, bd1_s]; rfl
theorem rkl_le {I M : MI} : ∀ W, WtR I M W → rkl W ≤ 6
  | [], _ => Nat.zero_le _
  | w :: _, ⟨_, _, h, _⟩ => (rk_c h).2.2.1
