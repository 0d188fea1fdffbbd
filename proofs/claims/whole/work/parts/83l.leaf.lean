/-! reading a law: a value, side by side -/
theorem m_isSg {M : MI} {T : Nat → Nat} {n p t : Nat} {y : Int32} (h : Ahd M T n p) (hy : y = Int32.ofNat t) (ht : t = 59 ∨ t = 40 ∨ t = 41 ∨ t = 43 ∨ t = 45 ∨ t = 42 ∨ t = 47) : f_X11_isSign M y = some (decide (qC T n p = sgC t)) := by rw [hy]; exact m_isSign h ht
theorem m_isKy {M : MI} {T : Nat → Nat} {n p j : Nat} {y : Int32} (h : Ahd M T n p) (hy : y = Int32.ofNat j) (hj : j < 20) : f_X11_isKey M y = some (decide (qC T n p = swp j)) := by rw [hy]; exact m_isKey h hj
theorem pv_num {dr c x v : Nat} {I : MI} (h4 : I 36 4 = Int32.ofNat 33) (h6 : I 36 6 = Int32.ofNat v) (hv : v ≤ 1000000) (hc : I (dr + 11) 4 = Int32.ofNat c) (hc2 : c ≤ 64) (hx : I (dr + 11) 5 = Int32.ofNat x) (hx2 : c < 64 → x < 64) (hdr : dr = 2 ∨ dr = 18) : f_X6_readValue dr I = if c = 64 then some (false, flI I 2) else if v ≤ 9999 then some (true, st2 (st2 (st2 I (dr + 11) 4 (Int32.ofNat (c + 1))) (dr + 12) x (Int32.ofNat v)) (dr + 11) 5 (Int32.ofNat (x + 1))) else some (false, flI (st2 I (dr + 11) 4 (Int32.ofNat (c + 1))) 2) := by
  delta f_X6_readValue
  simp only [lt]
  rw [h4, if_pos (show Int32.ofNat 33 = 33 from rfl), p_isKnot hc hc2]
  by_cases e : c = 64
  · rw [if_pos e, if_pos e, bd2_s, if_neg ff]
  · rw [if_neg e, if_neg e, bd2_s, if_pos rfl]
    have r6 : st2 I (dr + 11) 4 (Int32.ofNat (c + 1)) 36 6 = Int32.ofNat v := by rw [s2x (by omega)]; exact h6
    rw [r6]
    by_cases e2 : v ≤ 9999
    · rw [if_pos e2, if_pos ((k_le (y := 9999) (b := 9999) rfl (by omega) (by omega)).mpr e2), p_puts (x := x) (by rw [s2x (by omega)]; exact hx) (hx2 (by omega)), bd2_s, if_pos rfl]
    · rw [if_neg e2, if_neg (fun h => e2 ((k_le (y := 9999) (b := 9999) rfl (by omega) (by omega)).mp h)), p_fails, bd2_s, if_neg ff]
theorem pv_name {dr c x cd : Nat} {I : MI} (h4 : I 36 4 = Int32.ofNat cd) (hcd : 13 ≤ cd ∧ cd ≤ 19) (hc : I (dr + 11) 4 = Int32.ofNat c) (hc2 : c ≤ 64) (hx : I (dr + 11) 5 = Int32.ofNat x) (hx2 : c < 64 → x < 64) (hdr : dr = 2 ∨ dr = 18) : f_X6_readValue dr I = if c = 64 then some (false, flI I 2) else some (true, st2 (st2 (st2 I (dr + 11) 4 (Int32.ofNat (c + 1))) (dr + 12) x (Int32.ofNat (10000 + (cd - 13)))) (dr + 11) 5 (Int32.ofNat (x + 1))) := by
  delta f_X6_readValue
  simp only [lt]
  rw [p_isName h4 (by omega), bd1_s, decide_eq_true hcd, if_pos rfl, h4, if_neg (fun h => by have := (k_eq (y := 33) (b := 33) rfl (by omega) (by omega)).mp h; omega), p_isKnot hc hc2]
  by_cases e : c = 64
  · rw [if_pos e, if_pos e, bd2_s, if_neg ff]
  · rw [if_neg e, if_neg e, bd2_s, if_pos rfl]
    have r6 : (10000 : Int32) + st2 I (dr + 11) 4 (Int32.ofNat (c + 1)) 36 4 - 13 = Int32.ofNat (10000 + (cd - 13)) := by
      rw [s2x (by omega), h4, show (10000 : Int32) + Int32.ofNat cd = Int32.ofNat (10000 + cd) from n_add 10000 cd, show (13 : Int32) = Int32.ofNat 13 from rfl, n_sub (by omega), show 10000 + cd - 13 = 10000 + (cd - 13) by omega]
    rw [r6, p_puts (x := x) (by rw [s2x (by omega)]; exact hx) (hx2 (by omega)), bd2_s, if_pos rfl]
theorem pv_open {dr o l : Nat} {I : MI} (h4 : I 36 4 = Int32.ofNat 21) (ho : I 34 3 = Int32.ofNat o) (ho2 : o ≤ 8) (hl : I 34 2 = Int32.ofNat l) (hl2 : o < 8 → l < 72) : f_X6_readValue dr I = if o = 8 then some (false, flI I 2) else some (true, st2 (st2 (st2 I 34 3 (Int32.ofNat (o + 1))) 35 l (Int32.ofNat 21)) 34 2 (Int32.ofNat (l + 1))) := by
  delta f_X6_readValue
  simp only [lt]
  rw [p_isName h4 (by omega), bd1_s, decide_eq_false (by omega), if_neg ff, h4, if_neg (show ¬ Int32.ofNat 21 = 33 by decide), if_pos (show Int32.ofNat 21 = 21 from rfl), ho]
  by_cases e : o = 8
  · rw [if_pos e, if_neg (fun h => by have := (k_lt (y := 8) (b := 8) rfl (by omega) (by omega)).mp h; omega), p_fails, bd2_s]
  · rw [if_neg e, if_pos ((k_lt (y := 8) (b := 8) rfl (by omega) (by omega)).mpr (by omega)), n_t1, p_holds (l := l) (by rw [s2x (by omega)]; exact hl) (hl2 (by omega)), bd2_s]
    rfl
theorem pv_not {dr c l r : Nat} {I : MI} (h4 : I 36 4 = Int32.ofNat 12) (hr : f_X6_rankOfLatest I = some (Int32.ofNat r)) (hr2 : r ≤ 6) (hc : I (dr + 11) 4 = Int32.ofNat c) (hc2 : c ≤ 64) (hl : I 34 2 = Int32.ofNat l) (hl2 : c < 64 → l < 72) (hdr : dr = 2 ∨ dr = 18) : f_X6_readValue dr I = if 4 ≤ r then some (false, flI I 1) else if c = 64 then some (false, flI I 2) else some (true, st2 (st2 (st2 I (dr + 11) 4 (Int32.ofNat (c + 1))) 35 l (Int32.ofNat 12)) 34 2 (Int32.ofNat (l + 1))) := by
  delta f_X6_readValue
  simp only [lt]
  rw [p_isName h4 (by omega), bd1_s, decide_eq_false (by omega), if_neg ff, h4, if_neg (show ¬ Int32.ofNat 12 = 33 by decide), if_neg (show ¬ Int32.ofNat 12 = 21 by decide), if_pos (show Int32.ofNat 12 = 12 from rfl), hr, bd1_s]
  by_cases e4 : 4 ≤ r
  · rw [if_pos e4, if_pos ((k_el (y := 4) (b := 4) rfl (by omega) (by omega)).mpr e4), p_fails, bd2_s]
  · rw [if_neg e4, if_neg (fun h => e4 ((k_el (y := 4) (b := 4) rfl (by omega) (by omega)).mp h)), p_isKnot hc hc2]
    by_cases e : c = 64
    · rw [if_pos e, if_pos e, bd2_s, if_neg ff]
    · rw [if_neg e, if_neg e, bd2_s, if_pos rfl, p_holds (l := l) (by rw [s2x (by omega)]; exact hl) (hl2 (by omega)), bd2_s, if_pos rfl]
      rfl
theorem pv_else {dr cd : Nat} {I : MI} (h4 : I 36 4 = Int32.ofNat cd) (hcd : cd ≤ 36) (h1 : cd ≠ 33) (h2 : ¬ (13 ≤ cd ∧ cd ≤ 19)) (h3 : cd ≠ 21) (h5 : cd ≠ 12) : f_X6_readValue dr I = some (false, flI I 1) := by
  delta f_X6_readValue
  simp only [lt]
  rw [p_isName h4 hcd, bd1_s, decide_eq_false h2, if_neg ff, h4, if_neg (fun h => h1 ((k_eq (y := 33) (b := 33) rfl (by omega) (by omega)).mp h)), if_neg (fun h => h3 ((k_eq (y := 21) (b := 21) rfl (by omega) (by omega)).mp h)), if_neg (fun h => h5 ((k_eq (y := 12) (b := 12) rfl (by omega) (by omega)).mp h)), p_fails, bd2_s]
theorem ml_num {c x h w : Nat} {M : MI} {T : Nat → Nat} {n p : Nat} (hA : Ahd M T n p) (h4 : qC T n p = 33) (hw : M 0 9 = Int32.ofNat w) (hw2 : w ≤ 1000000) (hc : M 0 46 = Int32.ofNat c) (hc2 : c ≤ 64) (hx : M 0 21 = Int32.ofNat x) (hx2 : c < 64 → x < 64) (hh : M 0 44 = Int32.ofNat h) (hh2 : h < 96) : f_X11_leafRead M = if w ≤ 9999 then (if c = 64 then some (false, flM M 2) else bd1 (f_X11_token (st2 (gr (st2 M 0 46 (Int32.ofNat (c + 1))) x h 0 (Int32.ofNat w) 0) 0 47 0)) (fun I => some (true, I))) else some (false, flM M 2) := by
  delta f_X11_leafRead
  simp only [lt]
  rw [m_isSg (t := 40) (y := 40) hA rfl (by omega), bd1_s, decide_eq_false (by rw [h4]; decide), if_neg ff, m_isKy (j := 12) (y := 12) hA rfl (by omega), bd1_s, decide_eq_false (by rw [h4]; decide), if_neg ff, m_nameMet hA, bd1_s, if_neg (show ¬ (13 ≤ qC T n p ∧ qC T n p ≤ 19) by omega), if_neg (show ¬ (0 : Int32) ≤ -1 by decide), if_pos (hA.2.2.k3.1.mpr h4), if_neg (show ¬ (0 : Int32) ≤ -1 by decide), hw, m_isCounted hc hc2]
  by_cases e2 : w ≤ 9999
  · rw [if_pos e2, if_pos ((k_le (y := 9999) (b := 9999) rfl (by omega) (by omega)).mpr e2)]
    by_cases e : c = 64
    · rw [if_pos e, if_pos e, bd2_s, if_neg ff]
    · rw [if_neg e, if_neg e, bd2_s, if_pos rfl, if_pos (show (-1 : Int32) < 0 by decide), if_pos (show (-1 : Int32) < 0 by decide), m_grown (x := x) (h := h) (by rw [s2x (by omega)]; exact hx) (hx2 (by omega)) (by rw [s2x (by omega)]; exact hh) hh2, bd1_s, gd_t (show is01 0 = true from rfl), show st2 M 0 46 (Int32.ofNat (c + 1)) 0 9 = Int32.ofNat w by rw [s2x (by omega)]; exact hw]
      rfl
  · rw [if_neg e2, if_neg (fun h => e2 ((k_le (y := 9999) (b := 9999) rfl (by omega) (by omega)).mp h)), m_wrong, bd2_s]
theorem ml_name {c x h : Nat} {M : MI} {T : Nat → Nat} {n p : Nat} (hA : Ahd M T n p) (h4 : 13 ≤ qC T n p ∧ qC T n p ≤ 19) (hc : M 0 46 = Int32.ofNat c) (hc2 : c ≤ 64) (hx : M 0 21 = Int32.ofNat x) (hx2 : c < 64 → x < 64) (hh : M 0 44 = Int32.ofNat h) (hh2 : h < 96) : f_X11_leafRead M = if c = 64 then some (false, flM M 2) else bd1 (f_X11_token (st2 (gr (st2 M 0 46 (Int32.ofNat (c + 1))) x h 1 (Int32.ofNat (qC T n p - 13)) 0) 0 47 0)) (fun I => some (true, I)) := by
  delta f_X11_leafRead
  simp only [lt]
  have g0 : (0 : Int32) ≤ Int32.ofNat (qC T n p - 13) := (k_el (y := 0) (b := 0) rfl (by omega) (by omega)).mpr (by omega)
  have g1 : ¬ Int32.ofNat (qC T n p - 13) < 0 := fun h => by have := (k_lt (y := 0) (b := 0) rfl (by omega) (by omega)).mp h; omega
  rw [m_isSg (t := 40) (y := 40) hA rfl (by omega), bd1_s, decide_eq_false (by show ¬ qC T n p = 21; omega), if_neg ff, m_isKy (j := 12) (y := 12) hA rfl (by omega), bd1_s, decide_eq_false (by show ¬ qC T n p = 12; omega), if_neg ff, m_nameMet hA, bd1_s, if_pos h4, if_pos g0, if_pos g0, m_isCounted hc hc2]
  by_cases e : c = 64
  · rw [if_pos e, if_pos e, bd2_s, if_neg ff]
  · rw [if_neg e, if_neg e, bd2_s, if_pos rfl, if_neg g1, if_neg g1, m_grown (x := x) (h := h) (by rw [s2x (by omega)]; exact hx) (hx2 (by omega)) (by rw [s2x (by omega)]; exact hh) hh2, bd1_s, gd_t (show is01 0 = true from rfl)]
    rfl
theorem ml_open {o l : Nat} {M : MI} {T : Nat → Nat} {n p : Nat} (hA : Ahd M T n p) (h4 : qC T n p = 21) (ho : M 0 45 = Int32.ofNat o) (ho2 : o ≤ 8) (hl : M 0 43 = Int32.ofNat l) (hl2 : o < 8 → l < 96) : f_X11_leafRead M = if o = 8 then some (false, flM M 2) else bd1 (f_X11_token (st2 (st2 (st2 (st2 M 0 45 (Int32.ofNat (o + 1))) 22 l (Int32.ofNat 0)) 0 43 (Int32.ofNat (l + 1))) 0 48 1)) (fun I => some (true, I)) := by
  delta f_X11_leafRead
  simp only [lt]
  rw [m_isSg (t := 40) (y := 40) hA rfl (by omega), bd1_s, decide_eq_true (by rw [h4]; decide), if_pos rfl, ho]
  by_cases e : o = 8
  · rw [if_pos e, if_pos (by rw [e]; rfl), m_wrong, bd2_s]
  · rw [if_neg e, if_neg (fun h => e ((k_eq (y := 8) (b := 8) rfl (by omega) (by omega)).mp h)), n_t1, m_waitsFor (l := l) (by rw [s2x (by omega)]; exact hl) (hl2 (by omega)), bd1_s, gd_t (show is01 1 = true from rfl)]
    rfl
theorem ml_not {c l : Nat} {M : MI} {T : Nat → Nat} {n p : Nat} (hA : Ahd M T n p) (h4 : qC T n p = 12) (hc : M 0 46 = Int32.ofNat c) (hc2 : c ≤ 64) (hl : M 0 43 = Int32.ofNat l) (hl2 : c < 64 → l < 96) : f_X11_leafRead M = if M 0 48 = 0 then some (false, flM M 1) else if c = 64 then some (false, flM M 2) else bd1 (f_X11_token (st2 (st2 (st2 M 0 46 (Int32.ofNat (c + 1))) 22 l (Int32.ofNat 2)) 0 43 (Int32.ofNat (l + 1)))) (fun I => some (true, I)) := by
  delta f_X11_leafRead
  simp only [lt]
  rw [m_isSg (t := 40) (y := 40) hA rfl (by omega), bd1_s, decide_eq_false (by rw [h4]; decide), if_neg ff, m_isKy (j := 12) (y := 12) hA rfl (by omega), bd1_s, decide_eq_true (by rw [h4]; decide), if_pos rfl]
  by_cases e4 : M 0 48 = 0
  · rw [if_pos e4, if_pos e4, m_nameMet hA, bd1_s, if_neg (show ¬ (13 ≤ qC T n p ∧ qC T n p ≤ 19) by omega), if_neg (show ¬ (0 : Int32) ≤ -1 by decide), if_neg (fun e => by have := hA.2.2.k3.1.mp e; omega), m_wrong, bd2_s]
  · rw [if_neg e4, if_neg e4, m_isCounted hc hc2]
    by_cases e : c = 64
    · rw [if_pos e, if_pos e, bd2_s, if_neg ff]
    · rw [if_neg e, if_neg e, bd2_s, if_pos rfl, m_waitsFor (l := l) (by rw [s2x (by omega)]; exact hl) (hl2 (by omega)), bd1_s]
      rfl
theorem ml_else {M : MI} {T : Nat → Nat} {n p : Nat} (hA : Ahd M T n p) (h1 : qC T n p ≠ 33) (h2 : ¬ (13 ≤ qC T n p ∧ qC T n p ≤ 19)) (h3 : qC T n p ≠ 21) (h5 : qC T n p ≠ 12) : f_X11_leafRead M = some (false, flM M 1) := by
  delta f_X11_leafRead
  simp only [lt]
  rw [m_isSg (t := 40) (y := 40) hA rfl (by omega), bd1_s, decide_eq_false (show ¬ qC T n p = sgC 40 from h3), if_neg ff, m_isKy (j := 12) (y := 12) hA rfl (by omega), bd1_s, decide_eq_false (show ¬ qC T n p = swp 12 from h5), if_neg ff, m_nameMet hA, bd1_s, if_neg h2, if_neg (show ¬ (0 : Int32) ≤ -1 by decide), if_neg (fun e => h1 (hA.2.2.k3.1.mp e)), m_wrong, bd2_s]
