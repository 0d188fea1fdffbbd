/-! reading: a line -/
theorem sw_hit {α : Type} {x c : Int32} {o d : Option α} {r : List (Int32 × Option α)} (h : x = c) : sw x ((c, o) :: r) d = o := by
  show (if x = c then o else sw x r d) = o
  rw [if_pos h]
theorem sw_miss {α : Type} {x c : Int32} {o d : Option α} {r : List (Int32 × Option α)} (h : ¬ x = c) : sw x ((c, o) :: r) d = sw x r d := by
  show (if x = c then o else sw x r d) = _
  rw [if_neg h]
theorem sw_nil {α : Type} {x : Int32} {d : Option α} : sw x [] d = d := rfl
theorem Dr.ft {dr : Nat} {I I' M M' : MI} (h : Dr dr I M) (hdr : dr = 2 ∨ dr = 18) (f : FT I I') (f' : FM M M') : Dr dr I' M' := by
  obtain ⟨nk, nh, nw, nd, kn, K, H, W, D, S, L⟩ := h
  exact ⟨nk, nh, nw, nd, kn, K.fr (fun q k h => f q k (by omega)) (fun q k h => f' q k (by omega)), H.fr (fun q k h => f q k (by omega)) (fun q k h => f' q k (by omega)), W.fr (Nat.le_refl _) (Nat.le_refl _) (fun q k h => f q k (by omega)) (fun q k h => f' q k (by omega)), D.fr (Nat.le_refl _) (fun q k h => f q k (by omega)) (fun q k h => f' q k (by omega)), S.fr (fun k h => f dr k (by omega)) (fun q k h => f' q k (by omega)), L.fr (fun q k h => f q k (by omega)) (fun q k h => f' q k (by omega))⟩
theorem l_end {dr : Nat} {o1 o2 : Option (Bool × MI)} {I M : MI} {T : Nat → Nat} {n q : Nat} (hdr : dr = 2 ∨ dr = 18) (h : Lout dr o1 o2 I M T n q) : Xout dr (bd2 o1 (fun x1 I2 => lt (fun (x3 : Bool) (I4 : MI) => some (x3, I4)) (fun j67 => lt (fun (I5 : MI) => j67 false I5) (fun j66 => if x1 = true then (bd2 (f_X6_isEnd I2) (fun x6 I7 => if x6 = true then (j67 true I7) else (j66 I7))) else (j66 I2))))) (bd2 o2 (fun x9 I10 => lt (bi x9) (fun x11 => fin x11 I10))) I M T n q := by
  rcases h with ⟨I', M', p', rfl, rfl, hp, t', a', d', h4, fI, fM⟩ | ⟨I', M', rfl, rfl, hf, fI, fM⟩
  · rw [bd2_s, bd2_s]
    simp only [lt_e]
    unfold fin
    rw [if_pos trivial, if_neg (show ¬ bi true = 0 by decide), m_isSg (t := 59) (y := 59) a' rfl (by omega), bd1_s, show sgC 59 = 20 from rfl]
    rcases p_isEnd t' with ⟨I2, c2, e2, f2, s2⟩ | ⟨I2, c2, e2, f2, w5, w6⟩
    · obtain ⟨M2, e3, f3, a3⟩ := m_next a'.1
      rw [e2, bd2_s, if_pos rfl, decide_eq_true c2, if_pos rfl, e3, bd1_s]
      have hlt := q_lt (T := T) (n := n) t'.1 t'.2.2.1 (by rw [c2]; decide)
      refine Or.inl ⟨I2, M2, qQ T n p', rfl, rfl, by omega, s2.1, a3, d'.ft hdr f2 f3, h4.tr ⟨fun k _ => f2 _ _ (by omega), f3 _ _ (by omega), f3 _ _ (by omega)⟩, fI.tr f2.tf.fr, fM.tr f3.tf.fr⟩
    · rw [e2, bd2_s, if_neg ff, decide_eq_false c2, if_neg ff, m_wrong, bd2_s]
      refine Or.inr ⟨I2, _, rfl, rfl, ⟨?_, ?_⟩, fI.tr f2.fr, fM.tr fl_TFM.fr⟩
      · rw [w5]; unfold flM; rw [s2x (by omega), st2_at, if_pos rfl]
      · rw [w6]; unfold flM; rw [st2_at, if_pos rfl]; exact a'.2.1.symm
  · rw [bd2_s, bd2_s]
    simp only [lt_e]
    unfold fin
    rw [if_neg ff, if_pos (show bi false = 0 from rfl)]
    exact Or.inr ⟨I', M', rfl, rfl, hf, fI, fM⟩
theorem c_line {dr : Nat} {I M : MI} {T : Nat → Nat} {n p : Nat} (hdr : dr = 2 ∨ dr = 18) (hS : Std I T n p) (hp0 : 0 < qQ T n p) (hA : Ahd M T n p) (hD : Dr dr I M) : Xout dr (f_X6_readLine dr I) (f_X11_lineRead M) I M T n (qQ T n p) := by
  have hcd := qC_le (n := n) (p := p) hS.1.1
  have k1 := hA.2.2.k1
  delta f_X6_readLine
  rw [lineRead_e, lt_e, hS.2.2.1]
  by_cases h6 : qC T n p ≤ 6
  · have hs : swp (qC T n p) = qC T n p := by
      have := (swp_9 ⟨qC T n p, by omega⟩).2.2
      simp only at this
      exact this (by omega)
    rw [if_pos (k1.1.mpr (by omega)), k1.2 (by omega), hs, if_pos ((k_le (y := 6) (b := 6) rfl (by omega) (by omega)).mpr h6)]
    rcases (show qC T n p = 0 ∨ qC T n p = 1 ∨ qC T n p = 2 ∨ qC T n p = 3 ∨ qC T n p = 4 ∨ qC T n p = 5 ∨ qC T n p = 6 by omega) with e | e | e | e | e | e | e
    · rw [e, sw_hit (by rfl), sw_hit (by rfl)]
      exact l_end hdr (l_kind hdr hS hA hD)
    · rw [e, sw_miss (by decide), sw_hit (by rfl), sw_miss (by decide), sw_hit (by rfl)]
      exact l_end hdr (l_house hdr hS hA hD)
    · rw [e, sw_miss (by decide), sw_miss (by decide), sw_hit (by rfl), sw_miss (by decide), sw_miss (by decide), sw_hit (by rfl)]
      exact l_end hdr (l_day hdr hS hA hD)
    · rw [e, sw_miss (by decide), sw_miss (by decide), sw_miss (by decide), sw_hit (by rfl), sw_miss (by decide), sw_miss (by decide), sw_miss (by decide), sw_hit (by rfl)]
      exact l_end hdr (l_work hdr hS hA hD)
    · rw [e, sw_miss (by decide), sw_miss (by decide), sw_miss (by decide), sw_miss (by decide), sw_hit (by rfl), sw_miss (by decide), sw_miss (by decide), sw_miss (by decide), sw_miss (by decide), sw_hit (by rfl)]
      exact l_end hdr (l_term hdr hS hA hD)
    · rw [e, sw_miss (by decide), sw_miss (by decide), sw_miss (by decide), sw_miss (by decide), sw_miss (by decide), sw_hit (by rfl), sw_miss (by decide), sw_miss (by decide), sw_miss (by decide), sw_miss (by decide), sw_miss (by decide), sw_hit (by rfl)]
      exact l_end hdr (l_seed hdr hS hA hD)
    · rw [e, sw_miss (by decide), sw_miss (by decide), sw_miss (by decide), sw_miss (by decide), sw_miss (by decide), sw_miss (by decide), sw_hit (by rfl), sw_miss (by decide), sw_miss (by decide), sw_miss (by decide), sw_miss (by decide), sw_miss (by decide), sw_miss (by decide), sw_nil]
      have h := l_law hdr hS hp0 hA hD
      rcases h with ⟨I', M', p', e1, e2, r⟩ | ⟨I', M', e1, e2, r⟩
      · rw [e1, bd2_s]; exact Or.inl ⟨I', M', p', rfl, e2, r⟩
      · rw [e1, bd2_s]; exact Or.inr ⟨I', M', rfl, e2, r⟩
  · have hn : ∀ (x : Int32) (c : Nat), x = Int32.ofNat c → c ≤ 6 → ¬ Int32.ofNat (qC T n p) = x := fun x c hx hc h => by
      have := (k_eq hx (by omega) (by omega)).mp h; omega
    have hM0 : ∀ X : Option (Bool × MI), (if (M 0 8) = (1 : Int32) then (if (M 0 9) ≤ (6 : Int32) then X else (bd2 (f_X11_wrong M 1) fun x1 I2 => some (x1, I2))) else (bd2 (f_X11_wrong M 1) fun x1 I2 => some (x1, I2))) = some (false, flM M 1) := fun X => by
      rw [m_wrong, bd2_s]
      by_cases c1 : M 0 8 = 1
      · have hc := k1.1.mp c1
        have s9 := swp_9 ⟨qC T n p, hc⟩
        have sl := sw_lt hc
        simp only at s9
        rw [if_pos c1, k1.2 hc, if_neg (fun h => by have h' := (k_le (y := 6) (b := 6) rfl (by omega) (by omega)).mp h; have := s9.1.mp (by omega); omega)]
      · rw [if_neg c1]
    rw [hM0, sw_miss (hn 0 0 rfl (by omega)), sw_miss (hn 1 1 rfl (by omega)), sw_miss (hn 2 2 rfl (by omega)), sw_miss (hn 3 3 rfl (by omega)), sw_miss (hn 4 4 rfl (by omega)), sw_miss (hn 5 5 rfl (by omega)), sw_miss (hn 6 6 rfl (by omega)), sw_nil, p_fails, bd2_s]
    exact Or.inr ⟨_, _, rfl, rfl, fl_R (hS.2.1.trans hA.2.1.symm), fl_TF.fr, fl_TFM.fr⟩
