/-! reading: all lines -/
theorem Dr.fi {dr : Nat} {I I' M : MI} (h : Dr dr I M) (hdr : dr = 2 ∨ dr = 18) (f : ∀ q k, dr ≤ q → q < dr + 16 → I' q k = I q k) : Dr dr I' M := by
  obtain ⟨nk, nh, nw, nd, kn, K, H, W, D, S, L⟩ := h
  exact ⟨nk, nh, nw, nd, kn, K.fr (fun q k h => f q k (by omega) (by omega)) (fun _ _ _ => rfl), H.fr (fun q k h => f q k (by omega) (by omega)) (fun _ _ _ => rfl), W.fr (Nat.le_refl _) (Nat.le_refl _) (fun q k h => f q k (by omega) (by omega)) (fun _ _ _ => rfl), D.fr (Nat.le_refl _) (fun q k h => f q k (by omega) (by omega)) (fun _ _ _ => rfl), S.fr (fun k h => f dr k (by omega) (by omega)) (fun _ _ _ => rfl), L.fr (fun q k h => f q k (by omega) (by omega)) (fun _ _ _ => rfl)⟩
def sRd (pb : Nat) (r42 : MI → Option (Bool × Nat × MI)) (I9 : MI) : Option (Bool × Nat × MI) := if (I9 36 4) = (35 : Int32) then (bd1 (f_X0_settle I9 pb) (fun I8 => some (true, pb, I8))) else (if (700 : Int32) ≤ (I9 34 4) then (bd1 (f_X0_settle I9 pb) (fun I8 => some (true, pb, I8))) else (bd2 (f_X6_readLine pb I9) (fun x10 I11 => if x10 = true then (lt (st2 I11 34 4 ((I11 34 4) + (1 : Int32))) (fun I12 => bd1 (f_X7_step I12) (fun I13 => r42 I13))) else (some (false, pb, I11)))))
theorem sRd_e (pb : Nat) (r42 : MI → Option (Bool × Nat × MI)) (I9 : MI) : sRd pb r42 I9 = (if (I9 36 4) = (35 : Int32) then (bd1 (f_X0_settle I9 pb) (fun I8 => some (true, pb, I8))) else (if (700 : Int32) ≤ (I9 34 4) then (bd1 (f_X0_settle I9 pb) (fun I8 => some (true, pb, I8))) else (bd2 (f_X6_readLine pb I9) (fun x10 I11 => if x10 = true then (lt (st2 I11 34 4 ((I11 34 4) + (1 : Int32))) (fun I12 => bd1 (f_X7_step I12) (fun I13 => r42 I13))) else (some (false, pb, I11)))))) := rfl
def sTx (J : MJ) (r55 : Int32 → MI → Option (Int32 × MI × MJ)) (x13 : Int32) (I14 : MI) : Option (Int32 × MI × MJ) := if (I14 0 8) = (0 : Int32) then (bd2 (f_X11_keepText I14 J) (fun I11 J12 => some (x13, I11, J12))) else (bd2 (f_X11_lineRead I14) (fun x15 I16 => if x15 = true then (lt (x13 + (1 : Int32)) (fun x17 => r55 x17 I16)) else (some ((-1 : Int32), I16, J))))
theorem sTx_e (J : MJ) (r55 : Int32 → MI → Option (Int32 × MI × MJ)) (x13 : Int32) (I14 : MI) : sTx J r55 x13 I14 = (if (I14 0 8) = (0 : Int32) then (bd2 (f_X11_keepText I14 J) (fun I11 J12 => some (x13, I11, J12))) else (bd2 (f_X11_lineRead I14) (fun x15 I16 => if x15 = true then (lt (x13 + (1 : Int32)) (fun x17 => r55 x17 I16)) else (some ((-1 : Int32), I16, J))))) := rfl
theorem p_begin {I : MI} {a : Int32} : f_X7_begin I a = some (st2 (st2 I 36 2 a) 36 3 0) := rfl
theorem read_e (it : Nat) (I : MI) (a1 : Int32) (pb : Nat) : f_X6_read it I a1 pb = bd1 (f_X0_clear I pb) (fun I1 => bd1 (f_X7_step (st2 (st2 (st2 (st2 (st2 I1 36 2 a1) 36 3 0) 34 4 0) 34 5 0) 34 6 (-1))) (fun I6 => fix1 (sRd pb) FU I6)) := by
  delta f_X6_read
  refine congrArg (bd1 _) ?_
  funext I1
  rw [p_begin, bd1_s]
  refine (lt_e _ _).trans ?_
  refine (lt_e _ _).trans ?_
  refine (lt_e _ _).trans ?_
  refine congrArg (bd1 _) ?_
  funext I6
  refine (lt_e _ _).trans ?_
  refine congrArg (fun s => fix1 s FU I6) ?_
  funext r42 I9
  rfl
theorem text_e (I : MI) (J : MJ) (a1 : Int32) : f_X11_text I J a1 = if a1 < 0 then some (-2, st2 I 0 2 0, J) else if a1 ≤ st2 I 0 2 0 0 1 then bd1 (f_X11_plain (st2 (st2 (st2 (st2 (st2 (st2 I 0 2 0) 0 6 a1) 0 1 0) 0 4 0) 0 5 (-1)) 0 7 0)) (fun I7 => bd1 (f_X11_token I7) (fun I8 => fix2 (sTx J) FU 0 I8)) else some (-2, st2 I 0 2 0, J) := by
  delta f_X11_text
  refine (lt_e _ _).trans ?_
  refine (lt_e _ _).trans ?_
  refine congrArg (fun s => if a1 < 0 then some (-2, st2 I 0 2 0, J) else if a1 ≤ st2 I 0 2 0 0 1 then s else some (-2, st2 I 0 2 0, J)) ?_
  refine (lt_e _ _).trans ?_
  refine (lt_e _ _).trans ?_
  refine (lt_e _ _).trans ?_
  refine (lt_e _ _).trans ?_
  refine (lt_e _ _).trans ?_
  refine congrArg (bd1 _) ?_
  funext I7
  refine congrArg (bd1 _) ?_
  funext I8
  refine (lt_e _ _).trans ?_
  refine congrArg (fun s => fix2 s FU 0 I8) ?_
  funext r55 x13 I14
  rfl
def Tout (dr : Nat) (o1 : Option (Bool × Nat × MI)) (o2 : Option (Int32 × MI × MJ)) (I M : MI) (J : MJ) : Prop :=
  (∃ I' M' i, o1 = bd1 (f_X0_settle I' dr) (fun I8 => some (true, dr, I8)) ∧ o2 = bd2 (f_X11_keepText M' J) (fun I11 J12 => some (Int32.ofNat i, I11, J12)) ∧ I' 34 4 = Int32.ofNat i ∧ Dr dr I' M' ∧ (∀ k, 5 ≤ k → I' 34 k = I 34 k) ∧ M' 0 4 = M 0 4 ∧ M' 0 5 = M 0 5 ∧ FrI dr I I' ∧ FrM M M') ∨
  (∃ I' M', o1 = some (false, dr, I') ∧ o2 = some (-1, M', J) ∧ FlR I' M' ∧ FrI dr I I' ∧ FrM M M')
theorem text_R {dr n : Nat} {T : Nat → Nat} {J : MJ} (hdr : dr = 2 ∨ dr = 18) : ∀ (d n1 n2 p i : Nat) (I M : MI), n - p ≤ d → d < n1 → d < n2 → i ≤ p → p ≤ n → Std I T n p → Ahd M T n p → Dr dr I M → I 34 4 = Int32.ofNat i → Tout dr (fix1 (sRd dr) n1 I) (fix2 (sTx J) n2 (Int32.ofNat i) M) I M J
  | d, n1 + 1, n2 + 1, p, i, I, M, hd, hn1, hn2, hi, hpn, hS, hA, hD, h4 => by
    have hcd := qC_le (n := n) (p := p) hS.1.1
    have hn7 := hS.1.2.1
    have k0 := hA.2.2.k0
    show Tout dr (sRd dr (fix1 (sRd dr) n1) I) (sTx J (fix2 (sTx J) n2) (Int32.ofNat i) M) I M J
    rw [sRd_e, sTx_e, hS.2.2.1]
    by_cases h35 : qC T n p = 35
    · rw [if_pos ((k_eq (y := 35) (b := 35) rfl (by omega) (by omega)).mpr h35), if_pos (k0.mpr h35)]
      exact Or.inl ⟨I, M, i, rfl, rfl, h4, hD, fun _ _ => rfl, rfl, rfl, fun _ _ _ _ _ _ => rfl, fun _ _ _ => rfl⟩
    · have hlt := q_lt (T := T) (n := n) hS.1.1 hpn h35
      have hqn := hS.1.2.2.1
      rw [if_neg (fun h => h35 ((k_eq (y := 35) (b := 35) rfl (by omega) (by omega)).mp h)), if_neg (fun h => h35 (k0.mp h)), h4, if_neg (show ¬ (700 : Int32) ≤ Int32.ofNat i from fun h => by have := (k_el (y := 700) (b := 700) rfl (by omega) (by omega)).mp h; omega)]
      rcases c_line hdr hS (by omega) hA hD with ⟨I', M', p', e1, e2, hp', t', a', d', fS, fI, fM⟩ | ⟨I', M', e1, e2, hf, fI, fM⟩
      · rw [e1, e2, bd2_s, bd2_s, if_pos rfl, if_pos rfl, lt_e, lt_e, fS.1 4 (by omega), h4, n_t1]
        have t2 : TkI (st2 I' 34 4 (Int32.ofNat (i + 1))) T n p' := t'.st (st2_ne (by omega)) (st2_ne (by omega)) (fun k _ _ => s2x (by omega))
        obtain ⟨I3, e3, f3, s3⟩ := c_step t2
        rw [e3, bd1_s]
        have hp'n := t'.2.2.1
        cases d with
        | zero => omega
        | succ d =>
          have ih := text_R (J := J) hdr d n1 n2 p' (i + 1) I3 M' (by omega) (by omega) (by omega) (by omega) hp'n s3 a' (d'.fi hdr (fun q k _ _ => by rw [f3 _ _ (by omega), s2x (by omega)])) (by rw [f3 _ _ (by omega), st2_at, if_pos rfl])
          rcases ih with ⟨I4, M4, i4, g1, g2, g3, g4, g5, g6, g7, g8, g9⟩ | ⟨I4, M4, g1, g2, g3, g4, g5⟩
          · refine Or.inl ⟨I4, M4, i4, g1, g2, g3, g4, fun k hk => ?_, g6.trans fS.2.1, g7.trans fS.2.2, fun q k a b c e => ?_, fM.tr g9⟩
            · rw [g5 k hk, f3 _ _ (by omega), s2x (by omega), fS.1 k (by omega)]
            · rw [g8 q k a b c e, f3 _ _ (by omega), s2x (by omega), fI q k a b c e]
          · refine Or.inr ⟨I4, M4, g1, g2, g3, fun q k a b c e => ?_, fM.tr g5⟩
            rw [g4 q k a b c e, f3 _ _ (by omega), s2x (by omega), fI q k a b c e]
      · rw [e1, e2, bd2_s, bd2_s, if_neg ff, if_neg ff]
        exact Or.inr ⟨I', M', rfl, rfl, hf, fI, fM⟩
  termination_by d => d
