/-! reading a law: the whole of it -/
def sFc (it : Nat) (r14 : Int32 → Int32 → MI → Option (Bool × MI)) (x8 x9 : Int32) (I10 : MI) : Option (Bool × MI) := if (700 : Int32) ≤ x9 then (bd2 (f_X6_fails I10 (1 : Int32)) (fun x4 I5 => some (x4, I5))) else (bd1 (f_X7_step I10) (fun I11 => lt (lt (fun (x12 : Bool) (I13 : MI) => lt (bi x12) (fun x14 => if x14 = (0 : Int32) then (some (false, I13)) else (lt (fun (x15 : Bool) => lt (bi x15) (fun x16 => lt (x9 + (1 : Int32)) (fun x17 => r14 x16 x17 I13))) (fun j119 => lt (j119 true) (fun j114 => if (I13 36 4) = (33 : Int32) then j114 else (if (I13 36 4) = (22 : Int32) then j114 else (bd1 (f_X7_isName I13) (fun x18 => if x18 = true then j114 else (j119 false))))))))) (fun j73 => if x8 = (0 : Int32) then (bd2 (f_X6_readValue it I11) (fun x19 I20 => j73 x19 I20)) else (bd2 (f_X6_readBehindValue it I11) (fun x21 I22 => j73 x21 I22)))) (fun j58 => if x8 = (0 : Int32) then j58 else (if (I11 36 4) = (20 : Int32) then (if (I11 34 3) = (0 : Int32) then (bd1 (f_X6_release it I11 (1 : Int32)) (fun I7 => some (true, I7))) else j58) else j58))))
theorem sFc_e (it : Nat) (r14 : Int32 → Int32 → MI → Option (Bool × MI)) (x8 x9 : Int32) (I10 : MI) : sFc it r14 x8 x9 I10 = (if (700 : Int32) ≤ x9 then (bd2 (f_X6_fails I10 (1 : Int32)) (fun x4 I5 => some (x4, I5))) else (bd1 (f_X7_step I10) (fun I11 => lt (lt (fun (x12 : Bool) (I13 : MI) => lt (bi x12) (fun x14 => if x14 = (0 : Int32) then (some (false, I13)) else (lt (fun (x15 : Bool) => lt (bi x15) (fun x16 => lt (x9 + (1 : Int32)) (fun x17 => r14 x16 x17 I13))) (fun j119 => lt (j119 true) (fun j114 => if (I13 36 4) = (33 : Int32) then j114 else (if (I13 36 4) = (22 : Int32) then j114 else (bd1 (f_X7_isName I13) (fun x18 => if x18 = true then j114 else (j119 false))))))))) (fun j73 => if x8 = (0 : Int32) then (bd2 (f_X6_readValue it I11) (fun x19 I20 => j73 x19 I20)) else (bd2 (f_X6_readBehindValue it I11) (fun x21 I22 => j73 x21 I22)))) (fun j58 => if x8 = (0 : Int32) then j58 else (if (I11 36 4) = (20 : Int32) then (if (I11 34 3) = (0 : Int32) then (bd1 (f_X6_release it I11 (1 : Int32)) (fun I7 => some (true, I7))) else j58) else j58))))) := rfl
theorem form_e (it : Nat) (I : MI) : f_X6_readFormula it I = fix3 (sFc it) FU 0 0 (st2 (st2 I 34 2 0) 34 3 0) := by
  delta f_X6_readFormula
  refine (lt_e _ _).trans ?_
  refine (lt_e _ _).trans ?_
  refine (lt_e _ _).trans ?_
  refine (lt_e _ _).trans ?_
  refine congrArg (fun s => fix3 s FU 0 0 (st2 (st2 I 34 2 0) 34 3 0)) ?_
  funext r14 x8 x9 I10
  rfl
def sFm (r25 : MI → Option (Bool × MI)) (I9 : MI) : Option (Bool × MI) := bd1 (f_X11_isSign I9 (59 : Int32)) (fun x10 => lt (if (I9 0 47) = (0 : Int32) then (bd2 (f_X11_signs I9) (fun x11 I12 => if x11 = true then (r25 I12) else (some (false, I12)))) else (bd2 (f_X11_leafRead I9) (fun x13 I14 => if x13 = true then (r25 I14) else (some (false, I14))))) (fun j48 => if x10 = true then (if (I9 0 47) = (0 : Int32) then (if (I9 0 45) ≤ (0 : Int32) then (bd1 (f_X11_bind I9 (1 : Int32)) (fun I8 => some (true, I8))) else j48) else j48) else j48))
theorem sFm_e (r25 : MI → Option (Bool × MI)) (I9 : MI) : sFm r25 I9 = (bd1 (f_X11_isSign I9 (59 : Int32)) (fun x10 => lt (if (I9 0 47) = (0 : Int32) then (bd2 (f_X11_signs I9) (fun x11 I12 => if x11 = true then (r25 I12) else (some (false, I12)))) else (bd2 (f_X11_leafRead I9) (fun x13 I14 => if x13 = true then (r25 I14) else (some (false, I14))))) (fun j48 => if x10 = true then (if (I9 0 47) = (0 : Int32) then (if (I9 0 45) ≤ (0 : Int32) then (bd1 (f_X11_bind I9 (1 : Int32)) (fun I8 => some (true, I8))) else j48) else j48) else j48))) := rfl
def sI (I : MI) : MI := st2 (st2 (st2 (st2 (st2 I 0 43 0) 0 44 0) 0 45 0) 0 47 1) 0 48 1
theorem sum_e (I : MI) : f_X11_sumRead I = fix1 sFm FU (sI I) := by
  delta f_X11_sumRead
  refine (lt_e _ _).trans ?_
  refine (lt_e _ _).trans ?_
  refine (lt_e _ _).trans ?_
  refine (gd_t (show is01 1 = true from rfl)).trans ?_
  refine (lt_e _ _).trans ?_
  refine (gd_t (show is01 1 = true from rfl)).trans ?_
  refine (lt_e _ _).trans ?_
  refine (lt_e _ _).trans ?_
  refine (lt_e _ _).trans ?_
  refine congrArg (fun s => fix1 s FU (sI I)) ?_
  funext r25 I9
  rfl
theorem Wp_top {C K P O : Nat → Int32} {f : Nat} : ∀ m st, Wp C K P O f m st → st.length = 1 → 1 ≤ m ∧ st = [f + m - 1]
  | 0, st, h, hl => by
    have : st = [] := h
    rw [this] at hl; exact absurd hl (by decide)
  | m + 1, st', h, hl => by
    obtain ⟨st, h1, h2⟩ := h
    have key : ∃ r, st' = (f + m) :: r := by
      rcases h2 with ⟨_, _, _, _, _, rfl⟩ | ⟨_, _, _, _, _, rfl⟩ | ⟨a, r, _, _, _, _, rfl⟩ | ⟨a, b, r, k, _, _, _, _, _, _, _, rfl⟩
      · exact ⟨_, rfl⟩
      · exact ⟨_, rfl⟩
      · exact ⟨_, rfl⟩
      · exact ⟨_, rfl⟩
    obtain ⟨r, rfl⟩ := key
    rw [List.length_cons] at hl
    have : r = [] := List.eq_nil_of_length_eq_zero (by omega)
    rw [this]
    exact ⟨by omega, by rw [show f + (m + 1) - 1 = f + m by omega]⟩
def Fout (dr f : Nat) (o1 o2 : Option (Bool × MI)) (I M : MI) (T : Nat → Nat) (n p : Nat) : Prop :=
  (∃ I' M' p' m c, o1 = some (true, I') ∧ o2 = some (true, M') ∧ TkI I' T n (qQ T n p') ∧ Ahd M' T n p' ∧ qC T n p' = 20 ∧ p ≤ p' ∧ 1 ≤ m ∧ f + m = c ∧ c ≤ 64 ∧ I' (dr + 11) 5 = Int32.ofNat c ∧ M' 0 21 = Int32.ofNat c ∧ I' (dr + 11) 4 = Int32.ofNat c ∧ M' 0 46 = Int32.ofNat c ∧ Wf (I' (dr + 12)) (hi64 M' 19) (hi64 M' 20) (hi64 M' 21) m f [] ∧ FlS I I' M M' ∧ GI dr f I I' ∧ GM f M M') ∨
  (∃ I' M', o1 = some (false, I') ∧ o2 = some (false, M') ∧ FlR I' M' ∧ GI dr f I I' ∧ GM f M M')
theorem Fout.pre {dr f n p p' : Nat} {T : Nat → Nat} {o1 o2 : Option (Bool × MI)} {I M I' M' : MI} (h : Fout dr f o1 o2 I' M' T n p') (hp : p ≤ p') (hS : FlS I I' M M') (hI : GI dr f I I') (hM : GM f M M') : Fout dr f o1 o2 I M T n p := by
  rcases h with ⟨J, N, p2, m, c, a1, a2, a3, a4, a5, a6, a7, a8, a9, a10, a11, a12, a13, a14, aS, a15, a16⟩ | ⟨J, N, a1, a2, a3, a4, a5⟩
  · exact Or.inl ⟨J, N, p2, m, c, a1, a2, a3, a4, a5, by omega, a7, a8, a9, a10, a11, a12, a13, a14, hS.tr aS, hI.tr a15, hM.tr a16⟩
  · exact Or.inr ⟨J, N, a1, a2, a3, hI.tr a4, hM.tr a5⟩
/-- what follows a piece that was read -/
theorem val_e {I13 : MI} {cd : Nat} {x9 : Int32} (h4 : I13 36 4 = Int32.ofNat cd) (hcd : cd ≤ 36) (r14 : Int32 → Int32 → MI → Option (Bool × MI)) : (lt (fun (x15 : Bool) => lt (bi x15) (fun x16 => lt (x9 + (1 : Int32)) (fun x17 => r14 x16 x17 I13))) (fun j119 => lt (j119 true) (fun j114 => if (I13 36 4) = (33 : Int32) then j114 else (if (I13 36 4) = (22 : Int32) then j114 else (bd1 (f_X7_isName I13) (fun x18 => if x18 = true then j114 else (j119 false))))))) = r14 (bi (vl cd)) (x9 + 1) I13 := by
  simp only [lt]
  rw [p_isName h4 hcd, bd1_s, h4]
  unfold vl
  by_cases e1 : cd = 33
  · rw [if_pos ((k_eq (y := 33) (b := 33) rfl (by omega) (by omega)).mpr e1), decide_eq_true (Or.inl e1)]
  rw [if_neg (fun h => e1 ((k_eq (y := 33) (b := 33) rfl (by omega) (by omega)).mp h))]
  by_cases e2 : cd = 22
  · rw [if_pos ((k_eq (y := 22) (b := 22) rfl (by omega) (by omega)).mpr e2), decide_eq_true (Or.inr (Or.inl e2))]
  rw [if_neg (fun h => e2 ((k_eq (y := 22) (b := 22) rfl (by omega) (by omega)).mp h))]
  by_cases e3 : 13 ≤ cd ∧ cd ≤ 19
  · rw [decide_eq_true e3, if_pos rfl, decide_eq_true (Or.inr (Or.inr e3))]
  · rw [decide_eq_false e3, if_neg ff, decide_eq_false (by omega)]
theorem form_R {dr f n : Nat} {T : Nat → Nat} (hdr : dr = 2 ∨ dr = 18) : ∀ (d n1 n2 p i m c : Nat) (W st : List Nat) (wt : Bool) (I M : MI), n - p ≤ d → d < n1 → d < n2 → i + 1 ≤ p → FS dr f I M T n p m W st c wt → Fout dr f (fix3 (sFc dr) n1 (bi (!wt)) (Int32.ofNat i) I) (fix1 sFm n2 M) I M T n p
  | d, n1 + 1, n2 + 1, p, i, m, c, W, st, wt, I, M, hd, hn1, hn2, hi, hF => by
    have hF' := hF
    obtain ⟨hT, hA, hR, o1, o2, o3, c1, c2, c3, c4, w1, w2, w3⟩ := hF'
    obtain ⟨I1, e1, f1, s1⟩ := c_step hT
    have hcd := qC_le (n := n) (p := p) hT.1
    have hpn := hT.2.2.1
    have hn7 := hT.2.1
    have htb := tok_b hT.1 hpn
    show Fout dr f (sFc dr (fix3 (sFc dr) n1) (bi (!wt)) (Int32.ofNat i) I) (sFm (fix1 sFm n2) M) I M T n p
    rw [sFc_e, sFm_e, if_neg (show ¬ (700 : Int32) ≤ Int32.ofNat i from fun h => by have := (k_el (y := 700) (b := 700) rfl (by omega) (by omega)).mp h; omega), e1, bd1_s, m_isSg (t := 59) (y := 59) hA rfl (by omega), bd1_s, show sgC 59 = 20 from rfl, lt_e, lt_e, lt_e]
    have go : ∀ o1 o2, Sout dr f o1 o2 I M T n p → Fout dr f (bd2 o1 (fun x12 I13 => (lt (bi x12) (fun x14 => if x14 = (0 : Int32) then (some (false, I13)) else (lt (fun (x15 : Bool) => lt (bi x15) (fun x16 => lt (Int32.ofNat i + (1 : Int32)) (fun x17 => (fix3 (sFc dr) n1) x16 x17 I13))) (fun j119 => lt (j119 true) (fun j114 => if (I13 36 4) = (33 : Int32) then j114 else (if (I13 36 4) = (22 : Int32) then j114 else (bd1 (f_X7_isName I13) (fun x18 => if x18 = true then j114 else (j119 false))))))))))) (bd2 o2 (fun x11 I12 => if x11 = true then (fix1 sFm n2 I12) else (some (false, I12)))) I M T n p := by
      intro o1 o2 hS
      rcases hS with ⟨I', M', m', W', st', c', rfl, rfl, a3, a4, a5, aS, a6, a7⟩ | ⟨I', M', rfl, rfl, a3, a4, a5⟩
      · rw [bd2_s, bd2_s, lt_e, if_neg (show ¬ bi true = 0 by decide), if_pos rfl, val_e a4 hcd, n_t1]
        have hlt := htb.2.2.2 a5
        have hq : p < qQ T n p := by unfold qQ; omega
        have hqn := a3.1.2.2.1
        cases d with
        | zero => omega
        | succ d =>
          have ih := form_R hdr d n1 n2 (qQ T n p) (i + 1) m' c' W' st' (!vl (qC T n p)) I' M' (by omega) (by omega) (by omega) (by omega) a3
          rw [Bool.not_not] at ih
          exact ih.pre (by omega) aS a6 a7
      · rw [bd2_s, bd2_s, lt_e, if_pos (show bi false = 0 from rfl), if_neg ff]
        exact Or.inr ⟨_, _, rfl, rfl, a3, a4, a5⟩
    cases wt with
    | true =>
      have e47 : ¬ M 0 47 = 0 := by rw [w1]; decide
      rw [if_neg e47, if_neg e47, if_pos (show bi (!true) = 0 from rfl), if_pos (show bi (!true) = 0 from rfl)]
      have hh : (if decide (qC T n p = 20) = true then (bd2 (f_X11_leafRead M) (fun x13 I14 => if x13 = true then (fix1 sFm n2 I14) else (some (false, I14)))) else (bd2 (f_X11_leafRead M) (fun x13 I14 => if x13 = true then (fix1 sFm n2 I14) else (some (false, I14))))) = (bd2 (f_X11_leafRead M) (fun x13 I14 => if x13 = true then (fix1 sFm n2 I14) else (some (false, I14)))) := by split <;> rfl
      rw [hh]
      exact go _ _ (c_leaf hdr hF f1 s1)
    | false =>
      have e47 : M 0 47 = 0 := by rw [w1]; rfl
      have hx8 : ¬ bi (!false) = 0 := by decide
      rw [if_pos e47, if_pos e47, if_neg hx8, s1.2.2.1, if_neg hx8]
      by_cases hend : qC T n p = 20 ∧ opn W = 0
      · obtain ⟨h20, ho0⟩ := hend
        have i3 : I1 34 3 = 0 := by rw [f1 _ _ (by omega), o1, ho0]; rfl
        rw [decide_eq_true h20, if_pos rfl, if_pos ((k_eq (y := 20) (b := 20) rfl (by omega) (by omega)).mpr h20), if_pos i3, o2, ho0, if_pos (by decide)]
        rw [if_neg ff] at w2
        have hR1 : FmR dr f I1 M m W st := hR.fr (fun q k h => f1 q k (by omega)) (fun _ _ _ => rfl)
        obtain ⟨I2, M2, m', W', st', g1, g2, g3, g4, g5, g6, g7, g8, g9, g10⟩ := c_rel (y := 1) (least := 1) hdr rfl (by omega) (by omega) o3 hR1 w2 (by omega)
        rw [g1, g2, bd1_s, bd1_s]
        obtain ⟨r1, r2, r3, r4, r5, rW, rH, rP⟩ := g3
        have hnil : W' = [] := by
          cases W' with
          | nil => rfl
          | cons w R =>
            have hw0 : w = 0 := (rk_c rW.2.2.1).2.2.2.1 (by have : rk w < 1 := g8; omega)
            subst hw0
            have := (opn_c0 R).1
            omega
        subst hnil
        obtain ⟨t1, t2⟩ := Wp_top m' st' rP g4
        have hnn : nn [] = 0 := rfl
        have hc : f + m' = c := by omega
        refine Or.inl ⟨I2, M2, p, m', c, rfl, rfl, s1.1.st (funext fun k => g9 _ _ (by omega) (by omega) (by omega)) (funext fun k => g9 _ _ (by omega) (by omega) (by omega)) (fun k _ _ => g9 _ _ (by omega) (by omega) (by omega)), hA.to (funext fun k => g10 _ _ (by omega) (by omega) (by omega)) (funext fun k => g10 _ _ (by omega) (by omega) (by omega)) (fun k _ _ => g10 _ _ (by omega) (by omega) (by omega)), h20, by omega, t1, hc, c3, by rw [r4, hc], by rw [r5, hc], ?_, ?_, ?_, ⟨fun k hk => by rw [g9 _ _ (by omega) (by omega) (by omega), f1 _ _ (by omega)], g10 _ _ (by omega) (by omega) (by omega), g10 _ _ (by omega) (by omega) (by omega)⟩, fun q k a b c d e => ?_, fun q k a b c d => ?_⟩
        · rw [g9 _ _ (by omega) (by omega) (by omega), f1 _ _ (by omega)]; exact c1
        · rw [g10 _ _ (by omega) (by omega) (by omega)]; exact c2
        · have := Wp_Wf m' 0 st' rP (show st' = [f + m' - 1] from t2)
          exact this
        · rw [g9 _ _ (by omega) (by omega) (by omega), f1 _ _ (by omega)]
        · rw [g10 _ _ (by omega) (by omega) (by omega)]
      · have hm : (if decide (qC T n p = 20) = true then (if (M 0 45) ≤ (0 : Int32) then (bd1 (f_X11_bind M (1 : Int32)) (fun I8 => some (true, I8))) else (bd2 (f_X11_signs M) (fun x11 I12 => if x11 = true then (fix1 sFm n2 I12) else (some (false, I12))))) else (bd2 (f_X11_signs M) (fun x11 I12 => if x11 = true then (fix1 sFm n2 I12) else (some (false, I12))))) = (bd2 (f_X11_signs M) (fun x11 I12 => if x11 = true then (fix1 sFm n2 I12) else (some (false, I12)))) := by
          by_cases h20 : qC T n p = 20
          · rw [decide_eq_true h20, if_pos rfl, o2, if_neg (fun h => by have := (k_le (y := 0) (b := 0) rfl (by omega) (by omega)).mp h; omega)]
          · rw [decide_eq_false h20, if_neg ff]
        rw [hm]
        have hgo := go _ _ (c_sign hdr hF f1 s1)
        by_cases h20 : qC T n p = 20
        · rw [if_pos ((k_eq (y := 20) (b := 20) rfl (by omega) (by omega)).mpr h20), if_neg (show ¬ I1 34 3 = 0 from fun h => by
            rw [f1 _ _ (by omega), o1] at h
            have := (k_eq (y := 0) (b := 0) rfl (by omega) (by omega)).mp h; omega)]
          exact hgo
        · rw [if_neg (fun h => h20 ((k_eq (y := 20) (b := 20) rfl (by omega) (by omega)).mp h))]
          exact hgo
  termination_by d => d
