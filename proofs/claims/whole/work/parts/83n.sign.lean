/-! reading a law: a sign behind a value, side by side -/
def sgF (I : MI) (x3 : Int32) : Option (Bool × MI) := if x3 = (0 : Int32) then (bd2 (f_X11_wrong I (1 : Int32)) (fun x4 I5 => some (x4, I5))) else (bd1 (f_X11_standing x3) (fun x6 => lt (fun (x7 : Int32) => bd1 (f_X11_bind I x7) (fun I8 => bd1 (f_X11_standing x3) (fun x9 => lt (bd2 (f_X11_isCounted I8) (fun x10 I11 => if x10 = true then (bd1 (f_X11_waitsFor I11 x3) (fun I12 => gd (is01 (1 : Int32)) (lt (st2 I12 0 47 (1 : Int32)) (fun I13 => bd1 (f_X11_standing x3) (fun x14 => lt (fun (x15 : Bool) => gd (is01 (bi x15)) (lt (st2 I13 0 48 (bi x15)) (fun I16 => bd1 (f_X11_token I16) (fun I17 => some (true, I17))))) (fun j250 => if (3 : Int32) ≤ x14 then (j250 false) else (j250 true))))))) else (some (false, I11)))) (fun j217 => if x9 = (4 : Int32) then (if (I8 0 43) ≤ (0 : Int32) then j217 else (gd (inb ((I8 0 43) - (1 : Int32)) 96) (bd1 (f_X11_standing ((I8 22 (ix ((I8 0 43) - (1 : Int32)))))) (fun x18 => if x18 = (4 : Int32) then (bd2 (f_X11_wrong I8 (1 : Int32)) (fun x19 I20 => some (x19, I20))) else j217)))) else j217)))) (fun j175 => if x6 = (4 : Int32) then (j175 (5 : Int32)) else (bd1 (f_X11_standing x3) (fun x21 => j175 x21)))))
def kch (I : MI) : Option (Bool × MI) := bd1 (f_X11_isKey I (10 : Int32)) (fun x2 => if x2 = true then (sgF I (3 : Int32)) else (bd1 (f_X11_isKey I (11 : Int32)) (fun x22 => if x22 = true then (sgF I (4 : Int32)) else (if (I 0 8) = (5 : Int32) then (sgF I ((5 : Int32) + (I 0 9))) else (bd1 (f_X11_isSign I (43 : Int32)) (fun x23 => if x23 = true then (sgF I (11 : Int32)) else (bd1 (f_X11_isSign I (45 : Int32)) (fun x24 => if x24 = true then (sgF I (12 : Int32)) else (bd1 (f_X11_isSign I (42 : Int32)) (fun x25 => if x25 = true then (sgF I (13 : Int32)) else (bd1 (f_X11_isSign I (47 : Int32)) (fun x26 => if x26 = true then (sgF I (14 : Int32)) else (sgF I (0 : Int32))))))))))))))
theorem signs_e (I : MI) : f_X11_signs I = bd1 (f_X11_isSign I (41 : Int32)) (fun x1 => if x1 = true then (if (I 0 45) ≤ (0 : Int32) then (kch I) else (bd1 (f_X11_bind I (1 : Int32)) (fun I27 => lt (st2 I27 0 43 ((I27 0 43) - (1 : Int32))) (fun I28 => lt (st2 I28 0 45 ((I28 0 45) - (1 : Int32))) (fun I29 => bd1 (f_X11_token I29) (fun I30 => some (true, I30))))))) else (kch I)) := rfl
def kof (c : Nat) : Nat := if c = 11 then 3 else if c = 10 then 4 else if 23 ≤ c ∧ c ≤ 32 then c - 18 else 0
theorem kof_F : ∀ c : Fin 37, (kof c.1 = 0 ∨ (3 ≤ kof c.1 ∧ kof c.1 ≤ 14 ∧ cc (kof c.1) = c.1 ∧ 1 ≤ rk (kof c.1))) ∧ f_X6_rankOf (Int32.ofNat c.1) = some (Int32.ofNat (if c.1 = 12 then 3 else rk (kof c.1))) ∧ (kof c.1 ≠ 0 → vl c.1 = false ∧ c.1 ≠ 12 ∧ c.1 ≠ 22 ∧ c.1 ≠ 35) := by decide +kernel
theorem m_kch {M : MI} {T : Nat → Nat} {n p : Nat} (h : Ahd M T n p) : kch M = sgF M (Int32.ofNat (kof (qC T n p))) := by
  have k5 := h.2.2.k5
  unfold kch
  rw [m_isKy (j := 10) (y := 10) h rfl (by omega), bd1_s, m_isKy (j := 11) (y := 11) h rfl (by omega), bd1_s, m_isSg (t := 43) (y := 43) h rfl (by omega), bd1_s, m_isSg (t := 45) (y := 45) h rfl (by omega), bd1_s, m_isSg (t := 42) (y := 42) h rfl (by omega), bd1_s, m_isSg (t := 47) (y := 47) h rfl (by omega), bd1_s]
  rw [show swp 10 = 11 from rfl, show swp 11 = 10 from rfl, show sgC 43 = 29 from rfl, show sgC 45 = 30 from rfl, show sgC 42 = 31 from rfl, show sgC 47 = 32 from rfl]
  generalize qC T n p = c at *
  unfold kof
  by_cases h1 : c = 11
  · rw [decide_eq_true h1, if_pos rfl, if_pos h1]; rfl
  rw [decide_eq_false h1, if_neg ff, if_neg h1]
  by_cases h2 : c = 10
  · rw [decide_eq_true h2, if_pos rfl, if_pos h2]; rfl
  rw [decide_eq_false h2, if_neg ff, if_neg h2]
  by_cases h3 : 23 ≤ c ∧ c ≤ 28
  · rw [if_pos (k5.1.mpr h3), if_pos (by omega), k5.2 h3, show (5 : Int32) + Int32.ofNat (c - 23) = Int32.ofNat (5 + (c - 23)) from n_add 5 (c - 23), show 5 + (c - 23) = c - 18 by omega]
  rw [if_neg (fun e => h3 (k5.1.mp e))]
  by_cases h4 : c = 29
  · subst h4; rfl
  rw [decide_eq_false h4, if_neg ff]
  by_cases h5 : c = 30
  · subst h5; rfl
  rw [decide_eq_false h5, if_neg ff]
  by_cases h6 : c = 31
  · subst h6; rfl
  rw [decide_eq_false h6, if_neg ff]
  by_cases h7 : c = 32
  · subst h7; rfl
  rw [decide_eq_false h7, if_neg ff, if_neg (by omega)]; rfl
theorem sgF_0 {M : MI} : sgF M (Int32.ofNat 0) = some (false, flM M 1) := by
  unfold sgF
  rw [if_pos (by rfl), m_wrong, bd2_s]
def mH (k : Nat) (I8 : MI) : Option (Bool × MI) := bd2 (f_X11_isCounted I8) (fun x10 I11 => if x10 = true then (bd1 (f_X11_waitsFor I11 (Int32.ofNat k)) (fun I12 => bd1 (f_X11_token (st2 (st2 I12 0 47 1) 0 48 (bi (decide (rk k < 3))))) (fun I17 => some (true, I17)))) else (some (false, I11)))
def mG (k : Nat) (I8 : MI) : Option (Bool × MI) := if rk k = 4 then (if (I8 0 43) ≤ (0 : Int32) then mH k I8 else (gd (inb ((I8 0 43) - (1 : Int32)) 96) (bd1 (f_X11_standing ((I8 22 (ix ((I8 0 43) - (1 : Int32)))))) (fun x18 => if x18 = (4 : Int32) then some (false, flM I8 1) else mH k I8)))) else mH k I8
def lst (k : Nat) : Nat := if rk k = 4 then 5 else rk k
theorem sgF_k {M : MI} {k : Nat} (h1 : 3 ≤ k) (h2 : k ≤ 14) : sgF M (Int32.ofNat k) = bd1 (f_X11_bind M (Int32.ofNat (lst k))) (fun I8 => mG k I8) := by
  obtain ⟨_, hst, hr6, _, _⟩ := rk_c (k := k) (Or.inr ⟨by omega, h2⟩)
  unfold sgF mG mH lst
  rw [if_neg (show ¬ Int32.ofNat k = 0 from fun e => by have := (k_eq (y := 0) (b := 0) rfl (by omega) (by omega)).mp e; omega)]
  simp only [lt, hst, bd1_s, m_wrong, bd2_s, gd_t (show is01 1 = true from rfl)]
  have hd : (if (3 : Int32) ≤ Int32.ofNat (rk k) then (false : Bool) else true) = decide (rk k < 3) := by
    by_cases e : 3 ≤ rk k
    · rw [if_pos ((k_el (y := 3) (b := 3) rfl (by omega) (by omega)).mpr e), decide_eq_false (by omega)]
    · rw [if_neg (fun h => e ((k_el (y := 3) (b := 3) rfl (by omega) (by omega)).mp h)), decide_eq_true (by omega)]
  by_cases e3 : 3 ≤ rk k
  · have g3 : (3 : Int32) ≤ Int32.ofNat (rk k) := (k_el (y := 3) (b := 3) rfl (by omega) (by omega)).mpr e3
    simp only [if_pos g3, decide_eq_false (show ¬ rk k < 3 by omega), gd_t (show is01 (bi false) = true from rfl)]
    by_cases e4 : rk k = 4
    · have g4 : Int32.ofNat (rk k) = 4 := (k_eq (y := 4) (b := 4) rfl (by omega) (by omega)).mpr e4
      simp only [if_pos g4, if_pos e4]; rfl
    · have g4 : ¬ Int32.ofNat (rk k) = 4 := fun h => e4 ((k_eq (y := 4) (b := 4) rfl (by omega) (by omega)).mp h)
      simp only [if_neg g4, if_neg e4]
  · have g3 : ¬ (3 : Int32) ≤ Int32.ofNat (rk k) := fun h => e3 ((k_el (y := 3) (b := 3) rfl (by omega) (by omega)).mp h)
    have e4 : ¬ rk k = 4 := by omega
    have g4 : ¬ Int32.ofNat (rk k) = 4 := fun h => e4 ((k_eq (y := 4) (b := 4) rfl (by omega) (by omega)).mp h)
    simp only [if_neg g3, decide_eq_true (show rk k < 3 by omega), gd_t (show is01 (bi true) = true from rfl), if_neg g4, if_neg e4]
theorem m_latest {I M : MI} {W : List Nat} {A B : Option (Bool × MI)} (h : M 0 43 = Int32.ofNat W.length) (hW : WtR I M W) (hl : W.length ≤ 72) : (if (M 0 43) ≤ (0 : Int32) then A else (gd (inb ((M 0 43) - (1 : Int32)) 96) (bd1 (f_X11_standing ((M 22 (ix ((M 0 43) - (1 : Int32)))))) (fun x18 => if x18 = (4 : Int32) then B else A)))) = if rkl W = 4 then B else A := by
  rw [h]
  cases W with
  | nil => rw [if_pos (by decide), if_neg (by decide)]
  | cons w r =>
    obtain ⟨w1, w2, w3, w4⟩ := hW
    obtain ⟨_, c2, c3, _⟩ := rk_c w3
    rw [List.length_cons] at hl ⊢
    rw [if_neg (n_pos (by omega)), n_m1, gd_t ((n_inb (by omega)).mpr (by omega)), n_ix (by omega), w2, c2, bd1_s]
    show _ = if rk w = 4 then B else A
    by_cases e : rk w = 4
    · rw [if_pos e, if_pos ((k_eq (y := 4) (b := 4) rfl (by omega) (by omega)).mpr e)]
    · rw [if_neg e, if_neg (fun h => e ((k_eq (y := 4) (b := 4) rfl (by omega) (by omega)).mp h))]
def pH (dr cd : Nat) (I5 : MI) : Option (Bool × MI) := bd2 (f_X6_isKnot dr I5) (fun x6 I7 => if x6 = true then (bd2 (f_X6_holds I7 (I7 36 4)) (fun x11 I12 => if x11 = true then some (true, I12) else some (false, I12))) else some (false, I7))
theorem pb_close {dr o : Nat} {I : MI} (h4 : I 36 4 = Int32.ofNat 22) (ho : I 34 3 = Int32.ofNat (o + 1)) (ho2 : o ≤ 8) : f_X6_readBehindValue dr I = bd1 (f_X6_release dr I 1) (fun I16 => some (true, st2 (st2 I16 34 2 ((I16 34 2) - 1)) 34 3 ((st2 I16 34 2 ((I16 34 2) - 1) 34 3) - 1))) := by
  delta f_X6_readBehindValue
  rw [lt_e, h4, if_pos (show Int32.ofNat 22 = 22 from rfl), ho, if_neg (n_pos (by omega))]
  rfl
theorem pb_else {dr o cd : Nat} {I : MI} (h4 : I 36 4 = Int32.ofNat cd) (hcd : cd ≤ 36) (ho : I 34 3 = Int32.ofNat o) (h0 : cd = 22 → o = 0) (hk : kof cd = 0) : f_X6_readBehindValue dr I = some (false, flI I 1) := by
  have hF := (kof_F ⟨cd, by omega⟩).2.1
  simp only at hF
  have key : bd1 (f_X6_rankOf (I 36 4)) (fun x1 => lt (bd2 (f_X6_fails I (1 : Int32)) (fun x2 I3 => some (x2, I3))) (fun j73 => if x1 = (0 : Int32) then j73 else (if (I 36 4) = (12 : Int32) then j73 else (lt (fun (x4 : Int32) => bd1 (f_X6_release dr I x4) (fun I5 => lt (bd2 (f_X6_isKnot dr I5) (fun x6 I7 => lt (fun (x8 : Bool) (I9 : MI) => some (x8, I9)) (fun j138 => lt (fun (I10 : MI) => j138 false I10) (fun j137 => if x6 = true then (bd2 (f_X6_holds I7 ((I7 36 4))) (fun x11 I12 => if x11 = true then (j138 true I12) else (j137 I12))) else (j137 I7))))) (fun j112 => if x1 = (4 : Int32) then (bd1 (f_X6_rankOfLatest I5) (fun x13 => if x13 = (4 : Int32) then (bd2 (f_X6_fails I5 (1 : Int32)) (fun x14 I15 => some (x14, I15))) else j112)) else j112))) (fun j90 => if x1 = (4 : Int32) then (j90 (5 : Int32)) else (j90 x1)))))) = some (false, flI I 1) := by
    rw [h4, hF, bd1_s, lt_e, hk, p_fails, bd2_s]
    by_cases e : cd = 12
    · subst e; rfl
    · rw [if_neg e]; rfl
  delta f_X6_readBehindValue
  rw [lt_e, key]
  by_cases e : cd = 22
  · rw [h4, e, if_pos (show Int32.ofNat 22 = 22 from rfl), ho, h0 e, if_pos (by decide)]
  · rw [h4, if_neg (fun h => e ((k_eq (y := 22) (b := 22) rfl (by omega) (by omega)).mp h))]
theorem pb_sign {dr cd : Nat} {I : MI} (h4 : I 36 4 = Int32.ofNat cd) (hcd : cd ≤ 36) (hk : kof cd ≠ 0) : f_X6_readBehindValue dr I = bd1 (f_X6_release dr I (Int32.ofNat (lst (kof cd)))) (fun I5 => if rk (kof cd) = 4 then bd1 (f_X6_rankOfLatest I5) (fun x13 => if x13 = 4 then some (false, flI I5 1) else pH dr cd I5) else pH dr cd I5) := by
  have hF := kof_F ⟨cd, by omega⟩
  simp only at hF
  obtain ⟨hA, hB, hC⟩ := hF
  obtain ⟨hC1, hC2, hC3, _⟩ := hC hk
  rcases hA with hA | ⟨hA1, hA2, hA3, hA4⟩
  · exact absurd hA hk
  have hr6 := (rk_c (k := kof cd) (Or.inr ⟨by omega, by omega⟩)).2.2.1
  rw [if_neg hC2] at hB
  delta f_X6_readBehindValue
  rw [lt_e, h4, if_neg (fun h => hC3 ((k_eq (y := 22) (b := 22) rfl (by omega) (by omega)).mp h)), hB, bd1_s, lt_e, if_neg (show ¬ Int32.ofNat (rk (kof cd)) = 0 from fun h => by have := (k_eq (y := 0) (b := 0) rfl (by omega) (by omega)).mp h; omega), if_neg (fun h => hC2 ((k_eq (y := 12) (b := 12) rfl (by omega) (by omega)).mp h))]
  unfold pH lst
  simp only [lt, p_fails, bd2_s]
  by_cases e4 : rk (kof cd) = 4
  · have g4 : Int32.ofNat (rk (kof cd)) = 4 := (k_eq (y := 4) (b := 4) rfl (by omega) (by omega)).mpr e4
    simp only [if_pos g4, if_pos e4]; rfl
  · have g4 : ¬ Int32.ofNat (rk (kof cd)) = 4 := fun h => e4 ((k_eq (y := 4) (b := 4) rfl (by omega) (by omega)).mp h)
    simp only [if_neg g4, if_neg e4]
