/-! a day goes by -/
def psF (pt : Nat) (I5 : MI) (J4 : MJ) : Option (MI × MJ) := lt (st2 I5 pt 8 ((I5 pt 8) + (1 : Int32))) (fun I6 => lt (st2 I6 pt 9 (-1 : Int32)) (fun I7 => some (I7, J4)))
def psT (pb pt : Nat) (a3 : Int32) (I3 : MI) (J4 : MJ) : Option (MI × MJ) := lt (fun (I5 : MI) => psF pt I5 J4) (fun j158 => if (I3 62 4) = (0 : Int32) then (bd1 (f_X0_daysToTerm I3 pb ((I3 pt 8))) (fun x8 => if x8 = (1 : Int32) then (fix2 (fun (r117 : Int32 → MI → Option (MI × MJ)) (x9 : Int32) (I10 : MI) => if (I10 pb 12) ≤ x9 then (j158 I10) else (bd1 (f_X1_isMeant x9 a3) (fun x11 => lt (fun (I12 : MI) => lt (x9 + (1 : Int32)) (fun x13 => r117 x13 I12)) (fun j152 => if x11 = true then (gd (inb x9 6) (if (I10 (pt + 5) (ix x9)) = (0 : Int32) then (bd1 (f_X1_pay I10 pb pt x9) (fun I14 => j152 I14)) else (j152 I10))) else (j152 I10))))) FU (0 : Int32) I3) else (j158 I3))) else (j158 I3))
def dgF (a1 : Int32) (I6 : MI) (J5 : MJ) : Option (MI × MJ) := gd (inb a1 2) (lt (st2 I6 33 (ix a1) (-1 : Int32)) (fun I7 => gd (inb a1 2) (gd (inb a1 2) (lt (st2 I7 35 (ix a1) ((I7 35 (ix a1)) + (1 : Int32))) (fun I8 => some (I8, J5))))))
def dgT (a1 : Int32) (I4 : MI) (J5 : MJ) : Option (MI × MJ) := lt (fun (I6 : MI) => dgF a1 I6 J5) (fun j145 => fix2 (fun (r87 : Int32 → MI → Option (MI × MJ)) (x9 : Int32) (I10 : MI) => if (I10 0 13) ≤ x9 then (j145 I10) else (if (I10 0 66) = (0 : Int32) then (gd (inb a1 2) (gd (inb (0 : Int32) 4) (gd (nz (I10 4 (ix (0 : Int32)))) (if (irem ((I10 35 (ix a1)) + (1 : Int32)) (I10 4 (ix (0 : Int32)))) = (0 : Int32) then (gd (inb a1 2) (bd1 (f_X11_isOf ((I10 31 (ix a1))) x9) (fun x11 => lt (fun (I12 : MI) => lt (x9 + (1 : Int32)) (fun x13 => r87 x13 I12)) (fun j139 => if x11 = true then (j139 I10) else (bd1 (f_X11_pays I10 a1 x9) (fun I14 => j139 I14)))))) else (j145 I10))))) else (j145 I10))) FU (0 : Int32) I4)
theorem FrP.of {pt b : Nat} {I I' M M' : MI} {J J' : MJ} (h : FrP pt b I I' M M' J J') {bk nk nh nw kn nd : Nat} (hbk : bk = 2 ∨ bk = 18) (hpt : 38 ≤ pt) (B : BookR bk I M nk nh nw kn) (D : DayR bk I M nk nd) (L : LawR bk I M) : BookR bk I' M' nk nh nw kn ∧ DayR bk I' M' nk nd ∧ LawR bk I' M' :=
  ⟨B.fr (h.bkI hbk hpt) h.bkM h.bk0, D.fr (h.bkI hbk hpt) h.bkM h.bk0, L.fr (h.bkI hbk hpt) h.bkM⟩
theorem s2x {N : MI} {p' k' : Nat} {v : Int32} {p x : Nat} (h : ¬ (p = p' ∧ x = k')) : st2 N p' k' v p x = N p x := by
  by_cases e : p = p'
  · subst e; rw [st2_at, if_neg (fun e => h ⟨rfl, e⟩)]
  · rw [st2_ne e]
theorem c_psF {H : Nat → Bool} {bk pt b su dn dy nk nh : Nat} {I M : MI} {J J2 : MJ} (hpt : 38 ≤ pt) (hpt2 : pt ≤ 46) (hb : b ≤ 1) (P : PsR H bk I pt M J2 b su dn dy nk nh) : Ev2 (psF pt I J) (dgF (Int32.ofNat b) M J2) (fun a c => PsR H bk a.1 pt c.1 c.2 b su dn (dy + 1) nk nh ∧ FrP pt b I a.1 M c.1 J2 c.2) := by
  have gb : inb (Int32.ofNat b) 2 = true := (n_inb (by omega)).mpr (by omega)
  unfold psF dgF
  refine Ev2_lsL (Ev2_lsL (Ev2_gdR gb (Ev2_lsR (Ev2_gdR gb (Ev2_gdR gb (Ev2_lsR (Ev2_some ?_)))))))
  rw [n_ix (by omega), P.tw.y1, n_t1]
  have e35 : st2 M 33 b (-1) 35 b = Int32.ofNat dy := by rw [st2_ne (by omega)]; exact P.y2
  rw [e35, n_t1]
  have hI : ∀ p k, ¬ (p = pt ∧ (k = 8 ∨ k = 9)) → st2 (st2 I pt 8 (Int32.ofNat (dy + 1))) pt 9 (-1) p k = I p k := fun p k h => by
    rw [s2x (fun e => h ⟨e.1, Or.inr e.2⟩), s2x (fun e => h ⟨e.1, Or.inl e.2⟩)]
  have hM : ∀ p k, ¬ (p = 33 ∧ k = b) → ¬ (p = 35 ∧ k = b) → st2 (st2 M 33 b (-1)) 35 b (Int32.ofNat (dy + 1)) p k = M p k := fun p k h h' => by
    rw [s2x h', s2x h]
  have hr : ∀ p, p ≠ pt → st2 (st2 I pt 8 (Int32.ofNat (dy + 1))) pt 9 (-1) p = I p := fun p h => by rw [st2_ne h, st2_ne h]
  have hm : ∀ p, p ≠ 33 → p ≠ 35 → st2 (st2 M 33 b (-1)) 35 b (Int32.ofNat (dy + 1)) p = M p := fun p h h' => by rw [st2_ne h', st2_ne h]
  have T := P.tw
  refine ⟨⟨⟨?_, ?_, ?_, ?_, ?_, ?_, ?_, ?_, ?_, T.sl, T.sz, T.dl, ?_, ?_, ?_, ?_, ?_, ?_, ?_, ?_⟩, ?_, ?_, ?_, ?_, ?_, ?_, ?_, ?_, ?_⟩, ⟨fun p hp => hr p (by omega), fun p k a c d => hM p k (fun e => d ⟨by omega, by omega, e.2⟩) (fun e => d ⟨by omega, by omega, e.2⟩), fun _ _ _ _ => rfl⟩⟩
  · show ∀ h, h < nh → H h = true → st2 (st2 I pt 8 (Int32.ofNat (dy + 1))) pt 9 (-1) (pt + 1) h = st2 (st2 M 33 b (-1)) 35 b (Int32.ofNat (dy + 1)) 26 (6 * b + h)
    rw [hr _ (by omega), hm _ (by omega) (by omega)]; exact T.pu
  · show ∀ h, h < nh → H h = true → st2 (st2 I pt 8 (Int32.ofNat (dy + 1))) pt 9 (-1) (pt + 2) h = st2 (st2 M 33 b (-1)) 35 b (Int32.ofNat (dy + 1)) 27 (6 * b + h)
    rw [hr _ (by omega), hm _ (by omega) (by omega)]; exact T.bi
  · show ∀ h, h < nh → H h = true → st2 (st2 I pt 8 (Int32.ofNat (dy + 1))) pt 9 (-1) (pt + 3) h = st2 (st2 M 33 b (-1)) 35 b (Int32.ofNat (dy + 1)) 28 (6 * b + h)
    rw [hr _ (by omega), hm _ (by omega) (by omega)]; exact T.us
  · show ∀ h, h < nh → H h = true → st2 (st2 I pt 8 (Int32.ofNat (dy + 1))) pt 9 (-1) (pt + 4) h = st2 (st2 M 33 b (-1)) 35 b (Int32.ofNat (dy + 1)) 29 (6 * b + h)
    rw [hr _ (by omega), hm _ (by omega) (by omega)]; exact T.lo
  · show ∀ h, h < nh → H h = true → st2 (st2 I pt 8 (Int32.ofNat (dy + 1))) pt 9 (-1) (pt + 5) h = _
    rw [hr _ (by omega)]; exact T.so
  · show ∀ h, h < nh → H h = true → st2 (st2 I pt 8 (Int32.ofNat (dy + 1))) pt 9 (-1) (pt + 6) h = _
    rw [hr _ (by omega)]; exact T.dw
  · show ∀ h, h < 6 → is01 (st2 (st2 I pt 8 (Int32.ofNat (dy + 1))) pt 9 (-1) (pt + 5) h) = true
    rw [hr _ (by omega)]; exact T.z5
  · show ∀ h, h < 6 → is01 (st2 (st2 I pt 8 (Int32.ofNat (dy + 1))) pt 9 (-1) (pt + 6) h) = true
    rw [hr _ (by omega)]; exact T.z6
  · show ∀ h, nh ≤ h → h < 6 → st2 (st2 I pt 8 (Int32.ofNat (dy + 1))) pt 9 (-1) (pt + 1) h = 0 ∧ st2 (st2 I pt 8 (Int32.ofNat (dy + 1))) pt 9 (-1) (pt + 2) h = 0 ∧ st2 (st2 I pt 8 (Int32.ofNat (dy + 1))) pt 9 (-1) (pt + 3) h = 0 ∧ st2 (st2 I pt 8 (Int32.ofNat (dy + 1))) pt 9 (-1) (pt + 4) h = 0 ∧ st2 (st2 I pt 8 (Int32.ofNat (dy + 1))) pt 9 (-1) (pt + 5) h = 0 ∧ st2 (st2 I pt 8 (Int32.ofNat (dy + 1))) pt 9 (-1) (pt + 6) h = 0
    rw [hr (pt + 1) (by omega), hr (pt + 2) (by omega), hr (pt + 3) (by omega), hr (pt + 4) (by omega), hr (pt + 5) (by omega), hr (pt + 6) (by omega)]; exact T.ze
  · show ∀ k, k < 6 → st2 (st2 I pt 8 (Int32.ofNat (dy + 1))) pt 9 (-1) (pt + 7) k = st2 (st2 M 33 b (-1)) 35 b (Int32.ofNat (dy + 1)) 30 (6 * b + k)
    rw [hr _ (by omega), hm _ (by omega) (by omega)]; exact T.ti
  · show st2 (st2 I pt 8 (Int32.ofNat (dy + 1))) pt 9 (-1) pt 7 = st2 (st2 M 33 b (-1)) 35 b (Int32.ofNat (dy + 1)) 34 b
    rw [hI pt 7 (by omega), hm _ (by omega) (by omega)]; exact T.du
  · show st2 (st2 I pt 8 (Int32.ofNat (dy + 1))) pt 9 (-1) pt 8 = _
    rw [st2_at, if_neg (by decide), st2_at, if_pos rfl]
  · show st2 (st2 I pt 8 (Int32.ofNat (dy + 1))) pt 9 (-1) pt 9 = st2 (st2 M 33 b (-1)) 35 b (Int32.ofNat (dy + 1)) 33 b
    rw [st2_at, if_pos rfl, st2_ne (by omega), st2_at, if_pos rfl]
  · refine Or.inl ?_
    show st2 (st2 M 33 b (-1)) 35 b (Int32.ofNat (dy + 1)) 33 b = -1
    rw [st2_ne (by omega), st2_at, if_pos rfl]
  · show ∀ h, h < nh → H h = true → -99999 ≤ (st2 (st2 M 33 b (-1)) 35 b (Int32.ofNat (dy + 1)) 26 (6 * b + h)).toInt ∧ (st2 (st2 M 33 b (-1)) 35 b (Int32.ofNat (dy + 1)) 26 (6 * b + h)).toInt ≤ 99999 ∧ (su.testBit h = false → 0 ≤ (st2 (st2 M 33 b (-1)) 35 b (Int32.ofNat (dy + 1)) 26 (6 * b + h)).toInt)
    rw [hm _ (by omega) (by omega)]; exact T.pb
  · show ∀ h, h < nh → H h = true → -99999 ≤ (st2 (st2 M 33 b (-1)) 35 b (Int32.ofNat (dy + 1)) 27 (6 * b + h)).toInt ∧ (st2 (st2 M 33 b (-1)) 35 b (Int32.ofNat (dy + 1)) 27 (6 * b + h)).toInt ≤ 99999
    rw [hm _ (by omega) (by omega)]; exact T.bb
  · show ∀ h, h < nh → H h = true → 0 ≤ (st2 (st2 M 33 b (-1)) 35 b (Int32.ofNat (dy + 1)) 28 (6 * b + h)).toInt ∧ (st2 (st2 M 33 b (-1)) 35 b (Int32.ofNat (dy + 1)) 28 (6 * b + h)).toInt ≤ 99999
    rw [hm _ (by omega) (by omega)]; exact T.ub
  · show st2 (st2 M 33 b (-1)) 35 b (Int32.ofNat (dy + 1)) 31 b = _
    rw [hm _ (by omega) (by omega)]; exact P.s2
  · show st2 (st2 M 33 b (-1)) 35 b (Int32.ofNat (dy + 1)) 32 b = _
    rw [hm _ (by omega) (by omega)]; exact P.d2
  · show st2 (st2 M 33 b (-1)) 35 b (Int32.ofNat (dy + 1)) 35 b = _
    rw [st2_at, if_pos rfl]
  · show st2 (st2 I pt 8 (Int32.ofNat (dy + 1))) pt 9 (-1) 62 1 = st2 (st2 M 33 b (-1)) 35 b (Int32.ofNat (dy + 1)) 0 63
    rw [hr _ (by omega), hm _ (by omega) (by omega)]; exact P.f1
  · show st2 (st2 I pt 8 (Int32.ofNat (dy + 1))) pt 9 (-1) 62 2 = st2 (st2 M 33 b (-1)) 35 b (Int32.ofNat (dy + 1)) 0 64
    rw [hr _ (by omega), hm _ (by omega) (by omega)]; exact P.f2
  · show st2 (st2 I pt 8 (Int32.ofNat (dy + 1))) pt 9 (-1) 62 3 = st2 (st2 M 33 b (-1)) 35 b (Int32.ofNat (dy + 1)) 0 65
    rw [hr _ (by omega), hm _ (by omega) (by omega)]; exact P.f3
  · show st2 (st2 I pt 8 (Int32.ofNat (dy + 1))) pt 9 (-1) 62 4 = st2 (st2 M 33 b (-1)) 35 b (Int32.ofNat (dy + 1)) 0 66
    rw [hr _ (by omega), hm _ (by omega) (by omega)]; exact P.f4
  · show J2 0 62 = (st2 (st2 I pt 8 (Int32.ofNat (dy + 1))) pt 9 (-1) pt 10).toInt64
    rw [hI pt 10 (by omega)]; exact P.nu
  · show 0 ≤ (st2 (st2 I pt 8 (Int32.ofNat (dy + 1))) pt 9 (-1) pt 10).toInt
    rw [hI pt 10 (by omega)]; exact P.n0
theorem term_1 {d z : Nat} (hz : 1 ≤ z) : (d + 1) % z = 0 ↔ z - d % z = 1 := by
  have hr := Nat.mod_lt d (show 0 < z by omega)
  rw [← Nat.mod_add_mod d z 1]
  by_cases c : d % z + 1 < z
  · rw [Nat.mod_eq_of_lt c]; omega
  · have e : d % z + 1 = z := by omega
    rw [e, Nat.mod_self]; omega
theorem c_psT {H : Nat → Bool} {bk pt b su dn dy nk nh nw kn nd : Nat} {I M : MI} {J J2 : MJ} {a3 : Int32} (hbk : bk = 2 ∨ bk = 18) (hpt : 38 ≤ pt) (hpt2 : pt ≤ 46) (hb : b ≤ 1) (B : BookR bk I M nk nh nw kn) (D : DayR bk I M nk nd) (L : LawR bk I M) (P : PsR H bk I pt M J2 b su dn dy nk nh) (hdy : dy < 100000) (hH : ∀ h, h < nh → f_X1_isMeant (Int32.ofNat h) a3 = some (H h)) : Ev2 (psT bk pt a3 I J) (dgT (Int32.ofNat b) M J2) (fun a c => (∃ su', PsR H bk a.1 pt c.1 c.2 b su' dn (dy + 1) nk nh ∧ ∀ j, j < 6 → su.testBit j = true → su'.testBit j = true) ∧ FrP pt b I a.1 M c.1 J2 c.2) := by
  have lh := B.lh
  have gb : inb (Int32.ofNat b) 2 = true := (n_inb (by omega)).mpr (by omega)
  obtain ⟨z, hz1, hz2, ez1, ez2⟩ := B.te
  unfold psT dgT
  refine Ev2_lsL (Ev2_lsR ?_)
  have hend : ∀ (I5 M5 : MI), (∃ su', PsR H bk I5 pt M5 J2 b su' dn dy nk nh ∧ ∀ j, j < 6 → su.testBit j = true → su'.testBit j = true) → FrP pt b I I5 M M5 J2 J2 → Ev2 (psF pt I5 J) (dgF (Int32.ofNat b) M5 J2) (fun a c => (∃ su', PsR H bk a.1 pt c.1 c.2 b su' dn (dy + 1) nk nh ∧ ∀ j, j < 6 → su.testBit j = true → su'.testBit j = true) ∧ FrP pt b I a.1 M c.1 J2 c.2) := fun I5 M5 ⟨su', h1, hm⟩ h2 =>
    Ev2_mono (c_psF hpt hpt2 hb h1) (fun a c h => ⟨⟨su', h.1, hm⟩, h2.tr h.2⟩)
  have hd35 : M 35 (ix (Int32.ofNat b)) + 1 = Int32.ofNat (dy + 1) := by rw [n_ix (by omega), P.y2, n_t1]
  have hm40 : M 4 (ix 0) = Int32.ofNat z := by rw [ixc.1]; exact ez2
  have hrem : irem (M 35 (ix (Int32.ofNat b)) + 1) (M 4 (ix 0)) = Int32.ofNat ((dy + 1) % z) := by
    rw [hd35, hm40, n_rem (by omega) (by omega)]
  have hmod := Nat.mod_lt (dy + 1) (show 0 < z by omega)
  have hmod2 := Nat.mod_lt dy (show 0 < z by omega)
  have hidle : (¬ M 0 66 = 0 ∨ ¬ (dy + 1) % z = 0) → Ev2 (psF pt I J) (fix2 (fun (r87 : Int32 → MI → Option (MI × MJ)) (x9 : Int32) (I10 : MI) => if (I10 0 13) ≤ x9 then (dgF (Int32.ofNat b) I10 J2) else (if (I10 0 66) = (0 : Int32) then (gd (inb (Int32.ofNat b) 2) (gd (inb (0 : Int32) 4) (gd (nz (I10 4 (ix (0 : Int32)))) (if (irem ((I10 35 (ix (Int32.ofNat b))) + (1 : Int32)) (I10 4 (ix (0 : Int32)))) = (0 : Int32) then (gd (inb (Int32.ofNat b) 2) (bd1 (f_X11_isOf ((I10 31 (ix (Int32.ofNat b)))) x9) (fun x11 => lt (fun (I12 : MI) => lt (x9 + (1 : Int32)) (fun x13 => r87 x13 I12)) (fun j139 => if x11 = true then (j139 I10) else (bd1 (f_X11_pays I10 (Int32.ofNat b) x9) (fun I14 => j139 I14)))))) else (dgF (Int32.ofNat b) I10 J2))))) else (dgF (Int32.ofNat b) I10 J2))) FU (0 : Int32) M) (fun a c => (∃ su', PsR H bk a.1 pt c.1 c.2 b su' dn (dy + 1) nk nh ∧ ∀ j, j < 6 → su.testBit j = true → su'.testBit j = true) ∧ FrP pt b I a.1 M c.1 J2 c.2) := fun hno => by
    refine Ev2_rr.mp ?_
    refine Ev_fix2 (fun _ I10 => I10 = M) (fun _ _ => 0) ?_ FU _ _ (FU_lt (by decide)) rfl
    rintro rec x9 I10 rfl _
    have he := Ev2_rr.mpr (hend I I10 ⟨su, P, fun _ _ h => h⟩ (FrP.rf pt b I I10 J2))
    refine Ev_if (fun _ => he) (fun _ => Ev_if (fun c => ?_) (fun _ => he))
    refine Ev_gd gb (Ev_gd rfl (Ev_gd (by rw [hm40]; exact n_nz (by omega) (by omega)) ?_))
    rw [hrem]
    rcases hno with h | h
    · exact absurd c h
    · have hne : ¬ Int32.ofNat ((dy + 1) % z) = 0 := fun e => h ((n_eq (b := 0) (by omega) (by omega)).mp e)
      rw [if_neg hne]; exact he
  rw [P.f4]
  refine Ev2_ifL (fun c0 => ?_) (fun c0 => hidle (Or.inl c0))
  have hdt : f_X0_daysToTerm I bk (I pt 8) = some (Int32.ofNat (z - dy % z)) := by
    delta f_X0_daysToTerm
    simp only [lt]
    rw [ez1, P.tw.y1, if_neg (fun c => by
      have := (n_le (b := 0) (by omega) (by omega)).mp c
      omega), gd_t (n_nz (by omega) (by omega)), n_rem (by omega) (by omega), n_sub (by omega)]
  refine Ev2_L hdt ?_
  refine Ev2_ifL (fun c1 => ?_) (fun c1 => hidle (Or.inr (fun e => c1 (by rw [(term_1 hz1).mp e]; rfl))))
  have hterm : (dy + 1) % z = 0 := (term_1 hz1).mpr ((n_eq (b := 1) (by omega) (by omega)).mp c1)
  refine Ev2_fix22 (fun x9 I10 y9 M10 => y9 = x9 ∧ ∃ i su', i ≤ nh ∧ x9 = Int32.ofNat i ∧ PsR H bk I10 pt M10 J2 b su' dn dy nk nh ∧ FrP pt b I I10 M M10 J2 J2 ∧ ∀ j, j < 6 → su.testBit j = true → su'.testBit j = true) (fun x9 _ _ _ => (80 - x9.toInt).toNat) ?_ FU _ _ _ _ (FU_lt (by decide)) ⟨rfl, 0, su, by omega, rfl, P, FrP.rf pt b I M J2, fun _ _ h => h⟩
  rintro r q x9 I10 y9 M10 ⟨rfl, i, su', hi, rfl, P', F, hmo⟩ hrec
  obtain ⟨B', D', L'⟩ := F.of hbk hpt B D L
  rw [B'.h1, B'.h2]
  refine Ev2_if Iff.rfl (fun _ _ => hend _ _ ⟨su', P', hmo⟩ F) (fun c _ => ?_)
  have hlt : i < nh := Nat.lt_of_not_le (fun h => c ((n_le (by omega) (by omega)).mpr h))
  have hgo : ∀ I11 M11, (∃ su'', PsR H bk I11 pt M11 J2 b su'' dn dy nk nh ∧ ∀ j, j < 6 → su.testBit j = true → su''.testBit j = true) → FrP pt b I10 I11 M10 M11 J2 J2 → Ev2 (r (Int32.ofNat i + 1) I11) (q (Int32.ofNat i + 1) M11) (fun a c => (∃ su', PsR H bk a.1 pt c.1 c.2 b su' dn (dy + 1) nk nh ∧ ∀ j, j < 6 → su.testBit j = true → su'.testBit j = true) ∧ FrP pt b I a.1 M c.1 J2 c.2) := fun I11 M11 ⟨su'', h1, hm⟩ h2 => by
    rw [n_t1]
    refine hrec _ _ _ _ ⟨rfl, i + 1, su'', by omega, rfl, h1, F.tr h2, hm⟩ ?_
    rw [n_toInt (by omega), n_toInt (by omega)]; omega
  have c66 : M10 0 66 = 0 := by rw [F.2.1 0 66 (by omega) (by omega) (by omega)]; exact c0
  have hd35' : M10 35 (ix (Int32.ofNat b)) + 1 = Int32.ofNat (dy + 1) := by rw [n_ix (by omega), P'.y2, n_t1]
  have hm40' : M10 4 (ix 0) = Int32.ofNat z := by rw [ixc.1, F.bkM 4 (by omega) (by omega)]; exact ez2
  rw [if_pos c66, hd35', hm40']
  refine Ev2_gdR gb (Ev2_gdR rfl (Ev2_gdR (n_nz (by omega) (by omega)) ?_))
  have h0 : Int32.ofNat 0 = 0 := rfl
  rw [n_rem (by omega) (by omega), hterm, if_pos h0]
  refine Ev2_gdR gb ?_
  rw [n_ix (show b < 2147483648 by omega), P'.s2]
  refine Ev2_L (hH i hlt) (Ev2_R (isOf_s P'.tw.sl (by omega)) (Ev2_lsL (Ev2_lsR ?_)))
  cases hHi : H i with
  | false =>
    cases hbit : su'.testBit i with
    | true => exact hgo _ _ ⟨su', P', hmo⟩ (FrP.rf pt b I10 M10 J2)
    | false =>
      obtain ⟨M11, e, ⟨su'', h1, hbt⟩, h2⟩ := c_paysR hb B' P' hlt hHi
      refine Ev2_ifL (fun h => by cases h) (fun _ => Ev2_ifR (fun h => by cases h) (fun _ => ?_))
      exact Ev2_R e (hgo _ _ ⟨su'', h1, fun j hj hs => by
        have h3 := hmo j hj hs
        by_cases e : j = i
        · rw [e, hbit] at h3; cases h3
        · rw [hbt j hj e]; exact h3⟩ h2)
  | true =>
    rw [if_pos rfl]
    refine Ev2_gdL ((n_inb (by omega)).mpr (by omega)) ?_
    rw [n_ix (by omega), P'.tw.so i hlt hHi]
    cases hbit : su'.testBit i with
    | true =>
      rw [if_neg (by decide), if_pos rfl]
      exact hgo _ _ ⟨su', P', hmo⟩ (FrP.rf pt b I10 M10 J2)
    | false =>
      rw [if_pos (by rfl), if_neg (by decide)]
      obtain ⟨I11, M11, e1, e2, ⟨su'', h1, hbt⟩, h2⟩ := c_pays hbk hpt hpt2 hb B' P' hlt hHi hbit
      exact Ev2_L e1 (Ev2_R e2 (hgo _ _ ⟨su'', h1, fun j hj hs => by
        have h3 := hmo j hj hs
        by_cases e : j = i
        · rw [e, hbit] at h3; cases h3
        · rw [hbt j hj e]; exact h3⟩ h2))
theorem or_s : ∀ s t : Fin 64, Int32.ofNat s.1 ||| Int32.ofNat t.1 = Int32.ofNat (s.1 ||| t.1) ∧ s.1 ||| t.1 < 64 := by decide +kernel
theorem PsR.ups {H : Nat → Bool} {bk pt b su dn dy nk nh : Nat} {I I' M M' : MI} {J J' : MJ} (P : PsR H bk I pt M J b su dn dy nk nh) (T : TwR H I' pt (fun h => M' 26 (6 * b + h)) (fun h => M' 27 (6 * b + h)) (fun h => M' 28 (6 * b + h)) (fun h => M' 29 (6 * b + h)) (fun k => M' 30 (6 * b + k)) su dn dy (M' 34 b) (M' 33 b) nk nh) (h31 : M' 31 b = M 31 b) (h32 : M' 32 b = M 32 b) (h35 : M' 35 b = M 35 b) (h62 : ∀ k, k < 5 → I' 62 k = I 62 k) (hf : ∀ k, 63 ≤ k → k < 67 → M' 0 k = M 0 k) (hn : J' 0 62 = (I' pt 10).toInt64) (hn0 : 0 ≤ (I' pt 10).toInt) : PsR H bk I' pt M' J' b su dn dy nk nh :=
  ⟨T, h31.trans P.s2, h32.trans P.d2, h35.trans P.y2, by rw [h62 1 (by omega), hf 63 (by omega) (by omega)]; exact P.f1, by rw [h62 2 (by omega), hf 64 (by omega) (by omega)]; exact P.f2, by rw [h62 3 (by omega), hf 65 (by omega) (by omega)]; exact P.f3, by rw [h62 4 (by omega), hf 66 (by omega) (by omega)]; exact P.f4, hn, hn0⟩
theorem c_pass {H : Nat → Bool} {bk pt b su dn dy nk nh nw kn nd : Nat} {I M : MI} {J J2 : MJ} {a3 : Int32} (hbk : bk = 2 ∨ bk = 18) (hpt : 38 ≤ pt) (hpt2 : pt ≤ 46) (hb : b ≤ 1) (B : BookR bk I M nk nh nw kn) (D : DayR bk I M nk nd) (L : LawR bk I M) (P : PsR H bk I pt M J2 b su dn dy nk nh) (hdy : dy < 100000) (hH : ∀ h, h < nh → f_X1_isMeant (Int32.ofNat h) a3 = some (H h)) : Ev2 (f_X1_pass I J bk pt a3) (f_X11_dayGoes M J2 (Int32.ofNat b)) (fun a c => (∃ su', PsR H bk a.1 pt c.1 c.2 b su' dn (dy + 1) nk nh ∧ ∀ j, j < 6 → su.testBit j = true → su'.testBit j = true) ∧ FrX pt b I a.1 M c.1 J2 c.2) := by
  have lh := B.lh
  have lk := B.lk
  have gb : inb (Int32.ofNat b) 2 = true := (n_inb (by omega)).mpr (by omega)
  obtain ⟨⟨x1, I1⟩, ⟨y1, J1⟩, e1, e2, hxy, hx, ⟨m, hm, hI1, hJ1⟩, hJr, hJz⟩ := c_kindOf hbk hpt hb B D P hdy
  dsimp only at hxy hx hI1 hJ1 hJr hJz
  subst hxy
  have hI1r : ∀ p k, ¬ (p = pt ∧ k = 10) → I1 p k = I p k := fun p k h => by rw [hI1]; exact s2x h
  have hI1p : ∀ p, p ≠ pt → I1 p = I p := fun p h => by rw [hI1]; exact st2_ne h
  have hm64 : (Int32.ofNat m).toInt64 = Int64.ofNat m := n_64 hm
  have hmi : (Int32.ofNat m).toInt = m := n_toInt hm
  have T := P.tw
  have hfx : ∀ I' M' J', FrP pt b I I' M M' J1 J' → FrX pt b I I' M M' J2 J' := fun I' M' J' h => ⟨h.1, h.2.1, fun p k a c d => (h.2.2 p k a c).trans (hJr p k d), fun e => (h.2.2 0 62 (by decide) (by decide)).trans (hJz (P.f1.symm.trans e))⟩
  have htail : ∀ I3 (J4 : MJ) M4 J5, PsR H bk I3 pt M4 J5 b su dn dy nk nh → FrP pt b I I3 M M4 J1 J5 → Ev2 (psT bk pt a3 I3 J4) (dgT (Int32.ofNat b) M4 J5) (fun a c => (∃ su', PsR H bk a.1 pt c.1 c.2 b su' dn (dy + 1) nk nh ∧ ∀ j, j < 6 → su.testBit j = true → su'.testBit j = true) ∧ FrX pt b I a.1 M c.1 J2 c.2) := fun I3 J4 M4 J5 P3 F3 => by
    obtain ⟨B3, D3, L3⟩ := F3.of hbk hpt B D L
    exact Ev2_mono (c_psT hbk hpt hpt2 hb B3 D3 L3 P3 hdy hH) (fun a c h => ⟨h.1, hfx _ _ _ (F3.tr h.2)⟩)
  delta f_X1_pass f_X11_dayGoes
  rw [e1, e2, bd2_s, bd2_s]
  rcases hx with rfl | ⟨k, hk, rfl⟩
  · refine Ev2_lsL (Ev2_lsR ?_)
    rw [if_pos rfl, if_neg (by decide)]
    refine Ev2_lsL (Ev2_gdR gb (Ev2_gdR gb (Ev2_lsR ?_)))
    refine Ev2_lsR ?_
    refine Ev2_rr.mp ?_
    obtain ⟨M3, hM3⟩ : ∃ M3, M3 = st2 M 34 (ix (Int32.ofNat b)) (M 34 (ix (Int32.ofNat b)) + 1) := ⟨_, rfl⟩
    rw [← hM3]
    rw [n_ix (by omega)] at hM3
    have hM3r : ∀ p k, ¬ (p = 34 ∧ k = b) → M3 p k = M p k := fun p k h => by rw [hM3]; exact s2x h
    have hM3p : ∀ p, p ≠ 34 → M3 p = M p := fun p h => by rw [hM3]; exact st2_ne h
    have hM34 : M3 34 b = M 34 b + 1 := by rw [hM3, st2_at, if_pos rfl]
    have e7 : I1 pt 7 = M 34 b := by rw [hI1r pt 7 (by omega)]; exact T.du
    rw [e7]
    have hI3r : ∀ p k, ¬ (p = pt ∧ (k = 7 ∨ k = 10)) → st2 I1 pt 7 (M 34 b + 1) p k = I p k := fun p k h => by
      rw [s2x (fun e => h ⟨e.1, Or.inl e.2⟩), hI1r p k (fun e => h ⟨e.1, Or.inr e.2⟩)]
    have hI3p : ∀ p, p ≠ pt → st2 I1 pt 7 (M 34 b + 1) p = I p := fun p h => by rw [st2_ne h, hI1p p h]
    have P3 : PsR H bk (st2 I1 pt 7 (M 34 b + 1)) pt M3 J1 b su dn dy nk nh := by
      refine P.ups ⟨?_, ?_, ?_, ?_, ?_, ?_, ?_, ?_, ?_, T.sl, T.sz, T.dl, ?_, ?_, ?_, ?_, ?_, ?_, ?_, ?_⟩ (by rw [hM3p 31 (by omega)]) (by rw [hM3p 32 (by omega)]) (by rw [hM3p 35 (by omega)]) (fun k _ => by rw [hI3p 62 (by omega)]) (fun k _ _ => by rw [hM3p 0 (by omega)]) ?_ ?_
      · rw [hI3p _ (by omega), hM3p 26 (by omega)]; exact T.pu
      · rw [hI3p _ (by omega), hM3p 27 (by omega)]; exact T.bi
      · rw [hI3p _ (by omega), hM3p 28 (by omega)]; exact T.us
      · rw [hI3p _ (by omega), hM3p 29 (by omega)]; exact T.lo
      · rw [hI3p _ (by omega)]; exact T.so
      · rw [hI3p _ (by omega)]; exact T.dw
      · rw [hI3p _ (by omega)]; exact T.z5
      · rw [hI3p _ (by omega)]; exact T.z6
      · rw [hI3p (pt + 1) (by omega), hI3p (pt + 2) (by omega), hI3p (pt + 3) (by omega), hI3p (pt + 4) (by omega), hI3p (pt + 5) (by omega), hI3p (pt + 6) (by omega)]; exact T.ze
      · rw [hI3p _ (by omega), hM3p 30 (by omega)]; exact T.ti
      · rw [st2_at, if_pos rfl, hM34]
      · rw [hI3r pt 8 (by omega)]; exact T.y1
      · rw [hI3r pt 9 (by omega), hM3p 33 (by omega)]; exact T.se
      · rw [hM3p 33 (by omega)]; exact T.sx
      · rw [hM3p 26 (by omega)]; exact T.pb
      · rw [hM3p 27 (by omega)]; exact T.bb
      · rw [hM3p 28 (by omega)]; exact T.ub
      · rw [s2x (by omega), hJ1, hI1, st2_at, if_pos rfl, hm64]
      · rw [s2x (by omega), hI1, st2_at, if_pos rfl, hmi]; omega
    have F3 : FrP pt b I (st2 I1 pt 7 (M 34 b + 1)) M M3 J1 J1 := ⟨fun p hp => hI3p p (by omega), fun p k a c d => hM3r p k (fun e => d ⟨by omega, by omega, e.2⟩), fun _ _ _ _ => rfl⟩
    refine Ev_fix3 (fun _ I16 J17 => I16 = M3 ∧ J17 = J1) (fun _ _ _ => 0) ?_ FU _ _ _ (FU_lt (by decide)) ⟨rfl, rfl⟩
    rintro rec x15 I16 J17 ⟨rfl, rfl⟩ _
    refine Ev_if (fun _ => Ev2_rr.mpr (htail _ _ _ _ P3 F3)) (fun _ => ?_)
    rw [if_pos (by decide)]
    exact Ev2_rr.mpr (htail _ _ _ _ P3 F3)
  · refine Ev2_lsL (Ev2_lsR ?_)
    rw [if_neg (enc_neg (by omega)).2.2.1, if_pos (enc_neg (by omega)).2.2.2, n_6b]
    have g6 : inb (Int32.ofNat k) 6 = true := (n_inb (by omega)).mpr (by omega)
    have g12 : inb (Int32.ofNat (6 * b + k)) 12 = true := (n_inb (by omega)).mpr (by omega)
    refine Ev2_gdL g6 (Ev2_gdL g6 (Ev2_lsL (Ev2_gdR g12 (Ev2_gdR g12 (Ev2_lsR (Ev2_lsR ?_))))))
    rw [n_ix (show k < 2147483648 by omega), n_ix (show 6 * b + k < 2147483648 by omega)]
    obtain ⟨M3, hM3⟩ : ∃ M3, M3 = st2 M 30 (6 * b + k) (M 30 (6 * b + k) + 1) := ⟨_, rfl⟩
    rw [← hM3]
    have hM3r : ∀ p k', ¬ (p = 30 ∧ k' = 6 * b + k) → M3 p k' = M p k' := fun p k h => by rw [hM3]; exact s2x h
    have hM3p : ∀ p, p ≠ 30 → M3 p = M p := fun p h => by rw [hM3]; exact st2_ne h
    obtain ⟨I3, hI3⟩ : ∃ I3, I3 = st2 I1 (pt + 7) k (I1 (pt + 7) k + 1) := ⟨_, rfl⟩
    rw [← hI3]
    have hI3p : ∀ p, p ≠ pt → p ≠ pt + 7 → I3 p = I p := fun p h h' => by rw [hI3, st2_ne h', hI1p p h]
    have hI3t : I3 pt = I1 pt := by rw [hI3, st2_ne (by omega)]
    have P3 : PsR H bk I3 pt M3 J1 b su dn dy nk nh := by
      refine P.ups ⟨?_, ?_, ?_, ?_, ?_, ?_, ?_, ?_, ?_, T.sl, T.sz, T.dl, ?_, ?_, ?_, ?_, ?_, ?_, ?_, ?_⟩ (by rw [hM3p 31 (by omega)]) (by rw [hM3p 32 (by omega)]) (by rw [hM3p 35 (by omega)]) (fun k _ => by rw [hI3p 62 (by omega) (by omega)]) (fun k _ _ => by rw [hM3p 0 (by omega)]) ?_ ?_
      · rw [hI3p _ (by omega) (by omega), hM3p 26 (by omega)]; exact T.pu
      · rw [hI3p _ (by omega) (by omega), hM3p 27 (by omega)]; exact T.bi
      · rw [hI3p _ (by omega) (by omega), hM3p 28 (by omega)]; exact T.us
      · rw [hI3p _ (by omega) (by omega), hM3p 29 (by omega)]; exact T.lo
      · rw [hI3p _ (by omega) (by omega)]; exact T.so
      · rw [hI3p _ (by omega) (by omega)]; exact T.dw
      · rw [hI3p _ (by omega) (by omega)]; exact T.z5
      · rw [hI3p _ (by omega) (by omega)]; exact T.z6
      · rw [hI3p (pt + 1) (by omega) (by omega), hI3p (pt + 2) (by omega) (by omega), hI3p (pt + 3) (by omega) (by omega), hI3p (pt + 4) (by omega) (by omega), hI3p (pt + 5) (by omega) (by omega), hI3p (pt + 6) (by omega) (by omega)]; exact T.ze
      · intro k' hk'
        show I3 (pt + 7) k' = M3 30 (6 * b + k')
        by_cases e : k' = k
        · subst e
          rw [hI3, hM3, st2_at, if_pos rfl, st2_at, if_pos rfl, hI1p (pt + 7) (by omega), T.ti k' hk']
        · rw [hI3, s2x (by omega), hI1p (pt + 7) (by omega), hM3r 30 _ (by omega)]
          exact T.ti k' hk'
      · rw [hI3t, hI1r pt 7 (by omega), hM3p 34 (by omega)]; exact T.du
      · rw [hI3t, hI1r pt 8 (by omega)]; exact T.y1
      · rw [hI3t, hI1r pt 9 (by omega), hM3p 33 (by omega)]; exact T.se
      · rw [hM3p 33 (by omega)]; exact T.sx
      · rw [hM3p 26 (by omega)]; exact T.pb
      · rw [hM3p 27 (by omega)]; exact T.bb
      · rw [hM3p 28 (by omega)]; exact T.ub
      · rw [hI3t, hJ1, hI1, st2_at, if_pos rfl, hm64]
      · rw [hI3t, hI1, st2_at, if_pos rfl, hmi]; omega
    have F3 : FrP pt b I I3 M M3 J1 J1 := ⟨fun p hp => hI3p p (by omega) (by omega), fun p k' a c d => hM3r p k' (fun e => c ⟨by omega, by omega, by omega, by omega⟩), fun _ _ _ _ => rfl⟩
    refine Ev2_fix33 (fun x17 I18 J19 y15 M16 J17 => y15 = x17 ∧ ∃ i, i ≤ nh ∧ x17 = Int32.ofNat i ∧ PsR H bk I18 pt M16 J17 b su dn dy nk nh ∧ FrP pt b I I18 M M16 J1 J17) (fun x17 _ _ _ _ _ => (80 - x17.toInt).toNat) ?_ FU _ _ _ _ _ _ (FU_lt (by decide)) ⟨rfl, 0, by omega, rfl, P3, F3⟩
    rintro r q x17 I18 J19 y15 M16 J17 ⟨rfl, i, hi, rfl, P', F⟩ hrec
    obtain ⟨B', D', L'⟩ := F.of hbk hpt B D L
    rw [B'.h1, B'.h2]
    refine Ev2_if Iff.rfl (fun _ _ => htail _ _ _ _ P' F) (fun c _ => ?_)
    have hlt : i < nh := Nat.lt_of_not_le (fun h => c ((n_le (by omega) (by omega)).mpr h))
    have hgo : ∀ I11 J11 M11 J12, PsR H bk I11 pt M11 J12 b su dn dy nk nh → FrP pt b I18 I11 M16 M11 J17 J12 → Ev2 (r (Int32.ofNat i + 1) I11 J11) (q (Int32.ofNat i + 1) M11 J12) (fun a c => (∃ su', PsR H bk a.1 pt c.1 c.2 b su' dn (dy + 1) nk nh ∧ ∀ j, j < 6 → su.testBit j = true → su'.testBit j = true) ∧ FrX pt b I a.1 M c.1 J2 c.2) := fun I11 J11 M11 J12 h1 h2 => by
      rw [n_t1]
      refine hrec _ _ _ _ _ _ ⟨rfl, i + 1, by omega, rfl, h1, F.tr h2⟩ ?_
      rw [n_toInt (by omega), n_toInt (by omega)]; omega
    rw [if_neg (enc_neg (by omega)).2.1]
    refine Ev2_gdR gb (Ev2_gdR gb ?_)
    have ho := or_s ⟨su, P'.tw.sl⟩ ⟨dn, P'.tw.dl⟩
    simp only at ho
    rw [n_ix (show b < 2147483648 by omega), P'.s2, P'.d2, ho.1]
    refine Ev2_L (hH i hlt) (Ev2_R (isOf_s ho.2 (by omega)) (Ev2_lsL (Ev2_lsR ?_)))
    rw [Nat.testBit_or]
    cases hHi : H i with
    | false =>
      refine Ev2_ifL (fun h => by cases h) (fun _ => ?_)
      refine Ev2_ifR (fun _ => hgo _ _ _ _ P' (FrP.rf pt b I18 M16 J17)) (fun _ => ?_)
      obtain ⟨⟨M11, J12⟩, e, h1, h2⟩ := c_looksR hb B' L' P' hlt hk hHi
      rw [e, bd2_s]
      exact hgo _ _ _ _ h1 h2
    | true =>
      rw [if_pos rfl]
      refine Ev2_gdL ((n_inb (by omega)).mpr (by omega)) ?_
      rw [n_ix (by omega), P'.tw.so i hlt hHi]
      cases hs : su.testBit i with
      | true =>
        rw [Bool.true_or, if_neg (by decide), if_pos rfl]
        exact hgo _ _ _ _ P' (FrP.rf pt b I18 M16 J17)
      | false =>
        rw [Bool.false_or, if_pos (by rfl)]
        refine Ev2_gdL ((n_inb (by omega)).mpr (by omega)) ?_
        rw [P'.tw.dw i hlt hHi]
        cases hd : dn.testBit i with
        | true =>
          rw [if_neg (by decide), if_pos rfl]
          exact hgo _ _ _ _ P' (FrP.rf pt b I18 M16 J17)
        | false =>
          rw [if_pos (by rfl), if_neg (by decide)]
          obtain ⟨⟨I11, J11⟩, ⟨M11, J12⟩, e3, e4, h1, h2⟩ := c_looks (J := J19) hbk hpt hpt2 hb B' L' P' hlt hk hHi
          rw [e3, e4, bd2_s, bd2_s]
          exact hgo _ _ _ _ h1 h2
