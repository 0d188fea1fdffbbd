/-! works laid on days: the component's table laid; the model -/
theorem pw8 : ∀ n : Fin 9, (1 : Int32) <<< (Int32.ofNat n.1 &&& 31) = Int32.ofNat (2 ^ n.1) := by decide +kernel
theorem p_lay {bk nk nh nw kn n : Nat} {I M Ic : MI} {kd : Nat → Int32} (hbk : bk = 2 ∨ bk = 18) (B : BookR bk I M nk nh nw kn) (P : PlI bk I Ic kd n) (hn : n ≤ 8) : Ev (f_X5_lay Ic bk (Int32.ofNat n)) (fun I' => (∀ p, ¬ (76 ≤ p ∧ p < 80) → I' p = I p) ∧ I' 76 3 = Int32.ofNat (Vw bk I kd n nw 0 0).1 ∧ I' 76 4 = Int32.ofNat (Vw bk I kd n nw 0 0).2 ∧ ∀ w, w < nw → I' 79 w = e2 (gd8 bk I kd n nw w (tkn (gd8 bk I kd n nw) w))) := by
  have lw := B.lw
  have hp8 : 2 ^ n ≤ 256 := Nat.pow_le_pow_right (n := 2) (by decide) hn
  have hpw := pw8 ⟨n, by omega⟩
  simp only at hpw
  have hz : ∀ s, Vw bk I kd n nw nw s = (0, 0) := fun s => by unfold Vw; rw [Nat.sub_self]; rfl
  delta f_X5_lay
  refine Ev_j1 (fun I1 => (∀ p, p ≠ 78 → I1 p = Ic p) ∧ ∀ s, s < 256 → I1 78 (nw * 256 + s) = 0) ?_ ?_
  · rintro I1 ⟨g1, g2⟩
    have hP1 : ∀ I6 : MI, (∀ p, p ≠ 78 → I6 p = Ic p) → PlI bk I I6 kd n := fun I6 h => ⟨fun p hp => by rw [h p (by omega)]; exact P.1 p hp, fun d hd => by rw [h 77 (by omega)]; exact P.2 d hd⟩
    have h13 : I1 bk 13 = Int32.ofNat nw := by rw [(hP1 I1 g1).1 bk (by omega)]; exact B.w1
    rw [h13, hpw]
    refine Ev_ls ?_
    refine Ev_j1 (fun I3 => (∀ p, p ≠ 78 → I3 p = Ic p) ∧ ∀ w s, w ≤ nw → s < 2 ^ n → I3 78 (w * 256 + s) = Int32.ofNat (val (Vw bk I kd n nw w s))) ?_ ?_
    · rintro I3 ⟨k1, k2⟩
      refine Ev_bd1 (p_choose hbk B (hP1 I3 k1) hn k2) ?_
      intro I4 h4
      exact Ev_some h4
    · intro j hj
      refine Ev_fix2 (fun x5 I6 => ∃ w, w ≤ nw ∧ x5.toInt = (w : Int) - 1 ∧ (∀ p, p ≠ 78 → I6 p = Ic p) ∧ ∀ v s, w ≤ v → v ≤ nw → s < 2 ^ n → I6 78 (v * 256 + s) = Int32.ofNat (val (Vw bk I kd n nw v s))) (fun x5 _ => (x5.toInt + 1).toNat) ?_ FU _ _ (FU_lt ?_) ⟨nw, by omega, i_sub1 (by omega), g1, fun v s a1 a2 a3 => ?_⟩
      · rintro rec x5 I6 ⟨w, hw, hx, k1, k2⟩ hrec
        refine Ev_if (fun c => ?_) (fun c => ?_)
        · rw [Int32.lt_iff_toInt_lt, z0, hx] at c
          exact hj _ ⟨k1, fun v s a1 a2 => k2 v s (by omega) a1 a2⟩
        · rw [Int32.lt_iff_toInt_lt, z0, hx] at c
          obtain ⟨w, rfl⟩ : ∃ v, w = v + 1 := ⟨w - 1, by omega⟩
          have hxe : x5 = Int32.ofNat w := by
            apply Int32.toInt.inj
            rw [hx, n_toInt (by omega)]; omega
          subst hxe
          have hm1 : (-1 : Int32).toInt = -1 := rfl
          have hx' : (Int32.ofNat w + -1).toInt = (w : Int) - 1 := by
            have := n_toInt (n := w) (by omega)
            rw [i_add (by omega) (by omega), this, hm1]; omega
          refine Ev_j1 (fun I7 => (∀ p, p ≠ 78 → I7 p = Ic p) ∧ ∀ v s, w ≤ v → v ≤ nw → s < 2 ^ n → I7 78 (v * 256 + s) = Int32.ofNat (val (Vw bk I kd n nw v s))) ?_ ?_
          · rintro I7 ⟨q1, q2⟩
            refine Ev_ls ?_
            refine hrec _ _ ⟨w, by omega, hx', q1, q2⟩ ?_
            rw [hx', n_toInt (by omega)]; omega
          · intro j' hj'
            refine Ev_fix2 (fun x9 I10 => ∃ s, s ≤ 2 ^ n ∧ x9 = Int32.ofNat s ∧ (∀ p, p ≠ 78 → I10 p = Ic p) ∧ (∀ v s', w + 1 ≤ v → v ≤ nw → s' < 2 ^ n → I10 78 (v * 256 + s') = Int32.ofNat (val (Vw bk I kd n nw v s'))) ∧ ∀ s', s' < s → I10 78 (w * 256 + s') = Int32.ofNat (val (Vw bk I kd n nw w s'))) (fun x9 _ => (600 - x9.toInt).toNat) ?_ FU _ _ (FU_lt (by decide)) ⟨0, Nat.zero_le _, rfl, k1, k2, fun s' h => absurd h (by omega)⟩
            rintro rec' x9 I10 ⟨s, hs, rfl, q1, q2, q3⟩ hrec'
            refine Ev_if (fun cc => ?_) (fun cc => ?_)
            · have := (n_le (by omega) (by omega)).mp cc
              refine hj' _ ⟨q1, fun v s' a1 a2 a3 => ?_⟩
              by_cases e : v = w
              · rw [e]; exact q3 s' (by omega)
              · exact q2 v s' (by omega) a2 a3
            · have hsl : s < 2 ^ n := Nat.lt_of_not_le (fun h => cc ((n_le (by omega) (by omega)).mpr h))
              rw [p_bestOf hbk B (hP1 I10 q1) hn (show w < nw by omega) hsl (fun s' h' => q2 (w + 1) s' (by omega) (by omega) h'), bd1_s, n_v256]
              refine Ev_gd ((n_inb (by omega)).mpr (by omega)) (Ev_ls (Ev_ls ?_))
              rw [n_ix (by omega), n_t1]
              refine hrec' _ _ ⟨s + 1, by omega, rfl, fun p hp => by rw [st2_ne hp]; exact q1 p hp, fun v s' a1 a2 a3 => ?_, fun s' h' => ?_⟩ ?_
              · rw [s2x (by omega)]; exact q2 v s' a1 a2 a3
              · by_cases e : s' = s
                · rw [e, st2_at, if_pos rfl]
                · rw [s2x (by omega)]; exact q3 s' (by omega)
              · rw [n_toInt (by omega), n_toInt (by omega)]; omega
      · rw [i_sub1 (by omega)]; omega
      · have : v = nw := by omega
        rw [this, hz, g2 s (by omega)]; rfl
  · intro j hj
    refine Ev_fix2 (fun x14 I15 => ∃ s, s ≤ 256 ∧ x14 = Int32.ofNat s ∧ (∀ p, p ≠ 78 → I15 p = Ic p) ∧ ∀ s', s' < s → I15 78 (nw * 256 + s') = 0) (fun x14 _ => (600 - x14.toInt).toNat) ?_ FU _ _ (FU_lt (by decide)) ⟨0, by omega, rfl, fun _ _ => rfl, fun s' h => absurd h (by omega)⟩
    rintro rec x14 I15 ⟨s, hs, rfl, g1, g2⟩ hrec
    refine Ev_if (fun c => ?_) (fun c => ?_)
    · have := (n_le (a := 256) (by omega) (by omega)).mp c
      exact hj _ ⟨g1, fun s' h' => g2 s' (by omega)⟩
    · have hsl : s < 256 := Nat.lt_of_not_le (fun h => c ((n_le (a := 256) (by omega) (by omega)).mpr h))
      have h13 : I15 bk 13 = Int32.ofNat nw := by rw [g1 bk (by omega), P.1 bk (by omega)]; exact B.w1
      rw [h13, n_v256]
      refine Ev_gd ((n_inb (by omega)).mpr (by omega)) (Ev_ls (Ev_ls ?_))
      rw [n_ix (by omega), n_t1]
      refine hrec _ _ ⟨s + 1, by omega, rfl, fun p hp => by rw [st2_ne hp]; exact g1 p hp, fun s' h' => ?_⟩ ?_
      · by_cases e : s' = s
        · rw [e, st2_at, if_pos rfl]
        · rw [s2x (by omega)]; exact g2 s' (by omega)
      · rw [n_toInt (by omega), n_toInt (by omega)]; omega
