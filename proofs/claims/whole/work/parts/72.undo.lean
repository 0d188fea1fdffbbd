/-! what can be undone: the component's steps -/
theorem p_forget {I : MI} : ∃ I', f_X9_forgetFirst I = some I' ∧ (∀ p, ¬ (64 ≤ p ∧ p < 70) → I' p = I p) ∧ I' 64 5 = 19 ∧ (∀ q k, 65 ≤ q → q < 70 → k < 19 → I' q k = I q (k + 1)) := by
  suffices h : Ev (f_X9_forgetFirst I) (fun I' => (∀ p, ¬ (64 ≤ p ∧ p < 70) → I' p = I p) ∧ I' 64 5 = 19 ∧ (∀ q k, 65 ≤ q → q < 70 → k < 19 → I' q k = I q (k + 1))) from h
  delta f_X9_forgetFirst
  refine Ev_fix2 (fun x1 I2 => ∃ i, 1 ≤ i ∧ i ≤ 20 ∧ x1 = Int32.ofNat i ∧ (∀ p, ¬ (65 ≤ p ∧ p < 70) → I2 p = I p) ∧ (∀ q k, 65 ≤ q → q < 70 → k < i - 1 → I2 q k = I q (k + 1)) ∧ (∀ q k, 65 ≤ q → q < 70 → i - 1 ≤ k → I2 q k = I q k)) (fun x1 _ => (80 - x1.toInt).toNat) ?_ FU _ _ (FU_lt (by decide)) ⟨1, by omega, by omega, rfl, fun _ _ => rfl, fun q k _ _ c => absurd c (by omega), fun _ _ _ _ _ => rfl⟩
  rintro rec x1 I2 ⟨i, hi1, hi, rfl, g1, g2, g3⟩ hrec
  refine Ev_if (fun c => ?_) (fun c => ?_)
  · have := (n_le (a := 20) (by omega) (by omega)).mp c
    have : i = 20 := by omega
    subst this
    refine Ev_ls (Ev_some ⟨fun p hp => ?_, ?_, fun q k a b c => ?_⟩)
    · rw [st2_ne (by omega)]; exact g1 p (by omega)
    · rw [st2_at, if_pos rfl]
    · rw [st2_ne (by omega)]; exact g2 q k a b (by omega)
  · have hlt : i < 20 := Nat.lt_of_not_le (fun h => c ((n_le (a := 20) (by omega) (by omega)).mpr h))
    have e1 : Int32.ofNat i - 1 = Int32.ofNat (i - 1) := n_sub (a := i) (b := 1) (by omega)
    have g : inb (Int32.ofNat i) 20 = true := (n_inb (by omega)).mpr (by omega)
    have g' : inb (Int32.ofNat (i - 1)) 20 = true := (n_inb (by omega)).mpr (by omega)
    rw [e1, n_ix (show i < 2147483648 by omega), n_ix (show i - 1 < 2147483648 by omega)]
    refine Ev_gd g (Ev_gd g' (Ev_ls ?_))
    rw [g3 65 i (by omega) (by omega) (by omega)]
    obtain ⟨A65, hA65⟩ : ∃ A, A = st2 I2 65 (i - 1) (I 65 i) := ⟨_, rfl⟩
    rw [← hA65]
    have b65 : ∀ q k, 65 ≤ q → q < 70 → i ≤ k → A65 q k = I q k := fun q k a b c => by rw [hA65, s2x (by omega)]; exact g3 q k a b (by omega)
    refine Ev_gd g (Ev_gd g' (Ev_ls ?_))
    rw [b65 66 i (by omega) (by omega) (by omega)]
    obtain ⟨A66, hA66⟩ : ∃ A, A = st2 A65 66 (i - 1) (I 66 i) := ⟨_, rfl⟩
    rw [← hA66]
    have b66 : ∀ q k, 65 ≤ q → q < 70 → i ≤ k → A66 q k = I q k := fun q k a b c => by rw [hA66, s2x (by omega)]; exact b65 q k a b (by omega)
    refine Ev_gd g (Ev_gd g' (Ev_ls ?_))
    rw [b66 67 i (by omega) (by omega) (by omega)]
    obtain ⟨A67, hA67⟩ : ∃ A, A = st2 A66 67 (i - 1) (I 67 i) := ⟨_, rfl⟩
    rw [← hA67]
    have b67 : ∀ q k, 65 ≤ q → q < 70 → i ≤ k → A67 q k = I q k := fun q k a b c => by rw [hA67, s2x (by omega)]; exact b66 q k a b (by omega)
    refine Ev_gd g (Ev_gd g' (Ev_ls ?_))
    rw [b67 68 i (by omega) (by omega) (by omega)]
    obtain ⟨A68, hA68⟩ : ∃ A, A = st2 A67 68 (i - 1) (I 68 i) := ⟨_, rfl⟩
    rw [← hA68]
    have b68 : ∀ q k, 65 ≤ q → q < 70 → i ≤ k → A68 q k = I q k := fun q k a b c => by rw [hA68, s2x (by omega)]; exact b67 q k a b (by omega)
    refine Ev_gd g (Ev_gd g' (Ev_ls ?_))
    rw [b68 69 i (by omega) (by omega) (by omega)]
    obtain ⟨A69, hA69⟩ : ∃ A, A = st2 A68 69 (i - 1) (I 69 i) := ⟨_, rfl⟩
    rw [← hA69]
    have b69 : ∀ q k, 65 ≤ q → q < 70 → i ≤ k → A69 q k = I q k := fun q k a b c => by rw [hA69, s2x (by omega)]; exact b68 q k a b (by omega)
    refine Ev_ls ?_
    rw [n_t1]
    refine hrec _ _ ⟨i + 1, by omega, by omega, rfl, fun p hp => ?_, fun q k a b c => ?_, fun q k a b c => b69 q k a b (by omega)⟩ ?_
    · rw [hA69, st2_ne (by omega), hA68, st2_ne (by omega), hA67, st2_ne (by omega), hA66, st2_ne (by omega), hA65, st2_ne (by omega)]
      exact g1 p hp
    · by_cases e : k = i - 1
      · subst e
        have hc : q = 65 ∨ q = 66 ∨ q = 67 ∨ q = 68 ∨ q = 69 := by omega
        rw [show i - 1 + 1 = i by omega]
        rcases hc with rfl | rfl | rfl | rfl | rfl
        · rw [hA69, st2_ne (by omega), hA68, st2_ne (by omega), hA67, st2_ne (by omega), hA66, st2_ne (by omega), hA65, st2_at, if_pos rfl]
        · rw [hA69, st2_ne (by omega), hA68, st2_ne (by omega), hA67, st2_ne (by omega), hA66, st2_at, if_pos rfl]
        · rw [hA69, st2_ne (by omega), hA68, st2_ne (by omega), hA67, st2_at, if_pos rfl]
        · rw [hA69, st2_ne (by omega), hA68, st2_at, if_pos rfl]
        · rw [hA69, st2_at, if_pos rfl]
      · rw [hA69, s2x (by omega), hA68, s2x (by omega), hA67, s2x (by omega), hA66, s2x (by omega), hA65, s2x (by omega)]
        exact g2 q k a b (by omega)
    · rw [n_toInt (by omega), n_toInt (by omega)]; omega
theorem p_add {I : MI} {us : Nat} (hu : us ≤ 20) (h5 : I 64 5 = Int32.ofNat us) (a1 a2 : Int32) : ∃ I', f_X9_add I a1 a2 = some I' ∧ (∀ p, ¬ (64 ≤ p ∧ p < 70) → I' p = I p) ∧ I' 64 5 = Int32.ofNat (us - fo us + 1) ∧ (∀ q k, 65 ≤ q → q < 70 → k < us - fo us → I' q k = I q (k + fo us)) ∧ I' 65 (us - fo us) = a1 ∧ I' 66 (us - fo us) = a2 := by
  suffices h : Ev (f_X9_add I a1 a2) (fun I' => (∀ p, ¬ (64 ≤ p ∧ p < 70) → I' p = I p) ∧ I' 64 5 = Int32.ofNat (us - fo us + 1) ∧ (∀ q k, 65 ≤ q → q < 70 → k < us - fo us → I' q k = I q (k + fo us)) ∧ I' 65 (us - fo us) = a1 ∧ I' 66 (us - fo us) = a2) from h
  delta f_X9_add
  obtain ⟨v, hv⟩ : ∃ v, v = us - fo us := ⟨_, rfl⟩
  have hv19 : v ≤ 19 := by
    rw [hv]; unfold fo; split <;> omega
  rw [← hv]
  refine Ev_j1 (fun I1 => (∀ p, ¬ (64 ≤ p ∧ p < 70) → I1 p = I p) ∧ I1 64 5 = Int32.ofNat v ∧ (∀ q k, 65 ≤ q → q < 70 → k < v → I1 q k = I q (k + fo us))) ?_ ?_
  · rintro I1 ⟨g1, g2, g3⟩
    have g : inb (Int32.ofNat v) 20 = true := (n_inb (by omega)).mpr (by omega)
    rw [g2]
    refine Ev_gd g (Ev_ls ?_)
    have e2 : st2 I1 65 (ix (Int32.ofNat v)) a1 64 5 = Int32.ofNat v := by rw [st2_ne (by omega)]; exact g2
    rw [e2]
    refine Ev_gd g (Ev_ls (Ev_ls ?_))
    have e3 : st2 (st2 I1 65 (ix (Int32.ofNat v)) a1) 66 (ix (Int32.ofNat v)) a2 64 5 = Int32.ofNat v := by rw [st2_ne (by omega)]; exact e2
    rw [e3, n_t1, n_ix (by omega)]
    refine Ev_some ⟨fun p hp => ?_, ?_, fun q k a b c => ?_, ?_, ?_⟩
    · rw [st2_ne (by omega), st2_ne (by omega), st2_ne (by omega)]; exact g1 p hp
    · rw [st2_at, if_pos rfl]
    · rw [st2_ne (by omega), s2x (by omega), s2x (by omega)]; exact g3 q k a b c
    · rw [st2_ne (by omega), st2_ne (by omega), st2_at, if_pos rfl]
    · rw [st2_ne (by omega), st2_at, if_pos rfl]
  · intro j hj
    rw [h5]
    by_cases h20 : us = 20
    · have hf : fo us = 1 := by unfold fo; rw [if_pos h20]
      rw [hf] at hv hj ⊢
      have hne : ¬ Int32.ofNat us < 20 := fun e => by
        have := (n_lt (b := 20) (by omega) (by omega)).mp e
        omega
      rw [if_neg hne]
      obtain ⟨I5, e5, f1, f2, f3⟩ := p_forget (I := I)
      rw [e5, bd1_s]
      exact hj _ ⟨f1, by rw [f2, hv, h20]; rfl, fun q k a b c => f3 q k a b (by omega)⟩
    · have hf : fo us = 0 := by unfold fo; rw [if_neg h20]
      rw [hf] at hv hj ⊢
      have hlt : Int32.ofNat us < 20 := (n_lt (b := 20) (by omega) (by omega)).mpr (by omega)
      rw [if_pos hlt]
      exact hj _ ⟨fun _ _ => rfl, by rw [h5, hv]; rfl, fun _ _ _ _ _ => rfl⟩
theorem UndR.push {I I' M M' : MI} {nk nh us : Nat} (hn : nh ≤ 6) (U : UndR I M nk nh us) (h5 : I' 64 5 = Int32.ofNat (us - fo us + 1)) (hI : ∀ q k, 65 ≤ q → q < 70 → k < us - fo us → I' q k = I q (k + fo us)) (h74 : M' 0 74 = Int32.ofNat (us - fo us + 1)) (hM : ∀ i k, i < us - fo us → k < 8 → M' 40 (8 * i + k) = M 40 (8 * (i + fo us) + k)) (hc : ∀ k, k < 8 → M' 40 (8 * (us - fo us) + k) = cu M k) (hs : USt nk nh (I' 65 (us - fo us)) (I' 66 (us - fo us)) (I' 67 (us - fo us)) (I' 68 (us - fo us)) (I' 69 (us - fo us)) (cu M) (cu M')) : UndR I' M' nk nh (us - fo us + 1) := by
  have hul := U.ul
  obtain ⟨v, hv⟩ : ∃ v, v = us - fo us := ⟨_, rfl⟩
  have hfo : fo us ≤ us ∧ us - fo us ≤ 19 := by unfold fo; split <;> omega
  rw [← hv] at h5 hI h74 hM hc hs ⊢
  refine ⟨by omega, h5, h74, fun i hi => ?_⟩
  by_cases e : i = v
  · subst e
    refine hs.cg hn (fun k hk => ?_) (fun k hk => ?_)
    · unfold sn; rw [if_pos (by omega)]; exact hc k hk
    · unfold sn; rw [if_neg (by omega)]
  · rw [hI 65 i (by omega) (by omega) (by omega), hI 66 i (by omega) (by omega) (by omega), hI 67 i (by omega) (by omega) (by omega), hI 68 i (by omega) (by omega) (by omega), hI 69 i (by omega) (by omega) (by omega)]
    refine (U.st (i + fo us) (by omega)).cg hn (fun k hk => ?_) (fun k hk => ?_)
    · unfold sn
      rw [if_pos (by omega), if_pos (by omega)]
      exact hM i k (by omega) hk
    · unfold sn
      rw [if_pos (by omega)]
      by_cases e2 : i + 1 = v
      · rw [if_neg (by omega), e2]; exact hc k hk
      · rw [if_pos (by omega), hM (i + 1) k (by omega) hk]
        congr 1; omega
