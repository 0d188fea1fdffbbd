/-! what can be undone -/
def cu (M : MI) (k : Nat) : Int32 := if k = 0 then M 32 0 else if k = 1 then M 33 0 else M 26 (k - 2)
def sn (M : MI) (us i k : Nat) : Int32 := if i < us then M 40 (8 * i + k) else cu M k
def USt (nk nh : Nat) (w f s fp sp : Int32) (X Y : Nat → Int32) : Prop :=
  (w = 0 ∧ (∃ h, h < nh ∧ f = Int32.ofNat h ∧ X 0 = Y 0 ^^^ ((1 : Int32) <<< (Int32.ofNat h &&& 31))) ∧ ∀ k, k < 8 → k ≠ 0 → X k = Y k) ∨
  (w = 1 ∧ f = X 1 ∧ (f = -1 ∨ ∃ k, k < nk ∧ f = Int32.ofNat k) ∧ ∀ k, k < 8 → k ≠ 1 → X k = Y k) ∨
  (w = 2 ∧ ∃ a c, a < nh ∧ c < nh ∧ a ≠ c ∧ f = Int32.ofNat a ∧ s = Int32.ofNat c ∧ fp = X (2 + a) ∧ sp = X (2 + c) ∧ (0 ≤ fp.toInt ∧ fp.toInt ≤ 99999) ∧ (0 ≤ sp.toInt ∧ sp.toInt ≤ 99999) ∧ ∀ k, k < 8 → k ≠ 2 + a → k ≠ 2 + c → X k = Y k)
theorem USt.cg {nk nh : Nat} {w f s fp sp : Int32} {X Y X' Y' : Nat → Int32} (hn : nh ≤ 6) (h : USt nk nh w f s fp sp X Y) (hX : ∀ k, k < 8 → X' k = X k) (hY : ∀ k, k < 8 → Y' k = Y k) : USt nk nh w f s fp sp X' Y' := by
  rcases h with ⟨h1, ⟨hh, a1, a2, a3⟩, h3⟩ | ⟨h1, h2, h3, h4⟩ | ⟨h1, a, c, b1, b2, b3, b4, b5, b6, b7, b8, b9, b10⟩
  · exact Or.inl ⟨h1, ⟨hh, a1, a2, by rw [hX 0 (by omega), hY 0 (by omega)]; exact a3⟩, fun k p q => by rw [hX k p, hY k p]; exact h3 k p q⟩
  · exact Or.inr (Or.inl ⟨h1, by rw [hX 1 (by omega)]; exact h2, h3, fun k p q => by rw [hX k p, hY k p]; exact h4 k p q⟩)
  · exact Or.inr (Or.inr ⟨h1, a, c, b1, b2, b3, b4, b5, by rw [hX _ (by omega)]; exact b6, by rw [hX _ (by omega)]; exact b7, b8, b9, fun k p q r => by rw [hX k p, hY k p]; exact b10 k p q r⟩)
def UndR (I M : MI) (nk nh us : Nat) : Prop := (us ≤ 20) ∧ (I 64 5 = Int32.ofNat us) ∧ (M 0 74 = Int32.ofNat us) ∧ (∀ i, i < us → USt nk nh (I 65 i) (I 66 i) (I 67 i) (I 68 i) (I 69 i) (sn M us i) (sn M us (i + 1)))
theorem UndR.ul {I M : MI} {nk nh us : Nat} (B_ : UndR I M nk nh us) : us ≤ 20 := B_.1
theorem UndR.u1 {I M : MI} {nk nh us : Nat} (B_ : UndR I M nk nh us) : I 64 5 = Int32.ofNat us := B_.2.1
theorem UndR.u2 {I M : MI} {nk nh us : Nat} (B_ : UndR I M nk nh us) : M 0 74 = Int32.ofNat us := B_.2.2.1
theorem UndR.st {I M : MI} {nk nh us : Nat} (B_ : UndR I M nk nh us) : ∀ i, i < us → USt nk nh (I 65 i) (I 66 i) (I 67 i) (I 68 i) (I 69 i) (sn M us i) (sn M us (i + 1)) := B_.2.2.2
theorem UndR.fr {I I' M M' : MI} {nk nh us : Nat} (U : UndR I M nk nh us) (hn : nh ≤ 6) (hI : ∀ p, 64 ≤ p → p < 70 → I' p = I p) (hM : M' 40 = M 40) (h74 : M' 0 74 = M 0 74) (h32 : M' 32 0 = M 32 0) (h33 : M' 33 0 = M 33 0) (h26 : ∀ h, h < 6 → M' 26 h = M 26 h) : UndR I' M' nk nh us := by
  have hs : ∀ i k, k < 8 → sn M' us i k = sn M us i k := fun i k hk => by
    unfold sn cu
    rw [hM, h32, h33]
    split
    · rfl
    · split
      · rfl
      · split
        · rfl
        · exact h26 _ (by omega)
  refine ⟨U.ul, by rw [hI 64 (by omega) (by omega)]; exact U.u1, by rw [h74]; exact U.u2, fun i hi => ?_⟩
  rw [hI 65 (by omega) (by omega), hI 66 (by omega) (by omega), hI 67 (by omega) (by omega), hI 68 (by omega) (by omega), hI 69 (by omega) (by omega)]
  exact (U.st i hi).cg hn (hs i) (hs (i + 1))
theorem UndR.nil {I M : MI} {nk nh : Nat} (h1 : I 64 5 = 0) (h2 : M 0 74 = 0) : UndR I M nk nh 0 := ⟨by omega, h1, h2, fun i hi => absurd hi (by omega)⟩
theorem m_put {M : MI} {pa na x : Nat} (hpa : 36 < pa) (hx : x + 8 ≤ na) (hna : na < 1000) : ∃ M', f_X11_put M pa na (Int32.ofNat x) = some M' ∧ (∀ p, p ≠ pa → M' p = M p) ∧ (∀ k, ¬ (x ≤ k ∧ k < x + 8) → M' pa k = M pa k) ∧ (∀ k, k < 8 → M' pa (x + k) = cu M k) := by
  suffices h : Ev (f_X11_put M pa na (Int32.ofNat x)) (fun M' => (∀ p, p ≠ pa → M' p = M p) ∧ (∀ k, ¬ (x ≤ k ∧ k < x + 8) → M' pa k = M pa k) ∧ (∀ k, k < 8 → M' pa (x + k) = cu M k)) from h
  delta f_X11_put
  rw [n_k1, n_k2, ixc.1, n_ix (show x < 2147483648 by omega), n_ix (show x + 1 < 2147483648 by omega)]
  refine Ev_gd rfl (Ev_gd ((n_inb (by omega)).mpr (by omega)) (Ev_ls (Ev_gd rfl (Ev_gd ((n_inb (by omega)).mpr (by omega)) (Ev_ls ?_)))))
  refine Ev_fix2 (fun x3 I4 => ∃ i, i ≤ 6 ∧ x3 = Int32.ofNat i ∧ (∀ p, p ≠ pa → I4 p = M p) ∧ (∀ k, ¬ (x ≤ k ∧ k < x + 8) → I4 pa k = M pa k) ∧ (∀ k, k < 2 + i → I4 pa (x + k) = cu M k)) (fun x3 _ => (80 - x3.toInt).toNat) ?_ FU _ _ (FU_lt (by decide)) ⟨0, by omega, rfl, fun p hp => by rw [st2_ne hp, st2_ne hp], fun k hk => by rw [s2x (by omega), s2x (by omega)], fun k hk => ?_⟩
  · rintro rec x3 I4 ⟨i, hi, rfl, g1, g2, g3⟩ hrec
    refine Ev_if (fun c => ?_) (fun c => ?_)
    · have := (n_le (a := 6) (by omega) (by omega)).mp c
      exact Ev_some ⟨g1, g2, fun k hk => g3 k (by omega)⟩
    · have hlt : i < 6 := Nat.lt_of_not_le (fun h => c ((n_le (a := 6) (by omega) (by omega)).mpr h))
      rw [n_add, n_ix (show i < 2147483648 by omega), n_ix (show x + 2 + i < 2147483648 by omega)]
      refine Ev_gd ((n_inb (by omega)).mpr (by omega)) (Ev_gd ((n_inb (by omega)).mpr (by omega)) (Ev_ls (Ev_ls ?_)))
      rw [n_t1, g1 26 (by omega)]
      refine hrec _ _ ⟨i + 1, by omega, rfl, fun p hp => by rw [st2_ne hp]; exact g1 p hp, fun k hk => by rw [s2x (by omega)]; exact g2 k hk, fun k hk => ?_⟩ ?_
      · by_cases e : k = 2 + i
        · rw [e, st2_at, if_pos (by omega)]
          unfold cu
          rw [if_neg (by omega), if_neg (by omega), show 2 + i - 2 = i by omega]
        · rw [s2x (by omega)]; exact g3 k (by omega)
      · rw [n_toInt (by omega), n_toInt (by omega)]; omega
  · have e33 : st2 M pa x (M 32 0) 33 0 = M 33 0 := by rw [st2_ne (by omega)]
    rw [e33]
    have hc : k = 0 ∨ k = 1 := by omega
    rcases hc with rfl | rfl
    · rw [s2x (by omega), st2_at, if_pos (by omega)]; rfl
    · rw [st2_at, if_pos rfl]; rfl
theorem m_take {M : MI} {pa na x : Nat} (hpa : 36 < pa) (hx : x + 8 ≤ na) (hna : na < 1000) : ∃ M', f_X11_take M pa na (Int32.ofNat x) = some M' ∧ (∀ p k, ¬ (p = 32 ∧ k = 0) → ¬ (p = 33 ∧ k = 0) → ¬ (p = 26 ∧ k < 6) → M' p k = M p k) ∧ M' 32 0 = M pa x ∧ M' 33 0 = M pa (x + 1) ∧ (∀ h, h < 6 → M' 26 h = M pa (x + 2 + h)) := by
  suffices h : Ev (f_X11_take M pa na (Int32.ofNat x)) (fun M' => (∀ p k, ¬ (p = 32 ∧ k = 0) → ¬ (p = 33 ∧ k = 0) → ¬ (p = 26 ∧ k < 6) → M' p k = M p k) ∧ M' 32 0 = M pa x ∧ M' 33 0 = M pa (x + 1) ∧ (∀ h, h < 6 → M' 26 h = M pa (x + 2 + h))) from h
  delta f_X11_take
  rw [n_k1, n_k2, ixc.1, n_ix (show x < 2147483648 by omega), n_ix (show x + 1 < 2147483648 by omega)]
  refine Ev_gd ((n_inb (by omega)).mpr (by omega)) (Ev_gd rfl (Ev_ls (Ev_gd ((n_inb (by omega)).mpr (by omega)) (Ev_gd rfl (Ev_ls ?_)))))
  have e1 : st2 M 32 0 (M pa x) pa (x + 1) = M pa (x + 1) := by rw [st2_ne (by omega)]
  rw [e1]
  refine Ev_fix2 (fun x3 I4 => ∃ i, i ≤ 6 ∧ x3 = Int32.ofNat i ∧ (∀ p k, ¬ (p = 32 ∧ k = 0) → ¬ (p = 33 ∧ k = 0) → ¬ (p = 26 ∧ k < 6) → I4 p k = M p k) ∧ I4 32 0 = M pa x ∧ I4 33 0 = M pa (x + 1) ∧ (∀ h, h < i → I4 26 h = M pa (x + 2 + h))) (fun x3 _ => (80 - x3.toInt).toNat) ?_ FU _ _ (FU_lt (by decide)) ⟨0, by omega, rfl, fun p k a b c => by rw [s2x b, s2x a], by rw [st2_ne (by omega), st2_at, if_pos rfl], by rw [st2_at, if_pos rfl], fun h hh => absurd hh (by omega)⟩
  rintro rec x3 I4 ⟨i, hi, rfl, g1, g2, g3, g4⟩ hrec
  refine Ev_if (fun c => ?_) (fun c => ?_)
  · have := (n_le (a := 6) (by omega) (by omega)).mp c
    exact Ev_some ⟨g1, g2, g3, fun k hk => g4 k (by omega)⟩
  · have hlt : i < 6 := Nat.lt_of_not_le (fun h => c ((n_le (a := 6) (by omega) (by omega)).mpr h))
    rw [n_add, n_ix (show i < 2147483648 by omega), n_ix (show x + 2 + i < 2147483648 by omega)]
    refine Ev_gd ((n_inb (by omega)).mpr (by omega)) (Ev_gd ((n_inb (by omega)).mpr (by omega)) (Ev_ls (Ev_ls ?_)))
    rw [n_t1, g1 pa _ (by omega) (by omega) (by omega)]
    refine hrec _ _ ⟨i + 1, by omega, rfl, fun p k a b c => by rw [s2x (by omega)]; exact g1 p k a b c, by rw [st2_ne (by omega)]; exact g2, by rw [st2_ne (by omega)]; exact g3, fun h hh => ?_⟩ ?_
    · by_cases e : h = i
      · rw [e, st2_at, if_pos rfl]
      · rw [s2x (by omega)]; exact g4 h (by omega)
    · rw [n_toInt (by omega), n_toInt (by omega)]; omega
/-- how many are forgotten as one is kept -/
def fo (us : Nat) : Nat := if us = 20 then 1 else 0
theorem m_remember {M : MI} {us : Nat} (hu : us ≤ 20) (h74 : M 0 74 = Int32.ofNat us) : ∃ M', f_X11_remember M = some M' ∧ (∀ p k, p ≠ 40 → ¬ (p = 0 ∧ k = 74) → M' p k = M p k) ∧ M' 0 74 = Int32.ofNat (us - fo us + 1) ∧ (∀ i k, i < us - fo us → k < 8 → M' 40 (8 * i + k) = M 40 (8 * (i + fo us) + k)) ∧ (∀ k, k < 8 → M' 40 (8 * (us - fo us) + k) = cu M k) := by
  suffices h : Ev (f_X11_remember M) (fun M' => (∀ p k, p ≠ 40 → ¬ (p = 0 ∧ k = 74) → M' p k = M p k) ∧ M' 0 74 = Int32.ofNat (us - fo us + 1) ∧ (∀ i k, i < us - fo us → k < 8 → M' 40 (8 * i + k) = M 40 (8 * (i + fo us) + k)) ∧ (∀ k, k < 8 → M' 40 (8 * (us - fo us) + k) = cu M k)) from h
  delta f_X11_remember
  obtain ⟨v, hv⟩ : ∃ v, v = us - fo us := ⟨_, rfl⟩
  have hv19 : v ≤ 19 := by
    rw [hv]; unfold fo; split <;> omega
  rw [← hv]
  refine Ev_j1 (fun I1 => (∀ p k, p ≠ 40 → ¬ (p = 0 ∧ k = 74) → I1 p k = M p k) ∧ I1 0 74 = Int32.ofNat v ∧ (∀ i k, i < v → k < 8 → I1 40 (8 * i + k) = M 40 (8 * (i + fo us) + k))) ?_ ?_
  · rintro I1 ⟨g1, g2, g3⟩
    have e8 : (8 : Int32) * I1 0 74 = Int32.ofNat (8 * v) := by rw [g2]; exact n_mul 8 v
    obtain ⟨M2, e2, p1, p2, p3⟩ := m_put (M := I1) (pa := 40) (na := 160) (x := 8 * v) (by omega) (by omega) (by omega)
    rw [e8, e2, bd1_s]
    refine Ev_ls (Ev_some ⟨fun p k a b => ?_, ?_, fun i k a b => ?_, fun k a => ?_⟩)
    · rw [s2x b, p1 p a]; exact g1 p k a b
    · rw [st2_at, if_pos rfl, p1 0 (by omega), g2, n_t1]
    · rw [st2_ne (by omega), p2 _ (by omega)]; exact g3 i k a b
    · rw [st2_ne (by omega), p3 k a]
      unfold cu
      rw [g1 32 0 (by omega) (by omega), g1 33 0 (by omega) (by omega), g1 26 _ (by omega) (by omega)]
  · intro j hj
    rw [h74]
    by_cases h20 : us = 20
    · have hf : fo us = 1 := by unfold fo; rw [if_pos h20]
      rw [hf] at hv hj
      subst h20
      rw [if_pos (by rfl)]
      refine Ev_j1 (fun I4 => (∀ p k, ¬ (p = 40 ∧ k < 152) → I4 p k = M p k) ∧ ∀ k, k < 152 → I4 40 k = M 40 (k + 8)) ?_ ?_
      · rintro I4 ⟨g1, g2⟩
        refine Ev_ls ?_
        have e74 : I4 0 74 - 1 = Int32.ofNat v := by
          rw [g1 0 74 (by omega), h74, hv]; rfl
        rw [e74]
        refine hj _ ⟨fun p k a b => ?_, ?_, fun i k a b => ?_⟩
        · rw [s2x b]; exact g1 p k (by omega)
        · rw [st2_at, if_pos rfl]
        · rw [st2_ne (by omega), g2 _ (by omega)]
          congr 1; omega
      · intro j' hj'
        refine Ev_fix2 (fun x6 I7 => ∃ i, i ≤ 152 ∧ x6 = Int32.ofNat i ∧ (∀ p k, ¬ (p = 40 ∧ k < i) → I7 p k = M p k) ∧ ∀ k, k < i → I7 40 k = M 40 (k + 8)) (fun x6 _ => (600 - x6.toInt).toNat) ?_ FU _ _ (FU_lt (by decide)) ⟨0, by omega, rfl, fun _ _ _ => rfl, fun k hk => absurd hk (by omega)⟩
        rintro rec x6 I7 ⟨i, hi, rfl, g1, g2⟩ hrec
        refine Ev_if (fun c => ?_) (fun c => ?_)
        · have := (n_le (a := 152) (by omega) (by omega)).mp c
          have : i = 152 := by omega
          subst this
          exact hj' _ ⟨g1, g2⟩
        · have hlt : i < 152 := Nat.lt_of_not_le (fun h => c ((n_le (a := 152) (by omega) (by omega)).mpr h))
          have e8 : Int32.ofNat i + 8 = Int32.ofNat (i + 8) := n_add i 8
          rw [e8, n_ix (show i < 2147483648 by omega), n_ix (show i + 8 < 2147483648 by omega)]
          refine Ev_gd ((n_inb (by omega)).mpr (by omega)) (Ev_gd ((n_inb (by omega)).mpr (by omega)) (Ev_ls (Ev_ls ?_)))
          rw [n_t1, g1 40 (i + 8) (by omega)]
          refine hrec _ _ ⟨i + 1, by omega, rfl, fun p k a => ?_, fun k a => ?_⟩ ?_
          · rw [s2x (by omega)]; exact g1 p k (by omega)
          · by_cases e : k = i
            · rw [e, st2_at, if_pos rfl]
            · rw [s2x (by omega)]; exact g2 k (by omega)
          · rw [n_toInt (by omega), n_toInt (by omega)]; omega
    · have hf : fo us = 0 := by unfold fo; rw [if_neg h20]
      have hne : ¬ Int32.ofNat us = 20 := fun e => h20 ((n_eq (b := 20) (by omega) (by omega)).mp e)
      rw [if_neg hne]
      rw [hf] at hv hj ⊢
      refine hj _ ⟨fun _ _ _ _ => rfl, by rw [h74, hv]; rfl, fun i k _ _ => rfl⟩
