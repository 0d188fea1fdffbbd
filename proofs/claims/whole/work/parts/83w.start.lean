/-! reading: the town starts; the book of what was read -/
theorem p_start {I : MI} {pb nh : Nat} (hb : pb = 2 ∨ pb = 18) (hh : I pb 12 = Int32.ofNat nh) (lh : nh ≤ 6) : ∃ I', f_X8_start I 38 pb = some I' ∧ (∀ q k, ¬ (q = 38 ∧ 7 ≤ k ∧ k ≤ 10) → ¬ (39 ≤ q ∧ q ≤ 45 ∧ k < 6) → I' q k = I q k) ∧ (∀ h, h < 6 → I' 39 h = if h < nh then I (pb + 5) h else 0) ∧ (∀ q h, 40 ≤ q → q ≤ 45 → h < 6 → I' q h = 0) ∧ I' 38 7 = 0 ∧ I' 38 8 = 0 ∧ I' 38 9 = -1 ∧ I' 38 10 = I pb 16 := by
  suffices h : Ev (f_X8_start I 38 pb) (fun I' => (∀ q k, ¬ (q = 38 ∧ 7 ≤ k ∧ k ≤ 10) → ¬ (39 ≤ q ∧ q ≤ 45 ∧ k < 6) → I' q k = I q k) ∧ (∀ h, h < 6 → I' 39 h = if h < nh then I (pb + 5) h else 0) ∧ (∀ q h, 40 ≤ q → q ≤ 45 → h < 6 → I' q h = 0) ∧ I' 38 7 = 0 ∧ I' 38 8 = 0 ∧ I' 38 9 = -1 ∧ I' 38 10 = I pb 16) from h
  delta f_X8_start
  refine Ev_j1 (fun I1 => (∀ q k, ¬ (39 ≤ q ∧ q ≤ 45 ∧ k < 6) → I1 q k = I q k) ∧ (∀ h, h < 6 → I1 39 h = if h < nh then I (pb + 5) h else 0) ∧ (∀ q h, 40 ≤ q → q ≤ 45 → h < 6 → I1 q h = 0)) ?_ ?_
  · rintro I1 ⟨g1, g2, g3⟩
    refine Ev_ls (Ev_ls (Ev_ls (Ev_ls (Ev_some ⟨fun q k a b => ?_, fun h hh => ?_, fun q h a b c => ?_, ?_, ?_, ?_, ?_⟩))))
    · rw [s2x (by omega), s2x (by omega), s2x (by omega), s2x (by omega)]; exact g1 q k b
    · rw [s2x (by omega), s2x (by omega), s2x (by omega), s2x (by omega)]; exact g2 h hh
    · rw [s2x (by omega), s2x (by omega), s2x (by omega), s2x (by omega)]; exact g3 q h a b c
    · rw [s2x (by omega), s2x (by omega), s2x (by omega), st2_at, if_pos rfl]
    · rw [s2x (by omega), s2x (by omega), st2_at, if_pos rfl]
    · rw [s2x (by omega), st2_at, if_pos rfl]
    · rw [st2_at, if_pos rfl, s2x (by omega), s2x (by omega), s2x (by omega)]; exact g1 _ _ (by omega)
  · intro j hj
    refine Ev_fix2 (fun x6 I7 => ∃ i, i ≤ 6 ∧ x6 = Int32.ofNat i ∧ (∀ q k, ¬ (39 ≤ q ∧ q ≤ 45 ∧ k < 6) → I7 q k = I q k) ∧ (∀ h, h < i → I7 39 h = if h < nh then I (pb + 5) h else 0) ∧ (∀ q h, 40 ≤ q → q ≤ 45 → h < i → I7 q h = 0)) (fun x6 _ => (80 - x6.toInt).toNat) ?_ FU _ _ (FU_lt (by decide)) ⟨0, by omega, rfl, fun _ _ _ => rfl, fun h c => absurd c (by omega), fun q h _ _ c => absurd c (by omega)⟩
    rintro rec x6 I7 ⟨i, hi, rfl, g1, g2, g3⟩ hrec
    refine Ev_if (fun c => ?_) (fun c => ?_)
    · have := (n_le (a := 6) (by omega) (by omega)).mp c
      exact hj _ ⟨g1, fun h hh => g2 h (by omega), fun q h a b c => g3 q h a b (by omega)⟩
    · have hlt : i < 6 := Nat.lt_of_not_le (fun h => c ((n_le (a := 6) (by omega) (by omega)).mpr h))
      have g : inb (Int32.ofNat i) 6 = true := (n_inb (by omega)).mpr (by omega)
      refine Ev_j2 (fun x8 x9 => x9 = Int32.ofNat i ∧ x8 = if i < nh then I (pb + 5) i else 0) ?_ ?_
      · rintro x8 x9 ⟨rfl, rfl⟩
        refine Ev_gd g (Ev_ls (Ev_gd g (Ev_ls (Ev_gd g (Ev_ls (Ev_gd g (Ev_ls (Ev_gd rfl (Ev_gd g (Ev_ls (Ev_gd rfl (Ev_gd g (Ev_ls (Ev_gd g (Ev_ls (Ev_ls ?_))))))))))))))))
        rw [n_ix (by omega), n_t1]
        refine hrec _ _ ⟨i + 1, by omega, rfl, fun q k a => ?_, fun h hh => ?_, fun q h a b c => ?_⟩ ?_
        · rw [s2x (by omega), s2x (by omega), s2x (by omega), s2x (by omega), s2x (by omega), s2x (by omega), s2x (by omega)]; exact g1 q k a
        · rw [s2x (by omega), s2x (by omega), s2x (by omega), s2x (by omega), s2x (by omega), s2x (by omega)]
          by_cases e : h = i
          · subst e; rw [st2_at, if_pos rfl]
          · rw [s2x (by omega)]; exact g2 h (by omega)
        · by_cases e : h = i
          · subst e
            rcases (show q = 40 ∨ q = 41 ∨ q = 42 ∨ q = 43 ∨ q = 44 ∨ q = 45 by omega) with rfl | rfl | rfl | rfl | rfl | rfl
            · rw [s2x (by omega), s2x (by omega), s2x (by omega), s2x (by omega), s2x (by omega), st2_at, if_pos rfl]
            · rw [s2x (by omega), s2x (by omega), s2x (by omega), s2x (by omega), st2_at, if_pos rfl]
            · rw [s2x (by omega), s2x (by omega), s2x (by omega), st2_at, if_pos rfl]
            · rw [s2x (by omega), s2x (by omega), st2_at, if_pos rfl]
            · rw [s2x (by omega), st2_at, if_pos rfl]
            · rw [st2_at, if_pos rfl]
          · rw [s2x (by omega), s2x (by omega), s2x (by omega), s2x (by omega), s2x (by omega), s2x (by omega), s2x (by omega)]; exact g3 q h a b (by omega)
        · rw [n_toInt (by omega), n_toInt (by omega)]; omega
      · intro j2 hj2
        have e12 : I7 pb 12 = Int32.ofNat nh := by rw [g1 _ _ (by omega)]; exact hh
        rw [e12]
        refine Ev_if (fun c => ?_) (fun c => ?_)
        · have := (n_le (by omega) (by omega)).mp c
          exact hj2 _ _ ⟨rfl, by rw [if_neg (by omega)]⟩
        · have hl2 : i < nh := Nat.lt_of_not_le (fun h => c ((n_le (by omega) (by omega)).mpr h))
          refine Ev_gd g (hj2 _ _ ⟨rfl, ?_⟩)
          rw [if_pos hl2, n_ix (by omega)]; exact g1 _ _ (by omega)
theorem hvf_congr {f g : Nat → Int32} : ∀ n, n < 2147483648 → (∀ k, k < n → f k = g k) → hvf f n = hvf g n
  | 0, _, _ => rfl
  | n + 1, hn, h => by
    have ih := hvf_congr n (by omega) (fun k hk => h k (by omega))
    show (if f n ≤ (if (0 : Int32) ≤ hvf f n then f (ix (hvf f n)) else 0) then hvf f n else Int32.ofNat n) = (if g n ≤ (if (0 : Int32) ≤ hvf g n then g (ix (hvf g n)) else 0) then hvf g n else Int32.ofNat n)
    rw [ih, h n (by omega)]
    rcases hvf_c g n with e | ⟨j, hj, e⟩
    · rw [e, if_neg (show ¬ (0 : Int32) ≤ -1 by decide), if_neg (show ¬ (0 : Int32) ≤ -1 by decide)]
    · rw [e, n_ix (by omega), h j (by omega)]
theorem wct_congr {f g : Nat → Int32} : ∀ n, (∀ k, k < n → f k = g k) → wct f n = wct g n
  | 0, _ => rfl
  | n + 1, h => by
    have ih := wct_congr n (fun k hk => h k (by omega))
    show wct f n + (if f n ≤ 0 then 0 else 1) = wct g n + (if g n ≤ 0 then 0 else 1)
    rw [ih, h n (by omega)]
/-- the book, the days and the laws of what was read, by what the memories say -/
theorem Dr.book {dr nk nh nw nd kn : Nat} {I I' M M' : MI} (hD : DrR dr I M nk nh nw nd kn) (hI : ∀ q k, dr ≤ q → q < dr + 16 → ¬ (q = dr ∧ 15 ≤ k ∧ k ≤ 19) → I' q k = I q k) (h15 : I' dr 15 = (if I dr 15 = -1 then 30 else I dr 15)) (h16 : I' dr 16 = (if I dr 16 = -1 then 0 else I dr 16)) (h17 : I' dr 17 = sm (I (dr + 3)) nk) (h18 : I' dr 18 = Int32.ofNat (wct (I (dr + 3)) nk)) (h19 : I' dr 19 = hvf (I (dr + 3)) nk) (hM0 : ∀ k, 12 ≤ k → k ≤ 16 → M' 0 k = M 0 (k + 5)) (hM : ∀ q k, 4 ≤ q → q ≤ 21 → k < rn6 q → M' q k = M q (rn6 q + k)) : BookR dr I' M' nk nh nw kn ∧ DayR dr I' M' nk nd ∧ LawR dr I' M' := by
  obtain ⟨⟨k1, k2, k3, k4⟩, ⟨g1, g2, g3, g4⟩, ⟨w1, w2, w3, w4⟩, ⟨d1, d2, d3, d4, d5⟩, ⟨t1, t2⟩, ⟨l1, l2, l3, l4, l5, l6⟩⟩ := hD
  have r6 : ∀ q k, 5 ≤ q → q ≤ 11 → k < 6 → M' q k = M q (6 + k) := fun q k a b c => by
    have e : rn6 q = 6 := by unfold rn6; rw [if_neg (by omega), if_neg (by omega), if_neg (by omega), if_neg (by omega)]
    have := hM q k (by omega) (by omega) (by rw [e]; exact c)
    rw [e] at this; exact this
  have r14 : ∀ q k, 14 ≤ q → q ≤ 15 → k < 6 → M' q k = M q (6 + k) := fun q k a b c => by
    have e : rn6 q = 6 := by unfold rn6; rw [if_neg (by omega), if_neg (by omega), if_neg (by omega), if_neg (by omega)]
    have := hM q k (by omega) (by omega) (by rw [e]; exact c)
    rw [e] at this; exact this
  have r12 : ∀ q k, 12 ≤ q → q ≤ 13 → k < 20 → M' q k = M q (20 + k) := fun q k a b c => by
    have e : rn6 q = 20 := by unfold rn6; rw [if_neg (by omega), if_pos (by omega)]
    have := hM q k (by omega) (by omega) (by rw [e]; exact c)
    rw [e] at this; exact this
  have r16 : ∀ q k, 16 ≤ q → q ≤ 18 → k < 3 → M' q k = M q (3 + k) := fun q k a b c => by
    have e : rn6 q = 3 := by unfold rn6; rw [if_neg (by omega), if_neg (by omega), if_pos (by omega)]
    have := hM q k (by omega) (by omega) (by rw [e]; exact c)
    rw [e] at this; exact this
  have r19 : ∀ q k, 19 ≤ q → q ≤ 21 → k < 64 → M' q k = M q (64 + k) := fun q k a b c => by
    have e : rn6 q = 64 := by unfold rn6; rw [if_neg (by omega), if_neg (by omega), if_neg (by omega), if_pos (by omega)]
    have := hM q k (by omega) (by omega) (by rw [e]; exact c)
    rw [e] at this; exact this
  have e40 : M' 4 0 = M 4 2 := hM 4 0 (by omega) (by omega) (by decide)
  have e41 : M' 4 1 = M 4 3 := hM 4 1 (by omega) (by omega) (by decide)
  have m7 : ∀ k, k < nk → I (dr + 3) k = M' 7 k := fun k hk => by
    obtain ⟨_, _, z, hz, e1, e2⟩ := k4 k hk
    rw [r6 7 k (by omega) (by omega) (by omega), e1, e2]
  refine ⟨⟨k1, g1, w1, l1, ?_, ?_, ?_, ?_, ?_, ?_, ?_, ?_, fun k hk => ?_, fun k hk => ?_, fun k hk => ?_, fun k hk => ?_, fun k hk => ?_, fun k hk => ?_, fun k hk => ?_, fun k hk => ?_, fun k hk => ?_, ?_, ?_⟩, ⟨d1, ?_, fun d hd => ?_, fun d hd => ?_, fun t ht => ?_, ?_, ?_, ?_⟩, fun l hl => ?_⟩
  · rw [hI _ _ (by omega) (by omega) (by omega)]; exact k2
  · rw [hM0 _ (by omega) (by omega)]; exact k3
  · rw [hI _ _ (by omega) (by omega) (by omega)]; exact g2
  · rw [hM0 _ (by omega) (by omega)]; exact g3
  · rw [hI _ _ (by omega) (by omega) (by omega)]; exact w2
  · rw [hM0 _ (by omega) (by omega)]; exact w3
  · rw [hI _ _ (by omega) (by omega) (by omega)]; exact l2
  · rw [hM0 _ (by omega) (by omega)]; exact l4
  · rw [hI _ _ (by omega) (by omega) (by omega), r6 _ _ (by omega) (by omega) (by omega)]; exact (k4 k hk).1
  · rw [hI _ _ (by omega) (by omega) (by omega), r6 _ _ (by omega) (by omega) (by omega)]; exact (k4 k hk).2.1
  · rw [hI _ _ (by omega) (by omega) (by omega), r6 _ _ (by omega) (by omega) (by omega)]; exact (k4 k hk).2.2
  · rw [hI _ _ (by omega) (by omega) (by omega), r6 _ _ (by omega) (by omega) (by omega)]; exact (g4 k hk).1
  · rw [hI _ _ (by omega) (by omega) (by omega), r6 _ _ (by omega) (by omega) (by omega)]; exact (g4 k hk).2.1
  · rw [hI _ _ (by omega) (by omega) (by omega), r6 _ _ (by omega) (by omega) (by omega)]; exact (g4 k hk).2.2.1
  · rw [hI _ _ (by omega) (by omega) (by omega), r6 _ _ (by omega) (by omega) (by omega)]; exact (g4 k hk).2.2.2
  · rw [hI _ _ (by omega) (by omega) (by omega), r14 _ _ (by omega) (by omega) (by omega)]; exact (w4 k hk).1
  · rw [hI _ _ (by omega) (by omega) (by omega), r14 _ _ (by omega) (by omega) (by omega)]; exact (w4 k hk).2
  · rw [h15, e40]
    rcases t1 with ⟨a, b, c⟩ | ⟨a, z, b1, b2, b3, b4⟩
    · exact ⟨30, by omega, by omega, by rw [if_pos a]; rfl, by rw [c]; rfl⟩
    · exact ⟨z, b1, b2, by rw [b3, if_neg (enc_neg (by omega)).2.2.1], b4⟩
  · rw [h16, e41]
    rcases t2 with ⟨a, b, c⟩ | ⟨a, z, b1, b3, b4⟩
    · exact ⟨0, by omega, by rw [if_pos a]; rfl, by rw [c]; rfl⟩
    · exact ⟨z, b1, by rw [b3, if_neg (enc_neg (by omega)).2.2.1], b4⟩
  · rw [hM0 _ (by omega) (by omega)]; exact d3
  · rw [r12 _ _ (by omega) (by omega) (by omega)]; exact (d4 d hd).1
  · rw [r12 _ _ (by omega) (by omega) (by omega)]; exact (d4 d hd).2
  · rw [hI _ _ (by omega) (by omega) (by omega), d5 t ht]
    have hs : sf (fun k => M 12 (20 + k)) (Int32.ofNat t) nd 0 = sf (M' 12) (Int32.ofNat t) nd 0 := sf_congr _ _ (fun k _ hk => (r12 12 k (by omega) (by omega) (by omega)).symm)
    unfold tlD tld
    rw [hs]
    rcases sf_c (M' 12) (Int32.ofNat t) nd 0 with e | ⟨j, _, hj, _, e⟩
    · rw [e, if_pos rfl, if_pos rfl]
    · have e1 := (enc_neg (j := j) (by omega)).2.2.1
      rw [e, if_neg e1, if_neg e1, n_ix (by omega), r12 13 j (by omega) (by omega) (by omega)]
  · rw [h17]; exact sm_congr nk m7
  · rw [h18, wct_congr nk m7]
  · rw [h19, hvf_congr nk (by omega) m7]
  · rw [hI _ _ (by omega) (by omega) (by omega), hI _ _ (by omega) (by omega) (by omega), r16 16 l (by omega) (by omega) hl, r16 17 l (by omega) (by omega) hl, r16 18 l (by omega) (by omega) hl]
    rcases l6 l hl with h | ⟨a, f, m, b1, b2, b3, b4, b5, b6, b7⟩
    · exact Or.inl h
    · refine Or.inr ⟨a, f, m, by omega, b2, b3, b4, b5, b6, Wf_congr _ _ _ (fun j ja jb => ⟨hI _ _ (by omega) (by omega) (by omega), ?_, ?_, ?_⟩) b7⟩
      · exact r19 19 j (by omega) (by omega) (by omega)
      · exact r19 20 j (by omega) (by omega) (by omega)
      · exact r19 21 j (by omega) (by omega) (by omega)
