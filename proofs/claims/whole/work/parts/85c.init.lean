/-! a new object: the whole component -/
theorem Ev_bq {α β1 β2 : Type} {o : Option (β1 × β2)} {f : β1 → β2 → Option α} {P : β1 × β2 → Prop} {Q : α → Prop} (h : Ev o P) (hk : ∀ a1 a2, P (a1, a2) → Ev (f a1 a2) Q) : Ev (bd2 o f) Q := by
  obtain ⟨⟨a1, a2⟩, e, hp⟩ := h
  subst e
  exact hk a1 a2 hp
theorem i_read {I : MI} {J : MJ} : Ev (f_X6_init_34 I J) (fun r => (∀ q k, q ≠ 35 → q ≠ 36 → q ≠ 37 → ¬ (q = 34 ∧ k = 6) → r.1 q k = I q k) ∧ r.1 34 6 = -1 ∧ (∀ j, j < 20 → r.1 37 j = Int32.ofNat (wlc j))) := by
  delta f_X6_init_34
  refine Ev_ls (Ev_ls (Ev_ls (Ev_ls ?_)))
  obtain ⟨I', e, h1, h2⟩ := p_words (I := stR (st2 (stR I 35 (fun _ => 0)) 34 6 (-1)) 36 (fun _ => 0)) (J := stR J 36 (fun _ => 0))
  rw [e, bd2_s]
  refine Ev_some ⟨fun q k a b c d => ?_, ?_, h2⟩
  · dsimp only
    rw [h1 q k c, stR_ne b, s2x d, stR_ne a]
  · dsimp only
    rw [h1 _ _ (by omega), stR_ne (by omega), st2_at, if_pos rfl]
theorem Ev_start {α : Type} {I : MI} {pb nh : Nat} {f : MI → Option α} {Q : α → Prop} (hb : pb = 2 ∨ pb = 18) (hh : I pb 12 = Int32.ofNat nh) (lh : nh ≤ 6) (h : ∀ I', (∀ q k, ¬ (q = 38 ∧ 7 ≤ k ∧ k ≤ 10) → ¬ (39 ≤ q ∧ q ≤ 45 ∧ k < 6) → I' q k = I q k) ∧ (∀ h, h < 6 → I' 39 h = if h < nh then I (pb + 5) h else 0) ∧ (∀ q h, 40 ≤ q → q ≤ 45 → h < 6 → I' q h = 0) ∧ I' 38 7 = 0 ∧ I' 38 8 = 0 ∧ I' 38 9 = -1 ∧ I' 38 10 = I pb 16 → Ev (f I') Q) : Ev (bd1 (f_X8_start I 38 pb) f) Q := by
  obtain ⟨I', e, r⟩ := p_start hb hh lh
  rw [e, bd1_s]; exact h I' r
def CpN (I : MI) : Prop := I 0 1 = 0 ∧ I 0 8 = 0 ∧ (∀ k, I 1 k = 0) ∧ BkN 2 I ∧ I 34 5 = 0 ∧ I 34 6 = -1 ∧ (∀ j, j < 20 → I 37 j = Int32.ofNat (wlc j)) ∧ (∀ q h, 39 ≤ q → q ≤ 45 → h < 6 → I q h = 0) ∧ I 38 7 = 0 ∧ I 38 8 = 0 ∧ I 38 9 = -1 ∧ I 38 10 = 0 ∧ I 64 5 = 0 ∧ I 70 5 = 0 ∧ I 70 6 = -1
theorem i_comp : Ev (f_X10_init_0 (fun _ _ => 0) (fun _ _ => 0)) (fun r => CpN r.1) := by
  delta f_X10_init_0
  refine Ev_ls (Ev_ls (Ev_ls ?_))
  refine Ev_bq i_book2 ?_
  rintro I4 J5 ⟨a1, a2, _⟩
  dsimp only at a1 a2
  refine Ev_ls (Ev_ls ?_)
  refine Ev_bq i_book18 ?_
  rintro I8 J9 ⟨b1, _, _⟩
  dsimp only at b1
  refine Ev_ls (Ev_ls ?_)
  refine Ev_bq i_read ?_
  rintro I12 J13 ⟨c1, c2, c3⟩
  dsimp only at c1 c2 c3
  delta f_X8_init_38 f_X8_init_46 f_X8_init_54 f_X1_init_62 f_X9_init_64 f_X2_init_70 f_X5_init_76 f_X3_init_79
  simp only [lt_e, bd2_s]
  have h0 : ∀ q k, ¬ (2 ≤ q ∧ q < 38) → I12 q k = 0 := fun q k h => by
    rw [c1 q k (by omega) (by omega) (by omega) (by omega), stR_ne (by omega), b1 q k (by omega), stR_ne (by omega), a1 q k (by omega), stR_ne (by omega)]
    by_cases e : q = 1
    · subst e; rw [stR_eq]
    · rw [stR_ne e]
  have h2 : ∀ q k, 2 ≤ q → q < 18 → I12 q k = I4 q k := fun q k x y => by
    rw [c1 q k (by omega) (by omega) (by omega) (by omega), stR_ne (by omega), b1 q k (by omega), stR_ne (by omega)]
  have h34 : I12 34 5 = 0 := by
    rw [c1 _ _ (by omega) (by omega) (by omega) (by omega), stR_eq]
  obtain ⟨d1, d2, d3, d4, d5, d6, d7, d8, d9⟩ := a2
  refine Ev_start (nh := 0) (by omega) ?_ (by omega) ?_
  · repeat first | rw [stR_ne (by omega)] | rw [s2x (by omega)]
    rw [h2 _ _ (by omega) (by omega)]
    exact d1 12 (by omega) (by omega)
  · rintro I' ⟨p1, p2, p3, p4, p5, p6, p7⟩
    suffices hC : CpN I' from Ev_some hC
    refine ⟨?_, ?_, fun k => ?_, ⟨fun k x y => ?_, ?_, ?_, fun t x => ?_, ?_, fun l x => ⟨?_, ?_⟩, ?_, ?_, ?_⟩, ?_, ?_, fun j x => ?_, fun q h x y z => ?_, p4, p5, p6, ?_, ?_, ?_, ?_⟩
    · rw [p1 _ _ (by omega) (by omega)]
      repeat first | rw [stR_ne (by omega)] | rw [s2x (by omega)]
      exact h0 _ _ (by omega)
    · rw [p1 _ _ (by omega) (by omega)]
      repeat first | rw [stR_ne (by omega)] | rw [s2x (by omega)]
      exact h0 _ _ (by omega)
    · rw [p1 _ _ (by omega) (by omega)]
      repeat first | rw [stR_ne (by omega)] | rw [s2x (by omega)]
      exact h0 _ _ (by omega)
    · rw [p1 _ _ (by omega) (by omega)]
      repeat first | rw [stR_ne (by omega)] | rw [s2x (by omega)]
      rw [h2 _ _ (by omega) (by omega)]; exact d1 k x y
    · rw [p1 _ _ (by omega) (by omega)]
      repeat first | rw [stR_ne (by omega)] | rw [s2x (by omega)]
      rw [h2 _ _ (by omega) (by omega)]; exact d2
    · rw [p1 _ _ (by omega) (by omega)]
      repeat first | rw [stR_ne (by omega)] | rw [s2x (by omega)]
      rw [h2 _ _ (by omega) (by omega)]; exact d3
    · rw [p1 _ _ (by omega) (by omega)]
      repeat first | rw [stR_ne (by omega)] | rw [s2x (by omega)]
      rw [h2 _ _ (by omega) (by omega)]; exact d4 t x
    · rw [p1 _ _ (by omega) (by omega)]
      repeat first | rw [stR_ne (by omega)] | rw [s2x (by omega)]
      rw [h2 _ _ (by omega) (by omega)]; exact d5
    · rw [p1 _ _ (by omega) (by omega)]
      repeat first | rw [stR_ne (by omega)] | rw [s2x (by omega)]
      rw [h2 _ _ (by omega) (by omega)]; exact (d6 l x).1
    · rw [p1 _ _ (by omega) (by omega)]
      repeat first | rw [stR_ne (by omega)] | rw [s2x (by omega)]
      rw [h2 _ _ (by omega) (by omega)]; exact (d6 l x).2
    · rw [p1 _ _ (by omega) (by omega)]
      repeat first | rw [stR_ne (by omega)] | rw [s2x (by omega)]
      rw [h2 _ _ (by omega) (by omega)]; exact d7
    · rw [p1 _ _ (by omega) (by omega)]
      repeat first | rw [stR_ne (by omega)] | rw [s2x (by omega)]
      rw [h2 _ _ (by omega) (by omega)]; exact d8
    · rw [p1 _ _ (by omega) (by omega)]
      repeat first | rw [stR_ne (by omega)] | rw [s2x (by omega)]
      rw [h2 _ _ (by omega) (by omega)]; exact d9
    · rw [p1 _ _ (by omega) (by omega)]
      repeat first | rw [stR_ne (by omega)] | rw [s2x (by omega)]
      exact h34
    · rw [p1 _ _ (by omega) (by omega)]
      repeat first | rw [stR_ne (by omega)] | rw [s2x (by omega)]
      exact c2
    · rw [p1 _ _ (by omega) (by omega)]
      repeat first | rw [stR_ne (by omega)] | rw [s2x (by omega)]
      exact c3 j x
    · by_cases e : q = 39
      · subst e; rw [p2 h z, if_neg (by omega)]
      · exact p3 q h (by omega) y z
    · rw [p7]
      repeat first | rw [stR_ne (by omega)] | rw [s2x (by omega)]
      rw [h2 _ _ (by omega) (by omega)]; exact d3
    · rw [p1 _ _ (by omega) (by omega)]
      repeat first | rw [stR_ne (by omega)] | rw [s2x (by omega)]
      rw [stR_eq]
    · rw [p1 _ _ (by omega) (by omega)]
      repeat first | rw [stR_ne (by omega)] | rw [s2x (by omega)]
      rw [stR_eq]
    · rw [p1 _ _ (by omega) (by omega)]
      repeat first | rw [stR_ne (by omega)] | rw [s2x (by omega)]
      rw [st2_at, if_pos rfl]
