/-! a new object: the component -/
theorem Ev_clear {α : Type} {I : MI} {pb : Nat} {f : MI → Option α} {Q : α → Prop} (h : ∀ I', (∀ q k, ¬ (pb ≤ q ∧ q < pb + 16) → I' q k = I q k) ∧ (∀ k, 11 ≤ k → k ≤ 14 → I' pb k = 0) ∧ I' pb 15 = -1 ∧ I' pb 16 = -1 ∧ (∀ t, t < 100 → I' (pb + 10) t = -1) ∧ I' (pb + 11) 4 = 0 ∧ I' (pb + 11) 5 = 0 ∧ (∀ l, l < 3 → I' (pb + 13) l = 0 ∧ I' (pb + 14) l = 0) → Ev (f I') Q) : Ev (bd1 (f_X0_clear I pb) f) Q := by
  obtain ⟨I', e, r⟩ := p_clear (I := I) (pb := pb)
  rw [e, bd1_s]; exact h I' r
/-- a new book at pb, by what it is at once -/
theorem Ev_book {α : Type} {I : MI} {pb : Nat} {f : MI → Option α} {Q : α → Prop} (h : ∀ I', (∀ q k, ¬ (pb ≤ q ∧ q < pb + 16) → I' q k = I q k) ∧ (∀ k, 11 ≤ k → k ≤ 14 → I' pb k = 0) ∧ I' pb 15 = 30 ∧ I' pb 16 = 0 ∧ (∀ t, t < 100 → I' (pb + 10) t = -1) ∧ I' (pb + 11) 4 = 0 ∧ (∀ l, l < 3 → I' (pb + 13) l = 0 ∧ I' (pb + 14) l = 0) ∧ I' pb 17 = 0 ∧ I' pb 18 = 0 ∧ I' pb 19 = -1 → Ev (f I') Q) : Ev (bd1 (f_X0_clear I pb) (fun I15 => bd1 (f_X0_settle I15 pb) f)) Q := by
  refine Ev_clear ?_
  rintro I1 ⟨z1, z2, z3, z4, z5, z6, z7, z8⟩
  obtain ⟨I2, e2, s1, s2, s3, s4, s5, s6⟩ := p_settle (I := I1) (pb := pb) (nk := 0) (z2 11 (by omega) (by omega)) (by omega) (fun k hk => absurd hk (by omega))
  rw [e2, bd1_s]
  refine h I2 ⟨fun q k a => ?_, fun k a b => ?_, ?_, ?_, fun t a => ?_, ?_, fun l a => ⟨?_, ?_⟩, s4, s5, s6⟩
  · rw [s1 _ _ (by omega), z1 _ _ a]
  · rw [s1 _ _ (by omega), z2 _ a b]
  · rw [s2, z3, if_pos rfl]
  · rw [s3, z4, if_pos rfl]
  · rw [s1 _ _ (by omega), z5 _ a]
  · rw [s1 _ _ (by omega), z6]
  · rw [s1 _ _ (by omega), (z8 l a).1]
  · rw [s1 _ _ (by omega), (z8 l a).2]
def BkN (pb : Nat) (I' : MI) : Prop := (∀ k, 11 ≤ k → k ≤ 14 → I' pb k = 0) ∧ I' pb 15 = 30 ∧ I' pb 16 = 0 ∧ (∀ t, t < 100 → I' (pb + 10) t = -1) ∧ I' (pb + 11) 4 = 0 ∧ (∀ l, l < 3 → I' (pb + 13) l = 0 ∧ I' (pb + 14) l = 0) ∧ I' pb 17 = 0 ∧ I' pb 18 = 0 ∧ I' pb 19 = -1
theorem i_book2 {I : MI} {J : MJ} : Ev (f_X0_init_2 I J) (fun r => (∀ q k, ¬ (2 ≤ q ∧ q < 18) → r.1 q k = I q k) ∧ BkN 2 r.1 ∧ ∀ q k, ¬ (2 ≤ q ∧ q < 18) → r.2 q k = J q k) := by
  delta f_X0_init_2
  refine Ev_ls (Ev_ls (Ev_ls (Ev_ls (Ev_ls (Ev_ls (Ev_ls (Ev_ls (Ev_ls (Ev_ls (Ev_ls (Ev_ls ?_)))))))))))
  delta f_X4_init_13
  simp only [lt_e, bd2_s]
  refine Ev_book ?_
  rintro I1 ⟨z1, z⟩
  refine Ev_some ⟨fun q k h => ?_, z, fun q k h => ?_⟩
  · dsimp only
    rw [z1 q k h]
    repeat rw [stR_ne (by omega)]
  · dsimp only
    repeat rw [stR_ne (by omega)]
theorem i_book18 {I : MI} {J : MJ} : Ev (f_X0_init_18 I J) (fun r => (∀ q k, ¬ (18 ≤ q ∧ q < 34) → r.1 q k = I q k) ∧ BkN 18 r.1 ∧ ∀ q k, ¬ (18 ≤ q ∧ q < 34) → r.2 q k = J q k) := by
  delta f_X0_init_18
  refine Ev_ls (Ev_ls (Ev_ls (Ev_ls (Ev_ls (Ev_ls (Ev_ls (Ev_ls (Ev_ls (Ev_ls (Ev_ls (Ev_ls ?_)))))))))))
  delta f_X4_init_29
  simp only [lt_e, bd2_s]
  refine Ev_book ?_
  rintro I1 ⟨z1, z⟩
  refine Ev_some ⟨fun q k h => ?_, z, fun q k h => ?_⟩
  · dsimp only
    rw [z1 q k h]
    repeat rw [stR_ne (by omega)]
  · dsimp only
    repeat rw [stR_ne (by omega)]
