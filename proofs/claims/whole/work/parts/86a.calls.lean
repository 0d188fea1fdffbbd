/-! the relation after each call -/
theorem R_init {I M : MI} {J J2 : MJ} (c : CpN I) (m : MdN M J2) : R 2 18 18 I J M J2 := by
  obtain ⟨c1, c2, c3, ⟨d1, d2, d3, d4, d5, d6, d7, d8, d9⟩, c5, c6, c7, c8, c9, c10, c11, c12, c13, c14, c15⟩ := c
  obtain ⟨m1, m2, m3, m4, m5, m6, m7, m8, m9, m10, m11, m12, m13, m14, m15, m16, m17, m18, m19, m20⟩ := m
  have zt : ∀ h, (0 : Nat).testBit h = false := fun h => Nat.zero_testBit h
  refine ⟨0, 0, 0, 0, 0, 0, 0, 0, 0, 0, 0, 0, 0, ⟨Or.inl ⟨rfl, rfl⟩, Or.inr rfl, ⟨0, by omega, c1, m1, fun k => ?_⟩, ⟨c5.trans m3.symm, c6.trans m4.symm⟩, ⟨by omega, by omega, by omega, by omega, d1 11 (by omega) (by omega), m5 12 (by omega) (by omega), d1 12 (by omega) (by omega), m5 13 (by omega) (by omega), d1 13 (by omega) (by omega), m5 15 (by omega) (by omega), d5, m5 16 (by omega) (by omega), fun k hk => absurd hk (by omega), fun k hk => absurd hk (by omega), fun k hk => absurd hk (by omega), fun k hk => absurd hk (by omega), fun k hk => absurd hk (by omega), fun k hk => absurd hk (by omega), fun k hk => absurd hk (by omega), fun k hk => absurd hk (by omega), fun k hk => absurd hk (by omega), ⟨30, by omega, by omega, d2, m6⟩, ⟨0, by omega, d3, m7⟩⟩, ⟨by omega, m5 14 (by omega) (by omega), fun d hd => absurd hd (by omega), fun d hd => absurd hd (by omega), fun t ht => ?_, d7, d8, d9⟩, fun l hl => Or.inl ⟨(d6 l hl).1, (d6 l hl).2, m8 l hl⟩, c7, m19⟩, ⟨⟨fun h x => absurd x (by omega), fun h x => absurd x (by omega), fun h x => absurd x (by omega), fun h x => absurd x (by omega), fun h x => absurd x (by omega), fun h x => absurd x (by omega), fun h x => ?_, fun h x => ?_, fun h x y => ?_, by omega, fun h _ _ => zt h, by omega, fun k x => ?_, c9.trans m13.symm, c10, c11.trans m12.symm, Or.inl m12, fun h x => absurd x (by omega), fun h x => absurd x (by omega), fun h x => absurd x (by omega)⟩, m10, m11, m14, ?_, ?_, fun h _ _ => zt h, by omega⟩, ⟨by omega, c13, m17, fun i hi => absurd hi (by omega)⟩, ⟨c2.trans m18.symm, Or.inl c2, fun x => ?_, fun x => ?_, fun x => ?_, fun x => ?_, fun x => ?_, fun x => ?_, fun x => ?_, fun x => ?_⟩, ⟨by omega, c14, m15, m16.trans c15.symm, Or.inl c15, fun i hi => absurd hi (by omega)⟩⟩
  · rw [c3, m2]; rfl
  · rw [d4 t ht]
    unfold tld
    rw [show sf (M 12) (Int32.ofNat t) 0 0 = -1 from rfl, if_pos rfl]
  · rw [c8 _ _ (by omega) (by omega) x]; rfl
  · rw [c8 _ _ (by omega) (by omega) x]; rfl
  · exact ⟨c8 _ _ (by omega) (by omega) y, c8 _ _ (by omega) (by omega) y, c8 _ _ (by omega) (by omega) y, c8 _ _ (by omega) (by omega) y, c8 _ _ (by omega) (by omega) y, c8 _ _ (by omega) (by omega) y⟩
  · rw [c8 _ _ (by omega) (by omega) x, m9 _ _ (by omega) (by omega) x]
  · rw [m20, c12]; rfl
  · rw [c12]; decide
  all_goals (rw [c2] at x; exact absurd x (by decide))
theorem Rl.D {bk dr it : Nat} {I I' M M' : MI} {J : MJ} {J2 : MJ} {nk nh nw kn nd su dn dy us ds ds' sui dni dyi : Nat} (h : Rl bk dr it I M J2 nk nh nw kn nd su dn dy us ds sui dni dyi) (f : FrD I I' M M') (E : DiaR I' M' nh ds') : R bk dr it I' J M' J2 := by
  obtain ⟨B, N, U, G, _⟩ := h
  have lh := B.2.2.2.2.1.lh
  obtain ⟨f1, f2, f3⟩ := f
  exact ⟨nk, nh, nw, kn, nd, su, dn, dy, us, ds', sui, dni, dyi, B.fr (fun p k a => by rw [f1 p (by omega)]) (fun p k a => by
    by_cases e : p = 0
    · subst e; exact f3 k (by omega) (by omega) (by omega)
    · rw [f2 p (by omega) (by omega) e]), N.fr lh (fun p a b => f1 p (by omega)) (fun p k a b c => by rw [f2 p (by omega) (by omega) (by omega)]) (fun p a b => by rw [f2 p (by omega) (by omega) (by omega)]) rfl, U.fr lh (fun p a b => f1 p (by omega)) (f2 40 (by omega) (by omega) (by omega)) (f3 74 (by omega) (by omega) (by omega)) (by rw [f2 32 (by omega) (by omega) (by omega)]) (by rw [f2 33 (by omega) (by omega) (by omega)]) (fun h _ => by rw [f2 26 (by omega) (by omega) (by omega)]), G.fr (by rw [f1 0 (by omega)]) (fun p a b => f1 p (by omega)) (f2 41 (by omega) (by omega) (by omega)) (f2 42 (by omega) (by omega) (by omega)) (f3 76 (by omega) (by omega) (by omega)) rfl, E⟩
theorem Rl.U {bk dr it : Nat} {I I' M M' : MI} {J : MJ} {J2 : MJ} {nk nh nw kn nd su dn dy us ds sui dni dyi su' dn' dy' us' : Nat} (h : Rl bk dr it I M J2 nk nh nw kn nd su dn dy us ds sui dni dyi) (f : FrU I I' M M') (N : NowR I' M' J2 su' dn' dy' nk nh) (U : UndR I' M' nk nh us') : R bk dr it I' J M' J2 := by
  obtain ⟨B, _, _, G, E⟩ := h
  obtain ⟨f1, f2⟩ := f
  exact ⟨nk, nh, nw, kn, nd, su', dn', dy', us', ds, sui, dni, dyi, B.fr (fun p k a => by rw [f1 p (by omega) (by omega)]) (fun p k a => f2 p k (by omega) (by omega) (by omega) (by omega) (by omega)), N, U, G.fr (by rw [f1 0 (by omega) (by omega)]) (fun p a b => f1 p (by omega) (by omega)) (funext fun k => f2 41 k (by omega) (by omega) (by omega) (by omega) (by omega)) (funext fun k => f2 42 k (by omega) (by omega) (by omega) (by omega) (by omega)) (f2 0 76 (by omega) (by omega) (by omega) (by omega) (by omega)) rfl, E.fr (f1 70 (by omega) (by omega)) (f1 71 (by omega) (by omega)) (f1 72 (by omega) (by omega)) (f1 73 (by omega) (by omega)) (f1 74 (by omega) (by omega)) (funext fun k => f2 38 k (by omega) (by omega) (by omega) (by omega) (by omega)) (f2 0 70 (by omega) (by omega) (by omega) (by omega) (by omega)) (f2 0 71 (by omega) (by omega) (by omega) (by omega) (by omega))⟩
theorem Rl.K {bk dr it : Nat} {I I' M M' : MI} {J : MJ} {J2 J2' : MJ} {nk nh nw kn nd su dn dy us ds sui dni dyi su' dn' dy' : Nat} (h : Rl bk dr it I M J2 nk nh nw kn nd su dn dy us ds sui dni dyi) (f : FrK I I' M M' J2 J2') (G : ImgR I' M' J2' nk nh su' dn' dy') : R bk dr it I' J M' J2' := by
  obtain ⟨B, N, U, _, E⟩ := h
  have lh := B.2.2.2.2.1.lh
  obtain ⟨f1, f2, f3⟩ := f
  have r : ∀ p, 1 ≤ p → ¬ (54 ≤ p ∧ p < 62) → I' p = I p := fun p a b => funext fun k => f1 p k (by omega) b
  exact ⟨nk, nh, nw, kn, nd, su, dn, dy, us, ds, su', dn', dy', B.fr (fun p k a => f1 p k (by omega) (by omega)) (fun p k a => f2 p k (by omega) (by omega) (by omega)), N.fr lh (fun p a b => r p (by omega) (by omega)) (fun p k a b c => f2 p k (by omega) (by omega) (by omega)) (fun p a b => f2 p 0 (by omega) (by omega) (by omega)) (f3 _ _ (by omega)), U.fr lh (fun p a b => r p (by omega) (by omega)) (funext fun k => f2 40 k (by omega) (by omega) (by omega)) (f2 _ _ (by omega) (by omega) (by omega)) (f2 _ _ (by omega) (by omega) (by omega)) (f2 _ _ (by omega) (by omega) (by omega)) (fun h _ => f2 _ _ (by omega) (by omega) (by omega)), G, E.fr (r 70 (by omega) (by omega)) (r 71 (by omega) (by omega)) (r 72 (by omega) (by omega)) (r 73 (by omega) (by omega)) (r 74 (by omega) (by omega)) (funext fun k => f2 38 k (by omega) (by omega) (by omega)) (f2 _ _ (by omega) (by omega) (by omega)) (f2 _ _ (by omega) (by omega) (by omega))⟩
theorem Rl.B {bk dr it : Nat} {I I' M M' : MI} {J : MJ} {J2 J2' : MJ} {nk nh nw kn nd su dn dy us ds sui dni dyi su' dn' dy' us' : Nat} (h : Rl bk dr it I M J2 nk nh nw kn nd su dn dy us ds sui dni dyi) (f : FrB I I' M M' J2 J2') (N : NowR I' M' J2' su' dn' dy' nk nh) (U : UndR I' M' nk nh us') : R bk dr it I' J M' J2' := by
  obtain ⟨B, _, _, G, E⟩ := h
  obtain ⟨f1, f2, f3⟩ := f
  exact ⟨nk, nh, nw, kn, nd, su', dn', dy', us', ds, sui, dni, dyi, B.fr (fun p k a => by rw [f1 p (by omega) (by omega)]) (fun p k a => f2 p k (by omega) (by omega) (by omega)), N, U, G.fr (by rw [f1 0 (by omega) (by omega)]) (fun p a b => f1 p (by omega) (by omega)) (funext fun k => f2 41 k (by omega) (by omega) (by omega)) (funext fun k => f2 42 k (by omega) (by omega) (by omega)) (f2 0 76 (by omega) (by omega) (by omega)) (f3 _ _ (by omega)), E.fr (f1 70 (by omega) (by omega)) (f1 71 (by omega) (by omega)) (f1 72 (by omega) (by omega)) (f1 73 (by omega) (by omega)) (f1 74 (by omega) (by omega)) (funext fun k => f2 38 k (by omega) (by omega) (by omega)) (f2 0 70 (by omega) (by omega) (by omega)) (f2 0 71 (by omega) (by omega) (by omega))⟩
theorem Rl.G {bk dr it : Nat} {I I' M M' : MI} {J : MJ} {J2 J2' : MJ} {nk nh nw kn nd su dn dy us ds sui dni dyi su' dn' dy' : Nat} (h : Rl bk dr it I M J2 nk nh nw kn nd su dn dy us ds sui dni dyi) (f : FrG I I' M M' J2 J2') (N : NowR I' M' J2' su' dn' dy' nk nh) (hu : (I' 64 5 = 0 ∧ M' 0 74 = 0) ∨ (I' 64 = I 64 ∧ M' 0 74 = M 0 74 ∧ (∀ p, 38 ≤ p → p < 46 → I' p = I p) ∧ (∀ p k, 26 ≤ p → p < 36 → M' p k = M p k) ∧ su' = su)) : R bk dr it I' J M' J2' := by
  obtain ⟨B, _, U, G, E⟩ := h
  have lh := B.2.2.2.2.1.lh
  obtain ⟨f1, f2, f3⟩ := f
  have U' : ∃ us', UndR I' M' nk nh us' := by
    rcases hu with ⟨a, b⟩ | ⟨a, b, c, d, _⟩
    · exact ⟨0, by omega, a, b, fun i hi => absurd hi (by omega)⟩
    · refine ⟨us, U.fr lh (fun p x y => ?_) (funext fun k => f2 40 k (by omega) (by omega) (by omega)) b (d _ _ (by omega) (by omega)) (d _ _ (by omega) (by omega)) (fun h _ => d _ _ (by omega) (by omega))⟩
      by_cases e : p = 64
      · subst e; exact a
      · exact f1 p (by omega) (by omega) e
  obtain ⟨us', U'⟩ := U'
  exact ⟨nk, nh, nw, kn, nd, su', dn', dy', us', ds, sui, dni, dyi, B.fr (fun p k a => by rw [f1 p (by omega) (by omega) (by omega)]) (fun p k a => f2 p k (by omega) (by omega) (by omega)), N, U', G.fr (by rw [f1 0 (by omega) (by omega) (by omega)]) (fun p a b => f1 p (by omega) (by omega) (by omega)) (funext fun k => f2 41 k (by omega) (by omega) (by omega)) (funext fun k => f2 42 k (by omega) (by omega) (by omega)) (f2 0 76 (by omega) (by omega) (by omega)) (f3 _ _ (by omega) (by omega) (by omega)), E.fr (f1 70 (by omega) (by omega) (by omega)) (f1 71 (by omega) (by omega) (by omega)) (f1 72 (by omega) (by omega) (by omega)) (f1 73 (by omega) (by omega) (by omega)) (f1 74 (by omega) (by omega) (by omega)) (funext fun k => f2 38 k (by omega) (by omega) (by omega)) (f2 0 70 (by omega) (by omega) (by omega)) (f2 0 71 (by omega) (by omega) (by omega))⟩
theorem Rl.F {bk dr it : Nat} {I I' M M' : MI} {J : MJ} {J2 : MJ} {nk nh nw kn nd su dn dy us ds sui dni dyi : Nat} (h : Rl bk dr it I M J2 nk nh nw kn nd su dn dy us ds sui dni dyi) (T : TapeR I' M') (f1 : ∀ p k, p ≠ 1 → ¬ (p = 0 ∧ k = 1) → I' p k = I p k) (f2 : ∀ p k, p ≠ 1 → ¬ (p = 0 ∧ (k = 1 ∨ k = 2)) → M' p k = M p k) : R bk dr it I' J M' J2 := by
  obtain ⟨⟨hbd, hit, _, F, Bk, Dy, L, w1, w2⟩, N, U, G, E⟩ := h
  have lh := Bk.lh
  have r : ∀ p, 2 ≤ p → I' p = I p := fun p a => funext fun k => f1 p k (by omega) (by omega)
  have s : ∀ p, 2 ≤ p → M' p = M p := fun p a => funext fun k => f2 p k (by omega) (by omega)
  have z : ∀ k, 3 ≤ k → M' 0 k = M 0 k := fun k a => f2 0 k (by omega) (by omega)
  refine ⟨nk, nh, nw, kn, nd, su, dn, dy, us, ds, sui, dni, dyi, ⟨hbd, hit, T, ⟨?_, ?_⟩, Bk.fr (fun p a b => r p (by omega)) (fun p a b => s p (by omega)) (fun k a b => z k (by omega)), Dy.fr (fun p a b => r p (by omega)) (fun p a b => s p (by omega)) (fun k a b => z k (by omega)), L.fr (fun p a b => r p (by omega)) (fun p a b => s p (by omega)), fun j hj => ?_, fun j hj => ?_⟩, N.fr lh (fun p a b => r p (by omega)) (fun p k a b c => by rw [s p (by omega)]) (fun p a b => by rw [s p (by omega)]) rfl, U.fr lh (fun p a b => r p (by omega)) (s 40 (by omega)) (z 74 (by omega)) (by rw [s 32 (by omega)]) (by rw [s 33 (by omega)]) (fun h _ => by rw [s 26 (by omega)]), G.fr (f1 _ _ (by omega) (by omega)) (fun p a b => r p (by omega)) (s 41 (by omega)) (s 42 (by omega)) (z 76 (by omega)) rfl, E.fr (r 70 (by omega)) (r 71 (by omega)) (r 72 (by omega)) (r 73 (by omega)) (r 74 (by omega)) (s 38 (by omega)) (z 70 (by omega)) (z 71 (by omega))⟩
  · rw [r 34 (by omega), z 4 (by omega)]; exact F.1
  · rw [r 34 (by omega), z 5 (by omega)]; exact F.2
  · rw [r 37 (by omega)]; exact w1 j hj
  · rw [s 2 (by omega)]; exact w2 j hj
