/-! the relation of the two memories -/
theorem BookR.fc {bk nk nh nw kn : Nat} {I I' M M' : MI} (B : BookR bk I M nk nh nw kn) (hI : ∀ p k, bk ≤ p → p < bk + 16 → I' p k = I p k) (hM : ∀ p k, 4 ≤ p → p < 22 → k < rn6 p → M' p k = M p k) (h0 : ∀ k, 12 ≤ k → k < 17 → M' 0 k = M 0 k) : BookR bk I' M' nk nh nw kn := by
  obtain ⟨a1, a2, a3, a4, b1, b2, b3, b4, b5, b6, b7, b8, c1, c2, c3, c4, c5, c6, c7, c8, c9, d1, d2⟩ := B
  have r6 : ∀ q k, (5 ≤ q ∧ q ≤ 11) ∨ (14 ≤ q ∧ q ≤ 15) → k < 6 → M' q k = M q k := fun q k a c => hM q k (by omega) (by omega) (by unfold rn6; rw [if_neg (by omega), if_neg (by omega), if_neg (by omega), if_neg (by omega)]; exact c)
  refine ⟨a1, a2, a3, a4, ?_, ?_, ?_, ?_, ?_, ?_, ?_, ?_, fun k hk => ?_, fun k hk => ?_, fun k hk => ?_, fun k hk => ?_, fun k hk => ?_, fun k hk => ?_, fun k hk => ?_, fun k hk => ?_, fun k hk => ?_, ?_, ?_⟩
  · rw [hI _ _ (by omega) (by omega)]; exact b1
  · rw [h0 _ (by omega) (by omega)]; exact b2
  · rw [hI _ _ (by omega) (by omega)]; exact b3
  · rw [h0 _ (by omega) (by omega)]; exact b4
  · rw [hI _ _ (by omega) (by omega)]; exact b5
  · rw [h0 _ (by omega) (by omega)]; exact b6
  · rw [hI _ _ (by omega) (by omega)]; exact b7
  · rw [h0 _ (by omega) (by omega)]; exact b8
  · rw [hI _ _ (by omega) (by omega), r6 _ _ (by omega) (by omega)]; exact c1 k hk
  · rw [hI _ _ (by omega) (by omega), r6 _ _ (by omega) (by omega)]; exact c2 k hk
  · rw [hI _ _ (by omega) (by omega), r6 _ _ (by omega) (by omega)]; exact c3 k hk
  · rw [hI _ _ (by omega) (by omega), r6 _ _ (by omega) (by omega)]; exact c4 k hk
  · rw [hI _ _ (by omega) (by omega), r6 _ _ (by omega) (by omega)]; exact c5 k hk
  · rw [hI _ _ (by omega) (by omega), r6 _ _ (by omega) (by omega)]; exact c6 k hk
  · rw [hI _ _ (by omega) (by omega), r6 _ _ (by omega) (by omega)]; exact c7 k hk
  · rw [hI _ _ (by omega) (by omega), r6 _ _ (by omega) (by omega)]; exact c8 k hk
  · rw [hI _ _ (by omega) (by omega), r6 _ _ (by omega) (by omega)]; exact c9 k hk
  · rw [hI _ _ (by omega) (by omega), hM 4 0 (by omega) (by omega) (by decide)]; exact d1
  · rw [hI _ _ (by omega) (by omega), hM 4 1 (by omega) (by omega) (by decide)]; exact d2
theorem DayR.fc {bk nk nd : Nat} {I I' M M' : MI} (D : DayR bk I M nk nd) (lk : nk ≤ 6) (hI : ∀ p k, bk ≤ p → p < bk + 16 → I' p k = I p k) (hM : ∀ p k, 4 ≤ p → p < 22 → k < rn6 p → M' p k = M p k) (h0 : ∀ k, 12 ≤ k → k < 17 → M' 0 k = M 0 k) : DayR bk I' M' nk nd := by
  obtain ⟨d1, d2, d3, d4, d5, d6, d7, d8⟩ := D
  have r12 : ∀ q k, 12 ≤ q → q ≤ 13 → k < 20 → M' q k = M q k := fun q k a b c => hM q k (by omega) (by omega) (by unfold rn6; rw [if_neg (by omega), if_pos (by omega)]; exact c)
  have r7 : ∀ k, k < nk → M' 7 k = M 7 k := fun k c => hM 7 k (by omega) (by omega) (by show k < 6; omega)
  refine ⟨d1, ?_, fun d hd => ?_, fun d hd => ?_, fun t ht => ?_, ?_, ?_, ?_⟩
  · rw [h0 _ (by omega) (by omega)]; exact d2
  · rw [r12 _ _ (by omega) (by omega) (by omega)]; exact d3 d hd
  · rw [r12 _ _ (by omega) (by omega) (by omega)]; exact d4 d hd
  · rw [hI _ _ (by omega) (by omega), d5 t ht]
    have hs : sf (M 12) (Int32.ofNat t) nd 0 = sf (M' 12) (Int32.ofNat t) nd 0 := sf_congr _ _ (fun k _ hk => (r12 12 k (by omega) (by omega) (by omega)).symm)
    unfold tld
    rw [hs]
    rcases sf_c (M' 12) (Int32.ofNat t) nd 0 with e | ⟨j, _, hj, _, e⟩
    · rw [e, if_pos rfl, if_pos rfl]
    · have e1 := (enc_neg (j := j) (by omega)).2.2.1
      rw [e, if_neg e1, if_neg e1, n_ix (by omega), r12 13 j (by omega) (by omega) (by omega)]
  · rw [hI _ _ (by omega) (by omega), d6]; exact (sm_congr nk r7).symm
  · rw [hI _ _ (by omega) (by omega), d7, wct_congr nk r7]
  · rw [hI _ _ (by omega) (by omega), d8, hvf_congr nk (by omega) r7]
theorem LawR.fc {bk : Nat} {I I' M M' : MI} (L : LawR bk I M) (hI : ∀ p k, bk ≤ p → p < bk + 16 → I' p k = I p k) (hM : ∀ p k, 4 ≤ p → p < 22 → k < rn6 p → M' p k = M p k) : LawR bk I' M' := by
  intro l hl
  have r16 : ∀ q k, 16 ≤ q → q ≤ 18 → k < 3 → M' q k = M q k := fun q k a b c => hM q k (by omega) (by omega) (by unfold rn6; rw [if_neg (by omega), if_neg (by omega), if_pos (by omega)]; exact c)
  have r19 : ∀ q k, 19 ≤ q → q ≤ 21 → k < 64 → M' q k = M q k := fun q k a b c => hM q k (by omega) (by omega) (by unfold rn6; rw [if_neg (by omega), if_neg (by omega), if_neg (by omega), if_pos (by omega)]; exact c)
  rw [hI _ _ (by omega) (by omega), hI _ _ (by omega) (by omega), r16 16 l (by omega) (by omega) hl, r16 17 l (by omega) (by omega) hl, r16 18 l (by omega) (by omega) hl]
  rcases L l hl with h | ⟨a, f, m, b1, b2, b3, b4, b5, b6, b7⟩
  · exact Or.inl h
  · exact Or.inr ⟨a, f, m, b1, b2, b3, b4, b5, b6, Wf_congr _ _ _ (fun j ja jb => ⟨hI _ _ (by omega) (by omega), r19 19 j (by omega) (by omega) (by omega), r19 20 j (by omega) (by omega) (by omega), r19 21 j (by omega) (by omega) (by omega)⟩) b7⟩
def Bs (bk dr it : Nat) (I M : MI) (nk nh nw kn nd : Nat) : Prop := ((bk = 2 ∧ dr = 18) ∨ (bk = 18 ∧ dr = 2)) ∧ (it = 2 ∨ it = 18) ∧ TapeR I M ∧ FlR I M ∧ BookR bk I M nk nh nw kn ∧ DayR bk I M nk nd ∧ LawR bk I M ∧ (∀ j, j < 20 → I 37 j = Int32.ofNat (wlc j)) ∧ (∀ i, i < 100 → M 2 i = Int32.ofNat (wcs i))
theorem Bs.fr {bk dr it : Nat} {I I' M M' : MI} {nk nh nw kn nd : Nat} (h : Bs bk dr it I M nk nh nw kn nd) (hI : ∀ p k, (p = 0 ∧ k = 1) ∨ (1 ≤ p ∧ p < 34) ∨ (p = 34 ∧ 4 < k) ∨ p = 37 → I' p k = I p k) (hM : ∀ p k, (p = 0 ∧ (k = 1 ∨ k = 4 ∨ k = 5 ∨ (12 ≤ k ∧ k ≤ 16))) ∨ (1 ≤ p ∧ p < 22) → M' p k = M p k) : Bs bk dr it I' M' nk nh nw kn nd := by
  obtain ⟨h1, h2, ⟨t, t1, t2, t3, t4⟩, ⟨f1, f2⟩, B, D, L, w1, w2⟩ := h
  refine ⟨h1, h2, ⟨t, t1, ?_, ?_, fun k => ?_⟩, ⟨?_, ?_⟩, B.fc (fun p k a b => hI p k (by omega)) (fun p k a b _ => hM p k (by omega)) (fun k a b => hM 0 k (by omega)), D.fc B.lk (fun p k a b => hI p k (by omega)) (fun p k a b _ => hM p k (by omega)) (fun k a b => hM 0 k (by omega)), L.fc (fun p k a b => hI p k (by omega)) (fun p k a b _ => hM p k (by omega)), fun j hj => ?_, fun i hi => ?_⟩
  · rw [hI _ _ (by omega)]; exact t2
  · rw [hM _ _ (by omega)]; exact t3
  · rw [hI _ _ (by omega), hM _ _ (by omega)]; exact t4 k
  · rw [hI _ _ (by omega), hM _ _ (by omega)]; exact f1
  · rw [hI _ _ (by omega), hM _ _ (by omega)]; exact f2
  · rw [hI _ _ (by omega)]; exact w1 j hj
  · rw [hM _ _ (by omega)]; exact w2 i hi
def Rl (bk dr it : Nat) (I M : MI) (J2 : MJ) (nk nh nw kn nd su dn dy us ds sui dni dyi : Nat) : Prop := Bs bk dr it I M nk nh nw kn nd ∧ NowR I M J2 su dn dy nk nh ∧ UndR I M nk nh us ∧ ImgR I M J2 nk nh sui dni dyi ∧ DiaR I M nh ds
def R (bk dr it : Nat) (I : MI) (_ : MJ) (M : MI) (J2 : MJ) : Prop := ∃ nk nh nw kn nd su dn dy us ds sui dni dyi, Rl bk dr it I M J2 nk nh nw kn nd su dn dy us ds sui dni dyi
theorem R.st {bk dr it : Nat} {I : MI} {J J' : MJ} {M M' : MI} {J2 : MJ} (h : R bk dr it I J M J2) (hM : ∀ p k, ¬ (p = 0 ∧ k = 2) → M' p k = M p k) : R bk dr it I J' M' J2 := by
  obtain ⟨nk, nh, nw, kn, nd, su, dn, dy, us, ds, sui, dni, dyi, B, N, U, G, D⟩ := h
  have lh := B.2.2.2.2.1.lh
  exact ⟨nk, nh, nw, kn, nd, su, dn, dy, us, ds, sui, dni, dyi, B.fr (fun _ _ _ => rfl) (fun p k a => hM p k (by omega)), N.fr lh (fun _ _ _ => rfl) (fun p k a b c => hM p k (by omega)) (fun p a b => hM p 0 (by omega)) rfl, U.fr lh (fun _ _ _ => rfl) (funext fun k => hM 40 k (by omega)) (hM _ _ (by omega)) (hM _ _ (by omega)) (hM _ _ (by omega)) (fun h _ => hM _ _ (by omega)), G.fr rfl (fun _ _ _ => rfl) (funext fun k => hM 41 k (by omega)) (funext fun k => hM 42 k (by omega)) (hM _ _ (by omega)) rfl, D.fr rfl rfl rfl rfl rfl (funext fun k => hM 38 k (by omega)) (hM _ _ (by omega)) (hM _ _ (by omega))⟩
theorem R.st0 {bk dr it : Nat} {I : MI} {J J' : MJ} {M : MI} {J2 : MJ} (h : R bk dr it I J M J2) : R bk dr it I J' (st2 M 0 2 0) J2 := h.st (fun p k a => st0_at a)
theorem R.T {bk dr it : Nat} {I I' : MI} {J J' : MJ} {M M' : MI} {J2 J2' : MJ} (h : R bk dr it I J M J2) (f : FrT I I' M M' J2 J2') : R bk dr it I' J' M' J2' := by
  obtain ⟨nk, nh, nw, kn, nd, su, dn, dy, us, ds, sui, dni, dyi, B, N, U, G, D⟩ := h
  have lh := B.2.2.2.2.1.lh
  obtain ⟨f1, f2, f3⟩ := f
  exact ⟨nk, nh, nw, kn, nd, su, dn, dy, us, ds, sui, dni, dyi, B.fr (fun p k a => by rw [f1 p (by omega) (by omega)]) (fun p k a => f2 p k (by omega) (by omega) (by omega)), N.fr lh (fun p a b => f1 p (by omega) (by omega)) (fun p k a b c => f2 p k (by omega) (by omega) (by omega)) (fun p a b => f2 p 0 (by omega) (by omega) (by omega)) (f3 _ _ (by omega) (by omega)), U.fr lh (fun p a b => f1 p (by omega) (by omega)) (funext fun k => f2 40 k (by omega) (by omega) (by omega)) (f2 _ _ (by omega) (by omega) (by omega)) (f2 _ _ (by omega) (by omega) (by omega)) (f2 _ _ (by omega) (by omega) (by omega)) (fun h _ => f2 _ _ (by omega) (by omega) (by omega)), G.fr (by rw [f1 0 (by omega) (by omega)]) (fun p a b => f1 p (by omega) (by omega)) (funext fun k => f2 41 k (by omega) (by omega) (by omega)) (funext fun k => f2 42 k (by omega) (by omega) (by omega)) (f2 _ _ (by omega) (by omega) (by omega)) (f3 _ _ (by omega) (by omega)), D.fr (f1 _ (by omega) (by omega)) (f1 _ (by omega) (by omega)) (f1 _ (by omega) (by omega)) (f1 _ (by omega) (by omega)) (f1 _ (by omega) (by omega)) (funext fun k => f2 38 k (by omega) (by omega) (by omega)) (f2 _ _ (by omega) (by omega) (by omega)) (f2 _ _ (by omega) (by omega) (by omega))⟩
theorem R.Pl {bk dr it : Nat} {I I' : MI} {J J' : MJ} {M M' : MI} {J2 : MJ} (h : R bk dr it I J M J2) (f : FrPl I I' M M') : R bk dr it I' J' M' J2 := by
  obtain ⟨nk, nh, nw, kn, nd, su, dn, dy, us, ds, sui, dni, dyi, B, N, U, G, D⟩ := h
  have lh := B.2.2.2.2.1.lh
  obtain ⟨f1, f2⟩ := f
  exact ⟨nk, nh, nw, kn, nd, su, dn, dy, us, ds, sui, dni, dyi, B.fr (fun p k a => by rw [f1 p (by omega)]) (fun p k a => f2 p k (by omega) (by omega) (by omega)), N.fr lh (fun p a b => f1 p (by omega)) (fun p k a b c => f2 p k (by omega) (by omega) (by omega)) (fun p a b => f2 p 0 (by omega) (by omega) (by omega)) rfl, U.fr lh (fun p a b => f1 p (by omega)) (funext fun k => f2 40 k (by omega) (by omega) (by omega)) (f2 _ _ (by omega) (by omega) (by omega)) (f2 _ _ (by omega) (by omega) (by omega)) (f2 _ _ (by omega) (by omega) (by omega)) (fun h _ => f2 _ _ (by omega) (by omega) (by omega)), G.fr (by rw [f1 0 (by omega)]) (fun p a b => f1 p (by omega)) (funext fun k => f2 41 k (by omega) (by omega) (by omega)) (funext fun k => f2 42 k (by omega) (by omega) (by omega)) (f2 _ _ (by omega) (by omega) (by omega)) rfl, D.fr (f1 _ (by omega)) (f1 _ (by omega)) (f1 _ (by omega)) (f1 _ (by omega)) (f1 _ (by omega)) (funext fun k => f2 38 k (by omega) (by omega) (by omega)) (f2 _ _ (by omega) (by omega) (by omega)) (f2 _ _ (by omega) (by omega) (by omega))⟩
