/-! reading: what is told so far -/
def scr (p k : Nat) : Prop := (p = 0 ∧ ((4 ≤ k ∧ k ≤ 11) ∨ (17 ≤ k ∧ k ≤ 21) ∨ (43 ≤ k ∧ k ≤ 48))) ∨ p = 3 ∨ p = 22 ∨ p = 23 ∨ (p = 4 ∧ 2 ≤ k) ∨ (((5 ≤ p ∧ p ≤ 11) ∨ p = 14 ∨ p = 15) ∧ 6 ≤ k) ∨ ((p = 12 ∨ p = 13) ∧ 20 ≤ k) ∨ ((p = 16 ∨ p = 17 ∨ p = 18) ∧ 3 ≤ k) ∨ ((p = 19 ∨ p = 20 ∨ p = 21) ∧ 64 ≤ k)
def FrM (M M' : MI) : Prop := ∀ p k, ¬ scr p k → M' p k = M p k
def FrI (dr : Nat) (I I' : MI) : Prop := ∀ p k, ¬ (dr ≤ p ∧ p < dr + 16) → p ≠ 34 → p ≠ 35 → p ≠ 36 → I' p k = I p k
theorem FrM.tr {M M' M'' : MI} (h : FrM M M') (h' : FrM M' M'') : FrM M M'' := fun p k a => (h' p k a).trans (h p k a)
theorem FrI.tr {dr : Nat} {I I' I'' : MI} (h : FrI dr I I') (h' : FrI dr I' I'') : FrI dr I I'' := fun p k a b c d => (h' p k a b c d).trans (h p k a b c d)
theorem TFM.fr {M M' : MI} (h : TFM M M') : FrM M M' := fun p k a => h p k (fun e => a (Or.inl ⟨e.1, Or.inl ⟨e.2.1, e.2.2.1⟩⟩))
theorem TF.fr {dr : Nat} {I I' : MI} (h : TF I I') : FrI dr I I' := fun p k _ b _ d => h p k b d
def KdR (dr : Nat) (I M : MI) (nk : Nat) : Prop := nk ≤ 6 ∧ I dr 11 = Int32.ofNat nk ∧ M 0 17 = Int32.ofNat nk ∧ ∀ k, k < nk → I (dr + 1) k = M 5 (6 + k) ∧ (∃ z, z ≤ 99 ∧ I (dr + 2) k = Int32.ofNat z ∧ M 6 (6 + k) = Int32.ofNat z) ∧ (∃ z, z ≤ 99 ∧ I (dr + 3) k = Int32.ofNat z ∧ M 7 (6 + k) = Int32.ofNat z)
def HsR (dr : Nat) (I M : MI) (nh : Nat) : Prop := nh ≤ 6 ∧ I dr 12 = Int32.ofNat nh ∧ M 0 18 = Int32.ofNat nh ∧ ∀ k, k < nh → I (dr + 4) k = M 8 (6 + k) ∧ (∃ z, z ≤ 999 ∧ I (dr + 5) k = Int32.ofNat z ∧ M 9 (6 + k) = Int32.ofNat z) ∧ (∃ z, z ≤ 9 ∧ I (dr + 6) k = Int32.ofNat z ∧ M 10 (6 + k) = Int32.ofNat z) ∧ (∃ z, z ≤ 99 ∧ I (dr + 7) k = Int32.ofNat z ∧ M 11 (6 + k) = Int32.ofNat z)
def WkR (dr : Nat) (I M : MI) (nw nh nk : Nat) : Prop := nw ≤ 6 ∧ I dr 13 = Int32.ofNat nw ∧ M 0 20 = Int32.ofNat nw ∧ ∀ k, k < nw → (∃ z, z < nh ∧ I (dr + 8) k = Int32.ofNat z ∧ M 14 (6 + k) = Int32.ofNat z) ∧ (∃ z, z < nk ∧ I (dr + 9) k = Int32.ofNat z ∧ M 15 (6 + k) = Int32.ofNat z)
def tlD (M : MI) (nd t : Nat) : Int32 := if sf (fun k => M 12 (20 + k)) (Int32.ofNat t) nd 0 = -1 then -1 else M 13 (20 + ix (sf (fun k => M 12 (20 + k)) (Int32.ofNat t) nd 0))
def DyR (dr : Nat) (I M : MI) (nd nk : Nat) : Prop := nd ≤ 20 ∧ I dr 14 = Int32.ofNat nd ∧ M 0 19 = Int32.ofNat nd ∧ (∀ d, d < nd → (∃ t, t < 100 ∧ M 12 (20 + d) = Int32.ofNat t) ∧ (∃ k, k < nk ∧ M 13 (20 + d) = Int32.ofNat k)) ∧ ∀ t, t < 100 → I (dr + 10) t = tlD M nd t
def TsR (dr : Nat) (I M : MI) : Prop := ((I dr 15 = -1 ∧ M 3 0 = 0 ∧ M 4 2 = 30) ∨ (M 3 0 = 1 ∧ ∃ z, 1 ≤ z ∧ z ≤ 99 ∧ I dr 15 = Int32.ofNat z ∧ M 4 2 = Int32.ofNat z)) ∧ ((I dr 16 = -1 ∧ M 3 1 = 0 ∧ M 4 3 = 0) ∨ (M 3 1 = 1 ∧ ∃ z, z ≤ 99999 ∧ I dr 16 = Int32.ofNat z ∧ M 4 3 = Int32.ofNat z))
def hi64 (M : MI) (p : Nat) : Nat → Int32 := fun i => M p (64 + i)
def LwD (dr : Nat) (I M : MI) (kn : Nat) : Prop := ∀ l, l < 3 → (I (dr + 13) l = 0 ∧ I (dr + 14) l = 0 ∧ M 16 (3 + l) = 0) ∨ (M 16 (3 + l) = 1 ∧ ∃ f m, f + m ≤ kn ∧ 1 ≤ m ∧ I (dr + 13) l = Int32.ofNat f ∧ I (dr + 14) l = Int32.ofNat m ∧ M 17 (3 + l) = Int32.ofNat f ∧ M 18 (3 + l) = Int32.ofNat (f + m) ∧ Wf (I (dr + 12)) (hi64 M 19) (hi64 M 20) (hi64 M 21) m f [])
def LwR (dr : Nat) (I M : MI) (kn : Nat) : Prop := kn ≤ 64 ∧ I (dr + 11) 4 = Int32.ofNat kn ∧ I (dr + 11) 5 = Int32.ofNat kn ∧ M 0 21 = Int32.ofNat kn ∧ M 0 46 = Int32.ofNat kn ∧ LwD dr I M kn
theorem Wf_congr {C K P O C' K' P' O' : Nat → Int32} : ∀ n i st, (∀ j, i ≤ j → j < i + n → C' j = C j ∧ K' j = K j ∧ P' j = P j ∧ O' j = O j) → Wf C K P O n i st → Wf C' K' P' O' n i st
  | 0, _, _, _, h => h
  | n + 1, i, st, he, h => by
    have ih : ∀ st, Wf C K P O n (i + 1) st → Wf C' K' P' O' n (i + 1) st := fun st => Wf_congr n (i + 1) st (fun j a b => he j (by omega) (by omega))
    obtain ⟨e1, e2, e3, e4⟩ := he i (by omega) (by omega)
    unfold Wf at h ⊢
    rw [e1, e2, e3, e4]
    rcases h with ⟨z, h1, h2, h3, h4, h5⟩ | ⟨z, h1, h2, h3, h4, h5⟩ | ⟨a, r, h1, h2, h3, h4, h5⟩ | ⟨a, b, r, k, h1, h2, h3, h4, h5, h6, h7, h8⟩
    · exact Or.inl ⟨z, h1, h2, h3, h4, ih _ h5⟩
    · exact Or.inr (Or.inl ⟨z, h1, h2, h3, h4, ih _ h5⟩)
    · exact Or.inr (Or.inr (Or.inl ⟨a, r, h1, h2, h3, h4, ih _ h5⟩))
    · exact Or.inr (Or.inr (Or.inr ⟨a, b, r, k, h1, h2, h3, h4, h5, h6, h7, ih _ h8⟩))
theorem KdR.fr {dr nk : Nat} {I I' M M' : MI} (h : KdR dr I M nk) (hI : ∀ q k, (q = dr ∧ k = 11) ∨ (dr + 1 ≤ q ∧ q ≤ dr + 3) → I' q k = I q k) (hM : ∀ q k, (q = 0 ∧ k = 17) ∨ (5 ≤ q ∧ q ≤ 7) → M' q k = M q k) : KdR dr I' M' nk := by
  obtain ⟨h1, h2, h3, h4⟩ := h
  refine ⟨h1, by rw [hI dr 11 (by omega)]; exact h2, by rw [hM 0 17 (by omega)]; exact h3, fun k hk => ?_⟩
  rw [hI (dr + 1) k (by omega), hI (dr + 2) k (by omega), hI (dr + 3) k (by omega), hM 5 _ (by omega), hM 6 _ (by omega), hM 7 _ (by omega)]
  exact h4 k hk
theorem HsR.fr {dr nh : Nat} {I I' M M' : MI} (h : HsR dr I M nh) (hI : ∀ q k, (q = dr ∧ k = 12) ∨ (dr + 4 ≤ q ∧ q ≤ dr + 7) → I' q k = I q k) (hM : ∀ q k, (q = 0 ∧ k = 18) ∨ (8 ≤ q ∧ q ≤ 11) → M' q k = M q k) : HsR dr I' M' nh := by
  obtain ⟨h1, h2, h3, h4⟩ := h
  refine ⟨h1, by rw [hI dr 12 (by omega)]; exact h2, by rw [hM 0 18 (by omega)]; exact h3, fun k hk => ?_⟩
  rw [hI (dr + 4) k (by omega), hI (dr + 5) k (by omega), hI (dr + 6) k (by omega), hI (dr + 7) k (by omega), hM 8 _ (by omega), hM 9 _ (by omega), hM 10 _ (by omega), hM 11 _ (by omega)]
  exact h4 k hk
theorem WkR.fr {dr nw nh nk nh' nk' : Nat} {I I' M M' : MI} (h : WkR dr I M nw nh nk) (h1 : nh ≤ nh') (h2 : nk ≤ nk') (hI : ∀ q k, (q = dr ∧ k = 13) ∨ (dr + 8 ≤ q ∧ q ≤ dr + 9) → I' q k = I q k) (hM : ∀ q k, (q = 0 ∧ k = 20) ∨ (14 ≤ q ∧ q ≤ 15) → M' q k = M q k) : WkR dr I' M' nw nh' nk' := by
  obtain ⟨g1, g2, g3, g4⟩ := h
  refine ⟨g1, by rw [hI dr 13 (by omega)]; exact g2, by rw [hM 0 20 (by omega)]; exact g3, fun k hk => ?_⟩
  rw [hI (dr + 8) k (by omega), hI (dr + 9) k (by omega), hM 14 _ (by omega), hM 15 _ (by omega)]
  obtain ⟨⟨z, a, b⟩, ⟨z', a', b'⟩⟩ := g4 k hk
  exact ⟨⟨z, by omega, b⟩, ⟨z', by omega, b'⟩⟩
theorem DyR.fr {dr nd nk nk' : Nat} {I I' M M' : MI} (h : DyR dr I M nd nk) (h2 : nk ≤ nk') (hI : ∀ q k, (q = dr ∧ k = 14) ∨ (q = dr + 10) → I' q k = I q k) (hM : ∀ q k, (q = 0 ∧ k = 19) ∨ (12 ≤ q ∧ q ≤ 13) → M' q k = M q k) : DyR dr I' M' nd nk' := by
  obtain ⟨g1, g2, g3, g4, g5⟩ := h
  refine ⟨g1, by rw [hI dr 14 (by omega)]; exact g2, by rw [hM 0 19 (by omega)]; exact g3, fun d hd => ?_, fun t ht => ?_⟩
  · rw [hM 12 _ (by omega), hM 13 _ (by omega)]
    obtain ⟨a, ⟨k, b, c⟩⟩ := g4 d hd
    exact ⟨a, ⟨k, by omega, c⟩⟩
  · unfold tlD
    rw [hI (dr + 10) t (by omega), funext (fun k => hM 12 (20 + k) (by omega)), hM 13 _ (by omega)]
    exact g5 t ht
theorem TsR.fr {dr : Nat} {I I' M M' : MI} (h : TsR dr I M) (hI : ∀ k, 15 ≤ k ∧ k ≤ 16 → I' dr k = I dr k) (hM : ∀ q k, (q = 3 ∨ q = 4) → M' q k = M q k) : TsR dr I' M' := by
  unfold TsR at h ⊢
  rw [hI 15 (by omega), hI 16 (by omega), hM 3 0 (by omega), hM 3 1 (by omega), hM 4 2 (by omega), hM 4 3 (by omega)]
  exact h
theorem LwR.fr {dr kn : Nat} {I I' M M' : MI} (h : LwR dr I M kn) (hI : ∀ q k, (dr + 11 ≤ q ∧ q ≤ dr + 15) → I' q k = I q k) (hM : ∀ q k, (q = 0 ∧ (k = 21 ∨ k = 46)) ∨ (16 ≤ q ∧ q ≤ 21) → M' q k = M q k) : LwR dr I' M' kn := by
  obtain ⟨g1, g2, g3, g4, g5, g6⟩ := h
  refine ⟨g1, by rw [hI _ 4 (by omega)]; exact g2, by rw [hI _ 5 (by omega)]; exact g3, by rw [hM 0 21 (by omega)]; exact g4, by rw [hM 0 46 (by omega)]; exact g5, fun l hl => ?_⟩
  rw [hI (dr + 13) l (by omega), hI (dr + 14) l (by omega), hM 16 _ (by omega), hM 17 _ (by omega), hM 18 _ (by omega), show I' (dr + 12) = I (dr + 12) from funext (fun k => hI _ k (by omega)), show hi64 M' 19 = hi64 M 19 from funext (fun k => hM _ _ (by omega)), show hi64 M' 20 = hi64 M 20 from funext (fun k => hM _ _ (by omega)), show hi64 M' 21 = hi64 M 21 from funext (fun k => hM _ _ (by omega))]
  exact g6 l hl
def DrR (dr : Nat) (I M : MI) (nk nh nw nd kn : Nat) : Prop := KdR dr I M nk ∧ HsR dr I M nh ∧ WkR dr I M nw nh nk ∧ DyR dr I M nd nk ∧ TsR dr I M ∧ LwR dr I M kn
def Dr (dr : Nat) (I M : MI) : Prop := ∃ nk nh nw nd kn, DrR dr I M nk nh nw nd kn
/-- how a line ends -/
def Lout (dr : Nat) (o1 o2 : Option (Bool × MI)) (I M : MI) (T : Nat → Nat) (n p : Nat) : Prop := (∃ I' M' p', o1 = some (true, I') ∧ o2 = some (true, M') ∧ p ≤ p' ∧ TkI I' T n p' ∧ Ahd M' T n p' ∧ Dr dr I' M' ∧ FlS I I' M M' ∧ FrI dr I I' ∧ FrM M M') ∨ (∃ I' M', o1 = some (false, I') ∧ o2 = some (false, M') ∧ FlR I' M' ∧ FrI dr I I' ∧ FrM M M')
theorem q_le {T : Nat → Nat} {n p : Nat} (hT : ∀ k, T k < 256) (hp : p ≤ n) : p ≤ qQ T n p := by
  have := tok_b hT hp
  unfold qQ
  omega
theorem FT.p {I I' : MI} (h : FT I I') (q k : Nat) (hq : q ≠ 36) : I' q k = I q k := h q k (by omega)
theorem p_kNamed {dr nk m : Nat} {I M : MI} (h : KdR dr I M nk) (hm : m = nk) (x : Int32) : f_X0_kindNamed I dr x = some (sf (fun k => M 5 (6 + k)) x m 0) := by
  obtain ⟨h1, h2, h3, h4⟩ := h
  subst hm
  delta f_X0_kindNamed
  rw [h2, p_placeOf (by omega) (by omega), bd1_s]
  exact congrArg some (sf_congr _ _ (fun k _ hk => (h4 k (by omega)).1))
theorem p_hNamed {dr nh : Nat} {I M : MI} (h : HsR dr I M nh) (x : Int32) : f_X0_houseNamed I dr x = some (sf (fun k => M 8 (6 + k)) x nh 0) := by
  obtain ⟨h1, h2, h3, h4⟩ := h
  delta f_X0_houseNamed
  rw [h2, p_placeOf (by omega) (by omega), bd1_s]
  exact congrArg some (sf_congr _ _ (fun k _ hk => (h4 k (by omega)).1))
