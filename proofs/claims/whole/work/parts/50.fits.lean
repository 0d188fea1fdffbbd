/-! fits, ask -/
def fl (sk : Nat → Bool) (tg : Nat → Nat) : Nat → (Nat → Bool) → (Nat → Bool)
  | 0, f => f
  | i + 1, f => fl sk tg i (if sk i && !f i then fun k => if k = tg i then true else f k else f)
def dsk (I : MI) (i : Nat) : Bool := decide (I 71 i = -1)
def dtg (I : MI) (i : Nat) : Nat := (I 72 i).toInt.toNat
def kno (I : MI) (ds : Nat) : Nat := if I 70 6 = -1 then ds else (I 70 6).toInt.toNat
theorem kno_c {I M : MI} {nh ds : Nat} (E : DiaR I M nh ds) : kno I ds ≤ ds ∧ (∀ I', I' 70 = I 70 → f_X2_knownCount I' = some (Int32.ofNat (kno I ds))) ∧ (∀ M', M' 0 70 = M 0 70 → M' 0 71 = M 0 71 → f_X11_knownBy M' = some (Int32.ofNat (kno I ds))) := by
  have dl := E.dl
  have e : (if I 70 6 = -1 then I 70 5 else I 70 6) = Int32.ofNat (kno I ds) ∧ kno I ds ≤ ds := by
    unfold kno
    rcases E.kx with h | ⟨n, hn, h⟩
    · rw [if_pos h, if_pos h]; exact ⟨E.s1, Nat.le_refl _⟩
    · have hne : ¬ I 70 6 = -1 := by rw [h]; exact (enc_neg (by omega)).2.2.1
      rw [if_neg hne, if_neg hne, h, n_toInt (by omega)]
      exact ⟨rfl, hn⟩
  have hx : I 70 6 = -1 ∨ ∃ n, n ≤ 24 ∧ I 70 6 = Int32.ofNat n := by
    rcases E.kx with h | ⟨n, hn, h⟩
    · exact Or.inl h
    · exact Or.inr ⟨n, by omega, h⟩
  refine ⟨e.2, fun I' h => ?_, fun M' h0 h1 => ?_⟩
  · have := (c_known0 (I := I') (M := M) (by rw [h, E.s1, E.s2]) (by rw [h, E.kb]) (by rw [h]; exact hx)).1
    rw [this, h, e.1]
  · have := (c_known0 (I := I) (M := M') (by rw [h0, E.s1, E.s2]) (by rw [h1, E.kb]) hx).2
    rw [this, e.1]
def fb (b : Bool) : Int32 := if b then 1 else 0
theorem st2_at {α : Type} {f : Nat → Nat → α} {p k k' : Nat} {v : α} : st2 f p k v p k' = if k' = k then v else f p k' := by rw [st2_eq]
theorem p_findStruck {I M : MI} {nh ds : Nat} (E : DiaR I M nh ds) : ∃ I', f_X2_findStruck I = some I' ∧ (∀ p, p ≠ 75 → I' p = I p) ∧ (∀ k, k < 24 → I' 75 k = fb (fl (dsk I) (dtg I) (kno I ds) (fun _ => false) k)) := by
  have dl := E.dl
  have hk := kno_c E
  suffices h : Ev (f_X2_findStruck I) (fun I' => (∀ p, p ≠ 75 → I' p = I p) ∧ (∀ k, k < 24 → I' 75 k = fb (fl (dsk I) (dtg I) (kno I ds) (fun _ => false) k))) from h
  delta f_X2_findStruck
  refine Ev_j1 (fun I1 => (∀ p, p ≠ 75 → I1 p = I p) ∧ ∀ k, k < 24 → I1 75 k = 0) ?_ ?_
  · rintro I1 ⟨h1, h2⟩
    rw [hk.2.1 I1 (h1 70 (by decide)), bd1_s]
    refine Ev_ls ?_
    refine Ev_fix2 (fun x4 I5 => ∃ i f, i ≤ kno I ds ∧ x4.toInt = (i : Int) - 1 ∧ (∀ p, p ≠ 75 → I5 p = I p) ∧ (∀ k, k < 24 → I5 75 k = fb (f k)) ∧ fl (dsk I) (dtg I) i f = fl (dsk I) (dtg I) (kno I ds) (fun _ => false)) (fun x4 _ => (x4.toInt + 1).toNat) ?_ FU _ _ (FU_lt ?_) ⟨kno I ds, fun _ => false, Nat.le_refl _, i_sub1 (by omega), h1, fun k hk => (h2 k hk).trans rfl, rfl⟩
    · rintro rec x4 I5 ⟨i, f, hi, hx, h5, h6, hf⟩ hrec
      refine Ev_if (fun c => ?_) (fun c => ?_)
      · rw [Int32.lt_iff_toInt_lt, z0, hx] at c
        have : i = 0 := by omega
        subst this
        exact Ev_some ⟨h5, fun k hk => by rw [← hf]; exact h6 k hk⟩
      · rw [Int32.lt_iff_toInt_lt, z0, hx] at c
        obtain ⟨i, rfl⟩ : ∃ j, i = j + 1 := ⟨i - 1, by omega⟩
        have hxe : x4 = Int32.ofNat i := by
          apply Int32.toInt.inj
          rw [hx, n_toInt (by omega)]; omega
        subst hxe
        have hm1 : (-1 : Int32).toInt = -1 := rfl
        have hx' : (Int32.ofNat i + -1).toInt = (i : Int) - 1 := by
          rw [i_add (by rw [n_toInt (by omega), hm1]; omega) (by rw [n_toInt (by omega), hm1]; omega), n_toInt (by omega), hm1]; omega
        have hgo : ∀ I6 f', (∀ p, p ≠ 75 → I6 p = I p) → (∀ k, k < 24 → I6 75 k = fb (f' k)) → (if dsk I i && !f i then fun k => if k = dtg I i then true else f k else f) = f' → Ev (rec (Int32.ofNat i + -1) I6) (fun I' => (∀ p, p ≠ 75 → I' p = I p) ∧ (∀ k, k < 24 → I' 75 k = fb (fl (dsk I) (dtg I) (kno I ds) (fun _ => false) k))) := fun I6 f' a b c' => by
          refine hrec _ _ ⟨i, f', by omega, hx', a, b, ?_⟩ ?_
          · rw [← hf, ← c']; rfl
          · rw [hx', n_toInt (by omega)]; omega
        refine Ev_gd ((n_inb (by omega)).mpr (by omega)) (Ev_ls ?_)
        rw [n_ix (by omega), h5 71 (by decide), h5 72 (by decide), h6 i (by omega)]
        obtain ⟨_, _, _, _, _, hen⟩ := E.en i (by omega)
        refine Ev_if (fun c1 => ?_) (fun c1 => ?_)
        · refine Ev_gd ((n_inb (by omega)).mpr (by omega)) ?_
          have hd : dsk I i = true := decide_eq_true c1
          rw [hd, Bool.true_and] at hgo
          cases hfi : f i with
          | true =>
            rw [hfi] at hgo
            rw [if_neg (by decide)]
            exact hgo I5 f h5 h6 rfl
          | false =>
            rw [hfi] at hgo
            rw [if_pos (by rfl)]
            refine Ev_gd ((n_inb (by omega)).mpr (by omega)) (Ev_gd rfl ?_)
            rcases hen with ⟨_, j, hj, ej⟩ | ⟨⟨t, ht, et⟩, _⟩
            · have hdt : dtg I i = j := n_nat (by omega) ej
              rw [ej]
              refine Ev_gd ((n_inb (by omega)).mpr (by omega)) (Ev_ls ?_)
              rw [n_ix (by omega)]
              refine hgo _ (fun k => if k = dtg I i then true else f k) (fun p hp => ?_) (fun k hk => ?_) rfl
              · rw [st2_ne hp]; exact h5 p hp
              · rw [st2_at, hdt]
                by_cases he : k = j
                · rw [if_pos he, if_pos he]; rfl
                · rw [if_neg he, if_neg he]; exact h6 k hk
            · rw [et] at c1
              exact absurd c1 (enc_neg (by omega)).2.2.1
        · have hd : dsk I i = false := decide_eq_false c1
          rw [hd, Bool.false_and] at hgo
          exact hgo I5 f h5 h6 rfl
    · have := hk.1
      rw [i_sub1 (by omega)]; omega
  · intro j hj
    refine Ev_fix2 (fun x9 I10 => ∃ i, i ≤ 24 ∧ x9 = Int32.ofNat i ∧ (∀ p, p ≠ 75 → I10 p = I p) ∧ ∀ k, k < i → I10 75 k = 0) (fun x9 _ => (80 - x9.toInt).toNat) ?_ FU _ _ (FU_lt (by decide)) ⟨0, by omega, rfl, fun _ _ => rfl, fun k hk => absurd hk (by omega)⟩
    rintro rec x9 I10 ⟨i, hi, rfl, h1, h2⟩ hrec
    refine Ev_if (fun c => ?_) (fun c => ?_)
    · have := (n_le (a := 24) (by omega) (by omega)).mp c
      exact hj _ ⟨h1, fun k hk => h2 k (by omega)⟩
    · have hlt : i < 24 := Nat.lt_of_not_le (fun h => c ((n_le (a := 24) (by omega) (by omega)).mpr h))
      refine Ev_gd rfl (Ev_gd ((n_inb (by omega)).mpr (by omega)) (Ev_ls (Ev_ls ?_)))
      rw [n_ix (by omega), n_t1]
      refine hrec _ _ ⟨i + 1, by omega, rfl, fun p hp => ?_, fun k hk => ?_⟩ ?_
      · rw [st2_ne hp]; exact h1 p hp
      · rw [st2_at]
        by_cases he : k = i
        · rw [if_pos he]
        · rw [if_neg he]; exact h2 k (by omega)
      · rw [n_toInt (by omega), n_toInt (by omega)]; omega
/-- all notes of a day are so, by a kind -/
def al (q : Nat → Bool) : Nat → Bool
  | 0 => true
  | n + 1 => al q n && q n
theorem al_f {q : Nat → Bool} : ∀ n i, i < n → q i = false → al q n = false
  | 0, _, h, _ => absurd h (Nat.not_lt_zero _)
  | n + 1, i, h, hq => by
    show (al q n && q n) = false
    by_cases he : i = n
    · subst he; rw [hq, Bool.and_false]
    · rw [al_f n i (by omega) hq, Bool.false_and]
def fck (bk : Nat) (I : MI) (F : Nat → Bool) (d : Int32) (k i : Nat) : Bool := !decide (I 71 i = d) || F i || decide (fb (!decide (I 73 i < Int32.ofNat (pay bk I k (dtg I i)))) = I 74 i)
def bts (q : Nat → Bool) : Nat → Nat
  | 0 => 0
  | n + 1 => if q n then bts q n + 2 ^ n else bts q n
theorem bts_lt (q : Nat → Bool) : ∀ n, bts q n < 2 ^ n
  | 0 => Nat.one_pos
  | n + 1 => by
    have := bts_lt q n
    show (if q n then bts q n + 2 ^ n else bts q n) < 2 ^ (n + 1)
    rw [Nat.pow_succ]
    split <;> omega
theorem or_b : ∀ i : Fin 6, ∀ s : Fin 32, s.1 < 2 ^ i.1 → Int32.ofNat s.1 ||| ((1 : Int32) <<< (Int32.ofNat i.1 &&& 31)) = Int32.ofNat (s.1 + 2 ^ i.1) := by decide +kernel
theorem bts_or {q : Nat → Bool} {i : Nat} (hi : i < 6) : Int32.ofNat (bts q i) ||| ((1 : Int32) <<< (Int32.ofNat i &&& 31)) = Int32.ofNat (bts q i + 2 ^ i) := by
  have h := bts_lt q i
  have h2 : 2 ^ i ≤ 2 ^ 5 := Nat.pow_le_pow_right (by decide) (by omega)
  exact or_b ⟨i, hi⟩ ⟨bts q i, by omega⟩ h
