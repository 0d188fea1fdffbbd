/-! fits, ask: by kinds -/
theorem p_isFitting {bk nk nh nw kn ds : Nat} {I M : MI} (B : BookR bk I M nk nh nw kn) (E : DiaR I M nh ds) {F : Nat → Bool} (h75 : ∀ k, k < 24 → I 75 k = fb (F k)) {t k : Nat} (ht : t < 100) (hk : k < nk) : f_X2_isFitting I bk (Int32.ofNat t) (Int32.ofNat k) = some (al (fck bk I F (Int32.ofNat t) k) (kno I ds)) := by
  have dl := E.dl
  have lh := B.lh
  have hkn := kno_c E
  have hkl := hkn.1
  apply Ev_eq
  delta f_X2_isFitting
  refine Ev_fix1 (fun x1 => ∃ i, i ≤ kno I ds ∧ x1 = Int32.ofNat i ∧ al (fck bk I F (Int32.ofNat t) k) i = true) (fun x1 => (80 - x1.toInt).toNat) ?_ FU _ (FU_lt (by decide)) ⟨0, by omega, rfl, rfl⟩
  rintro rec x1 ⟨i, hi, rfl, ha⟩ hrec
  rw [hkn.2.1 I rfl, bd1_s]
  refine Ev_if (fun c => ?_) (fun c => ?_)
  · have := (n_le (by omega) (by omega)).mp c
    have : i = kno I ds := by omega
    rw [← this, ha]
    exact Ev_some rfl
  · have hlt : i < kno I ds := Nat.lt_of_not_le (fun h => c ((n_le (by omega) (by omega)).mpr h))
    have g : inb (Int32.ofNat i) 24 = true := (n_inb (by omega)).mpr (by omega)
    have hgo : fck bk I F (Int32.ofNat t) k i = true → Ev (rec (Int32.ofNat i + 1)) (fun a => a = al (fck bk I F (Int32.ofNat t) k) (kno I ds)) := fun hq => by
      rw [n_t1]
      refine hrec _ ⟨i + 1, by omega, rfl, ?_⟩ ?_
      · show (al _ i && _) = true
        rw [ha, hq]; rfl
      · rw [n_toInt (by omega), n_toInt (by omega)]; omega
    obtain ⟨_, _, _, _, h01, hen⟩ := E.en i (by omega)
    refine Ev_gd g (Ev_ls ?_)
    rw [n_ix (by omega)]
    unfold fck at hgo
    refine Ev_if (fun c1 => ?_) (fun c1 => ?_)
    · refine Ev_gd g ?_
      rw [h75 i (by omega)]
      rw [decide_eq_true c1] at hgo
      cases hF : F i with
      | true =>
        rw [if_neg (by decide)]
        rw [hF] at hgo
        exact hgo rfl
      | false =>
        rw [if_pos (by rfl)]
        rw [hF] at hgo
        refine Ev_gd g ?_
        rcases hen with ⟨e, _⟩ | ⟨_, h, hh, eh⟩
        · rw [e] at c1
          exact absurd c1.symm (enc_neg (by omega)).2.2.1
        · have hd : dtg I i = h := n_nat (by omega) eh
          rw [eh, p_alone B hh hk, bd1_s, show nwo bk I k * nea bk I h = pay bk I k h from rfl]
          rw [hd] at hgo
          refine Ev_gd g (Ev_ls ?_)
          have hfalse : ∀ b : Bool, decide (I 73 i < Int32.ofNat (pay bk I k h)) = !b → ¬ (bi b = I 74 i) → Ev (some false) (fun a => a = al (fck bk I F (Int32.ofNat t) k) (kno I ds)) := fun b hb hn => by
            refine Ev_some (al_f (kno I ds) i hlt ?_).symm
            unfold fck
            rw [decide_eq_true c1, hF, hd, hb, Bool.not_not]
            show decide _ = false
            exact decide_eq_false hn
          have hon : ∀ b : Bool, decide (I 73 i < Int32.ofNat (pay bk I k h)) = !b → Ev (lt (bi b) (fun x6 => gd (inb (Int32.ofNat i) 24) (if x6 = (I 74 i) then lt (Int32.ofNat i + 1) (fun x3 => rec x3) else (some (false))))) (fun a => a = al (fck bk I F (Int32.ofNat t) k) (kno I ds)) := fun b hb => by
            refine Ev_ls (Ev_gd g (Ev_if (fun c2 => ?_) (fun c2 => hfalse b hb c2)))
            rw [hb, Bool.not_not] at hgo
            refine hgo ?_
            show decide _ = true
            exact decide_eq_true c2
          refine Ev_if (fun c2 => ?_) (fun c2 => ?_)
          · exact hon false (decide_eq_true c2)
          · exact hon true (decide_eq_false c2)
    · rw [decide_eq_false c1] at hgo
      exact hgo rfl
theorem p_fitting {bk nk nh nw kn ds : Nat} {I M : MI} (hb : bk = 2 ∨ bk = 18) (B : BookR bk I M nk nh nw kn) (E : DiaR I M nh ds) {t : Nat} (ht : t < 100) : ∃ I', f_X2_fitting I bk (Int32.ofNat t) = some (Int32.ofNat (bts (fun k => al (fck bk I (fl (dsk I) (dtg I) (kno I ds) (fun _ => false)) (Int32.ofNat t) k) (kno I ds)) nk), I') ∧ (∀ p, p ≠ 75 → I' p = I p) := by
  have lk := B.lk
  obtain ⟨I', e, h1, h2⟩ := p_findStruck E
  refine ⟨I', ?_, h1⟩
  have B' : BookR bk I' M nk nh nw kn := B.fr (fun p a b => h1 p (by omega)) (fun _ _ _ => rfl) (fun _ _ _ => rfl)
  have E' : DiaR I' M nh ds := E.fr (h1 70 (by decide)) (h1 71 (by decide)) (h1 72 (by decide)) (h1 73 (by decide)) (h1 74 (by decide)) rfl rfl rfl
  have hkn : kno I' ds = kno I ds := by unfold kno; rw [h1 70 (by decide)]
  have hfc : ∀ F k, fck bk I' F (Int32.ofNat t) k = fck bk I F (Int32.ofNat t) k := fun F k => by
    funext i
    unfold fck pay nwo nea dtg
    rw [h1 71 (by decide), h1 72 (by decide), h1 73 (by decide), h1 74 (by decide), h1 (bk + 2) (by omega), h1 (bk + 6) (by omega)]
  apply Ev_eq
  delta f_X2_fitting
  rw [e, bd1_s]
  refine Ev_fix2 (fun x2 x3 => ∃ i, i ≤ nk ∧ x3 = Int32.ofNat i ∧ x2 = Int32.ofNat (bts (fun k => al (fck bk I (fl (dsk I) (dtg I) (kno I ds) (fun _ => false)) (Int32.ofNat t) k) (kno I ds)) i)) (fun _ x3 => (80 - x3.toInt).toNat) ?_ FU _ _ (FU_lt (by decide)) ⟨0, by omega, rfl, rfl⟩
  rintro rec x2 x3 ⟨i, hi, rfl, rfl⟩ hrec
  rw [B'.k1]
  refine Ev_if (fun c => ?_) (fun c => ?_)
  · have := (n_le (by omega) (by omega)).mp c
    have : i = nk := by omega
    subst this
    exact Ev_some rfl
  · have hlt : i < nk := Nat.lt_of_not_le (fun h => c ((n_le (by omega) (by omega)).mpr h))
    rw [p_isFitting B' E' h2 ht hlt, hfc, hkn, bd1_s]
    refine Ev_ls ?_
    have hb : bts (fun k => al (fck bk I (fl (dsk I) (dtg I) (kno I ds) (fun _ => false)) (Int32.ofNat t) k) (kno I ds)) (i + 1) = if al (fck bk I (fl (dsk I) (dtg I) (kno I ds) (fun _ => false)) (Int32.ofNat t) i) (kno I ds) then bts (fun k => al (fck bk I (fl (dsk I) (dtg I) (kno I ds) (fun _ => false)) (Int32.ofNat t) k) (kno I ds)) i + 2 ^ i else bts (fun k => al (fck bk I (fl (dsk I) (dtg I) (kno I ds) (fun _ => false)) (Int32.ofNat t) k) (kno I ds)) i := rfl
    refine Ev_if (fun c => Ev_ls ?_) (fun c => ?_)
    · rw [bts_or (by omega)]
      refine Ev_ls ?_
      rw [n_t1]
      refine hrec _ _ ⟨i + 1, by omega, rfl, by rw [hb, if_pos c]⟩ ?_
      rw [n_toInt (by omega), n_toInt (by omega)]; omega
    · refine Ev_ls ?_
      rw [n_t1]
      refine hrec _ _ ⟨i + 1, by omega, rfl, by rw [hb, if_neg c]⟩ ?_
      rw [n_toInt (by omega), n_toInt (by omega)]; omega
theorem n_m4 (i : Nat) : (4 : Int32) * Int32.ofNat i = Int32.ofNat (4 * i) := n_mul 4 i
theorem n_k1 (i : Nat) : Int32.ofNat i + 1 = Int32.ofNat (i + 1) := n_add i 1
theorem n_k2 (i : Nat) : Int32.ofNat i + 2 = Int32.ofNat (i + 2) := n_add i 2
theorem n_k3 (i : Nat) : Int32.ofNat i + 3 = Int32.ofNat (i + 3) := n_add i 3
theorem m_fitsOf {bk nk nh nw kn ds : Nat} {I M : MI} (B : BookR bk I M nk nh nw kn) (E : DiaR I M nh ds) {t : Nat} (ht : t < 100) : ∃ M', f_X11_fitsOf M (Int32.ofNat t) = some (Int32.ofNat (bts (fun k => al (fck bk I (fl (dsk I) (dtg I) (kno I ds) (fun _ => false)) (Int32.ofNat t) k) (kno I ds)) nk), M') ∧ (∀ p, p ≠ 39 → M' p = M p) := by
  have dl := E.dl
  have lk := B.lk
  have lh := B.lh
  have hk := kno_c E
  have hkl := hk.1
  obtain ⟨V, hV⟩ : ∃ V, V = Int32.ofNat (bts (fun k => al (fck bk I (fl (dsk I) (dtg I) (kno I ds) (fun _ => false)) (Int32.ofNat t) k) (kno I ds)) nk) := ⟨_, rfl⟩
  rw [← hV]
  suffices h : Ev (f_X11_fitsOf M (Int32.ofNat t)) (fun a => a.1 = V ∧ ∀ p, p ≠ 39 → a.2 p = M p) by
    obtain ⟨⟨a, M'⟩, e, h1, h2⟩ := h
    exact ⟨M', by rw [e]; exact congrArg (fun x => some (x, M')) h1, h2⟩
  delta f_X11_fitsOf
  refine Ev_j1 (fun M1 => (∀ p, p ≠ 39 → M1 p = M p) ∧ ∀ k, k < kno I ds → M1 39 k = 1) ?_ ?_
  · rintro M1 ⟨h1, h2⟩
    rw [hk.2.2 M1 (by rw [h1 0 (by decide)]) (by rw [h1 0 (by decide)]), bd1_s]
    refine Ev_ls ?_
    refine Ev_j1 (fun M4 => (∀ p, p ≠ 39 → M4 p = M p) ∧ ∀ k, k < kno I ds → M4 39 k = fb (!fl (dsk I) (dtg I) (kno I ds) (fun _ => false) k)) ?_ ?_
    · rintro M4 ⟨h1, h2⟩
      have B' : BookR bk I M4 nk nh nw kn := B.fr (fun _ _ _ => rfl) (fun p _ _ => h1 p (by omega)) (fun k _ _ => by rw [h1 0 (by decide)])
      obtain ⟨F, hF⟩ : ∃ F, F = fl (dsk I) (dtg I) (kno I ds) (fun _ => false) := ⟨_, rfl⟩
      rw [← hF] at h2 hV
      refine Ev_fix2 (fun x2 x3 => ∃ i, i ≤ nk ∧ x3 = Int32.ofNat i ∧ x2 = Int32.ofNat (bts (fun k => al (fck bk I F (Int32.ofNat t) k) (kno I ds)) i)) (fun _ x3 => (80 - x3.toInt).toNat) ?_ FU _ _ (FU_lt (by decide)) ⟨0, by omega, rfl, rfl⟩
      rintro rec x2 x3 ⟨k, hki, rfl, rfl⟩ hrec
      rw [B'.k2]
      refine Ev_if (fun c => ?_) (fun c => ?_)
      · have := (n_le (by omega) (by omega)).mp c
        have : k = nk := by omega
        subst this
        exact Ev_some ⟨hV.symm, h1⟩
      · have hlt : k < nk := Nat.lt_of_not_le (fun h => c ((n_le (by omega) (by omega)).mpr h))
        have hb : bts (fun k => al (fck bk I F (Int32.ofNat t) k) (kno I ds)) (k + 1) = if al (fck bk I F (Int32.ofNat t) k) (kno I ds) then bts (fun k => al (fck bk I F (Int32.ofNat t) k) (kno I ds)) k + 2 ^ k else bts (fun k => al (fck bk I F (Int32.ofNat t) k) (kno I ds)) k := rfl
        refine Ev_j1 (fun x7 => x7 = fb (al (fck bk I F (Int32.ofNat t) k) (kno I ds))) ?_ ?_
        · rintro x7 rfl
          refine Ev_ls ?_
          cases hal : al (fck bk I F (Int32.ofNat t) k) (kno I ds) with
          | false =>
            rw [hal] at hb
            rw [if_pos (by rfl)]
            refine Ev_ls (Ev_ls ?_)
            rw [Int32.or_zero, n_t1]
            refine hrec _ _ ⟨k + 1, by omega, rfl, by rw [hb]; rfl⟩ ?_
            rw [n_toInt (by omega), n_toInt (by omega)]; omega
          | true =>
            rw [hal, if_pos rfl] at hb
            rw [if_neg (by decide)]
            refine Ev_ls (Ev_ls ?_)
            rw [bts_or (by omega), n_t1]
            refine hrec _ _ ⟨k + 1, by omega, rfl, by rw [hb]⟩ ?_
            rw [n_toInt (by omega), n_toInt (by omega)]; omega
        · intro j hj
          refine Ev_fix2 (fun x12 x13 => ∃ i, i ≤ kno I ds ∧ x13 = Int32.ofNat i ∧ x12 = fb (al (fck bk I F (Int32.ofNat t) k) i)) (fun _ x3 => (80 - x3.toInt).toNat) ?_ FU _ _ (FU_lt (by decide)) ⟨0, by omega, rfl, rfl⟩
          rintro rec' x12 x13 ⟨i, hi, rfl, rfl⟩ hrec'
          rw [hk.2.2 M4 (by rw [h1 0 (by decide)]) (by rw [h1 0 (by decide)]), bd1_s]
          refine Ev_if (fun c => ?_) (fun c => ?_)
          · have := (n_le (by omega) (by omega)).mp c
            have : i = kno I ds := by omega
            subst this
            exact hj _ rfl
          · have hlt' : i < kno I ds := Nat.lt_of_not_le (fun h => c ((n_le (by omega) (by omega)).mpr h))
            refine Ev_ls (Ev_gd ((n_inb (by omega)).mpr (by omega)) (Ev_ls ?_))
            have hgo : ∀ x b, x = fb (al (fck bk I F (Int32.ofNat t) k) i && b) → fck bk I F (Int32.ofNat t) k i = b → Ev (rec' x (Int32.ofNat i + 1)) (fun a => a.1 = V ∧ ∀ p, p ≠ 39 → a.2 p = M p) := fun x b hx hq => by
              rw [n_t1]
              refine hrec' _ _ ⟨i + 1, by omega, rfl, ?_⟩ ?_
              · rw [hx, ← hq]; rfl
              · rw [n_toInt (by omega), n_toInt (by omega)]; omega
            obtain ⟨w0, w1, w2, w3, h01, hen⟩ := E.en i (by omega)
            rw [h1 38 (by decide), n_m4, n_k1 (4 * i), n_k2, n_k3, n_ix (show i < 2147483648 by omega), n_ix (show 4 * i < 2147483648 by omega), n_ix (show 4 * i + 1 < 2147483648 by omega), n_ix (show 4 * i + 2 < 2147483648 by omega), n_ix (show 4 * i + 3 < 2147483648 by omega), w0, w1, w2, w3, h2 i hlt']
            have hq : fck bk I F (Int32.ofNat t) k i = (!decide (I 71 i = Int32.ofNat t) || F i || decide (fb (!decide (I 73 i < Int32.ofNat (pay bk I k (dtg I i)))) = I 74 i)) := rfl
            cases hFi : F i with
            | true =>
              rw [if_pos (by rfl)]
              rw [hFi, Bool.or_true, Bool.true_or] at hq
              exact hgo _ true (by rw [Bool.and_true]) hq
            | false =>
              rw [if_neg (by decide)]
              refine Ev_gd ((n_inb (by omega)).mpr (by omega)) ?_
              refine Ev_if (fun c1 => ?_) (fun c1 => ?_)
              · rw [decide_eq_true c1, hFi] at hq
                refine Ev_ls (Ev_ls ?_)
                cases hal : al (fck bk I F (Int32.ofNat t) k) i with
                | false =>
                  rw [if_pos (by rfl)]
                  exact hgo _ _ (by rw [hal, Bool.false_and]; rfl) rfl
                | true =>
                  rw [if_neg (by decide)]
                  refine Ev_gd ((n_inb (by omega)).mpr (by omega)) ?_
                  rcases hen with ⟨e, _⟩ | ⟨_, h, hh, eh⟩
                  · rw [e] at c1
                    exact absurd c1.symm (enc_neg (by omega)).2.2.1
                  · have hd : dtg I i = h := n_nat (by omega) eh
                    rw [eh, m_paysOf B' hh hlt, bd1_s, show nwo bk I k * nea bk I h = pay bk I k h from rfl]
                    rw [hd] at hq
                    refine Ev_gd ((n_inb (by omega)).mpr (by omega)) (Ev_ls ?_)
                    have hon : ∀ b : Bool, decide (I 73 i < Int32.ofNat (pay bk I k h)) = !b → Ev (gd (inb (Int32.ofNat (4 * i + 3)) 96) (lt (fun (x22 : Bool) (x23 : Bool) => if (bi x23) = (bi x22) then (lt (bi true) (fun x19 => lt (Int32.ofNat i + 1) (fun x17 => rec' x19 x17))) else (lt (bi false) (fun x19 => lt (Int32.ofNat i + 1) (fun x17 => rec' x19 x17)))) (fun j187 => if I 74 i = (1 : Int32) then (j187 true b) else (j187 false b)))) (fun a => a.1 = V ∧ ∀ p, p ≠ 39 → a.2 p = M p) := fun b hb => by
                      rw [hb, Bool.not_not] at hq
                      refine Ev_gd ((n_inb (by omega)).mpr (by omega)) (Ev_ls ?_)
                      rcases h01 with h | h
                      · rw [h] at hq ⊢
                        rw [if_neg (by decide)]
                        cases b with
                        | true => exact hgo _ false (by rw [hal]; rfl) hq
                        | false => exact hgo _ true (by rw [hal]; rfl) hq
                      · rw [h] at hq ⊢
                        rw [if_pos rfl]
                        cases b with
                        | true => exact hgo _ true (by rw [hal]; rfl) hq
                        | false => exact hgo _ false (by rw [hal]; rfl) hq
                    refine Ev_if (fun c2 => ?_) (fun c2 => ?_)
                    · exact hon false (decide_eq_true c2)
                    · exact hon true (decide_eq_false c2)
              · rw [decide_eq_false c1] at hq
                exact hgo _ true (by rw [Bool.and_true]) hq
    · intro j hj
      refine Ev_fix2 (fun x4 I5 => ∃ i f, i ≤ kno I ds ∧ x4.toInt = (i : Int) - 1 ∧ (∀ p, p ≠ 39 → I5 p = M p) ∧ (∀ k, k < kno I ds → I5 39 k = fb (!f k)) ∧ fl (dsk I) (dtg I) i f = fl (dsk I) (dtg I) (kno I ds) (fun _ => false)) (fun x4 _ => (x4.toInt + 1).toNat) ?_ FU _ _ (FU_lt ?_) ⟨kno I ds, fun _ => false, Nat.le_refl _, i_sub1 (by omega), h1, fun k hk => (h2 k hk).trans rfl, rfl⟩
      · rintro rec x4 I5 ⟨i, f, hi, hx, h5, h6, hf⟩ hrec
        refine Ev_if (fun c => ?_) (fun c => ?_)
        · rw [Int32.lt_iff_toInt_lt, z0, hx] at c
          have : i = 0 := by omega
          subst this
          exact hj _ ⟨h5, fun k hk => by rw [← hf]; exact h6 k hk⟩
        · rw [Int32.lt_iff_toInt_lt, z0, hx] at c
          obtain ⟨i, rfl⟩ : ∃ j, i = j + 1 := ⟨i - 1, by omega⟩
          have hxe : x4 = Int32.ofNat i := by
            apply Int32.toInt.inj
            rw [hx, n_toInt (by omega)]; omega
          subst hxe
          have hm1 : (-1 : Int32).toInt = -1 := rfl
          have hx' : (Int32.ofNat i + -1).toInt = (i : Int) - 1 := by
            rw [i_add (by rw [n_toInt (by omega), hm1]; omega) (by rw [n_toInt (by omega), hm1]; omega), n_toInt (by omega), hm1]; omega
          have hgo : ∀ I6 f', (∀ p, p ≠ 39 → I6 p = M p) → (∀ k, k < kno I ds → I6 39 k = fb (!f' k)) → (if dsk I i && !f i then fun k => if k = dtg I i then true else f k else f) = f' → Ev (rec (Int32.ofNat i + -1) I6) (fun a => a.1 = V ∧ ∀ p, p ≠ 39 → a.2 p = M p) := fun I6 f' a b c' => by
            refine hrec _ _ ⟨i, f', by omega, hx', a, b, ?_⟩ ?_
            · rw [← hf, ← c']; rfl
            · rw [hx', n_toInt (by omega)]; omega
          refine Ev_gd ((n_inb (by omega)).mpr (by omega)) (Ev_ls ?_)
          obtain ⟨w0, w1, _, _, _, hen⟩ := E.en i (by omega)
          rw [h5 38 (by decide), n_m4, n_k1 (4 * i), n_ix (show i < 2147483648 by omega), n_ix (show 4 * i < 2147483648 by omega), n_ix (show 4 * i + 1 < 2147483648 by omega), w0, w1, h6 i (by omega)]
          cases hfi : f i with
          | true =>
            rw [hfi] at hgo
            rw [if_pos (by rfl)]
            exact hgo I5 f h5 h6 (by rw [Bool.not_true, Bool.and_false]; rfl)
          | false =>
            rw [hfi] at hgo
            rw [if_neg (by decide)]
            refine Ev_gd ((n_inb (by omega)).mpr (by omega)) ?_
            rcases hen with ⟨e1, j', hj', ej⟩ | ⟨⟨t', ht', et⟩, _⟩
            · have hdt : dtg I i = j' := n_nat (by omega) ej
              have hd : dsk I i = true := decide_eq_true e1
              rw [e1, if_neg (by decide)]
              refine Ev_gd ((n_inb (by omega)).mpr (by omega)) (Ev_gd rfl ?_)
              rw [ej]
              refine Ev_gd ((n_inb (by omega)).mpr (by omega)) (Ev_ls ?_)
              rw [n_ix (by omega)]
              refine hgo _ (fun k => if k = dtg I i then true else f k) (fun p hp => ?_) (fun k hk => ?_) (by rw [hd]; rfl)
              · rw [st2_ne hp]; exact h5 p hp
              · rw [st2_at, hdt]
                by_cases he : k = j'
                · rw [if_pos he, if_pos he]; rfl
                · rw [if_neg he, if_neg he]; exact h6 k hk
            · have hd : dsk I i = false := decide_eq_false (by rw [et]; exact (enc_neg (by omega)).2.2.1)
              rw [et, if_pos (enc_neg (by omega)).2.2.2]
              exact hgo I5 f h5 h6 (by rw [hd]; rfl)
      · rw [i_sub1 (by omega)]; omega
  · intro j hj
    refine Ev_fix2 (fun x9 I10 => ∃ i, i ≤ kno I ds ∧ x9 = Int32.ofNat i ∧ (∀ p, p ≠ 39 → I10 p = M p) ∧ ∀ k, k < i → I10 39 k = 1) (fun x9 _ => (80 - x9.toInt).toNat) ?_ FU _ _ (FU_lt (by decide)) ⟨0, by omega, rfl, fun _ _ => rfl, fun k hk => absurd hk (by omega)⟩
    rintro rec x9 I10 ⟨i, hi, rfl, h1, h2⟩ hrec
    rw [hk.2.2 I10 (by rw [h1 0 (by decide)]) (by rw [h1 0 (by decide)]), bd1_s]
    refine Ev_if (fun c => ?_) (fun c => ?_)
    · have := (n_le (by omega) (by omega)).mp c
      exact hj _ ⟨h1, fun k hk => h2 k (by omega)⟩
    · have hlt : i < kno I ds := Nat.lt_of_not_le (fun h => c ((n_le (by omega) (by omega)).mpr h))
      refine Ev_gd rfl (Ev_gd ((n_inb (by omega)).mpr (by omega)) (Ev_ls (Ev_ls ?_)))
      rw [n_ix (by omega), n_t1]
      refine hrec _ _ ⟨i + 1, by omega, rfl, fun p hp => ?_, fun k hk => ?_⟩ ?_
      · rw [st2_ne hp]; exact h1 p hp
      · rw [st2_at]
        by_cases he : k = i
        · rw [if_pos he]
        · rw [if_neg he]; exact h2 k (by omega)
      · rw [n_toInt (by omega), n_toInt (by omega)]; omega
