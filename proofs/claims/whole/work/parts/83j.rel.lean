/-! reading a law: a knot is put; signs released, both sides -/
theorem Wp_put {dr f m x h : Nat} {I M I' M' : MI} {st r : List Nat} {code k a b : Int32} (hx : x = f + m) (hw : Wp (I (dr + 12)) (hi64 M 19) (hi64 M 20) (hi64 M 21) f m st) (hI : ∀ j, I' (dr + 12) j = if j = x then code else I (dr + 12) j) (hM : ∀ q j, 19 ≤ q → q ≤ 21 → M' q j = gr M x h k a b q j) (hs : ∀ C K P O : Nat → Int32, C x = code → K x = k → P x = a → O x = b → Sp1 C K P O x st (x :: r)) : Wp (I' (dr + 12)) (hi64 M' 19) (hi64 M' 20) (hi64 M' 21) f (m + 1) (x :: r) := by
  subst hx
  refine ⟨st, Wp_congr m st (fun j ha hb => ⟨?_, ?_, ?_, ?_⟩) hw, hs _ _ _ _ ?_ ?_ ?_ ?_⟩
  · rw [hI, if_neg (by omega)]
  · unfold hi64; rw [hM 19 _ (by omega) (by omega), gr_ne (by omega) (by omega) (by omega)]
  · unfold hi64; rw [hM 20 _ (by omega) (by omega), gr_ne (by omega) (by omega) (by omega)]
  · unfold hi64; rw [hM 21 _ (by omega) (by omega), gr_ne (by omega) (by omega) (by omega)]
  · rw [hI, if_pos rfl]
  · unfold hi64; rw [hM 19 _ (by omega) (by omega), gr_19]
  · unfold hi64; rw [hM 20 _ (by omega) (by omega), gr_20]
  · unfold hi64; rw [hM 21 _ (by omega) (by omega), gr_21]
theorem HdR.lt {M : MI} : ∀ st, HdR M st → ∀ a ∈ st, a < 64
  | [], _, a, h => absurd h (List.not_mem_nil)
  | b :: r, ⟨_, h2, h3⟩, a, h => by
    rcases List.mem_cons.mp h with rfl | h
    · exact h2
    · exact HdR.lt r h3 a h
theorem bn_nn : ∀ W : List Nat, bn W ≤ nn W
  | [] => Nat.le_refl _
  | w :: r => by
    have := bn_nn r
    show (if 3 ≤ w then 1 else 0) + bn r ≤ (if w = 0 then 0 else 1) + nn r
    by_cases c : w = 0
    · subst c; rw [if_pos rfl, if_neg (by omega)]; omega
    · rw [if_neg c]
      split <;> omega
/-- what a release gives -/
def RelO (dr f least : Nat) (o1 o2 : Option MI) (I M : MI) (m : Nat) (W : List Nat) : Prop := ∃ I' M' m' W' st', o1 = some I' ∧ o2 = some M' ∧ FmR dr f I' M' m' W' st' ∧ st'.length = bn W' + 1 ∧ m' + nn W' = m + nn W ∧ m ≤ m' ∧ opn W' = opn W ∧ rkl W' < least ∧ RI dr f I I' ∧ RM f M M'
theorem rel_R {dr f least : Nat} (hdr : dr = 2 ∨ dr = 18) (h1 : 1 ≤ least) (h6 : least ≤ 6) : ∀ (W : List Nat) (n1 n2 : Nat) (I M : MI) (m : Nat) (st : List Nat), W.length < n1 → W.length < n2 → W.length ≤ 72 → FmR dr f I M m W st → st.length = bn W + 1 → f + m + nn W ≤ 64 → RelO dr f least (fix1 (sC dr (Int32.ofNat least)) n1 I) (fix1 (sM (Int32.ofNat least)) n2 M) I M m W
  | [], n1 + 1, n2 + 1, I, M, m, st, _, _, _, hF, hs, _ => by
    refine ⟨I, M, m, [], st, ?_, ?_, hF, hs, rfl, Nat.le_refl _, rfl, h1, fun _ _ _ _ _ => rfl, fun _ _ _ _ _ => rfl⟩
    · exact sC_0 hF.1
    · exact sM_0 hF.2.1
  | w :: r, n1 + 1, n2 + 1, I, M, m, st, hn1, hn2, hW, hF, hs, hk => by
    rw [List.length_cons] at hn1 hn2 hW
    have hFF := hF
    obtain ⟨e1, e2, e3, e4, e5, hWt, hHd, hWp⟩ := hF
    obtain ⟨w1, w2, w3, w4⟩ := hWt
    obtain ⟨c1, c2, c3, c4, c5⟩ := rk_c w3
    rw [List.length_cons] at e1 e2
    by_cases hlt : rk w < least
    · refine ⟨I, M, m, w :: r, st, ?_, ?_, hFF, hs, rfl, Nat.le_refl _, rfl, hlt, fun _ _ _ _ _ => rfl, fun _ _ _ _ _ => rfl⟩
      · exact sC_1 e1 (by omega) w1 c1 hlt h6
      · exact sM_1 e2 (by omega) w2 c2 hlt h6
    · have hw0 : w ≠ 0 := fun e => by subst e; exact hlt (by show rk 0 < least; exact h1)
      have hnn : nn (w :: r) = 1 + nn r := by show (if w = 0 then 0 else 1) + nn r = _; rw [if_neg hw0]
      have hop : opn (w :: r) = opn r := by show (if w = 0 then 1 else 0) + opn r = _; rw [if_neg hw0, Nat.zero_add]
      have hbl := bn_nn r
      have hput : f + m < 64 := by omega
      have w3' := w3
      unfold okw at w3'
      show RelO dr f least (sC dr (Int32.ofNat least) (fix1 (sC dr (Int32.ofNat least)) n1) I) (sM (Int32.ofNat least) (fix1 (sM (Int32.ofNat least)) n2) M) I M m (w :: r)
      rw [sC_2 hdr e1 (by omega) w1 c1 c3 (by omega) e4 hput]
      obtain ⟨I', hI'⟩ : ∃ A, A = st2 (st2 (st2 I 34 2 (Int32.ofNat r.length)) (dr + 12) (f + m) (Int32.ofNat (20000 + cc w))) (dr + 11) 5 (Int32.ofNat (f + m + 1)) := ⟨_, rfl⟩
      rw [← hI']
      have hIe : ∀ q k, ¬ (q = 34 ∧ k = 2) → ¬ (q = dr + 11 ∧ k = 5) → ¬ (q = dr + 12 ∧ k = f + m) → I' q k = I q k := fun q k a b c => by
        rw [hI', s2x (by omega), s2x (by omega), s2x (by omega)]
      have hI12 : ∀ j, I' (dr + 12) j = if j = f + m then Int32.ofNat (20000 + cc w) else I (dr + 12) j := fun j => by
        rw [hI', s2x (by omega), st2_at, s2x (by omega)]
      have hI2 : I' 34 2 = Int32.ofNat r.length := by rw [hI', s2x (by omega), s2x (by omega), st2_at, if_pos rfl]
      have hI5 : I' (dr + 11) 5 = Int32.ofNat (f + m + 1) := by rw [hI', st2_at, if_pos rfl]
      by_cases w2e : w = 2
      · subst w2e
        have hbn : bn (2 :: r) = bn r := by show (if 3 ≤ 2 then 1 else 0) + bn r = _; rw [if_neg (by omega), Nat.zero_add]
        cases st with
        | nil => exact absurd hs (by rw [List.length_nil]; omega)
        | cons a t =>
          rw [List.length_cons] at e3 hs
          obtain ⟨d1, d2, d3⟩ := hHd
          rw [sM_2 e2 (by omega) w2 c2 c3 (by omega) e5 hput e3 (by omega), d1]
          obtain ⟨M0, hM0⟩ : ∃ A, A = st2 (st2 M 0 43 (Int32.ofNat r.length)) 0 44 (Int32.ofNat t.length) := ⟨_, rfl⟩
          rw [← hM0]
          have hMe : ∀ q k, ¬ (q = 0 ∧ (k = 43 ∨ k = 44)) → M0 q k = M q k := fun q k a => by rw [hM0, s2x (by omega), s2x (by omega)]
          have hM43 : M0 0 43 = Int32.ofNat r.length := by rw [hM0, s2x (by omega), st2_at, if_pos rfl]
          have ih := rel_R hdr h1 h6 r n1 n2 I' (gr M0 (f + m) t.length 2 (Int32.ofNat a) (-1)) (m + 1) ((f + m) :: t) (by omega) (by omega) (by omega) ⟨hI2, by rw [gr_ne (by omega) (by omega) (by omega)]; exact hM43, by rw [gr_44, List.length_cons], by rw [hI5, show f + m + 1 = f + (m + 1) by omega], by rw [gr_21a, show f + m + 1 = f + (m + 1) by omega], w4.fr r (fun k _ => ⟨hIe _ _ (by omega) (by omega) (by omega), by rw [gr_ne (by omega) (by omega) (by omega), hMe _ _ (by omega)]⟩), ⟨gr_23, by omega, d3.fr t (fun k _ => by rw [gr_ne (by omega) (by omega) (by omega), hMe _ _ (by omega)])⟩, Wp_put (h := t.length) (k := 2) (a := Int32.ofNat a) (b := -1) rfl hWp hI12 (fun q j qa qb => by
              by_cases cc : j = 64 + (f + m)
              · subst cc
                rcases (show q = 19 ∨ q = 20 ∨ q = 21 by omega) with rfl | rfl | rfl
                · rw [gr_19, gr_19 (h := t.length)]
                · rw [gr_20, gr_20 (h := t.length)]
                · rw [gr_21, gr_21 (h := t.length)]
              · rw [gr_ne (by omega) (by omega) (by omega), gr_ne (h := t.length) (by omega) (by omega) (by omega), hMe _ _ (by omega)]) (fun C K P O x1 x2 x3 x4 => Or.inr (Or.inr (Or.inl ⟨a, t, rfl, x1, x2, x3, rfl⟩)))⟩ (by rw [List.length_cons]; omega) (by omega)
          obtain ⟨I2, M2, m', W', st', g1, g2, g3, g4, g5, g6, g7, g8, g9, g10⟩ := ih
          refine ⟨I2, M2, m', W', st', g1, g2, g3, g4, by omega, by omega, by omega, g8, fun q k a b c => ?_, fun q k a b c => ?_⟩
          · rw [g9 q k a b c, hIe _ _ a b (by omega)]
          · rw [g10 q k a b c, gr_ne (by omega) (by omega) (by omega), hMe _ _ (by omega)]
      · have hw3 : 3 ≤ w ∧ w ≤ 14 := by omega
        have hbn : bn (w :: r) = 1 + bn r := by show (if 3 ≤ w then 1 else 0) + bn r = _; rw [if_pos hw3.1]
        have hcw : cc w = sgn w := by unfold cc; rw [if_neg hw0, if_neg w2e]
        match st, hs, e3, hHd, hWp with
        | [], hs, _, _, _ => exact absurd hs (by rw [List.length_nil]; omega)
        | [_], hs, _, _, _ => exact absurd hs (by rw [List.length_cons, List.length_nil]; omega)
        | b :: a :: t, hs, e3, hHd, hWp =>
          rw [List.length_cons, List.length_cons] at e3 hs
          obtain ⟨b1, b2, d1, d2, d3⟩ := hHd
          rw [List.length_cons] at b1
          rw [sM_3 e2 (by omega) w2 hw3 c2 c3 (by omega) e5 hput e3 (by omega), d1, b1]
          obtain ⟨M0, hM0⟩ : ∃ A, A = st2 (st2 (st2 M 0 43 (Int32.ofNat r.length)) 0 44 (Int32.ofNat (t.length + 1))) 0 44 (Int32.ofNat t.length) := ⟨_, rfl⟩
          rw [← hM0]
          have hMe : ∀ q k, ¬ (q = 0 ∧ (k = 43 ∨ k = 44)) → M0 q k = M q k := fun q k a => by rw [hM0, s2x (by omega), s2x (by omega), s2x (by omega)]
          have hM43 : M0 0 43 = Int32.ofNat r.length := by rw [hM0, s2x (by omega), s2x (by omega), st2_at, if_pos rfl]
          have ih := rel_R hdr h1 h6 r n1 n2 I' (gr M0 (f + m) t.length (Int32.ofNat w) (Int32.ofNat a) (Int32.ofNat b)) (m + 1) ((f + m) :: t) (by omega) (by omega) (by omega) ⟨hI2, by rw [gr_ne (by omega) (by omega) (by omega)]; exact hM43, by rw [gr_44, List.length_cons], by rw [hI5, show f + m + 1 = f + (m + 1) by omega], by rw [gr_21a, show f + m + 1 = f + (m + 1) by omega], w4.fr r (fun k _ => ⟨hIe _ _ (by omega) (by omega) (by omega), by rw [gr_ne (by omega) (by omega) (by omega), hMe _ _ (by omega)]⟩), ⟨gr_23, by omega, d3.fr t (fun k _ => by rw [gr_ne (by omega) (by omega) (by omega), hMe _ _ (by omega)])⟩, Wp_put rfl hWp hI12 (fun q j qa qb => by
              by_cases cc : j = 64 + (f + m)
              · subst cc
                rcases (show q = 19 ∨ q = 20 ∨ q = 21 by omega) with rfl | rfl | rfl
                · rw [gr_19, gr_19 (h := t.length)]
                · rw [gr_20, gr_20 (h := t.length)]
                · rw [gr_21, gr_21 (h := t.length)]
              · rw [gr_ne (by omega) (by omega) (by omega), gr_ne (h := t.length) (by omega) (by omega) (by omega), hMe _ _ (by omega)]) (fun C K P O x1 x2 x3 x4 => Or.inr (Or.inr (Or.inr ⟨a, b, t, w, rfl, hw3.1, hw3.2, by rw [x1, hcw], x2, x3, x4, rfl⟩)))⟩ (by rw [List.length_cons]; omega) (by omega)
          obtain ⟨I2, M2, m', W', st', g1, g2, g3, g4, g5, g6, g7, g8, g9, g10⟩ := ih
          refine ⟨I2, M2, m', W', st', g1, g2, g3, g4, by omega, by omega, by omega, g8, fun q k a b c => ?_, fun q k a b c => ?_⟩
          · rw [g9 q k a b c, hIe _ _ a b (by omega)]
          · rw [g10 q k a b c, gr_ne (by omega) (by omega) (by omega), hMe _ _ (by omega)]
theorem c_rel {dr f least m : Nat} {y : Int32} {I M : MI} {W st : List Nat} (hdr : dr = 2 ∨ dr = 18) (hy : y = Int32.ofNat least) (h1 : 1 ≤ least) (h6 : least ≤ 6) (hW : opn W ≤ 8) (hF : FmR dr f I M m W st) (hs : st.length = bn W + 1) (hk : f + m + nn W ≤ 64) : RelO dr f least (f_X6_release dr I y) (f_X11_bind M y) I M m W := by
  have := len_on W
  rw [rel_s, bind_s, hy]
  exact rel_R hdr h1 h6 W FU FU I M m st (FU_lt (by omega)) (FU_lt (by omega)) (by omega) hF hs hk
