/-! rests, rest -/
theorem h_sh : ∀ g : Fin 4, (Int32.ofNat g.1 >>> ((1 : Int32) &&& 31)) = Int32.ofNat g.1 / 2 ∧ (Int32.ofNat g.1 &&& 1) = irem (Int32.ofNat g.1) 2 := by decide +kernel
theorem c_isRest {bk nk nh nw kn : Nat} {I I2 : MI} (B : BookR bk I I2 nk nh nw kn) {a b k g : Nat} (ha : a < nh) (hb : b < nh) (hk : k < nk) (hg : g < 4) :
    ∃ v1 v2 v3 v4, f_X10_isRest bk I (Int32.ofNat a) (Int32.ofNat b) (Int32.ofNat k) (Int32.ofNat g) = some (if v1 < v2 then false else if v3 < v4 then false else true) ∧
      f_X11_hasBy (st2 I2 0 2 0) (Int32.ofNat a) (Int32.ofNat k) ((1 : Int32) - Int32.ofNat g / 2) (irem (Int32.ofNat g) 2) = some v2 ∧
      f_X11_hasBy (st2 I2 0 2 0) (Int32.ofNat a) (Int32.ofNat k) (Int32.ofNat g / 2) (irem (Int32.ofNat g) 2) = some v1 ∧
      f_X11_hasBy (st2 I2 0 2 0) (Int32.ofNat b) (Int32.ofNat k) ((1 : Int32) - irem (Int32.ofNat g) 2) (Int32.ofNat g / 2) = some v4 ∧
      f_X11_hasBy (st2 I2 0 2 0) (Int32.ofNat b) (Int32.ofNat k) (irem (Int32.ofNat g) 2) (Int32.ofNat g / 2) = some v3 := by
  obtain ⟨e1, e2⟩ := h_sh ⟨g, hg⟩
  simp only at e1 e2
  obtain ⟨v1, p1, q1⟩ := c_gain B ha hk (Int32.ofNat g / 2) (irem (Int32.ofNat g) 2)
  obtain ⟨v2, p2, q2⟩ := c_gain B ha hk ((1 : Int32) - Int32.ofNat g / 2) (irem (Int32.ofNat g) 2)
  obtain ⟨v3, p3, q3⟩ := c_gain B hb hk (irem (Int32.ofNat g) 2) (Int32.ofNat g / 2)
  obtain ⟨v4, p4, q4⟩ := c_gain B hb hk ((1 : Int32) - irem (Int32.ofNat g) 2) (Int32.ofNat g / 2)
  refine ⟨v1, v2, v3, v4, ?_, q2, q1, q4, q3⟩
  delta f_X10_isRest
  simp only [lt, e1, e2]
  rw [p1, bd1_s, p2, bd1_s, p3, bd1_s, p4, bd1_s]
  split
  · rfl
  · split <;> rfl
theorem c_rests {bk nk nh nw kn : Nat} {I I2 : MI} (B : BookR bk I I2 nk nh nw kn) (a b c : Int32) : ∃ v, f_X10_rests bk I a b c = some v ∧ f_X11_rests I2 a b c = some (v, st2 I2 0 2 0) := by
  have key : Ev2 (f_X10_rests bk I a b c) (f_X11_rests I2 a b c) (fun a b => b = (a, st2 I2 0 2 0)) := by
    obtain ⟨v, e1, e2, hv⟩ := c_view B a b c
    delta f_X10_rests f_X11_rests
    refine Ev2_lsR (Ev2_L e1 (Ev2_R e2 ?_))
    cases v with
    | false => exact Ev2_some rfl
    | true =>
      obtain ⟨o1, o2, _, o4⟩ := hv rfl
      have lh := B.lh
      have lk := B.lk
      obtain ⟨a, ha, rfl⟩ := ok6_t o1
      obtain ⟨b, hb, rfl⟩ := ok6_t o2
      obtain ⟨c, hc, rfl⟩ := ok6_t o4
      have key2 : Ev2 (f_X10_rests bk I (Int32.ofNat a) (Int32.ofNat b) (Int32.ofNat c)) (f_X11_restAt (st2 I2 0 2 0) (Int32.ofNat a) (Int32.ofNat b) (Int32.ofNat c) (-1)) (fun a b => b = a) := by
        delta f_X10_rests f_X11_restAt
        rw [e1]
        refine Ev2_lsR ?_
        refine Ev2_L rfl ?_
        rw [if_pos rfl]
        refine Ev2_fix22 (fun x1 x2 y1 y2 => y1 = x1 ∧ y2 = x2 ∧ ∃ i m, i ≤ 4 ∧ m ≤ i ∧ x2 = Int32.ofNat i ∧ x1 = Int32.ofNat m) (fun _ x2 _ _ => (6 - x2.toInt).toNat) ?_ FU _ _ _ _ (FU_lt (by decide)) ⟨rfl, rfl, 0, 0, by omega, by omega, rfl, rfl⟩
        rintro r q x1 x2 y1 y2 ⟨rfl, rfl, i, m, hi, hm, rfl, rfl⟩ hrec
        refine Ev2_if Iff.rfl (fun _ _ => Ev2_some rfl) (fun c' _ => ?_)
        have hlt : i < 4 := Nat.lt_of_not_le (fun h => c' ((n_le (a := 4) (by omega) (by omega)).mpr h))
        have hn1 : Int32.ofNat i + 1 = Int32.ofNat (i + 1) := n_add i 1
        have hm1 : Int32.ofNat m + 1 = Int32.ofNat (m + 1) := n_add m 1
        have hgo : ∀ m', m' ≤ i + 1 → Ev2 (r (Int32.ofNat m') (Int32.ofNat i + 1)) (q (Int32.ofNat m') (Int32.ofNat i + 1)) (fun a b => b = a) := fun m' h => by
          rw [hn1]
          refine hrec _ _ _ _ ⟨rfl, rfl, i + 1, m', by omega, h, rfl, rfl⟩ ?_
          rw [n_toInt (by omega), n_toInt (by omega)]; omega
        obtain ⟨v1, v2, v3, v4, p, q2, q1, q4, q3⟩ := c_isRest B ha hb hc hlt
        refine Ev2_L p (Ev2_gdR rfl (Ev2_lsR (Ev2_gdR rfl (Ev2_lsR (Ev2_R q2 (Ev2_R q1 (Ev2_lsR (Ev2_lsL ?_))))))))
        by_cases h1 : v1 < v2
        · simp only [if_pos h1]
          exact hgo _ (by omega)
        · simp only [if_neg h1]
          refine Ev2_R q4 (Ev2_R q3 ?_)
          have h43 : v4 ≤ v3 ↔ ¬ v3 < v4 := Int32.not_lt.symm
          by_cases h2 : v3 < v4
          · rw [if_pos h2, if_neg (fun h => h43.mp h h2)]
            exact hgo _ (by omega)
          · have hne : ¬ Int32.ofNat m = -1 := fun h => by
              have := congrArg Int32.toInt h
              rw [n_toInt (by omega)] at this
              have h2 : (-1 : Int32).toInt = -1 := rfl
              omega
            rw [if_neg h2, if_pos (h43.mpr h2), if_neg hne, if_pos rfl]
            refine Ev2_lsL (Ev2_lsR ?_)
            show Ev2 (r (Int32.ofNat m + 1) (Int32.ofNat i + 1)) (q (Int32.ofNat m + 1) (Int32.ofNat i + 1)) _
            rw [hm1]
            exact hgo _ (by omega)
      obtain ⟨x, y, u1, u2, rfl⟩ := key2
      delta f_X10_rests at u1
      rw [e1] at u1
      refine Ev2_lsR ?_
      refine Ev2_R u2 ?_
      exact ⟨y, _, u1, rfl, rfl⟩
  obtain ⟨a, b, e, e', q⟩ := key
  exact ⟨a, e, by rw [e', q]⟩
theorem c_rest {bk nk nh nw kn : Nat} {I I2 : MI} (B : BookR bk I I2 nk nh nw kn) (a b c d : Int32) : ∃ v, f_X10_rest bk I a b c d = some v ∧ f_X11_rest I2 a b c d = some (v, st2 I2 0 2 0) := by
  have key : Ev2 (f_X10_rest bk I a b c d) (f_X11_rest I2 a b c d) (fun a b => b = (a, st2 I2 0 2 0)) := by
    obtain ⟨v, e1, e2, hv⟩ := c_view B a b c
    delta f_X10_rest f_X11_rest
    refine Ev2_lsR (Ev2_L e1 (Ev2_R e2 ?_))
    refine Ev2_lsL (Ev2_lsR (Ev2_lsR ?_))
    cases v with
    | false => exact Ev2_some rfl
    | true =>
      rw [if_pos rfl, if_pos rfl]
      by_cases hd : d < 0
      · have hd' : ¬ (0 : Int32) ≤ d := fun h => absurd hd (Int32.not_lt.mpr h)
        rw [if_pos hd, if_neg hd']
        exact Ev2_some rfl
      have hd' : (0 : Int32) ≤ d := Int32.not_lt.mp hd
      rw [if_neg hd, if_pos hd']
      obtain ⟨o1, o2, _, o4⟩ := hv rfl
      have lh := B.lh
      have lk := B.lk
      obtain ⟨a, ha, rfl⟩ := ok6_t o1
      obtain ⟨b, hb, rfl⟩ := ok6_t o2
      obtain ⟨c, hc, rfl⟩ := ok6_t o4
      have key2 : Ev2 (f_X10_rest bk I (Int32.ofNat a) (Int32.ofNat b) (Int32.ofNat c) d) (f_X11_restAt (st2 I2 0 2 0) (Int32.ofNat a) (Int32.ofNat b) (Int32.ofNat c) d) (fun a b => b = a) := by
        delta f_X10_rest f_X11_restAt
        rw [e1]
        refine Ev2_lsR ?_
        refine Ev2_L rfl (Ev2_lsL ?_)
        rw [if_pos rfl, if_pos hd']
        refine Ev2_lsL ?_
        refine Ev2_fix22 (fun x1 x2 y1 y2 => y1 = x1 ∧ y2 = x2 ∧ ∃ i, i ≤ 4 ∧ x2 = Int32.ofNat i) (fun _ x2 _ _ => (6 - x2.toInt).toNat) ?_ FU _ _ _ _ (FU_lt (by decide)) ⟨rfl, rfl, 0, by omega, rfl⟩
        rintro r q x1 x2 y1 y2 ⟨rfl, rfl, i, hi, rfl⟩ hrec
        refine Ev2_if Iff.rfl (fun _ _ => Ev2_lsR (by rw [if_pos hd']; exact Ev2_some rfl)) (fun c' _ => ?_)
        have hlt : i < 4 := Nat.lt_of_not_le (fun h => c' ((n_le (a := 4) (by omega) (by omega)).mpr h))
        have hn1 : Int32.ofNat i + 1 = Int32.ofNat (i + 1) := n_add i 1
        have hgo : ∀ m', Ev2 (r m' (Int32.ofNat i + 1)) (q m' (Int32.ofNat i + 1)) (fun a b => b = a) := fun m' => by
          rw [hn1]
          refine hrec _ _ _ _ ⟨rfl, rfl, i + 1, by omega, rfl⟩ ?_
          rw [n_toInt (by omega), n_toInt (by omega)]; omega
        obtain ⟨v1, v2, v3, v4, p, q2, q1, q4, q3⟩ := c_isRest B ha hb hc hlt
        refine Ev2_L p (Ev2_gdR rfl (Ev2_lsR (Ev2_gdR rfl (Ev2_lsR (Ev2_R q2 (Ev2_R q1 (Ev2_lsR (Ev2_lsL ?_))))))))
        by_cases h1 : v1 < v2
        · simp only [if_pos h1]
          exact hgo _
        · simp only [if_neg h1]
          refine Ev2_R q4 (Ev2_R q3 ?_)
          have h43 : v4 ≤ v3 ↔ ¬ v3 < v4 := Int32.not_lt.symm
          by_cases h2 : v3 < v4
          · rw [if_pos h2, if_neg (fun h => h43.mp h h2)]
            exact hgo _
          · rw [if_neg h2, if_pos (h43.mpr h2), if_pos rfl]
            refine Ev2_if Iff.rfl (fun _ _ => ?_) (fun _ _ => ?_)
            · obtain ⟨s1, s2⟩ := h_sh ⟨i, hlt⟩
              simp only at s1 s2
              rw [s1, s2]
              exact Ev2_some rfl
            · exact hgo _
      obtain ⟨x, y, u1, u2, rfl⟩ := key2
      delta f_X10_rest at u1
      rw [e1, bd1_s] at u1
      simp only [lt, if_pos rfl, if_pos hd'] at u1
      refine Ev2_R u2 ?_
      exact ⟨y, _, u1, rfl, rfl⟩
  obtain ⟨a, b, e, e', q⟩ := key
  exact ⟨a, e, by rw [e', q]⟩
