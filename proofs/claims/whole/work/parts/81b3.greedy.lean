/-! works laid on days: free days of a kind; the best and the choice by ranks -/
def fkw (kd : Nat → Int32) (n s : Nat) (x : Int32) : Nat := gS (fun d => !s.testBit d && decide (kd d = x)) (fun _ => 1) n
def fkd (K : Int32) (f : Int32 → Nat) (x : Int32) : Nat := if x = K then f x - 1 else f x
theorem fk_d {kd : Nat → Int32} {n s d : Nat} (hd : d < n) (hs : s.testBit d = false) : fkw kd n (s ||| 2 ^ d) = fkd (kd d) (fkw kd n s) := by
  funext x
  have hb : ∀ o, o ≠ d → (s ||| 2 ^ d).testBit o = s.testBit o := fun o ho => by
    rw [Nat.testBit_or, Nat.testBit_two_pow, decide_eq_false (fun e => ho e.symm), Bool.or_false]
  have hbd : (s ||| 2 ^ d).testBit d = true := by
    rw [Nat.testBit_or, Nat.testBit_two_pow, decide_eq_true rfl, Bool.or_true]
  unfold fkd fkw
  by_cases hx : x = kd d
  · rw [if_pos hx]
    have := gS_pt (p := fun o => !s.testBit o && decide (kd o = x)) (q := fun o => !(s ||| 2 ^ d).testBit o && decide (kd o = x)) (c := fun _ => 1) (a := d) n hd (by (try dsimp only); rw [hs, decide_eq_true hx.symm]; rfl) (by (try dsimp only); rw [hbd]; rfl) (fun o _ ho => by (try dsimp only); rw [hb o ho])
    omega
  · rw [if_neg hx]
    refine gS_congr n (fun o _ => ?_)
    by_cases ho : o = d
    · (try dsimp only)
      rw [ho, decide_eq_false (fun e => hx e.symm), Bool.and_false, Bool.and_false]
    · (try dsimp only)
      rw [hb o ho]
theorem fk_p {kd : Nat → Int32} {n s d : Nat} (hd : d < n) (hs : s.testBit d = false) : 0 < fkw kd n s (kd d) := by
  unfold fkw
  have := gS_pt (p := fun o => !s.testBit o && decide (kd o = kd d)) (q := fun o => decide (o ≠ d) && (!s.testBit o && decide (kd o = kd d))) (c := fun _ => 1) (a := d) n hd (by (try dsimp only); rw [hs, decide_eq_true rfl]; rfl) (by (try dsimp only); rw [decide_eq_false (fun h => h rfl), Bool.false_and]) (fun o _ ho => by (try dsimp only); rw [decide_eq_true ho, Bool.true_and])
  omega
theorem frw_t {bk n w d s : Nat} {I : MI} {kd : Nat → Int32} : frw bk I kd n w d s = true ↔ d < n ∧ s.testBit d = false ∧ kd d = I (bk + 9) w := by
  unfold frw
  rw [Bool.and_eq_true, Bool.and_eq_true, decide_eq_true_iff, decide_eq_true_iff, Bool.not_eq_true']
theorem fk_x {bk n w s : Nat} {I : MI} {kd : Nat → Int32} (h : 0 < fkw kd n s (I (bk + 9) w)) : ∃ d, frw bk I kd n w d s = true := by
  by_cases ex : ∃ d, frw bk I kd n w d s = true
  · exact ex
  · refine absurd h ?_
    unfold fkw
    rw [gS_z n (fun o ho => ?_)]
    · omega
    · cases e : (!s.testBit o && decide (kd o = I (bk + 9) w)) with
      | false => rfl
      | true =>
        have e := Bool.and_eq_true_iff.mp e
        exact absurd ⟨o, frw_t.mpr ⟨ho, by simpa using e.1, of_decide_eq_true e.2⟩⟩ ex
/-- the best that works from one on come to, by ranks -/
def Gw (bk : Nat) (I : MI) (kd : Nat → Int32) (n nw w s : Nat) : Nat × Nat := gG (I (bk + 9)) (cst bk I) nw w (fkw kd n s)
def Hw (bk : Nat) (I : MI) (kd : Nat → Int32) (n nw w s v : Nat) : Bool := gH (I (bk + 9)) (cst bk I) nw w (fkw kd n s) v
theorem Vw_G {bk n nw : Nat} {I : MI} {kd : Nat → Int32} (hn8 : n ≤ 8) (hn : nw ≤ 64) : ∀ j w s, w + j = nw → Vw bk I kd n nw w s = Gw bk I kd n nw w s
  | 0, w, s, h => by
    have h : w = nw := by omega
    subst h
    have hz : ∀ (p : Nat → Bool) (e : Nat → Nat), (∀ o, o < w → p o = false) → gS p e w = 0 := fun p e h => gS_z w h
    unfold Vw Gw gG
    rw [Nat.sub_self, hz _ _ (fun o ho => gH_o ho), hz _ _ (fun o ho => gH_o ho)]
    rfl
  | j + 1, w, s, h => by
    have hw : w < nw := by omega
    have ih : ∀ s, Vw bk I kd n nw (w + 1) s = Gw bk I kd n nw (w + 1) s := fun s => Vw_G hn8 hn j (w + 1) s (by omega)
    have hC : ∀ d, (fun d => frw bk I kd n w d s) d = true → cdw bk I kd n nw w s d = ((gG (I (bk + 9)) (cst bk I) nw (w + 1) (fkd (I (bk + 9) w) (fkw kd n s))).1 + 1, (gG (I (bk + 9)) (cst bk I) nw (w + 1) (fkd (I (bk + 9) w) (fkw kd n s))).2 + cst bk I w) := fun d hd => by
      obtain ⟨h1, h2, h3⟩ := frw_t.mp hd
      unfold cdw
      rw [ih (s ||| 2 ^ d)]
      unfold Gw
      rw [fk_d h1 h2, h3]
    have hf : ∀ x, fkd (I (bk + 9) w) (fkw kd n s) x = if x = I (bk + 9) w then fkw kd n s x - 1 else fkw kd n s x := fun x => rfl
    rw [Vw_s hw, ih s]
    by_cases ex : ∃ d, frw bk I kd n w d s = true
    · obtain ⟨d, hd⟩ := ex
      obtain ⟨h1, h2, h3⟩ := frw_t.mp hd
      obtain ⟨m, hm⟩ : ∃ m, fkw kd n s (I (bk + 9) w) = m + 1 := ⟨fkw kd n s (I (bk + 9) w) - 1, by have := fk_p (kd := kd) h1 h2; rw [h3] at this; omega⟩
      rcases pF_2 (p0 := Gw bk I kd n nw (w + 1) s) hC 8 with ⟨_, q⟩ | q
      · have := q d (by omega)
        (try dsimp only at this)
        rw [hd] at this
        cases this
      · rw [q]
        unfold Gw
        cases hH : gH (I (bk + 9)) (cst bk I) nw w (fkw kd n s) w with
        | true => rw [gC_t hn hw hm hf hH, gG_t hn hw hH hf]
        | false => rw [(gC_f hn hw hm hf hH).1, gG_f hH]; rfl
    · have hno : ∀ e, 0 ≤ e → (fun d => frw bk I kd n w d s) e = false := fun e _ => by
        dsimp only
        cases hx : frw bk I kd n w e s with
        | false => rfl
        | true => exact absurd ⟨e, hx⟩ ex
      have h0 : fkw kd n s (I (bk + 9) w) = 0 := Nat.eq_zero_of_not_pos (fun h => ex (fk_x h))
      rw [pF_ge 8 0 (by omega) hno]
      show Gw bk I kd n nw (w + 1) s = _
      unfold Gw
      rw [gG_f (f := fkw kd n s) (w := w)]
      rw [gH_i (Nat.le_refl _), h0]
      exact decide_eq_false (by omega)
theorem fd_none {q : Nat → Bool} (h : ∀ e, q e = false) (m d : Nat) : fd q m d = none := by
  rcases fd_c (q := q) m d with ⟨h1, _⟩ | ⟨e, _, _, _, h4⟩
  · exact h1
  · rw [h e] at h4; cases h4
theorem gd8_G {bk n nw w t : Nat} {I : MI} {kd : Nat → Int32} (hn8 : n ≤ 8) (hn : nw ≤ 64) (hw : w < nw) : gd8 bk I kd n nw w t = if Hw bk I kd n nw w t w = true then fd (fun d => frw bk I kd n w d t) 8 0 else none := by
  have hV : ∀ w s, w ≤ nw → Vw bk I kd n nw w s = Gw bk I kd n nw w s := fun w s h => Vw_G hn8 hn (nw - w) w s (by omega)
  have hf : ∀ x, fkd (I (bk + 9) w) (fkw kd n t) x = if x = I (bk + 9) w then fkw kd n t x - 1 else fkw kd n t x := fun x => rfl
  have hC : ∀ d, frw bk I kd n w d t = true → cdw bk I kd n nw w t d = ((gG (I (bk + 9)) (cst bk I) nw (w + 1) (fkd (I (bk + 9) w) (fkw kd n t))).1 + 1, (gG (I (bk + 9)) (cst bk I) nw (w + 1) (fkd (I (bk + 9) w) (fkw kd n t))).2 + cst bk I w) := fun d hd => by
    obtain ⟨h1, h2, h3⟩ := frw_t.mp hd
    unfold cdw
    rw [hV (w + 1) (t ||| 2 ^ d) (by omega)]
    unfold Gw
    rw [fk_d h1 h2, h3]
  have hm : ∀ d, frw bk I kd n w d t = true → ∃ m, fkw kd n t (I (bk + 9) w) = m + 1 := fun d hd => by
    obtain ⟨h1, h2, h3⟩ := frw_t.mp hd
    exact ⟨fkw kd n t (I (bk + 9) w) - 1, by have := fk_p (kd := kd) h1 h2; rw [h3] at this; omega⟩
  unfold gd8
  cases hH : Hw bk I kd n nw w t w with
  | true =>
    rw [if_pos rfl]
    have e : gq bk I kd n nw w t = fun d => frw bk I kd n w d t := funext (fun d => by
      unfold gq
      cases hd : frw bk I kd n w d t with
      | false => rfl
      | true =>
        rw [Bool.true_and]
        refine decide_eq_true ?_
        rw [hC d hd, hV w t (by omega)]
        unfold Gw
        rw [gG_t hn hw hH hf])
    rw [e]
  | false =>
    rw [if_neg (by decide)]
    refine fd_none (fun d => ?_) 8 0
    unfold gq
    cases hd : frw bk I kd n w d t with
    | false => rfl
    | true =>
      rw [Bool.true_and]
      obtain ⟨m, hm⟩ := hm d hd
      refine decide_eq_false ?_
      rw [hC d hd, hV w t (by omega)]
      unfold Gw
      rw [gG_f hH]
      exact (gC_f hn hw hm hf hH).2
theorem tkn_H {bk n nw : Nat} {I : MI} {kd : Nat → Int32} (hn8 : n ≤ 8) (hn : nw ≤ 64) : ∀ w v, w ≤ v → v < nw → Hw bk I kd n nw w (tkn (gd8 bk I kd n nw) w) v = Hw bk I kd n nw 0 0 v
  | 0, v, _, _ => rfl
  | w + 1, v, h1, h2 => by
    have ih := tkn_H (bk := bk) (I := I) (kd := kd) hn8 hn w v (by omega) h2
    rw [← ih]
    have et : tkn (gd8 bk I kd n nw) (w + 1) = (match gd8 bk I kd n nw w (tkn (gd8 bk I kd n nw) w) with | none => tkn (gd8 bk I kd n nw) w | some d => tkn (gd8 bk I kd n nw) w ||| 2 ^ d) := rfl
    have hg := gd8_G (bk := bk) (I := I) (kd := kd) (n := n) (nw := nw) (w := w) (t := tkn (gd8 bk I kd n nw) w) hn8 hn (by omega)
    obtain ⟨t, htt⟩ : ∃ t, t = tkn (gd8 bk I kd n nw) w := ⟨_, rfl⟩
    rw [← htt] at et hg ⊢
    cases hH : Hw bk I kd n nw w t w with
    | true =>
      rw [hH, if_pos rfl] at hg
      have hp : 0 < fkw kd n t (I (bk + 9) w) := by
        have hH := hH
        unfold Hw at hH
        rw [gH_i (Nat.le_refl _)] at hH
        have := of_decide_eq_true hH
        omega
      obtain ⟨d, hd⟩ := fk_x hp
      rcases fd_c (q := fun d => frw bk I kd n w d t) 8 0 with ⟨_, q⟩ | ⟨e, q1, _, _, q4⟩
      · have := q d (by omega) (by have := (frw_t.mp hd).1; omega)
        (try dsimp only at this)
        rw [hd] at this
        cases this
      · (try dsimp only at q4)
        rw [hg, q1] at et
        dsimp only at et
        obtain ⟨h3, h4, h5⟩ := frw_t.mp q4
        rw [et]
        unfold Hw
        rw [fk_d h3 h4, h5]
        exact gH_t hn (by omega) h2 hH (fun x => rfl)
    | false =>
      rw [hH, if_neg (by decide)] at hg
      rw [hg] at et
      dsimp only at et
      rw [et]
      exact gH_f (by omega) h2 hH
