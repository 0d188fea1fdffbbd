/-! works laid on days: the cheapest of a kind have its days, which is the best -/
def gS (p : Nat → Bool) (c : Nat → Nat) : Nat → Nat
  | 0 => 0
  | n + 1 => gS p c n + (if p n = true then c n else 0)
theorem gS_s (p : Nat → Bool) (c : Nat → Nat) (n : Nat) : gS p c (n + 1) = gS p c n + (if p n = true then c n else 0) := rfl
theorem gS_congr {p q : Nat → Bool} {c : Nat → Nat} : ∀ n, (∀ o, o < n → p o = q o) → gS p c n = gS q c n
  | 0, _ => rfl
  | n + 1, h => by
    rw [gS_s, gS_s, gS_congr n (fun o ho => h o (by omega)), h n (by omega)]
theorem gS_z {p : Nat → Bool} {c : Nat → Nat} : ∀ n, (∀ o, o < n → p o = false) → gS p c n = 0
  | 0, _ => rfl
  | n + 1, h => by
    rw [gS_s, gS_z n (fun o ho => h o (by omega)), h n (by omega)]; rfl
theorem gS_pt {p q : Nat → Bool} {c : Nat → Nat} {a : Nat} : ∀ n, a < n → p a = true → q a = false → (∀ o, o < n → o ≠ a → q o = p o) → gS p c n = gS q c n + c a
  | 0, h, _, _, _ => absurd h (by omega)
  | n + 1, h, hp, hq, ho => by
    rw [gS_s, gS_s]
    by_cases e : a = n
    · subst e
      rw [gS_congr a (fun o h1 => (ho o (by omega) (by omega)).symm), hp, hq, if_pos rfl, if_neg (by decide)]; rfl
    · rw [gS_pt n (by omega) hp hq (fun o h1 h2 => ho o (by omega) h2), ho n (by omega) (fun x => e x.symm)]
      omega
theorem gS_le {p q : Nat → Bool} {c : Nat → Nat} : ∀ n, (∀ o, o < n → p o = true → q o = true) → gS p c n ≤ gS q c n
  | 0, _ => Nat.le_refl _
  | n + 1, h => by
    rw [gS_s, gS_s]
    have h1 := gS_le (c := c) n (fun o ho => h o (by omega))
    cases hp : p n with
    | false => rw [if_neg (by decide)]; omega
    | true => rw [h n (by omega) hp, if_pos rfl]; omega
theorem gS_n {p : Nat → Bool} : ∀ n, gS p (fun _ => 1) n ≤ n
  | 0 => Nat.le_refl _
  | n + 1 => by
    have h1 := gS_n (p := p) n
    rw [gS_s]
    split <;> omega
def gky (c : Nat → Nat) (o : Nat) : Nat := c o * 64 + o
theorem gky_inj {c : Nat → Nat} {o v : Nat} (ho : o < 64) (hv : v < 64) (h : gky c o = gky c v) : o = v := by
  unfold gky at h; omega
def grk (K : Nat → Int32) (c : Nat → Nat) (nw w : Nat) (k : Int32) (t : Nat) : Nat := gS (fun o => decide (w ≤ o) && (decide (K o = k) && decide (gky c o < t))) (fun _ => 1) nw
def gH (K : Nat → Int32) (c : Nat → Nat) (nw w : Nat) (f : Int32 → Nat) (v : Nat) : Bool := decide (w ≤ v) && decide (grk K c nw w (K v) (gky c v) < f (K v))
def gG (K : Nat → Int32) (c : Nat → Nat) (nw w : Nat) (f : Int32 → Nat) : Nat × Nat := (gS (gH K c nw w f) (fun _ => 1) nw, gS (gH K c nw w f) c nw)
theorem b3_t {a b c : Prop} [Decidable a] [Decidable b] [Decidable c] : (decide a && (decide b && decide c)) = true ↔ a ∧ b ∧ c := by
  rw [Bool.and_eq_true, Bool.and_eq_true, decide_eq_true_iff, decide_eq_true_iff, decide_eq_true_iff]
theorem b3_f {a b c : Prop} [Decidable a] [Decidable b] [Decidable c] (h : ¬ (a ∧ b ∧ c)) : (decide a && (decide b && decide c)) = false := by
  cases e : (decide a && (decide b && decide c)) with
  | false => rfl
  | true => exact absurd (b3_t.mp e) h
theorem b3_e {a b c a' b' c' : Prop} [Decidable a] [Decidable b] [Decidable c] [Decidable a'] [Decidable b'] [Decidable c'] (h : (a ∧ b ∧ c) ↔ (a' ∧ b' ∧ c')) : (decide a && (decide b && decide c)) = (decide a' && (decide b' && decide c')) := by
  cases e : (decide a' && (decide b' && decide c')) with
  | true => exact b3_t.mpr (h.mpr (b3_t.mp e))
  | false => exact b3_f (fun x => by rw [b3_t.mpr (h.mp x)] at e; cases e)
theorem grk_s {K : Nat → Int32} {c : Nat → Nat} {nw w : Nat} (hw : w < nw) (k : Int32) (t : Nat) : grk K c nw w k t = grk K c nw (w + 1) k t + (if K w = k ∧ gky c w < t then 1 else 0) := by
  unfold grk
  by_cases h : K w = k ∧ gky c w < t
  · rw [if_pos h]
    refine gS_pt (a := w) (c := fun _ => 1) nw hw (b3_t.mpr ⟨Nat.le_refl _, h⟩) (b3_f (fun x => absurd x.1 (by omega))) (fun o _ h2 => b3_e ⟨fun x => ⟨by omega, x.2⟩, fun x => ⟨by omega, x.2⟩⟩)
  · rw [if_neg h, Nat.add_zero]
    refine gS_congr nw (fun o _ => b3_e ⟨fun x => ⟨?_, x.2⟩, fun x => ⟨by omega, x.2⟩⟩)
    have h1 : o ≠ w := fun e => h (by rw [e] at x; exact x.2)
    omega
theorem grk_m {K : Nat → Int32} {c : Nat → Nat} {nw w : Nat} {k : Int32} {t t' : Nat} (h : t ≤ t') : grk K c nw w k t ≤ grk K c nw w k t' := by
  unfold grk
  refine gS_le nw (fun o _ x => ?_)
  have x := b3_t.mp x
  exact b3_t.mpr ⟨x.1, x.2.1, by omega⟩
theorem grk_lt {K : Nat → Int32} {c : Nat → Nat} {nw w v : Nat} {k : Int32} {t t' : Nat} (h1 : w ≤ v) (h2 : v < nw) (h3 : K v = k) (h4 : t ≤ gky c v) (h5 : gky c v < t') : grk K c nw w k t + 1 ≤ grk K c nw w k t' := by
  unfold grk
  have e := gS_pt (p := fun o => decide (w ≤ o) && (decide (K o = k) && decide (gky c o < t'))) (q := fun o => decide (o ≠ v) && (decide (w ≤ o) && (decide (K o = k) && decide (gky c o < t')))) (c := fun _ => 1) (a := v) nw h2 (b3_t.mpr ⟨h1, h3, h5⟩) (by rw [decide_eq_false (fun h => h rfl), Bool.false_and]) (fun o _ h => by rw [decide_eq_true h, Bool.true_and])
  rw [e]
  refine Nat.add_le_add_right (gS_le nw (fun o _ x => ?_)) 1
  have x := b3_t.mp x
  rw [decide_eq_true (show o ≠ v from fun e => by rw [e] at x; omega), Bool.true_and]
  exact b3_t.mpr ⟨x.1, x.2.1, by omega⟩
theorem grk_ivt {K : Nat → Int32} {c : Nat → Nat} {nw w m : Nat} {k : Int32} (hn : nw ≤ 64) : ∀ t, m + 1 ≤ grk K c nw w k t → ∃ v, w ≤ v ∧ v < nw ∧ K v = k ∧ gky c v < t ∧ grk K c nw w k (gky c v) = m
  | 0, h => by
    unfold grk at h
    rw [gS_z nw (fun o _ => b3_f (fun x => absurd x.2.2 (by omega)))] at h
    exact absurd h (by omega)
  | t + 1, h => by
    by_cases h1 : m + 1 ≤ grk K c nw w k t
    · obtain ⟨v, a1, a2, a3, a4, a5⟩ := grk_ivt hn t h1
      exact ⟨v, a1, a2, a3, by omega, a5⟩
    · by_cases ex : ∃ v, w ≤ v ∧ v < nw ∧ K v = k ∧ gky c v = t
      · obtain ⟨v, a1, a2, a3, a4⟩ := ex
        have e : grk K c nw w k (t + 1) = grk K c nw w k t + 1 := by
          unfold grk
          refine gS_pt (a := v) (c := fun _ => 1) nw a2 (b3_t.mpr ⟨a1, a3, by omega⟩) (b3_f (fun x => absurd x.2.2 (by omega))) (fun o h2 h3 => b3_e ⟨fun x => ⟨x.1, x.2.1, by omega⟩, fun x => ⟨x.1, x.2.1, ?_⟩⟩)
          have h4 : gky c o ≠ t := fun e => h3 (gky_inj (c := c) (by omega) (by omega) (e.trans a4.symm))
          have := x.2.2
          omega
        exact ⟨v, a1, a2, a3, by omega, by rw [a4]; omega⟩
      · have e : grk K c nw w k (t + 1) = grk K c nw w k t := by
          unfold grk
          refine gS_congr nw (fun o h2 => b3_e ⟨fun x => ⟨x.1, x.2.1, ?_⟩, fun x => ⟨x.1, x.2.1, by omega⟩⟩)
          have h4 : gky c o ≠ t := fun e => ex ⟨o, x.1, h2, x.2.1, e⟩
          have := x.2.2
          omega
        omega
theorem gH_i {K : Nat → Int32} {c : Nat → Nat} {nw w v : Nat} {f : Int32 → Nat} (h : w ≤ v) : gH K c nw w f v = decide (grk K c nw w (K v) (gky c v) < f (K v)) := by
  unfold gH; rw [decide_eq_true h, Bool.true_and]
theorem gH_o {K : Nat → Int32} {c : Nat → Nat} {nw w v : Nat} {f : Int32 → Nat} (h : v < w) : gH K c nw w f v = false := by
  unfold gH; rw [decide_eq_false (by omega), Bool.false_and]
theorem gH_w {K : Nat → Int32} {c : Nat → Nat} {nw w : Nat} (f : Int32 → Nat) (hw : w < nw) : gH K c nw w f w = decide (grk K c nw (w + 1) (K w) (gky c w) < f (K w)) := by
  rw [gH_i (Nat.le_refl _), grk_s hw, if_neg (fun h => absurd h.2 (by omega)), Nat.add_zero]
theorem dec_e {a b : Prop} [Decidable a] [Decidable b] (h : a ↔ b) : decide a = decide b := by
  by_cases c : b
  · rw [decide_eq_true c, decide_eq_true (h.mpr c)]
  · rw [decide_eq_false c, decide_eq_false (fun x => c (h.mp x))]
theorem gH_t {K : Nat → Int32} {c : Nat → Nat} {nw w v : Nat} {f f' : Int32 → Nat} (hn : nw ≤ 64) (h1 : w < v) (h2 : v < nw) (hH : gH K c nw w f w = true) (hf : ∀ x, f' x = if x = K w then f x - 1 else f x) : gH K c nw (w + 1) f' v = gH K c nw w f v := by
  rw [gH_w f (by omega)] at hH
  have hH := of_decide_eq_true hH
  rw [gH_i (by omega), gH_i (by omega), grk_s (show w < nw by omega) (K v), hf]
  by_cases hk : K v = K w
  · rw [hk, if_pos rfl]
    by_cases hl : gky c w < gky c v
    · rw [if_pos ⟨rfl, hl⟩]
      exact dec_e (by omega)
    · have hne : gky c v ≠ gky c w := fun e => absurd (gky_inj (c := c) (by omega) (by omega) e) (by omega)
      have := grk_lt (K := K) (c := c) (nw := nw) (w := w + 1) (v := v) (k := K w) (t := gky c v) (t' := gky c w) (by omega) h2 hk (Nat.le_refl _) (by omega)
      rw [if_neg (fun x => hl x.2)]
      exact dec_e (by omega)
  · rw [if_neg hk, if_neg (fun x => hk x.1.symm)]
    exact dec_e (by omega)
theorem gH_f {K : Nat → Int32} {c : Nat → Nat} {nw w v : Nat} {f : Int32 → Nat} (h1 : w < v) (h2 : v < nw) (hH : gH K c nw w f w = false) : gH K c nw (w + 1) f v = gH K c nw w f v := by
  rw [gH_w f (by omega)] at hH
  have hH := of_decide_eq_false hH
  rw [gH_i (by omega), gH_i (by omega), grk_s (show w < nw by omega) (K v)]
  by_cases hk : K v = K w
  · rw [hk]
    by_cases hl : gky c w < gky c v
    · have := grk_m (K := K) (c := c) (nw := nw) (w := w + 1) (k := K w) (t := gky c w) (t' := gky c v) (by omega)
      rw [if_pos ⟨rfl, hl⟩]
      exact dec_e (by omega)
    · rw [if_neg (fun x => hl x.2)]
      exact dec_e (by omega)
  · rw [if_neg (fun x => hk x.1.symm)]
    exact dec_e (by omega)
theorem gG_t {K : Nat → Int32} {c : Nat → Nat} {nw w : Nat} {f f' : Int32 → Nat} (hn : nw ≤ 64) (hw : w < nw) (hH : gH K c nw w f w = true) (hf : ∀ x, f' x = if x = K w then f x - 1 else f x) : gG K c nw w f = ((gG K c nw (w + 1) f').1 + 1, (gG K c nw (w + 1) f').2 + c w) := by
  have hq : ∀ o, o < nw → o ≠ w → gH K c nw (w + 1) f' o = gH K c nw w f o := fun o h1 h2 => by
    by_cases h : o < w
    · rw [gH_o (by omega), gH_o h]
    · exact gH_t hn (by omega) h1 hH hf
  unfold gG
  exact Prod.ext (gS_pt (c := fun _ => 1) nw hw hH (gH_o (by omega)) hq) (gS_pt (c := c) nw hw hH (gH_o (by omega)) hq)
theorem gG_f {K : Nat → Int32} {c : Nat → Nat} {nw w : Nat} {f : Int32 → Nat} (hH : gH K c nw w f w = false) : gG K c nw w f = gG K c nw (w + 1) f := by
  have hq : ∀ o, o < nw → gH K c nw w f o = gH K c nw (w + 1) f o := fun o h1 => by
    by_cases h : o < w
    · rw [gH_o h, gH_o (by omega)]
    · by_cases e : o = w
      · rw [e, hH, gH_o (by omega)]
      · exact (gH_f (by omega) h1 hH).symm
  unfold gG
  rw [gS_congr nw hq, gS_congr (c := c) nw hq]
/-- one day more of a kind: one work more, if there is one of that rank -/
theorem gB_s {K : Nat → Int32} {c d : Nat → Nat} {nw w m v : Nat} {k : Int32} {f f' : Int32 → Nat} (hn : nw ≤ 64) (hk : f k = m + 1) (hf : ∀ x, f' x = if x = k then f x - 1 else f x) (h1 : w ≤ v) (h2 : v < nw) (h3 : K v = k) (h4 : grk K c nw w k (gky c v) = m) : gS (gH K c nw w f) d nw = gS (gH K c nw w f') d nw + d v := by
  refine gS_pt nw h2 ?_ ?_ (fun o h5 h6 => ?_)
  · rw [gH_i h1, h3, h4]; exact decide_eq_true (by omega)
  · rw [gH_i h1, h3, h4, hf, if_pos rfl]; exact decide_eq_false (by omega)
  · by_cases h : o < w
    · rw [gH_o h, gH_o h]
    · rw [gH_i (by omega), gH_i (by omega), hf]
      by_cases e : K o = k
      · rw [e, if_pos rfl]
        have hne : gky c o ≠ gky c v := fun x => h6 (gky_inj (c := c) (by omega) (by omega) x)
        by_cases hl : gky c o < gky c v
        · have := grk_lt (K := K) (c := c) (nw := nw) (w := w) (v := o) (k := k) (t := gky c o) (t' := gky c v) (by omega) h5 e (Nat.le_refl _) hl
          exact dec_e (by omega)
        · have := grk_lt (K := K) (c := c) (nw := nw) (w := w) (v := v) (k := k) (t := gky c v) (t' := gky c o) (by omega) h2 h3 (Nat.le_refl _) (by omega)
          exact dec_e (by omega)
      · rw [if_neg e]
theorem gB_n {K : Nat → Int32} {c d : Nat → Nat} {nw w m : Nat} {k : Int32} {f f' : Int32 → Nat} (hk : f k = m + 1) (hf : ∀ x, f' x = if x = k then f x - 1 else f x) (h : ¬ ∃ v, w ≤ v ∧ v < nw ∧ K v = k ∧ grk K c nw w k (gky c v) = m) : gS (gH K c nw w f) d nw = gS (gH K c nw w f') d nw := by
  refine gS_congr nw (fun o h5 => ?_)
  by_cases h1 : o < w
  · rw [gH_o h1, gH_o h1]
  · rw [gH_i (by omega), gH_i (by omega), hf]
    by_cases e : K o = k
    · rw [e, if_pos rfl]
      have : grk K c nw w k (gky c o) ≠ m := fun x => h ⟨o, by omega, h5, e, x⟩
      exact dec_e (by omega)
    · rw [if_neg e]
theorem gC_t {K : Nat → Int32} {c : Nat → Nat} {nw w m : Nat} {f f' : Int32 → Nat} (hn : nw ≤ 64) (hw : w < nw) (hk : f (K w) = m + 1) (hf : ∀ x, f' x = if x = K w then f x - 1 else f x) (hH : gH K c nw w f w = true) : (if bet ((gG K c nw (w + 1) f').1 + 1, (gG K c nw (w + 1) f').2 + c w) (gG K c nw (w + 1) f) = true then ((gG K c nw (w + 1) f').1 + 1, (gG K c nw (w + 1) f').2 + c w) else gG K c nw (w + 1) f) = ((gG K c nw (w + 1) f').1 + 1, (gG K c nw (w + 1) f').2 + c w) := by
  rw [gH_w f hw] at hH
  have hH := of_decide_eq_true hH
  by_cases ex : ∃ v, w + 1 ≤ v ∧ v < nw ∧ K v = K w ∧ grk K c nw (w + 1) (K w) (gky c v) = m
  · obtain ⟨v, a1, a2, a3, a4⟩ := ex
    have e1 : (gG K c nw (w + 1) f).1 = (gG K c nw (w + 1) f').1 + 1 := gB_s (d := fun _ => 1) hn hk hf a1 a2 a3 a4
    have e2 : (gG K c nw (w + 1) f).2 = (gG K c nw (w + 1) f').2 + c v := gB_s (d := c) hn hk hf a1 a2 a3 a4
    have hc : c w ≤ c v := by
      refine Nat.le_of_not_lt (fun hlt => ?_)
      have hl : gky c v < gky c w := by unfold gky; omega
      have := grk_lt (K := K) (c := c) (nw := nw) (w := w + 1) (v := v) (k := K w) (t := gky c v) (t' := gky c w) a1 a2 a3 (Nat.le_refl _) hl
      omega
    by_cases he : c w = c v
    · have : gG K c nw (w + 1) f = ((gG K c nw (w + 1) f').1 + 1, (gG K c nw (w + 1) f').2 + c w) := Prod.ext e1 (by rw [e2, he])
      rw [this]
      split <;> rfl
    · have : bet ((gG K c nw (w + 1) f').1 + 1, (gG K c nw (w + 1) f').2 + c w) (gG K c nw (w + 1) f) = true := by
        unfold bet; exact decide_eq_true (by dsimp only; omega)
      rw [if_pos this]
  · have e1 : (gG K c nw (w + 1) f).1 = (gG K c nw (w + 1) f').1 := gB_n (d := fun _ => 1) hk hf ex
    have : bet ((gG K c nw (w + 1) f').1 + 1, (gG K c nw (w + 1) f').2 + c w) (gG K c nw (w + 1) f) = true := by
      unfold bet; exact decide_eq_true (by dsimp only; omega)
    rw [if_pos this]
theorem gC_f {K : Nat → Int32} {c : Nat → Nat} {nw w m : Nat} {f f' : Int32 → Nat} (hn : nw ≤ 64) (hw : w < nw) (hk : f (K w) = m + 1) (hf : ∀ x, f' x = if x = K w then f x - 1 else f x) (hH : gH K c nw w f w = false) : bet ((gG K c nw (w + 1) f').1 + 1, (gG K c nw (w + 1) f').2 + c w) (gG K c nw (w + 1) f) = false ∧ ¬ ((gG K c nw (w + 1) f').1 + 1, (gG K c nw (w + 1) f').2 + c w) = gG K c nw (w + 1) f := by
  rw [gH_w f hw] at hH
  have hH := of_decide_eq_false hH
  obtain ⟨v, a1, a2, a3, a5, a4⟩ := grk_ivt (K := K) (c := c) (w := w + 1) (m := m) (k := K w) hn (gky c w) (by omega)
  have e1 : (gG K c nw (w + 1) f).1 = (gG K c nw (w + 1) f').1 + 1 := gB_s (d := fun _ => 1) hn hk hf a1 a2 a3 a4
  have e2 : (gG K c nw (w + 1) f).2 = (gG K c nw (w + 1) f').2 + c v := gB_s (d := c) hn hk hf a1 a2 a3 a4
  have hc : c v < c w := by unfold gky at a5; omega
  constructor
  · unfold bet; exact decide_eq_false (by dsimp only; omega)
  · intro e
    have := congrArg Prod.snd e
    dsimp only at this
    omega
theorem pF_2 {fr : Nat → Bool} {cd : Nat → Nat × Nat} {p0 C : Nat × Nat} (hC : ∀ d, fr d = true → cd d = C) : ∀ N, (pF fr cd p0 N = p0 ∧ ∀ d, d < N → fr d = false) ∨ pF fr cd p0 N = (if bet C p0 = true then C else p0)
  | 0 => Or.inl ⟨rfl, fun d h => absurd h (by omega)⟩
  | N + 1 => by
    have e : pF fr cd p0 (N + 1) = if fr N then (if bet (cd N) (pF fr cd p0 N) then cd N else pF fr cd p0 N) else pF fr cd p0 N := rfl
    have ih := pF_2 (p0 := p0) hC N
    cases hf : fr N with
    | false =>
      rw [hf, if_neg (by decide)] at e
      rw [e]
      rcases ih with ⟨h1, h2⟩ | h
      · refine Or.inl ⟨h1, fun d hd => ?_⟩
        by_cases c : d = N
        · rw [c]; exact hf
        · exact h2 d (by omega)
      · exact Or.inr h
    | true =>
      rw [hf, if_pos rfl, hC N hf] at e
      refine Or.inr ?_
      rw [e]
      rcases ih with ⟨h1, h2⟩ | h
      · rw [h1]
      · rw [h]
        by_cases b : bet C p0 = true
        · rw [if_pos b]; split <;> rfl
        · rw [if_neg b, if_neg b]
