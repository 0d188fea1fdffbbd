/-! the tokens of a text: the model's words -/
def swp (j : Nat) : Nat := if j = 10 then 11 else if j = 11 then 10 else j
/-- the model's tokens stand ahead of place p -/
def TkM (M : MI) (T : Nat → Nat) (n p : Nat) : Prop := (∀ k, T k < 256) ∧ n ≤ 700 ∧ p ≤ n ∧ (∀ k, M 1 k = Int32.ofNat (T k)) ∧ (∀ i, i < 100 → M 2 i = Int32.ofNat (wcs i)) ∧ M 0 6 = Int32.ofNat n ∧ M 0 7 = Int32.ofNat p
def FM (M M' : MI) : Prop := ∀ q k, ¬ (q = 0 ∧ 7 ≤ k ∧ k ≤ 10) → M' q k = M q k
theorem TkM.to {M M' : MI} {T : Nat → Nat} {n p q : Nat} (h : TkM M T n p) (h1 : M' 1 = M 1) (h2 : M' 2 = M 2) (h3 : M' 0 6 = M 0 6) (h4 : M' 0 7 = Int32.ofNat q) (hq : q ≤ n) : TkM M' T n q := by
  obtain ⟨a1, a2, a3, a4, a5, a6, a7⟩ := h
  exact ⟨a1, a2, hq, fun k => by rw [h1]; exact a4 k, fun j hj => by rw [h2]; exact a5 j hj, by rw [h3]; exact a6, h4⟩
theorem TkM.ft {M M' : MI} {T : Nat → Nat} {n p q : Nat} (h : TkM M T n p) (f : FM M M') (h4 : M' 0 7 = Int32.ofNat q) (hq : q ≤ n) : TkM M' T n q :=
  h.to (funext (fun k => f 1 k (by omega))) (funext (fun k => f 2 k (by omega))) (f 0 6 (by omega)) h4 hq
def Mt (T : Nat → Nat) (a s j : Nat) : Prop := wln j = s ∧ ∀ i, i < wln j → wcs (wst j + i) = T (a + i)
theorem wd_1 : ∀ j : Fin 20, wln j.1 ≤ 6 ∧ 2 ≤ wln j.1 ∧ wst j.1 + wln j.1 < 100 ∧ wcs (wst j.1 + wln j.1) = 32 ∧ wst (j.1 + 1) = wst j.1 + (wln j.1 + 1) ∧ wlc (swp j.1) = hrn (fun i => if i < wln j.1 then wcs (wst j.1 + i) - 96 else 0) 6 := by decide +kernel
theorem wd_2 : ∀ j : Fin 20, ∀ i : Fin 6, i.1 < wln j.1 → 97 ≤ wcs (wst j.1 + i.1) ∧ wcs (wst j.1 + i.1) ≤ 122 := by decide +kernel
theorem wd_3 : ∀ i j : Fin 20, wlc i.1 = wlc j.1 → i.1 = j.1 := by decide +kernel
theorem wd_4 : ∀ i : Fin 20, swp i.1 < 20 ∧ swp (swp i.1) = i.1 := by decide +kernel
theorem wst_le : ∀ j : Fin 21, wst j.1 ≤ 100 ∧ (wst j.1 = 100 → j.1 = 20) := by decide +kernel
theorem mt_pk {T : Nat → Nat} {a s j : Nat} (hj : j < 20) (hl : ∀ i, i < s → isL (T (a + i)) = true) : Mt T a s j ↔ s ≤ 6 ∧ pkv T a s = wlc (swp j) := by
  obtain ⟨w1, w2, w3, w4, w5, w6⟩ := wd_1 ⟨j, hj⟩
  have w7 := wd_2 ⟨j, hj⟩
  simp only at w1 w2 w3 w4 w5 w6 w7
  rw [w6]
  unfold pkv
  constructor
  · rintro ⟨m1, m2⟩
    refine ⟨by omega, hrn_congr 6 (fun i hi => ?_)⟩
    unfold dg
    by_cases c : i < s
    · rw [if_pos c, if_pos (by omega), m2 i (by omega)]
    · rw [if_neg c, if_neg (by omega)]
  · rintro ⟨hs, he⟩
    have hd : ∀ i, i < 6 → dg T a s i = if i < wln j then wcs (wst j + i) - 96 else 0 := hrn_inj 6 (fun i hi => by
      constructor
      · unfold dg
        split
        · have := of_decide_eq_true (hl i (by omega)); omega
        · decide
      · split
        · have := w7 ⟨i, hi⟩ (by assumption); simp only at this; omega
        · decide) he
    have hlen : wln j = s := by
      apply Nat.le_antisymm
      · apply Nat.le_of_not_lt
        intro c
        have := hd s (by omega)
        unfold dg at this
        have w := w7 ⟨s, by omega⟩ c
        simp only at w
        rw [if_neg (by omega), if_pos c] at this
        omega
      · apply Nat.le_of_not_lt
        intro c
        have := hd (wln j) (by omega)
        unfold dg at this
        have w := of_decide_eq_true (hl (wln j) c)
        rw [if_pos c, if_neg (by omega)] at this
        omega
    refine ⟨hlen, fun i hi => ?_⟩
    have := hd i (by omega)
    unfold dg at this
    have w := w7 ⟨i, by omega⟩ hi
    simp only at w
    have w' := of_decide_eq_true (hl i (by omega))
    rw [if_pos (by omega), if_pos hi] at this
    omega
theorem wfn_s {x e : Nat} (he : e < 20) (h : wlc e = x) : wfn x = some e := by
  unfold wfn
  rcases fd_c (q := fun j => decide (wlc j = x)) 20 0 with ⟨_, h2⟩ | ⟨d, h1, _, h3, h4⟩
  · have := h2 e (by omega) (by omega)
    simp only [decide_eq_true h] at this; cases this
  · have h4 := of_decide_eq_true h4
    have := wd_3 ⟨d, by omega⟩ ⟨e, he⟩ (h4.trans h.symm)
    rw [h1]; exact congrArg some this
theorem wfn_n {x : Nat} (h : ∀ e, e < 20 → wlc e ≠ x) : wfn x = none := by
  unfold wfn
  rcases fd_c (q := fun j => decide (wlc j = x)) 20 0 with ⟨h1, _⟩ | ⟨d, h1, _, h3, h4⟩
  · exact h1
  · exact absurd (of_decide_eq_true h4) (h d (by omega))
theorem wfn_lt {x e : Nat} (h : wfn x = some e) : e < 20 := by
  unfold wfn at h
  rcases fd_c (q := fun j => decide (wlc j = x)) 20 0 with ⟨h1, _⟩ | ⟨d, h1, _, h3, _⟩
  · rw [h1] at h; cases h
  · rw [h1] at h; cases h; omega
theorem n_100 {x : Nat} (h : x ≤ 100) : (100 : Int32) ≤ Int32.ofNat x ↔ x = 100 := by
  constructor
  · intro e
    have := (n_le (a := 100) (by omega) (by omega)).mp e; omega
  · intro e; rw [e]; decide
theorem m_wordAt {M : MI} {T : Nat → Nat} {n p a q : Nat} (h : TkM M T n p) (haq : a ≤ q) (hq : q ≤ n) : Ev (f_X11_wordAt M (Int32.ofNat a) (Int32.ofNat q)) (fun r => (∃ j, j < 20 ∧ r = Int32.ofNat j ∧ Mt T a (q - a) j) ∨ (r = -1 ∧ ∀ j, j < 20 → ¬ Mt T a (q - a) j)) := by
  obtain ⟨a1, a2, a3, a4, a5, a6, a7⟩ := h
  delta f_X11_wordAt
  rw [n_sub haq]
  refine Ev_fix2 (fun x1 x2 => ∃ j, j ≤ 20 ∧ x1 = Int32.ofNat j ∧ x2 = Int32.ofNat (wst j) ∧ ∀ i, i < j → ¬ Mt T a (q - a) i) (fun x1 _ => (80 - x1.toInt).toNat) ?_ FU _ _ (FU_lt (by decide)) ⟨0, by omega, rfl, rfl, fun i hi => absurd hi (by omega)⟩
  rintro rec x1 x2 ⟨j, hj, rfl, rfl, hno⟩ hrec
  obtain ⟨w8, w9⟩ := wst_le ⟨j, by omega⟩
  simp only at w8 w9
  refine Ev_if (fun c => ?_) (fun c => ?_)
  · have := w9 ((n_100 w8).mp c)
    exact Ev_some (Or.inr ⟨rfl, fun i hi => hno i (by omega)⟩)
  · have hlt : j < 20 := by
      apply Nat.lt_of_not_le
      intro h
      have : j = 20 := by omega
      subst this
      exact c ((n_100 w8).mpr rfl)
    obtain ⟨w1, w2, w3, w4, w5, w6⟩ := wd_1 ⟨j, hlt⟩
    have w7 := wd_2 ⟨j, hlt⟩
    simp only at w1 w2 w3 w4 w5 w6 w7
    refine Ev_j1 (fun x3 => x3 = Int32.ofNat (wln j)) ?_ ?_
    · rintro x3 rfl
      refine Ev_j1 (fun x4 => x4 = decide (wln j = q - a)) ?_ ?_
      · rintro x4 rfl
        refine Ev_ls ?_
        refine Ev_j1 (fun x6 => (x6 = 0 ∧ ¬ Mt T a (q - a) j) ∨ (x6 = 1 ∧ Mt T a (q - a) j)) ?_ ?_
        · rintro x6 (⟨rfl, hm⟩ | ⟨rfl, hm⟩)
          · rw [if_pos (show (0 : Int32) = 0 from rfl)]
            refine Ev_ls (Ev_ls ?_)
            rw [n_t1, n_t1, n_add, ← w5]
            refine hrec _ _ ⟨j + 1, by omega, rfl, rfl, fun i hi => ?_⟩ ?_
            · by_cases e : i = j
              · rw [e]; exact hm
              · exact hno i (by omega)
            · rw [n_toInt (by omega), n_toInt (by omega)]; omega
          · rw [if_neg (by decide)]
            exact Ev_some (Or.inl ⟨j, hlt, rfl, hm⟩)
        · intro k hk
          refine Ev_fix2 (fun x9 x10 => ∃ (i : Nat) (b : Bool), i ≤ wln j ∧ x10 = Int32.ofNat i ∧ x9 = bi b ∧ (b = true ↔ (wln j = q - a ∧ ∀ i', i' < i → wcs (wst j + i') = T (a + i')))) (fun _ x10 => (80 - x10.toInt).toNat) ?_ FU _ _ (FU_lt (by decide)) ⟨0, decide (wln j = q - a), by omega, rfl, rfl, ⟨fun h => ⟨of_decide_eq_true h, fun i hi => absurd hi (by omega)⟩, fun h => decide_eq_true h.1⟩⟩
          rintro rec' x9 x10 ⟨i, b, hi, rfl, rfl, hb⟩ hrec'
          refine Ev_if (fun cc => ?_) (fun cc => ?_)
          · have cc := (n_le (by omega) (by omega)).mp cc
            have : i = wln j := by omega
            cases b with
            | true =>
              have hb := hb.mp rfl
              exact hk _ (Or.inr ⟨rfl, hb.1, fun i' hi' => hb.2 i' (by omega)⟩)
            | false =>
              exact hk _ (Or.inl ⟨rfl, fun hm => by
                have := hb.mpr ⟨hm.1, fun i' hi' => hm.2 i' (by omega)⟩
                cases this⟩)
          · have hil : i < wln j := Nat.lt_of_not_le (fun h => cc ((n_le (by omega) (by omega)).mpr h))
            cases b with
            | false =>
              rw [if_pos (show bi false = 0 from rfl)]
              exact hk _ (Or.inl ⟨rfl, fun hm => by
                have := hb.mpr ⟨hm.1, fun i' hi' => hm.2 i' (by omega)⟩
                cases this⟩)
            | true =>
              have hbt := hb.mp rfl
              rw [if_neg (show ¬ bi true = 0 by decide), n_add, n_add]
              refine Ev_gd ((n_inb (by omega)).mpr (by omega)) (Ev_gd ((n_inb (by omega)).mpr (by omega)) ?_)
              rw [n_ix (by omega), n_ix (by omega), a4, a5 _ (by omega)]
              have hwc := w7 ⟨i, by omega⟩ hil
              simp only at hwc
              have hta := a1 (a + i)
              have hgo : ∀ b' : Bool, (b' = true ↔ wcs (wst j + i) = T (a + i)) → Ev (lt (bi b') (fun x12 => lt (Int32.ofNat i + 1) (fun x13 => rec' x12 x13))) (fun r => (∃ j, j < 20 ∧ r = Int32.ofNat j ∧ Mt T a (q - a) j) ∨ (r = -1 ∧ ∀ j, j < 20 → ¬ Mt T a (q - a) j)) := fun b' hb' => by
                refine Ev_ls (Ev_ls ?_)
                rw [n_t1]
                refine hrec' _ _ ⟨i + 1, b', by omega, rfl, rfl, ⟨fun h => ⟨hbt.1, fun i' hi' => ?_⟩, fun h => hb'.mpr (h.2 i (by omega))⟩⟩ ?_
                · by_cases e : i' = i
                  · rw [e]; exact hb'.mp h
                  · exact hbt.2 i' (by omega)
                · rw [n_toInt (by omega), n_toInt (by omega)]; omega
              refine Ev_ls ?_
              refine Ev_if (fun c3 => hgo true ⟨fun _ => (n_eq (by omega) (by omega)).mp c3, fun _ => rfl⟩) (fun c3 => hgo false ⟨fun h => (by cases h), fun h => absurd (congrArg Int32.ofNat h) c3⟩)
      · intro k hk
        refine Ev_if (fun cc => hk _ ?_) (fun cc => hk _ ?_)
        · rw [decide_eq_true ((n_eq (by omega) (by omega)).mp cc)]
        · rw [decide_eq_false (fun e => cc (by rw [e]))]
    · intro k hk
      refine Ev_fix1 (fun x14 => ∃ i, i ≤ wln j ∧ x14 = Int32.ofNat i) (fun x14 => (80 - x14.toInt).toNat) ?_ FU _ (FU_lt (by decide)) ⟨0, by omega, rfl⟩
      rintro rec' x14 ⟨i, hi, rfl⟩ hrec'
      rw [n_add]
      refine Ev_gd ((n_inb (by omega)).mpr (by omega)) ?_
      rw [n_ix (by omega), a5 _ (by omega)]
      by_cases e : i = wln j
      · rw [e, w4, if_pos (by rfl)]
        exact hk _ rfl
      · have hwc := w7 ⟨i, by omega⟩ (by show i < wln j; omega)
        simp only at hwc
        rw [if_neg (fun e => by have := (n_eq (b := 32) (by omega) (by omega)).mp e; omega)]
        refine Ev_ls ?_
        rw [n_t1]
        refine hrec' _ ⟨i + 1, by omega, rfl⟩ ?_
        rw [n_toInt (by omega), n_toInt (by omega)]; omega
theorem m_packed {M : MI} {T : Nat → Nat} {n p a q : Nat} (h : TkM M T n p) (haq : a ≤ q) (hq : q ≤ n) (hl : ∀ i, a ≤ i → i < q → isL (T i) = true) : f_X11_packed M (Int32.ofNat a) (Int32.ofNat q) = some (Int32.ofNat (pkv T a (q - a))) := by
  obtain ⟨a1, a2, a3, a4, a5, a6, a7⟩ := h
  apply Ev_eq
  delta f_X11_packed
  rw [show (6 : Int32) = Int32.ofNat 6 from rfl, n_add]
  refine Ev_fix2 (fun x1 x2 => ∃ m, m ≤ 6 ∧ x2 = Int32.ofNat (a + m) ∧ x1 = Int32.ofNat (hrn (dg T a (q - a)) m)) (fun _ x2 => (800 - x2.toInt).toNat) ?_ FU _ _ (FU_lt ?_) ⟨0, by omega, rfl, rfl⟩
  · rintro rec x1 x2 ⟨m, hm, rfl, rfl⟩ hrec
    refine Ev_if (fun c => ?_) (fun c => ?_)
    · have c := (n_le (by omega) (by omega)).mp c
      have : m = 6 := by omega
      subst this
      exact Ev_some rfl
    · have hlt : m < 6 := by
        apply Nat.lt_of_not_le
        intro h
        exact c ((n_le (by omega) (by omega)).mpr (by omega))
      have hgo : ∀ d, d < 32 → dg T a (q - a) m = d → Ev (lt (Int32.ofNat (hrn (dg T a (q - a)) m) <<< ((5 : Int32) &&& 31) ||| Int32.ofNat d) (fun x5 => lt (Int32.ofNat (a + m) + 1) (fun x6 => rec x5 x6))) (fun r => r = Int32.ofNat (pkv T a (q - a))) := fun d hd he => by
        refine Ev_ls (Ev_ls ?_)
        have hor := Nat.two_pow_add_eq_or_of_lt (i := 5) (b := d) (by omega) (hrn (dg T a (q - a)) m)
        rw [n_sl5, n_or, n_t1, Nat.mul_comm _ 32]
        have hor : 32 * hrn (dg T a (q - a)) m + d = 32 * hrn (dg T a (q - a)) m ||| d := hor
        rw [← hor]
        refine hrec _ _ ⟨m + 1, by omega, rfl, ?_⟩ ?_
        · show _ = Int32.ofNat (hrn (dg T a (q - a)) m * 32 + dg T a (q - a) m)
          rw [he, Nat.mul_comm 32]
        · rw [n_toInt (by omega), n_toInt (by omega)]; omega
      refine Ev_ls ?_
      refine Ev_if (fun c2 => ?_) (fun c2 => ?_)
      · have c2 := (n_le (by omega) (by omega)).mp c2
        exact hgo 0 (by decide) (by unfold dg; rw [if_neg (by omega)])
      · have c2 : a + m < q := Nat.lt_of_not_le (fun h => c2 ((n_le (by omega) (by omega)).mpr h))
        have := of_decide_eq_true (hl (a + m) (by omega) c2)
        refine Ev_gd ((n_inb (by omega)).mpr (by omega)) ?_
        rw [n_ix (by omega), a4, show (96 : Int32) = Int32.ofNat 96 from rfl, n_sub (by omega)]
        exact hgo (T (a + m) - 96) (by omega) (by unfold dg; rw [if_pos (by omega)])
  · rw [n_toInt (by omega)]; omega
