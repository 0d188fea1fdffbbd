/-! reading: what was read is kept -/
def cp (I : MI) (pa n : Nat) : MI := fun q k => if q = pa ∧ k < n then I pa (n + k) else I q k
theorem cp_at {I : MI} {pa n k : Nat} (h : k < n) : cp I pa n pa k = I pa (n + k) := by unfold cp; rw [if_pos ⟨rfl, h⟩]
theorem cp_ne {I : MI} {pa n q k : Nat} (h : ¬ (q = pa ∧ k < n)) : cp I pa n q k = I q k := by unfold cp; rw [if_neg h]
theorem m_copies {I : MI} {pa na n : Nat} {x : Int32} (hx : x = Int32.ofNat n) (h : 2 * n ≤ na) (hn : n < 1000) : f_X11_copies I pa na x = some (cp I pa n) := by
  suffices h : Ev (f_X11_copies I pa na x) (fun I' => I' = cp I pa n) by
    obtain ⟨a, e, rfl⟩ := h; exact e
  delta f_X11_copies
  rw [hx]
  refine Ev_fix2 (fun x6 I7 => ∃ i, i ≤ n ∧ x6 = Int32.ofNat i ∧ (∀ q k, ¬ (q = pa ∧ k < i) → I7 q k = I q k) ∧ (∀ k, k < i → I7 pa k = I pa (n + k))) (fun x6 _ => (8000 - x6.toInt).toNat) ?_ FU _ _ (FU_lt (by decide)) ⟨0, by omega, rfl, fun _ _ _ => rfl, fun l hl => absurd hl (by omega)⟩
  rintro rec x6 I7 ⟨i, hi, rfl, g1, g2⟩ hrec
  refine Ev_if (fun c => ?_) (fun c => ?_)
  · have := (n_le (by omega) (by omega)).mp c
    refine Ev_some ?_
    funext q k
    unfold cp
    by_cases e : q = pa ∧ k < n
    · obtain ⟨rfl, e⟩ := e
      rw [if_pos ⟨rfl, e⟩, g2 k (by omega)]
    · rw [if_neg e, g1 q k (by omega)]
  · have hlt : i < n := Nat.lt_of_not_le (fun h => c ((n_le (by omega) (by omega)).mpr h))
    refine Ev_gd (by rw [n_add]; exact (n_inb (by omega)).mpr (by omega)) (Ev_gd ((n_inb (by omega)).mpr (by omega)) (Ev_ls (Ev_ls ?_)))
    rw [n_add, n_ix (by omega), n_ix (by omega), n_t1]
    refine hrec _ _ ⟨i + 1, by omega, rfl, fun q k a => ?_, fun l hl => ?_⟩ ?_
    · rw [s2x (by omega)]; exact g1 q k (by omega)
    · by_cases e : l = i
      · subst e; rw [st2_at, if_pos rfl]; exact g1 _ _ (by omega)
      · rw [s2x (by omega)]; exact g2 l (by omega)
    · rw [n_toInt (by omega), n_toInt (by omega)]; omega
/-- the model's memory when all is copied -/
def kc5 (M : MI) : MI := st2 (st2 (st2 (st2 (st2 M 0 12 (M 0 17)) 0 13 (M 0 18)) 0 14 (M 0 19)) 0 15 (M 0 20)) 0 16 (M 0 21)
def kcA (M : MI) : MI := cp (cp (cp (cp (cp (cp (cp (cp (cp (cp (cp (cp (kc5 M) 4 2) 5 6) 6 6) 7 6) 8 6) 9 6) 10 6) 11 6) 12 20) 13 20) 14 6) 15 6
def kcB (M : MI) : MI := cp (cp (cp (cp (cp (cp (kcA M) 16 3) 17 3) 18 3) 19 64) 20 64) 21 64
theorem kc5_0 {M : MI} {k : Nat} (h : 12 ≤ k) (h2 : k ≤ 16) : kc5 M 0 k = M 0 (k + 5) := by
  unfold kc5
  rcases (show k = 12 ∨ k = 13 ∨ k = 14 ∨ k = 15 ∨ k = 16 by omega) with rfl | rfl | rfl | rfl | rfl
  · rw [s2x (by omega), s2x (by omega), s2x (by omega), s2x (by omega), st2_at, if_pos rfl]
  · rw [s2x (by omega), s2x (by omega), s2x (by omega), st2_at, if_pos rfl]
  · rw [s2x (by omega), s2x (by omega), st2_at, if_pos rfl]
  · rw [s2x (by omega), st2_at, if_pos rfl]
  · rw [st2_at, if_pos rfl]
theorem kc5_ne {M : MI} {q k : Nat} (h : ¬ (q = 0 ∧ 12 ≤ k ∧ k ≤ 16)) : kc5 M q k = M q k := by
  unfold kc5
  rw [s2x (by omega), s2x (by omega), s2x (by omega), s2x (by omega), s2x (by omega)]
def rn6 (q : Nat) : Nat := if q = 4 then 2 else if q = 12 ∨ q = 13 then 20 else if q = 16 ∨ q = 17 ∨ q = 18 then 3 else if q = 19 ∨ q = 20 ∨ q = 21 then 64 else 6
theorem kcB_0 {M : MI} {k : Nat} (h : 12 ≤ k) (h2 : k ≤ 16) : kcB M 0 k = M 0 (k + 5) := by
  unfold kcB kcA
  repeat rw [cp_ne (by omega)]
  exact kc5_0 h h2
theorem kcB_ne {M : MI} {q k : Nat} (h : ¬ (q = 0 ∧ 12 ≤ k ∧ k ≤ 16)) (h2 : ¬ (4 ≤ q ∧ q ≤ 21)) : kcB M q k = M q k := by
  unfold kcB kcA
  repeat rw [cp_ne (by omega)]
  exact kc5_ne h
theorem kcB_at {M : MI} {q k : Nat} (h : 4 ≤ q) (h2 : q ≤ 21) (h3 : k < rn6 q) : kcB M q k = M q (rn6 q + k) := by
  unfold kcB kcA
  rcases (show q = 4 ∨ q = 5 ∨ q = 6 ∨ q = 7 ∨ q = 8 ∨ q = 9 ∨ q = 10 ∨ q = 11 ∨ q = 12 ∨ q = 13 ∨ q = 14 ∨ q = 15 ∨ q = 16 ∨ q = 17 ∨ q = 18 ∨ q = 19 ∨ q = 20 ∨ q = 21 by omega) with rfl | rfl | rfl | rfl | rfl | rfl | rfl | rfl | rfl | rfl | rfl | rfl | rfl | rfl | rfl | rfl | rfl | rfl
  all_goals
    simp only [rn6, reduceIte, Nat.reduceEqDiff, or_true, true_or, or_false, false_or, or_self] at h3 ⊢
    repeat rw [cp_ne (by omega)]
    rw [cp_at h3]
    repeat rw [cp_ne (by omega)]
    rw [kc5_ne (by omega)]
theorem Ev_cp {α : Type} {I : MI} {pa na : Nat} {x : Int32} {f : MI → Option α} {Q : α → Prop} (n : Nat) (hx : x = Int32.ofNat n) (h : 2 * n ≤ na) (hn : n < 1000) (hk : Ev (f (cp I pa n)) Q) : Ev (bd1 (f_X11_copies I pa na x) f) Q := by
  rw [m_copies hx h hn]; exact hk
theorem m_keepText {M : MI} {J : MJ} {r : MI × MJ} (h : ∀ l, l < 3 → M 16 (3 + l) = 0 ∨ M 16 (3 + l) = 1) (hb : f_X11_begin (kcB M) J = some r) : f_X11_keepText M J = some r := by
  have h16 : ∀ l, l < 3 → is01 (kcA M 16 (3 + l)) = true := fun l hl => by
    have : kcA M 16 (3 + l) = M 16 (3 + l) := by
      unfold kcA
      repeat rw [cp_ne (by omega)]
      exact kc5_ne (by omega)
    rw [this]
    rcases h l hl with e | e
    · rw [e]; rfl
    · rw [e]; rfl
  suffices hE : Ev (f_X11_keepText M J) (fun a => a = r) by
    obtain ⟨a, e, rfl⟩ := hE; exact e
  delta f_X11_keepText
  refine Ev_ls (Ev_ls (Ev_ls (Ev_ls (Ev_ls ?_))))
  have e1 : ∀ v, st2 M 0 12 v 0 18 = M 0 18 := fun v => s2x (by omega)
  have e2 : ∀ v w, st2 (st2 M 0 12 v) 0 13 w 0 19 = M 0 19 := fun v w => by rw [s2x (by omega), s2x (by omega)]
  have e3 : ∀ v w x, st2 (st2 (st2 M 0 12 v) 0 13 w) 0 14 x 0 20 = M 0 20 := fun v w x => by rw [s2x (by omega), s2x (by omega), s2x (by omega)]
  have e4 : ∀ v w x y, st2 (st2 (st2 (st2 M 0 12 v) 0 13 w) 0 14 x) 0 15 y 0 21 = M 0 21 := fun v w x y => by rw [s2x (by omega), s2x (by omega), s2x (by omega), s2x (by omega)]
  rw [e1, e2, e3, e4]
  refine Ev_cp 2 rfl (by omega) (by omega) (Ev_cp 6 rfl (by omega) (by omega) (Ev_cp 6 rfl (by omega) (by omega) (Ev_cp 6 rfl (by omega) (by omega) (Ev_cp 6 rfl (by omega) (by omega) (Ev_cp 6 rfl (by omega) (by omega) (Ev_cp 6 rfl (by omega) (by omega) (Ev_cp 6 rfl (by omega) (by omega) (Ev_cp 20 rfl (by omega) (by omega) (Ev_cp 20 rfl (by omega) (by omega) (Ev_cp 6 rfl (by omega) (by omega) (Ev_cp 6 rfl (by omega) (by omega) ?_)))))))))))
  refine Ev_j1 (fun I18 => I18 = cp (kcA M) 16 3) ?_ ?_
  · rintro I18 rfl
    refine Ev_cp 3 rfl (by omega) (by omega) (Ev_cp 3 rfl (by omega) (by omega) (Ev_cp 64 rfl (by omega) (by omega) (Ev_cp 64 rfl (by omega) (by omega) (Ev_cp 64 rfl (by omega) (by omega) ?_))))
    refine ⟨r, ?_, rfl⟩
    show bd2 (f_X11_begin (kcB M) J) _ = _
    rw [hb]; rfl
  · intro j hj
    show Ev (fix2 _ FU 0 (kcA M)) _
    refine Ev_fix2 (fun x6 I7 => ∃ i, i ≤ 3 ∧ x6 = Int32.ofNat i ∧ (∀ q k, ¬ (q = 16 ∧ k < i) → I7 q k = kcA M q k) ∧ (∀ k, k < i → I7 16 k = kcA M 16 (3 + k))) (fun x6 _ => (8000 - x6.toInt).toNat) ?_ FU _ _ (FU_lt (by decide)) ⟨0, by omega, rfl, fun _ _ _ => rfl, fun l hl => absurd hl (by omega)⟩
    rintro rec x6 I7 ⟨i, hi, rfl, g1, g2⟩ hrec
    refine Ev_if (fun c => ?_) (fun c => ?_)
    · have := (n_le (a := 3) (by omega) (by omega)).mp c
      refine hj _ ?_
      funext q k
      unfold cp
      by_cases e : q = 16 ∧ k < 3
      · obtain ⟨rfl, e⟩ := e
        rw [if_pos ⟨rfl, e⟩, g2 k (by omega)]
      · rw [if_neg e, g1 q k (by omega)]
    · have hlt : i < 3 := Nat.lt_of_not_le (fun h => c ((n_le (a := 3) (by omega) (by omega)).mpr h))
      have ea : (3 : Int32) + Int32.ofNat i = Int32.ofNat (3 + i) := n_add 3 i
      refine Ev_gd (by rw [ea]; exact (n_inb (by omega)).mpr (by omega)) (Ev_gd ?_ (Ev_gd ((n_inb (by omega)).mpr (by omega)) (Ev_ls (Ev_ls ?_))))
      · rw [ea, n_ix (by omega), g1 _ _ (by omega)]; exact h16 i hlt
      · rw [ea, n_ix (by omega), n_ix (by omega), n_t1]
        refine hrec _ _ ⟨i + 1, by omega, rfl, fun q k a => ?_, fun l hl => ?_⟩ ?_
        · rw [s2x (by omega)]; exact g1 q k (by omega)
        · by_cases e : l = i
          · subst e; rw [st2_at, if_pos rfl]; exact g1 _ _ (by omega)
          · rw [s2x (by omega)]; exact g2 l (by omega)
        · rw [n_toInt (by omega), n_toInt (by omega)]; omega
