/-! blinds -/
theorem c_blx {bk nk nh nw kn nd su dn dy n h0 dn' : Nat} {I M : MI} {J J2 : MJ} {f : Bool} (hbk : bk = 2 ∨ bk = 18) (B : BookR bk I M nk nh nw kn) (D : DayR bk I M nk nd) (L : LawR bk I M) (N : NowR I M J2 su dn dy nk nh) (hn : n ≤ 200) (hh : h0 < nh) (hd : dn' < 64) (hf : dn'.testBit h0 = f) : ∃ v I' J' M3 M' J2' su', f_X10_isSoldUpIn bk I J (Int32.ofNat n) (Int32.ofNat h0) (bi f) = some (v, I', J') ∧ f_X11_layTried M = some M3 ∧ f_X11_goMany (st2 M3 32 1 (Int32.ofNat dn')) J2 (Int32.ofNat n) = some (M', J2') ∧ M' 31 1 = Int32.ofNat su' ∧ su' < 64 ∧ (∀ h, nh ≤ h → h < 6 → su'.testBit h = false) ∧ su'.testBit h0 = v ∧ (∀ j, j < 6 → su.testBit j = true → su'.testBit j = true) ∧ FrT I I' M M' J2 J2' := by
  have lh := B.lh
  obtain ⟨I3, M3, e1, e2, P3, F3, z3⟩ := c_reh (H := fun x => decide (x = h0)) (bk := bk) lh N
  obtain ⟨B3, D3, L3⟩ := F3.of hbk B D L
  have P4 : PsR (fun x => decide (x = h0)) bk (st2 I3 52 h0 (bi f)) 46 (st2 M3 32 1 (Int32.ofNat dn')) J2 1 su dn' dy nk nh := by
    refine P3.dn (by omega) (fun p hp => st2_ne hp) (fun p k h => s2x h) hd (by rw [st2_at, if_pos rfl]) (fun h a b => ?_) (fun h a => ?_) (fun h a b => ?_)
    · have e : h = h0 := of_decide_eq_true b
      rw [st2_at, if_pos e, e, hf]
      cases f <;> rfl
    · rw [st2_at]
      by_cases e : h = h0
      · rw [if_pos e]; exact is01_bi f
      · rw [if_neg e]; exact P3.tw.z6 h a
    · rw [st2_at, if_neg (by omega)]
      exact (P3.tw.ze h a b).2.2.2.2.2
  have hbm : ∀ p, 4 ≤ p → p < 22 → st2 M3 32 1 (Int32.ofNat dn') p = M3 p := fun p _ _ => st2_ne (by omega)
  have B4 := B3.fr (I' := st2 I3 52 h0 (bi f)) (M' := st2 M3 32 1 (Int32.ofNat dn')) (fun p _ _ => st2_ne (by omega)) hbm (fun k _ _ => s2x (by omega))
  have D4 := D3.fr (I' := st2 I3 52 h0 (bi f)) (M' := st2 M3 32 1 (Int32.ofNat dn')) (fun p _ _ => st2_ne (by omega)) hbm (fun k _ _ => s2x (by omega))
  have L4 := L3.fr (I' := st2 I3 52 h0 (bi f)) (M' := st2 M3 32 1 (Int32.ofNat dn')) (fun p _ _ => st2_ne (by omega)) hbm
  obtain ⟨⟨I9, J7⟩, ⟨M9, J8⟩, e3, e4, ⟨su', P9, hmo⟩, F9⟩ := c_many (J := J) hbk B4 D4 L4 P4 N.yl hn (fun h' _ => meant_one (h0 := h0) (by omega) (show h' < 6 by omega))
  dsimp only at P9 F9
  have g6 : inb (Int32.ofNat h0) 6 = true := (n_inb (by omega)).mpr (by omega)
  have t5 : I9 51 h0 = if su'.testBit h0 then 1 else 0 := P9.tw.so h0 hh (decide_eq_true rfl)
  refine ⟨su'.testBit h0, I9, J7, M3, M9, J8, su', ?_, e2, e4, P9.s2, P9.tw.sl, P9.tw.sz, rfl, hmo, ?_⟩
  · delta f_X10_isSoldUpIn
    rw [e1, bd1_s, gd_t (is01_bi f), gd_t g6, n_ix (by omega)]
    simp only [lt]
    rw [e3, bd2_s, gd_t g6, t5]
    cases su'.testBit h0 <;> rfl
  · refine F3.tr (FrT.tr (I' := st2 I3 52 h0 (bi f)) (M' := st2 M3 32 1 (Int32.ofNat dn')) (J' := J2) ⟨fun p a _ => st2_ne (by omega), fun p k _ _ d => s2x (by omega), fun _ _ _ _ => rfl⟩ (F9.ft (by rw [st2_ne (by omega)]; exact z3)))
/-- is a house sold up in so many days, as the component answers -/
def sO (bk : Nat) (I : MI) (J : MJ) (n h : Nat) (f : Bool) : Bool := match f_X10_isSoldUpIn bk I J (Int32.ofNat n) (Int32.ofNat h) (bi f) with
  | some a => a.1
  | none => false
theorem sO_e {bk n h : Nat} {I I' : MI} {J J' : MJ} {f v : Bool} (e : f_X10_isSoldUpIn bk I J (Int32.ofNat n) (Int32.ofNat h) (bi f) = some (v, I', J')) : sO bk I J n h f = v := by unfold sO; rw [e]
theorem pcn_ct (s : Nat) : ∀ n, pcn s n = ctn (fun h => s.testBit h) n
  | 0 => rfl
  | n + 1 => by
    show pcn s n + _ = ctn _ n + _
    rw [pcn_ct s n]
theorem ctn_tail {p : Nat → Bool} {n : Nat} : ∀ d, (∀ k, n ≤ k → k < n + d → p k = false) → ctn p (n + d) = ctn p n
  | 0, _ => rfl
  | d + 1, h => by
    show ctn p (n + d) + (if p (n + d) then 1 else 0) = ctn p n
    rw [ctn_tail d (fun k a b => h k a (by omega)), h (n + d) (by omega) (by omega)]; rfl
theorem ctn_mono {p q : Nat → Bool} : ∀ n, (∀ k, k < n → p k = true → q k = true) → ctn p n ≤ ctn q n ∧ (ctn p n = ctn q n → ∀ k, k < n → p k = q k)
  | 0, _ => ⟨Nat.le_refl _, fun _ k h => absurd h (by omega)⟩
  | n + 1, h => by
    obtain ⟨h1, h2⟩ := ctn_mono n (fun k hk => h k (by omega))
    have h3 := h n (by omega)
    have e1 : ctn p (n + 1) = ctn p n + (if p n then 1 else 0) := rfl
    have e2 : ctn q (n + 1) = ctn q n + (if q n then 1 else 0) := rfl
    cases hp : p n with
    | true =>
      rw [hp, if_pos rfl] at e1
      rw [h3 hp, if_pos rfl] at e2
      refine ⟨by omega, fun e k hk => ?_⟩
      by_cases c : k = n
      · rw [c, hp, h3 hp]
      · exact h2 (by omega) k (by omega)
    | false =>
      rw [hp] at e1
      have e1' : ctn p (n + 1) = ctn p n := e1
      cases hq : q n with
      | true =>
        rw [hq, if_pos rfl] at e2
        exact ⟨by omega, fun e => by omega⟩
      | false =>
        rw [hq] at e2
        have e2' : ctn q (n + 1) = ctn q n := e2
        refine ⟨by omega, fun e k hk => ?_⟩
        by_cases c : k = n
        · rw [c, hp, hq]
        · exact h2 (by omega) k (by omega)
theorem bts_t {q : Nat → Bool} : ∀ n k, k < n → (bts q n).testBit k = q k
  | 0, _, h => absurd h (by omega)
  | n + 1, k, h => by
    have hl := bts_lt q n
    show (if q n then bts q n + 2 ^ n else bts q n).testBit k = q k
    by_cases e : k = n
    · subst e
      cases hq : q k with
      | true =>
        rw [if_pos rfl, Nat.add_comm, Nat.testBit_two_pow_add_eq, Nat.testBit_lt_two_pow hl]; rfl
      | false =>
        rw [if_neg (by decide), Nat.testBit_lt_two_pow hl]
    · cases hq : q n with
      | true =>
        rw [if_pos rfl, Nat.add_comm, Nat.testBit_two_pow_add_gt (by omega)]
        exact bts_t n k (by omega)
      | false =>
        rw [if_neg (by decide)]
        exact bts_t n k (by omega)
def bst (ad : Nat → Bool) (mn : Nat → Nat) : Nat → Option Nat
  | 0 => none
  | x + 1 => if ad x then (match bst ad mn x with
    | none => some x
    | some b => if mn b < mn x then some b else if mn x = mn b then (if pcn x 6 < pcn b 6 then some x else some b) else some x) else bst ad mn x
theorem bst_o {ad : Nat → Bool} {mn : Nat → Nat} : ∀ x, (bst ad mn x = none → ∀ s, s < x → ad s = false) ∧ (∀ b, bst ad mn x = some b → b < x ∧ ad b = true ∧ ∀ s, s < x → ad s = true → mn b < mn s ∨ (mn b = mn s ∧ pcn b 6 ≤ pcn s 6))
  | 0 => ⟨fun _ s h => absurd h (by omega), fun b h => by cases h⟩
  | x + 1 => by
    obtain ⟨h1, h2⟩ := bst_o (ad := ad) (mn := mn) x
    have e : bst ad mn (x + 1) = if ad x then (match bst ad mn x with
      | none => some x
      | some b => if mn b < mn x then some b else if mn x = mn b then (if pcn x 6 < pcn b 6 then some x else some b) else some x) else bst ad mn x := rfl
    cases ha : ad x with
    | false =>
      rw [ha, if_neg (by decide)] at e
      rw [e]
      refine ⟨fun h s hs => ?_, fun b hb => ?_⟩
      · by_cases c : s = x
        · rw [c]; exact ha
        · exact h1 h s (by omega)
      · obtain ⟨g1, g2, g3⟩ := h2 b hb
        refine ⟨by omega, g2, fun s hs hs2 => ?_⟩
        by_cases c : s = x
        · rw [c, ha] at hs2; cases hs2
        · exact g3 s (by omega) hs2
    | true =>
      rw [ha, if_pos rfl] at e
      cases hb : bst ad mn x with
      | none =>
        rw [hb] at e
        have e : bst ad mn (x + 1) = some x := e
        rw [e]
        refine ⟨fun h => (by cases h), fun b hb' => ?_⟩
        cases hb'
        refine ⟨by omega, ha, fun s hs hs2 => ?_⟩
        by_cases c : s = x
        · rw [c]; exact Or.inr ⟨rfl, Nat.le_refl _⟩
        · rw [h1 hb s (by omega)] at hs2; cases hs2
      | some b0 =>
        rw [hb] at e
        obtain ⟨g1, g2, g3⟩ := h2 b0 hb
        have e : bst ad mn (x + 1) = if mn b0 < mn x then some b0 else if mn x = mn b0 then (if pcn x 6 < pcn b0 6 then some x else some b0) else some x := e
        have keepb : bst ad mn (x + 1) = some b0 → (mn b0 < mn x ∨ (mn b0 = mn x ∧ pcn b0 6 ≤ pcn x 6)) → (bst ad mn (x + 1) = none → ∀ s, s < x + 1 → ad s = false) ∧ (∀ b, bst ad mn (x + 1) = some b → b < x + 1 ∧ ad b = true ∧ ∀ s, s < x + 1 → ad s = true → mn b < mn s ∨ (mn b = mn s ∧ pcn b 6 ≤ pcn s 6)) := fun e1 hx => by
          rw [e1]
          refine ⟨fun h => (by cases h), fun b hb' => ?_⟩
          cases hb'
          refine ⟨by omega, g2, fun s hs hs2 => ?_⟩
          by_cases c : s = x
          · rw [c]; exact hx
          · exact g3 s (by omega) hs2
        have takex : bst ad mn (x + 1) = some x → (mn x < mn b0 ∨ (mn x = mn b0 ∧ pcn x 6 ≤ pcn b0 6)) → (bst ad mn (x + 1) = none → ∀ s, s < x + 1 → ad s = false) ∧ (∀ b, bst ad mn (x + 1) = some b → b < x + 1 ∧ ad b = true ∧ ∀ s, s < x + 1 → ad s = true → mn b < mn s ∨ (mn b = mn s ∧ pcn b 6 ≤ pcn s 6)) := fun e1 hx => by
          rw [e1]
          refine ⟨fun h => (by cases h), fun b hb' => ?_⟩
          cases hb'
          refine ⟨by omega, ha, fun s hs hs2 => ?_⟩
          by_cases c : s = x
          · rw [c]; exact Or.inr ⟨rfl, Nat.le_refl _⟩
          · have := g3 s (by omega) hs2
            omega
        by_cases c1 : mn b0 < mn x
        · rw [if_pos c1] at e; exact keepb e (Or.inl c1)
        · rw [if_neg c1] at e
          by_cases c2 : mn x = mn b0
          · rw [if_pos c2] at e
            by_cases c3 : pcn x 6 < pcn b0 6
            · rw [if_pos c3] at e; exact takex e (by omega)
            · rw [if_neg c3] at e; exact keepb e (by omega)
          · rw [if_neg c2] at e; exact takex e (by omega)
