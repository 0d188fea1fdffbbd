/-! a law read from left to right: the component's heap -/
def Wf (C K P O : Nat → Int32) : Nat → Nat → List Nat → Prop
  | 0, i, st => st = [i - 1]
  | n + 1, i, st =>
    (∃ z, z < 10000 ∧ C i = Int32.ofNat z ∧ K i = 0 ∧ P i = Int32.ofNat z ∧ Wf C K P O n (i + 1) (i :: st)) ∨
    (∃ z, z < 7 ∧ C i = Int32.ofNat (10000 + z) ∧ K i = 1 ∧ P i = Int32.ofNat z ∧ Wf C K P O n (i + 1) (i :: st)) ∨
    (∃ a r, st = a :: r ∧ C i = 20012 ∧ K i = 2 ∧ P i = Int32.ofNat a ∧ Wf C K P O n (i + 1) (i :: r)) ∨
    (∃ a b r k, st = b :: a :: r ∧ 3 ≤ k ∧ k ≤ 14 ∧ C i = Int32.ofNat (20000 + sgn k) ∧ K i = Int32.ofNat k ∧ P i = Int32.ofNat a ∧ O i = Int32.ofNat b ∧ Wf C K P O n (i + 1) (i :: r))
def ev1 (K P O : Nat → Int32) (nm v : Nat → Int64) (i : Nat) : Option Int64 :=
  if K i = 0 then some (P i).toInt64 else if K i = 1 then some (nm (ix (P i))) else if K i = 2 then some (if v (ix (P i)) = 0 then 1 else 0) else jn (ix (K i)) (v (ix (P i))) (v (ix (O i)))
def evr (K P O : Nat → Int32) (nm : Nat → Int64) : Nat → Nat → (Nat → Int64) → Option (Nat → Int64)
  | 0, _, v => some v
  | n + 1, i, v => match ev1 K P O nm v i with
    | none => none
    | some x => evr K P O nm n (i + 1) (fun j => if j = i then x else v j)
def Hp (h v : Nat → Int64) : List Nat → Prop
  | [] => True
  | a :: r => h r.length = v a ∧ Hp h v r
theorem Hp_mono {h h' v v' : Nat → Int64} : ∀ st : List Nat, Hp h v st → (∀ a, a ∈ st → v' a = v a) → (∀ j, j < st.length → h' j = h j) → Hp h' v' st
  | [], _, _, _ => trivial
  | a :: r, ⟨e, hp⟩, hv, hh => by
    refine ⟨?_, Hp_mono r hp (fun x hx => hv x (List.mem_cons_of_mem _ hx)) (fun j hj => hh j (by rw [List.length_cons]; omega))⟩
    rw [hh _ (by rw [List.length_cons]; omega), hv a List.mem_cons_self, e]
def lv (K P O : Nat → Int32) (nm : Nat → Int64) (n i : Nat) (v : Nat → Int64) : Int64 := match evr K P O nm n i v with
  | none => -9223372036854775808
  | some v' => v' (i + n - 1)
theorem lv_s {K P O : Nat → Int32} {nm v : Nat → Int64} {n i : Nat} {x : Int64} (h : ev1 K P O nm v i = some x) : lv K P O nm (n + 1) i v = lv K P O nm n (i + 1) (fun j => if j = i then x else v j) := by
  unfold lv
  have e : evr K P O nm (n + 1) i v = evr K P O nm n (i + 1) (fun j => if j = i then x else v j) := by
    show (match ev1 K P O nm v i with | none => none | some x => evr K P O nm n (i + 1) (fun j => if j = i then x else v j)) = _
    rw [h]
  rw [e, show i + (n + 1) - 1 = i + 1 + n - 1 by omega]
theorem lv_n {K P O : Nat → Int32} {nm v : Nat → Int64} {n i : Nat} (h : ev1 K P O nm v i = none) : lv K P O nm (n + 1) i v = -9223372036854775808 := by
  unfold lv
  have e : evr K P O nm (n + 1) i v = none := by
    show (match ev1 K P O nm v i with | none => none | some x => evr K P O nm n (i + 1) (fun j => if j = i then x else v j)) = _
    rw [h]
  rw [e]
theorem bd32 (x : Int32) : Bd x.toInt64 := by
  unfold Bd
  have h1 : x.toInt < 2147483648 := Int32.toInt_lt x
  have h2 : -2147483648 ≤ x.toInt := Int32.le_toInt x
  rw [Int32.toInt_toInt64]; omega
theorem ix_n {x : Int32} {z : Nat} (h : x = Int32.ofNat z) (hz : z < 2147483648) : ix x = z := by rw [h, n_ix hz]
theorem ne_err {x : Int64} (h : Bd x) : ¬ x = -9223372036854775808 := fun e => by
  have h1 := h.1
  have e1 : (-9223372036854775808 : Int64).toInt = -9223372036854775808 := rfl
  rw [e, e1] at h1; omega
theorem p_operand {J : MJ} {c : Nat} (hc : c < 20000) : f_X4_operand J (Int32.ofNat c) 63 7 = some (if 10000 ≤ c ∧ c < 10007 then J 63 (c - 10000) else (Int32.ofNat c).toInt64) := by
  delta f_X4_operand
  simp only [lt]
  have e4 : (10000 : Int32).toInt = 10000 := rfl
  have ez : (Int32.ofNat c - 10000).toInt = (c : Int) - 10000 := by
    have := n_toInt (n := c) (by omega)
    rw [i_sub (by omega) (by omega), this, e4]
  by_cases h1 : Int32.ofNat c - 10000 < 0
  · rw [if_pos h1]
    rw [Int32.lt_iff_toInt_lt, ez, z0] at h1
    rw [if_neg (by omega)]
  · rw [if_neg h1]
    rw [Int32.lt_iff_toInt_lt, ez, z0] at h1
    have e7 : (Int32.ofNat 7).toInt = 7 := rfl
    have es : Int32.ofNat c - 10000 = Int32.ofNat (c - 10000) := by
      apply Int32.toInt.inj
      rw [ez, n_toInt (by omega)]; omega
    rw [es]
    by_cases h2 : Int32.ofNat 7 ≤ Int32.ofNat (c - 10000)
    · rw [if_pos h2]
      have := (n_le (by omega) (by omega)).mp h2
      rw [if_neg (by omega)]
    · rw [if_neg h2]
      have h3 : ¬ 7 ≤ c - 10000 := fun h => h2 ((n_le (by omega) (by omega)).mpr h)
      rw [gd_t ((n_inb (by omega)).mpr (by omega)), n_ix (by omega), if_pos (by omega)]
theorem sgn_c {k : Nat} (h1 : 3 ≤ k) (h2 : k ≤ 14) : 10 ≤ sgn k ∧ sgn k ≤ 32 ∧ sgn k ≠ 12 := by
  unfold sgn
  split
  · omega
  · split <;> omega
theorem p_value {I : MI} {K P O : Nat → Int32} {pl : Nat} (hpl : pl < 40) {l f n : Nat} (hl : l < 3) (hf : f + n ≤ 64) (hn : 1 ≤ n) (e2 : I (pl + 2) l = Int32.ofNat f) (e3 : I (pl + 3) l = Int32.ofNat n) (hw : Wf (I (pl + 1)) K P O n f []) {J : MJ} {nm v0 : Nat → Int64} (hnm : ∀ z, z < 7 → nm z = J 63 z ∧ Bd (nm z)) : Ev (f_X4_value I J pl (Int32.ofNat l) 63 7) (fun a => a.1 = lv K P O nm n f v0 ∧ ∀ p, p ≠ pl + 4 → a.2 p = J p) := by
  delta f_X4_value
  have gl : inb (Int32.ofNat l) 3 = true := (n_inb (by omega)).mpr hl
  refine Ev_gd gl (Ev_gd gl (Ev_ls (Ev_gd gl (Ev_ls ?_))))
  rw [n_ix (by omega), e2, e3, n_add]
  have e64 : imin (Int32.ofNat (f + n)) 64 = Int32.ofNat (f + n) := by
    unfold imin
    rw [if_neg (fun c => by
      have := (n_lt (a := 64) (by omega) (by omega)).mp c
      omega)]
  rw [e64]
  refine Ev_ls ?_
  refine Ev_fix3 (fun x6 x7 J8 => ∃ m i st v, m + i = f + n ∧ x6 = Int32.ofNat st.length ∧ x7 = Int32.ofNat i ∧ (∀ p, p ≠ pl + 4 → J8 p = J p) ∧ Wf (I (pl + 1)) K P O m i st ∧ Hp (J8 (pl + 4)) v st ∧ (∀ a, a ∈ st → a < i ∧ Bd (v a)) ∧ st.length ≤ i ∧ lv K P O nm m i v = lv K P O nm n f v0) (fun _ x7 _ => (80 - x7.toInt).toNat) ?_ FU _ _ _ (FU_lt ?_) ⟨n, f, [], v0, by omega, rfl, rfl, fun _ _ => rfl, hw, trivial, fun a h => (by cases h), Nat.zero_le _, rfl⟩
  · rintro rec x6 x7 J8 ⟨m, i, st, v, hmi, rfl, rfl, hJ, hw, hp, hb, hlen, hlv⟩ hrec
    refine Ev_if (fun c => ?_) (fun c => ?_)
    · have := (n_le (by omega) (by omega)).mp c
      have hm : m = 0 := by omega
      subst hm
      have hst : st = [i - 1] := hw
      subst hst
      refine Ev_ls ?_
      show Ev (if Int32.ofNat 1 = 1 then _ else _) _
      rw [if_pos (by rfl)]
      refine Ev_gd rfl (Ev_some ⟨?_, hJ⟩)
      rw [← hlv]
      exact hp.1
    · have hlt : i < f + n := Nat.lt_of_not_le (fun h => c ((n_le (by omega) (by omega)).mpr h))
      obtain ⟨m, rfl⟩ : ∃ m', m = m' + 1 := ⟨m - 1, by omega⟩
      have hgo : ∀ (r : List Nat) (x : Int64) (J9 : MJ), ev1 K P O nm v i = some x → Bd x → Wf (I (pl + 1)) K P O m (i + 1) (i :: r) → (∀ a, a ∈ r → a ∈ st) → r.length ≤ st.length → (∀ p, p ≠ pl + 4 → J9 p = J8 p) → J9 (pl + 4) r.length = x → (∀ j, j < r.length → J9 (pl + 4) j = J8 (pl + 4) j) → Hp (J8 (pl + 4)) v r → ∀ y, y = Int32.ofNat (r.length + 1) → Ev (rec y (Int32.ofNat i + 1) J9) (fun a => a.1 = lv K P O nm n f v0 ∧ ∀ p, p ≠ pl + 4 → a.2 p = J p) := fun r x J9 hev hbx hwf hr hrl hJ9 h1 h2 hpr y hy => by
        rw [hy, n_t1]
        refine hrec _ _ _ ⟨m, i + 1, i :: r, fun j => if j = i then x else v j, by omega, rfl, rfl, fun p hp => (hJ9 p hp).trans (hJ p hp), hwf, ⟨?_, ?_⟩, ?_, by rw [List.length_cons]; omega, ?_⟩ ?_
        · show J9 (pl + 4) r.length = if i = i then x else _
          rw [if_pos rfl, h1]
        · refine Hp_mono r hpr (fun a ha => ?_) h2
          show (if a = i then x else v a) = v a
          rw [if_neg (by have := (hb a (hr a ha)).1; omega)]
        · intro a ha
          show a < i + 1 ∧ Bd (if a = i then x else v a)
          rcases List.mem_cons.mp ha with rfl | ha
          · rw [if_pos rfl]; exact ⟨by omega, hbx⟩
          · have := hb a (hr a ha)
            rw [if_neg (by omega)]; exact ⟨by omega, this.2⟩
        · rw [← hlv, lv_s hev]
        · rw [n_toInt (by omega), n_toInt (by omega)]; omega
      refine Ev_gd ((n_inb (by omega)).mpr (by omega)) (Ev_ls (Ev_ls ?_))
      rw [n_ix (by omega)]
      rcases hw with ⟨z, hz, ec, ek, ep, hw⟩ | ⟨z, hz, ec, ek, ep, hw⟩ | ⟨a, r, hst, ec, ek, ep, hw⟩ | ⟨a, b, r, k, hst, hk1, hk2, ec, ek, ep, eo, hw⟩
      · have hl64 : Int32.ofNat st.length < 64 := (n_lt (b := 64) (by omega) (by omega)).mpr (by omega)
        rw [ec, if_neg (fun c => by
          have := (n_le (a := 20000) (by omega) (by omega)).mp c
          omega), if_pos hl64, p_operand (by omega), if_neg (by omega), bd1_s]
        refine Ev_gd ((n_inb (by omega)).mpr (by omega)) (Ev_ls (Ev_ls (Ev_ls ?_)))
        rw [n_ix (by omega)]
        refine hgo st _ _ ?_ (bd32 (Int32.ofNat z)) hw (fun a h => h) (Nat.le_refl _) (fun p hp => st2_ne hp) ?_ (fun j hj => ?_) hp _ (n_t1 _)
        · unfold ev1
          rw [if_pos ek, ep]
        · rw [st2_at, if_pos rfl]
        · rw [st2_at, if_neg (by omega)]
      · have hl64 : Int32.ofNat st.length < 64 := (n_lt (b := 64) (by omega) (by omega)).mpr (by omega)
        rw [ec, if_neg (fun c => by
          have := (n_le (a := 20000) (by omega) (by omega)).mp c
          omega), if_pos hl64, p_operand (by omega), if_pos (by omega), bd1_s, show 10000 + z - 10000 = z by omega]
        refine Ev_gd ((n_inb (by omega)).mpr (by omega)) (Ev_ls (Ev_ls (Ev_ls ?_)))
        rw [n_ix (by omega), hJ 63 (by omega)]
        refine hgo st (nm z) _ ?_ (hnm z hz).2 hw (fun a h => h) (Nat.le_refl _) (fun p hp => st2_ne hp) ?_ (fun j hj => ?_) hp _ (n_t1 _)
        · unfold ev1
          rw [ek, if_neg (by decide), if_pos rfl, ix_n ep (by omega)]
        · rw [st2_at, if_pos rfl, (hnm z hz).1]
        · rw [st2_at, if_neg (by omega)]
      · subst hst
        have hba := hb a List.mem_cons_self
        have hl1 : (a :: r).length = r.length + 1 := rfl
        have hlen' := hlen
        rw [hl1] at hlen' ⊢
        have es : Int32.ofNat (r.length + 1) - 1 = Int32.ofNat r.length := n_sub (a := r.length + 1) (b := 1) (by omega)
        have h1l : (1 : Int32) ≤ Int32.ofNat (r.length + 1) := (n_le (a := 1) (by omega) (by omega)).mpr (by omega)
        rw [ec, if_pos (by decide), if_pos rfl, if_pos h1l, es]
        refine Ev_gd ((n_inb (by omega)).mpr (by omega)) (Ev_ls ?_)
        rw [n_ix (by omega), hp.1]
        have hon : ∀ bb : Bool, (if v a = 0 then (1 : Int64) else 0) = (if bb then 1 else 0) → Ev (bd1 (f_X4_truth (bi bb)) (fun x15 => gd (inb (Int32.ofNat r.length) 64) (lt (st2 J8 (pl + 4) (ix (Int32.ofNat r.length)) x15) (fun J16 => lt (Int32.ofNat i + 1) (fun x12 => rec (Int32.ofNat (r.length + 1)) x12 J16))))) (fun a => a.1 = lv K P O nm n f v0 ∧ ∀ p, p ≠ pl + 4 → a.2 p = J p) := fun bb hbb => by
          rw [p_truth, bd1_s]
          refine Ev_gd ((n_inb (by omega)).mpr (by omega)) (Ev_ls (Ev_ls ?_))
          rw [n_ix (by omega), ← hbb]
          refine hgo r (if v a = 0 then 1 else 0) _ ?_ Bd10 hw (fun x h => List.mem_cons_of_mem _ h) (by rw [hl1]; omega) (fun p hp => st2_ne hp) ?_ (fun j hj => ?_) hp.2 _ rfl
          · unfold ev1
            rw [ek, if_neg (by decide), if_neg (by decide), if_pos rfl, ix_n ep (by omega)]
          · rw [st2_at, if_pos rfl]
          · rw [st2_at, if_neg (by omega)]
        refine Ev_if (fun c => hon true (by rw [if_pos c]; rfl)) (fun c => hon false (by rw [if_neg c]; rfl))
      · subst hst
        have hbb := hb b List.mem_cons_self
        have hba := hb a (List.mem_cons_of_mem _ List.mem_cons_self)
        have hsg := sgn_c hk1 hk2
        have hl1 : (b :: a :: r).length = r.length + 2 := rfl
        have hlen' := hlen
        rw [hl1] at hlen' ⊢
        have hne : ¬ Int32.ofNat (20000 + sgn k) = 20012 := fun e => by
          have := (n_eq (b := 20012) (by omega) (by omega)).mp e
          omega
        have m1 : (-1 : Int32).toInt = -1 := rfl
        have e1 : Int32.ofNat (r.length + 2) + -1 = Int32.ofNat (r.length + 1) := by
          apply Int32.toInt.inj
          have := n_toInt (n := r.length + 2) (by omega)
          rw [i_add (by omega) (by omega), this, m1, n_toInt (by omega)]; omega
        have e2 : Int32.ofNat (r.length + 1) - 1 = Int32.ofNat r.length := n_sub (a := r.length + 1) (b := 1) (by omega)
        have e3 : Int32.ofNat (20000 + sgn k) - 20000 = Int32.ofNat (sgn k) := by
          have := n_sub (a := 20000 + sgn k) (b := 20000) (by omega)
          rw [show 20000 + sgn k - 20000 = sgn k by omega] at this
          exact this
        have h20 : (20000 : Int32) ≤ Int32.ofNat (20000 + sgn k) := (n_le (a := 20000) (by omega) (by omega)).mpr (by omega)
        have h2l : (2 : Int32) ≤ Int32.ofNat (r.length + 2) := (n_le (a := 2) (by omega) (by omega)).mpr (by omega)
        rw [ec, if_pos h20, if_neg hne, if_pos h2l, e1]
        refine Ev_ls ?_
        rw [e2, e3, n_ix (show r.length < 2147483648 by omega), n_ix (show r.length + 1 < 2147483648 by omega)]
        refine Ev_gd ((n_inb (by omega)).mpr (by omega)) (Ev_gd ((n_inb (by omega)).mpr (by omega)) ?_)
        have hb0 : J8 (pl + 4) (r.length + 1) = v b := hp.1
        have ha0 : J8 (pl + 4) r.length = v a := hp.2.1
        rw [hb0, ha0, p_joined hk1 hk2 hba.2, bd1_s]
        refine Ev_gd ((n_inb (by omega)).mpr (by omega)) (Ev_ls (Ev_gd ((n_inb (by omega)).mpr (by omega)) ?_))
        rw [st2_at, if_pos rfl]
        have hev : ev1 K P O nm v i = jn k (v a) (v b) := by
          unfold ev1
          have n0 : ¬ Int32.ofNat k = 0 := fun e => by
            have := (n_eq (b := 0) (by omega) (by omega)).mp e
            omega
          have n1 : ¬ Int32.ofNat k = 1 := fun e => by
            have := (n_eq (b := 1) (by omega) (by omega)).mp e
            omega
          have n2 : ¬ Int32.ofNat k = 2 := fun e => by
            have := (n_eq (b := 2) (by omega) (by omega)).mp e
            omega
          rw [ek, if_neg n0, if_neg n1, if_neg n2, ix_n ep (by omega), ix_n eo (by omega), n_ix (by omega)]
        cases hj : jn k (v a) (v b) with
        | none =>
          rw [if_pos (by rfl)]
          refine Ev_some ⟨?_, fun p hp => (st2_ne hp).trans (hJ p hp)⟩
          rw [← hlv, lv_n (hev.trans hj)]
        | some x =>
          have hbx := jn_bd hba.2 hbb.2 hj
          rw [show er64 (some x) = x from rfl, if_neg (ne_err hbx)]
          refine Ev_ls ?_
          refine hgo r x _ (hev.trans hj) hbx hw (fun y h => List.mem_cons_of_mem _ (List.mem_cons_of_mem _ h)) (by rw [hl1]; omega) (fun p hp => st2_ne hp) ?_ (fun j hj => ?_) hp.2.2 _ rfl
          · rw [st2_at, if_pos rfl]
          · rw [st2_at, if_neg (by omega)]
  · rw [n_toInt (by omega)]; omega
