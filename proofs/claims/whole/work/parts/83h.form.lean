/-! reading a law: what waits, what is held -/
def Sp1 (C K P O : Nat → Int32) (i : Nat) (st st' : List Nat) : Prop :=
  (∃ z, z < 10000 ∧ C i = Int32.ofNat z ∧ K i = 0 ∧ P i = Int32.ofNat z ∧ st' = i :: st) ∨
  (∃ z, z < 7 ∧ C i = Int32.ofNat (10000 + z) ∧ K i = 1 ∧ P i = Int32.ofNat z ∧ st' = i :: st) ∨
  (∃ a r, st = a :: r ∧ C i = 20012 ∧ K i = 2 ∧ P i = Int32.ofNat a ∧ st' = i :: r) ∨
  (∃ a b r k, st = b :: a :: r ∧ 3 ≤ k ∧ k ≤ 14 ∧ C i = Int32.ofNat (20000 + sgn k) ∧ K i = Int32.ofNat k ∧ P i = Int32.ofNat a ∧ O i = Int32.ofNat b ∧ st' = i :: r)
def Wp (C K P O : Nat → Int32) (f : Nat) : Nat → List Nat → Prop
  | 0, st => st = []
  | m + 1, st' => ∃ st, Wp C K P O f m st ∧ Sp1 C K P O (f + m) st st'
theorem Wp_len {C K P O : Nat → Int32} {f : Nat} : ∀ m st, Wp C K P O f m st → st.length ≤ m
  | 0, st, h => by
    have : st = [] := h
    rw [this]; exact Nat.le_refl _
  | m + 1, st', h => by
    obtain ⟨st, h1, h2⟩ := h
    have ih := Wp_len m st h1
    rcases h2 with ⟨_, _, _, _, _, rfl⟩ | ⟨_, _, _, _, _, rfl⟩ | ⟨a, r, rfl, _, _, _, rfl⟩ | ⟨a, b, r, k, rfl, _, _, _, _, _, _, rfl⟩
    · rw [List.length_cons]; omega
    · rw [List.length_cons]; omega
    · rw [List.length_cons] at ih ⊢; omega
    · rw [List.length_cons, List.length_cons] at ih; rw [List.length_cons]; omega
theorem Wp_Wf {C K P O : Nat → Int32} {f : Nat} : ∀ m n st, Wp C K P O f m st → Wf C K P O n (f + m) st → Wf C K P O (m + n) f []
  | 0, n, st, h, hw => by
    have : st = [] := h
    subst this
    rw [Nat.zero_add]; exact hw
  | m + 1, n, st', h, hw => by
    obtain ⟨st, h1, h2⟩ := h
    rw [show m + 1 + n = m + (n + 1) by omega]
    refine Wp_Wf m (n + 1) st h1 ?_
    have hw : Wf C K P O n (f + m + 1) st' := hw
    unfold Wf
    rcases h2 with ⟨z, a, b, c, d, rfl⟩ | ⟨z, a, b, c, d, rfl⟩ | ⟨a, r, rfl, b, c, d, rfl⟩ | ⟨a, b, r, k, rfl, c, d, e, g, i, j, rfl⟩
    · exact Or.inl ⟨z, a, b, c, d, hw⟩
    · exact Or.inr (Or.inl ⟨z, a, b, c, d, hw⟩)
    · exact Or.inr (Or.inr (Or.inl ⟨a, r, rfl, b, c, d, hw⟩))
    · exact Or.inr (Or.inr (Or.inr ⟨a, b, r, k, rfl, c, d, e, g, i, j, hw⟩))
theorem Wp_congr {C K P O C' K' P' O' : Nat → Int32} {f : Nat} : ∀ m st, (∀ j, f ≤ j → j < f + m → C' j = C j ∧ K' j = K j ∧ P' j = P j ∧ O' j = O j) → Wp C K P O f m st → Wp C' K' P' O' f m st
  | 0, _, _, h => h
  | m + 1, st', he, h => by
    obtain ⟨st, h1, h2⟩ := h
    obtain ⟨e1, e2, e3, e4⟩ := he (f + m) (by omega) (by omega)
    refine ⟨st, Wp_congr m st (fun j a b => he j a (by omega)) h1, ?_⟩
    unfold Sp1 at h2 ⊢
    rw [e1, e2, e3, e4]; exact h2
def cc (k : Nat) : Nat := if k = 0 then 21 else if k = 2 then 12 else sgn k
def rk (k : Nat) : Nat := if 13 ≤ k then 6 else if 11 ≤ k then 5 else if 5 ≤ k then 4 else if k = 2 then 3 else if k = 3 then 2 else if k = 4 then 1 else 0
def okw (k : Nat) : Prop := k = 0 ∨ (2 ≤ k ∧ k ≤ 14)
theorem rk_F : ∀ k : Fin 15, k.1 ≠ 1 → f_X6_rankOf (Int32.ofNat (cc k.1)) = some (Int32.ofNat (rk k.1)) ∧ f_X11_standing (Int32.ofNat k.1) = some (Int32.ofNat (rk k.1)) ∧ rk k.1 ≤ 6 ∧ (rk k.1 = 0 → k.1 = 0) ∧ cc k.1 ≤ 32 := by decide +kernel
theorem rk_c {k : Nat} (h : okw k) : f_X6_rankOf (Int32.ofNat (cc k)) = some (Int32.ofNat (rk k)) ∧ f_X11_standing (Int32.ofNat k) = some (Int32.ofNat (rk k)) ∧ rk k ≤ 6 ∧ (rk k = 0 → k = 0) ∧ cc k ≤ 32 := by
  unfold okw at h
  exact rk_F ⟨k, by omega⟩ (by show k ≠ 1; omega)
def opn : List Nat → Nat
  | [] => 0
  | w :: r => (if w = 0 then 1 else 0) + opn r
def nn : List Nat → Nat
  | [] => 0
  | w :: r => (if w = 0 then 0 else 1) + nn r
def bn : List Nat → Nat
  | [] => 0
  | w :: r => (if 3 ≤ w then 1 else 0) + bn r
def rkl : List Nat → Nat
  | [] => 0
  | w :: _ => rk w
theorem len_on : ∀ W : List Nat, W.length = opn W + nn W
  | [] => rfl
  | w :: r => by
    have := len_on r
    show r.length + 1 = ((if w = 0 then 1 else 0) + opn r) + ((if w = 0 then 0 else 1) + nn r)
    by_cases c : w = 0
    · rw [if_pos c, if_pos c]; omega
    · rw [if_neg c, if_neg c]; omega
def WtR (I M : MI) : List Nat → Prop
  | [] => True
  | w :: r => I 35 r.length = Int32.ofNat (cc w) ∧ M 22 r.length = Int32.ofNat w ∧ okw w ∧ WtR I M r
def HdR (M : MI) : List Nat → Prop
  | [] => True
  | a :: r => M 23 r.length = Int32.ofNat a ∧ a < 64 ∧ HdR M r
theorem WtR.fr {I I' M M' : MI} : ∀ W, WtR I M W → (∀ k, k < W.length → I' 35 k = I 35 k ∧ M' 22 k = M 22 k) → WtR I' M' W
  | [], _, _ => trivial
  | w :: r, ⟨h1, h2, h3, h4⟩, he => by
    obtain ⟨e1, e2⟩ := he r.length (by rw [List.length_cons]; omega)
    exact ⟨by rw [e1]; exact h1, by rw [e2]; exact h2, h3, WtR.fr r h4 (fun k hk => he k (by rw [List.length_cons]; omega))⟩
theorem HdR.fr {M M' : MI} : ∀ st, HdR M st → (∀ k, k < st.length → M' 23 k = M 23 k) → HdR M' st
  | [], _, _ => trivial
  | a :: r, ⟨h1, h2, h3⟩, he => by
    exact ⟨by rw [he r.length (by rw [List.length_cons]; omega)]; exact h1, h2, HdR.fr r h3 (fun k hk => he k (by rw [List.length_cons]; omega))⟩
