/-! a program ends well, and what it answers has Q -/
def Ev {α : Type} (o : Option α) (Q : α → Prop) : Prop := ∃ a, o = some a ∧ Q a
theorem Ev_some {α : Type} {a : α} {Q : α → Prop} (h : Q a) : Ev (some a) Q := ⟨a, rfl, h⟩
theorem Ev_mono {α : Type} {o : Option α} {Q Q' : α → Prop} (h : Ev o Q) (hq : ∀ a, Q a → Q' a) : Ev o Q' := let ⟨a, e, q⟩ := h; ⟨a, e, hq a q⟩
theorem Ev_gd {α : Type} {c : Bool} {k : Option α} {Q : α → Prop} (hc : c = true) (h : Ev k Q) : Ev (gd c k) Q := by rw [gd_t hc]; exact h
theorem Ev_if {α : Type} {c : Prop} [Decidable c] {a b : Option α} {Q : α → Prop} (h1 : c → Ev a Q) (h2 : ¬ c → Ev b Q) : Ev (if c then a else b) Q := by
  split
  · next h => exact h1 h
  · next h => exact h2 h
theorem Ev_sw {α : Type} {x c : Int32} {a d : Option α} {r : List (Int32 × Option α)} {Q : α → Prop} (h1 : x = c → Ev a Q) (h2 : x ≠ c → Ev (sw x r d) Q) : Ev (sw x ((c, a) :: r) d) Q := Ev_if h1 h2
theorem Ev_sw0 {α : Type} {x : Int32} {d : Option α} {Q : α → Prop} (h : Ev d Q) : Ev (sw x [] d) Q := h
theorem Ev_lt {α β : Type} {e : β} {k : β → Option α} {Q : α → Prop} (h : ∀ x, x = e → Ev (k x) Q) : Ev (lt e k) Q := h e rfl
theorem Ev_ls {α β : Type} {e : β} {k : β → Option α} {Q : α → Prop} (h : Ev (k e) Q) : Ev (lt e k) Q := h
theorem Ev_bd1 {α β1 : Type} {o : Option (β1)} {f : β1 → Option α} {P : β1 → Prop} {Q : α → Prop} (h : Ev o (fun a => P a)) (hk : ∀ a1, P a1 → Ev (f a1) Q) : Ev (bd1 o f) Q := by
  obtain ⟨a1, e, hp⟩ := h
  subst e
  exact hk a1 hp
theorem Ev_bd2 {α β1 β2 : Type} {o : Option (β1 × β2)} {f : β1 → β2 → Option α} {P : β1 → β2 → Prop} {Q : α → Prop} (h : Ev o (fun a => P a.1 a.2)) (hk : ∀ a1 a2, P a1 a2 → Ev (f a1 a2) Q) : Ev (bd2 o f) Q := by
  obtain ⟨⟨a1, a2⟩, e, hp⟩ := h
  subst e
  exact hk a1 a2 hp
theorem Ev_bd3 {α β1 β2 β3 : Type} {o : Option (β1 × β2 × β3)} {f : β1 → β2 → β3 → Option α} {P : β1 → β2 → β3 → Prop} {Q : α → Prop} (h : Ev o (fun a => P a.1 a.2.1 a.2.2)) (hk : ∀ a1 a2 a3, P a1 a2 a3 → Ev (f a1 a2 a3) Q) : Ev (bd3 o f) Q := by
  obtain ⟨⟨a1, a2, a3⟩, e, hp⟩ := h
  subst e
  exact hk a1 a2 a3 hp
theorem Ev_bd4 {α β1 β2 β3 β4 : Type} {o : Option (β1 × β2 × β3 × β4)} {f : β1 → β2 → β3 → β4 → Option α} {P : β1 → β2 → β3 → β4 → Prop} {Q : α → Prop} (h : Ev o (fun a => P a.1 a.2.1 a.2.2.1 a.2.2.2)) (hk : ∀ a1 a2 a3 a4, P a1 a2 a3 a4 → Ev (f a1 a2 a3 a4) Q) : Ev (bd4 o f) Q := by
  obtain ⟨⟨a1, a2, a3, a4⟩, e, hp⟩ := h
  subst e
  exact hk a1 a2 a3 a4 hp
theorem Ev_bd5 {α β1 β2 β3 β4 β5 : Type} {o : Option (β1 × β2 × β3 × β4 × β5)} {f : β1 → β2 → β3 → β4 → β5 → Option α} {P : β1 → β2 → β3 → β4 → β5 → Prop} {Q : α → Prop} (h : Ev o (fun a => P a.1 a.2.1 a.2.2.1 a.2.2.2.1 a.2.2.2.2)) (hk : ∀ a1 a2 a3 a4 a5, P a1 a2 a3 a4 a5 → Ev (f a1 a2 a3 a4 a5) Q) : Ev (bd5 o f) Q := by
  obtain ⟨⟨a1, a2, a3, a4, a5⟩, e, hp⟩ := h
  subst e
  exact hk a1 a2 a3 a4 a5 hp
theorem Ev_j1 {α β1 : Type} {e : β1 → Option α} {k : (β1 → Option α) → Option α} {Q : α → Prop} (S : β1 → Prop) (h1 : ∀ a1, S a1 → Ev (e a1) Q) (h2 : ∀ j : β1 → Option α, (∀ a1, S a1 → Ev (j a1) Q) → Ev (k j) Q) : Ev (lt e k) Q := h2 e h1
theorem Ev_j2 {α β1 β2 : Type} {e : β1 → β2 → Option α} {k : (β1 → β2 → Option α) → Option α} {Q : α → Prop} (S : β1 → β2 → Prop) (h1 : ∀ a1 a2, S a1 a2 → Ev (e a1 a2) Q) (h2 : ∀ j : β1 → β2 → Option α, (∀ a1 a2, S a1 a2 → Ev (j a1 a2) Q) → Ev (k j) Q) : Ev (lt e k) Q := h2 e h1
theorem Ev_j3 {α β1 β2 β3 : Type} {e : β1 → β2 → β3 → Option α} {k : (β1 → β2 → β3 → Option α) → Option α} {Q : α → Prop} (S : β1 → β2 → β3 → Prop) (h1 : ∀ a1 a2 a3, S a1 a2 a3 → Ev (e a1 a2 a3) Q) (h2 : ∀ j : β1 → β2 → β3 → Option α, (∀ a1 a2 a3, S a1 a2 a3 → Ev (j a1 a2 a3) Q) → Ev (k j) Q) : Ev (lt e k) Q := h2 e h1
theorem Ev_j4 {α β1 β2 β3 β4 : Type} {e : β1 → β2 → β3 → β4 → Option α} {k : (β1 → β2 → β3 → β4 → Option α) → Option α} {Q : α → Prop} (S : β1 → β2 → β3 → β4 → Prop) (h1 : ∀ a1 a2 a3 a4, S a1 a2 a3 a4 → Ev (e a1 a2 a3 a4) Q) (h2 : ∀ j : β1 → β2 → β3 → β4 → Option α, (∀ a1 a2 a3 a4, S a1 a2 a3 a4 → Ev (j a1 a2 a3 a4) Q) → Ev (k j) Q) : Ev (lt e k) Q := h2 e h1
theorem Ev_j5 {α β1 β2 β3 β4 β5 : Type} {e : β1 → β2 → β3 → β4 → β5 → Option α} {k : (β1 → β2 → β3 → β4 → β5 → Option α) → Option α} {Q : α → Prop} (S : β1 → β2 → β3 → β4 → β5 → Prop) (h1 : ∀ a1 a2 a3 a4 a5, S a1 a2 a3 a4 a5 → Ev (e a1 a2 a3 a4 a5) Q) (h2 : ∀ j : β1 → β2 → β3 → β4 → β5 → Option α, (∀ a1 a2 a3 a4 a5, S a1 a2 a3 a4 a5 → Ev (j a1 a2 a3 a4 a5) Q) → Ev (k j) Q) : Ev (lt e k) Q := h2 e h1
theorem Ev_j6 {α β1 β2 β3 β4 β5 β6 : Type} {e : β1 → β2 → β3 → β4 → β5 → β6 → Option α} {k : (β1 → β2 → β3 → β4 → β5 → β6 → Option α) → Option α} {Q : α → Prop} (S : β1 → β2 → β3 → β4 → β5 → β6 → Prop) (h1 : ∀ a1 a2 a3 a4 a5 a6, S a1 a2 a3 a4 a5 a6 → Ev (e a1 a2 a3 a4 a5 a6) Q) (h2 : ∀ j : β1 → β2 → β3 → β4 → β5 → β6 → Option α, (∀ a1 a2 a3 a4 a5 a6, S a1 a2 a3 a4 a5 a6 → Ev (j a1 a2 a3 a4 a5 a6) Q) → Ev (k j) Q) : Ev (lt e k) Q := h2 e h1
theorem Ev_j7 {α β1 β2 β3 β4 β5 β6 β7 : Type} {e : β1 → β2 → β3 → β4 → β5 → β6 → β7 → Option α} {k : (β1 → β2 → β3 → β4 → β5 → β6 → β7 → Option α) → Option α} {Q : α → Prop} (S : β1 → β2 → β3 → β4 → β5 → β6 → β7 → Prop) (h1 : ∀ a1 a2 a3 a4 a5 a6 a7, S a1 a2 a3 a4 a5 a6 a7 → Ev (e a1 a2 a3 a4 a5 a6 a7) Q) (h2 : ∀ j : β1 → β2 → β3 → β4 → β5 → β6 → β7 → Option α, (∀ a1 a2 a3 a4 a5 a6 a7, S a1 a2 a3 a4 a5 a6 a7 → Ev (j a1 a2 a3 a4 a5 a6 a7) Q) → Ev (k j) Q) : Ev (lt e k) Q := h2 e h1
theorem Ev_j8 {α β1 β2 β3 β4 β5 β6 β7 β8 : Type} {e : β1 → β2 → β3 → β4 → β5 → β6 → β7 → β8 → Option α} {k : (β1 → β2 → β3 → β4 → β5 → β6 → β7 → β8 → Option α) → Option α} {Q : α → Prop} (S : β1 → β2 → β3 → β4 → β5 → β6 → β7 → β8 → Prop) (h1 : ∀ a1 a2 a3 a4 a5 a6 a7 a8, S a1 a2 a3 a4 a5 a6 a7 a8 → Ev (e a1 a2 a3 a4 a5 a6 a7 a8) Q) (h2 : ∀ j : β1 → β2 → β3 → β4 → β5 → β6 → β7 → β8 → Option α, (∀ a1 a2 a3 a4 a5 a6 a7 a8, S a1 a2 a3 a4 a5 a6 a7 a8 → Ev (j a1 a2 a3 a4 a5 a6 a7 a8) Q) → Ev (k j) Q) : Ev (lt e k) Q := h2 e h1
theorem Ev_j9 {α β1 β2 β3 β4 β5 β6 β7 β8 β9 : Type} {e : β1 → β2 → β3 → β4 → β5 → β6 → β7 → β8 → β9 → Option α} {k : (β1 → β2 → β3 → β4 → β5 → β6 → β7 → β8 → β9 → Option α) → Option α} {Q : α → Prop} (S : β1 → β2 → β3 → β4 → β5 → β6 → β7 → β8 → β9 → Prop) (h1 : ∀ a1 a2 a3 a4 a5 a6 a7 a8 a9, S a1 a2 a3 a4 a5 a6 a7 a8 a9 → Ev (e a1 a2 a3 a4 a5 a6 a7 a8 a9) Q) (h2 : ∀ j : β1 → β2 → β3 → β4 → β5 → β6 → β7 → β8 → β9 → Option α, (∀ a1 a2 a3 a4 a5 a6 a7 a8 a9, S a1 a2 a3 a4 a5 a6 a7 a8 a9 → Ev (j a1 a2 a3 a4 a5 a6 a7 a8 a9) Q) → Ev (k j) Q) : Ev (lt e k) Q := h2 e h1
theorem Ev_fix1 {α σ1 : Type} {step : (σ1 → Option α) → σ1 → Option α} {Q : α → Prop} (P : σ1 → Prop) (m : σ1 → Nat) (hs : ∀ (rec : σ1 → Option α) a1, P a1 → (∀ b1, P b1 → m b1 < m a1 → Ev (rec b1) Q) → Ev (step rec a1) Q) : ∀ (n : Nat) a1, m a1 < n → P a1 → Ev (fix1 step n a1) Q
  | 0, _, h, _ => absurd h (Nat.not_lt_zero _)
  | n + 1, a1, h, hp => hs _ a1 hp (fun b1 hp' hm => Ev_fix1 P m hs n b1 (by omega) hp')
theorem Ev_fix2 {α σ1 σ2 : Type} {step : (σ1 → σ2 → Option α) → σ1 → σ2 → Option α} {Q : α → Prop} (P : σ1 → σ2 → Prop) (m : σ1 → σ2 → Nat) (hs : ∀ (rec : σ1 → σ2 → Option α) a1 a2, P a1 a2 → (∀ b1 b2, P b1 b2 → m b1 b2 < m a1 a2 → Ev (rec b1 b2) Q) → Ev (step rec a1 a2) Q) : ∀ (n : Nat) a1 a2, m a1 a2 < n → P a1 a2 → Ev (fix2 step n a1 a2) Q
  | 0, _, _, h, _ => absurd h (Nat.not_lt_zero _)
  | n + 1, a1, a2, h, hp => hs _ a1 a2 hp (fun b1 b2 hp' hm => Ev_fix2 P m hs n b1 b2 (by omega) hp')
theorem Ev_fix3 {α σ1 σ2 σ3 : Type} {step : (σ1 → σ2 → σ3 → Option α) → σ1 → σ2 → σ3 → Option α} {Q : α → Prop} (P : σ1 → σ2 → σ3 → Prop) (m : σ1 → σ2 → σ3 → Nat) (hs : ∀ (rec : σ1 → σ2 → σ3 → Option α) a1 a2 a3, P a1 a2 a3 → (∀ b1 b2 b3, P b1 b2 b3 → m b1 b2 b3 < m a1 a2 a3 → Ev (rec b1 b2 b3) Q) → Ev (step rec a1 a2 a3) Q) : ∀ (n : Nat) a1 a2 a3, m a1 a2 a3 < n → P a1 a2 a3 → Ev (fix3 step n a1 a2 a3) Q
  | 0, _, _, _, h, _ => absurd h (Nat.not_lt_zero _)
  | n + 1, a1, a2, a3, h, hp => hs _ a1 a2 a3 hp (fun b1 b2 b3 hp' hm => Ev_fix3 P m hs n b1 b2 b3 (by omega) hp')
theorem Ev_fix4 {α σ1 σ2 σ3 σ4 : Type} {step : (σ1 → σ2 → σ3 → σ4 → Option α) → σ1 → σ2 → σ3 → σ4 → Option α} {Q : α → Prop} (P : σ1 → σ2 → σ3 → σ4 → Prop) (m : σ1 → σ2 → σ3 → σ4 → Nat) (hs : ∀ (rec : σ1 → σ2 → σ3 → σ4 → Option α) a1 a2 a3 a4, P a1 a2 a3 a4 → (∀ b1 b2 b3 b4, P b1 b2 b3 b4 → m b1 b2 b3 b4 < m a1 a2 a3 a4 → Ev (rec b1 b2 b3 b4) Q) → Ev (step rec a1 a2 a3 a4) Q) : ∀ (n : Nat) a1 a2 a3 a4, m a1 a2 a3 a4 < n → P a1 a2 a3 a4 → Ev (fix4 step n a1 a2 a3 a4) Q
  | 0, _, _, _, _, h, _ => absurd h (Nat.not_lt_zero _)
  | n + 1, a1, a2, a3, a4, h, hp => hs _ a1 a2 a3 a4 hp (fun b1 b2 b3 b4 hp' hm => Ev_fix4 P m hs n b1 b2 b3 b4 (by omega) hp')
theorem Ev_fix5 {α σ1 σ2 σ3 σ4 σ5 : Type} {step : (σ1 → σ2 → σ3 → σ4 → σ5 → Option α) → σ1 → σ2 → σ3 → σ4 → σ5 → Option α} {Q : α → Prop} (P : σ1 → σ2 → σ3 → σ4 → σ5 → Prop) (m : σ1 → σ2 → σ3 → σ4 → σ5 → Nat) (hs : ∀ (rec : σ1 → σ2 → σ3 → σ4 → σ5 → Option α) a1 a2 a3 a4 a5, P a1 a2 a3 a4 a5 → (∀ b1 b2 b3 b4 b5, P b1 b2 b3 b4 b5 → m b1 b2 b3 b4 b5 < m a1 a2 a3 a4 a5 → Ev (rec b1 b2 b3 b4 b5) Q) → Ev (step rec a1 a2 a3 a4 a5) Q) : ∀ (n : Nat) a1 a2 a3 a4 a5, m a1 a2 a3 a4 a5 < n → P a1 a2 a3 a4 a5 → Ev (fix5 step n a1 a2 a3 a4 a5) Q
  | 0, _, _, _, _, _, h, _ => absurd h (Nat.not_lt_zero _)
  | n + 1, a1, a2, a3, a4, a5, h, hp => hs _ a1 a2 a3 a4 a5 hp (fun b1 b2 b3 b4 b5 hp' hm => Ev_fix5 P m hs n b1 b2 b3 b4 b5 (by omega) hp')
theorem Ev_fix6 {α σ1 σ2 σ3 σ4 σ5 σ6 : Type} {step : (σ1 → σ2 → σ3 → σ4 → σ5 → σ6 → Option α) → σ1 → σ2 → σ3 → σ4 → σ5 → σ6 → Option α} {Q : α → Prop} (P : σ1 → σ2 → σ3 → σ4 → σ5 → σ6 → Prop) (m : σ1 → σ2 → σ3 → σ4 → σ5 → σ6 → Nat) (hs : ∀ (rec : σ1 → σ2 → σ3 → σ4 → σ5 → σ6 → Option α) a1 a2 a3 a4 a5 a6, P a1 a2 a3 a4 a5 a6 → (∀ b1 b2 b3 b4 b5 b6, P b1 b2 b3 b4 b5 b6 → m b1 b2 b3 b4 b5 b6 < m a1 a2 a3 a4 a5 a6 → Ev (rec b1 b2 b3 b4 b5 b6) Q) → Ev (step rec a1 a2 a3 a4 a5 a6) Q) : ∀ (n : Nat) a1 a2 a3 a4 a5 a6, m a1 a2 a3 a4 a5 a6 < n → P a1 a2 a3 a4 a5 a6 → Ev (fix6 step n a1 a2 a3 a4 a5 a6) Q
  | 0, _, _, _, _, _, _, h, _ => absurd h (Nat.not_lt_zero _)
  | n + 1, a1, a2, a3, a4, a5, a6, h, hp => hs _ a1 a2 a3 a4 a5 a6 hp (fun b1 b2 b3 b4 b5 b6 hp' hm => Ev_fix6 P m hs n b1 b2 b3 b4 b5 b6 (by omega) hp')
theorem Ev_fix7 {α σ1 σ2 σ3 σ4 σ5 σ6 σ7 : Type} {step : (σ1 → σ2 → σ3 → σ4 → σ5 → σ6 → σ7 → Option α) → σ1 → σ2 → σ3 → σ4 → σ5 → σ6 → σ7 → Option α} {Q : α → Prop} (P : σ1 → σ2 → σ3 → σ4 → σ5 → σ6 → σ7 → Prop) (m : σ1 → σ2 → σ3 → σ4 → σ5 → σ6 → σ7 → Nat) (hs : ∀ (rec : σ1 → σ2 → σ3 → σ4 → σ5 → σ6 → σ7 → Option α) a1 a2 a3 a4 a5 a6 a7, P a1 a2 a3 a4 a5 a6 a7 → (∀ b1 b2 b3 b4 b5 b6 b7, P b1 b2 b3 b4 b5 b6 b7 → m b1 b2 b3 b4 b5 b6 b7 < m a1 a2 a3 a4 a5 a6 a7 → Ev (rec b1 b2 b3 b4 b5 b6 b7) Q) → Ev (step rec a1 a2 a3 a4 a5 a6 a7) Q) : ∀ (n : Nat) a1 a2 a3 a4 a5 a6 a7, m a1 a2 a3 a4 a5 a6 a7 < n → P a1 a2 a3 a4 a5 a6 a7 → Ev (fix7 step n a1 a2 a3 a4 a5 a6 a7) Q
  | 0, _, _, _, _, _, _, _, h, _ => absurd h (Nat.not_lt_zero _)
  | n + 1, a1, a2, a3, a4, a5, a6, a7, h, hp => hs _ a1 a2 a3 a4 a5 a6 a7 hp (fun b1 b2 b3 b4 b5 b6 b7 hp' hm => Ev_fix7 P m hs n b1 b2 b3 b4 b5 b6 b7 (by omega) hp')
theorem Ev_fix8 {α σ1 σ2 σ3 σ4 σ5 σ6 σ7 σ8 : Type} {step : (σ1 → σ2 → σ3 → σ4 → σ5 → σ6 → σ7 → σ8 → Option α) → σ1 → σ2 → σ3 → σ4 → σ5 → σ6 → σ7 → σ8 → Option α} {Q : α → Prop} (P : σ1 → σ2 → σ3 → σ4 → σ5 → σ6 → σ7 → σ8 → Prop) (m : σ1 → σ2 → σ3 → σ4 → σ5 → σ6 → σ7 → σ8 → Nat) (hs : ∀ (rec : σ1 → σ2 → σ3 → σ4 → σ5 → σ6 → σ7 → σ8 → Option α) a1 a2 a3 a4 a5 a6 a7 a8, P a1 a2 a3 a4 a5 a6 a7 a8 → (∀ b1 b2 b3 b4 b5 b6 b7 b8, P b1 b2 b3 b4 b5 b6 b7 b8 → m b1 b2 b3 b4 b5 b6 b7 b8 < m a1 a2 a3 a4 a5 a6 a7 a8 → Ev (rec b1 b2 b3 b4 b5 b6 b7 b8) Q) → Ev (step rec a1 a2 a3 a4 a5 a6 a7 a8) Q) : ∀ (n : Nat) a1 a2 a3 a4 a5 a6 a7 a8, m a1 a2 a3 a4 a5 a6 a7 a8 < n → P a1 a2 a3 a4 a5 a6 a7 a8 → Ev (fix8 step n a1 a2 a3 a4 a5 a6 a7 a8) Q
  | 0, _, _, _, _, _, _, _, _, h, _ => absurd h (Nat.not_lt_zero _)
  | n + 1, a1, a2, a3, a4, a5, a6, a7, a8, h, hp => hs _ a1 a2 a3 a4 a5 a6 a7 a8 hp (fun b1 b2 b3 b4 b5 b6 b7 b8 hp' hm => Ev_fix8 P m hs n b1 b2 b3 b4 b5 b6 b7 b8 (by omega) hp')
theorem Ev_fix9 {α σ1 σ2 σ3 σ4 σ5 σ6 σ7 σ8 σ9 : Type} {step : (σ1 → σ2 → σ3 → σ4 → σ5 → σ6 → σ7 → σ8 → σ9 → Option α) → σ1 → σ2 → σ3 → σ4 → σ5 → σ6 → σ7 → σ8 → σ9 → Option α} {Q : α → Prop} (P : σ1 → σ2 → σ3 → σ4 → σ5 → σ6 → σ7 → σ8 → σ9 → Prop) (m : σ1 → σ2 → σ3 → σ4 → σ5 → σ6 → σ7 → σ8 → σ9 → Nat) (hs : ∀ (rec : σ1 → σ2 → σ3 → σ4 → σ5 → σ6 → σ7 → σ8 → σ9 → Option α) a1 a2 a3 a4 a5 a6 a7 a8 a9, P a1 a2 a3 a4 a5 a6 a7 a8 a9 → (∀ b1 b2 b3 b4 b5 b6 b7 b8 b9, P b1 b2 b3 b4 b5 b6 b7 b8 b9 → m b1 b2 b3 b4 b5 b6 b7 b8 b9 < m a1 a2 a3 a4 a5 a6 a7 a8 a9 → Ev (rec b1 b2 b3 b4 b5 b6 b7 b8 b9) Q) → Ev (step rec a1 a2 a3 a4 a5 a6 a7 a8 a9) Q) : ∀ (n : Nat) a1 a2 a3 a4 a5 a6 a7 a8 a9, m a1 a2 a3 a4 a5 a6 a7 a8 a9 < n → P a1 a2 a3 a4 a5 a6 a7 a8 a9 → Ev (fix9 step n a1 a2 a3 a4 a5 a6 a7 a8 a9) Q
  | 0, _, _, _, _, _, _, _, _, _, h, _ => absurd h (Nat.not_lt_zero _)
  | n + 1, a1, a2, a3, a4, a5, a6, a7, a8, a9, h, hp => hs _ a1 a2 a3 a4 a5 a6 a7 a8 a9 hp (fun b1 b2 b3 b4 b5 b6 b7 b8 b9 hp' hm => Ev_fix9 P m hs n b1 b2 b3 b4 b5 b6 b7 b8 b9 (by omega) hp')
theorem Ev_fix10 {α σ1 σ2 σ3 σ4 σ5 σ6 σ7 σ8 σ9 σ10 : Type} {step : (σ1 → σ2 → σ3 → σ4 → σ5 → σ6 → σ7 → σ8 → σ9 → σ10 → Option α) → σ1 → σ2 → σ3 → σ4 → σ5 → σ6 → σ7 → σ8 → σ9 → σ10 → Option α} {Q : α → Prop} (P : σ1 → σ2 → σ3 → σ4 → σ5 → σ6 → σ7 → σ8 → σ9 → σ10 → Prop) (m : σ1 → σ2 → σ3 → σ4 → σ5 → σ6 → σ7 → σ8 → σ9 → σ10 → Nat) (hs : ∀ (rec : σ1 → σ2 → σ3 → σ4 → σ5 → σ6 → σ7 → σ8 → σ9 → σ10 → Option α) a1 a2 a3 a4 a5 a6 a7 a8 a9 a10, P a1 a2 a3 a4 a5 a6 a7 a8 a9 a10 → (∀ b1 b2 b3 b4 b5 b6 b7 b8 b9 b10, P b1 b2 b3 b4 b5 b6 b7 b8 b9 b10 → m b1 b2 b3 b4 b5 b6 b7 b8 b9 b10 < m a1 a2 a3 a4 a5 a6 a7 a8 a9 a10 → Ev (rec b1 b2 b3 b4 b5 b6 b7 b8 b9 b10) Q) → Ev (step rec a1 a2 a3 a4 a5 a6 a7 a8 a9 a10) Q) : ∀ (n : Nat) a1 a2 a3 a4 a5 a6 a7 a8 a9 a10, m a1 a2 a3 a4 a5 a6 a7 a8 a9 a10 < n → P a1 a2 a3 a4 a5 a6 a7 a8 a9 a10 → Ev (fix10 step n a1 a2 a3 a4 a5 a6 a7 a8 a9 a10) Q
  | 0, _, _, _, _, _, _, _, _, _, _, h, _ => absurd h (Nat.not_lt_zero _)
  | n + 1, a1, a2, a3, a4, a5, a6, a7, a8, a9, a10, h, hp => hs _ a1 a2 a3 a4 a5 a6 a7 a8 a9 a10 hp (fun b1 b2 b3 b4 b5 b6 b7 b8 b9 b10 hp' hm => Ev_fix10 P m hs n b1 b2 b3 b4 b5 b6 b7 b8 b9 b10 (by omega) hp')
