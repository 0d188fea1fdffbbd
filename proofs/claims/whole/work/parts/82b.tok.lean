/-! the tokens of a text: the words, and the component's step -/
def wlL : List Nat := [378998784, 284871840, 136085504, 788081664, 676934656, 642945024, 404455424, 418884608, 724729856, 556043424, 522190848, 48365568, 486146048, 788091136, 169055808, 559500448, 76951552, 724733952, 777297172, 135926784]
def wcL : List Nat := [107, 105, 110, 100, 32, 104, 111, 117, 115, 101, 32, 100, 97, 121, 32, 119, 111, 114, 107, 32, 116, 101, 114, 109, 32, 115, 101, 101, 100, 32, 108, 97, 119, 32, 108, 111, 111, 107, 32, 117, 115, 101, 32, 112, 114, 105, 99, 101, 32, 97, 110, 100, 32, 111, 114, 32, 110, 111, 116, 32, 119, 111, 114, 116, 104, 32, 101, 97, 103, 101, 114, 32, 112, 117, 114, 115, 101, 32, 98, 105, 108, 108, 32, 117, 115, 101, 100, 32, 119, 101, 105, 103, 104, 116, 32, 100, 97, 116, 101, 32]
def wsL : List Nat := [0, 5, 11, 15, 20, 25, 30, 34, 39, 43, 49, 53, 56, 60, 66, 72, 78, 83, 88, 95, 100]
def wnL : List Nat := [4, 5, 3, 4, 4, 4, 3, 4, 3, 5, 3, 2, 3, 5, 5, 5, 4, 4, 6, 4]
def wlc (j : Nat) : Nat := wlL.getD j 0
def wcs (i : Nat) : Nat := wcL.getD i 0
def wst (j : Nat) : Nat := wsL.getD j 0
def wln (j : Nat) : Nat := wnL.getD j 0
def sg (T : Nat → Nat) (n i : Nat) : Nat := if i < n then T i else 0
def sgt (t u : Nat) : Nat := if t = 40 then 21 else if t = 41 then 22 else if t = 42 then 31 else if t = 43 then 29 else if t = 45 then 30 else if t = 47 then 32 else if t = 59 then 20 else if t = 60 then (if u = 61 then 24 else if u = 62 then 26 else 23) else if t = 61 then 25 else if t = 62 then (if u = 61 then 27 else 28) else 36
def wfn (x : Nat) : Option Nat := fd (fun j => decide (wlc j = x)) 20 0
def cdO : Option Nat → Nat
  | none => 34
  | some j => j
def tWc (x s : Nat) : Nat := if 6 < s then 36 else cdO (wfn x)
def tA (T : Nat → Nat) (n p : Nat) : Nat := rn (fun k => isB (T k)) n p
def tL (T : Nat → Nat) (n a : Nat) : Nat := rn (fun k => isL (T k)) n a
def tD (T : Nat → Nat) (n a : Nat) : Nat := rn (fun k => isD (T k)) n a
def two (c : Nat) : Bool := decide (c = 24 ∨ c = 27 ∨ c = 26)
def tC (T : Nat → Nat) (n a : Nat) : Nat := if n ≤ a then 35 else if isL (T a) then tWc (pkv T a (tL T n a - a)) (tL T n a - a) else if isD (T a) then 33 else sgt (T a) (sg T n (a + 1))
def tQ (T : Nat → Nat) (n a : Nat) : Nat := if n ≤ a then a else if isL (T a) then tL T n a else if isD (T a) then tD T n a else if two (sgt (T a) (sg T n (a + 1))) then a + 2 else a + 1
def tV (T : Nat → Nat) (n a : Nat) : Nat := if isL (T a) then pkv T a (tL T n a - a) else cN T a (tD T n a - a)
def FT (I I' : MI) : Prop := ∀ q k, ¬ (q = 36 ∧ 3 ≤ k ∧ k ≤ 6) → I' q k = I q k
/-- the component's tokens stand ahead of place p -/
def TkI (I : MI) (T : Nat → Nat) (n p : Nat) : Prop := (∀ k, T k < 256) ∧ n ≤ 700 ∧ p ≤ n ∧ (∀ k, I 1 k &&& 255 = Int32.ofNat (T k)) ∧ (∀ j, j < 20 → I 37 j = Int32.ofNat (wlc j)) ∧ I 36 2 = Int32.ofNat n ∧ I 36 3 = Int32.ofNat p
theorem TkI.to {I I' : MI} {T : Nat → Nat} {n p q : Nat} (h : TkI I T n p) (h1 : I' 1 = I 1) (h2 : I' 37 = I 37) (h3 : I' 36 2 = I 36 2) (h4 : I' 36 3 = Int32.ofNat q) (hq : q ≤ n) : TkI I' T n q := by
  obtain ⟨a1, a2, a3, a4, a5, a6, a7⟩ := h
  exact ⟨a1, a2, hq, fun k => by rw [h1]; exact a4 k, fun j hj => by rw [h2]; exact a5 j hj, by rw [h3]; exact a6, h4⟩
theorem TkI.ft {I I' : MI} {T : Nat → Nat} {n p q : Nat} (h : TkI I T n p) (f : FT I I') (h4 : I' 36 3 = Int32.ofNat q) (hq : q ≤ n) : TkI I' T n q :=
  h.to (funext (fun k => f 1 k (by omega))) (funext (fun k => f 37 k (by omega))) (f 36 2 (by omega)) h4 hq
theorem p_signAt {I : MI} {T : Nat → Nat} {n p i : Nat} (h : TkI I T n p) (hi : i ≤ 701) : f_X7_signAt I (Int32.ofNat i) = some (Int32.ofNat (sg T n i)) := by
  obtain ⟨a1, a2, a3, a4, a5, a6, a7⟩ := h
  delta f_X7_signAt
  simp only [lt]
  unfold sg
  rw [if_neg (enc_neg (by omega)).2.1, a6]
  by_cases c : i < n
  · rw [if_neg (fun e => by have := (n_le (by omega) (by omega)).mp e; omega), if_neg (fun e => by have := (n_le (a := 700) (by omega) (by omega)).mp e; omega), gd_t ((n_inb (by omega)).mpr (by omega)), n_ix (by omega), a4, if_pos c]
  · rw [if_pos ((n_le (by omega) (by omega)).mpr (by omega)), if_neg c]; rfl
theorem p_isLF : ∀ t : Fin 256, f_X7_isLetter (Int32.ofNat t.1) = some (isL t.1) ∧ f_X7_isDigit (Int32.ofNat t.1) = some (isD t.1) := by decide +kernel
theorem p_isLetter {t : Nat} (ht : t < 256) : f_X7_isLetter (Int32.ofNat t) = some (isL t) := (p_isLF ⟨t, ht⟩).1
theorem p_isDigit {t : Nat} (ht : t < 256) : f_X7_isDigit (Int32.ofNat t) = some (isD t) := (p_isLF ⟨t, ht⟩).2
theorem p_sgtok {t u : Nat} (ht : t < 256) (hu : u < 256) : f_X7_signToken (Int32.ofNat t) (Int32.ofNat u) = some (Int32.ofNat (sgt t u)) := by
  have e : ∀ (x c : Nat) (y : Int32), x < 256 → c < 256 → y = Int32.ofNat c → (Int32.ofNat x = y) = (x = c) := fun x c y hx hc hy => propext (by rw [hy]; exact n_eq (by omega) (by omega))
  delta f_X7_signToken
  unfold sgt
  simp only [lt, sw, e t 40 40 ht (by decide) rfl, e t 41 41 ht (by decide) rfl, e t 42 42 ht (by decide) rfl, e t 43 43 ht (by decide) rfl, e t 45 45 ht (by decide) rfl, e t 47 47 ht (by decide) rfl, e t 59 59 ht (by decide) rfl, e t 60 60 ht (by decide) rfl, e t 61 61 ht (by decide) rfl, e t 62 62 ht (by decide) rfl, e u 61 61 hu (by decide) rfl, e u 62 62 hu (by decide) rfl]
  repeat' split
  all_goals rfl
theorem p_stepNumber {I : MI} {T : Nat → Nat} {n a : Nat} (h : TkI I T n a) : Ev (f_X7_stepNumber I) (fun I' => FT I I' ∧ I' 36 5 = I 36 5 ∧ I' 36 3 = Int32.ofNat (tD T n a) ∧ I' 36 4 = 33 ∧ I' 36 6 = Int32.ofNat (cN T a (tD T n a - a))) := by
  have h' := h
  obtain ⟨a1, a2, a3, a4, a5, a6, a7⟩ := h'
  delta f_X7_stepNumber
  refine Ev_ls ?_
  refine Ev_j1 (fun I2 => FT I I2 ∧ I2 36 5 = I 36 5 ∧ I2 36 3 = Int32.ofNat (tD T n a) ∧ I2 36 6 = Int32.ofNat (cN T a (tD T n a - a))) ?_ ?_
  · rintro I2 ⟨g1, g2, g3, g4⟩
    exact Ev_ls (Ev_some ⟨fun q k hq => by rw [s2x (by omega)]; exact g1 q k hq, by rw [s2x (by omega)]; exact g2, by rw [s2x (by omega)]; exact g3, by rw [st2_at, if_pos rfl], by rw [s2x (by omega)]; exact g4⟩)
  · intro j hj
    refine Ev_fix1 (fun I4 => ∃ i, a ≤ i ∧ i ≤ n ∧ (∀ k, a ≤ k → k < i → isD (T k) = true) ∧ FT I I4 ∧ I4 36 5 = I 36 5 ∧ I4 36 3 = Int32.ofNat i ∧ I4 36 6 = Int32.ofNat (cN T a (i - a))) (fun I4 => (800 - (I4 36 3).toInt).toNat) ?_ FU _ (FU_lt ?_) ⟨a, by omega, a3, fun k b c => absurd c (by omega), fun q k hq => s2x (by omega), s2x (by omega), by rw [s2x (by omega)]; exact a7, by rw [st2_at, if_pos rfl, Nat.sub_self]; rfl⟩
    · rintro rec I4 ⟨i, hi, hin, hr, g1, g2, g3, g4⟩ hrec
      have K : TkI I4 T n i := h.ft g1 g3 hin
      have e2 : I4 36 2 = Int32.ofNat n := K.2.2.2.2.2.1
      rw [e2, g3]
      refine Ev_if (fun c => ?_) (fun c => ?_)
      · have c := (n_le (by omega) (by omega)).mp c
        have : i = tD T n a := rn_eq ⟨hi, hin, hr, fun h => absurd h (by omega)⟩
        exact hj _ ⟨g1, g2, by rw [g3, this], by rw [g4, this]⟩
      · have hlt : i < n := Nat.lt_of_not_le (fun h => c ((n_le (by omega) (by omega)).mpr h))
        have es : sg T n i = T i := if_pos hlt
        rw [p_signAt K (by omega), bd1_s, es, p_isDigit (a1 i), bd1_s, bd1_s]
        cases hd : isD (T i) with
        | false =>
          have : i = tD T n a := rn_eq ⟨hi, hin, hr, fun _ => hd⟩
          exact hj _ ⟨g1, g2, by rw [g3, this], by rw [g4, this]⟩
        | true =>
          rw [if_pos rfl]
          have hdd := of_decide_eq_true hd
          have hc := (cN_mN (T := T) (a := a) (i - a) (fun j hj => hr (a + j) (by omega) (by omega))).1
          have hai : a + (i - a) = i := by omega
          have ecn : cN T a (i + 1 - a) = min 1000000 (cN T a (i - a) * 10 + (T i - 48)) := by
            rw [show i + 1 - a = (i - a) + 1 by omega]
            show min 1000000 (cN T a (i - a) * 10 + (T (a + (i - a)) - 48)) = _
            rw [hai]
          have ev : imin (1000000 : Int32) (I4 36 6 * 10 + Int32.ofNat (T i) - 48) = Int32.ofNat (cN T a (i + 1 - a)) := by
            rw [g4, show (10 : Int32) = Int32.ofNat 10 from rfl, n_mul, n_add, show (48 : Int32) = Int32.ofNat 48 from rfl, n_sub (by omega), ecn, show (1000000 : Int32) = Int32.ofNat 1000000 from rfl, show cN T a (i - a) * 10 + T i - 48 = cN T a (i - a) * 10 + (T i - 48) by omega]
            unfold imin
            by_cases cc : cN T a (i - a) * 10 + (T i - 48) < 1000000
            · rw [if_pos ((n_lt (by omega) (by omega)).mpr cc), Nat.min_eq_right (by omega)]
            · rw [if_neg (fun e => cc ((n_lt (by omega) (by omega)).mp e)), Nat.min_eq_left (by omega)]
          refine Ev_ls (Ev_ls ?_)
          rw [ev, s2x (by omega), g3, n_t1]
          refine hrec _ ⟨i + 1, by omega, by omega, fun k b c => ?_, fun q k hq => by rw [s2x (by omega), s2x (by omega)]; exact g1 q k hq, by rw [s2x (by omega), s2x (by omega)]; exact g2, by rw [st2_at, if_pos rfl], by rw [s2x (by omega), st2_at, if_pos rfl]⟩ ?_
          · by_cases e : k = i
            · rw [e]; exact hd
            · exact hr k b (by omega)
          · rw [st2_at, if_pos rfl, n_toInt (by omega), g3, n_toInt (by omega)]; omega
    · rw [s2x (by omega), a7, n_toInt (by omega)]; omega
