/-! words of the pure layer -/
theorem i_add {a b : Int32} (h1 : -2147483648 ≤ a.toInt + b.toInt) (h2 : a.toInt + b.toInt ≤ 2147483647) : (a + b).toInt = a.toInt + b.toInt := by
  rw [Int32.toInt_add]; exact Int.bmod_eq_of_le (by omega) (by omega)
theorem i_sub {a b : Int32} (h1 : -2147483648 ≤ a.toInt - b.toInt) (h2 : a.toInt - b.toInt ≤ 2147483647) : (a - b).toInt = a.toInt - b.toInt := by
  rw [Int32.toInt_sub]; exact Int.bmod_eq_of_le (by omega) (by omega)
theorem i_ofNat {n : Nat} (h : n ≤ 2147483647) : (Int32.ofNat n).toInt = n := Int32.toInt_ofNat_of_lt (by omega)
theorem inb_iff {i : Int32} {n : Nat} : inb i n = true ↔ 0 ≤ i.toInt ∧ i.toInt < n := by simp [inb]
theorem gd_t {α : Type} {c : Bool} {k : Option α} (h : c = true) : gd c k = k := by simp [gd, h]
theorem lt_el {α β : Type} {e : α} {k : α → β} {p : β → Prop} (h : ∀ j, j = e → p (k j)) : p (lt e k) := h e rfl
theorem bd1_s {α β1 : Type} {a : β1} {f : β1 → Option α} : bd1 (some a) f = f a := rfl
theorem bd2_s {α β1 β2 : Type} {a : β1} {b : β2} {f : β1 → β2 → Option α} : bd2 (some (a, b)) f = f a b := rfl
theorem bd3_s {α β1 β2 β3 : Type} {a : β1} {b : β2} {c : β3} {f : β1 → β2 → β3 → Option α} : bd3 (some (a, b, c)) f = f a b c := rfl
theorem bd4_s {α β1 β2 β3 β4 : Type} {a : β1} {b : β2} {c : β3} {d : β4} {f : β1 → β2 → β3 → β4 → Option α} : bd4 (some (a, b, c, d)) f = f a b c d := rfl
theorem bd5_s {α β1 β2 β3 β4 β5 : Type} {a : β1} {b : β2} {c : β3} {d : β4} {e : β5} {f : β1 → β2 → β3 → β4 → β5 → Option α} : bd5 (some (a, b, c, d, e)) f = f a b c d e := rfl
theorem sw_c {α : Type} {x c : Int32} {a d : Option α} {r : List (Int32 × Option α)} {p : Option α → Prop} (h1 : x = c → p a) (h2 : p (sw x r d)) : p (sw x ((c, a) :: r) d) := by
  show p (if x = c then a else sw x r d)
  split
  · next h => exact h1 h
  · exact h2
