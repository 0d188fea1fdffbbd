/-! the words in which the programs of the methods are written: memories, guards, joins, loops -/
abbrev MI : Type := Nat → Nat → Int32
abbrev MJ : Type := Nat → Nat → Int64
def st2 {α : Type} (f : Nat → Nat → α) (p k : Nat) (v : α) : Nat → Nat → α := fun p' => if p' = p then fun k' => if k' = k then v else f p k' else f p'
def stR {α : Type} (f : Nat → Nat → α) (p : Nat) (r : Nat → α) : Nat → Nat → α := fun p' => if p' = p then r else f p'
theorem st2_ne {α : Type} {f : Nat → Nat → α} {p q k : Nat} {v : α} (h : q ≠ p) : st2 f p k v q = f q := by simp [st2, h]
theorem st2_eq {α : Type} {f : Nat → Nat → α} {p k : Nat} {v : α} : st2 f p k v p = fun k' => if k' = k then v else f p k' := by simp [st2]
theorem stR_ne {α : Type} {f : Nat → Nat → α} {p q : Nat} {r : Nat → α} (h : q ≠ p) : stR f p r q = f q := by simp [stR, h]
theorem stR_eq {α : Type} {f : Nat → Nat → α} {p : Nat} {r : Nat → α} : stR f p r p = r := by simp [stR]
def lt {α β : Type} (e : α) (k : α → β) : β := k e
def gd {α : Type} (c : Bool) (k : Option α) : Option α := if c = true then k else none
def bi (r : Bool) : Int32 := if r = true then 1 else 0
def inb (i : Int32) (n : Nat) : Bool := decide (0 ≤ i.toInt) && decide (i.toInt < n)
abbrev ix (i : Int32) : Nat := i.toNatClampNeg
def is01 (x : Int32) : Bool := decide (x = 0) || decide (x = 1)
def nz (x : Int32) : Bool := !decide (x = 0)
def nzl (x : Int64) : Bool := !decide (x = 0)
def irem (x y : Int32) : Int32 := x - x / y * y
def lrem (x y : Int64) : Int64 := x - x / y * y
def i2b (x : Int32) : Int32 := x.toInt8.toInt32
def iushr (x y : Int32) : Int32 := (x.toUInt32 >>> (y.toUInt32 &&& Int32.toUInt32 31)).toInt32
def imax (x y : Int32) : Int32 := if x < y then y else x
def imin (x y : Int32) : Int32 := if y < x then y else x
def lmax (x y : Int64) : Int64 := if y < x then x else y
def lmin (x y : Int64) : Int64 := if y < x then y else x
def FU : Nat := 2 ^ 70
def sw {α : Type} (x : Int32) : List (Int32 × Option α) → Option α → Option α
  | [], d => d
  | q :: r, d => if x = q.1 then q.2 else sw x r d
def bd1 {α β1 : Type} (o : Option β1) (f : β1 → Option α) : Option α := o.bind f
def bd2 {α β1 β2 : Type} (o : Option (β1 × β2)) (f : β1 → β2 → Option α) : Option α := o.bind fun a => f a.1 a.2
def bd3 {α β1 β2 β3 : Type} (o : Option (β1 × β2 × β3)) (f : β1 → β2 → β3 → Option α) : Option α := o.bind fun a => f a.1 a.2.1 a.2.2
def bd4 {α β1 β2 β3 β4 : Type} (o : Option (β1 × β2 × β3 × β4)) (f : β1 → β2 → β3 → β4 → Option α) : Option α := o.bind fun a => f a.1 a.2.1 a.2.2.1 a.2.2.2
def bd5 {α β1 β2 β3 β4 β5 : Type} (o : Option (β1 × β2 × β3 × β4 × β5)) (f : β1 → β2 → β3 → β4 → β5 → Option α) : Option α := o.bind fun a => f a.1 a.2.1 a.2.2.1 a.2.2.2.1 a.2.2.2.2
def fix1 {σ1 α : Type} (step : (σ1 → Option α) → σ1 → Option α) : Nat → σ1 → Option α
  | 0 => fun _ => none
  | n + 1 => step (fix1 step n)
def fix2 {σ1 σ2 α : Type} (step : (σ1 → σ2 → Option α) → σ1 → σ2 → Option α) : Nat → σ1 → σ2 → Option α
  | 0 => fun _ _ => none
  | n + 1 => step (fix2 step n)
def fix3 {σ1 σ2 σ3 α : Type} (step : (σ1 → σ2 → σ3 → Option α) → σ1 → σ2 → σ3 → Option α) : Nat → σ1 → σ2 → σ3 → Option α
  | 0 => fun _ _ _ => none
  | n + 1 => step (fix3 step n)
def fix4 {σ1 σ2 σ3 σ4 α : Type} (step : (σ1 → σ2 → σ3 → σ4 → Option α) → σ1 → σ2 → σ3 → σ4 → Option α) : Nat → σ1 → σ2 → σ3 → σ4 → Option α
  | 0 => fun _ _ _ _ => none
  | n + 1 => step (fix4 step n)
def fix5 {σ1 σ2 σ3 σ4 σ5 α : Type} (step : (σ1 → σ2 → σ3 → σ4 → σ5 → Option α) → σ1 → σ2 → σ3 → σ4 → σ5 → Option α) : Nat → σ1 → σ2 → σ3 → σ4 → σ5 → Option α
  | 0 => fun _ _ _ _ _ => none
  | n + 1 => step (fix5 step n)
def fix6 {σ1 σ2 σ3 σ4 σ5 σ6 α : Type} (step : (σ1 → σ2 → σ3 → σ4 → σ5 → σ6 → Option α) → σ1 → σ2 → σ3 → σ4 → σ5 → σ6 → Option α) : Nat → σ1 → σ2 → σ3 → σ4 → σ5 → σ6 → Option α
  | 0 => fun _ _ _ _ _ _ => none
  | n + 1 => step (fix6 step n)
def fix7 {σ1 σ2 σ3 σ4 σ5 σ6 σ7 α : Type} (step : (σ1 → σ2 → σ3 → σ4 → σ5 → σ6 → σ7 → Option α) → σ1 → σ2 → σ3 → σ4 → σ5 → σ6 → σ7 → Option α) : Nat → σ1 → σ2 → σ3 → σ4 → σ5 → σ6 → σ7 → Option α
  | 0 => fun _ _ _ _ _ _ _ => none
  | n + 1 => step (fix7 step n)
def fix8 {σ1 σ2 σ3 σ4 σ5 σ6 σ7 σ8 α : Type} (step : (σ1 → σ2 → σ3 → σ4 → σ5 → σ6 → σ7 → σ8 → Option α) → σ1 → σ2 → σ3 → σ4 → σ5 → σ6 → σ7 → σ8 → Option α) : Nat → σ1 → σ2 → σ3 → σ4 → σ5 → σ6 → σ7 → σ8 → Option α
  | 0 => fun _ _ _ _ _ _ _ _ => none
  | n + 1 => step (fix8 step n)
def fix9 {σ1 σ2 σ3 σ4 σ5 σ6 σ7 σ8 σ9 α : Type} (step : (σ1 → σ2 → σ3 → σ4 → σ5 → σ6 → σ7 → σ8 → σ9 → Option α) → σ1 → σ2 → σ3 → σ4 → σ5 → σ6 → σ7 → σ8 → σ9 → Option α) : Nat → σ1 → σ2 → σ3 → σ4 → σ5 → σ6 → σ7 → σ8 → σ9 → Option α
  | 0 => fun _ _ _ _ _ _ _ _ _ => none
  | n + 1 => step (fix9 step n)
def fix10 {σ1 σ2 σ3 σ4 σ5 σ6 σ7 σ8 σ9 σ10 α : Type} (step : (σ1 → σ2 → σ3 → σ4 → σ5 → σ6 → σ7 → σ8 → σ9 → σ10 → Option α) → σ1 → σ2 → σ3 → σ4 → σ5 → σ6 → σ7 → σ8 → σ9 → σ10 → Option α) : Nat → σ1 → σ2 → σ3 → σ4 → σ5 → σ6 → σ7 → σ8 → σ9 → σ10 → Option α
  | 0 => fun _ _ _ _ _ _ _ _ _ _ => none
  | n + 1 => step (fix10 step n)
