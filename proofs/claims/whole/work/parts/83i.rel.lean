/-! reading a law: signs released -/
def FmR (dr f : Nat) (I M : MI) (m : Nat) (W st : List Nat) : Prop :=
  I 34 2 = Int32.ofNat W.length ∧ M 0 43 = Int32.ofNat W.length ∧ M 0 44 = Int32.ofNat st.length ∧ I (dr + 11) 5 = Int32.ofNat (f + m) ∧ M 0 21 = Int32.ofNat (f + m) ∧ WtR I M W ∧ HdR M st ∧ Wp (I (dr + 12)) (hi64 M 19) (hi64 M 20) (hi64 M 21) f m st
def RI (dr f : Nat) (I I' : MI) : Prop := ∀ q k, ¬ (q = 34 ∧ k = 2) → ¬ (q = dr + 11 ∧ k = 5) → ¬ (q = dr + 12 ∧ f ≤ k) → I' q k = I q k
def RM (f : Nat) (M M' : MI) : Prop := ∀ q k, ¬ (q = 0 ∧ (k = 21 ∨ k = 43 ∨ k = 44)) → q ≠ 23 → ¬ (19 ≤ q ∧ q ≤ 21 ∧ 64 + f ≤ k) → M' q k = M q k
theorem RI.tr {dr f : Nat} {I I' I'' : MI} (h : RI dr f I I') (h' : RI dr f I' I'') : RI dr f I I'' := fun q k a b c => (h' q k a b c).trans (h q k a b c)
theorem RM.tr {f : Nat} {I I' I'' : MI} (h : RM f I I') (h' : RM f I' I'') : RM f I I'' := fun q k a b c => (h' q k a b c).trans (h q k a b c)
def gr (M : MI) (x h : Nat) (k a b : Int32) : MI := st2 (st2 (st2 (st2 (st2 (st2 M 19 (64 + x) k) 20 (64 + x) a) 21 (64 + x) b) 23 h (Int32.ofNat x)) 0 44 (Int32.ofNat (h + 1))) 0 21 (Int32.ofNat (x + 1))
theorem gr_ne {M : MI} {x h q j : Nat} {k a b : Int32} (h1 : ¬ (q = 0 ∧ (j = 21 ∨ j = 44))) (h2 : ¬ (q = 23 ∧ j = h)) (h3 : ¬ (19 ≤ q ∧ q ≤ 21 ∧ j = 64 + x)) : gr M x h k a b q j = M q j := by
  unfold gr
  rw [s2x (by omega), s2x (by omega), s2x (by omega), s2x (by omega), s2x (by omega), s2x (by omega)]
theorem gr_19 {M : MI} {x h : Nat} {k a b : Int32} : gr M x h k a b 19 (64 + x) = k := by
  unfold gr
  rw [s2x (by omega), s2x (by omega), s2x (by omega), s2x (by omega), s2x (by omega), st2_at, if_pos rfl]
theorem gr_20 {M : MI} {x h : Nat} {k a b : Int32} : gr M x h k a b 20 (64 + x) = a := by
  unfold gr
  rw [s2x (by omega), s2x (by omega), s2x (by omega), s2x (by omega), st2_at, if_pos rfl]
theorem gr_21 {M : MI} {x h : Nat} {k a b : Int32} : gr M x h k a b 21 (64 + x) = b := by
  unfold gr
  rw [s2x (by omega), s2x (by omega), s2x (by omega), st2_at, if_pos rfl]
theorem gr_23 {M : MI} {x h : Nat} {k a b : Int32} : gr M x h k a b 23 h = Int32.ofNat x := by
  unfold gr
  rw [s2x (by omega), s2x (by omega), st2_at, if_pos rfl]
theorem gr_44 {M : MI} {x h : Nat} {k a b : Int32} : gr M x h k a b 0 44 = Int32.ofNat (h + 1) := by
  unfold gr
  rw [s2x (by omega), st2_at, if_pos rfl]
theorem gr_21a {M : MI} {x h : Nat} {k a b : Int32} : gr M x h k a b 0 21 = Int32.ofNat (x + 1) := by
  unfold gr
  rw [st2_at, if_pos rfl]
theorem m_grown {M : MI} {x h : Nat} {k a b : Int32} (h1 : M 0 21 = Int32.ofNat x) (hx : x < 64) (h2 : M 0 44 = Int32.ofNat h) (hh : h < 96) : f_X11_grown M k a b = some (gr M x h k a b) := by
  delta f_X11_grown gr
  simp only [lt]
  have e : (64 : Int32) + Int32.ofNat x = Int32.ofNat (64 + x) := n_add 64 x
  have g : inb (Int32.ofNat (64 + x)) 128 = true := (n_inb (by omega)).mpr (by omega)
  have gh : inb (Int32.ofNat h) 96 = true := (n_inb (by omega)).mpr hh
  have r1 : st2 M 19 (64 + x) k 0 21 = Int32.ofNat x := by rw [s2x (by omega)]; exact h1
  have r2 : st2 (st2 M 19 (64 + x) k) 20 (64 + x) a 0 21 = Int32.ofNat x := by rw [s2x (by omega)]; exact r1
  have r3 : st2 (st2 (st2 M 19 (64 + x) k) 20 (64 + x) a) 21 (64 + x) b 0 21 = Int32.ofNat x := by rw [s2x (by omega)]; exact r2
  have r4 : st2 (st2 (st2 M 19 (64 + x) k) 20 (64 + x) a) 21 (64 + x) b 0 44 = Int32.ofNat h := by rw [s2x (by omega), s2x (by omega), s2x (by omega)]; exact h2
  rw [h1, e, gd_t g, n_ix (by omega), r1, e, gd_t g, n_ix (by omega), r2, e, gd_t g, n_ix (by omega), r3, r4, gd_t gh, n_ix (by omega)]
  have r5 : ∀ v, st2 (st2 (st2 (st2 M 19 (64 + x) k) 20 (64 + x) a) 21 (64 + x) b) 23 h v 0 44 = Int32.ofNat h := fun v => by rw [s2x (by omega)]; exact r4
  have r6 : ∀ v w, st2 (st2 (st2 (st2 (st2 M 19 (64 + x) k) 20 (64 + x) a) 21 (64 + x) b) 23 h v) 0 44 w 0 21 = Int32.ofNat x := fun v w => by rw [s2x (by omega), s2x (by omega)]; exact r3
  rw [r5, n_t1, r6, n_t1]
theorem p_lad {I : MI} {pl x : Nat} {c : Int32} (h : I pl 5 = Int32.ofNat x) (hx : x < 64) : f_X4_add I pl c = some (st2 (st2 I (pl + 1) x c) pl 5 (Int32.ofNat (x + 1))) := by
  delta f_X4_add
  simp only [lt]
  rw [h, if_neg (fun e => by have := (n_le (a := 64) (by omega) (by omega)).mp e; omega), gd_t ((n_inb (by omega)).mpr hx), n_ix (by omega), show st2 I (pl + 1) x c pl 5 = Int32.ofNat x by rw [s2x (by omega)]; exact h, n_t1]
theorem m_drop {M : MI} {h : Nat} (h2 : M 0 44 = Int32.ofNat (h + 1)) (hh : h < 96) : f_X11_dropHeld M = some (M 23 h, st2 M 0 44 (Int32.ofNat h)) := by
  delta f_X11_dropHeld
  simp only [lt]
  have e : Int32.ofNat (h + 1) - 1 = Int32.ofNat h := by
    have := n_sub (a := h + 1) (b := 1) (by omega)
    rw [show h + 1 - 1 = h by omega] at this
    exact this
  rw [h2, e, show st2 M 0 44 (Int32.ofNat h) 0 44 = Int32.ofNat h by rw [st2_at, if_pos rfl], gd_t ((n_inb (by omega)).mpr hh), n_ix (by omega), s2x (by omega)]
def sC (it : Nat) (a1 : Int32) (r0 : MI → Option MI) (I2 : MI) : Option MI := if (I2 34 2) ≤ (0 : Int32) then some I2 else (gd (inb ((I2 34 2) - (1 : Int32)) 72) (bd1 (f_X6_rankOf ((I2 35 (ix ((I2 34 2) - (1 : Int32)))))) (fun x3 => if x3 < a1 then some I2 else (lt (st2 I2 34 2 ((I2 34 2) - (1 : Int32))) (fun I4 => gd (inb (I4 34 2) 72) (bd1 (f_X4_add I4 ((it + 11)) (((20000 : Int32) + (I4 35 (ix (I4 34 2)))))) (fun I5 => r0 I5)))))))
theorem lt_e {α β : Type} (e : α) (k : α → β) : lt e k = k e := rfl
theorem rel_s (it : Nat) (I : MI) (a1 : Int32) : f_X6_release it I a1 = fix1 (sC it a1) FU I := by
  delta f_X6_release
  refine (lt_e _ _).trans ?_
  refine congrArg (fun s => fix1 s FU I) ?_
  funext r0 I2
  unfold sC
  simp only [lt]
def sM (a1 : Int32) (r0 : MI → Option MI) (I2 : MI) : Option MI := if (I2 0 43) ≤ (0 : Int32) then some I2 else (gd (inb ((I2 0 43) - (1 : Int32)) 96) (bd1 (f_X11_standing ((I2 22 (ix ((I2 0 43) - (1 : Int32)))))) (fun x3 => if x3 < a1 then some I2 else (lt (st2 I2 0 43 ((I2 0 43) - (1 : Int32))) (fun I4 => gd (inb (I4 0 43) 96) (lt (I4 22 (ix (I4 0 43))) (fun x5 => lt (fun (x6 : Int32) (I7 : MI) => bd2 (f_X11_dropHeld I7) (fun x8 I9 => bd1 (f_X11_grown I9 x5 x8 x6) (fun I10 => r0 I10))) (fun j58 => if x5 = (2 : Int32) then (j58 (-1 : Int32) I4) else (bd2 (f_X11_dropHeld I4) (fun x11 I12 => j58 x11 I12))))))))))
theorem bind_s (I : MI) (a1 : Int32) : f_X11_bind I a1 = fix1 (sM a1) FU I := by
  delta f_X11_bind
  simp only [lt]
  refine congrArg (fun s => fix1 s FU I) ?_
  funext r0 I2
  unfold sM
  simp only [lt]
theorem n_m1 (l : Nat) : Int32.ofNat (l + 1) - 1 = Int32.ofNat l := by
  have := n_sub (a := l + 1) (b := 1) (by omega)
  rw [show l + 1 - 1 = l by omega] at this
  exact this
theorem n_pos {l : Nat} (h : l < 2147483647) : ¬ Int32.ofNat (l + 1) ≤ 0 := fun e => by
  have := (n_le (b := 0) (by omega) (by omega)).mp e
  omega
theorem sC_0 {it : Nat} {a : Int32} {r0 : MI → Option MI} {I : MI} (h : I 34 2 = Int32.ofNat 0) : sC it a r0 I = some I := by
  unfold sC
  rw [h, if_pos (by decide)]
theorem sC_1 {it l c k least : Nat} {r0 : MI → Option MI} {I : MI} (h : I 34 2 = Int32.ofNat (l + 1)) (hl : l < 72) (hc : I 35 l = Int32.ofNat c) (hk : f_X6_rankOf (Int32.ofNat c) = some (Int32.ofNat k)) (hlt : k < least) (hle : least ≤ 6) : sC it (Int32.ofNat least) r0 I = some I := by
  unfold sC
  rw [h, if_neg (n_pos (by omega)), n_m1, gd_t ((n_inb (by omega)).mpr hl), n_ix (by omega), hc, hk, bd1_s, if_pos ((n_lt (by omega) (by omega)).mpr hlt)]
theorem sC_2 {it l c k least x : Nat} {r0 : MI → Option MI} {I : MI} (hit : it = 2 ∨ it = 18) (h : I 34 2 = Int32.ofNat (l + 1)) (hl : l < 72) (hc : I 35 l = Int32.ofNat c) (hk : f_X6_rankOf (Int32.ofNat c) = some (Int32.ofNat k)) (hk6 : k ≤ 6) (hlt : least ≤ k) (hx : I (it + 11) 5 = Int32.ofNat x) (hx2 : x < 64) : sC it (Int32.ofNat least) r0 I = r0 (st2 (st2 (st2 I 34 2 (Int32.ofNat l)) (it + 12) x (Int32.ofNat (20000 + c))) (it + 11) 5 (Int32.ofNat (x + 1))) := by
  unfold sC
  simp only [lt]
  rw [h, if_neg (n_pos (by omega)), n_m1, gd_t ((n_inb (by omega)).mpr hl), n_ix (by omega), hc, hk, bd1_s, if_neg (fun e => by have := (n_lt (by omega) (by omega)).mp e; omega), st2_at, if_pos rfl, gd_t ((n_inb (by omega)).mpr hl), n_ix (by omega), s2x (by omega), hc, p_lad (x := x) (by rw [s2x (by omega)]; exact hx) hx2, bd1_s, show (20000 : Int32) + Int32.ofNat c = Int32.ofNat (20000 + c) from n_add 20000 c]
theorem sM_0 {a : Int32} {r0 : MI → Option MI} {I : MI} (h : I 0 43 = Int32.ofNat 0) : sM a r0 I = some I := by
  unfold sM
  rw [h, if_pos (by decide)]
theorem sM_1 {l c k least : Nat} {r0 : MI → Option MI} {I : MI} (h : I 0 43 = Int32.ofNat (l + 1)) (hl : l < 96) (hc : I 22 l = Int32.ofNat c) (hk : f_X11_standing (Int32.ofNat c) = some (Int32.ofNat k)) (hlt : k < least) (hle : least ≤ 6) : sM (Int32.ofNat least) r0 I = some I := by
  unfold sM
  rw [h, if_neg (n_pos (by omega)), n_m1, gd_t ((n_inb (by omega)).mpr hl), n_ix (by omega), hc, hk, bd1_s, if_pos ((n_lt (by omega) (by omega)).mpr hlt)]
theorem sM_2 {l k least x h : Nat} {r0 : MI → Option MI} {I : MI} (h0 : I 0 43 = Int32.ofNat (l + 1)) (hl : l < 96) (hc : I 22 l = Int32.ofNat 2) (hk : f_X11_standing (Int32.ofNat 2) = some (Int32.ofNat k)) (hk6 : k ≤ 6) (hlt : least ≤ k) (hx : I 0 21 = Int32.ofNat x) (hx2 : x < 64) (hh : I 0 44 = Int32.ofNat (h + 1)) (hh2 : h < 95) : sM (Int32.ofNat least) r0 I = r0 (gr (st2 (st2 I 0 43 (Int32.ofNat l)) 0 44 (Int32.ofNat h)) x h 2 (I 23 h) (-1)) := by
  unfold sM
  rw [h0, if_neg (n_pos (by omega)), n_m1, gd_t ((n_inb (by omega)).mpr hl), n_ix (by omega), hc, hk, bd1_s, if_neg (fun e => by have := (n_lt (by omega) (by omega)).mp e; omega)]
  simp only [lt]
  rw [st2_at, if_pos rfl, gd_t ((n_inb (by omega)).mpr hl), n_ix (by omega), s2x (by omega), hc, if_pos (by rfl), m_drop (h := h) (by rw [s2x (by omega)]; exact hh) (by omega), bd2_s, m_grown (x := x) (h := h) (by rw [s2x (by omega), s2x (by omega)]; exact hx) hx2 (by rw [st2_at, if_pos rfl]) (by omega), bd1_s, s2x (by omega)]
  rfl
theorem sM_3 {l w k least x h : Nat} {r0 : MI → Option MI} {I : MI} (h0 : I 0 43 = Int32.ofNat (l + 1)) (hl : l < 96) (hc : I 22 l = Int32.ofNat w) (hw : 3 ≤ w ∧ w ≤ 14) (hk : f_X11_standing (Int32.ofNat w) = some (Int32.ofNat k)) (hk6 : k ≤ 6) (hlt : least ≤ k) (hx : I 0 21 = Int32.ofNat x) (hx2 : x < 64) (hh : I 0 44 = Int32.ofNat (h + 2)) (hh2 : h < 94) : sM (Int32.ofNat least) r0 I = r0 (gr (st2 (st2 (st2 I 0 43 (Int32.ofNat l)) 0 44 (Int32.ofNat (h + 1))) 0 44 (Int32.ofNat h)) x h (Int32.ofNat w) (I 23 h) (I 23 (h + 1))) := by
  unfold sM
  rw [h0, if_neg (n_pos (by omega)), n_m1, gd_t ((n_inb (by omega)).mpr hl), n_ix (by omega), hc, hk, bd1_s, if_neg (fun e => by have := (n_lt (by omega) (by omega)).mp e; omega)]
  simp only [lt]
  rw [st2_at, if_pos rfl, gd_t ((n_inb (by omega)).mpr hl), n_ix (by omega), s2x (by omega), hc, if_neg (show ¬ Int32.ofNat w = 2 from fun e => by have := (n_eq (b := 2) (by omega) (by omega)).mp e; omega), m_drop (h := h + 1) (by rw [s2x (by omega)]; exact hh) (by omega), bd2_s, m_drop (h := h) (by rw [st2_at, if_pos rfl]) (by omega), bd2_s, m_grown (x := x) (h := h) (by rw [s2x (by omega), s2x (by omega), s2x (by omega)]; exact hx) hx2 (by rw [st2_at, if_pos rfl]) (by omega), bd1_s, s2x (by omega), s2x (by omega), s2x (by omega)]
