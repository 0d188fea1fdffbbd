/-! the laws of a book; the call law -/
theorem lv_in {C K P O : Nat → Int32} {nm nm' : Nat → Int64} (hn : ∀ z, z < 7 → nm z = nm' z) : ∀ n i st (v v' : Nat → Int64), Wf C K P O n i st → 0 < i + n → (∀ a, a ∈ st → v a = v' a ∧ a < i) → i + n < 2147483648 → lv K P O nm n i v = lv K P O nm' n i v' ∧ ((∀ z, z < 7 → Bd (nm z)) → (∀ a, a ∈ st → Bd (v a)) → evr K P O nm n i v ≠ none → Bd (lv K P O nm n i v))
  | 0, i, st, v, v', hw, hp, hs, _ => by
    have hst : st = [i - 1] := hw
    subst hst
    have h := hs (i - 1) List.mem_cons_self
    refine ⟨?_, fun _ hb _ => ?_⟩
    · unfold lv evr
      exact h.1
    · unfold lv evr
      exact hb (i - 1) List.mem_cons_self
  | n + 1, i, st, v, v', hw, hp, hs, hl => by
    have key : ∀ r, Wf C K P O n (i + 1) (i :: r) → (∀ a, a ∈ r → a ∈ st) → ev1 K P O nm v i = ev1 K P O nm' v' i → ((∀ z, z < 7 → Bd (nm z)) → (∀ a, a ∈ st → Bd (v a)) → ∀ x, ev1 K P O nm v i = some x → Bd x) → lv K P O nm (n + 1) i v = lv K P O nm' (n + 1) i v' ∧ ((∀ z, z < 7 → Bd (nm z)) → (∀ a, a ∈ st → Bd (v a)) → evr K P O nm (n + 1) i v ≠ none → Bd (lv K P O nm (n + 1) i v)) := fun r hwr hr he hbx => by
      cases hev : ev1 K P O nm v i with
      | none =>
        have hev' := he.symm.trans hev
        refine ⟨by rw [lv_n hev, lv_n hev'], fun _ _ hne => ?_⟩
        refine absurd ?_ hne
        show (match ev1 K P O nm v i with | none => none | some x => evr K P O nm n (i + 1) (fun j => if j = i then x else v j)) = none
        rw [hev]
      | some x =>
        have hev' := he.symm.trans hev
        have ih := lv_in hn n (i + 1) (i :: r) (fun j => if j = i then x else v j) (fun j => if j = i then x else v' j) hwr (by omega) (fun a ha => by
          rcases List.mem_cons.mp ha with rfl | ha
          · simp only [if_true]; exact ⟨trivial, by omega⟩
          · have := hs a (hr a ha)
            simp only [if_neg (show ¬ a = i by omega)]
            exact ⟨this.1, by omega⟩) (by omega)
        refine ⟨by rw [lv_s hev, lv_s hev']; exact ih.1, fun h1 h2 hne => ?_⟩
        rw [lv_s hev]
        refine ih.2 h1 (fun a ha => ?_) ?_
        · rcases List.mem_cons.mp ha with rfl | ha
          · simp only [if_true]; exact hbx h1 h2 x hev
          · have := hs a (hr a ha)
            simp only [if_neg (show ¬ a = i by omega)]
            exact h2 a (hr a ha)
        · intro h
          refine hne ?_
          show (match ev1 K P O nm v i with | none => none | some x => evr K P O nm n (i + 1) (fun j => if j = i then x else v j)) = none
          rw [hev]; exact h
    rcases hw with ⟨z, hz, ec, ek, ep, hw⟩ | ⟨z, hz, ec, ek, ep, hw⟩ | ⟨a, r, hst, ec, ek, ep, hw⟩ | ⟨a, b, r, k, hst, hk1, hk2, ec, ek, ep, eo, hw⟩
    · refine key st hw (fun _ h => h) ?_ (fun _ _ x hx => ?_)
      · unfold ev1
        rw [if_pos ek, if_pos ek]
      · unfold ev1 at hx
        rw [if_pos ek] at hx
        cases hx; exact bd32 _
    · refine key st hw (fun _ h => h) ?_ (fun h1 _ x hx => ?_)
      · unfold ev1
        rw [ek, if_neg (by decide), if_pos rfl, if_neg (by decide), if_pos rfl, ix_n ep (by omega), hn z hz]
      · unfold ev1 at hx
        rw [ek, if_neg (by decide), if_pos rfl, ix_n ep (by omega)] at hx
        cases hx; exact h1 z hz
    · subst hst
      refine key r hw (fun _ h => List.mem_cons_of_mem _ h) ?_ (fun h1 _ x hx => ?_)
      · have := hs a List.mem_cons_self
        have e1 : ∀ (N V : Nat → Int64), ev1 K P O N V i = some (if V a = 0 then 1 else 0) := fun N V => by
          unfold ev1
          rw [ek, if_neg (by decide), if_neg (by decide), if_pos rfl, ix_n ep (by omega)]
        rw [e1, e1, this.1]
      · unfold ev1 at hx
        rw [ek, if_neg (by decide), if_neg (by decide), if_pos rfl] at hx
        cases hx; exact Bd10
    · subst hst
      have hbb := hs b List.mem_cons_self
      have hba := hs a (List.mem_cons_of_mem _ List.mem_cons_self)
      have n0 : ¬ Int32.ofNat k = 0 := fun e => by
        have := (n_eq (b := 0) (by omega) (by omega)).mp e
        omega
      have n1 : ¬ Int32.ofNat k = 1 := fun e => by
        have := (n_eq (b := 1) (by omega) (by omega)).mp e
        omega
      have n2 : ¬ Int32.ofNat k = 2 := fun e => by
        have := (n_eq (b := 2) (by omega) (by omega)).mp e
        omega
      refine key r hw (fun _ h => List.mem_cons_of_mem _ (List.mem_cons_of_mem _ h)) ?_ (fun h1 h2 x hx => ?_)
      · unfold ev1
        rw [ek, if_neg n0, if_neg n1, if_neg n2, if_neg n0, if_neg n1, if_neg n2, ix_n ep (by omega), ix_n eo (by omega), hba.1, hbb.1]
      · unfold ev1 at hx
        rw [ek, if_neg n0, if_neg n1, if_neg n2, ix_n ep (by omega), ix_n eo (by omega)] at hx
        exact jn_bd (h2 a (List.mem_cons_of_mem _ List.mem_cons_self)) (h2 b List.mem_cons_self) hx
def LawR (bk : Nat) (I M : MI) : Prop := ∀ l, l < 3 → (I (bk + 13) l = 0 ∧ I (bk + 14) l = 0 ∧ M 16 l = 0) ∨ (M 16 l = 1 ∧ ∃ f n, f + n ≤ 64 ∧ 1 ≤ n ∧ I (bk + 13) l = Int32.ofNat f ∧ I (bk + 14) l = Int32.ofNat n ∧ M 17 l = Int32.ofNat f ∧ M 18 l = Int32.ofNat (f + n) ∧ Wf (I (bk + 12)) (M 19) (M 20) (M 21) n f [])
theorem LawR.fr {bk : Nat} {I I' M M' : MI} (L : LawR bk I M) (hI : ∀ p, bk ≤ p → p < bk + 16 → I' p = I p) (hM : ∀ p, 4 ≤ p → p < 22 → M' p = M p) : LawR bk I' M' := by
  unfold LawR at L ⊢
  rw [hI (bk + 12) (by omega) (by omega), hI (bk + 13) (by omega) (by omega), hI (bk + 14) (by omega) (by omega), hM 16 (by omega) (by omega), hM 17 (by omega) (by omega), hM 18 (by omega) (by omega), hM 19 (by omega) (by omega), hM 20 (by omega) (by omega), hM 21 (by omega) (by omega)]
  exact L
theorem LawR.st0 {bk : Nat} {I M : MI} (L : LawR bk I M) : LawR bk I (st2 M 0 2 0) :=
  L.fr (fun _ _ _ => rfl) (fun p _ _ => st0_row (by omega))
def lawv (bk : Nat) (I M : MI) (l : Nat) (nm : Nat → Int64) : Int64 := if M 16 l = 0 then -9223372036854775808 else lv (M 19) (M 20) (M 21) nm (ix (I (bk + 14) l)) (ix (I (bk + 13) l)) (fun _ => 0)
theorem lawv_fr {bk : Nat} {I I' M M' : MI} (hI : ∀ p, bk ≤ p → p < bk + 16 → I' p = I p) (hM : ∀ p, 4 ≤ p → p < 22 → M' p = M p) (l : Nat) (nm : Nat → Int64) : lawv bk I' M' l nm = lawv bk I M l nm := by
  unfold lawv
  rw [hI (bk + 13) (by omega) (by omega), hI (bk + 14) (by omega) (by omega), hM 16 (by omega) (by omega), hM 19 (by omega) (by omega), hM 20 (by omega) (by omega), hM 21 (by omega) (by omega)]
theorem p_law {bk : Nat} (hbk : bk < 20) {I M : MI} (L : LawR bk I M) {l : Nat} (hl : l < 3) {J : MJ} {nm : Nat → Int64} (hnm : ∀ z, z < 7 → nm z = J 63 z ∧ Bd (nm z)) : Ev (f_X4_value I J (bk + 11) (Int32.ofNat l) 63 7) (fun a => a.1 = lawv bk I M l nm ∧ ∀ p, p ≠ bk + 15 → a.2 p = J p) := by
  unfold lawv
  rcases L l hl with ⟨e1, e2, e3⟩ | ⟨e0, f, n, hf, hn, e1, e2, e3, e4, hw⟩
  · rw [if_pos e3]
    delta f_X4_value
    have gl : inb (Int32.ofNat l) 3 = true := (n_inb (by omega)).mpr hl
    refine Ev_gd gl (Ev_gd gl (Ev_ls (Ev_gd gl (Ev_ls ?_))))
    rw [n_ix (by omega), e1, e2]
    refine Ev_ls ?_
    refine Ev_fix3 (fun x6 x7 J8 => x6 = 0 ∧ x7 = 0 ∧ J8 = J) (fun _ _ _ => 0) ?_ FU _ _ _ (FU_lt (by decide)) ⟨rfl, rfl, rfl⟩
    rintro rec x6 x7 J8 ⟨rfl, rfl, rfl⟩ _
    rw [if_pos (by decide)]
    exact Ev_some ⟨rfl, fun _ _ => rfl⟩
  · rw [if_neg (by rw [e0]; decide), e1, e2, n_ix (by omega), n_ix (by omega)]
    exact p_value (pl := bk + 11) (by omega) hl hf hn e1 e2 hw hnm
theorem m_law {bk : Nat} {I M : MI} (L : LawR bk I M) {l : Nat} (hl : l < 3) (h16 : ¬ M 16 l = 0) {J : MJ} {nm : Nat → Int64} (hnm : ∀ z, z < 7 → nm z = J 24 z ∧ Bd (nm z)) : Ev (f_X11_lawOf M J (Int32.ofNat l)) (fun a => FE M a.2.1 ∧ (∀ p, p ≠ 25 → a.2.2 p = J p) ∧ ((a.2.1 0 51 = 1 ∧ lawv bk I M l nm = -9223372036854775808) ∨ (a.2.1 0 51 = 0 ∧ a.1 = lawv bk I M l nm ∧ Bd (lawv bk I M l nm)))) := by
  unfold lawv
  rcases L l hl with ⟨e1, e2, e3⟩ | ⟨e0, f, n, hf, hn, e1, e2, e3, e4, hw⟩
  · exact absurd e3 h16
  · rw [if_neg h16, e1, e2, n_ix (by omega), n_ix (by omega)]
    refine Ev_mono (m_lawOf hl hf hn e3 e4 hw (fun z hz => by rw [← (hnm z hz).1]; exact (hnm z hz).2)) ?_
    rintro a ⟨h1, h2, h3⟩
    refine ⟨h1, h2, ?_⟩
    have hin := lv_in (nm := J 24) (nm' := nm) (fun z hz => (hnm z hz).1.symm) n f [] (J 25) (fun _ => 0) hw (by omega) (fun a h => (by cases h)) (by omega)
    rw [← hin.1]
    unfold LO at h3
    have hbd := hin.2 (fun z hz => by rw [← (hnm z hz).1]; exact (hnm z hz).2) (fun a h => by cases h)
    cases he : evr (M 19) (M 20) (M 21) (J 24) n f (J 25) with
    | none =>
      rw [he] at h3
      refine Or.inl ⟨h3, ?_⟩
      unfold lv; rw [he]
    | some v =>
      rw [he] at h3
      have hlv : lv (M 19) (M 20) (M 21) (J 24) n f (J 25) = v (f + n - 1) := by unfold lv; rw [he]
      refine Or.inr ⟨h3.2, h3.1.trans hlv.symm, hbd (by rw [he]; exact fun h => by cases h)⟩
/-! names -/
def nmF (w e p b u g d : Int32) : Nat → Int64 := fun z => if z = 0 then w.toInt64 else if z = 1 then e.toInt64 else if z = 2 then p.toInt64 else if z = 3 then b.toInt64 else if z = 4 then u.toInt64 else if z = 5 then g.toInt64 else d.toInt64
theorem nmF_bd (w e p b u g d : Int32) (z : Nat) : Bd (nmF w e p b u g d z) := by
  unfold nmF
  split
  · exact bd32 _
  split
  · exact bd32 _
  split
  · exact bd32 _
  split
  · exact bd32 _
  split
  · exact bd32 _
  split
  · exact bd32 _
  · exact bd32 _
def wF (bk : Nat) (I : MI) (k : Nat) : Int32 := if I 62 2 = 0 then I (bk + 2) k else 0
def eF (bk : Nat) (I : MI) (h : Nat) : Int32 := if I 62 3 = 0 then I (bk + 6) h else 9
theorem p_worth {bk k : Nat} {I : MI} (hk : k < 6) : f_X1_worth I bk (Int32.ofNat k) = some (wF bk I k) := by
  delta f_X1_worth
  unfold wF
  simp only [lt]
  rw [gd_t ((n_inb (by omega)).mpr (by omega)), n_ix (by omega)]
  split <;> rfl
theorem p_eager {bk h : Nat} {I : MI} (hh : h < 6) : f_X1_eager I bk (Int32.ofNat h) = some (eF bk I h) := by
  delta f_X1_eager
  unfold eF
  simp only [lt]
  rw [gd_t ((n_inb (by omega)).mpr (by omega)), n_ix (by omega)]
  split <;> rfl
theorem ixc : ix (0 : Int32) = 0 ∧ ix (1 : Int32) = 1 ∧ ix (2 : Int32) = 2 ∧ ix (3 : Int32) = 3 ∧ ix (4 : Int32) = 4 ∧ ix (5 : Int32) = 5 ∧ ix (6 : Int32) = 6 := by decide
theorem p_name {bk pt h k : Nat} {I : MI} {J : MJ} (hh : h < 6) (hk : k < 6) : Ev (f_X1_name I J bk pt (Int32.ofNat h) (Int32.ofNat k)) (fun J' => (∀ p, p ≠ 63 → J' p = J p) ∧ ∀ z, z < 7 → nmF (wF bk I k) (eF bk I h) (I (pt + 1) h) (I (pt + 2) h) (I (pt + 3) h) (I (bk + 3) k) (I pt 8) z = J' 63 z) := by
  delta f_X1_name
  have g : inb (Int32.ofNat h) 6 = true := (n_inb (by omega)).mpr (by omega)
  have gk : inb (Int32.ofNat k) 6 = true := (n_inb (by omega)).mpr (by omega)
  rw [p_worth hk, bd1_s]
  refine Ev_gd rfl (Ev_ls ?_)
  rw [p_eager hh, bd1_s]
  refine Ev_gd rfl (Ev_ls (Ev_gd g (Ev_gd rfl (Ev_ls (Ev_gd g (Ev_gd rfl (Ev_ls (Ev_gd g (Ev_gd rfl (Ev_ls (Ev_gd gk (Ev_gd rfl (Ev_ls (Ev_gd rfl (Ev_ls ?_)))))))))))))))
  rw [n_ix (show h < 2147483648 by omega), n_ix (show k < 2147483648 by omega), ixc.1, ixc.2.1, ixc.2.2.1, ixc.2.2.2.1, ixc.2.2.2.2.1, ixc.2.2.2.2.2.1, ixc.2.2.2.2.2.2]
  refine Ev_some ⟨fun p hp => ?_, fun z hz => ?_⟩
  · rw [st2_ne hp, st2_ne hp, st2_ne hp, st2_ne hp, st2_ne hp, st2_ne hp, st2_ne hp]
  · have hc : z = 0 ∨ z = 1 ∨ z = 2 ∨ z = 3 ∨ z = 4 ∨ z = 5 ∨ z = 6 := by omega
    rw [st2_at, st2_at, st2_at, st2_at, st2_at, st2_at, st2_at]
    unfold nmF
    rcases hc with rfl | rfl | rfl | rfl | rfl | rfl | rfl <;> simp
def wM (M : MI) (k : Nat) : Int32 := if M 0 64 = 0 then M 6 k else 0
def eM (M : MI) (h : Nat) : Int32 := if M 0 65 = 0 then M 10 h else 9
theorem m_worthOf {k : Nat} {M : MI} (hk : k < 6) : f_X11_worthOf M (Int32.ofNat k) = some (wM M k) := by
  delta f_X11_worthOf
  unfold wM
  simp only [lt]
  rw [gd_t ((n_inb (by omega)).mpr (by omega)), n_ix (by omega)]
  split <;> rfl
theorem m_eagerOf {h : Nat} {M : MI} (hh : h < 6) : f_X11_eagerOf M (Int32.ofNat h) = some (eM M h) := by
  delta f_X11_eagerOf
  unfold eM
  simp only [lt]
  rw [gd_t ((n_inb (by omega)).mpr (by omega)), n_ix (by omega)]
  split <;> rfl
theorem n_6b {b h : Nat} : (6 : Int32) * Int32.ofNat b + Int32.ofNat h = Int32.ofNat (6 * b + h) := by
  rw [show (6 : Int32) = Int32.ofNat 6 from rfl, n_mul, n_add]
theorem m_lay {b h k : Nat} {M : MI} {J : MJ} (hb : b ≤ 1) (hh : h < 6) (hk : k < 6) : Ev (f_X11_lay M J (Int32.ofNat b) (Int32.ofNat h) (Int32.ofNat k)) (fun J' => (∀ p, p ≠ 24 → J' p = J p) ∧ ∀ z, z < 7 → nmF (wM M k) (eM M h) (M 26 (6 * b + h)) (M 27 (6 * b + h)) (M 28 (6 * b + h)) (M 7 k) (M 35 b) z = J' 24 z) := by
  delta f_X11_lay
  have g : inb (Int32.ofNat (6 * b + h)) 12 = true := (n_inb (by omega)).mpr (by omega)
  have gk : inb (Int32.ofNat k) 12 = true := (n_inb (by omega)).mpr (by omega)
  have gb : inb (Int32.ofNat b) 2 = true := (n_inb (by omega)).mpr (by omega)
  rw [n_6b, m_worthOf hk, bd1_s]
  refine Ev_gd rfl (Ev_ls ?_)
  rw [m_eagerOf hh, bd1_s]
  refine Ev_gd rfl (Ev_ls (Ev_gd g (Ev_gd rfl (Ev_ls (Ev_gd g (Ev_gd rfl (Ev_ls (Ev_gd g (Ev_gd rfl (Ev_ls (Ev_gd gk (Ev_gd rfl (Ev_ls (Ev_gd gb (Ev_gd rfl (Ev_ls ?_))))))))))))))))
  rw [n_ix (show 6 * b + h < 2147483648 by omega), n_ix (show k < 2147483648 by omega), n_ix (show b < 2147483648 by omega), ixc.1, ixc.2.1, ixc.2.2.1, ixc.2.2.2.1, ixc.2.2.2.2.1, ixc.2.2.2.2.2.1, ixc.2.2.2.2.2.2]
  refine Ev_some ⟨fun p hp => ?_, fun z hz => ?_⟩
  · rw [st2_ne hp, st2_ne hp, st2_ne hp, st2_ne hp, st2_ne hp, st2_ne hp, st2_ne hp]
  · have hc : z = 0 ∨ z = 1 ∨ z = 2 ∨ z = 3 ∨ z = 4 ∨ z = 5 ∨ z = 6 := by omega
    rw [st2_at, st2_at, st2_at, st2_at, st2_at, st2_at, st2_at]
    unfold nmF
    rcases hc with rfl | rfl | rfl | rfl | rfl | rfl | rfl <;> simp
