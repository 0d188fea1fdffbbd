/-! tried -/
def trC (bk : Nat) (J : MJ) (a1 a3 : Int32) : MI → Option (Int32 × MI × MJ) := fun (I6 : MI) => lt (fun (x7 : Bool) => gd (is01 (bi x7)) (lt (st2 I6 62 2 (bi x7)) (fun I8 => lt (fun (x9 : Bool) => gd (is01 (bi x9)) (lt (st2 I8 62 3 (bi x9)) (fun I10 => lt (fun (x11 : Bool) => gd (is01 (bi x11)) (lt (st2 I10 62 4 (bi x11)) (fun I12 => bd2 (f_X10_passTrial bk I12 J a3 (-1 : Int32)) (fun I13 J14 => bd1 (f_X10_sumOfRow I13 47 6) (fun x15 => bd1 (f_X10_sumOfRow I13 48 6) (fun x16 => some (x15 - x16, I13, J14))))))) (fun j151 => if a1 = (4 : Int32) then (j151 true) else (j151 false))))) (fun j134 => if a1 = (3 : Int32) then (j134 true) else (j134 false))))) (fun j117 => if a1 = (1 : Int32) then (j117 true) else (j117 false))
def trM (J : MJ) (a1 a3 : Int32) : MI → Option (Int32 × MI × MJ) := fun (I6 : MI) => lt (fun (x7 : Bool) => gd (is01 (bi x7)) (lt (st2 I6 0 64 (bi x7)) (fun I8 => lt (fun (x9 : Bool) => gd (is01 (bi x9)) (lt (st2 I8 0 65 (bi x9)) (fun I10 => lt (fun (x11 : Bool) => gd (is01 (bi x11)) (lt (st2 I10 0 66 (bi x11)) (fun I12 => bd2 (f_X11_goMany I12 J a3) (fun I13 J14 => bd1 (f_X11_plainTried I13) (fun I15 => fix2 (fun (r139 : Int32 → Int32 → Option (Int32 × MI × MJ)) (x16 : Int32) (x17 : Int32) => if (I15 0 13) ≤ x17 then (some (x16, I15, J14)) else (bd1 (f_X11_hasOf I15 (1 : Int32) x17) (fun x18 => lt (x16 + x18) (fun x19 => lt (x17 + (1 : Int32)) (fun x20 => r139 x19 x20))))) FU (0 : Int32) (0 : Int32)))))) (fun j121 => if a1 = (4 : Int32) then (j121 true) else (j121 false))))) (fun j107 => if a1 = (3 : Int32) then (j107 true) else (j107 false))))) (fun j93 => if a1 = (1 : Int32) then (j93 true) else (j93 false))
theorem ite_j {α : Type} {c : Prop} [Decidable c] {j : Bool → α} : (if c then j true else j false) = j (decide c) := by
  split
  · next h => rw [decide_eq_true h]
  · next h => rw [decide_eq_false h]
theorem Ev2_jbL {α β : Type} {c : Prop} [Decidable c] {F : Bool → Option α} {u : Option β} {Q : α → β → Prop} (h : Ev2 (F (decide c)) u Q) : Ev2 (lt F (fun j => if c then j true else j false)) u Q := by
  show Ev2 (if c then F true else F false) u Q
  rw [ite_j]; exact h
theorem Ev2_jbR {α β : Type} {c : Prop} [Decidable c] {F : Bool → Option β} {o : Option α} {Q : α → β → Prop} (h : Ev2 o (F (decide c)) Q) : Ev2 o (lt F (fun j => if c then j true else j false)) Q := by
  show Ev2 o (if c then F true else F false) Q
  rw [ite_j]; exact h
theorem is01_bi (b : Bool) : is01 (bi b) = true := by cases b <;> rfl
theorem PsR.fl {H : Nat → Bool} {bk pt b su dn dy nk nh : Nat} {I I' M M' : MI} {J2 : MJ} (P : PsR H bk I pt M J2 b su dn dy nk nh) (hpt : pt + 8 ≤ 62) (hI : ∀ p, p ≠ 62 → I' p = I p) (hM : ∀ p k, ¬ (p = 0 ∧ 63 ≤ k ∧ k < 67) → M' p k = M p k) (h1 : I' 62 1 = M' 0 63) (h2 : I' 62 2 = M' 0 64) (h3 : I' 62 3 = M' 0 65) (h4 : I' 62 4 = M' 0 66) : PsR H bk I' pt M' J2 b su dn dy nk nh := by
  have hr : ∀ p, p ≠ 0 → M' p = M p := fun p h => funext (fun k => hM p k (fun e => h e.1))
  refine ⟨?_, ?_, ?_, ?_, h1, h2, h3, h4, ?_, ?_⟩
  · rw [hr 26 (by omega), hr 27 (by omega), hr 28 (by omega), hr 29 (by omega), hr 30 (by omega), hr 34 (by omega), hr 33 (by omega)]
    exact P.tw.fr (fun p _ _ => hI p (by omega))
  · rw [hr 31 (by omega)]; exact P.s2
  · rw [hr 32 (by omega)]; exact P.d2
  · rw [hr 35 (by omega)]; exact P.y2
  · rw [hI pt (by omega)]; exact P.nu
  · rw [hI pt (by omega)]; exact P.n0
theorem PsR.dn {H : Nat → Bool} {bk pt b su dn dn' dy nk nh : Nat} {I I' M M' : MI} {J2 : MJ} (P : PsR H bk I pt M J2 b su dn dy nk nh) (hpt : pt + 8 ≤ 62) (hI : ∀ p, p ≠ pt + 6 → I' p = I p) (hM : ∀ p k, ¬ (p = 32 ∧ k = b) → M' p k = M p k) (hd : dn' < 64) (h32 : M' 32 b = Int32.ofNat dn') (hw : ∀ h, h < nh → H h = true → I' (pt + 6) h = if dn'.testBit h then 1 else 0) (hz : ∀ h, h < 6 → is01 (I' (pt + 6) h) = true) (h0 : ∀ h, nh ≤ h → h < 6 → I' (pt + 6) h = 0) : PsR H bk I' pt M' J2 b su dn' dy nk nh := by
  have hr : ∀ p, p ≠ 32 → M' p = M p := fun p h => funext (fun k => hM p k (fun e => h e.1))
  have T := P.tw
  refine ⟨?_, ?_, h32, ?_, ?_, ?_, ?_, ?_, ?_, ?_⟩
  · rw [hr 26 (by omega), hr 27 (by omega), hr 28 (by omega), hr 29 (by omega), hr 30 (by omega), hr 34 (by omega), hr 33 (by omega)]
    refine ⟨?_, ?_, ?_, ?_, ?_, hw, ?_, hz, fun h a b => ?_, T.sl, T.sz, hd, ?_, ?_, ?_, ?_, T.sx, T.pb, T.bb, T.ub⟩
    · rw [hI _ (by omega)]; exact T.pu
    · rw [hI _ (by omega)]; exact T.bi
    · rw [hI _ (by omega)]; exact T.us
    · rw [hI _ (by omega)]; exact T.lo
    · rw [hI _ (by omega)]; exact T.so
    · rw [hI _ (by omega)]; exact T.z5
    · obtain ⟨z1, z2, z3, z4, z5, _⟩ := T.ze h a b
      rw [hI (pt + 1) (by omega), hI (pt + 2) (by omega), hI (pt + 3) (by omega), hI (pt + 4) (by omega), hI (pt + 5) (by omega)]
      exact ⟨z1, z2, z3, z4, z5, h0 h a b⟩
    · rw [hI _ (by omega)]; exact T.ti
    · rw [hI _ (by omega)]; exact T.du
    · rw [hI _ (by omega)]; exact T.y1
    · rw [hI _ (by omega)]; exact T.se
  · rw [hr 31 (by omega)]; exact P.s2
  · rw [hr 35 (by omega)]; exact P.y2
  · rw [hI 62 (by omega), hr 0 (by omega)]; exact P.f1
  · rw [hI 62 (by omega), hr 0 (by omega)]; exact P.f2
  · rw [hI 62 (by omega), hr 0 (by omega)]; exact P.f3
  · rw [hI 62 (by omega), hr 0 (by omega)]; exact P.f4
  · rw [hI pt (by omega)]; exact P.nu
  · rw [hI pt (by omega)]; exact P.n0
theorem sm_sub {f g : Nat → Int32} : ∀ n, sm f n - sm g n = sm (fun k => f k - g k) n
  | 0 => Int32.sub_self 0
  | n + 1 => by
    show (sm f n + f n) - (sm g n + g n) = sm (fun k => f k - g k) n + (f n - g n)
    rw [← sm_sub n]
    have e : ∀ a b c d : Int32, (a + b) - (c + d) = (a - c) + (b - d) := fun a b c d => by
      rw [Int32.sub_eq_add_neg, Int32.sub_eq_add_neg, Int32.sub_eq_add_neg, Int32.neg_add, Int32.add_assoc, Int32.add_assoc]
      congr 1
      rw [Int32.sub_eq_add_neg, ← Int32.add_assoc, ← Int32.add_assoc, Int32.add_comm b (-c)]
    exact e _ _ _ _
theorem c_trTail {bk nk nh nw kn nd su dn dy n : Nat} {I I6 M0 M6 : MI} (J : MJ) {J2 : MJ} {a1 : Int32} (hbk : bk = 2 ∨ bk = 18) (B : BookR bk I6 M6 nk nh nw kn) (D : DayR bk I6 M6 nk nd) (L : LawR bk I6 M6) (P : PsR (fun _ => true) bk I6 46 M6 J2 1 su dn dy nk nh) (hdy : dy ≤ 9000) (hn : n ≤ 200) (F : FrT I I6 M0 M6 J2 J2) (z : I6 62 1 = 0) : Ev2 (trC bk J a1 (Int32.ofNat n) I6) (trM J2 a1 (Int32.ofNat n) M6) (fun x y => x.1 = y.1 ∧ FrT I x.2.1 M0 y.2.1 J2 y.2.2) := by
  have lh := B.lh
  unfold trC trM
  refine Ev2_jbL (Ev2_jbR ?_)
  refine Ev2_gdL (is01_bi _) (Ev2_gdR (is01_bi _) (Ev2_lsL (Ev2_lsR ?_)))
  refine Ev2_jbL (Ev2_jbR ?_)
  refine Ev2_gdL (is01_bi _) (Ev2_gdR (is01_bi _) (Ev2_lsL (Ev2_lsR ?_)))
  refine Ev2_jbL (Ev2_jbR ?_)
  refine Ev2_gdL (is01_bi _) (Ev2_gdR (is01_bi _) (Ev2_lsL (Ev2_lsR ?_)))
  obtain ⟨b1, hb1⟩ : ∃ b, b = bi (decide (a1 = 1)) := ⟨_, rfl⟩
  obtain ⟨b3, hb3⟩ : ∃ b, b = bi (decide (a1 = 3)) := ⟨_, rfl⟩
  obtain ⟨b4, hb4⟩ : ∃ b, b = bi (decide (a1 = 4)) := ⟨_, rfl⟩
  rw [← hb1, ← hb3, ← hb4]
  obtain ⟨IA, hIA⟩ : ∃ A, A = st2 (st2 (st2 I6 62 2 b1) 62 3 b3) 62 4 b4 := ⟨_, rfl⟩
  obtain ⟨MA, hMA⟩ : ∃ A, A = st2 (st2 (st2 M6 0 64 b1) 0 65 b3) 0 66 b4 := ⟨_, rfl⟩
  rw [← hIA, ← hMA]
  have hI : ∀ p, p ≠ 62 → IA p = I6 p := fun p h => by rw [hIA, st2_ne h, st2_ne h, st2_ne h]
  have hM : ∀ p k, ¬ (p = 0 ∧ 63 ≤ k ∧ k < 67) → MA p k = M6 p k := fun p k h => by rw [hMA, s2x (by omega), s2x (by omega), s2x (by omega)]
  have e1 : IA 62 1 = I6 62 1 := by rw [hIA, s2x (by omega), s2x (by omega), s2x (by omega)]
  have PA : PsR (fun _ => true) bk IA 46 MA J2 1 su dn dy nk nh := by
    refine P.fl (by omega) hI hM ?_ ?_ ?_ ?_
    · rw [e1, hMA, s2x (by omega), s2x (by omega), s2x (by omega)]; exact P.f1
    · rw [hIA, s2x (by omega), s2x (by omega), st2_at, if_pos rfl, hMA, s2x (by omega), s2x (by omega), st2_at, if_pos rfl]
    · rw [hIA, s2x (by omega), st2_at, if_pos rfl, hMA, s2x (by omega), st2_at, if_pos rfl]
    · rw [hIA, st2_at, if_pos rfl, hMA, st2_at, if_pos rfl]
  have FA : FrT I IA M0 MA J2 J2 := F.tr ⟨fun p _ b => hI p b, fun p k a _ _ => hM p k (by omega), fun _ _ _ _ => rfl⟩
  have hbm : ∀ p, 4 ≤ p → p < 22 → MA p = M6 p := fun p _ _ => funext (fun k => hM p k (by omega))
  have BA := B.fr (fun p _ _ => hI p (by omega)) hbm (fun k _ _ => hM 0 k (by omega))
  have DA := D.fr (fun p _ _ => hI p (by omega)) hbm (fun k _ _ => hM 0 k (by omega))
  have LA := L.fr (fun p _ _ => hI p (by omega)) hbm
  obtain ⟨⟨I9, J7⟩, ⟨M9, J8⟩, e3, e4, ⟨su', P9, _⟩, F9⟩ := c_many (J := J) hbk BA DA LA PA hdy hn (fun h _ => meant_all h)
  dsimp only at P9 F9
  refine Ev2_b2L e3 (Ev2_b2R e4 ?_)
  have hts := tr_sum lh P9 (fun _ => rfl)
  have F9' := F9.ft (e1.trans z)
  refine Ev2_L p_sumOfRow (Ev2_L p_sumOfRow ?_)
  rw [m_plainTried]
  refine Ev2_R rfl ?_
  obtain ⟨MB, hMB⟩ : ∃ A, A = st2 (st2 (st2 (st2 M9 0 63 0) 0 64 0) 0 65 0) 0 66 0 := ⟨_, rfl⟩
  rw [← hMB]
  have hMBf : ∀ p k, ¬ (p = 0 ∧ 63 ≤ k ∧ k < 67) → MB p k = M9 p k := fun p k h => by rw [hMB, s2x (by omega), s2x (by omega), s2x (by omega), s2x (by omega)]
  have FB : FrT I I9 M0 MB J2 J8 := (FA.tr F9').tr ⟨fun _ _ _ => rfl, fun p k a _ _ => hMBf p k (by omega), fun _ _ _ _ => rfl⟩
  have h13 : MB 0 13 = Int32.ofNat nh := by rw [hMBf 0 13 (by omega), F9.bk0 13 (by omega) (by omega)]; exact BA.h2
  have hval : fix2 (fun (r139 : Int32 → Int32 → Option (Int32 × MI × MJ)) (x16 : Int32) (x17 : Int32) => if (MB 0 13) ≤ x17 then (some (x16, MB, J8)) else (bd1 (f_X11_hasOf MB (1 : Int32) x17) (fun x18 => lt (x16 + x18) (fun x19 => lt (x17 + (1 : Int32)) (fun x20 => r139 x19 x20))))) FU (0 : Int32) (0 : Int32) = some (sm (fun h => M9 26 (6 * 1 + h) - M9 27 (6 * 1 + h)) nh, MB, J8) := by
    apply Ev_eq
    refine Ev_fix2 (fun x1 x2 => ∃ i, i ≤ nh ∧ x2 = Int32.ofNat i ∧ x1 = sm (fun h => M9 26 (6 * 1 + h) - M9 27 (6 * 1 + h)) i) (fun _ x2 => (8 - x2.toInt).toNat) ?_ FU 0 0 (FU_lt (by decide)) ⟨0, by omega, rfl, rfl⟩
    rintro rec x1 x2 ⟨i, hi, rfl, rfl⟩ hrec
    rw [h13]
    refine Ev_if (fun c => ?_) (fun c => ?_)
    · have := (n_le (by omega) (by omega)).mp c
      have : i = nh := by omega
      subst this
      exact Ev_some rfl
    · have hlt : i < nh := Nat.lt_of_not_le (fun h => c ((n_le (by omega) (by omega)).mpr h))
      have hm : f_X11_hasOf MB 1 (Int32.ofNat i) = some (M9 26 (6 * 1 + i) - M9 27 (6 * 1 + i)) := by
        delta f_X11_hasOf
        rw [show (1 : Int32) = Int32.ofNat 1 from rfl, n_6b, gd_t ((n_inb (by omega)).mpr (by omega)), gd_t ((n_inb (by omega)).mpr (by omega)), n_ix (by omega), hMBf 26 _ (by omega), hMBf 27 _ (by omega)]
      rw [hm, bd1_s]
      refine Ev_ls (Ev_ls ?_)
      rw [n_t1]
      refine hrec _ _ ⟨i + 1, by omega, rfl, rfl⟩ ?_
      rw [n_toInt (by omega), n_toInt (by omega)]; omega
  refine ⟨_, _, rfl, hval, ?_, FB⟩
  show sm (I9 47) 6 - sm (I9 48) 6 = _
  rw [hts.1, hts.2.1, sm_sub]
theorem c_tried {bk nk nh nw kn nd su dn dy : Nat} {I I2 : MI} (J : MJ) {J2 : MJ} (hbk : bk = 2 ∨ bk = 18) (B : BookR bk I I2 nk nh nw kn) (D : DayR bk I I2 nk nd) (L : LawR bk I I2) (N : NowR I I2 J2 su dn dy nk nh) (a b c : Int32) : ∃ v I' J' M' J2', f_X10_tried bk I J a b c = some (v, I', J') ∧ f_X11_tried I2 J2 a b c = some (v, M', J2') ∧ FrT I I' I2 M' J2 J2' := by
  have lh := B.lh
  have key : Ev2 (f_X10_tried bk I J a b c) (f_X11_tried I2 J2 a b c) (fun x y => x.1 = y.1 ∧ FrT I x.2.1 I2 y.2.1 J2 y.2.2) := by
    have hno : ∀ v : Int32, Ev2 (some (v, I, J)) (some (v, st2 I2 0 2 0, J2)) (fun x y => x.1 = y.1 ∧ FrT I x.2.1 I2 y.2.1 J2 y.2.2) := fun v => Ev2_some ⟨rfl, FrT.r0 I I2 J2⟩
    obtain ⟨G, hG⟩ : ∃ G, G = (if a = 2 then ok6 nh b else decide (b = 0)) := ⟨_, rfl⟩
    have hfit : ∀ (K : Bool → Option (Int32 × MI × MJ)) (u : Option (Int32 × MI × MJ)) (Q : Int32 × MI × MJ → Int32 × MI × MJ → Prop), Ev2 (K G) u Q → Ev2 (lt K (fun j22 => if a = (2 : Int32) then (bd1 (f_X10_isHouse bk I b) (fun x22 => j22 x22)) else (if b = (0 : Int32) then (j22 true) else (j22 false)))) u Q := fun K u Q h => by
      refine Ev2_lsL ?_
      refine Ev2_ifL (fun h2 => ?_) (fun h2 => ?_)
      · rw [if_pos h2] at hG
        refine Ev2_L (p_isHouse B b) ?_
        rw [← hG]; exact h
      · rw [if_neg h2] at hG
        refine Ev2_ifL (fun h0 => ?_) (fun h0 => ?_)
        · rw [decide_eq_true h0] at hG; rw [hG] at h; exact h
        · rw [decide_eq_false h0] at hG; rw [hG] at h; exact h
    have hfitM : ∀ (T E : Option (Int32 × MI × MJ)) (o : Option (Int32 × MI × MJ)) (Q : Int32 × MI × MJ → Int32 × MI × MJ → Prop), (G = true → Ev2 o T Q) → (G = false → Ev2 o E Q) → Ev2 o (lt T (fun j49 => if a = (2 : Int32) then (bd1 (f_X11_isHouse (st2 I2 0 2 0) b) (fun x23 => if x23 = true then j49 else E)) else (if b = (0 : Int32) then j49 else E))) Q := fun T E o Q h1 h2 => by
      refine Ev2_lsR ?_
      refine Ev2_ifR (fun c2 => ?_) (fun c2 => ?_)
      · rw [if_pos c2] at hG
        refine Ev2_R (m_isHouse B b) ?_
        rw [← hG]
        exact Ev2_ifR (fun c => h1 c) (fun c => h2 (by cases G; rfl; exact absurd rfl c))
      · rw [if_neg c2] at hG
        refine Ev2_ifR (fun h0 => ?_) (fun h0 => ?_)
        · rw [decide_eq_true h0] at hG; exact h1 hG
        · rw [decide_eq_false h0] at hG; exact h2 hG
    delta f_X10_tried f_X11_tried
    refine hfit _ _ _ (Ev2_lsR ?_)
    refine Ev2_lsL (Ev2_L p_isWithin (Ev2_R m_isIn (Ev2_lsL (Ev2_lsR ?_))))
    cases ha : decide ((0 : Int32).toInt ≤ a.toInt ∧ a.toInt ≤ (4 : Int32).toInt) with
    | false => exact hno _
    | true =>
      rw [if_pos rfl, if_pos rfl]
      refine Ev2_R m_isIn ?_
      cases hg : G with
      | false =>
        rw [if_pos (by rfl)]
        cases hc : decide ((0 : Int32).toInt ≤ c.toInt ∧ c.toInt ≤ (200 : Int32).toInt) with
        | false => exact hno _
        | true =>
          rw [if_pos rfl]
          exact hfitM _ _ _ _ (fun h => by rw [hg] at h; cases h) (fun _ => hno _)
      | true =>
        rw [if_neg (by decide)]
        refine Ev2_L p_isWithin ?_
        cases hc : decide ((0 : Int32).toInt ≤ c.toInt ∧ c.toInt ≤ (200 : Int32).toInt) with
        | false => exact hno _
        | true =>
          obtain ⟨n, hn, rfl⟩ := in_t (n := 200) (by omega) hc
          rw [if_pos rfl, if_pos rfl]
          refine hfitM _ _ _ _ (fun _ => ?_) (fun h => by rw [hg] at h; cases h)
          obtain ⟨I3, M3, e1, e2, P3, F3, z3⟩ := c_reh (H := fun _ => true) (bk := bk) lh (N.st0 lh)
          refine Ev2_L e1 (Ev2_R e2 ?_)
          obtain ⟨B3, D3, L3⟩ := F3.of hbk B.st0 D.st0 L.st0
          have F3' : FrT I I3 I2 M3 J2 J2 := FrT.st0 F3
          -- the houses that draw the blind
          obtain ⟨S, hS⟩ : ∃ S : Nat → Bool, ∀ h, S h = (decide (a = 0) || (decide (a = 2) && decide (Int32.ofNat h = b))) := ⟨_, fun _ => rfl⟩
          have hend : ∀ o u I6 M6 dn', o = trC bk J a (Int32.ofNat n) I6 → u = trM J2 a (Int32.ofNat n) M6 → dn' < 64 → (∀ p, p ≠ 52 → I6 p = I3 p) → (∀ h, h < 6 → I6 52 h = if (decide (h < nh) && S h) then 1 else I3 52 h) → (∀ p k, ¬ (p = 32 ∧ k = 1) → M6 p k = M3 p k) → M6 32 1 = Int32.ofNat dn' → (∀ h, h < nh → dn'.testBit h = (S h || dn.testBit h)) → Ev2 o u (fun x y => x.1 = y.1 ∧ FrT I x.2.1 I2 y.2.1 J2 y.2.2) := fun o u I6 M6 dn' ho hu hd hI hI2 hM hM2 hbit => by
            rw [ho, hu]
            have P6 : PsR (fun _ => true) bk I6 46 M6 J2 1 su dn' dy nk nh := by
              refine P3.dn (by omega) hI hM hd hM2 (fun h a' _ => ?_) (fun h a' => ?_) (fun h a' b' => ?_)
              · rw [hI2 h (by omega), decide_eq_true a', Bool.true_and, hbit h a']
                cases hs : S h with
                | true => rfl
                | false =>
                  rw [if_neg (by decide), Bool.false_or]
                  exact P3.tw.dw h a' rfl
              · rw [hI2 h a']
                split
                · rfl
                · exact P3.tw.z6 h a'
              · rw [hI2 h b', decide_eq_false (by omega), Bool.false_and, if_neg (by decide)]
                exact (P3.tw.ze h a' b').2.2.2.2.2
            have FF : FrT I I6 I2 M6 J2 J2 := F3'.tr ⟨fun p a' _ => hI p (by omega), fun p k _ _ d => hM p k (by omega), fun _ _ _ _ => rfl⟩
            have hbm : ∀ p, 4 ≤ p → p < 22 → M6 p = M3 p := fun p _ _ => funext (fun k => hM p k (by omega))
            have B6 := B3.fr (fun p _ _ => hI p (by omega)) hbm (fun k _ _ => hM 0 k (by omega))
            have D6 := D3.fr (fun p _ _ => hI p (by omega)) hbm (fun k _ _ => hM 0 k (by omega))
            have L6 := L3.fr (fun p _ _ => hI p (by omega)) hbm
            exact c_trTail J hbk B6 D6 L6 P6 N.yl hn FF (by rw [hI 62 (by omega)]; exact z3)
          -- the component's loop
          have hloop : ∀ (T : MI → Option (Int32 × MI × MJ)) (R : Option (Int32 × MI × MJ)), (∀ I6, (∀ p, p ≠ 52 → I6 p = I3 p) → (∀ h, h < 6 → I6 52 h = if (decide (h < nh) && S h) then 1 else I3 52 h) → Ev2 (T I6) R (fun x y => x.1 = y.1 ∧ FrT I x.2.1 I2 y.2.1 J2 y.2.2)) → Ev2 (lt T (fun j103 => fix2 (fun (r59 : Int32 → MI → Option (Int32 × MI × MJ)) (x17 : Int32) (I18 : MI) => if (I18 bk 12) ≤ x17 then (j103 I18) else (lt (fun (I19 : MI) => lt (x17 + (1 : Int32)) (fun x20 => r59 x20 I19)) (fun j97 => lt (gd (is01 (1 : Int32)) (gd (inb x17 6) (lt (st2 I18 52 (ix x17) (1 : Int32)) (fun I21 => j97 I21)))) (fun j86 => if a = (0 : Int32) then j86 else (if a = (2 : Int32) then (if x17 = b then j86 else (j97 I18)) else (j97 I18)))))) FU (0 : Int32) I3)) R (fun x y => x.1 = y.1 ∧ FrT I x.2.1 I2 y.2.1 J2 y.2.2) := fun T R hR => by
            refine Ev2_lsL ?_
            refine Ev2_ll.mp ?_
            refine Ev_fix2 (fun x17 I18 => ∃ i, i ≤ nh ∧ x17 = Int32.ofNat i ∧ (∀ p, p ≠ 52 → I18 p = I3 p) ∧ (∀ h, h < 6 → I18 52 h = if (decide (h < i) && S h) then 1 else I3 52 h)) (fun x17 _ => (80 - x17.toInt).toNat) ?_ FU _ _ (FU_lt (by decide)) ⟨0, by omega, rfl, fun _ _ => rfl, fun h _ => by rw [decide_eq_false (by omega), Bool.false_and]; rfl⟩
            rintro rec x17 I18 ⟨i, hi, rfl, g1, g2⟩ hrec
            have h12 : I18 bk 12 = Int32.ofNat nh := by rw [g1 bk (by omega)]; exact B3.h1
            rw [h12]
            refine Ev_if (fun cc => ?_) (fun cc => ?_)
            · have := (n_le (by omega) (by omega)).mp cc
              have : i = nh := by omega
              subst this
              exact Ev2_ll.mpr (hR I18 g1 g2)
            · have hlt : i < nh := Nat.lt_of_not_le (fun h => cc ((n_le (by omega) (by omega)).mpr h))
              have hset : S i = true → Ev (gd (is01 (1 : Int32)) (gd (inb (Int32.ofNat i) 6) (lt (st2 I18 52 (ix (Int32.ofNat i)) (1 : Int32)) (fun I21 => lt (Int32.ofNat i + 1) (fun x20 => rec x20 I21))))) (fun a => ∃ b, R = some b ∧ a.1 = b.1 ∧ FrT I a.2.1 I2 b.2.1 J2 b.2.2) := fun hs => by
                refine Ev_gd rfl (Ev_gd ((n_inb (by omega)).mpr (by omega)) (Ev_ls (Ev_ls ?_)))
                rw [n_ix (by omega), n_t1]
                refine hrec _ _ ⟨i + 1, by omega, rfl, fun p hp => (st2_ne hp).trans (g1 p hp), fun h hh => ?_⟩ ?_
                · rw [st2_at]
                  by_cases e : h = i
                  · rw [if_pos e, e, hs, decide_eq_true (by omega)]; rfl
                  · rw [if_neg e, g2 h hh]
                    have : decide (h < i) = decide (h < i + 1) := decide_eq_decide.mpr (by omega)
                    rw [this]
                · rw [n_toInt (by omega), n_toInt (by omega)]; omega
              have hnot : S i = false → Ev (lt (Int32.ofNat i + 1) (fun x20 => rec x20 I18)) (fun a => ∃ b, R = some b ∧ a.1 = b.1 ∧ FrT I a.2.1 I2 b.2.1 J2 b.2.2) := fun hs => by
                refine Ev_ls ?_
                rw [n_t1]
                refine hrec _ _ ⟨i + 1, by omega, rfl, g1, fun h hh => ?_⟩ ?_
                · rw [g2 h hh]
                  by_cases e : h = i
                  · rw [e, hs, Bool.and_false, Bool.and_false]
                  · have : decide (h < i) = decide (h < i + 1) := decide_eq_decide.mpr (by omega)
                    rw [this]
                · rw [n_toInt (by omega), n_toInt (by omega)]; omega
              have hSi := hS i
              refine Ev_ls (Ev_ls ?_)
              refine Ev_if (fun c0 => ?_) (fun c0 => ?_)
              · rw [decide_eq_true c0, Bool.true_or] at hSi
                exact hset hSi
              · rw [decide_eq_false c0, Bool.false_or] at hSi
                refine Ev_if (fun c2 => ?_) (fun c2 => ?_)
                · rw [decide_eq_true c2, Bool.true_and] at hSi
                  refine Ev_if (fun c3 => ?_) (fun c3 => ?_)
                  · rw [decide_eq_true c3] at hSi; exact hset hSi
                  · rw [decide_eq_false c3] at hSi; exact hnot hSi
                · rw [decide_eq_false c2, Bool.false_and] at hSi
                  exact hnot hSi
          refine hloop _ _ (fun I6 hI6 hI62 => ?_)
          refine Ev2_lsR ?_
          have i1 : ix (1 : Int32) = 1 := ixc.2.1
          have ne02 : a = 0 → ¬ a = 2 := fun e => by rw [e]; decide
          by_cases a0 : a = 0
          · rw [if_pos a0, i1]
            refine Ev2_gdR rfl (Ev2_lsR (Ev2_lsR ?_))
            rw [if_neg (ne02 a0)]
            refine hend _ _ I6 (st2 M3 32 1 63) 63 (by unfold trC; rfl) (by unfold trM; rfl) (by decide) hI6 hI62 (fun p k h => s2x h) (by rw [st2_at, if_pos rfl]; rfl) (fun h hh => ?_)
            rw [hS h, decide_eq_true a0, Bool.true_or, Bool.true_or]
            have h63 : ∀ h : Fin 6, Nat.testBit 63 h.1 = true := by decide
            exact h63 ⟨h, by omega⟩
          · rw [if_neg a0]
            refine Ev2_lsR ?_
            by_cases a2 : a = 2
            · rw [if_pos a2, i1]
              rw [if_pos a2] at hG
              have hob : ok6 nh b = true := hG.symm.trans hg
              obtain ⟨h0, hh0, rfl⟩ := ok6_t hob
              have ho := or_p ⟨dn, P3.tw.dl⟩ ⟨h0, by omega⟩
              simp only at ho
              refine Ev2_gdR rfl (Ev2_gdR rfl (Ev2_lsR ?_))
              rw [P3.d2, ho.1]
              refine hend _ _ I6 (st2 M3 32 1 (Int32.ofNat (dn ||| 2 ^ h0))) (dn ||| 2 ^ h0) (by unfold trC; rfl) (by unfold trM; rfl) ho.2.1 hI6 hI62 (fun p k h => s2x h) (by rw [st2_at, if_pos rfl]) (fun h hh => ?_)
              have ee : decide (Int32.ofNat h = Int32.ofNat h0) = decide (h = h0) := decide_eq_decide.mpr (n_eq (by omega) (by omega))
              have eo : (dn ||| 2 ^ h0).testBit h = (dn.testBit h || decide (h = h0)) := ho.2.2 ⟨h, by omega⟩
              rw [hS h, decide_eq_false a0, Bool.false_or, decide_eq_true a2, Bool.true_and, ee, eo]
              exact Bool.or_comm _ _
            · rw [if_neg a2]
              refine hend _ _ I6 M3 dn (by unfold trC; rfl) (by unfold trM; rfl) P3.tw.dl hI6 hI62 (fun _ _ _ => rfl) P3.d2 (fun h hh => ?_)
              rw [hS h, decide_eq_false a0, Bool.false_or, decide_eq_false a2, Bool.false_and, Bool.false_or]
  obtain ⟨⟨v, I', J'⟩, ⟨w, M', J2'⟩, e, e', q1, q2⟩ := key
  cases q1
  exact ⟨v, I', J', M', J2', e, e', q2⟩
