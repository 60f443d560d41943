/-! frames by a set of cells; divided -/
def fg (S : Nat → Nat → Prop) (h h' : jHp) : Prop := sk h h' ∧ ∀ p k, ¬ S p k → gI h' p k = gI h p k
theorem fg.rf {S : Nat → Nat → Prop} {h : jHp} : fg S h h := ⟨sk.rf, fun _ _ _ => rfl⟩
theorem fg.tr {S : Nat → Nat → Prop} {a b c : jHp} (h1 : fg S a b) (h2 : fg S b c) : fg S a c := ⟨h1.1.tr h2.1, fun p k q => (h2.2 p k q).trans (h1.2 p k q)⟩
theorem fg.mo {S S' : Nat → Nat → Prop} {h h' : jHp} (f : fg S h h') (s : ∀ p k, S p k → S' p k) : fg S' h h' := ⟨f.1, fun p k q => f.2 p k (fun z => q (s p k z))⟩
theorem fg.wr {S : Nat → Nat → Prop} {h h' : jHp} {p k : Nat} {v : Int32} (f : fg S h h') (s : S p k) : fg S h (sI h' p k v) :=
  ⟨f.1.sI, fun q j c => by rw [gI_sI, if_neg (fun z => c (by rw [z.1, z.2]; exact s))]; exact f.2 q j c⟩
theorem fg.eq {S : Nat → Nat → Prop} {h h' : jHp} {p k : Nat} (f : fg S h h') (s : ¬ S p k) : mI h' p k = mI h p k := by
  unfold mI
  rw [f.2 p k s]
/-- what a piece of reckoning in mem from t on may change -/
def wkS (m t p k : Nat) : Prop := (p = m + 1 ∧ t ≤ k) ∨ (p = m ∧ (k = 2 ∨ k = 6 ∨ k = 7)) ∨ p = m + 2 ∨ p = m + 3 ∨ p = m + 4
theorem wkS_mo {m t t' p k : Nat} (h : t ≤ t') (w : wkS m t' p k) : wkS m t p k := by
  unfold wkS at *
  omega
theorem fr_fg {m t : Nat} {h h' : jHp} (f : fr m t h h') : fg (wkS m t) h h' := ⟨f.1, fun p k q => f.2 p k (fun z => q (Or.inl z)) (fun z => q (Or.inr (Or.inl ⟨z.1, Or.inl z.2⟩)))⟩
theorem fd_fg {m t : Nat} {h h' : jHp} (f : fd m h h') : fg (wkS m t) h h' := ⟨f.1, fun p k q => f.2 p k (fun z => q (by unfold wkS; omega)) (fun z => q (by unfold wkS; omega)) (fun z => q (by unfold wkS; omega)) (fun z => q (by unfold wkS; omega))⟩
theorem fg_mm {m t k : Nat} {h h' : jHp} (f : fg (wkS m t) h h') (hk : k < t) : mm h' m k = mm h m k := f.eq (by unfold wkS; omega)
theorem fg_nu {m t a : Nat} {h h' : jHp} {v : Int} (f : fg (wkS m t) h h') (n : NU m h a v) (ha : a + sz B3 v.natAbs < t) : NU m h' a v :=
  ⟨n.1, by rw [fg_mm f (by omega)]; exact n.2.1, fun k hk => by rw [fg_mm f (by omega)]; exact n.2.2 k hk⟩
/-- an operation's end: its answer z lies at the old top t -/
def RW (m : Nat) (h : jHp) (t : Nat) (z : Int) : jQ := fun r h' => r = some (.int (iI (t : Int))) ∧ fg (wkS m t) h h' ∧ NU m h' t z ∧ mI h' m 2 = t + sz B3 z.natAbs + 1
theorem RS_RW {m t : Nat} {h : jHp} {z : Int} {r : Option Value} {h' : jHp} (q : RS m h t z r h') : RW m h t z r h' := ⟨q.1, fr_fg q.2.1, q.2.2.1, q.2.2.2⟩
theorem td_eq {x y : Int} (h : x.sign = y.sign) : x.tdiv y = ((x.natAbs / y.natAbs : Nat) : Int) := by
  rcases Int.lt_trichotomy x 0 with a | a | a
  · rw [Int.sign_eq_neg_one_of_neg a] at h
    have b : y < 0 := by
      rcases Int.lt_trichotomy y 0 with b | b | b
      · exact b
      · rw [b] at h
        exact absurd h (by decide)
      · rw [Int.sign_eq_one_of_pos b] at h
        exact absurd h (by decide)
    have e1 : x = -(x.natAbs : Int) := by omega
    have e2 : y = -(y.natAbs : Int) := by omega
    conv => lhs; rw [e1, e2]
    rw [Int.neg_tdiv, Int.tdiv_neg, Int.neg_neg]
    rfl
  · subst a
    rw [Int.zero_tdiv]
    simp
  · have e1 : x = (x.natAbs : Int) := by omega
    rw [Int.sign_eq_one_of_pos a] at h
    have b : 0 < y := by
      rcases Int.lt_trichotomy y 0 with b | b | b
      · rw [Int.sign_eq_neg_one_of_neg b] at h
        exact absurd h (by decide)
      · rw [b] at h
        exact absurd h (by decide)
      · exact b
    have e2 : y = (y.natAbs : Int) := by omega
    conv => lhs; rw [e1, e2]
    rfl
theorem td_ne {x y : Int} (h : x.sign ≠ y.sign) : x.tdiv y = -((x.natAbs / y.natAbs : Nat) : Int) := by
  rcases Int.lt_trichotomy x 0 with a | a | a
  · have e1 : x = -(x.natAbs : Int) := by omega
    rcases Int.lt_trichotomy y 0 with b | b | b
    · rw [Int.sign_eq_neg_one_of_neg a, Int.sign_eq_neg_one_of_neg b] at h
      exact absurd rfl h
    · subst b
      rw [Int.tdiv_zero]
      simp
    · have e2 : y = (y.natAbs : Int) := by omega
      conv => lhs; rw [e1, e2]
      rw [Int.neg_tdiv]
      rfl
  · subst a
    rw [Int.zero_tdiv]
    simp
  · have e1 : x = (x.natAbs : Int) := by omega
    rcases Int.lt_trichotomy y 0 with b | b | b
    · have e2 : y = -(y.natAbs : Int) := by omega
      conv => lhs; rw [e1, e2]
      rw [Int.tdiv_neg]
      rfl
    · subst b
      rw [Int.tdiv_zero]
      simp
    · rw [Int.sign_eq_one_of_pos a, Int.sign_eq_one_of_pos b] at h
      exact absurd rfl h
theorem rI_sg (z : Int) : rI z.sign := by
  rcases Int.lt_trichotomy z 0 with q | q | q
  · rw [Int.sign_eq_neg_one_of_neg q]
    exact ⟨by omega, by omega⟩
  · rw [q]
    exact ⟨(by decide), (by decide)⟩
  · rw [Int.sign_eq_one_of_pos q]
    exact ⟨by omega, by omega⟩
theorem c_divided {m a b t : Nat} {h : jHp} {x y : Int} (M : Mo m h) (na : NU m h a x) (nb : NU m h b y) (ht : mI h m 2 = t) (ha : a + sz B3 x.natAbs < t) (hb : b + sz B3 y.natAbs < t) (hy : y ≠ 0) (hs : sz B3 x.natAbs ≤ 398) (hr : t + sz B3 x.natAbs + 2 < 400000) :
    jRet 172 0 0 [.ref m, .int (iI a), .int (iI b)] h (RW m h t (x.tdiv y)) := by
  refine jRet_of (by decide) (by decide) (Nat.le_of_ble_eq_true rfl) (j_M_divided_0 ⟨M.1, jRet_mono (c_divide M na nb hy hs) ?_⟩)
  intro v1 h1 q1
  obtain ⟨e1, f1, Q1, L1⟩ := q1
  have M1 := M.sk f1.1
  have t1 : mI h1 m 2 = t := by
    rw [fd_at f1 (by omega) (by omega) (by omega) (fun z => by omega)]
    exact ht
  obtain ⟨w, hw⟩ : ∃ w, w = x.natAbs / y.natAbs := ⟨_, rfl⟩
  rw [← hw] at Q1
  have hz : sz B3 w ≤ sz B3 x.natAbs := by
    rw [hw]
    exact sz_mono (by decide) (Nat.div_le_self _ _)
  obtain ⟨Z, hZ⟩ : ∃ Z, Z = sz B3 w := ⟨_, rfl⟩
  have g7 : gI h1 m 7 = iI (Z : Int) := by
    rw [gI_mI, Q1.1, hZ]
  rw [g7]
  refine ⟨e1, M1.1, M1.1, jRet_mono (c_room (n := (Z : Int)) M1 t1) ?_⟩
  intro v2 h2 q2
  obtain ⟨e2, e3⟩ := q2
  refine ⟨_, e2, ?_⟩
  have f2 : fg (wkS m t) h h2 := by
    rw [e3]
    exact (fd_fg f1).wr (by unfold wkS; omega)
  have k7 : mI h2 m 7 = Z := by
    rw [e3, mI_sI ⟨by omega, by omega⟩, if_neg (fun z => by omega), Q1.1, hZ]
  have kq : ∀ k, k < Z → mI h2 (m + 4) k = dg B3 w k := by
    intro k hk
    rw [e3, mI_sI ⟨by omega, by omega⟩, if_neg (fun z => by omega)]
    exact Q1.2 k (by rw [← hZ]; exact hk)
  clear e3 e2 Q1 L1 g7 t1 f1 M1 e1
  -- the end
  have l51 : ∀ g : jHp, fg (wkS m t) h g → mI g m 7 = Z → (∀ j, j < Z → mm g m (t + 1 + j) = dg B3 w j) → J 172 51 0 0 [.ref m, .int (iI a), .int (iI b), .int (iI t), uu] [] g (RW m h t (x.tdiv y)) := by
    intro g f g7 hl
    have Mg := M.sk f.1
    have l82 : ∀ bl : Int, (bl = 0 ∨ bl = 1) → x.tdiv y = (if bl = 0 then (w : Int) else -(w : Int)) → J 172 82 0 0 [uu, uu, uu, uu, uu] [.int (iI bl), .int (iI Z), .int (iI t), .ref m] g (RW m h t (x.tdiv y)) := by
      intro bl hbl he
      refine j_M_divided_82 ⟨Mg.1, jRet_mono (c_done Mg hbl (n := Z) (w := w) (by omega) (by rw [hZ]; exact sz_lt (by decide)) hl) ?_⟩
      intro v3 h3 q3
      obtain ⟨a1, a2, a3, a4⟩ := q3
      refine ⟨_, a1, rfl, f.tr (fr_fg a2), ?_, ?_⟩
      · rw [he]
        exact a3
      · have hna : (x.tdiv y).natAbs = w := by
          rw [he]
          split <;> omega
        rw [a4, hna]
    refine j_M_divided_51 ⟨Mg.1, Mg.1, jRet_mono (c_sign Mg (fg_nu f na ha)) ?_⟩
    intro v3 h3 q3
    obtain ⟨a1, a2⟩ := q3
    rw [a2]
    refine ⟨_, a1, Mg.1, jRet_mono (c_sign Mg (fg_nu f nb hb)) ?_⟩
    intro v4 h4 q4
    obtain ⟨a3, a4⟩ := q4
    rw [a4]
    refine ⟨_, a3, ?_⟩
    rw [gI_mI, g7, iI_0, iI_eq (rI_sg x) (rI_sg y), iI_le ⟨by omega, by omega⟩ ⟨by omega, by omega⟩]
    refine ⟨fun c => j_M_divided_81 (l82 0 (Or.inl rfl) ?_), fun c => ⟨Mg.1, fun c2 => j_M_divided_81 (l82 0 (Or.inl rfl) ?_), fun c2 => l82 1 (Or.inr rfl) ?_⟩⟩
    · rw [if_pos rfl, td_eq c, hw]
    · have hw0 : w = 0 := by
        have : sz B3 w = 0 := by omega
        rcases Nat.eq_zero_or_pos w with z | z
        · exact z
        · have := (sz_pos (B := B3) (v := w) (by decide)).mpr z
          omega
      rw [if_pos rfl, td_ne c, ← hw, hw0]
      rfl
    · rw [if_neg (by decide), td_ne c, hw]
  -- the limbs
  have l18 : ∀ (d k : Nat) (g : jHp), k + d = Z → fg (wkS m t) h g → mI g m 7 = Z → (∀ j, j < Z → mI g (m + 4) j = dg B3 w j) → (∀ j, j < k → mm g m (t + 1 + j) = dg B3 w j) → J 172 18 0 0 [.ref m, .int (iI a), .int (iI b), .int (iI t), .int (iI k)] [] g (RW m h t (x.tdiv y)) := by
    intro d
    induction d with
    | zero =>
      intro k g hk f g7 hq hl
      obtain rfl : k = Z := by omega
      have Mg := M.sk f.1
      refine j_M_divided_18 ?_
      rw [gI_mI g m 7, g7, iI_le ⟨by omega, by omega⟩ ⟨by omega, by omega⟩]
      exact ⟨Mg.1, fun _ => l51 g f g7 hl, fun c => absurd (Int.le_refl _) c⟩
    | succ d ih =>
      intro k g hk f g7 hq hl
      have Mg := M.sk f.1
      have t1 : dg B3 w k < 1073741824 := dg_lt (by decide)
      refine j_M_divided_18 ?_
      rw [gI_mI g m 7, g7, iI_le ⟨by omega, by omega⟩ ⟨by omega, by omega⟩, Mg.a5.1, Mg.r1, iI_add, iI_add, iI_add, gI_q (by omega) (by omega), Int.toNat_natCast, hq k (by omega), iI_cl (by omega) (by omega), show ((t : Int) + 1 + (k : Int)).toNat = t + 1 + k by omega]
      refine ⟨Mg.1, fun c => by omega, fun c => ⟨Mg.1, Mg.1, ixL_of Mg.a5.2 (by omega) (by omega) (by decide), Mg.ix (by omega) (by omega), ?_⟩⟩
      refine ih (k + 1) _ (by omega) (f.wr (by unfold wkS; omega)) ?_ (fun j hj => ?_) (fun j hj => ?_)
      · rw [tp_sI]
        exact g7
      · rw [mI_sI (rI_nat t1), if_neg (fun z => by omega)]
        exact hq j hj
      · rw [mm_sI (rI_nat t1)]
        by_cases ej : j = k
        · rw [if_pos (by omega), ej]
        · rw [if_neg (by omega)]
          exact hl j (by omega)
  exact l18 Z 0 h2 (by omega) f2 k7 kq (fun j hj => by omega)
theorem gtest (a b c : Int) : (a + b) * c = a * c + c * b := by grind
