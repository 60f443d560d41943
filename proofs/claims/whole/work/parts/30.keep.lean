/-! keep, held, clean; is, refuse, isPatch, isCorner, status -/
theorem Mo.r24 {m : Nat} {h : jHp} (M : Mo m h) : gR h m 24 = m + 18 := (M.2 (24, 18, 1800) (by decide)).1
theorem Mo.z24 {m : Nat} {h : jHp} (M : Mo m h) : jz h (m + 18) = (10, 1800) := (M.2 (24, 18, 1800) (by decide)).2
theorem mo_ix24 {m : Nat} {h : jHp} (M : Mo m h) {a : Int} (h0 : 0 ≤ a) (h1 : a < 1800) : ix h (m + 18) 10 (iI a) := ⟨by rw [M.z24], by rw [M.z24]; exact iI_in h0 (by exact h1) (by decide)⟩
theorem mo_ixL24 {m : Nat} {h : jHp} (M : Mo m h) {a : Int} (h0 : 0 ≤ a) (h1 : a < 1800) : ixL h (m + 18) (iI a) := ⟨Or.inl (mo_ix24 M h0 h1).1, (mo_ix24 M h0 h1).2⟩
/-- the number v is kept at place p -/
def KN (m : Nat) (h : jHp) (p : Nat) (v : Int) : Prop := sz B3 v.natAbs ≤ 23 ∧ mI h (m + 18) (24 * p) = (if v < 0 then -(sz B3 v.natAbs : Int) else (sz B3 v.natAbs : Int)) ∧ ∀ k, k < sz B3 v.natAbs → mI h (m + 18) (24 * p + 1 + k) = dg B3 v.natAbs k
theorem gI_q {h : jHp} {q : Nat} {a : Int} (h0 : 0 ≤ a) (h1 : a < 2147483648) : gI h q (iI a).toNatClampNeg = iI (mI h q a.toNat) := by
  rw [iI_cl h0 h1, gI_mI]
theorem c_keep {m a p : Nat} {h : jHp} {v : Int} (M : Mo m h) (n : NU m h a v) (hp : p < 75) (hs : sz B3 v.natAbs ≤ 23) :
    jRet 176 0 0 [.ref m, .int (iI p), .int (iI a)] h (fun r h' => r = none ∧ sk h h' ∧ KN m h' p v ∧ ∀ q k, ¬ (q = m + 18 ∧ 24 * p ≤ k ∧ k < 24 * p + 24) → gI h' q k = gI h q k) := by
  refine jRet_of (by decide) (by decide) (Nat.le_of_ble_eq_true rfl) (j_M_keep_0 ?_)
  have hn := n.1
  have loop : ∀ (d k : Nat) (g : jHp), k + d = sz B3 v.natAbs + 1 → sk h g → (∀ q j, ¬ (q = m + 18 ∧ 24 * p ≤ j ∧ j < 24 * p + 24) → gI g q j = gI h q j) → (∀ j, j < k → mI g (m + 18) (24 * p + j) = mm h m (a + j)) → J 176 2 0 0 [.ref m, .int (iI p), .int (iI a), .int (iI (k : Int))] [] g (fun r h' => r = none ∧ sk h h' ∧ KN m h' p v ∧ ∀ q k, ¬ (q = m + 18 ∧ 24 * p ≤ k ∧ k < 24 * p + 24) → gI h' q k = gI h q k) := by
    intro d
    induction d with
    | zero =>
      intro k g hk s f hc
      have Mg := M.sk s
      have hm : ∀ j, mm g m j = mm h m j := fun j => by unfold mm mI; rw [f (m + 1) j (fun z => by omega)]
      have ng : NU m g a v := ⟨n.1, by rw [hm]; exact n.2.1, fun j hj => by rw [hm]; exact n.2.2 j hj⟩
      refine j_M_keep_2 ⟨Mg.1, jRet_mono (c_size Mg ng) ?_⟩
      intro v1 h1 q1
      obtain ⟨e1, e2⟩ := q1
      rw [e2]
      refine ⟨_, e1, fun _ => j_M_keep_36 ⟨rfl, s, ⟨hs, ?_, fun j hj => ?_⟩, f⟩, fun c => absurd ((iI_lt ⟨by omega, by omega⟩ ⟨by omega, by omega⟩).mpr (by omega)) c⟩
      · have h00 : mI g (m + 18) (24 * p) = mm h m a := hc 0 (by omega)
        rw [h00]
        exact n.2.1
      · have := hc (1 + j) (by omega)
        rw [← Nat.add_assoc, ← Nat.add_assoc] at this
        rw [this]
        exact n.2.2 j hj
    | succ d ih =>
      intro k g hk s f hc
      have Mg := M.sk s
      have hm : ∀ j, mm g m j = mm h m j := fun j => by unfold mm mI; rw [f (m + 1) j (fun z => by omega)]
      have ng : NU m g a v := ⟨n.1, by rw [hm]; exact n.2.1, fun j hj => by rw [hm]; exact n.2.2 j hj⟩
      refine j_M_keep_2 ⟨Mg.1, jRet_mono (c_size Mg ng) ?_⟩
      intro v1 h1 q1
      obtain ⟨e1, e2⟩ := q1
      rw [e2]
      refine ⟨_, e1, fun c => ?_, fun c => ?_⟩
      · rw [iI_lt ⟨by omega, by omega⟩ ⟨by omega, by omega⟩] at c
        omega
      · rw [Mg.r1, Mg.r24]
        simp only [iI_add, iI_mul]
        rw [gI_at (by omega) (by omega), iI_cl (by omega) (by omega), show ((a : Int) + (k : Int)).toNat = a + k by omega, show (24 * (p : Int) + (k : Int)).toNat = 24 * p + k by omega, hm]
        refine ⟨Mg.1, Mg.1, Mg.ixL (by omega) (by omega), mo_ix24 Mg (by omega) (by omega), ?_⟩
        have rv : rI (mm h m (a + k)) := rI_mI h (m + 1) (a + k)
        have := ih (k + 1) (sI g (m + 18) (24 * p + k) (iI (mm h m (a + k)))) (by omega) s.sI (fun q j hq => ?_) (fun j hj => ?_)
        · exact this
        · rw [gI_sI, if_neg (fun z => hq ⟨z.1, by omega, by omega⟩)]
          exact f q j hq
        · rw [mI_sI rv]
          by_cases e : j = k
          · rw [if_pos ⟨rfl, by omega⟩, e]
          · rw [if_neg (fun z => by omega)]
            exact hc j (by omega)
  exact loop (sz B3 v.natAbs + 1) 0 h (by omega) sk.rf (fun _ _ _ => rfl) (fun j hj => by omega)
theorem c_held {m p t : Nat} {h : jHp} {v : Int} (M : Mo m h) (n : KN m h p v) (hp : p < 75) (ht : mI h m 2 = t) (hr : t + sz B3 v.natAbs + 1 < 400000) :
    jRet 178 0 0 [.ref m, .int (iI p)] h (RS m h t v) := by
  have hs := n.1
  have hz : mI h (m + 18) (24 * p) = (if v < 0 then -(sz B3 v.natAbs : Int) else (sz B3 v.natAbs : Int)) := n.2.1
  have rz : rI (mI h (m + 18) (24 * p)) := rI_mI _ _ _
  have l41 : ∀ (d k : Nat) (g : jHp), k + d = sz B3 v.natAbs + 1 → fr m t h g → mI g m 2 = t + sz B3 v.natAbs + 1 → (∀ j, j < k → mm g m (t + j) = mI h (m + 18) (24 * p + j)) → J 178 41 0 0 [.ref m, uu, .int (iI (24 * (p : Int))), .int (iI (sz B3 v.natAbs : Int)), .int (iI (t : Int)), .int (iI (k : Int))] [] g (RS m h t v) := by
    intro d
    induction d with
    | zero =>
      intro k g hk f hg hc
      refine j_M_held_41 ⟨fun _ => j_M_held_72 ⟨rfl, f, ⟨by omega, ?_, fun j hj => ?_⟩, hg⟩, fun c => absurd ((iI_lt ⟨by omega, by omega⟩ ⟨by omega, by omega⟩).mpr (by omega)) c⟩
      · have h00 : mm g m t = mI h (m + 18) (24 * p) := hc 0 (by omega)
        rw [h00, hz]
      · have := hc (1 + j) (by omega)
        rw [← Nat.add_assoc, ← Nat.add_assoc] at this
        rw [this]
        exact n.2.2 j hj
    | succ d ih =>
      intro k g hk f hg hc
      have Mg := M.sk f.1
      have hm : mI g (m + 18) (24 * p + k) = mI h (m + 18) (24 * p + k) := by unfold mI; rw [f.2 (m + 18) _ (fun z => by omega) (fun z => by omega)]
      refine j_M_held_41 ?_
      rw [Mg.r1, Mg.r24]
      simp only [iI_add]
      rw [gI_q (by omega) (by omega), iI_cl (by omega) (by omega), show ((t : Int) + (k : Int)).toNat = t + k by omega, show (24 * (p : Int) + (k : Int)).toNat = 24 * p + k by omega, hm]
      refine ⟨fun c => ?_, fun c => ⟨Mg.1, Mg.1, mo_ixL24 Mg (by omega) (by omega), Mg.ix (by omega) (by omega), ?_⟩⟩
      · rw [iI_lt ⟨by omega, by omega⟩ ⟨by omega, by omega⟩] at c
        omega
      · have rv : rI (mI h (m + 18) (24 * p + k)) := rI_mI _ _ _
        have := ih (k + 1) (sI g (m + 1) (t + k) (iI (mI h (m + 18) (24 * p + k)))) (by omega) (f.wm (by omega)) (by rw [tp_sI]; exact hg) (fun j hj => ?_)
        · exact this
        · rw [mm_sI rv]
          by_cases e : j = k
          · rw [if_pos (by omega), e]
          · rw [if_neg (by omega)]
            exact hc j (by omega)
  have l30 : J 178 30 0 0 [.ref m, uu, .int (iI (24 * (p : Int))), uu, uu, uu] [.int (iI (sz B3 v.natAbs : Int))] h (RS m h t v) := by
    refine j_M_held_30 ⟨M.1, jRet_mono (c_room M ht) ?_⟩
    intro v1 h1 q1
    obtain ⟨e1, e2⟩ := q1
    rw [e2]
    refine ⟨_, e1, ?_⟩
    have := l41 (sz B3 v.natAbs + 1) 0 _ (by omega) (fr.rf.wt (v := iI ((t : Int) + (sz B3 v.natAbs : Int) + 1))) (by rw [tp_sT ⟨by omega, by omega⟩]) (fun j hj => by omega)
    exact this
  have hpos := sz_pos (B := B3) (v := v.natAbs) (by decide)
  refine jRet_of (by decide) (by decide) (Nat.le_of_ble_eq_true rfl) (j_M_held_0 ?_)
  rw [M.r24, iI_mul, gI_q (by omega) (by omega), show (24 * (p : Int)).toNat = 24 * p by omega, iI_0, iI_le ⟨by omega, by omega⟩ rz]
  refine ⟨M.1, mo_ixL24 M (by omega) (by omega), fun c => ?_, fun c => ⟨M.1, mo_ixL24 M (by omega) (by omega), ?_⟩⟩
  · refine j_M_held_24 ?_
    rw [M.r24, gI_q (by omega) (by omega), show (24 * (p : Int)).toNat = 24 * p by omega]
    refine ⟨M.1, mo_ixL24 M (by omega) (by omega), ?_⟩
    have e : mI h (m + 18) (24 * p) = (sz B3 v.natAbs : Int) := by
      rw [hz] at c ⊢
      split at c
      · omega
      · rename_i hc
        rw [if_neg hc]
    rw [e]
    exact l30
  · have e : -mI h (m + 18) (24 * p) = (sz B3 v.natAbs : Int) := by
      rw [hz] at c ⊢
      split at c
      · rename_i hc
        rw [if_pos hc]
        omega
      · omega
    rw [iI_neg, e]
    exact l30
theorem c_clean {m : Nat} {h : jHp} (M : Mo m h) : jRet 160 0 0 [.ref m] h (fun r h' => r = none ∧ h' = sI h m 2 (iI 0)) :=
  jRet_of (by decide) (by decide) (Nat.le_of_ble_eq_true rfl) (j_M_clean_0 ⟨M.1, rfl, rfl⟩)
theorem c_refuse {m : Nat} {h : jHp} {w : Int32} (M : Mo m h) : jRet 132 0 0 [.ref m, .int w] h (fun r h' => r = some (.int (iI (-1))) ∧ h' = sI h m 0 w) :=
  jRet_of (by decide) (by decide) (Nat.le_of_ble_eq_true rfl) (j_M_refuse_0 ⟨M.1, rfl, rfl⟩)
theorem c_is {m : Nat} {h : jHp} {w : Int} (M : Mo m h) (hw : rI w) : jRet 141 0 0 [.ref m, .int (iI w)] h (fun r h' => r = some (.int (iI (if w = 0 then 1 else 0))) ∧ h' = sI h m 0 (iI w)) := by
  refine jRet_of (by decide) (by decide) (Nat.le_of_ble_eq_true rfl) (j_M_is_0 ⟨M.1, fun c => ?_, fun c => ?_⟩)
  · rw [iI_0, iI_eq hw ⟨by omega, by omega⟩] at c
    exact j_M_is_13 (j_M_is_14 ⟨Or.inl rfl, by rw [if_neg c], rfl⟩)
  · rw [iI_0, iI_eq hw ⟨by omega, by omega⟩] at c
    exact j_M_is_14 ⟨Or.inr rfl, by rw [if_pos c], rfl⟩
theorem c_isPatch {m : Nat} {h : jHp} {p n : Int} (M : Mo m h) (hp : rI p) (hn : mI h m 20 = n) : jRet 140 0 0 [.ref m, .int (iI p)] h (fun r h' => r = some (.int (iI (if 0 ≤ p ∧ p < n then 1 else 0))) ∧ h' = h) := by
  have rn : rI n := by rw [← hn]; exact rI_mI _ _ _
  refine jRet_of (by decide) (by decide) (Nat.le_of_ble_eq_true rfl) (j_M_isPatch_0 ?_)
  rw [gI_mI, hn, iI_0, iI_lt hp ⟨by omega, by omega⟩, iI_le rn hp]
  refine ⟨fun c => j_M_isPatch_16 (j_M_isPatch_17 ⟨Or.inl rfl, by rw [if_neg (by omega)], rfl⟩), fun c => ⟨M.1, fun c2 => j_M_isPatch_16 (j_M_isPatch_17 ⟨Or.inl rfl, by rw [if_neg (by omega)], rfl⟩), fun c2 => j_M_isPatch_17 ⟨Or.inr rfl, by rw [if_pos (by omega)], rfl⟩⟩⟩
