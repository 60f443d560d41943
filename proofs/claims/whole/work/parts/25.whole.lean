/-- whole(v): a long as a number, at the top -/
theorem c_whole {m t : Nat} {h : jHp} {x : Int} (M : Mo m h) (hx : -9223372036854775808 < x ∧ x < 9223372036854775808) (ht : mI h m 2 = t) (hr : t + 3 < 400000) :
    jRet 161 0 0 [.ref m, .long (lI x)] h (fun r h' => r = some (.int (iI t)) ∧ fr m t h h' ∧ NU m h' t x ∧ mI h' m 2 = t + sz B3 x.natAbs + 1) := by
  have hB : x.natAbs < B3 ^ 3 := by
    have : B3 ^ 3 = 1237940039285380274899124224 := by decide
    omega
  refine jRet_of (by decide) (by decide) (Nat.le_of_ble_eq_true rfl) (j_M_whole_0 ⟨M.1, jRet_mono (c_room M ht) ?_⟩)
  intro v1 h1 q1
  obtain ⟨e1, e2⟩ := q1
  rw [e2]
  have f0 : fr m t h (sI h m 2 (iI ((t : Int) + 3 + 1))) := fr.rf.wt
  generalize sI h m 2 (iI ((t : Int) + 3 + 1)) = g at f0
  have M1 := M.sk f0.1
  have l81 : ∀ (g1 : jHp) (bl : Int), (bl = if x < 0 then 1 else 0) → fr m t h g1 → (∀ k, k < 3 → mm g1 m (t + 1 + k) = dg B3 x.natAbs k) → J 161 81 0 0 [uu, uu, uu, uu, uu, uu] [.int (iI bl), .int (iI 3), .int (iI t), .ref m] g1 (fun r h' => r = some (.int (iI t)) ∧ fr m t h h' ∧ NU m h' t x ∧ mI h' m 2 = t + sz B3 x.natAbs + 1) := by
    intro g1 bl hbl f1 hl
    have Mg := M.sk f1.1
    refine j_M_whole_81 ⟨Mg.1, jRet_mono (c_done (n := 3) (w := x.natAbs) Mg (by rw [hbl]; split <;> simp) (by omega) hB hl) ?_⟩
    intro v2 h2 q2
    obtain ⟨e3, f2, n2, t2⟩ := q2
    refine ⟨_, e3, rfl, f1.tr f2 (Nat.le_refl t), ?_, t2⟩
    have hval : (if bl = 0 then (x.natAbs : Int) else -(x.natAbs : Int)) = x := by
      rw [hbl]
      by_cases c : x < 0
      · rw [if_pos c, if_neg (by decide)]
        omega
      · rw [if_neg c, if_pos rfl]
        omega
    rw [hval] at n2
    exact n2
  have cmp0 : 0 ≤ lg_cmp (lI x) (lI ((0 : Nat) : Int)) ↔ 0 ≤ x := by
    rw [lg_cmp_ge]
    exact lI_le ⟨by omega, by omega⟩ ⟨by omega, by omega⟩
  have hX0 : (0 : Int) ≤ (x.natAbs : Int) := by omega
  have hX1 : (x.natAbs : Int) < 9223372036854775808 := by omega
  have d0 : ((dg B3 x.natAbs 0 : Nat) : Int) = (x.natAbs : Int) % (2 : Int) ^ 30 := by
    unfold dg
    rw [Nat.pow_zero, Nat.div_one]
    rfl
  have d1 : ((dg B3 x.natAbs 1 : Nat) : Int) = (x.natAbs : Int) / (2 : Int) ^ 30 % (2 : Int) ^ 30 := by
    unfold dg
    rw [Nat.pow_one]
    rfl
  have d2 : ((dg B3 x.natAbs 2 : Nat) : Int) = (x.natAbs : Int) / (2 : Int) ^ 60 := by
    unfold dg
    have hB2 : B3 ^ 2 = 1152921504606846976 := by decide
    have hq : x.natAbs / 1152921504606846976 < 1073741824 := by omega
    rw [hB2, Nat.mod_eq_of_lt hq]
    rfl
  have e3 : (lI (x.natAbs : Int) &&& lI (jc 0 1073741823)).toInt32 = iI (dg B3 x.natAbs 0 : Nat) := by
    rw [d0, lI_mask (b := jc 0 1073741823) 30 hX0 hX1 (by decide) (by decide), lI_32]
  have e4 : (((lI (x.natAbs : Int)).toUInt64 >>> ((iI 30).toInt64.toUInt64 &&& Int64.toUInt64 63)).toInt64 &&& lI (jc 0 1073741823)).toInt32 = iI (dg B3 x.natAbs 1 : Nat) := by
    have h30 := lI_ushr (a := (x.natAbs : Int)) 30 hX0 hX1 (by decide)
    have h31 : ((lI (x.natAbs : Int)).toUInt64 >>> ((iI 30).toInt64.toUInt64 &&& Int64.toUInt64 63)).toInt64 = lI ((x.natAbs : Int) / (2 : Int) ^ 30) := h30
    rw [h31, d1, lI_mask (b := jc 0 1073741823) 30 (by omega) (by omega) (by decide) (by decide), lI_32]
  have e5 : ((lI (x.natAbs : Int)).toUInt64 >>> ((iI 60).toInt64.toUInt64 &&& Int64.toUInt64 63)).toInt64.toInt32 = iI (dg B3 x.natAbs 2 : Nat) := by
    have h60 := lI_ushr (a := (x.natAbs : Int)) 60 hX0 hX1 (by decide)
    have h61 : ((lI (x.natAbs : Int)).toUInt64 >>> ((iI 60).toInt64.toUInt64 &&& Int64.toUInt64 63)).toInt64 = lI ((x.natAbs : Int) / (2 : Int) ^ 60) := h60
    rw [h61, d2, lI_32]
  have q0 : dg B3 x.natAbs 0 < 1073741824 := dg_lt (by decide)
  have q1 : dg B3 x.natAbs 1 < 1073741824 := dg_lt (by decide)
  have q2 : dg B3 x.natAbs 2 < 1073741824 := dg_lt (by decide)
  have l18 : J 161 18 0 0 [.ref m, .long (lI x), uu, .int (iI t), uu, uu] [.long (lI (x.natAbs : Int))] g (fun r h' => r = some (.int (iI t)) ∧ fr m t h h' ∧ NU m h' t x ∧ mI h' m 2 = t + sz B3 x.natAbs + 1) := by
    refine j_M_whole_18 ?_
    simp only [gR_sI, M1.r1, e3, e4, e5, iI_add, iI_cl (show (0 : Int) ≤ (t : Int) + 1 by omega) (show (t : Int) + 1 < 2147483648 by omega), iI_cl (show (0 : Int) ≤ (t : Int) + 2 by omega) (show (t : Int) + 2 < 2147483648 by omega), iI_cl (show (0 : Int) ≤ (t : Int) + 3 by omega) (show (t : Int) + 3 < 2147483648 by omega), show ((t : Int) + 1).toNat = t + 1 by omega, show ((t : Int) + 2).toNat = t + 2 by omega, show ((t : Int) + 3).toNat = t + 3 by omega, cmp0]
    have fin : ∀ bl : Int, (bl = if x < 0 then 1 else 0) → J 161 81 0 0 [uu, uu, uu, uu, uu, uu] [.int (iI bl), .int (iI 3), .int (iI t), .ref m] (sI (sI (sI g (m + 1) (t + 1) (iI (dg B3 x.natAbs 0 : Nat))) (m + 1) (t + 2) (iI (dg B3 x.natAbs 1 : Nat))) (m + 1) (t + 3) (iI (dg B3 x.natAbs 2 : Nat))) (fun r h' => r = some (.int (iI t)) ∧ fr m t h h' ∧ NU m h' t x ∧ mI h' m 2 = t + sz B3 x.natAbs + 1) := by
      intro bl hbl
      refine l81 _ bl hbl (((f0.wm (by omega)).wm (by omega)).wm (by omega)) (fun k hk => ?_)
      rw [mm_sI ⟨by omega, by omega⟩, mm_sI ⟨by omega, by omega⟩, mm_sI ⟨by omega, by omega⟩]
      match k, hk with
      | 0, _ => rw [if_neg (by omega), if_neg (by omega), if_pos (by omega)]
      | 1, _ => rw [if_neg (by omega), if_pos (by omega)]
      | 2, _ => rw [if_pos (by omega)]
      | k + 3, hk => omega
    refine ⟨M1.1, M1.ix (by omega) (by omega), M1.1, M1.ix (by omega) (by omega), M1.1, M1.ix (by omega) (by omega), fun c => ?_, fun c => ?_⟩
    · exact j_M_whole_80 (fin 0 (by rw [if_neg (by omega)]))
    · exact fin 1 (by rw [if_pos (by omega)])
  refine ⟨_, e1, fun c => ?_, fun c => ?_⟩
  · rw [cmp0] at c
    refine j_M_whole_17 ?_
    rw [show (x.natAbs : Int) = x by omega] at l18
    exact l18
  · rw [cmp0] at c
    rw [show (x.natAbs : Int) = -x by omega] at l18
    rw [lI_neg]
    exact l18
