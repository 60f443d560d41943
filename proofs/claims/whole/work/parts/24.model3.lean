/-! comparing; a long as a number -/
def cmpN (x y : Nat) : Int := if x < y then -1 else if y < x then 1 else 0
theorem c_cmp {m a b : Nat} {h : jHp} {x y : Int} (M : Mo m h) (na : NU m h a x) (nb : NU m h b y) : jRet 171 0 0 [.ref m, .int (iI a), .int (iI b)] h (fun r h' => r = some (.int (iI (cmpN x.natAbs y.natAbs))) ∧ h' = h) := by
  have ha := na.1
  have hb := nb.1
  have hlt : ∀ u v : Nat, u < v → cmpN u v = -1 := fun u v q => if_pos q
  have hgt : ∀ u v : Nat, v < u → cmpN u v = 1 := fun u v q => by unfold cmpN; rw [if_neg (by omega), if_pos q]
  refine jRet_of (by decide) (by decide) (Nat.le_of_ble_eq_true rfl) (j_M_compareSizes_0 ⟨M.1, jRet_mono (c_size M na) ?_⟩)
  intro v1 h1 q1
  obtain ⟨e1, e2⟩ := q1
  rw [e2]
  refine ⟨_, e1, M.1, jRet_mono (c_size M nb) ?_⟩
  intro v2 h2 q2
  obtain ⟨e3, e4⟩ := q2
  rw [e4]
  refine ⟨_, e3, fun c => ?_, fun c => ⟨M.1, jRet_mono (c_size M nb) ?_⟩⟩
  · rw [iI_eq ⟨by omega, by omega⟩ ⟨by omega, by omega⟩] at c
    have hs : sz B3 y.natAbs = sz B3 x.natAbs := by omega
    have loop : ∀ k : Nat, k ≤ sz B3 x.natAbs → x.natAbs / B3 ^ k = y.natAbs / B3 ^ k → J 171 33 0 0 [.ref m, .int (iI a), .int (iI b), uu, .int (iI (k : Int))] [] h (fun r h' => r = some (.int (iI (cmpN x.natAbs y.natAbs))) ∧ h' = h) := by
      intro k
      induction k with
      | zero =>
        intro _ hk
        rw [Nat.pow_zero, Nat.div_one, Nat.div_one] at hk
        refine j_M_compareSizes_33 ⟨fun _ => j_M_compareSizes_92 ⟨?_, rfl⟩, fun c => absurd (by rw [iI_0]; exact (iI_le ⟨by omega, by omega⟩ ⟨by omega, by omega⟩).mpr (by omega)) c⟩
        unfold cmpN
        rw [if_neg (by omega), if_neg (by omega)]
      | succ k ih =>
        intro hkn hk
        refine j_M_compareSizes_33 ?_
        rw [M.r1, iI_add, iI_add, gI_at (by omega) (by omega), gI_at (by omega) (by omega)]
        rw [show ((a : Int) + ((k + 1 : Nat) : Int)).toNat = a + 1 + k by omega, show ((b : Int) + ((k + 1 : Nat) : Int)).toNat = b + 1 + k by omega, na.2.2 k (by omega), nb.2.2 k (by omega)]
        have d1 : dg B3 x.natAbs k < 1073741824 := dg_lt (by decide)
        have d2 : dg B3 y.natAbs k < 1073741824 := dg_lt (by decide)
        refine ⟨fun c => ?_, fun c => ⟨M.1, M.ixL (by omega) (by omega), M.1, M.ixL (by omega) (by omega), fun c2 => ?_, fun c2 => ⟨M.1, M.ixL (by omega) (by omega), M.1, M.ixL (by omega) (by omega), fun c3 => ?_, fun c3 => ?_⟩⟩⟩
        · rw [iI_0, iI_le ⟨by omega, by omega⟩ ⟨by omega, by omega⟩] at c
          omega
        · rw [iI_eq ⟨by omega, by omega⟩ ⟨by omega, by omega⟩] at c2
          refine j_M_compareSizes_86 ?_
          rw [iI_add, show ((k + 1 : Nat) : Int) + (-1) = (k : Int) by omega]
          exact ih (by omega) (cmp_eq hk (by omega))
        · rw [iI_eq ⟨by omega, by omega⟩ ⟨by omega, by omega⟩] at c2
          rw [iI_le ⟨by omega, by omega⟩ ⟨by omega, by omega⟩] at c3
          exact j_M_compareSizes_84 (j_M_compareSizes_85 ⟨by rw [hlt _ _ (cmp_lt hk (by omega))], rfl⟩)
        · rw [iI_le ⟨by omega, by omega⟩ ⟨by omega, by omega⟩] at c3
          exact j_M_compareSizes_85 ⟨by rw [hgt _ _ (cmp_lt hk.symm (by omega))], rfl⟩
    refine j_M_compareSizes_30 (loop _ (Nat.le_refl _) ?_)
    rw [Nat.div_eq_of_lt (sz_lt (by decide)), Nat.div_eq_of_lt (by rw [← hs]; exact sz_lt (by decide))]
  · rw [iI_eq ⟨by omega, by omega⟩ ⟨by omega, by omega⟩] at c
    intro v3 h3 q3
    obtain ⟨e5, e6⟩ := q3
    rw [e6]
    refine ⟨_, e5, fun c2 => ?_, fun c2 => ?_⟩
    · rw [iI_le ⟨by omega, by omega⟩ ⟨by omega, by omega⟩] at c2
      exact j_M_compareSizes_28 (j_M_compareSizes_29 ⟨by rw [hlt _ _ (cmp_sz (B := B3) (by decide) (by omega))], rfl⟩)
    · rw [iI_le ⟨by omega, by omega⟩ ⟨by omega, by omega⟩] at c2
      exact j_M_compareSizes_29 ⟨by rw [hgt _ _ (cmp_sz (B := B3) (by decide) (by omega))], rfl⟩
