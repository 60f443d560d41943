/-! put(to, a): the size and the limbs of a, without its sign, at to -/
theorem c_put {m a b : Nat} {h : jHp} {v : Int} (M : Mo m h) (n : NU m h a v) (hb : b + sz B3 v.natAbs < 400000) (hab : a + sz B3 v.natAbs < b) :
    jRet 181 0 0 [.ref m, .int (iI b), .int (iI a)] h (fun r h' => r = none ∧ sk h h' ∧ NU m h' b (v.natAbs : Int) ∧ ∀ q k, ¬ (q = m + 1 ∧ b ≤ k ∧ k ≤ b + sz B3 v.natAbs) → gI h' q k = gI h q k) := by
  have hn := n.1
  obtain ⟨s, hs⟩ : ∃ s, sz B3 v.natAbs = s := ⟨_, rfl⟩
  refine jRet_of (by decide) (by decide) (Nat.le_of_ble_eq_true rfl) (j_M_put_0 ⟨M.1, jRet_mono (c_size M n) ?_⟩)
  intro v1 h1 q1
  obtain ⟨e1, e2⟩ := q1
  rw [e2, M.r1]
  rw [hs] at hb hab hn e1 ⊢
  refine ⟨_, e1, M.1, M.ix (by omega) (by omega), ?_⟩
  rw [iI_cl (by omega) (by omega), Int.toNat_natCast]
  have loop : ∀ (d k : Nat) (g : jHp), k + d = s → sk h g → (∀ q j, ¬ (q = m + 1 ∧ b ≤ j ∧ j ≤ b + s) → gI g q j = gI h q j) → mm g m b = s → (∀ j, j < k → mm g m (b + 1 + j) = dg B3 v.natAbs j) → J 181 16 0 0 [.ref m, .int (iI b), .int (iI a), .int (iI (s : Int)), .int (iI ((k : Int) + 1))] [] g (fun r h' => r = none ∧ sk h h' ∧ NU m h' b (v.natAbs : Int) ∧ ∀ q k, ¬ (q = m + 1 ∧ b ≤ k ∧ k ≤ b + s) → gI h' q k = gI h q k) := by
    intro d
    induction d with
    | zero =>
      intro k g hk sg f hz hc
      refine j_M_put_16 ⟨fun _ => j_M_put_46 ⟨rfl, sg, ⟨by rw [Int.natAbs_natCast, hs]; exact hb, ?_, fun j hj => ?_⟩, f⟩, fun c => absurd ((iI_lt ⟨by omega, by omega⟩ ⟨by omega, by omega⟩).mpr (by omega)) c⟩
      · rw [hz, Int.natAbs_natCast, hs, if_neg (by omega)]
      · rw [Int.natAbs_natCast] at hj ⊢
        rw [hs] at hj
        exact hc j (by omega)
    | succ d ih =>
      intro k g hk sg f hz hc
      have Mg := M.sk sg
      refine j_M_put_16 ?_
      rw [Mg.r1]
      simp only [iI_add]
      have hold : mm g m (a + 1 + k) = dg B3 v.natAbs k := by
        have h1 : mm g m (a + 1 + k) = mm h m (a + 1 + k) := by unfold mm mI; rw [f (m + 1) _ (fun z => by omega)]
        rw [h1]
        exact n.2.2 k (by rw [hs]; omega)
      have dk : dg B3 v.natAbs k < 1073741824 := dg_lt (by decide)
      rw [gI_at (by omega) (by omega), iI_cl (by omega) (by omega), show ((a : Int) + ((k : Int) + 1)).toNat = a + 1 + k by omega, show ((b : Int) + ((k : Int) + 1)).toNat = b + 1 + k by omega, hold]
      refine ⟨fun c => ?_, fun c => ⟨Mg.1, Mg.1, Mg.ixL (by omega) (by omega), Mg.ix (by omega) (by omega), ?_⟩⟩
      · rw [iI_lt ⟨by omega, by omega⟩ ⟨by omega, by omega⟩] at c
        omega
      · have := ih (k + 1) (sI g (m + 1) (b + 1 + k) (iI (dg B3 v.natAbs k : Int))) (by omega) sg.sI (fun q j hq => ?_) ?_ (fun j hj => ?_)
        · exact this
        · rw [gI_sI, if_neg (fun z => hq ⟨z.1, by omega, by omega⟩)]
          exact f q j hq
        · rw [mm_sI ⟨by omega, by omega⟩, if_neg (by omega)]
          exact hz
        · rw [mm_sI ⟨by omega, by omega⟩]
          by_cases e : j = k
          · rw [if_pos (by omega), e]
          · rw [if_neg (by omega)]
            exact hc j (by omega)
  have := loop s 0 (sI h (m + 1) b (iI (s : Int))) (by omega) sk.rf.sI (fun q j hq => by rw [gI_sI, if_neg (fun z => hq ⟨z.1, by omega, by omega⟩)]) (by rw [mm_sI ⟨by omega, by omega⟩, if_pos rfl]) (fun j hj => by omega)
  exact this
