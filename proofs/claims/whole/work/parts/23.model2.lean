/-! the model's small methods of numbers -/
theorem lI_lN {a : Int} (h : 0 ≤ a) : lI a = lN a.toNat := by
  show Int64.ofInt a = Int64.ofNat a.toNat
  rw [← Int64.ofInt_eq_ofNat]
  congr 1
  omega
theorem lN_lI (n : Nat) : lN n = lI n := (Int64.ofInt_eq_ofNat).symm
theorem lI_ushr {a : Int} (k : Nat) (h0 : 0 ≤ a) (h : a < 9223372036854775808) (hk : k < 64) : ((lI a).toUInt64 >>> ((iI (k : Int)).toInt64.toUInt64 &&& Int64.toUInt64 63)).toInt64 = lI (a / (2 : Int) ^ k) := by
  rw [lI_lN h0, ← nI_iI, wb_shr (by omega) hk, lN_lI]
  congr 1
  rw [Int.natCast_ediv, Int.natCast_pow]
  congr 1
  omega
theorem lI_shl {a : Int} (k : Nat) (h0 : 0 ≤ a) (hk : k < 64) : lI a <<< ((iI (k : Int)).toInt64 &&& 63) = lI (a * (2 : Int) ^ k) := by
  rw [lI_lN h0, ← nI_iI, wb_shl _ hk, lN_lI]
  congr 1
  rw [Int.natCast_mul, Int.natCast_pow]
  congr 1
  omega
theorem lI_mask {a : Int} (k : Nat) {b : Int} (h0 : 0 ≤ a) (h : a < 9223372036854775808) (hk : k < 63) (hb : b = (2 : Int) ^ k - 1) : lI a &&& lI b = lI (a % (2 : Int) ^ k) := by
  have e : lI b = lN (2 ^ k - 1) := by
    rw [lN_lI, hb]
    congr 1
    have : 0 < 2 ^ k := Nat.pow_pos (by decide)
    rw [Int.natCast_sub (by omega), Int.natCast_pow]
    rfl
  rw [e, lI_lN h0, wb_mask (by omega) (by omega), lN_lI]
  congr 1
  rw [Int.natCast_emod, Int.natCast_pow]
  congr 1
  omega
theorem mm_sI {h : jHp} {m k j : Nat} {v : Int} (hv : rI v) : mm (sI h (m + 1) k (iI v)) m j = if j = k then v else mm h m j := by
  unfold mm
  rw [mI_sI hv]
  by_cases e : j = k
  · rw [if_pos ⟨rfl, e⟩, if_pos e]
  · rw [if_neg (fun z => e z.2), if_neg e]
theorem mm_sT {h : jHp} {m j : Nat} {v : Int32} {f : Nat} : mm (sI h m f v) m j = mm h m j := by
  unfold mm mI
  rw [gI_sI, if_neg (fun z => by omega)]
theorem tp_sI {h : jHp} {m k f : Nat} {v : Int32} : mI (sI h (m + 1) k v) m f = mI h m f := by
  unfold mI
  rw [gI_sI, if_neg (fun z => by omega)]
theorem tp_sT {h : jHp} {m : Nat} {v : Int} (hv : rI v) : mI (sI h m 2 (iI v)) m 2 = v := by
  rw [mI_sI hv, if_pos ⟨rfl, rfl⟩]
theorem fr.wm {m t k : Nat} {h h' : jHp} {v : Int32} (f : fr m t h h') (hk : t ≤ k) : fr m t h (sI h' (m + 1) k v) :=
  ⟨f.1.sI, fun p j q1 q2 => by rw [gI_sI, if_neg (fun z => q1 ⟨z.1, by omega⟩)]; exact f.2 p j q1 q2⟩
theorem fr.wt {m t : Nat} {h h' : jHp} {v : Int32} (f : fr m t h h') : fr m t h (sI h' m 2 v) :=
  ⟨f.1.sI, fun p j q1 q2 => by rw [gI_sI, if_neg q2]; exact f.2 p j q1 q2⟩
theorem gI_at {h : jHp} {m : Nat} {a : Int} (h0 : 0 ≤ a) (h1 : a < 2147483648) : gI h (m + 1) (iI a).toNatClampNeg = iI (mm h m a.toNat) := by
  rw [iI_cl h0 h1, gI_mI]
  rfl
theorem c_room {m : Nat} {h : jHp} {t n : Int} (M : Mo m h) (ht : mI h m 2 = t) : jRet 162 0 0 [.ref m, .int (iI n)] h (fun r h' => r = some (.int (iI t)) ∧ h' = sI h m 2 (iI (t + n + 1))) := by
  refine jRet_of (by decide) (by decide) (Nat.le_of_ble_eq_true rfl) (j_M_room_0 ⟨M.1, M.1, M.1, ?_, ?_⟩)
  · rw [gI_mI, ht]
  · rw [gI_mI, ht, iI_add, iI_add, Int.add_assoc]
/-- done: w's n limbs lie behind a; its count and sign are written, the top set behind it -/
theorem c_done {m a n w : Nat} {h : jHp} {bl : Int} (M : Mo m h) (hb : bl = 0 ∨ bl = 1) (han : a + n < 400000) (hw : w < B3 ^ n) (hl : ∀ k, k < n → mm h m (a + 1 + k) = dg B3 w k) :
    jRet 163 0 0 [.ref m, .int (iI a), .int (iI n), .int (iI bl)] h (fun r h' => r = some (.int (iI a)) ∧ fr m a h h' ∧ NU m h' a (if bl = 0 then (w : Int) else -(w : Int)) ∧ mI h' m 2 = a + sz B3 w + 1) := by
  have hsz := (sz_le (B := B3) (v := w) (n := n) (by decide)).mpr hw
  refine jRet_of (by decide) (by decide) (Nat.le_of_ble_eq_true rfl) (j_M_done_0 ?_)
  -- behind the loop
  have l26 : ∀ q : Nat, q = sz B3 w → J 163 26 0 0 [.ref m, .int (iI a), uu, .int (iI bl), .int (iI (q : Int))] [] h (fun r h' => r = some (.int (iI a)) ∧ fr m a h h' ∧ NU m h' a (if bl = 0 then (w : Int) else -(w : Int)) ∧ mI h' m 2 = a + sz B3 w + 1) := by
    intro q hq
    subst hq
    have l43 : ∀ s : Int, s = (if bl = 0 then (sz B3 w : Int) else -(sz B3 w : Int)) → J 163 43 0 0 [.ref m, .int (iI a), uu, uu, .int (iI (sz B3 w : Int))] [.int (iI s), .int (iI a), .ref (m + 1)] h (fun r h' => r = some (.int (iI a)) ∧ fr m a h h' ∧ NU m h' a (if bl = 0 then (w : Int) else -(w : Int)) ∧ mI h' m 2 = a + sz B3 w + 1) := by
      intro s hs
      have rs : rI s := by rw [hs]; unfold rI; split <;> omega
      refine j_M_done_43 ⟨M.ix (by omega) (by omega), M.sI.1, rfl, ?_, ?_, ?_⟩
      · rw [iI_cl (by omega) (by omega)]
        exact (fr.rf.wm (by omega)).wt
      · rw [iI_cl (by omega) (by omega)]
        have hna : (if bl = 0 then (w : Int) else -(w : Int)).natAbs = w := by split <;> omega
        refine ⟨by rw [hna]; omega, ?_, fun k hk => ?_⟩
        · rw [mm_sT, mm_sI rs, if_pos (by omega), hna, hs]
          rcases hb with e | e
          · rw [e, if_pos rfl, if_pos rfl, if_neg (by omega)]
          · rw [e]
            simp only [show ¬ (1 : Int) = 0 by decide, if_false]
            by_cases w0 : w = 0
            · subst w0
              simp [sz_0]
            · rw [if_pos (by omega)]
        · rw [hna] at hk ⊢
          rw [mm_sT, mm_sI rs, if_neg (by omega)]
          exact hl k (by omega)
      · rw [iI_add, iI_add, tp_sT ⟨by omega, by omega⟩]
    refine j_M_done_26 ?_
    rw [M.r1, iI_0]
    have rb : rI bl := ⟨by omega, by omega⟩
    refine ⟨M.1, fun c => ?_, fun c => ?_⟩
    · rw [iI_eq rb ⟨by omega, by omega⟩] at c
      exact j_M_done_41 (l43 _ (by rw [if_pos c]))
    · rw [iI_eq rb ⟨by omega, by omega⟩] at c
      rw [iI_neg]
      exact l43 _ (by rw [if_neg c])
  -- the loop
  have loop : ∀ k : Nat, k ≤ n → w < B3 ^ k → J 163 3 0 0 [.ref m, .int (iI a), uu, .int (iI bl), .int (iI k)] [] h (fun r h' => r = some (.int (iI a)) ∧ fr m a h h' ∧ NU m h' a (if bl = 0 then (w : Int) else -(w : Int)) ∧ mI h' m 2 = a + sz B3 w + 1) := by
    intro k
    induction k with
    | zero =>
      intro _ hk
      have e : sz B3 w = 0 := sz_eq (by decide) hk (Or.inl rfl)
      refine j_M_done_3 ⟨fun _ => l26 0 e.symm, fun c => absurd (by rw [iI_0]; exact (iI_le ⟨by omega, by omega⟩ ⟨by omega, by omega⟩).mpr (by omega)) c⟩
    | succ k ih =>
      intro hkn hk
      refine j_M_done_3 ?_
      rw [M.r1, iI_add, gI_at (by omega) (by omega), iI_add]
      have hlim := hl k (by omega)
      have e1 : ((a : Int) + ((k + 1 : Nat) : Int)).toNat = a + 1 + k := by omega
      rw [e1, hlim]
      have hd : dg B3 w k < 1073741824 := dg_lt (by decide)
      refine ⟨fun c => ?_, fun c => ⟨M.1, M.ixL (by omega) (by omega), fun c2 => ?_, fun c2 => ?_⟩⟩
      · rw [iI_0, iI_le ⟨by omega, by omega⟩ ⟨by omega, by omega⟩] at c
        omega
      · rw [iI_0, iI_eq ⟨by omega, by omega⟩ ⟨by omega, by omega⟩] at c2
        have e : sz B3 w = k + 1 := sz_eq (by decide) hk (Or.inr (by rw [Nat.add_sub_cancel]; omega))
        exact l26 (k + 1) e.symm
      · rw [iI_0, iI_eq ⟨by omega, by omega⟩ ⟨by omega, by omega⟩] at c2
        rw [show ((k + 1 : Nat) : Int) + (-1) = (k : Int) by omega]
        exact ih (by omega) (lt_down (by decide) hk (by omega))
  exact loop n (Nat.le_refl n) hw
/-- copy(a): the same number at the top -/
theorem c_copy {m a t : Nat} {h : jHp} {v : Int} (M : Mo m h) (n : NU m h a v) (ht : mI h m 2 = t) (hat : a + sz B3 v.natAbs < t) (hr : t + sz B3 v.natAbs < 400000) :
    jRet 169 0 0 [.ref m, .int (iI a)] h (fun r h' => r = some (.int (iI t)) ∧ fr m t h h' ∧ NU m h' t v ∧ mI h' m 2 = t + sz B3 v.natAbs + 1) := by
  have hn := n.1
  refine jRet_of (by decide) (by decide) (Nat.le_of_ble_eq_true rfl) (j_M_copy_0 ⟨M.1, jRet_mono (c_size M n) ?_⟩)
  rintro _ h1 ⟨rfl, e1⟩
  rw [e1]
  refine ⟨_, rfl, M.1, jRet_mono (c_room M ht) ?_⟩
  rintro _ h2 ⟨rfl, e2⟩
  rw [e2]
  refine ⟨_, rfl, ?_⟩
  clear e1 e2 h1 h2
  generalize hs : sz B3 v.natAbs = s at *
  have loop : ∀ (d k : Nat) (g : jHp), k + d = s + 1 → fr m t h g → mI g m 2 = t + s + 1 → (∀ j, j < k → mm g m (t + j) = mm h m (a + j)) → J 169 15 0 0 [.ref m, .int (iI a), .int (iI (s : Int)), .int (iI (t : Int)), .int (iI (k : Int))] [] g (fun r h' => r = some (.int (iI t)) ∧ fr m t h h' ∧ NU m h' t v ∧ mI h' m 2 = t + s + 1) := by
    intro d
    induction d with
    | zero =>
      intro k g hk f hg hc
      refine j_M_copy_15 ⟨fun _ => j_M_copy_45 ⟨rfl, f, ⟨by rw [hs]; omega, ?_, fun j hj => ?_⟩, hg⟩, fun c => ?_⟩
      · have := hc 0 (by omega)
        rw [Nat.add_zero, Nat.add_zero] at this
        rw [this]
        exact n.2.1
      · rw [hs] at hj
        have := hc (1 + j) (by omega)
        rw [← Nat.add_assoc, ← Nat.add_assoc] at this
        rw [this]
        exact n.2.2 j (by rw [hs]; exact hj)
      · rw [iI_lt ⟨by omega, by omega⟩ ⟨by omega, by omega⟩] at c
        omega
    | succ d ih =>
      intro k g hk f hg hc
      have Mg := M.sk f.1
      refine j_M_copy_15 ?_
      rw [Mg.r1, iI_add, iI_add, iI_add, gI_at (by omega) (by omega)]
      refine ⟨fun c => ?_, fun c => ⟨Mg.1, Mg.1, Mg.ixL (by omega) (by omega), Mg.ix (by omega) (by omega), ?_⟩⟩
      · rw [iI_lt ⟨by omega, by omega⟩ ⟨by omega, by omega⟩] at c
        omega
      · rw [iI_cl (by omega) (by omega), show ((a : Int) + (k : Int)).toNat = a + k by omega, show ((t : Int) + (k : Int)).toNat = t + k by omega]
        have hv : rI (mm g m (a + k)) := rI_mI g (m + 1) (a + k)
        refine ih (k + 1) _ (by omega) (f.wm (by omega)) (by rw [tp_sI]; exact hg) (fun j hj => ?_)
        rw [mm_sI hv]
        by_cases e : j = k
        · subst e
          rw [if_pos rfl]
          exact f.at (by omega)
        · rw [if_neg (by omega)]
          exact hc j (by omega)
  exact loop (s + 1) 0 _ (by omega) fr.rf.wt (by rw [tp_sT ⟨by omega, by omega⟩]) (fun j hj => by omega)
theorem NU.neg {m a : Nat} {h : jHp} {v : Int} (n : NU m h a v) : NU m (sI h (m + 1) a (iI (-mm h m a))) a (-v) := by
  have h1 := n.1
  have h2 := n.2.1
  have rv : rI (-mm h m a) := by rw [h2]; unfold rI; split <;> omega
  refine ⟨by rw [Int.natAbs_neg]; exact h1, ?_, fun k hk => ?_⟩
  · rw [mm_sI rv, if_pos rfl, Int.natAbs_neg, h2]
    by_cases e0 : v = 0
    · subst e0
      simp [sz_0]
    · by_cases e : v < 0
      · rw [if_pos e, if_neg (by omega), Int.neg_neg]
      · rw [if_neg e, if_pos (by omega)]
  · rw [Int.natAbs_neg] at hk ⊢
    rw [mm_sI rv, if_neg (by omega)]
    exact n.2.2 k hk
theorem c_turned {m a t : Nat} {h : jHp} {v : Int} (M : Mo m h) (n : NU m h a v) (ht : mI h m 2 = t) (hat : a + sz B3 v.natAbs < t) (hr : t + sz B3 v.natAbs < 400000) :
    jRet 168 0 0 [.ref m, .int (iI a)] h (fun r h' => r = some (.int (iI t)) ∧ fr m t h h' ∧ NU m h' t (-v) ∧ mI h' m 2 = t + sz B3 v.natAbs + 1) := by
  refine jRet_of (by decide) (by decide) (Nat.le_of_ble_eq_true rfl) (j_M_turned_0 ⟨M.1, jRet_mono (c_copy M n ht hat hr) ?_⟩)
  rintro _ h1 ⟨rfl, f, n1, t1⟩
  have M1 := M.sk f.1
  refine ⟨_, rfl, M1.1, M1.1, ?_⟩
  rw [M1.r1, gI_at (by omega) (by omega), iI_neg, iI_cl (by omega) (by omega), Int.toNat_natCast]
  exact ⟨M1.ixL (by omega) (by omega), M1.ix (by omega) (by omega), rfl, f.wm (by omega), n1.neg, by rw [tp_sI]; exact t1⟩
