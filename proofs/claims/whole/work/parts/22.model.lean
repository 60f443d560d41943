/-! the model's object and its numbers -/
def mA : List (Nat × Nat × Nat) := [(1, 1, 400000), (3, 2, 400), (4, 3, 400), (5, 4, 400), (8, 5, 24), (9, 6, 24), (10, 7, 8), (11, 8, 8), (12, 9, 8), (13, 10, 8), (14, 11, 8), (15, 12, 8), (16, 13, 8), (17, 14, 8), (18, 15, 8), (22, 16, 64), (23, 17, 4), (24, 18, 1800), (25, 19, 72), (26, 20, 1000), (28, 21, 8), (29, 22, 8), (32, 23, 3), (33, 24, 60), (34, 25, 3), (35, 26, 4), (36, 27, 12)]
def Mo (m : Nat) (h : jHp) : Prop := isO h m 9 ∧ ∀ x ∈ mA, gR h m x.1 = m + x.2.1 ∧ jz h (m + x.2.1) = (10, x.2.2)
/-- nothing but ints differ -/
def sk (h h' : jHp) : Prop := h'.1 = h.1 ∧ h'.2.2 = h.2.2
theorem sk.rf {h : jHp} : sk h h := ⟨rfl, rfl⟩
theorem sk.tr {a b c : jHp} (h1 : sk a b) (h2 : sk b c) : sk a c := ⟨h2.1.trans h1.1, h2.2.trans h1.2⟩
theorem sk.sI {h h' : jHp} {p k : Nat} {v : Int32} (h1 : sk h h') : sk h (sI h' p k v) := ⟨h1.1, h1.2⟩
theorem sk.z {h h' : jHp} (s : sk h h') : jz h' = jz h := by unfold jz; rw [s.1]
theorem sk.r {h h' : jHp} (s : sk h h') : gR h' = gR h := by unfold gR; rw [s.2]
theorem sk.l {h h' : jHp} (s : sk h h') : gL h' = gL h := by unfold gL; rw [s.2]
theorem sk.n {h h' : jHp} (s : sk h h') : jn h' = jn h := by unfold jn; rw [s.1]
theorem sk.o {h h' : jHp} (s : sk h h') {p c : Nat} (o : isO h p c) : isO h' p c := by unfold isO; rw [s.z]; exact o
theorem Mo.sk {m : Nat} {h h' : jHp} (M : Mo m h) (s : sk h h') : Mo m h' := ⟨s.o M.1, fun x hx => by rw [s.r, s.z]; exact M.2 x hx⟩
theorem Mo.sI {m : Nat} {h : jHp} {p k : Nat} {v : Int32} (M : Mo m h) : Mo m (sI h p k v) := M.sk (sk.rf.sI)
theorem Mo.r1 {m : Nat} {h : jHp} (M : Mo m h) : gR h m 1 = m + 1 := (M.2 (1, 1, 400000) (by decide)).1
theorem Mo.z1 {m : Nat} {h : jHp} (M : Mo m h) : jz h (m + 1) = (10, 400000) := (M.2 (1, 1, 400000) (by decide)).2
theorem Mo.ix {m : Nat} {h : jHp} (M : Mo m h) {a : Int} (h0 : 0 ≤ a) (h1 : a < 400000) : ix h (m + 1) 10 (iI a) := ⟨by rw [M.z1], by rw [M.z1]; exact iI_in h0 (by exact h1) (by decide)⟩
theorem Mo.ixL {m : Nat} {h : jHp} (M : Mo m h) {a : Int} (h0 : 0 ≤ a) (h1 : a < 400000) : ixL h (m + 1) (iI a) := ⟨Or.inl (M.ix h0 h1).1, (M.ix h0 h1).2⟩
abbrev B3 : Nat := 1073741824
/-- the cell k of mem -/
def mm (h : jHp) (m k : Nat) : Int := mI h (m + 1) k
/-- the number v lies at a -/
def NU (m : Nat) (h : jHp) (a : Nat) (v : Int) : Prop := a + sz B3 v.natAbs < 400000 ∧ mm h m a = (if v < 0 then -(sz B3 v.natAbs : Int) else (sz B3 v.natAbs : Int)) ∧ ∀ k, k < sz B3 v.natAbs → mm h m (a + 1 + k) = dg B3 v.natAbs k
/-- mem below t, and all else but top, as before -/
def fr (m t : Nat) (h h' : jHp) : Prop := sk h h' ∧ ∀ p k, ¬ (p = m + 1 ∧ t ≤ k) → ¬ (p = m ∧ k = 2) → gI h' p k = gI h p k
theorem fr.rf {m t : Nat} {h : jHp} : fr m t h h := ⟨sk.rf, fun _ _ _ _ => rfl⟩
theorem fr.tr {m t t' : Nat} {a b c : jHp} (h1 : fr m t a b) (h2 : fr m t' b c) (ht : t ≤ t') : fr m t a c :=
  ⟨h1.1.tr h2.1, fun p k q1 q2 => (h2.2 p k (fun z => q1 ⟨z.1, by omega⟩) q2).trans (h1.2 p k q1 q2)⟩
theorem fr.at {m t k : Nat} {h h' : jHp} (f : fr m t h h') (hk : k < t) : mm h' m k = mm h m k := by
  unfold mm mI
  rw [f.2 (m + 1) k (fun z => by omega) (fun z => by omega)]
theorem fr.nu {m t a : Nat} {h h' : jHp} {v : Int} (f : fr m t h h') (n : NU m h a v) (ha : a + sz B3 v.natAbs < t) : NU m h' a v :=
  ⟨n.1, by rw [f.at (by omega)]; exact n.2.1, fun k hk => by rw [f.at (by omega)]; exact n.2.2 k hk⟩
/-- size(a): the count of a number's limbs -/
theorem c_size {m a : Nat} {h : jHp} {v : Int} (M : Mo m h) (n : NU m h a v) : jRet 166 0 0 [.ref m, .int (iI a)] h (fun r h' => r = some (.int (iI (sz B3 v.natAbs))) ∧ h' = h) := by
  have ha := n.1
  have i := M.ixL (a := a) (by omega) (by omega)
  have hv : gI h (m + 1) (iI (a : Int)).toNatClampNeg = iI (if v < 0 then -(sz B3 v.natAbs : Int) else (sz B3 v.natAbs : Int)) := by
    rw [iI_cl (by omega) (by omega), gI_mI]
    exact congrArg iI n.2.1
  refine jRet_of (by decide) (by decide) (Nat.le_of_ble_eq_true rfl) (j_M_size_0 ?_)
  rw [M.r1, hv, iI_0]
  refine ⟨M.1, i, fun c => ?_, fun c => ⟨M.1, i, ?_⟩⟩
  · refine j_M_size_19 ?_
    rw [M.r1, hv]
    refine ⟨M.1, i, j_M_size_25 ⟨?_, rfl⟩⟩
    rw [iI_le ⟨by omega, by omega⟩ ⟨by split <;> omega, by split <;> omega⟩] at c
    split
    · rename_i hneg
      rw [if_pos hneg] at c
      have := (sz_pos (B := B3) (v := v.natAbs) (by decide)).mpr (by omega)
      omega
    · rfl
  · rw [iI_le ⟨by omega, by omega⟩ ⟨by split <;> omega, by split <;> omega⟩] at c
    refine j_M_size_25 ⟨?_, rfl⟩
    rw [iI_neg]
    split
    · rw [Int.neg_neg]
    · rename_i hneg
      rw [if_neg hneg] at c
      omega
theorem c_sign {m a : Nat} {h : jHp} {v : Int} (M : Mo m h) (n : NU m h a v) : jRet 165 0 0 [.ref m, .int (iI a)] h (fun r h' => r = some (.int (iI v.sign)) ∧ h' = h) := by
  have ha := n.1
  have i := M.ixL (a := a) (by omega) (by omega)
  have hv : gI h (m + 1) (iI (a : Int)).toNatClampNeg = iI (if v < 0 then -(sz B3 v.natAbs : Int) else (sz B3 v.natAbs : Int)) := by
    rw [iI_cl (by omega) (by omega), gI_mI]
    exact congrArg iI n.2.1
  have hp := sz_pos (B := B3) (v := v.natAbs) (by decide)
  refine jRet_of (by decide) (by decide) (Nat.le_of_ble_eq_true rfl) (j_M_sign_0 ?_)
  rw [M.r1, hv, iI_0]
  have r1 : rI (if v < 0 then -(sz B3 v.natAbs : Int) else (sz B3 v.natAbs : Int)) := ⟨by split <;> omega, by split <;> omega⟩
  have r0 : rI 0 := ⟨by omega, by omega⟩
  refine ⟨M.1, i, fun c => ?_, fun c => ?_⟩
  · rw [iI_le r1 r0] at c
    refine j_M_sign_13 ?_
    rw [M.r1, hv, iI_0]
    refine ⟨M.1, i, fun c2 => ?_, fun c2 => ?_⟩
    · rw [iI_le r0 r1] at c2
      refine j_M_sign_26 (j_M_sign_27 ⟨?_, rfl⟩)
      have : v = 0 := by split at c <;> rename_i q <;> simp only [q, if_true, if_false] at c2 <;> omega
      subst this
      rfl
    · rw [iI_le r0 r1] at c2
      refine j_M_sign_27 ⟨?_, rfl⟩
      have : v < 0 := by split at c2 <;> omega
      rw [Int.sign_eq_neg_one_of_neg this]
  · rw [iI_le r1 r0] at c
    refine j_M_sign_27 ⟨?_, rfl⟩
    have : 0 < v := by split at c <;> omega
    rw [Int.sign_eq_one_of_pos this]
