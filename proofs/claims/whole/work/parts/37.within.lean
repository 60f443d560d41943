/-! isWithin: a corner on a piece, at neither end -/
theorem mul_bd {p q : Int} (hp : p.natAbs ≤ 2000) (hq : q.natAbs ≤ 2000) : -4000000 ≤ p * q ∧ p * q ≤ 4000000 := by
  have h1 : (p * q).natAbs ≤ 2000 * 2000 := by rw [Int.natAbs_mul]; exact Nat.mul_le_mul hp hq
  omega
theorem crs_bd {X Y : Nat → Int} {a b c : Nat} (hX : ∀ k, k = a ∨ k = b ∨ k = c → -1000 ≤ X k ∧ X k ≤ 1000) (hY : ∀ k, k = a ∨ k = b ∨ k = c → -1000 ≤ Y k ∧ Y k ≤ 1000) : -8000000 ≤ crs X Y a b c ∧ crs X Y a b c ≤ 8000000 := by
  have x1 := hX a (by omega)
  have x2 := hX b (by omega)
  have x3 := hX c (by omega)
  have y1 := hY a (by omega)
  have y2 := hY b (by omega)
  have y3 := hY c (by omega)
  have m1 := mul_bd (p := X b - X a) (q := Y c - Y a) (by omega) (by omega)
  have m2 := mul_bd (p := Y b - Y a) (q := X c - X a) (by omega) (by omega)
  unfold crs
  omega
def dot (X Y : Nat → Int) (a b c : Nat) : Int := (X c - X a) * (X c - X b) + (Y c - Y a) * (Y c - Y b)
theorem c_isWithin {m a b c : Nat} {h : jHp} (M : Mo m h) (ha : a < 24) (hb : b < 24) (hc : c < 24) (hX : ∀ k, k < 24 → -1000 ≤ mI h (m + 5) k ∧ mI h (m + 5) k ≤ 1000) (hY : ∀ k, k < 24 → -1000 ≤ mI h (m + 6) k ∧ mI h (m + 6) k ≤ 1000) :
    jRet 136 0 0 [.ref m, .int (iI a), .int (iI b), .int (iI c)] h (fun r h' => r = some (.int (iI (if crs (mI h (m + 5)) (mI h (m + 6)) a b c = 0 ∧ dot (mI h (m + 5)) (mI h (m + 6)) a b c < 0 then 1 else 0))) ∧ h' = h) := by
  have x1 := hX a ha
  have x2 := hX b hb
  have x3 := hX c hc
  have y1 := hY a ha
  have y2 := hY b hb
  have y3 := hY c hc
  have i1 : ∀ k : Nat, k < 24 → ixL h (m + 5) (iI (k : Int)) := fun k hk => ixL_of M.a8.2 (by omega) (by omega) (by decide)
  have i2 : ∀ k : Nat, k < 24 → ixL h (m + 6) (iI (k : Int)) := fun k hk => ixL_of M.a9.2 (by omega) (by omega) (by decide)
  have g : ∀ (q k : Nat), k < 24 → gI h q (iI (k : Int)).toNatClampNeg = iI (mI h q k) := fun q k hk => by rw [gI_q (by omega) (by omega), Int.toNat_natCast]
  have m1 := mul_bd (p := mI h (m + 5) c - mI h (m + 5) a) (q := mI h (m + 5) c - mI h (m + 5) b) (by omega) (by omega)
  have m2 := mul_bd (p := mI h (m + 6) c - mI h (m + 6) a) (q := mI h (m + 6) c - mI h (m + 6) b) (by omega) (by omega)
  have cb := crs_bd (X := mI h (m + 5)) (Y := mI h (m + 6)) (a := a) (b := b) (c := c) (fun k hk => hX k (by omega)) (fun k hk => hY k (by omega))
  have r0 : rL ((0 : Nat) : Int) := ⟨by decide, by decide⟩
  have no : ¬ (crs (mI h (m + 5)) (mI h (m + 6)) a b c = 0 ∧ dot (mI h (m + 5)) (mI h (m + 6)) a b c < 0) → J 136 22 0 0 [uu, uu, uu, uu, uu, uu] [] h (fun r h' => r = some (.int (iI (if crs (mI h (m + 5)) (mI h (m + 6)) a b c = 0 ∧ dot (mI h (m + 5)) (mI h (m + 6)) a b c < 0 then 1 else 0))) ∧ h' = h) :=
    fun z => j_M_isWithin_22 ⟨Or.inl rfl, by rw [if_neg z], rfl⟩
  refine jRet_of (by decide) (by decide) (Nat.le_of_ble_eq_true rfl) (j_M_isWithin_0 ?_)
  rw [iI_eq ⟨by omega, by omega⟩ ⟨by omega, by omega⟩, iI_eq ⟨by omega, by omega⟩ ⟨by omega, by omega⟩]
  refine ⟨fun e => no ?_, fun e => ⟨fun e2 => no ?_, fun e2 => ⟨M.1, jRet_mono (c_side M ha hb hc hX hY) ?_⟩⟩⟩
  · obtain rfl : c = a := by omega
    unfold dot
    simp
  · obtain rfl : c = b := by omega
    unfold dot
    simp
  · intro v1 h1 q1
    obtain ⟨e3, e4⟩ := q1
    rw [e4]
    refine ⟨_, e3, ?_⟩
    rw [lg_cmp_eq, lI_eq ⟨by omega, by omega⟩ r0]
    refine ⟨fun z => j_M_isWithin_24 ?_, fun z => no (fun y => z y.1)⟩
    rw [M.a8.1, M.a9.1, g _ a ha, g _ b hb, g _ c hc, g _ a ha, g _ b hb, g _ c hc, iI_sub, iI_sub, iI_sub, iI_sub, iI_64 ⟨by omega, by omega⟩, iI_64 ⟨by omega, by omega⟩, iI_64 ⟨by omega, by omega⟩, iI_64 ⟨by omega, by omega⟩, lI_mul, lI_mul, lI_add, lg_cmp_ge, lI_le r0 ⟨by omega, by omega⟩]
    refine ⟨M.1, i1 c hc, M.1, i1 a ha, M.1, i1 c hc, M.1, i1 b hb, M.1, i2 c hc, M.1, i2 a ha, M.1, i2 c hc, M.1, i2 b hb, fun w => j_M_isWithin_96 (j_M_isWithin_97 ⟨Or.inl rfl, ?_, rfl⟩), fun w => j_M_isWithin_97 ⟨Or.inr rfl, ?_, rfl⟩⟩
    · rw [if_neg]
      unfold dot
      omega
    · rw [if_pos]
      unfold dot
      exact ⟨z, by omega⟩
