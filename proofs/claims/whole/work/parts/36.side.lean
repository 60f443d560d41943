/-! the model's corners: isCorner, status, side, sign0 -/
theorem Mo.a8 {m : Nat} {h : jHp} (M : Mo m h) : gR h m 8 = m + 5 ∧ jz h (m + 5) = (10, 24) := M.2 (8, 5, 24) (by decide)
theorem Mo.a9 {m : Nat} {h : jHp} (M : Mo m h) : gR h m 9 = m + 6 ∧ jz h (m + 6) = (10, 24) := M.2 (9, 6, 24) (by decide)
/-- which side of the line from a to b c is on -/
def crs (X Y : Nat → Int) (a b c : Nat) : Int := (X b - X a) * (Y c - Y a) - (Y b - Y a) * (X c - X a)
theorem c_status {m : Nat} {h : jHp} (M : Mo m h) : jRet 130 0 0 [.ref m] h (fun r h' => r = some (.int (gI h m 0)) ∧ h' = h) :=
  jRet_of (by decide) (by decide) (Nat.le_of_ble_eq_true rfl) (j_M_status_0 ⟨M.1, rfl, rfl⟩)
theorem c_isCorner {m : Nat} {h : jHp} {p n : Int} (M : Mo m h) (hp : rI p) (hn : mI h m 19 = n) : jRet 134 0 0 [.ref m, .int (iI p)] h (fun r h' => r = some (.int (iI (if 0 ≤ p ∧ p < n then 1 else 0))) ∧ h' = h) := by
  have rn : rI n := by rw [← hn]; exact rI_mI _ _ _
  refine jRet_of (by decide) (by decide) (Nat.le_of_ble_eq_true rfl) (j_M_isCorner_0 ?_)
  rw [gI_mI, hn, iI_0, iI_lt hp ⟨by omega, by omega⟩, iI_le rn hp]
  refine ⟨fun c => j_M_isCorner_16 (j_M_isCorner_17 ⟨Or.inl rfl, by rw [if_neg (by omega)], rfl⟩), fun c => ⟨M.1, fun c2 => j_M_isCorner_16 (j_M_isCorner_17 ⟨Or.inl rfl, by rw [if_neg (by omega)], rfl⟩), fun c2 => j_M_isCorner_17 ⟨Or.inr rfl, by rw [if_pos (by omega)], rfl⟩⟩⟩
theorem c_side {m a b c : Nat} {h : jHp} (M : Mo m h) (ha : a < 24) (hb : b < 24) (hc : c < 24) (hX : ∀ k, k < 24 → -1000 ≤ mI h (m + 5) k ∧ mI h (m + 5) k ≤ 1000) (hY : ∀ k, k < 24 → -1000 ≤ mI h (m + 6) k ∧ mI h (m + 6) k ≤ 1000) :
    jRet 137 0 0 [.ref m, .int (iI a), .int (iI b), .int (iI c)] h (fun r h' => r = some (.long (lI (crs (mI h (m + 5)) (mI h (m + 6)) a b c))) ∧ h' = h) := by
  have x1 := hX a ha
  have x2 := hX b hb
  have x3 := hX c hc
  have y1 := hY a ha
  have y2 := hY b hb
  have y3 := hY c hc
  have i1 : ∀ k : Nat, k < 24 → ixL h (m + 5) (iI (k : Int)) := fun k hk => ixL_of M.a8.2 (by omega) (by omega) (by decide)
  have i2 : ∀ k : Nat, k < 24 → ixL h (m + 6) (iI (k : Int)) := fun k hk => ixL_of M.a9.2 (by omega) (by omega) (by decide)
  have g : ∀ (q k : Nat), k < 24 → gI h q (iI (k : Int)).toNatClampNeg = iI (mI h q k) := fun q k hk => by rw [gI_q (by omega) (by omega), Int.toNat_natCast]
  refine jRet_of (by decide) (by decide) (Nat.le_of_ble_eq_true rfl) (j_M_side_0 ?_)
  rw [M.a8.1, M.a9.1, g _ a ha, g _ b hb, g _ c hc, g _ a ha, g _ b hb, g _ c hc, iI_sub, iI_sub, iI_sub, iI_sub, iI_64 ⟨by omega, by omega⟩, iI_64 ⟨by omega, by omega⟩, iI_64 ⟨by omega, by omega⟩, iI_64 ⟨by omega, by omega⟩, lI_mul, lI_mul, lI_sub]
  exact ⟨M.1, i1 b hb, M.1, i1 a ha, M.1, i2 c hc, M.1, i2 a ha, M.1, i2 b hb, M.1, i2 a ha, M.1, i1 c hc, M.1, i1 a ha, rfl, rfl⟩
theorem c_sign0 {h : jHp} {v : Int} (hv : rL v) : jRet 138 0 0 [.long (lI v)] h (fun r h' => r = some (.int (iI v.sign)) ∧ h' = h) := by
  have r0 : rL ((0 : Nat) : Int) := ⟨by decide, by decide⟩
  refine jRet_of (by decide) (by decide) (Nat.le_of_ble_eq_true rfl) (j_M_sign0_0 ?_)
  rw [lg_cmp_le, lI_le hv r0]
  refine ⟨fun c => j_M_sign0_10 ?_, fun c => j_M_sign0_21 ⟨by rw [Int.sign_eq_one_of_pos (show 0 < v by omega)], rfl⟩⟩
  rw [lg_cmp_ge, lI_le r0 hv]
  refine ⟨fun c2 => j_M_sign0_20 (j_M_sign0_21 ⟨?_, rfl⟩), fun c2 => j_M_sign0_21 ⟨by rw [Int.sign_eq_neg_one_of_neg (show v < 0 by omega)], rfl⟩⟩
  obtain rfl : v = 0 := by omega
  rfl
