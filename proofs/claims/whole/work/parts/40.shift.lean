/-! shifts of limbs -/
theorem sh_bv : ∀ s, s < 32 → (((nI s) &&& 31 : Int32).toBitVec.smod 32).toNat = s := by decide +kernel
theorem iI_tn (a : Int) : (iI a).toBitVec.toNat = (a % 4294967296).toNat := by
  show (BitVec.ofInt 32 a).toNat = _
  rw [BitVec.toNat_ofInt]
  rfl
theorem iI_shl (a s : Nat) (hs : s < 32) : iI (a : Int) <<< (iI (s : Int) &&& 31) = iI ((a * 2 ^ s : Nat) : Int) := by
  apply Int32.toBitVec_inj.mp
  apply BitVec.eq_of_toNat_eq
  rw [pk_shl _ _ s (by rw [← nI_iI]; exact sh_bv s hs), iI_tn, iI_tn]
  have e1 : ((a : Int) % 4294967296).toNat = a % 4294967296 := by omega
  have e2 : (((a * 2 ^ s : Nat) : Int) % 4294967296).toNat = (a * 2 ^ s) % 4294967296 := by
    generalize a * 2 ^ s = z
    omega
  rw [e1, e2, show (2 : Nat) ^ 32 = 4294967296 from rfl, Nat.mul_comm, Nat.mul_mod_mod, Nat.mul_comm]
theorem iI_shr (a s : Nat) (ha : a < 2147483648) (hs : s < 32) : iI (a : Int) >>> (iI (s : Int) &&& 31) = iI ((a / 2 ^ s : Nat) : Int) := by
  have h1 := pk_shrN (n := a) (by omega) (nI s &&& 31) s (sh_bv s hs)
  rw [nI_iI, nI_iI, nI_iI] at h1
  exact h1
theorem iI_or {x y k : Nat} (hy : y < 2 ^ k) (h : x * 2 ^ k + y < 2147483648) : iI ((x * 2 ^ k : Nat) : Int) ||| iI (y : Int) = iI ((x * 2 ^ k + y : Nat) : Int) := by
  apply Int32.toBitVec_inj.mp
  apply BitVec.eq_of_toNat_eq
  rw [Int32.toBitVec_or, BitVec.toNat_or, iI_tn, iI_tn, iI_tn]
  have e : ∀ z : Nat, z < 2147483648 → ((z : Int) % 4294967296).toNat = z := by
    intro z hz
    omega
  rw [e _ (by omega), e y (by omega), e _ h, or_add hy]
theorem pw_30 {s : Nat} (hs : s ≤ 30) : 1073741824 = 2 ^ (30 - s) * 2 ^ s := by
  rw [← Nat.pow_add, Nat.sub_add_cancel hs]
theorem shl_div {V s j : Nat} (hs : s ≤ 30) : (V % B3 ^ (j + 1)) * 2 ^ s / B3 ^ (j + 1) = dg B3 V j / 2 ^ (30 - s) := by
  have hp : 0 < B3 ^ j := Nat.pow_pos (by decide)
  have h2 : 0 < 2 ^ s := Nat.pow_pos (by decide)
  rw [mod_succ, Nat.pow_succ, ← Nat.div_div_eq_div_mul]
  have e1 : (V % B3 ^ j + dg B3 V j * B3 ^ j) * 2 ^ s = V % B3 ^ j * 2 ^ s + (dg B3 V j * 2 ^ s) * B3 ^ j := by
    rw [Nat.add_mul, Nat.mul_assoc, Nat.mul_comm (B3 ^ j), ← Nat.mul_assoc]
  rw [e1, Nat.add_mul_div_right _ _ hp]
  have e2 : V % B3 ^ j * 2 ^ s / B3 ^ j < 2 ^ s := by
    rw [Nat.div_lt_iff_lt_mul hp, Nat.mul_comm (2 ^ s)]
    exact Nat.mul_lt_mul_of_pos_right (Nat.mod_lt _ hp) h2
  have e3 : 1073741824 = 2 ^ s * 2 ^ (30 - s) := by
    rw [Nat.mul_comm]
    exact pw_30 hs
  generalize V % B3 ^ j * 2 ^ s / B3 ^ j = c at e2 ⊢
  generalize dg B3 V j = d
  show (c + d * 2 ^ s) / 1073741824 = d / 2 ^ (30 - s)
  rw [e3, ← Nat.div_div_eq_div_mul, Nat.add_mul_div_right _ _ h2, Nat.div_eq_of_lt e2, Nat.zero_add]
theorem shl_add {H s c : Nat} (hs : s ≤ 30) (hc : c < 2 ^ s) : (H * 2 ^ s + c) % 1073741824 = H % 2 ^ (30 - s) * 2 ^ s + c := by
  have h2 : 0 < 2 ^ (30 - s) := Nat.pow_pos (by decide)
  have h3 := Nat.mod_lt H h2
  have e := pw_30 hs
  have e1 : H * 2 ^ s % 1073741824 = H % 2 ^ (30 - s) * 2 ^ s := by
    conv => lhs; rw [e]
    exact Nat.mul_mod_mul_right _ _ _
  have h4 : (H % 2 ^ (30 - s) + 1) * 2 ^ s ≤ 2 ^ (30 - s) * 2 ^ s := Nat.mul_le_mul_right _ h3
  rw [Nat.add_mul, Nat.one_mul, ← e] at h4
  rw [Nat.add_mod, e1]
  rw [Nat.mod_eq_of_lt (show c < 1073741824 by omega), Nat.mod_eq_of_lt (by omega)]
theorem shl_m {H s : Nat} (hs : s ≤ 30) : (H * 2 ^ s) % 1073741824 = H % 2 ^ (30 - s) * 2 ^ s := by
  have := shl_add (H := H) (c := 0) hs (Nat.pow_pos (by decide))
  exact this
theorem mod_down {H s : Nat} (hs : s ≤ 30) : H % 1073741824 % 2 ^ s = H % 2 ^ s := Nat.mod_mod_of_dvd _ ⟨2 ^ (30 - s), by rw [Nat.mul_comm]; exact pw_30 hs⟩
theorem shl_dg {V s k : Nat} (hs : s ≤ 30) : dg B3 (V * 2 ^ s) k = dg B3 V k % 2 ^ (30 - s) * 2 ^ s + (if k = 0 then 0 else dg B3 V (k - 1) / 2 ^ (30 - s)) ∧ (if k = 0 then 0 else dg B3 V (k - 1) / 2 ^ (30 - s)) < 2 ^ s := by
  have hp : 0 < B3 ^ k := Nat.pow_pos (by decide)
  have h2 : 0 < 2 ^ s := Nat.pow_pos (by decide)
  have hc : V % B3 ^ k * 2 ^ s / B3 ^ k = (if k = 0 then 0 else dg B3 V (k - 1) / 2 ^ (30 - s)) := by
    by_cases z : k = 0
    · rw [if_pos z, z, Nat.pow_zero, Nat.mod_one, Nat.zero_mul, Nat.zero_div]
    · rw [if_neg z]
      have := shl_div (V := V) (s := s) (j := k - 1) hs
      rw [show k - 1 + 1 = k by omega] at this
      exact this
  have hcl : V % B3 ^ k * 2 ^ s / B3 ^ k < 2 ^ s := by
    rw [Nat.div_lt_iff_lt_mul hp, Nat.mul_comm (2 ^ s)]
    exact Nat.mul_lt_mul_of_pos_right (Nat.mod_lt _ hp) h2
  rw [← hc]
  refine ⟨?_, hcl⟩
  have e : V * 2 ^ s / B3 ^ k = V / B3 ^ k * 2 ^ s + V % B3 ^ k * 2 ^ s / B3 ^ k := by
    have e1 := Nat.div_add_mod V (B3 ^ k)
    have e2 : V * 2 ^ s = V % B3 ^ k * 2 ^ s + (V / B3 ^ k * 2 ^ s) * B3 ^ k := by
      conv => lhs; rw [← e1]
      rw [Nat.add_mul, Nat.add_comm, Nat.mul_comm (B3 ^ k) (V / B3 ^ k), Nat.mul_assoc, Nat.mul_comm (B3 ^ k), ← Nat.mul_assoc]
    conv => lhs; rw [e2]
    rw [Nat.add_mul_div_right _ _ hp, Nat.add_comm]
  show V * 2 ^ s / B3 ^ k % 1073741824 = _
  rw [e, shl_add hs hcl]
  unfold dg
  rw [show V / B3 ^ k % B3 = V / B3 ^ k % 1073741824 from rfl, mod_down (show 30 - s ≤ 30 by omega)]
theorem shr_dg {R s k : Nat} (hs : s ≤ 30) : dg B3 R k = dg B3 (R * 2 ^ s) (k + 1) % 2 ^ s * 2 ^ (30 - s) + dg B3 (R * 2 ^ s) k / 2 ^ s ∧ dg B3 (R * 2 ^ s) k / 2 ^ s < 2 ^ (30 - s) := by
  have h2 : 0 < 2 ^ s := Nat.pow_pos (by decide)
  have e := pw_30 hs
  have hd : dg B3 (R * 2 ^ s) k < 1073741824 := dg_lt (by decide)
  have hq : dg B3 (R * 2 ^ s) k / 2 ^ s < 2 ^ (30 - s) := by
    rw [Nat.div_lt_iff_lt_mul h2, ← e]
    exact hd
  refine ⟨?_, hq⟩
  have h3 := div_succ B3 (R * 2 ^ s) k
  have e1 : R / B3 ^ k = R * 2 ^ s / B3 ^ (k + 1) * 2 ^ (30 - s) + dg B3 (R * 2 ^ s) k / 2 ^ s := by
    have e2 : R / B3 ^ k = R * 2 ^ s / B3 ^ k / 2 ^ s := by
      rw [Nat.div_div_eq_div_mul, Nat.mul_comm (B3 ^ k), ← Nat.div_div_eq_div_mul, Nat.mul_div_cancel _ h2]
    have e3 : B3 * (R * 2 ^ s / B3 ^ (k + 1)) = 2 ^ s * (R * 2 ^ s / B3 ^ (k + 1) * 2 ^ (30 - s)) := by
      generalize R * 2 ^ s / B3 ^ (k + 1) = Z
      show 1073741824 * Z = _
      rw [e, Nat.mul_comm (2 ^ (30 - s)), Nat.mul_assoc, Nat.mul_comm (2 ^ (30 - s)) Z]
    rw [e2, h3, e3, Nat.mul_add_div h2]
  have hs2 : 30 - s ≤ 30 := by omega
  show R / B3 ^ k % 1073741824 = _
  rw [e1, shl_add hs2 hq, show 30 - (30 - s) = s by omega]
  show _ = R * 2 ^ s / B3 ^ (k + 1) % 1073741824 % 2 ^ s * 2 ^ (30 - s) + _
  rw [mod_down hs]
