/-! a row of a product: pure -/
def mU (B S T Y i k : Nat) : Nat := S % B ^ (i + k) + T * (Y % B ^ k) * B ^ i
theorem mU_0 {B S T Y i : Nat} : mU B S T Y i 0 = S % B ^ i := by simp [mU, Nat.mod_one]
theorem mU_s {B S T Y i k : Nat} : mU B S T Y i (k + 1) = mU B S T Y i k + (dg B S (i + k) + T * dg B Y k) * B ^ (i + k) := by
  unfold mU
  rw [show i + (k + 1) = i + k + 1 by omega, mod_succ B S (i + k), mod_succ B Y k]
  have e : T * (Y % B ^ k + dg B Y k * B ^ k) * B ^ i = T * (Y % B ^ k) * B ^ i + T * dg B Y k * B ^ (i + k) := by
    rw [Nat.mul_add, Nat.add_mul, Nat.pow_add]
    simp only [Nat.mul_comm, Nat.mul_left_comm, Nat.mul_assoc]
  rw [e, Nat.add_mul]
  omega
theorem mU_lt {B S T Y i k : Nat} (hB : 2 ≤ B) (hT : T < B) : mU B S T Y i k / B ^ (i + k) < B := by
  have hp := Nat.pow_pos (n := i + k) (show 0 < B by omega)
  have hk := Nat.pow_pos (n := k) (show 0 < B by omega)
  rw [Nat.div_lt_iff_lt_mul hp]
  unfold mU
  have h1 := Nat.mod_lt S hp
  have h2 := Nat.mod_lt Y hk
  have h3 : T * (Y % B ^ k) * B ^ i ≤ (B - 1) * B ^ (i + k) := by
    rw [Nat.add_comm i k, Nat.pow_add, ← Nat.mul_assoc]
    exact Nat.mul_le_mul_right _ (Nat.mul_le_mul (by omega) (Nat.le_of_lt h2))
  have h4 : (B - 1) * B ^ (i + k) + B ^ (i + k) = B * B ^ (i + k) := by
    rw [← Nat.succ_mul]
    congr 1
    omega
  omega
theorem dg_mod {B v n j : Nat} (hB : 2 ≤ B) (h : j < n) : dg B (v % B ^ n) j = dg B v j := by
  have e : v = v % B ^ n + v / B ^ n * B ^ n := by
    have := Nat.div_add_mod v (B ^ n)
    rw [Nat.mul_comm] at this
    omega
  conv => rhs; rw [e]
  exact (acc_low hB h).symm
theorem mU_e {B X Y i : Nat} (hB : 2 ≤ B) : mU B ((X % B ^ i) * Y) (dg B X i) Y i (sz B Y) = (X % B ^ (i + 1)) * Y := by
  have hp := Nat.pow_pos (n := i) (show 0 < B by omega)
  have h1 : X % B ^ i * Y < B ^ (i + sz B Y) := by
    rw [Nat.pow_add]
    exact Nat.mul_lt_mul'' (Nat.mod_lt _ hp) (sz_lt hB)
  unfold mU
  rw [Nat.mod_eq_of_lt h1, mod_big hB (Nat.le_refl _), mod_succ, Nat.add_mul]
  congr 1
  rw [Nat.mul_assoc, Nat.mul_assoc, Nat.mul_comm Y]
theorem mS_lt {B X Y i : Nat} (hB : 2 ≤ B) : X % B ^ i * Y < B ^ (i + sz B Y) := by
  have hp := Nat.pow_pos (n := i) (show 0 < B by omega)
  rw [Nat.pow_add]
  exact Nat.mul_lt_mul'' (Nat.mod_lt _ hp) (sz_lt hB)
