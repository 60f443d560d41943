/-! taking a product's limbs away, also where it is too great -/
theorem lac_s {B x y k : Nat} (hB : 2 ≤ B) : lac B x y (k + 1) = if dg B x k < dg B y k + lac B x y k then 1 else 0 := by
  have hp := Nat.pow_pos (n := k) (show 0 < B by omega)
  have h1 := Nat.mod_lt x hp
  have h2 := Nat.mod_lt y hp
  unfold lac
  rw [mod_succ B x k, mod_succ B y k]
  generalize dg B x k = a
  generalize dg B y k = b
  generalize x % B ^ k = u at *
  generalize y % B ^ k = v at *
  generalize B ^ k = P at *
  rcases Nat.lt_trichotomy a b with c | c | c
  · have h3 : (a + 1) * P ≤ b * P := Nat.mul_le_mul_right P c
    rw [Nat.add_mul, Nat.one_mul] at h3
    rw [if_pos (by omega), if_pos (by split <;> omega)]
  · subst c
    by_cases d : u < v
    · rw [if_pos (by omega), if_pos d, if_pos (by omega)]
    · rw [if_neg (by omega), if_neg d, if_neg (by omega)]
  · have h3 : (b + 1) * P ≤ a * P := Nat.mul_le_mul_right P c
    rw [Nat.add_mul, Nat.one_mul] at h3
    rw [if_neg (by omega), if_neg (by split <;> omega)]
/-- the limbs of the difference, by 2^n -/
def dif (B x y n : Nat) : Nat := x % B ^ n + lac B x y n * B ^ n - y % B ^ n
theorem dif_int {B x y n : Nat} (hB : 2 ≤ B) : ((dif B x y n : Nat) : Int) = ((x % B ^ n : Nat) : Int) - ((y % B ^ n : Nat) : Int) + (lac B x y n : Int) * ((B ^ n : Nat) : Int) := by
  have hp := Nat.pow_pos (n := n) (show 0 < B by omega)
  have h1 := Nat.mod_lt x hp
  have h2 := Nat.mod_lt y hp
  unfold dif
  have h3 : y % B ^ n ≤ x % B ^ n + lac B x y n * B ^ n := by
    unfold lac
    generalize x % B ^ n = u at *
    generalize y % B ^ n = v at *
    generalize B ^ n = P at *
    split
    · rw [Nat.one_mul]
      omega
    · omega
  rw [Int.natCast_sub h3, Int.natCast_add, Int.natCast_mul]
  omega
theorem dif_lt {B x y n : Nat} (hB : 2 ≤ B) : dif B x y n < B ^ n := by
  have hp := Nat.pow_pos (n := n) (show 0 < B by omega)
  have h1 := Nat.mod_lt x hp
  have h2 := Nat.mod_lt y hp
  unfold dif lac
  generalize x % B ^ n = u at *
  generalize y % B ^ n = v at *
  generalize B ^ n = P at *
  split
  · rw [Nat.one_mul]
    omega
  · rw [Nat.zero_mul]
    omega
theorem dif_s {B x y n : Nat} (hB : 2 ≤ B) : dif B x y (n + 1) = dif B x y n + (dg B x n + B * lac B x y (n + 1) - dg B y n - lac B x y n) * B ^ n := by
  have hx := dg_lt (v := x) (k := n) hB
  have hy := dg_lt (v := y) (k := n) hB
  have hl := lac_s (x := x) (y := y) (k := n) hB
  have hl1 := lac_le (B := B) (x := x) (y := y) (k := n)
  have h0 : dg B y n + lac B x y n ≤ dg B x n + B * lac B x y (n + 1) := by
    rw [hl]
    split <;> omega
  apply Int.ofNat_inj.mp
  rw [dif_int hB, Int.natCast_add, dif_int hB, mod_succ B x n, mod_succ B y n, Int.natCast_mul, show dg B x n + B * lac B x y (n + 1) - dg B y n - lac B x y n = dg B x n + B * lac B x y (n + 1) - (dg B y n + lac B x y n) by omega, Int.natCast_sub h0]
  simp only [Int.natCast_add, Int.natCast_mul, Nat.pow_succ]
  generalize ((B ^ n : Nat) : Int) = P
  rw [Int.sub_mul, Int.add_mul, Int.add_mul]
  have e : (lac B x y (n + 1) : Int) * (P * (B : Int)) = (B : Int) * (lac B x y (n + 1) : Int) * P := by
    rw [Int.mul_comm P, ← Int.mul_assoc, Int.mul_comm (lac B x y (n + 1) : Int)]
  rw [e]
  omega
