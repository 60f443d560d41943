/-! dividing by one limb: pure, and the method -/
theorem short_q {B v d k : Nat} (hB : 2 ≤ B) (hd : 0 < d) : dg B (v / d) k = (v / B ^ (k + 1) % d * B + dg B v k) / d := by
  have hp := Nat.pow_pos (n := k) (show 0 < B by omega)
  have h1 : v / d / B ^ k = v / B ^ k / d := by rw [Nat.div_div_eq_div_mul, Nat.div_div_eq_div_mul, Nat.mul_comm]
  unfold dg
  rw [h1]
  have h2 := div_succ B v k
  unfold dg at h2
  have h3 := Nat.div_add_mod (v / B ^ (k + 1)) d
  have h4 := Nat.mod_lt (v / B ^ (k + 1)) hd
  have h5 := Nat.mod_lt (v / B ^ k) (show 0 < B by omega)
  have e : v / B ^ k = (v / B ^ (k + 1) % d * B + v / B ^ k % B) + d * (v / B ^ (k + 1) / d * B) := by
    have : B * (v / B ^ (k + 1)) = B * (d * (v / B ^ (k + 1) / d)) + B * (v / B ^ (k + 1) % d) := by rw [← Nat.mul_add, h3]
    have e2 : d * (v / B ^ (k + 1) / d * B) = B * (d * (v / B ^ (k + 1) / d)) := by simp only [Nat.mul_comm, Nat.mul_left_comm, Nat.mul_assoc]
    rw [e2, Nat.mul_comm (v / B ^ (k + 1) % d)]
    omega
  have e3 : v / B ^ k / d = (v / B ^ (k + 1) % d * B + v / B ^ k % B) / d + v / B ^ (k + 1) / d * B := by
    conv => lhs; rw [e]
    rw [Nat.add_mul_div_left _ _ hd]
  rw [e3, Nat.add_mul_mod_self_right, Nat.mod_eq_of_lt]
  rw [Nat.div_lt_iff_lt_mul hd]
  have h6 : (v / B ^ (k + 1) % d + 1) * B ≤ d * B := Nat.mul_le_mul_right B h4
  rw [Nat.add_mul, Nat.one_mul] at h6
  rw [Nat.mul_comm B d]
  omega
theorem short_r {B v d k : Nat} (hd : 0 < d) : (v / B ^ (k + 1) % d * B + dg B v k) % d = v / B ^ k % d := by
  rw [div_succ B v k, Nat.add_mod, Nat.mul_comm (v / B ^ (k + 1) % d), Nat.mul_mod_mod, ← Nat.add_mod]
theorem or_add {x y k : Nat} (h : y < 2 ^ k) : x * 2 ^ k ||| y = x * 2 ^ k + y := by
  rw [← Nat.shiftLeft_eq, Nat.shiftLeft_add_eq_or_of_lt h]
theorem lI_or30 {r y : Nat} (hr : r < 1073741824) (hy : y < 1073741824) : (lI (r : Int) <<< ((iI 30).toInt64 &&& 63)) ||| lI (y : Int) = lI (((r * 1073741824 + y : Nat)) : Int) := by
  have h1 : lI (r : Int) <<< ((iI 30).toInt64 &&& 63) = lI ((r : Int) * (2 : Int) ^ 30) := lI_shl (a := (r : Int)) 30 (by omega) (by decide)
  rw [h1]
  have e1 : lI ((r : Int) * (2 : Int) ^ 30) = lN (r * 2 ^ 30) := by
    rw [lN_lI]
    congr 1
  have e2 : lI (y : Int) = lN y := (lN_lI y).symm
  rw [e1, e2, wb_or (by omega) (by omega), or_add (by omega), lN_lI]
