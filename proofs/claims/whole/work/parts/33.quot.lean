/-! a quotient's guess from the top limbs is never too small -/
theorem quot_le {W D hi b P : Nat} (h1 : W < (hi + 1) * P) (h2 : b * P ≤ D) (hb : 0 < b) : W / D ≤ hi / b := by
  rw [Nat.le_div_iff_mul_le hb]
  rcases Nat.lt_or_ge hi (W / D * b) with q | q
  · have h3 : (hi + 1) * P ≤ W / D * b * P := Nat.mul_le_mul_right P q
    have h4 : W / D * b * P ≤ W / D * D := by
      rw [Nat.mul_assoc]
      exact Nat.mul_le_mul_left _ h2
    have h5 := Nat.div_mul_le_self W D
    omega
  · exact q
/-- the greatest g with g * D ≤ W -/
theorem quot_eq {W D g : Nat} (h1 : g * D ≤ W) (h2 : W < (g + 1) * D) : W / D = g := by
  have hD : 0 < D := by
    rcases Nat.eq_zero_or_pos D with q | q
    · rw [q, Nat.mul_zero] at h2
      omega
    · exact q
  apply Nat.le_antisymm
  · have := (Nat.div_lt_iff_lt_mul hD).mpr h2
    omega
  · exact (Nat.le_div_iff_mul_le hD).mpr h1
/-- limbs as a whole number, by Int -/
def evw (B : Int) (f : Nat → Int) : Nat → Int
  | 0 => 0
  | k + 1 => evw B f k + f k * B ^ k
theorem evw_dg {B v : Nat} {f : Nat → Int} : ∀ (k : Nat), (∀ j, j < k → f j = dg B v j) → evw (B : Int) f k = ((v % B ^ k : Nat) : Int)
  | 0, _ => by simp [evw, Nat.mod_one]
  | k + 1, h => by
    rw [evw, evw_dg k (fun j hj => h j (by omega)), h k (by omega), mod_succ, Int.natCast_add, Int.natCast_mul, Int.natCast_pow]
theorem evw_congr {B : Int} {f g : Nat → Int} : ∀ (k : Nat), (∀ j, j < k → f j = g j) → evw B f k = evw B g k
  | 0, _ => rfl
  | k + 1, h => by rw [evw, evw, evw_congr k (fun j hj => h j (by omega)), h k (by omega)]
