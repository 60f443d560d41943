/-! digits of a number at base B: their count sz, each dg -/
def szF (B : Nat) : Nat → Nat → Nat
  | 0, _ => 0
  | f + 1, v => if v = 0 then 0 else szF B f (v / B) + 1
def sz (B v : Nat) : Nat := szF B v v
def dg (B v k : Nat) : Nat := v / B ^ k % B
theorem szF_le {B : Nat} (hB : 2 ≤ B) : ∀ (f v n : Nat), v ≤ f → (szF B f v ≤ n ↔ v < B ^ n)
  | 0, v, n, h => by
    have : v = 0 := by omega
    subst this
    have := Nat.pow_pos (n := n) (show 0 < B by omega)
    simp [szF]
    omega
  | f + 1, v, n, h => by
    unfold szF
    by_cases e : v = 0
    · subst e
      have := Nat.pow_pos (n := n) (show 0 < B by omega)
      simp
      omega
    · rw [if_neg e]
      have hlt : v / B < v := Nat.div_lt_self (by omega) hB
      cases n with
      | zero =>
        simp
        omega
      | succ n =>
        rw [Nat.succ_le_succ_iff, szF_le hB f (v / B) n (by omega), Nat.div_lt_iff_lt_mul (by omega), Nat.pow_succ]
theorem sz_le {B v n : Nat} (hB : 2 ≤ B) : sz B v ≤ n ↔ v < B ^ n := szF_le hB v v n (Nat.le_refl v)
theorem sz_lt {B v : Nat} (hB : 2 ≤ B) : v < B ^ sz B v := (sz_le hB).mp (Nat.le_refl _)
theorem sz_0 {B : Nat} : sz B 0 = 0 := rfl
theorem sz_pos {B v : Nat} (hB : 2 ≤ B) : 0 < sz B v ↔ 0 < v := by
  have := sz_le (v := v) (n := 0) hB
  simp at this
  omega
theorem sz_mono {B v w : Nat} (hB : 2 ≤ B) (h : v ≤ w) : sz B v ≤ sz B w := (sz_le hB).mpr (Nat.lt_of_le_of_lt h (sz_lt hB))
theorem sz_low {B v : Nat} (hB : 2 ≤ B) (h : 0 < v) : B ^ (sz B v - 1) ≤ v := by
  rcases Nat.lt_or_ge v (B ^ (sz B v - 1)) with q | q
  · have h1 := (sz_le hB).mpr q
    have h2 := (sz_pos hB).mpr h
    omega
  · exact q
theorem dg_lt {B v k : Nat} (hB : 2 ≤ B) : dg B v k < B := Nat.mod_lt _ (by omega)
theorem dg_top {B v : Nat} (hB : 2 ≤ B) (h : 0 < v) : dg B v (sz B v - 1) ≠ 0 := by
  unfold dg
  have h1 := sz_low hB h
  have h2 := sz_lt (v := v) hB
  have h3 := (sz_pos hB).mpr h
  have hp := Nat.pow_pos (n := sz B v - 1) (show 0 < B by omega)
  have h4 : v / B ^ (sz B v - 1) < B := by
    rw [Nat.div_lt_iff_lt_mul hp, ← Nat.pow_succ', show (sz B v - 1).succ = sz B v by omega]
    exact h2
  rw [Nat.mod_eq_of_lt h4]
  have := Nat.div_pos h1 hp
  omega
theorem dg_high {B v k : Nat} (hB : 2 ≤ B) (h : sz B v ≤ k) : dg B v k = 0 := by
  unfold dg
  rw [Nat.div_eq_of_lt ((sz_le hB).mp h), Nat.zero_mod]
theorem mod_succ (B v k : Nat) : v % B ^ (k + 1) = v % B ^ k + dg B v k * B ^ k := by
  unfold dg
  rw [Nat.pow_succ, Nat.mod_mul, Nat.mul_comm (B ^ k)]
theorem mod_big {B v k : Nat} (hB : 2 ≤ B) (h : sz B v ≤ k) : v % B ^ k = v := Nat.mod_eq_of_lt ((sz_le hB).mp h)
/-- the count, from a bound down -/
theorem sz_eq {B v k : Nat} (hB : 2 ≤ B) (h1 : v < B ^ k) (h2 : k = 0 ∨ dg B v (k - 1) ≠ 0) : sz B v = k := by
  have h3 := (sz_le hB).mpr h1
  rcases h2 with h2 | h2
  · omega
  · rcases Nat.lt_or_ge (sz B v) k with q | q
    · exact absurd (dg_high hB (by omega)) h2
    · omega
theorem lt_down {B v k : Nat} (hB : 2 ≤ B) (h1 : v < B ^ (k + 1)) (h2 : dg B v k = 0) : v < B ^ k := by
  have h3 := mod_succ B v k
  rw [h2, Nat.zero_mul, Nat.mod_eq_of_lt h1] at h3
  have := Nat.mod_lt v (Nat.pow_pos (n := k) (show 0 < B by omega))
  omega
/-- adding: the carry -/
def car (B x y k : Nat) : Nat := (x % B ^ k + y % B ^ k) / B ^ k
theorem car_0 {B x y : Nat} : car B x y 0 = 0 := by simp [car, Nat.mod_one]
theorem car_le {B x y k : Nat} (hB : 2 ≤ B) : car B x y k ≤ 1 := by
  unfold car
  have hp := Nat.pow_pos (n := k) (show 0 < B by omega)
  have h1 := Nat.mod_lt x hp
  have h2 := Nat.mod_lt y hp
  have : (x % B ^ k + y % B ^ k) / B ^ k < 2 := by
    rw [Nat.div_lt_iff_lt_mul hp]
    omega
  omega
theorem add_split {B x y k : Nat} (hB : 2 ≤ B) : (x + y) / B ^ k = x / B ^ k + y / B ^ k + car B x y k := by
  have hp := Nat.pow_pos (n := k) (show 0 < B by omega)
  unfold car
  have h1 := Nat.div_add_mod x (B ^ k)
  have h2 := Nat.div_add_mod y (B ^ k)
  have h3 : x + y = (x % B ^ k + y % B ^ k) + B ^ k * (x / B ^ k + y / B ^ k) := by
    rw [Nat.mul_add]
    omega
  rw [h3, Nat.add_mul_div_left _ _ hp]
  have h4 : (x % B ^ k + y % B ^ k + B ^ k * (x / B ^ k + y / B ^ k)) = x + y := h3.symm
  omega
theorem add_dg {B x y k : Nat} (hB : 2 ≤ B) : dg B (x + y) k = (dg B x k + dg B y k + car B x y k) % B := by
  unfold dg
  rw [add_split hB]
  conv => lhs; rw [Nat.add_mod, Nat.add_mod (x / B ^ k)]
  conv => rhs; rw [Nat.add_mod]
theorem add_car {B x y k : Nat} (hB : 2 ≤ B) : car B x y (k + 1) = (dg B x k + dg B y k + car B x y k) / B := by
  have hp := Nat.pow_pos (n := k) (show 0 < B by omega)
  unfold car
  rw [mod_succ, mod_succ, Nat.pow_succ, ← Nat.div_div_eq_div_mul]
  congr 1
  have : x % B ^ k + dg B x k * B ^ k + (y % B ^ k + dg B y k * B ^ k) = (x % B ^ k + y % B ^ k) + B ^ k * (dg B x k + dg B y k) := by
    rw [Nat.mul_add, Nat.mul_comm (B ^ k), Nat.mul_comm (B ^ k)]
    omega
  rw [this, Nat.add_mul_div_left _ _ hp]
  omega
/-- taking away: the lack -/
def lac (B x y k : Nat) : Nat := if x % B ^ k < y % B ^ k then 1 else 0
theorem lac_0 {B x y : Nat} : lac B x y 0 = 0 := by simp [lac, Nat.mod_one]
theorem lac_le {B x y k : Nat} : lac B x y k ≤ 1 := by
  unfold lac
  split <;> omega
theorem sub_split {B x y k : Nat} (hB : 2 ≤ B) (h : y ≤ x) : (x - y) / B ^ k + lac B x y k + y / B ^ k = x / B ^ k := by
  have hp := Nat.pow_pos (n := k) (show 0 < B by omega)
  have h1 := Nat.div_add_mod x (B ^ k)
  have h2 := Nat.div_add_mod y (B ^ k)
  have g1 := Nat.mod_lt x hp
  have g2 := Nat.mod_lt y hp
  unfold lac
  generalize B ^ k = P at *
  generalize x / P = X at *
  generalize y / P = Y at *
  generalize x % P = x0 at *
  generalize y % P = y0 at *
  by_cases c : x0 < y0
  · rw [if_pos c]
    have hXY : Y + 1 ≤ X := by
      rcases Nat.lt_or_ge Y X with q | q
      · exact q
      · have := Nat.mul_le_mul_left P q
        omega
    obtain ⟨d, hd⟩ : ∃ d, X = Y + 1 + d := ⟨X - (Y + 1), by omega⟩
    subst hd
    have e : x - y = (P + x0 - y0) + P * d := by
      have : P * (Y + 1 + d) = P * Y + P + P * d := by rw [Nat.mul_add, Nat.mul_add, Nat.mul_one]
      omega
    rw [e, Nat.add_mul_div_left _ _ hp, Nat.div_eq_of_lt (by omega)]
    omega
  · rw [if_neg c]
    have hXY : Y ≤ X := by
      rcases Nat.lt_or_ge X Y with q | q
      · have h9 : P * (X + 1) ≤ P * Y := Nat.mul_le_mul_left P q
        rw [Nat.mul_add, Nat.mul_one] at h9
        omega
      · exact q
    obtain ⟨d, hd⟩ : ∃ d, X = Y + d := ⟨X - Y, by omega⟩
    subst hd
    have e : x - y = (x0 - y0) + P * d := by
      have : P * (Y + d) = P * Y + P * d := Nat.mul_add _ _ _
      omega
    rw [e, Nat.add_mul_div_left _ _ hp, Nat.div_eq_of_lt (by omega)]
    omega
theorem div_succ (B v k : Nat) : v / B ^ k = B * (v / B ^ (k + 1)) + dg B v k := by
  unfold dg
  rw [Nat.pow_succ, ← Nat.div_div_eq_div_mul]
  exact (Nat.div_add_mod _ _).symm
theorem sub_dg {B x y k : Nat} (hB : 2 ≤ B) (h : y ≤ x) : dg B (x - y) k + dg B y k + lac B x y k = dg B x k + B * lac B x y (k + 1) := by
  have h1 := sub_split (k := k) hB h
  have h2 := sub_split (k := k + 1) hB h
  rw [div_succ B (x - y) k, div_succ B y k, div_succ B x k] at h1
  have h3 := congrArg (fun z => B * z) h2
  simp only [Nat.mul_add] at h3
  omega
/-- a sum of limbs: lower digits stay, the next digit and the carry -/
theorem acc_low {B u w n j : Nat} (hB : 2 ≤ B) (h : j < n) : dg B (u + w * B ^ n) j = dg B u j := by
  have hp := Nat.pow_pos (n := j) (show 0 < B by omega)
  unfold dg
  obtain ⟨d, rfl⟩ : ∃ d, n = j + 1 + d := ⟨n - (j + 1), by omega⟩
  have e : w * B ^ (j + 1 + d) = B ^ j * (B * (w * B ^ d)) := by
    rw [Nat.pow_add, Nat.pow_succ]
    simp only [Nat.mul_comm, Nat.mul_left_comm, Nat.mul_assoc]
  rw [e, Nat.add_mul_div_left _ _ hp, Nat.add_mul_mod_self_left]
theorem acc_dg {B u w n : Nat} (hB : 2 ≤ B) : dg B (u + w * B ^ n) n = (u / B ^ n + w) % B := by
  have hp := Nat.pow_pos (n := n) (show 0 < B by omega)
  unfold dg
  rw [Nat.mul_comm w, Nat.add_mul_div_left _ _ hp]
theorem acc_car {B u w n : Nat} (hB : 2 ≤ B) : (u + w * B ^ n) / B ^ (n + 1) = (u / B ^ n + w) / B := by
  have hp := Nat.pow_pos (n := n) (show 0 < B by omega)
  rw [Nat.pow_succ, ← Nat.div_div_eq_div_mul, Nat.mul_comm w, Nat.add_mul_div_left _ _ hp]
/-- comparing from the top -/
theorem cmp_eq {B x y k : Nat} (h : x / B ^ (k + 1) = y / B ^ (k + 1)) (hd : dg B x k = dg B y k) : x / B ^ k = y / B ^ k := by
  rw [div_succ B x k, div_succ B y k, h, hd]
theorem cmp_lt {B x y k : Nat} (h : x / B ^ (k + 1) = y / B ^ (k + 1)) (hd : dg B x k < dg B y k) : x < y := by
  rcases Nat.lt_or_ge x y with q | q
  · exact q
  · have h1 := Nat.div_le_div_right (c := B ^ k) q
    rw [div_succ B x k, div_succ B y k, h] at h1
    omega
theorem cmp_sz {B x y : Nat} (hB : 2 ≤ B) (h : sz B x < sz B y) : x < y := by
  rcases Nat.lt_or_ge x y with q | q
  · exact q
  · have := sz_mono hB q
    omega
/-- the number out of its digits -/
theorem ext_dg {B x y : Nat} (hB : 2 ≤ B) (h : ∀ k, dg B x k = dg B y k) : x = y := by
  have key : ∀ n, x % B ^ n = y % B ^ n := by
    intro n
    induction n with
    | zero => simp [Nat.mod_one]
    | succ n ih => rw [mod_succ, mod_succ, ih, h n]
  have h1 := key (sz B x + sz B y)
  rwa [mod_big hB (by omega), mod_big hB (by omega)] at h1
