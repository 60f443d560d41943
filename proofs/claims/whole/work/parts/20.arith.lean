/-! whole numbers in the machine's ints and longs: everything as iI (..), lI (..) -/
theorem iI_add (a b : Int) : iI a + iI b = iI (a + b) := (Int32.ofInt_add a b).symm
theorem iI_sub (a b : Int) : iI a - iI b = iI (a - b) := (Int32.ofInt_sub a b).symm
theorem iI_mul (a b : Int) : iI a * iI b = iI (a * b) := (Int32.ofInt_mul a b).symm
theorem iI_neg (a : Int) : -iI a = iI (-a) := (Int32.ofInt_neg a).symm
theorem lI_add (a b : Int) : lI a + lI b = lI (a + b) := (Int64.ofInt_add a b).symm
theorem lI_sub (a b : Int) : lI a - lI b = lI (a - b) := (Int64.ofInt_sub a b).symm
theorem lI_mul (a b : Int) : lI a * lI b = lI (a * b) := (Int64.ofInt_mul a b).symm
theorem lI_neg (a : Int) : -lI a = lI (-a) := (Int64.ofInt_neg a).symm
def rI (a : Int) : Prop := -2147483648 ≤ a ∧ a < 2147483648
def rL (a : Int) : Prop := -9223372036854775808 ≤ a ∧ a < 9223372036854775808
theorem iI_to {a : Int} (h : rI a) : (iI a).toInt = a := by
  unfold rI at h
  show (Int32.ofInt a).toInt = a
  rw [Int32.toInt_ofInt, show Int32.size = 4294967296 from rfl, Int.bmod_eq_of_le (by omega) (by omega)]
theorem lI_to {a : Int} (h : rL a) : (lI a).toInt = a := by
  unfold rL at h
  show (Int64.ofInt a).toInt = a
  rw [Int64.toInt_ofInt, show Int64.size = 18446744073709551616 from rfl, Int.bmod_eq_of_le (by omega) (by omega)]
theorem iI_of (x : Int32) : x = iI x.toInt := (Int32.ofInt_toInt x).symm
theorem lI_of (x : Int64) : x = lI x.toInt := (Int64.ofInt_toInt x).symm
theorem rI_of (x : Int32) : rI x.toInt := by
  have h1 := Int32.minValue_le_toInt x
  have h2 := Int32.toInt_le x
  unfold rI
  rw [show Int32.minValue.toInt = -2147483648 from rfl] at h1
  rw [show Int32.maxValue.toInt = 2147483647 from rfl] at h2
  omega
theorem rL_of (x : Int64) : rL x.toInt := by
  have h1 := Int64.minValue_le_toInt x
  have h2 := Int64.toInt_le x
  unfold rL
  rw [show Int64.minValue.toInt = -9223372036854775808 from rfl] at h1
  rw [show Int64.maxValue.toInt = 9223372036854775807 from rfl] at h2
  omega
theorem iI_lt {a b : Int} (ha : rI a) (hb : rI b) : iI a < iI b ↔ a < b := by
  rw [Int32.lt_iff_toInt_lt, iI_to ha, iI_to hb]
theorem iI_le {a b : Int} (ha : rI a) (hb : rI b) : iI a ≤ iI b ↔ a ≤ b := by
  rw [Int32.le_iff_toInt_le, iI_to ha, iI_to hb]
theorem iI_eq {a b : Int} (ha : rI a) (hb : rI b) : iI a = iI b ↔ a = b := by
  rw [← Int32.toInt_inj, iI_to ha, iI_to hb]
theorem lI_lt {a b : Int} (ha : rL a) (hb : rL b) : lI a < lI b ↔ a < b := by
  rw [Int64.lt_iff_toInt_lt, lI_to ha, lI_to hb]
theorem lI_le {a b : Int} (ha : rL a) (hb : rL b) : lI a ≤ lI b ↔ a ≤ b := by
  rw [Int64.le_iff_toInt_le, lI_to ha, lI_to hb]
theorem lI_eq {a b : Int} (ha : rL a) (hb : rL b) : lI a = lI b ↔ a = b := by
  rw [← Int64.toInt_inj, lI_to ha, lI_to hb]
theorem iI_0 : (0 : Int32) = iI 0 := rfl
theorem lI_0 : (0 : Int64) = lI 0 := rfl
theorem nI_iI (n : Nat) : nI n = iI n := by
  show Int32.ofNat n = Int32.ofInt n
  exact (Int32.ofInt_eq_ofNat).symm
theorem ofNat_iI (n : Nat) : Int32.ofNat n = iI n := nI_iI n
theorem iI_cl {a : Int} (h0 : 0 ≤ a) (h : a < 2147483648) : (iI a).toNatClampNeg = a.toNat := by
  show (iI a).toInt.toNat = a.toNat
  rw [iI_to ⟨by omega, h⟩]
theorem iI_in {a : Int} {n : Nat} (h0 : 0 ≤ a) (h : a < n) (hn : (n : Int) ≤ 2147483648) : vp_in (iI a) n := by
  rw [vp_in_iff, iI_to ⟨by omega, by omega⟩]
  exact ⟨h0, h⟩
theorem lI_32 (a : Int) : (lI a).toInt32 = iI a := by
  show (Int64.ofInt a).toInt32 = Int32.ofInt a
  rw [Int64.toInt32_ofInt]
theorem iI_64 {a : Int} (h : rI a) : (iI a).toInt64 = lI a := by
  apply Int64.toInt_inj.mp
  rw [Int32.toInt_toInt64, iI_to h, lI_to ⟨by unfold rI at h; omega, by unfold rI at h; omega⟩]
theorem iI_div {a b : Int} (ha : rI a) (hb : rI b) : iI a / iI b = iI (a.tdiv b) := by
  apply Int32.toInt_inj.mp
  rw [Int32.toInt_div, iI_to ha, iI_to hb]
  exact (Int32.toInt_ofInt).symm
theorem lI_tdiv {a b : Int} (ha : rL a) (hb : rL b) : lI a / lI b = lI (a.tdiv b) := by
  apply Int64.toInt_inj.mp
  rw [Int64.toInt_div, lI_to ha, lI_to hb]
  exact (Int64.toInt_ofInt).symm
theorem lI_div {a b : Int} (ha : 0 ≤ a) (ha2 : a < 9223372036854775808) (hb : 0 < b) (hb2 : b < 9223372036854775808) : lI a / lI b = lI (a / b) := by
  rw [lI_tdiv ⟨by omega, ha2⟩ ⟨by omega, hb2⟩, Int.tdiv_eq_ediv_of_nonneg ha]
theorem lI_rem {a b : Int} (ha : 0 ≤ a) (ha2 : a < 9223372036854775808) (hb : 0 < b) (hb2 : b < 9223372036854775808) : lI a - lI a / lI b * lI b = lI (a % b) := by
  rw [lI_div ha ha2 hb hb2, lI_mul, lI_sub]
  congr 1
  rw [Int.emod_def, Int.mul_comm]
theorem iI_divn {a b : Int} (ha : 0 ≤ a) (ha2 : a < 2147483648) (hb : 0 < b) (hb2 : b < 2147483648) : iI a / iI b = iI (a / b) := by
  rw [iI_div ⟨by omega, ha2⟩ ⟨by omega, hb2⟩, Int.tdiv_eq_ediv_of_nonneg ha]
theorem iI_rem {a b : Int} (ha : 0 ≤ a) (ha2 : a < 2147483648) (hb : 0 < b) (hb2 : b < 2147483648) : iI a - iI a / iI b * iI b = iI (a % b) := by
  rw [iI_divn ha ha2 hb hb2, iI_mul, iI_sub]
  congr 1
  rw [Int.emod_def, Int.mul_comm]
/-- the number that an int of the heap is -/
def mI (h : jHp) (p k : Nat) : Int := (gI h p k).toInt
theorem gI_mI (h : jHp) (p k : Nat) : gI h p k = iI (mI h p k) := iI_of _
theorem rI_mI (h : jHp) (p k : Nat) : rI (mI h p k) := rI_of _
theorem mI_sI {h : jHp} {p k q j : Nat} {v : Int} (hv : rI v) : mI (sI h p k (iI v)) q j = if q = p ∧ j = k then v else mI h q j := by
  unfold mI
  rw [gI_sI]
  split
  · exact iI_to hv
  · rfl
