/-! rows that their diagonal outweighs: signs and sizes of the minors -/
theorem sm_le1 {f : Nat → Int} {k : Nat} : ∀ {n : Nat}, k < n → (∀ j, j < n → j ≠ k → f j ≤ 0) → sm f n ≤ f k
  | 0, h, _ => by omega
  | n + 1, h, h1 => by
    rw [sm]
    by_cases c : k = n
    · subst c
      have : ∀ {m : Nat}, m ≤ k → sm f m ≤ 0 := by
        intro m
        induction m with
        | zero => intro _; exact Int.le_refl _
        | succ m ih =>
          intro hm
          rw [sm]
          have a1 := ih (by omega)
          have a2 := h1 m (by omega) (by omega)
          omega
      have := this (Nat.le_refl k)
      omega
    · have a1 := sm_le1 (f := f) (k := k) (n := n) (by omega) (fun j hj hk => h1 j (by omega) hk)
      have a2 := h1 n (by omega) (by omega)
      omega
theorem sm_np {f : Nat → Int} : ∀ {n : Nat}, (∀ j, j < n → f j ≤ 0) → sm f n ≤ 0
  | 0, _ => Int.le_refl _
  | n + 1, h => by
    rw [sm]
    have a1 := sm_np (f := f) (n := n) (fun j hj => h j (by omega))
    have a2 := h n (by omega)
    omega
theorem dv_le {p x y : Int} (hp : 0 < p) (e : p * x = y) (h : y ≤ 0) : x ≤ 0 := by
  by_cases c : 0 < x
  · have := Int.mul_pos hp c
    omega
  · omega
theorem dv_ge {p x y : Int} (hp : 0 < p) (e : p * x = y) (h : 0 ≤ y) : 0 ≤ x := by
  by_cases c : x < 0
  · have := Int.mul_pos hp (show 0 < -x by omega)
    rw [Int.mul_neg] at this
    omega
  · omega
theorem dv_gt {p x y : Int} (hp : 0 < p) (e : p * x = y) (h : 0 < y) : 0 < x := by
  have h1 := dv_ge hp e (by omega)
  by_cases c : x = 0
  · rw [c, Int.mul_zero] at e
    omega
  · omega
def Dm (E : Nat → Nat → Int) (n : Nat) : Prop := (∀ i j, i < n → j < n → i ≠ j → E i j ≤ 0) ∧ (∀ i, i < n → 0 < sm (fun j => E i j) n) ∧ (∀ i, i < n → E i i ≤ 100000) ∧ (∀ i j, E (8 + i) j = if j = i then -1 else 0) ∧ (∀ i c, i < n → 0 ≤ E i (9 + c) ∧ E i (9 + c) ≤ 1)
def Iv (E : Nat → Nat → Int) (n k : Nat) : Prop :=
  (∀ t, t ≤ k → 0 < pp E t) ∧ (∀ i j, k ≤ i → i < n → k ≤ j → j < n → i ≠ j → mn E k i j ≤ 0) ∧ (∀ i, k ≤ i → i < n → 0 < sm (fun j => mn E k i j) n) ∧ (∀ i, k ≤ i → i < n → mn E k i i ≤ pp E k * 100000) ∧
  (∀ i c, k ≤ i → i < n → 0 ≤ mn E k i (9 + c) ∧ mn E k i (9 + c) ≤ sm (fun j => mn E k i j) n) ∧ (∀ i j, i < k → k ≤ j → j < n → mn E k (8 + i) j ≤ 0) ∧ (∀ i c, i < k → 0 ≤ mn E k (8 + i) (9 + c) ∧ mn E k (8 + i) (9 + c) ≤ pp E k + sm (fun j => mn E k (8 + i) j) n)
theorem iv_0 {E : Nat → Nat → Int} {n : Nat} (D : Dm E n) : Iv E n 0 := by
  obtain ⟨d1, d2, d3, d4, d5⟩ := D
  have p0 : pp E 0 = 1 := by
    unfold pp
    rw [dt]
  refine ⟨fun t ht => ?_, fun i j _ hi _ hj hij => ?_, fun i _ hi => ?_, fun i _ hi => ?_, fun i c _ hi => ?_, fun i j hi => by omega, fun i c hi => by omega⟩
  · rw [show t = 0 by omega, p0]
    decide
  · rw [mn_0]
    exact d1 i j hi hj hij
  · rw [sm_congr (fun j _ => mn_0)]
    exact d2 i hi
  · rw [mn_0, p0, Int.one_mul]
    exact d3 i hi
  · rw [sm_congr (fun j _ => mn_0), mn_0]
    have := d2 i hi
    have := d5 i c hi
    omega
theorem mn_far {E : Nat → Nat → Int} {k r j : Nat} (h : ∀ j', j' < k → E r j' = 0) : mn E k r j = E r j * pp E k := by
  have := rel3 (E := E) (k := k) (i := r) (j := j) (W := 1) (w := fun _ => 0) (fun j' hj => by rw [h j' hj, sm_z (fun t _ => Int.zero_mul _)]; rfl)
  rw [Int.one_mul, Int.one_mul, sm_z (fun t _ => Int.zero_mul _), Int.sub_zero] at this
  exact this
theorem iv_piv {E : Nat → Nat → Int} {n k : Nat} (I : Iv E n k) (hk : k < n) : 0 < mn E k k k ∧ ∀ t, t ≤ k + 1 → 0 < pp E t := by
  obtain ⟨i1, i2, i3, i4, i5, i6, i7⟩ := I
  have nz : ∀ t, t ≤ k → pp E t ≠ 0 := fun t ht => by
    have := i1 t ht
    omega
  have h1 : 0 < mn E k k k := by
    have a1 := i3 k (Nat.le_refl k) hk
    have a2 := sm_le1 (f := fun j => mn E k k j) (k := k) hk (fun j hj hjk => by
      by_cases c : j < k
      · rw [mn_low nz c]
        exact Int.le_refl _
      · exact i2 k j (Nat.le_refl k) hk (by omega) hj (by omega))
    have a3 : sm (fun j => mn E k k j) n ≤ mn E k k k := a2
    omega
  refine ⟨h1, fun t ht => ?_⟩
  by_cases c : t = k + 1
  · rw [c, ← mn_kk]
    exact h1
  · exact i1 t (by omega)
theorem iv_new {E : Nat → Nat → Int} {n k j : Nat} (D : Dm E n) (I : Iv E n k) (hk : k < n) : mn E (k + 1) (8 + k) j = mn E k k j + E (8 + k) j * mn E k k k := by
  obtain ⟨h1, h2⟩ := iv_piv I hk
  have nz : ∀ t, t ≤ k + 1 → pp E t ≠ 0 := fun t ht => by
    have := h2 t ht
    omega
  have d4 := D.2.2.2.1
  have s := syl (i := 8 + k) (j := j) nz
  have f : ∀ j, mn E k (8 + k) j = E (8 + k) j * pp E k := fun j => mn_far (fun j' hj => by rw [d4, if_neg (by omega)])
  rw [f, f, d4 k k, if_pos rfl] at s
  refine Int.eq_of_mul_eq_mul_left (nz k (by omega)) ?_
  rw [s]
  grind
theorem iv_s {E : Nat → Nat → Int} {n k : Nat} (D : Dm E n) (I : Iv E n k) (hk : k < n) (hn : n ≤ 8) : Iv E n (k + 1) := by
  obtain ⟨p1, p2⟩ := iv_piv I hk
  have new := fun j => iv_new (j := j) D I hk
  have d4 := D.2.2.2.1
  obtain ⟨i1, i2, i3, i4, i5, i6, i7⟩ := I
  have nz : ∀ t, t ≤ k + 1 → pp E t ≠ 0 := fun t ht => by
    have := p2 t ht
    omega
  have pk := p2 k (by omega)
  have s : ∀ i j, pp E k * mn E (k + 1) i j = mn E k k k * mn E k i j - mn E k i k * mn E k k j := fun i j => syl nz
  have ss : ∀ i, pp E k * sm (fun j => mn E (k + 1) i j) n = mn E k k k * sm (fun j => mn E k i j) n - mn E k i k * sm (fun j => mn E k k j) n := by
    intro i
    rw [← sm_mul, ← sm_mul, ← sm_mul, ← sm_sub]
    exact sm_congr (fun j _ => s i j)
  have rk := i3 k (Nat.le_refl k) hk
  have uk := fun c => i5 k c (Nat.le_refl k) hk
  refine ⟨p2, fun i j hi hin hj hjn hij => ?_, fun i hi hin => ?_, fun i hi hin => ?_, fun i c hi hin => ?_, fun i j hi hj hjn => ?_, fun i c hi => ?_⟩
  · refine dv_le pk (s i j) ?_
    have a1 := i2 i j (by omega) hin (by omega) hjn hij
    have a2 := i2 i k (by omega) hin (Nat.le_refl k) hk (by omega)
    have a3 := i2 k j (Nat.le_refl k) hk (by omega) hjn (by omega)
    have b1 := Int.mul_nonneg (Int.le_of_lt p1) (show 0 ≤ -mn E k i j by omega)
    have b2 := Int.mul_nonneg (show 0 ≤ -mn E k i k by omega) (show 0 ≤ -mn E k k j by omega)
    rw [Int.mul_neg] at b1
    rw [Int.neg_mul_neg] at b2
    omega
  · refine dv_gt pk (ss i) ?_
    have a1 := i3 i (by omega) hin
    have a2 := i2 i k (by omega) hin (Nat.le_refl k) hk (by omega)
    have b1 := Int.mul_pos p1 a1
    have b2 := Int.mul_nonneg (show 0 ≤ -mn E k i k by omega) (Int.le_of_lt rk)
    rw [Int.neg_mul] at b2
    omega
  · have a1 := i4 i (by omega) hin
    have a2 := i2 i k (by omega) hin (Nat.le_refl k) hk (by omega)
    have a3 := i2 k i (Nat.le_refl k) hk (by omega) hin (by omega)
    have b2 := Int.mul_nonneg (show 0 ≤ -mn E k i k by omega) (show 0 ≤ -mn E k k i by omega)
    rw [Int.neg_mul_neg] at b2
    have b3 := Int.mul_le_mul_of_nonneg_left a1 (Int.le_of_lt p1)
    rw [← mn_kk]
    have e := s i i
    have e2 : pp E k * (mn E (k + 1) i i - mn E k k k * 100000) = mn E k k k * mn E k i i - mn E k i k * mn E k k i - mn E k k k * (pp E k * 100000) := by
      rw [Int.mul_sub, e]
      grind
    have := dv_le pk e2 (by omega)
    omega
  · have a1 := i5 i c (by omega) hin
    have a2 := i2 i k (by omega) hin (Nat.le_refl k) hk (by omega)
    have b1 := Int.mul_nonneg (Int.le_of_lt p1) a1.1
    have b2 := Int.mul_nonneg (show 0 ≤ -mn E k i k by omega) (uk c).1
    rw [Int.neg_mul] at b2
    have b3 := Int.mul_nonneg (Int.le_of_lt p1) (show 0 ≤ sm (fun j => mn E k i j) n - mn E k i (9 + c) by omega)
    have b4 := Int.mul_nonneg (show 0 ≤ -mn E k i k by omega) (show 0 ≤ sm (fun j => mn E k k j) n - mn E k k (9 + c) by have := uk c; omega)
    refine ⟨dv_ge pk (s i (9 + c)) (by omega), ?_⟩
    have e2 : pp E k * (sm (fun j => mn E (k + 1) i j) n - mn E (k + 1) i (9 + c)) = mn E k k k * (sm (fun j => mn E k i j) n - mn E k i (9 + c)) + -mn E k i k * (sm (fun j => mn E k k j) n - mn E k k (9 + c)) := by
      rw [Int.mul_sub, ss, s]
      grind
    have := dv_ge pk e2 (by omega)
    omega
  · by_cases ci : i = k
    · subst ci
      rw [new, d4, if_neg (by omega), Int.zero_mul, Int.add_zero]
      exact i2 i j (Nat.le_refl i) hk (by omega) hjn (by omega)
    · refine dv_le pk (s (8 + i) j) ?_
      have a1 := i6 i j (by omega) (by omega) hjn
      have a2 := i6 i k (by omega) (Nat.le_refl k) hk
      have a3 := i2 k j (Nat.le_refl k) hk (by omega) hjn (by omega)
      have b1 := Int.mul_nonneg (Int.le_of_lt p1) (show 0 ≤ -mn E k (8 + i) j by omega)
      have b2 := Int.mul_nonneg (show 0 ≤ -mn E k (8 + i) k by omega) (show 0 ≤ -mn E k k j by omega)
      rw [Int.mul_neg] at b1
      rw [Int.neg_mul_neg] at b2
      omega
  · by_cases ci : i = k
    · subst ci
      have e1 : mn E (i + 1) (8 + i) (9 + c) = mn E i i (9 + c) := by
        rw [new, d4, if_neg (by omega), Int.zero_mul, Int.add_zero]
      have e2 : sm (fun j => mn E (i + 1) (8 + i) j) n = sm (fun j => mn E i i j) n - mn E i i i := by
        rw [sm_congr (fun j _ => new j), sm_add]
        have : ∀ m, i < m → sm (fun j => E (8 + i) j * mn E i i i) m = -mn E i i i := by
          intro m
          induction m with
          | zero => intro z; omega
          | succ m ih =>
            intro z
            rw [sm]
            by_cases zz : i = m
            · subst zz
              rw [sm_z (fun t ht => by rw [d4, if_neg (by omega), Int.zero_mul]), d4, if_pos rfl]
              omega
            · rw [ih (by omega), d4, if_neg (by omega), Int.zero_mul]
              omega
        have e3 : sm (mn E i i) n = sm (fun j => mn E i i j) n := rfl
        rw [this n hk]
        omega
      rw [e1, e2, ← mn_kk]
      have := uk c
      omega
    · have a1 := i7 i c (by omega)
      have a2 := i6 i k (by omega) (Nat.le_refl k) hk
      have b1 := Int.mul_nonneg (Int.le_of_lt p1) a1.1
      have b2 := Int.mul_nonneg (show 0 ≤ -mn E k (8 + i) k by omega) (uk c).1
      rw [Int.neg_mul] at b2
      refine ⟨dv_ge pk (s (8 + i) (9 + c)) (by omega), ?_⟩
      have b3 := Int.mul_nonneg (Int.le_of_lt p1) (show 0 ≤ pp E k + sm (fun j => mn E k (8 + i) j) n - mn E k (8 + i) (9 + c) by omega)
      have b4 := Int.mul_nonneg (show 0 ≤ -mn E k (8 + i) k by omega) (show 0 ≤ sm (fun j => mn E k k j) n - mn E k k (9 + c) by have := uk c; omega)
      have e2 : pp E k * (pp E (k + 1) + sm (fun j => mn E (k + 1) (8 + i) j) n - mn E (k + 1) (8 + i) (9 + c)) = mn E k k k * (pp E k + sm (fun j => mn E k (8 + i) j) n - mn E k (8 + i) (9 + c)) + -mn E k (8 + i) k * (sm (fun j => mn E k k j) n - mn E k k (9 + c)) := by
        rw [Int.mul_sub, Int.mul_add, ss, s, ← mn_kk]
        grind
      have := dv_ge pk e2 (by omega)
      omega
theorem iv_all {E : Nat → Nat → Int} {n : Nat} (D : Dm E n) (hn : n ≤ 8) : ∀ k, k ≤ n → Iv E n k
  | 0, _ => iv_0 D
  | k + 1, h => iv_s D (iv_all D hn k (by omega)) (by omega) hn
