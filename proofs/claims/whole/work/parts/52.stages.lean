/-! the model's matrix at a stage of its elimination -/
theorem sm_le2 {f : Nat → Int} {i j n : Nat} (hi : i < n) (hj : j < n) (hij : i ≠ j) (h : ∀ t, t < n → t ≠ i → f t ≤ 0) : sm f n ≤ f i + f j := by
  have e : ∀ m, sm f m = sm (fun t => if t = j then 0 else f t) m + (if j < m then f j else 0) := by
    intro m
    induction m with
    | zero => rfl
    | succ m ih =>
      rw [sm, sm, ih]
      by_cases c : m = j
      · subst c
        rw [if_neg (Nat.lt_irrefl m), if_pos rfl, if_pos (Nat.lt_succ_self m), Int.add_zero]
      · rw [if_neg c]
        by_cases d : j < m
        · rw [if_pos d, if_pos (by omega)]
          omega
        · rw [if_neg d, if_neg (by omega)]
          omega
  have := sm_le1 (f := fun t => if t = j then 0 else f t) (k := i) (n := n) hi (fun t ht hti => by
    show (if t = j then 0 else f t) ≤ 0
    split
    · exact Int.le_refl _
    · exact h t ht hti)
  rw [if_neg hij] at this
  rw [e n, if_pos hj]
  omega
theorem pp_bd {E : Nat → Nat → Int} {n : Nat} (D : Dm E n) (hn : n ≤ 8) : ∀ k, k ≤ n → pp E k ≤ (10 : Int) ^ (5 * k)
  | 0, _ => by
    unfold pp
    rw [dt]
    exact Int.le_refl _
  | k + 1, h => by
    have i4 := (iv_all D hn k (by omega)).2.2.2.1 k (Nat.le_refl k) (by omega)
    have ih := pp_bd D hn k (by omega)
    rw [← mn_kk, show 5 * (k + 1) = 5 * k + 5 by omega, Int.pow_add]
    have : pp E k * 100000 ≤ (10 : Int) ^ (5 * k) * 10 ^ 5 := Int.mul_le_mul_of_nonneg_right ih (by decide)
    omega
theorem p10_mono {a b : Nat} (h : a ≤ b) : (10 : Int) ^ a ≤ 10 ^ b := by
  have := Nat.pow_le_pow_right (show 0 < 10 by decide) h
  have e : ∀ k : Nat, (10 : Int) ^ k = ((10 ^ k : Nat) : Int) := fun k => by rw [Int.natCast_pow]; rfl
  rw [e, e]
  omega
/-- which row of the minors stands for row i -/
def rx (k i : Nat) : Nat := if i < k then 8 + i else i
def vM (E : Nat → Nat → Int) (k i j : Nat) : Int := if j < k then (if i = j then pp E k else 0) else mn E k (rx k i) j
theorem v_new {E : Nat → Nat → Int} {n k j : Nat} (D : Dm E n) (hn : n ≤ 8) (hk : k < n) (hj : j < n ∨ 9 ≤ j) : vM E (k + 1) k j = vM E k k j := by
  have I := iv_all D hn k (by omega)
  have d4 := D.2.2.2.1
  have nz : ∀ t, t ≤ k → pp E t ≠ 0 := fun t ht => by
    have := I.1 t ht
    omega
  unfold vM rx
  by_cases c : j < k
  · rw [if_pos (by omega), if_neg (by omega), if_pos c, if_neg (by omega)]
  · rw [if_neg c, if_neg (Nat.lt_irrefl k)]
    by_cases d : j = k
    · subst d
      rw [if_pos (Nat.lt_succ_self j), if_pos rfl, mn_kk]
    · rw [if_neg (by omega), if_pos (Nat.lt_succ_self k), iv_new D I hk, d4, if_neg (by omega), Int.zero_mul, Int.add_zero]
theorem v_step {E : Nat → Nat → Int} {n k i j : Nat} (D : Dm E n) (hn : n ≤ 8) (hk : k < n) (hik : i ≠ k) : vM E k k k * vM E k i j - vM E k i k * vM E k k j = pp E k * vM E (k + 1) i j := by
  have I := iv_all D hn k (by omega)
  obtain ⟨p1, p2⟩ := iv_piv I hk
  have nz : ∀ t, t ≤ k + 1 → pp E t ≠ 0 := fun t ht => by
    have := p2 t ht
    omega
  have rk : rx k k = k := if_neg (Nat.lt_irrefl k)
  have ri : rx (k + 1) i = rx k i := by
    unfold rx
    by_cases c : i < k
    · rw [if_pos (by omega), if_pos c]
    · rw [if_neg (by omega), if_neg c]
  have a1 : vM E k k k = mn E k k k := by
    unfold vM
    rw [if_neg (Nat.lt_irrefl k), rk]
  have a2 : vM E k i k = mn E k (rx k i) k := by
    unfold vM
    rw [if_neg (Nat.lt_irrefl k)]
  rw [a1, a2]
  by_cases c : j < k
  · have b1 : vM E k k j = 0 := by
      unfold vM
      rw [if_pos c, if_neg (by omega)]
    rw [b1, Int.mul_zero, Int.sub_zero]
    have b2 : ∀ q, j < q → vM E q i j = if i = j then pp E q else 0 := fun q hq => by
      unfold vM
      rw [if_pos hq]
    rw [b2 k c, b2 (k + 1) (by omega)]
    by_cases d : i = j
    · rw [if_pos d, if_pos d, mn_kk]
      grind
    · rw [if_neg d, if_neg d, Int.mul_zero, Int.mul_zero]
  · have b1 : ∀ r, vM E k r j = mn E k (rx k r) j := fun r => by
      unfold vM
      rw [if_neg c]
    rw [b1, b1, rk, ← syl nz]
    congr 1
    unfold vM
    rw [ri]
    by_cases d : j = k
    · subst d
      rw [if_pos (Nat.lt_succ_self j), if_neg hik]
      exact mn_low nz (Nat.lt_succ_self j)
    · rw [if_neg (by omega)]
theorem v_0 {E : Nat → Nat → Int} {i j : Nat} : vM E 0 i j = E i j := by
  unfold vM rx
  rw [if_neg (Nat.not_lt_zero j), if_neg (Nat.not_lt_zero i), mn_0]
theorem v_bd {E : Nat → Nat → Int} {n k i j : Nat} (D : Dm E n) (hn : n ≤ 8) (hk : k ≤ n) (hi : i < n) (hj : j < n ∨ 9 ≤ j) : (vM E k i j).natAbs ≤ 10 ^ 45 := by
  obtain ⟨i1, i2, i3, i4, i5, i6, i7⟩ := iv_all D hn k hk
  have pb := pp_bd D hn k hk
  have pb2 : (10 : Int) ^ (5 * k) ≤ 10 ^ 40 := p10_mono (by omega)
  have pk := i1 k (Nat.le_refl k)
  have nz : ∀ t, t ≤ k → pp E t ≠ 0 := fun t ht => by
    have := i1 t ht
    omega
  have e45 : ((10 ^ 45 : Nat) : Int) = 100000 * 10 ^ 40 := by decide
  have hp : pp E k * 100000 ≤ ((10 ^ 45 : Nat) : Int) := by
    rw [e45]
    omega
  suffices hs : -((10 ^ 45 : Nat) : Int) ≤ vM E k i j ∧ vM E k i j ≤ ((10 ^ 45 : Nat) : Int) by
    omega
  have key : ∀ x : Int, -(pp E k * 100000) ≤ x → x ≤ pp E k * 100000 → -((10 ^ 45 : Nat) : Int) ≤ x ∧ x ≤ ((10 ^ 45 : Nat) : Int) := fun x h1 h2 => ⟨(by omega), (by omega)⟩
  refine key _ ?_ ?_
  all_goals
    unfold vM
    by_cases c : j < k
    · rw [if_pos c]
      split <;> omega
    · rw [if_neg c]
      unfold rx
      by_cases d : i < k
      · rw [if_pos d]
        have nonpos : ∀ t, t < n → mn E k (8 + i) t ≤ 0 := fun t ht => by
          by_cases z : t < k
          · rw [mn_low nz z]
            exact Int.le_refl _
          · exact i6 i t d (by omega) ht
        have s0 := sm_np (f := fun t => mn E k (8 + i) t) (n := n) nonpos
        rcases hj with hj | hj
        · have a1 := nonpos j hj
          have a2 := i7 i 0 d
          have a3 := sm_le1 (f := fun t => mn E k (8 + i) t) (k := j) hj (fun t ht _ => nonpos t ht)
          have a4 : sm (fun t => mn E k (8 + i) t) n ≤ mn E k (8 + i) j := a3
          omega
        · obtain ⟨u, rfl⟩ : ∃ u, j = 9 + u := ⟨j - 9, by omega⟩
          have a2 := i7 i u d
          omega
      · rw [if_neg d]
        have nonpos : ∀ t, t < n → t ≠ i → mn E k i t ≤ 0 := fun t ht hti => by
          by_cases z : t < k
          · rw [mn_low nz z]
            exact Int.le_refl _
          · exact i2 i t (by omega) hi (by omega) ht (Ne.symm hti)
        have b1 := i3 i (by omega) hi
        have b2 := i4 i (by omega) hi
        have b3 := sm_le1 (f := fun t => mn E k i t) (k := i) hi nonpos
        have b4 : sm (fun t => mn E k i t) n ≤ mn E k i i := b3
        rcases hj with hj | hj
        · by_cases w : j = i
          · subst w
            omega
          · have a1 := nonpos j hj w
            have a3 := sm_le2 (f := fun t => mn E k i t) hi hj (Ne.symm w) nonpos
            have a4 : sm (fun t => mn E k i t) n ≤ mn E k i i + mn E k i j := a3
            omega
        · obtain ⟨u, rfl⟩ : ∃ u, j = 9 + u := ⟨j - 9, by omega⟩
          have a2 := i5 i u (by omega) hi
          omega
