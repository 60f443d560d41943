/-! minors with a border, and how a step of elimination goes from one to the next -/
def pp (E : Nat → Nat → Int) (k : Nat) : Int := dt E k (fun t => t)
def mn (E : Nat → Nat → Int) (k i j : Nat) : Int := dt (fun t => if t < k then E t else E i) (k + 1) (fun t => if t < k then t else j)
theorem mn_kk {E : Nat → Nat → Int} {k : Nat} : mn E k k k = pp E (k + 1) := by
  unfold mn pp
  rw [dt_rows (R' := E), dt_cols (c' := fun t => t)]
  · intro t ht
    show (if t < k then t else k) = t
    split <;> omega
  · intro t ht
    show (if t < k then E t else E k) = E t
    split
    · rfl
    · rw [show t = k by omega]
theorem mn_0 {E : Nat → Nat → Int} {i j : Nat} : mn E 0 i j = E i j := by
  unfold mn
  rw [dt, sm, sm, dt]
  simp [sgn]
/-- the last row's part -/
def lrw (R : Nat → Nat → Int) (k : Nat) (c : Nat → Nat) (x : Nat → Int) : Int := sm (fun j => sgn (j + k) * x (c j) * dt R k (skp c j)) (k + 1)
theorem lrw_lin {R : Nat → Nat → Int} {k : Nat} {c : Nat → Nat} {x : Nat → Int} {W : Int} {w : Nat → Int} {y : Nat → Nat → Int} {n : Nat} :
    lrw R k c (fun j => W * x j - sm (fun t => w t * y t j) n) = W * lrw R k c x - sm (fun t => w t * lrw R k c (y t)) n := by
  unfold lrw
  have e1 : sm (fun t => w t * sm (fun j => sgn (j + k) * y t (c j) * dt R k (skp c j)) (k + 1)) n = sm (fun j => sgn (j + k) * sm (fun t => w t * y t (c j)) n * dt R k (skp c j)) (k + 1) := by
    have : ∀ t, w t * sm (fun j => sgn (j + k) * y t (c j) * dt R k (skp c j)) (k + 1) = sm (fun j => w t * (sgn (j + k) * y t (c j) * dt R k (skp c j))) (k + 1) := fun t => by rw [sm_mul]
    rw [sm_congr (fun t _ => this t), sm_swap]
    refine sm_congr (fun j _ => ?_)
    have e : sgn (j + k) * sm (fun t => w t * y t (c j)) n * dt R k (skp c j) = (sgn (j + k) * dt R k (skp c j)) * sm (fun t => w t * y t (c j)) n := by grind
    rw [e, ← sm_mul]
    exact sm_congr (fun t _ => by grind)
  rw [e1, ← sm_mul, ← sm_sub]
  exact sm_congr (fun j _ => by grind)
theorem mn_lrw {E : Nat → Nat → Int} {k i j : Nat} : mn E k i j = lrw E k (fun t => if t < k then t else j) (E i) := by
  unfold mn lrw
  rw [dt]
  refine sm_congr (fun j' _ => ?_)
  rw [if_neg (Nat.lt_irrefl k)]
  congr 1
  exact dt_rows (fun t ht => by rw [if_pos ht])
theorem rel3 {E : Nat → Nat → Int} {k i j : Nat} {W : Int} {w : Nat → Int} (h : ∀ j', j' < k → W * E i j' = sm (fun t => w t * E t j') k) :
    W * mn E k i j = (W * E i j - sm (fun t => w t * E t j) k) * pp E k := by
  have e0 : ∀ t, t < k → lrw E k (fun t => if t < k then t else j) (E t) = 0 := by
    intro t ht
    rw [← mn_lrw]
    unfold mn
    exact dt_eq2 k t _ _ ht (by rw [if_neg (Nat.lt_irrefl k), if_pos ht])
  have e1 := lrw_lin (R := E) (k := k) (c := fun t => if t < k then t else j) (x := E i) (W := W) (w := w) (y := E) (n := k)
  rw [sm_z (fun t ht => by rw [e0 t ht, Int.mul_zero]), Int.sub_zero, ← mn_lrw] at e1
  rw [← e1]
  unfold lrw
  rw [sm, sm_z]
  · have ek : (fun t => if t < k then t else j) k = j := if_neg (Nat.lt_irrefl k)
    rw [sgn_2, ek, Int.zero_add, Int.one_mul]
    congr 1
    unfold pp
    refine dt_cols (fun t ht => ?_)
    unfold skp
    rw [if_pos ht]
    exact if_pos ht
  · intro j' hj
    have ek : (fun t => if t < k then t else j) j' = j' := if_pos hj
    rw [ek]
    show sgn (j' + k) * (W * E i j' - sm (fun t => w t * E t j') k) * _ = 0
    rw [h j' hj, Int.sub_self, Int.mul_zero, Int.zero_mul]
def Rel (E : Nat → Nat → Int) (k i : Nat) : Prop := ∃ (W : Int) (w : Nat → Int), W ≠ 0 ∧ (∀ j, W * mn E k i j = W * pp E k * E i j - sm (fun t => w t * E t j) k) ∧ ∀ j, j < k → mn E k i j = 0
theorem syl_of {E : Nat → Nat → Int} {k i : Nat} (hk : pp E k ≠ 0) (hk1 : pp E (k + 1) ≠ 0) (Ri : Rel E k i) (Rk : Rel E k k) :
    (∀ j, pp E k * mn E (k + 1) i j = mn E k k k * mn E k i j - mn E k i k * mn E k k j) ∧ Rel E (k + 1) i := by
  obtain ⟨W, w, hW, h1, h2⟩ := Ri
  obtain ⟨V, v, hV, h3, h4⟩ := Rk
  have hm := mn_kk (E := E) (k := k)
  -- the rows below stand in one sum
  have key : ∀ j, (mn E k k k * V * W * pp E k) * E i j - sm (fun t => (if t < k then mn E k k k * V * w t - mn E k i k * W * v t else mn E k i k * W * V * pp E k) * E t j) (k + 1) = W * V * (mn E k k k * mn E k i j - mn E k i k * mn E k k j) := by
    intro j
    rw [sm, if_neg (Nat.lt_irrefl k)]
    have e1 : sm (fun t => (if t < k then mn E k k k * V * w t - mn E k i k * W * v t else mn E k i k * W * V * pp E k) * E t j) k = mn E k k k * V * sm (fun t => w t * E t j) k - mn E k i k * W * sm (fun t => v t * E t j) k := by
      rw [← sm_mul, ← sm_mul, ← sm_sub]
      refine sm_congr (fun t ht => ?_)
      rw [if_pos ht]
      grind
    rw [e1]
    have a1 := h1 j
    have a2 := h3 j
    have a3 : sm (fun t => w t * E t j) k = W * pp E k * E i j - W * mn E k i j := by omega
    have a4 : sm (fun t => v t * E t j) k = V * pp E k * E k j - V * mn E k k j := by omega
    rw [a3, a4]
    grind
  have z : ∀ j', j' < k + 1 → mn E k k k * mn E k i j' - mn E k i k * mn E k k j' = 0 := by
    intro j' hj
    by_cases c : j' = k
    · rw [c]
      grind
    · rw [h2 j' (by omega), h4 j' (by omega)]
      grind
  have r3 : ∀ j, pp E k * mn E (k + 1) i j = mn E k k k * mn E k i j - mn E k i k * mn E k k j := by
    intro j
    have := rel3 (E := E) (k := k + 1) (i := i) (j := j) (W := mn E k k k * V * W * pp E k) (w := fun t => if t < k then mn E k k k * V * w t - mn E k i k * W * v t else mn E k i k * W * V * pp E k) (fun j' hj => by
      have a := key j'
      rw [z j' hj, Int.mul_zero] at a
      omega)
    rw [key j, ← hm] at this
    have hc : (mn E k k k * V * W) * (pp E k * mn E (k + 1) i j) = (mn E k k k * V * W) * (mn E k k k * mn E k i j - mn E k i k * mn E k k j) := by grind
    refine Int.eq_of_mul_eq_mul_left ?_ hc
    rw [hm]
    exact Int.mul_ne_zero (Int.mul_ne_zero hk1 hV) hW
  refine ⟨r3, W * V * pp E k, fun t => if t < k then mn E k k k * V * w t - mn E k i k * W * v t else mn E k i k * W * V * pp E k, Int.mul_ne_zero (Int.mul_ne_zero hW hV) hk, fun j => ?_, fun j hj => ?_⟩
  · have a := key j
    rw [← r3 j] at a
    rw [← hm]
    grind
  · have a := r3 j
    rw [z j hj] at a
    rcases Int.mul_eq_zero.mp a with b | b
    · exact absurd b hk
    · exact b
theorem rel_0 {E : Nat → Nat → Int} {i : Nat} : Rel E 0 i := ⟨1, fun _ => 0, by decide, fun j => by rw [mn_0, sm]; unfold pp; rw [dt]; omega, fun j hj => by omega⟩
theorem rel_k {E : Nat → Nat → Int} : ∀ (k : Nat), (∀ t, t ≤ k → pp E t ≠ 0) → ∀ i, Rel E k i
  | 0, _, _ => rel_0
  | k + 1, h, i => (syl_of (h k (by omega)) (h (k + 1) (by omega)) (rel_k k (fun t ht => h t (by omega)) i) (rel_k k (fun t ht => h t (by omega)) k)).2
theorem syl {E : Nat → Nat → Int} {k i j : Nat} (h : ∀ t, t ≤ k + 1 → pp E t ≠ 0) : pp E k * mn E (k + 1) i j = mn E k k k * mn E k i j - mn E k i k * mn E k k j :=
  (syl_of (h k (by omega)) (h (k + 1) (by omega)) (rel_k k (fun t ht => h t (by omega)) i) (rel_k k (fun t ht => h t (by omega)) k)).1 j
theorem mn_low {E : Nat → Nat → Int} {k i j : Nat} (h : ∀ t, t ≤ k → pp E t ≠ 0) (hj : j < k) : mn E k i j = 0 := by
  obtain ⟨W, w, _, _, h2⟩ := rel_k k h i
  exact h2 j hj
/-- a column s times another -/
theorem mn_sc {E : Nat → Nat → Int} {k i j j2 : Nat} {s : Int} (h : ∀ t, t ≤ k → pp E t ≠ 0) (e : ∀ t, E t j = s * E t j2) : mn E k i j = s * mn E k i j2 := by
  obtain ⟨W, w, hW, h1, _⟩ := rel_k k h i
  refine Int.eq_of_mul_eq_mul_left hW ?_
  have a1 := h1 j
  have a2 := h1 j2
  have a3 : sm (fun t => w t * E t j) k = s * sm (fun t => w t * E t j2) k := by
    rw [← sm_mul]
    exact sm_congr (fun t _ => by rw [e t]; grind)
  rw [a1, a3, e i]
  grind
