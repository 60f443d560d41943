/-! determinants: by the last row; a row twice gives 0 -/
def sm (f : Nat → Int) : Nat → Int
  | 0 => 0
  | n + 1 => sm f n + f n
theorem sm_congr {f g : Nat → Int} : ∀ {n : Nat}, (∀ k, k < n → f k = g k) → sm f n = sm g n
  | 0, _ => rfl
  | n + 1, h => by rw [sm, sm, sm_congr (fun k hk => h k (by omega)), h n (by omega)]
theorem sm_0 : ∀ {n : Nat}, sm (fun _ => 0) n = 0
  | 0 => rfl
  | n + 1 => by rw [sm, sm_0]; rfl
theorem sm_z {f : Nat → Int} {n : Nat} (h : ∀ k, k < n → f k = 0) : sm f n = 0 := (sm_congr h).trans sm_0
theorem sm_add {f g : Nat → Int} : ∀ {n : Nat}, sm (fun k => f k + g k) n = sm f n + sm g n
  | 0 => rfl
  | n + 1 => by rw [sm, sm, sm, sm_add]; omega
theorem sm_mul {f : Nat → Int} {c : Int} : ∀ {n : Nat}, sm (fun k => c * f k) n = c * sm f n
  | 0 => by rw [sm, sm, Int.mul_zero]
  | n + 1 => by rw [sm, sm, sm_mul, Int.mul_add]
theorem sm_sub {f g : Nat → Int} : ∀ {n : Nat}, sm (fun k => f k - g k) n = sm f n - sm g n
  | 0 => rfl
  | n + 1 => by rw [sm, sm, sm, sm_sub]; omega
theorem sm_neg {f : Nat → Int} : ∀ {n : Nat}, sm (fun k => -f k) n = -sm f n
  | 0 => rfl
  | n + 1 => by rw [sm, sm, sm_neg]; omega
theorem sm_swap {f : Nat → Nat → Int} {m : Nat} : ∀ {n : Nat}, sm (fun j => sm (fun i => f j i) m) n = sm (fun i => sm (fun j => f j i) n) m
  | 0 => by
    rw [sm]
    exact sm_0.symm
  | n + 1 => by
    rw [sm, sm_swap, ← sm_add]
    exact sm_congr (fun k _ => by rw [sm])
def skp (c : Nat → Nat) (j : Nat) : Nat → Nat := fun t => if t < j then c t else c (t + 1)
def sgn (k : Nat) : Int := if k % 2 = 0 then 1 else -1
theorem sgn_s (k : Nat) : sgn (k + 1) = -sgn k := by
  unfold sgn
  split <;> split <;> omega
theorem sgn_2 (k : Nat) : sgn (k + k) = 1 := by
  unfold sgn
  rw [if_pos (by omega)]
def dt (R : Nat → Nat → Int) : Nat → (Nat → Nat) → Int
  | 0, _ => 1
  | k + 1, c => sm (fun j => sgn (j + k) * R k (c j) * dt R k (skp c j)) (k + 1)
theorem dt_rows {R R' : Nat → Nat → Int} : ∀ {k : Nat} {c : Nat → Nat}, (∀ t, t < k → R t = R' t) → dt R k c = dt R' k c
  | 0, _, _ => rfl
  | k + 1, c, h => by
    rw [dt, dt]
    exact sm_congr (fun j _ => by rw [h k (by omega), dt_rows (fun t ht => h t (by omega))])
theorem dt_cols {R : Nat → Nat → Int} : ∀ {k : Nat} {c c' : Nat → Nat}, (∀ t, t < k → c t = c' t) → dt R k c = dt R k c'
  | 0, _, _, _ => rfl
  | k + 1, c, c', h => by
    rw [dt, dt]
    refine sm_congr (fun j hj => ?_)
    rw [h j hj, dt_cols (c := skp c j) (c' := skp c' j)]
    intro t ht
    unfold skp
    split
    · exact h t (by omega)
    · exact h (t + 1) (by omega)
theorem dbl : ∀ (n : Nat) (f : Nat → Nat → Int), (∀ i j, i < j → j ≤ n → f j i = -f i (j - 1)) → sm (fun j => sm (fun i => f j i) n) (n + 1) = 0
  | 0, f, _ => by
    rw [sm, sm]
    rfl
  | n + 1, f, h => by
    rw [sm]
    have e1 : sm (fun j => sm (fun i => f j i) (n + 1)) (n + 1) = sm (fun j => sm (fun i => f j i) n) (n + 1) + sm (fun j => f j n) (n + 1) := by
      rw [← sm_add]
      exact sm_congr (fun k _ => by rw [sm])
    rw [e1, dbl n f (fun i j h1 h2 => h i j h1 (by omega))]
    have e2 : sm (fun i => f (n + 1) i) (n + 1) = -sm (fun j => f j n) (n + 1) := by
      rw [← sm_neg]
      refine sm_congr (fun k hk => ?_)
      rw [h k (n + 1) (by omega) (by omega), Nat.add_sub_cancel]
    rw [e2]
    omega
/-- the last two rows x and y -/
def dF (R : Nat → Nat → Int) (k : Nat) (c : Nat → Nat) (x y : Nat → Int) : Int := sm (fun j => sgn (j + (k + 1)) * x (c j) * sm (fun i => sgn (i + k) * y (skp c j i) * dt R k (skp (skp c j) i)) (k + 1)) (k + 2)
theorem dF_e {R : Nat → Nat → Int} {k : Nat} {c : Nat → Nat} : dt R (k + 2) c = dF R k c (R (k + 1)) (R k) := rfl
theorem skp_2 {c : Nat → Nat} {i j : Nat} (h : i < j) : skp (skp c j) i = skp (skp c i) (j - 1) := by
  funext t
  unfold skp
  by_cases a : t < i
  · rw [if_pos a, if_pos (by omega), if_pos (by omega), if_pos a]
  · rw [if_neg a]
    by_cases b : t + 1 < j
    · rw [if_pos b, if_pos (by omega), if_neg a]
    · rw [if_neg b, if_neg (by omega), if_neg (by omega)]
theorem dF_xx {R : Nat → Nat → Int} {k : Nat} {c : Nat → Nat} {x : Nat → Int} : dF R k c x x = 0 := by
  unfold dF
  have e : ∀ j, sgn (j + (k + 1)) * x (c j) * sm (fun i => sgn (i + k) * x (skp c j i) * dt R k (skp (skp c j) i)) (k + 1) = sm (fun i => sgn (j + (k + 1)) * x (c j) * (sgn (i + k) * x (skp c j i) * dt R k (skp (skp c j) i))) (k + 1) := by
    intro j
    rw [sm_mul]
  rw [sm_congr (fun j _ => e j)]
  refine dbl (k + 1) (fun j i => sgn (j + (k + 1)) * x (c j) * (sgn (i + k) * x (skp c j i) * dt R k (skp (skp c j) i))) ?_
  intro i j h1 h2
  obtain ⟨j', rfl⟩ : ∃ j', j = j' + 1 := ⟨j - 1, by omega⟩
  show sgn (j' + 1 + (k + 1)) * x (c (j' + 1)) * (sgn (i + k) * x (skp c (j' + 1) i) * dt R k (skp (skp c (j' + 1)) i)) = -(sgn (i + (k + 1)) * x (c i) * (sgn (j' + 1 - 1 + k) * x (skp c i (j' + 1 - 1)) * dt R k (skp (skp c i) (j' + 1 - 1))))
  rw [skp_2 h1, Nat.add_sub_cancel]
  have a1 : skp c (j' + 1) i = c i := by
    unfold skp
    rw [if_pos h1]
  have a2 : skp c i j' = c (j' + 1) := by
    unfold skp
    rw [if_neg (by omega)]
  have b1 : sgn (j' + 1 + (k + 1)) = sgn (j' + k) := by
    rw [show j' + 1 + (k + 1) = j' + k + 1 + 1 by omega, sgn_s, sgn_s, Int.neg_neg]
  have b2 : sgn (i + (k + 1)) = -sgn (i + k) := by
    rw [show i + (k + 1) = i + k + 1 by omega, sgn_s]
  rw [a1, a2, b1, b2]
  grind
theorem dF_add {R : Nat → Nat → Int} {k : Nat} {c : Nat → Nat} {x y z : Nat → Int} : dF R k c (fun t => x t + y t) z = dF R k c x z + dF R k c y z := by
  unfold dF
  rw [← sm_add]
  exact sm_congr (fun j _ => by grind)
theorem dF_add2 {R : Nat → Nat → Int} {k : Nat} {c : Nat → Nat} {x y z : Nat → Int} : dF R k c z (fun t => x t + y t) = dF R k c z x + dF R k c z y := by
  unfold dF
  rw [← sm_add]
  refine sm_congr (fun j _ => ?_)
  rw [← Int.mul_add, ← sm_add]
  congr 1
  exact sm_congr (fun i _ => by grind)
theorem dF_sw {R : Nat → Nat → Int} {k : Nat} {c : Nat → Nat} {x y : Nat → Int} : dF R k c x y = -dF R k c y x := by
  have h1 := dF_xx (R := R) (k := k) (c := c) (x := fun t => x t + y t)
  rw [dF_add, dF_add2, dF_add2, dF_xx, dF_xx] at h1
  omega
theorem dt_eq2 : ∀ (k a : Nat) (R : Nat → Nat → Int) (c : Nat → Nat), a < k → R k = R a → dt R (k + 1) c = 0
  | 0, _, _, _, h, _ => by omega
  | k + 1, a, R, c, h, e => by
    by_cases z : a = k
    · subst z
      rw [dF_e, e]
      exact dF_xx
    · have h1 : dt R (k + 2) c = -dt (fun t => if t = k then R (k + 1) else if t = k + 1 then R k else R t) (k + 2) c := by
        rw [dF_e, dF_sw, dF_e]
        rw [if_pos rfl, if_neg (show ¬ k + 1 = k by omega), if_pos rfl]
        congr 1
        unfold dF
        refine sm_congr (fun j _ => ?_)
        congr 1
        refine sm_congr (fun i _ => ?_)
        congr 1
        exact dt_rows (fun t ht => by rw [if_neg (by omega), if_neg (by omega)])
      rw [h1, dt, sm_z]
      · rfl
      · intro j _
        rw [dt_eq2 k a _ (skp c j) (by omega) (by rw [if_pos rfl, if_neg z, if_neg (by omega)]; exact e), Int.mul_zero]
