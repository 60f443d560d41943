/-! the least price: rows over three axes, a point held by three rows (pure) -/
def L4 (a b c d : Int) : Prop := a < 0 ∨ (a = 0 ∧ (b < 0 ∨ (b = 0 ∧ (c < 0 ∨ (c = 0 ∧ d < 0)))))
/-- below 0 at the first place that isn't 0 -/
def ln (f : Nat → Int) : Prop := L4 (f 0) (f 1) (f 2) (f 3)
def zz4 (f : Nat → Int) : Prop := f 0 = 0 ∧ f 1 = 0 ∧ f 2 = 0 ∧ f 3 = 0
def lz (f : Nat → Int) : Prop := ln f ∨ zz4 f
theorem ln_add {f g : Nat → Int} (hf : ln f) (hg : ln g) : ln (fun k => f k + g k) := by
  unfold ln L4 at *
  dsimp only at *
  omega
theorem mul_neg' {c x : Int} (hc : 0 < c) : c * x < 0 ↔ x < 0 := by
  constructor
  · intro z
    refine Int.not_le.mp (fun q => ?_)
    have := Int.mul_nonneg (Int.le_of_lt hc) q
    omega
  · intro z
    exact Int.mul_neg_of_pos_of_neg hc z
theorem mul_z' {c x : Int} (hc : 0 < c) : c * x = 0 ↔ x = 0 := by
  constructor
  · intro z
    rcases Int.mul_eq_zero.mp z with q | q
    · omega
    · exact q
  · intro z
    rw [z, Int.mul_zero]
theorem ln_mul {f : Nat → Int} {c : Int} (hc : 0 < c) : ln (fun k => c * f k) ↔ ln f := by
  unfold ln L4
  rw [mul_neg' hc, mul_z' hc, mul_neg' hc, mul_z' hc, mul_neg' hc, mul_z' hc, mul_neg' hc]
theorem ln_c {f g : Nat → Int} (h : ∀ k, k < 4 → f k = g k) (hf : ln f) : ln g := by
  unfold ln at *
  rw [← h 0 (by decide), ← h 1 (by decide), ← h 2 (by decide), ← h 3 (by decide)]
  exact hf
theorem zz4_c {f g : Nat → Int} (h : ∀ k, k < 4 → f k = g k) (hf : zz4 f) : zz4 g := by
  unfold zz4 at *
  rw [← h 0 (by decide), ← h 1 (by decide), ← h 2 (by decide), ← h 3 (by decide)]
  exact hf
theorem lz_c {f g : Nat → Int} (h : ∀ k, k < 4 → f k = g k) (hf : lz f) : lz g := hf.imp (ln_c h) (zz4_c h)
theorem ln_3 (f : Nat → Int) : ln f ∨ zz4 f ∨ ln (fun k => -f k) := by
  unfold ln zz4 L4
  dsimp only
  omega
theorem ln_as {f : Nat → Int} (h1 : ln f) (h2 : ln (fun k => -f k)) : False := by
  unfold ln L4 at *
  dsimp only at *
  omega
theorem ln_nz {f : Nat → Int} (h1 : ln f) (h2 : zz4 f) : False := by
  unfold ln zz4 L4 at *
  omega
theorem lz_add {f g : Nat → Int} (hf : lz f) (hg : lz g) : lz (fun k => f k + g k) := by
  unfold lz ln zz4 L4 at *
  dsimp only at *
  omega
theorem ln_lz {f g : Nat → Int} (hf : ln f) (hg : lz g) : ln (fun k => f k + g k) := by
  unfold lz ln zz4 L4 at *
  dsimp only at *
  omega
theorem lz_mul {f : Nat → Int} {c : Int} (hc : 0 ≤ c) (hf : lz f) : lz (fun k => c * f k) := by
  rcases Int.lt_or_eq_of_le hc with h | h
  · rcases hf with hf | hf
    · exact Or.inl ((ln_mul h).mpr hf)
    · refine Or.inr ?_
      unfold zz4 at *
      dsimp only
      rw [hf.1, hf.2.1, hf.2.2.1, hf.2.2.2]
      simp
  · refine Or.inr ?_
    unfold zz4
    rw [← h]
    simp
section LP
variable {s : Nat → Nat → Int} {nd pr : Nat → Int}
def dt3 (s : Nat → Nat → Int) (r : Nat) (o : Nat → Int) : Int := s r 0 * o 0 + s r 1 * o 1 + s r 2 * o 2
def ob (pr o : Nat → Int) : Nat → Int
  | 0 => pr 0 * o 0 + pr 1 * o 1 + pr 2 * o 2
  | k + 1 => o k
/-- the point o by w comes before o' by w' -/
def plt (pr : Nat → Int) (o : Nat → Int) (w : Int) (o' : Nat → Int) (w' : Int) : Prop := ln (fun k => ob pr o k * w' - ob pr o' k * w)
def ple (pr : Nat → Int) (o : Nat → Int) (w : Int) (o' : Nat → Int) (w' : Int) : Prop := lz (fun k => ob pr o k * w' - ob pr o' k * w)
def fbl (s : Nat → Nat → Int) (nd : Nat → Int) (R : Nat) (o : Nat → Int) (w : Int) : Prop := 0 < w ∧ ∀ r, r < R → nd r * w ≤ dt3 s r o
theorem plt_tr {o o' o'' : Nat → Int} {w w' w'' : Int} (h1 : 0 < w) (h2 : 0 < w') (h3 : 0 < w'') (a : plt pr o w o' w') (b : ple pr o' w' o'' w'') : plt pr o w o'' w'' := by
  have a' := (ln_mul h3).mpr a
  have b' := lz_mul (Int.le_of_lt h1) b
  refine (ln_mul h2).mp (ln_c (fun k _ => ?_) (ln_lz a' b'))
  grind
theorem ple_tr {o o' o'' : Nat → Int} {w w' w'' : Int} (h1 : 0 < w) (h2 : 0 < w') (h3 : 0 < w'') (a : ple pr o w o' w') (b : ple pr o' w' o'' w'') : ple pr o w o'' w'' := by
  rcases a with a | a
  · exact Or.inl (plt_tr h1 h2 h3 a b)
  · have a' : lz (fun k => w'' * (ob pr o k * w' - ob pr o' k * w)) := lz_mul (Int.le_of_lt h3) (Or.inr a)
    have b' := lz_mul (Int.le_of_lt h1) b
    have c := lz_add a' b'
    have d : lz (fun k => w' * (ob pr o k * w'' - ob pr o'' k * w)) := lz_c (fun k _ => by grind) c
    rcases d with d | d
    · exact Or.inl ((ln_mul h2).mp d)
    · refine Or.inr ?_
      unfold zz4 at *
      rw [mul_z' h2, mul_z' h2, mul_z' h2, mul_z' h2] at d
      exact d
theorem plt_or {o o' : Nat → Int} {w w' : Int} : plt pr o w o' w' ∨ ple pr o' w' o w := by
  rcases ln_3 (fun k => ob pr o k * w' - ob pr o' k * w) with c | c | c
  · exact Or.inl c
  · refine Or.inr (Or.inr ?_)
    unfold zz4 at *
    dsimp only at *
    omega
  · exact Or.inr (Or.inl (ln_c (fun k _ => by omega) c))
theorem plt_no {o o' : Nat → Int} {w w' : Int} (a : plt pr o w o' w') (b : ple pr o' w' o w) : False := by
  rcases b with b | b
  · exact ln_as a (ln_c (fun k _ => by omega) b)
  · refine ln_nz a ?_
    unfold zz4 at *
    dsimp only at *
    omega
/-- both ways: the same point -/
theorem ple_eq {o o' : Nat → Int} {w w' : Int} (a : ple pr o w o' w') (b : ple pr o' w' o w) : ∀ k, k < 4 → ob pr o k * w' = ob pr o' k * w := by
  have z : zz4 (fun k => ob pr o k * w' - ob pr o' k * w) := by
    rcases a with a | a
    · exact (plt_no a b).elim
    · exact a
  intro k hk
  unfold zz4 at z
  dsimp only at z
  match k, hk with
  | 0, _ => omega
  | 1, _ => omega
  | 2, _ => omega
  | 3, _ => omega
def wy (s : Nat → Nat → Int) (H : Nat → Nat) (i a : Nat) : Int := s (H ((i + 1) % 3)) ((a + 1) % 3) * s (H ((i + 2) % 3)) ((a + 2) % 3) - s (H ((i + 1) % 3)) ((a + 2) % 3) * s (H ((i + 2) % 3)) ((a + 1) % 3)
def wh (s : Nat → Nat → Int) (H : Nat → Nat) : Int := dt3 s (H 0) (wy s H 0)
def ow (s : Nat → Nat → Int) (nd : Nat → Int) (H : Nat → Nat) (a : Nat) : Int := wy s H 0 a * nd (H 0) + wy s H 1 a * nd (H 1) + wy s H 2 a * nd (H 2)
def le3 (s : Nat → Nat → Int) (H : Nat → Nat) (r i : Nat) : Int := dt3 s r (wy s H i)
theorem lt3 {P : Nat → Prop} (h0 : P 0) (h1 : P 1) (h2 : P 2) : ∀ i, i < 3 → P i := by
  intro i hi
  match i, hi with
  | 0, _ => exact h0
  | 1, _ => exact h1
  | 2, _ => exact h2
/-- W H = whole times one -/
theorem wy_inv {H : Nat → Nat} {y : Nat → Int} : ∀ a, a < 3 → wh s H * y a = wy s H 0 a * dt3 s (H 0) y + wy s H 1 a * dt3 s (H 1) y + wy s H 2 a * dt3 s (H 2) y := by
  apply lt3 <;> simp only [wh, dt3, wy, Nat.reduceAdd, Nat.reduceMod] <;> grind
theorem ow_on {H : Nat → Nat} : ∀ j, j < 3 → dt3 s (H j) (ow s nd H) = nd (H j) * wh s H := by
  apply lt3 <;> simp only [wh, dt3, ow, wy, Nat.reduceAdd, Nat.reduceMod] <;> grind
/-- a feasible point lies off the held one along the ways -/
theorem slack {H : Nat → Nat} {y : Nat → Int} {u : Int} : ∀ k, k < 4 → ob pr y k * wh s H - ob pr (ow s nd H) k * u = (dt3 s (H 0) y - nd (H 0) * u) * ob pr (wy s H 0) k + (dt3 s (H 1) y - nd (H 1) * u) * ob pr (wy s H 1) k + (dt3 s (H 2) y - nd (H 2) * u) * ob pr (wy s H 2) k := by
  have h0 := wy_inv (s := s) (H := H) (y := y) 0 (by decide)
  have h1 := wy_inv (s := s) (H := H) (y := y) 1 (by decide)
  have h2 := wy_inv (s := s) (H := H) (y := y) 2 (by decide)
  generalize dt3 s (H 0) y = d0 at *
  generalize dt3 s (H 1) y = d1 at *
  generalize dt3 s (H 2) y = d2 at *
  intro k hk
  match k, hk with
  | 0, _ =>
    simp only [ob, ow]
    grind
  | 1, _ =>
    simp only [ob, ow]
    grind
  | 2, _ =>
    simp only [ob, ow]
    grind
  | 3, _ =>
    simp only [ob, ow]
    grind
/-- every way is dearer, or comes later -/
def dul (s : Nat → Nat → Int) (pr : Nat → Int) (H : Nat → Nat) : Prop := ∀ i, i < 3 → ln (fun k => -ob pr (wy s H i) k)
theorem opt {H : Nat → Nat} {R : Nat} (D : dul s pr H) (hw : 0 < wh s H) (hH : ∀ i, i < 3 → H i < R) {y : Nat → Int} {u : Int} (F : fbl s nd R y u) : ple pr (ow s nd H) (wh s H) y u := by
  have t := fun i hi => lz_mul (c := dt3 s (H i) y - nd (H i) * u) (by have := F.2 (H i) (hH i hi); omega) (Or.inl (D i hi))
  have sum := lz_add (lz_add (t 0 (by decide)) (t 1 (by decide))) (t 2 (by decide))
  refine lz_c (fun k hk => ?_) sum
  have e := slack (s := s) (nd := nd) (pr := pr) (H := H) (y := y) (u := u) k hk
  grind
theorem infeasible {H : Nat → Nat} {R r : Nat} (hw : 0 < wh s H) (hH : ∀ i, i < 3 → H i < R) (hr : r < R) (hb : dt3 s r (ow s nd H) < nd r * wh s H) (hl : ∀ i, i < 3 → ¬ 0 < le3 s H r i) {y : Nat → Int} {u : Int} (F : fbl s nd R y u) : False := by
  have h0 := wy_inv (s := s) (H := H) (y := y) 0 (by decide)
  have h1 := wy_inv (s := s) (H := H) (y := y) 1 (by decide)
  have h2 := wy_inv (s := s) (H := H) (y := y) 2 (by decide)
  have f0 := F.2 (H 0) (hH 0 (by decide))
  have f1 := F.2 (H 1) (hH 1 (by decide))
  have f2 := F.2 (H 2) (hH 2 (by decide))
  have fr := F.2 r hr
  have l0 := hl 0 (by decide)
  have l1 := hl 1 (by decide)
  have l2 := hl 2 (by decide)
  have e : dt3 s r y * wh s H - dt3 s r (ow s nd H) * u = (dt3 s (H 0) y - nd (H 0) * u) * le3 s H r 0 + (dt3 s (H 1) y - nd (H 1) * u) * le3 s H r 1 + (dt3 s (H 2) y - nd (H 2) * u) * le3 s H r 2 := by
    have e0 : dt3 s r y = s r 0 * y 0 + s r 1 * y 1 + s r 2 * y 2 := rfl
    have e1 : dt3 s r (ow s nd H) = s r 0 * ow s nd H 0 + s r 1 * ow s nd H 1 + s r 2 * ow s nd H 2 := rfl
    rw [e0, e1]
    unfold le3
    have e2 : ∀ i, dt3 s r (wy s H i) = s r 0 * wy s H i 0 + s r 1 * wy s H i 1 + s r 2 * wy s H i 2 := fun i => rfl
    rw [e2, e2, e2]
    generalize dt3 s (H 0) y = d0 at *
    generalize dt3 s (H 1) y = d1 at *
    generalize dt3 s (H 2) y = d2 at *
    unfold ow
    grind
  have p0 := Int.mul_nonneg (show 0 ≤ dt3 s (H 0) y - nd (H 0) * u by omega) (show 0 ≤ -le3 s H r 0 by omega)
  have p1 := Int.mul_nonneg (show 0 ≤ dt3 s (H 1) y - nd (H 1) * u by omega) (show 0 ≤ -le3 s H r 1 by omega)
  have p2 := Int.mul_nonneg (show 0 ≤ dt3 s (H 2) y - nd (H 2) * u by omega) (show 0 ≤ -le3 s H r 2 by omega)
  rw [Int.mul_neg] at p0 p1 p2
  have q1 : nd r * u * wh s H ≤ dt3 s r y * wh s H := Int.mul_le_mul_of_nonneg_right fr (Int.le_of_lt hw)
  have q2 : dt3 s r (ow s nd H) * u < nd r * wh s H * u := Int.mul_lt_mul_of_pos_right hb F.1
  have q3 : nd r * u * wh s H = nd r * wh s H * u := by grind
  omega
def upH (H : Nat → Nat) (i r : Nat) : Nat → Nat := fun j => if j = i then r else H j
theorem up_wh {H : Nat → Nat} {r : Nat} : ∀ i, i < 3 → wh s (upH H i r) = le3 s H r i := by
  apply lt3 <;> simp [wh, le3, dt3, wy, upH] <;> grind
theorem up_self {H : Nat → Nat} {r : Nat} : ∀ i, i < 3 → ∀ a, a < 3 → wy s (upH H i r) i a = wy s H i a := by
  apply lt3 <;> apply lt3 <;> simp [wy, upH]
theorem up_way {H : Nat → Nat} {r : Nat} : ∀ i, i < 3 → ∀ j, j < 3 → j ≠ i → ∀ a, a < 3 → wh s H * wy s (upH H i r) j a = le3 s H r i * wy s H j a - le3 s H r j * wy s H i a := by
  apply lt3 <;> apply lt3 <;> intro hne <;> (first | exact absurd rfl hne | skip) <;> apply lt3 <;> simp [wh, le3, dt3, wy, upH] <;> grind
theorem up_ow {H : Nat → Nat} {r : Nat} : ∀ i, i < 3 → ∀ a, a < 3 → wh s H * ow s nd (upH H i r) a = le3 s H r i * ow s nd H a + (nd r * wh s H - dt3 s r (ow s nd H)) * wy s H i a := by
  apply lt3 <;> apply lt3 <;> simp [wh, le3, dt3, wy, upH, ow] <;> grind
theorem ob_lin {x y z : Nat → Int} {a b c : Int} (h : ∀ k, k < 3 → c * z k = a * x k + b * y k) : ∀ k, k < 4 → c * ob pr z k = a * ob pr x k + b * ob pr y k := by
  have h0 := h 0 (by decide)
  have h1 := h 1 (by decide)
  have h2 := h 2 (by decide)
  intro k hk
  match k, hk with
  | 0, _ =>
    simp only [ob]
    grind
  | 1, _ =>
    simp only [ob]
    exact h0
  | 2, _ =>
    simp only [ob]
    exact h1
  | 3, _ =>
    simp only [ob]
    exact h2
/-- j by its lean comes before i by its lean -/
def bfr (s : Nat → Nat → Int) (pr : Nat → Int) (H : Nat → Nat) (r j i : Nat) : Prop := ln (fun k => ob pr (wy s H j) k * le3 s H r i - ob pr (wy s H i) k * le3 s H r j)
theorem step {H : Nat → Nat} {r i : Nat} (D : dul s pr H) (hw : 0 < wh s H) (hb : dt3 s r (ow s nd H) < nd r * wh s H) (hi : i < 3) (hl : 0 < le3 s H r i) (best : ∀ j, j < 3 → 0 < le3 s H r j → ¬ bfr s pr H r j i) : dul s pr (upH H i r) ∧ 0 < wh s (upH H i r) ∧ plt pr (ow s nd H) (wh s H) (ow s nd (upH H i r)) (wh s (upH H i r)) := by
  have e1 := up_wh (s := s) (H := H) (r := r) i hi
  refine ⟨fun j hj => ?_, by rw [e1]; exact hl, ?_⟩
  · by_cases c : j = i
    · subst c
      refine ln_c (fun k hk => ?_) (D j hj)
      have := ob_lin (pr := pr) (x := wy s H j) (y := wy s H j) (z := wy s (upH H j r) j) (a := 1) (b := 0) (c := 1) (fun k hk => by rw [up_self j hj k hk]; omega) k hk
      omega
    · refine (ln_mul hw).mp ?_
      have lin := ob_lin (pr := pr) (x := wy s H j) (y := wy s H i) (z := wy s (upH H i r) j) (a := le3 s H r i) (b := -le3 s H r j) (c := wh s H) (fun k hk => by rw [up_way i hi j hj c k hk]; grind)
      by_cases p : 0 < le3 s H r j
      · have nb := best j hj p
        rcases ln_3 (fun k => ob pr (wy s H j) k * le3 s H r i - ob pr (wy s H i) k * le3 s H r j) with q | q | q
        · exact absurd q nb
        · exfalso
          unfold zz4 at q
          obtain ⟨_, q1, q2, q3⟩ := q
          simp only [ob] at q1 q2 q3
          have h0 := up_way (s := s) (H := H) (r := r) i hi j hj c 0 (by decide)
          have h1 := up_way (s := s) (H := H) (r := r) i hi j hj c 1 (by decide)
          have h2 := up_way (s := s) (H := H) (r := r) i hi j hj c 2 (by decide)
          have z : ∀ x : Int, wh s H * x = 0 → x = 0 := fun x hx => (mul_z' hw).mp hx
          have y0 := z (wy s (upH H i r) j 0) (by grind)
          have y1 := z (wy s (upH H i r) j 1) (by grind)
          have y2 := z (wy s (upH H i r) j 2) (by grind)
          have w1 : ∀ j, j < 3 → dt3 s (upH H i r j) (wy s (upH H i r) j) = wh s (upH H i r) := by
            apply lt3 <;> simp only [wh, dt3, wy, Nat.reduceAdd, Nat.reduceMod] <;> grind
          have w2 := w1 j hj
          rw [e1] at w2
          unfold dt3 at w2
          rw [y0, y1, y2] at w2
          omega
        · refine ln_c (fun k hk => ?_) q
          have := lin k hk
          grind
      · have t1 := (ln_mul hl).mpr (D j hj)
        have t2 := lz_mul (c := -le3 s H r j) (by omega) (Or.inl (D i hi))
        refine ln_c (fun k hk => ?_) (ln_lz t1 t2)
        have := lin k hk
        grind
  · have lin := ob_lin (pr := pr) (x := ow s nd H) (y := wy s H i) (z := ow s nd (upH H i r)) (a := le3 s H r i) (b := nd r * wh s H - dt3 s r (ow s nd H)) (c := wh s H) (up_ow i hi)
    unfold plt
    rw [e1]
    have t1 := (ln_mul (show 0 < nd r * wh s H - dt3 s r (ow s nd H) by omega)).mpr (D i hi)
    refine ln_c (fun k hk => ?_) t1
    have := lin k hk
    grind
end LP
