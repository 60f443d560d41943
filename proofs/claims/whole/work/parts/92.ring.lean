/-! open stretches of a way from 0 to 1; the ring and the hull's edges -/
/-- at n by d of the way from p to q -/
def psn (p q n d : Int) : Prop := 0 < p * (d - n) + q * n
def fea (P : Int → Int → Prop) : Prop := ∃ n d : Int, 0 < d ∧ 0 ≤ n ∧ n ≤ d ∧ ∀ p q, P p q → psn p q n d
/-- what the stretches of P leave is what lies between a and b -/
def cst (P : Int → Int → Prop) (aT aB bT bB : Int) : Prop := 0 < aB ∧ 0 < bB ∧ ∀ n d : Int, 0 < d → 0 ≤ n → n ≤ d → ((∀ p q, P p q → psn p q n d) ↔ (aT * d < n * aB ∧ n * bB < bT * d))
theorem lt_of_mul {a b c : Int} (h : a * c < b * c) (hc : 0 < c) : a < b := Int.lt_of_mul_lt_mul_right h (Int.le_of_lt hc)
/-- x by y below t by d and t by d below z by w: x by y below z by w -/
theorem fr_tr {x y n d z w : Int} (hy : 0 < y) (hd : 0 < d) (hw : 0 < w) (h1 : x * d < n * y) (h2 : n * w < z * d) : x * w < z * y := by
  have a1 : x * d * w < n * y * w := Int.mul_lt_mul_of_pos_right h1 hw
  have a2 : n * w * y < z * d * y := Int.mul_lt_mul_of_pos_right h2 hy
  refine lt_of_mul (c := d) ?_ hd
  grind
theorem fr_le {x y n d z w : Int} (hy : 0 < y) (hd : 0 < d) (hw : 0 < w) (h1 : x * w ≤ z * y) (h2 : z * d < n * w) : x * d < n * y := by
  have a1 : x * w * d ≤ z * y * d := Int.mul_le_mul_of_nonneg_right h1 (Int.le_of_lt hd)
  have a2 : z * d * y < n * w * y := Int.mul_lt_mul_of_pos_right h2 hy
  refine lt_of_mul (c := w) ?_ hw
  grind
theorem fr_ge {x y n d z w : Int} (hy : 0 < y) (hd : 0 < d) (hw : 0 < w) (h1 : z * y ≤ x * w) (h2 : n * w < z * d) : n * y < x * d := by
  have a1 : z * y * d ≤ x * w * d := Int.mul_le_mul_of_nonneg_right h1 (Int.le_of_lt hd)
  have a2 : n * w * y < z * d * y := Int.mul_lt_mul_of_pos_right h2 hy
  refine lt_of_mul (c := w) ?_ hw
  grind
theorem cst_0 : cst (fun _ _ => False) (-1) 1 2 1 := by
  refine ⟨by decide, by decide, fun n d h1 h2 h3 => ⟨fun _ => ⟨by omega, by omega⟩, fun _ p q z => z.elim⟩⟩
theorem cst_c {P P' : Int → Int → Prop} {aT aB bT bB : Int} (h : cst P aT aB bT bB) (e : ∀ p q, P p q ↔ P' p q) : cst P' aT aB bT bB := by
  obtain rfl : P = P' := by
    funext p q
    exact propext (e p q)
  exact h
def add1 (P : Int → Int → Prop) (p0 q0 : Int) : Int → Int → Prop := fun p q => P p q ∨ (p = p0 ∧ q = q0)
theorem add_iff {P : Int → Int → Prop} {p0 q0 n d : Int} : (∀ p q, add1 P p0 q0 p q → psn p q n d) ↔ ((∀ p q, P p q → psn p q n d) ∧ psn p0 q0 n d) := by
  refine ⟨fun z => ⟨fun p q y => z p q (Or.inl y), z p0 q0 (Or.inr ⟨rfl, rfl⟩)⟩, fun z p q y => ?_⟩
  rcases y with y | y
  · exact z.1 p q y
  · rw [y.1, y.2]
    exact z.2
/-- nothing new: positive all along -/
theorem cst_p {P : Int → Int → Prop} {aT aB bT bB p q : Int} (h : cst P aT aB bT bB) (hp : 0 < p) (hq : 0 < q) : cst (add1 P p q) aT aB bT bB := by
  refine ⟨h.1, h.2.1, fun n d h1 h2 h3 => ?_⟩
  rw [add_iff, h.2.2 n d h1 h2 h3]
  refine ⟨fun z => z.1, fun z => ⟨z, ?_⟩⟩
  unfold psn
  have a1 : 0 ≤ p * (d - n) := Int.mul_nonneg (by omega) (by omega)
  have a2 : 0 ≤ q * n := Int.mul_nonneg (by omega) h2
  rcases Int.lt_or_eq_of_le h2 with c | c
  · have := Int.mul_pos hq c
    omega
  · have := Int.mul_pos hp (show 0 < d - n by omega)
    omega
theorem psn_a {p q n d : Int} : psn p q n d ↔ (-p) * d < n * (q - p) := by
  unfold psn
  have : p * (d - n) + q * n = n * (q - p) - (-p) * d := by grind
  rw [this]
  omega
theorem psn_b {p q n d : Int} : psn p q n d ↔ n * (p - q) < p * d := by
  unfold psn
  have : p * (d - n) + q * n = p * d - n * (p - q) := by grind
  rw [this]
  omega
theorem cst_a {P : Int → Int → Prop} {aT aB bT bB p q : Int} (h : cst P aT aB bT bB) (hm : 0 < q - p) : cst (add1 P p q) (if aT * (q - p) < -p * aB then -p else aT) (if aT * (q - p) < -p * aB then q - p else aB) bT bB := by
  by_cases c : aT * (q - p) < -p * aB
  · rw [if_pos c, if_pos c]
    refine ⟨hm, h.2.1, fun n d h1 h2 h3 => ?_⟩
    rw [add_iff, h.2.2 n d h1 h2 h3, psn_a]
    exact ⟨fun z => ⟨z.2, z.1.2⟩, fun z => ⟨⟨fr_le h.1 h1 hm (Int.le_of_lt c) z.1, z.2⟩, z.1⟩⟩
  · rw [if_neg c, if_neg c]
    refine ⟨h.1, h.2.1, fun n d h1 h2 h3 => ?_⟩
    rw [add_iff, h.2.2 n d h1 h2 h3, psn_a]
    exact ⟨fun z => z.1, fun z => ⟨z, fr_le hm h1 h.1 (by omega) z.1⟩⟩
theorem cst_b {P : Int → Int → Prop} {aT aB bT bB p q : Int} (h : cst P aT aB bT bB) (hm : 0 < p - q) : cst (add1 P p q) aT aB (if p * bB < bT * (p - q) then p else bT) (if p * bB < bT * (p - q) then p - q else bB) := by
  by_cases c : p * bB < bT * (p - q)
  · rw [if_pos c, if_pos c]
    refine ⟨h.1, hm, fun n d h1 h2 h3 => ?_⟩
    rw [add_iff, h.2.2 n d h1 h2 h3, psn_b]
    exact ⟨fun z => ⟨z.1.1, z.2⟩, fun z => ⟨⟨z.1, fr_ge h.2.1 h1 hm (Int.le_of_lt c) z.2⟩, z.2⟩⟩
  · rw [if_neg c, if_neg c]
    refine ⟨h.1, h.2.1, fun n d h1 h2 h3 => ?_⟩
    rw [add_iff, h.2.2 n d h1 h2 h3, psn_b]
    exact ⟨fun z => z.1, fun z => ⟨z, fr_ge hm h1 h.2.1 (by omega) z.2⟩⟩
/-- the end -/
theorem cst_end {P : Int → Int → Prop} {aT aB bT bB : Int} (h : cst P aT aB bT bB) : fea P ↔ (aT < aB ∧ 0 < bT ∧ aT * bB < bT * aB) := by
  obtain ⟨h1, h2, h3⟩ := h
  constructor
  · rintro ⟨n, d, d0, n0, nd, hp⟩
    have hh := (h3 n d d0 n0 nd).mp hp
    refine ⟨?_, ?_, fr_tr h1 d0 h2 hh.1 hh.2⟩
    · have : n * aB ≤ d * aB := Int.mul_le_mul_of_nonneg_right nd (Int.le_of_lt h1)
      refine lt_of_mul (c := d) ?_ d0
      grind
    · have : 0 ≤ n * bB := Int.mul_nonneg n0 (Int.le_of_lt h2)
      refine lt_of_mul (c := d) ?_ d0
      rw [Int.zero_mul]
      omega
  · rintro ⟨c1, c2, c3⟩
    by_cases k1 : aT < 0
    · refine ⟨0, 1, by decide, by decide, by decide, (h3 0 1 (by decide) (by decide) (by decide)).mpr ⟨by omega, by omega⟩⟩
    · by_cases k2 : bB < bT
      · refine ⟨1, 1, by decide, by decide, by decide, (h3 1 1 (by decide) (by decide) (by decide)).mpr ⟨by omega, by omega⟩⟩
      · have p1 := Int.mul_pos h1 h2
        have p2 : 0 ≤ aT * bB := Int.mul_nonneg (by omega) (by omega)
        have p3 : 0 ≤ bT * aB := Int.mul_nonneg (by omega) (by omega)
        have p4 : aT * bB ≤ aB * bB := Int.mul_le_mul_of_nonneg_right (by omega) (by omega)
        have p5 : bT * aB ≤ bB * aB := Int.mul_le_mul_of_nonneg_right (by omega) (by omega)
        have p6 : bB * aB = aB * bB := Int.mul_comm _ _
        refine ⟨aT * bB + bT * aB, 2 * (aB * bB), by omega, by omega, by omega, (h3 _ _ (by omega) (by omega) (by omega)).mpr ⟨?_, ?_⟩⟩
        · have := Int.mul_lt_mul_of_pos_right c3 h1
          grind
        · have := Int.mul_lt_mul_of_pos_right c3 h2
          grind
theorem fea_mul {P P' : Int → Int → Prop} (h : ∀ p q, P p q → ∃ p' q' l u : Int, P' p' q' ∧ 0 < l ∧ 0 < u ∧ l * p = u * p' ∧ l * q = u * q') (f : fea P') : fea P := by
  obtain ⟨n, d, d0, n0, nd, hp⟩ := f
  refine ⟨n, d, d0, n0, nd, fun p q z => ?_⟩
  obtain ⟨p', q', l, u, h1, h2, h3, h4, h5⟩ := h p q z
  have := Int.mul_pos h3 (hp p' q' h1)
  unfold psn
  refine Int.pos_of_mul_pos_left (b := l) ?_ h2
  have e : (p * (d - n) + q * n) * l = u * (p' * (d - n) + q' * n) := by grind
  rw [e]
  exact this
theorem no_ab {a b : Int} (h1 : 0 ≤ -a) (h2 : 0 ≤ -b) (h3 : 0 < a ∨ 0 < b) : False := by omega
section HULL
variable {X Y : Nat → Int}
theorem crs_1 {a b c : Nat} : crs X Y b c a = crs X Y a b c := by
  unfold crs
  grind
theorem crs_n {a b c : Nat} : crs X Y b a c = -crs X Y a b c := by
  unfold crs
  grind
theorem crs_m {a b c : Nat} : crs X Y a c b = -crs X Y a b c := by
  unfold crs
  grind
theorem crs_aa {a b : Nat} : crs X Y a b a = 0 := by
  unfold crs
  grind
theorem crs_ab {a b : Nat} : crs X Y a b b = 0 := by
  unfold crs
  grind
theorem crs_a0 {a b : Nat} : crs X Y a a b = 0 := by
  unfold crs
  grind
/-- two points on a line: their sides are the line's, times a number by another -/
theorem crs_line {a b u v : Nat} (h1 : crs X Y a b u = 0) (h2 : crs X Y a b v = 0) (p : Nat) : ((X b - X a) * (X b - X a) + (Y b - Y a) * (Y b - Y a)) * crs X Y u v p = ((X v - X u) * (X b - X a) + (Y v - Y u) * (Y b - Y a)) * crs X Y a b p := by
  unfold crs at *
  grind
theorem crs_line2 {a b u v : Nat} (h1 : crs X Y a b u = 0) (h2 : crs X Y a b v = 0) : ((X b - X a) * (X b - X a) + (Y b - Y a) * (Y b - Y a)) * (X v - X u) = ((X v - X u) * (X b - X a) + (Y v - Y u) * (Y b - Y a)) * (X b - X a) ∧ ((X b - X a) * (X b - X a) + (Y b - Y a) * (Y b - Y a)) * (Y v - Y u) = ((X v - X u) * (X b - X a) + (Y v - Y u) * (Y b - Y a)) * (Y b - Y a) := by
  unfold crs at *
  constructor <;> grind
theorem sq_nn' (x : Int) : 0 ≤ x * x := by
  rcases Int.le_total 0 x with c | c
  · exact Int.mul_nonneg c c
  · exact Int.mul_nonneg_of_nonpos_of_nonpos c c
theorem len_pos {a b : Nat} (hab : ¬ (X a = X b ∧ Y a = Y b)) : 0 < (X b - X a) * (X b - X a) + (Y b - Y a) * (Y b - Y a) := by
  have a1 := sq_nn' (X b - X a)
  have a2 := sq_nn' (Y b - Y a)
  refine Int.not_le.mp (fun q => ?_)
  have z1 : (X b - X a) * (X b - X a) = 0 := by omega
  have z2 : (Y b - Y a) * (Y b - Y a) = 0 := by omega
  have y1 := Int.mul_eq_zero.mp z1
  have y2 := Int.mul_eq_zero.mp z2
  omega
/-- an edge on a line that has a point x on its left and on the edge's: a positive multiple -/
theorem edge_mul {a b u v x : Nat} (hab : ¬ (X a = X b ∧ Y a = Y b)) (huv : ¬ (X u = X v ∧ Y u = Y v)) (h1 : crs X Y a b u = 0) (h2 : crs X Y a b v = 0) (h3 : 0 < crs X Y a b x) (h4 : 0 ≤ crs X Y u v x) : ∃ l k : Int, 0 < l ∧ 0 < k ∧ ∀ p, l * crs X Y u v p = k * crs X Y a b p := by
  have hl := len_pos hab
  refine ⟨_, _, hl, ?_, crs_line h1 h2⟩
  have e := crs_line h1 h2 x
  have e2 := crs_line2 h1 h2
  generalize (X b - X a) * (X b - X a) + (Y b - Y a) * (Y b - Y a) = L at *
  generalize (X v - X u) * (X b - X a) + (Y v - Y u) * (Y b - Y a) = K at *
  have p1 : 0 ≤ L * crs X Y u v x := Int.mul_nonneg (Int.le_of_lt hl) h4
  rcases Int.lt_trichotomy K 0 with c | c | c
  · have := Int.mul_neg_of_neg_of_pos c h3
    omega
  · rw [c, Int.zero_mul, Int.zero_mul] at e2
    have z1 := Int.mul_eq_zero.mp e2.1
    have z2 := Int.mul_eq_zero.mp e2.2
    exact absurd ⟨by omega, by omega⟩ huv
  · exact c
/-- the stretches of the ring's edges -/
def rgP (X Y : Nat → Int) (F : Nat → Nat) (f t : Nat) (I : Nat) : Int → Int → Prop := fun p q => ∃ i, i < I ∧ i < 4 ∧ F i ≠ F ((i + 1) % 4) ∧ p = crs X Y (F i) (F ((i + 1) % 4)) f ∧ q = crs X Y (F i) (F ((i + 1) % 4)) t
def egE (X Y : Nat → Int) (F : Nat → Nat) (i k : Nat) : Prop := F i ≠ F k ∧ ∀ m, m < 4 → 0 ≤ crs X Y (F i) (F k) (F m)
/-- the stretches of the hull's edges -/
def egP (X Y : Nat → Int) (F : Nat → Nat) (f t : Nat) (N : Nat) : Int → Int → Prop := fun p q => ∃ i k, 4 * i + k < N ∧ i < 4 ∧ k < 4 ∧ egE X Y F i k ∧ p = crs X Y (F i) (F k) f ∧ q = crs X Y (F i) (F k) t
theorem ring_hull {F : Nat → Nat} {f t : Nat} (hd : ∀ i k, i < 4 → k < 4 → F i ≠ F k → ¬ (X (F i) = X (F k) ∧ Y (F i) = Y (F k))) (hA : F 0 ≠ F 1) (hB : F 2 ≠ F 3) (a1 : 0 ≤ crs X Y (F 0) (F 1) (F 2)) (a2 : 0 ≤ crs X Y (F 0) (F 1) (F 3)) (a3 : 0 < crs X Y (F 0) (F 1) (F 2) ∨ 0 < crs X Y (F 0) (F 1) (F 3)) (b1 : 0 ≤ crs X Y (F 2) (F 3) (F 0)) (b2 : 0 ≤ crs X Y (F 2) (F 3) (F 1)) (b3 : 0 < crs X Y (F 2) (F 3) (F 0) ∨ 0 < crs X Y (F 2) (F 3) (F 1)) : fea (rgP X Y F f t 4) ↔ fea (egP X Y F f t 16) := by
  have m4 : ∀ {P : Nat → Prop}, P 0 → P 1 → P 2 → P 3 → ∀ m, m < 4 → P m := by
    intro P h0 h1 h2 h3 m hm
    match m, hm with
    | 0, _ => exact h0
    | 1, _ => exact h1
    | 2, _ => exact h2
    | 3, _ => exact h3
  have d01 := hd 0 1 (by decide) (by decide) hA
  have d23 := hd 2 3 (by decide) (by decide) hB
  -- the edge lies on the first line, or on the second
  have onA : ∀ u v, u < 4 → v < 4 → F u ≠ F v → crs X Y (F 0) (F 1) (F u) = 0 → crs X Y (F 0) (F 1) (F v) = 0 → (∀ m, m < 4 → 0 ≤ crs X Y (F u) (F v) (F m)) → ∃ l k : Int, 0 < l ∧ 0 < k ∧ ∀ p, l * crs X Y (F u) (F v) p = k * crs X Y (F 0) (F 1) p := by
    intro u v hu hv hne h1 h2 h3
    rcases a3 with c | c
    · exact edge_mul d01 (hd u v hu hv hne) h1 h2 c (h3 2 (by decide))
    · exact edge_mul d01 (hd u v hu hv hne) h1 h2 c (h3 3 (by decide))
  have onB : ∀ u v, u < 4 → v < 4 → F u ≠ F v → crs X Y (F 2) (F 3) (F u) = 0 → crs X Y (F 2) (F 3) (F v) = 0 → (∀ m, m < 4 → 0 ≤ crs X Y (F u) (F v) (F m)) → ∃ l k : Int, 0 < l ∧ 0 < k ∧ ∀ p, l * crs X Y (F u) (F v) p = k * crs X Y (F 2) (F 3) p := by
    intro u v hu hv hne h1 h2 h3
    rcases b3 with c | c
    · exact edge_mul d23 (hd u v hu hv hne) h1 h2 c (h3 0 (by decide))
    · exact edge_mul d23 (hd u v hu hv hne) h1 h2 c (h3 1 (by decide))
  have s012 := crs_1 (X := X) (Y := Y) (a := F 0) (b := F 1) (c := F 2)
  have s013 := crs_1 (X := X) (Y := Y) (a := F 3) (b := F 0) (c := F 1)
  have s230 := crs_1 (X := X) (Y := Y) (a := F 2) (b := F 3) (c := F 0)
  have s231 := crs_1 (X := X) (Y := Y) (a := F 1) (b := F 2) (c := F 3)
  constructor
  · refine fea_mul ?_
    rintro p q ⟨i, k, hN, hi, hk, ⟨hne, hm⟩, rfl, rfl⟩
    have self : k = (i + 1) % 4 → ∃ p' q' l u : Int, rgP X Y F f t 4 p' q' ∧ 0 < l ∧ 0 < u ∧ l * crs X Y (F i) (F k) f = u * p' ∧ l * crs X Y (F i) (F k) t = u * q' := by
      intro e
      subst e
      exact ⟨_, _, 1, 1, ⟨i, hi, hi, hne, rfl, rfl⟩, by decide, by decide, rfl, rfl⟩
    have byA : crs X Y (F 0) (F 1) (F i) = 0 → crs X Y (F 0) (F 1) (F k) = 0 → ∃ p' q' l u : Int, rgP X Y F f t 4 p' q' ∧ 0 < l ∧ 0 < u ∧ l * crs X Y (F i) (F k) f = u * p' ∧ l * crs X Y (F i) (F k) t = u * q' := by
      intro h1 h2
      obtain ⟨l, u, l0, u0, hl⟩ := onA i k hi hk hne h1 h2 hm
      exact ⟨_, _, l, u, ⟨0, by decide, by decide, hA, rfl, rfl⟩, l0, u0, hl f, hl t⟩
    have byB : crs X Y (F 2) (F 3) (F i) = 0 → crs X Y (F 2) (F 3) (F k) = 0 → ∃ p' q' l u : Int, rgP X Y F f t 4 p' q' ∧ 0 < l ∧ 0 < u ∧ l * crs X Y (F i) (F k) f = u * p' ∧ l * crs X Y (F i) (F k) t = u * q' := by
      intro h1 h2
      obtain ⟨l, u, l0, u0, hl⟩ := onB i k hi hk hne h1 h2 hm
      exact ⟨_, _, l, u, ⟨2, by decide, by decide, hB, rfl, rfl⟩, l0, u0, hl f, hl t⟩
    have m0 := hm 0 (by decide)
    have m1 := hm 1 (by decide)
    have m2 := hm 2 (by decide)
    have m3 := hm 3 (by decide)
    match i, k, hi, hk, hne, m0, m1, m2, m3, self, byA, byB with
    | 0, 0, _, _, hne, _, _, _, _, _, _, _ => exact absurd rfl hne
    | 1, 1, _, _, hne, _, _, _, _, _, _, _ => exact absurd rfl hne
    | 2, 2, _, _, hne, _, _, _, _, _, _, _ => exact absurd rfl hne
    | 3, 3, _, _, hne, _, _, _, _, _, _, _ => exact absurd rfl hne
    | 0, 1, _, _, _, _, _, _, _, self, _, _ => exact self rfl
    | 1, 2, _, _, _, _, _, _, _, self, _, _ => exact self rfl
    | 2, 3, _, _, _, _, _, _, _, self, _, _ => exact self rfl
    | 3, 0, _, _, _, _, _, _, _, self, _, _ => exact self rfl
    | 0, 2, _, _, _, _, m1, _, _, _, byA, _ =>
      rw [crs_m] at m1
      exact byA crs_aa (by omega)
    | 0, 3, _, _, _, _, m1, _, _, _, byA, _ =>
      rw [crs_m] at m1
      exact byA crs_aa (by omega)
    | 1, 0, _, _, _, _, _, m2, m3, _, _, _ =>
      rw [crs_n] at m2 m3
      exact (no_ab m2 m3 a3).elim
    | 1, 3, _, _, _, _, _, m2, _, _, _, byB =>
      rw [crs_m, ← s231] at m2
      exact byB (by omega) crs_ab
    | 2, 0, _, _, _, _, _, _, m3, _, _, byB =>
      rw [crs_m] at m3
      exact byB crs_aa (by omega)
    | 2, 1, _, _, _, m0, _, _, _, _, byA, _ =>
      rw [crs_n, s012] at m0
      exact byA (by omega) crs_ab
    | 3, 1, _, _, _, m0, _, _, _, _, byA, _ =>
      rw [crs_m] at m0
      exact byA (by omega) crs_ab
    | 3, 2, _, _, _, m0, m1, _, _, _, _, _ =>
      rw [crs_n] at m0 m1
      exact (no_ab m0 m1 b3).elim
  · refine fea_mul ?_
    rintro p q ⟨i, hi, hi4, hne, rfl, rfl⟩
    refine ⟨_, _, 1, 1, ⟨i, (i + 1) % 4, by omega, hi4, by omega, ⟨hne, ?_⟩, rfl, rfl⟩, by decide, by decide, rfl, rfl⟩
    match i, hi4 with
    | 0, _ => exact m4 (by show 0 ≤ crs X Y (F 0) (F 1) (F 0); rw [crs_aa]; decide) (by show 0 ≤ crs X Y (F 0) (F 1) (F 1); rw [crs_ab]; decide) a1 a2
    | 1, _ => exact m4 (by show 0 ≤ crs X Y (F 1) (F 2) (F 0); rw [s012]; exact a1) (by show 0 ≤ crs X Y (F 1) (F 2) (F 1); rw [crs_aa]; decide) (by show 0 ≤ crs X Y (F 1) (F 2) (F 2); rw [crs_ab]; decide) (by show 0 ≤ crs X Y (F 1) (F 2) (F 3); rw [← s231]; exact b2)
    | 2, _ => exact m4 b1 b2 (by show 0 ≤ crs X Y (F 2) (F 3) (F 2); rw [crs_aa]; decide) (by show 0 ≤ crs X Y (F 2) (F 3) (F 3); rw [crs_ab]; decide)
    | 3, _ => exact m4 (by show 0 ≤ crs X Y (F 3) (F 0) (F 0); rw [crs_ab]; decide) (by show 0 ≤ crs X Y (F 3) (F 0) (F 1); rw [← s013]; exact a2) (by show 0 ≤ crs X Y (F 3) (F 0) (F 2); rw [s230]; exact b1) (by show 0 ≤ crs X Y (F 3) (F 0) (F 3); rw [crs_aa]; decide)
end HULL
theorem fea_no {P : Int → Int → Prop} {p q : Int} (h : P p q) (hp : p ≤ 0) (hq : q ≤ 0) : ¬ fea P := by
  rintro ⟨n, d, d0, n0, nd, z⟩
  have := z p q h
  unfold psn at this
  have a1 : p * (d - n) ≤ 0 := Int.mul_nonpos_of_nonpos_of_nonneg hp (by omega)
  have a2 : q * n ≤ 0 := Int.mul_nonpos_of_nonpos_of_nonneg hq n0
  omega
theorem cst_a0 {P : Int → Int → Prop} {bT bB p q : Int} (h : cst P (-1) 1 bT bB) (hm : 0 < q - p) : cst (add1 P p q) (-p) (q - p) bT bB := by
  refine ⟨hm, h.2.1, fun n d h1 h2 h3 => ?_⟩
  rw [add_iff, h.2.2 n d h1 h2 h3, psn_a]
  exact ⟨fun z => ⟨z.2, z.1.2⟩, fun z => ⟨⟨by omega, z.2⟩, z.1⟩⟩
theorem cst_b0 {P : Int → Int → Prop} {aT aB p q : Int} (h : cst P aT aB 2 1) (hm : 0 < p - q) : cst (add1 P p q) aT aB p (p - q) := by
  refine ⟨h.1, hm, fun n d h1 h2 h3 => ?_⟩
  rw [add_iff, h.2.2 n d h1 h2 h3, psn_b]
  exact ⟨fun z => ⟨z.1.1, z.2⟩, fun z => ⟨⟨z.1, by omega⟩, z.2⟩⟩
/-- the model's numbers -/
def MS (P : Int → Int → Prop) (lN lD hN hD : Int) : Prop := 0 ≤ lD ∧ 0 ≤ hD ∧ (-8000000 ≤ lN ∧ lN ≤ 8000000) ∧ lD ≤ 16000000 ∧ (-8000000 ≤ hN ∧ hN ≤ 8000000) ∧ hD ≤ 16000000 ∧ cst P (if lD = 0 then -1 else lN) (if lD = 0 then 1 else lD) (if hD = 0 then 2 else hN) (if hD = 0 then 1 else hD)
theorem ms_0 : MS (fun _ _ => False) (-1) 0 1 0 := ⟨by decide, by decide, by decide, by decide, by decide, by decide, cst_0⟩
theorem ms_c {P P' : Int → Int → Prop} {lN lD hN hD : Int} (h : MS P lN lD hN hD) (e : ∀ p q, P p q ↔ P' p q) : MS P' lN lD hN hD := ⟨h.1, h.2.1, h.2.2.1, h.2.2.2.1, h.2.2.2.2.1, h.2.2.2.2.2.1, cst_c h.2.2.2.2.2.2 e⟩
section MSS
variable {P : Int → Int → Prop} {lN lD hN hD p q : Int}
theorem ms_lo (h : MS P lN lD hN hD) (hp : -8000000 ≤ p ∧ p ≤ 8000000) (hq : -8000000 ≤ q ∧ q ≤ 8000000) (hm : 0 < q - p) (c : lD = 0 ∨ lN * (q - p) < -p * lD) : MS (add1 P p q) (-p) (q - p) hN hD := by
  obtain ⟨h1, h2, h3, h4, h5, h6, h7⟩ := h
  refine ⟨by omega, h2, by omega, by omega, h5, h6, ?_⟩
  rw [if_neg (show ¬ q - p = 0 by omega), if_neg (show ¬ q - p = 0 by omega)]
  by_cases e : lD = 0
  · rw [if_pos e, if_pos e] at h7
    exact cst_a0 h7 hm
  · rw [if_neg e, if_neg e] at h7
    have := cst_a h7 hm
    rw [if_pos (by omega), if_pos (by omega)] at this
    exact this
theorem ms_lo' (h : MS P lN lD hN hD) (hm : 0 < q - p) (c : ¬ (lD = 0 ∨ lN * (q - p) < -p * lD)) : MS (add1 P p q) lN lD hN hD := by
  obtain ⟨h1, h2, h3, h4, h5, h6, h7⟩ := h
  refine ⟨h1, h2, h3, h4, h5, h6, ?_⟩
  have e : ¬ lD = 0 := by omega
  rw [if_neg e, if_neg e] at h7 ⊢
  have := cst_a h7 hm
  rw [if_neg (by omega), if_neg (by omega)] at this
  exact this
theorem ms_hi (h : MS P lN lD hN hD) (hp : -8000000 ≤ p ∧ p ≤ 8000000) (hq : -8000000 ≤ q ∧ q ≤ 8000000) (hm : 0 < p - q) (c : hD = 0 ∨ p * hD < hN * (p - q)) : MS (add1 P p q) lN lD p (p - q) := by
  obtain ⟨h1, h2, h3, h4, h5, h6, h7⟩ := h
  refine ⟨h1, by omega, h3, h4, hp, by omega, ?_⟩
  rw [if_neg (show ¬ p - q = 0 by omega), if_neg (show ¬ p - q = 0 by omega)]
  by_cases e : hD = 0
  · have h8 : cst P (if lD = 0 then -1 else lN) (if lD = 0 then 1 else lD) 2 1 := by simpa [e] using h7
    exact cst_b0 h8 hm
  · have h8 : cst P (if lD = 0 then -1 else lN) (if lD = 0 then 1 else lD) hN hD := by simpa [e] using h7
    have := cst_b h8 hm
    have c' : p * hD < hN * (p - q) := by omega
    rw [if_pos (c := p * hD < hN * (p - q)) c', if_pos (c := p * hD < hN * (p - q)) c'] at this
    exact this
theorem ms_hi' (h : MS P lN lD hN hD) (hm : 0 < p - q) (c : ¬ (hD = 0 ∨ p * hD < hN * (p - q))) : MS (add1 P p q) lN lD hN hD := by
  obtain ⟨h1, h2, h3, h4, h5, h6, h7⟩ := h
  refine ⟨h1, h2, h3, h4, h5, h6, ?_⟩
  have e : ¬ hD = 0 := by omega
  rw [if_neg (c := hD = 0) e, if_neg (c := hD = 0) e] at h7 ⊢
  have := cst_b h7 hm
  rw [if_neg (c := p * hD < hN * (p - q)) (by omega), if_neg (c := p * hD < hN * (p - q)) (by omega)] at this
  exact this
theorem ms_eq (h : MS P lN lD hN hD) (hm : q - p = 0) (hp : 0 < p) : MS (add1 P p q) lN lD hN hD := ⟨h.1, h.2.1, h.2.2.1, h.2.2.2.1, h.2.2.2.2.1, h.2.2.2.2.2.1, cst_p h.2.2.2.2.2.2 hp (by omega)⟩
theorem ms_end (h : MS P lN lD hN hD) : fea P ↔ ((lD = 0 ∨ lN < lD) ∧ (hD = 0 ∨ 0 < hN) ∧ (lD = 0 ∨ hD = 0 ∨ lN * hD < hN * lD)) := by
  obtain ⟨h1, h2, h3, h4, h5, h6, h7⟩ := h
  rw [cst_end h7]
  by_cases e : lD = 0
  · by_cases e2 : hD = 0
    · simp [e, e2]
    · simp [e, e2]
      omega
  · by_cases e2 : hD = 0
    · simp [e, e2]
      omega
    · simp [e, e2]
end MSS
/-- the class's numbers -/
def CS (P : Int → Int → Prop) (aT aB bT bB : Int) : Prop := cst P aT aB bT bB ∧ aT < aB ∧ 0 < bT ∧ (-8000000 ≤ aT ∧ aT ≤ 8000000) ∧ aB ≤ 16000000 ∧ bT ≤ 8000000 ∧ bB ≤ 16000000
theorem cs_0 : CS (fun _ _ => False) (-1) 1 2 1 := ⟨cst_0, by decide, by decide, by decide, by decide, by decide, by decide⟩
theorem cs_c {P P' : Int → Int → Prop} {aT aB bT bB : Int} (h : CS P aT aB bT bB) (e : ∀ p q, P p q ↔ P' p q) : CS P' aT aB bT bB := ⟨cst_c h.1 e, h.2⟩
section CSS
variable {P : Int → Int → Prop} {aT aB bT bB p q : Int}
theorem cs_lo (h : CS P aT aB bT bB) (hp0 : -8000000 ≤ p) (hq1 : q ≤ 8000000) (hp : p ≤ 0) (hq : 0 < q) (c : aT * (q - p) < -p * aB) : CS (add1 P p q) (-p) (q - p) bT bB := by
  obtain ⟨h1, h2, h3, h4, h5, h6, h7⟩ := h
  have := cst_a h1 (show 0 < q - p by omega)
  rw [if_pos c, if_pos c] at this
  exact ⟨this, by omega, h3, by omega, by omega, h6, h7⟩
theorem cs_lo' (h : CS P aT aB bT bB) (hp : p ≤ 0) (hq : 0 < q) (c : ¬ aT * (q - p) < -p * aB) : CS (add1 P p q) aT aB bT bB := by
  have := cst_a h.1 (show 0 < q - p by omega)
  rw [if_neg c, if_neg c] at this
  exact ⟨this, h.2⟩
theorem cs_hi (h : CS P aT aB bT bB) (hp1 : p ≤ 8000000) (hq0 : -8000000 ≤ q) (hp : 0 < p) (hq : q ≤ 0) (c : p * bB < bT * (p - q)) : CS (add1 P p q) aT aB p (p - q) := by
  obtain ⟨h1, h2, h3, h4, h5, h6, h7⟩ := h
  have := cst_b h1 (show 0 < p - q by omega)
  rw [if_pos c, if_pos c] at this
  exact ⟨this, h2, hp, h4, h5, hp1, by omega⟩
theorem cs_hi' (h : CS P aT aB bT bB) (hp : 0 < p) (hq : q ≤ 0) (c : ¬ p * bB < bT * (p - q)) : CS (add1 P p q) aT aB bT bB := by
  have := cst_b h.1 (show 0 < p - q by omega)
  rw [if_neg c, if_neg c] at this
  exact ⟨this, h.2⟩
theorem cs_p (h : CS P aT aB bT bB) (hp : 0 < p) (hq : 0 < q) : CS (add1 P p q) aT aB bT bB := ⟨cst_p h.1 hp hq, h.2⟩
theorem cs_end (h : CS P aT aB bT bB) : fea P ↔ aT * bB < bT * aB := by
  rw [cst_end h.1]
  exact ⟨fun z => z.2.2, fun z => ⟨h.2.1, h.2.2.1, z⟩⟩
end CSS
section IDX
variable {X Y : Nat → Int} {F : Nat → Nat} {f t : Nat}
theorem rg_0 (p q : Int) : False ↔ rgP X Y F f t 0 p q := ⟨fun z => z.elim, fun ⟨i, h, _⟩ => absurd h (Nat.not_lt_zero i)⟩
theorem rg_s {i : Nat} (hi : i < 4) (hne : F i ≠ F ((i + 1) % 4)) (p q : Int) : add1 (rgP X Y F f t i) (crs X Y (F i) (F ((i + 1) % 4)) f) (crs X Y (F i) (F ((i + 1) % 4)) t) p q ↔ rgP X Y F f t (i + 1) p q := by
  constructor
  · rintro (⟨j, h1, h2⟩ | ⟨h1, h2⟩)
    · exact ⟨j, by omega, h2⟩
    · exact ⟨i, by omega, hi, hne, h1, h2⟩
  · rintro ⟨j, h1, h2, h3, h4, h5⟩
    by_cases c : j = i
    · subst c
      exact Or.inr ⟨h4, h5⟩
    · exact Or.inl ⟨j, by omega, h2, h3, h4, h5⟩
theorem rg_n {i : Nat} (hne : F i = F ((i + 1) % 4)) (p q : Int) : rgP X Y F f t i p q ↔ rgP X Y F f t (i + 1) p q := by
  constructor
  · rintro ⟨j, h1, h2⟩
    exact ⟨j, by omega, h2⟩
  · rintro ⟨j, h1, h2, h3, h4, h5⟩
    by_cases c : j = i
    · subst c
      exact absurd hne h3
    · exact ⟨j, by omega, h2, h3, h4, h5⟩
theorem eg_0 (p q : Int) : False ↔ egP X Y F f t 0 p q := ⟨fun z => z.elim, fun ⟨i, k, h, _⟩ => absurd h (Nat.not_lt_zero _)⟩
theorem eg_s {i k : Nat} (hi : i < 4) (hk : k < 4) (he : egE X Y F i k) (p q : Int) : add1 (egP X Y F f t (4 * i + k)) (crs X Y (F i) (F k) f) (crs X Y (F i) (F k) t) p q ↔ egP X Y F f t (4 * i + k + 1) p q := by
  constructor
  · rintro (⟨j, l, h1, h2⟩ | ⟨h1, h2⟩)
    · exact ⟨j, l, by omega, h2⟩
    · exact ⟨i, k, by omega, hi, hk, he, h1, h2⟩
  · rintro ⟨j, l, h1, h2, h3, h4, h5, h6⟩
    by_cases c : j = i ∧ l = k
    · obtain ⟨rfl, rfl⟩ := c
      exact Or.inr ⟨h5, h6⟩
    · exact Or.inl ⟨j, l, by omega, h2, h3, h4, h5, h6⟩
theorem eg_n {i k : Nat} (hk : k < 4) (he : ¬ egE X Y F i k) (p q : Int) : egP X Y F f t (4 * i + k) p q ↔ egP X Y F f t (4 * i + k + 1) p q := by
  constructor
  · rintro ⟨j, l, h1, h2⟩
    exact ⟨j, l, by omega, h2⟩
  · rintro ⟨j, l, h1, h2, h3, h4, h5, h6⟩
    by_cases c : j = i ∧ l = k
    · obtain ⟨rfl, rfl⟩ := c
      exact absurd h4 he
    · exact ⟨j, l, by omega, h2, h3, h4, h5, h6⟩
end IDX
