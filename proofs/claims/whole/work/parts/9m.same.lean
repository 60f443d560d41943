/-! the class's search and the model's corners find the same -/
theorem frac_nat {X Y X' Y' : Nat} (h : X * Y' = X' * Y) (hy : 0 < Y) (hy' : 0 < Y') : X / Nat.gcd X Y = X' / Nat.gcd X' Y' ∧ Y / Nat.gcd X Y = Y' / Nat.gcd X' Y' := by
  have g0 : 0 < Nat.gcd X Y := Nat.gcd_pos_of_pos_right _ hy
  have g0' : 0 < Nat.gcd X' Y' := Nat.gcd_pos_of_pos_right _ hy'
  obtain ⟨p, q, c, e1, e2⟩ := Nat.exists_coprime X Y
  obtain ⟨p', q', c', e1', e2'⟩ := Nat.exists_coprime X' Y'
  generalize Nat.gcd X Y = g at *
  generalize Nat.gcd X' Y' = g' at *
  have e : p * q' = p' * q := by
    have : (p * q') * (g * g') = (p' * q) * (g * g') := by
      rw [e1, e2, e1', e2'] at h
      grind
    exact Nat.eq_of_mul_eq_mul_right (Nat.mul_pos g0 g0') this
  have d1 : q ∣ q' := by
    have : q ∣ p * q' := ⟨p', by rw [e, Nat.mul_comm]⟩
    exact Nat.Coprime.dvd_of_dvd_mul_left (Nat.Coprime.symm c) this
  have d2 : q' ∣ q := by
    have : q' ∣ p' * q := ⟨p, by rw [← e, Nat.mul_comm]⟩
    exact Nat.Coprime.dvd_of_dvd_mul_left (Nat.Coprime.symm c') this
  have eq : q = q' := Nat.dvd_antisymm d1 d2
  have q0 : 0 < q := by
    rcases Nat.eq_zero_or_pos q with z | z
    · rw [z, Nat.zero_mul] at e2
      omega
    · exact z
  have ep : p = p' := by
    rw [← eq] at e
    exact Nat.eq_of_mul_eq_mul_right q0 e
  rw [e1, e2, e1', e2', Nat.mul_div_cancel _ g0, Nat.mul_div_cancel _ g0, Nat.mul_div_cancel _ g0', Nat.mul_div_cancel _ g0']
  exact ⟨ep, eq⟩
theorem td_pos {x : Int} {g : Nat} : x.tdiv (g : Int) = (if x < 0 then -((x.natAbs / g : Nat) : Int) else ((x.natAbs / g : Nat) : Int)) := by
  by_cases c : x < 0
  · rw [if_pos c]
    have e : x = -(x.natAbs : Int) := by omega
    conv => lhs; rw [e]
    rw [Int.neg_tdiv]
    rfl
  · rw [if_neg c]
    have e : x = (x.natAbs : Int) := by omega
    conv => lhs; rw [e]
    rfl
theorem fT_eq {x y x' y' : Int} (h : x * y' = x' * y) (hy : 0 < y) (hy' : 0 < y') : fT x y = fT x' y' := by
  have hn : x.natAbs * y'.natAbs = x'.natAbs * y.natAbs := by
    rw [← Int.natAbs_mul, ← Int.natAbs_mul, h]
  have f := frac_nat hn (show 0 < y.natAbs by omega) (show 0 < y'.natAbs by omega)
  have sg : x < 0 ↔ x' < 0 := by
    have a1 := mul_neg' (x := x) hy'
    have a2 := mul_neg' (x := x') hy
    rw [Int.mul_comm] at a1 a2
    rw [h] at a1
    exact a1.symm.trans a2
  unfold fT gT
  rw [td_pos, td_pos, td_pos, td_pos, f.1, f.2, if_neg (show ¬ y < 0 by omega), if_neg (show ¬ y' < 0 by omega)]
  by_cases c : x < 0
  · rw [if_pos c, if_pos (sg.mp c)]
  · rw [if_neg c, if_neg (fun z => c (sg.mpr z))]
/-- elimination and the ways: the same numbers -/
theorem dd_wh {s : Nat → Nat → Int} {nd : Nat → Int} {H : Nat → Nat} {A : Nat → Nat → Int} {L : Nat} (hL : L < 4) (a1 : ∀ i j, i < L → j < 3 → A i j = s (H i) j) (a2 : ∀ i, i < L → A i 3 = nd (H i)) (a3 : ∀ i, L ≤ i → i < 3 → (∀ j, j < 3 → s (H i) j = if j = i then 1 else 0) ∧ nd (H i) = 0) (a4 : ∀ i d, i < L → L ≤ d → d < 3 → s (H i) d = 0) : dd A L = wh s H ∧ ∀ l, l < L → Gs A L l 3 = ow s nd H l := by
  match L, hL with
  | 0, _ =>
    have b0 := a3 0 (by decide) (by decide)
    have b1 := a3 1 (by decide) (by decide)
    have b2 := a3 2 (by decide) (by decide)
    refine ⟨?_, fun l hl => by omega⟩
    simp [dd, wh, dt3, wy, b0.1 0 (by decide), b0.1 1 (by decide), b0.1 2 (by decide), b1.1 0 (by decide), b1.1 1 (by decide), b1.1 2 (by decide), b2.1 0 (by decide), b2.1 1 (by decide), b2.1 2 (by decide)]
  | 1, _ =>
    have b1 := a3 1 (by decide) (by decide)
    have b2 := a3 2 (by decide) (by decide)
    have c1 := a4 0 1 (by decide) (by decide) (by decide)
    have c2 := a4 0 2 (by decide) (by decide) (by decide)
    refine ⟨?_, fun l hl => ?_⟩
    · simp [dd, wh, dt3, wy, a1 0 0 (by decide) (by decide), c1, c2, b1.1 0 (by decide), b1.1 1 (by decide), b1.1 2 (by decide), b2.1 0 (by decide), b2.1 1 (by decide), b2.1 2 (by decide)]
    · obtain rfl : l = 0 := by omega
      simp [Gs, ow, wy, a2 0 (by decide), b1.2, b2.2, b1.1 0 (by decide), b1.1 1 (by decide), b1.1 2 (by decide), b2.1 0 (by decide), b2.1 1 (by decide), b2.1 2 (by decide)]
  | 2, _ =>
    have b2 := a3 2 (by decide) (by decide)
    have c1 := a4 0 2 (by decide) (by decide) (by decide)
    have c2 := a4 1 2 (by decide) (by decide) (by decide)
    refine ⟨?_, fun l hl => ?_⟩
    · simp [dd, wh, dt3, wy, a1 0 0 (by decide) (by decide), a1 0 1 (by decide) (by decide), a1 1 0 (by decide) (by decide), a1 1 1 (by decide) (by decide), c1, c2, b2.1 0 (by decide), b2.1 1 (by decide), b2.1 2 (by decide)]
      grind
    · match l, hl with
      | 0, _ =>
        simp [Gs, ow, wy, a1 0 0 (by decide) (by decide), a1 0 1 (by decide) (by decide), a1 1 0 (by decide) (by decide), a1 1 1 (by decide) (by decide), a2 0 (by decide), a2 1 (by decide), c1, c2, b2.2, b2.1 0 (by decide), b2.1 1 (by decide), b2.1 2 (by decide)]
        grind
      | 1, _ =>
        simp [Gs, ow, wy, a1 0 0 (by decide) (by decide), a1 0 1 (by decide) (by decide), a1 1 0 (by decide) (by decide), a1 1 1 (by decide) (by decide), a2 0 (by decide), a2 1 (by decide), c1, c2, b2.2, b2.1 0 (by decide), b2.1 1 (by decide), b2.1 2 (by decide)]
        grind
  | 3, _ =>
    refine ⟨?_, fun l hl => ?_⟩
    · simp [dd, de3, wh, dt3, wy, a1 0 0 (by decide) (by decide), a1 0 1 (by decide) (by decide), a1 0 2 (by decide) (by decide), a1 1 0 (by decide) (by decide), a1 1 1 (by decide) (by decide), a1 1 2 (by decide) (by decide), a1 2 0 (by decide) (by decide), a1 2 1 (by decide) (by decide), a1 2 2 (by decide) (by decide)]
      grind
    · match l, hl with
      | 0, _ =>
        simp [Gs, de3, ow, wy, a1 0 0 (by decide) (by decide), a1 0 1 (by decide) (by decide), a1 0 2 (by decide) (by decide), a1 1 0 (by decide) (by decide), a1 1 1 (by decide) (by decide), a1 1 2 (by decide) (by decide), a1 2 0 (by decide) (by decide), a1 2 1 (by decide) (by decide), a1 2 2 (by decide) (by decide), a2 0 (by decide), a2 1 (by decide), a2 2 (by decide)]
        grind
      | 1, _ =>
        simp [Gs, de3, ow, wy, a1 0 0 (by decide) (by decide), a1 0 1 (by decide) (by decide), a1 0 2 (by decide) (by decide), a1 1 0 (by decide) (by decide), a1 1 1 (by decide) (by decide), a1 1 2 (by decide) (by decide), a1 2 0 (by decide) (by decide), a1 2 1 (by decide) (by decide), a1 2 2 (by decide) (by decide), a2 0 (by decide), a2 1 (by decide), a2 2 (by decide)]
        grind
      | 2, _ =>
        simp [Gs, de3, ow, wy, a1 0 0 (by decide) (by decide), a1 0 1 (by decide) (by decide), a1 0 2 (by decide) (by decide), a1 1 0 (by decide) (by decide), a1 1 1 (by decide) (by decide), a1 1 2 (by decide) (by decide), a1 2 0 (by decide) (by decide), a1 2 1 (by decide) (by decide), a1 2 2 (by decide) (by decide), a2 0 (by decide), a2 1 (by decide), a2 2 (by decide)]
        grind
def f3 (x y z i : Nat) : Nat := if i = 0 then x else if i = 1 then y else z
theorem w3_p {s : Nat → Nat → Int} {x y z : Nat} : wh s (f3 y x z) = -wh s (f3 x y z) ∧ wh s (f3 x z y) = -wh s (f3 x y z) ∧ wh s (f3 z y x) = -wh s (f3 x y z) ∧ wh s (f3 y z x) = wh s (f3 x y z) ∧ wh s (f3 z x y) = wh s (f3 x y z) := by
  refine ⟨?_, ?_, ?_, ?_, ?_⟩ <;> simp [wh, dt3, wy, f3] <;> grind
theorem wh_f3 {s : Nat → Nat → Int} {H : Nat → Nat} : wh s H = wh s (f3 (H 0) (H 1) (H 2)) := by
  simp [wh, dt3, wy, f3]
theorem smz {f g : Nat → Int} {L : Nat} (hL : L ≤ 3) (oz : ∀ l, L ≤ l → g l = 0) : sm (fun x => f x * g x) L = f 0 * g 0 + f 1 * g 1 + f 2 * g 2 := by
  match L, hL, oz with
  | 0, _, oz => simp [sm, oz 0 (by decide), oz 1 (by decide), oz 2 (by decide)]
  | 1, _, oz => simp [sm, oz 1 (by decide), oz 2 (by decide)]
  | 2, _, oz => simp [sm, oz 2 (by decide)]
  | 3, _, oz => simp [sm]
section SAME
variable {m n L : Nat} {h : jHp}
theorem alive (hLC : lmC m h n = (L : Int)) (a : Nat) : lmA m h n a ≠ -1 ↔ a < L := by
  have q := lmA_in (m := m) (h := h) n a
  constructor
  · intro z
    refine Nat.not_le.mp (fun y => z (q.2 (by omega)))
  · intro z
    have := q.1 (by omega)
    omega
theorem deadL (hLC : lmC m h n = (L : Int)) {a : Nat} (ha : L ≤ a) : lmA m h n a = -1 := (lmA_in (m := m) (h := h) n a).2 (by omega)
def Ht (n L a b c i : Nat) : Nat := if i < L then psi n (c3t a b c i) else 8 + i
theorem psi_liv (hn : n ≤ 8) (hL3 : L ≤ 3) (hLC : lmC m h n = (L : Int)) {k : Nat} (hk : k < n + 2 * L) : liv m h n (psi n k) := by
  unfold psi
  split
  · rename_i z
    exact Or.inl z
  · split
    · exact Or.inr ⟨(k - n) / 2, by omega, (alive hLC _).mpr (by omega), Or.inl rfl⟩
    · exact Or.inr ⟨(k - n) / 2, by omega, (alive hLC _).mpr (by omega), Or.inr rfl⟩
theorem va_c {a b c : Nat} (hL3 : L ≤ 3) (va : vaT L (n + 2 * L) a b c) : ∀ i, i < L → c3t a b c i < n + 2 * L := fun i hi => by
  obtain ⟨v1, v2, v3, v4, v5⟩ := va
  unfold c3t
  split
  · rw [if_neg (by omega)] at v1
    exact v1
  · split
    · rw [if_neg (by omega)] at v3
      exact v3
    · rw [if_neg (by omega)] at v5
      exact v5
theorem tau_wh {a b c : Nat} (hn : n ≤ 8) (hL3 : L ≤ 3) (hLC : lmC m h n = (L : Int)) (va : vaT L (n + 2 * L) a b c) : dd (At m h n L (n + 2 * L) a b c) L = wh (sV m h n) (Ht n L a b c) ∧ ∀ l, l < L → Gs (At m h n L (n + 2 * L) a b c) L l 3 = ow (sV m h n) (nV m h n) (Ht n L a b c) l := by
  have vc := va_c hL3 va
  have eA : ∀ i j, i < L → j < 4 → At m h n L (n + 2 * L) a b c i j = lV4 m h n (c3t a b c i) j := fun i j hi hj => by
    unfold At lvK
    rw [if_pos hi, if_pos ⟨vc i hi, hj⟩]
  refine dd_wh (by omega) (fun i j hi hj => ?_) (fun i hi => ?_) (fun i h1 h2 => ⟨fun j hj => ?_, ?_⟩) (fun i d hi h1 h2 => ?_)
  · rw [eA i j hi (by omega)]
    unfold lV4 Ht
    rw [if_pos hj, if_pos hi]
  · rw [eA i 3 hi (by decide)]
    unfold lV4 Ht
    rw [if_neg (by omega), if_pos hi]
  · have eh : Ht n L a b c i = 8 + i := by
      unfold Ht
      rw [if_neg (by omega)]
    rw [eh]
    unfold sV
    rw [if_neg (by omega)]
    by_cases e : j = i
    · rw [if_pos (by omega), if_pos e]
    · rw [if_neg (by omega), if_neg (by omega), if_neg e]
  · have eh : Ht n L a b c i = 8 + i := by
      unfold Ht
      rw [if_neg (by omega)]
    rw [eh]
    unfold nV
    rw [if_neg (by omega), if_pos (by omega)]
  · unfold Ht
    rw [if_pos hi]
    exact liv_0 hn (psi_liv hn hL3 hLC (vc i hi)) h2 (deadL hLC h1)
/-- a good corner of the model's is feasible -/
theorem ns_fbl {a b c : Nat} (hn : n ≤ 8) (hL3 : L ≤ 3) (hLC : lmC m h n = (L : Int)) (ns : nsT m h n L (n + 2 * L) a b c) : fbl (sV m h n) (nV m h n) 14 (oT m h n L (n + 2 * L) a b c) (wT m h n L (n + 2 * L) a b c) := by
  obtain ⟨dn, gd⟩ := ns
  refine ⟨wT_pos dn, fun r hr => ?_⟩
  have oz : ∀ l, L ≤ l → oT m h n L (n + 2 * L) a b c l = 0 := fun l hl => by
    unfold oT
    rw [if_neg (by omega)]
  have key : ∀ k, k < n + 2 * L → psi n k = r → nV m h n r * wT m h n L (n + 2 * L) a b c ≤ dt3 (sV m h n) r (oT m h n L (n + 2 * L) a b c) := by
    intro k hk hp
    have g := gd k hk
    unfold gdV at g
    have e3 : lvK m h n (n + 2 * L) k 3 = nV m h n r := by
      unfold lvK lV4
      rw [if_pos ⟨hk, by decide⟩, if_neg (by omega), hp]
    have ea : ∀ x, x < 3 → lvK m h n (n + 2 * L) k x = sV m h n r x := fun x hx => by
      unfold lvK lV4
      rw [if_pos ⟨hk, by omega⟩, if_pos hx, hp]
    have es : sm (fun x => lvK m h n (n + 2 * L) k x * oT m h n L (n + 2 * L) a b c x) L = dt3 (sV m h n) r (oT m h n L (n + 2 * L) a b c) := by
      unfold dt3
      rw [← ea 0 (by decide), ← ea 1 (by decide), ← ea 2 (by decide)]
      exact smz hL3 oz
    rw [e3, es] at g
    omega
  by_cases r1 : r < n
  · refine key r (by omega) ?_
    unfold psi
    rw [if_pos r1]
  · by_cases r8 : r < 8
    · have s0 : ∀ x, sV m h n r x = 0 := fun x => by
        unfold sV
        rw [if_pos r8, if_neg (fun z => r1 z.1)]
      have n0 : nV m h n r = 0 := by
        unfold nV
        rw [if_pos r8, if_neg r1]
      unfold dt3
      rw [s0, s0, s0, n0]
      omega
    · by_cases r11 : r < 11
      · obtain ⟨l, rfl⟩ : ∃ l, r = 8 + l := ⟨r - 8, by omega⟩
        by_cases hl : l < L
        · refine key (n + 2 * l) (by omega) ?_
          unfold psi
          rw [if_neg (by omega), show n + 2 * l - n = 2 * l by omega, if_pos (by omega), show 2 * l / 2 = l by omega]
        · have n0 : nV m h n (8 + l) = 0 := by
            unfold nV
            rw [if_neg r8, if_pos r11]
          rw [(unit_dt (show l < 3 by omega)).1, oz l (by omega), n0]
          omega
      · obtain ⟨l, rfl⟩ : ∃ l, r = 11 + l := ⟨r - 11, by omega⟩
        by_cases hl : l < L
        · refine key (n + 2 * l + 1) (by omega) ?_
          unfold psi
          rw [if_neg (by omega), show n + 2 * l + 1 - n = 2 * l + 1 by omega, if_neg (by omega), show (2 * l + 1) / 2 = l by omega]
        · have z : lmA m h n l = -1 := deadL hLC (by omega)
          have n0 : nV m h n (11 + l) = 0 := by
            unfold nV
            rw [if_neg r8, if_neg r11, show 11 + l - 11 = l by omega, if_pos z]
          rw [(unit_dt (show l < 3 by omega)).2, oz l (by omega), n0]
          omega
/-- a row that lives is one of the model's -/
theorem liv_psi (hn : n ≤ 8) (hLC : lmC m h n = (L : Int)) {r : Nat} (hr : liv m h n r) : ∃ k, k < n + 2 * L ∧ psi n k = r := by
  rcases hr with hr | ⟨l, l1, l2, l3⟩
  · refine ⟨r, by omega, ?_⟩
    unfold psi
    rw [if_pos hr]
  · have hl := (alive hLC l).mp l2
    rcases l3 with rfl | rfl
    · refine ⟨n + 2 * l, by omega, ?_⟩
      unfold psi
      rw [if_neg (by omega), show n + 2 * l - n = 2 * l by omega, if_pos (by omega), show 2 * l / 2 = l by omega]
    · refine ⟨n + 2 * l + 1, by omega, ?_⟩
      unfold psi
      rw [if_neg (by omega), show n + 2 * l + 1 - n = 2 * l + 1 by omega, if_neg (by omega), show (2 * l + 1) / 2 = l by omega]
/-- the class's three rows are a corner of the model's -/
theorem cls_tau {H : Nat → Nat} (hn : n ≤ 8) (hL3 : L ≤ 3) (hLC : lmC m h n = (L : Int)) (HLh : HL m h n H) (wp : 0 < wh (sV m h n) H) : ∃ a b c, vaT L (n + 2 * L) a b c ∧ dd (At m h n L (n + 2 * L) a b c) L ≠ 0 ∧ ∀ l, l < 3 → oT m h n L (n + 2 * L) a b c l * wh (sV m h n) H = ow (sV m h n) (nV m h n) H l * wT m h n L (n + 2 * L) a b c := by
  -- enough: the rows of the corner are H's, in some order
  have fin : ∀ a b c, vaT L (n + 2 * L) a b c → wh (sV m h n) (Ht n L a b c) ≠ 0 → (∀ i, i < 3 → ∃ j, j < 3 ∧ H i = Ht n L a b c j) → ∃ a b c, vaT L (n + 2 * L) a b c ∧ dd (At m h n L (n + 2 * L) a b c) L ≠ 0 ∧ ∀ l, l < 3 → oT m h n L (n + 2 * L) a b c l * wh (sV m h n) H = ow (sV m h n) (nV m h n) H l * wT m h n L (n + 2 * L) a b c := by
    intro a b c va wn hs
    have tw := tau_wh (m := m) (h := h) hn hL3 hLC va
    refine ⟨a, b, c, va, by rw [tw.1]; exact wn, fun l hl => ?_⟩
    have on : ∀ i, i < 3 → dt3 (sV m h n) (H i) (ow (sV m h n) (nV m h n) (Ht n L a b c)) = nV m h n (H i) * wh (sV m h n) (Ht n L a b c) := by
      intro i hi
      obtain ⟨j, j1, j2⟩ := hs i hi
      rw [j2]
      exact ow_on j j1
    have sp := same_pt on l hl
    by_cases hlL : l < L
    · unfold oT wT
      rw [if_pos hlL, tw.1, tw.2 l hlL]
      generalize sg1 (wh (sV m h n) (Ht n L a b c)) = e at *
      rw [Int.mul_assoc, Int.mul_comm (ow (sV m h n) (nV m h n) (Ht n L a b c) l), sp]
      grind
    · have z : lmA m h n l = -1 := deadL hLC (by omega)
      unfold oT
      rw [if_neg hlL, dead_ow HLh hl z]
      omega
  have dn := wh_eq wp
  have kp : ∀ a, a < L → ∃ k, k < n + 2 * L ∧ psi n k = H a := fun a ha => liv_psi hn hLC ((HLh a (by omega)).2 ((alive hLC a).mpr ha))
  have dp : ∀ a, L ≤ a → a < 3 → H a = 8 + a := fun a h1 h2 => (HLh a h2).1 (deadL hLC h1)
  rw [wh_f3] at wp
  have wf : ∀ a b c, wh (sV m h n) (Ht n L a b c) = wh (sV m h n) (f3 (Ht n L a b c 0) (Ht n L a b c 1) (Ht n L a b c 2)) := fun a b c => wh_f3
  have wpm := w3_p (s := sV m h n) (x := H 0) (y := H 1) (z := H 2)
  match L, hL3, kp, dp, fin, wf with
  | 0, _, kp, dp, fin, wf =>
    have e0 := dp 0 (by decide) (by decide)
    have e1 := dp 1 (by decide) (by decide)
    have e2 := dp 2 (by decide) (by decide)
    refine fin 0 0 0 (by simp [vaT]) ?_ (fun i hi => ⟨i, hi, ?_⟩)
    · rw [wf]
      simp [Ht]
      rw [e0, e1, e2] at wp
      simp at wp
      omega
    · unfold Ht
      rw [if_neg (by omega)]
      exact dp i (by omega) hi
  | 1, _, kp, dp, fin, wf =>
    obtain ⟨k0, k01, k02⟩ := kp 0 (by decide)
    have e1 := dp 1 (by decide) (by decide)
    have e2 := dp 2 (by decide) (by decide)
    refine fin k0 0 0 (by simp [vaT]; omega) ?_ (fun i hi => ⟨i, hi, ?_⟩)
    · rw [wf]
      simp [Ht, c3t]
      rw [k02]
      rw [e1, e2] at wp
      simp at wp
      omega
    · unfold Ht
      by_cases e : i < 1
      · obtain rfl : i = 0 := by omega
        rw [if_pos e]
        unfold c3t
        rw [if_pos rfl, k02]
      · rw [if_neg e]
        exact dp i (by omega) hi
  | 2, _, kp, dp, fin, wf =>
    obtain ⟨k0, k01, k02⟩ := kp 0 (by decide)
    obtain ⟨k1, k11, k12⟩ := kp 1 (by decide)
    have e2 := dp 2 (by decide) (by decide)
    have ne : k0 ≠ k1 := fun z => dn.1 (by rw [← k02, ← k12, z])
    rcases Nat.lt_or_gt_of_ne ne with lt | lt
    · refine fin k0 k1 0 (by simp [vaT]; omega) ?_ (fun i hi => ⟨i, hi, ?_⟩)
      · rw [wf]
        simp [Ht, c3t]
        rw [k02, k12, show (10 : Nat) = H 2 from e2.symm]
        omega
      · match i, hi with
        | 0, _ => simp [Ht, c3t, k02]
        | 1, _ => simp [Ht, c3t, k12]
        | 2, _ => simp [Ht, e2]
    · refine fin k1 k0 0 (by simp [vaT]; omega) ?_ (fun i hi => ⟨if i = 0 then 1 else if i = 1 then 0 else 2, by split <;> (try split) <;> omega, ?_⟩)
      · rw [wf]
        simp [Ht, c3t]
        rw [k02, k12, show (10 : Nat) = H 2 from e2.symm, wpm.1]
        omega
      · match i, hi with
        | 0, _ => simp [Ht, c3t, k02]
        | 1, _ => simp [Ht, c3t, k12]
        | 2, _ => simp [Ht, e2]
  | 3, _, kp, dp, fin, wf =>
    obtain ⟨k0, k01, k02⟩ := kp 0 (by decide)
    obtain ⟨k1, k11, k12⟩ := kp 1 (by decide)
    obtain ⟨k2, k21, k22⟩ := kp 2 (by decide)
    have ne1 : k0 ≠ k1 := fun z => dn.1 (by rw [← k02, ← k12, z])
    have ne2 : k0 ≠ k2 := fun z => dn.2.1 (by rw [← k02, ← k22, z])
    have ne3 : k1 ≠ k2 := fun z => dn.2.2 (by rw [← k12, ← k22, z])
    have go : ∀ a b c, vaT 3 (n + 2 * 3) a b c → (wh (sV m h n) (f3 (psi n a) (psi n b) (psi n c)) = wh (sV m h n) (f3 (H 0) (H 1) (H 2)) ∨ wh (sV m h n) (f3 (psi n a) (psi n b) (psi n c)) = -wh (sV m h n) (f3 (H 0) (H 1) (H 2))) → (∀ i, i < 3 → H i = psi n a ∨ H i = psi n b ∨ H i = psi n c) → ∃ a b c, vaT 3 (n + 2 * 3) a b c ∧ dd (At m h n 3 (n + 2 * 3) a b c) 3 ≠ 0 ∧ ∀ l, l < 3 → oT m h n 3 (n + 2 * 3) a b c l * wh (sV m h n) H = ow (sV m h n) (nV m h n) H l * wT m h n 3 (n + 2 * 3) a b c := by
      intro a b c va hw hs
      refine fin a b c va ?_ (fun i hi => ?_)
      · rw [wf]
        simp [Ht, c3t]
        omega
      · rcases hs i hi with e | e | e
        · exact ⟨0, by decide, by simp [Ht, c3t, e]⟩
        · exact ⟨1, by decide, by simp [Ht, c3t, e]⟩
        · exact ⟨2, by decide, by simp [Ht, c3t, e]⟩
    have sets : ∀ a b c, (a = k0 ∨ b = k0 ∨ c = k0) → (a = k1 ∨ b = k1 ∨ c = k1) → (a = k2 ∨ b = k2 ∨ c = k2) → ∀ i, i < 3 → H i = psi n a ∨ H i = psi n b ∨ H i = psi n c := by
      intro a b c q0 q1 q2 i hi
      match i, hi with
      | 0, _ =>
        rw [← k02]
        rcases q0 with rfl | rfl | rfl <;> simp
      | 1, _ =>
        rw [← k12]
        rcases q1 with rfl | rfl | rfl <;> simp
      | 2, _ =>
        rw [← k22]
        rcases q2 with rfl | rfl | rfl <;> simp
    rcases Nat.lt_or_gt_of_ne ne1 with a | a
    · rcases Nat.lt_or_gt_of_ne ne3 with b | b
      · exact go k0 k1 k2 (by simp [vaT]; omega) (by rw [k02, k12, k22]; exact Or.inl rfl) (sets _ _ _ (by omega) (by omega) (by omega))
      · rcases Nat.lt_or_gt_of_ne ne2 with c | c
        · exact go k0 k2 k1 (by simp [vaT]; omega) (by rw [k02, k12, k22]; exact Or.inr wpm.2.1) (sets _ _ _ (by omega) (by omega) (by omega))
        · exact go k2 k0 k1 (by simp [vaT]; omega) (by rw [k02, k12, k22]; exact Or.inl wpm.2.2.2.2) (sets _ _ _ (by omega) (by omega) (by omega))
    · rcases Nat.lt_or_gt_of_ne ne2 with b | b
      · exact go k1 k0 k2 (by simp [vaT]; omega) (by rw [k02, k12, k22]; exact Or.inr wpm.1) (sets _ _ _ (by omega) (by omega) (by omega))
      · rcases Nat.lt_or_gt_of_ne ne3 with c | c
        · exact go k1 k2 k0 (by simp [vaT]; omega) (by rw [k02, k12, k22]; exact Or.inl wpm.2.2.2.1) (sets _ _ _ (by omega) (by omega) (by omega))
        · exact go k2 k1 k0 (by simp [vaT]; omega) (by rw [k02, k12, k22]; exact Or.inr wpm.2.2.1) (sets _ _ _ (by omega) (by omega) (by omega))
/-- THE SAME: what the class has found is what the model chose -/
theorem same_least {H : Nat → Nat} {a b c : Nat} (hn : n ≤ 8) (hL3 : L ≤ 3) (hLC : lmC m h n = (L : Int)) (HLh : HL m h n H) (wp : 0 < wh (sV m h n) H) (F : fbl (sV m h n) (nV m h n) 14 (ow (sV m h n) (nV m h n) H) (wh (sV m h n) H)) (opt' : ∀ y u, fbl (sV m h n) (nV m h n) 14 y u → ple (prV m h n) (ow (sV m h n) (nV m h n) H) (wh (sV m h n) H) y u) (ns : nsT m h n L (n + 2 * L) a b c) (best : ∀ a' b' c', vaT L (n + 2 * L) a' b' c' → nsT m h n L (n + 2 * L) a' b' c' → ¬ plt (prV m h n) (oT m h n L (n + 2 * L) a' b' c') (wT m h n L (n + 2 * L) a' b' c') (oT m h n L (n + 2 * L) a b c) (wT m h n L (n + 2 * L) a b c)) : ∀ k, k < 4 → ob (prV m h n) (ow (sV m h n) (nV m h n) H) k * wT m h n L (n + 2 * L) a b c = ob (prV m h n) (oT m h n L (n + 2 * L) a b c) k * wh (sV m h n) H := by
  obtain ⟨a1, b1, c1, va, dn, e⟩ := cls_tau hn hL3 hLC HLh wp
  have w1 := wT_pos dn
  have lin := ob_lin (pr := prV m h n) (x := ow (sV m h n) (nV m h n) H) (y := ow (sV m h n) (nV m h n) H) (z := oT m h n L (n + 2 * L) a1 b1 c1) (a := wT m h n L (n + 2 * L) a1 b1 c1) (b := 0) (c := wh (sV m h n) H) (fun k hk => by rw [Int.mul_comm, e k hk]; grind)
  -- that corner is good
  have gd : nsT m h n L (n + 2 * L) a1 b1 c1 := by
    refine ⟨dn, fun k hk => ?_⟩
    have hp := psi_lt (n := n) (L := L) hn hL3 hk
    have fr := F.2 (psi n k) hp
    have oz : ∀ l, L ≤ l → oT m h n L (n + 2 * L) a1 b1 c1 l = 0 := fun l hl => by
      unfold oT
      rw [if_neg (by omega)]
    have e3 : lvK m h n (n + 2 * L) k 3 = nV m h n (psi n k) := by
      unfold lvK lV4
      rw [if_pos ⟨hk, by decide⟩, if_neg (by omega)]
    have ea : ∀ x, x < 3 → lvK m h n (n + 2 * L) k x = sV m h n (psi n k) x := fun x hx => by
      unfold lvK lV4
      rw [if_pos ⟨hk, by omega⟩, if_pos hx]
    have es : sm (fun x => lvK m h n (n + 2 * L) k x * oT m h n L (n + 2 * L) a1 b1 c1 x) L = dt3 (sV m h n) (psi n k) (oT m h n L (n + 2 * L) a1 b1 c1) := by
      unfold dt3
      rw [← ea 0 (by decide), ← ea 1 (by decide), ← ea 2 (by decide)]
      exact smz hL3 oz
    unfold gdV
    rw [e3, es]
    have q := Int.mul_le_mul_of_nonneg_right fr (Int.le_of_lt w1)
    have e0 := e 0 (by decide)
    have e1 := e 1 (by decide)
    have e2 := e 2 (by decide)
    have dq : dt3 (sV m h n) (psi n k) (oT m h n L (n + 2 * L) a1 b1 c1) * wh (sV m h n) H = dt3 (sV m h n) (psi n k) (ow (sV m h n) (nV m h n) H) * wT m h n L (n + 2 * L) a1 b1 c1 := by
      unfold dt3
      grind
    have z : (nV m h n (psi n k) * wT m h n L (n + 2 * L) a1 b1 c1 - dt3 (sV m h n) (psi n k) (oT m h n L (n + 2 * L) a1 b1 c1)) * wh (sV m h n) H ≤ 0 := by
      rw [Int.sub_mul, dq]
      grind
    refine Int.not_lt.mp (fun y => ?_)
    have := Int.mul_pos y wp
    omega
  have nb := best a1 b1 c1 va gd
  have w0 := wT_pos ns.1
  -- the model's best is not later than it, nor earlier
  have l1 : ple (prV m h n) (oT m h n L (n + 2 * L) a b c) (wT m h n L (n + 2 * L) a b c) (oT m h n L (n + 2 * L) a1 b1 c1) (wT m h n L (n + 2 * L) a1 b1 c1) := by
    rcases plt_or (pr := prV m h n) (o := oT m h n L (n + 2 * L) a1 b1 c1) (w := wT m h n L (n + 2 * L) a1 b1 c1) (o' := oT m h n L (n + 2 * L) a b c) (w' := wT m h n L (n + 2 * L) a b c) with z | z
    · exact absurd z nb
    · exact z
  have l2 : ple (prV m h n) (oT m h n L (n + 2 * L) a1 b1 c1) (wT m h n L (n + 2 * L) a1 b1 c1) (ow (sV m h n) (nV m h n) H) (wh (sV m h n) H) := by
    refine Or.inr ?_
    unfold zz4
    have z0 := lin 0 (by decide)
    have z1 := lin 1 (by decide)
    have z2 := lin 2 (by decide)
    have z3 := lin 3 (by decide)
    dsimp only
    refine ⟨by grind, by grind, by grind, by grind⟩
  have l3 := ple_tr w0 w1 wp l1 l2
  have l4 := opt' _ _ (ns_fbl hn hL3 hLC ns)
  exact ple_eq l4 l3
theorem same_none {H : Nat → Nat} (hn : n ≤ 8) (hL3 : L ≤ 3) (hLC : lmC m h n = (L : Int)) (HLh : HL m h n H) (wp : 0 < wh (sV m h n) H) (F : fbl (sV m h n) (nV m h n) 14 (ow (sV m h n) (nV m h n) H) (wh (sV m h n) H)) : ¬ ∀ a b c, vaT L (n + 2 * L) a b c → ¬ nsT m h n L (n + 2 * L) a b c := by
  intro no
  obtain ⟨a1, b1, c1, va, dn, e⟩ := cls_tau hn hL3 hLC HLh wp
  have w1 := wT_pos dn
  refine no a1 b1 c1 va ⟨dn, fun k hk => ?_⟩
  have hp := psi_lt (n := n) (L := L) hn hL3 hk
  have fr := F.2 (psi n k) hp
  have oz : ∀ l, L ≤ l → oT m h n L (n + 2 * L) a1 b1 c1 l = 0 := fun l hl => by
    unfold oT
    rw [if_neg (by omega)]
  have e3 : lvK m h n (n + 2 * L) k 3 = nV m h n (psi n k) := by
    unfold lvK lV4
    rw [if_pos ⟨hk, by decide⟩, if_neg (by omega)]
  have ea : ∀ x, x < 3 → lvK m h n (n + 2 * L) k x = sV m h n (psi n k) x := fun x hx => by
    unfold lvK lV4
    rw [if_pos ⟨hk, by omega⟩, if_pos hx]
  have es : sm (fun x => lvK m h n (n + 2 * L) k x * oT m h n L (n + 2 * L) a1 b1 c1 x) L = dt3 (sV m h n) (psi n k) (oT m h n L (n + 2 * L) a1 b1 c1) := by
    unfold dt3
    rw [← ea 0 (by decide), ← ea 1 (by decide), ← ea 2 (by decide)]
    exact smz hL3 oz
  unfold gdV
  rw [e3, es]
  have q := Int.mul_le_mul_of_nonneg_right fr (Int.le_of_lt w1)
  have e0 := e 0 (by decide)
  have e1 := e 1 (by decide)
  have e2 := e 2 (by decide)
  have dq : dt3 (sV m h n) (psi n k) (oT m h n L (n + 2 * L) a1 b1 c1) * wh (sV m h n) H = dt3 (sV m h n) (psi n k) (ow (sV m h n) (nV m h n) H) * wT m h n L (n + 2 * L) a1 b1 c1 := by
    unfold dt3
    grind
  have z : (nV m h n (psi n k) * wT m h n L (n + 2 * L) a1 b1 c1 - dt3 (sV m h n) (psi n k) (oT m h n L (n + 2 * L) a1 b1 c1)) * wh (sV m h n) H ≤ 0 := by
    rw [Int.sub_mul, dq]
    grind
  refine Int.not_lt.mp (fun y => ?_)
  have := Int.mul_pos y wp
  omega
end SAME
