/-! Cheapest: setWay, place, firstBroken, compareBy, isBefore, placeToLeave, addPrices, ownOf -/
/-- sizes -/
def SBd (s : Nat → Nat → Int) (nd : Nat → Int) : Prop := (∀ r a, r < 14 → a < 3 → (s r a).natAbs ≤ 10 ^ 45) ∧ ∀ r, r < 14 → (nd r).natAbs ≤ 10 ^ 50
def LPV (s : Nat → Nat → Int) (nd : Nat → Int) (V : Nat → Int) : Prop := (∀ r a, r < 14 → a < 3 → V (4 + (3 * r + a)) = s r a) ∧ ∀ r, r < 14 → V (46 + r) = nd r
def PLV (s : Nat → Nat → Int) (nd : Nat → Int) (H : Nat → Nat) (V : Nat → Int) : Prop := (∀ i a, i < 3 → a < 3 → V (60 + (3 * a + i)) = wy s H i a) ∧ V 0 = wh s H ∧ ∀ a, a < 3 → V (71 + 3 * a) = ow s nd H a
theorem lpv_c {s : Nat → Nat → Int} {nd V V' : Nat → Int} (L : LPV s nd V) (e : ∀ q, 4 ≤ q → q < 60 → V' q = V q) : LPV s nd V' := ⟨fun r a hr ha => by rw [e _ (by omega) (by omega)]; exact L.1 r a hr ha, fun r hr => by rw [e _ (by omega) (by omega)]; exact L.2 r hr⟩
theorem rm_a {q : Nat} (h : q < 2) : rm q = 28 := if_pos h
theorem rm_b {q : Nat} (h : 2 ≤ q) (h2 : q < 4) : rm q = 40 := by
  unfold rm
  rw [if_neg (by omega), if_pos h2]
theorem rm_c {q : Nat} (h : 4 ≤ q) (h2 : q < 60) : rm q = 10 := by
  unfold rm
  rw [if_neg (by omega), if_neg (by omega), if_pos h2]
theorem rm_d {q : Nat} (h : 60 ≤ q) (h2 : q < 69) : rm q = 20 := by
  unfold rm
  rw [if_neg (by omega), if_neg (by omega), if_neg (by omega), if_pos h2]
theorem rm_e {k : Nat} : rm (69 + 3 * k) = 20 ∧ rm (70 + 3 * k) = 28 ∧ rm (71 + 3 * k) = 28 := by
  unfold rm
  refine ⟨?_, ?_, ?_⟩
  · rw [if_neg (by omega), if_neg (by omega), if_neg (by omega), if_neg (by omega), if_pos (by omega)]
  · rw [if_neg (by omega), if_neg (by omega), if_neg (by omega), if_neg (by omega), if_neg (by omega)]
  · rw [if_neg (by omega), if_neg (by omega), if_neg (by omega), if_neg (by omega), if_neg (by omega)]
section SIZES
variable {s : Nat → Nat → Int} {nd : Nat → Int} {H : Nat → Nat}
theorem wy_bd (B : SBd s nd) (hH : ∀ i, i < 3 → H i < 14) {i a : Nat} : (wy s H i a).natAbs ≤ 2 * 10 ^ 90 := by
  have m1 : (i + 1) % 3 < 3 := Nat.mod_lt _ (by decide)
  have m2 : (i + 2) % 3 < 3 := Nat.mod_lt _ (by decide)
  have n1 : (a + 1) % 3 < 3 := Nat.mod_lt _ (by decide)
  have n2 : (a + 2) % 3 < 3 := Nat.mod_lt _ (by decide)
  have x1 := nA_mul (B.1 _ _ (hH _ m1) n1) (B.1 _ _ (hH _ m2) n2)
  have x2 := nA_mul (B.1 _ _ (hH _ m1) n2) (B.1 _ _ (hH _ m2) n1)
  have e : 10 ^ 45 * 10 ^ 45 = 10 ^ 90 := by decide
  rw [e] at x1 x2
  unfold wy
  exact nA_sub x1 x2
theorem sm3 {f : Nat → Int} : sm f 3 = f 0 + f 1 + f 2 := by
  rw [sm, sm, sm, sm]
  omega
theorem s_bd {f : Nat → Int} {b k : Nat} (hk : k ≤ 3) (h : ∀ a, a < 3 → (f a).natAbs ≤ b) : (sm f k).natAbs ≤ 3 * b := Nat.le_trans (nA_sm (fun j hj => h j (by omega))) (Nat.mul_le_mul_right _ hk)
theorem le_t (B : SBd s nd) (hH : ∀ i, i < 3 → H i < 14) {r i a : Nat} (hr : r < 14) (ha : a < 3) : (s r a * wy s H i a).natAbs ≤ 2 * 10 ^ 135 := Nat.le_trans (nA_mul (B.1 r a hr ha) (wy_bd B hH)) (by decide)
theorem le_bd (B : SBd s nd) (hH : ∀ i, i < 3 → H i < 14) {r i : Nat} (hr : r < 14) : (le3 s H r i).natAbs ≤ 6 * 10 ^ 135 := by
  have e : le3 s H r i = sm (fun a => s r a * wy s H i a) 3 := by
    rw [sm3]
    rfl
  rw [e]
  exact Nat.le_trans (s_bd (Nat.le_refl 3) (fun a ha => le_t B hH hr ha)) (by decide)
theorem wh_bd (B : SBd s nd) (hH : ∀ i, i < 3 → H i < 14) : (wh s H).natAbs ≤ 6 * 10 ^ 135 := le_bd (i := 0) B hH (hH 0 (by decide))
theorem ow_t (B : SBd s nd) (hH : ∀ i, i < 3 → H i < 14) {i a : Nat} (hi : i < 3) : (wy s H i a * nd (H i)).natAbs ≤ 2 * 10 ^ 140 := Nat.le_trans (nA_mul (wy_bd B hH) (B.2 _ (hH i hi))) (by decide)
theorem ow_bd (B : SBd s nd) (hH : ∀ i, i < 3 → H i < 14) {a : Nat} : (ow s nd H a).natAbs ≤ 6 * 10 ^ 140 := by
  have e : ow s nd H a = sm (fun i => wy s H i a * nd (H i)) 3 := by
    rw [sm3]
    rfl
  rw [e]
  exact Nat.le_trans (s_bd (Nat.le_refl 3) (fun i hi => ow_t B hH hi)) (by decide)
theorem szs (B : SBd s nd) {r a : Nat} (hr : r < 14) (ha : a < 3) : sz B6 (s r a).natAbs ≤ 8 := sz6b (Nat.le_trans (B.1 r a hr ha) (by decide)) (by decide)
theorem szn (B : SBd s nd) {r : Nat} (hr : r < 14) : sz B6 (nd r).natAbs ≤ 9 := sz6b (Nat.le_trans (B.2 r hr) (by decide)) (by decide)
theorem szw (B : SBd s nd) (hH : ∀ i, i < 3 → H i < 14) {i a : Nat} : sz B6 (wy s H i a).natAbs ≤ 16 := sz6b (Nat.le_trans (wy_bd B hH) (by decide)) (by decide)
theorem szl (B : SBd s nd) (hH : ∀ i, i < 3 → H i < 14) {r i : Nat} (hr : r < 14) : sz B6 (le3 s H r i).natAbs ≤ 23 := sz6b (Nat.le_trans (le_bd B hH hr) (by decide)) (by decide)
theorem szh (B : SBd s nd) (hH : ∀ i, i < 3 → H i < 14) : sz B6 (wh s H).natAbs ≤ 23 := sz6b (Nat.le_trans (wh_bd B hH) (by decide)) (by decide)
theorem szo (B : SBd s nd) (hH : ∀ i, i < 3 → H i < 14) {a : Nat} : sz B6 (ow s nd H a).natAbs ≤ 24 := sz6b (Nat.le_trans (ow_bd B hH) (by decide)) (by decide)
end SIZES
section CHEAP
variable {c : Nat} {h : jHp} {V : Nat → Int} {s : Nat → Nat → Int} {nd : Nat → Int} {H : Nat → Nat}
def HH (c : Nat) (h : jHp) (H : Nat → Nat) : Prop := ∀ i, i < 3 → mI h (c + 5) i = (H i : Int) ∧ H i < 14
theorem HH.l (K : HH c h H) : ∀ i, i < 3 → H i < 14 := fun i hi => (K i hi).2
theorem hh_fg {g : jHp} (K : HH c h H) (f : fg (chS c) h g) : HH c g H := fun i hi => ⟨by rw [f.eq (by unfold chS; omega)]; exact (K i hi).1, (K i hi).2⟩
theorem z0s {q : Nat} : sz B6 (((0 : Nat) : Int)).natAbs ≤ rm q := by
  rw [show sz B6 (((0 : Nat) : Int)).natAbs = 0 from sz_0]
  exact Nat.zero_le _
def swQ (c : Nat) (h : jHp) (V : Nat → Int) (q : Nat) (x : Int) : jQ := fun r h' => r = none ∧ fg (chS c) h h' ∧ ∃ V', CV c V' h' ∧ V' q = x ∧ ∀ p, p ≠ q → p ≠ 3 → V' p = V p
theorem c_CsetWay {i a : Nat} (C : CL c h) (CVh : CV c V h) (L : LPV s nd V) (B : SBd s nd) (K : HH c h H) (hi : i < 3) (ha : a < 3) : jRet 40 0 0 [.ref c, .int (iI i), .int (iI a)] h (swQ c h V (60 + (3 * a + i)) (wy s H i a)) := by
  have m1 : (i + 1) % 3 < 3 := Nat.mod_lt _ (by decide)
  have m2 : (i + 2) % 3 < 3 := Nat.mod_lt _ (by decide)
  have n1 : (a + 1) % 3 < 3 := Nat.mod_lt _ (by decide)
  have n2 : (a + 2) % 3 < 3 := Nat.mod_lt _ (by decide)
  have e1 : iI (i : Int) + iI 1 - (iI (i : Int) + iI 1) / iI 3 * iI 3 = iI (((i + 1) % 3 : Nat) : Int) := by
    rw [iI_add, iI_rem (by omega) (by omega) (by omega) (by omega)]
    congr 1
  have e2 : iI (i : Int) + iI 2 - (iI (i : Int) + iI 2) / iI 3 * iI 3 = iI (((i + 2) % 3 : Nat) : Int) := by
    rw [iI_add, iI_rem (by omega) (by omega) (by omega) (by omega)]
    congr 1
  have e3 : iI (a : Int) + iI 1 - (iI (a : Int) + iI 1) / iI 3 * iI 3 = iI (((a + 1) % 3 : Nat) : Int) := by
    rw [iI_add, iI_rem (by omega) (by omega) (by omega) (by omega)]
    congr 1
  have e4 : iI (a : Int) + iI 2 - (iI (a : Int) + iI 2) / iI 3 * iI 3 = iI (((a + 2) % 3 : Nat) : Int) := by
    rw [iI_add, iI_rem (by omega) (by omega) (by omega) (by omega)]
    congr 1
  obtain ⟨k1, l1⟩ := K _ m1
  obtain ⟨k2, l2⟩ := K _ m2
  have ew : wy s H i a = s (H ((i + 1) % 3)) ((a + 1) % 3) * s (H ((i + 2) % 3)) ((a + 2) % 3) - s (H ((i + 1) % 3)) ((a + 2) % 3) * s (H ((i + 2) % 3)) ((a + 1) % 3) := rfl
  rw [ew]
  refine jRet_of (by decide) (by decide) (Nat.le_of_ble_eq_true rfl) (j_Ch_setWay_0 ?_)
  rw [e1, e2, e3, e4]
  generalize (i + 1) % 3 = i1 at *
  generalize (i + 2) % 3 = i2 at *
  generalize (a + 1) % 3 = a1 at *
  generalize (a + 2) % 3 = a2 at *
  rw [C.f4, C.f5, C.f0, gI_q (a := (i1 : Int)) (by omega) (by omega), gI_q (a := (i2 : Int)) (by omega) (by omega), Int.toNat_natCast, Int.toNat_natCast, k1, k2]
  generalize H i1 = r1 at *
  generalize H i2 = r2 at *
  have iv : iI (a : Int) * iI 3 + iI (i : Int) = iI ((3 * a + i : Nat) : Int) := by
    rw [iI_mul, iI_add]
    congr 1
    omega
  have is : ∀ r x : Nat, iI (r : Int) * iI 3 + iI (x : Int) = iI ((3 * r + x : Nat) : Int) := fun r x => by
    rw [iI_mul, iI_add]
    congr 1
    omega
  have cl : ∀ x : Nat, x < 100 → (iI (x : Int)).toNatClampNeg = x := fun x hx => by rw [iI_cl (by omega) (by omega), Int.toNat_natCast]
  rw [iv, is r1 a1, is r2 a2, is r1 a2, is r2 a1, cl _ (by omega), cl _ (by omega), cl _ (by omega), cl _ (by omega), cl _ (by omega), C.w _ (by omega), C.s _ (by omega), C.s _ (by omega)]
  have v1 := L.1 r1 a1 l1 n1
  have v2 := L.1 r2 a2 l2 n2
  have v3 := L.1 r1 a2 l1 n2
  have v4 := L.1 r2 a1 l2 n1
  have b1 := B.1 r1 a1 l1 n1
  have b2 := B.1 r2 a2 l2 n2
  have b3 := B.1 r1 a2 l1 n2
  have b4 := B.1 r2 a1 l2 n1
  have y1 := szs B l1 n1
  have y2 := szs B l2 n2
  have y3 := szs B l1 n2
  have y4 := szs B l2 n1
  have rq : rm (60 + (3 * a + i)) = 20 := rm_d (by omega) (by omega)
  have r3 : rm 3 = 40 := rm_b (by decide) (by decide)
  refine ⟨C.o, by decide, ixL_of C.z5 (by omega) (by omega) (by decide), C.o, by decide, ixL_of C.z5 (by omega) (by omega) (by decide), by decide, by decide, C.o, C.i6 _ (by omega), C.o, C.i1 _ (by omega), C.o, C.i1 _ (by omega), (CVh _ (by omega)).1.1, jRet_mono (v_prod CVh (q := 60 + (3 * a + i)) (p1 := 4 + (3 * r1 + a1)) (p2 := 4 + (3 * r2 + a2)) (by omega) (by omega) (by omega) (by omega) (by omega) (by rw [v1, v2, rq]; omega)) ?_⟩
  intro q1 h1 w1
  obtain ⟨x1, f1, C1⟩ := w1
  have D1 := cl_sk C f1.1
  rw [D1.f0, D1.f12, D1.s _ (by omega), D1.s _ (by omega)]
  refine ⟨x1, D1.o, D1.o, D1.i1 _ (by omega), D1.o, D1.i1 _ (by omega), (C1 3 (by decide)).1.1, jRet_mono (v_prod C1 (q := 3) (p1 := 4 + (3 * r1 + a2)) (p2 := 4 + (3 * r2 + a1)) (by omega) (by omega) (by omega) (by omega) (by omega) (by rw [setV_n (by omega), setV_n (by omega), v3, v4, r3]; omega)) ?_⟩
  intro q2 h2 w2
  obtain ⟨x2, f2, C2⟩ := w2
  have D2 := cl_sk D1 f2.1
  rw [D2.f12]
  have p1 := nA_mul b1 b2
  have p2 := nA_mul b3 b4
  have t0 : setV (setV V (60 + (3 * a + i)) (V (4 + (3 * r1 + a1)) * V (4 + (3 * r2 + a2)))) 3 (setV V (60 + (3 * a + i)) (V (4 + (3 * r1 + a1)) * V (4 + (3 * r2 + a2))) (4 + (3 * r1 + a2)) * setV V (60 + (3 * a + i)) (V (4 + (3 * r1 + a1)) * V (4 + (3 * r2 + a2))) (4 + (3 * r2 + a1))) (60 + (3 * a + i)) = s r1 a1 * s r2 a2 := by
    rw [setV_n (by omega), setV_s, v1, v2]
  have t1 : setV (setV V (60 + (3 * a + i)) (V (4 + (3 * r1 + a1)) * V (4 + (3 * r2 + a2)))) 3 (setV V (60 + (3 * a + i)) (V (4 + (3 * r1 + a1)) * V (4 + (3 * r2 + a2))) (4 + (3 * r1 + a2)) * setV V (60 + (3 * a + i)) (V (4 + (3 * r1 + a1)) * V (4 + (3 * r2 + a2))) (4 + (3 * r2 + a1))) 3 = s r1 a2 * s r2 a1 := by
    rw [setV_s, setV_n (by omega), setV_n (by omega), v3, v4]
  refine ⟨x2, D2.o, (C2 _ (by omega)).1.1, jRet_mono (v_add C2 (q := 60 + (3 * a + i)) (p := 3) (y := 1) (by omega) (by omega) (by omega) (Or.inr rfl) (by rw [t0, t1, rq]; exact sz6b (Nat.le_trans (Nat.add_le_add p1 p2) (by decide)) (by decide))) ?_⟩
  intro q3 h3 w3
  obtain ⟨x3, f3, C3⟩ := w3
  refine ⟨x3, rfl, (f1.tr f2).tr f3, _, C3, ?_, fun p hp hp3 => ?_⟩
  · rw [setV_s, if_neg (show ¬ (1 : Int) = 0 by decide), t0, t1]
  · rw [setV_n hp, setV_n hp3, setV_n hp]
def cpQ (c : Nat) (h : jHp) (s : Nat → Nat → Int) (nd : Nat → Int) (H : Nat → Nat) : jQ := fun r h' => r = none ∧ fg (chS c) h h' ∧ ∃ V', CV c V' h' ∧ LPV s nd V' ∧ PLV s nd H V'
theorem c_Cplace (C : CL c h) (CVh : CV c V h) (L : LPV s nd V) (B : SBd s nd) (K : HH c h H) : jRet 39 0 0 [.ref c] h (cpQ c h s nd H) := by
  have hH := K.l
  have is : ∀ r x : Nat, iI (r : Int) * iI 3 + iI (x : Int) = iI ((3 * r + x : Nat) : Int) := fun r x => by
    rw [iI_mul, iI_add]
    congr 1
    omega
  have cl : ∀ x : Nat, x < 100 → (iI (x : Int)).toNatClampNeg = x := fun x hx => by rw [iI_cl (by omega) (by omega), Int.toNat_natCast]
  -- the owns
  have l89 : ∀ (d a : Nat) (g : jHp) (W : Nat → Int), a + d = 3 → fg (chS c) h g → CV c W g → LPV s nd W → (∀ i a, i < 3 → a < 3 → W (60 + (3 * a + i)) = wy s H i a) → W 0 = wh s H → (∀ a', a' < a → W (71 + 3 * a') = ow s nd H a') → J 39 89 0 0 [.ref c, .int (iI a), uu] [] g (cpQ c h s nd H) := by
    intro d
    induction d with
    | zero =>
      intro a g W hd f Cg Lg Wg W0 Wo
      obtain rfl : a = 3 := by omega
      exact j_Ch_place_89 ⟨fun _ => j_Ch_place_157 ⟨rfl, f, W, Cg, Lg, Wg, W0, Wo⟩, fun z => absurd (by decide) z⟩
    | succ d ih =>
      intro a g W hd f Cg Lg Wg W0 Wo
      have ha : a < 3 := by omega
      have l106 : ∀ (e i : Nat) (g1 : jHp) (W1 : Nat → Int), i + e = 3 → fg (chS c) h g1 → CV c W1 g1 → (∀ q, q ≠ 71 + 3 * a → q ≠ 3 → W1 q = W q) → W1 (71 + 3 * a) = sm (fun i => wy s H i a * nd (H i)) i → J 39 106 0 0 [.ref c, .int (iI a), .int (iI i)] [] g1 (cpQ c h s nd H) := by
        intro e
        induction e with
        | zero =>
          intro i g1 W1 hi f1 C1 E1 S1
          obtain rfl : i = 3 := by omega
          refine j_Ch_place_106 ⟨fun _ => j_Ch_place_151 ?_, fun z => absurd (by decide) z⟩
          rw [iI_add]
          refine ih (a + 1) g1 W1 (by omega) f1 C1 (lpv_c Lg (fun q h1 h2 => E1 q (by omega) (by omega))) (fun i' a' h1 h2 => by rw [E1 _ (by omega) (by omega)]; exact Wg i' a' h1 h2) (by rw [E1 _ (by omega) (by omega)]; exact W0) (fun a' h1 => ?_)
          by_cases ce : a' = a
          · rw [ce, S1, sm3]
            rfl
          · rw [E1 _ (by omega) (by omega)]
            exact Wo a' (by omega)
        | succ e ih2 =>
          intro i g1 W1 hi f1 C1 E1 S1
          have hi3 : i < 3 := by omega
          have D1 := cl_sk C f1.1
          have K1 := hh_fg K f1
          obtain ⟨k1, k2⟩ := K1 i hi3
          have v1 : W1 (60 + (3 * a + i)) = wy s H i a := by rw [E1 _ (by omega) (by omega)]; exact Wg i a hi3 ha
          have v2 : W1 (46 + H i) = nd (H i) := by rw [E1 _ (by omega) (by omega)]; exact Lg.2 _ k2
          have b1 := s_bd (f := fun i => wy s H i a * nd (H i)) (k := i) (by omega) (fun i hi => ow_t B hH hi)
          have b2 := ow_t (a := a) B hH hi3
          have y1 := szw (i := i) (a := a) B hH
          have y2 := szn B k2
          refine j_Ch_place_106 ?_
          rw [iI_le ⟨by omega, by omega⟩ ⟨by omega, by omega⟩, D1.f8, D1.f5, D1.f4, D1.f1, D1.f12, is a i, cl i (by omega), cl a (by omega), cl (3 * a + i) (by omega), (D1.t a ha).2.2, D1.w _ (by omega), gI_mI g1 (c + 5) i, k1, cl (H i) (by omega), D1.n _ k2]
          refine ⟨fun z => by omega, fun _ => ⟨D1.o, (D1.i7 a ha).2.2, D1.o, D1.i6 _ (by omega), D1.o, D1.o, ixL_of D1.z5 (by omega) (by omega) (by decide), D1.i2 _ k2, D1.o, (C1 _ (by omega)).1.1, jRet_mono (v_plus C1 (q := 71 + 3 * a) (p1 := 60 + (3 * a + i)) (p2 := 46 + H i) (by omega) (by omega) (by omega) (by omega) (by omega) (by omega) (by rw [v1, v2]; omega) (by rw [v1, v2, S1, rm_e.2.2]; exact sz6b (Nat.le_trans (Nat.add_le_add b1 b2) (by decide)) (by decide))) ?_⟩⟩
          intro q2 h2 w2
          obtain ⟨x2, f2, C2⟩ := w2
          refine ⟨x2, ?_⟩
          rw [iI_add]
          refine ih2 (i + 1) h2 _ (by omega) (f1.tr f2) C2 (fun q h1 h2 => by rw [setV_n h1, setV_n h2]; exact E1 q h1 h2) ?_
          rw [setV_s, S1, v1, v2, sm]
      have D := cl_sk C f.1
      refine j_Ch_place_89 ?_
      rw [iI_le ⟨by omega, by omega⟩ ⟨by omega, by omega⟩, D.f8, cl a (by omega), (D.t a ha).2.2]
      refine ⟨fun z => by omega, fun _ => ⟨D.o, (D.i7 a ha).2.2, (Cg _ (by omega)).1.1, jRet_mono (v_set (x := ((0 : Nat) : Int)) Cg (q := 71 + 3 * a) (by omega) (by omega) z0s) ?_⟩⟩
      intro q1 h1 w1
      obtain ⟨x1, f1, C1⟩ := w1
      refine ⟨x1, l106 3 0 h1 _ (by omega) (f.tr f1) C1 (fun q h1 h2 => setV_n h1) ?_⟩
      rw [setV_s, sm]
      rfl
  -- whole
  have l42 : ∀ (d a : Nat) (g : jHp) (W : Nat → Int), a + d = 3 → fg (chS c) h g → CV c W g → LPV s nd W → (∀ i a, i < 3 → a < 3 → W (60 + (3 * a + i)) = wy s H i a) → W 0 = sm (fun a => s (H 0) a * wy s H 0 a) a → J 39 42 0 0 [.ref c, .int (iI a), uu] [] g (cpQ c h s nd H) := by
    intro d
    induction d with
    | zero =>
      intro a g W hd f Cg Lg Wg W0
      obtain rfl : a = 3 := by omega
      refine j_Ch_place_42 ⟨fun _ => j_Ch_place_87 (l89 3 0 g W (by omega) f Cg Lg Wg ?_ (fun a' h1 => by omega)), fun z => absurd (by decide) z⟩
      rw [W0, sm3]
      rfl
    | succ d ih =>
      intro a g W hd f Cg Lg Wg W0
      have ha : a < 3 := by omega
      have D := cl_sk C f.1
      have Kg := hh_fg K f
      obtain ⟨k1, k2⟩ := Kg 0 (by omega)
      have v1 := Lg.1 (H 0) a k2 ha
      have v2 : W (60 + 3 * a) = wy s H 0 a := Wg 0 a (by omega) ha
      have b1 := s_bd (f := fun a => s (H 0) a * wy s H 0 a) (k := a) (by omega) (fun a ha => le_t B hH k2 ha)
      have b2 := le_t (i := 0) B hH k2 ha
      have y1 := szs B k2 ha
      have y2 := szw (i := 0) (a := a) B hH
      have c0 : (iI 0).toNatClampNeg = 0 := by decide
      have i3 : iI (a : Int) * iI 3 = iI ((3 * a : Nat) : Int) := by
        rw [iI_mul]
        congr 1
        omega
      refine j_Ch_place_42 ?_
      rw [iI_le ⟨by omega, by omega⟩ ⟨by omega, by omega⟩, D.f9, D.f4, D.f0, D.f5, D.f12, c0, gI_mI g (c + 5) 0, k1, is (H 0) a, i3, cl _ (by omega), cl _ (by omega), D.s _ (by omega), D.w _ (by omega)]
      refine ⟨fun z => by omega, fun _ => ⟨D.o, D.o, D.o, ixL_of (a := ((0 : Nat) : Int)) D.z5 (by omega) (by omega) (by decide), D.i1 _ (by omega), D.o, D.i6 _ (by omega), D.o, (Cg _ (by omega)).1.1, jRet_mono (v_plus Cg (q := 0) (p1 := 4 + (3 * H 0 + a)) (p2 := 60 + 3 * a) (by omega) (by omega) (by omega) (by omega) (by omega) (by omega) (by rw [v1, v2]; omega) (by rw [v1, v2, W0, rm_a (by decide)]; exact sz6b (Nat.le_trans (Nat.add_le_add b1 b2) (by decide)) (by decide))) ?_⟩⟩
      intro q2 h2 w2
      obtain ⟨x2, f2, C2⟩ := w2
      refine ⟨x2, ?_⟩
      rw [iI_add]
      refine ih (a + 1) h2 _ (by omega) (f.tr f2) C2 (lpv_c Lg (fun q h1 h2 => by rw [setV_n (by omega), setV_n (by omega)])) (fun i' a' h1 h2 => by rw [setV_n (by omega), setV_n (by omega)]; exact Wg i' a' h1 h2) ?_
      rw [setV_s, W0, v1, v2, sm]
  have l2 : ∀ (d i : Nat) (g : jHp) (W : Nat → Int), i + d = 3 → fg (chS c) h g → CV c W g → LPV s nd W → (∀ i' a', i' < i → a' < 3 → W (60 + (3 * a' + i')) = wy s H i' a') → J 39 2 0 0 [.ref c, .int (iI i), uu] [] g (cpQ c h s nd H) := by
    intro d
    induction d with
    | zero =>
      intro i g W hd f Cg Lg Wg
      obtain rfl : i = 3 := by omega
      have D := cl_sk C f.1
      refine j_Ch_place_2 ⟨fun _ => j_Ch_place_32 ?_, fun z => absurd (by decide) z⟩
      rw [D.f9]
      refine ⟨D.o, (Cg 0 (by decide)).1.1, jRet_mono (v_set (x := ((0 : Nat) : Int)) Cg (q := 0) (by omega) (by omega) z0s) ?_⟩
      intro q1 h1 w1
      obtain ⟨x1, f1, C1⟩ := w1
      refine ⟨x1, l42 3 0 h1 _ (by omega) (f.tr f1) C1 (lpv_c Lg (fun q h1 h2 => setV_n (by omega))) (fun i' a' h1 h2 => by rw [setV_n (by omega)]; exact Wg i' a' h1 h2) ?_⟩
      rw [setV_s, sm]
      rfl
    | succ d ih =>
      intro i g W hd f Cg Lg Wg
      have hi3 : i < 3 := by omega
      have l9 : ∀ (e a : Nat) (g1 : jHp) (W1 : Nat → Int), a + e = 3 → fg (chS c) h g1 → CV c W1 g1 → LPV s nd W1 → (∀ i' a', (i' < i ∧ a' < 3 ∨ i' = i ∧ a' < a) → W1 (60 + (3 * a' + i')) = wy s H i' a') → J 39 9 0 0 [.ref c, .int (iI i), .int (iI a)] [] g1 (cpQ c h s nd H) := by
        intro e
        induction e with
        | zero =>
          intro a g1 W1 ha f1 C1 L1 Wg1
          obtain rfl : a = 3 := by omega
          refine j_Ch_place_9 ⟨fun _ => j_Ch_place_26 ?_, fun z => absurd (by decide) z⟩
          rw [iI_add]
          exact ih (i + 1) g1 W1 (by omega) f1 C1 L1 (fun i' a' h1 h2 => Wg1 i' a' (by omega))
        | succ e ih2 =>
          intro a g1 W1 ha f1 C1 L1 Wg1
          have D1 := cl_sk C f1.1
          refine j_Ch_place_9 ?_
          rw [iI_le ⟨by omega, by omega⟩ ⟨by omega, by omega⟩]
          refine ⟨fun z => by omega, fun _ => ⟨D1.o, jRet_mono (c_CsetWay D1 C1 L1 B (hh_fg K f1) hi3 (show a < 3 by omega)) ?_⟩⟩
          intro q2 h2 w2
          obtain ⟨x2, f2, W2, C2, E2, F2⟩ := w2
          refine ⟨x2, ?_⟩
          rw [iI_add]
          refine ih2 (a + 1) h2 W2 (by omega) (f1.tr f2) C2 (lpv_c L1 (fun q h1 h2 => F2 q (by omega) (by omega))) (fun i' a' hp => ?_)
          by_cases ce : i' = i ∧ a' = a
          · rw [ce.1, ce.2]
            exact E2
          · rw [F2 _ (by omega) (by omega)]
            exact Wg1 i' a' (by omega)
      refine j_Ch_place_2 ?_
      rw [iI_le ⟨by omega, by omega⟩ ⟨by omega, by omega⟩]
      exact ⟨fun z => by omega, fun _ => l9 3 0 g W (by omega) f Cg Lg (fun i' a' hp => Wg i' a' (by omega) (by omega))⟩
  refine jRet_of (by decide) (by decide) (Nat.le_of_ble_eq_true rfl) (j_Ch_place_0 ?_)
  exact l2 3 0 h V (by omega) fg.rf CVh L (fun i' a' h1 => by omega)
def fbQ (c : Nat) (h : jHp) (s : Nat → Nat → Int) (nd : Nat → Int) (H : Nat → Nat) : jQ := fun r h' => ((r = some (.int (iI (-1))) ∧ ∀ t, t < 14 → nd t * wh s H ≤ dt3 s t (ow s nd H)) ∨ ∃ t : Nat, t < 14 ∧ r = some (.int (iI (t : Int))) ∧ dt3 s t (ow s nd H) < nd t * wh s H) ∧ fg (chS c) h h' ∧ ∃ V', CV c V' h' ∧ LPV s nd V' ∧ PLV s nd H V'
theorem plv_c {V' : Nat → Int} (P : PLV s nd H V) (e : ∀ q, q = 0 ∨ 60 ≤ q ∧ q < 69 ∨ (∃ a, a < 3 ∧ q = 71 + 3 * a) → V' q = V q) : PLV s nd H V' := ⟨fun i a hi ha => by rw [e _ (Or.inr (Or.inl ⟨by omega, by omega⟩))]; exact P.1 i a hi ha, by rw [e _ (Or.inl rfl)]; exact P.2.1, fun a ha => by rw [e _ (Or.inr (Or.inr ⟨a, ha, rfl⟩))]; exact P.2.2 a ha⟩
theorem c_Cbroken (C : CL c h) (CVh : CV c V h) (L : LPV s nd V) (P : PLV s nd H V) (B : SBd s nd) (K : HH c h H) : jRet 41 0 0 [.ref c] h (fbQ c h s nd H) := by
  have hH := K.l
  have is : ∀ r x : Nat, iI (r : Int) * iI 3 + iI (x : Int) = iI ((3 * r + x : Nat) : Int) := fun r x => by
    rw [iI_mul, iI_add]
    congr 1
    omega
  have cl : ∀ x : Nat, x < 100 → (iI (x : Int)).toNatClampNeg = x := fun x hx => by rw [iI_cl (by omega) (by omega), Int.toNat_natCast]
  have bt : ∀ r a, r < 14 → a < 3 → (s r a * ow s nd H a).natAbs ≤ 6 * 10 ^ 185 := fun r a hr ha => Nat.le_trans (nA_mul (B.1 r a hr ha) (ow_bd B hH)) (by decide)
  have l2 : ∀ (d r : Nat) (g : jHp) (W : Nat → Int), r + d = 14 → fg (chS c) h g → CV c W g → LPV s nd W → PLV s nd H W → (∀ t, t < r → nd t * wh s H ≤ dt3 s t (ow s nd H)) → J 41 2 0 0 [.ref c, .int (iI r), uu] [] g (fbQ c h s nd H) := by
    intro d
    induction d with
    | zero =>
      intro r g W hd f Cg Lg Pg ok
      obtain rfl : r = 14 := by omega
      exact j_Ch_firstBroken_2 ⟨fun _ => j_Ch_firstBroken_103 ⟨Or.inl ⟨rfl, ok⟩, f, W, Cg, Lg, Pg⟩, fun z => absurd (by decide) z⟩
    | succ d ih =>
      intro r g W hd f Cg Lg Pg ok
      have hr : r < 14 := by omega
      have l18 : ∀ (e a : Nat) (g1 : jHp) (W1 : Nat → Int), a + e = 3 → fg (chS c) h g1 → CV c W1 g1 → LPV s nd W1 → PLV s nd H W1 → W1 2 = sm (fun a => s r a * ow s nd H a) a → J 41 18 0 0 [.ref c, .int (iI r), .int (iI a)] [] g1 (fbQ c h s nd H) := by
        intro e
        induction e with
        | zero =>
          intro a g1 W1 ha f1 C1 L1 P1 S1
          obtain rfl : a = 3 := by omega
          have D1 := cl_sk C f1.1
          have v1 := L1.2 r hr
          have v2 := P1.2.1
          have e3 : sm (fun a => s r a * ow s nd H a) 3 = dt3 s r (ow s nd H) := by
            rw [sm3]
            rfl
          rw [e3] at S1
          have y1 := szn B hr
          have y2 := szh B hH
          have b1 : (dt3 s r (ow s nd H)).natAbs ≤ 3 * (6 * 10 ^ 185) := by
            rw [← e3]
            exact s_bd (Nat.le_refl 3) (fun a ha => bt r a hr ha)
          have b2 : (nd r * wh s H).natAbs ≤ 10 ^ 50 * (6 * 10 ^ 135) := nA_mul (B.2 r hr) (wh_bd B hH)
          refine j_Ch_firstBroken_18 ⟨fun _ => j_Ch_firstBroken_56 ?_, fun z => absurd (by decide) z⟩
          rw [D1.f12, D1.f1, D1.f9, cl r (by omega), D1.n r hr]
          refine ⟨D1.o, D1.o, D1.i2 r hr, D1.o, (C1 _ (by decide)).1.1, jRet_mono (v_prod C1 (q := 3) (p1 := 46 + r) (p2 := 0) (by omega) (by omega) (by omega) (by omega) (by omega) (by rw [v1, v2, rm_b (by decide) (by decide)]; omega)) ?_⟩
          intro q2 h2 w2
          obtain ⟨x2, f2, C2⟩ := w2
          have D2 := cl_sk D1 f2.1
          rw [D2.f11, D2.f12]
          refine ⟨x2, D2.o, D2.o, (C2 _ (by decide)).1.1, jRet_mono (v_add C2 (q := 2) (p := 3) (y := 1) (by omega) (by omega) (by omega) (Or.inr rfl) (by rw [setV_n (by omega), setV_s, S1, v1, v2, rm_b (by decide) (by decide)]; exact sz6b (Nat.le_trans (Nat.add_le_add b1 b2) (by decide)) (by decide))) ?_⟩
          intro q3 h3 w3
          obtain ⟨x3, f3, C3⟩ := w3
          have D3 := cl_sk D2 f3.1
          have B2 := (C3 2 (by decide)).2.2
          rw [setV_s, if_neg (show ¬ (1 : Int) = 0 by decide), setV_n (by omega), setV_s, S1, v1, v2] at B2
          have fall := (f1.tr f2).tr f3
          have L3 : LPV s nd (setV (setV W1 3 (W1 (46 + r) * W1 0)) 2 (if (1 : Int) = 0 then setV W1 3 (W1 (46 + r) * W1 0) 2 + setV W1 3 (W1 (46 + r) * W1 0) 3 else setV W1 3 (W1 (46 + r) * W1 0) 2 - setV W1 3 (W1 (46 + r) * W1 0) 3)) := lpv_c L1 (fun q h1 h2 => by rw [setV_n (by omega), setV_n (by omega)])
          have P3 : PLV s nd H (setV (setV W1 3 (W1 (46 + r) * W1 0)) 2 (if (1 : Int) = 0 then setV W1 3 (W1 (46 + r) * W1 0) 2 + setV W1 3 (W1 (46 + r) * W1 0) 3 else setV W1 3 (W1 (46 + r) * W1 0) 2 - setV W1 3 (W1 (46 + r) * W1 0) 3)) := plv_c P1 (fun q hq => by rw [setV_n (by omega), setV_n (by omega)])
          rw [D3.f11, gI_mI h3 (pl c 2) 2, B2, iI_0, iI_eq (by split <;> exact ⟨by omega, by omega⟩) ⟨by omega, by omega⟩]
          refine ⟨x3, D3.o, (C3 _ (by decide)).1.1, fun z => j_Ch_firstBroken_97 ?_, fun z => ⟨Or.inr ⟨r, hr, rfl, ?_⟩, fall, _, C3, L3, P3⟩⟩
          · rw [iI_add]
            refine ih (r + 1) h3 _ (by omega) fall C3 L3 P3 (fun t ht => ?_)
            by_cases ce : t = r
            · rw [ce]
              split at z <;> omega
            · exact ok t (by omega)
          · split at z <;> omega
        | succ e ih2 =>
          intro a g1 W1 ha f1 C1 L1 P1 S1
          have ha3 : a < 3 := by omega
          have D1 := cl_sk C f1.1
          have v1 := L1.1 r a hr ha3
          have v2 := P1.2.2 a ha3
          have y1 := szs B hr ha3
          have y2 := szo (a := a) B hH
          have b1 := s_bd (f := fun a => s r a * ow s nd H a) (k := a) (by omega) (fun a ha => bt r a hr ha)
          have b2 := bt r a hr ha3
          refine j_Ch_firstBroken_18 ?_
          rw [iI_le ⟨by omega, by omega⟩ ⟨by omega, by omega⟩, D1.f11, D1.f0, D1.f8, D1.f12, is r a, cl _ (by omega), cl a (by omega), D1.s _ (by omega), (D1.t a ha3).2.2]
          refine ⟨fun z => by omega, fun _ => ⟨D1.o, D1.o, D1.i1 _ (by omega), D1.o, (D1.i7 a ha3).2.2, D1.o, (C1 _ (by decide)).1.1, jRet_mono (v_plus C1 (q := 2) (p1 := 4 + (3 * r + a)) (p2 := 71 + 3 * a) (by omega) (by omega) (by omega) (by omega) (by omega) (by omega) (by rw [v1, v2]; omega) (by rw [v1, v2, S1, rm_b (by decide) (by decide)]; exact sz6b (Nat.le_trans (Nat.add_le_add b1 b2) (by decide)) (by decide))) ?_⟩⟩
          intro q2 h2 w2
          obtain ⟨x2, f2, C2⟩ := w2
          refine ⟨x2, ?_⟩
          rw [iI_add]
          refine ih2 (a + 1) h2 _ (by omega) (f1.tr f2) C2 (lpv_c L1 (fun q h1 h2 => by rw [setV_n (by omega), setV_n (by omega)])) (plv_c P1 (fun q hq => by rw [setV_n (by omega), setV_n (by omega)])) ?_
          rw [setV_s, S1, v1, v2, sm]
      have D := cl_sk C f.1
      refine j_Ch_firstBroken_2 ?_
      rw [iI_le ⟨by omega, by omega⟩ ⟨by omega, by omega⟩, D.f11]
      refine ⟨fun z => by omega, fun _ => ⟨D.o, (Cg _ (by decide)).1.1, jRet_mono (v_set (x := ((0 : Nat) : Int)) Cg (q := 2) (by omega) (by omega) z0s) ?_⟩⟩
      intro q1 h1 w1
      obtain ⟨x1, f1, C1⟩ := w1
      refine ⟨x1, l18 3 0 h1 _ (by omega) (f.tr f1) C1 (lpv_c Lg (fun q h1 h2 => setV_n (by omega))) (plv_c Pg (fun q hq => setV_n (by omega))) ?_⟩
      rw [setV_s, sm]
      rfl
  refine jRet_of (by decide) (by decide) (Nat.le_of_ble_eq_true rfl) (j_Ch_firstBroken_0 ?_)
  exact l2 14 0 h V (by omega) fg.rf CVh L P (fun t ht => by omega)
end CHEAP
