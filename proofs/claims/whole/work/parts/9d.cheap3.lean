/-! Cheapest: compareBy, isBefore, placeToLeave, addPrices, ownOf -/
section CHEAP
variable {c : Nat} {h : jHp} {V : Nat → Int} {s : Nat → Nat → Int} {nd pr : Nat → Int} {H : Nat → Nat}
def PP (c : Nat) (h : jHp) (pr : Nat → Int) : Prop := ∀ a, a < 3 → mI h (c + 4) a = pr a ∧ 0 ≤ pr a ∧ pr a ≤ 1000
theorem pp_fg {g : jHp} (K : PP c h pr) (f : fg (chS c) h g) : PP c g pr := fun i hi => ⟨by rw [f.eq (by unfold chS; omega)]; exact (K i hi).1, (K i hi).2⟩
/-- costs and leans of row r -/
def LCV (s : Nat → Nat → Int) (pr : Nat → Int) (H : Nat → Nat) (r : Nat) (V : Nat → Int) : Prop := ∀ i, i < 3 → V (69 + 3 * i) = ob pr (wy s H i) 0 ∧ V (70 + 3 * i) = le3 s H r i
theorem lcv_c {r : Nat} {V' : Nat → Int} (P : LCV s pr H r V) (e : ∀ q, 69 ≤ q → V' q = V q) : LCV s pr H r V' := fun i hi => by rw [e _ (by omega), e _ (by omega)]; exact P i hi
theorem co_bd (B : SBd s nd) (K : PP c h pr) (hH : ∀ i, i < 3 → H i < 14) {i : Nat} : (ob pr (wy s H i) 0).natAbs ≤ 6 * 10 ^ 93 := by
  have t : ∀ a, a < 3 → (pr a * wy s H i a).natAbs ≤ 2 * 10 ^ 93 := fun a ha => by
    have := K a ha
    exact Nat.le_trans (nA_mul (show (pr a).natAbs ≤ 1000 by omega) (wy_bd B hH)) (by decide)
  have e : ob pr (wy s H i) 0 = sm (fun a => pr a * wy s H i a) 3 := by
    rw [sm3]
    rfl
  rw [e]
  exact Nat.le_trans (s_bd (Nat.le_refl 3) t) (by decide)
def cmQ (c : Nat) (h : jHp) (V : Nat → Int) (x : Int) : jQ := fun r h' => r = some (.int (iI x.sign)) ∧ fg (chS c) h h' ∧ ∃ V', CV c V' h' ∧ ∀ q, 4 ≤ q ∨ q < 2 → V' q = V q
theorem c_Ccompare {i j p1 p2 : Nat} (C : CL c h) (CVh : CV c V h) (hi : i < 3) (hj : j < 3) (h1 : 4 ≤ p1 ∧ p1 < 78) (h2 : 4 ≤ p2 ∧ p2 < 78) (b1 : (V p1).natAbs ≤ 6 * 10 ^ 93) (b2 : (V p2).natAbs ≤ 6 * 10 ^ 93) (l1 : (V (70 + 3 * i)).natAbs ≤ 6 * 10 ^ 135) (l2 : (V (70 + 3 * j)).natAbs ≤ 6 * 10 ^ 135) : jRet 44 0 0 [.ref c, .ref (pl c p1), .ref (pl c p2), .int (iI i), .int (iI j)] h (cmQ c h V (V p1 * V (70 + 3 * j) - V p2 * V (70 + 3 * i))) := by
  have cl : ∀ x : Nat, x < 100 → (iI (x : Int)).toNatClampNeg = x := fun x hx => by rw [iI_cl (by omega) (by omega), Int.toNat_natCast]
  have y1 : sz B6 (V p1).natAbs ≤ 16 := sz6b (Nat.le_trans b1 (by decide)) (by decide)
  have y2 : sz B6 (V p2).natAbs ≤ 16 := sz6b (Nat.le_trans b2 (by decide)) (by decide)
  have y3 : sz B6 (V (70 + 3 * i)).natAbs ≤ 23 := sz6b (Nat.le_trans l1 (by decide)) (by decide)
  have y4 : sz B6 (V (70 + 3 * j)).natAbs ≤ 23 := sz6b (Nat.le_trans l2 (by decide)) (by decide)
  have r2 : rm 2 = 40 := rm_b (by decide) (by decide)
  have r3 : rm 3 = 40 := rm_b (by decide) (by decide)
  refine jRet_of (by decide) (by decide) (Nat.le_of_ble_eq_true rfl) (j_Ch_compareBy_0 ?_)
  rw [C.f11, C.f7, cl j (by omega), (C.t j hj).2.1]
  refine ⟨C.o, C.o, (C.i7 j hj).2.1, (CVh 2 (by decide)).1.1, jRet_mono (v_prod CVh (q := 2) (p1 := p1) (p2 := 70 + 3 * j) (by omega) (by omega) (by omega) (by omega) (by omega) (by rw [r2]; omega)) ?_⟩
  intro q1 g1 w1
  obtain ⟨x1, f1, C1⟩ := w1
  have D1 := cl_sk C f1.1
  rw [D1.f12, D1.f7, cl i (by omega), (D1.t i hi).2.1]
  refine ⟨x1, D1.o, D1.o, (D1.i7 i hi).2.1, (C1 3 (by decide)).1.1, jRet_mono (v_prod C1 (q := 3) (p1 := p2) (p2 := 70 + 3 * i) (by omega) (by omega) (by omega) (by omega) (by omega) (by rw [setV_n (by omega), setV_n (by omega), r3]; omega)) ?_⟩
  intro q2 g2 w2
  obtain ⟨x2, f2, C2⟩ := w2
  have D2 := cl_sk D1 f2.1
  rw [D2.f11, D2.f12]
  have t2 : setV (setV V 2 (V p1 * V (70 + 3 * j))) 3 (setV V 2 (V p1 * V (70 + 3 * j)) p2 * setV V 2 (V p1 * V (70 + 3 * j)) (70 + 3 * i)) 2 = V p1 * V (70 + 3 * j) := by rw [setV_n (by omega), setV_s]
  have t3 : setV (setV V 2 (V p1 * V (70 + 3 * j))) 3 (setV V 2 (V p1 * V (70 + 3 * j)) p2 * setV V 2 (V p1 * V (70 + 3 * j)) (70 + 3 * i)) 3 = V p2 * V (70 + 3 * i) := by rw [setV_s, setV_n (by omega), setV_n (by omega)]
  refine ⟨x2, D2.o, D2.o, (C2 2 (by decide)).1.1, jRet_mono (v_add C2 (q := 2) (p := 3) (y := 1) (by omega) (by omega) (by omega) (Or.inr rfl) (by rw [t2, t3, r2]; exact sz6b (Nat.le_trans (Nat.add_le_add (nA_mul b1 l2) (nA_mul b2 l1)) (by decide)) (by decide))) ?_⟩
  intro q3 g3 w3
  obtain ⟨x3, f3, C3⟩ := w3
  have D3 := cl_sk D2 f3.1
  have B2 := C3 2 (by decide)
  rw [setV_s, if_neg (show ¬ (1 : Int) = 0 by decide), t2, t3] at B2
  rw [D3.f11]
  refine ⟨x3, D3.o, B2.1.1, jRet_mono (c_Bsign B2) ?_⟩
  intro q4 g4 w4
  obtain ⟨x4, x5⟩ := w4
  rw [x5]
  exact ⟨_, x4, rfl, (f1.tr f2).tr f3, _, C3, fun q hq => by rw [setV_n (by omega), setV_n (by omega), setV_n (by omega)]⟩
theorem sg_0 {x : Int} : x.sign = 0 ↔ x = 0 := Int.sign_eq_zero_iff_zero
def ibQ (c : Nat) (h : jHp) (V : Nat → Int) (P : Prop) : jQ := fun r h' => (P ∧ r = some (.int (iI 1)) ∨ ¬ P ∧ r = some (.int (iI 0))) ∧ fg (chS c) h h' ∧ ∃ V', CV c V' h' ∧ ∀ q, 4 ≤ q ∨ q < 2 → V' q = V q
theorem c_Cbefore {i j r : Nat} (C : CL c h) (CVh : CV c V h) (Pv : PLV s nd H V) (Lc : LCV s pr H r V) (B : SBd s nd) (K : HH c h H) (Kp : PP c h pr) (hr : r < 14) (hi : i < 3) (hj : j < 3) : jRet 43 0 0 [.ref c, .int (iI i), .int (iI j)] h (ibQ c h V (bfr s pr H r i j)) := by
  have hH := K.l
  have cl : ∀ x : Nat, x < 100 → (iI (x : Int)).toNatClampNeg = x := fun x hx => by rw [iI_cl (by omega) (by omega), Int.toNat_natCast]
  have is : ∀ r x : Nat, iI (r : Int) * iI 3 + iI (x : Int) = iI ((3 * r + x : Nat) : Int) := fun r x => by
    rw [iI_mul, iI_add]
    congr 1
    omega
  obtain ⟨F, hF⟩ : ∃ F : Nat → Int, F = fun k => ob pr (wy s H i) k * le3 s H r j - ob pr (wy s H j) k * le3 s H r i := ⟨_, rfl⟩
  have eB : bfr s pr H r i j ↔ ln F := by
    rw [hF]
    exact Iff.rfl
  have l67 : ∀ (k : Nat) (g : jHp) (W : Nat → Int), k < 4 → (k = 3 ∨ F k ≠ 0) → (∀ k', k' < k → F k' = 0) → fg (chS c) h g → CV c W g → (∀ q, 4 ≤ q ∨ q < 2 → W q = V q) → J 43 67 0 0 [uu, uu, uu, .int (iI (F k).sign), uu] [] g (ibQ c h V (bfr s pr H r i j)) := by
    intro k g W hk hz h0 f Cg E
    have e : ln F ↔ F k < 0 := by
      unfold ln L4
      match k, hk, hz, h0 with
      | 0, _, hz, _ => omega
      | 1, _, hz, h0 =>
        have := h0 0 (by decide)
        omega
      | 2, _, hz, h0 =>
        have := h0 0 (by decide)
        have := h0 1 (by decide)
        omega
      | 3, _, hz, h0 =>
        have := h0 0 (by decide)
        have := h0 1 (by decide)
        have := h0 2 (by decide)
        omega
    have sb := sg_bd (F k)
    have sl := sg_lt (x := F k)
    refine j_Ch_isBefore_67 ?_
    rw [iI_0, iI_le ⟨by omega, by omega⟩ ⟨by omega, by omega⟩]
    refine ⟨fun z => j_Ch_isBefore_75 (j_Ch_isBefore_76 ⟨Or.inl rfl, Or.inr ⟨fun u => ?_, rfl⟩, f, W, Cg, E⟩), fun z => j_Ch_isBefore_76 ⟨Or.inr rfl, Or.inl ⟨eB.mpr (e.mpr (sl.mp (by omega))), rfl⟩, f, W, Cg, E⟩⟩
    have := sl.mpr (e.mp (eB.mp u))
    omega
  have l22 : ∀ (d k : Nat) (g : jHp) (W : Nat → Int), k + d = 3 → (∀ k', k' < k → F k' = 0) → fg (chS c) h g → CV c W g → (∀ q, 4 ≤ q ∨ q < 2 → W q = V q) → J 43 22 0 0 [.ref c, .int (iI i), .int (iI j), .int (iI (F k).sign), .int (iI k)] [] g (ibQ c h V (bfr s pr H r i j)) := by
    intro d
    induction d with
    | zero =>
      intro k g W hd h0 f Cg E
      obtain rfl : k = 3 := by omega
      exact j_Ch_isBefore_22 ⟨fun _ => l67 3 g W (by omega) (Or.inl rfl) h0 f Cg E, fun z => absurd (by decide) z⟩
    | succ d ih =>
      intro k g W hd h0 f Cg E
      have hk3 : k < 3 := by omega
      have D := cl_sk C f.1
      have sb := sg_bd (F k)
      have v1 : W (60 + (3 * k + i)) = wy s H i k := by rw [E _ (by omega)]; exact Pv.1 i k hi hk3
      have v2 : W (60 + (3 * k + j)) = wy s H j k := by rw [E _ (by omega)]; exact Pv.1 j k hj hk3
      have v3 : W (70 + 3 * i) = le3 s H r i := by rw [E _ (by omega)]; exact (Lc i hi).2
      have v4 : W (70 + 3 * j) = le3 s H r j := by rw [E _ (by omega)]; exact (Lc j hj).2
      have b1 : ∀ x, (wy s H x k).natAbs ≤ 6 * 10 ^ 93 := fun x => Nat.le_trans (wy_bd B hH) (by decide)
      refine j_Ch_isBefore_22 ?_
      rw [iI_le ⟨by omega, by omega⟩ ⟨by omega, by omega⟩, iI_0, iI_eq ⟨by omega, by omega⟩ ⟨by omega, by omega⟩, sg_0, D.f5, is k i, is k j, cl _ (by omega), cl _ (by omega), D.w _ (by omega), D.w _ (by omega)]
      refine ⟨fun z => by omega, fun _ => ⟨fun z => l67 k g W (by omega) (Or.inr z) h0 f Cg E, fun z => ⟨D.o, D.i6 _ (by omega), D.o, D.i6 _ (by omega), D.o, jRet_mono (c_Ccompare D Cg hi hj (p1 := 60 + (3 * k + i)) (p2 := 60 + (3 * k + j)) ⟨by omega, by omega⟩ ⟨by omega, by omega⟩ (by rw [v1]; exact b1 i) (by rw [v2]; exact b1 j) (by rw [v3]; exact le_bd B hH hr) (by rw [v4]; exact le_bd B hH hr)) ?_⟩⟩⟩
      intro q1 g1 w1
      obtain ⟨x1, f1, W1, C1, E1⟩ := w1
      have eF : W (60 + (3 * k + i)) * W (70 + 3 * j) - W (60 + (3 * k + j)) * W (70 + 3 * i) = F (k + 1) := by
        rw [v1, v2, v3, v4, hF]
        rfl
      rw [eF] at x1
      refine ⟨_, x1, ?_⟩
      rw [iI_add]
      refine ih (k + 1) g1 W1 (by omega) (fun k' hk' => ?_) (f.tr f1) C1 (fun q hq => by rw [E1 q hq]; exact E q hq)
      by_cases ce : k' = k
      · rw [ce]
        exact z
      · exact h0 k' (by omega)
  have v1 := (Lc i hi).1
  have v2 := (Lc j hj).1
  have v3 := (Lc i hi).2
  have v4 := (Lc j hj).2
  refine jRet_of (by decide) (by decide) (Nat.le_of_ble_eq_true rfl) (j_Ch_isBefore_0 ?_)
  rw [C.f6, cl i (by omega), cl j (by omega), (C.t i hi).1, (C.t j hj).1]
  refine ⟨C.o, (C.i7 i hi).1, C.o, (C.i7 j hj).1, C.o, jRet_mono (c_Ccompare C CVh hi hj (p1 := 69 + 3 * i) (p2 := 69 + 3 * j) ⟨by omega, by omega⟩ ⟨by omega, by omega⟩ (by rw [v1]; exact co_bd B Kp hH) (by rw [v2]; exact co_bd B Kp hH) (by rw [v3]; exact le_bd B hH hr) (by rw [v4]; exact le_bd B hH hr)) ?_⟩
  intro q1 g1 w1
  obtain ⟨x1, f1, W1, C1, E1⟩ := w1
  have eF : V (69 + 3 * i) * V (70 + 3 * j) - V (69 + 3 * j) * V (70 + 3 * i) = F 0 := by
    rw [v1, v2, v3, v4, hF]
  rw [eF] at x1
  exact ⟨_, x1, l22 3 0 g1 W1 (by omega) (fun k' hk' => by omega) f1 C1 E1⟩
def lvQ (c : Nat) (h : jHp) (s : Nat → Nat → Int) (nd pr : Nat → Int) (H : Nat → Nat) (r : Nat) : jQ := fun q h' => ((q = some (.int (iI (-1))) ∧ ∀ i, i < 3 → ¬ 0 < le3 s H r i) ∨ ∃ i : Nat, i < 3 ∧ q = some (.int (iI (i : Int))) ∧ 0 < le3 s H r i ∧ ∀ j, j < 3 → 0 < le3 s H r j → ¬ bfr s pr H r j i) ∧ fg (chS c) h h' ∧ ∃ V', CV c V' h' ∧ LPV s nd V' ∧ PLV s nd H V'
theorem c_Cleave {r : Nat} (C : CL c h) (CVh : CV c V h) (L : LPV s nd V) (P : PLV s nd H V) (B : SBd s nd) (K : HH c h H) (Kp : PP c h pr) (hr : r < 14) : jRet 42 0 0 [.ref c, .int (iI r)] h (lvQ c h s nd pr H r) := by
  have hH := K.l
  have is : ∀ r x : Nat, iI (r : Int) * iI 3 + iI (x : Int) = iI ((3 * r + x : Nat) : Int) := fun r x => by
    rw [iI_mul, iI_add]
    congr 1
    omega
  have cl : ∀ x : Nat, x < 100 → (iI (x : Int)).toNatClampNeg = x := fun x hx => by rw [iI_cl (by omega) (by omega), Int.toNat_natCast]
  have tc : ∀ i a, a < 3 → (wy s H i a * pr a).natAbs ≤ 2 * 10 ^ 93 := fun i a ha => by
    have := Kp a ha
    exact Nat.le_trans (nA_mul (wy_bd B hH) (show (pr a).natAbs ≤ 1000 by omega)) (by decide)
  -- the choice
  have l123 : ∀ (d i : Nat) (bst : Int) (g : jHp) (W : Nat → Int), i + d = 3 → fg (chS c) h g → CV c W g → LPV s nd W → PLV s nd H W → LCV s pr H r W → ((bst = -1 ∧ ∀ j, j < i → ¬ 0 < le3 s H r j) ∨ ∃ b : Nat, b < i ∧ bst = (b : Int) ∧ 0 < le3 s H r b ∧ ∀ j, j < i → 0 < le3 s H r j → ¬ bfr s pr H r j b) → J 42 123 0 0 [.ref c, uu, .int (iI bst), .int (iI i), uu] [] g (lvQ c h s nd pr H r) := by
    intro d
    induction d with
    | zero =>
      intro i bst g W hd f Cg Lg Pg Xg hb
      obtain rfl : i = 3 := by omega
      refine j_Ch_placeToLeave_123 ⟨fun _ => j_Ch_placeToLeave_162 ⟨?_, f, W, Cg, Lg, Pg⟩, fun z => absurd (by decide) z⟩
      rcases hb with ⟨e, hb⟩ | ⟨b, b1, b2, b3, b4⟩
      · exact Or.inl ⟨by rw [e], hb⟩
      · exact Or.inr ⟨b, b1, by rw [b2], b3, b4⟩
    | succ d ih =>
      intro i bst g W hd f Cg Lg Pg Xg hb
      have hi3 : i < 3 := by omega
      have D := cl_sk C f.1
      have rb : rI bst := by
        rcases hb with ⟨e, hb⟩ | ⟨b, b1, b2, b3, b4⟩
        · exact ⟨by omega, by omega⟩
        · exact ⟨by omega, by omega⟩
      have Bl := Cg (70 + 3 * i) (by omega)
      rw [(Xg i hi3).2] at Bl
      have l156 : ∀ (bst' : Int) (g' : jHp) (W' : Nat → Int), fg (chS c) h g' → CV c W' g' → (∀ q, 4 ≤ q ∨ q < 2 → W' q = W q) → ((bst' = -1 ∧ ∀ j, j < i + 1 → ¬ 0 < le3 s H r j) ∨ ∃ b : Nat, b < i + 1 ∧ bst' = (b : Int) ∧ 0 < le3 s H r b ∧ ∀ j, j < i + 1 → 0 < le3 s H r j → ¬ bfr s pr H r j b) → J 42 156 0 0 [.ref c, uu, .int (iI bst'), .int (iI i), uu] [] g' (lvQ c h s nd pr H r) := by
        intro bst' g' W' f' C' E' hb'
        refine j_Ch_placeToLeave_156 ?_
        rw [iI_add]
        exact ih (i + 1) bst' g' W' (by omega) f' C' (lpv_c Lg (fun q h1 h2 => E' q (by omega))) (plv_c Pg (fun q hq => E' q (by omega))) (lcv_c Xg (fun q hq => E' q (by omega))) hb'
      refine j_Ch_placeToLeave_123 ?_
      rw [iI_le ⟨by omega, by omega⟩ ⟨by omega, by omega⟩, D.f7, cl i (by omega), (D.t i hi3).2.1]
      refine ⟨fun z => by omega, fun _ => ⟨D.o, (D.i7 i hi3).2.1, Bl.1.1, jRet_mono (c_Bsign Bl) ?_⟩⟩
      intro q1 g1 w1
      obtain ⟨x1, x2⟩ := w1
      rw [x2]
      refine ⟨_, x1, ?_⟩
      have sb := sg_bd (le3 s H r i)
      have sl := sg_le (x := le3 s H r i)
      rw [iI_0, iI_le ⟨by omega, by omega⟩ ⟨by omega, by omega⟩, sl, iI_eq rb ⟨by omega, by omega⟩]
      refine ⟨fun z => l156 bst g W f Cg (fun _ _ => rfl) ?_, fun z => ⟨fun z2 => j_Ch_placeToLeave_154 (l156 (i : Int) g W f Cg (fun _ _ => rfl) ?_), fun z2 => ?_⟩⟩
      · rcases hb with ⟨e, hb⟩ | ⟨b, b1, b2, b3, b4⟩
        · refine Or.inl ⟨e, fun j hj => ?_⟩
          by_cases ce : j = i
          · rw [ce]
            omega
          · exact hb j (by omega)
        · refine Or.inr ⟨b, by omega, b2, b3, fun j hj hp => ?_⟩
          by_cases ce : j = i
          · rw [ce] at hp
            omega
          · exact b4 j (by omega) hp
      · rcases hb with ⟨e, hb⟩ | ⟨b, b1, b2, b3, b4⟩
        · refine Or.inr ⟨i, by omega, rfl, by omega, fun j hj hp => ?_⟩
          by_cases ce : j = i
          · rw [ce]
            intro q
            refine ln_nz q ?_
            unfold zz4
            dsimp only
            omega
          · exact absurd hp (hb j (by omega))
        · omega
      · rcases hb with ⟨e, hb⟩ | ⟨b, b1, b2, b3, b4⟩
        · exact absurd e z2
        · subst b2
          refine ⟨D.o, jRet_mono (c_Cbefore (i := i) (j := b) D Cg Pg Xg B (hh_fg K f) (pp_fg Kp f) hr hi3 (by omega)) ?_⟩
          intro q2 g2 w2
          obtain ⟨x3, f3, W3, C3, E3⟩ := w2
          rcases x3 with ⟨y1, x3⟩ | ⟨y1, x3⟩
          · refine ⟨_, x3, fun u => absurd u (by decide), fun _ => j_Ch_placeToLeave_154 (l156 (i : Int) g2 W3 (f.tr f3) C3 E3 (Or.inr ⟨i, by omega, rfl, by omega, fun j hj hp => ?_⟩))⟩
            by_cases ce : j = i
            · rw [ce]
              intro q
              refine ln_nz q ?_
              unfold zz4
              dsimp only
              omega
            · intro q
              have li : 0 < le3 s H r i := by omega
              exact b4 j (by omega) hp (plt_tr (pr := pr) (o := wy s H j) (o' := wy s H i) (o'' := wy s H b) hp li b3 q (Or.inl y1))
          · refine ⟨_, x3, fun _ => l156 (b : Int) g2 W3 (f.tr f3) C3 E3 (Or.inr ⟨b, by omega, rfl, b3, fun j hj hp => ?_⟩), fun u => absurd rfl u⟩
            by_cases ce : j = i
            · rw [ce]
              exact y1
            · exact b4 j (by omega) hp
  -- leans and costs
  have l2 : ∀ (d i : Nat) (g : jHp) (W : Nat → Int), i + d = 3 → fg (chS c) h g → CV c W g → LPV s nd W → PLV s nd H W → (∀ i', i' < i → W (69 + 3 * i') = ob pr (wy s H i') 0 ∧ W (70 + 3 * i') = le3 s H r i') → J 42 2 0 0 [.ref c, .int (iI r), .int (iI i), uu, uu] [] g (lvQ c h s nd pr H r) := by
    intro d
    induction d with
    | zero =>
      intro i g W hd f Cg Lg Pg Xg
      obtain rfl : i = 3 := by omega
      exact j_Ch_placeToLeave_2 ⟨fun _ => j_Ch_placeToLeave_119 (l123 3 0 (-1) g W (by omega) f Cg Lg Pg Xg (Or.inl ⟨rfl, fun j hj => by omega⟩)), fun z => absurd (by decide) z⟩
    | succ d ih =>
      intro i g W hd f Cg Lg Pg Xg
      have hi3 : i < 3 := by omega
      have l29 : ∀ (e a : Nat) (g1 : jHp) (W1 : Nat → Int), a + e = 3 → fg (chS c) h g1 → CV c W1 g1 → (∀ q, q ≠ 3 → q ≠ 69 + 3 * i → q ≠ 70 + 3 * i → W1 q = W q) → W1 (70 + 3 * i) = sm (fun a => s r a * wy s H i a) a → W1 (69 + 3 * i) = sm (fun a => wy s H i a * pr a) a → J 42 29 0 0 [.ref c, .int (iI r), .int (iI i), .int (iI a), uu] [] g1 (lvQ c h s nd pr H r) := by
        intro e
        induction e with
        | zero =>
          intro a g1 W1 ha f1 C1 E1 S1 S2
          obtain rfl : a = 3 := by omega
          refine j_Ch_placeToLeave_29 ⟨fun _ => j_Ch_placeToLeave_113 ?_, fun z => absurd (by decide) z⟩
          rw [iI_add]
          refine ih (i + 1) g1 W1 (by omega) f1 C1 (lpv_c Lg (fun q h1 h2 => E1 q (by omega) (by omega) (by omega))) (plv_c Pg (fun q hq => ?_)) (fun i' hi' => ?_)
          · rcases hq with hq | hq | ⟨a', ha', hq⟩
            · exact E1 q (by omega) (by omega) (by omega)
            · exact E1 q (by omega) (by omega) (by omega)
            · exact E1 q (by omega) (by omega) (by omega)
          · by_cases ce : i' = i
            · rw [ce, S1, S2, sm3, sm3]
              refine ⟨?_, rfl⟩
              show _ = pr 0 * wy s H i 0 + pr 1 * wy s H i 1 + pr 2 * wy s H i 2
              rw [Int.mul_comm (pr 0), Int.mul_comm (pr 1), Int.mul_comm (pr 2)]
            · rw [E1 _ (by omega) (by omega) (by omega), E1 _ (by omega) (by omega) (by omega)]
              exact Xg i' (by omega)
        | succ e ih2 =>
          intro a g1 W1 ha f1 C1 E1 S1 S2
          have ha3 : a < 3 := by omega
          have D1 := cl_sk C f1.1
          have v1 : W1 (4 + (3 * r + a)) = s r a := by rw [E1 _ (by omega) (by omega) (by omega)]; exact Lg.1 r a hr ha3
          have v2 : W1 (60 + (3 * a + i)) = wy s H i a := by rw [E1 _ (by omega) (by omega) (by omega)]; exact Pg.1 i a hi3 ha3
          have y1 := szs B hr ha3
          have y2 := szw (i := i) (a := a) B hH
          have b1 := s_bd (f := fun a => s r a * wy s H i a) (k := a) (by omega) (fun a ha => le_t B hH hr ha)
          have b2 := le_t (i := i) B hH hr ha3
          have b3 := s_bd (f := fun a => wy s H i a * pr a) (k := a) (by omega) (fun a ha => tc i a ha)
          have b4 := tc i a ha3
          obtain ⟨k1, k2, k3⟩ := pp_fg Kp f1 a ha3
          obtain ⟨pa, hpa⟩ : ∃ pa : Nat, pr a = (pa : Int) := ⟨(pr a).toNat, by omega⟩
          refine j_Ch_placeToLeave_29 ?_
          rw [iI_le ⟨by omega, by omega⟩ ⟨by omega, by omega⟩, D1.f5, D1.f7, D1.f0, D1.f12, is a i, is r a, cl i (by omega), cl (3 * a + i) (by omega), cl (3 * r + a) (by omega), D1.w _ (by omega), D1.s _ (by omega), (D1.t i hi3).2.1]
          refine ⟨fun z => by omega, fun _ => ⟨D1.o, D1.i6 _ (by omega), D1.o, (D1.i7 i hi3).2.1, D1.o, D1.i1 _ (by omega), D1.o, (C1 _ (by omega)).1.1, jRet_mono (v_plus C1 (q := 70 + 3 * i) (p1 := 4 + (3 * r + a)) (p2 := 60 + (3 * a + i)) (by omega) (by omega) (by omega) (by omega) (by omega) (by omega) (by rw [v1, v2]; omega) (by rw [v1, v2, S1, rm_e.2.1]; exact sz6b (Nat.le_trans (Nat.add_le_add b1 b2) (by decide)) (by decide))) ?_⟩⟩
          intro q2 g2 w2
          obtain ⟨x2, f2, C2⟩ := w2
          have D2 := cl_sk D1 f2.1
          obtain ⟨W2, hW2⟩ : ∃ W2, W2 = setV (setV W1 3 (W1 (4 + (3 * r + a)) * W1 (60 + (3 * a + i)))) (70 + 3 * i) (W1 (70 + 3 * i) + W1 (4 + (3 * r + a)) * W1 (60 + (3 * a + i))) := ⟨_, rfl⟩
          rw [← hW2] at C2
          have u2 : W2 (60 + (3 * a + i)) = wy s H i a := by rw [hW2, setV_n (by omega), setV_n (by omega)]; exact v2
          have l2' : W2 (70 + 3 * i) = sm (fun a => s r a * wy s H i a) (a + 1) := by rw [hW2, setV_s, S1, v1, v2, sm]
          have c2' : W2 (69 + 3 * i) = sm (fun a => wy s H i a * pr a) a := by rw [hW2, setV_n (by omega), setV_n (by omega)]; exact S2
          have E2 : ∀ q, q ≠ 3 → q ≠ 69 + 3 * i → q ≠ 70 + 3 * i → W2 q = W q := fun q h1 h2 h3 => by rw [hW2, setV_n h3, setV_n h1]; exact E1 q h1 h2 h3
          rw [D2.f12]
          refine ⟨x2, D2.o, (C2 _ (by decide)).1.1, jRet_mono (v_copy C2 (q := 3) (p := 60 + (3 * a + i)) (by omega) (by omega) (by omega) (by rw [u2, rm_b (by decide) (by decide)]; omega)) ?_⟩
          intro q3 g3 w3
          obtain ⟨x3, f3, C3⟩ := w3
          have D3 := cl_sk D2 f3.1
          rw [D3.f12, D3.f3, cl a (by omega), gI_mI g3 (c + 4) a, f3.eq (by unfold chS; omega), f2.eq (by unfold chS; omega), k1, hpa]
          refine ⟨x3, D3.o, D3.o, ixL_of D3.z4 (by omega) (by omega) (by decide), (C3 _ (by decide)).1.1, jRet_mono (v_times C3 (q := 3) (f := pa) (by omega) (by omega) (by rw [setV_s, u2, rm_b (by decide) (by decide)]; exact sz6b (Nat.le_trans (Nat.mul_le_mul (wy_bd B hH) (show pa ≤ 1000 by omega)) (by decide)) (by decide))) ?_⟩
          intro q4 g4 w4
          obtain ⟨x4, f4', C4⟩ := w4
          have D4 := cl_sk D3 f4'.1
          have t3 : setV (setV W2 3 (W2 (60 + (3 * a + i)))) 3 (setV W2 3 (W2 (60 + (3 * a + i))) 3 * (pa : Int)) 3 = wy s H i a * pr a := by rw [setV_s, setV_s, u2, hpa]
          have t4 : setV (setV W2 3 (W2 (60 + (3 * a + i)))) 3 (setV W2 3 (W2 (60 + (3 * a + i))) 3 * (pa : Int)) (69 + 3 * i) = sm (fun a => wy s H i a * pr a) a := by rw [setV_n (by omega), setV_n (by omega)]; exact c2'
          rw [D4.f6, D4.f12, (D4.t i hi3).1]
          refine ⟨x4, D4.o, (D4.i7 i hi3).1, D4.o, (C4 _ (by omega)).1.1, jRet_mono (v_add C4 (q := 69 + 3 * i) (p := 3) (y := 0) (by omega) (by omega) (by omega) (Or.inl rfl) (by rw [t3, t4, rm_e.1]; exact sz6b (Nat.le_trans (Nat.add_le_add b3 b4) (by decide)) (by decide))) ?_⟩
          intro q5 g5 w5
          obtain ⟨x5, f5, C5⟩ := w5
          refine ⟨x5, ?_⟩
          rw [iI_add]
          refine ih2 (a + 1) g5 _ (by omega) ((((f1.tr f2).tr f3).tr f4').tr f5) C5 (fun q h1 h2 h3 => by rw [setV_n h2, setV_n h1, setV_n h1]; exact E2 q h1 h2 h3) ?_ ?_
          · rw [setV_n (by omega), setV_n (by omega), setV_n (by omega)]
            exact l2'
          · rw [setV_s, if_pos rfl, t3, t4, sm]
      have D := cl_sk C f.1
      refine j_Ch_placeToLeave_2 ?_
      rw [iI_le ⟨by omega, by omega⟩ ⟨by omega, by omega⟩, D.f7, cl i (by omega), (D.t i hi3).2.1]
      refine ⟨fun z => by omega, fun _ => ⟨D.o, (D.i7 i hi3).2.1, (Cg _ (by omega)).1.1, jRet_mono (v_set (x := ((0 : Nat) : Int)) Cg (q := 70 + 3 * i) (by omega) (by omega) z0s) ?_⟩⟩
      intro q1 g1 w1
      obtain ⟨x1, f1, C1⟩ := w1
      have D1 := cl_sk D f1.1
      rw [D1.f6, (D1.t i hi3).1]
      refine ⟨x1, D1.o, (D1.i7 i hi3).1, (C1 _ (by omega)).1.1, jRet_mono (v_set (x := ((0 : Nat) : Int)) C1 (q := 69 + 3 * i) (by omega) (by omega) z0s) ?_⟩
      intro q2 g2 w2
      obtain ⟨x2, f2, C2⟩ := w2
      refine ⟨x2, l29 3 0 g2 _ (by omega) ((f.tr f1).tr f2) C2 (fun q h1 h2 h3 => by rw [setV_n h2, setV_n h3]) ?_ ?_⟩
      · rw [setV_n (by omega), setV_s, sm]
        rfl
      · rw [setV_s, sm]
        rfl
  refine jRet_of (by decide) (by decide) (Nat.le_of_ble_eq_true rfl) (j_Ch_placeToLeave_0 ?_)
  exact l2 3 0 h V (by omega) fg.rf CVh L P (fun i' h1 => by omega)
theorem c_Cprices (C : CL c h) (CVh : CV c V h) (P : PLV s nd H V) (B : SBd s nd) (hH : ∀ i, i < 3 → H i < 14) (Kp : PP c h pr) : jRet 45 0 0 [.ref c] h (fun q h' => q = none ∧ fg (chS c) h h' ∧ ∃ V', CV c V' h' ∧ V' 1 = ob pr (ow s nd H) 0 ∧ ∀ q, q ≠ 1 → q ≠ 3 → V' q = V q) := by
  have cl : ∀ x : Nat, x < 100 → (iI (x : Int)).toNatClampNeg = x := fun x hx => by rw [iI_cl (by omega) (by omega), Int.toNat_natCast]
  have tc : ∀ a, a < 3 → (ow s nd H a * pr a).natAbs ≤ 6 * 10 ^ 143 := fun a ha => by
    have := Kp a ha
    exact Nat.le_trans (nA_mul (ow_bd B hH) (show (pr a).natAbs ≤ 1000 by omega)) (by decide)
  have l10 : ∀ (d a : Nat) (g : jHp) (W : Nat → Int), a + d = 3 → fg (chS c) h g → CV c W g → (∀ q, q ≠ 1 → q ≠ 3 → W q = V q) → W 1 = sm (fun a => ow s nd H a * pr a) a → J 45 10 0 0 [.ref c, .int (iI a)] [] g (fun q h' => q = none ∧ fg (chS c) h h' ∧ ∃ V', CV c V' h' ∧ V' 1 = ob pr (ow s nd H) 0 ∧ ∀ q, q ≠ 1 → q ≠ 3 → V' q = V q) := by
    intro d
    induction d with
    | zero =>
      intro a g W hd f Cg E S1
      obtain rfl : a = 3 := by omega
      refine j_Ch_addPrices_10 ⟨fun _ => j_Ch_addPrices_59 ⟨rfl, f, W, Cg, ?_, E⟩, fun z => absurd (by decide) z⟩
      rw [S1, sm3]
      show _ = pr 0 * ow s nd H 0 + pr 1 * ow s nd H 1 + pr 2 * ow s nd H 2
      rw [Int.mul_comm (pr 0), Int.mul_comm (pr 1), Int.mul_comm (pr 2)]
    | succ d ih =>
      intro a g W hd f Cg E S1
      have ha3 : a < 3 := by omega
      have D := cl_sk C f.1
      have v1 : W (71 + 3 * a) = ow s nd H a := by rw [E _ (by omega) (by omega)]; exact P.2.2 a ha3
      have y1 := szo (a := a) B hH
      have b3 := s_bd (f := fun a => ow s nd H a * pr a) (k := a) (by omega) (fun a ha => tc a ha)
      have b4 := tc a ha3
      obtain ⟨k1, k2, k3⟩ := pp_fg Kp f a ha3
      obtain ⟨pa, hpa⟩ : ∃ pa : Nat, pr a = (pa : Int) := ⟨(pr a).toNat, by omega⟩
      refine j_Ch_addPrices_10 ?_
      rw [iI_le ⟨by omega, by omega⟩ ⟨by omega, by omega⟩, D.f12, D.f8, cl a (by omega), (D.t a ha3).2.2]
      refine ⟨fun z => by omega, fun _ => ⟨D.o, D.o, (D.i7 a ha3).2.2, (Cg _ (by decide)).1.1, jRet_mono (v_copy Cg (q := 3) (p := 71 + 3 * a) (by omega) (by omega) (by omega) (by rw [v1, rm_b (by decide) (by decide)]; omega)) ?_⟩⟩
      intro q3 g3 w3
      obtain ⟨x3, f3, C3⟩ := w3
      have D3 := cl_sk D f3.1
      rw [D3.f12, D3.f3, gI_mI g3 (c + 4) a, f3.eq (by unfold chS; omega), k1, hpa]
      refine ⟨x3, D3.o, D3.o, ixL_of D3.z4 (by omega) (by omega) (by decide), (C3 _ (by decide)).1.1, jRet_mono (v_times C3 (q := 3) (f := pa) (by omega) (by omega) (by rw [setV_s, v1, rm_b (by decide) (by decide)]; exact sz6b (Nat.le_trans (Nat.mul_le_mul (ow_bd B hH) (show pa ≤ 1000 by omega)) (by decide)) (by decide))) ?_⟩
      intro q4 g4 w4
      obtain ⟨x4, f4', C4⟩ := w4
      have D4 := cl_sk D3 f4'.1
      have t3 : setV (setV W 3 (W (71 + 3 * a))) 3 (setV W 3 (W (71 + 3 * a)) 3 * (pa : Int)) 3 = ow s nd H a * pr a := by rw [setV_s, setV_s, v1, hpa]
      have t4 : setV (setV W 3 (W (71 + 3 * a))) 3 (setV W 3 (W (71 + 3 * a)) 3 * (pa : Int)) 1 = sm (fun a => ow s nd H a * pr a) a := by rw [setV_n (by omega), setV_n (by omega)]; exact S1
      rw [D4.f10, D4.f12]
      refine ⟨x4, D4.o, D4.o, (C4 _ (by omega)).1.1, jRet_mono (v_add C4 (q := 1) (p := 3) (y := 0) (by omega) (by omega) (by omega) (Or.inl rfl) (by rw [t3, t4, rm_a (by decide)]; exact sz6b (Nat.le_trans (Nat.add_le_add b3 b4) (by decide)) (by decide))) ?_⟩
      intro q5 g5 w5
      obtain ⟨x5, f5, C5⟩ := w5
      refine ⟨x5, ?_⟩
      rw [iI_add]
      refine ih (a + 1) g5 _ (by omega) (((f.tr f3).tr f4').tr f5) C5 (fun q h1 h2 => by rw [setV_n h1, setV_n h2, setV_n h2]; exact E q h1 h2) ?_
      rw [setV_s, if_pos rfl, t3, t4, sm]
  refine jRet_of (by decide) (by decide) (Nat.le_of_ble_eq_true rfl) (j_Ch_addPrices_0 ?_)
  rw [C.f10]
  refine ⟨C.o, (CVh _ (by decide)).1.1, jRet_mono (v_set (x := ((0 : Nat) : Int)) CVh (q := 1) (by omega) (by omega) z0s) ?_⟩
  intro q1 g1 w1
  obtain ⟨x1, f1, C1⟩ := w1
  refine ⟨x1, l10 3 0 g1 _ (by omega) f1 C1 (fun q h1 h2 => setV_n h1) ?_⟩
  rw [setV_s, sm]
  rfl
theorem c_CownOf {p : Int} {a : Nat} (C : CL c h) (hp : rI p) (ha : a < 3) (h1 : mI h (c + 3) a = p) (h2 : ∀ a', a' < a → mI h (c + 3) a' ≠ p) : jRet 46 0 0 [.ref c, .int (iI p)] h (fun q h' => q = some (.ref (pl c (71 + 3 * a))) ∧ h' = h) := by
  have loop : ∀ (d k : Nat), k + d = a → J 46 2 0 0 [.ref c, .int (iI p), .int (iI k)] [] h (fun q h' => q = some (.ref (pl c (71 + 3 * a))) ∧ h' = h) := by
    intro d
    induction d with
    | zero =>
      intro k hk
      obtain rfl : k = a := by omega
      refine j_Ch_ownOf_2 ?_
      rw [iI_le ⟨by omega, by omega⟩ ⟨by omega, by omega⟩, C.f2, C.f8, iI_cl (by omega) (by omega), Int.toNat_natCast, gI_mI h (c + 3) k, h1, (C.t k ha).2.2]
      exact ⟨fun z => by omega, fun _ => ⟨C.o, ixL_of C.z3 (by omega) (by omega) (by decide), fun z => absurd rfl z, fun _ => ⟨C.o, (C.i7 k ha).2.2, rfl, rfl⟩⟩⟩
    | succ d ih =>
      intro k hk
      refine j_Ch_ownOf_2 ?_
      rw [iI_le ⟨by omega, by omega⟩ ⟨by omega, by omega⟩, C.f2, iI_cl (by omega) (by omega), Int.toNat_natCast, gI_mI h (c + 3) k, iI_eq (rI_mI _ _ _) hp]
      refine ⟨fun z => by omega, fun _ => ⟨C.o, ixL_of C.z3 (by omega) (by omega) (by decide), fun z => j_Ch_ownOf_24 ?_, fun z => absurd z (h2 k (by omega))⟩⟩
      rw [iI_add]
      exact ih (k + 1) (by omega)
  refine jRet_of (by decide) (by decide) (Nat.le_of_ble_eq_true rfl) (j_Ch_ownOf_0 ?_)
  exact loop a 0 (by omega)
end CHEAP
