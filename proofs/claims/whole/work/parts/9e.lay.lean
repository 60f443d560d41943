/-! Cheapest: the rows are laid -/
section LAY
variable {m n : Nat} {h : jHp}
theorem pV_45 (S : SW m h n) {i j : Nat} (hi : i < n) (hj : j < n) : (pV m h n i j).natAbs ≤ 10 ^ 45 := by
  have D := dm_of S
  have hn := S.2.1
  have I := iv_all D hn n (Nat.le_refl n)
  have sb := sC_bd S hj
  have pk := I.1 n (Nat.le_refl n)
  have nz : ∀ t, t ≤ n → pp (EM m h) t ≠ 0 := fun t ht => by
    have := I.1 t ht
    omega
  have z : sm (fun t => mn (EM m h) n (8 + i) t) n = 0 := sm_z (fun t ht => mn_low nz ht)
  have i7 := I.2.2.2.2.2.2 i j hi
  rw [z] at i7
  have dv := (dV_bd S).2
  have e : pV m h n i j = sC m h j * mn (EM m h) n (8 + i) (9 + j) := by
    unfold pV cV
    rw [if_pos rfl]
    unfold vM rx
    rw [if_neg (by omega), if_pos hi]
  have dv' : (pp (EM m h) n).natAbs ≤ 10 ^ 40 := dv
  rw [e]
  refine Nat.le_trans (nA_mul (show (sC m h j).natAbs ≤ 10 ^ 5 by omega) (show (mn (EM m h) n (8 + i) (9 + j)).natAbs ≤ 10 ^ 40 from ?_)) (by decide)
  generalize 10 ^ 40 = zz at *
  omega
theorem gS_45 (S : SW m h n) (O : SO m h n) {p k : Nat} {b : Int} (hp : p < n) (hk : k ≤ n) : (gS m h n p b k).natAbs ≤ 8 * 10 ^ 49 := by
  have hn := S.2.1
  have a1 : (gS m h n p b k).natAbs ≤ k * 10 ^ 49 := nA_sm (fun j hj => by
    by_cases c : b ≠ 0 ∧ mI h (m + 9) j = 1
    · rw [if_pos c]
      decide
    · rw [if_neg c]
      have := O j (show j < n by omega)
      exact Nat.le_trans (nA_mul (pV_45 S hp (show j < n by omega)) (show (mI h (m + 12) j).natAbs ≤ 10 ^ 4 by omega)) (by decide))
  exact Nat.le_trans a1 (Nat.mul_le_mul_right _ (by omega))
/-- the l-th lamp of the first k patches -/
def lmA (m : Nat) (h : jHp) : Nat → Nat → Int
  | 0, _ => -1
  | k + 1, l => if mI h (m + 9) k = 1 ∧ (l : Int) = lmC m h k then (k : Int) else lmA m h k l
theorem lmC_s {k : Nat} : lmC m h (k + 1) = lmC m h k + (if mI h (m + 9) k = 1 then 1 else 0) := rfl
theorem lmA_s {k l : Nat} : lmA m h (k + 1) l = if mI h (m + 9) k = 1 ∧ (l : Int) = lmC m h k then (k : Int) else lmA m h k l := rfl
theorem lmC_mo {k : Nat} : ∀ d, lmC m h k ≤ lmC m h (k + d)
  | 0 => Int.le_refl _
  | d + 1 => by
    have := lmC_mo (k := k) d
    rw [← Nat.add_assoc, lmC_s]
    split <;> omega
theorem lmA_in : ∀ k l : Nat, ((l : Int) < lmC m h k → 0 ≤ lmA m h k l ∧ lmA m h k l < k ∧ mI h (m + 9) (lmA m h k l).toNat = 1) ∧ (lmC m h k ≤ (l : Int) → lmA m h k l = -1)
  | 0, l => ⟨fun z => by rw [lmC] at z; omega, fun _ => rfl⟩
  | k + 1, l => by
    have ih := lmA_in k l
    rw [lmC_s, lmA_s]
    by_cases c : mI h (m + 9) k = 1
    · rw [if_pos c]
      by_cases e : (l : Int) = lmC m h k
      · rw [if_pos ⟨c, e⟩]
        exact ⟨fun _ => ⟨by omega, by omega, by rw [Int.toNat_natCast]; exact c⟩, fun z => by omega⟩
      · rw [if_neg (fun z => e z.2)]
        refine ⟨fun z => ?_, fun z => ih.2 (by omega)⟩
        have := ih.1 (by omega)
        exact ⟨this.1, by omega, this.2.2⟩
    · rw [if_neg c, if_neg (fun z => c z.1)]
      refine ⟨fun z => ?_, fun z => ih.2 (by omega)⟩
      have := ih.1 (by omega)
      exact ⟨this.1, by omega, this.2.2⟩
/-- none comes behind, if so many are there -/
theorem lmA_st {k : Nat} : ∀ d, lmC m h (k + d) = lmC m h k → ∀ l, lmA m h (k + d) l = lmA m h k l
  | 0, _, _ => rfl
  | d + 1, e, l => by
    have m1 := lmC_mo (m := m) (h := h) (k := k) d
    rw [← Nat.add_assoc, lmC_s] at e
    have c : ¬ mI h (m + 9) (k + d) = 1 := fun z => by
      rw [if_pos z] at e
      omega
    rw [if_neg c] at e
    rw [← Nat.add_assoc, lmA_s, if_neg (fun z => c z.1)]
    exact lmA_st d (by omega) l
/-- what is kept when later patches come -/
theorem lmA_up {k l : Nat} (hl : (l : Int) < lmC m h k) : ∀ d, lmA m h (k + d) l = lmA m h k l
  | 0 => rfl
  | d + 1 => by
    have m1 := lmC_mo (m := m) (h := h) (k := k) d
    rw [← Nat.add_assoc, lmA_s, if_neg (fun z => by omega)]
    exact lmA_up hl d
theorem lmA_at {k : Nat} (hk : k < n) (c : mI h (m + 9) k = 1) : lmA m h n (lmC m h k).toNat = (k : Int) ∧ lmC m h k < lmC m h n := by
  have b := lmC_bd (m := m) (h := h) k
  have e1 : lmC m h (k + 1) = lmC m h k + 1 := by rw [lmC_s, if_pos c]
  obtain ⟨d, hd⟩ : ∃ d, n = k + 1 + d := ⟨n - (k + 1), by omega⟩
  have m1 := lmC_mo (m := m) (h := h) (k := k + 1) d
  rw [hd]
  refine ⟨?_, by omega⟩
  rw [lmA_up (by omega), lmA_s, if_pos ⟨c, by omega⟩]
noncomputable def sV (m : Nat) (h : jHp) (n r a : Nat) : Int := if r < 8 then (if r < n ∧ lmA m h n a ≠ -1 then pV m h n r (lmA m h n a).toNat else 0) else if r = 8 + a then 1 else if r = 11 + a then -1 else 0
noncomputable def nV (m : Nat) (h : jHp) (n r : Nat) : Int := if r < 8 then (if r < n then mI h (m + 13) r * dV m h n - gS m h n r 1 n else 0) else if r < 11 then 0 else if lmA m h n (r - 11) = -1 then 0 else -mI h (m + 15) (lmA m h n (r - 11)).toNat
def prV (m : Nat) (h : jHp) (n a : Nat) : Int := if lmA m h n a = -1 then 0 else mI h (m + 14) (lmA m h n a).toNat
/-- prices and mosts are small -/
def SP (m : Nat) (h : jHp) (n : Nat) : Prop := ∀ i, i < n → (0 ≤ mI h (m + 14) i ∧ mI h (m + 14) i ≤ 1000) ∧ (0 ≤ mI h (m + 15) i ∧ mI h (m + 15) i ≤ 10000)
theorem lmA_c (k l : Nat) : lmA m h k l = -1 ∨ 0 ≤ lmA m h k l ∧ lmA m h k l < k ∧ mI h (m + 9) (lmA m h k l).toNat = 1 := by
  rcases Int.lt_or_le (l : Int) (lmC m h k) with c | c
  · exact Or.inr ((lmA_in k l).1 c)
  · exact Or.inl ((lmA_in k l).2 c)
theorem sb_of (S : SW m h n) (O : SO m h n) (N : SN m h n) (Q : SP m h n) : SBd (sV m h n) (nV m h n) := by
  refine ⟨fun r a hr ha => ?_, fun r hr => ?_⟩
  · unfold sV
    split
    · split
      · rename_i z
        have := lmA_c (m := m) (h := h) n a
        refine pV_45 S z.1 ?_
        omega
      · decide
    · split
      · decide
      · split <;> decide
  · unfold nV
    split
    · split
      · rename_i z
        have w := N r z
        have x1 := nA_mul (show (mI h (m + 13) r).natAbs ≤ 10 ^ 5 by omega) (dV_bd S).2
        have x2 := gS_45 (b := 1) S O z (Nat.le_refl n)
        have x3 : (mI h (m + 13) r * dV m h n - gS m h n r 1 n).natAbs ≤ 10 ^ 5 * 10 ^ 40 + 8 * 10 ^ 49 := by
          generalize 10 ^ 5 * 10 ^ 40 = q1 at *
          generalize 8 * 10 ^ 49 = q2 at *
          omega
        exact Nat.le_trans x3 (by decide)
      · decide
    · split
      · decide
      · split
        · decide
        · rename_i z
          have t := lmA_c (m := m) (h := h) n (r - 11)
          have u := Q (lmA m h n (r - 11)).toNat (by omega)
          exact Nat.le_trans (show (-mI h (m + 15) (lmA m h n (r - 11)).toNat).natAbs ≤ 10000 by omega) (by decide)
theorem pr_bd (Q : SP m h n) {a : Nat} : 0 ≤ prV m h n a ∧ prV m h n a ≤ 1000 := by
  unfold prV
  split
  · omega
  · have t := lmA_c (m := m) (h := h) n a
    have u := Q (lmA m h n a).toNat (by omega)
    omega
end LAY
section NAME
variable {c w t m n : Nat} {h : jHp}
def nlS (c p k : Nat) : Prop := p = c + 3 ∨ p = c + 4
theorem c_Cname (C : CL c h) (W : WL w h) (CWh : CW w m h) (hn : mI h m 20 = (n : Int)) (hn8 : n ≤ 8) (hl : lmC m h n ≤ 3) (Q : SP m h n) (a : awy (nlS c) w t m) (hcw : c ≠ w) : jRet 36 0 0 [.ref c, .ref w] h (fun q h' => q = none ∧ fg (nlS c) h h' ∧ ∀ a, a < 3 → mI h' (c + 3) a = lmA m h n a ∧ mI h' (c + 4) a = prV m h n a) := by
  have cl : ∀ x : Nat, x < 100 → (iI (x : Int)).toNatClampNeg = x := fun x hx => by rw [iI_cl (by omega) (by omega), Int.toNat_natCast]
  have l63 : ∀ (d b : Nat) (g : jHp), b + d = 3 → fg (nlS c) h g → (∀ x, x < 3 → (x < b ∨ lmA m h n x ≠ -1) → mI g (c + 3) x = lmA m h n x ∧ mI g (c + 4) x = prV m h n x) → (∀ x, b ≤ x → x < 3 → lmA m h n x = -1) → J 36 63 0 0 [.ref c, uu, uu, .int (iI b)] [] g (fun q h' => q = none ∧ fg (nlS c) h h' ∧ ∀ a, a < 3 → mI h' (c + 3) a = lmA m h n a ∧ mI h' (c + 4) a = prV m h n a) := by
    intro d
    induction d with
    | zero =>
      intro b g hd f V0 Z0
      obtain rfl : b = 3 := by omega
      exact j_Ch_nameLamps_63 ⟨fun _ => j_Ch_nameLamps_88 ⟨rfl, f, fun x hx => V0 x hx (Or.inl hx)⟩, fun z => absurd (by decide) z⟩
    | succ d ih =>
      intro b g hd f V0 Z0
      have hb : b < 3 := by omega
      have D := cl_sk C f.1
      have D1 : ∀ v, CL c (sI g (c + 3) b v) := fun v => cl_sk D sk.rf.sI
      refine j_Ch_nameLamps_63 ?_
      rw [iI_le ⟨by omega, by omega⟩ ⟨by omega, by omega⟩, D.f2, cl b (by omega), (D1 _).f3]
      refine ⟨fun z => by omega, fun _ => ⟨D.o, ix_of D.z3 (by omega) (by omega) (by decide), (D1 _).o, ix_of (D1 _).z4 (by omega) (by omega) (by decide), j_Ch_nameLamps_82 ?_⟩⟩
      rw [iI_add]
      refine ih (b + 1) _ (by omega) ((f.wr (Or.inl rfl)).wr (Or.inr rfl)) (fun x hx hx2 => ?_) (fun x h1 h2 => Z0 x (by omega) (by omega))
      rw [mI_sI ⟨by omega, by omega⟩, mI_sI ⟨by omega, by omega⟩, mI_sI ⟨by omega, by omega⟩, mI_sI ⟨by omega, by omega⟩]
      have zb := Z0 b (Nat.le_refl b) hb
      by_cases e : x = b
      · rw [if_neg (fun z => by omega), if_pos ⟨rfl, e⟩, if_pos ⟨rfl, e⟩, e, zb]
        refine ⟨rfl, ?_⟩
        unfold prV
        rw [if_pos zb]
      · rw [if_neg (fun z => by omega), if_neg (fun z => e z.2), if_neg (fun z => e z.2), if_neg (fun z => by omega)]
        exact V0 x hx (by omega)
  have fin : ∀ (i : Nat) (g : jHp), i ≤ n → lmC m h n = lmC m h i → fg (nlS c) h g → (∀ x : Nat, (x : Int) < lmC m h i → mI g (c + 3) x = lmA m h i x ∧ mI g (c + 4) x = mI h (m + 14) (lmA m h i x).toNat) → J 36 61 0 0 [.ref c, uu, .int (iI (lmC m h i)), uu] [] g (fun q h' => q = none ∧ fg (nlS c) h h' ∧ ∀ a, a < 3 → mI h' (c + 3) a = lmA m h n a ∧ mI h' (c + 4) a = prV m h n a) := by
    intro i g hi he f V0
    have b := lmC_bd (m := m) (h := h) i
    have ee : ∀ x, lmA m h n x = lmA m h i x := fun x => by
      obtain ⟨d, rfl⟩ : ∃ d, n = i + d := ⟨n - i, by omega⟩
      exact lmA_st d he x
    refine j_Ch_nameLamps_61 ?_
    rw [show lmC m h i = (((lmC m h i).toNat : Nat) : Int) by omega]
    refine l63 (3 - (lmC m h i).toNat) _ g (by omega) f (fun x hx hx2 => ?_) (fun x h1 h2 => ?_)
    · have lx : (x : Int) < lmC m h i := by
        rcases hx2 with z | z
        · omega
        · refine Int.not_le.mp (fun y => z ?_)
          rw [ee]
          exact (lmA_in i x).2 y
      have v := V0 x lx
      have q := (lmA_in (m := m) (h := h) i x).1 lx
      unfold prV
      rw [ee, if_neg (by omega)]
      exact v
    · rw [ee]
      exact (lmA_in (m := m) (h := h) i x).2 (by omega)
  have l4 : ∀ (d i : Nat) (g : jHp), i + d = n → fg (nlS c) h g → (∀ x : Nat, (x : Int) < lmC m h i → mI g (c + 3) x = lmA m h i x ∧ mI g (c + 4) x = mI h (m + 14) (lmA m h i x).toNat) → J 36 4 0 0 [.ref c, .ref w, .int (iI (lmC m h i)), .int (iI i)] [] g (fun q h' => q = none ∧ fg (nlS c) h h' ∧ ∀ a, a < 3 → mI h' (c + 3) a = lmA m h n a ∧ mI h' (c + 4) a = prV m h n a) := by
    intro d
    induction d with
    | zero =>
      intro i g hd f V0
      obtain rfl : i = n := by omega
      have Wg := wl_sk W f.1
      refine j_Ch_nameLamps_4 ?_
      rw [gI_mI g w 4, f.eq (a _ _ (by omega)), CWh.2.1, hn, iI_le ⟨by omega, by omega⟩ ⟨by omega, by omega⟩]
      exact ⟨Wg.1, fun _ => fin i g (Nat.le_refl i) rfl f V0, fun z => absurd (Int.le_refl _) z⟩
    | succ d ih =>
      intro i g hd f V0
      have hin : i < n := by omega
      have Wg := wl_sk W f.1
      have D := cl_sk C f.1
      have wi := Wg.2.2.2.2.2.2.2.2.2 i (by omega)
      have ir := ixR_of (a := (i : Int)) Wg.2.2.2.2.2.2.1 (Or.inr (Or.inr rfl)) (by omega) (by omega) (by decide)
      have b := lmC_bd (m := m) (h := h) i
      have ci := CWh.2.2.2 i (by omega)
      obtain ⟨dd, hdd⟩ : ∃ dd, n = i + dd := ⟨n - i, by omega⟩
      have m1 := lmC_mo (m := m) (h := h) (k := i) dd
      rw [← hdd] at m1
      obtain ⟨l, hl'⟩ : ∃ l : Nat, lmC m h i = (l : Int) := ⟨(lmC m h i).toNat, by omega⟩
      refine j_Ch_nameLamps_4 ?_
      rw [gI_mI g w 4, f.eq (a _ _ (by omega)), CWh.2.1, hn, iI_le ⟨by omega, by omega⟩ ⟨by omega, by omega⟩, iI_le ⟨by omega, by omega⟩ ⟨by omega, by omega⟩, Wg.2.2.2.2.2.1, cl i (by omega), wi.1, gI_mI g (w + 5 + i) 0, f.eq (a _ _ (by omega)), ci.1, iI_eq (rI_mI _ _ _) ⟨by omega, by omega⟩]
      refine ⟨Wg.1, fun z => by omega, fun _ => ⟨fun z => fin i g (by omega) (by omega) f V0, fun z => ⟨Wg.1, ir, wi.2, fun z2 => j_Ch_nameLamps_55 ?_, fun z2 => ?_⟩⟩⟩
      · rw [iI_add]
        have e1 : lmC m h (i + 1) = lmC m h i := by rw [lmC_s, if_neg z2]; omega
        have := ih (i + 1) g (by omega) f (fun x hx => by
          rw [lmA_s, if_neg (fun y => z2 y.1)]
          exact V0 x (by omega))
        rw [e1] at this
        exact this
      · have e1 : lmC m h (i + 1) = lmC m h i + 1 := by rw [lmC_s, if_pos z2]
        have D1 : ∀ v, CL c (sI g (c + 3) l v) := fun v => cl_sk D sk.rf.sI
        have W1 : ∀ v, WL w (sI g (c + 3) l v) := fun v => wl_sk Wg sk.rf.sI
        have wi1 := fun v => (W1 v).2.2.2.2.2.2.2.2.2 i (by omega)
        have g7 : ∀ v : Int, rI v → mI (sI g (c + 3) l (iI v)) (w + 5 + i) 7 = mI h (m + 14) i := fun v hv => by
          rw [mI_sI hv, if_neg (fun y => a (c + 3) 0 (by omega) (Or.inl rfl)), f.eq (a _ _ (by omega)), ci.2.2.2.2.2.2.2.1]
        rw [hl', D.f2, cl l (by omega), (W1 _).2.2.2.2.2.1, (wi1 _).1, (D1 _).f3, gI_mI _ (w + 5 + i) 7, g7 _ ⟨by omega, by omega⟩]
        refine ⟨D.o, ix_of D.z3 (by omega) (by omega) (by decide), (D1 _).o, (W1 _).1, ixR_of (W1 _).2.2.2.2.2.2.1 (Or.inr (Or.inr rfl)) (by omega) (by omega) (by decide), (wi1 _).2, ix_of (D1 _).z4 (by omega) (by omega) (by decide), j_Ch_nameLamps_52 (j_Ch_nameLamps_55 ?_)⟩
        rw [iI_add, iI_add]
        have := ih (i + 1) (sI (sI g (c + 3) l (iI (i : Int))) (c + 4) l (iI (mI h (m + 14) i))) (by omega) ((f.wr (Or.inl rfl)).wr (Or.inr rfl)) (fun x hx => by
          by_cases e : x = l
          · have eA : lmA m h (i + 1) x = (i : Int) := by rw [lmA_s, if_pos ⟨z2, by omega⟩]
            rw [eA, mI_sI (rI_mI _ _ _), mI_sI ⟨by omega, by omega⟩, mI_sI (rI_mI _ _ _), mI_sI ⟨by omega, by omega⟩, if_neg (fun y => by omega), if_pos ⟨rfl, e⟩, if_pos ⟨rfl, e⟩, Int.toNat_natCast]
            exact ⟨rfl, rfl⟩
          · have eA : lmA m h (i + 1) x = lmA m h i x := by rw [lmA_s, if_neg (fun y => by omega)]
            rw [eA, mI_sI (rI_mI _ _ _), mI_sI ⟨by omega, by omega⟩, mI_sI (rI_mI _ _ _), mI_sI ⟨by omega, by omega⟩, if_neg (fun y => by omega), if_neg (fun y => e y.2), if_neg (fun y => e y.2), if_neg (fun y => by omega)]
            exact V0 x (by omega))
        rw [e1, hl'] at this
        exact this
  refine jRet_of (by decide) (by decide) (Nat.le_of_ble_eq_true rfl) (j_Ch_nameLamps_0 ?_)
  have := l4 n 0 h (by omega) fg.rf (fun x hx => by rw [lmC] at hx; omega)
  rw [show lmC m h 0 = 0 from rfl] at this
  exact this
end NAME
