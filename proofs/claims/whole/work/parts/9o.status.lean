/-! LightRoom: which status a call has -/
section STAT
variable {x n nc : Nat} {h : jHp}
def sQ (s : Int) (h : jHp) : jQ := fun r h' => r = some (.int (iI s)) ∧ h' = h
theorem iz1 {P : Prop} [Decidable P] (z : ¬ iI (if P then 1 else 0) = 0) : P := Classical.byContradiction (fun y => z (iz.mpr y))
theorem LY.w (R : LY x h) : WL (x + 1) h := R.2.2.2.2.2.2.2.1
theorem LY.t (R : LY x h) : TL (x + 14) h := R.2.2.2.2.2.2.2.2.1
theorem LY.g (R : LY x h) : GL (x + 24) h := R.2.2.2.2.2.2.2.2.2.1
theorem LY.c (R : LY x h) : CL (x + 207) h := R.2.2.2.2.2.2.2.2.2.2.1
theorem LY.o (R : LY x h) : OO (x + 373) h := R.2.2.2.2.2.2.2.2.2.2.2.1
theorem LY.m (R : LY x h) : Mo (x + 385) h := R.2.2.2.2.2.2.2.2.2.2.2.2
theorem LY.f0 (R : LY x h) : gR h x 0 = x + 1 := R.2.1
theorem LY.f1 (R : LY x h) : gR h x 1 = x + 14 := R.2.2.1
theorem LY.f2 (R : LY x h) : gR h x 2 = x + 24 := R.2.2.2.1
theorem LY.f3 (R : LY x h) : gR h x 3 = x + 162 := R.2.2.2.2.1
theorem LY.f4 (R : LY x h) : gR h x 4 = x + 207 := R.2.2.2.2.2.1
theorem LY.f5 (R : LY x h) : gR h x 5 = x + 373 := R.2.2.2.2.2.2.1
/-- the patch's own place -/
theorem LY.p (R : LY x h) {p : Nat} (hp : p < 8) : ixR h (gR h (x + 1) 3) (iI (p : Int)) ∧ gR h (gR h (x + 1) 3) (iI (p : Int)).toNatClampNeg = x + 1 + 5 + p ∧ isO h (x + 1 + 5 + p) 5 := by
  obtain ⟨_, _, _, _, _, w3, z3, _, _, wp⟩ := R.w
  rw [w3, iI_cl (by omega) (by omega), Int.toNat_natCast]
  exact ⟨ixR_of z3 (Or.inr (Or.inr rfl)) (by omega) (by omega) (by decide), (wp p hp).1, (wp p hp).2⟩
theorem hn_x (T : TD x n nc h) (C : CX x n h) : mI h (x + 1) 4 = (n : Int) := C.1.2.1.trans T.2.2.2.1.1
theorem n8_x (T : TD x n nc h) : n ≤ 8 := T.2.2.2.1.2.1
theorem hp_x (R : LY x h) (T : TD x n nc h) (C : CX x n h) {p : Int} (hp : rI p) : isO h (gR h x 0) 7 ∧ jRet 76 0 0 [.ref (gR h x 0), .int (iI p)] h (sQ (if 0 ≤ p ∧ p < (n : Int) then 1 else 0) h) := by
  rw [R.f0]
  exact ⟨R.w.1, c_WhasPatch R.w hp (hn_x T C)⟩
theorem c_isFrom {a v b : Int} (ha : rI a) (hv : rI v) (hb : rI b) : jRet 97 0 0 [.int (iI a), .int (iI v), .int (iI b)] h (sQ (if a ≤ v ∧ v ≤ b then 1 else 0) h) := by
  refine jRet_of (by decide) (by decide) (Nat.le_of_ble_eq_true rfl) (j_R_isFrom_0 ?_)
  rw [iI_lt hv ha, iI_lt hb hv]
  exact ⟨fun c => j_R_isFrom_14 (j_R_isFrom_15 ⟨Or.inl rfl, by rw [if_neg (by omega)], rfl⟩), fun c => ⟨fun c2 => j_R_isFrom_14 (j_R_isFrom_15 ⟨Or.inl rfl, by rw [if_neg (by omega)], rfl⟩), fun c2 => j_R_isFrom_15 ⟨Or.inr rfl, by rw [if_pos (by omega)], rfl⟩⟩⟩
def pcS (n : Nat) (p : Int) : Int := if ¬ (0 ≤ p ∧ p < n) then 1 else 0
theorem c_patchStatus (R : LY x h) (T : TD x n nc h) (C : CX x n h) {p : Int} (hp : rI p) : jRet 118 0 0 [.ref x, .int (iI p)] h (sQ (pcS n p) h) := by
  refine jRet_of (by decide) (by decide) (Nat.le_of_ble_eq_true rfl) (j_R_patchStatus_0 ⟨R.1, (hp_x R T C hp).1, jRet_mono (hp_x R T C hp).2 ?_⟩)
  intro q1 h1 w1
  obtain ⟨e1, e2⟩ := w1
  rw [e2]
  exact ⟨_, e1, fun z => j_R_patchStatus_15 (j_R_patchStatus_16 ⟨by unfold pcS; rw [if_pos (iz.mp z)], rfl⟩), fun z => j_R_patchStatus_16 ⟨by unfold pcS; rw [if_neg (fun y => y (iz1 z))], rfl⟩⟩
theorem c_numberStatus (R : LY x h) (T : TD x n nc h) (C : CX x n h) {p k mx : Int} (hp : rI p) (hk : rI k) (hm : rI mx) : jRet 105 0 0 [.ref x, .int (iI p), .int (iI k), .int (iI mx)] h (sQ (nmS n p k mx) h) := by
  refine jRet_of (by decide) (by decide) (Nat.le_of_ble_eq_true rfl) (j_R_numberStatus_0 ⟨R.1, (hp_x R T C hp).1, jRet_mono (hp_x R T C hp).2 ?_⟩)
  intro q1 h1 w1
  obtain ⟨e1, e2⟩ := w1
  rw [e2]
  refine ⟨_, e1, fun z => j_R_numberStatus_13 (jRet_mono (c_isFrom ⟨by omega, by omega⟩ hk hm) ?_), fun z => ⟨by unfold nmS; rw [if_pos (iz.mp z)], rfl⟩⟩
  intro q2 h2 w2
  obtain ⟨e3, e4⟩ := w2
  rw [e4]
  exact ⟨_, e3, fun z2 => j_R_numberStatus_26 (j_R_numberStatus_27 ⟨by unfold nmS; rw [if_neg (fun y => y (iz1 z)), if_pos (iz.mp z2)], rfl⟩), fun z2 => j_R_numberStatus_27 ⟨by unfold nmS; rw [if_neg (fun y => y (iz1 z)), if_neg (fun y => y (iz1 z2))], rfl⟩⟩
theorem c_pairStatus (R : LY x h) (T : TD x n nc h) (C : CX x n h) {p q : Int} (hp : rI p) (hq : rI q) : jRet 109 0 0 [.ref x, .int (iI p), .int (iI q)] h (sQ (paS n p q) h) := by
  have no : ¬ ((0 ≤ p ∧ p < (n : Int)) ∧ (0 ≤ q ∧ q < (n : Int)) ∧ p ≠ q) → J 109 31 0 0 [uu, uu, uu] [] h (sQ (paS n p q) h) := fun z => j_R_pairStatus_31 (j_R_pairStatus_32 ⟨by unfold paS; rw [if_pos z], rfl⟩)
  refine jRet_of (by decide) (by decide) (Nat.le_of_ble_eq_true rfl) (j_R_pairStatus_0 ⟨R.1, (hp_x R T C hp).1, jRet_mono (hp_x R T C hp).2 ?_⟩)
  intro q1 h1 w1
  obtain ⟨e1, e2⟩ := w1
  rw [e2]
  refine ⟨_, e1, fun z => no (fun y => iz.mp z y.1), fun z => ⟨R.1, (hp_x R T C hq).1, jRet_mono (hp_x R T C hq).2 ?_⟩⟩
  intro q2 h2 w2
  obtain ⟨e3, e4⟩ := w2
  rw [e4, iI_eq hp hq]
  exact ⟨_, e3, fun z2 => no (fun y => iz.mp z2 y.2.1), fun z2 => ⟨fun z3 => no (fun y => y.2.2 z3), fun z3 => j_R_pairStatus_32 ⟨by unfold paS; rw [if_neg (fun y => y ⟨iz1 z, iz1 z2, z3⟩)], rfl⟩⟩⟩
theorem sm_p {f : Nat → Int} : ∀ {n : Nat}, (∀ j, j < n → 0 ≤ f j) → 0 ≤ sm f n
  | 0, _ => Int.le_refl 0
  | n + 1, hf => by
    have a := sm_p (n := n) (fun j hj => hf j (by omega))
    have b := hf n (by omega)
    rw [sm]
    omega
theorem sm_ge {f : Nat → Int} : ∀ {n : Nat}, (∀ j, j < n → 0 ≤ f j) → ∀ {k : Nat}, k < n → f k ≤ sm f n
  | 0, _, _, hk => absurd hk (by omega)
  | n + 1, hf, k, hk => by
    have b := hf n (by omega)
    rw [sm]
    by_cases e : k = n
    · have a := sm_p (n := n) (f := f) (fun j hj => hf j (by omega))
      rw [e]
      omega
    · have a := sm_ge (n := n) (f := f) (fun j hj => hf j (by omega)) (k := k) (by omega)
      omega
theorem mSg_r {m a b : Nat} : rI (mSg m h n a b) := by
  unfold mSg sgt
  repeat' split
  all_goals exact ⟨by omega, by omega⟩
theorem mee_e {X Y X' Y' : Nat → Int} {a b c d : Nat} (e : ∀ q, q < 24 → X q = X' q ∧ Y q = Y' q) (ha : a < 24) (hb : b < 24) (hc : c < 24) (hd : d < 24) : mee X Y a b c d ↔ mee X' Y' a b c d := by
  unfold mee wth dot crs
  rw [(e a ha).1, (e a ha).2, (e b hb).1, (e b hb).2, (e c hc).1, (e c hc).2, (e d hd).1, (e d hd).2]
theorem kd_x (T : TD x n nc h) (C : CX x n h) {p : Nat} (hp : p < n) : mI h (x + 1 + 5 + p) 0 = mI h (x + 385 + 9) p := (C.1.2.2.2 p (Nat.lt_of_lt_of_le hp (n8_x T))).1
theorem c_onStatus (R : LY x h) (T : TD x n nc h) (C : CX x n h) {p a d : Int} (hp : rI p) (ha : rI a) (hd : rI d) : jRet 102 0 0 [.ref x, .int (iI p), .int (iI a), .int (iI d)] h (sQ (onS (x + 385) h n p a d) h) := by
  have n8 := n8_x T
  refine jRet_of (by decide) (by decide) (Nat.le_of_ble_eq_true rfl) (j_R_onStatus_0 ⟨R.1, (hp_x R T C hp).1, jRet_mono (hp_x R T C hp).2 ?_⟩)
  intro q1 h1 w1
  obtain ⟨e1, e2⟩ := w1
  rw [e2]
  refine ⟨_, e1, fun z => j_R_onStatus_13 (jRet_mono (c_isFrom ⟨by omega, by omega⟩ hd ⟨by omega, by omega⟩) ?_), fun z => ⟨by unfold onS; rw [if_pos (iz.mp z)], rfl⟩⟩
  have c1 := iz1 z
  have no : ¬ (1 ≤ d ∧ d ≤ 100 ∧ 0 ≤ a ∧ a < d) → J 102 34 0 0 [uu, uu, uu, uu] [] h (sQ (onS (x + 385) h n p a d) h) := fun z => j_R_onStatus_34 ⟨by unfold onS; rw [if_neg (fun y => y c1), if_pos z], rfl⟩
  intro q2 h2 w2
  obtain ⟨e3, e4⟩ := w2
  rw [e4]
  refine ⟨_, e3, fun z2 => no (fun y => iz.mp z2 ⟨y.1, y.2.1⟩), fun z2 => ?_⟩
  have c2 := iz1 z2
  rw [iI_sub]
  refine jRet_mono (c_isFrom ⟨by omega, by omega⟩ ha ⟨by omega, by omega⟩) ?_
  intro q3 h3 w3
  obtain ⟨e5, e6⟩ := w3
  rw [e6]
  refine ⟨_, e5, fun z3 => j_R_onStatus_36 ?_, fun z3 => no (fun y => iz.mp z3 (by omega))⟩
  have c3 := iz1 z3
  obtain ⟨pn, rfl⟩ : ∃ pn : Nat, p = (pn : Int) := ⟨p.toNat, by omega⟩
  obtain ⟨p1, p2, p3⟩ := R.p (p := pn) (by omega)
  rw [R.f0, p2, gI_mI, kd_x T C (show pn < n by omega), iI_eq (rI_mI _ _ _) ⟨by omega, by omega⟩, iI_0, iI_eq ha ⟨by omega, by omega⟩]
  have yes : ¬ (mI h (x + 385 + 9) pn = 2 ∧ a ≠ 0) → J 102 60 0 0 [uu, uu, uu, uu] [] h (sQ (onS (x + 385) h n pn a d) h) := fun z => j_R_onStatus_60 (j_R_onStatus_61 ⟨by unfold onS; rw [if_neg (fun y => y c1), if_neg (fun y => y (by omega)), Int.toNat_natCast, if_neg z], rfl⟩)
  exact ⟨R.1, R.w.1, p1, p3, fun z => yes (fun y => z y.1), fun z4 => ⟨fun z => yes (fun y => y.2 z), fun z5 => j_R_onStatus_61 ⟨by unfold onS; rw [if_neg (fun y => y c1), if_neg (fun y => y (by omega)), Int.toNat_natCast, if_pos ⟨z4, z5⟩], rfl⟩⟩⟩
theorem c_ownStatus (R : LY x h) (T : TD x n nc h) (C : CX x n h) {p v : Int} (hp : rI p) (hv : rI v) : jRet 104 0 0 [.ref x, .int (iI p), .int (iI v)] h (sQ (owS (x + 385) h n p v) h) := by
  have n8 := n8_x T
  refine jRet_of (by decide) (by decide) (Nat.le_of_ble_eq_true rfl) (j_R_ownStatus_0 ⟨R.1, jRet_mono (c_numberStatus R T C hp hv ⟨by omega, by omega⟩) ?_⟩)
  intro q1 h1 w1
  obtain ⟨e1, e2⟩ := w1
  rw [e2]
  have rn : rI (nmS n p v 10000) := by
    unfold nmS
    split
    · exact ⟨by omega, by omega⟩
    · split <;> exact ⟨by omega, by omega⟩
  rw [iI_0]
  refine ⟨_, e1, ?_⟩
  rw [iI_eq rn ⟨by omega, by omega⟩]
  refine ⟨fun z => j_R_ownStatus_16 ?_, fun z => ⟨?_, rfl⟩⟩
  · have c1 : (0 ≤ p ∧ p < (n : Int)) ∧ 0 ≤ v ∧ v ≤ 10000 := by
      unfold nmS at z
      split at z
      · omega
      · split at z <;> omega
    obtain ⟨pn, rfl⟩ : ∃ pn : Nat, p = (pn : Int) := ⟨p.toNat, by omega⟩
    obtain ⟨p1, p2, p3⟩ := R.p (p := pn) (by omega)
    rw [R.f0, p2, gI_mI, kd_x T C (show pn < n by omega), iI_0, iI_eq (rI_mI _ _ _) ⟨by omega, by omega⟩, iI_eq hv ⟨by omega, by omega⟩]
    have yes : ¬ (mI h (x + 385 + 9) pn = 0 ∧ v ≠ 0) → J 104 39 0 0 [uu, uu, uu, uu] [] h (sQ (owS (x + 385) h n pn v) h) := fun z => j_R_ownStatus_39 (j_R_ownStatus_40 ⟨by unfold owS; rw [if_neg (fun y => y c1.1), if_neg (fun y => y c1.2), Int.toNat_natCast, if_neg z], rfl⟩)
    exact ⟨R.1, R.w.1, p1, p3, fun z => yes (fun y => z y.1), fun z4 => ⟨fun z => yes (fun y => y.2 z), fun z5 => j_R_ownStatus_40 ⟨by unfold owS; rw [if_neg (fun y => y c1.1), if_neg (fun y => y c1.2), Int.toNat_natCast, if_pos ⟨z4, z5⟩], rfl⟩⟩⟩
  · have e : owS (x + 385) h n p v = nmS n p v 10000 := by
      unfold owS nmS at *
      split
      · rfl
      · rename_i a
        rw [if_neg a] at z
        split
        · rfl
        · rename_i b
          rw [if_neg b] at z
          exact absurd rfl z
    rw [e]
theorem c_lampStatus (R : LY x h) (T : TD x n nc h) (C : CX x n h) {p : Int} (hp : rI p) : jRet 126 0 0 [.ref x, .int (iI p)] h (sQ (laS (x + 385) h n p) h) := by
  have n8 := n8_x T
  refine jRet_of (by decide) (by decide) (Nat.le_of_ble_eq_true rfl) (j_R_lampStatus_0 ⟨R.1, (hp_x R T C hp).1, jRet_mono (hp_x R T C hp).2 ?_⟩)
  intro q1 h1 w1
  obtain ⟨e1, e2⟩ := w1
  rw [e2]
  refine ⟨_, e1, fun z => j_R_lampStatus_13 ?_, fun z => ⟨by unfold laS; rw [if_pos (iz.mp z)], rfl⟩⟩
  have c1 := iz1 z
  obtain ⟨pn, rfl⟩ : ∃ pn : Nat, p = (pn : Int) := ⟨p.toNat, by omega⟩
  obtain ⟨p1, p2, p3⟩ := R.p (p := pn) (by omega)
  rw [R.f0, p2, gI_mI, kd_x T C (show pn < n by omega), iI_eq (rI_mI _ _ _) ⟨by omega, by omega⟩]
  exact ⟨R.1, R.w.1, p1, p3, fun z2 => j_R_lampStatus_33 (j_R_lampStatus_34 ⟨by unfold laS; rw [if_neg (fun y => y c1), Int.toNat_natCast, if_pos z2], rfl⟩), fun z2 => j_R_lampStatus_34 ⟨by unfold laS; rw [if_neg (fun y => y c1), Int.toNat_natCast, if_neg (fun y => y z2)], rfl⟩⟩
theorem c_priceStatus (R : LY x h) (T : TD x n nc h) (C : CX x n h) {p v u : Int} (hp : rI p) (hv : rI v) (hu : rI u) : jRet 125 0 0 [.ref x, .int (iI p), .int (iI v), .int (iI u)] h (sQ (prS (x + 385) h n p v u) h) := by
  have n8 := n8_x T
  refine jRet_of (by decide) (by decide) (Nat.le_of_ble_eq_true rfl) (j_R_priceStatus_0 ⟨R.1, (hp_x R T C hp).1, jRet_mono (hp_x R T C hp).2 ?_⟩)
  intro q1 h1 w1
  obtain ⟨e1, e2⟩ := w1
  rw [e2]
  refine ⟨_, e1, fun z => j_R_priceStatus_13 (jRet_mono (c_isFrom ⟨by omega, by omega⟩ hv ⟨by omega, by omega⟩) ?_), fun z => ⟨by unfold prS; rw [if_pos (iz.mp z)], rfl⟩⟩
  have c1 := iz1 z
  have no : ¬ (0 ≤ v ∧ v ≤ 1000 ∧ 0 ≤ u ∧ u ≤ 10000) → J 125 35 0 0 [uu, uu, uu, uu] [] h (sQ (prS (x + 385) h n p v u) h) := fun z => j_R_priceStatus_35 ⟨by unfold prS; rw [if_neg (fun y => y c1), if_pos z], rfl⟩
  intro q2 h2 w2
  obtain ⟨e3, e4⟩ := w2
  rw [e4]
  refine ⟨_, e3, fun z2 => no (fun y => iz.mp z2 (by omega)), fun z2 => jRet_mono (c_isFrom ⟨by omega, by omega⟩ hu ⟨by omega, by omega⟩) ?_⟩
  intro q3 h3 w3
  obtain ⟨e5, e6⟩ := w3
  rw [e6]
  refine ⟨_, e5, fun z3 => j_R_priceStatus_37 ⟨R.1, jRet_mono (c_lampStatus R T C hp) ?_⟩, fun z3 => no (fun y => iz.mp z3 (by omega))⟩
  have c2 := iz1 z2
  have c3 := iz1 z3
  intro q4 h4 w4
  refine ⟨_, w4.1, ?_, w4.2⟩
  have e7 : prS (x + 385) h n p v u = (if mI h (x + 385 + 9) p.toNat = 1 then 0 else 5) := by
    unfold prS
    rw [if_neg (fun y => y c1), if_neg (fun y => y (by omega))]
  have e8 : laS (x + 385) h n p = (if mI h (x + 385 + 9) p.toNat ≠ 1 then 5 else 0) := by
    unfold laS
    rw [if_neg (fun y => y c1)]
  rw [e7, e8]
  by_cases k : mI h (x + 385 + 9) p.toNat = 1
  · rw [if_neg (fun y => y k), if_pos k]
  · rw [if_pos k, if_neg k]
theorem c_tableStatus (R : LY x h) (T : TD x n nc h) (C : CX x n h) {i j v : Int} (hi : rI i) (hj : rI j) (hv : rI v) : jRet 116 0 0 [.ref x, .int (iI i), .int (iI j), .int (iI v)] h (sQ (tbS (x + 385) h n i j v) h) := by
  have n8 := n8_x T
  obtain ⟨S1, S2, S3, S4, S5, S6, S7⟩ := T.2.2.2.1
  have no : ¬ ((0 ≤ i ∧ i < (n : Int)) ∧ (0 ≤ j ∧ j < (n : Int))) → J 116 22 0 0 [uu, uu, uu, uu] [] h (sQ (tbS (x + 385) h n i j v) h) := fun z => j_R_tableStatus_22 ⟨by unfold tbS; rw [if_pos z], rfl⟩
  refine jRet_of (by decide) (by decide) (Nat.le_of_ble_eq_true rfl) (j_R_tableStatus_0 ⟨R.1, (hp_x R T C hi).1, jRet_mono (hp_x R T C hi).2 ?_⟩)
  intro q1 h1 w1
  obtain ⟨e1, e2⟩ := w1
  rw [e2]
  refine ⟨_, e1, fun z => no (fun y => iz.mp z y.1), fun z => ⟨R.1, (hp_x R T C hj).1, jRet_mono (hp_x R T C hj).2 ?_⟩⟩
  have c1 := iz1 z
  intro q2 h2 w2
  obtain ⟨e3, e4⟩ := w2
  rw [e4]
  refine ⟨_, e3, fun z2 => j_R_tableStatus_24 ?_, fun z2 => no (fun y => iz.mp z2 y.2)⟩
  have c2 := iz1 z2
  obtain ⟨a, rfl⟩ : ∃ a : Nat, i = (a : Int) := ⟨i.toNat, by omega⟩
  obtain ⟨b, rfl⟩ : ∃ b : Nat, j = (b : Int) := ⟨j.toNat, by omega⟩
  have ct := C.2.1
  have row : ∀ k, k < 8 → 0 ≤ mI h (x + 14 + 2 + a) k ∧ mI h (x + 14 + 2 + a) k ≤ 1000 := fun k hk => by
    rw [ct.2 a k (by omega) (by omega)]
    have := S6 (8 * a + k) (by omega)
    refine ⟨this, ?_⟩
    have s7 := S7 a (by omega)
    have le : mI h (x + 385 + 16) (8 * a + k) ≤ sm (fun j => mI h (x + 385 + 16) (8 * a + j)) 8 := sm_ge (f := fun j => mI h (x + 385 + 16) (8 * a + j)) (fun q hq => S6 _ (by omega)) hk
    omega
  rw [R.f1]
  refine ⟨R.1, R.t.1, jRet_mono (c_Tleft R.t (i := a) (j := b) (by omega) (by omega) (by rw [ct.1]; omega) row) ?_⟩
  intro q3 h3 w3
  obtain ⟨e5, e6⟩ := w3
  rw [e6]
  have eq : sm (fun k => if k = b then 0 else mI h (x + 14 + 2 + a) k) 8 = tbO (x + 385) h a b 8 := by
    unfold tbO
    refine sm_congr (fun k hk => ?_)
    rw [ct.2 a k (by omega) (by omega)]
  have bd : 0 ≤ tbO (x + 385) h a b 8 ∧ tbO (x + 385) h a b 8 ≤ 8000 := by
    rw [← eq]
    have g : ∀ k, k < 8 → 0 ≤ (if k = b then 0 else mI h (x + 14 + 2 + a) k) ∧ (if k = b then 0 else mI h (x + 14 + 2 + a) k) ≤ 1000 := fun k hk => by
      have := row k hk
      split <;> omega
    have g0 := g 0 (by decide)
    have g1 := g 1 (by decide)
    have g2 := g 2 (by decide)
    have g3 := g 3 (by decide)
    have g4 := g 4 (by decide)
    have g5 := g 5 (by decide)
    have g6 := g 6 (by decide)
    have g7 := g 7 (by decide)
    simp only [sm]
    generalize (if 0 = b then (0 : Int) else mI h (x + 14 + 2 + a) 0) = u0 at *
    generalize (if 1 = b then (0 : Int) else mI h (x + 14 + 2 + a) 1) = u1 at *
    generalize (if 2 = b then (0 : Int) else mI h (x + 14 + 2 + a) 2) = u2 at *
    generalize (if 3 = b then (0 : Int) else mI h (x + 14 + 2 + a) 3) = u3 at *
    generalize (if 4 = b then (0 : Int) else mI h (x + 14 + 2 + a) 4) = u4 at *
    generalize (if 5 = b then (0 : Int) else mI h (x + 14 + 2 + a) 5) = u5 at *
    generalize (if 6 = b then (0 : Int) else mI h (x + 14 + 2 + a) 6) = u6 at *
    generalize (if 7 = b then (0 : Int) else mI h (x + 14 + 2 + a) 7) = u7 at *
    omega
  rw [eq, ct.1] at e5
  refine ⟨_, e5, jRet_mono (c_isFrom ⟨by omega, by omega⟩ hv ⟨by omega, by omega⟩) ?_⟩
  intro q4 h4 w4
  obtain ⟨e7, e8⟩ := w4
  rw [e8]
  exact ⟨_, e7, fun z3 => j_R_tableStatus_45 (j_R_tableStatus_46 ⟨by unfold tbS; rw [if_neg (fun y => y ⟨c1, c2⟩), Int.toNat_natCast, Int.toNat_natCast, if_pos (iz.mp z3)], rfl⟩), fun z3 => j_R_tableStatus_46 ⟨by unfold tbS; rw [if_neg (fun y => y ⟨c1, c2⟩), Int.toNat_natCast, Int.toNat_natCast, if_neg (fun y => y (iz1 z3))], rfl⟩⟩
theorem xb_x (T : TD x n nc h) (C : CX x n h) : XB (x + 1) h := fun k hk => by
  rw [(C.1.2.2.1 k hk).1, (C.1.2.2.1 k hk).2]
  exact T.1 k hk
theorem pt_x (T : TD x n nc h) (C : CX x n h) : PT (x + 1) n h := fun i hi => by
  have n8 := n8_x T
  have c := C.1.2.2.2 i (by omega)
  rw [c.2.1, c.2.2.1]
  exact T.2.1 i hi
noncomputable def coS (m : Nat) (h : jHp) (nc : Nat) (X Y : Int) : Int := if ¬ (-1000 ≤ X ∧ X ≤ 1000 ∧ -1000 ≤ Y ∧ Y ≤ 1000) then 2 else if nc = 24 then 3 else @ite Int (∃ k, k < nc ∧ mI h (m + 5) k = X ∧ mI h (m + 6) k = Y) (Classical.propDecidable _) 4 0
theorem c_cornerStatus (R : LY x h) (T : TD x n nc h) (C : CX x n h) {X Y : Int} (hx : rI X) (hy : rI Y) : jRet 96 0 0 [.ref x, .int (iI X), .int (iI Y)] h (sQ (coS (x + 385) h nc X Y) h) := by
  have n24 : nc ≤ 24 := T.2.2.1.1
  have hc : mI h (x + 1) 2 = (nc : Int) := C.1.1.trans T.2.2.2.2.2.2.2.2.1
  have no : ¬ (-1000 ≤ X ∧ X ≤ 1000 ∧ -1000 ≤ Y ∧ Y ≤ 1000) → J 96 26 0 0 [uu, uu, uu] [] h (sQ (coS (x + 385) h nc X Y) h) := fun z => j_R_cornerStatus_26 ⟨by unfold coS; rw [if_pos z], rfl⟩
  refine jRet_of (by decide) (by decide) (Nat.le_of_ble_eq_true rfl) (j_R_cornerStatus_0 (jRet_mono (c_isFrom ⟨by omega, by omega⟩ hx ⟨by omega, by omega⟩) ?_))
  intro q1 h1 w1
  obtain ⟨e1, e2⟩ := w1
  rw [e2]
  refine ⟨_, e1, fun z => no (fun y => iz.mp z (by omega)), fun z => jRet_mono (c_isFrom ⟨by omega, by omega⟩ hy ⟨by omega, by omega⟩) ?_⟩
  intro q2 h2 w2
  obtain ⟨e3, e4⟩ := w2
  rw [e4]
  refine ⟨_, e3, fun z2 => j_R_cornerStatus_28 ?_, fun z2 => no (fun y => iz.mp z2 (by omega))⟩
  have c1 := iz1 z
  have c2 := iz1 z2
  rw [R.f0, gI_mI, hc, iI_lt ⟨by omega, by omega⟩ ⟨by omega, by omega⟩]
  refine ⟨R.1, R.w.1, fun z3 => j_R_cornerStatus_42 ?_, fun z3 => ⟨by unfold coS; rw [if_neg (fun y => y (by omega)), if_pos (by omega)], rfl⟩⟩
  rw [R.f0]
  refine ⟨R.1, R.w.1, jRet_mono (c_WhasAt R.w hx hy hc n24) ?_⟩
  intro q3 h3 w3
  obtain ⟨e5, e6⟩ := w3
  rw [e6]
  have iff : (∃ k, k < nc ∧ mI h (x + 1 + 1) k = X ∧ mI h (x + 1 + 2) k = Y) ↔ (∃ k, k < nc ∧ mI h (x + 385 + 5) k = X ∧ mI h (x + 385 + 6) k = Y) := by
    constructor
    · intro ⟨k, k1, k2, k3⟩
      have c := C.1.2.2.1 k (by omega)
      exact ⟨k, k1, by rw [← c.1]; exact k2, by rw [← c.2]; exact k3⟩
    · intro ⟨k, k1, k2, k3⟩
      have c := C.1.2.2.1 k (by omega)
      exact ⟨k, k1, by rw [c.1]; exact k2, by rw [c.2]; exact k3⟩
  rw [iff] at e5
  rcases e5 with ⟨y1, y2⟩ | ⟨y1, y2⟩
  · refine ⟨_, y2, fun z4 => absurd z4 (by decide), fun _ => j_R_cornerStatus_59 ⟨?_, rfl⟩⟩
    unfold coS
    rw [if_neg (fun y => y (by omega)), if_neg (by omega), if_pos y1]
  · refine ⟨_, y2, fun _ => j_R_cornerStatus_58 (j_R_cornerStatus_59 ⟨?_, rfl⟩), fun z4 => absurd rfl z4⟩
    unfold coS
    rw [if_neg (fun y => y (by omega)), if_neg (by omega), if_neg y1]
theorem c_newPatchStatus (R : LY x h) (T : TD x n nc h) (C : CX x n h) {f t k : Int} (hf : rI f) (ht : rI t) (hk : rI k) : jRet 99 0 0 [.ref x, .int (iI f), .int (iI t), .int (iI k)] h (sQ (ptS (x + 385) h n nc f t k) h) := by
  have n24 : nc ≤ 24 := T.2.2.1.1
  have n8 := n8_x T
  have hc : mI h (x + 1) 2 = (nc : Int) := C.1.1.trans T.2.2.2.2.2.2.2.2.1
  have L3 := T.2.2.2.2.2.2.2.2.2.1
  have no : ¬ ((0 ≤ f ∧ f < (nc : Int)) ∧ (0 ≤ t ∧ t < (nc : Int)) ∧ f ≠ t) → J 99 27 0 0 [uu, uu, uu, uu] [] h (sQ (ptS (x + 385) h n nc f t k) h) := fun z => j_R_newPatchStatus_27 ⟨by unfold ptS; rw [if_pos z], rfl⟩
  refine jRet_of (by decide) (by decide) (Nat.le_of_ble_eq_true rfl) (j_R_newPatchStatus_0 ?_)
  rw [R.f0]
  refine ⟨R.1, R.w.1, jRet_mono (c_WhasCorner R.w hf hc) ?_⟩
  intro q1 h1 w1
  obtain ⟨e1, e2⟩ := w1
  rw [e2]
  refine ⟨_, e1, fun z => no (fun y => iz.mp z y.1), fun z => ?_⟩
  rw [R.f0]
  refine ⟨R.1, R.w.1, jRet_mono (c_WhasCorner R.w ht hc) ?_⟩
  intro q2 h2 w2
  obtain ⟨e3, e4⟩ := w2
  rw [e4, iI_eq hf ht]
  refine ⟨_, e3, fun z2 => no (fun y => iz.mp z2 y.2.1), fun z2 => ⟨fun z3 => j_R_newPatchStatus_29 (jRet_mono (c_isFrom ⟨by omega, by omega⟩ hk ⟨by omega, by omega⟩) ?_), fun z3 => no (fun y => y.2.2 z3)⟩⟩
  have c1 : (0 ≤ f ∧ f < (nc : Int)) ∧ (0 ≤ t ∧ t < (nc : Int)) ∧ f ≠ t := ⟨iz1 z, iz1 z2, z3⟩
  intro q3 h3 w3
  obtain ⟨e5, e6⟩ := w3
  rw [e6]
  refine ⟨_, e5, fun z4 => j_R_newPatchStatus_40 ?_, fun z4 => ⟨by unfold ptS; rw [if_neg (fun y => y c1), if_pos (iz.mp z4)], rfl⟩⟩
  have c2 := iz1 z4
  rw [R.f0, gI_mI, hn_x T C, iI_lt ⟨by omega, by omega⟩ ⟨by omega, by omega⟩]
  refine ⟨R.1, R.w.1, fun z5 => j_R_newPatchStatus_54 ?_, fun z5 => ⟨by unfold ptS; rw [if_neg (fun y => y c1), if_neg (fun y => y c2), if_pos (by omega)], rfl⟩⟩
  obtain ⟨fn, rfl⟩ : ∃ fn : Nat, f = (fn : Int) := ⟨f.toNat, by omega⟩
  obtain ⟨tn, rfl⟩ : ∃ tn : Nat, t = (tn : Int) := ⟨t.toNat, by omega⟩
  have ok : ¬ (k = 1 ∧ lmC (x + 385) h n = 3) → J 99 72 0 0 [.ref x, .int (iI (fn : Int)), .int (iI (tn : Int)), uu] [] h (sQ (ptS (x + 385) h n nc fn tn k) h) := by
    intro c3
    refine j_R_newPatchStatus_72 ?_
    rw [R.f0]
    refine ⟨R.1, R.w.1, jRet_mono (c_WmeetsAny R.w (xb_x T C) (by omega) (by omega) (hn_x T C) n8 (pt_x T C)) ?_⟩
    intro q6 h6 w6
    obtain ⟨e7, e8⟩ := w6
    rw [e8]
    have iff : (∃ i, i < n ∧ mee (mI h (x + 1 + 1)) (mI h (x + 1 + 2)) (mI h (x + 1 + 5 + i) 1).toNat (mI h (x + 1 + 5 + i) 2).toNat fn tn) ↔ (∃ i, i < n ∧ mee (mI h (x + 385 + 5)) (mI h (x + 385 + 6)) (mF1 (x + 385) h i) (mF2 (x + 385) h i) (fn : Int).toNat (tn : Int).toNat) := by
      have one : ∀ i, i < n → (mee (mI h (x + 1 + 1)) (mI h (x + 1 + 2)) (mI h (x + 1 + 5 + i) 1).toNat (mI h (x + 1 + 5 + i) 2).toNat fn tn ↔ mee (mI h (x + 385 + 5)) (mI h (x + 385 + 6)) (mF1 (x + 385) h i) (mF2 (x + 385) h i) (fn : Int).toNat (tn : Int).toNat) := fun i hi => by
        have c := C.1.2.2.2 i (by omega)
        obtain ⟨_, _, p3, p4⟩ := MP.at T.2.1 hi
        rw [c.2.1, c.2.2.1, Int.toNat_natCast, Int.toNat_natCast]
        exact mee_e (X := mI h (x + 1 + 1)) (Y := mI h (x + 1 + 2)) (fun q hq => C.1.2.2.1 q hq) p3 p4 (by omega) (by omega)
      constructor
      · intro ⟨i, i1, i2⟩
        exact ⟨i, i1, (one i i1).mp i2⟩
      · intro ⟨i, i1, i2⟩
        exact ⟨i, i1, (one i i1).mpr i2⟩
    rw [iff] at e7
    rcases e7 with ⟨y1, y2⟩ | ⟨y1, y2⟩
    · refine ⟨_, y2, fun z4 => absurd z4 (by decide), fun _ => j_R_newPatchStatus_90 ⟨?_, rfl⟩⟩
      unfold ptS
      rw [if_neg (fun y => y c1), if_neg (fun y => y c2), if_neg (by omega), if_neg c3, if_pos y1]
    · refine ⟨_, y2, fun _ => j_R_newPatchStatus_89 (j_R_newPatchStatus_90 ⟨?_, rfl⟩), fun z4 => absurd rfl z4⟩
      unfold ptS
      rw [if_neg (fun y => y c1), if_neg (fun y => y c2), if_neg (by omega), if_neg c3, if_neg y1]
  rw [R.f0, gI_mI, C.2.2, iI_eq hk ⟨by omega, by omega⟩, iI_lt (by have := lmC_bd (m := x + 385) (h := h) n; exact ⟨by omega, by omega⟩) ⟨by omega, by omega⟩]
  exact ⟨fun z6 => ok (fun y => z6 y.1), fun z6 => ⟨R.1, R.w.1, fun z7 => ok (fun y => by omega), fun z7 => ⟨by unfold ptS; rw [if_neg (fun y => y c1), if_neg (fun y => y c2), if_neg (by omega), if_pos ⟨z6, by omega⟩], rfl⟩⟩⟩
theorem c_shareStatus (R : LY x h) (T : TD x n nc h) (C : CX x n h) {p q k : Int} (hp : rI p) (hq : rI q) (hk : rI k) : jRet 112 0 0 [.ref x, .int (iI p), .int (iI q), .int (iI k)] h (fun r h' => r = some (.int (iI (shS (x + 385) h n p q k))) ∧ fg (fun a _ => a = x + 5) h h') := by
  have n8 := n8_x T
  refine jRet_of (by decide) (by decide) (Nat.le_of_ble_eq_true rfl) (j_R_shareStatus_0 ⟨R.1, jRet_mono (c_pairStatus R T C hp hq) ?_⟩)
  intro q1 h1 w1
  obtain ⟨e1, e2⟩ := w1
  rw [e2]
  by_cases c1 : (0 ≤ p ∧ p < (n : Int)) ∧ (0 ≤ q ∧ q < (n : Int)) ∧ p ≠ q
  · have e0 : paS n p q = 0 := by
      unfold paS
      rw [if_neg (fun y => y c1)]
    rw [e0] at e1
    refine ⟨_, e1, fun _ => j_R_shareStatus_16 (jRet_mono (c_isFrom ⟨by omega, by omega⟩ hk ⟨by omega, by omega⟩) ?_), fun z => absurd rfl z⟩
    intro q2 h2 w2
    obtain ⟨e3, e4⟩ := w2
    rw [e4]
    refine ⟨_, e3, fun z => j_R_shareStatus_28 ?_, fun z => ⟨by unfold shS; rw [if_neg (fun y => y c1), if_pos (iz.mp z)], fg.rf⟩⟩
    have c2 := iz1 z
    obtain ⟨a, rfl⟩ : ∃ a : Nat, p = (a : Int) := ⟨p.toNat, by omega⟩
    obtain ⟨b, rfl⟩ : ∃ b : Nat, q = (b : Int) := ⟨q.toNat, by omega⟩
    rw [R.f0]
    refine ⟨R.1, R.w.1, jRet_mono (c_Wsight R.w (xb_x T C) (pt_x T C) n8 (hn_x T C) (a := a) (b := b) (by omega) (by omega)) ?_⟩
    intro q3 h3 w3
    obtain ⟨e5, f5⟩ := w3
    rw [sg_same C.1 T.2.1 T.2.2.1 n8 (by omega) (by omega)] at e5
    have f6 : fg (fun a _ => a = x + 5) h h3 := f5.mo (fun a k z => by omega)
    have rs : rI (mSg (x + 385) h n a b) := by
      exact mSg_r
    refine ⟨_, e5, ?_⟩
    rw [iI_eq rs ⟨by omega, by omega⟩]
    refine ⟨fun z2 => j_R_shareStatus_45 (j_R_shareStatus_47 ⟨by unfold shS; rw [if_neg (fun y => y c1), if_neg (fun y => y c2), Int.toNat_natCast, Int.toNat_natCast, if_pos z2], f6⟩), fun z2 => j_R_shareStatus_47 ⟨by unfold shS; rw [if_neg (fun y => y c1), if_neg (fun y => y c2), Int.toNat_natCast, Int.toNat_natCast, if_neg (fun y => y z2)], f6⟩⟩
  · have e0 : paS n p q = 1 := by
      unfold paS
      rw [if_pos c1]
    rw [e0] at e1
    exact ⟨_, e1, fun z => absurd z (by decide), fun _ => ⟨by unfold shS; rw [if_pos c1], fg.rf⟩⟩
end STAT
