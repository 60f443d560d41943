/-! step: one limb of a quotient -/
theorem lI_maskz (a : Int) : lI a &&& lI (jc 0 1073741823) = lI (a % 1073741824) := by
  apply Int64.toBitVec_inj.mp
  apply BitVec.eq_of_toNat_eq
  rw [Int64.toBitVec_and, BitVec.toNat_and]
  have e1 : ∀ b : Int, (lI b).toBitVec.toNat = (b % 18446744073709551616).toNat := by
    intro b
    show (BitVec.ofInt 64 b).toNat = _
    rw [BitVec.toNat_ofInt]
    rfl
  have e2 : (lI (jc 0 1073741823)).toBitVec.toNat = 2 ^ 30 - 1 := by decide
  rw [e2, e1, e1, Nat.and_two_pow_sub_one_eq_mod]
  omega
theorem top_lt {T P : Nat} {L X : Int} (h : (T : Int) + L * (P : Int) = X) (hT : T < P) (hX : X < 0) : L < 0 := by
  by_cases q : L < 0
  · exact q
  · have := Int.mul_nonneg (show 0 ≤ L by omega) (Int.natCast_nonneg P)
    omega
theorem top_0 {T P R : Nat} {L : Int} (h : (T : Int) + L * (P : Int) = (R : Int)) (hT : T < P) (hR : R < P) : L = 0 ∧ T = R := by
  have h1 : ¬ L < 0 := by
    intro q
    have := Int.mul_le_mul_of_nonneg_right (show L ≤ -1 by omega) (Int.natCast_nonneg P)
    omega
  have h2 : ¬ 0 < L := by
    intro q
    have := Int.mul_le_mul_of_nonneg_right (show 1 ≤ L by omega) (Int.natCast_nonneg P)
    omega
  obtain rfl : L = 0 := by omega
  exact ⟨rfl, by omega⟩
/-- nothing but left[q..q+n] differs -/
def fs (m q n : Nat) (h h' : jHp) : Prop := sk h h' ∧ ∀ p k, ¬ (p = m + 2 ∧ q ≤ k ∧ k ≤ q + n) → gI h' p k = gI h p k
theorem fs.rf {m q n : Nat} {h : jHp} : fs m q n h h := ⟨sk.rf, fun _ _ _ => rfl⟩
theorem fs.w {m q n k : Nat} {h h' : jHp} {v : Int32} (f : fs m q n h h') (h1 : q ≤ k) (h2 : k ≤ q + n) : fs m q n h (sI h' (m + 2) k v) :=
  ⟨f.1.sI, fun p j c => by rw [gI_sI, if_neg (fun z => c ⟨z.1, by omega, by omega⟩)]; exact f.2 p j c⟩
theorem fs.at {m q n p k : Nat} {h h' : jHp} (f : fs m q n h h') (c : ¬ (p = m + 2 ∧ q ≤ k ∧ k ≤ q + n)) : mI h' p k = mI h p k := by
  unfold mI
  rw [f.2 p k c]
def stQ (m q n W D : Nat) (h : jHp) : jQ := fun r h' => r = some (.int (iI ((W / D : Nat) : Int))) ∧ fs m q n h h' ∧ (∀ k, k < n → mI h' (m + 2) (q + k) = dg B3 (W % D) k) ∧ mI h' (m + 2) (q + n) = 0
section STEP
variable {m q n W D : Nat} {h : jHp}
theorem l_step157 (M : Mo m h) (hn : 1 ≤ n) (hq : q + n < 400) (hD : D < B3 ^ n) (hD0 : 0 < D) (hd : ∀ k, k < n → mI h (m + 3) k = dg B3 D k) :
    ∀ (e g : Nat) (hp : jHp) (T : Nat) (L : Int), g = W / D + e → g < 1073741824 → fs m q n h hp → T < B3 ^ n → (∀ k, k < n → mI hp (m + 2) (q + k) = dg B3 T k) → (T : Int) + L * ((B3 ^ n : Nat) : Int) = (W : Int) - (g : Int) * (D : Int) → -1073741826 ≤ L → L ≤ 1073741823 →
    J 175 157 0 0 [.ref m, .int (iI q), .int (iI n), uu, uu, .long (lI (g : Int)), uu, uu, uu, uu, uu, .long (lI L), uu, uu, uu, uu] [] hp (stQ m q n W D h) := by
  intro e
  have hdm := Nat.div_add_mod W D
  have hml := Nat.mod_lt W hD0
  rw [Nat.mul_comm] at hdm
  induction e with
  | zero =>
    intro g hp T L hg hg1 f hT hl hE hL1 hL2
    have Mg := M.sk f.1
    have hE2 : (T : Int) + L * ((B3 ^ n : Nat) : Int) = ((W % D : Nat) : Int) := by
      rw [hE, hg, Nat.add_zero, ← Int.natCast_mul]
      omega
    obtain ⟨rfl, rfl⟩ := top_0 hE2 hT (Nat.lt_trans hml hD)
    refine j_M_step_157 ⟨fun _ => j_M_step_245 ?_, fun c => absurd (by decide) c⟩
    rw [Mg.a3.1, iI_add, lI_32, lI_32, iI_cl (by omega) (by omega), show ((q : Int) + (n : Int)).toNat = q + n by omega]
    refine ⟨Mg.1, ix_of Mg.a3.2 (by omega) (by omega) (by decide), by rw [hg, Nat.add_zero], f.w (by omega) (by omega), fun k hk => ?_, ?_⟩
    · rw [mI_sI ⟨by omega, by omega⟩, if_neg (fun z => by omega)]
      exact hl k hk
    · rw [mI_sI ⟨by omega, by omega⟩, if_pos ⟨rfl, rfl⟩]
  | succ e ih =>
    intro g hp T L hg hg1 f hT hl hE hL1 hL2
    have hX : (W : Int) - (g : Int) * (D : Int) < 0 := by
      rw [← Int.natCast_mul]
      have h1 : (W / D + 1) * D ≤ g * D := Nat.mul_le_mul_right D (by omega)
      rw [Nat.add_mul, Nat.one_mul] at h1
      omega
    have hL : L < 0 := top_lt hE hT hX
    have hgp : 0 < g := by
      rw [hg]
      exact Nat.succ_pos _
    have cmp : 0 ≤ lg_cmp (lI L) (lI ((0 : Nat) : Int)) ↔ 0 ≤ L := by
      rw [lg_cmp_ge]
      exact lI_le ⟨by omega, by omega⟩ ⟨by omega, by omega⟩
    refine j_M_step_157 ?_
    rw [cmp]
    refine ⟨fun c => absurd c (by omega), fun _ => ?_⟩
    have hg2 : lI (g : Int) - lI ((1 : Nat) : Int) = lI ((g - 1 : Nat) : Int) := by
      rw [lI_sub]
      congr 1
      omega
    rw [hg2]
    -- giving back
    have l176 : ∀ (d k : Nat) (g1 : jHp), k + d = n → fs m q n h g1 → (∀ j, j < k → mI g1 (m + 2) (q + j) = dg B3 (T + D) j) → (∀ j, k ≤ j → j < n → mI g1 (m + 2) (q + j) = dg B3 T j) →
        J 175 176 0 0 [.ref m, .int (iI q), .int (iI n), uu, uu, .long (lI ((g - 1 : Nat) : Int)), uu, uu, uu, uu, uu, .long (lI L), uu, .long (lI (car B3 T D k : Int)), uu, .int (iI k)] [] g1 (stQ m q n W D h) := by
      intro d
      induction d with
      | zero =>
        intro k g1 hk f1 h1 h2
        obtain rfl : k = n := by omega
        have hcl := car_le (B := B3) (x := T) (y := D) (k := k) (by decide)
        refine j_M_step_176 ⟨fun _ => j_M_step_235 ?_, fun c => absurd ((iI_le ⟨by omega, by omega⟩ ⟨by omega, by omega⟩).mpr (by omega)) c⟩
        rw [lI_add]
        refine ih (g - 1) g1 ((T + D) % B3 ^ k) _ (by omega) (by omega) f1 (Nat.mod_lt _ (Nat.pow_pos (by decide))) (fun j hj => ?_) ?_ (by omega) (by omega)
        · rw [dg_mod (by decide) hj]
          exact h1 j hj
        · have hc : car B3 T D k = (T + D) / B3 ^ k := by
            unfold car
            rw [Nat.mod_eq_of_lt hT, Nat.mod_eq_of_lt hD]
          have e2 := Nat.mod_add_div (T + D) (B3 ^ k)
          have e3 : (((g - 1 : Nat) : Int)) * (D : Int) = (g : Int) * (D : Int) - (D : Int) := by
            rw [show ((g - 1 : Nat) : Int) = (g : Int) - 1 by omega, Int.sub_mul, Int.one_mul]
          rw [e3, hc, Int.add_mul]
          have e4 : (((T + D) / B3 ^ k : Nat) : Int) * ((B3 ^ k : Nat) : Int) = ((B3 ^ k * ((T + D) / B3 ^ k) : Nat) : Int) := by
            rw [Int.natCast_mul, Int.mul_comm]
          rw [e4]
          omega
      | succ d ih2 =>
        intro k g1 hk f1 h1 h2
        have M1 := M.sk f1.1
        have t1 : dg B3 T k < 1073741824 := dg_lt (by decide)
        have t2 : dg B3 D k < 1073741824 := dg_lt (by decide)
        have hcl := car_le (B := B3) (x := T) (y := D) (k := k) (by decide)
        have hdk : mI g1 (m + 3) k = dg B3 D k := by
          rw [f1.at (fun z => by omega)]
          exact hd k (by omega)
        refine j_M_step_176 ?_
        rw [M1.a3.1, M1.a4.1, iI_add, gI_q (by omega) (by omega), gI_q (by omega) (by omega), Int.toNat_natCast, hdk, show ((q : Int) + (k : Int)).toNat = q + k by omega, h2 k (by omega) (by omega), iI_64 (rI_nat t1), iI_64 (rI_nat t2), lI_add, lI_add, lI_lo (by omega) (by omega), lI_hi (by omega) (by omega), iI_add, iI_cl (by omega) (by omega), show ((q : Int) + (k : Int)).toNat = q + k by omega]
        have a1 : ((car B3 T D k : Int) + ((dg B3 T k : Int) + (dg B3 D k : Int))) % 1073741824 = ((dg B3 (T + D) k : Nat) : Int) := by
          rw [add_dg3]
          omega
        have a2 : ((car B3 T D k : Int) + ((dg B3 T k : Int) + (dg B3 D k : Int))) / 1073741824 = ((car B3 T D (k + 1) : Nat) : Int) := by
          rw [add_car3]
          omega
        rw [a1, a2]
        have t3 : dg B3 (T + D) k < 1073741824 := dg_lt (by decide)
        refine ⟨fun c => ?_, fun c => ⟨M1.1, ixL_of M1.a3.2 (by omega) (by omega) (by decide), M1.1, ixL_of M1.a4.2 (by omega) (by omega) (by decide), M1.1, ix_of M1.a3.2 (by omega) (by omega) (by decide), ?_⟩⟩
        · rw [iI_le ⟨by omega, by omega⟩ ⟨by omega, by omega⟩] at c
          omega
        · refine ih2 (k + 1) _ (by omega) (f1.w (by omega) (by omega)) (fun j hj => ?_) (fun j hj hj2 => ?_)
          · rw [mI_sI (rI_nat t3)]
            by_cases ej : j = k
            · rw [if_pos ⟨rfl, by omega⟩, ej]
            · rw [if_neg (fun z => by omega)]
              exact h1 j (by omega)
          · rw [mI_sI (rI_nat t3), if_neg (fun z => by omega)]
            exact h2 j (by omega) (by omega)
    have := l176 n 0 hp (by omega) f (fun j hj => by omega) (fun j _ hj => hl j hj)
    rw [car_0] at this
    exact this
theorem c_step (M : Mo m h) (hn : 1 ≤ n) (hq : q + n < 400) (hD : D < B3 ^ n) (hb : 0 < dg B3 D (n - 1)) (hd : ∀ k, k < n → mI h (m + 3) k = dg B3 D k) (hw : ∀ k, k ≤ n → mI h (m + 2) (q + k) = dg B3 W k) (hW : W < D * 1073741824) :
    jRet 175 0 0 [.ref m, .int (iI q), .int (iI n)] h (stQ m q n W D h) := by
  have hD0 : 0 < D := by
    rcases Nat.eq_zero_or_pos D with z | z
    · rw [z, Nat.zero_mul] at hW
      omega
    · exact z
  have hP : 0 < B3 ^ n := Nat.pow_pos (by decide)
  have hP1 : 0 < B3 ^ (n - 1) := Nat.pow_pos (by decide)
  have hWn : W < B3 ^ n * 1073741824 := Nat.lt_of_lt_of_le hW (Nat.mul_le_mul_right _ (Nat.le_of_lt hD))
  have hWh : W / B3 ^ n < 1073741824 := by
    rw [Nat.div_lt_iff_lt_mul hP, Nat.mul_comm]
    exact hWn
  have hdn : dg B3 W n = W / B3 ^ n := by
    unfold dg
    exact Nat.mod_eq_of_lt hWh
  have hWl : W / B3 ^ (n - 1) = dg B3 W n * 1073741824 + dg B3 W (n - 1) := by
    have := div_succ B3 W (n - 1)
    rw [show n - 1 + 1 = n by omega] at this
    rw [hdn, this, Nat.mul_comm]
  have hDl : D / B3 ^ (n - 1) = dg B3 D (n - 1) := by
    have := div_succ B3 D (n - 1)
    rw [show n - 1 + 1 = n by omega, Nat.div_eq_of_lt hD] at this
    omega
  have hq1 : W / D ≤ W / B3 ^ (n - 1) / dg B3 D (n - 1) := by
    refine quot_le (P := B3 ^ (n - 1)) ?_ ?_ hb
    · have h1 := Nat.div_add_mod W (B3 ^ (n - 1))
      have h2 := Nat.mod_lt W hP1
      rw [Nat.add_mul, Nat.one_mul, Nat.mul_comm]
      omega
    · rw [← hDl]
      exact Nat.div_mul_le_self _ _
  have hq2 : W / D ≤ 1073741823 := by
    have : W / D < 1073741824 := by
      rw [Nat.div_lt_iff_lt_mul hD0, Nat.mul_comm]
      exact hW
    omega
  -- taking away
  have l53 : ∀ (g : Nat), W / D ≤ g → g ≤ 1073741823 → ∀ (d k : Nat) (hp : jHp), k + d = n → fs m q n h hp → (∀ j, j < k → mI hp (m + 2) (q + j) = dg B3 (dif B3 W (g * D) k) j) → (∀ j, k ≤ j → j ≤ n → mI hp (m + 2) (q + j) = dg B3 W j) →
      J 175 53 0 0 [.ref m, .int (iI q), .int (iI n), uu, uu, .long (lI (g : Int)), uu, .long (lI ((g * (D % B3 ^ k) / B3 ^ k : Nat) : Int)), uu, .long (lI (lac B3 W (g * D) k : Int)), uu, .int (iI k), uu, uu, uu, uu] [] hp (stQ m q n W D h) := by
    intro g hg1 hg2 d
    induction d with
    | zero =>
      intro k hp hk f h1 h2
      obtain rfl : k = n := by omega
      have Mg := M.sk f.1
      have hl := lac_le (B := B3) (x := W) (y := g * D) (k := k)
      have hdk : dg B3 W k < 1073741824 := dg_lt (by decide)
      refine j_M_step_53 ⟨fun _ => j_M_step_140 ?_, fun c => absurd ((iI_le ⟨by omega, by omega⟩ ⟨by omega, by omega⟩).mpr (by omega)) c⟩
      rw [Mg.a3.1, iI_add, gI_q (by omega) (by omega), show ((q : Int) + (k : Int)).toNat = q + k by omega, h2 k (by omega) (by omega), iI_64 (rI_nat hdk), lI_sub, lI_sub]
      refine ⟨Mg.1, ixL_of Mg.a3.2 (by omega) (by omega) (by decide), ?_⟩
      rw [Nat.mod_eq_of_lt hD]
      have hc : g * D / B3 ^ k ≤ 1073741823 := by
        have : g * D / B3 ^ k ≤ g * B3 ^ k / B3 ^ k := Nat.div_le_div_right (Nat.mul_le_mul_left g (Nat.le_of_lt hD))
        rw [Nat.mul_div_cancel _ hP] at this
        omega
      have hcn : (0 : Int) ≤ ((g * D / B3 ^ k : Nat) : Int) := Int.natCast_nonneg _
      refine l_step157 M hn hq hD hD0 hd (g - W / D) g hp (dif B3 W (g * D) k) _ (by omega) (by omega) f (dif_lt (by decide)) h1 ?_ (by omega) (by omega)
      rw [dif_int (by decide), hdn, Int.sub_mul, Int.sub_mul]
      have e1 := Nat.div_add_mod W (B3 ^ k)
      have e2 := Nat.div_add_mod (g * D) (B3 ^ k)
      have e3 : ((W / B3 ^ k : Nat) : Int) * ((B3 ^ k : Nat) : Int) = ((B3 ^ k * (W / B3 ^ k) : Nat) : Int) := by rw [Int.natCast_mul, Int.mul_comm]
      have e4 : ((g * D / B3 ^ k : Nat) : Int) * ((B3 ^ k : Nat) : Int) = ((B3 ^ k * (g * D / B3 ^ k) : Nat) : Int) := by rw [Int.natCast_mul, Int.mul_comm]
      rw [e3, e4, ← Int.natCast_mul]
      generalize B3 ^ k * (W / B3 ^ k) = z1 at *
      generalize B3 ^ k * (g * D / B3 ^ k) = z2 at *
      generalize W % B3 ^ k = z3 at *
      generalize g * D % B3 ^ k = z4 at *
      generalize (lac B3 W (g * D) k : Int) * ((B3 ^ k : Nat) : Int) = z5
      omega
    | succ d ih =>
      intro k hp hk f h1 h2
      have Mg := M.sk f.1
      have hl := lac_le (B := B3) (x := W) (y := g * D) (k := k)
      have t1 : dg B3 W k < 1073741824 := dg_lt (by decide)
      have t2 : dg B3 D k < 1073741824 := dg_lt (by decide)
      have t3 : dg B3 (g * D) k < 1073741824 := dg_lt (by decide)
      have hPk : 0 < B3 ^ k := Nat.pow_pos (by decide)
      have hdk : mI hp (m + 3) k = dg B3 D k := by
        rw [f.at (fun z => by omega)]
        exact hd k (by omega)
      have u1 : g * (D % B3 ^ (k + 1)) = g * (D % B3 ^ k) + (g * dg B3 D k) * B3 ^ k := by
        rw [mod_succ, Nat.mul_add, Nat.mul_assoc]
      have u2 : g * (D % B3 ^ (k + 1)) / B3 ^ (k + 1) = (g * (D % B3 ^ k) / B3 ^ k + g * dg B3 D k) / 1073741824 := by
        rw [u1, acc_car3]
      have u3 : dg B3 (g * D) k = (g * (D % B3 ^ k) / B3 ^ k + g * dg B3 D k) % 1073741824 := by
        have : g * D = g * (D % B3 ^ (k + 1)) + (g * (D / B3 ^ (k + 1))) * B3 ^ (k + 1) := by
          rw [Nat.mul_assoc, ← Nat.mul_add, Nat.mul_comm (D / B3 ^ (k + 1)), Nat.mod_add_div]
        rw [this, acc_low (by decide) (Nat.lt_succ_self k), u1, acc_dg3]
      have hc : g * (D % B3 ^ k) / B3 ^ k ≤ 1073741823 := by
        have : g * (D % B3 ^ k) / B3 ^ k ≤ g * B3 ^ k / B3 ^ k := Nat.div_le_div_right (Nat.mul_le_mul_left g (Nat.le_of_lt (Nat.mod_lt _ hPk)))
        rw [Nat.mul_div_cancel _ hPk] at this
        omega
      have hgd : g * dg B3 D k ≤ 1073741823 * 1073741823 := Nat.mul_le_mul hg2 (by omega)
      obtain ⟨V, hV⟩ : ∃ V, V = g * (D % B3 ^ k) / B3 ^ k + g * dg B3 D k := ⟨_, rfl⟩
      have hV2 : ((g * (D % B3 ^ k) / B3 ^ k : Nat) : Int) + (g : Int) * (dg B3 D k : Int) = (V : Int) := by
        rw [hV, Int.natCast_add, Int.natCast_mul g]
      rw [← hV] at u2 u3
      have hls := lac_s (B := B3) (x := W) (y := g * D) (k := k) (by decide)
      have hds := dif_s (B := B3) (x := W) (y := g * D) (n := k) (by decide)
      have hdl := dif_lt (B := B3) (x := W) (y := g * D) (n := k) (by decide)
      refine j_M_step_53 ?_
      rw [Mg.a3.1, Mg.a4.1, iI_add, gI_q (by omega) (by omega), gI_q (by omega) (by omega), Int.toNat_natCast, hdk, show ((q : Int) + (k : Int)).toNat = q + k by omega, h2 k (by omega) (by omega), iI_64 (rI_nat t1), iI_64 (rI_nat t2), lI_mul, lI_add, hV2, lI_maskz, lI_hi (by omega) (by omega), lI_sub, lI_sub]
      have w1 : (V : Int) % 1073741824 = ((dg B3 (g * D) k : Nat) : Int) := by
        rw [u3]
        omega
      have w2 : (V : Int) / 1073741824 = ((g * (D % B3 ^ (k + 1)) / B3 ^ (k + 1) : Nat) : Int) := by
        rw [u2]
        omega
      rw [w1, w2]
      have cmp : 0 ≤ lg_cmp (lI ((dg B3 W k : Int) - (dg B3 (g * D) k : Int) - (lac B3 W (g * D) k : Int))) (lI ((0 : Nat) : Int)) ↔ 0 ≤ (dg B3 W k : Int) - (dg B3 (g * D) k : Int) - (lac B3 W (g * D) k : Int) := by
        rw [lg_cmp_ge]
        exact lI_le ⟨by omega, by omega⟩ ⟨by omega, by omega⟩
      rw [cmp]
      have l116 : ∀ y0 : Nat, y0 = lac B3 W (g * D) (k + 1) → J 175 116 0 0 [.ref m, .int (iI q), .int (iI n), uu, uu, .long (lI (g : Int)), uu, .long (lI ((g * (D % B3 ^ (k + 1)) / B3 ^ (k + 1) : Nat) : Int)), uu, uu, uu, .int (iI k), .long (lI ((dg B3 W k : Int) - (dg B3 (g * D) k : Int) - (lac B3 W (g * D) k : Int))), uu, uu, uu] [.long (lI (y0 : Int))] hp (stQ m q n W D h) := by
        intro y0 hy
        refine j_M_step_116 ?_
        rw [Mg.a3.1, iI_add, lI_maskz, lI_32, iI_cl (by omega) (by omega), iI_add, show ((q : Int) + (k : Int)).toNat = q + k by omega, hy]
        refine ⟨Mg.1, ix_of Mg.a3.2 (by omega) (by omega) (by decide), ?_⟩
        obtain ⟨E, hE⟩ : ∃ E, E = dg B3 W k + B3 * lac B3 W (g * D) (k + 1) - dg B3 (g * D) k - lac B3 W (g * D) k := ⟨_, rfl⟩
        rw [← hE] at hds
        have hE1 : E < 1073741824 ∧ ((dg B3 W k : Int) - (dg B3 (g * D) k : Int) - (lac B3 W (g * D) k : Int)) % 1073741824 = (E : Int) := by
          rw [hE, hls]
          have : B3 = 1073741824 := rfl
          split
          · constructor <;> omega
          · constructor <;> omega
        rw [hE1.2]
        have rE := rI_nat hE1.1
        refine ih (k + 1) _ (by omega) (f.w (by omega) (by omega)) (fun j hj => ?_) (fun j hj hj2 => ?_)
        · rw [mI_sI rE, hds]
          by_cases ej : j = k
          · rw [if_pos ⟨rfl, by omega⟩, ej, acc_dg3, Nat.div_eq_of_lt hdl, Nat.zero_add, Nat.mod_eq_of_lt hE1.1]
          · rw [if_neg (fun z => by omega), acc_low (by decide) (show j < k by omega)]
            exact h1 j (by omega)
        · rw [mI_sI rE, if_neg (fun z => by omega)]
          exact h2 j (by omega) (by omega)
      refine ⟨fun c => ?_, fun c => ⟨Mg.1, ixL_of Mg.a4.2 (by omega) (by omega) (by decide), Mg.1, ixL_of Mg.a3.2 (by omega) (by omega) (by decide), fun c2 => j_M_step_115 (l116 0 ?_), fun c2 => l116 1 ?_⟩⟩
      · rw [iI_le ⟨by omega, by omega⟩ ⟨by omega, by omega⟩] at c
        omega
      · rw [hls, if_neg (by omega)]
      · rw [hls, if_pos (by omega)]
  have t1 : dg B3 W n < 1073741824 := dg_lt (by decide)
  have t2 : dg B3 W (n - 1) < 1073741824 := dg_lt (by decide)
  have t3 : dg B3 D (n - 1) < 1073741824 := dg_lt (by decide)
  refine jRet_of (by decide) (by decide) (Nat.le_of_ble_eq_true rfl) (j_M_step_0 ?_)
  rw [M.a3.1, M.a4.1, iI_add, iI_sub, iI_sub, gI_q (by omega) (by omega), gI_q (by omega) (by omega), gI_q (by omega) (by omega), show ((q : Int) + (n : Int)).toNat = q + n by omega, show ((q : Int) + (n : Int) - 1).toNat = q + (n - 1) by omega, show ((n : Int) - 1).toNat = n - 1 by omega, hw n (Nat.le_refl n), hw (n - 1) (by omega), hd (n - 1) (by omega), iI_64 (rI_nat t1), iI_64 (rI_nat t2), iI_64 (rI_nat t3), lI_or30 t1 t2, ← hWl]
  obtain ⟨V, hV⟩ : ∃ V, V = W / B3 ^ (n - 1) := ⟨_, rfl⟩
  rw [← hV] at hq1 hWl ⊢
  have hV1 : V < 1073741824 * 1073741824 := by omega
  have hb0 : ¬ lI (dg B3 D (n - 1) : Int) = 0 := by
    rw [lI_0, lI_eq ⟨by omega, by omega⟩ ⟨by omega, by omega⟩]
    omega
  rw [lI_div (by omega) (by omega) (by omega) (by omega), ← Int.natCast_ediv]
  have hVq : V / dg B3 D (n - 1) ≤ V := Nat.div_le_self _ _
  refine ⟨M.1, ixL_of M.a3.2 (by omega) (by omega) (by decide), M.1, ixL_of M.a3.2 (by omega) (by omega) (by decide), M.1, ixL_of M.a4.2 (by omega) (by omega) (by decide), hb0, ?_⟩
  have fin : ∀ g : Nat, W / D ≤ g → g ≤ 1073741823 → J 175 53 0 0 [.ref m, .int (iI q), .int (iI n), uu, uu, .long (lI (g : Int)), uu, .long (lI ((0 : Nat) : Int)), uu, .long (lI ((0 : Nat) : Int)), uu, .int (iI 0), uu, uu, uu, uu] [] h (stQ m q n W D h) := by
    intro g h1 h2
    have := l53 g h1 h2 n 0 h (by omega) fs.rf (fun j hj => by omega) (fun j _ hj => hw j hj)
    rw [lac_0, Nat.pow_zero, Nat.mod_one, Nat.mul_zero, Nat.div_one] at this
    exact this
  have ej : jc 0 1073741823 = 1073741823 := by decide
  rw [ej]
  have hvn : (0 : Int) ≤ ((V / dg B3 D (n - 1) : Nat) : Int) := Int.natCast_nonneg _
  by_cases c : lI 1073741823 < lI ((V / dg B3 D (n - 1) : Nat) : Int)
  · rw [if_pos c]
    exact fin 1073741823 hq2 (Nat.le_refl _)
  · rw [if_neg c]
    rw [lI_lt ⟨by omega, by omega⟩ ⟨by omega, by omega⟩] at c
    exact fin _ hq1 (by omega)
end STEP
