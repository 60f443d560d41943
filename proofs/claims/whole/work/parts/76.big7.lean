/-! numbers of the class: takeAway -/
section BIG
variable {r b : Nat} {h : jHp}
def taQ (b s k t W D : Nat) (h : jHp) : jQ := fun q h' => q = some (.int (iI ((W / D : Nat) : Int))) ∧ fg (lmS b k t) h h' ∧ (∀ j, j < t → mI h' (b + 1) (k + j) = dg B6 (W % D) j) ∧ (k + t < s → mI h' (b + 1) (k + t) = 0)
theorem c_BtakeAway {rc c s k t W D : Nat} {S0 : Nat} (B : BO r b h) (R : RB r b h s S0) (C1 : BO rc c h) (hc : c ≠ b ∧ c ≠ b + 1 ∧ b ≠ c + 1) (RD : RB rc c h t D) (ht : 1 ≤ t) (hDt : 0 < dg B6 D (t - 1)) (hks : k + t ≤ s) (hW : ∀ j, j < t → dg B6 S0 (k + j) = dg B6 W j) (hWt : dg B6 S0 (k + t) = dg B6 W t) (hWD : W < D * 1000000) :
    jRet 17 0 0 [.ref b, .ref c, .int (iI (k : Int))] h (taQ b s k t W D h) := by
  have hr := B.2.2.2
  have hrc := C1.2.2.2
  have R0 := R
  obtain ⟨s1, s2, s3, s4⟩ := R
  have RD0 := RD
  obtain ⟨t1, t2, t3, t4⟩ := RD
  have hD0 : 0 < D := by
    rcases Nat.eq_zero_or_pos D with z | z
    · rw [z] at hWD
      omega
    · exact z
  have hP : 0 < B6 ^ t := Nat.pow_pos (by decide)
  have hWn : W < B6 ^ t * 1000000 := Nat.lt_of_lt_of_le hWD (Nat.mul_le_mul_right _ (Nat.le_of_lt t3))
  have hWh : W / B6 ^ t < 1000000 := by
    rw [Nat.div_lt_iff_lt_mul hP, Nat.mul_comm]
    exact hWn
  have hdn : dg B6 W t = W / B6 ^ t := by
    unfold dg
    exact Nat.mod_eq_of_lt hWh
  have lim : ∀ j, j < t → mI h (b + 1) (k + j) = dg B6 W j := fun j hj => by
    rw [s4 (k + j) (by omega), hW j hj]
  -- the end
  have l154 : ∀ (q : Nat) (g : jHp), q = W / D → q < 1000000 → fg (lmS b k t) h g → (∀ j, j < t → mI g (b + 1) (k + j) = dg B6 (W % D) j) → J 17 154 0 0 [.ref b, uu, uu, .int (iI ((k : Int) + (t : Int))), uu, uu, uu, uu, .long (lI (q : Int)), uu, uu, uu, uu] [] g (taQ b s k t W D h) := by
    intro q g hq hq6 f g3
    have Bg := bo_sk B f.1
    refine j_Bi_takeAway_154 ?_
    rw [gI_mI g b 1, f.eq (by unfold lmS; omega), s1, iI_le ⟨by omega, by omega⟩ ⟨by omega, by omega⟩, Bg.2.1, iI_cl (by omega) (by omega), show ((k : Int) + (t : Int)).toNat = k + t by omega]
    refine ⟨Bg.1, fun z => j_Bi_takeAway_169 ⟨?_, f, g3, fun y => by omega⟩, fun z => ⟨Bg.1, ix_of Bg.2.2.1 (by omega) (by omega) (by omega), j_Bi_takeAway_169 ⟨?_, f.wr (by unfold lmS; omega), fun j hj => ?_, fun _ => ?_⟩⟩⟩
    · rw [lI_32, hq]
    · rw [lI_32, hq]
    · rw [mI_sI ⟨by omega, by omega⟩, if_neg (fun z => by omega)]
      exact g3 j hj
    · rw [mI_sI ⟨by omega, by omega⟩, if_pos ⟨rfl, rfl⟩]
  -- taking away and giving back
  have l97 : ∀ g : Nat, 0 < g → W / D ≤ g → g ≤ W / D + 1 → g ≤ 1000000 → J 17 97 0 0 [.ref b, .ref c, .int (iI (k : Int)), .int (iI ((k : Int) + (t : Int))), uu, uu, uu, uu, .long (lI (g : Int)), uu, uu, uu, uu] [] h (taQ b s k t W D h) := by
    intro g hg0 hg1 hg2 hg3
    have hqD : W / D < 1000000 := by
      rw [Nat.div_lt_iff_lt_mul hD0, Nat.mul_comm]
      exact hWD
    refine j_Bi_takeAway_97 ⟨B.1, ?_⟩
    refine jRet_mono (c_Blimb B R0 (i := (k : Int) + (t : Int)) ⟨by omega, by omega⟩) ?_
    intro q1 h1 w1
    obtain ⟨e1, e2⟩ := w1
    rw [e2]
    rw [if_pos (by omega), show ((k : Int) + (t : Int)).toNat = k + t by omega, hWt] at e1
    refine ⟨_, e1, B.1, jRet_mono (c_BtakeTimes B C1 hc s1 s2 t1 t2 t4 hks lim hg3) ?_⟩
    intro q2 h2 w2
    obtain ⟨bo, e3, e4, e5, e6, N, e7, e8, e9⟩ := w2
    have B2 := bo_sk B e5.1
    have C2 := bo_sk C1 e5.1
    have dWt : dg B6 W t < 1000000 := dg_lt (by decide)
    refine ⟨_, e3, ?_⟩
    rw [iI_64 (rI6 dWt), lI_sub]
    rw [Nat.mod_eq_of_lt t3] at e9
    have hW2 := Nat.div_add_mod W (B6 ^ t)
    have key : (N : Int) + ((dg B6 W t : Int) - (bo : Int)) * ((B6 ^ t : Nat) : Int) = (W : Int) - (g : Int) * (D : Int) := by
      rw [Int.sub_mul]
      have a1 : (dg B6 W t : Int) * ((B6 ^ t : Nat) : Int) = ((B6 ^ t * (W / B6 ^ t) : Nat) : Int) := by rw [hdn, Int.natCast_mul, Int.mul_comm]
      rw [a1]
      generalize B6 ^ t * (W / B6 ^ t) = z1 at hW2 ⊢
      generalize W % B6 ^ t = z2 at hW2 e9
      generalize (g : Int) * (D : Int) = z3 at e9 ⊢
      generalize (bo : Int) * ((B6 ^ t : Nat) : Int) = z4 at e9 ⊢
      omega
    have hdm := Nat.div_add_mod W D
    have hml := Nat.mod_lt W hD0
    rw [Nat.mul_comm] at hdm
    have rL1 : rL ((dg B6 W t : Int) - (bo : Int)) := ⟨by omega, by omega⟩
    have cmp : 0 ≤ lg_cmp (lI ((dg B6 W t : Int) - (bo : Int))) (lI ((0 : Nat) : Int)) ↔ 0 ≤ (dg B6 W t : Int) - (bo : Int) := by
      rw [lg_cmp_ge]
      exact lI_le ⟨by omega, by omega⟩ rL1
    by_cases c1 : g = W / D
    · have k2 : (N : Int) + ((dg B6 W t : Int) - (bo : Int)) * ((B6 ^ t : Nat) : Int) = ((W % D : Nat) : Int) := by
        rw [key, c1, ← Int.natCast_mul]
        omega
      obtain ⟨z1, z2⟩ := top_0 k2 e7 (Nat.lt_trans hml t3)
      rw [z2] at e8
      refine j_Bi_takeAway_117 ⟨fun z => l154 g h2 c1 (by omega) e5 e8, fun _ => ?_⟩
      rw [cmp]
      exact ⟨fun _ => l154 g h2 c1 (by omega) e5 e8, fun z => absurd (by omega) z⟩
    · have hg : g = W / D + 1 := by omega
      have hX : (W : Int) - (g : Int) * (D : Int) < 0 := by
        rw [hg, ← Int.natCast_mul, Nat.add_mul, Nat.one_mul]
        omega
      have hL : (dg B6 W t : Int) - (bo : Int) < 0 := top_lt key e7 hX
      refine j_Bi_takeAway_117 ⟨fun z => absurd z (by rw [iI_le ⟨by omega, by omega⟩ ⟨by omega, by omega⟩]; omega), fun _ => ?_⟩
      rw [cmp]
      refine ⟨fun z => absurd z (by omega), fun _ => ⟨B2.1, jRet_mono (c_BgiveBack (T := N) (D := D) B2 C2 hc (by rw [e5.eq (by unfold lmS; omega)]; exact s1) s2 (by rw [e5.eq (by unfold lmS; omega)]; exact t1) t2 (fun j hj => by rw [e5.eq (by unfold lmS; omega)]; exact t4 j hj) hks e8) ?_⟩⟩
      intro q3 h3 w3
      obtain ⟨i1, i2, i3, i4⟩ := w3
      have cl := car_le (B := B6) (x := N) (y := D) (k := t) (by decide)
      refine ⟨_, i1, ?_⟩
      rw [iI_64 ⟨by omega, by omega⟩, lI_add, lI_sub, iI_add, show (g : Int) - ((1 : Nat) : Int) = ((g - 1 : Nat) : Int) by omega]
      have hcar : car B6 N D t = (N + D) / B6 ^ t := by
        unfold car
        rw [Nat.mod_eq_of_lt e7, Nat.mod_eq_of_lt t3]
      have e10 := Nat.mod_add_div (N + D) (B6 ^ t)
      have k2 : (((N + D) % B6 ^ t : Nat) : Int) + ((dg B6 W t : Int) - (bo : Int) + (car B6 N D t : Int)) * ((B6 ^ t : Nat) : Int) = ((W % D : Nat) : Int) := by
        have a2 : (car B6 N D t : Int) * ((B6 ^ t : Nat) : Int) = ((B6 ^ t * ((N + D) / B6 ^ t) : Nat) : Int) := by rw [hcar, Int.natCast_mul, Int.mul_comm]
        rw [Int.add_mul, a2]
        have a3 : (W : Int) - (g : Int) * (D : Int) + (D : Int) = ((W % D : Nat) : Int) := by
          rw [hg, ← Int.natCast_mul, Nat.add_mul, Nat.one_mul]
          omega
        generalize B6 ^ t * ((N + D) / B6 ^ t) = z1 at e10 ⊢
        generalize (N + D) % B6 ^ t = z2 at e10 ⊢
        generalize (g : Int) * (D : Int) = z3 at key a3
        generalize ((dg B6 W t : Int) - (bo : Int)) * ((B6 ^ t : Nat) : Int) = z4 at key ⊢
        omega
      obtain ⟨z1, z2⟩ := top_0 k2 (Nat.mod_lt _ hP) (Nat.lt_trans hml t3)
      have fin := l154 (g - 1) h3 (by omega) (by omega) (e5.tr i2) (fun j hj => by
        rw [i4 j hj, ← z2, dg_mod (by decide) hj])
      refine j_Bi_takeAway_117 ⟨fun z => fin, fun _ => ?_⟩
      rw [z1]
      exact ⟨fun _ => fin, fun z => absurd (by decide) z⟩
  -- the guess
  have l86 : ∀ g : Nat, W / D ≤ g → g ≤ W / D + 1 → g ≤ 1000000 → J 17 86 0 0 [.ref b, .ref c, .int (iI (k : Int)), .int (iI ((k : Int) + (t : Int))), uu, uu, uu, uu, uu, uu, uu, uu, uu] [.long (lI (g : Int))] h (taQ b s k t W D h) := by
    intro g hg1 hg2 hg3
    refine j_Bi_takeAway_86 ?_
    rw [lg_0 (by omega)]
    refine ⟨fun z => l97 g (by omega) hg1 hg2 hg3, fun z => ⟨?_, fg.rf, fun j hj => ?_, fun hj => ?_⟩⟩
    · rw [show W / D = 0 from Nat.le_zero.mp (by rw [← z]; exact hg1)]
      rfl
    · have hlt : W < D := by
        rcases Nat.lt_or_ge W D with y | y
        · exact y
        · have := Nat.div_pos y hD0
          omega
      rw [lim j hj, Nat.mod_eq_of_lt hlt]
    · have hlt : W < D := by
        rcases Nat.lt_or_ge W D with y | y
        · exact y
        · have := Nat.div_pos y hD0
          omega
      rw [s4 (k + t) hj, hWt, hdn, Nat.div_eq_of_lt (Nat.lt_trans hlt t3)]
      rfl
  refine jRet_of (by decide) (by decide) (Nat.le_of_ble_eq_true rfl) (j_Bi_takeAway_0 ⟨C1.1, B.1, ?_⟩)
  rw [gI_mI h c 1, t1, iI_add, iI_sub, iI_sub]
  refine jRet_mono (c_Blimb B R0 (i := (k : Int) + (t : Int)) ⟨by omega, by omega⟩) ?_
  intro q1 h1 w1
  obtain ⟨e1, e2⟩ := w1
  rw [e2]
  rw [if_pos (by omega), show ((k : Int) + (t : Int)).toNat = k + t by omega, hWt] at e1
  refine ⟨_, e1, B.1, jRet_mono (c_Blimb B R0 (i := (k : Int) + (t : Int) - 1) ⟨by omega, by omega⟩) ?_⟩
  intro q2 h2 w2
  obtain ⟨e3, e4⟩ := w2
  rw [e4]
  rw [if_pos (by omega), show ((k : Int) + (t : Int) - 1).toNat = k + (t - 1) by omega, hW (t - 1) (by omega)] at e3
  refine ⟨_, e3, B.1, jRet_mono (c_Blimb B R0 (i := (k : Int) + (t : Int) - 2) ⟨by omega, by omega⟩) ?_⟩
  intro q3 h3 w3
  obtain ⟨e5, e6⟩ := w3
  rw [e6]
  refine ⟨_, e5, C1.1, C1.1, ?_⟩
  rw [gI_mI h c 1, t1, iI_sub]
  refine jRet_mono (c_Blimb C1 RD0 (i := (t : Int) - 1) ⟨by omega, by omega⟩) ?_
  intro q4 h4 w4
  obtain ⟨e7, e8⟩ := w4
  rw [e8]
  rw [if_pos (by omega), show ((t : Int) - 1).toNat = t - 1 by omega] at e7
  refine ⟨_, e7, C1.1, C1.1, ?_⟩
  rw [gI_mI h c 1, t1, iI_sub]
  refine jRet_mono (c_Blimb C1 RD0 (i := (t : Int) - 2) ⟨by omega, by omega⟩) ?_
  intro q5 h5 w5
  obtain ⟨e9, e10⟩ := w5
  rw [e10]
  refine ⟨_, e9, ?_⟩
  have x1 : dg B6 W t < 1000000 := dg_lt (by decide)
  have x2 : dg B6 W (t - 1) < 1000000 := dg_lt (by decide)
  have x4 : dg B6 D (t - 1) < 1000000 := dg_lt (by decide)
  -- the two low limbs
  obtain ⟨lo, hlo, hlo2⟩ : ∃ lo : Nat, lo < 1000000 ∧ (if 0 ≤ (k : Int) + (t : Int) - 2 then (dg B6 S0 ((k : Int) + (t : Int) - 2).toNat : Int) else 0) = (lo : Int) := by
    by_cases y : 0 ≤ (k : Int) + (t : Int) - 2
    · exact ⟨_, dg_lt (by decide), by rw [if_pos y]⟩
    · exact ⟨0, by decide, by rw [if_neg y]; rfl⟩
  obtain ⟨dl, hdl, hdl2⟩ : ∃ dl : Nat, dl < 1000000 ∧ (if 0 ≤ (t : Int) - 2 then (dg B6 D ((t : Int) - 2).toNat : Int) else 0) = (dl : Int) := by
    by_cases y : 0 ≤ (t : Int) - 2
    · exact ⟨_, dg_lt (by decide), by rw [if_pos y]⟩
    · exact ⟨0, by decide, by rw [if_neg y]; rfl⟩
  rw [hlo2, hdl2, jc6, iI_64 (rI6 x1), iI_64 (rI6 x2), iI_64 (rI6 x4), iI_64 (rI6 hlo), iI_64 (rI6 hdl), lI_mul, lI_add, lI_mul, lI_add, lI_mul, lI_add]
  obtain ⟨Hd, hHd⟩ : ∃ Hd : Nat, Hd = dg B6 D (t - 1) * 1000000 + dl := ⟨_, rfl⟩
  obtain ⟨Wd, hWd⟩ : ∃ Wd : Nat, Wd = (dg B6 W t * 1000000 + dg B6 W (t - 1)) * 1000000 + lo := ⟨_, rfl⟩
  have hH6 : 1000000 ≤ Hd := by omega
  rw [show (dg B6 D (t - 1) : Int) * 1000000 + (dl : Int) = (Hd : Int) by omega, show ((dg B6 W t : Int) * 1000000 + (dg B6 W (t - 1) : Int)) * 1000000 + (lo : Int) = (Wd : Int) by omega]
  have cmp : lg_cmp (lI (Hd : Int)) (lI ((0 : Nat) : Int)) ≤ 0 ↔ Hd = 0 := by
    rw [lg_cmp_le, lI_le ⟨by omega, by omega⟩ ⟨by omega, by omega⟩]
    omega
  rw [cmp]
  refine ⟨fun z => by omega, fun _ => ⟨by rw [lI_0, lI_eq ⟨by omega, by omega⟩ ⟨by omega, by omega⟩]; omega, ?_⟩⟩
  rw [lI_div (by omega) (by omega) (by omega) (by omega), ← Int.natCast_ediv]
  have hqD : W / D < 1000000 := by
    rw [Nat.div_lt_iff_lt_mul hD0, Nat.mul_comm]
    exact hWD
  by_cases ct : t = 1
  · -- a divisor of one limb
    subst ct
    have hDd : dg B6 D 0 = D := by
      unfold dg
      rw [Nat.pow_zero, Nat.div_one]
      rw [Nat.pow_one] at t3
      exact Nat.mod_eq_of_lt t3
    have hdl0 : dl = 0 := by
      rw [if_neg (by decide)] at hdl2
      omega
    have hWw : dg B6 W 1 * 1000000 + dg B6 W 0 = W := by
      have a1 := div_succ B6 W 0
      rw [Nat.pow_zero, Nat.div_one, Nat.zero_add, ← hdn] at a1
      rw [Nat.mul_comm]
      exact a1.symm
    have eq1 : Wd / Hd = W / D := by
      have a1 : Hd = 1000000 * D := by
        rw [hHd, hdl0]
        show dg B6 D 0 * 1000000 + 0 = _
        rw [hDd, Nat.add_zero, Nat.mul_comm]
      have a2 : Wd = 1000000 * W + lo := by
        rw [hWd]
        show (dg B6 W 1 * 1000000 + dg B6 W 0) * 1000000 + lo = _
        rw [hWw, Nat.mul_comm]
      rw [a1, a2, ← Nat.div_div_eq_div_mul, Nat.mul_add_div (by decide), Nat.div_eq_of_lt hlo, Nat.add_zero]
    rw [eq1]
    exact l86 _ (Nat.le_refl _) (Nat.le_succ _) (Nat.le_of_lt hqD)
  · -- two limbs and more
    have hP2 : 0 < B6 ^ (t - 2) := Nat.pow_pos (by decide)
    have lo' : lo = dg B6 W (t - 2) := by
      rw [if_pos (by omega), show ((k : Int) + (t : Int) - 2).toNat = k + (t - 2) by omega, hW (t - 2) (by omega)] at hlo2
      omega
    have dl' : dl = dg B6 D (t - 2) := by
      rw [if_pos (by omega), show ((t : Int) - 2).toNat = t - 2 by omega] at hdl2
      omega
    have eH : Hd = D / B6 ^ (t - 2) := by
      have a1 := div_succ B6 D (t - 2)
      have a2 := div_succ B6 D (t - 1)
      rw [show t - 2 + 1 = t - 1 by omega] at a1
      rw [show t - 1 + 1 = t by omega, Nat.div_eq_of_lt t3] at a2
      have a3 : D / B6 ^ (t - 2) = 1000000 * (D / B6 ^ (t - 1)) + dg B6 D (t - 2) := a1
      omega
    have eW : Wd = W / B6 ^ (t - 2) := by
      have a1 := div_succ B6 W (t - 2)
      have a2 := div_succ B6 W (t - 1)
      rw [show t - 2 + 1 = t - 1 by omega] at a1
      rw [show t - 1 + 1 = t by omega, ← hdn] at a2
      have a3 : W / B6 ^ (t - 2) = 1000000 * (W / B6 ^ (t - 1)) + dg B6 W (t - 2) := a1
      have a4 : W / B6 ^ (t - 1) = 1000000 * dg B6 W t + dg B6 W (t - 1) := a2
      omega
    have hDlt : D < (Hd + 1) * B6 ^ (t - 2) := by
      rw [eH]
      have a1 := Nat.div_add_mod D (B6 ^ (t - 2))
      have a2 := Nat.mod_lt D hP2
      rw [Nat.add_mul, Nat.one_mul, Nat.mul_comm]
      omega
    obtain ⟨g1, g2⟩ := guess_1 hDlt hWD hH6 hP2 (q := Wd / Hd) (by rw [eW])
    refine l86 _ ?_ g2 g1
    refine quot_le (P := B6 ^ (t - 2)) ?_ ?_ (by omega)
    · rw [eW]
      have a1 := Nat.div_add_mod W (B6 ^ (t - 2))
      have a2 := Nat.mod_lt W hP2
      rw [Nat.add_mul, Nat.one_mul, Nat.mul_comm]
      omega
    · rw [eH]
      exact Nat.div_mul_le_self _ _
end BIG
