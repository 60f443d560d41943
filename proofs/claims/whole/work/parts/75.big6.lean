/-! numbers of the class: a digit of a quotient -/
theorem guess_1 {W D H P q : Nat} (hD : D < (H + 1) * P) (hW : W < D * 1000000) (hH : 1000000 ≤ H) (hP : 0 < P) (hq : q = W / P / H) : q ≤ 1000000 ∧ q ≤ W / D + 1 := by
  have h1 : q * H ≤ W / P := by
    rw [hq]
    exact Nat.div_mul_le_self _ _
  have h2 : W / P < (H + 1) * 1000000 := by
    rw [Nat.div_lt_iff_lt_mul hP]
    have : D * 1000000 ≤ (H + 1) * P * 1000000 := Nat.mul_le_mul_right _ (Nat.le_of_lt hD)
    rw [Nat.mul_assoc, Nat.mul_comm 1000000 P, ← Nat.mul_assoc]
    exact Nat.lt_of_lt_of_le hW this
  have h3 : q ≤ 1000000 := by
    rcases Nat.lt_or_ge 1000000 q with z | z
    · have : 1000001 * H ≤ q * H := Nat.mul_le_mul_right H z
      omega
    · exact z
  refine ⟨h3, ?_⟩
  rcases Nat.eq_zero_or_pos q with z | z
  · rw [z]
    exact Nat.zero_le _
  have hD0 : 0 < D := by
    rcases Nat.eq_zero_or_pos D with y | y
    · rw [y] at hW
      omega
    · exact y
  have h4 : (q - 1) * D ≤ W := by
    have a1 : (q - 1) * D ≤ (q - 1) * ((H + 1) * P) := Nat.mul_le_mul_left _ (Nat.le_of_lt hD)
    have a2 : (q - 1) * ((H + 1) * P) = (q - 1) * (H + 1) * P := (Nat.mul_assoc _ _ _).symm
    have a3 : (q - 1) * (H + 1) ≤ W / P := by
      have e : (q - 1) * (H + 1) + H = q * H + (q - 1) := by
        obtain ⟨p, rfl⟩ : ∃ p, q = p + 1 := ⟨q - 1, by omega⟩
        rw [Nat.add_sub_cancel]
        grind
      omega
    have a4 : (q - 1) * (H + 1) * P ≤ W / P * P := Nat.mul_le_mul_right P a3
    have a5 := Nat.div_mul_le_self W P
    omega
  have := (Nat.le_div_iff_mul_le hD0).mpr h4
  omega
section BIG
variable {r b : Nat} {h : jHp}
def lmS (b k t p j : Nat) : Prop := p = b + 1 ∧ k ≤ j ∧ j ≤ k + t
theorem c_BtakeTimes {rc c s k t g W D : Nat} (B : BO r b h) (C1 : BO rc c h) (hc : c ≠ b ∧ c ≠ b + 1 ∧ b ≠ c + 1) (h1 : mI h b 1 = (s : Int)) (hs : s ≤ r) (t1 : mI h c 1 = (t : Int)) (t2 : t ≤ rc) (hD : ∀ j, j < t → mI h (c + 1) j = dg B6 D j) (hks : k + t ≤ s) (hW : ∀ j, j < t → mI h (b + 1) (k + j) = dg B6 W j) (hg : g ≤ 1000000) :
    jRet 19 0 0 [.ref b, .ref c, .long (lI (g : Int)), .int (iI (k : Int))] h (fun q h' => ∃ bo : Nat, q = some (.long (lI (bo : Int))) ∧ bo ≤ 1000001 ∧ fg (lmS b k t) h h' ∧ mI h' (b + 1) (k + t) = mI h (b + 1) (k + t) ∧ ∃ N : Nat, N < B6 ^ t ∧ (∀ j, j < t → mI h' (b + 1) (k + j) = dg B6 N j) ∧ (N : Int) - (bo : Int) * ((B6 ^ t : Nat) : Int) = ((W % B6 ^ t : Nat) : Int) - (g : Int) * ((D % B6 ^ t : Nat) : Int)) := by
  have hr := B.2.2.2
  have hrc := C1.2.2.2
  have j9 : jc 0 999999 = 999999 := by decide
  have loop : ∀ (d i bo N : Nat) (g1 : jHp), i + d = t → bo ≤ 1000001 → fg (lmS b k t) h g1 → mI g1 (b + 1) (k + t) = mI h (b + 1) (k + t) → N < B6 ^ i → (∀ j, j < i → mI g1 (b + 1) (k + j) = dg B6 N j) → (∀ j, i ≤ j → j < t → mI g1 (b + 1) (k + j) = dg B6 W j) → (N : Int) - (bo : Int) * ((B6 ^ i : Nat) : Int) = ((W % B6 ^ i : Nat) : Int) - (g : Int) * ((D % B6 ^ i : Nat) : Int) →
      J 19 6 0 0 [.ref b, .ref c, .long (lI (g : Int)), uu, .int (iI (k : Int)), .long (lI (bo : Int)), uu, .int (iI (i : Int)), uu, uu] [] g1 (fun q h' => ∃ bo : Nat, q = some (.long (lI (bo : Int))) ∧ bo ≤ 1000001 ∧ fg (lmS b k t) h h' ∧ mI h' (b + 1) (k + t) = mI h (b + 1) (k + t) ∧ ∃ N : Nat, N < B6 ^ t ∧ (∀ j, j < t → mI h' (b + 1) (k + j) = dg B6 N j) ∧ (N : Int) - (bo : Int) * ((B6 ^ t : Nat) : Int) = ((W % B6 ^ t : Nat) : Int) - (g : Int) * ((D % B6 ^ t : Nat) : Int)) := by
    intro d
    induction d with
    | zero =>
      intro i bo N g1 hi hbo f ft hN g3 g4 he
      obtain rfl : i = t := by omega
      have Cg := bo_sk C1 f.1
      refine j_Bi_takeTimes_6 ?_
      rw [gI_mI g1 c 1, f.eq (by unfold lmS; omega), t1, iI_le ⟨by omega, by omega⟩ ⟨by omega, by omega⟩]
      exact ⟨Cg.1, fun _ => j_Bi_takeTimes_103 ⟨bo, rfl, hbo, f, ft, N, hN, g3, he⟩, fun z => absurd (Int.le_refl _) z⟩
    | succ d ih =>
      intro i bo N g1 hi hbo f ft hN g3 g4 he
      have Bg := bo_sk B f.1
      have Cg := bo_sk C1 f.1
      have d1 : dg B6 W i < 1000000 := dg_lt (by decide)
      have d2 : dg B6 D i < 1000000 := dg_lt (by decide)
      have hgd : g * dg B6 D i ≤ 1000000 * 999999 := Nat.mul_le_mul hg (by omega)
      have hcl : mI g1 (c + 1) i = dg B6 D i := by
        rw [f.eq (by unfold lmS; omega)]
        exact hD i (by omega)
      obtain ⟨G, hG⟩ : ∃ G, G = g * dg B6 D i := ⟨_, rfl⟩
      have hG2 : (g : Int) * (dg B6 D i : Int) = (G : Int) := by rw [hG, Int.natCast_mul]
      rw [← hG] at hgd
      refine j_Bi_takeTimes_6 ?_
      rw [gI_mI g1 c 1, f.eq (by unfold lmS; omega), t1, gI_mI g1 b 1, f.eq (by unfold lmS; omega), h1, iI_add, iI_le ⟨by omega, by omega⟩ ⟨by omega, by omega⟩, iI_le ⟨by omega, by omega⟩ ⟨by omega, by omega⟩, Bg.2.1, Cg.2.1, gI_q (by omega) (by omega), gI_q (by omega) (by omega), Int.toNat_natCast, show ((k : Int) + (i : Int)).toNat = k + i by omega, g4 i (by omega) (by omega), hcl, iI_64 (rI6 d1), iI_64 (rI6 d2), lI_mul, hG2, lI_sub, lI_sub, jc6, j9, lI_sub]
      have cmp : 0 ≤ lg_cmp (lI ((dg B6 W i : Int) - (G : Int) - (bo : Int))) (lI ((0 : Nat) : Int)) ↔ 0 ≤ (dg B6 W i : Int) - (G : Int) - (bo : Int) := by
        rw [lg_cmp_ge]
        exact lI_le ⟨by omega, by omega⟩ ⟨by omega, by omega⟩
      rw [cmp]
      have l75 : ∀ bo' : Nat, bo' ≤ 1000001 → 0 ≤ (dg B6 W i : Int) - (G : Int) - (bo : Int) + (bo' : Int) * 1000000 → (dg B6 W i : Int) - (G : Int) - (bo : Int) + (bo' : Int) * 1000000 < 1000000 → J 19 75 0 0 [.ref b, .ref c, .long (lI (g : Int)), uu, .int (iI (k : Int)), uu, uu, .int (iI (i : Int)), .long (lI ((dg B6 W i : Int) - (G : Int) - (bo : Int))), uu] [.long (lI (bo' : Int))] g1 (fun q h' => ∃ bo : Nat, q = some (.long (lI (bo : Int))) ∧ bo ≤ 1000001 ∧ fg (lmS b k t) h h' ∧ mI h' (b + 1) (k + t) = mI h (b + 1) (k + t) ∧ ∃ N : Nat, N < B6 ^ t ∧ (∀ j, j < t → mI h' (b + 1) (k + j) = dg B6 N j) ∧ (N : Int) - (bo : Int) * ((B6 ^ t : Nat) : Int) = ((W % B6 ^ t : Nat) : Int) - (g : Int) * ((D % B6 ^ t : Nat) : Int)) := by
        intro bo' hb' hlo hhi
        obtain ⟨L, hL⟩ : ∃ L : Nat, (L : Int) = (dg B6 W i : Int) - (G : Int) - (bo : Int) + (bo' : Int) * 1000000 := ⟨_, Int.toNat_of_nonneg hlo⟩
        have hL6 : L < 1000000 := by omega
        refine j_Bi_takeTimes_75 ?_
        rw [Bg.2.1, jc6, lI_mul, lI_add, lI_32, ← hL, iI_add, iI_add, iI_cl (by omega) (by omega), show ((k : Int) + (i : Int)).toNat = k + i by omega]
        refine ⟨Bg.1, ix_of Bg.2.2.1 (by omega) (by omega) (by omega), ih (i + 1) bo' (N + L * B6 ^ i) _ (by omega) hb' (f.wr (by unfold lmS; omega)) ?_ ?_ (fun j hj => ?_) (fun j hj hj2 => ?_) ?_⟩
        · rw [mI_sI (rI6 hL6), if_neg (fun z => by omega)]
          exact ft
        · rw [Nat.pow_succ]
          have : (L + 1) * B6 ^ i ≤ 1000000 * B6 ^ i := Nat.mul_le_mul_right _ hL6
          rw [Nat.add_mul, Nat.one_mul] at this
          show _ < B6 ^ i * 1000000
          omega
        · rw [mI_sI (rI6 hL6)]
          by_cases e : j = i
          · rw [if_pos ⟨rfl, by omega⟩, e, acc_dg (by decide), Nat.div_eq_of_lt hN, Nat.zero_add, Nat.mod_eq_of_lt hL6]
          · rw [if_neg (fun z => by omega), acc_low (by decide) (by omega)]
            exact g3 j (by omega)
        · rw [mI_sI (rI6 hL6), if_neg (fun z => by omega)]
          exact g4 j (by omega) (by omega)
        · rw [mod_succ, mod_succ, Nat.pow_succ]
          have e6 : ((B6 ^ i * B6 : Nat) : Int) = ((B6 ^ i : Nat) : Int) * 1000000 := Int.natCast_mul _ _
          rw [e6]
          simp only [Int.natCast_add, Int.natCast_mul] at he ⊢
          rw [hL]
          have hG3 : (G : Int) = (g : Int) * (dg B6 D i : Int) := hG2.symm
          rw [hG3]
          grind
      refine ⟨Cg.1, fun z => by omega, fun _ => ⟨Bg.1, fun z => by omega, fun _ => ⟨Bg.1, ixL_of Bg.2.2.1 (by omega) (by omega) (by omega), Cg.1, ixL_of Cg.2.2.1 (by omega) (by omega) (by omega), fun z => j_Bi_takeTimes_74 (l75 0 (by omega) (by omega) (by omega)), fun z => ⟨nz6, ?_⟩⟩⟩⟩
      rw [lI_div (by omega) (by omega) (by omega) (by omega)]
      obtain ⟨q, hq⟩ : ∃ q : Nat, (q : Int) = (999999 - ((dg B6 W i : Int) - (G : Int) - (bo : Int))) / 1000000 := ⟨_, Int.toNat_of_nonneg (by omega)⟩
      rw [← hq]
      exact l75 q (by omega) (by omega) (by omega)
  refine jRet_of (by decide) (by decide) (Nat.le_of_ble_eq_true rfl) (j_Bi_takeTimes_0 ?_)
  exact loop t 0 0 0 h (by omega) (by omega) fg.rf rfl (by decide) (fun j hj => by omega) (fun j _ hj => hW j hj) (by rw [Nat.pow_zero, Nat.mod_one, Nat.mod_one]; rfl)
theorem c_BgiveBack {rc c s k t T D : Nat} (B : BO r b h) (C1 : BO rc c h) (hc : c ≠ b ∧ c ≠ b + 1 ∧ b ≠ c + 1) (h1 : mI h b 1 = (s : Int)) (hs : s ≤ r) (t1 : mI h c 1 = (t : Int)) (t2 : t ≤ rc) (hD : ∀ j, j < t → mI h (c + 1) j = dg B6 D j) (hks : k + t ≤ s) (hT : ∀ j, j < t → mI h (b + 1) (k + j) = dg B6 T j) :
    jRet 20 0 0 [.ref b, .ref c, .int (iI (k : Int))] h (fun q h' => q = some (.int (iI (car B6 T D t : Int))) ∧ fg (lmS b k t) h h' ∧ mI h' (b + 1) (k + t) = mI h (b + 1) (k + t) ∧ ∀ j, j < t → mI h' (b + 1) (k + j) = dg B6 (T + D) j) := by
  have hr := B.2.2.2
  have hrc := C1.2.2.2
  have loop : ∀ (d i : Nat) (g1 : jHp), i + d = t → fg (lmS b k t) h g1 → mI g1 (b + 1) (k + t) = mI h (b + 1) (k + t) → (∀ j, j < i → mI g1 (b + 1) (k + j) = dg B6 (T + D) j) → (∀ j, i ≤ j → j < t → mI g1 (b + 1) (k + j) = dg B6 T j) → J 20 5 0 0 [.ref b, .ref c, .int (iI (k : Int)), .int (iI (car B6 T D i : Int)), .int (iI (i : Int)), uu] [] g1 (fun q h' => q = some (.int (iI (car B6 T D t : Int))) ∧ fg (lmS b k t) h h' ∧ mI h' (b + 1) (k + t) = mI h (b + 1) (k + t) ∧ ∀ j, j < t → mI h' (b + 1) (k + j) = dg B6 (T + D) j) := by
    intro d
    induction d with
    | zero =>
      intro i g1 hi f ft g3 g4
      obtain rfl : i = t := by omega
      have Cg := bo_sk C1 f.1
      refine j_Bi_giveBack_5 ?_
      rw [gI_mI g1 c 1, f.eq (by unfold lmS; omega), t1, iI_le ⟨by omega, by omega⟩ ⟨by omega, by omega⟩]
      exact ⟨Cg.1, fun _ => j_Bi_giveBack_81 ⟨rfl, f, ft, g3⟩, fun z => absurd (Int.le_refl _) z⟩
    | succ d ih =>
      intro i g1 hi f ft g3 g4
      have Bg := bo_sk B f.1
      have Cg := bo_sk C1 f.1
      have d1 : dg B6 T i < 1000000 := dg_lt (by decide)
      have d2 : dg B6 D i < 1000000 := dg_lt (by decide)
      have dl : dg B6 (T + D) i < 1000000 := dg_lt (by decide)
      have ck := car_le (B := B6) (x := T) (y := D) (k := i) (by decide)
      have ad : dg B6 (T + D) i = (dg B6 T i + dg B6 D i + car B6 T D i) % 1000000 := add_dg (by decide)
      have ac : car B6 T D (i + 1) = (dg B6 T i + dg B6 D i + car B6 T D i) / 1000000 := add_car (by decide)
      have hcl : mI g1 (c + 1) i = dg B6 D i := by
        rw [f.eq (by unfold lmS; omega)]
        exact hD i (by omega)
      refine j_Bi_giveBack_5 ?_
      rw [gI_mI g1 c 1, f.eq (by unfold lmS; omega), t1, gI_mI g1 b 1, f.eq (by unfold lmS; omega), h1, iI_add, iI_le ⟨by omega, by omega⟩ ⟨by omega, by omega⟩, iI_le ⟨by omega, by omega⟩ ⟨by omega, by omega⟩, Bg.2.1, Cg.2.1, gI_q (by omega) (by omega), gI_q (by omega) (by omega), Int.toNat_natCast, show ((k : Int) + (i : Int)).toNat = k + i by omega, g4 i (by omega) (by omega), hcl, iI_add, iI_add, jc6, iI_lt ⟨by omega, by omega⟩ ⟨by omega, by omega⟩]
      have l58 : ∀ q : Nat, q = car B6 T D (i + 1) → J 20 58 0 0 [.ref b, .ref c, .int (iI (k : Int)), uu, .int (iI (i : Int)), .int (iI ((dg B6 T i : Int) + (dg B6 D i : Int) + (car B6 T D i : Int)))] [.int (iI (q : Int))] g1 (fun q h' => q = some (.int (iI (car B6 T D t : Int))) ∧ fg (lmS b k t) h h' ∧ mI h' (b + 1) (k + t) = mI h (b + 1) (k + t) ∧ ∀ j, j < t → mI h' (b + 1) (k + j) = dg B6 (T + D) j) := by
        intro q hq
        refine j_Bi_giveBack_58 ?_
        rw [Bg.2.1, jc6, iI_mul, iI_sub, iI_add, iI_add, iI_cl (by omega) (by omega), show ((k : Int) + (i : Int)).toNat = k + i by omega]
        have ev : (dg B6 T i : Int) + (dg B6 D i : Int) + (car B6 T D i : Int) - (q : Int) * 1000000 = ((dg B6 (T + D) i : Nat) : Int) := by omega
        rw [ev, hq]
        refine ⟨Bg.1, ix_of Bg.2.2.1 (by omega) (by omega) (by omega), ih (i + 1) _ (by omega) (f.wr (by unfold lmS; omega)) ?_ (fun j hj => ?_) (fun j hj hj2 => ?_)⟩
        · rw [mI_sI (rI6 dl), if_neg (fun z => by omega)]
          exact ft
        · rw [mI_sI (rI6 dl)]
          by_cases e : j = i
          · rw [if_pos ⟨rfl, by omega⟩, e]
          · rw [if_neg (fun z => by omega)]
            exact g3 j (by omega)
        · rw [mI_sI (rI6 dl), if_neg (fun z => by omega)]
          exact g4 j (by omega) (by omega)
      refine ⟨Cg.1, fun z => by omega, fun _ => ⟨Bg.1, fun z => by omega, fun _ => ⟨Bg.1, ixL_of Bg.2.2.1 (by omega) (by omega) (by omega), Cg.1, ixL_of Cg.2.2.1 (by omega) (by omega) (by omega), fun z => j_Bi_giveBack_57 (l58 0 (by omega)), fun z => l58 1 (by omega)⟩⟩⟩
  refine jRet_of (by decide) (by decide) (Nat.le_of_ble_eq_true rfl) (j_Bi_giveBack_0 ?_)
  have := loop t 0 h (by omega) fg.rf rfl (fun j hj => by omega) (fun j _ hj => hT j hj)
  rw [car_0] at this
  exact this
end BIG
