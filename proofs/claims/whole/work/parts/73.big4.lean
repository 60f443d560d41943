/-! numbers of the class: raise, lower, lowerFrom -/
section BIG
variable {r b : Nat} {h : jHp}
/-- limbs of s on which X stands, the same with zeros -/
theorem rb_zero {n X : Nat} {g : jHp} (B : BO r b g) (R : RB r b g n X) (hn : n < r) : RB r b (sI (sI g (b + 1) n (iI 0)) b 1 (iI (((n + 1 : Nat)) : Int))) (n + 1) X := by
  have := rb_push (d := 0) B R hn (by decide)
  rw [Nat.zero_mul, Nat.add_zero] at this
  exact this
def raQ (r b : Nat) (h : jHp) (Z : Nat) : jQ := fun q h' => q = none ∧ fg (fbS b) h h' ∧ mI h' b 2 = mI h b 2 ∧ ∃ s', RB r b h' s' Z
theorem c_Braise {rc c s X : Nat} {w : Int} (B : BO r b h) (R : RB r b h s X) (C : BG rc c h w) (hc : c ≠ b ∧ c ≠ b + 1 ∧ b ≠ c + 1) (hz : sz B6 (X + w.natAbs) ≤ r) : jRet 11 0 0 [.ref b, .ref c] h (raQ r b h (X + w.natAbs)) := by
  have hr := B.2.2.2
  obtain ⟨C1, ⟨t1, t2, t3, t4⟩, C3⟩ := C
  have hrc := C1.2.2.2
  have kee : ∀ k, ¬ fbS b c k ∧ ¬ fbS b (c + 1) k := fun k => by
    unfold fbS
    omega
  obtain ⟨Y, hY⟩ : ∃ Y, Y = w.natAbs := ⟨_, rfl⟩
  obtain ⟨t, ht⟩ : ∃ t, t = sz B6 Y := ⟨_, rfl⟩
  rw [← hY] at hz ⊢
  rw [← hY, ← ht] at t1 t2 t3 t4
  have htr : t ≤ r := by
    rw [ht]
    exact Nat.le_trans (sz_mono (by decide) (Nat.le_add_left Y X)) hz
  -- the sum
  have l46 : ∀ (n : Nat), t ≤ n → n ≤ r → X < B6 ^ n → ∀ (d k : Nat) (g : jHp), k + d = n → fg (fbS b) h g → mI g b 1 = (n : Int) → mI g b 2 = mI h b 2 → (∀ j, j < k → mI g (b + 1) j = dg B6 (X + Y) j) → (∀ j, k ≤ j → j < n → mI g (b + 1) j = dg B6 X j) → J 11 46 0 0 [.ref b, .ref c, .int (iI (car B6 X Y k : Int)), .int (iI k), uu] [] g (raQ r b h (X + Y)) := by
    intro n htn hnr hXn
    have hYn : Y < B6 ^ n := Nat.lt_of_lt_of_le t3 (Nat.pow_le_pow_right (by decide) htn)
    have hpn : 0 < B6 ^ n := Nat.pow_pos (by decide)
    have cl : ∀ k, car B6 X Y k ≤ 1 := fun k => car_le (by decide)
    -- behind the loop
    have l127 : ∀ (q : Nat) (g : jHp) (Z : Nat), q ≤ 1 → fg (fbS b) h g → mI g b 2 = mI h b 2 → RB r b g n Z → Z + q * B6 ^ n = X + Y → J 11 127 0 0 [.ref b, uu, .int (iI (q : Int)), uu, uu] [] g (raQ r b h (X + Y)) := by
      intro q g Z hq f g2 RZ he
      have Bg := bo_sk B f.1
      have hs : n + sz B6 q ≤ r := by
        rcases Nat.eq_zero_or_pos q with z | z
        · rw [z, sz_0]
          exact hnr
        · have h1 : q = 1 := by omega
          have h2 : X + Y < B6 ^ r := (sz_le (by decide)).mp hz
          have h3 : n < r := by
            rcases Nat.lt_or_ge n r with y | y
            · exact y
            · have : B6 ^ r ≤ B6 ^ n := Nat.pow_le_pow_right (by decide) y
              rw [h1, Nat.one_mul] at he
              omega
          have h4 : sz B6 1 = 1 := sz_eq (k := 1) (by decide) (by rw [Nat.pow_one]; decide) (Or.inr (by decide))
          rw [h1, h4]
          omega
      refine j_Bi_raise_127 ⟨Bg.1, ?_⟩
      rw [iI_64 ⟨by omega, by omega⟩]
      refine jRet_mono (c_Bextend Bg RZ (by omega) hs) ?_
      intro q1 h1 w1
      obtain ⟨e1, e2, e3, s', e4⟩ := w1
      rw [he] at e4
      exact ⟨e1, rfl, f.tr e2, by rw [e3]; exact g2, s', e4⟩
    intro d
    induction d with
    | zero =>
      intro k g hk f g1 g2 g3 g4
      obtain rfl : k = n := by omega
      have Bg := bo_sk B f.1
      have hcar : car B6 X Y k = (X + Y) / B6 ^ k := by
        unfold car
        rw [Nat.mod_eq_of_lt hXn, Nat.mod_eq_of_lt hYn]
      refine j_Bi_raise_46 ?_
      rw [gI_mI g b 1, g1, iI_le ⟨by omega, by omega⟩ ⟨by omega, by omega⟩]
      refine ⟨Bg.1, fun _ => l127 (car B6 X Y k) g ((X + Y) % B6 ^ k) (cl k) f g2 ⟨g1, hnr, Nat.mod_lt _ hpn, fun j hj => by rw [dg_mod (by decide) hj]; exact g3 j hj⟩ ?_, fun z => absurd (Int.le_refl _) z⟩
      rw [hcar, Nat.mul_comm, Nat.mod_add_div]
    | succ d ih =>
      intro k g hk f g1 g2 g3 g4
      have Bg := bo_sk B f.1
      have Cg := bo_sk C1 f.1
      have gc : mI g c 1 = (t : Int) := by
        rw [f.eq (kee 1).1]
        exact t1
      have ck := cl k
      have ck1 := cl (k + 1)
      have d1 : dg B6 X k < 1000000 := dg_lt (by decide)
      have d2 : dg B6 Y k < 1000000 := dg_lt (by decide)
      have ad := add_dg (B := B6) (x := X) (y := Y) (k := k) (by decide)
      have ac := add_car (B := B6) (x := X) (y := Y) (k := k) (by decide)
      have dl : dg B6 (X + Y) k < 1000000 := dg_lt (by decide)
      -- one limb
      have l90 : J 11 90 0 0 [.ref b, .ref c, .int (iI (car B6 X Y k : Int)), .int (iI k), uu] [.int (iI (dg B6 Y k : Int)), .int (iI (dg B6 X k : Int))] g (raQ r b h (X + Y)) := by
        have l107 : ∀ q : Nat, q = car B6 X Y (k + 1) → J 11 107 0 0 [.ref b, .ref c, uu, .int (iI k), .int (iI ((dg B6 X k : Int) + (dg B6 Y k : Int) + (car B6 X Y k : Int)))] [.int (iI (q : Int))] g (raQ r b h (X + Y)) := by
          intro q hq
          refine j_Bi_raise_107 ?_
          rw [Bg.2.1, jc6, iI_mul, iI_sub, iI_cl (by omega) (by omega), Int.toNat_natCast, iI_add]
          have ev : (dg B6 X k : Int) + (dg B6 Y k : Int) + (car B6 X Y k : Int) - (q : Int) * 1000000 = ((dg B6 (X + Y) k : Nat) : Int) := by
            have ad2 : dg B6 (X + Y) k = (dg B6 X k + dg B6 Y k + car B6 X Y k) % 1000000 := ad
            have ac2 : car B6 X Y (k + 1) = (dg B6 X k + dg B6 Y k + car B6 X Y k) / 1000000 := ac
            omega
          rw [ev, hq]
          refine ⟨Bg.1, ix_of Bg.2.2.1 (by omega) (by omega) (by omega), ih (k + 1) _ (by omega) (f.wr (Or.inr rfl)) ?_ ?_ (fun j hj => ?_) (fun j hj hj2 => ?_)⟩
          · rw [mI_sI (rI6 dl), if_neg (fun z => by omega)]
            exact g1
          · rw [mI_sI (rI6 dl), if_neg (fun z => by omega)]
            exact g2
          · rw [mI_sI (rI6 dl)]
            by_cases e : j = k
            · rw [if_pos ⟨rfl, e⟩, e]
            · rw [if_neg (fun z => e z.2)]
              exact g3 j (by omega)
          · rw [mI_sI (rI6 dl), if_neg (fun z => by omega)]
            exact g4 j (by omega) (by omega)
        refine j_Bi_raise_90 ?_
        rw [jc6, iI_add, iI_add, iI_lt ⟨by omega, by omega⟩ ⟨by omega, by omega⟩]
        have ac2 : car B6 X Y (k + 1) = (dg B6 X k + dg B6 Y k + car B6 X Y k) / 1000000 := ac
        refine ⟨fun z => j_Bi_raise_106 (l107 0 ?_), fun z => l107 1 ?_⟩
        · omega
        · omega
      have l66 : J 11 66 0 0 [.ref b, .ref c, .int (iI (car B6 X Y k : Int)), .int (iI k), uu] [] g (raQ r b h (X + Y)) := by
        refine j_Bi_raise_66 ?_
        rw [Bg.2.1, Cg.2.1, gI_q (by omega) (by omega), Int.toNat_natCast, g4 k (by omega) (by omega), gI_mI g c 1, gc, iI_le ⟨by omega, by omega⟩ ⟨by omega, by omega⟩]
        refine ⟨Bg.1, ixL_of Bg.2.2.1 (by omega) (by omega) (by omega), Cg.1, fun z => j_Bi_raise_89 ?_, fun z => ⟨Cg.1, ixL_of Cg.2.2.1 (by omega) (by omega) (by omega), ?_⟩⟩
        · have e0 : dg B6 Y k = 0 := dg_high (by decide) (by omega)
          rw [e0] at l90
          exact l90
        · rw [gI_q (by omega) (by omega), Int.toNat_natCast, f.eq (kee k).2, t4 k (by omega)]
          exact l90
      refine j_Bi_raise_46 ?_
      rw [gI_mI g b 1, g1, gI_mI g c 1, gc, iI_0, iI_le ⟨by omega, by omega⟩ ⟨by omega, by omega⟩, iI_lt ⟨by omega, by omega⟩ ⟨by omega, by omega⟩, iI_le ⟨by omega, by omega⟩ ⟨by omega, by omega⟩]
      refine ⟨Bg.1, fun z => by omega, fun _ => ⟨Cg.1, fun _ => l66, fun z => ⟨fun z2 => l127 (car B6 X Y k) g (X + Y) ck f g2 ?_ ?_, fun _ => l66⟩⟩⟩
      · have c0 : car B6 X Y k = 0 := by omega
        have hYk : Y < B6 ^ k := Nat.lt_of_lt_of_le t3 (Nat.pow_le_pow_right (by decide) (by omega))
        have sp := add_split (B := B6) (x := X) (y := Y) (k := k) (by decide)
        rw [c0, Nat.div_eq_of_lt hYk, Nat.add_zero] at sp
        have hlt : X + Y < B6 ^ n := by
          have e1 : B6 ^ n = B6 ^ (n - k) * B6 ^ k := by
            rw [← Nat.pow_add]
            congr 1
            omega
          rw [e1]
          apply (Nat.div_lt_iff_lt_mul (Nat.pow_pos (by decide))).mp
          rw [sp, Nat.div_lt_iff_lt_mul (Nat.pow_pos (by decide)), ← e1]
          exact hXn
        refine ⟨g1, hnr, hlt, fun j hj => ?_⟩
        by_cases e : j < k
        · exact g3 j e
        · rw [g4 j (by omega) hj]
          congr 1
          obtain ⟨i, rfl⟩ : ∃ i, j = k + i := ⟨j - k, by omega⟩
          rw [← dg_div, ← dg_div, sp]
      · rw [show car B6 X Y k = 0 by omega, Nat.zero_mul, Nat.add_zero]
  -- the zeros above
  have l5 : ∀ (d k : Nat) (g : jHp), (k + d = t ∨ t ≤ k ∧ d = 0) → s ≤ k → k ≤ r → fg (fbS b) h g → mI g b 2 = mI h b 2 → RB r b g k X → J 11 5 0 0 [.ref b, .ref c, .int (iI k), uu, uu] [] g (raQ r b h (X + Y)) := by
    intro d
    induction d with
    | zero =>
      intro k g hk hsk hkr f g2 RX
      have htk : t ≤ k := by omega
      have Bg := bo_sk B f.1
      have Cg := bo_sk C1 f.1
      have fin : J 11 42 0 0 [.ref b, .ref c, uu, uu, uu] [] g (raQ r b h (X + Y)) := by
        refine j_Bi_raise_42 ?_
        have := l46 k htk hkr RX.2.2.1 k 0 g (by omega) f RX.1 g2 (fun j hj => by omega) (fun j _ hj => RX.2.2.2 j hj)
        rw [car_0] at this
        exact this
      refine j_Bi_raise_5 ?_
      rw [bo_ln Bg, gI_mI g c 1, f.eq (kee 1).1, t1, iI_le ⟨by omega, by omega⟩ ⟨by omega, by omega⟩, iI_le ⟨by omega, by omega⟩ ⟨by omega, by omega⟩]
      exact ⟨Bg.1, bo_ar Bg, fun _ => fin, fun _ => ⟨Cg.1, fun _ => fin, fun z => absurd (by omega) z⟩⟩
    | succ d ih =>
      intro k g hk hsk hkr f g2 RX
      have Bg := bo_sk B f.1
      have Cg := bo_sk C1 f.1
      refine j_Bi_raise_5 ?_
      rw [bo_ln Bg, gI_mI g c 1, f.eq (kee 1).1, t1, iI_le ⟨by omega, by omega⟩ ⟨by omega, by omega⟩, iI_le ⟨by omega, by omega⟩ ⟨by omega, by omega⟩, Bg.2.1, iI_cl (by omega) (by omega), Int.toNat_natCast, iI_add, show (k : Int) + 1 = ((k + 1 : Nat) : Int) by omega]
      refine ⟨Bg.1, bo_a1 Bg, fun z => absurd z (by omega), fun _ => ⟨Cg.1, fun z => absurd z (by omega), fun _ => ⟨Bg.1, ix_of Bg.2.2.1 (by omega) (by omega) (by omega), (bo_sk Bg (sk.rf.sI)).1, j_Bi_raise_36 ?_⟩⟩⟩
      rw [iI_add, show (k : Int) + 1 = ((k + 1 : Nat) : Int) by omega]
      refine ih (k + 1) _ (by omega) (by omega) (by omega) ((f.wr (Or.inr rfl)).wr (Or.inl rfl)) ?_ (rb_zero Bg RX (by omega))
      rw [mI_sI ⟨by omega, by omega⟩, if_neg (fun z => by omega), mI_sI ⟨by omega, by omega⟩, if_neg (fun z => by omega)]
      exact g2
  refine jRet_of (by decide) (by decide) (Nat.le_of_ble_eq_true rfl) (j_Bi_raise_0 ⟨B.1, ?_⟩)
  rw [gI_mI h b 1, R.1]
  by_cases c1 : s ≤ t
  · exact l5 (t - s) s h (by omega) (by omega) R.2.1 fg.rf rfl R
  · exact l5 0 s h (by omega) (by omega) R.2.1 fg.rf rfl R
theorem c_Blower {rc c s X : Nat} {w : Int} (B : BO r b h) (R : RB r b h s X) (C : BG rc c h w) (hc : c ≠ b ∧ c ≠ b + 1 ∧ b ≠ c + 1) (hle : w.natAbs ≤ X) : jRet 14 0 0 [.ref b, .ref c] h (raQ r b h (X - w.natAbs)) := by
  have hr := B.2.2.2
  obtain ⟨C1, ⟨t1, t2, t3, t4⟩, C3⟩ := C
  have hrc := C1.2.2.2
  have kee : ∀ k, ¬ fbS b c k ∧ ¬ fbS b (c + 1) k := fun k => by
    unfold fbS
    omega
  obtain ⟨Y, hY⟩ : ∃ Y, Y = w.natAbs := ⟨_, rfl⟩
  obtain ⟨t, ht⟩ : ∃ t, t = sz B6 Y := ⟨_, rfl⟩
  rw [← hY] at hle ⊢
  rw [← hY, ← ht] at t1 t2 t3 t4
  obtain ⟨s1, s2, s3, s4⟩ := R
  have hlt : X - Y < B6 ^ s := Nat.lt_of_le_of_lt (Nat.sub_le _ _) s3
  have loop : ∀ (d k : Nat) (g : jHp), k + d = s → fg (fbS b) h g → mI g b 1 = (s : Int) → mI g b 2 = mI h b 2 → (∀ j, j < k → mI g (b + 1) j = dg B6 (X - Y) j) → (∀ j, k ≤ j → j < s → mI g (b + 1) j = dg B6 X j) → J 14 4 0 0 [.ref b, .ref c, .int (iI (lac B6 X Y k : Int)), .int (iI k), uu] [] g (raQ r b h (X - Y)) := by
    intro d
    induction d with
    | zero =>
      intro k g hk f g1 g2 g3 g4
      obtain rfl : k = s := by omega
      have Bg := bo_sk B f.1
      refine j_Bi_lower_4 ?_
      rw [gI_mI g b 1, g1, iI_le ⟨by omega, by omega⟩ ⟨by omega, by omega⟩]
      exact ⟨Bg.1, fun _ => j_Bi_lower_83 ⟨rfl, f, g2, k, g1, s2, hlt, g3⟩, fun z => absurd (Int.le_refl _) z⟩
    | succ d ih =>
      intro k g hk f g1 g2 g3 g4
      have Bg := bo_sk B f.1
      have Cg := bo_sk C1 f.1
      have gc : mI g c 1 = (t : Int) := by
        rw [f.eq (kee 1).1]
        exact t1
      have lk := lac_le (B := B6) (x := X) (y := Y) (k := k)
      have d1 : dg B6 X k < 1000000 := dg_lt (by decide)
      have d2 : dg B6 Y k < 1000000 := dg_lt (by decide)
      have dl : dg B6 (X - Y) k < 1000000 := dg_lt (by decide)
      have sd : dg B6 (X - Y) k + dg B6 Y k + lac B6 X Y k = dg B6 X k + 1000000 * lac B6 X Y (k + 1) := sub_dg (by decide) hle
      have ls := lac_s (B := B6) (x := X) (y := Y) (k := k) (by decide)
      have l48 : J 14 48 0 0 [.ref b, .ref c, .int (iI (lac B6 X Y k : Int)), .int (iI k), uu] [.int (iI (dg B6 Y k : Int)), .int (iI (dg B6 X k : Int))] g (raQ r b h (X - Y)) := by
        have l63 : ∀ q : Nat, q = lac B6 X Y (k + 1) → J 14 63 0 0 [.ref b, .ref c, uu, .int (iI k), .int (iI ((dg B6 X k : Int) - (dg B6 Y k : Int) - (lac B6 X Y k : Int)))] [.int (iI (q : Int))] g (raQ r b h (X - Y)) := by
          intro q hq
          refine j_Bi_lower_63 ?_
          rw [Bg.2.1, jc6, iI_mul, iI_add, iI_cl (by omega) (by omega), Int.toNat_natCast, iI_add]
          have ev : (dg B6 X k : Int) - (dg B6 Y k : Int) - (lac B6 X Y k : Int) + (q : Int) * 1000000 = ((dg B6 (X - Y) k : Nat) : Int) := by omega
          rw [ev, hq]
          refine ⟨Bg.1, ix_of Bg.2.2.1 (by omega) (by omega) (by omega), ih (k + 1) _ (by omega) (f.wr (Or.inr rfl)) ?_ ?_ (fun j hj => ?_) (fun j hj hj2 => ?_)⟩
          · rw [mI_sI (rI6 dl), if_neg (fun z => by omega)]
            exact g1
          · rw [mI_sI (rI6 dl), if_neg (fun z => by omega)]
            exact g2
          · rw [mI_sI (rI6 dl)]
            by_cases e : j = k
            · rw [if_pos ⟨rfl, e⟩, e]
            · rw [if_neg (fun z => e z.2)]
              exact g3 j (by omega)
          · rw [mI_sI (rI6 dl), if_neg (fun z => by omega)]
            exact g4 j (by omega) (by omega)
        refine j_Bi_lower_48 ?_
        rw [iI_sub, iI_sub, iI_0, iI_le ⟨by omega, by omega⟩ ⟨by omega, by omega⟩]
        refine ⟨fun z => j_Bi_lower_62 (l63 0 ?_), fun z => l63 1 ?_⟩
        · rw [ls, if_neg (by omega)]
        · rw [ls, if_pos (by omega)]
      have l24 : J 14 24 0 0 [.ref b, .ref c, .int (iI (lac B6 X Y k : Int)), .int (iI k), uu] [] g (raQ r b h (X - Y)) := by
        refine j_Bi_lower_24 ?_
        rw [Bg.2.1, Cg.2.1, gI_q (by omega) (by omega), Int.toNat_natCast, g4 k (by omega) (by omega), gI_mI g c 1, gc, iI_le ⟨by omega, by omega⟩ ⟨by omega, by omega⟩]
        refine ⟨Bg.1, ixL_of Bg.2.2.1 (by omega) (by omega) (by omega), Cg.1, fun z => j_Bi_lower_47 ?_, fun z => ⟨Cg.1, ixL_of Cg.2.2.1 (by omega) (by omega) (by omega), ?_⟩⟩
        · have e0 : dg B6 Y k = 0 := dg_high (by decide) (by omega)
          rw [e0] at l48
          exact l48
        · rw [gI_q (by omega) (by omega), Int.toNat_natCast, f.eq (kee k).2, t4 k (by omega)]
          exact l48
      refine j_Bi_lower_4 ?_
      rw [gI_mI g b 1, g1, gI_mI g c 1, gc, iI_0, iI_le ⟨by omega, by omega⟩ ⟨by omega, by omega⟩, iI_lt ⟨by omega, by omega⟩ ⟨by omega, by omega⟩, iI_le ⟨by omega, by omega⟩ ⟨by omega, by omega⟩]
      refine ⟨Bg.1, fun z => by omega, fun _ => ⟨Cg.1, fun _ => l24, fun z => ⟨fun z2 => j_Bi_lower_83 ⟨rfl, f, g2, s, g1, s2, hlt, fun j hj => ?_⟩, fun _ => l24⟩⟩⟩
      have l0 : lac B6 X Y k = 0 := by omega
      have hYk : Y < B6 ^ k := Nat.lt_of_lt_of_le t3 (Nat.pow_le_pow_right (by decide) (by omega))
      have sp := sub_split (B := B6) (k := k) (by decide) hle
      rw [l0, Nat.div_eq_of_lt hYk, Nat.add_zero] at sp
      by_cases e : j < k
      · exact g3 j e
      · rw [g4 j (by omega) hj]
        congr 1
        obtain ⟨i, rfl⟩ : ∃ i, j = k + i := ⟨j - k, by omega⟩
        rw [← dg_div, ← dg_div, sp]
  refine jRet_of (by decide) (by decide) (Nat.le_of_ble_eq_true rfl) (j_Bi_lower_0 ?_)
  have := loop s 0 h (by omega) fg.rf s1 rfl (fun j hj => by omega) (fun j _ hj => s4 j hj)
  rw [lac_0] at this
  exact this
theorem c_BlowerFrom {rc c s X : Nat} {w : Int} (B : BO r b h) (R : RB r b h s X) (C : BG rc c h w) (hc : c ≠ b ∧ c ≠ b + 1 ∧ b ≠ c + 1) (hle : X ≤ w.natAbs) (hsz : sz B6 w.natAbs ≤ r) (hs : s ≤ sz B6 w.natAbs) : jRet 15 0 0 [.ref b, .ref c] h (raQ r b h (w.natAbs - X)) := by
  have hr := B.2.2.2
  obtain ⟨C1, ⟨t1, t2, t3, t4⟩, C3⟩ := C
  have hrc := C1.2.2.2
  have kee : ∀ k, ¬ fbS b c k ∧ ¬ fbS b (c + 1) k := fun k => by
    unfold fbS
    omega
  obtain ⟨Y, hY⟩ : ∃ Y, Y = w.natAbs := ⟨_, rfl⟩
  obtain ⟨t, ht⟩ : ∃ t, t = sz B6 Y := ⟨_, rfl⟩
  rw [← hY] at hle ⊢
  rw [← hY, ← ht] at t1 t2 t3 t4 hsz hs
  obtain ⟨s1, s2, s3, s4⟩ := R
  have hlt : Y - X < B6 ^ t := Nat.lt_of_le_of_lt (Nat.sub_le _ _) t3
  have loop : ∀ (d k : Nat) (g : jHp), k + d = t → fg (fbS b) h g → mI g b 1 = (s : Int) → mI g b 2 = mI h b 2 → (∀ j, j < k → mI g (b + 1) j = dg B6 (Y - X) j) → (∀ j, k ≤ j → j < s → mI g (b + 1) j = dg B6 X j) → J 15 18 0 0 [.ref b, .ref c, .int (iI (lac B6 Y X k : Int)), .int (iI t), .int (iI k), uu] [] g (raQ r b h (Y - X)) := by
    intro d
    induction d with
    | zero =>
      intro k g hk f g1 g2 g3 g4
      obtain rfl : k = t := by omega
      have Bg := bo_sk B f.1
      refine j_Bi_lowerFrom_18 ⟨fun _ => j_Bi_lowerFrom_87 ⟨Bg.1, rfl, f.wr (Or.inl rfl), ?_, k, ?_, hsz, hlt, fun j hj => ?_⟩, fun z => absurd ((iI_le ⟨by omega, by omega⟩ ⟨by omega, by omega⟩).mpr (by omega)) z⟩
      · rw [mI_sI ⟨by omega, by omega⟩, if_neg (fun z => by omega)]
        exact g2
      · rw [mI_sI ⟨by omega, by omega⟩, if_pos ⟨rfl, rfl⟩]
      · rw [mI_sI ⟨by omega, by omega⟩, if_neg (fun z => by omega)]
        exact g3 j hj
    | succ d ih =>
      intro k g hk f g1 g2 g3 g4
      have Bg := bo_sk B f.1
      have Cg := bo_sk C1 f.1
      have lk := lac_le (B := B6) (x := Y) (y := X) (k := k)
      have d1 : dg B6 X k < 1000000 := dg_lt (by decide)
      have d2 : dg B6 Y k < 1000000 := dg_lt (by decide)
      have dl : dg B6 (Y - X) k < 1000000 := dg_lt (by decide)
      have sd : dg B6 (Y - X) k + dg B6 X k + lac B6 Y X k = dg B6 Y k + 1000000 * lac B6 Y X (k + 1) := sub_dg (by decide) hle
      have ls := lac_s (B := B6) (x := Y) (y := X) (k := k) (by decide)
      have l51 : J 15 51 0 0 [.ref b, .ref c, .int (iI (lac B6 Y X k : Int)), .int (iI t), .int (iI k), uu] [.int (iI (dg B6 X k : Int)), .int (iI (dg B6 Y k : Int))] g (raQ r b h (Y - X)) := by
        have l66 : ∀ q : Nat, q = lac B6 Y X (k + 1) → J 15 66 0 0 [.ref b, .ref c, uu, .int (iI t), .int (iI k), .int (iI ((dg B6 Y k : Int) - (dg B6 X k : Int) - (lac B6 Y X k : Int)))] [.int (iI (q : Int))] g (raQ r b h (Y - X)) := by
          intro q hq
          refine j_Bi_lowerFrom_66 ?_
          rw [Bg.2.1, jc6, iI_mul, iI_add, iI_cl (by omega) (by omega), Int.toNat_natCast, iI_add]
          have ev : (dg B6 Y k : Int) - (dg B6 X k : Int) - (lac B6 Y X k : Int) + (q : Int) * 1000000 = ((dg B6 (Y - X) k : Nat) : Int) := by omega
          rw [ev, hq]
          refine ⟨Bg.1, ix_of Bg.2.2.1 (by omega) (by omega) (by omega), ih (k + 1) _ (by omega) (f.wr (Or.inr rfl)) ?_ ?_ (fun j hj => ?_) (fun j hj hj2 => ?_)⟩
          · rw [mI_sI (rI6 dl), if_neg (fun z => by omega)]
            exact g1
          · rw [mI_sI (rI6 dl), if_neg (fun z => by omega)]
            exact g2
          · rw [mI_sI (rI6 dl)]
            by_cases e : j = k
            · rw [if_pos ⟨rfl, e⟩, e]
            · rw [if_neg (fun z => e z.2)]
              exact g3 j (by omega)
          · rw [mI_sI (rI6 dl), if_neg (fun z => by omega)]
            exact g4 j (by omega) (by omega)
        refine j_Bi_lowerFrom_51 ?_
        rw [iI_sub, iI_sub, iI_0, iI_le ⟨by omega, by omega⟩ ⟨by omega, by omega⟩]
        refine ⟨fun z => j_Bi_lowerFrom_65 (l66 0 ?_), fun z => l66 1 ?_⟩
        · rw [ls, if_neg (by omega)]
        · rw [ls, if_pos (by omega)]
      refine j_Bi_lowerFrom_18 ?_
      rw [Bg.2.1, Cg.2.1, gI_q (by omega) (by omega), gI_q (by omega) (by omega), Int.toNat_natCast, f.eq (kee k).2, t4 k (by omega), gI_mI g b 1, g1, iI_le ⟨by omega, by omega⟩ ⟨by omega, by omega⟩, iI_le ⟨by omega, by omega⟩ ⟨by omega, by omega⟩]
      refine ⟨fun z => by omega, fun _ => ⟨Cg.1, ixL_of Cg.2.2.1 (by omega) (by omega) (by omega), Bg.1, fun z => j_Bi_lowerFrom_50 ?_, fun z => ⟨Bg.1, ixL_of Bg.2.2.1 (by omega) (by omega) (by omega), ?_⟩⟩⟩
      · have e0 : dg B6 X k = 0 := dg_high (by decide) ((sz_le (by decide)).mpr (Nat.lt_of_lt_of_le s3 (Nat.pow_le_pow_right (by decide) (by omega))))
        rw [e0] at l51
        exact l51
      · rw [g4 k (by omega) (by omega)]
        exact l51
  refine jRet_of (by decide) (by decide) (Nat.le_of_ble_eq_true rfl) (j_Bi_lowerFrom_0 ?_)
  have em : (if Int32.ofNat (jz h (gR h b 0)).2 < gI h c 1 then Int32.ofNat (jz h (gR h b 0)).2 else gI h c 1) = iI (t : Int) := by
    rw [if_neg, gI_mI, t1]
    rw [bo_ln B, gI_mI, t1, iI_lt ⟨by omega, by omega⟩ ⟨by omega, by omega⟩]
    omega
  rw [em]
  refine ⟨C1.1, B.1, bo_ar B, ?_⟩
  have := loop t 0 h (by omega) fg.rf s1 rfl (fun j hj => by omega) (fun j _ hj => s4 j hj)
  rw [lac_0] at this
  exact this
end BIG
