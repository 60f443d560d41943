/-! numbers of the class: greatestDivisor, plusTimes -/
theorem half_lt {Y R : Nat} (h0 : 0 < R) (h : R < Y) : 2 * (Y % R) < Y := by
  have h1 := Nat.mod_lt Y h0
  rcases Nat.lt_or_ge Y (2 * R) with z | z
  · have e : Y % R = Y - R := by
      rw [Nat.mod_eq_sub_mod (Nat.le_of_lt h), Nat.mod_eq_of_lt (by omega)]
    omega
  · omega
section BIG
variable {r : Nat} {h : jHp}
def gcQ (r a b sc : Nat) (h : jHp) (G : Nat) : jQ := fun q h' => ∃ p : Nat, q = some (.ref p) ∧ (p = a ∨ p = b) ∧ fg (fun i k => fbS a i k ∨ fbS b i k ∨ fbS sc i k) h h' ∧ BG r p h' (G : Int) ∧ (∃ v, BG r a h' v) ∧ (∃ v, BG r b h' v) ∧ ∃ v, BG r sc h' v
def ap2 (a b : Nat) : Prop := a ≠ b ∧ a ≠ b + 1 ∧ b ≠ a + 1
theorem ap2_s {a b : Nat} (h : ap2 a b) : ap2 b a := ⟨Ne.symm h.1, h.2.2, h.2.1⟩
theorem c_Bgcd {a b sc : Nat} (hab : ap2 a b) (ha : ap2 a sc) (hb : ap2 b sc) {X Y : Nat} {u : Int} (A : BG r a h (X : Int)) (B : BG r b h (Y : Int)) (S : BG r sc h u) : jRet 25 0 0 [.ref a, .ref b, .ref sc] h (gcQ r a b sc h (Nat.gcd X Y)) := by
  have hr := A.1.2.2.2
  have j5 : jc 0 100000 = 100000 := by decide
  have ap : ∀ (x y : Nat), (x = a ∧ y = b ∨ x = b ∧ y = a) → ap2 y x ∧ ap2 sc x ∧ ap2 y sc := by
    intro x y hxy
    rcases hxy with ⟨rfl, rfl⟩ | ⟨rfl, rfl⟩
    · exact ⟨ap2_s hab, ap2_s ha, hb⟩
    · exact ⟨hab, ap2_s hb, ha⟩
  have fin : ∀ (k x y X : Nat) (u : Int) (g : jHp), k ≤ 100000 → (x = a ∧ y = b ∨ x = b ∧ y = a) → fg (fun i k => fbS a i k ∨ fbS b i k ∨ fbS sc i k) h g → BG r x g (X : Int) → BG r y g ((0 : Nat) : Int) → BG r sc g u → J 25 8 0 0 [uu, uu, .ref sc, .ref x, .ref y, .int (iI (k : Int)), uu] [] g (gcQ r a b sc h (Nat.gcd X 0)) := by
    intro k x y X u g hk hxy f GX GY GS
    have done : J 25 46 0 0 [uu, uu, uu, .ref x, uu, uu, uu] [] g (gcQ r a b sc h (Nat.gcd X 0)) := by
      refine j_Bi_greatestDivisor_46 ⟨x, rfl, hxy.elim (fun z => Or.inl z.1) (fun z => Or.inr z.1), f, ?_, ?_, ?_, u, GS⟩
      · rw [Nat.gcd_zero_right]
        exact GX
      · rcases hxy with ⟨rfl, rfl⟩ | ⟨rfl, rfl⟩
        · exact ⟨_, GX⟩
        · exact ⟨_, GY⟩
      · rcases hxy with ⟨rfl, rfl⟩ | ⟨rfl, rfl⟩
        · exact ⟨_, GY⟩
        · exact ⟨_, GX⟩
    refine j_Bi_greatestDivisor_8 ⟨fun _ => done, fun _ => ⟨GY.1.1, fun _ => done, fun z => absurd ?_ z⟩⟩
    have e0 : sz B6 (((0 : Nat) : Int)).natAbs = 0 := rfl
    rw [gI_mI g y 1, GY.2.1.1, e0, iI_0, iI_le ⟨by omega, by omega⟩ ⟨by omega, by omega⟩]
    exact Int.le_refl _
  have one : ∀ (k x y X Y : Nat) (u : Int) (g : jHp), k < 100000 → (x = a ∧ y = b ∨ x = b ∧ y = a) → fg (fun i k => fbS a i k ∨ fbS b i k ∨ fbS sc i k) h g → BG r x g (X : Int) → BG r y g (Y : Int) → BG r sc g u → 0 < Y →
      (∀ (u' : Int) (g' : jHp), fg (fun i k => fbS a i k ∨ fbS b i k ∨ fbS sc i k) h g' → BG r y g' (Y : Int) → BG r x g' ((X % Y : Nat) : Int) → BG r sc g' u' → J 25 8 0 0 [uu, uu, .ref sc, .ref y, .ref x, .int (iI ((k + 1 : Nat) : Int)), uu] [] g' (gcQ r a b sc h (Nat.gcd Y (X % Y)))) →
      J 25 8 0 0 [uu, uu, .ref sc, .ref x, .ref y, .int (iI (k : Int)), uu] [] g (gcQ r a b sc h (Nat.gcd X Y)) := by
    intro k x y X Y u g hk hxy f GX GY GS hY nx
    obtain ⟨a1, a2, a3⟩ := ap x y hxy
    have hp := (sz_pos (B := B6) (v := Y) (by decide)).mpr hY
    have hsX : sz B6 X ≤ r := by
      have := GX.2.1.2.1
      rw [Int.natAbs_natCast] at this
      exact this
    have hsY : sz B6 Y ≤ r := by
      have := GY.2.1.2.1
      rw [Int.natAbs_natCast] at this
      exact this
    refine j_Bi_greatestDivisor_8 ?_
    rw [j5, iI_le ⟨by omega, by omega⟩ ⟨by omega, by omega⟩, gI_mI g y 1, GY.2.1.1, Int.natAbs_natCast, iI_0, iI_le ⟨by omega, by omega⟩ ⟨by omega, by omega⟩]
    refine ⟨fun z => by omega, fun _ => ⟨GY.1.1, fun z => by omega, fun _ => ⟨GX.1.1, jRet_mono (c_Bdivide GX GY GS a1 a2 a3 (by omega) ?_) ?_⟩⟩⟩
    · rw [Int.natAbs_natCast, Int.natAbs_natCast]
      exact Nat.le_trans (sz_mono (by decide) (Nat.div_le_self _ _)) hsX
    intro q1 h1 w1
    obtain ⟨e1, e2, e3, e4⟩ := w1
    have em : ((X : Int)).tmod (Y : Int) = ((X % Y : Nat) : Int) := rfl
    rw [em] at e3
    have hg : Nat.gcd X Y = Nat.gcd Y (X % Y) := by
      rw [Nat.gcd_comm Y, ← Nat.gcd_rec, Nat.gcd_comm]
    refine ⟨e1, ?_⟩
    rw [iI_add, hg]
    have f1 : fg (fun i k => fbS a i k ∨ fbS b i k ∨ fbS sc i k) h h1 := f.tr (e2.mo (fun p k z => by
      unfold dvS at z
      rcases hxy with ⟨rfl, rfl⟩ | ⟨rfl, rfl⟩
      · rcases z with z | z
        · exact Or.inl z
        · exact Or.inr (Or.inr z)
      · rcases z with z | z
        · exact Or.inr (Or.inl z)
        · exact Or.inr (Or.inr z)))
    have GY1 : BG r y h1 (Y : Int) := bg_fg GY e2 (fun k => by
      have := a1
      have := a3
      unfold ap2 at *
      unfold dvS fbS
      omega)
    exact nx _ h1 f1 GY1 e3 e4
  have loop : ∀ (n k x y X Y : Nat) (u : Int) (g : jHp), Y < 2 ^ n → k + 2 * n + 2 ≤ 100000 → (x = a ∧ y = b ∨ x = b ∧ y = a) → fg (fun i k => fbS a i k ∨ fbS b i k ∨ fbS sc i k) h g → BG r x g (X : Int) → BG r y g (Y : Int) → BG r sc g u → J 25 8 0 0 [uu, uu, .ref sc, .ref x, .ref y, .int (iI (k : Int)), uu] [] g (gcQ r a b sc h (Nat.gcd X Y)) := by
    intro n
    induction n with
    | zero =>
      intro k x y X Y u g hY hk hxy f GX GY GS
      obtain rfl : Y = 0 := by omega
      exact fin k x y X u g (by omega) hxy f GX GY GS
    | succ n ih =>
      intro k x y X Y u g hY hk hxy f GX GY GS
      rcases Nat.eq_zero_or_pos Y with z | z
      · subst z
        exact fin k x y X u g (by omega) hxy f GX GY GS
      · have hxy2 : y = a ∧ x = b ∨ y = b ∧ x = a := by
          rcases hxy with ⟨rfl, rfl⟩ | ⟨rfl, rfl⟩
          · exact Or.inr ⟨rfl, rfl⟩
          · exact Or.inl ⟨rfl, rfl⟩
        refine one k x y X Y u g (by omega) hxy f GX GY GS z ?_
        intro u1 g1 f1 GY1 GX1 GS1
        have hR := Nat.mod_lt X z
        rcases Nat.eq_zero_or_pos (X % Y) with z2 | z2
        · rw [z2] at GX1 ⊢
          exact fin (k + 1) y x Y u1 g1 (by omega) hxy2 f1 GY1 GX1 GS1
        · refine one (k + 1) y x Y (X % Y) u1 g1 (by omega) hxy2 f1 GY1 GX1 GS1 z2 ?_
          intro u2 g2 f2 GX2 GY2 GS2
          have hh := half_lt z2 hR
          rw [Nat.pow_succ] at hY
          exact ih (k + 1 + 1) x y (X % Y) (Y % (X % Y)) u2 g2 (by omega) (by omega) hxy f2 GX2 GY2 GS2
  have hYb : Y < 2 ^ 2000 := by
    have h1 := B.2.1.2.2.1
    have h2 := B.2.1.2.1
    rw [Int.natAbs_natCast] at h1 h2
    have h3 : B6 ^ sz B6 Y ≤ B6 ^ 100 := Nat.pow_le_pow_right (by decide) (by omega)
    have h4 : B6 ^ 100 ≤ 2 ^ 2000 := by decide +kernel
    exact Nat.lt_of_lt_of_le h1 (Nat.le_trans h3 h4)
  refine jRet_of (by decide) (by decide) (Nat.le_of_ble_eq_true rfl) (j_Bi_greatestDivisor_0 ?_)
  exact loop 2000 0 a b X Y u h hYb (by decide) (Or.inl ⟨rfl, rfl⟩) fg.rf A B S
theorem c_BplusTimes {b rc c f X Y : Nat} (B : BG r b h (X : Int)) (C : BG rc c h (Y : Int)) (hc : c ≠ b ∧ c ≠ b + 1 ∧ b ≠ c + 1) (hf : f ≤ 1000000) (hz : sz B6 (X + Y * f) ≤ r) (hzY : sz B6 Y ≤ r) : jRet 24 0 0 [.ref b, .ref c, .int (iI (f : Int))] h (trQ r b h ((X + Y * f : Nat) : Int)) := by
  obtain ⟨B1, ⟨s1, s2, s3, s4⟩, B3⟩ := B
  obtain ⟨C1, ⟨t1, t2, t3, t4⟩, C3⟩ := C
  have hr := B1.2.2.2
  have hrc := C1.2.2.2
  rw [Int.natAbs_natCast] at s1 s2 s3 s4 t1 t2 t3 t4
  rw [if_neg (by omega)] at B3
  have kc : ∀ k, ¬ fbS b c k ∧ ¬ fbS b (c + 1) k := fun k => by
    unfold fbS
    omega
  obtain ⟨s, hs⟩ : ∃ s, s = sz B6 X := ⟨_, rfl⟩
  obtain ⟨t, ht⟩ : ∃ t, t = sz B6 Y := ⟨_, rfl⟩
  rw [← hs] at s1 s2 s3 s4
  rw [← ht] at t1 t2 t3 t4 hzY
  obtain ⟨Z, hZ⟩ : ∃ Z, Z = X + Y * f := ⟨_, rfl⟩
  have hZr : Z < B6 ^ r := by
    rw [hZ]
    exact (sz_le (by decide)).mp hz
  rw [← hZ] at hz ⊢
  -- the carry
  have cb : ∀ i, (X % B6 ^ i + Y % B6 ^ i * f) / B6 ^ i ≤ f + 1 := by
    intro i
    have hp : 0 < B6 ^ i := Nat.pow_pos (by decide)
    have a1 := Nat.mod_lt X hp
    have a2 : Y % B6 ^ i * f ≤ B6 ^ i * f := Nat.mul_le_mul_right f (Nat.le_of_lt (Nat.mod_lt Y hp))
    have a3 : X % B6 ^ i + Y % B6 ^ i * f ≤ B6 ^ i * (f + 1) := by
      rw [Nat.mul_add, Nat.mul_one]
      omega
    have a4 := Nat.div_le_div_right (c := B6 ^ i) a3
    rw [Nat.mul_div_cancel_left _ hp] at a4
    exact a4
  -- the end
  have l103 : ∀ (q n V : Nat) (g : jHp), q ≤ f + 1 → fg (fbS b) h g → mI g b 2 = 0 → RB r b g n V → V + q * B6 ^ n = Z → J 24 103 0 0 [.ref b, uu, uu, .long (lI (q : Int)), uu, uu, uu, uu] [] g (trQ r b h (Z : Int)) := by
    intro q n V g hq fr g2 RV he
    have Bg := bo_sk B1 fr.1
    have hqn : q = Z / B6 ^ n := by
      rw [← he, Nat.add_mul_div_right _ _ (Nat.pow_pos (by decide)), Nat.div_eq_of_lt RV.2.2.1, Nat.zero_add]
    refine j_Bi_plusTimes_103 ⟨Bg.1, jRet_mono (c_Bextend Bg RV (by omega) (by rw [hqn]; exact sz_split hz RV.2.1)) ?_⟩
    intro q1 h1 w1
    obtain ⟨e1, e2, e3, s', e4⟩ := w1
    rw [he] at e4
    have B2 := bo_sk Bg e2.1
    have b2 : mI h1 b 2 = 0 := by
      rw [e3]
      exact g2
    refine ⟨e1, B2.1, jRet_mono (c_Btrim (v := (Z : Int)) B2 e4 (Or.inl b2) (by rw [if_pos b2])) ?_⟩
    intro q2 h2 w2
    exact ⟨w2.1, rfl, (fr.tr e2).tr w2.2.1, w2.2.2⟩
  have loop : ∀ (d i n : Nat) (g : jHp), i + d = r → (n = s ∧ i ≤ s ∨ n = i ∧ s ≤ i) → fg (fbS b) h g → mI g b 1 = (n : Int) → mI g b 2 = 0 → (∀ j, j < i → mI g (b + 1) j = dg B6 (X % B6 ^ i + Y % B6 ^ i * f) j) → (∀ j, i ≤ j → j < n → mI g (b + 1) j = dg B6 X j) → J 24 5 0 0 [.ref b, .ref c, .int (iI (f : Int)), .long (lI (((X % B6 ^ i + Y % B6 ^ i * f) / B6 ^ i : Nat) : Int)), uu, .int (iI (i : Int)), uu, uu] [] g (trQ r b h (Z : Int)) := by
    intro d
    induction d with
    | zero =>
      intro i n g hi hn fr g1 g2 g3 g4
      obtain rfl : i = r := by omega
      have Bg := bo_sk B1 fr.1
      have Cg := bo_sk C1 fr.1
      have eX : X % B6 ^ i = X := Nat.mod_eq_of_lt (Nat.lt_of_lt_of_le s3 (Nat.pow_le_pow_right (by decide) s2))
      have eY : Y % B6 ^ i = Y := Nat.mod_eq_of_lt (Nat.lt_of_lt_of_le t3 (Nat.pow_le_pow_right (by decide) hzY))
      have hnr : n = i := by omega
      rw [eX, eY, ← hZ] at g3 ⊢
      refine j_Bi_plusTimes_5 ?_
      rw [bo_ln Bg, iI_le ⟨by omega, by omega⟩ ⟨by omega, by omega⟩]
      refine ⟨Bg.1, bo_ar Bg, fun _ => l103 (Z / B6 ^ i) n (Z % B6 ^ n) g ?_ fr g2 ⟨g1, (by omega), Nat.mod_lt _ (Nat.pow_pos (by decide)), fun j hj => by rw [dg_mod (by decide) hj]; exact g3 j (by omega)⟩ ?_, fun z => absurd (Int.le_refl _) z⟩
      · rw [Nat.div_eq_of_lt hZr]
        exact Nat.zero_le _
      · rw [hnr, Nat.mul_comm, Nat.mod_add_div]
    | succ d ih =>
      intro i n g hi hn fr g1 g2 g3 g4
      have Bg := bo_sk B1 fr.1
      have Cg := bo_sk C1 fr.1
      have hp : 0 < B6 ^ i := Nat.pow_pos (by decide)
      have hc0 := cb i
      have d1 : dg B6 X i < 1000000 := dg_lt (by decide)
      have d2 : dg B6 Y i < 1000000 := dg_lt (by decide)
      have hdf : dg B6 Y i * f ≤ 1000000 * 1000000 := Nat.mul_le_mul (by omega) hf
      have u1 : X % B6 ^ (i + 1) + Y % B6 ^ (i + 1) * f = X % B6 ^ i + Y % B6 ^ i * f + (dg B6 X i + dg B6 Y i * f) * B6 ^ i := by
        rw [mod_succ, mod_succ, Nat.add_mul, Nat.add_mul, Nat.mul_assoc (dg B6 Y i), Nat.mul_comm (B6 ^ i) f, ← Nat.mul_assoc]
        omega
      obtain ⟨V, hV⟩ : ∃ V, V = (X % B6 ^ i + Y % B6 ^ i * f) / B6 ^ i + (dg B6 X i + dg B6 Y i * f) := ⟨_, rfl⟩
      have u2 : dg B6 (X % B6 ^ (i + 1) + Y % B6 ^ (i + 1) * f) i = V % 1000000 := by rw [u1, acc_dg (by decide), hV]
      have u3 : (X % B6 ^ (i + 1) + Y % B6 ^ (i + 1) * f) / B6 ^ (i + 1) = V / 1000000 := by rw [u1, acc_car (by decide), hV]
      have low : ∀ j, j < i → dg B6 (X % B6 ^ (i + 1) + Y % B6 ^ (i + 1) * f) j = dg B6 (X % B6 ^ i + Y % B6 ^ i * f) j := fun j hj => by rw [u1, acc_low (by decide) hj]
      have hV2 : (dg B6 X i : Int) + (dg B6 Y i : Int) * (f : Int) + (((X % B6 ^ i + Y % B6 ^ i * f) / B6 ^ i : Nat) : Int) = (V : Int) := by
        rw [hV, Int.natCast_add, Int.natCast_add, Int.natCast_mul (dg B6 Y i)]
        omega
      have dl : dg B6 (X % B6 ^ (i + 1) + Y % B6 ^ (i + 1) * f) i < 1000000 := dg_lt (by decide)
      have gc1 : mI g c 1 = (t : Int) := by
        rw [fr.eq (kc 1).1]
        exact t1
      -- what stands in the limbs: a number
      have lmb : RB r b g n (if n ≤ i then (X % B6 ^ i + Y % B6 ^ i * f) % B6 ^ i else (X % B6 ^ i + Y % B6 ^ i * f) % B6 ^ i + X / B6 ^ i * B6 ^ i) := by
        refine ⟨g1, (by omega), ?_, fun j hj => ?_⟩
        · by_cases c1 : n ≤ i
          · rw [if_pos c1]
            have : n = i := by omega
            rw [this]
            exact Nat.mod_lt _ hp
          · rw [if_neg c1]
            have hns : n = s := by omega
            have e1 : B6 ^ n = B6 ^ (n - i) * B6 ^ i := by
              rw [← Nat.pow_add]
              congr 1
              omega
            have h1 : X / B6 ^ i < B6 ^ (n - i) := by
              rw [Nat.div_lt_iff_lt_mul hp, ← e1, hns]
              exact s3
            have h2 : (X / B6 ^ i + 1) * B6 ^ i ≤ B6 ^ (n - i) * B6 ^ i := Nat.mul_le_mul_right _ h1
            rw [Nat.add_mul, Nat.one_mul] at h2
            rw [e1]
            have := Nat.mod_lt (X % B6 ^ i + Y % B6 ^ i * f) hp
            omega
        · by_cases c1 : j < i
          · rw [g3 j c1]
            by_cases c2 : n ≤ i
            · rw [if_pos c2, dg_mod (by decide) c1]
            · rw [if_neg c2, acc_low (by decide) c1, dg_mod (by decide) c1]
          · rw [g4 j (by omega) hj, if_neg (by omega)]
            obtain ⟨k, rfl⟩ : ∃ k, j = i + k := ⟨j - i, by omega⟩
            rw [← dg_div, ← dg_div, Nat.add_mul_div_right _ _ hp, Nat.div_eq_of_lt (Nat.mod_lt _ hp), Nat.zero_add]
      -- the loop ends here
      have stop : t ≤ i → ((X % B6 ^ i + Y % B6 ^ i * f) / B6 ^ i = 0 ∨ n ≤ i) → J 24 103 0 0 [.ref b, uu, uu, .long (lI (((X % B6 ^ i + Y % B6 ^ i * f) / B6 ^ i : Nat) : Int)), uu, uu, uu, uu] [] g (trQ r b h (Z : Int)) := by
        intro hti hor
        have eY : Y % B6 ^ i = Y := Nat.mod_eq_of_lt (Nat.lt_of_lt_of_le t3 (Nat.pow_le_pow_right (by decide) hti))
        refine l103 _ n _ g hc0 fr g2 lmb ?_
        by_cases c2 : n ≤ i
        · have hni : n = i := by omega
          have eX : X % B6 ^ i = X := Nat.mod_eq_of_lt (Nat.lt_of_lt_of_le s3 (Nat.pow_le_pow_right (by decide) (by omega)))
          rw [if_pos c2, hni, eX, eY, ← hZ, Nat.mul_comm, Nat.mod_add_div]
        · rw [if_neg c2]
          have h0 : (X % B6 ^ i + Y % B6 ^ i * f) / B6 ^ i = 0 := by
            rcases hor with z | z
            · exact z
            · exact absurd z c2
          have h1 := Nat.mod_add_div (X % B6 ^ i + Y % B6 ^ i * f) (B6 ^ i)
          rw [h0, Nat.mul_zero, Nat.add_zero] at h1
          have h2 := Nat.mod_add_div X (B6 ^ i)
          rw [h0, Nat.zero_mul, Nat.add_zero, h1, eY, hZ, Nat.mul_comm (X / B6 ^ i)]
          omega
      have go : J 24 39 0 0 [.ref b, .ref c, .int (iI (f : Int)), .long (lI (((X % B6 ^ i + Y % B6 ^ i * f) / B6 ^ i : Nat) : Int)), uu, .int (iI (i : Int)), uu, uu] [] g (trQ r b h (Z : Int)) := by
        refine j_Bi_plusTimes_39 ⟨Bg.1, jRet_mono (c_Blimb Bg lmb (i := (i : Int)) ⟨by omega, by omega⟩) ?_⟩
        intro q1 h1 w1
        obtain ⟨e1, e2⟩ := w1
        rw [e2]
        have ed : dg B6 (if n ≤ i then (X % B6 ^ i + Y % B6 ^ i * f) % B6 ^ i else (X % B6 ^ i + Y % B6 ^ i * f) % B6 ^ i + X / B6 ^ i * B6 ^ i) i = dg B6 X i := by
          by_cases c2 : n ≤ i
          · rw [if_pos c2]
            have z1 : dg B6 ((X % B6 ^ i + Y % B6 ^ i * f) % B6 ^ i) i = 0 := dg_high (by decide) ((sz_le (by decide)).mpr (Nat.mod_lt _ hp))
            have z2 : dg B6 X i = 0 := dg_high (by decide) ((sz_le (by decide)).mpr (Nat.lt_of_lt_of_le s3 (Nat.pow_le_pow_right (by decide) (by omega))))
            rw [z1, z2]
          · rw [if_neg c2, acc_dg (by decide), Nat.div_eq_of_lt (Nat.mod_lt _ hp), Nat.zero_add]
            rfl
        rw [if_pos (by omega), Int.toNat_natCast, ed] at e1
        refine ⟨_, e1, Cg.1, jRet_mono (c_Blimb (X := Y) (s := t) Cg ⟨gc1, t2, t3, fun k hk => by rw [fr.eq (kc k).2]; exact t4 k hk⟩ (i := (i : Int)) ⟨by omega, by omega⟩) ?_⟩
        intro q2 h2 w2
        obtain ⟨e3, e4⟩ := w2
        rw [e4]
        rw [if_pos (by omega), Int.toNat_natCast] at e3
        refine ⟨_, e3, Bg.1, ?_⟩
        rw [jc6, Bg.2.1, iI_64 (rI6 d1), iI_64 (rI6 d2), iI_64 ⟨by omega, by omega⟩, lI_mul, lI_add, lI_add, hV2, lI_rem (by omega) (by omega) (by omega) (by omega), lI_div (by omega) (by omega) (by omega) (by omega), lI_32, iI_cl (by omega) (by omega), Int.toNat_natCast, show (V : Int) % 1000000 = ((dg B6 (X % B6 ^ (i + 1) + Y % B6 ^ (i + 1) * f) i : Nat) : Int) by rw [u2]; omega, show (V : Int) / 1000000 = (((X % B6 ^ (i + 1) + Y % B6 ^ (i + 1) * f) / B6 ^ (i + 1) : Nat) : Int) by rw [u3]; omega]
        have Bs := bo_sk Bg (sk.rf.sI (p := b + 1) (k := i) (v := iI ((dg B6 (X % B6 ^ (i + 1) + Y % B6 ^ (i + 1) * f) i : Nat) : Int)))
        refine ⟨nz6, ix_of Bg.2.2.1 (by omega) (by omega) (by omega), nz6, Bs.1, Bs.1, ?_⟩
        have g1' : gI (sI g (b + 1) i (iI ((dg B6 (X % B6 ^ (i + 1) + Y % B6 ^ (i + 1) * f) i : Nat) : Int))) b 1 = iI (n : Int) := by rw [gI_mI, mI_sI (rI6 dl), if_neg (fun z => by omega), g1]
        have em : (if gI (sI g (b + 1) i (iI ((dg B6 (X % B6 ^ (i + 1) + Y % B6 ^ (i + 1) * f) i : Nat) : Int))) b 1 < iI (i : Int) + iI 1 then iI (i : Int) + iI 1 else gI (sI g (b + 1) i (iI ((dg B6 (X % B6 ^ (i + 1) + Y % B6 ^ (i + 1) * f) i : Nat) : Int))) b 1) = iI ((if n < i + 1 then i + 1 else n : Nat) : Int) := by
          by_cases c1 : n < i + 1
          · rw [if_pos (by rw [g1', iI_add, iI_lt ⟨by omega, by omega⟩ ⟨by omega, by omega⟩]; omega), if_pos c1, iI_add]
            rfl
          · rw [if_neg (by rw [g1', iI_add, iI_lt ⟨by omega, by omega⟩ ⟨by omega, by omega⟩]; omega), if_neg c1, g1']
        rw [em, iI_add]
        have hn2 : (if n < i + 1 then i + 1 else n) ≤ r := by split <;> omega
        refine ih (i + 1) (if n < i + 1 then i + 1 else n) _ (by omega) ?_ ((fr.wr (Or.inr rfl)).wr (Or.inl rfl)) ?_ ?_ (fun j hj => ?_) (fun j hj hj2 => ?_)
        · split <;> omega
        · rw [mI_sI ⟨by omega, by omega⟩, if_pos ⟨rfl, rfl⟩]
        · rw [mI_sI ⟨by omega, by omega⟩, if_neg (fun z => by omega), mI_sI (rI6 dl), if_neg (fun z => by omega)]
          exact g2
        · rw [mI_sI ⟨by omega, by omega⟩, if_neg (fun z => by omega), mI_sI (rI6 dl)]
          by_cases c1 : j = i
          · rw [if_pos ⟨rfl, c1⟩, c1]
          · rw [if_neg (fun z => c1 z.2), low j (by omega)]
            exact g3 j (by omega)
        · rw [mI_sI ⟨by omega, by omega⟩, if_neg (fun z => by omega), mI_sI (rI6 dl), if_neg (fun z => by omega)]
          exact g4 j (by omega) (by split at hj2 <;> omega)
      refine j_Bi_plusTimes_5 ?_
      have cmp : lg_cmp (lI (((X % B6 ^ i + Y % B6 ^ i * f) / B6 ^ i : Nat) : Int)) (lI ((0 : Nat) : Int)) ≤ 0 ↔ (X % B6 ^ i + Y % B6 ^ i * f) / B6 ^ i = 0 := by
        generalize (X % B6 ^ i + Y % B6 ^ i * f) / B6 ^ i = q at hc0 ⊢
        rw [lg_cmp_le, lI_le ⟨by omega, by omega⟩ ⟨by omega, by omega⟩]
        omega
      rw [bo_ln Bg, iI_le ⟨by omega, by omega⟩ ⟨by omega, by omega⟩, gI_mI g c 1, gc1, iI_lt ⟨by omega, by omega⟩ ⟨by omega, by omega⟩, cmp, gI_mI g b 1, g1, iI_le ⟨by omega, by omega⟩ ⟨by omega, by omega⟩]
      exact ⟨Bg.1, bo_ar Bg, fun z => by omega, fun _ => ⟨Cg.1, fun _ => go, fun z => ⟨fun z2 => stop (by omega) (Or.inl z2), fun z2 => ⟨Bg.1, fun z3 => stop (by omega) (Or.inr (by omega)), fun _ => go⟩⟩⟩⟩
  refine jRet_of (by decide) (by decide) (Nat.le_of_ble_eq_true rfl) (j_Bi_plusTimes_0 ?_)
  have := loop r 0 s h (by omega) (Or.inl ⟨rfl, Nat.zero_le s⟩) fg.rf s1 B3 (fun j hj => by omega) (fun j _ hj => s4 j hj)
  rw [Nat.pow_zero, Nat.mod_one, Nat.mod_one, Nat.zero_mul, Nat.zero_div] at this
  exact this
end BIG
