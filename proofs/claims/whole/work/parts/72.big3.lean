/-! numbers of the class: addRow, setProduct -/
section BIG
variable {r b : Nat} {h : jHp}
theorem c_BaddRow {r2 c n U T i : Nat} {y : Int} (B : BO r b h) (C : BG r2 c h y) (hb : c ≠ b ∧ c ≠ b + 1 ∧ b ≠ c + 1) (h1 : mI h b 1 = (n : Int)) (hn : n ≤ r) (hl : ∀ j, j < n → mI h (b + 1) j = dg B6 U j) (hU : U < B6 ^ (i + sz B6 y.natAbs)) (hT : T < 1000000) (hi : i + sz B6 y.natAbs < n) :
    jRet 8 0 0 [.ref b, .long (lI (T : Int)), .ref c, .int (iI (i : Int))] h (fun q h' => q = none ∧ fg (fun p k => p = b + 1) h h' ∧ ∀ j, j < n → mI h' (b + 1) j = dg B6 (U + T * y.natAbs * B6 ^ i) j) := by
  have hr := B.2.2.2
  obtain ⟨C1, ⟨t1, t2, t3, t4⟩, C3⟩ := C
  have hr2 := C1.2.2.2
  obtain ⟨Y, hY⟩ : ∃ Y, Y = y.natAbs := ⟨_, rfl⟩
  rw [← hY] at t1 t2 t3 t4 hU hi ⊢
  obtain ⟨t, ht⟩ : ∃ t, t = sz B6 Y := ⟨_, rfl⟩
  rw [← ht] at t1 t2 t3 t4 hU hi
  have hm : mU B6 U T Y i t = U + T * Y * B6 ^ i := by
    unfold mU
    rw [Nat.mod_eq_of_lt hU, Nat.mod_eq_of_lt t3]
  have hcl : ∀ k, mU B6 U T Y i k / B6 ^ (i + k) < 1000000 := fun k => mU_lt (by decide) hT
  have loop : ∀ (d k : Nat) (g : jHp), k + d = t → fg (fun p k => p = b + 1) h g → (∀ j, j < i + k → mI g (b + 1) j = dg B6 (mU B6 U T Y i k) j) → (∀ j, i + k ≤ j → j < n → mI g (b + 1) j = dg B6 U j) → J 8 6 0 0 [.ref b, .long (lI (T : Int)), uu, .ref c, .int (iI (i : Int)), .long (lI ((mU B6 U T Y i k / B6 ^ (i + k) : Nat) : Int)), uu, .int (iI (k : Int)), uu, uu] [] g (fun q h' => q = none ∧ fg (fun p k => p = b + 1) h h' ∧ ∀ j, j < n → mI h' (b + 1) j = dg B6 (U + T * Y * B6 ^ i) j) := by
    intro d
    induction d with
    | zero =>
      intro k g hk f g3 g4
      obtain rfl : k = t := by omega
      have Bg := bo_sk B f.1
      have Cg := bo_sk C1 f.1
      have gc : mI g c 1 = (k : Int) := by
        rw [f.eq (by omega)]
        exact t1
      have gb : mI g b 1 = (n : Int) := by
        rw [f.eq (by omega)]
        exact h1
      have hc0 := hcl k
      refine j_Bi_addRow_6 ?_
      rw [gI_mI g c 1, gc, iI_le ⟨by omega, by omega⟩ ⟨by omega, by omega⟩]
      refine ⟨Cg.1, fun _ => j_Bi_addRow_85 ?_, fun z => absurd (Int.le_refl _) z⟩
      rw [gI_mI g c 1, gc, gI_mI g b 1, gb, iI_add, iI_le ⟨by omega, by omega⟩ ⟨by omega, by omega⟩, Bg.2.1, lI_32, iI_cl (by omega) (by omega), show ((i : Int) + (k : Int)).toNat = i + k by omega]
      refine ⟨Cg.1, Bg.1, fun z => absurd z (by omega), fun _ => ⟨Bg.1, Cg.1, ix_of Bg.2.2.1 (by omega) (by omega) (by omega), j_Bi_addRow_114 ⟨rfl, f.wr rfl, fun j hj => ?_⟩⟩⟩
      rw [mI_sI (rI6 hc0), ← hm]
      by_cases e : j = i + k
      · rw [if_pos ⟨rfl, e⟩, e]
        unfold dg
        rw [Nat.mod_eq_of_lt hc0]
      · rw [if_neg (fun z => e z.2)]
        by_cases e2 : j < i + k
        · exact g3 j e2
        · rw [g4 j (by omega) hj]
          have z1 : dg B6 U j = 0 := dg_high (by decide) ((sz_le (by decide)).mpr (Nat.lt_of_lt_of_le hU (Nat.pow_le_pow_right (by decide) (by omega))))
          have z2 : dg B6 (mU B6 U T Y i k) j = 0 := by
            refine dg_high (by decide) ((sz_le (by decide)).mpr (Nat.lt_of_lt_of_le ?_ (Nat.pow_le_pow_right (by decide) (show i + k + 1 ≤ j by omega))))
            rw [Nat.pow_succ, Nat.mul_comm]
            exact (Nat.div_lt_iff_lt_mul (Nat.pow_pos (by decide))).mp hc0
          rw [z1, z2]
    | succ d ih =>
      intro k g hk f g3 g4
      have Bg := bo_sk B f.1
      have Cg := bo_sk C1 f.1
      have gc : mI g c 1 = (t : Int) := by
        rw [f.eq (by omega)]
        exact t1
      have gb : mI g b 1 = (n : Int) := by
        rw [f.eq (by omega)]
        exact h1
      have gcl : mI g (c + 1) k = dg B6 Y k := by
        rw [f.eq (by omega)]
        exact t4 k (by omega)
      have hc0 := hcl k
      have d1 : dg B6 U (i + k) < 1000000 := dg_lt (by decide)
      have d2 : dg B6 Y k < 1000000 := dg_lt (by decide)
      have hTd : T * dg B6 Y k ≤ 1000000 * 1000000 := Nat.mul_le_mul (by omega) (by omega)
      have us := mU_s (B := B6) (S := U) (T := T) (Y := Y) (i := i) (k := k)
      obtain ⟨V, hV⟩ : ∃ V, V = mU B6 U T Y i k / B6 ^ (i + k) + (dg B6 U (i + k) + T * dg B6 Y k) := ⟨_, rfl⟩
      have u2 : dg B6 (mU B6 U T Y i (k + 1)) (i + k) = V % 1000000 := by rw [us, acc_dg (by decide), hV]
      have u3 : mU B6 U T Y i (k + 1) / B6 ^ (i + (k + 1)) = V / 1000000 := by rw [us, ← Nat.add_assoc, acc_car (by decide), hV]
      have hV2 : (dg B6 U (i + k) : Int) + (T : Int) * (dg B6 Y k : Int) + ((mU B6 U T Y i k / B6 ^ (i + k) : Nat) : Int) = (V : Int) := by
        rw [hV, Int.natCast_add, Int.natCast_add, Int.natCast_mul]
        omega
      have dl2 : dg B6 (mU B6 U T Y i (k + 1)) (i + k) < 1000000 := dg_lt (by decide)
      refine j_Bi_addRow_6 ?_
      rw [gI_mI g c 1, gc, gI_mI g b 1, gb, iI_add, iI_le ⟨by omega, by omega⟩ ⟨by omega, by omega⟩, iI_le ⟨by omega, by omega⟩ ⟨by omega, by omega⟩, Bg.2.1, Cg.2.1, gI_q (by omega) (by omega), gI_q (by omega) (by omega), Int.toNat_natCast, show ((i : Int) + (k : Int)).toNat = i + k by omega, g4 (i + k) (by omega) (by omega), gcl, jc6, iI_64 (rI6 d1), iI_64 (rI6 d2), lI_mul, lI_add, lI_add, hV2]
      rw [lI_rem (by omega) (by omega) (by omega) (by omega), lI_div (by omega) (by omega) (by omega) (by omega), lI_32, iI_cl (by omega) (by omega), show ((i : Int) + (k : Int)).toNat = i + k by omega, show (V : Int) % 1000000 = ((dg B6 (mU B6 U T Y i (k + 1)) (i + k) : Nat) : Int) by rw [u2]; omega, show (V : Int) / 1000000 = ((mU B6 U T Y i (k + 1) / B6 ^ (i + (k + 1)) : Nat) : Int) by rw [u3]; omega, iI_add]
      have ixb := ixL_of (a := (i : Int) + (k : Int)) Bg.2.2.1 (by omega) (by omega) (by omega)
      refine ⟨Cg.1, fun z => by omega, fun _ => ⟨Bg.1, fun z => by omega, fun _ => ⟨Bg.1, ixb, Cg.1, ixL_of Cg.2.2.1 (by omega) (by omega) (by omega), Bg.1, nz6, ix_of Bg.2.2.1 (by omega) (by omega) (by omega), nz6, ?_⟩⟩⟩
      refine ih (k + 1) _ (by omega) (f.wr rfl) (fun j hj => ?_) (fun j hj hj2 => ?_)
      · rw [mI_sI (rI6 dl2)]
        by_cases e : j = i + k
        · rw [if_pos ⟨rfl, e⟩, e]
        · rw [if_neg (fun z => e z.2), us, acc_low (by decide) (by omega)]
          exact g3 j (by omega)
      · rw [mI_sI (rI6 dl2), if_neg (fun z => by omega)]
        exact g4 j (by omega) (by omega)
  refine jRet_of (by decide) (by decide) (Nat.le_of_ble_eq_true rfl) (j_Bi_addRow_0 ?_)
  have e0 : mU B6 U T Y i 0 / B6 ^ (i + 0) = 0 := by
    rw [mU_0, Nat.add_zero]
    exact Nat.div_eq_of_lt (Nat.mod_lt _ (Nat.pow_pos (by decide)))
  have := loop t 0 h (by omega) fg.rf (fun j hj => by rw [mU_0, dg_mod (by decide) (by omega)]; exact hl j (by omega)) (fun j _ hj => hl j hj)
  rw [e0] at this
  exact this
theorem c_BsetProduct {ra a rc c : Nat} {u v w : Int} (B : BG r b h u) (A : BG ra a h v) (C : BG rc c h w) (ha : a ≠ b ∧ a ≠ b + 1 ∧ b ≠ a + 1) (hc : c ≠ b ∧ c ≠ b + 1 ∧ b ≠ c + 1) (hz : sz B6 v.natAbs + sz B6 w.natAbs ≤ r) : jRet 7 0 0 [.ref b, .ref a, .ref c] h (trQ r b h (v * w)) := by
  obtain ⟨B1, _, _⟩ := B
  have A0 := A
  have C0 := C
  obtain ⟨A1, ⟨s1, s2, s3, s4⟩, A3⟩ := A
  obtain ⟨C1, ⟨t1, t2, t3, t4⟩, C3⟩ := C
  have hr := B1.2.2.2
  have hra := A1.2.2.2
  have hrc := C1.2.2.2
  have kee : ∀ k, ¬ fbS b a k ∧ ¬ fbS b (a + 1) k := fun k => by
    unfold fbS
    omega
  have kee2 : ∀ k, ¬ fbS b c k ∧ ¬ fbS b (c + 1) k := fun k => by
    unfold fbS
    omega
  obtain ⟨X, hX⟩ : ∃ X, X = v.natAbs := ⟨_, rfl⟩
  obtain ⟨Y, hY⟩ : ∃ Y, Y = w.natAbs := ⟨_, rfl⟩
  obtain ⟨s, hs⟩ : ∃ s, s = sz B6 X := ⟨_, rfl⟩
  obtain ⟨t, ht⟩ : ∃ t, t = sz B6 Y := ⟨_, rfl⟩
  rw [← hX, ← hs] at s1 s2 s3 s4
  rw [← hY, ← ht] at t1 t2 t3 t4
  rw [← hX, ← hY, ← hs, ← ht] at hz
  have hXY : X * Y < B6 ^ (s + t) := by
    rw [Nat.pow_add]
    exact Nat.mul_lt_mul'' s3 t3
  -- the end
  have l73 : ∀ g : jHp, fg (fbS b) h g → mI g b 1 = ((s + t : Nat) : Int) → (∀ j, j < s + t → mI g (b + 1) j = dg B6 (X * Y) j) → J 7 73 0 0 [.ref b, .ref a, .ref c, uu] [] g (trQ r b h (v * w)) := by
    intro g f g1 gl
    have Bg := bo_sk B1 f.1
    have Ag := bo_sk A1 f.1
    have Cg := bo_sk C1 f.1
    have ga : mI g a 2 = (if v < 0 then 1 else 0) := by
      rw [f.eq (kee 2).1]
      exact A3
    have gc : mI g c 2 = (if w < 0 then 1 else 0) := by
      rw [f.eq (kee2 2).1]
      exact C3
    have fin : ∀ y : Int, (y = 0 ∨ y = 1) → v * w = (if y = 0 then ((X * Y : Nat) : Int) else -((X * Y : Nat) : Int)) → J 7 90 0 0 [.ref b, uu, uu, uu] [.int (iI y), .ref b] g (trQ r b h (v * w)) := by
      intro y hy he
      have yb : mI (sI g b 2 (iI y)) b 2 = y := by
        rw [mI_sI ⟨by omega, by omega⟩, if_pos ⟨rfl, rfl⟩]
      refine j_Bi_setProduct_90 ⟨Bg.1, ?_, (bo_sk Bg (sk.rf.sI)).1, jRet_mono (c_Btrim (s := s + t) (X := X * Y) (v := v * w) (bo_sk Bg (sk.rf.sI)) ⟨?_, hz, hXY, fun k hk => ?_⟩ (by rw [yb]; exact hy) (by rw [yb]; exact he)) ?_⟩
      · rcases hy with z | z
        · rw [z]
          exact Or.inl rfl
        · rw [z]
          exact Or.inr rfl
      · rw [mI_sI ⟨by omega, by omega⟩, if_neg (fun z => by omega)]
        exact g1
      · rw [mI_sI ⟨by omega, by omega⟩, if_neg (fun z => by omega)]
        exact gl k hk
      · intro q2 h2 w2
        exact ⟨w2.1, rfl, (f.wr (Or.inl rfl)).tr w2.2.1, w2.2.2⟩
    refine j_Bi_setProduct_73 ?_
    rw [gI_mI g a 2, gI_mI g c 2, ga, gc, iI_eq (by split <;> exact ⟨by omega, by omega⟩) (by split <;> exact ⟨by omega, by omega⟩)]
    have cx : ((X * Y : Nat) : Int) = (X : Int) * (Y : Int) := Int.natCast_mul X Y
    refine ⟨Ag.1, Cg.1, fun e => j_Bi_setProduct_89 (fin 0 (Or.inl rfl) ?_), fun e => fin 1 (Or.inr rfl) ?_⟩
    · rw [if_pos rfl, cx]
      by_cases c1 : v < 0
      · rw [if_pos c1] at e
        have c2 : w < 0 := by split at e <;> omega
        rw [show v = -(X : Int) by omega, show w = -(Y : Int) by omega, Int.neg_mul_neg]
      · rw [if_neg c1] at e
        have c2 : ¬ w < 0 := by split at e <;> omega
        rw [show v = (X : Int) by omega, show w = (Y : Int) by omega]
    · rw [if_neg (by decide), cx]
      by_cases c1 : v < 0
      · rw [if_pos c1] at e
        have c2 : ¬ w < 0 := by split at e <;> omega
        rw [show v = -(X : Int) by omega, show w = (Y : Int) by omega, Int.neg_mul]
      · rw [if_neg c1] at e
        have c2 : w < 0 := by split at e <;> omega
        rw [show v = (X : Int) by omega, show w = -(Y : Int) by omega, Int.mul_neg]
  -- the rows
  have l46 : ∀ (d i : Nat) (g : jHp), i + d = s → fg (fbS b) h g → mI g b 1 = ((s + t : Nat) : Int) → (∀ j, j < s + t → mI g (b + 1) j = dg B6 (X % B6 ^ i * Y) j) → J 7 46 0 0 [.ref b, .ref a, .ref c, .int (iI i)] [] g (trQ r b h (v * w)) := by
    intro d
    induction d with
    | zero =>
      intro i g hi f g1 gl
      obtain rfl : i = s := by omega
      have Ag := bo_sk A1 f.1
      rw [Nat.mod_eq_of_lt s3] at gl
      refine j_Bi_setProduct_46 ?_
      rw [gI_mI g a 1, f.eq (kee 1).1, s1, iI_le ⟨by omega, by omega⟩ ⟨by omega, by omega⟩]
      exact ⟨Ag.1, fun _ => l73 g f g1 gl, fun z => absurd (Int.le_refl _) z⟩
    | succ d ih =>
      intro i g hi f g1 gl
      have Ag := bo_sk A1 f.1
      have Bg := bo_sk B1 f.1
      have Cg := bg_fg C0 f kee2
      have dl : dg B6 X i < 1000000 := dg_lt (by decide)
      refine j_Bi_setProduct_46 ?_
      rw [gI_mI g a 1, f.eq (kee 1).1, s1, iI_le ⟨by omega, by omega⟩ ⟨by omega, by omega⟩, Ag.2.1, gI_q (by omega) (by omega), Int.toNat_natCast, f.eq (kee i).2, s4 i (by omega), iI_64 (rI6 dl)]
      have mS : X % B6 ^ i * Y < B6 ^ (i + sz B6 w.natAbs) := by
        rw [← hY]
        exact mS_lt (by decide)
      refine ⟨Ag.1, fun z => by omega, fun _ => ⟨Ag.1, ixL_of Ag.2.2.1 (by omega) (by omega) (by omega), Bg.1, jRet_mono (c_BaddRow (T := dg B6 X i) (i := i) Bg Cg hc g1 hz gl mS dl (by rw [← hY, ← ht]; omega)) ?_⟩⟩
      intro q1 h1 w1
      obtain ⟨e1, e2, e3⟩ := w1
      refine ⟨e1, ?_⟩
      rw [iI_add]
      refine ih (i + 1) h1 (by omega) (f.tr (e2.mo (fun p k z => Or.inr z))) (by rw [e2.eq (by omega)]; exact g1) (fun j hj => ?_)
      rw [e3 j hj, mod_succ, Nat.add_mul, ← hY, Nat.mul_assoc (dg B6 X i), Nat.mul_comm Y, ← Nat.mul_assoc]
  -- the zeros
  have l23 : ∀ (d k : Nat) (g : jHp), k + d = s + t → fg (fbS b) h g → mI g b 1 = ((s + t : Nat) : Int) → (∀ j, j < k → mI g (b + 1) j = 0) → J 7 23 0 0 [.ref b, .ref a, .ref c, .int (iI k)] [] g (trQ r b h (v * w)) := by
    intro d
    induction d with
    | zero =>
      intro k g hk f g1 gl
      obtain rfl : k = s + t := by omega
      have Bg := bo_sk B1 f.1
      refine j_Bi_setProduct_23 ?_
      rw [gI_mI g b 1, g1, iI_le ⟨by omega, by omega⟩ ⟨by omega, by omega⟩]
      refine ⟨Bg.1, fun _ => j_Bi_setProduct_44 (l46 s 0 g (by omega) f g1 (fun j hj => ?_)), fun z => absurd (Int.le_refl _) z⟩
      rw [gl j hj, Nat.pow_zero, Nat.mod_one, Nat.zero_mul]
      unfold dg
      rw [Nat.zero_div]
      rfl
    | succ d ih =>
      intro k g hk f g1 gl
      have Bg := bo_sk B1 f.1
      refine j_Bi_setProduct_23 ?_
      rw [gI_mI g b 1, g1, iI_le ⟨by omega, by omega⟩ ⟨by omega, by omega⟩, Bg.2.1, iI_cl (by omega) (by omega), Int.toNat_natCast, iI_add]
      refine ⟨Bg.1, fun z => by omega, fun _ => ⟨Bg.1, ix_of Bg.2.2.1 (by omega) (by omega) (by omega), ih (k + 1) _ (by omega) (f.wr (Or.inr rfl)) ?_ (fun j hj => ?_)⟩⟩
      · rw [mI_sI ⟨by omega, by omega⟩, if_neg (fun z => by omega)]
        exact g1
      · rw [mI_sI ⟨by omega, by omega⟩]
        by_cases e : j = k
        · rw [if_pos ⟨rfl, e⟩]
        · rw [if_neg (fun z => e z.2)]
          exact gl j (by omega)
  refine jRet_of (by decide) (by decide) (Nat.le_of_ble_eq_true rfl) (j_Bi_setProduct_0 ?_)
  have g1 : gI h a 1 + gI h c 1 = iI ((s + t : Nat) : Int) := by
    rw [gI_mI, gI_mI, s1, t1, iI_add]
    rfl
  have em : (if Int32.ofNat (jz h (gR h b 0)).2 < gI h a 1 + gI h c 1 then Int32.ofNat (jz h (gR h b 0)).2 else gI h a 1 + gI h c 1) = iI ((s + t : Nat) : Int) := by
    rw [if_neg, g1]
    rw [bo_ln B1, g1, iI_lt ⟨by omega, by omega⟩ ⟨by omega, by omega⟩]
    omega
  rw [em]
  refine ⟨A1.1, C1.1, B1.1, bo_ar B1, B1.1, l23 (s + t) 0 _ (by omega) (fg.rf.wr (Or.inl rfl)) ?_ (fun j hj => by omega)⟩
  rw [mI_sI ⟨by omega, by omega⟩, if_pos ⟨rfl, rfl⟩]
end BIG
