/-! numbers of the class: set, copy, negate, compareSizes -/
section BIG
variable {r b : Nat} {h : jHp}
theorem bg_fg {v : Int} {S : Nat → Nat → Prop} {g : jHp} (B : BG r b h v) (f : fg S h g) (s : ∀ k, ¬ S b k ∧ ¬ S (b + 1) k) : BG r b g v := by
  obtain ⟨B1, ⟨s1, s2, s3, s4⟩, B3⟩ := B
  exact ⟨bo_sk B1 f.1, ⟨by rw [f.eq (s _).1]; exact s1, s2, s3, fun k hk => by rw [f.eq (s _).2]; exact s4 k hk⟩, by rw [f.eq (s _).1]; exact B3⟩
theorem c_Bcopy {r2 c : Nat} {v w : Int} (B : BG r b h v) (C : BG r2 c h w) (hb : c ≠ b ∧ c ≠ b + 1 ∧ b ≠ c + 1) (hz : sz B6 w.natAbs ≤ r) : jRet 22 0 0 [.ref b, .ref c] h (trQ r b h w) := by
  obtain ⟨B1, _, _⟩ := B
  obtain ⟨C1, ⟨t1, t2, t3, t4⟩, C3⟩ := C
  have hr := B1.2.2.2
  have hr2 := C1.2.2.2
  refine jRet_of (by decide) (by decide) (Nat.le_of_ble_eq_true rfl) (j_Bi_copy_0 ?_)
  have y2 : rI (if w < 0 then (1 : Int) else 0) := by split <;> exact ⟨by omega, by omega⟩
  have e2 : gI h c 2 = iI (if w < 0 then 1 else 0) := by rw [gI_mI, C3]
  have e1 : gI (sI h b 2 (gI h c 2)) c 1 = iI (sz B6 w.natAbs : Int) := by rw [gI_sI, if_neg (fun z => by omega), gI_mI, t1]
  have e3 : (if Int32.ofNat (jz (sI h b 2 (gI h c 2)) (gR (sI h b 2 (gI h c 2)) b 0)).2 < gI (sI h b 2 (gI h c 2)) c 1 then Int32.ofNat (jz (sI h b 2 (gI h c 2)) (gR (sI h b 2 (gI h c 2)) b 0)).2 else gI (sI h b 2 (gI h c 2)) c 1) = iI (sz B6 w.natAbs : Int) := by
    rw [if_neg]
    · exact e1
    · show ¬ Int32.ofNat (jz h (gR h b 0)).2 < _
      rw [bo_ln B1, e1, iI_lt ⟨by omega, by omega⟩ ⟨by omega, by omega⟩]
      omega
  rw [e3]
  simp only [jz_sI, gR_sI]
  rw [e2]
  have e4 : gI (sI (sI h b 2 (iI (if w < 0 then 1 else 0))) b 1 (iI (sz B6 w.natAbs : Int))) b 1 = iI (sz B6 w.natAbs : Int) := by rw [gI_mI, mI_sI ⟨by omega, by omega⟩, if_pos ⟨rfl, rfl⟩]
  rw [e4, B1.2.1, C1.2.1, B1.2.2.1, C1.2.2.1, iI_cl (by omega) (by omega), iI_cl (by omega) (by omega), iI_0, iI_lt ⟨by omega, by omega⟩ ⟨by omega, by omega⟩, iI_lt ⟨by omega, by omega⟩ ⟨by omega, by omega⟩]
  have B' : ∀ g, sk h g → isO g b 0 := fun g s => s.o B1.1
  have C' : ∀ g, sk h g → isO g c 0 := fun g s => s.o C1.1
  refine ⟨C1.1, B1.1, ?_, C' _ sk.rf.sI, B' _ sk.rf.sI, Or.inl ⟨show 10 ≤ 10 by decide, show 10 ≤ 14 by decide⟩, B' _ sk.rf.sI, C' _ (sk.rf.sI).sI, B' _ (sk.rf.sI).sI, B' _ (sk.rf.sI).sI, rfl, rfl, (by omega), (by omega), (by omega), ?_, ?_, rfl, ?_, ?_, ?_, ?_⟩
  · by_cases c : w < 0
    · rw [if_pos c]
      exact Or.inr rfl
    · rw [if_neg c]
      exact Or.inl rfl
  · show (0 : Int).toNat + _ ≤ r2
    omega
  · show (0 : Int).toNat + _ ≤ r
    omega
  · refine ⟨⟨rfl, rfl⟩, fun p k z => ?_⟩
    rw [gI_jY, if_neg (fun e => z (Or.inr e)), gI_sI, if_neg (fun e => z (Or.inl e.1)), gI_sI, if_neg (fun e => z (Or.inl e.1))]
  · exact bo_sk B1 ⟨rfl, rfl⟩
  · refine ⟨?_, hz, t3, fun k hk => ?_⟩
    · unfold mI
      rw [gI_jY, if_neg (fun e => by omega), e4]
      exact iI_to ⟨by omega, by omega⟩
    · unfold mI
      rw [gI_jY, if_pos rfl, pk_cpy_in (by omega) (by omega), gI_sI, if_neg (fun e => by omega), gI_sI, if_neg (fun e => by omega)]
      have := t4 k hk
      unfold mI at this
      rw [← this]
      congr 2
      show 0 + (k - 0) = k
      omega
  · unfold mI
    rw [gI_jY, if_neg (fun e => by omega), gI_sI, if_neg (fun e => by omega), gI_sI, if_pos ⟨rfl, rfl⟩]
    exact iI_to y2
theorem c_Bnegate {v : Int} (B : BG r b h v) : jRet 21 0 0 [.ref b] h (trQ r b h (-v)) := by
  obtain ⟨B1, ⟨s1, s2, s3, s4⟩, B3⟩ := B
  have hr := B1.2.2.2
  have hp := sz_pos (B := B6) (v := v.natAbs) (by decide)
  have fin : ∀ y : Int, y = (if -v < 0 then 1 else 0) → J 21 20 0 0 [uu] [.int (iI y), .ref b] h (trQ r b h (-v)) := by
    intro y hy
    have y2 : y = 0 ∨ y = 1 := by
      rw [hy]
      split <;> omega
    refine j_Bi_negate_20 ⟨B1.1, ?_, rfl, fg.rf.wr (Or.inl rfl), bo_sk B1 (sk.rf.sI), ⟨?_, ?_, ?_, fun k hk => ?_⟩, ?_⟩
    · rcases y2 with z | z
      · rw [z]
        exact Or.inl rfl
      · rw [z]
        exact Or.inr rfl
    · rw [mI_sI ⟨by omega, by omega⟩, if_neg (fun z => by omega), s1, Int.natAbs_neg]
    · rw [Int.natAbs_neg]
      exact s2
    · rw [Int.natAbs_neg]
      exact s3
    · rw [Int.natAbs_neg] at hk ⊢
      rw [mI_sI ⟨by omega, by omega⟩, if_neg (fun z => by omega)]
      exact s4 k hk
    · rw [mI_sI ⟨by omega, by omega⟩, if_pos ⟨rfl, rfl⟩, hy]
  refine jRet_of (by decide) (by decide) (Nat.le_of_ble_eq_true rfl) (j_Bi_negate_0 ?_)
  rw [gI_mI h b 1, s1, gI_mI h b 2, B3, iI_0, iI_le ⟨by omega, by omega⟩ ⟨by omega, by omega⟩, iI_eq (by split <;> exact ⟨by omega, by omega⟩) ⟨by omega, by omega⟩]
  refine ⟨B1.1, fun c => j_Bi_negate_19 (fin 0 ?_), fun c => ⟨B1.1, fun d => j_Bi_negate_19 (fin 0 ?_), fun d => fin 1 ?_⟩⟩
  · rw [if_neg (by omega)]
  · rw [if_neg (by split at d <;> omega)]
  · rw [if_pos (by split at d <;> omega)]
theorem c_Bset {v x : Int} (B : BG r b h v) (hx : -9223372036854775808 < x ∧ x < 9223372036854775808) (hz : sz B6 x.natAbs ≤ r) : jRet 6 0 0 [.ref b, .long (lI x)] h (trQ r b h x) := by
  obtain ⟨B1, _, _⟩ := B
  have hr := B1.2.2.2
  obtain ⟨X, hX⟩ : ∃ X, X = x.natAbs := ⟨_, rfl⟩
  rw [← hX] at hz
  -- what is left, with its sign
  have q0 : ∀ V : Nat, V < 9223372036854775808 → rL (if x < 0 then -(V : Int) else (V : Int)) := by
    intro V hV
    unfold rL
    split <;> omega
  have loop : ∀ (d k : Nat) (g : jHp), k + d = sz B6 X → fg (fbS b) h g → mI g b 2 = (if x < 0 then 1 else 0) → RB r b g k (X % B6 ^ k) → J 6 25 0 0 [.ref b, uu, uu, .long (lI (if x < 0 then -((X / B6 ^ k : Nat) : Int) else ((X / B6 ^ k : Nat) : Int))), uu, .int (iI k)] [] g (trQ r b h x) := by
    intro d
    induction d with
    | zero =>
      intro k g hk f g2 R
      obtain rfl : k = sz B6 X := by omega
      have Bg := bo_sk B1 f.1
      have e0 : X < B6 ^ sz B6 X := sz_lt (by decide)
      rw [Nat.div_eq_of_lt e0]
      rw [Nat.mod_eq_of_lt e0] at R
      have fin : J 6 77 0 0 [uu, uu, uu, uu, uu, uu] [] g (trQ r b h x) := j_Bi_set_77 ⟨rfl, f, Bg, by rw [← hX]; exact R, g2⟩
      have ez : (if x < 0 then -((0 : Nat) : Int) else ((0 : Nat) : Int)) = ((0 : Nat) : Int) := by split <;> rfl
      rw [ez]
      exact j_Bi_set_25 ⟨Bg.1, bo_ar Bg, fun _ => fin, fun _ => ⟨fun _ => fin, fun z => absurd (by decide) z⟩⟩
    | succ d ih =>
      intro k g hk f g2 R
      have Bg := bo_sk B1 f.1
      have hq : 0 < X / B6 ^ k := by
        apply Nat.div_pos
        · rcases Nat.lt_or_ge X (B6 ^ k) with z | z
          · have := (sz_le (B := B6) (by decide)).mpr z
            omega
          · exact z
        · exact Nat.pow_pos (by decide)
      have hq2 : X / B6 ^ k ≤ X := Nat.div_le_self _ _
      have e1 : X / B6 ^ k / 1000000 = X / B6 ^ (k + 1) := by rw [Nat.div_div_eq_div_mul, ← Nat.pow_succ]
      have dl : dg B6 X k < 1000000 := dg_lt (by decide)
      obtain ⟨V, hV⟩ : ∃ V, V = X / B6 ^ k := ⟨_, rfl⟩
      have e2 : V % 1000000 = dg B6 X k := by rw [hV]; rfl
      rw [← hV] at hq hq2 e1 ⊢
      have hV63 : V < 9223372036854775808 := by omega
      have rV := q0 V hV63
      have cmp : lg_cmp (lI (if x < 0 then -(V : Int) else (V : Int))) (lI ((0 : Nat) : Int)) = 0 ↔ V = 0 := by
        rw [lg_cmp_eq, lI_eq rV ⟨by omega, by omega⟩]
        split <;> omega
      refine j_Bi_set_25 ?_
      rw [bo_ln Bg, cmp, jc6, Bg.2.1]
      -- quotient and rest
      have eq : lI (if x < 0 then -(V : Int) else (V : Int)) / lI 1000000 = lI (if x < 0 then -((V / 1000000 : Nat) : Int) else ((V / 1000000 : Nat) : Int)) := by
        rw [lI_tdiv rV ⟨by omega, by omega⟩]
        congr 1
        split
        · rw [Int.neg_tdiv]
          rfl
        · rfl
      rw [eq, lI_mul, lI_sub]
      have er : (if x < 0 then -(V : Int) else (V : Int)) - (if x < 0 then -((V / 1000000 : Nat) : Int) else ((V / 1000000 : Nat) : Int)) * 1000000 = (if x < 0 then -((dg B6 X k : Nat) : Int) else ((dg B6 X k : Nat) : Int)) := by
        split <;> omega
      rw [er]
      have ea : (if (0 : Int64) < lI (if x < 0 then -((dg B6 X k : Nat) : Int) else ((dg B6 X k : Nat) : Int)) then lI (if x < 0 then -((dg B6 X k : Nat) : Int) else ((dg B6 X k : Nat) : Int)) else -lI (if x < 0 then -((dg B6 X k : Nat) : Int) else ((dg B6 X k : Nat) : Int))) = lI ((dg B6 X k : Nat) : Int) := by
        rw [lI_neg]
        by_cases c : x < 0
        · rw [if_pos c, if_neg (by rw [lI_0, lI_lt ⟨by omega, by omega⟩ ⟨by omega, by omega⟩]; omega), Int.neg_neg]
        · rw [if_neg c]
          by_cases c2 : dg B6 X k = 0
          · rw [c2]
            rfl
          · rw [if_pos (by rw [lI_0, lI_lt ⟨by omega, by omega⟩ ⟨by omega, by omega⟩]; omega)]
      rw [ea, lI_32, iI_cl (by omega) (by omega), Int.toNat_natCast, iI_add, iI_le ⟨by omega, by omega⟩ ⟨by omega, by omega⟩]
      refine ⟨Bg.1, bo_a1 Bg, fun z => absurd z (by omega), fun _ => ⟨fun z => absurd z (by omega), fun _ => ⟨Bg.1, nz6, ix_of Bg.2.2.1 (by omega) (by omega) (by omega), nz6, (bo_sk Bg (sk.rf.sI)).1, j_Bi_set_71 ?_⟩⟩⟩
      rw [iI_add, show (k : Int) + 1 = ((k + 1 : Nat) : Int) by omega, e1]
      have P := rb_push Bg R (show k < r by omega) dl
      rw [← mod_succ] at P
      refine ih (k + 1) _ (by omega) ((f.wr (Or.inr rfl)).wr (Or.inl rfl)) ?_ P
      rw [mI_sI ⟨by omega, by omega⟩, if_neg (fun z => by omega), mI_sI (rI6 dl), if_neg (fun z => by omega)]
      exact g2
  have l12 : ∀ y : Int, y = (if x < 0 then 1 else 0) → J 6 12 0 0 [.ref b, .long (lI x), uu, uu, uu, uu] [.int (iI y), .ref b] h (trQ r b h x) := by
    intro y hy
    have y2 : y = 0 ∨ y = 1 := by
      rw [hy]
      split <;> omega
    refine j_Bi_set_12 ⟨B1.1, ?_, (bo_sk B1 (sk.rf.sI)).1, j_Bi_set_20 ?_⟩
    · rcases y2 with z | z
      · rw [z]
        exact Or.inl rfl
      · rw [z]
        exact Or.inr rfl
    · have := loop (sz B6 X) 0 (sI (sI h b 2 (iI y)) b 1 (iI 0)) (by omega) ((fg.rf.wr (Or.inl rfl)).wr (Or.inl rfl)) ?_ ⟨?_, (by omega), ?_, fun k hk => by omega⟩
      · rw [Nat.pow_zero, Nat.div_one] at this
        have ex : (if x < 0 then -(X : Int) else (X : Int)) = x := by split <;> omega
        rw [ex] at this
        exact this
      · rw [mI_sI ⟨by omega, by omega⟩, if_neg (fun z => by omega), mI_sI ⟨by omega, by omega⟩, if_pos ⟨rfl, rfl⟩, hy]
      · rw [mI_sI ⟨by omega, by omega⟩, if_pos ⟨rfl, rfl⟩]
        rfl
      · rw [Nat.pow_zero, Nat.mod_one]
        decide
  have cmp0 : 0 ≤ lg_cmp (lI x) (lI ((0 : Nat) : Int)) ↔ 0 ≤ x := by
    rw [lg_cmp_ge]
    exact lI_le ⟨by omega, by omega⟩ ⟨by omega, by omega⟩
  refine jRet_of (by decide) (by decide) (Nat.le_of_ble_eq_true rfl) (j_Bi_set_0 ?_)
  rw [cmp0]
  exact ⟨fun c => j_Bi_set_11 (l12 0 (by rw [if_neg (by omega)])), fun c => l12 1 (by rw [if_pos (by omega)])⟩
theorem c_Bcmp {r2 c : Nat} {v w : Int} (B : BG r b h v) (C : BG r2 c h w) : jRet 13 0 0 [.ref b, .ref c] h (fun q h' => q = some (.int (iI (cmpN v.natAbs w.natAbs))) ∧ h' = h) := by
  obtain ⟨B1, ⟨s1, s2, s3, s4⟩, B3⟩ := B
  obtain ⟨C1, ⟨t1, t2, t3, t4⟩, C3⟩ := C
  have hr := B1.2.2.2
  have hr2 := C1.2.2.2
  have hlt : ∀ u v : Nat, u < v → cmpN u v = -1 := fun u v q => if_pos q
  have hgt : ∀ u v : Nat, v < u → cmpN u v = 1 := fun u v q => by unfold cmpN; rw [if_neg (by omega), if_pos q]
  refine jRet_of (by decide) (by decide) (Nat.le_of_ble_eq_true rfl) (j_Bi_compareSizes_0 ?_)
  rw [gI_mI h b 1, s1, gI_mI h c 1, t1, iI_eq ⟨by omega, by omega⟩ ⟨by omega, by omega⟩, iI_le ⟨by omega, by omega⟩ ⟨by omega, by omega⟩]
  refine ⟨B1.1, C1.1, fun e => j_Bi_compareSizes_28 ⟨B1.1, ?_⟩, fun e => ⟨B1.1, C1.1, fun e2 => j_Bi_compareSizes_26 (j_Bi_compareSizes_27 ⟨?_, rfl⟩), fun e2 => j_Bi_compareSizes_27 ⟨?_, rfl⟩⟩⟩
  · have es : sz B6 v.natAbs = sz B6 w.natAbs := by omega
    rw [gI_mI h b 1, s1, iI_sub]
    have loop : ∀ k : Nat, k ≤ sz B6 v.natAbs → v.natAbs / B6 ^ k = w.natAbs / B6 ^ k → J 13 35 0 0 [.ref b, .ref c, .int (iI ((k : Int) - 1))] [] h (fun q h' => q = some (.int (iI (cmpN v.natAbs w.natAbs))) ∧ h' = h) := by
      intro k
      induction k with
      | zero =>
        intro _ hd
        rw [Nat.pow_zero, Nat.div_one, Nat.div_one] at hd
        refine j_Bi_compareSizes_35 ⟨fun _ => j_Bi_compareSizes_81 ⟨?_, rfl⟩, fun z => absurd (by rw [iI_0]; exact (iI_lt ⟨by omega, by omega⟩ ⟨by omega, by omega⟩).mpr (by omega)) z⟩
        rw [hd]
        unfold cmpN
        rw [if_neg (Nat.lt_irrefl _), if_neg (Nat.lt_irrefl _)]
      | succ k ih =>
        intro hk hd
        have d1 : dg B6 v.natAbs k < 1000000 := dg_lt (by decide)
        have d2 : dg B6 w.natAbs k < 1000000 := dg_lt (by decide)
        refine j_Bi_compareSizes_35 ?_
        rw [B1.2.1, C1.2.1, show ((k + 1 : Nat) : Int) - 1 = (k : Int) by omega, gI_q (by omega) (by omega), gI_q (by omega) (by omega), Int.toNat_natCast, s4 k (by omega), t4 k (by omega), iI_0, iI_lt ⟨by omega, by omega⟩ ⟨by omega, by omega⟩, iI_eq ⟨by omega, by omega⟩ ⟨by omega, by omega⟩, iI_le ⟨by omega, by omega⟩ ⟨by omega, by omega⟩]
        have i1 := ixL_of (a := (k : Int)) B1.2.2.1 (by omega) (by omega) (by omega)
        have i2 := ixL_of (a := (k : Int)) C1.2.2.1 (by omega) (by omega) (by omega)
        refine ⟨fun z => by omega, fun _ => ⟨B1.1, i1, C1.1, i2, fun e1 => j_Bi_compareSizes_75 ?_, fun e1 => ⟨B1.1, i1, C1.1, i2, fun e2 => j_Bi_compareSizes_73 (j_Bi_compareSizes_74 ⟨?_, rfl⟩), fun e2 => j_Bi_compareSizes_74 ⟨?_, rfl⟩⟩⟩⟩
        · rw [iI_add, show (k : Int) + -1 = (k : Int) - 1 by omega]
          exact ih (by omega) (cmp_eq hd (by omega))
        · rw [hlt _ _ (cmp_lt hd (by omega))]
        · rw [hgt _ _ (cmp_lt hd.symm (by omega))]
    have := loop (sz B6 v.natAbs) (Nat.le_refl _) (by rw [Nat.div_eq_of_lt s3, es, Nat.div_eq_of_lt t3])
    exact this
  · rw [hlt _ _ (cmp_sz (B := B6) (by decide) (by omega))]
  · rw [hgt _ _ (cmp_sz (B := B6) (by decide) (by omega))]
end BIG
