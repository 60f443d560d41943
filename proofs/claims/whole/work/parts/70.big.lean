/-! the class's numbers: limbs of six digits -/
abbrev B6 : Nat := 1000000
theorem jc6 : jc 0 1000000 = 1000000 := by decide
theorem nz6 : ¬ lI 1000000 = 0 := by decide
/-- a number's object b with room for r limbs -/
def BO (r b : Nat) (h : jHp) : Prop := isO h b 0 ∧ gR h b 0 = b + 1 ∧ jz h (b + 1) = (10, r) ∧ r ≤ 100
theorem bo_sk {r b : Nat} {h h' : jHp} (B : BO r b h) (s : sk h h') : BO r b h' := ⟨s.o B.1, by rw [s.r]; exact B.2.1, by rw [s.z]; exact B.2.2.1, B.2.2.2⟩
def fbS (b p k : Nat) : Prop := p = b ∨ p = b + 1
/-- s limbs, not trimmed -/
def RB (r b : Nat) (h : jHp) (s X : Nat) : Prop := mI h b 1 = (s : Int) ∧ s ≤ r ∧ X < B6 ^ s ∧ ∀ k, k < s → mI h (b + 1) k = (dg B6 X k : Int)
/-- the number v -/
def BG (r b : Nat) (h : jHp) (v : Int) : Prop := BO r b h ∧ RB r b h (sz B6 v.natAbs) v.natAbs ∧ mI h b 2 = (if v < 0 then 1 else 0)
theorem bo_ar {r b : Nat} {h : jHp} (B : BO r b h) : 10 ≤ (jz h (gR h b 0)).1 ∧ (jz h (gR h b 0)).1 ≤ 14 ∨ (jz h (gR h b 0)).1 = 20 := by
  rw [B.2.1, B.2.2.1]
  exact Or.inl ⟨show 10 ≤ 10 by decide, show 10 ≤ 14 by decide⟩
theorem bo_a1 {r b : Nat} {h : jHp} (B : BO r b h) : 10 ≤ (jz h (b + 1)).1 ∧ (jz h (b + 1)).1 ≤ 14 ∨ (jz h (b + 1)).1 = 20 := by
  rw [B.2.2.1]
  exact Or.inl ⟨show 10 ≤ 10 by decide, show 10 ≤ 14 by decide⟩
theorem bo_ln {r b : Nat} {h : jHp} (B : BO r b h) : Int32.ofNat (jz h (gR h b 0)).2 = iI (r : Int) := by
  rw [B.2.1, B.2.2.1, ofNat_iI]
theorem rI6 {z : Nat} (h : z < 1000000) : rI (z : Int) := ⟨by omega, by omega⟩
section BIG
variable {r b : Nat} {h : jHp}
theorem c_Bsign {v : Int} (B : BG r b h v) : jRet 26 0 0 [.ref b] h (fun q h' => q = some (.int (iI v.sign)) ∧ h' = h) := by
  obtain ⟨B1, ⟨s1, s2, s3, s4⟩, B3⟩ := B
  have hr := B1.2.2.2
  have hp := sz_pos (B := B6) (v := v.natAbs) (by decide)
  refine jRet_of (by decide) (by decide) (Nat.le_of_ble_eq_true rfl) (j_Bi_sign_0 ?_)
  rw [gI_mI h b 1, s1, iI_0, iI_eq ⟨by omega, by omega⟩ ⟨by omega, by omega⟩]
  refine ⟨B1.1, fun c => j_Bi_sign_9 ?_, fun c => ⟨?_, rfl⟩⟩
  · rw [gI_mI h b 2, B3, iI_0, iI_eq (by split <;> exact ⟨by omega, by omega⟩) ⟨by omega, by omega⟩]
    refine ⟨B1.1, fun d => j_Bi_sign_20 (j_Bi_sign_21 ⟨?_, rfl⟩), fun d => j_Bi_sign_21 ⟨?_, rfl⟩⟩
    · have : 0 < v := by split at d <;> omega
      rw [Int.sign_eq_one_of_pos this]
    · have : v < 0 := by
        split at d
        · assumption
        · omega
      rw [Int.sign_eq_neg_one_of_neg this]
  · have : v = 0 := by omega
    rw [this]
    rfl
theorem c_Blimb {s X : Nat} {i : Int} (B : BO r b h) (R : RB r b h s X) (hi : rI i) : jRet 18 0 0 [.ref b, .int (iI i)] h (fun q h' => q = some (.int (iI (if 0 ≤ i then (dg B6 X i.toNat : Int) else 0))) ∧ h' = h) := by
  obtain ⟨s1, s2, s3, s4⟩ := R
  have hr := B.2.2.2
  refine jRet_of (by decide) (by decide) (Nat.le_of_ble_eq_true rfl) (j_Bi_limbAt_0 ?_)
  rw [gI_mI h b 1, s1, iI_0, iI_lt hi ⟨by omega, by omega⟩, iI_le ⟨by omega, by omega⟩ hi]
  refine ⟨fun c => j_Bi_limbAt_21 (j_Bi_limbAt_22 ⟨by rw [if_neg (by omega)], rfl⟩), fun c => ⟨B.1, fun d => j_Bi_limbAt_21 (j_Bi_limbAt_22 ⟨?_, rfl⟩), fun d => ⟨B.1, ?_, j_Bi_limbAt_22 ⟨?_, rfl⟩⟩⟩⟩
  · rw [if_pos (by omega), dg_high (by decide) ((sz_le (by decide)).mpr (Nat.lt_of_lt_of_le s3 (Nat.pow_le_pow_right (by decide) (show s ≤ i.toNat by omega))))]
    rfl
  · rw [B.2.1]
    exact ixL_of B.2.2.1 (by omega) (by omega) (by omega)
  · rw [B.2.1, gI_q (by omega) hi.2, s4 _ (by omega), if_pos (by omega)]
def trQ (r b : Nat) (h : jHp) (v : Int) : jQ := fun q h' => q = none ∧ fg (fbS b) h h' ∧ BG r b h' v
theorem c_Btrim {s X : Nat} {v : Int} (B : BO r b h) (R : RB r b h s X) (hb : mI h b 2 = 0 ∨ mI h b 2 = 1) (hv : v = (if mI h b 2 = 0 then (X : Int) else -(X : Int))) : jRet 9 0 0 [.ref b] h (trQ r b h v) := by
  have hr := B.2.2.2
  obtain ⟨s1, s2, s3, s4⟩ := R
  have hvX : v.natAbs = X := by
    rw [hv]
    split <;> omega
  have fin : ∀ (q : Nat) (g : jHp), q = sz B6 X → q ≤ s → fg (fbS b) h g → mI g b 1 = (q : Int) → mI g b 2 = mI h b 2 → (∀ k, k < s → mI g (b + 1) k = dg B6 X k) → J 9 33 0 0 [.ref b, uu] [] g (trQ r b h v) := by
    intro q g hq hqs f g1 g2 g3
    have Bg := bo_sk B f.1
    have hp := sz_pos (B := B6) (v := X) (by decide)
    have end' : ∀ y : Int, y = (if v < 0 then 1 else 0) → J 9 53 0 0 [uu, uu] [.int (iI y), .ref b] g (trQ r b h v) := by
      intro y hy
      have y2 : y = 0 ∨ y = 1 := by
        rw [hy]
        split <;> omega
      refine j_Bi_trim_53 ⟨Bg.1, ?_, rfl, f.wr (Or.inl rfl), bo_sk Bg (sk.rf.sI), ⟨?_, ?_, ?_, fun k hk => ?_⟩, ?_⟩
      · rcases y2 with z | z
        · rw [z]
          exact Or.inl rfl
        · rw [z]
          exact Or.inr rfl
      · rw [mI_sI ⟨by omega, by omega⟩, if_neg (fun z => by omega), g1, hvX, hq]
      · rw [hvX]
        omega
      · rw [hvX]
        exact sz_lt (by decide)
      · rw [hvX] at hk ⊢
        rw [mI_sI ⟨by omega, by omega⟩, if_neg (fun z => by omega)]
        exact g3 k (by omega)
      · rw [mI_sI ⟨by omega, by omega⟩, if_pos ⟨rfl, rfl⟩, hy]
    refine j_Bi_trim_33 ?_
    rw [gI_mI g b 1, g1, gI_mI g b 2, g2, iI_0, iI_le ⟨by omega, by omega⟩ ⟨by omega, by omega⟩, iI_eq ⟨by omega, by omega⟩ ⟨by omega, by omega⟩]
    refine ⟨Bg.1, fun c => j_Bi_trim_52 (end' 0 ?_), fun c => ⟨Bg.1, fun d => j_Bi_trim_52 (end' 0 ?_), fun d => end' 1 ?_⟩⟩
    · rw [if_neg (by omega)]
    · rw [if_pos d] at hv
      rw [if_neg (by omega)]
    · rw [if_neg d] at hv
      rw [if_pos (by omega)]
  have loop : ∀ (q : Nat) (g : jHp), q ≤ s → X < B6 ^ q → fg (fbS b) h g → mI g b 1 = (q : Int) → mI g b 2 = mI h b 2 → (∀ k, k < s → mI g (b + 1) k = dg B6 X k) → J 9 5 0 0 [.ref b, .int (iI q)] [] g (trQ r b h v) := by
    intro q
    induction q with
    | zero =>
      intro g hq hX f g1 g2 g3
      refine j_Bi_trim_5 ⟨fun _ => fin 0 g (sz_eq (B := B6) (by decide) hX (Or.inl rfl)).symm hq f g1 g2 g3, fun c => absurd (by rw [iI_0]; exact (iI_le ⟨by omega, by omega⟩ ⟨by omega, by omega⟩).mpr (by omega)) c⟩
    | succ q ih =>
      intro g hq hX f g1 g2 g3
      have Bg := bo_sk B f.1
      have d6 : dg B6 X q < 1000000 := dg_lt (by decide)
      refine j_Bi_trim_5 ?_
      rw [Bg.2.1]
      simp only [iI_sub, iI_add]
      rw [show ((q + 1 : Nat) : Int) - 1 = (q : Int) by omega, show ((q + 1 : Nat) : Int) + -1 = (q : Int) by omega, gI_q (by omega) (by omega), Int.toNat_natCast, g3 q (by omega), iI_0, iI_le ⟨by omega, by omega⟩ ⟨by omega, by omega⟩, iI_eq ⟨by omega, by omega⟩ ⟨by omega, by omega⟩]
      refine ⟨fun c => by omega, fun c => ⟨Bg.1, ixL_of Bg.2.2.1 (by omega) (by omega) (by omega), fun d => fin (q + 1) g (sz_eq (B := B6) (by decide) hX (Or.inr (by rw [Nat.add_sub_cancel]; omega))).symm hq f g1 g2 g3, fun d => ⟨Bg.1, ?_⟩⟩⟩
      refine ih _ (by omega) (lt_down (by decide) hX (by omega)) (f.wr (Or.inl rfl)) ?_ ?_ (fun k hk => ?_)
      · rw [mI_sI ⟨by omega, by omega⟩, if_pos ⟨rfl, rfl⟩]
      · rw [mI_sI ⟨by omega, by omega⟩, if_neg (fun z => by omega)]
        exact g2
      · rw [mI_sI ⟨by omega, by omega⟩, if_neg (fun z => by omega)]
        exact g3 k hk
  refine jRet_of (by decide) (by decide) (Nat.le_of_ble_eq_true rfl) (j_Bi_trim_0 ⟨B.1, ?_⟩)
  rw [gI_mI h b 1, s1]
  exact loop s h (Nat.le_refl s) s3 fg.rf s1 rfl s4
/-- a limb more -/
theorem rb_push {n X d : Nat} {g : jHp} (B : BO r b g) (R : RB r b g n X) (hn : n < r) (hd : d < 1000000) : RB r b (sI (sI g (b + 1) n (iI (d : Int))) b 1 (iI (((n + 1 : Nat)) : Int))) (n + 1) (X + d * B6 ^ n) := by
  obtain ⟨s1, s2, s3, s4⟩ := R
  have hr := B.2.2.2
  refine ⟨?_, hn, ?_, fun k hk => ?_⟩
  · rw [mI_sI ⟨by omega, by omega⟩, if_pos ⟨rfl, rfl⟩]
  · rw [Nat.pow_succ]
    have : (d + 1) * B6 ^ n ≤ 1000000 * B6 ^ n := Nat.mul_le_mul_right _ hd
    rw [Nat.add_mul, Nat.one_mul] at this
    show _ < B6 ^ n * 1000000
    omega
  · rw [mI_sI ⟨by omega, by omega⟩, if_neg (fun z => by omega), mI_sI (rI6 hd)]
    by_cases c : k = n
    · rw [if_pos ⟨rfl, c⟩, c, acc_dg (by decide), Nat.div_eq_of_lt s3, Nat.zero_add, Nat.mod_eq_of_lt hd]
    · rw [if_neg (fun z => c z.2), acc_low (by decide) (by omega)]
      exact s4 k (by omega)
theorem c_Bextend {s X c : Nat} (B : BO r b h) (R : RB r b h s X) (hc : c < 9223372036854775808) (hs : s + sz B6 c ≤ r) : jRet 12 0 0 [.ref b, .long (lI (c : Int))] h (fun q h' => q = none ∧ fg (fbS b) h h' ∧ mI h' b 2 = mI h b 2 ∧ ∃ s', RB r b h' s' (X + c * B6 ^ s)) := by
  have hr := B.2.2.2
  have cmp : ∀ x : Nat, x < 9223372036854775808 → (lg_cmp (lI (x : Int)) (lI ((0 : Nat) : Int)) ≤ 0 ↔ x = 0) := by
    intro x hx
    rw [lg_cmp_le, lI_le ⟨by omega, by omega⟩ ⟨by omega, by omega⟩]
    omega
  have loop : ∀ (d j : Nat) (g : jHp), j + d = sz B6 c → fg (fbS b) h g → mI g b 2 = mI h b 2 → RB r b g (s + j) (X + (c % B6 ^ j) * B6 ^ s) → J 12 8 0 0 [.ref b, uu, uu, .long (lI ((c / B6 ^ j : Nat) : Int)), uu, .int (iI ((s + j : Nat) : Int))] [] g (fun q h' => q = none ∧ fg (fbS b) h h' ∧ mI h' b 2 = mI h b 2 ∧ ∃ s', RB r b h' s' (X + c * B6 ^ s)) := by
    intro d
    induction d with
    | zero =>
      intro j g hj f g2 R1
      have Bg := bo_sk B f.1
      have e0 : c < B6 ^ j := (sz_le (by decide)).mp (by omega)
      rw [Nat.mod_eq_of_lt e0] at R1
      rw [Nat.div_eq_of_lt e0]
      refine j_Bi_extend_8 ?_
      rw [bo_ln Bg, cmp 0 (by decide)]
      exact ⟨Bg.1, bo_ar Bg, fun _ => j_Bi_extend_57 ⟨rfl, f, g2, _, R1⟩, fun _ => ⟨fun _ => j_Bi_extend_57 ⟨rfl, f, g2, _, R1⟩, fun z => absurd rfl z⟩⟩
    | succ d ih =>
      intro j g hj f g2 R1
      have Bg := bo_sk B f.1
      have hq : 0 < c / B6 ^ j := by
        apply Nat.div_pos
        · rcases Nat.lt_or_ge c (B6 ^ j) with z | z
          · have := (sz_le (B := B6) (by decide)).mpr z
            omega
          · exact z
        · exact Nat.pow_pos (by decide)
      have hq2 : c / B6 ^ j ≤ c := Nat.div_le_self _ _
      have e1 : c / B6 ^ j / 1000000 = c / B6 ^ (j + 1) := by rw [Nat.div_div_eq_div_mul, ← Nat.pow_succ]
      have dl : dg B6 c j < 1000000 := dg_lt (by decide)
      refine j_Bi_extend_8 ?_
      rw [bo_ln Bg, cmp _ (by omega), jc6, Bg.2.1]
      obtain ⟨V, hV⟩ : ∃ V, V = c / B6 ^ j := ⟨_, rfl⟩
      have e2 : V % 1000000 = dg B6 c j := by rw [hV]; rfl
      rw [← hV] at hq hq2 e1 ⊢
      rw [lI_rem (by omega) (by omega) (by omega) (by omega), lI_div (by omega) (by omega) (by omega) (by omega), lI_32, iI_cl (by omega) (by omega), Int.toNat_natCast, show (V : Int) % 1000000 = ((dg B6 c j : Nat) : Int) by omega, show (V : Int) / 1000000 = ((c / B6 ^ (j + 1) : Nat) : Int) by omega, iI_add, iI_le ⟨by omega, by omega⟩ ⟨by omega, by omega⟩]
      refine ⟨Bg.1, bo_a1 Bg, fun z => absurd z (by omega), fun _ => ⟨fun z => absurd z (by omega), fun _ => ⟨Bg.1, nz6, ix_of Bg.2.2.1 (by omega) (by omega) (by omega), nz6, ?_, j_Bi_extend_51 ?_⟩⟩⟩
      · exact (bo_sk Bg (sk.rf.sI)).1
      · rw [iI_add, show ((s + j : Nat) : Int) + 1 = ((s + j + 1 : Nat) : Int) by omega]
        have P := rb_push Bg R1 (show s + j < r by omega) dl
        have eX : X + c % B6 ^ j * B6 ^ s + dg B6 c j * B6 ^ (s + j) = X + (c % B6 ^ (j + 1)) * B6 ^ s := by
          rw [mod_succ, Nat.add_mul, Nat.pow_add, Nat.mul_assoc (dg B6 c j), Nat.mul_comm (B6 ^ j), Nat.add_assoc]
        rw [eX] at P
        refine ih (j + 1) _ (by omega) ((f.wr (Or.inr rfl)).wr (Or.inl rfl)) ?_ P
        rw [mI_sI ⟨by omega, by omega⟩, if_neg (fun z => by omega), mI_sI (rI6 dl), if_neg (fun z => by omega)]
        exact g2
  refine jRet_of (by decide) (by decide) (Nat.le_of_ble_eq_true rfl) (j_Bi_extend_0 ⟨B.1, ?_⟩)
  rw [gI_mI h b 1, R.1]
  have := loop (sz B6 c) 0 h (by omega) fg.rf rfl (by rw [Nat.pow_zero, Nat.mod_one, Nat.zero_mul, Nat.add_zero, Nat.add_zero]; exact R)
  rw [Nat.pow_zero, Nat.div_one, Nat.add_zero] at this
  exact this
theorem sz_split {X s : Nat} {r : Nat} (h : sz B6 X ≤ r) (hs : s ≤ r) : s + sz B6 (X / B6 ^ s) ≤ r := by
  rcases Nat.lt_or_ge X (B6 ^ s) with z | z
  · rw [Nat.div_eq_of_lt z, sz_0]
    exact hs
  · have h1 : X < B6 ^ r := (sz_le (by decide)).mp h
    have h2 : X / B6 ^ s < B6 ^ (r - s) := by
      rw [Nat.div_lt_iff_lt_mul (Nat.pow_pos (by decide)), ← Nat.pow_add, show r - s + s = r by omega]
      exact h1
    have := (sz_le (B := B6) (by decide)).mpr h2
    omega
theorem c_Btimes {v : Int} {f : Nat} (B : BG r b h v) (hf : f ≤ 1000000) (hz : sz B6 (v.natAbs * f) ≤ r) : jRet 23 0 0 [.ref b, .int (iI (f : Int))] h (trQ r b h (v * f)) := by
  obtain ⟨B1, ⟨s1, s2, s3, s4⟩, B3⟩ := B
  have hr := B1.2.2.2
  obtain ⟨X, hX⟩ : ∃ X, X = v.natAbs := ⟨_, rfl⟩
  obtain ⟨s, hs⟩ : ∃ s, s = sz B6 X := ⟨_, rfl⟩
  rw [← hX] at s1 s2 s3 s4 hz
  rw [← hs] at s1 s2 s3 s4
  have loop : ∀ (d k : Nat) (g : jHp), k + d = s → fg (fbS b) h g → mI g b 1 = (s : Int) → mI g b 2 = mI h b 2 → (∀ j, j < k → mI g (b + 1) j = dg B6 (X % B6 ^ k * f) j) → (∀ j, k ≤ j → j < s → mI g (b + 1) j = dg B6 X j) → J 23 5 0 0 [.ref b, .int (iI (f : Int)), .long (lI ((X % B6 ^ k * f / B6 ^ k : Nat) : Int)), uu, .int (iI k), uu, uu] [] g (trQ r b h (v * f)) := by
    intro d
    induction d with
    | zero =>
      intro k g hk fr g1 g2 g3 g4
      obtain rfl : k = s := by omega
      have Bg := bo_sk B1 fr.1
      rw [Nat.mod_eq_of_lt s3] at g3 ⊢
      have hcb : X * f / B6 ^ k ≤ f := by
        have : X * f ≤ B6 ^ k * f := Nat.mul_le_mul_right f (Nat.le_of_lt s3)
        have h2 := Nat.div_le_div_right (c := B6 ^ k) this
        rw [Nat.mul_div_cancel_left _ (Nat.pow_pos (by decide))] at h2
        exact h2
      have hp : 0 < B6 ^ k := Nat.pow_pos (by decide)
      refine j_Bi_times_5 ?_
      rw [gI_mI g b 1, g1, iI_le ⟨by omega, by omega⟩ ⟨by omega, by omega⟩]
      refine ⟨Bg.1, fun _ => j_Bi_times_56 ⟨Bg.1, jRet_mono (c_Bextend (s := k) (X := X * f % B6 ^ k) Bg ⟨g1, s2, Nat.mod_lt _ hp, fun j hj => by rw [dg_mod (by decide) hj]; exact g3 j hj⟩ (by omega) (sz_split hz s2)) ?_⟩, fun c => absurd (Int.le_refl _) c⟩
      intro q1 h1 w1
      obtain ⟨e1, e2, e3, s', e4⟩ := w1
      have B2 := bo_sk Bg e2.1
      rw [Nat.mul_comm (X * f / B6 ^ k), Nat.mod_add_div] at e4
      have hb2 : mI h1 b 2 = (if v < 0 then 1 else 0) := by
        rw [e3, g2]
        exact B3
      refine ⟨e1, B2.1, jRet_mono (c_Btrim (v := v * f) B2 e4 (by rw [hb2]; split <;> omega) ?_) ?_⟩
      · rw [hb2]
        by_cases c : v < 0
        · rw [if_pos c, if_neg (by decide), Int.natCast_mul]
          have : v = -(X : Int) := by omega
          rw [this, Int.neg_mul]
        · rw [if_neg c, if_pos rfl, Int.natCast_mul]
          have : v = (X : Int) := by omega
          rw [this]
      · intro q2 h2 w2
        exact ⟨w2.1, rfl, (fr.tr e2).tr w2.2.1, w2.2.2⟩
    | succ d ih =>
      intro k g hk fr g1 g2 g3 g4
      have Bg := bo_sk B1 fr.1
      have hp : 0 < B6 ^ k := Nat.pow_pos (by decide)
      have dl : dg B6 X k < 1000000 := dg_lt (by decide)
      have u1 : X % B6 ^ (k + 1) * f = X % B6 ^ k * f + (dg B6 X k * f) * B6 ^ k := by
        rw [mod_succ, Nat.add_mul, Nat.mul_assoc, Nat.mul_comm (B6 ^ k), ← Nat.mul_assoc]
      have hcb : X % B6 ^ k * f / B6 ^ k ≤ f := by
        have : X % B6 ^ k * f ≤ B6 ^ k * f := Nat.mul_le_mul_right f (Nat.le_of_lt (Nat.mod_lt _ hp))
        have h2 := Nat.div_le_div_right (c := B6 ^ k) this
        rw [Nat.mul_div_cancel_left _ hp] at h2
        exact h2
      have u2 : dg B6 (X % B6 ^ (k + 1) * f) k = (X % B6 ^ k * f / B6 ^ k + dg B6 X k * f) % 1000000 := by rw [u1, acc_dg (by decide)]
      have u3 : X % B6 ^ (k + 1) * f / B6 ^ (k + 1) = (X % B6 ^ k * f / B6 ^ k + dg B6 X k * f) / 1000000 := by rw [u1, acc_car (by decide)]
      have hdf : dg B6 X k * f ≤ 1000000 * 1000000 := Nat.mul_le_mul (by omega) hf
      obtain ⟨V, hV⟩ : ∃ V, V = X % B6 ^ k * f / B6 ^ k + dg B6 X k * f := ⟨_, rfl⟩
      have hV2 : (dg B6 X k : Int) * (f : Int) + ((X % B6 ^ k * f / B6 ^ k : Nat) : Int) = (V : Int) := by
        rw [hV, Int.natCast_add, Int.natCast_mul (dg B6 X k)]
        omega
      rw [← hV] at u2 u3
      have dl2 : dg B6 (X % B6 ^ (k + 1) * f) k < 1000000 := dg_lt (by decide)
      have low : ∀ j, j < k → dg B6 (X % B6 ^ (k + 1) * f) j = dg B6 (X % B6 ^ k * f) j := fun j hj => by rw [u1, acc_low (by decide) hj]
      refine j_Bi_times_5 ?_
      rw [gI_mI g b 1, g1, iI_le ⟨by omega, by omega⟩ ⟨by omega, by omega⟩, Bg.2.1, gI_q (by omega) (by omega), Int.toNat_natCast, g4 k (by omega) (by omega), jc6, iI_64 (rI6 dl), iI_64 ⟨by omega, by omega⟩, lI_mul, lI_add, hV2]
      rw [lI_rem (by omega) (by omega) (by omega) (by omega), lI_div (by omega) (by omega) (by omega) (by omega), lI_32, iI_cl (by omega) (by omega), Int.toNat_natCast, show (V : Int) % 1000000 = ((dg B6 (X % B6 ^ (k + 1) * f) k : Nat) : Int) by rw [u2]; omega, show (V : Int) / 1000000 = ((X % B6 ^ (k + 1) * f / B6 ^ (k + 1) : Nat) : Int) by rw [u3]; omega, iI_add]
      refine ⟨Bg.1, fun c => by omega, fun _ => ⟨Bg.1, ixL_of Bg.2.2.1 (by omega) (by omega) (by omega), Bg.1, nz6, ix_of Bg.2.2.1 (by omega) (by omega) (by omega), nz6, ?_⟩⟩
      refine ih (k + 1) _ (by omega) (fr.wr (Or.inr rfl)) ?_ ?_ (fun j hj => ?_) (fun j hj hj2 => ?_)
      · rw [mI_sI (rI6 dl2), if_neg (fun z => by omega)]
        exact g1
      · rw [mI_sI (rI6 dl2), if_neg (fun z => by omega)]
        exact g2
      · rw [mI_sI (rI6 dl2)]
        by_cases c : j = k
        · rw [if_pos ⟨rfl, c⟩, c]
        · rw [if_neg (fun z => c z.2), low j (by omega)]
          exact g3 j (by omega)
      · rw [mI_sI (rI6 dl2), if_neg (fun z => by omega)]
        exact g4 j (by omega) (by omega)
  refine jRet_of (by decide) (by decide) (Nat.le_of_ble_eq_true rfl) (j_Bi_times_0 ?_)
  have := loop s 0 h (by omega) fg.rf s1 rfl (fun j hj => by omega) (fun j _ hj => s4 j hj)
  rw [Nat.pow_zero, Nat.mod_one, Nat.zero_mul, Nat.zero_div] at this
  exact this
end BIG
