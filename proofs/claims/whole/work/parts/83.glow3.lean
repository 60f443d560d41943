/-! Glow: scaleColumns, solve, gather, compareLight -/
section GLOW
variable {g w t m n : Nat} {h : jHp}
theorem pV_gcT {i j : Nat} (hj : j < n) : pV m h n i j = gcT (EM m h) n i j * sC m h j := by
  unfold pV cV gcT
  rw [if_pos rfl, if_pos hj, Int.mul_comm]
theorem pV_nn (S : SW m h n) {i j : Nat} (hi : i < n) (hj : j < n) : 0 ≤ pV m h n i j := by
  have I := iv_all (dm_of S) S.2.1 n (Nat.le_refl n)
  have s := sC_bd S hj
  have hn := S.2.1
  rw [pV_gcT hj]
  unfold gcT vM rx
  rw [if_pos hj, if_neg (by omega), if_pos hi]
  exact Int.mul_nonneg (I.2.2.2.2.2.2 i j hi).1 (by omega)
theorem c_Gscale (G : GL g h) (W : WL w h) (C : CW w m h) (S : SW m h n) (a0 : awy (glS g) w t m) (P : GT g n h (gcT (EM m h) n) (pp (EM m h) n)) : jRet 51 0 0 [.ref g, .ref w, .int (iI (mI h m 21))] h (fun q h' => q = none ∧ fg (gnS g n) h h' ∧ GT g n h' (pV m h n) (dV m h n)) := by
  have hn8 := S.2.1
  have D := dm_of S
  have a : awy (gnS g n) w t m := fun p k hp z => a0 p k hp (gn_gl hn8 z)
  have kw : ∀ f', fg (gnS g n) h f' → mI f' w 4 = (n : Int) := fun f' f => by
    rw [f.eq (a _ _ (by omega)), C.2.1, S.1]
  have l2 : ∀ (d j : Nat) (g1 : jHp), j + d = n → fg (gnS g n) h g1 → GT g n g1 (fun i' j' => if j' < j then pV m h n i' j' else gcT (EM m h) n i' j') (pp (EM m h) n) → J 51 2 0 0 [.ref g, .ref w, .int (iI (mI h m 21)), .int (iI j), uu] [] g1 (fun q h' => q = none ∧ fg (gnS g n) h h' ∧ GT g n h' (pV m h n) (dV m h n)) := by
    intro d
    induction d with
    | zero =>
      intro j g1 hj f1 P1
      obtain rfl : j = n := by omega
      have W1 := wl_sk W f1.1
      refine j_Gl_scaleColumns_2 ?_
      rw [gI_mI g1 w 4, kw g1 f1, iI_le ⟨by omega, by omega⟩ ⟨by omega, by omega⟩]
      refine ⟨W1.1, fun _ => j_Gl_scaleColumns_60 ⟨rfl, f1, fun i' j' h1 h2 => ?_, P1.2⟩, fun z => absurd (Int.le_refl _) z⟩
      have := P1.1 i' j' h1 h2
      have e : (if j' < j then pV m h j i' j' else gcT (EM m h) j i' j') = pV m h j i' j' := if_pos h2
      exact bg_eq this e
    | succ d ih =>
      intro j g1 hj f1 P1
      have hjn : j < n := by omega
      have W1 := wl_sk W f1.1
      have sc := sC_bd S hjn
      have l13 : ∀ (e i : Nat) (g2 : jHp), i + e = n → fg (gnS g n) h g2 → GT g n g2 (fun i' j' => if j' < j ∨ (j' = j ∧ i' < i) then pV m h n i' j' else gcT (EM m h) n i' j') (pp (EM m h) n) → J 51 13 0 0 [.ref g, .ref w, .int (iI (mI h m 21)), .int (iI j), .int (iI i)] [] g2 (fun q h' => q = none ∧ fg (gnS g n) h h' ∧ GT g n h' (pV m h n) (dV m h n)) := by
        intro e
        induction e with
        | zero =>
          intro i g2 hi f2 P2
          obtain rfl : i = n := by omega
          have W2 := wl_sk W f2.1
          refine j_Gl_scaleColumns_13 ?_
          rw [gI_mI g2 w 4, kw g2 f2, iI_le ⟨by omega, by omega⟩ ⟨by omega, by omega⟩]
          refine ⟨W2.1, fun _ => j_Gl_scaleColumns_54 ?_, fun z => absurd (Int.le_refl _) z⟩
          rw [iI_add]
          refine ih (j + 1) g2 (by omega) f2 ⟨fun i' j' h1 h2 => ?_, P2.2⟩
          have := P2.1 i' j' h1 h2
          have ee : (if j' < j + 1 then pV m h i i' j' else gcT (EM m h) i i' j') = (if j' < j ∨ (j' = j ∧ i' < i) then pV m h i i' j' else gcT (EM m h) i i' j') := by
            by_cases c1 : j' < j + 1
            · rw [if_pos c1, if_pos (by omega)]
            · rw [if_neg c1, if_neg (by omega)]
          exact bg_eq this ee.symm
        | succ e ih2 =>
          intro i g2 hi f2 P2
          have hin : i < n := by omega
          have W2 := wl_sk W f2.1
          have G2 := gl_sk G f2.1
          have cj := (cw_fg C f2 a).2.2.2 j (by omega)
          have em : ∀ p k, p ≤ 27 → mI g2 (m + p) k = mI h (m + p) k := fun p k hp => f2.eq (a _ _ (by omega))
          obtain ⟨p1, p2, ⟨u4, p4⟩, ⟨u6, p6⟩, ⟨u8, p8⟩⟩ := P2
          have c0 := p1 i j hin hjn
          have e0 : (if j < j ∨ (j = j ∧ i < i) then pV m h n i j else gcT (EM m h) n i j) = gcT (EM m h) n i j := if_neg (by omega)
          have c1 : BG 10 (pc g i j) g2 (gcT (EM m h) n i j) := bg_eq c0 e0
          have pg : gR g2 (g + 1) (8 * i + j) = pc g i j := G2.2.2.2.2.2.2.2 (8 * i + j) (by omega)
          obtain ⟨f, hf⟩ : ∃ f : Nat, sC m h j = (f : Int) := ⟨(sC m h j).toNat, by omega⟩
          have bb := gcT (EM m h) n i j
          have bv := cT_bd D hn8 (Nat.le_refl n) hin hjn
          refine j_Gl_scaleColumns_13 ?_
          simp only [iI_mul, iI_add]
          rw [gI_mI g2 w 4, kw g2 f2, iI_le ⟨by omega, by omega⟩ ⟨by omega, by omega⟩, G2.2.1, W2.2.2.2.2.2.1, iI_cl (by omega) (by omega), iI_cl (by omega) (by omega), Int.toNat_natCast, show ((i : Int) * 8 + (j : Int)).toNat = 8 * i + j by omega, pg, (W2.2.2.2.2.2.2.2.2.2 j (by omega)).1, gI_mI g2 (w + 5 + j) 4, cj.2.2.2.2.1, em 11 j (by omega), iI_mul, show mI h (m + 11) j * mI h m 21 = (f : Int) from hf]
          have hz : sz B6 ((gcT (EM m h) n i j).natAbs * f) ≤ 10 := by
            have : (gcT (EM m h) n i j).natAbs * f ≤ 10 ^ 45 * 10 ^ 5 := Nat.mul_le_mul bv (show f ≤ 100000 by omega)
            exact sz6b (Nat.le_trans this (by decide)) (by decide)
          refine ⟨W2.1, fun z => by omega, fun _ => ⟨G2.1, ixR_of G2.2.2.1 (Or.inr (Or.inl rfl)) (by omega) (by omega) (by decide), W2.1, ixR_of W2.2.2.2.2.2.2.1 (Or.inr (Or.inr rfl)) (by omega) (by omega) (by decide), (W2.2.2.2.2.2.2.2.2.2 j (by omega)).2, c1.1.1, jRet_mono (c_Btimes c1 (by omega) hz) ?_⟩⟩
          intro q3 h3 w3
          obtain ⟨x1, x2, x3⟩ := w3
          rw [← hf, ← pV_gcT hjn] at x3
          refine ⟨x1, ?_⟩
          have k1 : ∀ c, c ≤ 8 → ∀ k, ¬ fbS (pc g i j) (g + c) k ∧ ¬ fbS (pc g i j) (g + c + 1) k := fun c hc k => by
            unfold fbS pc
            omega
          refine ih2 (i + 1) h3 (by omega) (f2.tr (x2.mo (gcTS (by omega) (by omega)))) ⟨fun i' j' h1 h2 => ?_, bg_fg p2 x2 (k1 2 (by decide)), ⟨_, bg_fg p4 x2 (k1 4 (by decide))⟩, ⟨_, bg_fg p6 x2 (k1 6 (by decide))⟩, ⟨_, bg_fg p8 x2 (k1 8 (by decide))⟩⟩
          by_cases c2 : i' = i ∧ j' = j
          · have ee : (if j' < j ∨ (j' = j ∧ i' < i + 1) then pV m h n i' j' else gcT (EM m h) n i' j') = pV m h n i j := by
              rw [if_pos (by omega), c2.1, c2.2]
            exact bg_eq (by rw [c2.1, c2.2]; exact x3) ee.symm
          · have := p1 i' j' h1 h2
            have ee : (if j' < j ∨ (j' = j ∧ i' < i + 1) then pV m h n i' j' else gcT (EM m h) n i' j') = (if j' < j ∨ (j' = j ∧ i' < i) then pV m h n i' j' else gcT (EM m h) n i' j') := by
              by_cases c3 : j' < j ∨ (j' = j ∧ i' < i)
              · rw [if_pos c3, if_pos (by omega)]
              · rw [if_neg c3, if_neg (by omega)]
            exact bg_eq (bg_fg this x2 (fun k => by unfold fbS pc; omega)) ee.symm
      refine j_Gl_scaleColumns_2 ?_
      rw [gI_mI g1 w 4, kw g1 f1, iI_le ⟨by omega, by omega⟩ ⟨by omega, by omega⟩]
      refine ⟨W1.1, fun z => by omega, fun _ => l13 n 0 g1 (by omega) f1 ⟨fun i' j' h1 h2 => ?_, P1.2⟩⟩
      have := P1.1 i' j' h1 h2
      have ee : (if j' < j ∨ (j' = j ∧ i' < 0) then pV m h n i' j' else gcT (EM m h) n i' j') = (if j' < j then pV m h n i' j' else gcT (EM m h) n i' j') := by
        by_cases c3 : j' < j
        · rw [if_pos c3, if_pos (Or.inl c3)]
        · rw [if_neg c3, if_neg (by omega)]
      exact bg_eq this ee.symm
  refine jRet_of (by decide) (by decide) (Nat.le_of_ble_eq_true rfl) (j_Gl_scaleColumns_0 ?_)
  refine l2 n 0 h (by omega) fg.rf ⟨fun i' j' h1 h2 => ?_, P.2⟩
  have := P.1 i' j' h1 h2
  have ee : (if j' < 0 then pV m h n i' j' else gcT (EM m h) n i' j') = gcT (EM m h) n i' j' := if_neg (by omega)
  exact bg_eq this ee.symm
def gmS (g p k : Nat) : Prop := glS g p k ∨ (p = g ∧ k = 5)
/-- what is known is right -/
def GK (g m n : Nat) (h : jHp) : Prop := mI h g 5 = 0 ∨ (mI h g 5 = 1 ∧ GT g n h (pV m h n) (dV m h n))
theorem gn_of {h' : jHp} {V : Nat → Nat → Int} {u : Int} (N : GN g h) (f : fg (gnS g n) h h') (P : GT g n h' V u) : GN g h' := by
  refine ⟨⟨_, P.2.1⟩, P.2.2.1, P.2.2.2.1, P.2.2.2.2, fun i j hi hj => ?_⟩
  by_cases c : i < n ∧ j < n
  · exact ⟨_, P.1 i j c.1 c.2⟩
  · obtain ⟨v, V⟩ := N.2.2.2.2 i j hi hj
    refine ⟨v, bg_fg V f (fun k => ⟨fun z => ?_, fun z => ?_⟩)⟩
    · rcases z with z | ⟨i', j', h1, h2, z⟩
      · unfold pc at z
        omega
      · unfold fbS pc at z
        omega
    · rcases z with z | ⟨i', j', h1, h2, z⟩
      · unfold pc at z
        omega
      · unfold fbS pc at z
        omega
theorem c_Gsolve (G : GL g h) (GNh : GN g h) (W : WL w h) (T : TL t h) (C : CW w m h) (CT' : CT t m h) (S : SW m h n) (a : awy (gmS g) w t m) (K : GK g m n h) : jRet 48 0 0 [.ref g, .ref w, .ref t] h (fun q h' => q = none ∧ fg (gmS g) h h' ∧ mI h' g 5 = 1 ∧ GT g n h' (pV m h n) (dV m h n) ∧ GN g h') := by
  have hn8 := S.2.1
  have D := dm_of S
  have a1 : awy (glS g) w t m := fun p k hp z => a p k hp (Or.inl z)
  have gm : ∀ p k, gnS g n p k → gmS g p k := fun p k z => Or.inl (gn_gl hn8 z)
  have rk : rI (mI h g 5) := rI_mI _ _ _
  refine jRet_of (by decide) (by decide) (Nat.le_of_ble_eq_true rfl) (j_Gl_solve_0 ?_)
  rw [gI_mI h g 5, iI_0, iI_eq rk ⟨by omega, by omega⟩]
  refine ⟨G.1, fun c => j_Gl_solve_8 ⟨G.1, jRet_mono (c_Glay G GNh W T C CT' S a1) ?_⟩, fun c => ?_⟩
  · intro q1 h1 w1
    obtain ⟨e1, f1, P1, N1⟩ := w1
    have G1 := gl_sk G f1.1
    obtain ⟨⟨u2, U2⟩, u4, u6, u8, u5⟩ := N1
    rw [G1.2.2.2.1]
    refine ⟨e1, G1.1, U2.1.1, jRet_mono (c_Bset (x := ((1 : Nat) : Int)) U2 (by omega) (by decide)) ?_⟩
    intro q2 h2 w2
    obtain ⟨e2, f2, B2⟩ := w2
    refine ⟨e2, ?_⟩
    have ap : ∀ c, 4 ≤ c → ∀ q, ¬ fbS (g + 2) (g + c) q ∧ ¬ fbS (g + 2) (g + c + 1) q := fun c hc q => by
      unfold fbS
      omega
    have app : ∀ i j q, ¬ fbS (g + 2) (pc g i j) q ∧ ¬ fbS (g + 2) (pc g i j + 1) q := fun i j q => by
      unfold fbS pc
      omega
    obtain ⟨v4, V4⟩ := u4
    obtain ⟨v6, V6⟩ := u6
    obtain ⟨v8, V8⟩ := u8
    have N2 : GN g h2 := ⟨⟨_, B2⟩, ⟨_, bg_fg V4 f2 (ap 4 (by decide))⟩, ⟨_, bg_fg V6 f2 (ap 6 (by decide))⟩, ⟨_, bg_fg V8 f2 (ap 8 (by decide))⟩, fun i j hi hj => by
      obtain ⟨v, V⟩ := u5 i j hi hj
      exact ⟨v, bg_fg V f2 (app i j)⟩⟩
    have p0 : pp (EM m h) 0 = ((1 : Nat) : Int) := by
      unfold pp
      rw [dt]
      rfl
    have GT2 : GT g n h2 (gcT (EM m h) 0) (pp (EM m h) 0) := by
      refine ⟨fun i j hi hj => ?_, by rw [p0]; exact B2, N2.2.1, N2.2.2.1, N2.2.2.2.1⟩
      have : gcT (EM m h) 0 i j = EM m h i j := by
        unfold gcT
        rw [if_neg (Nat.not_lt_zero j), v_0]
      rw [this]
      exact bg_fg (P1 i j hi hj) f2 (app i j)
    have f12 : fg (gmS g) h h2 := (f1.mo (fun _ _ z => Or.inl z)).tr (f2.mo (fun p k z => Or.inl (by unfold fbS at z; unfold glS; omega)))
    have l24 : ∀ (d k : Nat) (g1 : jHp), k + d = n → fg (gmS g) h g1 → GT g n g1 (gcT (EM m h) k) (pp (EM m h) k) → GN g g1 → J 48 24 0 0 [.ref g, .ref w, .ref t, .int (iI k)] [] g1 (fun q h' => q = none ∧ fg (gmS g) h h' ∧ mI h' g 5 = 1 ∧ GT g n h' (pV m h n) (dV m h n) ∧ GN g h') := by
      intro d
      induction d with
      | zero =>
        intro k g1 hk f P N
        obtain rfl : k = n := by omega
        have W1 := wl_sk W f.1
        have T1 := tl_sk T f.1
        have Gg := gl_sk G f.1
        have C1 := cw_fg C f a
        have ct := ct_fg CT' f a
        have S1 := sw_aw f a S
        have em := em_aw f a
        refine j_Gl_solve_24 ?_
        rw [gI_mI g1 w 4, C1.2.1, S1.1, iI_le ⟨by omega, by omega⟩ ⟨by omega, by omega⟩]
        refine ⟨W1.1, fun _ => j_Gl_solve_47 ?_, fun z => absurd (Int.le_refl _) z⟩
        rw [gI_mI g1 t 0, ct.1]
        rw [← em] at P
        refine ⟨T1.1, Gg.1, jRet_mono (c_Gscale Gg W1 C1 S1 a1 P) ?_⟩
        intro q3 h3 w3
        obtain ⟨e3, f3, P3⟩ := w3
        have G3 := gl_sk Gg f3.1
        have N3 := gn_of N f3 P3
        have em0 : ∀ p q, p ≤ 27 → mI g1 (m + p) q = mI h (m + p) q := fun p q hp => f.eq (a _ _ (by omega))
        have epV : ∀ i j, pV m g1 k i j = pV m h k i j := fun i j => by
          unfold pV sC
          rw [em, em0 11 j (by omega), show mI g1 m 21 = mI h m 21 from em0 0 21 (by omega)]
        have edV : dV m g1 k = dV m h k := by
          unfold dV
          rw [em]
        have fw : fg (fun p q => p = g ∧ q = 5) h3 (sI h3 g 5 (iI 1)) := fg.rf.wr ⟨rfl, rfl⟩
        have kg : ∀ c, 1 ≤ c → ∀ q, ¬ (g + c = g ∧ q = 5) ∧ ¬ (g + c + 1 = g ∧ q = 5) := fun c hc q => by omega
        have kp : ∀ i j q, ¬ (pc g i j = g ∧ q = 5) ∧ ¬ (pc g i j + 1 = g ∧ q = 5) := fun i j q => by
          unfold pc
          omega
        refine ⟨e3, G3.1, Or.inr rfl, rfl, (f.tr (f3.mo gm)).wr (Or.inr ⟨rfl, rfl⟩), ?_, ⟨fun i j hi hj => ?_, ?_, ?_, ?_, ?_⟩, ?_⟩
        · rw [mI_sI ⟨by omega, by omega⟩, if_pos ⟨rfl, rfl⟩]
        · rw [← epV]
          exact bg_fg (P3.1 i j hi hj) fw (kp i j)
        · rw [← edV]
          exact bg_fg P3.2.1 fw (kg 2 (by decide))
        · obtain ⟨v, V⟩ := P3.2.2.1
          exact ⟨v, bg_fg V fw (kg 4 (by decide))⟩
        · obtain ⟨v, V⟩ := P3.2.2.2.1
          exact ⟨v, bg_fg V fw (kg 6 (by decide))⟩
        · obtain ⟨v, V⟩ := P3.2.2.2.2
          exact ⟨v, bg_fg V fw (kg 8 (by decide))⟩
        · obtain ⟨⟨v2, V2⟩, ⟨v4, V4⟩, ⟨v6, V6⟩, ⟨v8, V8⟩, V5⟩ := N3
          exact ⟨⟨_, bg_fg V2 fw (kg 2 (by decide))⟩, ⟨_, bg_fg V4 fw (kg 4 (by decide))⟩, ⟨_, bg_fg V6 fw (kg 6 (by decide))⟩, ⟨_, bg_fg V8 fw (kg 8 (by decide))⟩, fun i j hi hj => by
            obtain ⟨v, V⟩ := V5 i j hi hj
            exact ⟨v, bg_fg V fw (kp i j)⟩⟩
      | succ d ih =>
        intro k g1 hk f P N
        have W1 := wl_sk W f.1
        have Gg := gl_sk G f.1
        have C1 := cw_fg C f a
        have S1 := sw_aw f a S
        refine j_Gl_solve_24 ?_
        rw [gI_mI g1 w 4, C1.2.1, S1.1, iI_le ⟨by omega, by omega⟩ ⟨by omega, by omega⟩]
        refine ⟨W1.1, fun z => by omega, fun _ => ⟨W1.1, Gg.1, jRet_mono (c_Gturn (k := k) Gg D hn8 (by omega) EM_u P) ?_⟩⟩
        intro q3 h3 w3
        obtain ⟨e3, f3, P3⟩ := w3
        refine ⟨e3, ?_⟩
        rw [iI_add]
        exact ih (k + 1) h3 (by omega) (f.tr (f3.mo gm)) P3 (gn_of N f3 P3)
    exact l24 n 0 h2 (by omega) f12 GT2 N2
  · rcases K with z | z
    · exact absurd z c
    · exact ⟨rfl, fg.rf, z.1, z.2, GNh⟩
end GLOW
