/-! nextBounce, bounce -/
section BOU
variable {m n : Nat} {h : jHp}
theorem wc_f {T : Nat} {g g' : jHp} (f : fg (wkS m T) g g') : fg (cnS m) g g' := f.mo (fun _ _ z => wk_cn z)
def nbQ (m n : Nat) (h : jHp) (T t : Nat) : jQ := fun r h' => r = none ∧ ∃ T', T' ≤ T + 22000 ∧ BS m n h h' T' (t + 1)
theorem c_nextBounce {g : jHp} {T t : Nat} (M : Mo m h) (S : SW m h n) (O : SO m h n) (B : BS m n h g T t) (hT : T ≤ 200000) (ht6 : t ≤ 6) : jRet 186 0 0 [.ref m] g (nbQ m n h T t) := by
  have hn8 := S.2.1
  have s3 := S.2.2.1
  have s4 := S.2.2.2.1
  obtain ⟨f, ht, ⟨xb, xb1, xb2⟩, ⟨xu, xu1, xu2⟩, xn⟩ := B
  have Mg := M.sk f.1
  have hb := pn_lt xb2
  have hu := pn_lt xu2
  have pbd : ∀ k, k ≤ 180 → (10 : Nat) ^ k ≤ 10 ^ 210 := fun k hk => Nat.pow_le_pow_right (by decide) (by omega)
  have bN1 : ∀ i, i < n → (bN m h n t i).natAbs ≤ 10 ^ (25 * t + 5) := fun i hi => bN_bd S O t i hi
  have bN2 : ∀ i, i < n → (bN m h n (t + 1) i).natAbs ≤ 10 ^ (25 * t + 30) := fun i hi => by
    have := bN_bd S O (t + 1) i hi
    rw [show 25 * (t + 1) + 5 = 25 * t + 30 by omega] at this
    exact this
  have bU1 := bU_bd S (t + 1)
  have sumb : ∀ i k, i < n → k ≤ n → (sm (fun j => mI h (m + 16) (8 * i + j) * bN m h n t j) k).natAbs ≤ 10 ^ (25 * t + 9) := by
    intro i k hi hk
    have a1 : (sm (fun j => mI h (m + 16) (8 * i + j) * bN m h n t j) k).natAbs ≤ k * (1000 * 10 ^ (25 * t + 5)) := nA_sm (fun j hj => bN_t S hi (show j < n by omega) (bN1 j (by omega)))
    have a2 : k * (1000 * 10 ^ (25 * t + 5)) ≤ 8 * (1000 * 10 ^ (25 * t + 5)) := Nat.mul_le_mul_right _ (by omega)
    refine Nat.le_trans (Nat.le_trans a1 a2) ?_
    rw [show 25 * t + 9 = 25 * t + 5 + 4 by omega, Nat.pow_add 10 (25 * t + 5)]
    generalize 10 ^ (25 * t + 5) = z
    omega
  -- what the numbers are while the new ones are made
  have l164 : ∀ (d k a1 T1 : Nat) (g1 : jHp), k + d = n → fg (cnS m) h g1 → mI g1 m 2 = (T1 : Int) → T1 ≤ T + 22000 → (∃ a : Nat, mI g1 m 30 = (a : Int) ∧ PN m g1 T1 a (bB m h n)) → PN m g1 T1 a1 (bU m h n (t + 1)) → (∀ i, i < n → ∃ a : Nat, mI g1 (m + 22) i = (a : Int) ∧ PN m g1 T1 a (bN m h n (t + 1) i)) → (∀ i, i < k → ∃ a : Nat, mI g1 (m + 21) i = (a : Int) ∧ PN m g1 T1 a (bN m h n (t + 1) i)) → J 186 164 0 0 [.ref m, .int (iI a1), .int (iI k), uu, uu] [] g1 (nbQ m n h T t) := by
    intro d
    induction d with
    | zero =>
      intro k a1 T1 g1 hk f1 t1 b1 x1 x2 x3 x4
      obtain rfl : k = n := by omega
      have M1 := M.sk f1.1
      have ha := pn_lt x2
      refine j_M_nextBounce_164 ?_
      rw [gI_mI g1 m 20, cu_f (cn_cuF f1) (by omega), S.1, iI_le ⟨by omega, by omega⟩ ⟨by omega, by omega⟩]
      refine ⟨M1.1, fun _ => j_M_nextBounce_190 ⟨M1.1, rfl, T1, b1, ?_⟩, fun c => absurd (Int.le_refl _) c⟩
      have fw : fg (fun p q => p = m ∧ q = 31) g1 (sI g1 m 31 (iI (a1 : Int))) := fg.rf.wr ⟨rfl, rfl⟩
      obtain ⟨y1, y2, y3⟩ := x1
      refine ⟨f1.wr (by unfold cnS; omega), ?_, ⟨y1, ?_, pn_fg y3 fw (fun k z => by omega)⟩, ⟨a1, ?_, pn_fg x2 fw (fun k z => by omega)⟩, fun i hi => ?_⟩
      · rw [fw.eq (by omega)]
        exact t1
      · rw [fw.eq (by omega)]
        exact y2
      · rw [mI_sI ⟨by omega, by omega⟩, if_pos ⟨rfl, rfl⟩]
      · obtain ⟨w1, w2, w3⟩ := x4 i hi
        exact ⟨w1, by rw [fw.eq (by omega)]; exact w2, pn_fg w3 fw (fun k z => by omega)⟩
    | succ d ih =>
      intro k a1 T1 g1 hk f1 t1 b1 x1 x2 x3 x4
      have M1 := M.sk f1.1
      obtain ⟨w1, w2, w3⟩ := x3 k (by omega)
      have hw := pn_lt w3
      refine j_M_nextBounce_164 ?_
      rw [gI_mI g1 m 20, cu_f (cn_cuF f1) (by omega), S.1, iI_le ⟨by omega, by omega⟩ ⟨by omega, by omega⟩, M1.a29.1, M1.a28.1, gI_q (by omega) (by omega), Int.toNat_natCast, w2, iI_cl (by omega) (by omega), Int.toNat_natCast, iI_add]
      refine ⟨M1.1, fun c => by omega, fun _ => ⟨M1.1, M1.1, ixL_of M1.a29.2 (by omega) (by omega) (by decide), ix_of M1.a28.2 (by omega) (by omega) (by decide), ?_⟩⟩
      have fw : fg (fun p _ => p = m + 21) g1 (sI g1 (m + 21) k (iI (w1 : Int))) := fg.rf.wr rfl
      obtain ⟨y1, y2, y3⟩ := x1
      refine ih (k + 1) a1 T1 _ (by omega) (f1.wr (by unfold cnS; omega)) ?_ b1 ⟨y1, ?_, pn_fg y3 fw (fun k z => by omega)⟩ (pn_fg x2 fw (fun k z => by omega)) (fun i hi => ?_) (fun i hi => ?_)
      · rw [fw.eq (by omega)]
        exact t1
      · rw [fw.eq (by omega)]
        exact y2
      · obtain ⟨u1, u2, u3⟩ := x3 i hi
        exact ⟨u1, by rw [fw.eq (by omega)]; exact u2, pn_fg u3 fw (fun k z => by omega)⟩
      · by_cases c : i = k
        · refine ⟨w1, ?_, ?_⟩
          · rw [mI_sI ⟨by omega, by omega⟩, if_pos ⟨rfl, c⟩]
          · rw [c]
            exact pn_fg w3 fw (fun k z => by omega)
        · obtain ⟨u1, u2, u3⟩ := x4 i (by omega)
          refine ⟨u1, ?_, pn_fg u3 fw (fun k z => by omega)⟩
          rw [mI_sI ⟨by omega, by omega⟩, if_neg (fun z => c z.2)]
          exact u2
  have l15 : ∀ (d i a1 T1 : Nat) (g1 : jHp), i + d = n → fg (cnS m) h g1 → mI g1 m 2 = (T1 : Int) → T ≤ T1 → T1 ≤ T + 80 + 2640 * i → (mI g1 m 30 = (xb : Int) ∧ PN m g1 T1 xb (bB m h n)) → PN m g1 T1 a1 (bU m h n (t + 1)) → (∀ i, i < n → ∃ a : Nat, mI g1 (m + 21) i = (a : Int) ∧ PN m g1 T1 a (bN m h n t i)) → (∀ i', i' < i → ∃ a : Nat, mI g1 (m + 22) i' = (a : Int) ∧ PN m g1 T1 a (bN m h n (t + 1) i')) → J 186 15 0 0 [.ref m, .int (iI a1), .int (iI i), uu, uu] [] g1 (nbQ m n h T t) := by
    intro d
    induction d with
    | zero =>
      intro i a1 T1 g1 hi f1 t1 b0 b1 x1 x2 x3 x4
      obtain rfl : i = n := by omega
      have M1 := M.sk f1.1
      refine j_M_nextBounce_15 ?_
      rw [gI_mI g1 m 20, cu_f (cn_cuF f1) (by omega), S.1, iI_le ⟨by omega, by omega⟩ ⟨by omega, by omega⟩]
      exact ⟨M1.1, fun _ => j_M_nextBounce_162 (l164 i 0 a1 T1 g1 (by omega) f1 t1 (by omega) ⟨xb, x1⟩ x2 x4 (fun j hj => by omega)), fun c => absurd (Int.le_refl _) c⟩
    | succ d ih =>
      intro i a1 T1 g1 hi f1 t1 b0 b1 x1 x2 x3 x4
      have hin : i < n := by omega
      have M1 := M.sk f1.1
      have s5 := S.2.2.2.2.1 i hin
      have ob := O i hin
      have dp : 0 < mI h (m + 11) i * mI h m 21 ∧ mI h (m + 11) i * mI h m 21 ≤ 100000 := sC_bd S hin
      -- the sum over j
      have l32 : ∀ (e j a2 T2 : Nat) (g2 : jHp), j + e = n → fg (wkS m T1) g1 g2 → mI g2 m 2 = (T2 : Int) → T1 ≤ T2 → T2 ≤ T1 + 80 + 240 * j → PN m g2 T2 a2 (sm (fun j => mI h (m + 16) (8 * i + j) * bN m h n t j) j) → J 186 32 0 0 [.ref m, .int (iI a1), .int (iI i), .int (iI a2), .int (iI j)] [] g2 (nbQ m n h T t) := by
        intro e
        induction e with
        | zero =>
          intro j a2 T2 g2 hj f2 t2 b2 b3 n2
          obtain rfl : j = n := by omega
          have M2 := M1.sk f2.1
          have fh2 : fg (cnS m) h g2 := f1.tr (wc_f f2)
          refine j_M_nextBounce_32 ?_
          rw [gI_mI g2 m 20, cu_f (cn_cuF fh2) (by omega), S.1, iI_le ⟨by omega, by omega⟩ ⟨by omega, by omega⟩]
          refine ⟨M2.1, fun _ => j_M_nextBounce_81 ?_, fun c => absurd (Int.le_refl _) c⟩
          have g30 : gI g2 m 30 = iI (xb : Int) := by rw [gI_mI, f2.eq (by unfold wkS; omega), x1.1]
          rw [M2.a14.1, gI_q (by omega) (by omega), Int.toNat_natCast, cu_eq (cn_cuF fh2) (p := 11) (by decide) (by decide), gI_mI g2 m 21, cu_f (cn_cuF fh2) (by omega), iI_64 ⟨by omega, by omega⟩, iI_64 ⟨by omega, by omega⟩, lI_mul, g30]
          refine ⟨M2.1, M2.1, ixL_of M2.a14.2 (by omega) (by omega) (by decide), M2.1, M2.1, jRet_mono (o_whole M2 t2 (by omega) (by omega)) ?_⟩
          intro r3 h3 q3
          obtain ⟨a3, T3, e3, f3, t3, l3, l4, n3⟩ := q3
          have M3 := M2.sk f3.1
          have xb3 := pn_up (pn_up x1.2 f2 b2) f3 l3
          refine ⟨_, e3, M3.1, jRet_mono (o_divided M3 t3 (by omega) xb3 n3 (by omega)) ?_⟩
          intro r4 h4 q4
          obtain ⟨a4, T4, e4, f4, t4, l5, l6, n4⟩ := q4
          have M4 := M3.sk f4.1
          have fh4 : fg (cnS m) h h4 := (fh2.tr (wc_f f3)).tr (wc_f f4)
          refine ⟨_, e4, M4.1, M4.1, ?_⟩
          rw [M4.a15.1, M4.a29.1, gI_q (by omega) (by omega), Int.toNat_natCast, cu_eq (cn_cuF fh4) (p := 12) (by decide) (by decide), iI_64 ⟨by omega, by omega⟩]
          refine ⟨ixL_of M4.a15.2 (by omega) (by omega) (by decide), M4.1, jRet_mono (o_whole M4 t4 (by omega) (by omega)) ?_⟩
          intro r5 h5 q5
          obtain ⟨a5, T5, e5, f5, t5, l7, l8, n5⟩ := q5
          have M5 := M4.sk f5.1
          have bt : (mI h (m + 12) i * bU m h j (t + 1)).natAbs ≤ 10 ^ 210 := Nat.le_trans (nA_mul (show (mI h (m + 12) i).natAbs ≤ 10 ^ 5 by omega) bU1.2) (by rw [← Nat.pow_add]; exact pbd _ (by omega))
          refine ⟨_, e5, M5.1, jRet_mono (o_times M5 t5 (by omega) n5 (pn_up (pn_up (pn_up (pn_up x2 f2 b2) f3 l3) f4 l5) f5 l7) (sz_10 bt)) ?_⟩
          intro r6 h6 q6
          obtain ⟨a6, T6, e6, f6, t6, l9, l10, n6⟩ := q6
          have M6 := M5.sk f6.1
          have fh6 : fg (cnS m) h h6 := (fh4.tr (wc_f f5)).tr (wc_f f6)
          refine ⟨_, e6, M6.1, ?_⟩
          rw [M6.a13.1, gI_q (by omega) (by omega), Int.toNat_natCast, cu_eq (cn_cuF fh6) (p := 10) (by decide) (by decide), iI_64 ⟨by omega, by omega⟩]
          refine ⟨ixL_of M6.a13.2 (by omega) (by omega) (by decide), M6.1, jRet_mono (o_whole M6 t6 (by omega) (by omega)) ?_⟩
          intro r7 h7 q7
          obtain ⟨a7, T7, e7, f7, t7, l11, l12, n7⟩ := q7
          have M7 := M6.sk f7.1
          have bw := bW_bd S hin
          refine ⟨_, e7, M7.1, jRet_mono (o_times M7 t7 (by omega) n7 (pn_up (pn_up (pn_up n4 f5 l7) f6 l9) f7 l11) (sz_10 (Nat.le_trans bw (by decide)))) ?_⟩
          intro r8 h8 q8
          obtain ⟨a8, T8, e8, f8, t8, l13, l14, n8⟩ := q8
          have M8 := M7.sk f8.1
          have bs : (bW m h j i * sm (fun q => mI h (m + 16) (8 * i + q) * bN m h j t q) j).natAbs ≤ 10 ^ 210 := Nat.le_trans (nA_mul bw (sumb i j hin (Nat.le_refl j))) (by rw [← Nat.pow_add]; exact pbd _ (by omega))
          refine ⟨_, e8, M8.1, jRet_mono (o_times M8 t8 (by omega) n8 (pn_up (pn_up (pn_up (pn_up (pn_up (pn_up n2 f3 l3) f4 l5) f5 l7) f6 l9) f7 l11) f8 l13) (sz_10 bs)) ?_⟩
          intro r9 h9 q9
          obtain ⟨a9, T9, e9, f9, t9, l15, l16, n9⟩ := q9
          have M9 := M8.sk f9.1
          have bsum := bN2 i hin
          rw [bN] at bsum
          refine ⟨_, e9, M9.1, jRet_mono (o_sum M9 t9 (by omega) (pn_up (pn_up (pn_up n6 f7 l11) f8 l13) f9 l15) n9 (sz_10 (Nat.le_trans bsum (pbd _ (by omega))))) ?_⟩
          intro r10 h10 q10
          obtain ⟨a10, T10, e10, f10, t10, l17, l18, n10⟩ := q10
          have M10 := M9.sk f10.1
          have ha := pn_lt n10
          refine ⟨_, e10, ix_of M10.a29.2 (by omega) (by omega) (by decide), ?_⟩
          rw [iI_cl (by omega) (by omega), Int.toNat_natCast, iI_add]
          have fw : fg (fun p _ => p = m + 22) h10 (sI h10 (m + 22) i (iI (a10 : Int))) := fg.rf.wr rfl
          have F : fg (wkS m T1) g1 h10 := (((((((f2.tr (f3.mo (fun _ _ z => wkS_mo (by omega) z))).tr (f4.mo (fun _ _ z => wkS_mo (by omega) z))).tr (f5.mo (fun _ _ z => wkS_mo (by omega) z))).tr (f6.mo (fun _ _ z => wkS_mo (by omega) z))).tr (f7.mo (fun _ _ z => wkS_mo (by omega) z))).tr (f8.mo (fun _ _ z => wkS_mo (by omega) z))).tr (f9.mo (fun _ _ z => wkS_mo (by omega) z))).tr (f10.mo (fun _ _ z => wkS_mo (by omega) z))
          have up : ∀ (a : Nat) (v : Int), PN m g1 T1 a v → PN m (sI h10 (m + 22) i (iI (a10 : Int))) T10 a v := fun a v x => pn_fg (pn_up x F (by omega)) fw (fun k z => by omega)
          refine ih (i + 1) a1 T10 _ (by omega) ((f1.tr (wc_f F)).wr (by unfold cnS; omega)) ?_ (by omega) (by omega) ⟨?_, up _ _ x1.2⟩ (up _ _ x2) (fun q hq => ?_) (fun q hq => ?_)
          · rw [fw.eq (by omega)]
            exact t10
          · rw [fw.eq (by omega), F.eq (by unfold wkS; omega)]
            exact x1.1
          · obtain ⟨u1, u2, u3⟩ := x3 q hq
            exact ⟨u1, by rw [fw.eq (by omega), F.eq (by unfold wkS; omega)]; exact u2, up _ _ u3⟩
          · by_cases c : q = i
            · refine ⟨a10, ?_, ?_⟩
              · rw [mI_sI ⟨by omega, by omega⟩, if_pos ⟨rfl, c⟩]
              · rw [c, bN]
                exact pn_fg n10 fw (fun k z => by omega)
            · obtain ⟨u1, u2, u3⟩ := x4 q (by omega)
              refine ⟨u1, ?_, up _ _ u3⟩
              rw [mI_sI ⟨by omega, by omega⟩, if_neg (fun z => c z.2), F.eq (by unfold wkS; omega)]
              exact u2
        | succ e ih2 =>
          intro j a2 T2 g2 hj f2 t2 b2 b3 n2
          have hjn : j < n := by omega
          have M2 := M1.sk f2.1
          have fh2 : fg (cnS m) h g2 := f1.tr (wc_f f2)
          have tb1 := tab_le S hin (show j < 8 by omega)
          have tb2 := S.2.2.2.2.2.1 (8 * i + j) (by omega)
          obtain ⟨w1, w2, w3⟩ := x3 j hjn
          have hw := pn_lt w3
          refine j_M_nextBounce_32 ?_
          rw [gI_mI g2 m 20, cu_f (cn_cuF fh2) (by omega), S.1, iI_le ⟨by omega, by omega⟩ ⟨by omega, by omega⟩, M2.a22.1]
          simp only [iI_mul, iI_add]
          rw [gI_q (by omega) (by omega), show (8 * (i : Int) + (j : Int)).toNat = 8 * i + j by omega, cu_eq (cn_cuF fh2) (p := 16) (by decide) (by decide), iI_64 ⟨by omega, by omega⟩]
          refine ⟨M2.1, fun c => by omega, fun _ => ⟨M2.1, ixL_of M2.a22.2 (by omega) (by omega) (by decide), M2.1, jRet_mono (o_whole M2 t2 (by omega) (by omega)) ?_⟩⟩
          intro r3 h3 q3
          obtain ⟨a3, T3, e3, f3, t3, l3, l4, n3⟩ := q3
          have M3 := M2.sk f3.1
          refine ⟨_, e3, M3.1, ?_⟩
          rw [M3.a28.1, gI_q (by omega) (by omega), Int.toNat_natCast, f3.eq (by unfold wkS; omega), f2.eq (by unfold wkS; omega), w2]
          have bt := bN_t S hin hjn (bN1 j hjn)
          have bt2 : 1000 * 10 ^ (25 * t + 5) ≤ 10 ^ 210 := by
            have := pbd (25 * t + 5 + 3) (by omega)
            rw [Nat.pow_add 10 (25 * t + 5)] at this
            generalize 10 ^ (25 * t + 5) = z at *
            generalize 10 ^ 210 = z2 at *
            omega
          refine ⟨ixL_of M3.a28.2 (by omega) (by omega) (by decide), M3.1, jRet_mono (o_times M3 t3 (by omega) n3 (pn_up (pn_up w3 f2 b2) f3 l3) (sz_10 (Nat.le_trans bt bt2))) ?_⟩
          intro r4 h4 q4
          obtain ⟨a4, T4, e4, f4, t4, l5, l6, n4⟩ := q4
          have M4 := M3.sk f4.1
          have bs := sumb i (j + 1) hin (by omega)
          rw [sm] at bs
          refine ⟨_, e4, M4.1, jRet_mono (o_sum M4 t4 (by omega) (pn_up (pn_up n2 f3 l3) f4 l5) n4 (sz_10 (Nat.le_trans bs (pbd _ (by omega))))) ?_⟩
          intro r5 h5 q5
          obtain ⟨a5, T5, e5, f5, t5, l7, l8, n5⟩ := q5
          refine ⟨_, e5, ?_⟩
          exact ih2 (j + 1) a5 T5 h5 (by omega) (((f2.tr (f3.mo (fun _ _ z => wkS_mo (by omega) z))).tr (f4.mo (fun _ _ z => wkS_mo (by omega) z))).tr (f5.mo (fun _ _ z => wkS_mo (by omega) z))) t5 (by omega) (by omega) (by rw [sm]; exact n5)
      refine j_M_nextBounce_15 ?_
      rw [gI_mI g1 m 20, cu_f (cn_cuF f1) (by omega), S.1, iI_le ⟨by omega, by omega⟩ ⟨by omega, by omega⟩]
      refine ⟨M1.1, fun c => by omega, fun _ => ⟨M1.1, jRet_mono (o_whole (x := ((0 : Nat) : Int)) M1 t1 (by omega) (by omega)) ?_⟩⟩
      intro r2 h2 q2
      obtain ⟨a2, T2, e2, f2, t2, l1, l2, n2⟩ := q2
      exact ⟨_, e2, l32 n 0 a2 T2 h2 (by omega) f2 t2 l1 (by omega) n2⟩
  have g31 : gI g m 31 = iI (xu : Int) := by rw [gI_mI, xu1]
  have g30 : gI g m 30 = iI (xb : Int) := by rw [gI_mI, xb1]
  refine jRet_of (by decide) (by decide) (Nat.le_of_ble_eq_true rfl) (j_M_nextBounce_0 ?_)
  rw [g31, g30]
  have bu := bU1.2
  rw [bU] at bu
  refine ⟨Mg.1, Mg.1, Mg.1, jRet_mono (o_times Mg ht (by omega) xu2 xb2 (sz_10 (Nat.le_trans bu (pbd _ (by omega))))) ?_⟩
  intro r1 h1 q1
  obtain ⟨a1, T1, e1, f1, t1, l1, l2, n1⟩ := q1
  refine ⟨_, e1, l15 n 0 a1 T1 h1 (by omega) (f.tr (wc_f f1)) t1 l1 (by omega) ⟨?_, pn_up xb2 f1 l1⟩ n1 (fun i hi => ?_) (fun i hi => by omega)⟩
  · rw [f1.eq (by unfold wkS; omega)]
    exact xb1
  · obtain ⟨u1, u2, u3⟩ := xn i hi
    exact ⟨u1, by rw [f1.eq (by unfold wkS; omega)]; exact u2, pn_up u3 f1 l1⟩
end BOU
