/-! pulls: the loops, and allPulls -/
theorem rt_cg {m T : Nat} {g : jHp} {P P' : Nat → Nat → Prop} {V V' : Nat → Nat → Int} (R : RT m g T P V) (hp : ∀ i j, P' i j → P i j) (hv : ∀ i j, P' i j → V' i j = V i j) : RT m g T P' V' := by
  intro i j p
  rw [hv i j p]
  exact R i j (hp i j p)
theorem cV_new {E : Nat → Nat → Int} {s : Int} {n c k j : Nat} (D : Dm E n) (hn : n ≤ 8) (hk : k < n) (hj : j < n ∨ j = 8) : cV E s c (k + 1) k j = cV E s c k k j := by
  unfold cV
  by_cases j8 : j = 8
  · rw [if_pos j8, if_pos j8, v_new D hn hk (Or.inr (by omega))]
  · rw [if_neg j8, if_neg j8, v_new D hn hk (Or.inl (by omega))]
theorem tb1 {T T' A j : Nat} (h1 : T' ≤ T + 320) (h2 : T ≤ A + 320 * j) : T' ≤ A + 320 * (j + 1) := by
  rw [Nat.mul_add, Nat.mul_one, ← Nat.add_assoc]
  exact Nat.le_trans h1 (Nat.add_le_add_right h2 320)
theorem tb2 {T A i : Nat} (h : T ≤ A + 2880 * i + 320 * 9) : T ≤ A + 2880 * (i + 1) := by
  rw [Nat.mul_add, Nat.mul_one, ← Nat.add_assoc]
  exact h
section PULLS
variable {m n c : Nat} {h : jHp}
theorem l_pu145 (M : Mo m h) (S : SW m h n) (hc : c < n) : ∀ (d k a T : Nat) (g : jHp), k + d = n → fg (pvS m) h g → mI g m 2 = (T : Int) → T ≤ 8000 + 23040 * k → RT m g T (fun i j => i < n ∧ (j < n ∨ j = 8)) (cV (EM m h) (sC m h c) c k) → PN m g T a (pp (EM m h) k) →
    J 159 145 0 0 [.ref m, .int (iI c), .int (iI n), .int (iI a), .int (iI k), uu, uu, uu, uu] [] g (plQ m n c h) := by
  have D := dm_of S
  have hn8 := S.2.1
  intro d
  induction d with
  | zero =>
    intro k a T g hk f ht hT R na
    obtain rfl : k = n := by omega
    refine j_M_pulls_145 ⟨fun _ => j_M_pulls_304 (l_pu307 M S hc k 0 g (by omega) (f.mo (fun p k z => pv_pu z)) (rt_cg R (fun i j z => ⟨z.1, Or.inr z.2⟩) (fun _ _ _ => rfl)) na (fun i hi => by omega) (fun q v _ _ _ K => kn_fg K f (fun k _ _ z => by unfold pvS at z; omega))), fun c => absurd ((iI_le ⟨by omega, by omega⟩ ⟨by omega, by omega⟩).mpr (by omega)) c⟩
  | succ d ih =>
    intro k a T g hk f ht hT R na
    have Mg := M.sk f.1
    have hkn : k < n := by omega
    obtain ⟨w, w1, w2⟩ := R k k ⟨hkn, Or.inl hkn⟩
    have hw := pn_lt w2
    -- the rows
    have l169 : ∀ (e i T1 : Nat) (g1 : jHp), i + e = n → fg (pvS m) h g1 → mI g1 m 2 = (T1 : Int) → T1 ≤ 8000 + 23040 * k + 2880 * i → RT m g1 T1 (fun i j => i < n ∧ (j < n ∨ j = 8)) (fun i' j' => if i' < i then cV (EM m h) (sC m h c) c (k + 1) i' j' else cV (EM m h) (sC m h c) c k i' j') → PN m g1 T1 a (pp (EM m h) k) → PN m g1 T1 w (cV (EM m h) (sC m h c) c k k k) →
        J 159 169 0 0 [.ref m, .int (iI c), .int (iI n), .int (iI a), .int (iI k), .int (iI w), .int (iI i), uu, uu] [] g1 (plQ m n c h) := by
      intro e
      induction e with
      | zero =>
        intro i T1 g1 hi f1 t1 b1 R1 na1 nw1
        obtain rfl : i = n := by omega
        refine j_M_pulls_169 ⟨fun _ => j_M_pulls_295 ?_, fun c => absurd ((iI_le ⟨by omega, by omega⟩ ⟨by omega, by omega⟩).mpr (by omega)) c⟩
        rw [iI_add]
        refine ih (k + 1) w T1 g1 (by omega) f1 t1 (by omega) (rt_cg R1 (fun _ _ z => z) (fun i' j' z => by rw [if_pos z.1])) ?_
        have e : cV (EM m h) (sC m h c) c k k k = pp (EM m h) (k + 1) := by
          unfold cV vM rx
          rw [if_neg (show ¬ k = 8 by omega), if_neg (Nat.lt_irrefl k), if_neg (Nat.lt_irrefl k), mn_kk]
        rw [← e]
        exact nw1
      | succ e ih2 =>
        intro i T1 g1 hi f1 t1 b1 R1 na1 nw1
        have M1 := M.sk f1.1
        have hin : i < n := by omega
        have l289 : ∀ (T2 : Nat) (g2 : jHp), fg (pvS m) h g2 → mI g2 m 2 = (T2 : Int) → T2 ≤ 8000 + 23040 * k + 2880 * (i + 1) → RT m g2 T2 (fun i j => i < n ∧ (j < n ∨ j = 8)) (fun i' j' => if i' < i + 1 then cV (EM m h) (sC m h c) c (k + 1) i' j' else cV (EM m h) (sC m h c) c k i' j') → PN m g2 T2 a (pp (EM m h) k) → PN m g2 T2 w (cV (EM m h) (sC m h c) c k k k) → J 159 289 0 0 [.ref m, .int (iI c), .int (iI n), .int (iI a), .int (iI k), .int (iI w), .int (iI i), uu, uu] [] g2 (plQ m n c h) := by
          intro T2 g2 f2 t2 b2 R2 na2 nw2
          refine j_M_pulls_289 ?_
          rw [iI_add]
          exact ih2 (i + 1) T2 g2 (by omega) f2 t2 (by omega) R2 na2 nw2
        refine j_M_pulls_169 ?_
        rw [iI_le ⟨by omega, by omega⟩ ⟨by omega, by omega⟩, iI_eq ⟨by omega, by omega⟩ ⟨by omega, by omega⟩]
        refine ⟨fun c => by omega, fun _ => ⟨fun cik => j_M_pulls_185 ?_, fun cik => ?_⟩⟩
        · have hik : i ≠ k := by omega
          obtain ⟨b, bb1, bb0⟩ := R1 i k ⟨hin, Or.inl hkn⟩
          have bb2 : PN m g1 T1 b (if i < i then cV (EM m h) (sC m h c) c (k + 1) i k else cV (EM m h) (sC m h c) c k i k) := bb0
          rw [if_neg (Nat.lt_irrefl i)] at bb2
          have hb := pn_lt bb2
          rw [M1.a25.1]
          simp only [iI_mul, iI_add]
          rw [gI_q (by omega) (by omega), show (9 * (i : Int) + (k : Int)).toNat = 9 * i + k by omega, bb1]
          refine ⟨M1.1, ixL_of M1.a25.2 (by omega) (by omega) (by decide), ?_⟩
          -- the cells
          have l203 : ∀ (u j T2 : Nat) (g2 : jHp), j + u = 9 → fg (pvS m) h g2 → mI g2 m 2 = (T2 : Int) → T2 ≤ 8000 + 23040 * k + 2880 * i + 320 * j → RT m g2 T2 (fun i j => i < n ∧ (j < n ∨ j = 8)) (fun i' j' => if i' < i ∨ (i' = i ∧ j' < j) then cV (EM m h) (sC m h c) c (k + 1) i' j' else cV (EM m h) (sC m h c) c k i' j') → PN m g2 T2 a (pp (EM m h) k) → PN m g2 T2 w (cV (EM m h) (sC m h c) c k k k) → PN m g2 T2 b (cV (EM m h) (sC m h c) c k i k) →
              J 159 203 0 0 [.ref m, .int (iI c), .int (iI n), .int (iI a), .int (iI k), .int (iI w), .int (iI i), .int (iI b), .int (iI j)] [] g2 (plQ m n c h) := by
            intro u
            induction u with
            | zero =>
              intro j T2 g2 hj f2 t2 b2 R2 na2 nw2 nb2
              obtain rfl : j = 9 := by omega
              refine j_M_pulls_203 ⟨fun _ => l289 T2 g2 f2 t2 (tb2 b2) (rt_cg R2 (fun _ _ z => z) (fun i' j' z => ?_)) na2 nw2, fun c => absurd ((iI_le ⟨by omega, by omega⟩ ⟨by omega, by omega⟩).mpr (by omega)) c⟩
              by_cases q : i' < i + 1
              · rw [if_pos q, if_pos (by omega)]
              · rw [if_neg q, if_neg (by omega)]
            | succ u ih3 =>
              intro j T2 g2 hj f2 t2 b2 R2 na2 nw2 nb2
              have go : (j < n ∨ j = 8) → J 159 223 0 0 [.ref m, .int (iI c), .int (iI n), .int (iI a), .int (iI k), .int (iI w), .int (iI i), .int (iI b), .int (iI j)] [] g2 (plQ m n c h) := by
                intro hj8
                refine l_pu223 M S hc hkn hin hik hj8 f2 t2 (by omega) R2 na2 nw2 nb2 ⟨hin, hj8⟩ ⟨hkn, hj8⟩ ?_ ?_ ?_ (fun i' j' z => by omega)
                · rw [if_neg (by omega)]
                · by_cases q : k < i ∨ (k = i ∧ j < j)
                  · rw [if_pos q, cV_new D hn8 hkn hj8]
                  · rw [if_neg q]
                · intro T' g' x1 x2 x3 x4 x5 x6 x7 x8
                  refine j_M_pulls_283 ?_
                  rw [iI_add]
                  refine ih3 (j + 1) T' g' (by omega) x4 x3 (tb1 x2 b2) (rt_cg x5 (fun _ _ z => z) (fun i' j' z => ?_)) x6 x7 x8
                  by_cases q : i' = i ∧ j' = j
                  · rw [if_pos q, if_pos (by omega), q.1, q.2]
                  · rw [if_neg q]
                    by_cases q2 : i' < i ∨ (i' = i ∧ j' < j)
                    · rw [if_pos q2, if_pos (by omega)]
                    · rw [if_neg q2, if_neg (by omega)]
              refine j_M_pulls_203 ?_
              rw [iI_le ⟨by omega, by omega⟩ ⟨by omega, by omega⟩, iI_lt ⟨by omega, by omega⟩ ⟨by omega, by omega⟩, iI_eq ⟨by omega, by omega⟩ ⟨by omega, by omega⟩]
              refine ⟨fun c => by omega, fun _ => ⟨fun c1 => go (Or.inl (by omega)), fun c1 => ⟨fun c2 => j_M_pulls_283 ?_, fun c2 => go (Or.inr (by omega))⟩⟩⟩
              rw [iI_add]
              refine ih3 (j + 1) T2 g2 (by omega) f2 t2 (by omega) (rt_cg R2 (fun _ _ z => z) (fun i' j' z => ?_)) na2 nw2 nb2
              by_cases q2 : i' < i ∨ (i' = i ∧ j' < j)
              · rw [if_pos q2, if_pos (by omega)]
              · rw [if_neg q2, if_neg (by omega)]
          exact l203 9 0 T1 g1 (by omega) f1 t1 (by omega) (rt_cg R1 (fun _ _ z => z) (fun i' j' z => by
            by_cases q : i' < i
            · rw [if_pos q, if_pos (Or.inl q)]
            · rw [if_neg q, if_neg (by omega)])) na1 nw1 bb2
        · have hik : i = k := by omega
          refine l289 T1 g1 f1 t1 (by omega) (rt_cg R1 (fun _ _ z => z) (fun i' j' z => ?_)) na1 nw1
          by_cases q : i' < i
          · rw [if_pos q, if_pos (by omega)]
          · rw [if_neg q]
            by_cases q2 : i' < i + 1
            · rw [if_pos q2, show i' = k by omega, cV_new D hn8 hkn z.2]
            · rw [if_neg q2]
    refine j_M_pulls_145 ?_
    rw [Mg.a25.1]
    simp only [iI_mul, iI_add]
    rw [gI_q (by omega) (by omega), show (9 * (k : Int) + (k : Int)).toNat = 9 * k + k by omega, w1, iI_le ⟨by omega, by omega⟩ ⟨by omega, by omega⟩]
    refine ⟨fun c => by omega, fun _ => ⟨Mg.1, ixL_of Mg.a25.2 (by omega) (by omega) (by decide), ?_⟩⟩
    exact l169 n 0 T g (by omega) f ht (by omega) (rt_cg R (fun _ _ z => z) (fun i' j' z => by rw [if_neg (Nat.not_lt_zero i')])) na w2
theorem EM_bd (S : SW m h n) {i j : Nat} (hi : i < n) (hj : j < n) : -200000 ≤ EM m h i j ∧ EM m h i j ≤ 200000 := by
  have hn8 := S.2.1
  have ht := tab_le S hi (show j < 8 by omega)
  obtain ⟨s1, s2, s3, s4, s5, s6, s7⟩ := S
  have a1 := s5 i hi
  have a2 := s6 (8 * i + j) (by omega)
  have a3 := Int.mul_le_mul (show mI h (m + 10) i ≤ 100 by omega) (show mI h (m + 16) (8 * i + j) ≤ 1000 by omega) a2 (show (0 : Int) ≤ 100 by decide)
  have a4 := Int.mul_nonneg a1.2.2.1 a2
  have a5 := Int.mul_le_mul (show mI h (m + 11) i ≤ 100 by omega) s4 (by omega) (show (0 : Int) ≤ 100 by decide)
  have a6 := Int.mul_nonneg (show 0 ≤ mI h (m + 11) i by omega) (show 0 ≤ mI h m 21 by omega)
  unfold EM
  rw [if_pos (by omega), if_pos (by omega)]
  split <;> omega
theorem c_pulls (M : Mo m h) (S : SW m h n) (hc : c < n) : jRet 159 0 0 [.ref m, .int (iI c)] h (plQ m n c h) := by
  have hn8 := S.2.1
  have hs := sC_bd S hc
  have hpn : ∀ g, fg (pvS m) h g → mI g m 20 = (n : Int) := fun g f => by
    rw [f.eq (by unfold pvS; omega)]
    exact S.1
  -- the rows are laid
  have l11 : ∀ (d i T : Nat) (g : jHp), i + d = n → fg (pvS m) h g → mI g m 2 = (T : Int) → T ≤ 720 * i → RT m g T (fun i' j' => i' < i ∧ (j' < n ∨ j' = 8)) (cV (EM m h) (sC m h c) c 0) → J 159 11 0 0 [.ref m, .int (iI c), .int (iI n), .int (iI i), uu, uu, uu, uu, uu] [] g (plQ m n c h) := by
    intro d
    induction d with
    | zero =>
      intro i T g hi f ht hT R
      obtain rfl : i = n := by omega
      have Mg := M.sk f.1
      refine j_M_pulls_11 ⟨fun _ => j_M_pulls_136 ⟨Mg.1, ?_⟩, fun c => absurd ((iI_le ⟨by omega, by omega⟩ ⟨by omega, by omega⟩).mpr (by omega)) c⟩
      refine jRet_mono (o_whole (x := ((1 : Nat) : Int)) Mg ht (by omega) (by omega)) ?_
      intro r1 h1 q1
      obtain ⟨a1, T1, e1, f1, t1, l1, l2, n1⟩ := q1
      refine ⟨_, e1, ?_⟩
      have p0 : pp (EM m h) 0 = ((1 : Nat) : Int) := by
        unfold pp
        rw [dt]
        rfl
      refine l_pu145 M S hc i 0 a1 T1 h1 (by omega) (f.tr (f1.mo (fun p k z => wk_pv z))) t1 (by omega) (fun i' j' p => ?_) (by rw [p0]; exact n1)
      obtain ⟨w, w1, w2⟩ := R i' j' p
      exact ⟨w, by rw [f1.eq (by unfold wkS; omega)]; exact w1, pn_up w2 f1 l1⟩
    | succ d ih =>
      intro i T g hi f ht hT R
      have hin : i < n := by omega
      have l19 : ∀ (e j T1 : Nat) (g1 : jHp), j + e = n → fg (pvS m) h g1 → mI g1 m 2 = (T1 : Int) → T1 ≤ 720 * i + 80 * j → RT m g1 T1 (fun i' j' => (i' < i ∧ (j' < n ∨ j' = 8)) ∨ (i' = i ∧ j' < j)) (cV (EM m h) (sC m h c) c 0) → J 159 19 0 0 [.ref m, .int (iI c), .int (iI n), .int (iI i), .int (iI j), uu, uu, uu, uu] [] g1 (plQ m n c h) := by
        intro e
        induction e with
        | zero =>
          intro j T1 g1 hj f1 t1 b1 R1
          obtain rfl : j = n := by omega
          have M1 := M.sk f1.1
          have go : ∀ y3 : Int, y3 = cV (EM m h) (sC m h c) c 0 i 8 → J 159 126 0 0 [.ref m, .int (iI c), .int (iI j), .int (iI i), uu, uu, uu, uu, uu] [.long (lI y3), .ref m, .int (iI (9 * (i : Int) + 8)), .ref (m + 19)] g1 (plQ m j c h) := by
            intro y3 hy
            have hyb : 0 ≤ y3 ∧ y3 ≤ 100000 := by
              rw [hy]
              unfold cV
              rw [if_pos rfl, v_0]
              unfold EM
              rw [if_pos (by omega), if_neg (by omega)]
              split <;> omega
            refine j_M_pulls_126 ⟨M1.1, jRet_mono (o_whole M1 t1 (by omega) (by omega)) ?_⟩
            intro r1 h1 q1
            obtain ⟨a1, T2, e1, f2, t2, l1, l2, n1⟩ := q1
            have M2 := M1.sk f2.1
            have ha := pn_lt n1
            refine ⟨_, e1, ix_of M2.a25.2 (by omega) (by omega) (by decide), ?_⟩
            rw [iI_cl (by omega) (by omega), show (9 * (i : Int) + 8).toNat = 9 * i + 8 by omega, iI_add]
            refine ih (i + 1) T2 _ (by omega) ((f1.tr (f2.mo (fun p k z => wk_pv z))).wr (by unfold pvS; omega)) ?_ (by omega) (rt_up R1 f2 l1 n1 (fun i' j' p => ?_))
            · rw [mI_sI ⟨by omega, by omega⟩, if_neg (fun z => by omega)]
              exact t2
            · by_cases q : i' = i ∧ j' = 8
              · exact Or.inl ⟨q.1, q.2, by rw [hy, q.1, q.2]⟩
              · exact Or.inr ⟨by omega, rfl, by omega⟩
          refine j_M_pulls_19 ⟨fun _ => j_M_pulls_92 ?_, fun c => absurd ((iI_le ⟨by omega, by omega⟩ ⟨by omega, by omega⟩).mpr (by omega)) c⟩
          rw [M1.a25.1, M1.a14.1]
          simp only [iI_mul, iI_add]
          have g21 : mI g1 m 21 = mI h m 21 := f1.eq (by unfold pvS; omega)
          have g11 : mI g1 (m + 11) i = mI h (m + 11) i := f1.eq (by unfold pvS; omega)
          rw [iI_eq ⟨by omega, by omega⟩ ⟨by omega, by omega⟩, gI_q (by omega) (by omega), Int.toNat_natCast, gI_mI g1 m 21, iI_64 (rI_mI _ _ _), iI_64 (rI_mI _ _ _), lI_mul, g21, g11]
          refine ⟨M1.1, fun q => j_M_pulls_125 (go 0 ?_), fun q => ⟨M1.1, ixL_of M1.a14.2 (by omega) (by omega) (by decide), M1.1, go _ ?_⟩⟩
          · unfold cV
            rw [if_pos rfl, v_0]
            unfold EM
            rw [if_pos (by omega), if_neg (by omega), if_neg (by omega), Int.mul_zero]
          · unfold cV
            rw [if_pos rfl, v_0]
            unfold EM sC
            rw [if_pos (by omega), if_neg (by omega), if_pos (by omega), Int.mul_one, show i = c by omega]
        | succ e ih2 =>
          intro j T1 g1 hj f1 t1 b1 R1
          have M1 := M.sk f1.1
          have hjn : j < n := by omega
          have g21 : mI g1 m 21 = mI h m 21 := f1.eq (by unfold pvS; omega)
          have g11 : mI g1 (m + 11) i = mI h (m + 11) i := f1.eq (by unfold pvS; omega)
          have g10 : mI g1 (m + 10) i = mI h (m + 10) i := f1.eq (by unfold pvS; omega)
          have g16 : mI g1 (m + 16) (8 * i + j) = mI h (m + 16) (8 * i + j) := f1.eq (by unfold pvS; omega)
          have go : ∀ y3 : Int, y3 = (if i = j then mI h (m + 11) i * mI h m 21 else 0) → J 159 60 0 0 [.ref m, .int (iI c), .int (iI n), .int (iI i), .int (iI j), uu, uu, uu, uu] [.long (lI y3), .ref m, .int (iI (9 * (i : Int) + (j : Int))), .ref (m + 19)] g1 (plQ m n c h) := by
            intro y3 hy
            refine j_M_pulls_60 ?_
            rw [M1.a13.1, M1.a22.1]
            simp only [iI_mul, iI_add]
            rw [gI_q (by omega) (by omega), gI_q (by omega) (by omega), Int.toNat_natCast, show (8 * (i : Int) + (j : Int)).toNat = 8 * i + j by omega, g10, g16, iI_64 (by rw [← g10]; exact rI_mI _ _ _), iI_64 (by rw [← g16]; exact rI_mI _ _ _), lI_mul, lI_sub]
            have eE : y3 - mI h (m + 10) i * mI h (m + 16) (8 * i + j) = EM m h i j := by
              unfold EM
              rw [if_pos (by omega), if_pos (by omega), hy]
            rw [eE]
            have bE := EM_bd S hin hjn
            refine ⟨M1.1, ixL_of M1.a13.2 (by omega) (by omega) (by decide), M1.1, ixL_of M1.a22.2 (by omega) (by omega) (by decide), M1.1, jRet_mono (o_whole M1 t1 (by omega) (by omega)) ?_⟩
            intro r1 h1 q1
            obtain ⟨a1, T2, e1, f2, t2, l1, l2, n1⟩ := q1
            have M2 := M1.sk f2.1
            have ha := pn_lt n1
            refine ⟨_, e1, ix_of M2.a25.2 (by omega) (by omega) (by decide), ?_⟩
            rw [iI_cl (by omega) (by omega), show (9 * (i : Int) + (j : Int)).toNat = 9 * i + j by omega]
            refine ih2 (j + 1) T2 _ (by omega) ((f1.tr (f2.mo (fun p k z => wk_pv z))).wr (by unfold pvS; omega)) ?_ (by omega) (rt_up R1 f2 l1 n1 (fun i' j' p => ?_))
            · rw [mI_sI ⟨by omega, by omega⟩, if_neg (fun z => by omega)]
              exact t2
            · by_cases q : i' = i ∧ j' = j
              · refine Or.inl ⟨q.1, q.2, ?_⟩
                unfold cV
                rw [if_neg (by omega), v_0, q.1, q.2]
              · exact Or.inr ⟨by omega, rfl, by omega⟩
          refine j_M_pulls_19 ?_
          rw [M1.a25.1, M1.a14.1]
          simp only [iI_mul, iI_add]
          rw [iI_le ⟨by omega, by omega⟩ ⟨by omega, by omega⟩, iI_eq ⟨by omega, by omega⟩ ⟨by omega, by omega⟩, gI_q (by omega) (by omega), Int.toNat_natCast, gI_mI g1 m 21, iI_64 (rI_mI _ _ _), iI_64 (rI_mI _ _ _), lI_mul, g21, g11]
          refine ⟨fun c => by omega, fun _ => ⟨M1.1, fun q => j_M_pulls_59 (go 0 (by rw [if_neg (by omega)])), fun q => ⟨M1.1, ixL_of M1.a14.2 (by omega) (by omega) (by decide), M1.1, go _ (by rw [if_pos (by omega)])⟩⟩⟩
      refine j_M_pulls_11 ?_
      rw [iI_le ⟨by omega, by omega⟩ ⟨by omega, by omega⟩]
      exact ⟨fun c => by omega, fun _ => l19 n 0 T g (by omega) f ht (by omega) (rt_cg R (fun i' j' z => by omega) (fun _ _ _ => rfl))⟩
  refine jRet_of (by decide) (by decide) (Nat.le_of_ble_eq_true rfl) (j_M_pulls_0 ⟨M.1, jRet_mono (c_clean M) ?_⟩)
  intro r1 h1 q1
  obtain ⟨e1, e2⟩ := q1
  have f1 : fg (pvS m) h h1 := by
    rw [e2]
    exact fg.rf.wr (by unfold pvS; omega)
  have M1 := M.sk f1.1
  refine ⟨e1, M1.1, ?_⟩
  rw [gI_mI h1 m 20, hpn h1 f1]
  refine l11 n 0 0 h1 (by omega) f1 ?_ (by omega) (fun i j p => by omega)
  rw [e2, mI_sI ⟨by omega, by omega⟩, if_pos ⟨rfl, rfl⟩]
  rfl
end PULLS
