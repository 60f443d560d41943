/-! bounces -/
theorem Mo.a28 {m : Nat} {h : jHp} (M : Mo m h) : gR h m 28 = m + 21 ∧ jz h (m + 21) = (10, 8) := M.2 (28, 21, 8) (by decide)
theorem Mo.a29 {m : Nat} {h : jHp} (M : Mo m h) : gR h m 29 = m + 22 ∧ jz h (m + 22) = (10, 8) := M.2 (29, 22, 8) (by decide)
theorem Mo.a16 {m : Nat} {h : jHp} (M : Mo m h) : gR h m 16 = m + 13 ∧ jz h (m + 13) = (10, 8) := M.2 (16, 13, 8) (by decide)
theorem o_common {m T a b : Nat} {h : jHp} {x y : Int} (M : Mo m h) (ht : mI h m 2 = T) (hT : T + 1200 < 400000) (na : PN m h T a x) (nb : PN m h T b y) (hy : y ≠ 0) : jRet 180 0 0 [.ref m, .int (iI a), .int (iI b)] h (OP m h T ((Nat.gcd x.natAbs y.natAbs : Nat) : Int)) := by
  have e1 := na.2.2
  have e2 := nb.2.2
  have e3 : sz B3 (((Nat.gcd x.natAbs y.natAbs : Nat) : Int)).natAbs ≤ 24 := by
    rw [Int.natAbs_natCast]
    exact Nat.le_trans (sz_mono (by decide) (Nat.gcd_le_right _ (by omega))) e2
  exact jRet_mono (c_common M na.1 nb.1 ht na.2.1 nb.2.1 (by omega) (by omega) hT) (fun _ _ q => RW_OP e3 q)
/-- the bottoms' least common multiple, of the first k -/
def bL (m : Nat) (h : jHp) : Nat → Nat
  | 0 => 1
  | k + 1 => bL m h k * ((mI h (m + 11) k).toNat / Nat.gcd (bL m h k) (mI h (m + 11) k).toNat)
def bB (m : Nat) (h : jHp) (n : Nat) : Int := mI h m 21 * (bL m h n : Int)
def bU (m : Nat) (h : jHp) (n : Nat) : Nat → Int
  | 0 => 1
  | t + 1 => bU m h n t * bB m h n
def bW (m : Nat) (h : jHp) (n i : Nat) : Int := mI h (m + 10) i * (bB m h n).tdiv (mI h (m + 11) i * mI h m 21)
def bN (m : Nat) (h : jHp) (n : Nat) : Nat → Nat → Int
  | 0, i => mI h (m + 12) i
  | t + 1, i => mI h (m + 12) i * bU m h n (t + 1) + bW m h n i * sm (fun j => mI h (m + 16) (8 * i + j) * bN m h n t j) n
section BOU
variable {m n : Nat} {h : jHp}
theorem bL_bd (S : SW m h n) : ∀ k, k ≤ n → 0 < bL m h k ∧ bL m h k ≤ 100 ^ k
  | 0, _ => ⟨by rw [bL]; decide, by rw [bL]; decide⟩
  | k + 1, hk => by
    have s5 := S.2.2.2.2.1 k (by omega)
    obtain ⟨a1, a2⟩ := bL_bd S k (by omega)
    rw [bL, Nat.pow_succ]
    have b1 : 0 < (mI h (m + 11) k).toNat := by omega
    have b2 : (mI h (m + 11) k).toNat / Nat.gcd (bL m h k) (mI h (m + 11) k).toNat ≤ 100 := Nat.le_trans (Nat.div_le_self _ _) (by omega)
    have b3 : 0 < (mI h (m + 11) k).toNat / Nat.gcd (bL m h k) (mI h (m + 11) k).toNat := Nat.div_pos (Nat.gcd_le_right _ b1) (Nat.gcd_pos_of_pos_right _ b1)
    exact ⟨Nat.mul_pos a1 b3, Nat.mul_le_mul a2 b2⟩
theorem bB_k (S : SW m h n) {k : Nat} (hk : k ≤ n) : 0 < bB m h k ∧ (bB m h k).natAbs ≤ 10 ^ 19 := by
  obtain ⟨a1, a2⟩ := bL_bd S k hk
  have hn := S.2.1
  have a3 : 100 ^ k ≤ 100 ^ 8 := Nat.pow_le_pow_right (by decide) (by omega)
  have s3 := S.2.2.1
  have s4 := S.2.2.2.1
  unfold bB
  refine ⟨Int.mul_pos (by omega) (by omega), ?_⟩
  exact Nat.le_trans (nA_mul (show (mI h m 21).natAbs ≤ 1000 by omega) (show ((bL m h k : Int)).natAbs ≤ 100 ^ 8 by rw [Int.natAbs_natCast]; omega)) (by decide)
theorem bU_bd (S : SW m h n) : ∀ t, 0 < bU m h n t ∧ (bU m h n t).natAbs ≤ 10 ^ (19 * t)
  | 0 => ⟨by rw [bU]; decide, by rw [bU]; decide⟩
  | t + 1 => by
    obtain ⟨a1, a2⟩ := bU_bd S t
    obtain ⟨b1, b2⟩ := bB_k S (Nat.le_refl n)
    rw [bU, show 19 * (t + 1) = 19 * t + 19 by omega, Nat.pow_add]
    exact ⟨Int.mul_pos a1 b1, nA_mul a2 b2⟩
theorem bW_bd (S : SW m h n) {i : Nat} (hi : i < n) : (bW m h n i).natAbs ≤ 10 ^ 21 := by
  have s5 := S.2.2.2.2.1 i hi
  unfold bW
  have a1 : ((bB m h n).tdiv (mI h (m + 11) i * mI h m 21)).natAbs ≤ 10 ^ 19 := by
    rw [nat_td]
    exact Nat.le_trans (Nat.div_le_self _ _) (bB_k S (Nat.le_refl n)).2
  exact Nat.le_trans (nA_mul (show (mI h (m + 10) i).natAbs ≤ 100 by omega) a1) (by decide)
theorem nA_add {x y : Int} {a b : Nat} (h1 : x.natAbs ≤ a) (h2 : y.natAbs ≤ b) : (x + y).natAbs ≤ a + b := by omega
theorem bN_t (S : SW m h n) {i j t : Nat} {B : Nat} (hi : i < n) (hj : j < n) (hB : (bN m h n t j).natAbs ≤ B) : (mI h (m + 16) (8 * i + j) * bN m h n t j).natAbs ≤ 1000 * B := by
  have hn := S.2.1
  have t1 := tab_le S hi (show j < 8 by omega)
  have t2 := S.2.2.2.2.2.1 (8 * i + j) (by omega)
  have s4 := S.2.2.2.1
  exact nA_mul (by omega) hB
theorem bN_bd (S : SW m h n) (O : SO m h n) : ∀ t i, i < n → (bN m h n t i).natAbs ≤ 10 ^ (25 * t + 5)
  | 0, i, hi => by
    have := O i hi
    rw [bN]
    show _ ≤ 100000
    omega
  | t + 1, i, hi => by
    have hn := S.2.1
    have o := O i hi
    have a1 : (sm (fun j => mI h (m + 16) (8 * i + j) * bN m h n t j) n).natAbs ≤ n * (1000 * 10 ^ (25 * t + 5)) := nA_sm (fun j hj => bN_t S hi hj (bN_bd S O t j hj))
    have a2 : n * (1000 * 10 ^ (25 * t + 5)) ≤ 8 * (1000 * 10 ^ (25 * t + 5)) := Nat.mul_le_mul_right _ hn
    have a3 := nA_mul (bW_bd S hi) (Nat.le_trans a1 a2)
    have a4 := (bU_bd S (t + 1)).2
    have a5 : 10 ^ (19 * (t + 1)) ≤ 10 ^ (25 * t + 19) := Nat.pow_le_pow_right (by decide) (by omega)
    have a6 := nA_mul (show (mI h (m + 12) i).natAbs ≤ 10000 by omega) (Nat.le_trans a4 a5)
    rw [bN]
    refine Nat.le_trans (nA_add a6 a3) ?_
    rw [show 25 * (t + 1) + 5 = 25 * t + 30 by omega, Nat.pow_add, Nat.pow_add, Nat.pow_add]
    have e19 : (10 : Nat) ^ 19 = 10000000000000000000 := by decide
    have e21 : (10 : Nat) ^ 21 = 1000000000000000000000 := by decide
    have e30 : (10 : Nat) ^ 30 = 1000000000000000000000000000000 := by decide
    have e5 : (10 : Nat) ^ 5 = 100000 := by decide
    rw [e19, e21, e30, e5]
    generalize 10 ^ (25 * t) = z
    omega
/-- the state of the bounces: t have been -/
def BS (m n : Nat) (h g : jHp) (T t : Nat) : Prop := fg (cnS m) h g ∧ mI g m 2 = (T : Int) ∧ (∃ a : Nat, mI g m 30 = (a : Int) ∧ PN m g T a (bB m h n)) ∧ (∃ a : Nat, mI g m 31 = (a : Int) ∧ PN m g T a (bU m h n t)) ∧ ∀ i, i < n → ∃ a : Nat, mI g (m + 21) i = (a : Int) ∧ PN m g T a (bN m h n t i)
theorem cn_cuF {g : jHp} (f : fg (cnS m) h g) : fg (cuS m) h g := f.mo (fun _ _ z => cn_cu z)
theorem bL_s {k : Nat} : bL m h (k + 1) = bL m h k * ((mI h (m + 11) k).toNat / Nat.gcd (bL m h k) (mI h (m + 11) k).toNat) := rfl
theorem c_firstBounce (M : Mo m h) (S : SW m h n) (O : SO m h n) : jRet 185 0 0 [.ref m] h (fun r h' => r = none ∧ ∃ T, T ≤ 6000 ∧ BS m n h h' T 0) := by
  have hn8 := S.2.1
  have s3 := S.2.2.1
  have s4 := S.2.2.2.1
  have l97 : ∀ (d k T : Nat) (g : jHp), k + d = n → fg (cnS m) h g → mI g m 2 = (T : Int) → T ≤ 5100 + 80 * k → (∃ a : Nat, mI g m 30 = (a : Int) ∧ PN m g T a (bB m h n)) → (∃ a : Nat, mI g m 31 = (a : Int) ∧ PN m g T a (bU m h n 0)) → (∀ i, i < k → ∃ a : Nat, mI g (m + 21) i = (a : Int) ∧ PN m g T a (bN m h n 0 i)) → J 185 97 0 0 [.ref m, .int (iI k), uu, uu] [] g (fun r h' => r = none ∧ ∃ T, T ≤ 6000 ∧ BS m n h h' T 0) := by
    intro d
    induction d with
    | zero =>
      intro k T g hk f ht hT b1 b2 b3
      obtain rfl : k = n := by omega
      have Mg := M.sk f.1
      refine j_M_firstBounce_97 ?_
      rw [gI_mI g m 20, cu_f (cn_cuF f) (by omega), S.1, iI_le ⟨by omega, by omega⟩ ⟨by omega, by omega⟩]
      exact ⟨Mg.1, fun _ => j_M_firstBounce_128 ⟨rfl, T, (by omega), f, ht, b1, b2, b3⟩, fun c => absurd (Int.le_refl _) c⟩
    | succ d ih =>
      intro k T g hk f ht hT b1 b2 b3
      have Mg := M.sk f.1
      have ob := O k (by omega)
      refine j_M_firstBounce_97 ?_
      rw [gI_mI g m 20, cu_f (cn_cuF f) (by omega), S.1, iI_le ⟨by omega, by omega⟩ ⟨by omega, by omega⟩, Mg.a15.1, gI_q (by omega) (by omega), Int.toNat_natCast, cu_eq (cn_cuF f) (p := 12) (by decide) (by decide), iI_64 ⟨by omega, by omega⟩, Mg.a28.1]
      refine ⟨Mg.1, fun c => by omega, fun _ => ⟨Mg.1, Mg.1, ixL_of Mg.a15.2 (by omega) (by omega) (by decide), Mg.1, jRet_mono (o_whole Mg ht (by omega) (by omega)) ?_⟩⟩
      intro r1 h1 q1
      obtain ⟨a1, T1, e1, f1, t1, l1, l2, n1⟩ := q1
      have M1 := Mg.sk f1.1
      have ha := pn_lt n1
      refine ⟨_, e1, ix_of M1.a28.2 (by omega) (by omega) (by decide), ?_⟩
      rw [iI_cl (by omega) (by omega), Int.toNat_natCast, iI_add]
      have fw : fg (fun p _ => p = m + 21) h1 (sI h1 (m + 21) k (iI (a1 : Int))) := fg.rf.wr rfl
      have up : ∀ (a : Nat) (v : Int), PN m g T a v → PN m (sI h1 (m + 21) k (iI (a1 : Int))) T1 a v := fun a v x => pn_fg (pn_up x f1 l1) fw (fun k z => by omega)
      obtain ⟨x1, x2, x3⟩ := b1
      obtain ⟨y1, y2, y3⟩ := b2
      refine ih (k + 1) T1 _ (by omega) ((f.tr (f1.mo (fun _ _ z => wk_cn z))).wr (by unfold cnS; omega)) ?_ (by omega) ⟨x1, ?_, up _ _ x3⟩ ⟨y1, ?_, up _ _ y3⟩ (fun i hi => ?_)
      · rw [fw.eq (by omega)]
        exact t1
      · rw [fw.eq (by omega), f1.eq (by unfold wkS; omega)]
        exact x2
      · rw [fw.eq (by omega), f1.eq (by unfold wkS; omega)]
        exact y2
      · by_cases c : i = k
        · refine ⟨a1, ?_, ?_⟩
          · rw [mI_sI ⟨by omega, by omega⟩, if_pos ⟨rfl, c⟩]
          · rw [c]
            exact pn_fg n1 fw (fun k z => by omega)
        · obtain ⟨w1, w2, w3⟩ := b3 i (by omega)
          refine ⟨w1, ?_, up _ _ w3⟩
          rw [mI_sI ⟨by omega, by omega⟩, if_neg (fun z => c z.2), f1.eq (by unfold wkS; omega)]
          exact w2
  have l19 : ∀ (d k T : Nat) (g : jHp), k + d = n → fg (cnS m) h g → mI g m 2 = (T : Int) → T ≤ 80 + 480 * k → (∃ a : Nat, mI g m 30 = (a : Int) ∧ PN m g T a (bB m h k)) → J 185 19 0 0 [.ref m, .int (iI k), uu, uu] [] g (fun r h' => r = none ∧ ∃ T, T ≤ 6000 ∧ BS m n h h' T 0) := by
    intro d
    induction d with
    | zero =>
      intro k T g hk f ht hT b1
      obtain rfl : k = n := by omega
      have Mg := M.sk f.1
      refine j_M_firstBounce_19 ?_
      rw [gI_mI g m 20, cu_f (cn_cuF f) (by omega), S.1, iI_le ⟨by omega, by omega⟩ ⟨by omega, by omega⟩]
      refine ⟨Mg.1, fun _ => j_M_firstBounce_86 ⟨Mg.1, jRet_mono (o_whole (x := ((1 : Nat) : Int)) Mg ht (by omega) (by omega)) ?_⟩, fun c => absurd (Int.le_refl _) c⟩
      intro r1 h1 q1
      obtain ⟨a1, T1, e1, f1, t1, l1, l2, n1⟩ := q1
      have M1 := Mg.sk f1.1
      have ha := pn_lt n1
      refine ⟨_, e1, M1.1, ?_⟩
      have fw : fg (fun p q => p = m ∧ q = 31) h1 (sI h1 m 31 (iI (a1 : Int))) := fg.rf.wr ⟨rfl, rfl⟩
      obtain ⟨x1, x2, x3⟩ := b1
      refine l97 k 0 T1 _ (by omega) ((f.tr (f1.mo (fun _ _ z => wk_cn z))).wr (by unfold cnS; omega)) ?_ (by omega) ⟨x1, ?_, pn_fg (pn_up x3 f1 l1) fw (fun k z => by omega)⟩ ⟨a1, ?_, pn_fg n1 fw (fun k z => by omega)⟩ (fun i hi => by omega)
      · rw [fw.eq (by omega)]
        exact t1
      · rw [fw.eq (by omega), f1.eq (by unfold wkS; omega)]
        exact x2
      · rw [mI_sI ⟨by omega, by omega⟩, if_pos ⟨rfl, rfl⟩]
    | succ d ih =>
      intro k T g hk f ht hT b1
      have Mg := M.sk f.1
      have hkn : k < n := by omega
      have s5 := S.2.2.2.2.1 k hkn
      obtain ⟨bb1, bb2⟩ := bL_bd S k (by omega)
      obtain ⟨x1, x2, x3⟩ := b1
      have hx := pn_lt x3
      refine j_M_firstBounce_19 ?_
      rw [gI_mI g m 20, cu_f (cn_cuF f) (by omega), S.1, iI_le ⟨by omega, by omega⟩ ⟨by omega, by omega⟩, Mg.a14.1, gI_q (by omega) (by omega), Int.toNat_natCast, cu_eq (cn_cuF f) (p := 11) (by decide) (by decide), iI_64 ⟨by omega, by omega⟩]
      refine ⟨Mg.1, fun c => by omega, fun _ => ⟨Mg.1, ixL_of Mg.a14.2 (by omega) (by omega) (by decide), Mg.1, jRet_mono (o_whole Mg ht (by omega) (by omega)) ?_⟩⟩
      intro r1 h1 q1
      obtain ⟨a1, T1, e1, f1, t1, l1, l2, n1⟩ := q1
      have M1 := Mg.sk f1.1
      refine ⟨_, e1, M1.1, M1.1, M1.1, ?_⟩
      have g21 : mI h1 m 21 = mI h m 21 := by rw [f1.eq (by unfold wkS; omega), cu_f (cn_cuF f) (by omega)]
      have g30 : gI h1 m 30 = iI (x1 : Int) := by rw [gI_mI, f1.eq (by unfold wkS; omega), x2]
      rw [gI_mI h1 m 21, g21, g30, iI_64 ⟨by omega, by omega⟩]
      refine jRet_mono (o_whole M1 t1 (by omega) (by omega)) ?_
      intro r2 h2 q2
      obtain ⟨a2, T2, e2, f2, t2, l3, l4, n2⟩ := q2
      have M2 := M1.sk f2.1
      refine ⟨_, e2, M2.1, jRet_mono (o_divided M2 t2 (by omega) (pn_up (pn_up x3 f1 l1) f2 l3) n2 (by omega)) ?_⟩
      intro r3 h3 q3
      obtain ⟨a3, T3, e3, f3, t3, l5, l6, n3⟩ := q3
      have M3 := M2.sk f3.1
      have ew : (bB m h k).tdiv (mI h m 21) = (bL m h k : Int) := by
        unfold bB
        exact Int.mul_tdiv_cancel_left _ (by omega)
      rw [ew] at n3
      refine ⟨_, e3, M3.1, M3.1, jRet_mono (o_common M3 t3 (by omega) n3 (pn_up (pn_up n1 f2 l3) f3 l5) (by omega)) ?_⟩
      intro r4 h4 q4
      obtain ⟨a4, T4, e4, f4, t4, l7, l8, n4⟩ := q4
      have M4 := M3.sk f4.1
      obtain ⟨dn, hdn⟩ : ∃ dn : Nat, mI h (m + 11) k = (dn : Int) := ⟨(mI h (m + 11) k).toNat, by omega⟩
      rw [hdn] at n1 s5
      rw [hdn, Int.natAbs_natCast, Int.natAbs_natCast] at n4
      have hg0 : 0 < Nat.gcd (bL m h k) dn := Nat.gcd_pos_of_pos_right _ (by omega)
      refine ⟨_, e4, M4.1, jRet_mono (o_divided M4 t4 (by omega) (pn_up (pn_up (pn_up n1 f2 l3) f3 l5) f4 l7) n4 (by omega)) ?_⟩
      intro r5 h5 q5
      obtain ⟨a5, T5, e5, f5, t5, l9, l10, n5⟩ := q5
      have M5 := M4.sk f5.1
      have ed : ((dn : Int)).tdiv ((Nat.gcd (bL m h k) dn : Nat) : Int) = ((dn / Nat.gcd (bL m h k) dn : Nat) : Int) := rfl
      rw [ed] at n5
      have g30' : gI h3 m 30 = iI (x1 : Int) := by rw [gI_mI, f3.eq (by unfold wkS; omega), f2.eq (by unfold wkS; omega), f1.eq (by unfold wkS; omega), x2]
      have eB : bB m h k * ((dn / Nat.gcd (bL m h k) dn : Nat) : Int) = bB m h (k + 1) := by
        unfold bB
        rw [bL_s, hdn, Int.toNat_natCast, Int.natCast_mul, Int.mul_assoc]
      have bd := (bB_k S (show k + 1 ≤ n by omega)).2
      rw [← eB] at bd
      rw [g30']
      refine ⟨_, e5, M5.1, jRet_mono (o_times M5 t5 (by omega) (pn_up (pn_up (pn_up (pn_up (pn_up x3 f1 l1) f2 l3) f3 l5) f4 l7) f5 l9) n5 (sz_10 (Nat.le_trans bd (by decide)))) ?_⟩
      intro r6 h6 q6
      obtain ⟨a6, T6, e6, f6, t6, l11, l12, n6⟩ := q6
      have M6 := M5.sk f6.1
      rw [eB] at n6
      have ha := pn_lt n6
      refine ⟨_, e6, M6.1, ?_⟩
      have fw : fg (fun p q => p = m ∧ q = 30) h6 (sI h6 m 30 (iI (a6 : Int))) := fg.rf.wr ⟨rfl, rfl⟩
      have wc : ∀ t p k, wkS m t p k → cnS m p k := fun t p k z => wk_cn z
      have fall : fg (cnS m) h h6 := (((((f.tr (f1.mo (wc _))).tr (f2.mo (wc _))).tr (f3.mo (wc _))).tr (f4.mo (wc _))).tr (f5.mo (wc _))).tr (f6.mo (wc _))
      rw [iI_add]
      refine ih (k + 1) T6 _ (by omega) (fall.wr (by unfold cnS; omega)) ?_ (by omega) ⟨a6, ?_, pn_fg n6 fw (fun k z => by omega)⟩
      · rw [fw.eq (by omega)]
        exact t6
      · rw [mI_sI ⟨by omega, by omega⟩, if_pos ⟨rfl, rfl⟩]
  refine jRet_of (by decide) (by decide) (Nat.le_of_ble_eq_true rfl) (j_M_firstBounce_0 ⟨M.1, jRet_mono (c_clean M) ?_⟩)
  intro r1 h1 q1
  obtain ⟨e1, e2⟩ := q1
  have f1 : fg (cnS m) h h1 := by
    rw [e2]
    exact fg.rf.wr (by unfold cnS; omega)
  have M1 := M.sk f1.1
  have t1 : mI h1 m 2 = ((0 : Nat) : Int) := by
    rw [e2, mI_sI ⟨by omega, by omega⟩, if_pos ⟨rfl, rfl⟩]
    rfl
  refine ⟨e1, M1.1, M1.1, ?_⟩
  rw [gI_mI h1 m 21, cu_f (cn_cuF f1) (by omega), iI_64 ⟨by omega, by omega⟩]
  refine jRet_mono (o_whole M1 t1 (by omega) (by omega)) ?_
  intro r2 h2 q2
  obtain ⟨a2, T2, e3, f2, t2, l3, l4, n2⟩ := q2
  have M2 := M1.sk f2.1
  have ha := pn_lt n2
  refine ⟨_, e3, M2.1, ?_⟩
  have fw : fg (fun p q => p = m ∧ q = 30) h2 (sI h2 m 30 (iI (a2 : Int))) := fg.rf.wr ⟨rfl, rfl⟩
  have e0 : bB m h 0 = mI h m 21 := by
    unfold bB
    rw [bL]
    omega
  refine l19 n 0 T2 _ (by omega) ((f1.tr (f2.mo (fun _ _ z => wk_cn z))).wr (by unfold cnS; omega)) ?_ (by omega) ⟨a2, ?_, ?_⟩
  · rw [fw.eq (by omega)]
    exact t2
  · rw [mI_sI ⟨by omega, by omega⟩, if_pos ⟨rfl, rfl⟩]
  · rw [e0]
    exact pn_fg n2 fw (fun k z => by omega)
end BOU
