/-! bounce, enough -/
section BOU
variable {m n : Nat} {h : jHp}
theorem pV_eq {g : jHp} (f : fg (cuS m) h g) {i j : Nat} : pV m g n i j = pV m h n i j := by
  unfold pV
  rw [em_eq f, sCq f]
theorem dV_eq {g : jHp} (f : fg (cuS m) h g) : dV m g n = dV m h n := by
  unfold dV
  rw [em_eq f]
theorem bL_eq {g : jHp} (f : fg (cuS m) h g) : ∀ k, bL m g k = bL m h k
  | 0 => rfl
  | k + 1 => by rw [bL_s, bL_s, bL_eq f k, cu_eq f (p := 11) (by decide) (by decide)]
theorem bB_eq {g : jHp} (f : fg (cuS m) h g) : bB m g n = bB m h n := by
  unfold bB
  rw [bL_eq f, cu_f f (k := 21) (by omega)]
theorem bU_eq {g : jHp} (f : fg (cuS m) h g) : ∀ t, bU m g n t = bU m h n t
  | 0 => rfl
  | t + 1 => by rw [bU, bU, bU_eq f t, bB_eq f]
theorem bN_eq {g : jHp} (f : fg (cuS m) h g) : ∀ t i, bN m g n t i = bN m h n t i
  | 0, i => by rw [bN, bN, cu_eq f (p := 12) (by decide) (by decide)]
  | t + 1, i => by
    rw [bN, bN, bU_eq f]
    unfold bW
    rw [bB_eq f, cu_eq f (p := 12) (by decide) (by decide), cu_eq f (p := 10) (by decide) (by decide), cu_eq f (p := 11) (by decide) (by decide), cu_f f (k := 21) (by omega)]
    congr 2
    exact sm_congr (fun j _ => by rw [cu_eq f (p := 16) (by decide) (by decide), bN_eq f t j])
theorem so_eq {g : jHp} (f : fg (cuS m) h g) (O : SO m h n) : SO m g n := fun i hi => by
  rw [cu_eq f (p := 12) (by decide) (by decide)]
  exact O i hi
theorem bs_up {g g' : jHp} {T T' t : Nat} (B : BS m n h g T t) (f : fg (wkS m T) g g') (ht : mI g' m 2 = (T' : Int)) (l : T ≤ T') : BS m n h g' T' t := by
  obtain ⟨b1, b2, ⟨x1, x2, x3⟩, ⟨y1, y2, y3⟩, b5⟩ := B
  refine ⟨b1.tr (wc_f f), ht, ⟨x1, by rw [f.eq (by unfold wkS; omega)]; exact x2, pn_up x3 f l⟩, ⟨y1, by rw [f.eq (by unfold wkS; omega)]; exact y2, pn_up y3 f l⟩, fun i hi => ?_⟩
  obtain ⟨u1, u2, u3⟩ := b5 i hi
  exact ⟨u1, by rw [f.eq (by unfold wkS; omega)]; exact u2, pn_up u3 f l⟩
/-- a call's answer: a refusal with its status, or what is told -/
def rfQ (m : Nat) (h : jHp) (s : Int) : jQ := fun r h' => r = some (.int (iI (-1))) ∧ h' = sI h m 0 (iI s)
theorem c_bounce {p t : Int} (M : Mo m h) (S : SW m h n) (O : SO m h n) (hp : rI p) (ht : rI t) : jRet 184 0 0 [.ref m, .int (iI p), .int (iI t)] h (fun r h' => (0 ≤ p ∧ p < n → (0 ≤ t ∧ t ≤ 6 → tdQ m h (bN m h n t.toNat p.toNat) (bU m h n t.toNat) r h') ∧ (¬ (0 ≤ t ∧ t ≤ 6) → rfQ m h 2 r h')) ∧ (¬ (0 ≤ p ∧ p < n) → rfQ m h 1 r h')) := by
  have hn8 := S.2.1
  refine jRet_of (by decide) (by decide) (Nat.le_of_ble_eq_true rfl) (j_M_bounce_0 ⟨M.1, jRet_mono (c_isPatch M hp S.1) ?_⟩)
  intro r1 h1 q1
  obtain ⟨e1, e2⟩ := q1
  rw [e2]
  refine ⟨_, e1, ?_⟩
  rw [iI_0, iI_eq (by split <;> exact ⟨by omega, by omega⟩) ⟨by omega, by omega⟩]
  by_cases c : 0 ≤ p ∧ p < n
  · rw [if_pos c]
    refine ⟨fun _ => j_M_bounce_14 ?_, fun z => absurd z (by decide)⟩
    have bad : ¬ (0 ≤ t ∧ t ≤ 6) → J 184 24 0 0 [.ref m, uu, uu, uu] [] h (fun r h' => (0 ≤ p ∧ p < n → (0 ≤ t ∧ t ≤ 6 → tdQ m h (bN m h n t.toNat p.toNat) (bU m h n t.toNat) r h') ∧ (¬ (0 ≤ t ∧ t ≤ 6) → rfQ m h 2 r h')) ∧ (¬ (0 ≤ p ∧ p < n) → rfQ m h 1 r h')) := by
      intro c2
      refine j_M_bounce_24 ⟨M.1, jRet_mono (c_refuse M) ?_⟩
      intro r2 h2 q2
      exact ⟨_, q2.1, fun _ => ⟨fun z => absurd z c2, fun _ => ⟨rfl, q2.2⟩⟩, fun z => absurd c z⟩
    rw [iI_0, iI_lt ht ⟨by omega, by omega⟩, iI_le ht ⟨by omega, by omega⟩]
    refine ⟨fun c2 => bad (by omega), fun c2 => ⟨fun c3 => j_M_bounce_30 ⟨M.1, jRet_mono (c_firstBounce M S O) ?_⟩, fun c3 => bad (by omega)⟩⟩
    intro r2 h2 q2
    obtain ⟨e3, T, e4, B⟩ := q2
    refine ⟨e3, ?_⟩
    obtain ⟨pn, rfl⟩ : ∃ pn : Nat, p = (pn : Int) := ⟨p.toNat, by omega⟩
    obtain ⟨tn, rfl⟩ : ∃ tn : Nat, t = (tn : Int) := ⟨t.toNat, by omega⟩
    have l36 : ∀ (d k T : Nat) (g : jHp), k + d = tn → T ≤ 6000 + 22000 * k → BS m n h g T k → J 184 36 0 0 [.ref m, .int (iI pn), .int (iI tn), .int (iI k)] [] g (tdQ m h (bN m h n tn pn) (bU m h n tn)) := by
      intro d
      induction d with
      | zero =>
        intro k T g hk hT B
        obtain rfl : k = tn := by omega
        have B' := B
        obtain ⟨b1, b2, b3, ⟨y1, y2, y3⟩, b5⟩ := B
        have Mg := M.sk b1.1
        obtain ⟨u1, u2, u3⟩ := b5 pn (by omega)
        have hu := pn_lt u3
        have hy := pn_lt y3
        refine j_M_bounce_36 ⟨fun _ => j_M_bounce_51 ?_, fun c => absurd ((iI_le ⟨by omega, by omega⟩ ⟨by omega, by omega⟩).mpr (by omega)) c⟩
        rw [Mg.a28.1, gI_q (by omega) (by omega), Int.toNat_natCast, u2, gI_mI g m 31, y2]
        have k1 := bU_bd S k
        have k2 := bN_bd S O k pn (by omega)
        have p1 : (10 : Nat) ^ (19 * k) ≤ 10 ^ 210 := Nat.pow_le_pow_right (by decide) (by omega)
        have p2 : (10 : Nat) ^ (25 * k + 5) ≤ 10 ^ 210 := Nat.pow_le_pow_right (by decide) (by omega)
        refine ⟨Mg.1, ixL_of Mg.a28.2 (by omega) (by omega) (by decide), Mg.1, Mg.1, jRet_mono (o_tells Mg (cn_cuF b1) b2 (by omega) u3 y3 k1.1 (Nat.le_trans k2 p2) (Nat.le_trans k1.2 p1)) ?_⟩
        intro r6 h6 q6
        exact ⟨_, q6.1, rfl, q6.2⟩
      | succ d ih =>
        intro k T g hk hT B
        have Mg := M.sk B.1.1
        refine j_M_bounce_36 ?_
        rw [iI_le ⟨by omega, by omega⟩ ⟨by omega, by omega⟩]
        refine ⟨fun c => by omega, fun _ => ⟨Mg.1, jRet_mono (c_nextBounce M S O B (by omega) (by omega)) ?_⟩⟩
        intro r3 h3 q3
        obtain ⟨e5, T', e6, B'⟩ := q3
        refine ⟨e5, ?_⟩
        rw [iI_add]
        refine ih (k + 1) T' h3 (by omega) ?_ B'
        rw [Nat.mul_add, Nat.mul_one, ← Nat.add_assoc]
        exact Nat.le_trans e6 (Nat.add_le_add_right hT 22000)
    refine J_mono ?_ (l36 tn 0 T h2 (by omega) (by omega) B)
    intro r h' q
    exact ⟨fun _ => ⟨fun _ => q, fun z => absurd (by omega) z⟩, fun z => absurd c z⟩
  · rw [if_neg c]
    refine ⟨fun z => absurd rfl z, fun _ => ⟨M.1, jRet_mono (c_refuse M) ?_⟩⟩
    intro r2 h2 q2
    exact ⟨_, q2.1, fun z => absurd z c, fun _ => ⟨rfl, q2.2⟩⟩
def SN (m : Nat) (h : jHp) (n : Nat) : Prop := ∀ i, i < n → 0 ≤ mI h (m + 13) i ∧ mI h (m + 13) i ≤ 100000
def eZ (m : Nat) (h : jHp) (n p : Nat) : Int := if 0 < lV m h n p - mI h (m + 13) p * dV m h n then 7 else if lV m h n p - mI h (m + 13) p * dV m h n = 0 then 8 else 9
def eG (m : Nat) (h : jHp) (n p : Nat) : Nat → Nat → Int
  | 0, _ => eZ m h n p
  | d + 1, t => if mI h (m + 13) p * bU m h n t ≤ bN m h n t p then (t : Int) else eG m h n p d (t + 1)
theorem lV_eq {g : jHp} {p : Nat} (f : fg (cuS m) h g) : lV m g n p = lV m h n p := by
  unfold lV
  exact sm_congr (fun j _ => by rw [pV_eq f, cu_eq f (p := 12) (by decide) (by decide)])
theorem eG_eq {g : jHp} {p : Nat} (f : fg (cuS m) h g) : ∀ d t, eG m g n p d t = eG m h n p d t
  | 0, t => by
    rw [eG, eG]
    unfold eZ
    rw [lV_eq f, dV_eq f, cu_eq f (p := 13) (by decide) (by decide)]
  | d + 1, t => by rw [eG, eG, bU_eq f, bN_eq f, cu_eq f (p := 13) (by decide) (by decide), eG_eq f d (t + 1)]
def enQ (m : Nat) (h : jHp) (n p : Nat) (v : Int) : jQ := fun r h' => r = some (.int (iI v)) ∧ fg (cnS m) h h' ∧ mI h' m 0 = 0
theorem sg_lt {x : Int} : x.sign < 0 ↔ x < 0 := by
  rcases Int.lt_trichotomy x 0 with z | z | z
  · rw [Int.sign_eq_neg_one_of_neg z]
    omega
  · rw [z]
    decide
  · rw [Int.sign_eq_one_of_pos z]
    omega
theorem sg_le {x : Int} : x.sign ≤ 0 ↔ x ≤ 0 := by
  rcases Int.lt_trichotomy x 0 with z | z | z
  · rw [Int.sign_eq_neg_one_of_neg z]
    omega
  · rw [z]
    decide
  · rw [Int.sign_eq_one_of_pos z]
    omega
theorem en_loop {p : Nat} (M : Mo m h) (S : SW m h n) (O : SO m h n) (W : SN m h n) (hp : p < n) (h0 : mI h m 0 = 0) : ∀ (d t T : Nat) (g : jHp), t + d = 7 → T ≤ 6000 + 23000 * t → BS m n h g T t → mI g m 0 = 0 → J 188 25 0 0 [.ref m, .int (iI p), .int (iI t)] [] g (enQ m h n p (eG m h n p d t)) := by
  have hn8 := S.2.1
  have wb := W p hp
  intro d
  induction d with
  | zero =>
    intro t T g ht hT B g0
    obtain rfl : t = 7 := by omega
    have f := B.1
    have Mg := M.sk f.1
    refine j_M_enough_25 ⟨fun _ => j_M_enough_79 ⟨Mg.1, jRet_mono (c_allPulls Mg (sw_eq (cn_cuF f) S)) ?_⟩, fun c => absurd ((iI_lt ⟨by omega, by omega⟩ ⟨by omega, by omega⟩).mpr (by omega)) c⟩
    intro r2 h2 q2
    obtain ⟨e3, e4, e5, e6, _⟩ := q2
    have M2 := Mg.sk e4.1
    refine ⟨e3, M2.1, jRet_mono (c_clean M2) ?_⟩
    intro r3 h3 q3
    obtain ⟨e7, e8⟩ := q3
    have f3' : fg (fun p k => p = m ∧ k = 2) h2 h3 := by
      rw [e8]
      exact fg.rf.wr ⟨rfl, rfl⟩
    have f3n : fg (cnS m) h h3 := (f.tr (e4.mo (fun _ _ z => pu_cn z))).tr (f3'.mo (fun _ _ z => by unfold cnS; omega))
    have f3 := cn_cuF f3n
    have M3 := M.sk f3.1
    have z3 : mI h3 m 0 = 0 := by
      rw [f3'.eq (by omega), e4.eq (by unfold puS; omega)]
      exact g0
    have t3 : mI h3 m 2 = ((0 : Nat) : Int) := by
      rw [e8, mI_sI ⟨by omega, by omega⟩, if_pos ⟨rfl, rfl⟩]
      rfl
    refine ⟨e7, M3.1, jRet_mono (c_lightOf M3 S O f3 (fun i j hi hj => ?_) hp t3 (by omega)) ?_⟩
    · rw [← pV_eq (cn_cuF f)]
      exact kn_fg (e5 i j hi hj) f3' (fun k _ _ z => by omega)
    intro r4 h4 q4
    obtain ⟨a4, T4, d1, d2, d3, d4, d5, d6⟩ := q4
    have M4 := M3.sk d2.1
    have fh4 : fg (cnS m) h h4 := f3n.tr (wc_f d2)
    refine ⟨_, d1, M4.1, ?_⟩
    rw [M4.a16.1, gI_q (by omega) (by omega), Int.toNat_natCast, cu_eq (cn_cuF fh4) (p := 13) (by decide) (by decide), iI_64 ⟨by omega, by omega⟩]
    refine ⟨ixL_of M4.a16.2 (by omega) (by omega) (by decide), M4.1, jRet_mono (o_whole M4 d3 (by omega) (by omega)) ?_⟩
    intro r5 h5 q5
    obtain ⟨a5, T5, i1, i2, i3, i4, i5, i6⟩ := q5
    have M5 := M4.sk i2.1
    have K5 : KN m h5 64 (dV m h n) := by
      rw [← dV_eq (cn_cuF f)]
      exact kn_fg (kn_fg (kn_fg (e6 (by omega)) f3' (fun k _ _ z => by omega)) d2 (fun k _ _ z => by unfold wkS at z; omega)) i2 (fun k _ _ z => by unfold wkS at z; omega)
    refine ⟨_, i1, M5.1, ?_⟩
    have hh := o_held (p := 64) M5 i3 (by omega) K5 (by omega)
    refine jRet_mono hh ?_
    intro r6 h6 q6
    obtain ⟨a6, T6, j1, j2, j3, j4, j5, j6⟩ := q6
    have M6 := M5.sk j2.1
    have dv := dV_bd S
    have b1 : (mI h (m + 13) p * dV m h n).natAbs ≤ 10 ^ 45 := Nat.le_trans (nA_mul (show (mI h (m + 13) p).natAbs ≤ 10 ^ 5 by omega) dv.2) (by decide)
    refine ⟨_, j1, M6.1, jRet_mono (o_times M6 j3 (by omega) (pn_up i6 j2 j4) j6 (sz_10 (Nat.le_trans b1 (by decide)))) ?_⟩
    intro r7 h7 q7
    obtain ⟨a7, T7, k1, k2, k3, k4, k5, k6⟩ := q7
    have M7 := M6.sk k2.1
    have b2 : (lV m h n p - mI h (m + 13) p * dV m h n).natAbs ≤ 2 * 10 ^ 56 := nA_sub (lV_p S O hp (Nat.le_refl n)) (Nat.le_trans b1 (by decide))
    refine ⟨_, k1, M7.1, jRet_mono (o_less M7 k3 (by omega) (pn_up (pn_up (pn_up d6 i2 i4) j2 j4) k2 k4) k6 (sz_10 (Nat.le_trans b2 (by decide)))) ?_⟩
    intro r8 h8 q8
    obtain ⟨a8, T8, l1, l2, l3, l4, l5, l6⟩ := q8
    have M8 := M7.sk l2.1
    refine ⟨_, l1, M8.1, jRet_mono (o_sign M8 l6) ?_⟩
    intro r9 h9 q9
    obtain ⟨o1, o2⟩ := q9
    rw [o2]
    refine ⟨_, o1, ?_⟩
    have F : fg (cnS m) h h8 := (((fh4.tr (wc_f i2)).tr (wc_f j2)).tr (wc_f k2)).tr (wc_f l2)
    have z8 : mI h8 m 0 = 0 := by
      rw [l2.eq (by unfold wkS; omega), k2.eq (by unfold wkS; omega), j2.eq (by unfold wkS; omega), i2.eq (by unfold wkS; omega), d2.eq (by unfold wkS; omega)]
      exact z3
    have fin : ∀ v : Int, v = eZ m h n p → J 188 142 0 0 [uu, uu, uu] [.int (iI v)] h8 (enQ m h n p (eG m h n p 0 7)) := by
      intro v hv
      refine j_M_enough_142 ⟨?_, F, z8⟩
      rw [eG, hv]
    rw [iI_0, iI_le (rI_sg _) ⟨by omega, by omega⟩, sg_le]
    refine ⟨fun c => j_M_enough_131 ?_, fun c => fin 7 ?_⟩
    · rw [iI_0, iI_eq (rI_sg _) ⟨by omega, by omega⟩, Int.sign_eq_zero_iff_zero]
      refine ⟨fun c2 => j_M_enough_140 (fin 9 ?_), fun c2 => fin 8 ?_⟩
      · unfold eZ
        rw [if_neg (by omega), if_neg c2]
      · unfold eZ
        rw [if_neg (by omega), if_pos c2]
    · unfold eZ
      rw [if_pos (by omega)]
  | succ d ih =>
    intro t T g ht hT B g0
    have B' := B
    obtain ⟨f, b2, b3, ⟨y1, y2, y3⟩, b5⟩ := B
    have Mg := M.sk f.1
    obtain ⟨u1, u2, u3⟩ := b5 p hp
    have hu := pn_lt u3
    have hy := pn_lt y3
    refine j_M_enough_25 ?_
    rw [iI_lt ⟨by omega, by omega⟩ ⟨by omega, by omega⟩, Mg.a28.1, Mg.a16.1, gI_q (by omega) (by omega), gI_q (by omega) (by omega), Int.toNat_natCast, cu_eq (cn_cuF f) (p := 13) (by decide) (by decide), iI_64 ⟨by omega, by omega⟩, u2]
    refine ⟨fun c => by omega, fun _ => ⟨Mg.1, ixL_of Mg.a28.2 (by omega) (by omega) (by decide), Mg.1, ixL_of Mg.a16.2 (by omega) (by omega) (by decide), Mg.1, jRet_mono (o_whole Mg b2 (by omega) (by omega)) ?_⟩⟩
    intro r1 h1 q1
    obtain ⟨a1, T1, e1, f1, t1, l1, l2, n1⟩ := q1
    have M1 := Mg.sk f1.1
    refine ⟨_, e1, M1.1, M1.1, ?_⟩
    have g31 : gI h1 m 31 = iI (y1 : Int) := by rw [gI_mI, f1.eq (by unfold wkS; omega), y2]
    rw [g31]
    have k1 := bU_bd S t
    have k2 := bN_bd S O t p hp
    have p1 : (10 : Nat) ^ 5 * 10 ^ (19 * t) ≤ 10 ^ 200 := by
      rw [← Nat.pow_add]
      exact Nat.pow_le_pow_right (by decide) (by omega)
    have p2 : (10 : Nat) ^ (25 * t + 5) ≤ 10 ^ 200 := Nat.pow_le_pow_right (by decide) (by omega)
    have b1' : (mI h (m + 13) p * bU m h n t).natAbs ≤ 10 ^ 200 := Nat.le_trans (nA_mul (show (mI h (m + 13) p).natAbs ≤ 10 ^ 5 by omega) k1.2) p1
    refine jRet_mono (o_times M1 t1 (by omega) n1 (pn_up y3 f1 l1) (sz_10 (Nat.le_trans b1' (by decide)))) ?_
    intro r2 h2 q2
    obtain ⟨a2, T2, e2, f2, t2, l3, l4, n2⟩ := q2
    have M2 := M1.sk f2.1
    refine ⟨_, e2, M2.1, jRet_mono (o_less M2 t2 (by omega) (pn_up (pn_up u3 f1 l1) f2 l3) n2 (sz_10 (Nat.le_trans (nA_sub (Nat.le_trans k2 p2) b1') (by decide)))) ?_⟩
    intro r3 h3 q3
    obtain ⟨a3, T3, e3, f3, t3, l5, l6, n3⟩ := q3
    have M3 := M2.sk f3.1
    refine ⟨_, e3, M3.1, jRet_mono (o_sign M3 n3) ?_⟩
    intro r4 h4 q4
    obtain ⟨o1, o2⟩ := q4
    rw [o2]
    refine ⟨_, o1, ?_⟩
    have F : fg (wkS m T) g h3 := (f1.tr (f2.mo (fun _ _ z => wkS_mo l1 z))).tr (f3.mo (fun _ _ z => wkS_mo (Nat.le_trans l1 l3) z))
    have z3 : mI h3 m 0 = 0 := by
      rw [F.eq (by unfold wkS; omega)]
      exact g0
    have B3' := bs_up B' F t3 (by omega)
    rw [iI_0, iI_lt (rI_sg _) ⟨by omega, by omega⟩, sg_lt]
    refine ⟨fun c => j_M_enough_69 ⟨M3.1, jRet_mono (c_nextBounce M S O B3' (by omega) (by omega)) ?_⟩, fun c => ⟨?_, B3'.1, z3⟩⟩
    · intro r5 h5 q5
      obtain ⟨e5, T', e6, B5⟩ := q5
      refine ⟨e5, ?_⟩
      rw [iI_add, eG, if_neg (by omega)]
      refine ih (t + 1) T' h5 (by omega) ?_ B5 ?_
      · rw [Nat.mul_add, Nat.mul_one, ← Nat.add_assoc]
        exact Nat.le_trans (show T' ≤ T + 23000 by omega) (Nat.add_le_add_right hT 23000)
      · rw [B5.1.eq (by unfold cnS; omega)]
        exact h0
    · rw [eG, if_pos (by omega)]
theorem c_enough {p : Int} (M : Mo m h) (S : SW m h n) (O : SO m h n) (W : SN m h n) (hp : rI p) : jRet 188 0 0 [.ref m, .int (iI p)] h (fun r h' => (0 ≤ p ∧ p < n → r = some (.int (iI (eG m h n p.toNat 7 0))) ∧ fg (fun p k => cnS m p k ∨ (p = m ∧ k = 0)) h h' ∧ mI h' m 0 = 0) ∧ (¬ (0 ≤ p ∧ p < n) → rfQ m h 1 r h')) := by
  refine jRet_of (by decide) (by decide) (Nat.le_of_ble_eq_true rfl) (j_M_enough_0 ⟨M.1, jRet_mono (c_isPatch M hp S.1) ?_⟩)
  intro r1 h1 q1
  obtain ⟨e1, e2⟩ := q1
  rw [e2]
  refine ⟨_, e1, ?_⟩
  rw [iI_0, iI_eq (by split <;> exact ⟨by omega, by omega⟩) ⟨by omega, by omega⟩]
  by_cases c : 0 ≤ p ∧ p < n
  · rw [if_pos c]
    have f0 : fg (fun p k => p = m ∧ k = 0) h (sI h m 0 (iI 0)) := fg.rf.wr ⟨rfl, rfl⟩
    have f0c : fg (cuS m) h (sI h m 0 (iI 0)) := f0.mo (fun _ _ z => by unfold cuS; omega)
    have z0 : mI (sI h m 0 (iI 0)) m 0 = 0 := by
      rw [mI_sI ⟨by omega, by omega⟩, if_pos ⟨rfl, rfl⟩]
    have W0 : SN m (sI h m 0 (iI 0)) n := fun i hi => by
      rw [cu_eq f0c (p := 13) (by decide) (by decide)]
      exact W i hi
    refine ⟨fun _ => j_M_enough_14 ⟨M.1, M.sI.1, jRet_mono (c_firstBounce M.sI (sw_eq f0c S) (so_eq f0c O)) ?_⟩, fun z => absurd z (by decide)⟩
    intro r2 h2 q2
    obtain ⟨e3, T, e4, B⟩ := q2
    refine ⟨e3, ?_⟩
    obtain ⟨pn, rfl⟩ : ∃ pn : Nat, p = (pn : Int) := ⟨p.toNat, by omega⟩
    refine J_mono ?_ (en_loop (p := pn) M.sI (sw_eq f0c S) (so_eq f0c O) W0 (by omega) z0 7 0 T h2 (by omega) e4 B (by rw [B.1.eq (by unfold cnS; omega)]; exact z0))
    intro r h' q
    obtain ⟨x1, x2, x3⟩ := q
    refine ⟨fun _ => ⟨?_, (f0.mo (fun _ _ z => Or.inr z)).tr (x2.mo (fun _ _ z => Or.inl z)), x3⟩, fun z => absurd c z⟩
    rw [x1, eG_eq f0c]
    rfl
  · rw [if_neg c]
    refine ⟨fun z => absurd rfl z, fun _ => ⟨M.1, jRet_mono (c_refuse M) ?_⟩⟩
    intro r2 h2 q2
    exact ⟨_, q2.1, fun z => absurd z c, fun _ => ⟨rfl, q2.2⟩⟩
end BOU
