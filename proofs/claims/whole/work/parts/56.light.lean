/-! allPulls, lightOf, light, pull -/
def pV (m : Nat) (h : jHp) (n i j : Nat) : Int := cV (EM m h) (sC m h j) j n i 8
def dV (m : Nat) (h : jHp) (n : Nat) : Int := pp (EM m h) n
/-- all that reckoning may change, but what is told -/
def cnS (m p k : Nat) : Prop := (p = m ∧ (k = 2 ∨ k = 6 ∨ k = 7 ∨ k = 30 ∨ k = 31 ∨ k = 37 ∨ k = 38)) ∨ (m + 1 ≤ p ∧ p ≤ m + 4) ∨ (m + 17 ≤ p ∧ p ≤ m + 19) ∨ (m + 21 ≤ p ∧ p ≤ m + 27)
def cuS (m p k : Nat) : Prop := cnS m p k ∨ p = m + 20 ∨ (p = m ∧ (k = 27 ∨ k = 0))
theorem pu_cn {m p k : Nat} (w : puS m p k) : cnS m p k := by
  unfold puS at w
  unfold cnS
  omega
theorem wk_cn {m t p k : Nat} (w : wkS m t p k) : cnS m p k := pu_cn (wk_pu w)
theorem cn_cu {m p k : Nat} (w : cnS m p k) : cuS m p k := Or.inl w
theorem ts_cu {m t p k : Nat} (w : tsS m t p k) : cuS m p k := by
  unfold tsS wkS tlS at w
  unfold cuS cnS
  omega
theorem cu_eq {m p k : Nat} {h g : jHp} (f : fg (cuS m) h g) (hp : 5 ≤ p) (hp2 : p < 17) : mI g (m + p) k = mI h (m + p) k := f.eq (by unfold cuS cnS; omega)
theorem cu_f {m k : Nat} {h g : jHp} (f : fg (cuS m) h g) (hk : k = 19 ∨ k = 20 ∨ k = 21) : mI g m k = mI h m k := f.eq (by unfold cuS cnS; omega)
theorem em_eq {m : Nat} {h g : jHp} (f : fg (cuS m) h g) : EM m g = EM m h := by
  funext t j
  unfold EM
  rw [cu_eq f (p := 11) (by decide) (by decide), cu_eq f (p := 10) (by decide) (by decide), cu_eq f (p := 16) (by decide) (by decide), cu_f f (k := 21) (by omega)]
theorem sCq {m c : Nat} {h g : jHp} (f : fg (cuS m) h g) : sC m g c = sC m h c := by
  unfold sC
  rw [cu_eq f (p := 11) (by decide) (by decide), cu_f f (k := 21) (by omega)]
theorem sw_eq {m n : Nat} {h g : jHp} (f : fg (cuS m) h g) (S : SW m h n) : SW m g n := by
  obtain ⟨s1, s2, s3, s4, s5, s6, s7⟩ := S
  refine ⟨by rw [cu_f f (k := 20) (by omega)]; exact s1, s2, by rw [cu_f f (k := 21) (by omega)]; exact s3, by rw [cu_f f (k := 21) (by omega)]; exact s4, fun i hi => ?_, fun k hk => ?_, fun i hi => ?_⟩
  · rw [cu_eq f (p := 11) (by decide) (by decide), cu_eq f (p := 10) (by decide) (by decide)]
    exact s5 i hi
  · rw [cu_eq f (p := 16) (by decide) (by decide)]
    exact s6 k hk
  · rw [cu_f f (k := 21) (by omega), sm_congr (fun j _ => cu_eq f (p := 16) (by decide) (by decide))]
    exact s7 i hi
theorem pu_cu {m : Nat} {h g : jHp} (f : fg (puS m) h g) : fg (cuS m) h g := f.mo (fun _ _ z => cn_cu (pu_cn z))
section LIGHT
variable {m n : Nat} {h : jHp}
def apQ (m n : Nat) (h : jHp) : jQ := fun r h' => r = none ∧ fg (puS m) h h' ∧ (∀ i j, i < n → j < n → KN m h' (8 * i + j) (pV m h n i j)) ∧ (0 < n → KN m h' 64 (dV m h n)) ∧ (∀ q v, (q = 64 → n = 0) → 64 ≤ q → q < 75 → KN m h q v → KN m h' q v)
theorem c_allPulls (M : Mo m h) (S : SW m h n) : jRet 158 0 0 [.ref m] h (apQ m n h) := by
  have hn8 := S.2.1
  have l2 : ∀ (d k : Nat) (g : jHp), k + d = n → fg (puS m) h g → (∀ i j, i < n → j < k → KN m g (8 * i + j) (pV m h n i j)) → (0 < k → KN m g 64 (dV m h n)) → (∀ q v, (q = 64 → k = 0) → 64 ≤ q → q < 75 → KN m h q v → KN m g q v) → J 158 2 0 0 [.ref m, .int (iI k)] [] g (apQ m n h) := by
    intro d
    induction d with
    | zero =>
      intro k g hk f K1 K2 K3
      obtain rfl : k = n := by omega
      have Mg := M.sk f.1
      refine j_M_allPulls_2 ?_
      rw [gI_mI g m 20, pu_f f (by omega), S.1, iI_le ⟨by omega, by omega⟩ ⟨by omega, by omega⟩]
      exact ⟨Mg.1, fun _ => j_M_allPulls_21 ⟨rfl, f, K1, K2, K3⟩, fun c => absurd (Int.le_refl _) c⟩
    | succ d ih =>
      intro k g hk f K1 K2 K3
      have Mg := M.sk f.1
      have Sg := sw_eq (pu_cu f) S
      refine j_M_allPulls_2 ?_
      rw [gI_mI g m 20, pu_f f (by omega), S.1, iI_le ⟨by omega, by omega⟩ ⟨by omega, by omega⟩]
      refine ⟨Mg.1, fun c => by omega, fun _ => ⟨Mg.1, jRet_mono (c_pulls (c := k) Mg Sg (by omega)) ?_⟩⟩
      intro r1 h1 q1
      obtain ⟨e1, e2, e3, e4, e5⟩ := q1
      rw [em_eq (pu_cu f)] at e3 e4
      rw [sCq (pu_cu f)] at e3
      refine ⟨e1, ?_⟩
      rw [iI_add]
      refine ih (k + 1) h1 (by omega) (f.tr e2) (fun i j hi hj => ?_) (fun _ => e4) (fun q v h1 h2 h3 h4 => ?_)
      · by_cases c : j = k
        · rw [c]
          exact e3 i hi
        · exact e5 _ _ (by omega) (by omega) (fun i' hi' => by omega) (K1 i j hi (by omega))
      · have : q ≠ 64 := fun z => by
          have := h1 z
          omega
        exact e5 q v h3 this (fun i' hi' => by omega) (K3 q v (fun z => absurd z this) h2 h3 h4)
  refine jRet_of (by decide) (by decide) (Nat.le_of_ble_eq_true rfl) (j_M_allPulls_0 ?_)
  exact l2 n 0 h (by omega) fg.rf (fun i j _ hj => by omega) (fun z => by omega) (fun q v _ _ _ K => K)
def lV (m : Nat) (h : jHp) (n p : Nat) : Int := sm (fun j => pV m h n p j * mI h (m + 12) j) n
def SO (m : Nat) (h : jHp) (n : Nat) : Prop := ∀ i, i < n → 0 ≤ mI h (m + 12) i ∧ mI h (m + 12) i ≤ 10000
theorem pV_bd (S : SW m h n) {i j : Nat} (hi : i < n) (hj : j < n) : (pV m h n i j).natAbs ≤ 10 ^ 50 := cV_bd (dm_of S) S.2.1 (Nat.le_refl n) hi (Or.inr rfl) (sC_bd S hj)
theorem dV_bd (S : SW m h n) : 0 < dV m h n ∧ (dV m h n).natAbs ≤ 10 ^ 40 := by
  have a3 := (iv_all (dm_of S) S.2.1 n (Nat.le_refl n)).1 n (Nat.le_refl n)
  have a1 := pp_bd (dm_of S) S.2.1 n (Nat.le_refl n)
  have hn := S.2.1
  have a2 : (10 : Int) ^ (5 * n) ≤ 10 ^ 40 := p10_mono (by omega)
  have a4 : ((10 : Int) ^ 40) = ((10 ^ 40 : Nat) : Int) := by decide
  unfold dV
  refine ⟨a3, ?_⟩
  generalize 10 ^ 40 = z at *
  omega
theorem nA_sm {f : Nat → Int} {b : Nat} : ∀ {k : Nat}, (∀ j, j < k → (f j).natAbs ≤ b) → (sm f k).natAbs ≤ k * b
  | 0, _ => by
    rw [sm]
    simp
  | k + 1, h => by
    rw [sm, Nat.succ_mul]
    have a1 := nA_sm (f := f) (b := b) (k := k) (fun j hj => h j (by omega))
    have a2 := h k (by omega)
    generalize k * b = z at *
    omega
theorem lV_t {p j : Nat} (S : SW m h n) (O : SO m h n) (hp : p < n) (hj : j < n) : (pV m h n p j * mI h (m + 12) j).natAbs ≤ 10 ^ 55 := by
  have a1 := pV_bd S hp hj
  have a2 := O j hj
  exact Nat.le_trans (nA_mul a1 (show (mI h (m + 12) j).natAbs ≤ 10 ^ 4 by omega)) (by decide)
theorem lV_p {p k : Nat} (S : SW m h n) (O : SO m h n) (hp : p < n) (hk : k ≤ n) : (sm (fun j => pV m h n p j * mI h (m + 12) j) k).natAbs ≤ 10 ^ 56 := by
  have hn := S.2.1
  have a1 := nA_sm (f := fun j => pV m h n p j * mI h (m + 12) j) (b := 10 ^ 55) (k := k) (fun j hj => lV_t S O hp (by omega))
  have a2 : k * 10 ^ 55 ≤ 8 * 10 ^ 55 := Nat.mul_le_mul_right _ (by omega)
  exact Nat.le_trans a1 (Nat.le_trans a2 (by decide))
/-- with more room -/
def OPn (m : Nat) (h : jHp) (T G : Nat) (z : Int) : jQ := fun r h' => ∃ a T' : Nat, r = some (.int (iI (a : Int))) ∧ fg (wkS m T) h h' ∧ mI h' m 2 = (T' : Int) ∧ T ≤ T' ∧ T' ≤ T + G ∧ PN m h' T' a z
theorem c_lightOf {p T : Nat} {g : jHp} (M : Mo m g) (S : SW m h n) (O : SO m h n) (f : fg (cuS m) h g) (K : ∀ i j, i < n → j < n → KN m g (8 * i + j) (pV m h n i j)) (hp : p < n) (ht : mI g m 2 = (T : Int)) (hT : T ≤ 300000) :
    jRet 177 0 0 [.ref m, .int (iI p)] g (OPn m g T 3000 (lV m h n p)) := by
  have hn8 := S.2.1
  have l8 : ∀ (d k a T1 : Nat) (g1 : jHp), k + d = n → fg (wkS m T) g g1 → mI g1 m 2 = (T1 : Int) → T ≤ T1 → T1 ≤ T + 80 + 320 * k → PN m g1 T1 a (sm (fun j => pV m h n p j * mI h (m + 12) j) k) → J 177 8 0 0 [.ref m, .int (iI p), .int (iI a), .int (iI k)] [] g1 (OPn m g T 3000 (lV m h n p)) := by
    intro d
    induction d with
    | zero =>
      intro k a T1 g1 hk f1 t1 b1 b2 n1
      obtain rfl : k = n := by omega
      have M1 := M.sk f1.1
      refine j_M_lightOf_8 ?_
      rw [gI_mI g1 m 20, f1.eq (by unfold wkS; omega), cu_f f (by omega), S.1, iI_le ⟨by omega, by omega⟩ ⟨by omega, by omega⟩]
      exact ⟨M1.1, fun _ => j_M_lightOf_53 ⟨a, T1, rfl, f1, t1, b1, (by omega), n1⟩, fun c => absurd (Int.le_refl _) c⟩
    | succ d ih =>
      intro k a T1 g1 hk f1 t1 b1 b2 n1
      have hkn : k < n := by omega
      have M1 := M.sk f1.1
      have f1' : fg (cnS m) g g1 := f1.mo (fun _ _ z => wk_cn z)
      have K1 : KN m g1 (8 * p + k) (pV m h n p k) := kn_fg (K p k hp hkn) f1 (fun k _ _ z => by unfold wkS at z; omega)
      refine j_M_lightOf_8 ?_
      rw [gI_mI g1 m 20, f1.eq (by unfold wkS; omega), cu_f f (by omega), S.1, iI_le ⟨by omega, by omega⟩ ⟨by omega, by omega⟩]
      simp only [iI_mul, iI_add]
      rw [show 8 * (p : Int) + (k : Int) = ((8 * p + k : Nat) : Int) by omega]
      refine ⟨M1.1, fun c => by omega, fun _ => ⟨M1.1, jRet_mono (o_held M1 t1 (by omega) K1 (by omega)) ?_⟩⟩
      intro r2 h2 q2
      obtain ⟨a2, T2, e2, f2, t2, l1, l2, n2⟩ := q2
      have M2 := M1.sk f2.1
      refine ⟨_, e2, M2.1, ?_⟩
      have g12 : mI h2 (m + 12) k = mI h (m + 12) k := by
        rw [f2.eq (by unfold wkS; omega), f1.eq (by unfold wkS; omega), cu_eq f (p := 12) (by decide) (by decide)]
      have ob := O k hkn
      rw [M2.a15.1, gI_q (by omega) (by omega), Int.toNat_natCast, g12, iI_64 ⟨by omega, by omega⟩]
      refine ⟨ixL_of M2.a15.2 (by omega) (by omega) (by decide), M2.1, jRet_mono (o_whole M2 t2 (by omega) (by omega)) ?_⟩
      intro r3 h3 q3
      obtain ⟨a3, T3, e3, f3, t3, l3, l4, n3⟩ := q3
      have M3 := M2.sk f3.1
      refine ⟨_, e3, M3.1, jRet_mono (o_times M3 t3 (by omega) (pn_up n2 f3 l3) n3 (sz_10 (Nat.le_trans (lV_t S O hp hkn) (by decide)))) ?_⟩
      intro r4 h4 q4
      obtain ⟨a4, T4, e4, f4, t4, l5, l6, n4⟩ := q4
      have M4 := M3.sk f4.1
      have bd := lV_p S O hp (show k + 1 ≤ n by omega)
      rw [sm] at bd
      refine ⟨_, e4, M4.1, jRet_mono (o_sum M4 t4 (by omega) (pn_up (pn_up (pn_up n1 f2 l1) f3 l3) f4 l5) n4 (sz_10 (Nat.le_trans bd (by decide)))) ?_⟩
      intro r5 h5 q5
      obtain ⟨a5, T5, e5, f5, t5, l7, l8, n5⟩ := q5
      refine ⟨_, e5, ?_⟩
      have fall : fg (wkS m T) g h5 := (((f1.tr (f2.mo (fun _ _ z => wkS_mo (by omega) z))).tr (f3.mo (fun _ _ z => wkS_mo (by omega) z))).tr (f4.mo (fun _ _ z => wkS_mo (by omega) z))).tr (f5.mo (fun _ _ z => wkS_mo (by omega) z))
      exact ih (k + 1) a5 T5 h5 (by omega) fall t5 (by omega) (by omega) (by rw [sm]; exact n5)
  refine jRet_of (by decide) (by decide) (Nat.le_of_ble_eq_true rfl) (j_M_lightOf_0 ⟨M.1, jRet_mono (o_whole (x := ((0 : Nat) : Int)) M ht (by omega) (by omega)) ?_⟩)
  intro r1 h1 q1
  obtain ⟨a1, T1, e1, f1, t1, l1, l2, n1⟩ := q1
  exact ⟨_, e1, l8 n 0 a1 T1 h1 (by omega) f1 t1 l1 (by omega) n1⟩
/-- a fraction is told -/
def tdQ (m : Nat) (h : jHp) (x y : Int) : jQ := fun r h' => r = some (.int (iI ((fT x y).length : Int))) ∧ fg (cuS m) h h' ∧ OU m h' (fT x y) ∧ mI h' m 0 = 0
theorem sz10 {v : Int} (h : v.natAbs ≤ 10 ^ 210) : sz 10 v.natAbs ≤ 490 := (sz_le (by decide)).mpr (Nat.lt_of_le_of_lt h (by decide))
theorem o_tells {a b T : Nat} {g : jHp} {x y : Int} (M : Mo m g) (f : fg (cuS m) h g) (ht : mI g m 2 = (T : Int)) (hT : T ≤ 380000) (na : PN m g T a x) (nb : PN m g T b y) (hy : 0 < y) (hx : x.natAbs ≤ 10 ^ 210) (hy2 : y.natAbs ≤ 10 ^ 210) : jRet 179 0 0 [.ref m, .int (iI a), .int (iI b)] g (tdQ m h x y) := by
  have s1 := na.2.2
  have s2 := nb.2.2
  refine jRet_mono (c_tells M na.1 nb.1 ht na.2.1 nb.2.1 hy (by omega) (by omega) (sz10 hx) (sz10 hy2) (by omega)) ?_
  intro r h' q
  exact ⟨q.1, f.tr (q.2.1.mo (fun _ _ z => ts_cu z)), q.2.2.1, q.2.2.2⟩
theorem c_light {p : Int} (M : Mo m h) (S : SW m h n) (O : SO m h n) (hp : rI p) : jRet 157 0 0 [.ref m, .int (iI p)] h (fun r h' => (0 ≤ p ∧ p < n → tdQ m h (lV m h n p.toNat) (dV m h n) r h') ∧ (¬ (0 ≤ p ∧ p < n) → r = some (.int (iI (-1))) ∧ h' = sI h m 0 (iI 1))) := by
  refine jRet_of (by decide) (by decide) (Nat.le_of_ble_eq_true rfl) (j_M_light_0 ⟨M.1, jRet_mono (c_isPatch M hp S.1) ?_⟩)
  intro r1 h1 q1
  obtain ⟨e1, e2⟩ := q1
  rw [e2]
  refine ⟨_, e1, ?_⟩
  rw [iI_0, iI_eq (by split <;> exact ⟨by omega, by omega⟩) ⟨by omega, by omega⟩]
  by_cases c : 0 ≤ p ∧ p < n
  · rw [if_pos c]
    refine ⟨fun _ => j_M_light_14 ⟨M.1, jRet_mono (c_allPulls M S) ?_⟩, fun z => absurd z (by decide)⟩
    intro r2 h2 q2
    obtain ⟨e3, e4, e5, e6, _⟩ := q2
    have M2 := M.sk e4.1
    refine ⟨e3, M2.1, jRet_mono (c_clean M2) ?_⟩
    intro r3 h3 q3
    obtain ⟨e7, e8⟩ := q3
    have f3' : fg (fun p k => p = m ∧ k = 2) h2 h3 := by
      rw [e8]
      exact fg.rf.wr ⟨rfl, rfl⟩
    have f3 : fg (cuS m) h h3 := (pu_cu e4).tr (f3'.mo (fun _ _ z => by unfold cuS cnS; omega))
    have M3 := M.sk f3.1
    have t3 : mI h3 m 2 = ((0 : Nat) : Int) := by
      rw [e8, mI_sI ⟨by omega, by omega⟩, if_pos ⟨rfl, rfl⟩]
      rfl
    obtain ⟨pn, rfl⟩ : ∃ pn : Nat, p = (pn : Int) := ⟨p.toNat, by omega⟩
    have hpn : pn < n := by omega
    refine ⟨e7, M3.1, jRet_mono (c_lightOf M3 S O f3 (fun i j hi hj => kn_fg (e5 i j hi hj) f3' (fun k _ _ z => by omega)) hpn t3 (by omega)) ?_⟩
    intro r4 h4 q4
    obtain ⟨a4, T4, d1, d2, d3, d4, d5, d6⟩ := q4
    have M4 := M3.sk d2.1
    have K4 : KN m h4 64 (dV m h n) := kn_fg (kn_fg (e6 (by omega)) f3' (fun k _ _ z => by omega)) d2 (fun k _ _ z => by unfold wkS at z; omega)
    refine ⟨_, d1, M4.1, ?_⟩
    have := o_held (p := 64) M4 d3 (by omega) K4 (by omega)
    refine jRet_mono this ?_
    intro r5 h5 q5
    obtain ⟨a5, T5, g1, g2, g3, g4, g5, g6⟩ := q5
    have M5 := M4.sk g2.1
    have f5 : fg (cuS m) h h5 := (f3.tr (d2.mo (fun _ _ z => cn_cu (wk_cn z)))).tr (g2.mo (fun _ _ z => cn_cu (wk_cn z)))
    have dv := dV_bd S
    refine ⟨_, g1, M5.1, jRet_mono (o_tells M5 f5 g3 (by omega) (pn_up d6 g2 g4) g6 dv.1 (Nat.le_trans (lV_p S O hpn (Nat.le_refl n)) (by decide)) (Nat.le_trans dv.2 (by decide))) ?_⟩
    intro r6 h6 q6
    exact ⟨_, q6.1, fun _ => ⟨rfl, q6.2⟩, fun z => absurd c z⟩
  · rw [if_neg c]
    refine ⟨fun z => absurd rfl z, fun _ => ⟨M.1, jRet_mono (c_refuse M) ?_⟩⟩
    intro r2 h2 q2
    exact ⟨_, q2.1, fun z => absurd z c, fun _ => ⟨rfl, q2.2⟩⟩
theorem c_pull {p q : Int} (M : Mo m h) (S : SW m h n) (hp : rI p) (hq : rI q) : jRet 187 0 0 [.ref m, .int (iI p), .int (iI q)] h (fun r h' => ((0 ≤ p ∧ p < n) ∧ (0 ≤ q ∧ q < n) → tdQ m h (pV m h n p.toNat q.toNat) (dV m h n) r h') ∧ (¬ ((0 ≤ p ∧ p < n) ∧ (0 ≤ q ∧ q < n)) → r = some (.int (iI (-1))) ∧ h' = sI h m 0 (iI 1))) := by
  have l16 : ¬ ((0 ≤ p ∧ p < n) ∧ (0 ≤ q ∧ q < n)) → J 187 16 0 0 [.ref m, uu, uu] [] h (fun r h' => ((0 ≤ p ∧ p < n) ∧ (0 ≤ q ∧ q < n) → tdQ m h (pV m h n p.toNat q.toNat) (dV m h n) r h') ∧ (¬ ((0 ≤ p ∧ p < n) ∧ (0 ≤ q ∧ q < n)) → r = some (.int (iI (-1))) ∧ h' = sI h m 0 (iI 1))) := by
    intro c
    refine j_M_pull_16 ⟨M.1, jRet_mono (c_refuse M) ?_⟩
    intro r2 h2 q2
    exact ⟨_, q2.1, fun z => absurd z c, fun _ => ⟨rfl, q2.2⟩⟩
  refine jRet_of (by decide) (by decide) (Nat.le_of_ble_eq_true rfl) (j_M_pull_0 ⟨M.1, jRet_mono (c_isPatch M hp S.1) ?_⟩)
  intro r1 h1 q1
  obtain ⟨e1, e2⟩ := q1
  rw [e2]
  refine ⟨_, e1, ?_⟩
  rw [iI_0, iI_eq (by split <;> exact ⟨by omega, by omega⟩) ⟨by omega, by omega⟩]
  by_cases c : 0 ≤ p ∧ p < n
  · rw [if_pos c]
    refine ⟨fun z => absurd z (by decide), fun _ => ⟨M.1, jRet_mono (c_isPatch M hq S.1) ?_⟩⟩
    intro r1 h1 q1
    obtain ⟨e1, e2⟩ := q1
    rw [e2]
    refine ⟨_, e1, ?_⟩
    rw [iI_eq (by split <;> exact ⟨by omega, by omega⟩) ⟨by omega, by omega⟩]
    by_cases c2 : 0 ≤ q ∧ q < n
    · rw [if_pos c2]
      refine ⟨fun _ => j_M_pull_22 ⟨M.1, jRet_mono (c_allPulls M S) ?_⟩, fun z => absurd z (by decide)⟩
      intro r2 h2 q2
      obtain ⟨e3, e4, e5, e6, _⟩ := q2
      have M2 := M.sk e4.1
      refine ⟨e3, M2.1, jRet_mono (c_clean M2) ?_⟩
      intro r3 h3 q3
      obtain ⟨e7, e8⟩ := q3
      have f3' : fg (fun p k => p = m ∧ k = 2) h2 h3 := by
        rw [e8]
        exact fg.rf.wr ⟨rfl, rfl⟩
      have f3 : fg (cuS m) h h3 := (pu_cu e4).tr (f3'.mo (fun _ _ z => by unfold cuS cnS; omega))
      have M3 := M.sk f3.1
      have t3 : mI h3 m 2 = ((0 : Nat) : Int) := by
        rw [e8, mI_sI ⟨by omega, by omega⟩, if_pos ⟨rfl, rfl⟩]
        rfl
      obtain ⟨pn, rfl⟩ : ∃ pn : Nat, p = (pn : Int) := ⟨p.toNat, by omega⟩
      obtain ⟨qn, rfl⟩ : ∃ qn : Nat, q = (qn : Int) := ⟨q.toNat, by omega⟩
      have hpn : pn < n := by omega
      have hqn : qn < n := by omega
      have hn8 := S.2.1
      simp only [iI_mul, iI_add]
      rw [show 8 * (pn : Int) + (qn : Int) = ((8 * pn + qn : Nat) : Int) by omega]
      refine ⟨e7, M3.1, jRet_mono (o_held M3 t3 (by omega) (kn_fg (e5 pn qn hpn hqn) f3' (fun k _ _ z => by omega)) (by omega)) ?_⟩
      intro r4 h4 q4
      obtain ⟨a4, T4, d1, d2, d3, d4, d5, d6⟩ := q4
      have M4 := M3.sk d2.1
      have K4 : KN m h4 64 (dV m h n) := kn_fg (kn_fg (e6 (by omega)) f3' (fun k _ _ z => by omega)) d2 (fun k _ _ z => by unfold wkS at z; omega)
      refine ⟨_, d1, M4.1, ?_⟩
      have := o_held (p := 64) M4 d3 (by omega) K4 (by omega)
      refine jRet_mono this ?_
      intro r5 h5 q5
      obtain ⟨a5, T5, g1, g2, g3, g4, g5, g6⟩ := q5
      have M5 := M4.sk g2.1
      have f5 : fg (cuS m) h h5 := (f3.tr (d2.mo (fun _ _ z => cn_cu (wk_cn z)))).tr (g2.mo (fun _ _ z => cn_cu (wk_cn z)))
      have dv := dV_bd S
      refine ⟨_, g1, M5.1, jRet_mono (o_tells M5 f5 g3 (by omega) (pn_up d6 g2 g4) g6 dv.1 (Nat.le_trans (pV_bd S hpn hqn) (by decide)) (Nat.le_trans dv.2 (by decide))) ?_⟩
      intro r6 h6 q6
      exact ⟨_, q6.1, fun _ => ⟨rfl, q6.2⟩, fun z => absurd ⟨c, c2⟩ z⟩
    · rw [if_neg c2]
      exact ⟨fun z => absurd rfl z, fun _ => l16 (fun z => c2 z.2)⟩
  · rw [if_neg c]
    exact ⟨fun _ => l16 (fun z => c z.1), fun z => absurd rfl z⟩
end LIGHT
