/-! pulls -/
def cV (E : Nat → Nat → Int) (s : Int) (c k i j : Nat) : Int := if j = 8 then s * vM E k i (9 + c) else vM E k i j
def sC (m : Nat) (h : jHp) (c : Nat) : Int := mI h (m + 11) c * mI h m 21
theorem sC_bd {m n c : Nat} {h : jHp} (S : SW m h n) (hc : c < n) : 0 < sC m h c ∧ sC m h c ≤ 100000 := by
  obtain ⟨s1, s2, s3, s4, s5, s6, s7⟩ := S
  have a1 := s5 c hc
  unfold sC
  have a4 := Int.mul_le_mul (show mI h (m + 11) c ≤ 100 by omega) s4 (by omega) (show (0 : Int) ≤ 100 by decide)
  have a5 := Int.mul_pos (show 0 < mI h (m + 11) c by omega) (show 0 < mI h m 21 by omega)
  omega
theorem cV_step {E : Nat → Nat → Int} {s : Int} {n c k i j : Nat} (D : Dm E n) (hn : n ≤ 8) (hk : k < n) (hik : i ≠ k) : (cV E s c k k k * cV E s c k i j - cV E s c k i k * cV E s c k k j).tdiv (pp E k) = cV E s c (k + 1) i j := by
  have I := iv_all D hn k (by omega)
  have hp := I.1 k (Nat.le_refl k)
  have e : cV E s c k k k * cV E s c k i j - cV E s c k i k * cV E s c k k j = pp E k * cV E s c (k + 1) i j := by
    have k8 : ¬ k = 8 := by omega
    unfold cV
    rw [if_neg k8, if_neg k8]
    by_cases j8 : j = 8
    · rw [if_pos j8, if_pos j8, if_pos j8]
      have := v_step (j := 9 + c) D hn hk hik
      have e2 : vM E k k k * (s * vM E k i (9 + c)) - vM E k i k * (s * vM E k k (9 + c)) = s * (vM E k k k * vM E k i (9 + c) - vM E k i k * vM E k k (9 + c)) := by grind
      rw [e2, this]
      grind
    · rw [if_neg j8, if_neg j8, if_neg j8]
      exact v_step D hn hk hik
  rw [e, Int.mul_tdiv_cancel_left _ (by omega)]
theorem nA_mul {x y : Int} {a b : Nat} (h1 : x.natAbs ≤ a) (h2 : y.natAbs ≤ b) : (x * y).natAbs ≤ a * b := by
  rw [Int.natAbs_mul]
  exact Nat.mul_le_mul h1 h2
theorem cV_bd {E : Nat → Nat → Int} {s : Int} {n c k i j : Nat} (D : Dm E n) (hn : n ≤ 8) (hk : k ≤ n) (hi : i < n) (hj : j < n ∨ j = 8) (hs : 0 < s ∧ s ≤ 100000) : (cV E s c k i j).natAbs ≤ 10 ^ 50 := by
  unfold cV
  by_cases j8 : j = 8
  · rw [if_pos j8]
    have a1 := v_bd (j := 9 + c) D hn hk hi (Or.inr (by omega))
    have a2 := nA_mul (show s.natAbs ≤ 10 ^ 5 by omega) a1
    exact Nat.le_trans a2 (by decide)
  · rw [if_neg j8]
    exact Nat.le_trans (v_bd D hn hk hi (Or.inl (by omega))) (by decide)
theorem nA_sub {x y : Int} {a : Nat} (h1 : x.natAbs ≤ a) (h2 : y.natAbs ≤ a) : (x - y).natAbs ≤ 2 * a := by omega
def pvS (m p k : Nat) : Prop := p = m + 1 ∨ (p = m ∧ (k = 2 ∨ k = 6 ∨ k = 7)) ∨ p = m + 2 ∨ p = m + 3 ∨ p = m + 4 ∨ p = m + 19
theorem wk_pv {m t p k : Nat} (w : wkS m t p k) : pvS m p k := by
  unfold wkS at w
  unfold pvS
  omega
theorem pv_pu {m p k : Nat} (w : pvS m p k) : puS m p k := by
  unfold pvS at w
  unfold puS
  omega
section PULLS
variable {m n c : Nat} {h : jHp}
def plQ (m n c : Nat) (h : jHp) : jQ := fun r h' => r = none ∧ fg (puS m) h h' ∧ (∀ i, i < n → KN m h' (8 * i + c) (cV (EM m h) (sC m h c) c n i 8)) ∧ KN m h' 64 (pp (EM m h) n) ∧ (∀ q v, q < 75 → q ≠ 64 → (∀ i, i < n → q ≠ 8 * i + c) → KN m h q v → KN m h' q v)
theorem kn_fg {q : Nat} {v : Int} {S : Nat → Nat → Prop} {g g' : jHp} (K : KN m g q v) (f : fg S g g') (s : ∀ k, 24 * q ≤ k → k < 24 * q + 24 → ¬ S (m + 18) k) : KN m g' q v := by
  have h1 := K.1
  exact ⟨K.1, by rw [f.eq (s _ (Nat.le_refl _) (by omega))]; exact K.2.1, fun k hk => by rw [f.eq (s _ (by omega) (by omega))]; exact K.2.2 k hk⟩
def kpS (m p q k : Nat) : Prop := q = m + 18 ∧ 24 * p ≤ k ∧ k < 24 * p + 24
theorem o_keep {p a T : Nat} {g : jHp} {v : Int} (M : Mo m g) (n : PN m g T a v) (hp : p < 75) (hs : sz B3 v.natAbs ≤ 23) : jRet 176 0 0 [.ref m, .int (iI p), .int (iI a)] g (fun r h' => r = none ∧ fg (kpS m p) g h' ∧ KN m h' p v) := by
  refine jRet_mono (c_keep M n.1 hp hs) ?_
  intro r h' q
  exact ⟨q.1, ⟨q.2.1, fun a b z => q.2.2.2 a b z⟩, q.2.2.1⟩
theorem l_pu307 (M : Mo m h) (S : SW m h n) (hc : c < n) {a T : Nat} : ∀ (d i : Nat) (g : jHp), i + d = n → fg (puS m) h g → RT m g T (fun i j => i < n ∧ j = 8) (cV (EM m h) (sC m h c) c n) → PN m g T a (pp (EM m h) n) → (∀ i', i' < i → KN m g (8 * i' + c) (cV (EM m h) (sC m h c) c n i' 8)) → (∀ q v, q < 75 → q ≠ 64 → (∀ i, i < n → q ≠ 8 * i + c) → KN m h q v → KN m g q v) →
    J 159 307 0 0 [.ref m, .int (iI c), .int (iI n), .int (iI a), .int (iI i), uu, uu, uu, uu] [] g (plQ m n c h) := by
  have D := dm_of S
  have hn8 := S.2.1
  have hs := sC_bd S hc
  intro d
  induction d with
  | zero =>
    intro i g hi f R na K1 K2
    obtain rfl : i = n := by omega
    have Mg := M.sk f.1
    have hb : (pp (EM m h) i).natAbs ≤ 10 ^ 45 := by
      have a1 := pp_bd D hn8 i (Nat.le_refl i)
      have a2 : (10 : Int) ^ (5 * i) ≤ 10 ^ 40 := p10_mono (by omega)
      have a3 := (iv_all D hn8 i (Nat.le_refl i)).1 i (Nat.le_refl i)
      have a4 : ((10 : Int) ^ 40) = ((10 ^ 40 : Nat) : Int) := by decide
      have a5 : (10 ^ 40 : Nat) ≤ 10 ^ 45 := by decide
      omega
    refine j_M_pulls_307 ⟨fun _ => j_M_pulls_343 ⟨Mg.1, jRet_mono (o_keep Mg na (p := 64) (by decide) (sz_b (Nat.lt_of_le_of_lt hb (by decide)))) ?_⟩, fun c => absurd ((iI_le ⟨by omega, by omega⟩ ⟨by omega, by omega⟩).mpr (by omega)) c⟩
    intro v1 h1 q1
    obtain ⟨e1, e2, e3⟩ := q1
    refine ⟨e1, rfl, f.tr (e2.mo (fun p k z => by unfold kpS at z; unfold puS; omega)), fun i' hi' => ?_, e3, fun q v h1 h2 h3 h4 => ?_⟩
    · exact kn_fg (K1 i' hi') e2 (fun k _ _ z => by unfold kpS at z; omega)
    · exact kn_fg (K2 q v h1 h2 h3 h4) e2 (fun k _ _ z => by unfold kpS at z; omega)
  | succ d ih =>
    intro i g hi f R na K1 K2
    have Mg := M.sk f.1
    obtain ⟨b, b1, b2⟩ := R i 8 ⟨(by omega), rfl⟩
    have hb := pn_lt b2
    have hv := cV_bd (c := c) D hn8 (Nat.le_refl n) (show i < n by omega) (Or.inr rfl) hs
    refine j_M_pulls_307 ?_
    rw [Mg.a25.1]
    simp only [iI_mul, iI_add]
    rw [gI_q (by omega) (by omega), show (9 * (i : Int) + 8).toNat = 9 * i + 8 by omega, b1, iI_le ⟨by omega, by omega⟩ ⟨by omega, by omega⟩, show 8 * (i : Int) + (c : Int) = ((8 * i + c : Nat) : Int) by omega]
    refine ⟨fun c => by omega, fun _ => ⟨Mg.1, ixL_of Mg.a25.2 (by omega) (by omega) (by decide), Mg.1, jRet_mono (o_keep Mg b2 (p := 8 * i + c) (by omega) (sz_b (Nat.lt_of_le_of_lt hv (by decide)))) ?_⟩⟩
    intro v1 h1 q1
    obtain ⟨e1, e2, e3⟩ := q1
    refine ⟨e1, ih (i + 1) h1 (by omega) (f.tr (e2.mo (fun p k z => by unfold kpS at z; unfold puS; omega))) (fun i' j' p => ?_) (pn_fg na e2 (fun k z => by unfold kpS at z; omega)) (fun i' hi' => ?_) (fun q v h1 h2 h3 h4 => ?_)⟩
    · obtain ⟨w, w1, w2⟩ := R i' j' p
      exact ⟨w, by rw [e2.eq (fun z => by unfold kpS at z; omega)]; exact w1, pn_fg w2 e2 (fun k z => by unfold kpS at z; omega)⟩
    · by_cases e : i' = i
      · rw [e]
        exact e3
      · exact kn_fg (K1 i' (by omega)) e2 (fun k _ _ z => by unfold kpS at z; omega)
    · have := h3 i (by omega)
      exact kn_fg (K2 q v h1 h2 h3 h4) e2 (fun k _ _ z => by unfold kpS at z; omega)
/-- one cell of one row: from the stage k to the next -/
theorem l_pu223 (M : Mo m h) (S : SW m h n) (hc : c < n) {Q : jQ} {k i j a w b T : Nat} {g : jHp} {P : Nat → Nat → Prop} {V : Nat → Nat → Int} (hk : k < n) (hi : i < n) (hik : i ≠ k) (hj : j < n ∨ j = 8) (f : fg (pvS m) h g) (ht : mI g m 2 = (T : Int)) (hT : T + 420 < 400000) (R : RT m g T P V)
    (na : PN m g T a (pp (EM m h) k)) (nw : PN m g T w (cV (EM m h) (sC m h c) c k k k)) (nb : PN m g T b (cV (EM m h) (sC m h c) c k i k)) (p1 : P i j) (p2 : P k j) (v1 : V i j = cV (EM m h) (sC m h c) c k i j) (v2 : V k j = cV (EM m h) (sC m h c) c k k j)
    (nx : ∀ (T' : Nat) (g' : jHp), T ≤ T' → T' ≤ T + 320 → mI g' m 2 = (T' : Int) → fg (pvS m) h g' → RT m g' T' P (fun i' j' => if i' = i ∧ j' = j then cV (EM m h) (sC m h c) c (k + 1) i j else V i' j') → PN m g' T' a (pp (EM m h) k) → PN m g' T' w (cV (EM m h) (sC m h c) c k k k) → PN m g' T' b (cV (EM m h) (sC m h c) c k i k) →
      J 159 283 0 0 [.ref m, .int (iI c), .int (iI n), .int (iI a), .int (iI k), .int (iI w), .int (iI i), .int (iI b), .int (iI j)] [] g' Q) (hP : ∀ i' j', P i' j' → j' ≤ 8) :
    J 159 223 0 0 [.ref m, .int (iI c), .int (iI n), .int (iI a), .int (iI k), .int (iI w), .int (iI i), .int (iI b), .int (iI j)] [] g Q := by
  have D := dm_of S
  have hn8 := S.2.1
  have hs := sC_bd S hc
  have Mg := M.sk f.1
  have hk0 : pp (EM m h) k ≠ 0 := by
    have := (iv_all D hn8 k (by omega)).1 k (Nat.le_refl k)
    omega
  obtain ⟨u, u1, u2⟩ := R i j p1
  obtain ⟨z, z1, z2⟩ := R k j p2
  rw [v1] at u2
  rw [v2] at z2
  have hu := pn_lt u2
  have hz := pn_lt z2
  have b1 := cV_bd (c := c) D hn8 (Nat.le_of_lt hk) hk (Or.inl hk) hs
  have b2 := cV_bd (c := c) D hn8 (Nat.le_of_lt hk) hi (Or.inl hk) hs
  have b3 := cV_bd (c := c) D hn8 (Nat.le_of_lt hk) hi hj hs
  have b4 := cV_bd (c := c) D hn8 (Nat.le_of_lt hk) hk hj hs
  refine j_M_pulls_223 ?_
  rw [Mg.a25.1]
  simp only [iI_mul, iI_add]
  have ei : gI g (m + 19) (iI (9 * (i : Int) + (j : Int))).toNatClampNeg = iI (u : Int) := by
    rw [gI_q (by omega) (by omega), show (9 * (i : Int) + (j : Int)).toNat = 9 * i + j by omega, u1]
  rw [ei]
  refine ⟨Mg.1, Mg.1, ixL_of Mg.a25.2 (by omega) (by omega) (by decide), Mg.1, jRet_mono (o_times Mg ht (by omega) nw u2 (sz_10 (Nat.le_trans (nA_mul b1 b3) (by decide)))) ?_⟩
  intro r1 h1 q1
  obtain ⟨a1, T1, e1, f1, t1, l1, l2, n1⟩ := q1
  have M1 := Mg.sk f1.1
  refine ⟨_, e1, M1.1, ?_⟩
  rw [M1.a25.1]
  have ek : gI h1 (m + 19) (iI (9 * (k : Int) + (j : Int))).toNatClampNeg = iI (z : Int) := by
    rw [gI_q (by omega) (by omega), show (9 * (k : Int) + (j : Int)).toNat = 9 * k + j by omega, f1.eq (by unfold wkS; omega), z1]
  rw [ek]
  refine ⟨ixL_of M1.a25.2 (by omega) (by omega) (by decide), M1.1, jRet_mono (o_times M1 t1 (by omega) (pn_up nb f1 l1) (pn_up z2 f1 l1) (sz_10 (Nat.le_trans (nA_mul b2 b4) (by decide)))) ?_⟩
  intro r2 h2 q2
  obtain ⟨a2, T2, e2, f2, t2, l3, l4, n2⟩ := q2
  have M2 := M1.sk f2.1
  have bd : (cV (EM m h) (sC m h c) c k k k * cV (EM m h) (sC m h c) c k i j - cV (EM m h) (sC m h c) c k i k * cV (EM m h) (sC m h c) c k k j).natAbs ≤ 10 ^ 210 := Nat.le_trans (nA_sub (nA_mul b1 b3) (nA_mul b2 b4)) (by decide)
  refine ⟨_, e2, M2.1, jRet_mono (o_less M2 t2 (by omega) (pn_up n1 f2 l3) n2 (sz_10 bd)) ?_⟩
  intro r3 h3 q3
  obtain ⟨a3, T3, e3, f3, t3, l5, l6, n3⟩ := q3
  have M3 := M2.sk f3.1
  have g13 : fg (wkS m T) g h3 := (f1.tr (f2.mo (fun p k z => wkS_mo l1 z))).tr (f3.mo (fun p k z => wkS_mo (Nat.le_trans l1 l3) z))
  refine ⟨_, e3, M3.1, jRet_mono (o_divided M3 t3 (by omega) n3 (pn_up na g13 (by omega)) hk0) ?_⟩
  intro r4 h4 q4
  obtain ⟨a4, T4, e4, f4, t4, l7, l8, n4⟩ := q4
  have M4 := M3.sk f4.1
  rw [cV_step D hn8 hk hik] at n4
  have g14 : fg (wkS m T) g h4 := g13.tr (f4.mo (fun p k z => wkS_mo (by omega) z))
  refine ⟨_, e4, ix_of M4.a25.2 (by omega) (by omega) (by decide), ?_⟩
  rw [iI_cl (by omega) (by omega), show (9 * (i : Int) + (j : Int)).toNat = 9 * i + j by omega]
  have hj8 := hP i j p1
  refine nx T4 _ (by omega) (by omega) ?_ ((f.tr (g14.mo (fun p k z => wk_pv z))).wr (by unfold pvS; omega)) (rt_up R g14 (by omega) n4 (fun i' j' p => ?_)) ?_ ?_ ?_
  · rw [mI_sI (by have := pn_lt n4; exact ⟨by omega, by omega⟩), if_neg (fun z => by omega)]
    exact t4
  · by_cases e : i' = i ∧ j' = j
    · exact Or.inl ⟨e.1, e.2, by rw [if_pos e]⟩
    · have := hP i' j' p
      exact Or.inr ⟨p, by rw [if_neg e], by omega⟩
  · exact pn_fg (pn_up na g14 (by omega)) (S := fun p k => p = m + 19) (fg.rf.wr rfl) (fun k z => by omega)
  · exact pn_fg (pn_up nw g14 (by omega)) (S := fun p k => p = m + 19) (fg.rf.wr rfl) (fun k z => by omega)
  · exact pn_fg (pn_up nb g14 (by omega)) (S := fun p k => p = m + 19) (fg.rf.wr rfl) (fun k z => by omega)
end PULLS
