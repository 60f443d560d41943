/-! the model's isGood, pays, isBetter -/
section GOOD
variable {m n L K T : Nat} {h g : jHp} {lv : Nat → Nat → Int} {o : Nat → Int} {w : Int}
theorem pl_up {T T' : Nat} {g g' : jHp} (P : PL m g T L o w) (f : fg (wkS m T) g g') (ht : T ≤ T') : PL m g' T' L o w := by
  obtain ⟨p1, a, a1, a2⟩ := P
  refine ⟨fun l hl => ?_, a, by rw [f.eq (by unfold wkS; omega)]; exact a1, pw_up a2 f ht⟩
  obtain ⟨b, b1, b2⟩ := p1 l hl
  exact ⟨b, by rw [f.eq (by unfold wkS; omega)]; exact b1, pw_up b2 f ht⟩
def gdV (lv : Nat → Nat → Int) (o : Nat → Int) (w : Int) (k l : Nat) : Int := lv k 3 * w - sm (fun a => lv k a * o a) l
def wbQ (m T G : Nat) (g : jHp) (P : Prop) : jQ := fun r g' => (P ∧ r = some (.int (iI 1)) ∨ ¬ P ∧ r = some (.int (iI 0))) ∧ fg (wkS m T) g g' ∧ ∃ T' : Nat, mI g' m 2 = (T' : Int) ∧ T ≤ T' ∧ T' ≤ T + G
theorem c_isGood (M : Mo m g) (ht : mI g m 2 = (T : Int)) (hT : T ≤ 350000) (hL : mI g m 37 = (L : Int)) (hL3 : L ≤ 3) (hK : mI g m 38 = (K : Int)) (hK14 : K ≤ 14) (LMg : LM m g T K lv) (P : PL m g T L o w) (bl : ∀ k j, (lv k j).natAbs ≤ 10 ^ 50) (bo : ∀ l, (o l).natAbs ≤ 10 ^ 151) (bw : w.natAbs ≤ 10 ^ 151) : jRet 196 0 0 [.ref m] g (wbQ m T 20000 g (∀ k, k < K → gdV lv o w k L ≤ 0)) := by
  have x4 : ∀ a b : Nat, iI 4 * iI (a : Int) + iI (b : Int) = iI ((4 * a + b : Nat) : Int) := fun a b => by
    rw [iI_mul, iI_add]
    congr 1
  have cl : ∀ x : Nat, x < 100 → (iI (x : Int)).toNatClampNeg = x := fun x hx => by rw [iI_cl (by omega) (by omega), Int.toNat_natCast]
  have c3 : (iI 3).toNatClampNeg = 3 := by decide
  have tb : ∀ k l, (lv k l * o l).natAbs ≤ 10 ^ 201 := fun k l => Nat.le_trans (nA_mul (bl k l) (bo l)) (by decide +kernel)
  have wb : ∀ k, (lv k 3 * w).natAbs ≤ 10 ^ 201 := fun k => Nat.le_trans (nA_mul (bl k 3) bw) (by decide +kernel)
  have gb : ∀ k l, l ≤ 3 → (gdV lv o w k l).natAbs ≤ 4 * 10 ^ 201 := fun k l hl => by
    have a1 := wb k
    have a2 : (sm (fun a => lv k a * o a) l).natAbs ≤ 3 * 10 ^ 201 := Nat.le_trans (nA_sm (fun j hj => tb k j)) (Nat.mul_le_mul_right _ hl)
    unfold gdV
    generalize 10 ^ 201 = z at *
    omega
  have l2 : ∀ (d k : Nat) (k1 : jHp) (T1 : Nat), k + d = K → fg (wkS m T) g k1 → mI k1 m 2 = (T1 : Int) → T ≤ T1 → T1 ≤ T + mu 1400 k → (∀ j, j < k → gdV lv o w j L ≤ 0) → J 196 2 0 0 [.ref m, .int (iI k), uu, uu] [] k1 (wbQ m T 20000 g (∀ k, k < K → gdV lv o w k L ≤ 0)) := by
    intro d
    induction d with
    | zero =>
      intro k k1 T1 hd f t1 b1 b2 ok
      obtain rfl : k = K := by omega
      have M1 := M.sk f.1
      have mm' : mu 1400 k ≤ 19600 := by
        unfold mu
        omega
      refine j_M_isGood_2 ?_
      rw [gI_mI k1 m 38, f.eq (by unfold wkS; omega), hK, iI_le ⟨by omega, by omega⟩ ⟨by omega, by omega⟩]
      exact ⟨M1.1, fun _ => j_M_isGood_89 ⟨Or.inr rfl, Or.inl ⟨ok, rfl⟩, f, T1, t1, b1, (by omega)⟩, fun z => absurd (Int.le_refl _) z⟩
    | succ d ih =>
      intro k k1 T1 hd f t1 b1 b2 ok
      have M1 := M.sk f.1
      have ms := mu_s 1400 k
      have mm' : mu 1400 k ≤ 18200 := by
        unfold mu
        omega
      have L1 := lm_up LMg f b1
      have P1 := pl_up P f b1
      obtain ⟨ra, ra1, ra2⟩ := L1 k 3 (by omega) (by decide)
      obtain ⟨wa, wa1, wa2⟩ := P1.2
      have x43 : iI 4 * iI (k : Int) + iI 3 = iI ((4 * k + 3 : Nat) : Int) := x4 k 3
      refine j_M_isGood_2 ?_
      rw [gI_mI k1 m 38, f.eq (by unfold wkS; omega), hK, iI_le ⟨by omega, by omega⟩ ⟨by omega, by omega⟩, M1.a33.1, M1.a35.1, x43, cl (4 * k + 3) (by omega), c3, gI_mI k1 (m + 24) (4 * k + 3), ra1, gI_mI k1 (m + 26) 3, wa1]
      refine ⟨M1.1, fun z => by omega, fun _ => ⟨M1.1, ixL_of M1.a33.2 (by omega) (by omega) (by decide), M1.1, ixL_of (a := ((3 : Nat) : Int)) M1.a35.2 (by omega) (by omega) (by decide), M1.1, jRet_mono (w_times M1 t1 (by omega) ra2 wa2 (Nat.le_trans (wb k) (by decide +kernel))) ?_⟩⟩
      intro r2 k2 w2
      obtain ⟨a2, T2, y2, f2, t2, c1, c2, n2⟩ := w2
      have F2 := f.tr (f2.mo (fun _ _ z => wkS_mo b1 z))
      have l33 : ∀ (e l sa : Nat) (k3 : jHp) (T3 : Nat), l + e = L → fg (wkS m T) g k3 → mI k3 m 2 = (T3 : Int) → T ≤ T3 → T3 ≤ T + mu 1400 k + 200 + mu 400 l → PW m k3 T3 sa (gdV lv o w k l) → J 196 33 0 0 [.ref m, .int (iI k), .int (iI sa), .int (iI l)] [] k3 (wbQ m T 20000 g (∀ k, k < K → gdV lv o w k L ≤ 0)) := by
        intro e
        induction e with
        | zero =>
          intro l sa k3 T3 he f3 t3 d1 d2 n3
          obtain rfl : l = L := by omega
          have M3 := M.sk f3.1
          have m4 : mu 400 l ≤ 1200 := by
            unfold mu
            omega
          refine j_M_isGood_33 ?_
          rw [gI_mI k3 m 37, f3.eq (by unfold wkS; omega), hL, iI_le ⟨by omega, by omega⟩ ⟨by omega, by omega⟩]
          refine ⟨M3.1, fun _ => j_M_isGood_73 ⟨M3.1, jRet_mono (c_sign M3 n3.1) ?_⟩, fun z => absurd (Int.le_refl _) z⟩
          intro r4 k4 w4
          obtain ⟨y4, y5⟩ := w4
          rw [y5]
          refine ⟨_, y4, ?_⟩
          have sb := sg_bd (gdV lv o w k l)
          rw [iI_0, iI_le ⟨by omega, by omega⟩ ⟨by omega, by omega⟩, sg_le]
          refine ⟨fun z => j_M_isGood_83 ?_, fun z => ⟨Or.inl rfl, Or.inr ⟨fun u => z (u k (by omega)), rfl⟩, f3, T3, t3, d1, (by omega)⟩⟩
          rw [iI_add]
          refine ih (k + 1) k3 T3 (by omega) f3 t3 d1 (by omega) (fun j hj => ?_)
          by_cases ce : j = k
          · rw [ce]
            exact z
          · exact ok j (by omega)
        | succ e ih2 =>
          intro l sa k3 T3 he f3 t3 d1 d2 n3
          have hlL : l < L := by omega
          have M3 := M.sk f3.1
          have ms4 := mu_s 400 l
          have m4 : mu 400 l ≤ 800 := by
            unfold mu
            omega
          obtain ⟨sa', sa1, sa2⟩ := lm_up LMg f3 d1 k l (by omega) (by omega)
          obtain ⟨pa, pa1, pa2⟩ := (pl_up P f3 d1).1 l hlL
          refine j_M_isGood_33 ?_
          rw [gI_mI k3 m 37, f3.eq (by unfold wkS; omega), hL, iI_le ⟨by omega, by omega⟩ ⟨by omega, by omega⟩, M3.a33.1, M3.a35.1, x4, cl (4 * k + l) (by omega), cl l (by omega), gI_mI k3 (m + 24) (4 * k + l), sa1, gI_mI k3 (m + 26) l, pa1]
          refine ⟨M3.1, fun z => by omega, fun _ => ⟨M3.1, ixL_of M3.a33.2 (by omega) (by omega) (by decide), M3.1, ixL_of M3.a35.2 (by omega) (by omega) (by decide), M3.1, jRet_mono (w_times M3 t3 (by omega) sa2 pa2 (Nat.le_trans (tb k l) (by decide +kernel))) ?_⟩⟩
          intro r4 k4 w4
          obtain ⟨a4, T4, y4, f4', t4, u1, u2, n4⟩ := w4
          have M4 := M3.sk f4'.1
          have eg : gdV lv o w k l - lv k l * o l = gdV lv o w k (l + 1) := by
            unfold gdV
            rw [sm]
            omega
          refine ⟨_, y4, M4.1, jRet_mono (w_less M4 t4 (by omega) (pw_up n3 f4' u1) n4 (by rw [eg]; exact Nat.le_trans (gb k (l + 1) (by omega)) (by decide +kernel))) ?_⟩
          intro r5 k5 w5
          obtain ⟨a5, T5, y5, f5, t5, u3, u4, n5⟩ := w5
          rw [eg] at n5
          refine ⟨_, y5, ?_⟩
          rw [iI_add]
          exact ih2 (l + 1) a5 k5 T5 (by omega) ((f3.tr (f4'.mo (fun _ _ z => wkS_mo d1 z))).tr (f5.mo (fun _ _ z => wkS_mo (by omega) z))) t5 (by omega) (by omega) n5
      have m0 := mu_0 400
      have e0 : gdV lv o w k 0 = lv k 3 * w := by
        unfold gdV
        rw [sm]
        omega
      exact ⟨_, y2, l33 L 0 a2 k2 T2 (by omega) F2 t2 (by omega) (by omega) (by rw [e0]; exact n2)⟩
  have m0 := mu_0 1400
  refine jRet_of (by decide) (by decide) (Nat.le_of_ble_eq_true rfl) (j_M_isGood_0 ?_)
  exact l2 K 0 g T (by omega) fg.rf ht (Nat.le_refl _) (by omega) (fun j hj => by omega)
/-- lamps and their prices -/
def LPr (m n L : Nat) (h g : jHp) : Prop := ∀ l, l < L → mI g (m + 23) l = lmA m h n l ∧ 0 ≤ lmA m h n l ∧ lmA m h n l < n ∧ mI g (m + 14) (lmA m h n l).toNat = prV m h n l
def OWn (m T G : Nat) (g : jHp) (z : Int) : jQ := fun r g' => ∃ a T' : Nat, r = some (.int (iI (a : Int))) ∧ fg (wkS m T) g g' ∧ mI g' m 2 = (T' : Int) ∧ T ≤ T' ∧ T' ≤ T + G ∧ PW m g' T' a z
theorem c_pays (M : Mo m g) (ht : mI g m 2 = (T : Int)) (hT : T ≤ 350000) (hn8 : n ≤ 8) (hL : mI g m 37 = (L : Int)) (hL3 : L ≤ 3) (LPg : LPr m n L h g) (Q : SP m h n) (P : PL m g T L o w) (bo : ∀ l, (o l).natAbs ≤ 10 ^ 151) : jRet 198 0 0 [.ref m] g (OWn m T 2000 g (sm (fun l => prV m h n l * o l) L)) := by
  have cl : ∀ x : Nat, x < 100 → (iI (x : Int)).toNatClampNeg = x := fun x hx => by rw [iI_cl (by omega) (by omega), Int.toNat_natCast]
  have tb : ∀ l, (prV m h n l * o l).natAbs ≤ 10 ^ 154 := fun l => by
    have := pr_bd (m := m) (h := h) (n := n) Q (a := l)
    exact Nat.le_trans (nA_mul (show (prV m h n l).natAbs ≤ 1000 by omega) (bo l)) (by decide +kernel)
  have sb : ∀ l, l ≤ 3 → (sm (fun l => prV m h n l * o l) l).natAbs ≤ 3 * 10 ^ 154 := fun l hl => Nat.le_trans (nA_sm (fun j _ => tb j)) (Nat.mul_le_mul_right _ hl)
  have l8 : ∀ (d l sa : Nat) (k : jHp) (T1 : Nat), l + d = L → fg (wkS m T) g k → mI k m 2 = (T1 : Int) → T ≤ T1 → T1 ≤ T + 200 + mu 600 l → PW m k T1 sa (sm (fun l => prV m h n l * o l) l) → J 198 8 0 0 [.ref m, .int (iI sa), .int (iI l)] [] k (OWn m T 2000 g (sm (fun l => prV m h n l * o l) L)) := by
    intro d
    induction d with
    | zero =>
      intro l sa k T1 hd f t1 b1 b2 n1
      obtain rfl : l = L := by omega
      have M1 := M.sk f.1
      have m4 : mu 600 l ≤ 1800 := by
        unfold mu
        omega
      refine j_M_pays_8 ?_
      rw [gI_mI k m 37, f.eq (by unfold wkS; omega), hL, iI_le ⟨by omega, by omega⟩ ⟨by omega, by omega⟩]
      exact ⟨M1.1, fun _ => j_M_pays_54 ⟨sa, T1, rfl, f, t1, b1, (by omega), n1⟩, fun z => absurd (Int.le_refl _) z⟩
    | succ d ih =>
      intro l sa k T1 hd f t1 b1 b2 n1
      have hlL : l < L := by omega
      have M1 := M.sk f.1
      have ms := mu_s 600 l
      have m4 : mu 600 l ≤ 1200 := by
        unfold mu
        omega
      obtain ⟨q1, q2, q3, q4⟩ := LPg l hlL
      obtain ⟨lm, hlm⟩ : ∃ lm : Nat, lmA m h n l = (lm : Int) := ⟨(lmA m h n l).toNat, by omega⟩
      rw [hlm, Int.toNat_natCast] at q4
      have pb := pr_bd (m := m) (h := h) (n := n) Q (a := l)
      refine j_M_pays_8 ?_
      rw [gI_mI k m 37, f.eq (by unfold wkS; omega), hL, iI_le ⟨by omega, by omega⟩ ⟨by omega, by omega⟩, M1.a32.1, cl l (by omega), gI_mI k (m + 23) l, f.eq (by unfold wkS; omega), q1, hlm, M1.a17.1, cl lm (by omega), gI_mI k (m + 14) lm, f.eq (by unfold wkS; omega), q4, iI_64 ⟨by omega, by omega⟩]
      refine ⟨M1.1, fun z => by omega, fun _ => ⟨M1.1, M1.1, ixL_of M1.a32.2 (by omega) (by omega) (by decide), ixL_of M1.a17.2 (by omega) (by omega) (by decide), M1.1, jRet_mono (w_whole M1 t1 (by omega) (by omega)) ?_⟩⟩
      intro r2 k2 w2
      obtain ⟨a2, T2, y2, f2, t2, c1, c2, n2⟩ := w2
      have M2 := M1.sk f2.1
      obtain ⟨pa, pa1, pa2⟩ := (pl_up (pl_up P f b1) f2 c1).1 l hlL
      rw [M2.a35.1, gI_mI k2 (m + 26) l, pa1]
      refine ⟨_, y2, M2.1, ixL_of M2.a35.2 (by omega) (by omega) (by decide), M2.1, jRet_mono (w_times M2 t2 (by omega) n2 pa2 (Nat.le_trans (tb l) (by decide +kernel))) ?_⟩
      intro r3 k3 w3
      obtain ⟨a3, T3, y3, f3, t3, c3, c4, n3⟩ := w3
      have M3 := M2.sk f3.1
      have es : sm (fun l => prV m h n l * o l) l + prV m h n l * o l = sm (fun l => prV m h n l * o l) (l + 1) := rfl
      refine ⟨_, y3, M3.1, jRet_mono (w_sum M3 t3 (by omega) (pw_up (pw_up n1 f2 c1) f3 c3) n3 (by rw [es]; exact Nat.le_trans (sb (l + 1) (by omega)) (by decide +kernel))) ?_⟩
      intro r4 k4 w4
      obtain ⟨a4, T4, y4, f4', t4, c5, c6, n4⟩ := w4
      rw [es] at n4
      refine ⟨_, y4, ?_⟩
      rw [iI_add]
      exact ih (l + 1) a4 k4 T4 (by omega) (((f.tr (f2.mo (fun _ _ z => wkS_mo b1 z))).tr (f3.mo (fun _ _ z => wkS_mo (by omega) z))).tr (f4'.mo (fun _ _ z => wkS_mo (by omega) z))) t4 (by omega) (by omega) n4
  refine jRet_of (by decide) (by decide) (Nat.le_of_ble_eq_true rfl) (j_M_pays_0 ⟨M.1, jRet_mono (w_whole (x := ((0 : Nat) : Int)) M ht (by omega) (by omega)) ?_⟩)
  intro r2 k2 w2
  obtain ⟨a2, T2, y2, f2, t2, c1, c2, n2⟩ := w2
  have m0 := mu_0 600
  exact ⟨_, y2, l8 L 0 a2 k2 T2 (by omega) f2 t2 c1 (by omega) n2⟩
theorem pays_ob (hL3 : L ≤ 3) (ho : ∀ l, L ≤ l → o l = 0) : sm (fun l => prV m h n l * o l) L = ob (prV m h n) o 0 := by
  have e : ob (prV m h n) o 0 = sm (fun l => prV m h n l * o l) 3 := by
    rw [sm3]
    rfl
  rw [e]
  match L, hL3, ho with
  | 0, _, ho => simp [sm, ho 0 (by decide), ho 1 (by decide), ho 2 (by decide)]
  | 1, _, ho => simp [sm, ho 1 (by decide), ho 2 (by decide)]
  | 2, _, ho => simp [sm, ho 2 (by decide)]
  | 3, _, ho => rfl
theorem c_isBetter {b : Nat → Int} {w0 : Int} (M : Mo m g) (ht : mI g m 2 = (T : Int)) (hT : T ≤ 340000) (hn8 : n ≤ 8) (hL : mI g m 37 = (L : Int)) (hL3 : L ≤ 3) (LPg : LPr m n L h g) (Q : SP m h n) (P : PL m g T L o w) (bo : ∀ l, (o l).natAbs ≤ 10 ^ 151) (bw : w.natAbs ≤ 10 ^ 151) (ho : ∀ l, L ≤ l → o l = 0) (hb : ∀ l, L ≤ l → b l = 0) (bb : ∀ l, (b l).natAbs ≤ 10 ^ 151) (bw0 : w0.natAbs ≤ 10 ^ 151) (k68 : KN m g 68 w0) (k69 : KN m g 69 (ob (prV m h n) b 0)) (k65 : ∀ l, l < L → KN m g (65 + l) (b l)) : jRet 197 0 0 [.ref m] g (wbQ m T 9000 g (plt (prV m h n) o w b w0)) := by
  have cl : ∀ x : Nat, x < 100 → (iI (x : Int)).toNatClampNeg = x := fun x hx => by rw [iI_cl (by omega) (by omega), Int.toNat_natCast]
  have c3 : (iI 3).toNatClampNeg = 3 := by decide
  obtain ⟨F, hF⟩ : ∃ F : Nat → Int, F = fun k => ob (prV m h n) o k * w0 - ob (prV m h n) b k * w := ⟨_, rfl⟩
  have eP : plt (prV m h n) o w b w0 ↔ ln F := by
    rw [hF]
    exact Iff.rfl
  have F0 : ∀ k, L < k → k < 4 → F k = 0 := by
    intro k h1 h2
    obtain ⟨l, rfl⟩ : ∃ l, k = l + 1 := ⟨k - 1, by omega⟩
    rw [hF]
    show o l * w0 - b l * w = 0
    rw [ho l (by omega), hb l (by omega)]
    omega
  have ob0 : ∀ (x : Nat → Int), (∀ l, (x l).natAbs ≤ 10 ^ 151) → (ob (prV m h n) x 0).natAbs ≤ 3 * 10 ^ 154 := by
    intro x bx
    have t : ∀ l, (prV m h n l * x l).natAbs ≤ 10 ^ 154 := fun l => by
      have := pr_bd (m := m) (h := h) (n := n) Q (a := l)
      exact Nat.le_trans (nA_mul (show (prV m h n l).natAbs ≤ 1000 by omega) (bx l)) (by decide +kernel)
    have e : ob (prV m h n) x 0 = sm (fun l => prV m h n l * x l) 3 := by
      rw [sm3]
      rfl
    rw [e]
    exact s_bd (Nat.le_refl 3) (fun a _ => t a)
  have kn : ∀ {k : jHp} {p : Nat} {v : Int}, fg (wkS m T) g k → KN m g p v → KN m k p v := fun f k0 => kn_fg k0 f (fun q _ _ z => by unfold wkS at z; omega)
  have l99 : ∀ (k : Nat) (k1 : jHp) (T1 : Nat), k < 4 → (k = L ∨ F k ≠ 0) → (∀ k', k' < k → F k' = 0) → fg (wkS m T) g k1 → mI k1 m 2 = (T1 : Int) → T ≤ T1 → T1 ≤ T + 9000 → J 197 99 0 0 [uu, uu, .int (iI (F k).sign), uu] [] k1 (wbQ m T 9000 g (plt (prV m h n) o w b w0)) := by
    intro k k1 T1 hk hz h0 f t1 b1 b2
    have e : ln F ↔ F k < 0 := by
      unfold ln L4
      have z : ∀ k', k < k' → k' < 4 → F k ≠ 0 ∨ F k' = 0 := fun k' h1 h2 => by
        rcases hz with z | z
        · exact Or.inr (F0 k' (by omega) (by omega))
        · exact Or.inl z
      match k, hk, h0, z with
      | 0, _, _, z =>
        have z1 := z 1 (by decide) (by decide)
        have z2 := z 2 (by decide) (by decide)
        have z3 := z 3 (by decide) (by decide)
        omega
      | 1, _, h0, z =>
        have := h0 0 (by decide)
        have z2 := z 2 (by decide) (by decide)
        have z3 := z 3 (by decide) (by decide)
        omega
      | 2, _, h0, z =>
        have := h0 0 (by decide)
        have := h0 1 (by decide)
        have z3 := z 3 (by decide) (by decide)
        omega
      | 3, _, h0, z =>
        have := h0 0 (by decide)
        have := h0 1 (by decide)
        have := h0 2 (by decide)
        omega
    have sb := sg_bd (F k)
    have sl := sg_lt (x := F k)
    refine j_M_isBetter_99 ?_
    rw [iI_0, iI_le ⟨by omega, by omega⟩ ⟨by omega, by omega⟩]
    refine ⟨fun z => j_M_isBetter_107 (j_M_isBetter_108 ⟨Or.inl rfl, Or.inr ⟨fun u => ?_, rfl⟩, f, T1, t1, b1, b2⟩), fun z => j_M_isBetter_108 ⟨Or.inr rfl, Or.inl ⟨eP.mpr (e.mpr (sl.mp (by omega))), rfl⟩, f, T1, t1, b1, b2⟩⟩
    have := sl.mpr (e.mp (eP.mp u))
    omega
  have l43 : ∀ (d l la : Nat) (k1 : jHp) (T1 : Nat), l + d = L → (∀ k', k' < l → F k' = 0) → fg (wkS m T) g k1 → mI k1 m 2 = (T1 : Int) → T ≤ T1 → T1 ≤ T + 3200 + mu 800 l → PW m k1 T1 la w0 → J 197 43 0 0 [.ref m, .int (iI la), .int (iI (F l).sign), .int (iI l)] [] k1 (wbQ m T 9000 g (plt (prV m h n) o w b w0)) := by
    intro d
    induction d with
    | zero =>
      intro l la k1 T1 hd h0 f t1 b1 b2 nl
      obtain rfl : l = L := by omega
      have M1 := M.sk f.1
      have m4 : mu 800 l ≤ 2400 := by
        unfold mu
        omega
      refine j_M_isBetter_43 ?_
      rw [gI_mI k1 m 37, f.eq (by unfold wkS; omega), hL, iI_le ⟨by omega, by omega⟩ ⟨by omega, by omega⟩]
      exact ⟨M1.1, fun _ => l99 l k1 T1 (by omega) (Or.inl rfl) h0 f t1 b1 (by omega), fun z => absurd (Int.le_refl _) z⟩
    | succ d ih =>
      intro l la k1 T1 hd h0 f t1 b1 b2 nl
      have hlL : l < L := by omega
      have M1 := M.sk f.1
      have ms := mu_s 800 l
      have m4 : mu 800 l ≤ 1600 := by
        unfold mu
        omega
      have sb := sg_bd (F l)
      obtain ⟨pa, pa1, pa2⟩ := (pl_up P f b1).1 l hlL
      have pb : ∀ x y : Int, x.natAbs ≤ 10 ^ 151 → y.natAbs ≤ 10 ^ 151 → (x * y).natAbs ≤ 10 ^ 302 := fun x y hx hy => Nat.le_trans (nA_mul hx hy) (by decide +kernel)
      refine j_M_isBetter_43 ?_
      rw [gI_mI k1 m 37, f.eq (by unfold wkS; omega), hL, iI_le ⟨by omega, by omega⟩ ⟨by omega, by omega⟩, iI_0, iI_eq ⟨by omega, by omega⟩ ⟨by omega, by omega⟩, sg_0, M1.a35.1, cl l (by omega), gI_mI k1 (m + 26) l, pa1]
      refine ⟨M1.1, fun z => by omega, fun _ => ⟨fun z => l99 l k1 T1 (by omega) (Or.inr z) h0 f t1 b1 (by omega), fun z => ⟨M1.1, ixL_of M1.a35.2 (by omega) (by omega) (by decide), M1.1, jRet_mono (w_times M1 t1 (by omega) pa2 nl (Nat.le_trans (pb _ _ (bo l) bw0) (by decide +kernel))) ?_⟩⟩⟩
      intro r2 k2 w2
      obtain ⟨a2, T2, y2, f2, t2, c1, c2, n2⟩ := w2
      have M2 := M1.sk f2.1
      have F2 := f.tr (f2.mo (fun _ _ z => wkS_mo b1 z))
      have e65 : iI 65 + iI (l : Int) = iI ((65 + l : Nat) : Int) := by
        rw [iI_add]
        congr 1
      rw [e65]
      refine ⟨_, y2, M2.1, jRet_mono (w_held M2 t2 (by omega) (kn F2 (k65 l hlL)) (by omega)) ?_⟩
      intro r3 k3 w3
      obtain ⟨a3, T3, y3, f3, t3, c3', c4, n3⟩ := w3
      have M3 := M2.sk f3.1
      have F3 := F2.tr (f3.mo (fun _ _ z => wkS_mo (by omega) z))
      obtain ⟨wa, wa1, wa2⟩ := (pl_up P F3 (by omega)).2
      rw [M3.a35.1, c3, gI_mI k3 (m + 26) 3, wa1]
      refine ⟨_, y3, M3.1, ixL_of (a := ((3 : Nat) : Int)) M3.a35.2 (by omega) (by omega) (by decide), M3.1, jRet_mono (w_times M3 t3 (by omega) n3 (pw_up wa2 fg.rf (by omega)) (Nat.le_trans (pb _ _ (bb l) bw) (by decide +kernel))) ?_⟩
      intro r4 k4 w4
      obtain ⟨a4, T4, y4, f4', t4, c5, c6, n4⟩ := w4
      have M4 := M3.sk f4'.1
      have F4 := F3.tr (f4'.mo (fun _ _ z => wkS_mo (by omega) z))
      refine ⟨_, y4, M4.1, jRet_mono (w_less M4 t4 (by omega) (pw_up (pw_up n2 f3 c3') f4' c5) n4 (Nat.le_trans (nA_sub (pb _ _ (bo l) bw0) (pb _ _ (bb l) bw)) (by decide +kernel))) ?_⟩
      intro r5 k5 w5
      obtain ⟨a5, T5, y5, f5, t5, c7, c8, n5⟩ := w5
      have M5 := M4.sk f5.1
      have F5 := F4.tr (f5.mo (fun _ _ z => wkS_mo (by omega) z))
      refine ⟨_, y5, M5.1, jRet_mono (c_sign M5 n5.1) ?_⟩
      intro r6 k6 w6
      obtain ⟨y6, y7⟩ := w6
      rw [y7]
      have eF : o l * w0 - b l * w = F (l + 1) := by
        rw [hF]
        rfl
      rw [eF] at y6
      refine ⟨_, y6, ?_⟩
      rw [iI_add]
      refine ih (l + 1) la k5 T5 (by omega) (fun k' hk' => ?_) F5 t5 (by omega) (by omega) (pw_up (pw_up (pw_up (pw_up nl f2 c1) f3 c3') f4' c5) f5 c7)
      by_cases ce : k' = l
      · rw [ce]
        exact z
      · exact h0 k' (by omega)
  refine jRet_of (by decide) (by decide) (Nat.le_of_ble_eq_true rfl) (j_M_isBetter_0 ⟨M.1, jRet_mono (w_held (p := 68) M ht (by omega) k68 (by omega)) ?_⟩)
  intro r1 k1 w1
  obtain ⟨a1, T1, y1, f1, t1, d1, d2, n1⟩ := w1
  have M1 := M.sk f1.1
  refine ⟨_, y1, M1.1, jRet_mono (c_pays (h := h) (o := o) (w := w) M1 t1 (by omega) hn8 (by rw [f1.eq (by unfold wkS; omega)]; exact hL) hL3 (fun l hl => ?_) Q (pl_up P f1 d1) bo) ?_⟩
  · obtain ⟨q1, q2, q3, q4⟩ := LPg l hl
    exact ⟨by rw [f1.eq (by unfold wkS; omega)]; exact q1, q2, q3, by rw [f1.eq (by unfold wkS; omega)]; exact q4⟩
  intro r2 k2 w2
  obtain ⟨a2, T2, y2, f2, t2, c1, c2, n2⟩ := w2
  rw [pays_ob hL3 ho] at n2
  have M2 := M1.sk f2.1
  have pb0 : ∀ (x : Nat → Int) (y : Int), (∀ l, (x l).natAbs ≤ 10 ^ 151) → y.natAbs ≤ 10 ^ 151 → (ob (prV m h n) x 0 * y).natAbs ≤ 10 ^ 310 := fun x y hx hy => Nat.le_trans (nA_mul (ob0 x hx) hy) (by decide +kernel)
  refine ⟨_, y2, M2.1, jRet_mono (w_times M2 t2 (by omega) n2 (pw_up n1 f2 c1) (Nat.le_trans (pb0 o w0 bo bw0) (by decide +kernel))) ?_⟩
  intro r3 k3 w3
  obtain ⟨a3, T3, y3, f3, t3, c3', c4, n3⟩ := w3
  have M3 := M2.sk f3.1
  have F3 : fg (wkS m T) g k3 := (f1.tr (f2.mo (fun _ _ z => wkS_mo d1 z))).tr (f3.mo (fun _ _ z => wkS_mo (by omega) z))
  refine ⟨_, y3, M3.1, jRet_mono (w_held (p := 69) M3 t3 (by omega) (kn F3 k69) (by omega)) ?_⟩
  intro r4 k4 w4
  obtain ⟨a4, T4, y4, f4', t4, c5, c6, n4⟩ := w4
  have M4 := M3.sk f4'.1
  have F4 := F3.tr (f4'.mo (fun _ _ z => wkS_mo (by omega) z))
  obtain ⟨wa, wa1, wa2⟩ := (pl_up P F4 (show T ≤ T4 by omega)).2
  rw [M4.a35.1, c3, gI_mI k4 (m + 26) 3, wa1]
  refine ⟨_, y4, M4.1, ixL_of (a := ((3 : Nat) : Int)) M4.a35.2 (by omega) (by omega) (by decide), M4.1, jRet_mono (w_times M4 t4 (by omega) n4 wa2 (Nat.le_trans (pb0 b w bb bw) (by decide +kernel))) ?_⟩
  intro r5 k5 w5
  obtain ⟨a5, T5, y5, f5, t5, c7, c8, n5⟩ := w5
  have M5 := M4.sk f5.1
  have F5 := F4.tr (f5.mo (fun _ _ z => wkS_mo (by omega) z))
  refine ⟨_, y5, M5.1, jRet_mono (w_less M5 t5 (by omega) (pw_up (pw_up n3 f4' c5) f5 c7) n5 (Nat.le_trans (nA_sub (pb0 o w0 bo bw0) (pb0 b w bb bw)) (by decide +kernel))) ?_⟩
  intro r6 k6 w6
  obtain ⟨a6, T6, y6, f6, t6, c9, c10, n6⟩ := w6
  have M6 := M5.sk f6.1
  have F6 := F5.tr (f6.mo (fun _ _ z => wkS_mo (by omega) z))
  refine ⟨_, y6, M6.1, jRet_mono (c_sign M6 n6.1) ?_⟩
  intro r7 k7 w7
  obtain ⟨y7, y8⟩ := w7
  rw [y8]
  have eF : ob (prV m h n) o 0 * w0 - ob (prV m h n) b 0 * w = F 0 := by rw [hF]
  rw [eF] at y7
  have m0 := mu_0 800
  exact ⟨_, y7, l43 L 0 a1 k6 T6 (by omega) (fun k' hk' => by omega) F6 t6 (by omega) (by omega) (pw_up (pw_up (pw_up (pw_up (pw_up n1 f2 c1) f3 c3') f4' c5) f5 c7) f6 c9)⟩
end GOOD
