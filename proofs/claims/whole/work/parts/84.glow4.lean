/-! Glow: gather, compareLight -/
section GLOW
variable {g w t m n : Nat} {h : jHp}
def gS (m : Nat) (h : jHp) (n p : Nat) (b : Int) (k : Nat) : Int := sm (fun j => if b ≠ 0 ∧ mI h (m + 9) j = 1 then 0 else pV m h n p j * mI h (m + 12) j) k
theorem gS_t (S : SW m h n) (O : SO m h n) {p j : Nat} {b : Int} (hp : p < n) (hj : j < n) : 0 ≤ (if b ≠ 0 ∧ mI h (m + 9) j = 1 then 0 else pV m h n p j * mI h (m + 12) j) ∧ (if b ≠ 0 ∧ mI h (m + 9) j = 1 then 0 else pV m h n p j * mI h (m + 12) j).natAbs ≤ 10 ^ 55 := by
  have a1 := lV_t S O hp hj
  have a2 := Int.mul_nonneg (pV_nn S hp hj) (O j hj).1
  by_cases c : b ≠ 0 ∧ mI h (m + 9) j = 1
  · rw [if_pos c]
    exact ⟨Int.le_refl _, by decide⟩
  · rw [if_neg c]
    exact ⟨a2, a1⟩
theorem sm_nn {f : Nat → Int} : ∀ {k : Nat}, (∀ j, j < k → 0 ≤ f j) → 0 ≤ sm f k
  | 0, _ => Int.le_refl _
  | k + 1, h => by
    rw [sm]
    have a1 := sm_nn (f := f) (k := k) (fun j hj => h j (by omega))
    have a2 := h k (by omega)
    omega
theorem gS_bd (S : SW m h n) (O : SO m h n) {p k : Nat} {b : Int} (hp : p < n) (hk : k ≤ n) : 0 ≤ gS m h n p b k ∧ (gS m h n p b k).natAbs ≤ 10 ^ 56 := by
  have hn := S.2.1
  refine ⟨sm_nn (fun j hj => (gS_t S O hp (show j < n by omega)).1), ?_⟩
  have a1 : (gS m h n p b k).natAbs ≤ k * 10 ^ 55 := nA_sm (fun j hj => (gS_t S O hp (show j < n by omega)).2)
  have a2 : k * 10 ^ 55 ≤ 8 * 10 ^ 55 := Nat.mul_le_mul_right _ (by omega)
  exact Nat.le_trans a1 (Nat.le_trans a2 (by decide))
theorem gS_0 {p : Nat} : gS m h n p 0 n = lV m h n p := sm_congr (fun j _ => if_neg (fun z => z.1 rfl))
theorem c_Gather {p : Nat} {b v : Int} {V : Int} (G : GL g h) (W : WL w h) (C : CW w m h) (S : SW m h n) (O : SO m h n) (a0 : awy (glS g) w t m) (P : PU g n h (pV m h n)) (Q4 : BG 20 (g + 4) h V) (hp : p < n) (hb : b = 0 ∨ b = 1) :
    jRet 52 0 0 [.ref g, .int (iI p), .ref w, .int (iI b)] h (fun q h' => q = none ∧ fg (fbS (g + 4)) h h' ∧ BG 20 (g + 4) h' (gS m h n p b n)) := by
  have hn8 := S.2.1
  have a : awy (fbS (g + 4)) w t m := fun q k hq z => a0 q k hq (by unfold fbS at z; unfold glS; omega)
  have kw : ∀ f', fg (fbS (g + 4)) h f' → mI f' w 4 = (n : Int) := fun f' f => by
    rw [f.eq (a _ _ (by omega)), C.2.1, S.1]
  have l11 : ∀ (d j : Nat) (g1 : jHp), j + d = n → fg (fbS (g + 4)) h g1 → BG 20 (g + 4) g1 (gS m h n p b j) → J 52 11 0 0 [.ref g, .int (iI p), .ref w, .int (iI b), .int (iI j)] [] g1 (fun q h' => q = none ∧ fg (fbS (g + 4)) h h' ∧ BG 20 (g + 4) h' (gS m h n p b n)) := by
    intro d
    induction d with
    | zero =>
      intro j g1 hj f1 B1
      obtain rfl : j = n := by omega
      have W1 := wl_sk W f1.1
      refine j_Gl_gather_11 ?_
      rw [gI_mI g1 w 4, kw g1 f1, iI_le ⟨by omega, by omega⟩ ⟨by omega, by omega⟩]
      exact ⟨W1.1, fun _ => j_Gl_gather_73 ⟨rfl, f1, B1⟩, fun z => absurd (Int.le_refl _) z⟩
    | succ d ih =>
      intro j g1 hj f1 B1
      have hjn : j < n := by omega
      have W1 := wl_sk W f1.1
      have G1 := gl_sk G f1.1
      have cj := (cw_fg C f1 a).2.2.2 j (by omega)
      have em : ∀ q k, q ≤ 27 → mI g1 (m + q) k = mI h (m + q) k := fun q k hq => f1.eq (a _ _ (by omega))
      have ob := O j hjn
      have skip : gS m h n p b (j + 1) = gS m h n p b j → J 52 67 0 0 [.ref g, .int (iI p), .ref w, .int (iI b), .int (iI j)] [] g1 (fun q h' => q = none ∧ fg (fbS (g + 4)) h h' ∧ BG 20 (g + 4) h' (gS m h n p b n)) := by
        intro e
        refine j_Gl_gather_67 ?_
        rw [iI_add]
        exact ih (j + 1) g1 (by omega) f1 (by rw [e]; exact B1)
      have go : ¬ (b ≠ 0 ∧ mI h (m + 9) j = 1) → J 52 38 0 0 [.ref g, .int (iI p), .ref w, .int (iI b), .int (iI j)] [] g1 (fun q h' => q = none ∧ fg (fbS (g + 4)) h h' ∧ BG 20 (g + 4) h' (gS m h n p b n)) := by
        intro hc
        have e : gS m h n p b (j + 1) = gS m h n p b j + pV m h n p j * mI h (m + 12) j := by
          show sm _ (j + 1) = _
          rw [sm, if_neg hc]
          rfl
        have g1b := gS_bd (b := b) (k := j) S O hp (by omega)
        have g2b := gS_bd (b := b) (k := j + 1) S O hp (by omega)
        have pb := pV_bd S hp hjn
        have pn := pV_nn S hp hjn
        obtain ⟨X, hX⟩ : ∃ X : Nat, gS m h n p b j = (X : Int) := ⟨(gS m h n p b j).toNat, by omega⟩
        obtain ⟨Y, hY⟩ : ∃ Y : Nat, pV m h n p j = (Y : Int) := ⟨(pV m h n p j).toNat, by omega⟩
        obtain ⟨f, hf⟩ : ∃ f : Nat, mI h (m + 12) j = (f : Int) := ⟨(mI h (m + 12) j).toNat, by omega⟩
        have eZ : gS m h n p b (j + 1) = ((X + Y * f : Nat) : Int) := by
          rw [e, hX, hY, hf, Int.natCast_add, Int.natCast_mul]
        have pg : gR g1 (g + 1) (8 * p + j) = pc g p j := G1.2.2.2.2.2.2.2 (8 * p + j) (by omega)
        have CY : BG 10 (pc g p j) g1 (Y : Int) := by
          rw [← hY]
          exact bg_fg (P p j hp hjn) f1 (fun k => by unfold fbS pc; omega)
        rw [hX] at B1
        rw [eZ, Int.natAbs_natCast] at g2b
        rw [hY, Int.natAbs_natCast] at pb
        refine j_Gl_gather_38 ?_
        simp only [iI_mul, iI_add]
        rw [G1.2.1, W1.2.2.2.2.2.1, G1.2.2.2.2.1, iI_cl (by omega) (by omega), iI_cl (by omega) (by omega), Int.toNat_natCast, show ((p : Int) * 8 + (j : Int)).toNat = 8 * p + j by omega, pg, (W1.2.2.2.2.2.2.2.2.2 j (by omega)).1, gI_mI g1 (w + 5 + j) 5, cj.2.2.2.2.2.1, em 12 j (by omega), hf]
        refine ⟨G1.1, G1.1, ixR_of G1.2.2.1 (Or.inr (Or.inl rfl)) (by omega) (by omega) (by decide), W1.1, ixR_of W1.2.2.2.2.2.2.1 (Or.inr (Or.inr rfl)) (by omega) (by omega) (by decide), (W1.2.2.2.2.2.2.2.2.2 j (by omega)).2, B1.1.1, jRet_mono (c_BplusTimes B1 CY (by unfold pc; omega) (by omega) (sz6b (Nat.le_trans g2b.2 (by decide)) (by decide)) (sz6b (Nat.le_trans pb (by decide)) (by decide))) ?_⟩
        intro q2 h2 w2
        obtain ⟨e2, f2, B2⟩ := w2
        refine ⟨e2, j_Gl_gather_67 ?_⟩
        rw [iI_add]
        exact ih (j + 1) h2 (by omega) (f1.tr f2) (by rw [eZ]; exact B2)
      refine j_Gl_gather_11 ?_
      rw [gI_mI g1 w 4, kw g1 f1, iI_0, iI_le ⟨by omega, by omega⟩ ⟨by omega, by omega⟩, iI_eq ⟨by omega, by omega⟩ ⟨by omega, by omega⟩, W1.2.2.2.2.2.1, iI_cl (by omega) (by omega), Int.toNat_natCast, (W1.2.2.2.2.2.2.2.2.2 j (by omega)).1, gI_mI g1 (w + 5 + j) 0, cj.1, em 9 j (by omega), iI_eq (by rw [← em 9 j (by omega)]; exact rI_mI _ _ _) ⟨by omega, by omega⟩]
      refine ⟨W1.1, fun z => by omega, fun _ => ⟨fun z => go (fun y => y.1 z), fun z => ⟨W1.1, ixR_of W1.2.2.2.2.2.2.1 (Or.inr (Or.inr rfl)) (by omega) (by omega) (by decide), (W1.2.2.2.2.2.2.2.2.2 j (by omega)).2, fun z2 => skip ?_, fun z2 => go (fun y => z2 y.2)⟩⟩⟩
      show sm _ (j + 1) = _
      rw [sm, if_pos ⟨z, z2⟩, Int.add_zero]
      rfl
  refine jRet_of (by decide) (by decide) (Nat.le_of_ble_eq_true rfl) (j_Gl_gather_0 ?_)
  rw [G.2.2.2.2.1]
  refine ⟨G.1, Q4.1.1, jRet_mono (c_Bset (x := ((0 : Nat) : Int)) Q4 (by omega) (by decide)) ?_⟩
  intro q1 h1 w1
  obtain ⟨e1, f1, B1⟩ := w1
  exact ⟨e1, l11 n 0 h1 (by omega) f1 B1⟩
theorem c_Gcompare {p : Nat} (G : GL g h) (W : WL w h) (C : CW w m h) (S : SW m h n) (O : SO m h n) (N : SN m h n) (a0 : awy (glS g) w t m) (P : GT g n h (pV m h n) (dV m h n)) (hp : p < n) :
    jRet 53 0 0 [.ref g, .int (iI p), .ref w] h (fun q h' => q = some (.int (iI (lV m h n p - mI h (m + 13) p * dV m h n).sign)) ∧ fg (fun i k => g + 4 ≤ i ∧ i ≤ g + 7) h h' ∧ (∃ v, BG 20 (g + 4) h' v) ∧ ∃ v, BG 20 (g + 6) h' v) := by
  have hn8 := S.2.1
  obtain ⟨P1, P2, ⟨v4, V4⟩, ⟨v6, V6⟩, v8⟩ := P
  have wb := N p hp
  have dv := dV_bd S
  refine jRet_of (by decide) (by decide) (Nat.le_of_ble_eq_true rfl) (j_Gl_compareLight_0 ⟨G.1, jRet_mono (c_Gather (b := 0) (v := 0) G W C S O a0 P1 V4 hp (Or.inl rfl)) ?_⟩)
  intro q1 h1 w1
  obtain ⟨e1, f1, B1⟩ := w1
  rw [gS_0] at B1
  have G1 := gl_sk G f1.1
  have ap : ∀ c d, c ≠ d → c + 1 ≠ d → d + 1 ≠ c → ∀ q, ¬ fbS (g + d) (g + c) q ∧ ¬ fbS (g + d) (g + c + 1) q := fun c d h1 h2 h3 q => by
    unfold fbS
    omega
  have P21 := bg_fg P2 f1 (ap 2 4 (by omega) (by omega) (by omega))
  have V61 := bg_fg V6 f1 (ap 6 4 (by omega) (by omega) (by omega))
  rw [G1.2.2.2.2.2.1, G1.2.2.2.1]
  refine ⟨e1, G1.1, G1.1, V61.1.1, jRet_mono (c_Bcopy V61 P21 (by omega) (sz6b (Nat.le_trans dv.2 (by decide)) (by decide))) ?_⟩
  intro q2 h2 w2
  obtain ⟨e2, f2, B2⟩ := w2
  have G2 := gl_sk G1 f2.1
  have W2 := wl_sk (wl_sk W f1.1) f2.1
  have aw : ∀ c, 2 ≤ c → c ≤ 8 → awy (fbS (g + c)) w t m := fun c h1 h2 q k hq z => a0 q k hq (by unfold fbS at z; unfold glS; omega)
  have C2 := cw_fg (cw_fg C f1 (aw 4 (by decide) (by decide))) f2 (aw 6 (by decide) (by decide))
  have cp := C2.2.2.2 p (by omega)
  have em : mI h2 (m + 13) p = mI h (m + 13) p := by
    rw [f2.eq (aw 6 (by decide) (by decide) _ _ (by omega)), f1.eq (aw 4 (by decide) (by decide) _ _ (by omega))]
  obtain ⟨f, hf⟩ : ∃ f : Nat, mI h (m + 13) p = (f : Int) := ⟨(mI h (m + 13) p).toNat, by omega⟩
  rw [G2.2.2.2.2.2.1, W2.2.2.2.2.2.1, iI_cl (by omega) (by omega), Int.toNat_natCast, (W2.2.2.2.2.2.2.2.2.2 p (by omega)).1, gI_mI h2 (w + 5 + p) 6, cp.2.2.2.2.2.2.1, em, hf]
  have hz : sz B6 ((dV m h n).natAbs * f) ≤ 20 := sz6b (Nat.le_trans (Nat.mul_le_mul dv.2 (show f ≤ 100000 by omega)) (by decide)) (by decide)
  refine ⟨e2, G2.1, W2.1, ixR_of W2.2.2.2.2.2.2.1 (Or.inr (Or.inr rfl)) (by omega) (by omega) (by decide), (W2.2.2.2.2.2.2.2.2.2 p (by omega)).2, B2.1.1, jRet_mono (c_Btimes B2 (by omega) hz) ?_⟩
  intro q3 h3 w3
  obtain ⟨e3, f3, B3⟩ := w3
  have G3 := gl_sk G2 f3.1
  have B13 := bg_fg (bg_fg B1 f2 (ap 4 6 (by omega) (by omega) (by omega))) f3 (ap 4 6 (by omega) (by omega) (by omega))
  rw [G3.2.2.2.2.1, G3.2.2.2.2.2.1]
  have b1 := lV_p S O hp (Nat.le_refl n)
  have b2 : (dV m h n * (f : Int)).natAbs ≤ 10 ^ 40 * 100000 := nA_mul dv.2 (show ((f : Int)).natAbs ≤ 100000 by omega)
  have b1' : (lV m h n p).natAbs ≤ 10 ^ 56 := b1
  refine ⟨e3, G3.1, G3.1, B13.1.1, jRet_mono (c_Badd (y := 1) B13 B3 (by omega) (Or.inr rfl) (sz6b (Nat.le_trans (Nat.add_le_add b1' b2) (by decide)) (by decide))) ?_⟩
  intro q4 h4 w4
  obtain ⟨e4, f4, B4⟩ := w4
  rw [if_neg (by decide)] at B4
  have G4 := gl_sk G3 f4.1
  rw [G4.2.2.2.2.1]
  refine ⟨e4, G4.1, B4.1.1, jRet_mono (c_Bsign B4) ?_⟩
  intro q5 h5 w5
  obtain ⟨e5, e6⟩ := w5
  rw [e6]
  have fs : ∀ c, (c = 4 ∨ c = 6) → ∀ p k, fbS (g + c) p k → g + 4 ≤ p ∧ p ≤ g + 7 := fun c hc p k z => by
    unfold fbS at z
    omega
  refine ⟨_, e5, ?_, (((f1.mo (fs 4 (Or.inl rfl))).tr (f2.mo (fs 6 (Or.inr rfl)))).tr (f3.mo (fs 6 (Or.inr rfl)))).tr (f4.mo (fs 4 (Or.inl rfl))), ⟨_, B4⟩, ⟨_, bg_fg B3 f4 (ap 6 4 (by omega) (by omega) (by omega))⟩⟩
  rw [Int.mul_comm (dV m h n)]
end GLOW
