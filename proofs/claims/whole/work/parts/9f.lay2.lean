/-! Cheapest: layPatchRows, layBounds -/
section LAY2
variable {c w t g m n : Nat} {h : jHp} {V : Nat → Int}
/-- what stays 0 -/
def CZ (m : Nat) (h : jHp) (n : Nat) (V : Nat → Int) : Prop := (∀ r a, r < 8 → a < 3 → (n ≤ r ∨ lmA m h n a = -1) → V (4 + (3 * r + a)) = 0) ∧ (∀ r a, 8 ≤ r → r < 14 → a < 3 → r ≠ 8 + a → r ≠ 11 + a → V (4 + (3 * r + a)) = 0) ∧ ∀ r, n ≤ r → r < 11 → V (46 + r) = 0
theorem cz_of {V' : Nat → Int} (L : LPV (sV m h n) (nV m h n) V') : CZ m h n V' := by
  refine ⟨fun r a hr ha hz => ?_, fun r a h1 h2 h3 h4 h5 => ?_, fun r h1 h2 => ?_⟩
  · rw [L.1 r a (by omega) ha]
    unfold sV
    rw [if_pos hr, if_neg (fun z => by omega)]
  · rw [L.1 r a h2 h3]
    unfold sV
    rw [if_neg (by omega), if_neg h4, if_neg h5]
  · rw [L.2 r (by omega)]
    unfold nV
    by_cases z : r < 8
    · rw [if_pos z, if_neg (by omega)]
    · rw [if_neg z, if_pos h2]
theorem gt_fg {S : Nat → Nat → Prop} {h' : jHp} {X : Nat → Nat → Int} {u : Int} (hn : n ≤ 8) (T : GT g n h X u) (f : fg S h h') (a : ∀ p k, g + 2 ≤ p → p ≤ g + 137 → ¬ S p k) : GT g n h' X u := by
  obtain ⟨t1, t2, ⟨v4, t4⟩, ⟨v6, t6⟩, ⟨v8, t8⟩⟩ := T
  refine ⟨fun i j hi hj => bg_fg (t1 i j hi hj) f (fun k => ⟨a _ _ (by unfold pc; omega) (by unfold pc; omega), a _ _ (by unfold pc; omega) (by unfold pc; omega)⟩), bg_fg t2 f (fun k => ⟨a _ _ (by omega) (by omega), a _ _ (by omega) (by omega)⟩), ⟨v4, bg_fg t4 f (fun k => ⟨a _ _ (by omega) (by omega), a _ _ (by omega) (by omega)⟩)⟩, ⟨v6, bg_fg t6 f (fun k => ⟨a _ _ (by omega) (by omega), a _ _ (by omega) (by omega)⟩)⟩, ⟨v8, bg_fg t8 f (fun k => ⟨a _ _ (by omega) (by omega), a _ _ (by omega) (by omega)⟩)⟩⟩
def lpS (c g p k : Nat) : Prop := chS c p k ∨ fbS (g + 4) p k
def lrQ (c g m n : Nat) (h : jHp) (V : Nat → Int) : jQ := fun q h' => q = none ∧ fg (lpS c g) h h' ∧ GT g n h' (pV m h n) (dV m h n) ∧ ∃ V', CV c V' h' ∧ (∀ r, r < 8 → (∀ a, a < 3 → V' (4 + (3 * r + a)) = sV m h n r a) ∧ V' (46 + r) = nV m h n r) ∧ ∀ q, (q < 4 ∨ 28 ≤ q ∧ q < 46 ∨ 54 ≤ q) → V' q = V q
theorem c_ClayRows (C : CL c h) (CVh : CV c V h) (Z : CZ m h n V) (G : GL g h) (T : GT g n h (pV m h n) (dV m h n)) (W : WL w h) (CWh : CW w m h) (S : SW m h n) (O : SO m h n) (N : SN m h n) (a : awy (lpS c g) w t m) (a0 : awy (glS g) w t m) (hl : ∀ a, a < 3 → mI h (c + 3) a = lmA m h n a) (dj : g + 137 < c ∨ c + 165 < g) : jRet 37 0 0 [.ref c, .ref w, .ref g] h (lrQ c g m n h V) := by
  have hn8 := S.2.1
  have cl : ∀ x : Nat, x < 100 → (iI (x : Int)).toNatClampNeg = x := fun x hx => by rw [iI_cl (by omega) (by omega), Int.toNat_natCast]
  have st : ∀ k, fg (lpS c g) h k → stq m h k := fun k f => stq_aw (fun p q hp => f.eq hp) a
  have l2 : ∀ (d r : Nat) (k : jHp) (X : Nat → Int), r + d = n → fg (lpS c g) h k → GT g n k (pV m h n) (dV m h n) → CV c X k → (∀ r', r' < r → (∀ a, a < 3 → X (4 + (3 * r' + a)) = sV m h n r' a) ∧ X (46 + r') = nV m h n r') → (∀ q, (q < 4 ∨ 4 + 3 * r ≤ q) → (q < 46 ∨ 46 + r ≤ q) → X q = V q) → J 37 2 0 0 [.ref c, .ref w, .ref g, .int (iI r), uu, uu] [] k (lrQ c g m n h V) := by
    intro d
    induction d with
    | zero =>
      intro r k X hd f Tk Ck Vk Ek
      obtain rfl : r = n := by omega
      have Wk := wl_sk W f.1
      refine j_Ch_layPatchRows_2 ?_
      rw [gI_mI k w 4, f.eq (a _ _ (by omega)), CWh.2.1, S.1, iI_le ⟨by omega, by omega⟩ ⟨by omega, by omega⟩]
      refine ⟨Wk.1, fun _ => j_Ch_layPatchRows_129 ⟨rfl, f, Tk, X, Ck, fun r' hr' => ?_, fun q hq => Ek q (by omega) (by omega)⟩, fun z => absurd (Int.le_refl _) z⟩
      by_cases e : r' < r
      · exact Vk r' e
      · refine ⟨fun a' ha' => ?_, ?_⟩
        · rw [Ek _ (by omega) (by omega), Z.1 r' a' hr' ha' (Or.inl (by omega))]
          unfold sV
          rw [if_pos hr', if_neg (fun z => by omega)]
        · rw [Ek _ (by omega) (by omega), Z.2.2 r' (by omega) (by omega)]
          unfold nV
          rw [if_pos hr', if_neg (by omega)]
    | succ d ih =>
      intro r k X hd f Tk Ck Vk Ek
      have hrn : r < n := by omega
      -- the need
      have l71 : ∀ (k1 : jHp) (X1 : Nat → Int), fg (lpS c g) h k1 → GT g n k1 (pV m h n) (dV m h n) → CV c X1 k1 → (∀ a, a < 3 → X1 (4 + (3 * r + a)) = sV m h n r a) → (∀ q, (q < 4 + 3 * r ∨ 4 + 3 * r + 3 ≤ q) → X1 q = X q) → J 37 71 0 0 [.ref c, .ref w, .ref g, .int (iI r), uu, uu] [] k1 (lrQ c g m n h V) := by
        intro k1 X1 f1 T1 C1 V1 E1
        have W1 := wl_sk W f1.1
        have G1 := gl_sk G f1.1
        have s1 := st k1 f1
        obtain ⟨v4, t4⟩ := T1.2.2.1
        have PU1 : PU g n k1 (pV m k1 n) := fun i j hi hj => by
          rw [s1.pv]
          exact T1.1 i j hi hj
        have CW1 : CW w m k1 := cw_fg CWh f1 a
        have gat := c_Gather (b := 1) (v := 0) (t := t) G1 W1 CW1 (s1.sw S) (s1.so O) a0 PU1 t4 hrn (Or.inr rfl)
        rw [s1.gs] at gat
        refine j_Ch_layPatchRows_71 ⟨G1.1, jRet_mono gat ?_⟩
        intro q2 k2 w2
        obtain ⟨x2, f2, B2⟩ := w2
        have f2' : fg (lpS c g) h k2 := f1.tr (f2.mo (fun _ _ z => Or.inr z))
        have C2 : CV c X1 k2 := cv_fg C1 f2 (fun p q h1 h2 z => by unfold fbS at z; omega)
        have D2 := cl_sk C f2'.1
        have G2 := gl_sk G f2'.1
        have dv := dV_bd S
        have Bd : BG 10 (g + 2) k2 (dV m h n) := bg_fg T1.2.1 f2 (fun q => by unfold fbS; omega)
        have wn := N r hrn
        rw [D2.f1, cl r (by omega), D2.n r (by omega), G2.2.2.2.1]
        have rq : rm (46 + r) = 10 := rm_c (by omega) (by omega)
        refine ⟨x2, D2.o, D2.i2 r (by omega), G2.1, (C2 _ (by omega)).1.1, jRet_mono (c_Bcopy (C2 (46 + r) (by omega)) Bd (by unfold pl; omega) (by rw [rq]; exact sz6b (Nat.le_trans dv.2 (by decide)) (by decide))) ?_⟩
        intro q3 k3 w3
        obtain ⟨x3, f3, B3⟩ := w3
        have u3 := cv_up C2 (show 46 + r < 78 by omega) f3 B3
        have f3' : fg (lpS c g) h k3 := f2'.tr (u3.2.mo (fun _ _ z => Or.inl z))
        have D3 := cl_sk C f3'.1
        have W3 := wl_sk W f3'.1
        have wi := W3.2.2.2.2.2.2.2.2.2 r (by omega)
        obtain ⟨wr, hwr⟩ : ∃ wr : Nat, mI h (m + 13) r = (wr : Int) := ⟨(mI h (m + 13) r).toNat, by omega⟩
        rw [D3.f1, D3.n r (by omega), W3.2.2.2.2.2.1, wi.1, gI_mI k3 (w + 5 + r) 6, f3'.eq (a _ _ (by omega)), (CWh.2.2.2 r (by omega)).2.2.2.2.2.2.1, hwr]
        refine ⟨x3, D3.o, D3.i2 r (by omega), W3.1, ixR_of W3.2.2.2.2.2.2.1 (Or.inr (Or.inr rfl)) (by omega) (by omega) (by decide), wi.2, (u3.1 _ (by omega)).1.1, jRet_mono (v_times u3.1 (q := 46 + r) (f := wr) (by omega) (by omega) (by rw [setV_s, rq]; exact sz6b (Nat.le_trans (Nat.mul_le_mul dv.2 (show wr ≤ 100000 by omega)) (by decide)) (by decide))) ?_⟩
        intro q4 k4 w4
        obtain ⟨x4, f4', C4⟩ := w4
        rw [setV_s] at C4
        have f4'' : fg (lpS c g) h k4 := f3'.tr (f4'.mo (fun _ _ z => Or.inl z))
        have D4 := cl_sk C f4''.1
        have G4 := gl_sk G f4''.1
        have B4 : BG 20 (g + 4) k4 (gS m h n r 1 n) := bg_fg (bg_fg B2 f3 (fun q => by unfold fbS pl; omega)) f4' (fun q => by unfold chS; omega)
        have t4v : setV (setV X1 (46 + r) (dV m h n)) (46 + r) (dV m h n * (wr : Int)) (46 + r) = dV m h n * (wr : Int) := setV_s
        have bb1 : (dV m h n * (wr : Int)).natAbs ≤ 10 ^ 40 * 100000 := nA_mul dv.2 (show ((wr : Int)).natAbs ≤ 100000 by omega)
        have bb2 := gS_45 (b := 1) S O hrn (Nat.le_refl n)
        have N4 := C4 (46 + r) (by omega)
        rw [t4v] at N4
        rw [D4.f1, D4.n r (by omega), G4.2.2.2.2.1]
        refine ⟨x4, D4.o, D4.i2 r (by omega), G4.1, N4.1.1, jRet_mono (c_Badd (y := 1) N4 B4 (by unfold pl; omega) (Or.inr rfl) (by rw [rq]; exact sz6b (Nat.le_trans (Nat.add_le_add bb1 bb2) (by decide)) (by decide))) ?_⟩
        intro q5 k5 w5
        obtain ⟨x5, f5, B5⟩ := w5
        rw [if_neg (show ¬ (1 : Int) = 0 by decide)] at B5
        have u5 := cv_up C4 (show 46 + r < 78 by omega) f5 B5
        have f5' : fg (lpS c g) h k5 := f4''.tr (u5.2.mo (fun _ _ z => Or.inl z))
        refine ⟨x5, ?_⟩
        rw [iI_add]
        have T5 : GT g n k5 (pV m h n) (dV m h n) := by
          obtain ⟨t1, t2, ⟨v4, t4⟩, ⟨v6, t6⟩, ⟨v8, t8⟩⟩ := T1
          have T2 : GT g n k2 (pV m h n) (dV m h n) := ⟨fun i j hi hj => bg_fg (t1 i j hi hj) f2 (fun k => by unfold fbS pc; omega), bg_fg t2 f2 (fun k => by unfold fbS; omega), ⟨_, B2⟩, ⟨v6, bg_fg t6 f2 (fun k => by unfold fbS; omega)⟩, ⟨v8, bg_fg t8 f2 (fun k => by unfold fbS; omega)⟩⟩
          exact gt_fg hn8 (gt_fg hn8 (gt_fg hn8 T2 u3.2 (fun p q h1 h2 => by unfold chS; omega)) f4' (fun p q h1 h2 => by unfold chS; omega)) u5.2 (fun p q h1 h2 => by unfold chS; omega)
        refine ih (r + 1) k5 _ (by omega) f5' T5 u5.1 (fun r' hr' => ⟨fun a' ha' => ?_, ?_⟩) (fun q h1 h2 => ?_)
        · rw [setV_n (by omega), setV_n (by omega), setV_n (by omega)]
          by_cases e : r' = r
          · rw [e]
            exact V1 a' ha'
          · rw [E1 _ (by omega)]
            exact (Vk r' (by omega)).1 a' ha'
        · by_cases e : r' = r
          · rw [e, setV_s]
            unfold nV
            rw [if_pos (by omega), if_pos hrn, hwr, Int.mul_comm]
          · rw [setV_n (by omega), setV_n (by omega), setV_n (by omega), E1 _ (by omega)]
            exact (Vk r' (by omega)).2
        · rw [setV_n (by omega), setV_n (by omega), setV_n (by omega), E1 _ (by omega)]
          exact Ek q (by omega) (by omega)
      have l13 : ∀ (e b : Nat) (k1 : jHp) (X1 : Nat → Int), b + e = 3 → fg (lpS c g) h k1 → GT g n k1 (pV m h n) (dV m h n) → CV c X1 k1 → (∀ a, a < b → X1 (4 + (3 * r + a)) = sV m h n r a) → (∀ q, (q < 4 + 3 * r ∨ 4 + 3 * r + b ≤ q) → X1 q = X q) → J 37 13 0 0 [.ref c, .ref w, .ref g, .int (iI r), .int (iI b), uu] [] k1 (lrQ c g m n h V) := by
        intro e
        induction e with
        | zero =>
          intro b k1 X1 hb f1 T1 C1 V1 E1
          obtain rfl : b = 3 := by omega
          exact j_Ch_layPatchRows_13 ⟨fun _ => l71 k1 X1 f1 T1 C1 V1 E1, fun z => absurd (by decide) z⟩
        | succ e ih2 =>
          intro b k1 X1 hb f1 T1 C1 V1 E1
          have hb3 : b < 3 := by omega
          have D1 := cl_sk C f1.1
          have G1 := gl_sk G f1.1
          have lb : mI k1 (c + 3) b = lmA m h n b := by
            rw [f1.eq (by unfold lpS chS fbS; omega)]
            exact hl b hb3
          have lc := lmA_c (m := m) (h := h) n b
          have rl : rI (lmA m h n b) := by
            rw [← lb]
            exact rI_mI _ _ _
          refine j_Ch_layPatchRows_13 ?_
          rw [iI_le ⟨by omega, by omega⟩ ⟨by omega, by omega⟩, D1.f2, cl b (by omega), gI_mI k1 (c + 3) b, lb, iI_eq rl ⟨by omega, by omega⟩]
          refine ⟨fun z => by omega, fun _ => ⟨D1.o, ixL_of D1.z3 (by omega) (by omega) (by decide), fun z => j_Ch_layPatchRows_65 ?_, fun z => ?_⟩⟩
          · rw [iI_add]
            refine ih2 (b + 1) k1 X1 (by omega) f1 T1 C1 (fun a' ha' => ?_) (fun q hq => E1 q (by omega))
            by_cases ce : a' = b
            · rw [ce, E1 _ (by omega), Ek _ (by omega) (by omega), Z.1 r b (by omega) hb3 (Or.inr z)]
              unfold sV
              rw [if_pos (by omega), if_neg (fun y => y.2 z)]
            · exact V1 a' (by omega)
          · obtain ⟨lm, hlm⟩ : ∃ lm : Nat, lmA m h n b = (lm : Int) := ⟨(lmA m h n b).toNat, by omega⟩
            have hlm8 : lm < n := by omega
            have pb := pV_45 S hrn hlm8
            have Bp := T1.1 r lm hrn hlm8
            have e1 : iI (r : Int) * iI 8 + iI (lm : Int) = iI ((8 * r + lm : Nat) : Int) := by
              rw [iI_mul, iI_add]
              congr 1
              omega
            have e2 : iI (r : Int) * iI 3 + iI (b : Int) = iI ((3 * r + b : Nat) : Int) := by
              rw [iI_mul, iI_add]
              congr 1
              omega
            have pg : gR k1 (g + 1) (8 * r + lm) = pc g r lm := G1.2.2.2.2.2.2.2 (8 * r + lm) (by omega)
            rw [hlm, D1.f0, G1.2.1, e1, e2, cl (8 * r + lm) (by omega), cl (3 * r + b) (by omega), D1.s _ (by omega), pg]
            refine ⟨G1.1, D1.o, ixL_of D1.z3 (by omega) (by omega) (by decide), ixR_of G1.2.2.1 (Or.inr (Or.inl rfl)) (by omega) (by omega) (by decide), D1.o, D1.i1 _ (by omega), (C1 _ (by omega)).1.1, jRet_mono (c_Bcopy (C1 (4 + (3 * r + b)) (by omega)) Bp (by unfold pl pc; omega) (by rw [rm_c (by omega) (by omega)]; exact sz6b (Nat.le_trans pb (by decide)) (by decide))) ?_⟩
            intro q2 k2 w2
            obtain ⟨x2, f2, B2⟩ := w2
            have u2 := cv_up C1 (show 4 + (3 * r + b) < 78 by omega) f2 B2
            refine ⟨x2, j_Ch_layPatchRows_65 ?_⟩
            rw [iI_add]
            refine ih2 (b + 1) k2 _ (by omega) (f1.tr (u2.2.mo (fun _ _ z => Or.inl z))) (gt_fg hn8 T1 u2.2 (fun p q h1 h2 => by unfold chS; omega)) u2.1 (fun a' ha' => ?_) (fun q hq => by rw [setV_n (by omega)]; exact E1 q (by omega))
            by_cases ce : a' = b
            · rw [ce, setV_s]
              unfold sV
              rw [if_pos (by omega), if_pos ⟨hrn, z⟩, hlm, Int.toNat_natCast]
            · rw [setV_n (by omega)]
              exact V1 a' (by omega)
      have Wk := wl_sk W f.1
      refine j_Ch_layPatchRows_2 ?_
      rw [gI_mI k w 4, f.eq (a _ _ (by omega)), CWh.2.1, S.1, iI_le ⟨by omega, by omega⟩ ⟨by omega, by omega⟩]
      exact ⟨Wk.1, fun z => by omega, fun _ => l13 3 0 k X (by omega) f Tk Ck (fun a' ha' => by omega) (fun q hq => rfl)⟩
  refine jRet_of (by decide) (by decide) (Nat.le_of_ble_eq_true rfl) (j_Ch_layPatchRows_0 ?_)
  exact l2 n 0 h V (by omega) fg.rf T CVh (fun r' hr' => by omega) (fun q _ _ => rfl)
def lbS (c p k : Nat) : Prop := chS c p k ∨ p = c + 5
def lbQ (c m n : Nat) (h0 h : jHp) : jQ := fun q h' => q = none ∧ fg (lbS c) h h' ∧ HH c h' (fun i => 8 + i) ∧ ∃ V', CV c V' h' ∧ LPV (sV m h0 n) (nV m h0 n) V'
theorem c_ClayBounds {h0 : jHp} (C : CL c h) (CVh : CV c V h) (Z : CZ m h0 n V) (hr8 : ∀ r, r < 8 → (∀ a, a < 3 → V (4 + (3 * r + a)) = sV m h0 n r a) ∧ V (46 + r) = nV m h0 n r) (W : WL w h) (CWh : CW w m h) (st : stq m h0 h) (hn8 : n ≤ 8) (Q : SP m h0 n) (a : awy (lbS c) w t m) (hl : ∀ a, a < 3 → mI h (c + 3) a = lmA m h0 n a) : jRet 38 0 0 [.ref c, .ref w] h (lbQ c m n h0 h) := by
  have cl : ∀ x : Nat, x < 100 → (iI (x : Int)).toNatClampNeg = x := fun x hx => by rw [iI_cl (by omega) (by omega), Int.toNat_natCast]
  have l2 : ∀ (d b : Nat) (k : jHp) (X : Nat → Int), b + d = 3 → fg (lbS c) h k → CV c X k → (∀ r, r < 8 → (∀ a, a < 3 → X (4 + (3 * r + a)) = sV m h0 n r a) ∧ X (46 + r) = nV m h0 n r) → (∀ r a, 8 ≤ r → r < 14 → a < 3 → r ≠ 8 + a → r ≠ 11 + a → X (4 + (3 * r + a)) = 0) → (∀ r, 8 ≤ r → r < 11 → X (46 + r) = 0) → (∀ a, a < b → X (4 + (3 * (8 + a) + a)) = 1 ∧ X (4 + (3 * (11 + a) + a)) = -1 ∧ X (46 + (11 + a)) = nV m h0 n (11 + a) ∧ mI k (c + 5) a = ((8 + a : Nat) : Int)) → J 38 2 0 0 [.ref c, .ref w, .int (iI b), uu] [] k (lbQ c m n h0 h) := by
    intro d
    induction d with
    | zero =>
      intro b k X hd f Ck R8 Z8 N8 A8
      obtain rfl : b = 3 := by omega
      refine j_Ch_layBounds_2 ⟨fun _ => j_Ch_layBounds_103 ⟨rfl, f, fun i hi => ⟨(A8 i hi).2.2.2, by show 8 + i < 14; omega⟩, X, Ck, fun r x hr hx => ?_, fun r hr => ?_⟩, fun z => absurd (by decide) z⟩
      · by_cases e : r < 8
        · exact (R8 r e).1 x hx
        · unfold sV
          rw [if_neg e]
          by_cases e1 : r = 8 + x
          · rw [if_pos e1, e1]
            exact (A8 x hx).1
          · rw [if_neg e1]
            by_cases e2 : r = 11 + x
            · rw [if_pos e2, e2]
              exact (A8 x hx).2.1
            · rw [if_neg e2]
              exact Z8 r x (by omega) hr hx e1 e2
      · by_cases e : r < 8
        · exact (R8 r e).2
        · by_cases e1 : r < 11
          · rw [N8 r (by omega) e1]
            unfold nV
            rw [if_neg e, if_pos e1]
          · obtain ⟨x, rfl⟩ : ∃ x, r = 11 + x := ⟨r - 11, by omega⟩
            exact (A8 x (by omega)).2.2.1
    | succ d ih =>
      intro b k X hd f Ck R8 Z8 N8 A8
      have hb3 : b < 3 := by omega
      have D := cl_sk C f.1
      have Wk := wl_sk W f.1
      have lb : mI k (c + 3) b = lmA m h0 n b := by
        rw [f.eq (by unfold lbS chS; omega)]
        exact hl b hb3
      have lc := lmA_c (m := m) (h := h0) n b
      have rl : rI (lmA m h0 n b) := by
        rw [← lb]
        exact rI_mI _ _ _
      have l35 : ∀ y : Int, 0 ≤ y → y ≤ 10000 → -y = nV m h0 n (11 + b) → J 38 35 0 0 [.ref c, .ref w, .int (iI b), uu] [.int (iI y)] k (lbQ c m n h0 h) := by
        intro y y0 y1 ye
        have e1 : (iI 8 + iI (b : Int)) * iI 3 + iI (b : Int) = iI ((3 * (8 + b) + b : Nat) : Int) := by
          rw [iI_add, iI_mul, iI_add]
          congr 1
          omega
        have e2 : (iI 11 + iI (b : Int)) * iI 3 + iI (b : Int) = iI ((3 * (11 + b) + b : Nat) : Int) := by
          rw [iI_add, iI_mul, iI_add]
          congr 1
          omega
        have e3 : iI 11 + iI (b : Int) = iI ((11 + b : Nat) : Int) := by
          rw [iI_add]
          congr 1
        have e4 : iI 8 + iI (b : Int) = iI ((8 + b : Nat) : Int) := by
          rw [iI_add]
          congr 1
        have o1 : sz B6 (((1 : Nat) : Int)).natAbs ≤ 10 := sz6b (show (((1 : Nat) : Int)).natAbs ≤ 10 ^ (6 * 10 - 1) by decide) (by decide)
        have o2 : sz B6 ((-1 : Int)).natAbs ≤ 10 := sz6b (show ((-1 : Int)).natAbs ≤ 10 ^ (6 * 10 - 1) by decide) (by decide)
        refine j_Ch_layBounds_35 ?_
        rw [e1, e2, e3, e4, D.f0, cl (3 * (8 + b) + b) (by omega), D.s _ (by omega), jc11]
        refine ⟨D.o, D.i1 _ (by omega), (Ck _ (by omega)).1.1, jRet_mono (v_set (x := ((1 : Nat) : Int)) Ck (q := 4 + (3 * (8 + b) + b)) (by omega) (by omega) (by rw [rm_c (by omega) (by omega)]; exact o1)) ?_⟩
        intro q1 k1 w1
        obtain ⟨x1, f1, C1⟩ := w1
        have D1 := cl_sk D f1.1
        rw [D1.f0, cl (3 * (11 + b) + b) (by omega), D1.s _ (by omega)]
        refine ⟨x1, D1.o, D1.i1 _ (by omega), (C1 _ (by omega)).1.1, jRet_mono (v_set (x := -1) C1 (q := 4 + (3 * (11 + b) + b)) (by omega) (by omega) (by rw [rm_c (by omega) (by omega)]; exact o2)) ?_⟩
        intro q2 k2 w2
        obtain ⟨x2, f2, C2⟩ := w2
        have D2 := cl_sk D1 f2.1
        rw [D2.f1, cl (11 + b) (by omega), D2.n _ (by omega), iI_neg, iI_64 ⟨by omega, by omega⟩]
        refine ⟨x2, D2.o, D2.i2 _ (by omega), (C2 _ (by omega)).1.1, jRet_mono (v_set (x := -y) C2 (q := 46 + (11 + b)) (by omega) (by omega) (by rw [rm_c (by omega) (by omega)]; exact sz6b (Nat.le_trans (show (-y).natAbs ≤ 10000 by omega) (by decide)) (by decide))) ?_⟩
        intro q3 k3 w3
        obtain ⟨x3, f3, C3⟩ := w3
        have D3 := cl_sk D2 f3.1
        rw [D3.f4, cl b (by omega), iI_add]
        have fa : fg (lbS c) h (sI k3 (c + 5) b (iI ((8 + b : Nat) : Int))) := (((f.tr (f1.mo (fun _ _ z => Or.inl z))).tr (f2.mo (fun _ _ z => Or.inl z))).tr (f3.mo (fun _ _ z => Or.inl z))).wr (Or.inr rfl)
        refine ⟨x3, D3.o, ix_of D3.z5 (by omega) (by omega) (by decide), ih (b + 1) _ _ (by omega) fa (cv_fg C3 (fg.rf.wr (S := fun p _ => p = c + 5) rfl) (fun p q h1 h2 z => by omega)) (fun r hr => ⟨fun x hx => ?_, ?_⟩) (fun r x h1 h2 h3 h4 h5 => ?_) (fun r h1 h2 => ?_) (fun x hx => ?_)⟩
        · rw [setV_n (by omega), setV_n (by omega), setV_n (by omega)]
          exact (R8 r hr).1 x hx
        · rw [setV_n (by omega), setV_n (by omega), setV_n (by omega)]
          exact (R8 r hr).2
        · rw [setV_n (by omega), setV_n (by omega), setV_n (by omega)]
          exact Z8 r x h1 h2 h3 h4 h5
        · rw [setV_n (by omega), setV_n (by omega), setV_n (by omega)]
          exact N8 r h1 h2
        · rw [mI_sI ⟨by omega, by omega⟩]
          by_cases ce : x = b
          · subst ce
            rw [setV_n (by omega), setV_n (by omega), setV_s, setV_n (by omega), setV_s, setV_s, if_pos ⟨rfl, rfl⟩]
            exact ⟨rfl, rfl, ye, rfl⟩
          · rw [setV_n (by omega), setV_n (by omega), setV_n (by omega), setV_n (by omega), setV_n (by omega), setV_n (by omega), setV_n (by omega), setV_n (by omega), setV_n (by omega), if_neg (fun z => ce z.2)]
            have := A8 x (by omega)
            refine ⟨this.1, this.2.1, this.2.2.1, ?_⟩
            rw [f3.eq (by unfold chS; omega), f2.eq (by unfold chS; omega), f1.eq (by unfold chS; omega)]
            exact this.2.2.2
      refine j_Ch_layBounds_2 ?_
      rw [iI_le ⟨by omega, by omega⟩ ⟨by omega, by omega⟩, D.f2, cl b (by omega), gI_mI k (c + 3) b, lb, iI_eq rl ⟨by omega, by omega⟩]
      refine ⟨fun z => by omega, fun _ => ⟨D.o, ixL_of D.z3 (by omega) (by omega) (by decide), fun z => j_Ch_layBounds_21 ?_, fun z => l35 0 (by omega) (by omega) ?_⟩⟩
      · obtain ⟨lm, hlm⟩ : ∃ lm : Nat, lmA m h0 n b = (lm : Int) := ⟨(lmA m h0 n b).toNat, by omega⟩
        have hlm8 : lm < n := by omega
        have wi := Wk.2.2.2.2.2.2.2.2.2 lm (by omega)
        have q := (Q lm hlm8).2
        rw [D.f2, cl b (by omega), gI_mI k (c + 3) b, lb, hlm, Wk.2.2.2.2.2.1, cl lm (by omega), wi.1, gI_mI k (w + 5 + lm) 8, f.eq (a _ _ (by omega)), (CWh.2.2.2 lm (by omega)).2.2.2.2.2.2.2.2, st.1 15 (by decide) (by decide)]
        refine ⟨Wk.1, D.o, ixL_of D.z3 (by omega) (by omega) (by decide), ixR_of Wk.2.2.2.2.2.2.1 (Or.inr (Or.inr rfl)) (by omega) (by omega) (by decide), wi.2, l35 _ q.1 q.2 ?_⟩
        unfold nV
        rw [if_neg (by omega), if_neg (by omega), show 11 + b - 11 = b by omega, if_neg z, hlm, Int.toNat_natCast]
      · unfold nV
        rw [if_neg (by omega), if_neg (by omega), show 11 + b - 11 = b by omega, if_pos z]
        rfl
  refine jRet_of (by decide) (by decide) (Nat.le_of_ble_eq_true rfl) (j_Ch_layBounds_0 ?_)
  exact l2 3 0 h V (by omega) fg.rf CVh hr8 Z.2.1 (fun r h1 h2 => Z.2.2 r (by omega) (by omega)) (fun x hx => by omega)
end LAY2
