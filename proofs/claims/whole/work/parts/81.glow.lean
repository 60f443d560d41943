/-! Glow: the class's elimination in place -/
theorem ixR_of {h : jHp} {p c n : Nat} {a : Int} (z : jz h p = (c, n)) (hc : c = 12 ∨ c = 13 ∨ c = 14) (h0 : 0 ≤ a) (h1 : a < n) (hn : (n : Int) ≤ 2147483648) : ixR h p (iI a) := ⟨by rw [z]; exact hc, by rw [z]; exact iI_in h0 h1 hn⟩
/-- the walls, as they lie -/
def WL (w : Nat) (h : jHp) : Prop := isO h w 7 ∧ gR h w 0 = w + 1 ∧ jz h (w + 1) = (10, 24) ∧ gR h w 1 = w + 2 ∧ jz h (w + 2) = (10, 24) ∧ gR h w 3 = w + 3 ∧ jz h (w + 3) = (14, 8) ∧ gR h w 6 = w + 4 ∧ jz h (w + 4) = (10, 4) ∧ ∀ i, i < 8 → gR h (w + 3) i = w + 5 + i ∧ isO h (w + 5 + i) 5
theorem wl_sk {w : Nat} {h h' : jHp} (W : WL w h) (s : sk h h') : WL w h' := by
  unfold WL isO at *
  rw [s.r, s.z]
  exact W
def TL (t : Nat) (h : jHp) : Prop := isO h t 6 ∧ gR h t 1 = t + 1 ∧ jz h (t + 1) = (12, 8) ∧ ∀ i, i < 8 → gR h (t + 1) i = t + 2 + i ∧ jz h (t + 2 + i) = (10, 8)
theorem tl_sk {t : Nat} {h h' : jHp} (T : TL t h) (s : sk h h') : TL t h' := by
  unfold TL isO at *
  rw [s.r, s.z]
  exact T
/-- the class and the model know the same -/
def CW (w m : Nat) (h : jHp) : Prop := mI h w 2 = mI h m 19 ∧ mI h w 4 = mI h m 20 ∧ (∀ k, k < 24 → mI h (w + 1) k = mI h (m + 5) k ∧ mI h (w + 2) k = mI h (m + 6) k) ∧ ∀ i, i < 8 → mI h (w + 5 + i) 0 = mI h (m + 9) i ∧ mI h (w + 5 + i) 1 = mI h (m + 7) i ∧ mI h (w + 5 + i) 2 = mI h (m + 8) i ∧ mI h (w + 5 + i) 3 = mI h (m + 10) i ∧ mI h (w + 5 + i) 4 = mI h (m + 11) i ∧ mI h (w + 5 + i) 5 = mI h (m + 12) i ∧ mI h (w + 5 + i) 6 = mI h (m + 13) i ∧ mI h (w + 5 + i) 7 = mI h (m + 14) i ∧ mI h (w + 5 + i) 8 = mI h (m + 15) i
def CT (t m : Nat) (h : jHp) : Prop := mI h t 0 = mI h m 21 ∧ ∀ i j, i < 8 → j < 8 → mI h (t + 2 + i) j = mI h (m + 16) (8 * i + j)
/-- nothing of the walls, the table and the model is in S -/
def awy (S : Nat → Nat → Prop) (w t m : Nat) : Prop := ∀ p k, (w ≤ p ∧ p ≤ w + 12 ∨ t ≤ p ∧ p ≤ t + 9 ∨ m ≤ p ∧ p ≤ m + 27) → ¬ S p k
theorem cw_fg {S : Nat → Nat → Prop} {w t m : Nat} {h h' : jHp} (C : CW w m h) (f : fg S h h') (a : awy S w t m) : CW w m h' := by
  obtain ⟨c1, c2, c3, c4⟩ := C
  have em : ∀ p k, p ≤ 27 → mI h' (m + p) k = mI h (m + p) k := fun p k hp => f.eq (a _ _ (by omega))
  have ew : ∀ p k, p ≤ 12 → mI h' (w + p) k = mI h (w + p) k := fun p k hp => f.eq (a _ _ (by omega))
  refine ⟨?_, ?_, fun k hk => ?_, fun i hi => ?_⟩
  · rw [show mI h' w 2 = mI h w 2 from ew 0 2 (by omega), show mI h' m 19 = mI h m 19 from em 0 19 (by omega)]
    exact c1
  · rw [show mI h' w 4 = mI h w 4 from ew 0 4 (by omega), show mI h' m 20 = mI h m 20 from em 0 20 (by omega)]
    exact c2
  · rw [ew 1 k (by omega), em 5 k (by omega), ew 2 k (by omega), em 6 k (by omega)]
    exact c3 k hk
  · have e := fun k => f.eq (p := w + 5 + i) (k := k) (a _ _ (by omega))
    rw [e, e, e, e, e, e, e, e, e, em 9 i (by omega), em 7 i (by omega), em 8 i (by omega), em 10 i (by omega), em 11 i (by omega), em 12 i (by omega), em 13 i (by omega), em 14 i (by omega), em 15 i (by omega)]
    exact c4 i hi
theorem ct_fg {S : Nat → Nat → Prop} {w t m : Nat} {h h' : jHp} (C : CT t m h) (f : fg S h h') (a : awy S w t m) : CT t m h' := by
  obtain ⟨c1, c2⟩ := C
  have em : ∀ p k, p ≤ 27 → mI h' (m + p) k = mI h (m + p) k := fun p k hp => f.eq (a _ _ (by omega))
  refine ⟨?_, fun i j hi hj => ?_⟩
  · rw [show mI h' t 0 = mI h t 0 from f.eq (a _ _ (by omega)), show mI h' m 21 = mI h m 21 from em 0 21 (by omega)]
    exact c1
  · rw [f.eq (p := t + 2 + i) (k := j) (a _ _ (by omega)), em 16 _ (by omega)]
    exact c2 i j hi hj
theorem em_aw {S : Nat → Nat → Prop} {w t m : Nat} {h h' : jHp} (f : fg S h h') (a : awy S w t m) : EM m h' = EM m h := by
  have em : ∀ p k, p ≤ 27 → mI h' (m + p) k = mI h (m + p) k := fun p k hp => f.eq (a _ _ (by omega))
  have e0 : mI h' m 21 = mI h m 21 := em 0 21 (by omega)
  funext u j
  unfold EM
  rw [em 11 _ (by omega), em 10 _ (by omega), em 16 _ (by omega), e0]
theorem sw_aw {S : Nat → Nat → Prop} {w t m n : Nat} {h h' : jHp} (f : fg S h h') (a : awy S w t m) (W : SW m h n) : SW m h' n := by
  have em : ∀ p k, p ≤ 27 → mI h' (m + p) k = mI h (m + p) k := fun p k hp => f.eq (a _ _ (by omega))
  have e0 : ∀ k, mI h' m k = mI h m k := fun k => em 0 k (by omega)
  obtain ⟨s1, s2, s3, s4, s5, s6, s7⟩ := W
  refine ⟨by rw [e0]; exact s1, s2, by rw [e0]; exact s3, by rw [e0]; exact s4, fun i hi => ?_, fun k hk => ?_, fun i hi => ?_⟩
  · rw [em 11 i (by omega), em 10 i (by omega)]
    exact s5 i hi
  · rw [em 16 k (by omega)]
    exact s6 k hk
  · rw [e0, sm_congr (fun j _ => em 16 (8 * i + j) (by omega))]
    exact s7 i hi
/-- the place of a cell of the pulls -/
def pc (g i j : Nat) : Nat := g + 10 + 2 * (8 * i + j)
def GL (g : Nat) (h : jHp) : Prop := isO h g 3 ∧ gR h g 0 = g + 1 ∧ jz h (g + 1) = (13, 64) ∧ gR h g 1 = g + 2 ∧ gR h g 2 = g + 4 ∧ gR h g 3 = g + 6 ∧ gR h g 4 = g + 8 ∧ ∀ k, k < 64 → gR h (g + 1) k = g + 10 + 2 * k
theorem gl_sk {g : Nat} {h h' : jHp} (G : GL g h) (s : sk h h') : GL g h' := by
  unfold GL isO at *
  rw [s.r, s.z]
  exact G
/-- its numbers, whatever they are -/
def GN (g : Nat) (h : jHp) : Prop := (∃ v, BG 10 (g + 2) h v) ∧ (∃ v, BG 20 (g + 4) h v) ∧ (∃ v, BG 20 (g + 6) h v) ∧ (∃ v, BG 20 (g + 8) h v) ∧ ∀ i j, i < 8 → j < 8 → ∃ v, BG 10 (pc g i j) h v
def glS (g p k : Nat) : Prop := g + 2 ≤ p ∧ p ≤ g + 137
def gcT (E : Nat → Nat → Int) (k i j : Nat) : Int := vM E k i (if j < k then 9 + j else j)
theorem mn_unit {E : Nat → Nat → Int} {k r j : Nat} (h : ∀ t, t ≤ k → pp E t ≠ 0) (h0 : ∀ t, t < k → E t j = 0) : mn E k r j = pp E k * E r j := by
  obtain ⟨W, w, hW, h1, _⟩ := rel_k k h r
  refine Int.eq_of_mul_eq_mul_left hW ?_
  rw [h1 j, sm_z (fun t ht => by rw [h0 t ht, Int.mul_zero]), Int.sub_zero, Int.mul_assoc]
theorem cT_far {E : Nat → Nat → Int} {n k i : Nat} (D : Dm E n) (hn : n ≤ 8) (hk : k < n) (hu : ∀ t, t < 8 → E t (9 + k) = if t = k then 1 else 0) (hi : i < n) : vM E k i (9 + k) = if i = k then pp E k else 0 := by
  have I := iv_all D hn k (by omega)
  have nz : ∀ t, t ≤ k → pp E t ≠ 0 := fun t ht => by
    have := I.1 t ht
    omega
  unfold vM
  rw [if_neg (by omega), mn_unit nz (fun t ht => by rw [hu t (by omega), if_neg (by omega)])]
  unfold rx
  by_cases c : i < k
  · rw [if_pos c, D.2.2.2.1, if_neg (by omega), if_neg (by omega), Int.mul_zero]
  · rw [if_neg c, hu i (by omega)]
    by_cases e : i = k
    · rw [if_pos e, if_pos e, Int.mul_one]
    · rw [if_neg e, if_neg e, Int.mul_zero]
theorem cT_neg {E : Nat → Nat → Int} {n k i : Nat} (D : Dm E n) (hn : n ≤ 8) (hk : k < n) (hu : ∀ t, t < 8 → E t (9 + k) = if t = k then 1 else 0) (hi : i < n) (hik : i ≠ k) : gcT E (k + 1) i k = -gcT E k i k := by
  have I := iv_all D hn k (by omega)
  have hp := I.1 k (Nat.le_refl k)
  have s := v_step (j := 9 + k) D hn hk hik
  rw [cT_far D hn hk hu hi, cT_far D hn hk hu hk, if_neg hik, if_pos rfl] at s
  unfold gcT
  rw [if_pos (Nat.lt_succ_self k), if_neg (Nat.lt_irrefl k)]
  refine Int.eq_of_mul_eq_mul_left (show pp E k ≠ 0 by omega) ?_
  rw [← s]
  grind
theorem cT_step {E : Nat → Nat → Int} {n k i j : Nat} (D : Dm E n) (hn : n ≤ 8) (hk : k < n) (hik : i ≠ k) (hjk : j ≠ k) : (gcT E k k k * gcT E k i j - gcT E k i k * gcT E k k j).tdiv (pp E k) = gcT E (k + 1) i j := by
  have I := iv_all D hn k (by omega)
  have hp := I.1 k (Nat.le_refl k)
  have s := v_step (j := if j < k then 9 + j else j) D hn hk hik
  unfold gcT
  have e : (if j < k + 1 then 9 + j else j) = (if j < k then 9 + j else j) := by
    by_cases c : j < k
    · rw [if_pos c, if_pos (by omega)]
    · rw [if_neg c, if_neg (by omega)]
  rw [e, if_neg (Nat.lt_irrefl k), s, Int.mul_tdiv_cancel_left _ (by omega)]
theorem cT_row {E : Nat → Nat → Int} {n k j : Nat} (D : Dm E n) (hn : n ≤ 8) (hk : k < n) (hj : j < n) (hjk : j ≠ k) : gcT E (k + 1) k j = gcT E k k j := by
  unfold gcT
  by_cases c : j < k
  · rw [if_pos c, if_pos (by omega), v_new D hn hk (Or.inr (by omega))]
  · rw [if_neg c, if_neg (by omega), v_new D hn hk (Or.inl hj)]
theorem cT_piv {E : Nat → Nat → Int} {n k : Nat} (D : Dm E n) (hn : n ≤ 8) (hk : k < n) (hu : ∀ t, t < 8 → E t (9 + k) = if t = k then 1 else 0) : gcT E (k + 1) k k = pp E k ∧ gcT E k k k = pp E (k + 1) := by
  refine ⟨?_, ?_⟩
  · unfold gcT
    rw [if_pos (Nat.lt_succ_self k), v_new D hn hk (Or.inr (by omega)), cT_far D hn hk hu hk, if_pos rfl]
  · unfold gcT vM rx
    rw [if_neg (Nat.lt_irrefl k), if_neg (Nat.lt_irrefl k), if_neg (Nat.lt_irrefl k), mn_kk]
theorem cT_bd {E : Nat → Nat → Int} {n k i j : Nat} (D : Dm E n) (hn : n ≤ 8) (hk : k ≤ n) (hi : i < n) (hj : j < n) : (gcT E k i j).natAbs ≤ 10 ^ 45 := by
  unfold gcT
  by_cases c : j < k
  · rw [if_pos c]
    exact v_bd D hn hk hi (Or.inr (by omega))
  · rw [if_neg c]
    exact v_bd D hn hk hi (Or.inl hj)
theorem EM_u {m : Nat} {h : jHp} {k : Nat} : ∀ t, t < 8 → EM m h t (9 + k) = if t = k then 1 else 0 := by
  intro t ht
  unfold EM
  rw [if_pos ht, if_neg (by omega)]
  by_cases c : t = k
  · rw [if_pos c, if_pos (by omega)]
  · rw [if_neg c, if_neg (by omega)]
theorem sz6b {n s : Nat} (h : n ≤ 10 ^ (6 * s - 1)) (hs : 1 ≤ s) : sz B6 n ≤ s := by
  refine (sz_le (by decide)).mpr (Nat.lt_of_le_of_lt h ?_)
  rw [show B6 = 10 ^ 6 from rfl, ← Nat.pow_mul]
  exact Nat.pow_lt_pow_right (by decide) (by omega)
section GLOW
variable {g w t m n : Nat} {h : jHp}
def PU (g n : Nat) (h : jHp) (V : Nat → Nat → Int) : Prop := ∀ i j, i < n → j < n → BG 10 (pc g i j) h (V i j)
theorem c_Glay (G : GL g h) (GNh : GN g h) (W : WL w h) (T : TL t h) (C : CW w m h) (CT' : CT t m h) (S : SW m h n) (a : awy (glS g) w t m) : jRet 49 0 0 [.ref g, .ref w, .ref t] h (fun q h' => q = none ∧ fg (glS g) h h' ∧ PU g n h' (EM m h) ∧ GN g h') := by
  have hn8 := S.2.1
  have hcn : mI h w 4 = (n : Int) := by rw [C.2.1, S.1]
  have kw : ∀ f', fg (glS g) h f' → mI f' w 4 = (n : Int) := fun f' f => by
    rw [f.eq (a _ _ (by omega))]
    exact hcn
  have l2 : ∀ (d i : Nat) (g1 : jHp), i + d = n → fg (glS g) h g1 → GN g g1 → (∀ i' j', i' < i → j' < n → BG 10 (pc g i' j') g1 (EM m h i' j')) → J 49 2 0 0 [.ref g, .ref w, .ref t, .int (iI i), uu, uu, uu] [] g1 (fun q h' => q = none ∧ fg (glS g) h h' ∧ PU g n h' (EM m h) ∧ GN g h') := by
    intro d
    induction d with
    | zero =>
      intro i g1 hi f N1 P1
      obtain rfl : i = n := by omega
      have W1 := wl_sk W f.1
      refine j_Gl_lay_2 ?_
      rw [gI_mI g1 w 4, kw g1 f, iI_le ⟨by omega, by omega⟩ ⟨by omega, by omega⟩]
      exact ⟨W1.1, fun _ => j_Gl_lay_98 ⟨rfl, f, P1, N1⟩, fun z => absurd (Int.le_refl _) z⟩
    | succ d ih =>
      intro i g1 hi f N1 P1
      have hin : i < n := by omega
      have W1 := wl_sk W f.1
      have l21 : ∀ (e j : Nat) (g2 : jHp), j + e = n → fg (glS g) h g2 → GN g g2 → (∀ i' j', (i' < i ∧ j' < n ∨ i' = i ∧ j' < j) → BG 10 (pc g i' j') g2 (EM m h i' j')) → J 49 21 0 0 [.ref g, .ref w, .ref t, .int (iI i), .ref (w + 5 + i), .int (iI j), uu] [] g2 (fun q h' => q = none ∧ fg (glS g) h h' ∧ PU g n h' (EM m h) ∧ GN g h') := by
        intro e
        induction e with
        | zero =>
          intro j g2 hj f2 N2 P2
          obtain rfl : j = n := by omega
          have W2 := wl_sk W f2.1
          refine j_Gl_lay_21 ?_
          rw [gI_mI g2 w 4, kw g2 f2, iI_le ⟨by omega, by omega⟩ ⟨by omega, by omega⟩]
          refine ⟨W2.1, fun _ => j_Gl_lay_92 ?_, fun z => absurd (Int.le_refl _) z⟩
          rw [iI_add]
          exact ih (i + 1) g2 (by omega) f2 N2 (fun i' j' h1 h2 => P2 i' j' (by omega))
        | succ e ih2 =>
          intro j g2 hj f2 N2 P2
          have hjn : j < n := by omega
          have W2 := wl_sk W f2.1
          have T2 := tl_sk T f2.1
          have G2 := gl_sk G f2.1
          have ci := (cw_fg C f2 a).2.2.2 i (by omega)
          have ct := ct_fg CT' f2 a
          have em : ∀ p k, p ≤ 27 → mI g2 (m + p) k = mI h (m + p) k := fun p k hp => f2.eq (a _ _ (by omega))
          have e0 : mI g2 m 21 = mI h m 21 := em 0 21 (by omega)
          have tb1 := tab_le S hin (show j < 8 by omega)
          have tb2 := S.2.2.2.2.2.1 (8 * i + j) (by omega)
          have s5 := S.2.2.2.2.1 i hin
          have s3 := S.2.2.1
          have s4 := S.2.2.2.1
          obtain ⟨v0, V0⟩ := N2.2.2.2.2 i j (by omega) (by omega)
          have bE := EM_bd S hin hjn
          have pg : gR g2 (g + 1) (8 * i + j) = pc g i j := G2.2.2.2.2.2.2.2 (8 * i + j) (by omega)
          have go : ∀ y0 : Int, y0 = (if i = j then mI h (m + 11) i * mI h m 21 else 0) → J 49 50 0 0 [.ref g, .ref w, .ref t, .int (iI i), .ref (w + 5 + i), .int (iI j), uu] [.int (iI y0)] g2 (fun q h' => q = none ∧ fg (glS g) h h' ∧ PU g n h' (EM m h) ∧ GN g h') := by
            intro y0 hy
            refine j_Gl_lay_50 ?_
            simp only [iI_mul, iI_add]
            rw [G2.2.1, T2.2.1, iI_cl (by omega) (by omega), iI_cl (by omega) (by omega), iI_cl (by omega) (by omega), Int.toNat_natCast, Int.toNat_natCast, show ((i : Int) * 8 + (j : Int)).toNat = 8 * i + j by omega, (T2.2.2.2 i (by omega)).1, pg, gI_mI g2 (w + 5 + i) 3, ci.2.2.2.1, em 10 i (by omega), gI_mI g2 (t + 2 + i) j, ct.2 i j (by omega) (by omega), em 16 _ (by omega), iI_mul, iI_sub]
            have eE : y0 - mI h (m + 10) i * mI h (m + 16) (8 * i + j) = EM m h i j := by
              unfold EM
              rw [if_pos (by omega), if_pos (by omega), hy]
            rw [eE, iI_64 ⟨by omega, by omega⟩]
            refine ⟨G2.1, ixR_of G2.2.2.1 (Or.inr (Or.inl rfl)) (by omega) (by omega) (by decide), (W2.2.2.2.2.2.2.2.2.2 i (by omega)).2, T2.1, ixR_of T2.2.2.1 (Or.inl rfl) (by omega) (by omega) (by decide), ixL_of (T2.2.2.2 i (by omega)).2 (by omega) (by omega) (by decide), V0.1.1, jRet_mono (c_Bset V0 (by omega) (sz6b (show (EM m h i j).natAbs ≤ 10 ^ (6 * 10 - 1) from Nat.le_trans (show (EM m h i j).natAbs ≤ 200000 by omega) (by decide)) (by decide))) ?_⟩
            intro q3 h3 w3
            obtain ⟨x1, x2, x3⟩ := w3
            refine ⟨x1, ?_⟩
            have aw : ∀ p k, fbS (pc g i j) p k → glS g p k := fun p k z => by
              unfold fbS pc at z
              unfold glS
              omega
            refine ih2 (j + 1) h3 (by omega) (f2.tr (x2.mo aw)) ?_ (fun i' j' hp => ?_)
            · obtain ⟨⟨u1, U1⟩, ⟨u2, U2⟩, ⟨u3, U3⟩, ⟨u4, U4⟩, U5⟩ := N2
              have k1 : ∀ c, c ≤ 8 → ∀ k, ¬ fbS (pc g i j) (g + c) k ∧ ¬ fbS (pc g i j) (g + c + 1) k := fun c hc k => by
                unfold fbS pc
                omega
              refine ⟨⟨_, bg_fg U1 x2 (k1 2 (by decide))⟩, ⟨_, bg_fg U2 x2 (k1 4 (by decide))⟩, ⟨_, bg_fg U3 x2 (k1 6 (by decide))⟩, ⟨_, bg_fg U4 x2 (k1 8 (by decide))⟩, fun i' j' h1 h2 => ?_⟩
              by_cases q : i' = i ∧ j' = j
              · rw [q.1, q.2]
                exact ⟨_, x3⟩
              · obtain ⟨u, U⟩ := U5 i' j' h1 h2
                exact ⟨u, bg_fg U x2 (fun k => by unfold fbS pc; omega)⟩
            · by_cases q : i' = i ∧ j' = j
              · rw [q.1, q.2]
                exact x3
              · exact bg_fg (P2 i' j' (by omega)) x2 (fun k => by unfold fbS pc; omega)
          refine j_Gl_lay_21 ?_
          rw [gI_mI g2 w 4, kw g2 f2, iI_le ⟨by omega, by omega⟩ ⟨by omega, by omega⟩, iI_eq ⟨by omega, by omega⟩ ⟨by omega, by omega⟩, gI_mI g2 (w + 5 + i) 4, ci.2.2.2.2.1, em 11 i (by omega), gI_mI g2 t 0, ct.1, e0, iI_mul]
          exact ⟨W2.1, fun z => by omega, fun _ => ⟨fun z => j_Gl_lay_49 (go 0 (by rw [if_neg (by omega)])), fun z => ⟨(W2.2.2.2.2.2.2.2.2.2 i (by omega)).2, T2.1, go _ (by rw [if_pos (by omega)])⟩⟩⟩
      refine j_Gl_lay_2 ?_
      rw [gI_mI g1 w 4, kw g1 f, iI_le ⟨by omega, by omega⟩ ⟨by omega, by omega⟩, W1.2.2.2.2.2.1, iI_cl (by omega) (by omega), Int.toNat_natCast, (W1.2.2.2.2.2.2.2.2.2 i (by omega)).1]
      exact ⟨W1.1, fun z => by omega, fun _ => ⟨W1.1, ixR_of W1.2.2.2.2.2.2.1 (Or.inr (Or.inr rfl)) (by omega) (by omega) (by decide), l21 n 0 g1 (by omega) f N1 (fun i' j' hp => P1 i' j' (by omega) (by omega))⟩⟩
  refine jRet_of (by decide) (by decide) (Nat.le_of_ble_eq_true rfl) (j_Gl_lay_0 ?_)
  exact l2 n 0 h (by omega) fg.rf GNh (fun i' j' h1 => by omega)
end GLOW
