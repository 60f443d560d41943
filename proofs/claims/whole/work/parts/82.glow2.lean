/-! Glow: turnAbout -/
section GLOW
variable {g w t m n : Nat} {h : jHp}
theorem bg_eq {r b : Nat} {h : jHp} {v w : Int} (B : BG r b h v) (e : v = w) : BG r b h w := e ▸ B
theorem sz8 {v : Int} (h : v.natAbs ≤ 10 ^ 45) : sz B6 v.natAbs ≤ 8 := sz6b (Nat.le_trans h (by decide)) (by decide)
/-- only the cells of the first n rows and columns, and the numbers beside -/
def gnS (g n p k : Nat) : Prop := (g + 2 ≤ p ∧ p ≤ g + 9) ∨ ∃ i j, i < n ∧ j < n ∧ fbS (pc g i j) p k
theorem gn_gl (hn : n ≤ 8) {p k : Nat} (z : gnS g n p k) : glS g p k := by
  rcases z with z | ⟨i, j, h1, h2, z⟩
  · unfold glS
    omega
  · unfold fbS pc at z
    unfold glS
    omega
theorem gcTS {i j : Nat} (hi : i < n) (hj : j < n) : ∀ p k, fbS (pc g i j) p k → gnS g n p k := fun p k z => Or.inr ⟨i, j, hi, hj, z⟩
theorem glc {c : Nat} (hc : 2 ≤ c) (hc2 : c ≤ 8) : ∀ p k, fbS (g + c) p k → gnS g n p k := fun p k z => Or.inl (by
  unfold fbS at z
  omega)
/-- one step of the inverse: what lies where while k is turned about -/
def GT (g n : Nat) (h : jHp) (V : Nat → Nat → Int) (u : Int) : Prop := PU g n h V ∧ BG 10 (g + 2) h u ∧ (∃ v, BG 20 (g + 4) h v) ∧ (∃ v, BG 20 (g + 6) h v) ∧ ∃ v, BG 20 (g + 8) h v
theorem c_Gturn {k : Nat} {E : Nat → Nat → Int} (G : GL g h) (D : Dm E n) (hn : n ≤ 8) (hk : k < n) (hu : ∀ t, t < 8 → E t (9 + k) = if t = k then 1 else 0) (P : GT g n h (gcT E k) (pp E k)) : jRet 50 0 0 [.ref g, .int (iI k), .int (iI n)] h (fun q h' => q = none ∧ fg (gnS g n) h h' ∧ GT g n h' (gcT E (k + 1)) (pp E (k + 1))) := by
  have hpk := (iv_all D hn k (by omega)).1 k (Nat.le_refl k)
  have hpb : (pp E k).natAbs ≤ 10 ^ 45 := by
    have a1 := pp_bd D hn k (by omega)
    have a2 : (10 : Int) ^ (5 * k) ≤ 10 ^ 40 := p10_mono (by omega)
    have a4 : ((10 : Int) ^ 40) = ((10 ^ 40 : Nat) : Int) := by decide
    have a5 : (10 ^ 40 : Nat) ≤ 10 ^ 45 := by decide
    omega
  have pcr : ∀ (g1 : jHp) (i j : Nat), GL g g1 → i < n → j < n → gR g1 (g + 1) (iI ((i : Int) * 8 + (j : Int))).toNatClampNeg = pc g i j := by
    intro g1 i j G1 hi hj
    rw [iI_cl (by omega) (by omega), show ((i : Int) * 8 + (j : Int)).toNat = 8 * i + j by omega]
    exact G1.2.2.2.2.2.2.2 (8 * i + j) (by omega)
  have ixr : ∀ (g1 : jHp) (i j : Nat), GL g g1 → i < n → j < n → ixR g1 (g + 1) (iI ((i : Int) * 8 + (j : Int))) := fun g1 i j G1 hi hj => ixR_of G1.2.2.1 (Or.inr (Or.inl rfl)) (by omega) (by omega) (by decide)
  have apc : ∀ i j i' j', i < n → j < n → i' < n → j' < n → ¬ (i = i' ∧ j = j') → ∀ q, ¬ fbS (pc g i' j') (pc g i j) q ∧ ¬ fbS (pc g i' j') (pc g i j + 1) q := fun i j i' j' h1 h2 h3 h4 h5 q => by
    unfold fbS pc
    omega
  have apg : ∀ i j c, i < n → j < n → c ≤ 8 → ∀ q, ¬ fbS (g + c) (pc g i j) q ∧ ¬ fbS (g + c) (pc g i j + 1) q := fun i j c h1 h2 h3 q => by
    unfold fbS pc
    omega
  have aph : ∀ i j c, i < n → j < n → c ≤ 8 → ∀ q, ¬ fbS (pc g i j) (g + c) q ∧ ¬ fbS (pc g i j) (g + c + 1) q := fun i j c h1 h2 h3 q => by
    unfold fbS pc
    omega
  have apq : ∀ c d, c ≠ d → c + 1 ≠ d → d + 1 ≠ c → ∀ q, ¬ fbS (g + d) (g + c) q ∧ ¬ fbS (g + d) (g + c + 1) q := fun c d h1 h2 h3 q => by
    unfold fbS
    omega
  -- the end: whole and pivot change places
  have l171 : ∀ g1 : jHp, fg (gnS g n) h g1 → GT g n g1 (fun i j => if i = k ∧ j = k then gcT E k k k else gcT E (k + 1) i j) (pp E k) → J 50 171 0 0 [.ref g, uu, uu, .ref (pc g k k), uu, uu, uu] [] g1 (fun q h' => q = none ∧ fg (gnS g n) h h' ∧ GT g n h' (gcT E (k + 1)) (pp E (k + 1))) := by
    intro g1 f1 P1
    obtain ⟨p1, p2, ⟨u4, p4⟩, ⟨u6, p6⟩, ⟨u8, p8⟩⟩ := P1
    obtain ⟨cp1, cp2⟩ := cT_piv D hn hk hu
    have G1 := gl_sk G f1.1
    have pv := p1 k k hk hk
    have pv' : BG 10 (pc g k k) g1 (pp E (k + 1)) := by
      have e : (fun i j => if i = k ∧ j = k then gcT E k k k else gcT E (k + 1) i j) k k = gcT E k k k := if_pos ⟨rfl, rfl⟩
      exact bg_eq (bg_eq pv e) cp2
    have hp1b : (pp E (k + 1)).natAbs ≤ 10 ^ 45 := by
      rw [← cp2]
      exact cT_bd D hn (by omega) hk hk
    refine j_Gl_turnAbout_171 ?_
    rw [G1.2.2.2.2.2.2.1, G1.2.2.2.1]
    refine ⟨G1.1, G1.1, p8.1.1, jRet_mono (c_Bcopy p8 p2 (by omega) (Nat.le_trans (sz8 hpb) (by decide))) ?_⟩
    intro q2 h2 w2
    obtain ⟨e2, f2, s8⟩ := w2
    have G2 := gl_sk G1 f2.1
    have p22 := bg_fg p2 f2 (apq 2 8 (by omega) (by omega) (by omega))
    have pv2 := bg_fg pv' f2 (apg k k 8 hk hk (by decide))
    rw [G2.2.2.2.1]
    refine ⟨e2, G2.1, p22.1.1, jRet_mono (c_Bcopy p22 pv2 (by unfold pc; omega) (Nat.le_trans (sz8 hp1b) (by decide))) ?_⟩
    intro q3 h3 w3
    obtain ⟨e3, f3, s2⟩ := w3
    have G3 := gl_sk G2 f3.1
    have pv3 := bg_fg pv2 f3 (apg k k 2 hk hk (by decide))
    have s83 := bg_fg s8 f3 (apq 8 2 (by omega) (by omega) (by omega))
    rw [G3.2.2.2.2.2.2.1]
    refine ⟨e3, G3.1, pv3.1.1, jRet_mono (c_Bcopy pv3 s83 (by unfold pc; omega) (Nat.le_trans (sz8 hpb) (by decide))) ?_⟩
    intro q4 h4 w4
    obtain ⟨e4, f4, sp⟩ := w4
    refine ⟨e4, rfl, ((f1.tr (f2.mo (glc (by decide) (by decide)))).tr (f3.mo (glc (by decide) (by decide)))).tr (f4.mo (gcTS (by omega) (by omega))), ?_, bg_fg s2 f4 (aph k k 2 hk hk (by decide)), ⟨_, bg_fg (bg_fg (bg_fg p4 f2 (apq 4 8 (by omega) (by omega) (by omega))) f3 (apq 4 2 (by omega) (by omega) (by omega))) f4 (aph k k 4 hk hk (by decide))⟩, ⟨_, bg_fg (bg_fg (bg_fg p6 f2 (apq 6 8 (by omega) (by omega) (by omega))) f3 (apq 6 2 (by omega) (by omega) (by omega))) f4 (aph k k 6 hk hk (by decide))⟩, ⟨_, bg_fg s83 f4 (aph k k 8 hk hk (by decide))⟩⟩
    intro i j hi hj
    by_cases c : i = k ∧ j = k
    · rw [c.1, c.2, cp1]
      exact sp
    · have := p1 i j hi hj
      have e : (fun i j => if i = k ∧ j = k then gcT E k k k else gcT E (k + 1) i j) i j = gcT E (k + 1) i j := if_neg c
      exact bg_fg (bg_fg (bg_fg (bg_eq this e) f2 (apg i j 8 hi hj (by decide))) f3 (apg i j 2 hi hj (by decide))) f4 (apc i j k k hi hj hk hk c)
  -- the column turns its sign
  have l138 : ∀ (d i : Nat) (g1 : jHp), i + d = n → fg (gnS g n) h g1 → GT g n g1 (fun i' j' => if j' = k then (if i' < i ∧ i' ≠ k then gcT E (k + 1) i' j' else gcT E k i' j') else gcT E (k + 1) i' j') (pp E k) → J 50 138 0 0 [.ref g, .int (iI k), .int (iI n), .ref (pc g k k), .int (iI i), uu, uu] [] g1 (fun q h' => q = none ∧ fg (gnS g n) h h' ∧ GT g n h' (gcT E (k + 1)) (pp E (k + 1))) := by
    intro d
    induction d with
    | zero =>
      intro i g1 hi f1 P1
      obtain rfl : i = n := by omega
      refine j_Gl_turnAbout_138 ⟨fun _ => l171 g1 f1 ⟨fun i' j' h1 h2 => ?_, P1.2⟩, fun z => absurd ((iI_le ⟨by omega, by omega⟩ ⟨by omega, by omega⟩).mpr (by omega)) z⟩
      have := P1.1 i' j' h1 h2
      have e : (if j' = k then (if i' < i ∧ i' ≠ k then gcT E (k + 1) i' j' else gcT E k i' j') else gcT E (k + 1) i' j') = (if i' = k ∧ j' = k then gcT E k k k else gcT E (k + 1) i' j') := by
        by_cases c1 : j' = k
        · rw [if_pos c1]
          by_cases c2 : i' = k
          · rw [if_neg (fun z => z.2 c2), if_pos ⟨c2, c1⟩, c1, c2]
          · rw [if_pos ⟨h1, c2⟩, if_neg (fun z => c2 z.1)]
        · rw [if_neg c1, if_neg (fun z => c1 z.2)]
      exact bg_eq this e
    | succ d ih =>
      intro i g1 hi f1 P1
      have hin : i < n := by omega
      have G1 := gl_sk G f1.1
      refine j_Gl_turnAbout_138 ?_
      simp only [iI_mul, iI_add]
      rw [iI_le ⟨by omega, by omega⟩ ⟨by omega, by omega⟩, iI_eq ⟨by omega, by omega⟩ ⟨by omega, by omega⟩, G1.2.1, pcr g1 i k G1 hin hk]
      refine ⟨fun z => by omega, fun _ => ⟨fun z => j_Gl_turnAbout_165 ?_, fun z => ?_⟩⟩
      · rw [iI_add]
        refine ih (i + 1) g1 (by omega) f1 ⟨fun i' j' h1 h2 => ?_, P1.2⟩
        have := P1.1 i' j' h1 h2
        have e : (if j' = k then (if i' < i + 1 ∧ i' ≠ k then gcT E (k + 1) i' j' else gcT E k i' j') else gcT E (k + 1) i' j') = (if j' = k then (if i' < i ∧ i' ≠ k then gcT E (k + 1) i' j' else gcT E k i' j') else gcT E (k + 1) i' j') := by
          by_cases c1 : j' = k
          · rw [if_pos c1, if_pos c1]
            by_cases c2 : i' < i ∧ i' ≠ k
            · rw [if_pos c2, if_pos ⟨(by omega), c2.2⟩]
            · rw [if_neg c2, if_neg (by omega)]
          · rw [if_neg c1, if_neg c1]
        exact bg_eq this e.symm
      · have hik : i ≠ k := by omega
        have c0 := P1.1 i k hin hk
        have e0 : (if k = k then (if i < i ∧ i ≠ k then gcT E (k + 1) i k else gcT E k i k) else gcT E (k + 1) i k) = gcT E k i k := by
          rw [if_pos rfl, if_neg (fun y => Nat.lt_irrefl i y.1)]
        have c1 : BG 10 (pc g i k) g1 (gcT E k i k) := bg_eq c0 e0
        refine ⟨G1.1, ixr g1 i k G1 hin hk, c1.1.1, jRet_mono (c_Bnegate c1) ?_⟩
        intro q2 h2 w2
        obtain ⟨e2, f2, s2⟩ := w2
        rw [← cT_neg D hn hk hu hin hik] at s2
        refine ⟨e2, j_Gl_turnAbout_165 ?_⟩
        rw [iI_add]
        obtain ⟨p1, p2, ⟨u4, p4⟩, ⟨u6, p6⟩, ⟨u8, p8⟩⟩ := P1
        refine ih (i + 1) h2 (by omega) (f1.tr (f2.mo (gcTS (by omega) (by omega)))) ⟨fun i' j' h1 h2 => ?_, bg_fg p2 f2 (aph i k 2 hin hk (by decide)), ⟨_, bg_fg p4 f2 (aph i k 4 hin hk (by decide))⟩, ⟨_, bg_fg p6 f2 (aph i k 6 hin hk (by decide))⟩, ⟨_, bg_fg p8 f2 (aph i k 8 hin hk (by decide))⟩⟩
        by_cases c2 : i' = i ∧ j' = k
        · have e : (if j' = k then (if i' < i + 1 ∧ i' ≠ k then gcT E (k + 1) i' j' else gcT E k i' j') else gcT E (k + 1) i' j') = gcT E (k + 1) i k := by
            rw [if_pos c2.2, if_pos (by omega), c2.1, c2.2]
          exact bg_eq (by rw [c2.1, c2.2]; exact s2) e.symm
        · have := p1 i' j' h1 h2
          have e : (if j' = k then (if i' < i + 1 ∧ i' ≠ k then gcT E (k + 1) i' j' else gcT E k i' j') else gcT E (k + 1) i' j') = (if j' = k then (if i' < i ∧ i' ≠ k then gcT E (k + 1) i' j' else gcT E k i' j') else gcT E (k + 1) i' j') := by
            by_cases c3 : j' = k
            · rw [if_pos c3, if_pos c3]
              by_cases c4 : i' < i ∧ i' ≠ k
              · rw [if_pos c4, if_pos ⟨(by omega), c4.2⟩]
              · rw [if_neg c4, if_neg (by omega)]
            · rw [if_neg c3, if_neg c3]
          exact bg_eq (bg_fg this f2 (apc i' j' i k h1 h2 hin hk c2)) e.symm
  -- the cells
  have l15 : ∀ (d i : Nat) (g1 : jHp), i + d = n → fg (gnS g n) h g1 → GT g n g1 (fun i' j' => if j' ≠ k ∧ i' ≠ k ∧ i' < i then gcT E (k + 1) i' j' else gcT E k i' j') (pp E k) → J 50 15 0 0 [.ref g, .int (iI k), .int (iI n), .ref (pc g k k), .int (iI i), uu, uu] [] g1 (fun q h' => q = none ∧ fg (gnS g n) h h' ∧ GT g n h' (gcT E (k + 1)) (pp E (k + 1))) := by
    intro d
    induction d with
    | zero =>
      intro i g1 hi f1 P1
      obtain rfl : i = n := by omega
      refine j_Gl_turnAbout_15 ⟨fun _ => j_Gl_turnAbout_135 (l138 i 0 g1 (by omega) f1 ⟨fun i' j' h1 h2 => ?_, P1.2⟩), fun z => absurd ((iI_le ⟨by omega, by omega⟩ ⟨by omega, by omega⟩).mpr (by omega)) z⟩
      have := P1.1 i' j' h1 h2
      have e : (if j' = k then (if i' < 0 ∧ i' ≠ k then gcT E (k + 1) i' j' else gcT E k i' j') else gcT E (k + 1) i' j') = (if j' ≠ k ∧ i' ≠ k ∧ i' < i then gcT E (k + 1) i' j' else gcT E k i' j') := by
        by_cases c1 : j' = k
        · rw [if_pos c1, if_neg (by omega), if_neg (fun z => z.1 c1)]
        · rw [if_neg c1]
          by_cases c2 : i' = k
          · rw [if_neg (fun z => z.2.1 c2), c2, cT_row D hn hk h2 c1]
          · rw [if_pos ⟨c1, c2, h1⟩]
      exact bg_eq this e.symm
    | succ d ih =>
      intro i g1 hi f1 P1
      have hin : i < n := by omega
      have l129 : ∀ g2 : jHp, fg (gnS g n) h g2 → GT g n g2 (fun i' j' => if j' ≠ k ∧ i' ≠ k ∧ i' < i + 1 then gcT E (k + 1) i' j' else gcT E k i' j') (pp E k) → J 50 129 0 0 [.ref g, .int (iI k), .int (iI n), .ref (pc g k k), .int (iI i), uu, uu] [] g2 (fun q h' => q = none ∧ fg (gnS g n) h h' ∧ GT g n h' (gcT E (k + 1)) (pp E (k + 1))) := by
        intro g2 f2 P2
        refine j_Gl_turnAbout_129 ?_
        rw [iI_add]
        exact ih (i + 1) g2 (by omega) f2 P2
      have l24 : ∀ (e j : Nat) (g2 : jHp), j + e = n → fg (gnS g n) h g2 → GT g n g2 (fun i' j' => if j' ≠ k ∧ i' ≠ k ∧ (i' < i ∨ i' = i ∧ j' < j) then gcT E (k + 1) i' j' else gcT E k i' j') (pp E k) → J 50 24 0 0 [.ref g, .int (iI k), .int (iI n), .ref (pc g k k), .int (iI i), .int (iI j), uu] [] g2 (fun q h' => q = none ∧ fg (gnS g n) h h' ∧ GT g n h' (gcT E (k + 1)) (pp E (k + 1))) := by
        intro e
        induction e with
        | zero =>
          intro j g2 hj f2 P2
          obtain rfl : j = n := by omega
          have fin : J 50 129 0 0 [.ref g, .int (iI k), .int (iI j), .ref (pc g k k), .int (iI i), uu, uu] [] g2 (fun q h' => q = none ∧ fg (gnS g j) h h' ∧ GT g j h' (gcT E (k + 1)) (pp E (k + 1))) := by
            refine l129 g2 f2 ⟨fun i' j' h1 h2 => ?_, P2.2⟩
            have := P2.1 i' j' h1 h2
            have ee : (if j' ≠ k ∧ i' ≠ k ∧ i' < i + 1 then gcT E (k + 1) i' j' else gcT E k i' j') = (if j' ≠ k ∧ i' ≠ k ∧ (i' < i ∨ i' = i ∧ j' < j) then gcT E (k + 1) i' j' else gcT E k i' j') := by
              by_cases c1 : j' ≠ k ∧ i' ≠ k ∧ i' < i + 1
              · rw [if_pos c1, if_pos (by omega)]
              · rw [if_neg c1, if_neg (by omega)]
            exact bg_eq this ee.symm
          exact j_Gl_turnAbout_24 ⟨fun _ => fin, fun _ => ⟨fun _ => fin, fun z => absurd ((iI_le ⟨by omega, by omega⟩ ⟨by omega, by omega⟩).mpr (by omega)) z⟩⟩
        | succ e ih2 =>
          intro j g2 hj f2 P2
          have hjn : j < n := by omega
          have G2 := gl_sk G f2.1
          have skip : j = k → J 50 123 0 0 [.ref g, .int (iI k), .int (iI n), .ref (pc g k k), .int (iI i), .int (iI j), uu] [] g2 (fun q h' => q = none ∧ fg (gnS g n) h h' ∧ GT g n h' (gcT E (k + 1)) (pp E (k + 1))) := by
            intro hjk
            refine j_Gl_turnAbout_123 ?_
            rw [iI_add]
            refine ih2 (j + 1) g2 (by omega) f2 ⟨fun i' j' h1 h2 => ?_, P2.2⟩
            have := P2.1 i' j' h1 h2
            have ee : (if j' ≠ k ∧ i' ≠ k ∧ (i' < i ∨ i' = i ∧ j' < j + 1) then gcT E (k + 1) i' j' else gcT E k i' j') = (if j' ≠ k ∧ i' ≠ k ∧ (i' < i ∨ i' = i ∧ j' < j) then gcT E (k + 1) i' j' else gcT E k i' j') := by
              by_cases c1 : j' ≠ k ∧ i' ≠ k ∧ (i' < i ∨ i' = i ∧ j' < j)
              · rw [if_pos c1, if_pos (by omega)]
              · rw [if_neg c1, if_neg (by omega)]
            exact bg_eq this ee.symm
          refine j_Gl_turnAbout_24 ?_
          simp only [iI_mul, iI_add]
          rw [iI_eq ⟨by omega, by omega⟩ ⟨by omega, by omega⟩, iI_le ⟨by omega, by omega⟩ ⟨by omega, by omega⟩, iI_eq ⟨by omega, by omega⟩ ⟨by omega, by omega⟩]
          refine ⟨fun z => l129 g2 f2 ⟨fun i' j' h1 h2 => ?_, P2.2⟩, fun z => ⟨fun z2 => by omega, fun _ => ⟨fun z3 => skip (by omega), fun z3 => ?_⟩⟩⟩
          · have := P2.1 i' j' h1 h2
            have ee : (if j' ≠ k ∧ i' ≠ k ∧ i' < i + 1 then gcT E (k + 1) i' j' else gcT E k i' j') = (if j' ≠ k ∧ i' ≠ k ∧ (i' < i ∨ i' = i ∧ j' < j) then gcT E (k + 1) i' j' else gcT E k i' j') := by
              by_cases c1 : j' ≠ k ∧ i' ≠ k ∧ i' < i + 1
              · rw [if_pos c1, if_pos (by omega)]
              · rw [if_neg c1, if_neg (by omega)]
            exact bg_eq this ee.symm
          · have hik : i ≠ k := by omega
            have hjk : j ≠ k := by omega
            obtain ⟨p1, p2, ⟨u4, p4⟩, ⟨u6, p6⟩, ⟨u8, p8⟩⟩ := P2
            have old : ∀ i' j', i' < n → j' < n → ¬ (j' ≠ k ∧ i' ≠ k ∧ (i' < i ∨ i' = i ∧ j' < j)) → BG 10 (pc g i' j') g2 (gcT E k i' j') := fun i' j' h1 h2 h3 => by
              have := p1 i' j' h1 h2
              have ee : (if j' ≠ k ∧ i' ≠ k ∧ (i' < i ∨ i' = i ∧ j' < j) then gcT E (k + 1) i' j' else gcT E k i' j') = gcT E k i' j' := if_neg h3
              exact bg_eq this ee
            have cc := old i j hin hjn (by omega)
            have ckk := old k k hk hk (by omega)
            have cik := old i k hin hk (by omega)
            have ckj := old k j hk hjn (by omega)
            have b1 := cT_bd D hn (Nat.le_of_lt hk) hk hk
            have b2 := cT_bd D hn (Nat.le_of_lt hk) hin hjn
            have b3 := cT_bd D hn (Nat.le_of_lt hk) hin hk
            have b4 := cT_bd D hn (Nat.le_of_lt hk) hk hjn
            have z1 := sz8 b1
            have z2' := sz8 b2
            have z3' := sz8 b3
            have z4 := sz8 b4
            rw [G2.2.1, pcr g2 i j G2 hin hjn, G2.2.2.2.2.2.1]
            refine ⟨G2.1, ixr g2 i j G2 hin hjn, G2.1, p6.1.1, jRet_mono (c_BsetProduct p6 ckk cc (by unfold pc; omega) (by unfold pc; omega) (by omega)) ?_⟩
            intro q3 h3 w3
            obtain ⟨e3, f3, s6⟩ := w3
            have G3 := gl_sk G2 f3.1
            rw [G3.2.1, pcr h3 i k G3 hin hk, pcr h3 k j G3 hk hjn, G3.2.2.2.2.2.2.1]
            have p83 := bg_fg p8 f3 (apq 8 6 (by omega) (by omega) (by omega))
            refine ⟨e3, G3.1, G3.1, ixr h3 i k G3 hin hk, G3.1, ixr h3 k j G3 hk hjn, p83.1.1, jRet_mono (c_BsetProduct p83 (bg_fg cik f3 (apg i k 6 hin hk (by decide))) (bg_fg ckj f3 (apg k j 6 hk hjn (by decide))) (by unfold pc; omega) (by unfold pc; omega) (by omega)) ?_⟩
            intro q4 h4 w4
            obtain ⟨e4, f4, s8⟩ := w4
            have G4 := gl_sk G3 f4.1
            rw [G4.2.2.2.2.2.1, G4.2.2.2.2.2.2.1]
            have s64 := bg_fg s6 f4 (apq 6 8 (by omega) (by omega) (by omega))
            have m1 := nA_mul b1 b2
            have m2 := nA_mul b3 b4
            refine ⟨e4, G4.1, G4.1, s64.1.1, jRet_mono (c_Badd (y := 1) s64 s8 (by omega) (Or.inr rfl) (sz6b (Nat.le_trans (Nat.add_le_add m1 m2) (by decide)) (by decide))) ?_⟩
            intro q5 h5 w5
            obtain ⟨e5, f5, s65⟩ := w5
            rw [if_neg (by decide)] at s65
            have G5 := gl_sk G4 f5.1
            rw [G5.2.2.2.2.2.1, G5.2.2.2.1]
            have p25 := bg_fg (bg_fg (bg_fg p2 f3 (apq 2 6 (by omega) (by omega) (by omega))) f4 (apq 2 8 (by omega) (by omega) (by omega))) f5 (apq 2 6 (by omega) (by omega) (by omega))
            have cc5 := bg_fg (bg_fg (bg_fg cc f3 (apg i j 6 hin hjn (by decide))) f4 (apg i j 8 hin hjn (by decide))) f5 (apg i j 6 hin hjn (by decide))
            have ts := cT_step D hn hk hik hjk
            have bq := cT_bd D hn (show k + 1 ≤ n by omega) hin hjn
            have hq : sz B6 ((gcT E k k k * gcT E k i j - gcT E k i k * gcT E k k j).natAbs / (pp E k).natAbs) ≤ 10 := by
              rw [← nat_td, ts]
              exact Nat.le_trans (sz8 bq) (by decide)
            refine ⟨e5, G5.1, G5.1, s65.1.1, jRet_mono (c_Bdivide s65 p25 cc5 (by omega) (by unfold pc; omega) (by unfold pc; omega) (by omega) hq) ?_⟩
            intro q6 h6 w6
            obtain ⟨e6, f6, s66, sc⟩ := w6
            rw [ts] at sc
            refine ⟨e6, j_Gl_turnAbout_123 ?_⟩
            rw [iI_add]
            have dvk : ∀ c, c ≤ 8 → c ≠ 6 → c + 1 ≠ 6 → c ≠ 7 → ∀ q, ¬ dvS (g + 6) (pc g i j) (g + c) q ∧ ¬ dvS (g + 6) (pc g i j) (g + c + 1) q := fun c h1 h2 h3 h4 q => by
              unfold dvS fbS pc
              omega
            have dvp : ∀ i' j', i' < n → j' < n → ¬ (i' = i ∧ j' = j) → ∀ q, ¬ dvS (g + 6) (pc g i j) (pc g i' j') q ∧ ¬ dvS (g + 6) (pc g i j) (pc g i' j' + 1) q := fun i' j' h1 h2 h3 q => by
              unfold dvS fbS pc
              omega
            refine ih2 (j + 1) h6 (by omega) ((((f2.tr (f3.mo (glc (by decide) (by decide)))).tr (f4.mo (glc (by decide) (by decide)))).tr (f5.mo (glc (by decide) (by decide)))).tr (f6.mo (fun p q z => z.elim (glc (by decide) (by decide) p q) (gcTS (by omega) (by omega) p q)))) ⟨fun i' j' h1 h2 => ?_, bg_fg p25 f6 (dvk 2 (by omega) (by omega) (by omega) (by omega)), ⟨_, bg_fg (bg_fg (bg_fg (bg_fg p4 f3 (apq 4 6 (by omega) (by omega) (by omega))) f4 (apq 4 8 (by omega) (by omega) (by omega))) f5 (apq 4 6 (by omega) (by omega) (by omega))) f6 (dvk 4 (by omega) (by omega) (by omega) (by omega))⟩, ⟨_, s66⟩, ⟨_, bg_fg (bg_fg s8 f5 (apq 8 6 (by omega) (by omega) (by omega))) f6 (dvk 8 (by omega) (by omega) (by omega) (by omega))⟩⟩
            by_cases c2 : i' = i ∧ j' = j
            · have ee : (if j' ≠ k ∧ i' ≠ k ∧ (i' < i ∨ i' = i ∧ j' < j + 1) then gcT E (k + 1) i' j' else gcT E k i' j') = gcT E (k + 1) i j := by
                rw [if_pos (by omega), c2.1, c2.2]
              exact bg_eq (by rw [c2.1, c2.2]; exact sc) ee.symm
            · have := p1 i' j' h1 h2
              have ee : (if j' ≠ k ∧ i' ≠ k ∧ (i' < i ∨ i' = i ∧ j' < j + 1) then gcT E (k + 1) i' j' else gcT E k i' j') = (if j' ≠ k ∧ i' ≠ k ∧ (i' < i ∨ i' = i ∧ j' < j) then gcT E (k + 1) i' j' else gcT E k i' j') := by
                by_cases c1 : j' ≠ k ∧ i' ≠ k ∧ (i' < i ∨ i' = i ∧ j' < j)
                · rw [if_pos c1, if_pos (by omega)]
                · rw [if_neg c1, if_neg (by omega)]
              exact bg_eq (bg_fg (bg_fg (bg_fg (bg_fg this f3 (apg i' j' 6 h1 h2 (by decide))) f4 (apg i' j' 8 h1 h2 (by decide))) f5 (apg i' j' 6 h1 h2 (by decide))) f6 (dvp i' j' h1 h2 c2)) ee.symm
      refine j_Gl_turnAbout_15 ?_
      rw [iI_le ⟨by omega, by omega⟩ ⟨by omega, by omega⟩]
      refine ⟨fun z => by omega, fun _ => l24 n 0 g1 (by omega) f1 ⟨fun i' j' h1 h2 => ?_, P1.2⟩⟩
      have := P1.1 i' j' h1 h2
      have ee : (if j' ≠ k ∧ i' ≠ k ∧ (i' < i ∨ i' = i ∧ j' < 0) then gcT E (k + 1) i' j' else gcT E k i' j') = (if j' ≠ k ∧ i' ≠ k ∧ i' < i then gcT E (k + 1) i' j' else gcT E k i' j') := by
        by_cases c1 : j' ≠ k ∧ i' ≠ k ∧ i' < i
        · rw [if_pos c1, if_pos (by omega)]
        · rw [if_neg c1, if_neg (by omega)]
      exact bg_eq this ee.symm
  refine jRet_of (by decide) (by decide) (Nat.le_of_ble_eq_true rfl) (j_Gl_turnAbout_0 ?_)
  simp only [iI_mul, iI_add]
  rw [G.2.1, pcr h k k G hk hk]
  refine ⟨G.1, ixr h k k G hk hk, l15 n 0 h (by omega) fg.rf ⟨fun i' j' h1 h2 => ?_, P.2⟩⟩
  have := P.1 i' j' h1 h2
  have ee : (if j' ≠ k ∧ i' ≠ k ∧ i' < 0 then gcT E (k + 1) i' j' else gcT E k i' j') = gcT E k i' j' := if_neg (by omega)
  exact bg_eq this ee.symm
end GLOW
