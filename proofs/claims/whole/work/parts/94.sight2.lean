/-! sight: the model's -/
theorem Mo.a23 {m : Nat} {h : jHp} (M : Mo m h) : gR h m 23 = m + 17 ∧ jz h (m + 17) = (10, 4) := M.2 (23, 17, 4) (by decide)
section MSIGHT
variable {m : Nat} {h : jHp}
theorem mb_crs {a b c : Nat} (B : MB m h) (ha : a < 24) (hb : b < 24) (hc : c < 24) : -8000000 ≤ crs (mI h (m + 5)) (mI h (m + 6)) a b c ∧ crs (mI h (m + 5)) (mI h (m + 6)) a b c ≤ 8000000 :=
  crs_bd (fun k hk => (B k (by omega)).1) (fun k hk => (B k (by omega)).2)
theorem c_Mside {a b c : Nat} (M : Mo m h) (B : MB m h) (ha : a < 24) (hb : b < 24) (hc : c < 24) : jRet 137 0 0 [.ref m, .int (iI a), .int (iI b), .int (iI c)] h (fun r h' => r = some (.long (lI (crs (mI h (m + 5)) (mI h (m + 6)) a b c))) ∧ h' = h) := c_side M ha hb hc (fun k hk => (B k hk).1) (fun k hk => (B k hk).2)
theorem c_Misin {p n : Nat} {F : Nat → Nat} (M : Mo m h) (B : MB m h) (P : MP m n h) (hn : n ≤ 8) (hp : p < n) (hF : ∀ j, j < 4 → mI h (m + 17) j = (F j : Int) ∧ F j < 24) : jRet 146 0 0 [.ref m, .int (iI p)] h (bQ (fea (egP (mI h (m + 5)) (mI h (m + 6)) F (mF1 m h p) (mF2 m h p) 16)) h) := by
  obtain ⟨p1, p2, p3, p4⟩ := P.at hp
  have yes : fea (egP (mI h (m + 5)) (mI h (m + 6)) F (mF1 m h p) (mF2 m h p) 16) → bQ (fea (egP (mI h (m + 5)) (mI h (m + 6)) F (mF1 m h p) (mF2 m h p) 16)) h (some (.int (iI 1))) h := fun z => ⟨Or.inl ⟨z, rfl⟩, rfl⟩
  have no : ¬ fea (egP (mI h (m + 5)) (mI h (m + 6)) F (mF1 m h p) (mF2 m h p) 16) → bQ (fea (egP (mI h (m + 5)) (mI h (m + 6)) F (mF1 m h p) (mF2 m h p) 16)) h (some (.int (iI 0))) h := fun z => ⟨Or.inr ⟨z, rfl⟩, rfl⟩
  generalize bQ (fea (egP (mI h (m + 5)) (mI h (m + 6)) F (mF1 m h p) (mF2 m h p) 16)) h = Q at *
  generalize mF1 m h p = f at *
  generalize mF2 m h p = t at *
  have r0 : rL ((0 : Nat) : Int) := ⟨by decide, by decide⟩
  have i4 : ∀ k : Nat, k < 4 → ixL h (m + 17) (iI (k : Int)) := fun k hk => ixL_of M.a23.2 (by omega) (by omega) (by decide)
  have g4 : ∀ k : Nat, k < 4 → gI h (m + 17) (iI (k : Int)).toNatClampNeg = iI (F k : Int) := fun k hk => by rw [gI_q (by omega) (by omega), Int.toNat_natCast, (hF k hk).1]
  have l338 : ¬ fea (egP (mI h (m + 5)) (mI h (m + 6)) F f t 16) → J 146 338 0 0 [uu, uu, uu, uu, uu, uu, uu, uu, uu, uu, uu, uu, uu, uu, uu, uu, uu, uu, uu] [] h Q := fun z => j_M_isInside_338 (j_M_isInside_339 ⟨Or.inl rfl, no z⟩)
  have l334 : fea (egP (mI h (m + 5)) (mI h (m + 6)) F f t 16) → J 146 334 0 0 [uu, uu, uu, uu, uu, uu, uu, uu, uu, uu, uu, uu, uu, uu, uu, uu, uu, uu, uu] [] h Q := fun z => j_M_isInside_334 (j_M_isInside_339 ⟨Or.inr rfl, yes z⟩)
  -- the end
  have l255 : ∀ lN lD hN hD, MS (egP (mI h (m + 5)) (mI h (m + 6)) F f t 16) lN lD hN hD → J 146 255 0 0 [uu, uu, .long (lI lN), uu, .long (lI lD), uu, .long (lI hN), uu, .long (lI hD), uu, uu, uu, uu, uu, uu, uu, uu, uu, uu] [] h Q := by
    intro lN lD hN hD c
    have ce := ms_end c
    obtain ⟨c1, c2, c3, c4, c5, c6, c7⟩ := c
    have k1 := rL16 (x := lN) (y := hD) c3 ⟨by omega, by omega⟩
    have k2 := rL16 (x := hN) (y := lD) c5 ⟨by omega, by omega⟩
    have l300 : ∀ y : Int, (y = 0 ∨ y = 1) → (y = 1 ↔ ((lD = 0 ∨ lN < lD) ∧ (hD = 0 ∨ 0 < hN))) → J 146 300 0 0 [uu, uu, .long (lI lN), uu, .long (lI lD), uu, .long (lI hN), uu, .long (lI hD), uu, uu, uu, uu, uu, uu, uu, uu, uu, uu] [.int (iI y)] h Q := by
      intro y hy hyy
      refine j_M_isInside_300 ?_
      rw [lI_mul, lI_mul, lg_cmp_eq, lg_cmp_eq, lg_cmp_ge, lI_eq ⟨by omega, by omega⟩ r0, lI_eq ⟨by omega, by omega⟩ r0, lI_le k2 k1, iI_0, iI_eq ⟨by omega, by omega⟩ ⟨by omega, by omega⟩]
      refine ⟨fun z => l338 (fun u => ?_), fun z => ⟨fun z1 => l334 (ce.mpr ?_), fun z1 => ⟨fun z2 => l334 (ce.mpr ?_), fun z2 => ⟨fun z3 => l338 (fun u => ?_), fun z3 => l334 (ce.mpr ?_)⟩⟩⟩⟩
      · have u' := ce.mp u
        have := hyy.mpr ⟨u'.1, u'.2.1⟩
        omega
      · exact ⟨(hyy.mp (by omega)).1, (hyy.mp (by omega)).2, Or.inl z1⟩
      · exact ⟨(hyy.mp (by omega)).1, (hyy.mp (by omega)).2, Or.inr (Or.inl z2)⟩
      · have u' := (ce.mp u).2.2
        rcases u' with v | v | v
        · exact z1 v
        · exact z2 v
        · omega
      · exact ⟨(hyy.mp (by omega)).1, (hyy.mp (by omega)).2, Or.inr (Or.inr (by omega))⟩
    have l274 : ∀ y : Int, (y = 0 ∨ y = 1) → (y = 1 ↔ (lD = 0 ∨ lN < lD)) → J 146 274 0 0 [uu, uu, .long (lI lN), uu, .long (lI lD), uu, .long (lI hN), uu, .long (lI hD), uu, uu, uu, uu, uu, uu, uu, uu, uu, uu] [.int (iI y)] h Q := by
      intro y hy hyy
      have a1 : ¬ ((lD = 0 ∨ lN < lD) ∧ (hD = 0 ∨ 0 < hN)) → J 146 299 0 0 [uu, uu, .long (lI lN), uu, .long (lI lD), uu, .long (lI hN), uu, .long (lI hD), uu, uu, uu, uu, uu, uu, uu, uu, uu, uu] [] h Q := fun z => j_M_isInside_299 (l300 0 (Or.inl rfl) ⟨fun u => absurd u (by decide), fun u => absurd u z⟩)
      have a2 : ((lD = 0 ∨ lN < lD) ∧ (hD = 0 ∨ 0 < hN)) → J 146 295 0 0 [uu, uu, .long (lI lN), uu, .long (lI lD), uu, .long (lI hN), uu, .long (lI hD), uu, uu, uu, uu, uu, uu, uu, uu, uu, uu] [] h Q := fun z => j_M_isInside_295 (l300 1 (Or.inr rfl) ⟨fun u => z, fun _ => rfl⟩)
      refine j_M_isInside_274 ?_
      rw [lg_cmp_eq, lg_cmp_le, lI_eq ⟨by omega, by omega⟩ r0, lI_le ⟨by omega, by omega⟩ r0, iI_0, iI_eq ⟨by omega, by omega⟩ ⟨by omega, by omega⟩]
      refine ⟨fun z => a1 (fun u => by have := hyy.mpr u.1; omega), fun z => ⟨fun z1 => a2 ⟨hyy.mp (by omega), Or.inl z1⟩, fun z1 => ⟨fun z2 => a1 (fun u => ?_), fun z2 => a2 ⟨hyy.mp (by omega), Or.inr (by omega)⟩⟩⟩⟩
      rcases u.2 with v | v
      · exact z1 v
      · omega
    refine j_M_isInside_255 ?_
    rw [lg_cmp_eq, lg_cmp_ge, lI_eq ⟨by omega, by omega⟩ r0, lI_le ⟨by omega, by omega⟩ ⟨by omega, by omega⟩]
    refine ⟨fun z => j_M_isInside_269 (l274 1 (Or.inr rfl) ⟨fun _ => Or.inl z, fun _ => rfl⟩), fun z => ⟨fun z1 => j_M_isInside_273 (l274 0 (Or.inl rfl) ⟨fun u => absurd u (by decide), fun u => ?_⟩), fun z1 => j_M_isInside_269 (l274 1 (Or.inr rfl) ⟨fun _ => Or.inr (by omega), fun _ => rfl⟩)⟩⟩
    rcases u with v | v
    · exact absurd v z
    · omega
  have l16 : ∀ (d i : Nat) (lN lD hN hD : Int), i + d = 4 → MS (egP (mI h (m + 5)) (mI h (m + 6)) F f t (4 * i)) lN lD hN hD → J 146 16 0 0 [.ref m, .int (iI p), .long (lI lN), uu, .long (lI lD), uu, .long (lI hN), uu, .long (lI hD), uu, .int (iI i), uu, uu, uu, uu, uu, uu, uu, uu] [] h Q := by
    intro d
    induction d with
    | zero =>
      intro i lN lD hN hD hi c
      obtain rfl : i = 4 := by omega
      exact j_M_isInside_16 ⟨fun _ => l255 _ _ _ _ c, fun z => absurd (by decide) z⟩
    | succ d ih =>
      intro i lN lD hN hD hi c
      have hi4 : i < 4 := by omega
      have l25 : ∀ (e k : Nat) (lN lD hN hD : Int), k + e = 4 → MS (egP (mI h (m + 5)) (mI h (m + 6)) F f t (4 * i + k)) lN lD hN hD → J 146 25 0 0 [.ref m, .int (iI p), .long (lI lN), uu, .long (lI lD), uu, .long (lI hN), uu, .long (lI hD), uu, .int (iI i), .int (iI k), uu, uu, uu, uu, uu, uu, uu] [] h Q := by
        intro e
        induction e with
        | zero =>
          intro k lN lD hN hD hk c
          obtain rfl : k = 4 := by omega
          refine j_M_isInside_25 ⟨fun _ => j_M_isInside_249 ?_, fun z => absurd (by decide) z⟩
          rw [iI_add]
          exact ih (i + 1) _ _ _ _ (by omega) c
        | succ e ih2 =>
          intro k lN lD hN hD hk c
          have hk4 : k < 4 := by omega
          have fi := (hF i hi4).2
          have fk := (hF k hk4).2
          have nx : ∀ lN lD hN hD, MS (egP (mI h (m + 5)) (mI h (m + 6)) F f t (4 * i + k + 1)) lN lD hN hD → J 146 243 0 0 [.ref m, .int (iI p), .long (lI lN), uu, .long (lI lD), uu, .long (lI hN), uu, .long (lI hD), uu, .int (iI i), .int (iI k), uu, uu, uu, uu, uu, uu, uu] [] h Q := by
            intro lN lD hN hD c'
            refine j_M_isInside_243 ?_
            rw [iI_add]
            exact ih2 (k + 1) _ _ _ _ (by omega) c'
          have l118 : egE (mI h (m + 5)) (mI h (m + 6)) F i k → J 146 118 0 0 [.ref m, .int (iI p), .long (lI lN), uu, .long (lI lD), uu, .long (lI hN), uu, .long (lI hD), uu, .int (iI i), .int (iI k), .int (iI (F i)), .int (iI (F k)), uu, uu, uu, uu, uu] [] h Q := by
            intro he
            have st := eg_s (f := f) (t := t) hi4 hk4 he
            have b1 := mb_crs B fi fk p3
            have b2 := mb_crs B fi fk p4
            have bad : crs (mI h (m + 5)) (mI h (m + 6)) (F i) (F k) f ≤ 0 → crs (mI h (m + 5)) (mI h (m + 6)) (F i) (F k) t ≤ 0 → ¬ fea (egP (mI h (m + 5)) (mI h (m + 6)) F f t 16) := fun z1 z2 => fea_no ⟨i, k, by omega, hi4, hk4, he, rfl, rfl⟩ z1 z2
            refine j_M_isInside_118 ?_
            rw [M.a10.1, gI_q (by omega) (by omega), Int.toNat_natCast, p1]
            refine ⟨M.1, ixL_of M.a10.2 (by omega) (by omega) (by decide), M.1, jRet_mono (c_Mside M B fi fk p3) ?_⟩
            intro q1 h1 w1
            obtain ⟨e1, e2⟩ := w1
            rw [e2, M.a11.1, gI_q (by omega) (by omega), Int.toNat_natCast, p2]
            refine ⟨_, e1, M.1, ixL_of M.a11.2 (by omega) (by omega) (by decide), M.1, jRet_mono (c_Mside M B fi fk p4) ?_⟩
            intro q2 h2 w2
            obtain ⟨e3, e4⟩ := w2
            rw [e4]
            refine ⟨_, e3, ?_⟩
            clear e1 e2 e3 e4
            generalize crs (mI h (m + 5)) (mI h (m + 6)) (F i) (F k) f = a at *
            generalize crs (mI h (m + 5)) (mI h (m + 6)) (F i) (F k) t = b at *
            have hc := c
            obtain ⟨c1, c2, c3, c4, c5, c6, c7⟩ := hc
            have k1 := rL16 (x := -a) (y := lD) ⟨by omega, by omega⟩ ⟨by omega, by omega⟩
            have k2 := rL16 (x := lN) (y := b - a) c3 ⟨by omega, by omega⟩
            have k3 := rL16 (x := a) (y := hD) b1 ⟨by omega, by omega⟩
            have k4 := rL16 (x := hN) (y := a - b) c5 ⟨by omega, by omega⟩
            have l205 : ∀ lN' lD', (0 ≤ b - a → MS (egP (mI h (m + 5)) (mI h (m + 6)) F f t (4 * i + k + 1)) lN' lD' hN hD) → (¬ 0 ≤ b - a → lN' = lN ∧ lD' = lD) → J 146 205 0 0 [.ref m, .int (iI p), .long (lI lN'), uu, .long (lI lD'), uu, .long (lI hN), uu, .long (lI hD), uu, .int (iI i), .int (iI k), uu, uu, uu, .long (lI a), uu, .long (lI (b - a)), uu] [] h Q := by
              intro lN' lD' g1 g2
              refine j_M_isInside_205 ?_
              rw [lI_neg, lI_mul, lI_mul, lg_cmp_ge, lg_cmp_ge, lg_cmp_eq, lI_le r0 ⟨by omega, by omega⟩, lI_eq ⟨by omega, by omega⟩ r0, show -(b - a) = a - b by omega, lI_le k4 k3]
              refine ⟨fun z => nx _ _ _ _ (g1 z), fun z => ?_⟩
              obtain ⟨x1, x2⟩ := g2 z
              subst x1
              subst x2
              have hi : (hD = 0 ∨ a * hD < hN * (a - b)) → J 146 234 0 0 [.ref m, .int (iI p), .long (lI lN'), uu, .long (lI lD'), uu, uu, uu, uu, uu, .int (iI i), .int (iI k), uu, uu, uu, .long (lI a), uu, .long (lI (b - a)), uu] [] h Q := by
                intro y
                refine j_M_isInside_234 ?_
                rw [lI_neg, show -(b - a) = a - b by omega]
                exact nx _ _ _ _ (ms_c (ms_hi c b1 b2 (by omega) y) st)
              refine ⟨fun y => hi (Or.inl y), fun y => ⟨fun y2 => nx _ _ _ _ (ms_c (ms_hi' c (by omega) ?_) st), fun y2 => hi (Or.inr (by omega))⟩⟩
              intro u
              rcases u with u | u
              · exact y u
              · omega
            have l169 : ¬ (b - a = 0 ∧ a ≤ 0) → J 146 169 0 0 [.ref m, .int (iI p), .long (lI lN), uu, .long (lI lD), uu, .long (lI hN), uu, .long (lI hD), uu, .int (iI i), .int (iI k), uu, uu, uu, .long (lI a), uu, .long (lI (b - a)), uu] [] h Q := by
              intro hz
              have lo : 0 < b - a → (lD = 0 ∨ lN * (b - a) < -a * lD) → J 146 197 0 0 [.ref m, .int (iI p), uu, uu, uu, uu, .long (lI hN), uu, .long (lI hD), uu, .int (iI i), .int (iI k), uu, uu, uu, .long (lI a), uu, .long (lI (b - a)), uu] [] h Q := by
                intro y1 y2
                refine j_M_isInside_197 ?_
                rw [lI_neg]
                exact l205 _ _ (fun _ => ms_c (ms_lo c b1 b2 y1 y2) st) (fun y => absurd (by omega) y)
              refine j_M_isInside_169 ?_
              rw [lI_neg, lI_mul, lI_mul, lg_cmp_le, lg_cmp_le, lg_cmp_eq, lI_le ⟨by omega, by omega⟩ r0, lI_eq ⟨by omega, by omega⟩ r0, lI_le k1 k2]
              refine ⟨fun z => l205 _ _ (fun y => ms_c (ms_eq c (by omega) ?_) st) (fun _ => ⟨rfl, rfl⟩), fun z => ⟨fun y => lo (by omega) (Or.inl y), fun y => ⟨fun y2 => l205 _ _ (fun _ => ms_c (ms_lo' c (by omega) ?_) st) (fun u => absurd (by omega) u), fun y2 => lo (by omega) (Or.inr (by omega))⟩⟩⟩
              · omega
              · intro u
                rcases u with u | u
                · exact y u
                · omega
            rw [lI_sub, lg_cmp_eq, lg_cmp_gt, lI_eq ⟨by omega, by omega⟩ r0, lI_lt r0 ⟨by omega, by omega⟩]
            exact ⟨fun z => l169 (fun u => z u.1), fun z => ⟨fun y => l169 (fun u => by omega), fun y => ⟨Or.inl rfl, no (bad (by omega) (by omega))⟩⟩⟩
          have l110 : ∀ y : Int, (y = 0 ∨ y = 1) → (y = 1 → egE (mI h (m + 5)) (mI h (m + 6)) F i k) → (y = 0 → ¬ egE (mI h (m + 5)) (mI h (m + 6)) F i k) → J 146 110 0 0 [.ref m, .int (iI p), .long (lI lN), uu, .long (lI lD), uu, .long (lI hN), uu, .long (lI hD), uu, .int (iI i), .int (iI k), .int (iI (F i)), .int (iI (F k)), .int (iI y), uu, uu, uu, uu] [] h Q := by
            intro y hy h1 h0
            refine j_M_isInside_110 ?_
            rw [iI_0, iI_eq ⟨by omega, by omega⟩ ⟨by omega, by omega⟩]
            exact ⟨fun z => l118 (h1 (by omega)), fun z => nx _ _ _ _ (ms_c c (eg_n hk4 (h0 z)))⟩
          have l66 : ∀ (u j : Nat) (y : Int), j + u = 4 → (y = 0 ∨ y = 1) → (y = 1 → F i ≠ F k ∧ ∀ j', j' < j → 0 ≤ crs (mI h (m + 5)) (mI h (m + 6)) (F i) (F k) (F j')) → (y = 0 → ¬ egE (mI h (m + 5)) (mI h (m + 6)) F i k) → J 146 66 0 0 [.ref m, .int (iI p), .long (lI lN), uu, .long (lI lD), uu, .long (lI hN), uu, .long (lI hD), uu, .int (iI i), .int (iI k), .int (iI (F i)), .int (iI (F k)), .int (iI y), .int (iI j), uu, uu, uu] [] h Q := by
            intro u
            induction u with
            | zero =>
              intro j y hj hy h1 h0
              obtain rfl : j = 4 := by omega
              exact j_M_isInside_66 ⟨fun _ => l110 y hy (fun z => h1 z) h0, fun z => absurd (by decide) z⟩
            | succ u ih3 =>
              intro j y hj hy h1 h0
              have fj := (hF j (by omega)).2
              have b3 := mb_crs B fi fk fj
              refine j_M_isInside_66 ?_
              rw [iI_le ⟨by omega, by omega⟩ ⟨by omega, by omega⟩, iI_0, iI_eq ⟨by omega, by omega⟩ ⟨by omega, by omega⟩, M.a23.1, g4 j (by omega)]
              refine ⟨fun z => by omega, fun _ => ⟨fun z => l110 y hy (fun x => by omega) h0, fun z => ⟨M.1, i4 j (by omega), M.1, jRet_mono (c_Mside M B fi fk fj) ?_⟩⟩⟩
              intro q1 h2 w1
              obtain ⟨e1, e2⟩ := w1
              rw [e2]
              refine ⟨_, e1, ?_⟩
              rw [← iI_0, lg_cmp_lt, lI_lt ⟨by omega, by omega⟩ r0]
              have h1' := h1 (by omega)
              refine ⟨fun x => j_M_isInside_101 (j_M_isInside_102 ?_), fun x => j_M_isInside_102 ?_⟩
              · rw [iI_add]
                exact ih3 (j + 1) 0 (by omega) (Or.inl rfl) (fun x2 => absurd x2 (by decide)) (fun _ he => by have := he.2 j (by omega); omega)
              · rw [iI_add]
                refine ih3 (j + 1) 1 (by omega) (Or.inr rfl) (fun _ => ⟨h1'.1, fun j' hj' => ?_⟩) (fun x2 => absurd x2 (by decide))
                by_cases cj : j' = j
                · rw [cj]
                  omega
                · exact h1'.2 j' (by omega)
          refine j_M_isInside_25 ?_
          rw [iI_le ⟨by omega, by omega⟩ ⟨by omega, by omega⟩, M.a23.1, g4 i hi4, g4 k hk4, iI_eq ⟨by omega, by omega⟩ ⟨by omega, by omega⟩]
          refine ⟨fun z => by omega, fun _ => ⟨M.1, i4 i hi4, M.1, i4 k hk4, fun z => j_M_isInside_60 (j_M_isInside_61 ?_), fun z => j_M_isInside_61 ?_⟩⟩
          · exact l66 4 0 0 (by omega) (Or.inl rfl) (fun x => absurd x (by decide)) (fun _ he => he.1 (by omega))
          · exact l66 4 0 1 (by omega) (Or.inr rfl) (fun _ => ⟨by omega, fun j' hj' => by omega⟩) (fun x => absurd x (by decide))
      refine j_M_isInside_16 ?_
      rw [iI_le ⟨by omega, by omega⟩ ⟨by omega, by omega⟩]
      exact ⟨fun z => by omega, fun _ => l25 4 0 _ _ _ _ (by omega) c⟩
  refine jRet_of (by decide) (by decide) (Nat.le_of_ble_eq_true rfl) (j_M_isInside_0 ?_)
  rw [jc11]
  exact l16 4 0 (-1) 0 1 0 (by omega) (ms_c ms_0 eg_0)
noncomputable def mSg (m : Nat) (h : jHp) (n a b : Nat) : Int := sgt (crs (mI h (m + 5)) (mI h (m + 6)) (mF1 m h a) (mF2 m h a) (mF1 m h b)) (crs (mI h (m + 5)) (mI h (m + 6)) (mF1 m h a) (mF2 m h a) (mF2 m h b)) (crs (mI h (m + 5)) (mI h (m + 6)) (mF1 m h b) (mF2 m h b) (mF1 m h a)) (crs (mI h (m + 5)) (mI h (m + 6)) (mF1 m h b) (mF2 m h b) (mF2 m h a)) (∃ i, i < n ∧ i ≠ a ∧ i ≠ b ∧ fea (egP (mI h (m + 5)) (mI h (m + 6)) (f4 (mF1 m h a) (mF2 m h a) (mF1 m h b) (mF2 m h b)) (mF1 m h i) (mF2 m h i) 16))
theorem c_Msight {n a b : Nat} (M : Mo m h) (B : MB m h) (P : MP m n h) (hn : n ≤ 8) (hc : mI h m 20 = (n : Int)) (ha : a < n) (hb : b < n) : jRet 145 0 0 [.ref m, .int (iI a), .int (iI b)] h (fun q h' => q = some (.int (iI (mSg m h n a b))) ∧ fg (fun p _ => p = m + 17) h h') := by
  obtain ⟨p1, p2, p3, p4⟩ := P.at ha
  obtain ⟨r1, r2, r3, r4⟩ := P.at hb
  have r0 : rL ((0 : Nat) : Int) := ⟨by decide, by decide⟩
  have b1 := mb_crs B p3 p4 r3
  have b2 := mb_crs B p3 p4 r4
  have b3 := mb_crs B r3 r4 p3
  have b4 := mb_crs B r3 r4 p4
  have i7 : ∀ k : Nat, k < 8 → ixL h (m + 7) (iI (k : Int)) := fun k hk => ixL_of M.a10.2 (by omega) (by omega) (by decide)
  have i8 : ∀ k : Nat, k < 8 → ixL h (m + 8) (iI (k : Int)) := fun k hk => ixL_of M.a11.2 (by omega) (by omega) (by decide)
  have g : ∀ (q k : Nat), k < 8 → gI h q (iI (k : Int)).toNatClampNeg = iI (mI h q k) := fun q k hk => by rw [gI_q (by omega) (by omega), Int.toNat_natCast]
  refine jRet_of (by decide) (by decide) (Nat.le_of_ble_eq_true rfl) (j_M_sightOf_0 ?_)
  rw [M.a10.1, M.a11.1, g _ a (by omega), g _ a (by omega), g _ b (by omega), p1, p2, r1]
  refine ⟨M.1, i7 a (by omega), M.1, i8 a (by omega), M.1, i7 b (by omega), M.1, jRet_mono (c_Mside M B p3 p4 r3) ?_⟩
  intro q1 h1 w1
  obtain ⟨e1, e2⟩ := w1
  rw [e2, M.a10.1, M.a11.1, g _ a (by omega), g _ a (by omega), g _ b (by omega), p1, p2, r2]
  refine ⟨_, e1, M.1, i7 a (by omega), M.1, i8 a (by omega), M.1, i8 b (by omega), M.1, jRet_mono (c_Mside M B p3 p4 r4) ?_⟩
  intro q2 h2 w2
  obtain ⟨e3, e4⟩ := w2
  rw [e4, M.a10.1, M.a11.1, g _ b (by omega), g _ b (by omega), g _ a (by omega), r1, r2, p1]
  refine ⟨_, e3, M.1, i7 b (by omega), M.1, i8 b (by omega), M.1, i7 a (by omega), M.1, jRet_mono (c_Mside M B r3 r4 p3) ?_⟩
  intro q3 h3 w3
  obtain ⟨e5, e6⟩ := w3
  rw [e6, M.a10.1, M.a11.1, g _ b (by omega), g _ b (by omega), g _ a (by omega), r1, r2, p2]
  refine ⟨_, e5, M.1, i7 b (by omega), M.1, i8 b (by omega), M.1, i8 a (by omega), M.1, jRet_mono (c_Mside M B r3 r4 p4) ?_⟩
  intro q4 h4 w4
  obtain ⟨e7, e8⟩ := w4
  rw [e8]
  refine ⟨_, e7, ?_⟩
  clear e1 e2 e3 e4 e5 e6 e7 e8
  have l153 : ∀ E : Prop, E = (∃ i, i < n ∧ i ≠ a ∧ i ≠ b ∧ fea (egP (mI h (m + 5)) (mI h (m + 6)) (f4 (mF1 m h a) (mF2 m h a) (mF1 m h b) (mF2 m h b)) (mF1 m h i) (mF2 m h i) 16)) → (E → mSg m h n a b = 1) ∧ (¬ E → mSg m h n a b = 2) → J 145 153 0 0 [.ref m, .int (iI a), .int (iI b), uu, uu, uu, uu, uu, uu, uu, uu, uu] [] h (fun q h' => q = some (.int (iI (mSg m h n a b))) ∧ fg (fun p _ => p = m + 17) h h') := by
    intro E hE hv
    have z0 : (iI 0).toNatClampNeg = 0 := by decide
    have z1 : (iI 1).toNatClampNeg = 1 := by decide
    have z2 : (iI 2).toNatClampNeg = 2 := by decide
    have z3 : (iI 3).toNatClampNeg = 3 := by decide
    have M1 : ∀ v, Mo m (sI h (m + 17) 0 v) := fun v => M.sI
    have M2 : ∀ v v', Mo m (sI (sI h (m + 17) 0 v) (m + 17) 1 v') := fun v v' => M.sI.sI
    have M3 : ∀ v v' v'', Mo m (sI (sI (sI h (m + 17) 0 v) (m + 17) 1 v') (m + 17) 2 v'') := fun v v' v'' => M.sI.sI.sI
    have x1 : ∀ v, gI (sI h (m + 17) 0 v) (m + 8) (iI (a : Int)).toNatClampNeg = iI (mF2 m h a : Int) := fun v => by
      rw [gI_sI, if_neg (fun z => by omega), g _ a (by omega), p2]
    have x2 : ∀ v v', gI (sI (sI h (m + 17) 0 v) (m + 17) 1 v') (m + 7) (iI (b : Int)).toNatClampNeg = iI (mF1 m h b : Int) := fun v v' => by
      rw [gI_sI, if_neg (fun z => by omega), gI_sI, if_neg (fun z => by omega), g _ b (by omega), r1]
    have x3 : ∀ v v' v'', gI (sI (sI (sI h (m + 17) 0 v) (m + 17) 1 v') (m + 17) 2 v'') (m + 8) (iI (b : Int)).toNatClampNeg = iI (mF2 m h b : Int) := fun v v' v'' => by
      rw [gI_sI, if_neg (fun z => by omega), gI_sI, if_neg (fun z => by omega), gI_sI, if_neg (fun z => by omega), g _ b (by omega), r2]
    refine j_M_sightOf_153 ?_
    rw [M.a10.1, M.a23.1, g _ a (by omega), p1, z0, z1, (M1 _).a11.1, (M1 _).a23.1, x1]
    refine ⟨M.1, M.1, i7 a (by omega), ix_of M.a23.2 (by omega) (by omega) (by decide), (M1 _).1, (M1 _).1, ixL_of (M1 _).a11.2 (by omega) (by omega) (by decide), ix_of (M1 _).a23.2 (by omega) (by omega) (by decide), j_M_sightOf_177 ?_⟩
    rw [(M2 _ _).a10.1, (M2 _ _).a23.1, x2, z2, z3, (M3 _ _ _).a11.1, (M3 _ _ _).a23.1, x3]
    refine ⟨(M2 _ _).1, (M2 _ _).1, ixL_of (M2 _ _).a10.2 (by omega) (by omega) (by decide), ix_of (M2 _ _).a23.2 (by omega) (by omega) (by decide), (M3 _ _ _).1, (M3 _ _ _).1, ixL_of (M3 _ _ _).a11.2 (by omega) (by omega) (by decide), ix_of (M3 _ _ _).a23.2 (by omega) (by omega) (by decide), j_M_sightOf_201 ?_⟩
    obtain ⟨g', hg⟩ : ∃ g', g' = sI (sI (sI (sI h (m + 17) 0 (iI (mF1 m h a))) (m + 17) 1 (iI (mF2 m h a))) (m + 17) 2 (iI (mF1 m h b))) (m + 17) 3 (iI (mF2 m h b)) := ⟨_, rfl⟩
    have fgg : fg (fun p _ => p = m + 17) h g' := by
      rw [hg]
      refine fg.wr (fg.wr (fg.wr (fg.wr fg.rf ?_) ?_) ?_) ?_ <;> rfl
    have k4 : ∀ j, j < 4 → mI g' (m + 17) j = (f4 (mF1 m h a) (mF2 m h a) (mF1 m h b) (mF2 m h b) j : Int) ∧ f4 (mF1 m h a) (mF2 m h a) (mF1 m h b) (mF2 m h b) j < 24 := by
      intro j hj
      rw [hg, mI_sI ⟨by omega, by omega⟩, mI_sI ⟨by omega, by omega⟩, mI_sI ⟨by omega, by omega⟩, mI_sI ⟨by omega, by omega⟩]
      unfold f4
      match j, hj with
      | 0, _ => exact ⟨by simp, by simp; exact p3⟩
      | 1, _ => exact ⟨by simp, by simp; exact p4⟩
      | 2, _ => exact ⟨by simp, by simp; exact r3⟩
      | 3, _ => exact ⟨by simp, by simp; exact r4⟩
    rw [← hg]
    have ee : ∀ p k, p ≠ m + 17 → mI g' p k = mI h p k := fun p k hp => fgg.eq hp
    have e1 : mI g' (m + 5) = mI h (m + 5) := funext (fun k => ee _ k (by omega))
    have e2 : mI g' (m + 6) = mI h (m + 6) := funext (fun k => ee _ k (by omega))
    have e3 : ∀ i, mF1 m g' i = mF1 m h i := fun i => by
      unfold mF1
      rw [ee _ _ (by omega)]
    have e4 : ∀ i, mF2 m g' i = mF2 m h i := fun i => by
      unfold mF2
      rw [ee _ _ (by omega)]
    have Mg : Mo m g' := M.sk fgg.1
    have Bg : MB m g' := by
      unfold MB
      rw [e1, e2]
      exact B
    have Pg : MP m n g' := fun i hi => by
      obtain ⟨u, v, h1, h2, h3⟩ := P i hi
      exact ⟨u, v, by rw [ee _ _ (by omega)]; exact h1, by rw [ee _ _ (by omega)]; exact h2, h3⟩
    have key : ∀ i, i < n → jRet 146 0 0 [.ref m, .int (iI (i : Int))] g' (bQ (fea (egP (mI h (m + 5)) (mI h (m + 6)) (f4 (mF1 m h a) (mF2 m h a) (mF1 m h b) (mF2 m h b)) (mF1 m h i) (mF2 m h i) 16)) g') := fun i hi => by
      have := c_Misin Mg Bg Pg hn hi k4
      rw [e1, e2, e3, e4] at this
      exact this
    have loop : ∀ (d i : Nat), i + d = n → (∀ j, j < i → j ≠ a → j ≠ b → ¬ fea (egP (mI h (m + 5)) (mI h (m + 6)) (f4 (mF1 m h a) (mF2 m h a) (mF1 m h b) (mF2 m h b)) (mF1 m h j) (mF2 m h j) 16)) → J 145 204 0 0 [.ref m, .int (iI a), .int (iI b), uu, uu, uu, uu, uu, uu, uu, uu, .int (iI i)] [] g' (fun q h' => q = some (.int (iI (mSg m h n a b))) ∧ fg (fun p _ => p = m + 17) h h') := by
      intro d
      induction d with
      | zero =>
        intro i hi hno
        obtain rfl : i = n := by omega
        refine j_M_sightOf_204 ?_
        rw [gI_mI g' m 20, ee _ _ (by omega), hc, iI_le ⟨by omega, by omega⟩ ⟨by omega, by omega⟩]
        have nE : ¬ E := by
          rw [hE]
          rintro ⟨j, h1, h2, h3, h4⟩
          exact hno j h1 h2 h3 h4
        exact ⟨Mg.1, fun _ => j_M_sightOf_242 ⟨by rw [hv.2 nE], fgg⟩, fun z => absurd (Int.le_refl _) z⟩
      | succ d ih =>
        intro i hi hno
        have hin : i < n := by omega
        have nx : (i ≠ a → i ≠ b → ¬ fea (egP (mI h (m + 5)) (mI h (m + 6)) (f4 (mF1 m h a) (mF2 m h a) (mF1 m h b) (mF2 m h b)) (mF1 m h i) (mF2 m h i) 16)) → J 145 236 0 0 [.ref m, .int (iI a), .int (iI b), uu, uu, uu, uu, uu, uu, uu, uu, .int (iI i)] [] g' (fun q h' => q = some (.int (iI (mSg m h n a b))) ∧ fg (fun p _ => p = m + 17) h h') := by
          intro hq
          refine j_M_sightOf_236 ?_
          rw [iI_add]
          refine ih (i + 1) (by omega) (fun j hj h1 h2 => ?_)
          by_cases c : j = i
          · subst c
            exact hq h1 h2
          · exact hno j (by omega) h1 h2
        refine j_M_sightOf_204 ?_
        rw [gI_mI g' m 20, ee _ _ (by omega), hc, iI_le ⟨by omega, by omega⟩ ⟨by omega, by omega⟩, iI_eq ⟨by omega, by omega⟩ ⟨by omega, by omega⟩, iI_eq ⟨by omega, by omega⟩ ⟨by omega, by omega⟩]
        refine ⟨Mg.1, fun z => by omega, fun _ => ⟨fun z => nx (fun y => absurd (show i = a by omega) y), fun z => ⟨fun z2 => nx (fun _ y => absurd (show i = b by omega) y), fun z2 => ⟨Mg.1, jRet_mono (key i hin) ?_⟩⟩⟩⟩
        intro q1 h1 w1
        obtain ⟨f1, f2⟩ := w1
        rw [f2]
        rcases f1 with ⟨y1, f1⟩ | ⟨y1, f1⟩
        · have yE : E := by
            rw [hE]
            exact ⟨i, hin, by omega, by omega, y1⟩
          exact ⟨_, f1, fun u => absurd u (by decide), fun _ => ⟨by rw [hv.1 yE], fgg⟩⟩
        · exact ⟨_, f1, fun _ => nx (fun _ _ => y1), fun u => absurd rfl u⟩
    exact loop n 0 (by omega) (fun j hj => by omega)
  have l153' := l153 _ rfl
  clear l153
  have hS : mSg m h n a b = sgt (crs (mI h (m + 5)) (mI h (m + 6)) (mF1 m h a) (mF2 m h a) (mF1 m h b)) (crs (mI h (m + 5)) (mI h (m + 6)) (mF1 m h a) (mF2 m h a) (mF2 m h b)) (crs (mI h (m + 5)) (mI h (m + 6)) (mF1 m h b) (mF2 m h b) (mF1 m h a)) (crs (mI h (m + 5)) (mI h (m + 6)) (mF1 m h b) (mF2 m h b) (mF2 m h a)) (∃ i, i < n ∧ i ≠ a ∧ i ≠ b ∧ fea (egP (mI h (m + 5)) (mI h (m + 6)) (f4 (mF1 m h a) (mF2 m h a) (mF1 m h b) (mF2 m h b)) (mF1 m h i) (mF2 m h i) 16)) := rfl
  generalize (∃ i, i < n ∧ i ≠ a ∧ i ≠ b ∧ fea (egP (mI h (m + 5)) (mI h (m + 6)) (f4 (mF1 m h a) (mF2 m h a) (mF1 m h b) (mF2 m h b)) (mF1 m h i) (mF2 m h i) 16)) = E at *
  generalize mSg m h n a b = S at *
  generalize crs (mI h (m + 5)) (mI h (m + 6)) (mF1 m h a) (mF2 m h a) (mF1 m h b) = x1 at *
  generalize crs (mI h (m + 5)) (mI h (m + 6)) (mF1 m h a) (mF2 m h a) (mF2 m h b) = x2 at *
  generalize crs (mI h (m + 5)) (mI h (m + 6)) (mF1 m h b) (mF2 m h b) (mF1 m h a) = x3 at *
  generalize crs (mI h (m + 5)) (mI h (m + 6)) (mF1 m h b) (mF2 m h b) (mF2 m h a) = x4 at *
  have s0 : (x1 ≤ 0 ∧ x2 ≤ 0) ∨ (x3 ≤ 0 ∧ x4 ≤ 0) → S = 0 := fun z => by
    rw [hS]
    unfold sgt
    rw [if_pos z]
  have s1 : ¬ ((x1 ≤ 0 ∧ x2 ≤ 0) ∨ (x3 ≤ 0 ∧ x4 ≤ 0)) → (x1 < 0 ∨ x2 < 0 ∨ x3 < 0 ∨ x4 < 0) → S = 1 := fun z z2 => by
    rw [hS]
    unfold sgt
    rw [if_neg z, if_pos z2]
  have s2 : ¬ ((x1 ≤ 0 ∧ x2 ≤ 0) ∨ (x3 ≤ 0 ∧ x4 ≤ 0)) → ¬ (x1 < 0 ∨ x2 < 0 ∨ x3 < 0 ∨ x4 < 0) → (E → S = 1) ∧ (¬ E → S = 2) := fun z z2 => by
    rw [hS]
    unfold sgt
    rw [if_neg z, if_neg z2]
    exact ⟨fun y => if_pos y, fun y => if_neg y⟩
  clear hS
  have z122 : (x1 ≤ 0 ∧ x2 ≤ 0) ∨ (x3 ≤ 0 ∧ x4 ≤ 0) → J 145 122 0 0 [uu, uu, uu, uu, uu, uu, uu, uu, uu, uu, uu, uu] [] h (fun q h' => q = some (.int (iI S)) ∧ fg (fun p _ => p = m + 17) h h') := fun z => j_M_sightOf_122 ⟨by rw [s0 z], fg.rf⟩
  have l124 : ¬ ((x1 ≤ 0 ∧ x2 ≤ 0) ∨ (x3 ≤ 0 ∧ x4 ≤ 0)) → J 145 124 0 0 [.ref m, .int (iI a), .int (iI b), .long (lI x1), uu, .long (lI x2), uu, .long (lI x3), uu, .long (lI x4), uu, uu] [] h (fun q h' => q = some (.int (iI S)) ∧ fg (fun p _ => p = m + 17) h h') := by
    intro nz
    have z151 : (x1 < 0 ∨ x2 < 0 ∨ x3 < 0 ∨ x4 < 0) → J 145 151 0 0 [uu, uu, uu, uu, uu, uu, uu, uu, uu, uu, uu, uu] [] h (fun q h' => q = some (.int (iI S)) ∧ fg (fun p _ => p = m + 17) h h') := fun u => j_M_sightOf_151 ⟨by rw [s1 nz u], fg.rf⟩
    refine j_M_sightOf_124 ?_
    rw [lg_cmp_lt, lg_cmp_lt, lg_cmp_lt, lg_cmp_ge, lI_lt ⟨by omega, by omega⟩ r0, lI_lt ⟨by omega, by omega⟩ r0, lI_lt ⟨by omega, by omega⟩ r0, lI_le r0 ⟨by omega, by omega⟩]
    exact ⟨fun u => z151 (Or.inl u), fun u1 => ⟨fun u => z151 (Or.inr (Or.inl u)), fun u2 => ⟨fun u => z151 (Or.inr (Or.inr (Or.inl u))), fun u3 => ⟨fun u4 => l153' (s2 nz (by omega)), fun u => z151 (Or.inr (Or.inr (Or.inr (by omega))))⟩⟩⟩⟩
  have l108 : ¬ (x1 ≤ 0 ∧ x2 ≤ 0) → J 145 108 0 0 [.ref m, .int (iI a), .int (iI b), .long (lI x1), uu, .long (lI x2), uu, .long (lI x3), uu, .long (lI x4), uu, uu] [] h (fun q h' => q = some (.int (iI S)) ∧ fg (fun p _ => p = m + 17) h h') := by
    intro nz
    refine j_M_sightOf_108 ?_
    rw [lg_cmp_gt, lg_cmp_gt, lI_lt r0 ⟨by omega, by omega⟩, lI_lt r0 ⟨by omega, by omega⟩]
    exact ⟨fun z => l124 (by omega), fun z => ⟨fun z2 => l124 (by omega), fun z2 => z122 (Or.inr ⟨by omega, by omega⟩)⟩⟩
  rw [lg_cmp_gt, lg_cmp_le, lI_lt r0 ⟨by omega, by omega⟩, lI_le ⟨by omega, by omega⟩ r0]
  exact ⟨fun z => l108 (by omega), fun z => ⟨fun z2 => z122 (Or.inl ⟨by omega, z2⟩), fun z2 => l108 (by omega)⟩⟩
end MSIGHT
