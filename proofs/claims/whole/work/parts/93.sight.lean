/-! sight: the class's ring and the model's hull -/
theorem rL16 {x y : Int} (hx : -8000000 ≤ x ∧ x ≤ 8000000) (hy : -16000000 ≤ y ∧ y ≤ 16000000) : rL (x * y) := by
  have h1 : (x * y).natAbs ≤ 8000000 * 16000000 := by
    rw [Int.natAbs_mul]
    exact Nat.mul_le_mul (by omega) (by omega)
  exact ⟨by omega, by omega⟩
theorem lmx {a b : Int} (ha : rL a) (hb : rL b) : (if lI b < lI a then lI a else lI b) = lI (if b < a then a else b) := by
  by_cases c : b < a
  · rw [if_pos ((lI_lt hb ha).mpr c), if_pos c]
  · rw [if_neg (fun z => c ((lI_lt hb ha).mp z)), if_neg c]
theorem lmn {a b : Int} (ha : rL a) (hb : rL b) : (if lI a < lI b then lI a else lI b) = lI (if a < b then a else b) := by
  by_cases c : a < b
  · rw [if_pos ((lI_lt ha hb).mpr c), if_pos c]
  · rw [if_neg (fun z => c ((lI_lt ha hb).mp z)), if_neg c]
def f4 (a b c d : Nat) : Nat → Nat := fun i => if i = 0 then a else if i = 1 then b else if i = 2 then c else d
noncomputable def sgt (c1 c2 c3 c4 : Int) (E : Prop) : Int := if (c1 ≤ 0 ∧ c2 ≤ 0) ∨ (c3 ≤ 0 ∧ c4 ≤ 0) then 0 else if c1 < 0 ∨ c2 < 0 ∨ c3 < 0 ∨ c4 < 0 then 1 else @ite Int E (Classical.propDecidable E) 1 2
section SIGHT
variable {w m : Nat} {h : jHp}
theorem c_Wenters {f t : Nat} {F : Nat → Nat} (W : WL w h) (B : XB w h) (hf : f < 24) (ht : t < 24) (hF : ∀ j, j < 4 → mI h (w + 4) j = (F j : Int) ∧ F j < 24) : jRet 79 0 0 [.ref w, .int (iI f), .int (iI t)] h (bQ (fea (rgP (mI h (w + 1)) (mI h (w + 2)) F f t 4)) h) := by
  have yes : fea (rgP (mI h (w + 1)) (mI h (w + 2)) F f t 4) → bQ (fea (rgP (mI h (w + 1)) (mI h (w + 2)) F f t 4)) h (some (.int (iI 1))) h := fun z => ⟨Or.inl ⟨z, rfl⟩, rfl⟩
  have no : ¬ fea (rgP (mI h (w + 1)) (mI h (w + 2)) F f t 4) → bQ (fea (rgP (mI h (w + 1)) (mI h (w + 2)) F f t 4)) h (some (.int (iI 0))) h := fun z => ⟨Or.inr ⟨z, rfl⟩, rfl⟩
  generalize bQ (fea (rgP (mI h (w + 1)) (mI h (w + 2)) F f t 4)) h = Q at *
  have r0 : rL ((0 : Nat) : Int) := ⟨by decide, by decide⟩
  have loop : ∀ (d i : Nat) (aT aB bT bB : Int), i + d = 4 → CS (rgP (mI h (w + 1)) (mI h (w + 2)) F f t i) aT aB bT bB → J 79 18 0 0 [.ref w, .int (iI f), .int (iI t), .long (lI aT), uu, .long (lI aB), uu, .long (lI bT), uu, .long (lI bB), uu, .int (iI i), uu, uu, uu, uu, uu, uu] [] h Q := by
    intro d
    induction d with
    | zero =>
      intro i aT aB bT bB hi c
      obtain rfl : i = 4 := by omega
      have ce := cs_end c
      obtain ⟨c1, c2, c3, c4, c5, c6, c7⟩ := c
      have c8 := c1.1
      have c9 := c1.2.1
      have k1 := rL16 (x := aT) (y := bB) c4 ⟨by omega, by omega⟩
      have k2 := rL16 (x := bT) (y := aB) ⟨by omega, by omega⟩ ⟨by omega, by omega⟩
      refine j_Wa_entersRing_18 ⟨fun _ => j_Wa_entersRing_170 ?_, fun z => absurd (by decide) z⟩
      rw [lI_mul, lI_mul, lg_cmp_ge, lI_le k2 k1]
      refine ⟨fun z => j_Wa_entersRing_187 (j_Wa_entersRing_188 ⟨Or.inl rfl, no ?_⟩), fun z => j_Wa_entersRing_188 ⟨Or.inr rfl, yes ?_⟩⟩
      · rw [ce]
        omega
      · rw [ce]
        omega
    | succ d ih =>
      intro i aT aB bT bB hi c
      have hi4 : i < 4 := by omega
      have fi := hF i hi4
      have fj := hF ((i + 1) % 4) (Nat.mod_lt _ (by decide))
      have fi2 := fi.2
      have fj2 := fj.2
      have nx : ∀ aT aB bT bB, CS (rgP (mI h (w + 1)) (mI h (w + 2)) F f t (i + 1)) aT aB bT bB → J 79 164 0 0 [.ref w, .int (iI f), .int (iI t), .long (lI aT), uu, .long (lI aB), uu, .long (lI bT), uu, .long (lI bB), uu, .int (iI i), uu, uu, uu, uu, uu, uu] [] h Q := by
        intro aT aB bT bB c'
        refine j_Wa_entersRing_164 ?_
        rw [iI_add]
        exact ih (i + 1) aT aB bT bB (by omega) c'
      refine j_Wa_entersRing_18 ?_
      rw [iI_le ⟨by omega, by omega⟩ ⟨by omega, by omega⟩, W.2.2.2.2.2.2.2.1, iI_add, iI_rem (a := (i : Int) + 1) (b := 4) (by omega) (by omega) (by omega) (by omega), gI_q (a := (i : Int)) (by omega) (by omega), gI_q (a := ((i : Int) + 1) % 4) (by omega) (by omega), Int.toNat_natCast, show (((i : Int) + 1) % 4).toNat = (i + 1) % 4 by omega, fi.1, fj.1, iI_eq ⟨by omega, by omega⟩ ⟨by omega, by omega⟩]
      refine ⟨fun z => by omega, fun _ => ⟨W.1, ixL_of W.2.2.2.2.2.2.2.2.1 (by omega) (by omega) (by decide), W.1, by decide, ixL_of W.2.2.2.2.2.2.2.2.1 (by omega) (by omega) (by decide), fun z => ?_, fun z => nx _ _ _ _ (cs_c c (rg_n (by omega)))⟩⟩
      have hne : F i ≠ F ((i + 1) % 4) := by omega
      have b1 := xb_crs B fi2 fj2 hf
      have b2 := xb_crs B fi2 fj2 ht
      have st := rg_s (X := mI h (w + 1)) (Y := mI h (w + 2)) (f := f) (t := t) hi4 hne
      have bad : crs (mI h (w + 1)) (mI h (w + 2)) (F i) (F ((i + 1) % 4)) f ≤ 0 → crs (mI h (w + 1)) (mI h (w + 2)) (F i) (F ((i + 1) % 4)) t ≤ 0 → ¬ fea (rgP (mI h (w + 1)) (mI h (w + 2)) F f t 4) := fun z1 z2 => fea_no ⟨i, hi4, hi4, hne, rfl, rfl⟩ z1 z2
      refine j_Wa_entersRing_56 ⟨W.1, jRet_mono (c_Wside W B fi2 fj2 hf) ?_⟩
      intro q1 h1 w1
      obtain ⟨e1, e2⟩ := w1
      rw [e2]
      refine ⟨_, e1, W.1, jRet_mono (c_Wside W B fi2 fj2 ht) ?_⟩
      intro q2 h2 w2
      obtain ⟨e3, e4⟩ := w2
      rw [e4]
      refine ⟨_, e3, ?_⟩
      clear e1 e2 e3 e4 fi fj
      generalize crs (mI h (w + 1)) (mI h (w + 2)) (F i) (F ((i + 1) % 4)) f = p at *
      generalize crs (mI h (w + 1)) (mI h (w + 2)) (F i) (F ((i + 1) % 4)) t = q at *
      have hb := c
      obtain ⟨c1, c2, c3, c4, c5, c6, c7⟩ := hb
      have c8 := c1.1
      have c9 := c1.2.1
      have go : 0 < p ∨ 0 < q → J 79 94 0 0 [.ref w, .int (iI f), .int (iI t), .long (lI aT), uu, .long (lI aB), uu, .long (lI bT), uu, .long (lI bB), uu, .int (iI i), uu, uu, .long (lI p), uu, .long (lI q), uu] [] h Q := by
        intro hpq
        have k1 := rL16 (x := -p) (y := aB) ⟨by omega, by omega⟩ ⟨by omega, by omega⟩
        have k2 := rL16 (x := aT) (y := q - p) c4 ⟨by omega, by omega⟩
        have k3 := rL16 (x := p) (y := bB) b1 ⟨by omega, by omega⟩
        have k4 := rL16 (x := bT) (y := p - q) ⟨by omega, by omega⟩ ⟨by omega, by omega⟩
        refine j_Wa_entersRing_94 ?_
        rw [lI_neg, lI_mul, lI_sub, lI_mul, lg_cmp_gt, lg_cmp_le, lI_lt r0 ⟨by omega, by omega⟩, lI_le k1 k2]
        refine ⟨fun z1 => j_Wa_entersRing_129 ?_, fun z1 => ⟨fun z2 => j_Wa_entersRing_129 ?_, fun z2 => j_Wa_entersRing_129 ?_⟩⟩
        · rw [lI_mul, lI_sub, lI_mul, lg_cmp_gt, lg_cmp_ge, lI_lt r0 ⟨by omega, by omega⟩, lI_le k4 k3]
          exact ⟨fun y => nx _ _ _ _ (cs_c (cs_p c (by omega) (by omega)) st), fun y => ⟨fun y2 => nx _ _ _ _ (cs_c (cs_hi' c (by omega) (by omega) (by omega)) st), fun y2 => nx _ _ _ _ (cs_c (cs_hi c (by omega) (by omega) (by omega) (by omega) (by omega)) st)⟩⟩
        · rw [lg_cmp_gt, lI_lt r0 ⟨by omega, by omega⟩]
          exact ⟨fun y => nx _ _ _ _ (cs_c (cs_lo' c (by omega) (by omega) (by omega)) st), fun y => by omega⟩
        · rw [lg_cmp_gt, lI_lt r0 ⟨by omega, by omega⟩]
          exact ⟨fun y => nx _ _ _ _ (cs_c (cs_lo c (by omega) (by omega) (by omega) (by omega) (by omega)) st), fun y => by omega⟩
      rw [lg_cmp_gt, lg_cmp_gt, lI_lt r0 ⟨by omega, by omega⟩, lI_lt r0 ⟨by omega, by omega⟩]
      exact ⟨fun z1 => go (Or.inl (by omega)), fun z1 => ⟨fun z2 => go (Or.inr (by omega)), fun z2 => ⟨Or.inl rfl, no (bad (by omega) (by omega))⟩⟩⟩
  refine jRet_of (by decide) (by decide) (Nat.le_of_ble_eq_true rfl) (j_Wa_entersRing_0 ?_)
  rw [jc11, jc02]
  exact loop 4 0 (-1) 1 2 1 (by omega) (cs_c cs_0 rg_0)
theorem c_Wfree {n a b : Nat} {F : Nat → Nat} (W : WL w h) (B : XB w h) (P : PT w n h) (hn : n ≤ 8) (hc : mI h w 4 = (n : Int)) (ha : a < n) (hb : b < n) (hF : ∀ j, j < 4 → mI h (w + 4) j = (F j : Int) ∧ F j < 24) : jRet 78 0 0 [.ref w, .int (iI a), .int (iI b)] h (bQ (¬ ∃ i, i < n ∧ i ≠ a ∧ i ≠ b ∧ fea (rgP (mI h (w + 1)) (mI h (w + 2)) F (wF1 w h i) (wF2 w h i) 4)) h) := by
  have loop : ∀ (d i : Nat), i + d = n → (∀ j, j < i → j ≠ a → j ≠ b → ¬ fea (rgP (mI h (w + 1)) (mI h (w + 2)) F (wF1 w h j) (wF2 w h j) 4)) → J 78 2 0 0 [.ref w, .int (iI a), .int (iI b), .int (iI i)] [] h (bQ (¬ ∃ i, i < n ∧ i ≠ a ∧ i ≠ b ∧ fea (rgP (mI h (w + 1)) (mI h (w + 2)) F (wF1 w h i) (wF2 w h i) 4)) h) := by
    intro d
    induction d with
    | zero =>
      intro i hi hno
      obtain rfl : i = n := by omega
      refine j_Wa_isRingFree_2 ?_
      rw [gI_mI h w 4, hc, iI_le ⟨by omega, by omega⟩ ⟨by omega, by omega⟩]
      exact ⟨W.1, fun _ => j_Wa_isRingFree_53 ⟨Or.inr rfl, Or.inl ⟨fun u => by
        obtain ⟨j, h1, h2, h3, h4⟩ := u
        exact hno j h1 h2 h3 h4, rfl⟩, rfl⟩, fun z => absurd (Int.le_refl _) z⟩
    | succ d ih =>
      intro i hi hno
      have hin : i < n := by omega
      obtain ⟨p1, p2, p3, p4⟩ := P.at hin
      have wi := W.2.2.2.2.2.2.2.2.2 i (by omega)
      have ir := ixR_of (a := (i : Int)) W.2.2.2.2.2.2.1 (Or.inr (Or.inr rfl)) (by omega) (by omega) (by decide)
      have nx : (i ≠ a → i ≠ b → ¬ fea (rgP (mI h (w + 1)) (mI h (w + 2)) F (wF1 w h i) (wF2 w h i) 4)) → J 78 47 0 0 [.ref w, .int (iI a), .int (iI b), .int (iI i)] [] h (bQ (¬ ∃ i, i < n ∧ i ≠ a ∧ i ≠ b ∧ fea (rgP (mI h (w + 1)) (mI h (w + 2)) F (wF1 w h i) (wF2 w h i) 4)) h) := by
        intro hq
        refine j_Wa_isRingFree_47 ?_
        rw [iI_add]
        refine ih (i + 1) (by omega) (fun j hj h1 h2 => ?_)
        by_cases c : j = i
        · subst c
          exact hq h1 h2
        · exact hno j (by omega) h1 h2
      refine j_Wa_isRingFree_2 ?_
      rw [gI_mI h w 4, hc, iI_le ⟨by omega, by omega⟩ ⟨by omega, by omega⟩, iI_eq ⟨by omega, by omega⟩ ⟨by omega, by omega⟩, iI_eq ⟨by omega, by omega⟩ ⟨by omega, by omega⟩, W.2.2.2.2.2.1, iI_cl (by omega) (by omega), Int.toNat_natCast, wi.1, gI_mI h (w + 5 + i) 1, p1, gI_mI h (w + 5 + i) 2, p2]
      refine ⟨W.1, fun z => by omega, fun _ => ⟨fun z => nx (fun y => absurd (show i = a by omega) y), fun z => ⟨fun z2 => nx (fun _ y => absurd (show i = b by omega) y), fun z2 => ⟨W.1, ir, wi.2, W.1, ir, wi.2, W.1, jRet_mono (c_Wenters W B p3 p4 hF) ?_⟩⟩⟩⟩
      intro q1 h1 w1
      obtain ⟨e1, e2⟩ := w1
      rw [e2]
      rcases e1 with ⟨y1, e1⟩ | ⟨y1, e1⟩
      · exact ⟨_, e1, fun u => absurd u (by decide), fun _ => ⟨Or.inl rfl, Or.inr ⟨fun u => u ⟨i, hin, by omega, by omega, y1⟩, rfl⟩, rfl⟩⟩
      · exact ⟨_, e1, fun _ => nx (fun _ _ => y1), fun u => absurd rfl u⟩
  refine jRet_of (by decide) (by decide) (Nat.le_of_ble_eq_true rfl) (j_Wa_isRingFree_0 ?_)
  exact loop n 0 (by omega) (fun j hj => by omega)
noncomputable def wSg (w : Nat) (h : jHp) (n a b : Nat) : Int := sgt (crs (mI h (w + 1)) (mI h (w + 2)) (wF1 w h a) (wF2 w h a) (wF1 w h b)) (crs (mI h (w + 1)) (mI h (w + 2)) (wF1 w h a) (wF2 w h a) (wF2 w h b)) (crs (mI h (w + 1)) (mI h (w + 2)) (wF1 w h b) (wF2 w h b) (wF1 w h a)) (crs (mI h (w + 1)) (mI h (w + 2)) (wF1 w h b) (wF2 w h b) (wF2 w h a)) (∃ i, i < n ∧ i ≠ a ∧ i ≠ b ∧ fea (rgP (mI h (w + 1)) (mI h (w + 2)) (f4 (wF1 w h a) (wF2 w h a) (wF1 w h b) (wF2 w h b)) (wF1 w h i) (wF2 w h i) 4))
theorem c_Wsight {n a b : Nat} (W : WL w h) (B : XB w h) (P : PT w n h) (hn : n ≤ 8) (hc : mI h w 4 = (n : Int)) (ha : a < n) (hb : b < n) : jRet 77 0 0 [.ref w, .int (iI a), .int (iI b)] h (fun q h' => q = some (.int (iI (wSg w h n a b))) ∧ fg (fun p _ => p = w + 4) h h') := by
  obtain ⟨p1, p2, p3, p4⟩ := P.at ha
  obtain ⟨r1, r2, r3, r4⟩ := P.at hb
  have wa := W.2.2.2.2.2.2.2.2.2 a (by omega)
  have wb := W.2.2.2.2.2.2.2.2.2 b (by omega)
  have ia := ixR_of (a := (a : Int)) W.2.2.2.2.2.2.1 (Or.inr (Or.inr rfl)) (by omega) (by omega) (by decide)
  have ib := ixR_of (a := (b : Int)) W.2.2.2.2.2.2.1 (Or.inr (Or.inr rfl)) (by omega) (by omega) (by decide)
  have r0 : rL ((0 : Nat) : Int) := ⟨by decide, by decide⟩
  have b1 := xb_crs B p3 p4 r3
  have b2 := xb_crs B p3 p4 r4
  have b3 := xb_crs B r3 r4 p3
  have b4 := xb_crs B r3 r4 p4
  refine jRet_of (by decide) (by decide) (Nat.le_of_ble_eq_true rfl) (j_Wa_sightOf_0 ?_)
  rw [W.2.2.2.2.2.1, iI_cl (a := (a : Int)) (by omega) (by omega), iI_cl (a := (b : Int)) (by omega) (by omega), Int.toNat_natCast, Int.toNat_natCast, wa.1, wb.1, gI_mI h (w + 5 + a) 1, p1, gI_mI h (w + 5 + a) 2, p2, gI_mI h (w + 5 + b) 1, r1, gI_mI h (w + 5 + b) 2, r2]
  refine ⟨W.1, ia, wa.2, W.1, ia, wa.2, W.1, ib, wb.2, W.1, ib, wb.2, W.1, jRet_mono (c_Wside W B p3 p4 r3) ?_⟩
  intro q1 h1 w1
  obtain ⟨e1, e2⟩ := w1
  rw [e2]
  refine ⟨_, e1, W.1, jRet_mono (c_Wside W B p3 p4 r4) ?_⟩
  intro q2 h2 w2
  obtain ⟨e3, e4⟩ := w2
  rw [e4]
  refine ⟨_, e3, W.1, jRet_mono (c_Wside W B r3 r4 p3) ?_⟩
  intro q3 h3 w3
  obtain ⟨e5, e6⟩ := w3
  rw [e6]
  refine ⟨_, e5, W.1, jRet_mono (c_Wside W B r3 r4 p4) ?_⟩
  intro q4 h4 w4
  obtain ⟨e7, e8⟩ := w4
  rw [e8]
  refine ⟨_, e7, ?_⟩
  clear e1 e2 e3 e4 e5 e6 e7 e8
  have c0 : (crs (mI h (w + 1)) (mI h (w + 2)) (wF1 w h a) (wF2 w h a) (wF1 w h b) ≤ 0 ∧ crs (mI h (w + 1)) (mI h (w + 2)) (wF1 w h a) (wF2 w h a) (wF2 w h b) ≤ 0) ∨ (crs (mI h (w + 1)) (mI h (w + 2)) (wF1 w h b) (wF2 w h b) (wF1 w h a) ≤ 0 ∧ crs (mI h (w + 1)) (mI h (w + 2)) (wF1 w h b) (wF2 w h b) (wF2 w h a) ≤ 0) → wSg w h n a b = 0 := fun z => by
    unfold wSg sgt
    rw [if_pos z]
  have c1 : ¬ ((crs (mI h (w + 1)) (mI h (w + 2)) (wF1 w h a) (wF2 w h a) (wF1 w h b) ≤ 0 ∧ crs (mI h (w + 1)) (mI h (w + 2)) (wF1 w h a) (wF2 w h a) (wF2 w h b) ≤ 0) ∨ (crs (mI h (w + 1)) (mI h (w + 2)) (wF1 w h b) (wF2 w h b) (wF1 w h a) ≤ 0 ∧ crs (mI h (w + 1)) (mI h (w + 2)) (wF1 w h b) (wF2 w h b) (wF2 w h a) ≤ 0)) → (crs (mI h (w + 1)) (mI h (w + 2)) (wF1 w h a) (wF2 w h a) (wF1 w h b) < 0 ∨ crs (mI h (w + 1)) (mI h (w + 2)) (wF1 w h a) (wF2 w h a) (wF2 w h b) < 0 ∨ crs (mI h (w + 1)) (mI h (w + 2)) (wF1 w h b) (wF2 w h b) (wF1 w h a) < 0 ∨ crs (mI h (w + 1)) (mI h (w + 2)) (wF1 w h b) (wF2 w h b) (wF2 w h a) < 0) → wSg w h n a b = 1 := fun z z2 => by
    unfold wSg sgt
    rw [if_neg z, if_pos z2]
  have c2 : ¬ ((crs (mI h (w + 1)) (mI h (w + 2)) (wF1 w h a) (wF2 w h a) (wF1 w h b) ≤ 0 ∧ crs (mI h (w + 1)) (mI h (w + 2)) (wF1 w h a) (wF2 w h a) (wF2 w h b) ≤ 0) ∨ (crs (mI h (w + 1)) (mI h (w + 2)) (wF1 w h b) (wF2 w h b) (wF1 w h a) ≤ 0 ∧ crs (mI h (w + 1)) (mI h (w + 2)) (wF1 w h b) (wF2 w h b) (wF2 w h a) ≤ 0)) → ¬ (crs (mI h (w + 1)) (mI h (w + 2)) (wF1 w h a) (wF2 w h a) (wF1 w h b) < 0 ∨ crs (mI h (w + 1)) (mI h (w + 2)) (wF1 w h a) (wF2 w h a) (wF2 w h b) < 0 ∨ crs (mI h (w + 1)) (mI h (w + 2)) (wF1 w h b) (wF2 w h b) (wF1 w h a) < 0 ∨ crs (mI h (w + 1)) (mI h (w + 2)) (wF1 w h b) (wF2 w h b) (wF2 w h a) < 0) → ∀ E : Prop, E = (∃ i, i < n ∧ i ≠ a ∧ i ≠ b ∧ fea (rgP (mI h (w + 1)) (mI h (w + 2)) (f4 (wF1 w h a) (wF2 w h a) (wF1 w h b) (wF2 w h b)) (wF1 w h i) (wF2 w h i) 4)) → (E → wSg w h n a b = 1) ∧ (¬ E → wSg w h n a b = 2) := fun z z2 E hE => by
    rw [hE]
    unfold wSg sgt
    rw [if_neg z, if_neg z2]
    exact ⟨fun y => if_pos y, fun y => if_neg y⟩
  have c3 := fun u v => c2 u v _ rfl
  clear c2
  have l140 : ∀ E : Prop, E = (∃ i, i < n ∧ i ≠ a ∧ i ≠ b ∧ fea (rgP (mI h (w + 1)) (mI h (w + 2)) (f4 (wF1 w h a) (wF2 w h a) (wF1 w h b) (wF2 w h b)) (wF1 w h i) (wF2 w h i) 4)) → (E → wSg w h n a b = 1) ∧ (¬ E → wSg w h n a b = 2) → J 77 140 0 0 [.ref w, .int (iI a), .int (iI b), .int (iI (wF1 w h a)), .int (iI (wF2 w h a)), .int (iI (wF1 w h b)), .int (iI (wF2 w h b)), uu, uu, uu, uu, uu, uu, uu, uu] [] h (fun q h' => q = some (.int (iI (wSg w h n a b))) ∧ fg (fun p _ => p = w + 4) h h') := by
    intro E hE hv
    have z0 : (iI 0).toNatClampNeg = 0 := by decide
    have z1 : (iI 1).toNatClampNeg = 1 := by decide
    have z2 : (iI 2).toNatClampNeg = 2 := by decide
    have z3 : (iI 3).toNatClampNeg = 3 := by decide
    have W1 : ∀ v, WL w (sI h (w + 4) 0 v) := fun v => wl_sk W sk.rf.sI
    have W2 : ∀ v v', WL w (sI (sI h (w + 4) 0 v) (w + 4) 1 v') := fun v v' => wl_sk W sk.rf.sI.sI
    have W3 : ∀ v v' v'', WL w (sI (sI (sI h (w + 4) 0 v) (w + 4) 1 v') (w + 4) 2 v'') := fun v v' v'' => wl_sk W sk.rf.sI.sI.sI
    refine j_Wa_sightOf_140 ?_
    rw [W.2.2.2.2.2.2.2.1, z0, z1, (W1 _).2.2.2.2.2.2.2.1]
    refine ⟨W.1, ix_of W.2.2.2.2.2.2.2.2.1 (by omega) (by omega) (by decide), (W1 _).1, ix_of (W1 _).2.2.2.2.2.2.2.2.1 (by omega) (by omega) (by decide), j_Wa_sightOf_155 ?_⟩
    rw [(W2 _ _).2.2.2.2.2.2.2.1, z2, z3, (W3 _ _ _).2.2.2.2.2.2.2.1]
    refine ⟨(W2 _ _).1, ix_of (W2 _ _).2.2.2.2.2.2.2.2.1 (by omega) (by omega) (by decide), (W3 _ _ _).1, ix_of (W3 _ _ _).2.2.2.2.2.2.2.2.1 (by omega) (by omega) (by decide), ?_⟩
    obtain ⟨g, hg⟩ : ∃ g, g = sI (sI (sI (sI h (w + 4) 0 (iI (wF1 w h a))) (w + 4) 1 (iI (wF2 w h a))) (w + 4) 2 (iI (wF1 w h b))) (w + 4) 3 (iI (wF2 w h b)) := ⟨_, rfl⟩
    have fgg : fg (fun p _ => p = w + 4) h g := by
      rw [hg]
      refine fg.wr (fg.wr (fg.wr (fg.wr fg.rf ?_) ?_) ?_) ?_ <;> rfl
    have k4 : ∀ j, j < 4 → mI g (w + 4) j = (f4 (wF1 w h a) (wF2 w h a) (wF1 w h b) (wF2 w h b) j : Int) ∧ f4 (wF1 w h a) (wF2 w h a) (wF1 w h b) (wF2 w h b) j < 24 := by
      intro j hj
      rw [hg, mI_sI ⟨by omega, by omega⟩, mI_sI ⟨by omega, by omega⟩, mI_sI ⟨by omega, by omega⟩, mI_sI ⟨by omega, by omega⟩]
      unfold f4
      match j, hj with
      | 0, _ => exact ⟨by simp, by simp; exact p3⟩
      | 1, _ => exact ⟨by simp, by simp; exact p4⟩
      | 2, _ => exact ⟨by simp, by simp; exact r3⟩
      | 3, _ => exact ⟨by simp, by simp; exact r4⟩
    rw [← hg]
    have ee : ∀ p k, p ≠ w + 4 → mI g p k = mI h p k := fun p k hp => fgg.eq hp
    have e1 : mI g (w + 1) = mI h (w + 1) := funext (fun k => ee _ k (by omega))
    have e2 : mI g (w + 2) = mI h (w + 2) := funext (fun k => ee _ k (by omega))
    have e3 : ∀ i, wF1 w g i = wF1 w h i := fun i => by
      unfold wF1
      rw [ee _ _ (by omega)]
    have e4 : ∀ i, wF2 w g i = wF2 w h i := fun i => by
      unfold wF2
      rw [ee _ _ (by omega)]
    have Wg := wl_sk W fgg.1
    have Bg : XB w g := by
      unfold XB
      rw [e1, e2]
      exact B
    have Pg : PT w n g := fun i hi => by
      obtain ⟨u, v, h1, h2, h3⟩ := P i hi
      exact ⟨u, v, by rw [ee _ _ (by omega)]; exact h1, by rw [ee _ _ (by omega)]; exact h2, h3⟩
    have key := c_Wfree Wg Bg Pg hn (by rw [ee _ _ (by omega)]; exact hc) ha hb k4
    rw [e1, e2] at key
    simp only [e3, e4] at key
    rw [← hE] at key
    refine j_Wa_sightOf_171 ⟨Wg.1, jRet_mono key ?_⟩
    intro q1 h1 w1
    obtain ⟨f1, f2⟩ := w1
    rw [f2]
    rcases f1 with ⟨y1, f1⟩ | ⟨y1, f1⟩
    · exact ⟨_, f1, fun u => absurd u (by decide), fun _ => j_Wa_sightOf_185 ⟨by rw [hv.2 y1], fgg⟩⟩
    · exact ⟨_, f1, fun _ => j_Wa_sightOf_184 (j_Wa_sightOf_185 ⟨by rw [hv.1 (Classical.byContradiction y1)], fgg⟩), fun u => absurd rfl u⟩
  have l140' := l140 _ rfl
  clear l140
  generalize (∃ i, i < n ∧ i ≠ a ∧ i ≠ b ∧ fea (rgP (mI h (w + 1)) (mI h (w + 2)) (f4 (wF1 w h a) (wF2 w h a) (wF1 w h b) (wF2 w h b)) (wF1 w h i) (wF2 w h i) 4)) = E at *
  generalize wSg w h n a b = S at *
  generalize crs (mI h (w + 1)) (mI h (w + 2)) (wF1 w h a) (wF2 w h a) (wF1 w h b) = x1 at *
  generalize crs (mI h (w + 1)) (mI h (w + 2)) (wF1 w h a) (wF2 w h a) (wF2 w h b) = x2 at *
  generalize crs (mI h (w + 1)) (mI h (w + 2)) (wF1 w h b) (wF2 w h b) (wF1 w h a) = x3 at *
  generalize crs (mI h (w + 1)) (mI h (w + 2)) (wF1 w h b) (wF2 w h b) (wF2 w h a) = x4 at *
  have m1 : (if x2 < x1 then x1 else x2) ≤ 0 ↔ x1 ≤ 0 ∧ x2 ≤ 0 := by split <;> omega
  have m2 : (if x4 < x3 then x3 else x4) ≤ 0 ↔ x3 ≤ 0 ∧ x4 ≤ 0 := by split <;> omega
  have m3 : (if x2 < x1 then x2 else x1) < 0 ↔ x1 < 0 ∨ x2 < 0 := by split <;> omega
  have m4 : (if x4 < x3 then x4 else x3) < 0 ↔ x3 < 0 ∨ x4 < 0 := by split <;> omega
  have n1 : rL (if x2 < x1 then x1 else x2) := by split <;> exact ⟨by omega, by omega⟩
  have n2 : rL (if x4 < x3 then x3 else x4) := by split <;> exact ⟨by omega, by omega⟩
  have n3 : rL (if x2 < x1 then x2 else x1) := by split <;> exact ⟨by omega, by omega⟩
  have n4 : rL (if x4 < x3 then x4 else x3) := by split <;> exact ⟨by omega, by omega⟩
  rw [lmx ⟨by omega, by omega⟩ ⟨by omega, by omega⟩, lmx ⟨by omega, by omega⟩ ⟨by omega, by omega⟩, lg_cmp_le, lg_cmp_gt, lI_le n1 r0, lI_lt r0 n2]
  have z112 : (x1 ≤ 0 ∧ x2 ≤ 0) ∨ (x3 ≤ 0 ∧ x4 ≤ 0) → J 77 112 0 0 [uu, uu, uu, uu, uu, uu, uu, uu, uu, uu, uu, uu, uu, uu, uu] [] h (fun q h' => q = some (.int (iI S)) ∧ fg (fun p _ => p = w + 4) h h') := fun z => j_Wa_sightOf_112 ⟨by rw [c0 z], fg.rf⟩
  refine ⟨fun z => z112 (Or.inl (m1.mp z)), fun z => ⟨fun y => j_Wa_sightOf_114 ?_, fun y => z112 (Or.inr (m2.mp (by omega)))⟩⟩
  have nz : ¬ ((x1 ≤ 0 ∧ x2 ≤ 0) ∨ (x3 ≤ 0 ∧ x4 ≤ 0)) := fun u => by
    rcases u with u | u
    · exact z (m1.mpr u)
    · have := m2.mpr u
      omega
  have z138 : (x1 < 0 ∨ x2 < 0 ∨ x3 < 0 ∨ x4 < 0) → J 77 138 0 0 [uu, uu, uu, uu, uu, uu, uu, uu, uu, uu, uu, uu, uu, uu, uu] [] h (fun q h' => q = some (.int (iI S)) ∧ fg (fun p _ => p = w + 4) h h') := fun u => j_Wa_sightOf_138 ⟨by rw [c1 nz u], fg.rf⟩
  rw [lmn ⟨by omega, by omega⟩ ⟨by omega, by omega⟩, lmn ⟨by omega, by omega⟩ ⟨by omega, by omega⟩, lg_cmp_lt, lg_cmp_ge, lI_lt n3 r0, lI_le r0 n4]
  refine ⟨fun u => z138 ?_, fun u => ⟨fun v => l140' (c3 nz ?_), fun v => z138 ?_⟩⟩
  · rcases m3.mp u with t | t
    · exact Or.inl t
    · exact Or.inr (Or.inl t)
  · intro t
    have a1 : ¬ (x1 < 0 ∨ x2 < 0) := fun r => u (m3.mpr r)
    have a2 : ¬ (x3 < 0 ∨ x4 < 0) := fun r => by
      have := m4.mpr r
      omega
    omega
  · rcases m4.mp (by omega) with t | t
    · exact Or.inr (Or.inr (Or.inl t))
    · exact Or.inr (Or.inr (Or.inr t))
end SIGHT
