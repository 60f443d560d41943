/-! Walls: sides, pieces that meet; Table -/
def bQ (P : Prop) (h : jHp) : jQ := fun r h' => (P ∧ r = some (.int (iI 1)) ∨ ¬ P ∧ r = some (.int (iI 0))) ∧ h' = h
theorem sg_mul {x y : Int} : x.sign * y.sign < 0 ↔ x * y < 0 := by
  rw [← Int.sign_mul]
  exact sg_lt
section WALLS
variable {w : Nat} {h : jHp}
/-- the corners' numbers are small -/
def XB (w : Nat) (h : jHp) : Prop := ∀ k, k < 24 → (-1000 ≤ mI h (w + 1) k ∧ mI h (w + 1) k ≤ 1000) ∧ (-1000 ≤ mI h (w + 2) k ∧ mI h (w + 2) k ≤ 1000)
theorem c_Wside {a b c : Nat} (W : WL w h) (B : XB w h) (ha : a < 24) (hb : b < 24) (hc : c < 24) : jRet 73 0 0 [.ref w, .int (iI a), .int (iI b), .int (iI c)] h (fun r h' => r = some (.long (lI (crs (mI h (w + 1)) (mI h (w + 2)) a b c))) ∧ h' = h) := by
  have x1 := B a ha
  have x2 := B b hb
  have x3 := B c hc
  have i1 : ∀ k : Nat, k < 24 → ixL h (w + 1) (iI (k : Int)) := fun k hk => ixL_of W.2.2.1 (by omega) (by omega) (by decide)
  have i2 : ∀ k : Nat, k < 24 → ixL h (w + 2) (iI (k : Int)) := fun k hk => ixL_of W.2.2.2.2.1 (by omega) (by omega) (by decide)
  have g : ∀ (q k : Nat), k < 24 → gI h q (iI (k : Int)).toNatClampNeg = iI (mI h q k) := fun q k hk => by rw [gI_q (by omega) (by omega), Int.toNat_natCast]
  refine jRet_of (by decide) (by decide) (Nat.le_of_ble_eq_true rfl) (j_Wa_side_0 ?_)
  rw [W.2.1, W.2.2.2.1]
  simp only [g _ a ha, g _ b hb, g _ c hc, iI_sub]
  rw [iI_64 ⟨by omega, by omega⟩, iI_64 ⟨by omega, by omega⟩, iI_64 ⟨by omega, by omega⟩, iI_64 ⟨by omega, by omega⟩, lI_mul, lI_mul, lI_sub]
  exact ⟨W.1, i1 b hb, W.1, i1 a ha, W.1, i2 b hb, W.1, i2 a ha, W.1, i2 c hc, W.1, i2 a ha, W.1, i1 c hc, W.1, i1 a ha, rfl, trivial⟩
theorem xb_crs {a b c : Nat} (B : XB w h) (ha : a < 24) (hb : b < 24) (hc : c < 24) : -8000000 ≤ crs (mI h (w + 1)) (mI h (w + 2)) a b c ∧ crs (mI h (w + 1)) (mI h (w + 2)) a b c ≤ 8000000 :=
  crs_bd (fun k hk => (B k (by omega)).1) (fun k hk => (B k (by omega)).2)
theorem c_Wwithin {a b c : Nat} (W : WL w h) (B : XB w h) (ha : a < 24) (hb : b < 24) (hc : c < 24) : jRet 74 0 0 [.ref w, .int (iI c), .int (iI a), .int (iI b)] h (bQ (wth (mI h (w + 1)) (mI h (w + 2)) a b c) h) := by
  have x1 := B a ha
  have x2 := B b hb
  have x3 := B c hc
  have i1 : ∀ k : Nat, k < 24 → ixL h (w + 1) (iI (k : Int)) := fun k hk => ixL_of W.2.2.1 (by omega) (by omega) (by decide)
  have i2 : ∀ k : Nat, k < 24 → ixL h (w + 2) (iI (k : Int)) := fun k hk => ixL_of W.2.2.2.2.1 (by omega) (by omega) (by decide)
  have g : ∀ (q k : Nat), k < 24 → gI h q (iI (k : Int)).toNatClampNeg = iI (mI h q k) := fun q k hk => by rw [gI_q (by omega) (by omega), Int.toNat_natCast]
  have m1 := mul_bd (p := mI h (w + 1) a - mI h (w + 1) c) (q := mI h (w + 1) b - mI h (w + 1) c) (by omega) (by omega)
  have m2 := mul_bd (p := mI h (w + 2) a - mI h (w + 2) c) (q := mI h (w + 2) b - mI h (w + 2) c) (by omega) (by omega)
  have cb := xb_crs B ha hb hc
  have ed : (mI h (w + 1) a - mI h (w + 1) c) * (mI h (w + 1) b - mI h (w + 1) c) + (mI h (w + 2) a - mI h (w + 2) c) * (mI h (w + 2) b - mI h (w + 2) c) = dot (mI h (w + 1)) (mI h (w + 2)) a b c := by
    unfold dot
    grind
  refine jRet_of (by decide) (by decide) (Nat.le_of_ble_eq_true rfl) (j_Wa_isWithin_0 ?_)
  rw [W.2.1, W.2.2.2.1]
  simp only [g _ a ha, g _ b hb, g _ c hc, iI_sub, iI_mul, iI_add]
  rw [ed]
  have db : rI (dot (mI h (w + 1)) (mI h (w + 2)) a b c) := by
    rw [← ed]
    exact ⟨by omega, by omega⟩
  rw [iI_0, iI_le ⟨by omega, by omega⟩ db]
  refine ⟨W.1, i1 a ha, W.1, i1 c hc, W.1, i1 b hb, W.1, i1 c hc, W.1, i2 a ha, W.1, i2 c hc, W.1, i2 b hb, W.1, i2 c hc, fun z => j_Wa_isWithin_78 (j_Wa_isWithin_79 ⟨Or.inl rfl, Or.inr ⟨fun y => ?_, rfl⟩, rfl⟩), fun z => ⟨W.1, jRet_mono (c_Wside W B ha hb hc) ?_⟩⟩
  · have := y.2
    omega
  · intro q1 h1 w1
    obtain ⟨e1, e2⟩ := w1
    rw [e2]
    refine ⟨_, e1, ?_⟩
    rw [← iI_0, lg_cmp_eq, lI_eq ⟨by omega, by omega⟩ ⟨by omega, by omega⟩]
    exact ⟨fun y => j_Wa_isWithin_78 (j_Wa_isWithin_79 ⟨Or.inl rfl, Or.inr ⟨fun u => y u.1, rfl⟩, rfl⟩), fun y => j_Wa_isWithin_79 ⟨Or.inr rfl, Or.inl ⟨⟨y, (by omega)⟩, rfl⟩, rfl⟩⟩
theorem mul_8 {x y : Int} (hx : -8000000 ≤ x ∧ x ≤ 8000000) (hy : -8000000 ≤ y ∧ y ≤ 8000000) : -64000000000000 ≤ x * y ∧ x * y ≤ 64000000000000 := by
  have h1 : (x * y).natAbs ≤ 8000000 * 8000000 := by
    rw [Int.natAbs_mul]
    exact Nat.mul_le_mul (by omega) (by omega)
  omega
theorem c_Wcross {a b c d : Nat} (W : WL w h) (B : XB w h) (ha : a < 24) (hb : b < 24) (hc : c < 24) (hd : d < 24) : jRet 72 0 0 [.ref w, .int (iI a), .int (iI b), .int (iI c), .int (iI d)] h (bQ ((crs (mI h (w + 1)) (mI h (w + 2)) a b c).sign * (crs (mI h (w + 1)) (mI h (w + 2)) a b d).sign < 0 ∧ (crs (mI h (w + 1)) (mI h (w + 2)) c d a).sign * (crs (mI h (w + 1)) (mI h (w + 2)) c d b).sign < 0) h) := by
  have r1 := xb_crs B ha hb hc
  have r2 := xb_crs B ha hb hd
  have r3 := xb_crs B hc hd ha
  have r4 := xb_crs B hc hd hb
  have k1 := mul_8 r1 r2
  have k2 := mul_8 r3 r4
  refine jRet_of (by decide) (by decide) (Nat.le_of_ble_eq_true rfl) (j_Wa_crosses_0 ⟨W.1, jRet_mono (c_Wside W B ha hb hc) ?_⟩)
  intro q1 h1 w1
  obtain ⟨e1, e2⟩ := w1
  rw [e2]
  refine ⟨_, e1, W.1, jRet_mono (c_Wside W B ha hb hd) ?_⟩
  intro q2 h2 w2
  obtain ⟨e3, e4⟩ := w2
  rw [e4]
  refine ⟨_, e3, ?_⟩
  rw [lI_mul, lg_cmp_ge, lI_le ⟨by omega, by omega⟩ ⟨by omega, by omega⟩, sg_mul, sg_mul]
  refine ⟨fun z => j_Wa_crosses_47 (j_Wa_crosses_48 ⟨Or.inl rfl, Or.inr ⟨fun y => by have := y.1; omega, rfl⟩, rfl⟩), fun z => ⟨W.1, jRet_mono (c_Wside W B hc hd ha) ?_⟩⟩
  intro q3 h3 w3
  obtain ⟨e5, e6⟩ := w3
  rw [e6]
  refine ⟨_, e5, W.1, jRet_mono (c_Wside W B hc hd hb) ?_⟩
  intro q4 h4 w4
  obtain ⟨e7, e8⟩ := w4
  rw [e8]
  refine ⟨_, e7, ?_⟩
  rw [lI_mul, lg_cmp_ge, lI_le ⟨by omega, by omega⟩ ⟨by omega, by omega⟩]
  exact ⟨fun y => j_Wa_crosses_47 (j_Wa_crosses_48 ⟨Or.inl rfl, Or.inr ⟨fun u => by have := u.2; omega, rfl⟩, rfl⟩), fun y => j_Wa_crosses_48 ⟨Or.inr rfl, Or.inl ⟨⟨(by omega), (by omega)⟩, rfl⟩, rfl⟩⟩
theorem c_Wmeets {a b c d : Nat} (W : WL w h) (B : XB w h) (ha : a < 24) (hb : b < 24) (hc : c < 24) (hd : d < 24) : jRet 71 0 0 [.ref w, .int (iI a), .int (iI b), .int (iI c), .int (iI d)] h (bQ (mee (mI h (w + 1)) (mI h (w + 2)) c d a b) h) := by
  have yes : mee (mI h (w + 1)) (mI h (w + 2)) c d a b → J 71 89 0 0 [uu, uu, uu, uu, uu, uu] [] h (bQ (mee (mI h (w + 1)) (mI h (w + 2)) c d a b) h) := fun z => j_Wa_meets_89 (j_Wa_meets_94 ⟨Or.inr rfl, Or.inl ⟨z, rfl⟩, rfl⟩)
  have b01 : ¬ iI 0 = iI 1 := by decide
  have nz1 : ¬ iI 1 = (0 : Int32) := by decide
  have l27 : ∀ y : Int, (y = 0 ∨ y = 1) → (y = 1 ↔ (c = a ∧ d = b ∨ c = b ∧ d = a)) → J 71 27 0 0 [.ref w, .int (iI a), .int (iI b), .int (iI c), .int (iI d), uu] [.int (iI y)] h (bQ (mee (mI h (w + 1)) (mI h (w + 2)) c d a b) h) := by
    intro y hy hyy
    refine j_Wa_meets_27 ?_
    rw [iI_0, iI_eq ⟨by omega, by omega⟩ ⟨by omega, by omega⟩]
    refine ⟨fun z => yes (Or.inr (Or.inr (Or.inr (Or.inr (Or.inl (hyy.mp (by omega))))))), fun z => ⟨W.1, jRet_mono (c_Wcross W B ha hb hc hd) ?_⟩⟩
    have hne : ¬ (c = a ∧ d = b ∨ c = b ∧ d = a) := fun u => by
      have := hyy.mpr u
      omega
    intro q1 h1 w1
    obtain ⟨e1, e2⟩ := w1
    rw [e2]
    rcases e1 with ⟨p1, e1⟩ | ⟨p1, e1⟩
    · exact ⟨_, e1, fun _ => yes (Or.inr (Or.inr (Or.inr (Or.inr (Or.inr ⟨p1.2, p1.1⟩))))), fun u => absurd u (by decide)⟩
    refine ⟨_, e1, fun u => absurd rfl u, fun _ => ⟨W.1, jRet_mono (c_Wwithin W B hc hd ha) ?_⟩⟩
    intro q2 h2 w2
    obtain ⟨e3, e4⟩ := w2
    rw [e4]
    rcases e3 with ⟨p2, e3⟩ | ⟨p2, e3⟩
    · exact ⟨_, e3, fun _ => yes (Or.inl p2), fun u => absurd u (by decide)⟩
    refine ⟨_, e3, fun u => absurd rfl u, fun _ => ⟨W.1, jRet_mono (c_Wwithin W B hc hd hb) ?_⟩⟩
    intro q3 h3 w3
    obtain ⟨e5, e6⟩ := w3
    rw [e6]
    rcases e5 with ⟨p3, e5⟩ | ⟨p3, e5⟩
    · exact ⟨_, e5, fun _ => yes (Or.inr (Or.inl p3)), fun u => absurd u (by decide)⟩
    refine ⟨_, e5, fun u => absurd rfl u, fun _ => ⟨W.1, jRet_mono (c_Wwithin W B ha hb hc) ?_⟩⟩
    intro q4 h4 w4
    obtain ⟨e7, e8⟩ := w4
    rw [e8]
    rcases e7 with ⟨p4, e7⟩ | ⟨p4, e7⟩
    · exact ⟨_, e7, fun _ => yes (Or.inr (Or.inr (Or.inl p4))), fun u => absurd u (by decide)⟩
    refine ⟨_, e7, fun u => absurd rfl u, fun _ => ⟨W.1, jRet_mono (c_Wwithin W B ha hb hd) ?_⟩⟩
    intro q5 h5 w5
    obtain ⟨e9, e10⟩ := w5
    rw [e10]
    rcases e9 with ⟨p5, e9⟩ | ⟨p5, e9⟩
    · exact ⟨_, e9, fun u => absurd u (by decide), fun _ => yes (Or.inr (Or.inr (Or.inr (Or.inl p5))))⟩
    refine ⟨_, e9, fun _ => j_Wa_meets_93 (j_Wa_meets_94 ⟨Or.inl rfl, Or.inr ⟨fun u => ?_, rfl⟩, rfl⟩), fun u => absurd rfl u⟩
    rcases u with u | u | u | u | u | u
    · exact p2 u
    · exact p3 u
    · exact p4 u
    · exact p5 u
    · exact hne u
    · exact p1 ⟨u.2, u.1⟩
  have l11 : ¬ (c = a ∧ d = b) → J 71 11 0 0 [.ref w, .int (iI a), .int (iI b), .int (iI c), .int (iI d), uu] [] h (bQ (mee (mI h (w + 1)) (mI h (w + 2)) c d a b) h) := by
    intro hn
    refine j_Wa_meets_11 ?_
    rw [iI_eq ⟨by omega, by omega⟩ ⟨by omega, by omega⟩, iI_eq ⟨by omega, by omega⟩ ⟨by omega, by omega⟩]
    exact ⟨fun z => j_Wa_meets_26 (l27 0 (Or.inl rfl) ⟨fun u => absurd u (by decide), fun u => by omega⟩), fun z => ⟨fun z2 => j_Wa_meets_26 (l27 0 (Or.inl rfl) ⟨fun u => absurd u (by decide), fun u => by omega⟩), fun z2 => j_Wa_meets_22 (l27 1 (Or.inr rfl) ⟨fun _ => Or.inr ⟨(by omega), (by omega)⟩, fun _ => rfl⟩)⟩⟩
  refine jRet_of (by decide) (by decide) (Nat.le_of_ble_eq_true rfl) (j_Wa_meets_0 ?_)
  rw [iI_eq ⟨by omega, by omega⟩ ⟨by omega, by omega⟩, iI_eq ⟨by omega, by omega⟩ ⟨by omega, by omega⟩]
  exact ⟨fun z => l11 (by omega), fun z => ⟨fun z2 => j_Wa_meets_22 (l27 1 (Or.inr rfl) ⟨fun _ => Or.inl ⟨(by omega), (by omega)⟩, fun _ => rfl⟩), fun z2 => l11 (by omega)⟩⟩
/-- patches lie between corners -/
def PT (w n : Nat) (h : jHp) : Prop := ∀ i, i < n → ∃ a b : Nat, mI h (w + 5 + i) 1 = (a : Int) ∧ mI h (w + 5 + i) 2 = (b : Int) ∧ a < 24 ∧ b < 24
theorem c_WmeetsAny {a b n : Nat} (W : WL w h) (B : XB w h) (ha : a < 24) (hb : b < 24) (hn : mI h w 4 = (n : Int)) (hn8 : n ≤ 8) (P : PT w n h) : jRet 70 0 0 [.ref w, .int (iI a), .int (iI b)] h (bQ (∃ i, i < n ∧ mee (mI h (w + 1)) (mI h (w + 2)) (mI h (w + 5 + i) 1).toNat (mI h (w + 5 + i) 2).toNat a b) h) := by
  have l2 : ∀ (d i : Nat), i + d = n → (∀ j, j < i → ¬ mee (mI h (w + 1)) (mI h (w + 2)) (mI h (w + 5 + j) 1).toNat (mI h (w + 5 + j) 2).toNat a b) → J 70 2 0 0 [.ref w, .int (iI a), .int (iI b), .int (iI i)] [] h (bQ (∃ i, i < n ∧ mee (mI h (w + 1)) (mI h (w + 2)) (mI h (w + 5 + i) 1).toNat (mI h (w + 5 + i) 2).toNat a b) h) := by
    intro d
    induction d with
    | zero =>
      intro i hi hno
      obtain rfl : i = n := by omega
      refine j_Wa_meetsAny_2 ?_
      rw [gI_mI h w 4, hn, iI_le ⟨by omega, by omega⟩ ⟨by omega, by omega⟩]
      exact ⟨W.1, fun _ => j_Wa_meetsAny_45 ⟨Or.inl rfl, Or.inr ⟨fun u => by
        obtain ⟨j, h1, h2⟩ := u
        exact hno j h1 h2, rfl⟩, rfl⟩, fun z => absurd (Int.le_refl _) z⟩
    | succ d ih =>
      intro i hi hno
      obtain ⟨p, q, hp, hq, hp4, hq4⟩ := P i (by omega)
      have wi := W.2.2.2.2.2.2.2.2.2 i (by omega)
      refine j_Wa_meetsAny_2 ?_
      rw [gI_mI h w 4, hn, iI_le ⟨by omega, by omega⟩ ⟨by omega, by omega⟩, W.2.2.2.2.2.1, iI_cl (by omega) (by omega), Int.toNat_natCast, wi.1, gI_mI h (w + 5 + i) 1, hp, gI_mI h (w + 5 + i) 2, hq]
      have ir := ixR_of (a := (i : Int)) W.2.2.2.2.2.2.1 (Or.inr (Or.inr rfl)) (by omega) (by omega) (by decide)
      refine ⟨W.1, fun z => by omega, fun _ => ⟨W.1, ir, wi.2, W.1, ir, wi.2, W.1, jRet_mono (c_Wmeets W B ha hb hp4 hq4) ?_⟩⟩
      intro q1 h1 w1
      obtain ⟨e1, e2⟩ := w1
      rw [e2]
      have ee : mee (mI h (w + 1)) (mI h (w + 2)) (mI h (w + 5 + i) 1).toNat (mI h (w + 5 + i) 2).toNat a b ↔ mee (mI h (w + 1)) (mI h (w + 2)) p q a b := by
        rw [hp, hq, Int.toNat_natCast, Int.toNat_natCast]
      rcases e1 with ⟨p1, e1⟩ | ⟨p1, e1⟩
      · exact ⟨_, e1, fun u => absurd u (by decide), fun _ => ⟨Or.inr rfl, Or.inl ⟨⟨i, (by omega), ee.mpr p1⟩, rfl⟩, rfl⟩⟩
      · refine ⟨_, e1, fun _ => j_Wa_meetsAny_39 ?_, fun u => absurd rfl u⟩
        rw [iI_add]
        refine ih (i + 1) (by omega) (fun j hj => ?_)
        by_cases c : j = i
        · rw [c]
          exact fun u => p1 (ee.mp u)
        · exact hno j (by omega)
  refine jRet_of (by decide) (by decide) (Nat.le_of_ble_eq_true rfl) (j_Wa_meetsAny_0 ?_)
  exact l2 n 0 (by omega) (fun j hj => by omega)
theorem c_WhasPatch {p n : Int} (W : WL w h) (hp : rI p) (hn : mI h w 4 = n) : jRet 76 0 0 [.ref w, .int (iI p)] h (fun r h' => r = some (.int (iI (if 0 ≤ p ∧ p < n then 1 else 0))) ∧ h' = h) := by
  have rn : rI n := by
    rw [← hn]
    exact rI_mI _ _ _
  refine jRet_of (by decide) (by decide) (Nat.le_of_ble_eq_true rfl) (j_Wa_hasPatch_0 ?_)
  rw [gI_mI, hn, iI_0, iI_lt hp ⟨by omega, by omega⟩, iI_le rn hp]
  exact ⟨fun c => j_Wa_hasPatch_16 (j_Wa_hasPatch_17 ⟨Or.inl rfl, by rw [if_neg (by omega)], rfl⟩), fun c => ⟨W.1, fun c2 => j_Wa_hasPatch_16 (j_Wa_hasPatch_17 ⟨Or.inl rfl, by rw [if_neg (by omega)], rfl⟩), fun c2 => j_Wa_hasPatch_17 ⟨Or.inr rfl, by rw [if_pos (by omega)], rfl⟩⟩⟩
theorem c_WhasCorner {p n : Int} (W : WL w h) (hp : rI p) (hn : mI h w 2 = n) : jRet 69 0 0 [.ref w, .int (iI p)] h (fun r h' => r = some (.int (iI (if 0 ≤ p ∧ p < n then 1 else 0))) ∧ h' = h) := by
  have rn : rI n := by
    rw [← hn]
    exact rI_mI _ _ _
  refine jRet_of (by decide) (by decide) (Nat.le_of_ble_eq_true rfl) (j_Wa_hasCorner_0 ?_)
  rw [gI_mI, hn, iI_0, iI_lt hp ⟨by omega, by omega⟩, iI_le rn hp]
  exact ⟨fun c => j_Wa_hasCorner_16 (j_Wa_hasCorner_17 ⟨Or.inl rfl, by rw [if_neg (by omega)], rfl⟩), fun c => ⟨W.1, fun c2 => j_Wa_hasCorner_16 (j_Wa_hasCorner_17 ⟨Or.inl rfl, by rw [if_neg (by omega)], rfl⟩), fun c2 => j_Wa_hasCorner_17 ⟨Or.inr rfl, by rw [if_pos (by omega)], rfl⟩⟩⟩
end WALLS
