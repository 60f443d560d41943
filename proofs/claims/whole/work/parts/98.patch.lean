/-! patch: the model's; the class's addPatch -/
section PATCH
variable {m w n : Nat} {h : jHp}
/-- how many of the first k are lamps -/
def lmC (m : Nat) (h : jHp) : Nat → Int
  | 0 => 0
  | k + 1 => lmC m h k + (if mI h (m + 9) k = 1 then 1 else 0)
theorem lmC_bd : ∀ k, 0 ≤ lmC m h k ∧ lmC m h k ≤ k
  | 0 => ⟨by rw [lmC]; decide, by rw [lmC]; decide⟩
  | k + 1 => by
    have := lmC_bd k
    rw [lmC]
    split <;> omega
noncomputable def ptS (m : Nat) (h : jHp) (n nc : Nat) (f t k : Int) : Int := if ¬ ((0 ≤ f ∧ f < nc) ∧ (0 ≤ t ∧ t < nc) ∧ f ≠ t) then 1 else if ¬ (0 ≤ k ∧ k ≤ 2) then 2 else if n = 8 then 3 else if k = 1 ∧ lmC m h n = 3 then 5 else @ite Int (∃ i, i < n ∧ mee (mI h (m + 5)) (mI h (m + 6)) (mF1 m h i) (mF2 m h i) f.toNat t.toNat) (Classical.propDecidable _) 7 0
def ptF (m n p k : Nat) : Prop := (m + 7 ≤ p ∧ p ≤ m + 15 ∧ k = n) ∨ (p = m ∧ (k = 20 ∨ k = 0))
def ptN (m n : Nat) (h' : jHp) (f t k : Int) : Prop := mI h' (m + 7) n = f ∧ mI h' (m + 8) n = t ∧ mI h' (m + 9) n = k ∧ mI h' (m + 10) n = 0 ∧ mI h' (m + 11) n = 1 ∧ mI h' (m + 12) n = 0 ∧ mI h' (m + 13) n = 0 ∧ mI h' (m + 14) n = 1 ∧ mI h' (m + 15) n = 10000 ∧ mI h' m 20 = (n : Int) + 1 ∧ mI h' m 0 = 0
noncomputable def ptQ (m : Nat) (h : jHp) (n nc : Nat) (f t k : Int) : jQ := fun r h' => (ptS m h n nc f t k = 0 → r = some (.int (iI (n : Int))) ∧ fg (ptF m n) h h' ∧ ptN m n h' f t k) ∧ (ptS m h n nc f t k ≠ 0 → rfQ m h (ptS m h n nc f t k) r h')
theorem c_Mpatch {nc : Nat} {f t k : Int} (M : Mo m h) (B : MB m h) (P : MP m n h) (hn : n ≤ 8) (hc : mI h m 20 = (n : Int)) (hcn : mI h m 19 = (nc : Int)) (hnc : nc ≤ 24) (hf : rI f) (ht : rI t) (hk : rI k) : jRet 133 0 0 [.ref m, .int (iI f), .int (iI t), .int (iI k)] h (ptQ m h n nc f t k) := by
  have no : ∀ (s : Int), (s = 1 ∨ s = 2 ∨ s = 3 ∨ s = 5 ∨ s = 7) → ptS m h n nc f t k = s → jRet 132 0 0 [.ref m, .int (iI s)] h (fun v h1 => ∃ r1, v = some (.int r1) ∧ ptQ m h n nc f t k (some (.int r1)) h1) := by
    intro s hs he
    refine jRet_mono (c_refuse M) ?_
    intro r1 h1 w1
    exact ⟨_, w1.1, fun z => by omega, fun _ => ⟨rfl, by rw [he]; exact w1.2⟩⟩
  have l21 : ¬ ((0 ≤ f ∧ f < nc) ∧ (0 ≤ t ∧ t < nc) ∧ f ≠ t) → J 133 21 0 0 [.ref m, uu, uu, uu, uu, uu] [] h (ptQ m h n nc f t k) := fun z => j_M_patch_21 ⟨M.1, no 1 (Or.inl rfl) (by unfold ptS; rw [if_pos z])⟩
  refine jRet_of (by decide) (by decide) (Nat.le_of_ble_eq_true rfl) (j_M_patch_0 ⟨M.1, jRet_mono (c_isCorner M hf hcn) ?_⟩)
  intro q1 h1 w1
  obtain ⟨e1, e2⟩ := w1
  rw [e2]
  refine ⟨_, e1, fun z => l21 (fun y => iz.mp z y.1), fun z => ⟨M.1, jRet_mono (c_isCorner M ht hcn) ?_⟩⟩
  have c1 : 0 ≤ f ∧ f < nc := Classical.byContradiction (fun y => z (iz.mpr y))
  intro q2 h2 w2
  obtain ⟨e3, e4⟩ := w2
  rw [e4]
  refine ⟨_, e3, fun z => l21 (fun y => iz.mp z y.2.1), fun z2 => ?_⟩
  have c2 : 0 ≤ t ∧ t < nc := Classical.byContradiction (fun y => z2 (iz.mpr y))
  rw [iI_eq hf ht]
  refine ⟨fun z3 => j_M_patch_27 ?_, fun z3 => l21 (fun y => y.2.2 z3)⟩
  have c3 : (0 ≤ f ∧ f < nc) ∧ (0 ≤ t ∧ t < nc) ∧ f ≠ t := ⟨c1, c2, z3⟩
  have l36 : ¬ (0 ≤ k ∧ k ≤ 2) → J 133 36 0 0 [.ref m, uu, uu, uu, uu, uu] [] h (ptQ m h n nc f t k) := fun z => j_M_patch_36 ⟨M.1, no 2 (Or.inr (Or.inl rfl)) (by unfold ptS; rw [if_neg (fun y => y c3), if_pos z])⟩
  rw [iI_0, iI_lt hk ⟨by omega, by omega⟩, iI_le hk ⟨by omega, by omega⟩]
  refine ⟨fun z4 => l36 (by omega), fun z4 => ⟨fun z5 => j_M_patch_42 ?_, fun z5 => l36 (by omega)⟩⟩
  have c4 : 0 ≤ k ∧ k ≤ 2 := by omega
  rw [gI_mI h m 20, hc, iI_eq ⟨by omega, by omega⟩ ⟨by omega, by omega⟩]
  refine ⟨M.1, fun z6 => j_M_patch_57 ?_, fun z6 => ⟨M.1, no 3 (Or.inr (Or.inr (Or.inl rfl))) (by unfold ptS; rw [if_neg (fun y => y c3), if_neg (fun y => y c4), if_pos (by omega)])⟩⟩
  have hn7 : n < 8 := by omega
  obtain ⟨fn, rfl⟩ : ∃ fn : Nat, f = (fn : Int) := ⟨f.toNat, by omega⟩
  obtain ⟨tn, rfl⟩ : ∃ tn : Nat, t = (tn : Int) := ⟨t.toNat, by omega⟩
  -- the writes
  have l164 : ptS m h n nc fn tn k = 0 → J 133 164 0 0 [.ref m, .int (iI fn), .int (iI tn), .int (iI k), uu, uu] [] h (ptQ m h n nc fn tn k) := by
    intro e0
    have ee : ∀ (g : jHp) (p : Nat) (v : Int32), mI g m 20 = (n : Int) → mI (sI g (m + 7 + p) n v) m 20 = (n : Int) := fun g p v hg => by
      unfold mI at *
      rw [gI_sI, if_neg (fun z => by omega)]
      exact hg
    have gg : ∀ (g : jHp), mI g m 20 = (n : Int) → gI g m 20 = iI (n : Int) := fun g hg => by rw [gI_mI, hg]
    have cl : (iI (n : Int)).toNatClampNeg = n := by rw [iI_cl (by omega) (by omega), Int.toNat_natCast]
    have n1 : ∀ v, mI (sI h (m + 7) n v) m 20 = (n : Int) := fun v => ee h 0 v hc
    have M1 : ∀ v, Mo m (sI h (m + 7) n v) := fun v => M.sI
    refine j_M_patch_164 ?_
    rw [gg h hc, cl, M.a10.1, gg _ (n1 _), cl, (M1 _).a11.1]
    refine ⟨M.1, M.1, ix_of M.a10.2 (by omega) (by omega) (by decide), (M1 _).1, (M1 _).1, ix_of (M1 _).a11.2 (by omega) (by omega) (by decide), ?_⟩
    obtain ⟨g2, hg2⟩ : ∃ g2, g2 = sI (sI h (m + 7) n (iI (fn : Int))) (m + 8) n (iI (tn : Int)) := ⟨_, rfl⟩
    have n2 : mI g2 m 20 = (n : Int) := by rw [hg2]; exact ee _ 1 _ (n1 _)
    have M2 : Mo m g2 := by rw [hg2]; exact M.sI.sI
    rw [← hg2]
    refine j_M_patch_184 ?_
    have n3 : ∀ v, mI (sI g2 (m + 9) n v) m 20 = (n : Int) := fun v => ee g2 2 v n2
    have M3 : ∀ v, Mo m (sI g2 (m + 9) n v) := fun v => M2.sI
    rw [gg g2 n2, cl, M2.a12.1, gg _ (n3 _), cl, (M3 _).a13.1]
    refine ⟨M2.1, M2.1, ix_of M2.a12.2 (by omega) (by omega) (by decide), (M3 _).1, (M3 _).1, ix_of (M3 _).a13.2 (by omega) (by omega) (by decide), ?_⟩
    obtain ⟨g4, hg4⟩ : ∃ g4, g4 = sI (sI g2 (m + 9) n (iI k)) (m + 10) n (iI 0) := ⟨_, rfl⟩
    have n4 : mI g4 m 20 = (n : Int) := by rw [hg4]; exact ee _ 3 _ (n3 _)
    have M4 : Mo m g4 := by rw [hg4]; exact M2.sI.sI
    rw [← hg4]
    refine j_M_patch_204 ?_
    have n5 : ∀ v, mI (sI g4 (m + 11) n v) m 20 = (n : Int) := fun v => ee g4 4 v n4
    have M5 : ∀ v, Mo m (sI g4 (m + 11) n v) := fun v => M4.sI
    rw [gg g4 n4, cl, M4.a14.1, gg _ (n5 _), cl, (M5 _).a15.1]
    refine ⟨M4.1, M4.1, ix_of M4.a14.2 (by omega) (by omega) (by decide), (M5 _).1, (M5 _).1, ix_of (M5 _).a15.2 (by omega) (by omega) (by decide), ?_⟩
    obtain ⟨g6, hg6⟩ : ∃ g6, g6 = sI (sI g4 (m + 11) n (iI 1)) (m + 12) n (iI 0) := ⟨_, rfl⟩
    have n6 : mI g6 m 20 = (n : Int) := by rw [hg6]; exact ee _ 5 _ (n5 _)
    have M6 : Mo m g6 := by rw [hg6]; exact M4.sI.sI
    rw [← hg6]
    refine j_M_patch_224 ?_
    have n7 : ∀ v, mI (sI g6 (m + 13) n v) m 20 = (n : Int) := fun v => ee g6 6 v n6
    have M7 : ∀ v, Mo m (sI g6 (m + 13) n v) := fun v => M6.sI
    rw [gg g6 n6, cl, M6.a16.1, gg _ (n7 _), cl, (M7 _).a17.1]
    refine ⟨M6.1, M6.1, ix_of M6.a16.2 (by omega) (by omega) (by decide), (M7 _).1, (M7 _).1, ix_of (M7 _).a17.2 (by omega) (by omega) (by decide), ?_⟩
    obtain ⟨g8, hg8⟩ : ∃ g8, g8 = sI (sI g6 (m + 13) n (iI 0)) (m + 14) n (iI 1) := ⟨_, rfl⟩
    have n8 : mI g8 m 20 = (n : Int) := by rw [hg8]; exact ee _ 7 _ (n7 _)
    have M8 : Mo m g8 := by rw [hg8]; exact M6.sI.sI
    rw [← hg8]
    refine j_M_patch_244 ?_
    have n9 : ∀ v, mI (sI g8 (m + 15) n v) m 20 = (n : Int) := fun v => ee g8 8 v n8
    have M9 : ∀ v, Mo m (sI g8 (m + 15) n v) := fun v => M8.sI
    rw [gg g8 n8, cl, M8.a18.1, gg _ (n9 _), iI_add]
    refine ⟨M8.1, M8.1, ix_of M8.a18.2 (by omega) (by omega) (by decide), (M9 _).1, (M9 _).1, ?_⟩
    obtain ⟨ga, hga⟩ : ∃ ga, ga = sI (sI g8 (m + 15) n (iI 10000)) m 20 (iI ((n : Int) + 1)) := ⟨_, rfl⟩
    have Ma : Mo m ga := by rw [hga]; exact M8.sI.sI
    rw [← hga]
    have nb : mI (sI ga m 0 (iI 0)) m 20 = (n : Int) + 1 := by
      rw [mI_sI ⟨by omega, by omega⟩, if_neg (fun z => by omega), hga, mI_sI ⟨by omega, by omega⟩, if_pos ⟨rfl, rfl⟩]
    refine j_M_patch_266 ⟨Ma.1, Ma.sI.1, ?_⟩
    rw [gI_mI _ m 20, nb, iI_sub, show (n : Int) + 1 - 1 = (n : Int) by omega]
    have fall : fg (ptF m n) h (sI ga m 0 (iI 0)) := by
      rw [hga, hg8, hg6, hg4, hg2]
      unfold ptF
      exact (((((((((((fg.rf.wr (by omega)).wr (by omega)).wr (by omega)).wr (by omega)).wr (by omega)).wr (by omega)).wr (by omega)).wr (by omega)).wr (by omega)).wr (by omega)).wr (by omega))
    refine ⟨fun _ => ⟨rfl, fall, ?_⟩, fun z => absurd e0 z⟩
    unfold ptN
    refine ⟨?_, ?_, ?_, ?_, ?_, ?_, ?_, ?_, ?_, nb, by rw [mI_sI ⟨by omega, by omega⟩, if_pos ⟨rfl, rfl⟩]⟩ <;> rw [mI_sI ⟨by omega, by omega⟩, if_neg (fun z => by omega), hga, mI_sI ⟨by omega, by omega⟩, if_neg (fun z => by omega), mI_sI ⟨by omega, by omega⟩]
    · rw [if_neg (fun z => by omega), hg8, mI_sI ⟨by omega, by omega⟩, if_neg (fun z => by omega), mI_sI ⟨by omega, by omega⟩, if_neg (fun z => by omega), hg6, mI_sI ⟨by omega, by omega⟩, if_neg (fun z => by omega), mI_sI ⟨by omega, by omega⟩, if_neg (fun z => by omega), hg4, mI_sI ⟨by omega, by omega⟩, if_neg (fun z => by omega), mI_sI hk, if_neg (fun z => by omega), hg2, mI_sI ⟨by omega, by omega⟩, if_neg (fun z => by omega), mI_sI ⟨by omega, by omega⟩, if_pos ⟨rfl, rfl⟩]
    · rw [if_neg (fun z => by omega), hg8, mI_sI ⟨by omega, by omega⟩, if_neg (fun z => by omega), mI_sI ⟨by omega, by omega⟩, if_neg (fun z => by omega), hg6, mI_sI ⟨by omega, by omega⟩, if_neg (fun z => by omega), mI_sI ⟨by omega, by omega⟩, if_neg (fun z => by omega), hg4, mI_sI ⟨by omega, by omega⟩, if_neg (fun z => by omega), mI_sI hk, if_neg (fun z => by omega), hg2, mI_sI ⟨by omega, by omega⟩, if_pos ⟨rfl, rfl⟩]
    · rw [if_neg (fun z => by omega), hg8, mI_sI ⟨by omega, by omega⟩, if_neg (fun z => by omega), mI_sI ⟨by omega, by omega⟩, if_neg (fun z => by omega), hg6, mI_sI ⟨by omega, by omega⟩, if_neg (fun z => by omega), mI_sI ⟨by omega, by omega⟩, if_neg (fun z => by omega), hg4, mI_sI ⟨by omega, by omega⟩, if_neg (fun z => by omega), mI_sI hk, if_pos ⟨rfl, rfl⟩]
    · rw [if_neg (fun z => by omega), hg8, mI_sI ⟨by omega, by omega⟩, if_neg (fun z => by omega), mI_sI ⟨by omega, by omega⟩, if_neg (fun z => by omega), hg6, mI_sI ⟨by omega, by omega⟩, if_neg (fun z => by omega), mI_sI ⟨by omega, by omega⟩, if_neg (fun z => by omega), hg4, mI_sI ⟨by omega, by omega⟩, if_pos ⟨rfl, rfl⟩]
    · rw [if_neg (fun z => by omega), hg8, mI_sI ⟨by omega, by omega⟩, if_neg (fun z => by omega), mI_sI ⟨by omega, by omega⟩, if_neg (fun z => by omega), hg6, mI_sI ⟨by omega, by omega⟩, if_neg (fun z => by omega), mI_sI ⟨by omega, by omega⟩, if_pos ⟨rfl, rfl⟩]
    · rw [if_neg (fun z => by omega), hg8, mI_sI ⟨by omega, by omega⟩, if_neg (fun z => by omega), mI_sI ⟨by omega, by omega⟩, if_neg (fun z => by omega), hg6, mI_sI ⟨by omega, by omega⟩, if_pos ⟨rfl, rfl⟩]
    · rw [if_neg (fun z => by omega), hg8, mI_sI ⟨by omega, by omega⟩, if_neg (fun z => by omega), mI_sI ⟨by omega, by omega⟩, if_pos ⟨rfl, rfl⟩]
    · rw [if_neg (fun z => by omega), hg8, mI_sI ⟨by omega, by omega⟩, if_pos ⟨rfl, rfl⟩]
    · rw [if_pos ⟨rfl, rfl⟩]
  -- meets another?
  have l119 : ¬ (k = 1 ∧ lmC m h n = 3) → ∀ (d i : Nat), i + d = n → (∀ j, j < i → ¬ mee (mI h (m + 5)) (mI h (m + 6)) (mF1 m h j) (mF2 m h j) fn tn) → J 133 119 0 0 [.ref m, .int (iI fn), .int (iI tn), .int (iI k), uu, .int (iI i)] [] h (ptQ m h n nc fn tn k) := by
    intro c5 d
    induction d with
    | zero =>
      intro i hi hno
      obtain rfl : i = n := by omega
      refine j_M_patch_119 ?_
      rw [gI_mI h m 20, hc, iI_le ⟨by omega, by omega⟩ ⟨by omega, by omega⟩]
      refine ⟨M.1, fun _ => l164 ?_, fun z => absurd (Int.le_refl _) z⟩
      unfold ptS
      rw [if_neg (fun y => y c3), if_neg (fun y => y c4), if_neg (by omega), if_neg c5, if_neg]
      rintro ⟨j, h1, h2⟩
      exact hno j h1 h2
    | succ d ih =>
      intro i hi hno
      have hin : i < n := by omega
      obtain ⟨p1, p2, p3, p4⟩ := P.at hin
      refine j_M_patch_119 ?_
      rw [gI_mI h m 20, hc, iI_le ⟨by omega, by omega⟩ ⟨by omega, by omega⟩, M.a10.1, M.a11.1, gI_q (by omega) (by omega), gI_q (by omega) (by omega), Int.toNat_natCast, p1, p2]
      refine ⟨M.1, fun z => by omega, fun _ => ⟨M.1, ixL_of M.a10.2 (by omega) (by omega) (by decide), M.1, ixL_of M.a11.2 (by omega) (by omega) (by decide), M.1, jRet_mono (c_meet M p3 p4 (show fn < 24 by omega) (show tn < 24 by omega) (fun k hk => (B k hk).1) (fun k hk => (B k hk).2)) ?_⟩⟩
      intro q3 h3 w3
      obtain ⟨e5, e6⟩ := w3
      rw [e6]
      rcases e5 with ⟨y1, e5⟩ | ⟨y1, e5⟩
      · refine ⟨_, e5, fun u => absurd u (by decide), fun _ => ⟨M.1, no 7 (by omega) ?_⟩⟩
        unfold ptS
        rw [if_neg (fun y => y c3), if_neg (fun y => y c4), if_neg (by omega), if_neg c5, if_pos]
        exact ⟨i, hin, y1⟩
      · refine ⟨_, e5, fun _ => j_M_patch_158 ?_, fun u => absurd rfl u⟩
        rw [iI_add]
        refine ih (i + 1) (by omega) (fun j hj => ?_)
        by_cases c : j = i
        · rw [c]
          exact y1
        · exact hno j (by omega)
  have l99 : J 133 99 0 0 [.ref m, .int (iI fn), .int (iI tn), .int (iI k), .int (iI (lmC m h n)), uu] [] h (ptQ m h n nc fn tn k) := by
    have lb := lmC_bd (m := m) (h := h) n
    refine j_M_patch_99 ?_
    rw [iI_eq ⟨by omega, by omega⟩ ⟨by omega, by omega⟩, iI_eq ⟨by omega, by omega⟩ ⟨by omega, by omega⟩]
    refine ⟨fun z => j_M_patch_116 (l119 (fun y => z y.1) n 0 (by omega) (fun j hj => by omega)), fun z => ⟨fun z2 => j_M_patch_116 (l119 (fun y => z2 y.2) n 0 (by omega) (fun j hj => by omega)), fun z2 => ⟨M.1, no 5 (by omega) ?_⟩⟩⟩
    unfold ptS
    rw [if_neg (fun y => y c3), if_neg (fun y => y c4), if_neg (by omega), if_pos ⟨z, z2⟩]
  have l63 : ∀ (d i : Nat), i + d = n → J 133 63 0 0 [.ref m, .int (iI fn), .int (iI tn), .int (iI k), .int (iI (lmC m h i)), .int (iI i)] [] h (ptQ m h n nc fn tn k) := by
    intro d
    induction d with
    | zero =>
      intro i hi
      obtain rfl : i = n := by omega
      refine j_M_patch_63 ?_
      rw [gI_mI h m 20, hc, iI_le ⟨by omega, by omega⟩ ⟨by omega, by omega⟩]
      exact ⟨M.1, fun _ => l99, fun z => absurd (Int.le_refl _) z⟩
    | succ d ih =>
      intro i hi
      have hin : i < n := by omega
      have nx : ∀ y : Int, y = (if mI h (m + 9) i = 1 then 1 else 0) → J 133 90 0 0 [.ref m, .int (iI fn), .int (iI tn), .int (iI k), uu, .int (iI i)] [.int (iI y), .int (iI (lmC m h i))] h (ptQ m h n nc fn tn k) := by
        intro y hy
        refine j_M_patch_90 ?_
        rw [iI_add, iI_add, hy]
        exact ih (i + 1) (by omega)
      refine j_M_patch_63 ?_
      rw [gI_mI h m 20, hc, iI_le ⟨by omega, by omega⟩ ⟨by omega, by omega⟩, M.a12.1, gI_q (by omega) (by omega), Int.toNat_natCast, iI_eq (rI_mI _ _ _) ⟨by omega, by omega⟩]
      exact ⟨M.1, fun z => by omega, fun _ => ⟨M.1, ixL_of M.a12.2 (by omega) (by omega) (by decide), fun z => j_M_patch_89 (nx 0 (by rw [if_neg z])), fun z => nx 1 (by rw [if_pos z])⟩⟩
  exact l63 n 0 (by omega)
/-- Patch.begin -/
theorem c_Pbegin {p : Nat} {f t k : Int} (hO : isO h p 5) (hf : rI f) (ht : rI t) (hk : rI k) : jRet 61 0 0 [.ref p, .int (iI f), .int (iI t), .int (iI k)] h (fun q h' => q = none ∧ fg (fun q _ => q = p) h h' ∧ mI h' p 0 = k ∧ mI h' p 1 = f ∧ mI h' p 2 = t ∧ mI h' p 3 = 0 ∧ mI h' p 4 = 1 ∧ mI h' p 5 = 0 ∧ mI h' p 6 = 0 ∧ mI h' p 7 = 1 ∧ mI h' p 8 = 10000) := by
  refine jRet_of (by decide) (by decide) (Nat.le_of_ble_eq_true rfl) (j_Pa_begin_0 ⟨hO, hO, j_Pa_begin_10 ⟨hO, hO, j_Pa_begin_20 ⟨hO, hO, j_Pa_begin_30 ⟨hO, hO, j_Pa_begin_40 ⟨hO, rfl, ?_, ?_⟩⟩⟩⟩⟩)
  · refine fg.wr (fg.wr (fg.wr (fg.wr (fg.wr (fg.wr (fg.wr (fg.wr (fg.wr fg.rf ?_) ?_) ?_) ?_) ?_) ?_) ?_) ?_) ?_ <;> rfl
  · simp only [mI_sI (show rI 10000 from ⟨by omega, by omega⟩), mI_sI (show rI 1 from ⟨by omega, by omega⟩), mI_sI (show rI 0 from ⟨by omega, by omega⟩), mI_sI hf, mI_sI ht, mI_sI hk]
    simp
theorem c_WaddPatch {f t k : Int} (W : WL w h) (hc : mI h w 4 = (n : Int)) (hn : n < 8) (hl : 0 ≤ mI h w 5 ∧ mI h w 5 ≤ 8) (hf : rI f) (ht : rI t) (hk : rI k) : jRet 75 0 0 [.ref w, .int (iI f), .int (iI t), .int (iI k)] h (fun q h' => q = some (.int (iI (n : Int))) ∧ fg (fun p j => p = w + 5 + n ∨ p = w ∧ (j = 4 ∨ j = 5)) h h' ∧ mI h' w 4 = (n : Int) + 1 ∧ mI h' w 5 = mI h w 5 + (if k = 1 then 1 else 0) ∧ mI h' (w + 5 + n) 0 = k ∧ mI h' (w + 5 + n) 1 = f ∧ mI h' (w + 5 + n) 2 = t ∧ mI h' (w + 5 + n) 3 = 0 ∧ mI h' (w + 5 + n) 4 = 1 ∧ mI h' (w + 5 + n) 5 = 0 ∧ mI h' (w + 5 + n) 6 = 0 ∧ mI h' (w + 5 + n) 7 = 1 ∧ mI h' (w + 5 + n) 8 = 10000) := by
  have wn := W.2.2.2.2.2.2.2.2.2 n hn
  refine jRet_of (by decide) (by decide) (Nat.le_of_ble_eq_true rfl) (j_Wa_addPatch_0 ?_)
  rw [gI_mI h w 4, hc, iI_lt ⟨by omega, by omega⟩ ⟨by omega, by omega⟩]
  refine ⟨W.1, fun _ => j_Wa_addPatch_11 ?_, fun z => absurd (by omega) z⟩
  rw [gI_mI h w 4, hc, W.2.2.2.2.2.1, iI_cl (by omega) (by omega), Int.toNat_natCast, wn.1]
  refine ⟨W.1, W.1, ixR_of W.2.2.2.2.2.2.1 (Or.inr (Or.inr rfl)) (by omega) (by omega) (by decide), wn.2, jRet_mono (c_Pbegin wn.2 hf ht hk) ?_⟩
  intro q1 h1 w1
  obtain ⟨e1, f1, c0, c1, c2, c3, c4, c5, c6, c7, c8⟩ := w1
  have W1 := wl_sk W f1.1
  have l41 : ∀ g : jHp, fg (fun p j => p = w ∧ j = 5) h1 g → mI g w 5 = mI h w 5 + (if k = 1 then 1 else 0) → J 75 41 0 0 [.ref w, uu, uu, uu] [] g (fun q h' => q = some (.int (iI (n : Int))) ∧ fg (fun p j => p = w + 5 + n ∨ p = w ∧ (j = 4 ∨ j = 5)) h h' ∧ mI h' w 4 = (n : Int) + 1 ∧ mI h' w 5 = mI h w 5 + (if k = 1 then 1 else 0) ∧ mI h' (w + 5 + n) 0 = k ∧ mI h' (w + 5 + n) 1 = f ∧ mI h' (w + 5 + n) 2 = t ∧ mI h' (w + 5 + n) 3 = 0 ∧ mI h' (w + 5 + n) 4 = 1 ∧ mI h' (w + 5 + n) 5 = 0 ∧ mI h' (w + 5 + n) 6 = 0 ∧ mI h' (w + 5 + n) 7 = 1 ∧ mI h' (w + 5 + n) 8 = 10000) := by
    intro g fg' hg
    have Wg := wl_sk W1 fg'.1
    have g4 : mI g w 4 = (n : Int) := by
      rw [fg'.eq (by omega), f1.eq (by omega), hc]
    have x4 : mI (sI g w 4 (iI ((n : Int) + 1))) w 4 = (n : Int) + 1 := by rw [mI_sI ⟨by omega, by omega⟩, if_pos ⟨rfl, rfl⟩]
    refine j_Wa_addPatch_41 ?_
    rw [gI_mI g w 4, g4, iI_add, gI_mI _ w 4, x4, iI_sub, show (n : Int) + 1 - 1 = (n : Int) by omega]
    have ex : ∀ j, mI (sI g w 4 (iI ((n : Int) + 1))) (w + 5 + n) j = mI h1 (w + 5 + n) j := fun j => by
      rw [mI_sI ⟨by omega, by omega⟩, if_neg (fun z => by omega), fg'.eq (by omega)]
    refine ⟨Wg.1, Wg.1, (wl_sk Wg sk.rf.sI).1, rfl, ((f1.mo (fun _ _ z => Or.inl z)).tr (fg'.mo (fun _ _ z => Or.inr ⟨z.1, Or.inr z.2⟩))).wr (Or.inr ⟨rfl, Or.inl rfl⟩), by first | exact x4 | rfl, ?_, ?_⟩
    · rw [mI_sI ⟨by omega, by omega⟩, if_neg (fun z => by omega), hg]
    · rw [ex, ex, ex, ex, ex, ex, ex, ex, ex]
      exact ⟨c0, c1, c2, c3, c4, c5, c6, c7, c8⟩
  have h5 : mI h1 w 5 = mI h w 5 := f1.eq (by omega)
  rw [iI_eq hk ⟨by omega, by omega⟩]
  refine ⟨e1, fun z => l41 h1 fg.rf (by rw [if_neg z, h5]; omega), fun z => ⟨W1.1, W1.1, ?_⟩⟩
  rw [gI_mI h1 w 5, h5, iI_add]
  refine l41 _ (fg.rf.wr ⟨rfl, rfl⟩) ?_
  rw [mI_sI ⟨by omega, by omega⟩, if_pos ⟨rfl, rfl⟩, if_pos z]
end PATCH
