/-! the model's parts, table, corner -/
section ST
variable {m : Nat} {h : jHp} {n : Nat}
def paQ (m : Nat) (h : jHp) (v : Int) : jQ := fun r h' => (1 ≤ v ∧ v ≤ 1000 → r = some (.int (iI 1)) ∧ fg (fun p k => p = m ∧ (k = 21 ∨ k = 0) ∨ p = m + 16) h h' ∧ mI h' m 21 = v ∧ mI h' m 0 = 0 ∧ ∀ k, k < 64 → mI h' (m + 16) k = 0) ∧ (¬ (1 ≤ v ∧ v ≤ 1000) → rbQ m h 2 r h')
theorem c_parts {v : Int} (M : Mo m h) (hv : rI v) : jRet 154 0 0 [.ref m, .int (iI v)] h (paQ m h v) := by
  have l12 : ¬ (1 ≤ v ∧ v ≤ 1000) → J 154 12 0 0 [.ref m, uu, uu] [] h (paQ m h v) := by
    intro z
    refine j_M_parts_12 ⟨M.1, jRet_mono (o_no M (Or.inr (Or.inl rfl))) ?_⟩
    intro q h1 w
    obtain ⟨r1, e1, e2, e3⟩ := w
    exact ⟨r1, e1, e2, fun y => absurd y z, fun _ => e3⟩
  have l25 : 1 ≤ v ∧ v ≤ 1000 → ∀ (d k : Nat) (g : jHp), k + d = 64 → fg (fun p k => p = m ∧ (k = 21 ∨ k = 0) ∨ p = m + 16) h g → mI g m 21 = v → (∀ j, j < k → mI g (m + 16) j = 0) → J 154 25 0 0 [.ref m, uu, .int (iI k)] [] g (paQ m h v) := by
    intro hc d
    induction d with
    | zero =>
      intro k g hk f g21 gz
      obtain rfl : k = 64 := by omega
      have Mg := M.sk f.1
      refine j_M_parts_25 ?_
      rw [Mg.a22.1, Mg.a22.2, ofNat_iI, iI_le ⟨by omega, by omega⟩ ⟨by omega, by omega⟩]
      refine ⟨Mg.1, Or.inl ⟨show 10 ≤ 10 by decide, show 10 ≤ 14 by decide⟩, fun _ => j_M_parts_47 ⟨Mg.1, jRet_mono (o_yes Mg) ?_⟩, fun z => absurd (Int.le_refl _) z⟩
      intro q h1 w
      obtain ⟨r1, e1, e2, e3, e4⟩ := w
      refine ⟨r1, e1, e2, fun _ => ⟨e3, ?_, ?_, ?_, fun j hj => ?_⟩, fun y => absurd hc y⟩
      · rw [e4]
        exact f.wr (Or.inl ⟨rfl, Or.inr rfl⟩)
      · rw [e4, mI_sI ⟨by omega, by omega⟩, if_neg (fun z => by omega)]
        exact g21
      · rw [e4, mI_sI ⟨by omega, by omega⟩, if_pos ⟨rfl, rfl⟩]
      · rw [e4, mI_sI ⟨by omega, by omega⟩, if_neg (fun z => by omega)]
        exact gz j hj
    | succ d ih =>
      intro k g hk f g21 gz
      have Mg := M.sk f.1
      refine j_M_parts_25 ?_
      rw [Mg.a22.1, Mg.a22.2, ofNat_iI, iI_le ⟨by omega, by omega⟩ ⟨by omega, by omega⟩, iI_cl (by omega) (by omega), Int.toNat_natCast, iI_add]
      refine ⟨Mg.1, Or.inl ⟨show 10 ≤ 10 by decide, show 10 ≤ 14 by decide⟩, fun z => absurd z (by omega), fun _ => ⟨Mg.1, ix_of Mg.a22.2 (by omega) (by omega) (by decide), ih (k + 1) _ (by omega) (f.wr (Or.inr rfl)) ?_ (fun j hj => ?_)⟩⟩
      · rw [mI_sI ⟨by omega, by omega⟩, if_neg (fun z => by omega)]
        exact g21
      · rw [mI_sI ⟨by omega, by omega⟩]
        by_cases c : j = k
        · rw [if_pos ⟨rfl, c⟩]
        · rw [if_neg (fun z => c z.2)]
          exact gz j (by omega)
  refine jRet_of (by decide) (by decide) (Nat.le_of_ble_eq_true rfl) (j_M_parts_0 ?_)
  rw [iI_lt hv ⟨by omega, by omega⟩, iI_le hv ⟨by omega, by omega⟩]
  refine ⟨fun z => l12 (by omega), fun z1 => ⟨fun z2 => j_M_parts_18 ⟨M.1, ?_⟩, fun z => l12 (by omega)⟩⟩
  exact l25 ⟨(by omega), (by omega)⟩ 64 0 _ (by omega) (fg.rf.wr (Or.inl ⟨rfl, Or.inl rfl⟩)) (by rw [mI_sI hv, if_pos ⟨rfl, rfl⟩]) (fun j hj => by omega)
def tbO (m : Nat) (h : jHp) (i j k : Nat) : Int := sm (fun k => if k = j then 0 else mI h (m + 16) (8 * i + k)) k
def tbS (m : Nat) (h : jHp) (n : Nat) (i j v : Int) : Int := if ¬ ((0 ≤ i ∧ i < n) ∧ (0 ≤ j ∧ j < n)) then 1 else if ¬ (0 ≤ v ∧ v ≤ mI h m 21 - tbO m h i.toNat j.toNat 8) then 2 else 0
def tbQ (m : Nat) (h : jHp) (n : Nat) (i j v : Int) : jQ := fun r h' => (tbS m h n i j v = 0 → r = some (.int (iI 1)) ∧ h' = sI (sI h (m + 16) (8 * i.toNat + j.toNat) (iI v)) m 0 (iI 0)) ∧ (tbS m h n i j v ≠ 0 → rbQ m h (tbS m h n i j v) r h')
theorem c_table {i j v : Int} (M : Mo m h) (S : SW m h n) (hi : rI i) (hj : rI j) (hv : rI v) : jRet 155 0 0 [.ref m, .int (iI i), .int (iI j), .int (iI v)] h (tbQ m h n i j v) := by
  have hn8 := S.2.1
  have s3 := S.2.2.1
  have s4 := S.2.2.2.1
  have no : ∀ s : Int, (s = 1 ∨ s = 2 ∨ s = 5) → tbS m h n i j v = s → jRet 141 0 0 [.ref m, .int (iI s)] h (fun q h1 => ∃ r1, q = some (.int r1) ∧ isB r1 ∧ tbQ m h n i j v (some (.int r1)) h1) := by
    intro s hs he
    refine jRet_mono (o_no M hs) ?_
    intro q h1 w
    obtain ⟨r1, e1, e2, e3⟩ := w
    exact ⟨r1, e1, e2, fun z => by omega, fun _ => by rw [he]; exact e3⟩
  have l16 : ¬ ((0 ≤ i ∧ i < n) ∧ (0 ≤ j ∧ j < n)) → J 155 16 0 0 [.ref m, uu, uu, uu, uu, uu] [] h (tbQ m h n i j v) := fun z => j_M_table_16 ⟨M.1, no 1 (Or.inl rfl) (by unfold tbS; rw [if_pos z])⟩
  refine jRet_of (by decide) (by decide) (Nat.le_of_ble_eq_true rfl) (j_M_table_0 ⟨M.1, jRet_mono (c_isPatch M hi S.1) ?_⟩)
  intro q1 h1 w1
  obtain ⟨e1, e2⟩ := w1
  rw [e2]
  refine ⟨_, e1, ?_⟩
  rw [iI_0, iI_eq (by split <;> exact ⟨by omega, by omega⟩) ⟨by omega, by omega⟩]
  by_cases c1 : 0 ≤ i ∧ i < n
  · rw [if_pos c1]
    refine ⟨fun z => absurd z (by decide), fun _ => ⟨M.1, jRet_mono (c_isPatch M hj S.1) ?_⟩⟩
    intro q2 h2 w2
    obtain ⟨e3, e4⟩ := w2
    rw [e4]
    refine ⟨_, e3, ?_⟩
    rw [iI_eq (by split <;> exact ⟨by omega, by omega⟩) ⟨by omega, by omega⟩]
    by_cases c2 : 0 ≤ j ∧ j < n
    · rw [if_pos c2]
      refine ⟨fun _ => j_M_table_22 ?_, fun z => absurd z (by decide)⟩
      obtain ⟨a, rfl⟩ : ∃ a : Nat, i = (a : Int) := ⟨i.toNat, by omega⟩
      obtain ⟨b, rfl⟩ : ∃ b : Nat, j = (b : Int) := ⟨j.toNat, by omega⟩
      have tb : ∀ k, k < 8 → 0 ≤ mI h (m + 16) (8 * a + k) ∧ mI h (m + 16) (8 * a + k) ≤ 1000 := fun k hk => by
        have t1 := tab_le S (show a < n by omega) hk
        have t2 := S.2.2.2.2.2.1 (8 * a + k) (by omega)
        omega
      have l68 : 0 ≤ tbO m h a b 8 → tbO m h a b 8 ≤ 8000 → J 155 68 0 0 [.ref m, .int (iI a), .int (iI b), .int (iI v), .int (iI (tbO m h a b 8)), uu] [] h (tbQ m h n a b v) := by
        intro o1 o2
        have bad : ¬ (0 ≤ v ∧ v ≤ mI h m 21 - tbO m h a b 8) → J 155 83 0 0 [.ref m, uu, uu, uu, uu, uu] [] h (tbQ m h n a b v) := fun z => j_M_table_83 ⟨M.1, no 2 (Or.inr (Or.inl rfl)) (by unfold tbS; rw [if_neg (fun y => y ⟨c1, c2⟩), Int.toNat_natCast, Int.toNat_natCast, if_pos z])⟩
        refine j_M_table_68 ?_
        rw [gI_mI h m 21, iI_sub, iI_0, iI_lt hv ⟨by omega, by omega⟩, iI_le hv ⟨by omega, by omega⟩]
        refine ⟨fun z => bad (by omega), fun z1 => ⟨M.1, fun z2 => j_M_table_89 ?_, fun z => bad (by omega)⟩⟩
        have e0 : tbS m h n a b v = 0 := by
          unfold tbS
          rw [if_neg (fun y => y ⟨c1, c2⟩), Int.toNat_natCast, Int.toNat_natCast, if_neg (fun y => y ⟨(by omega), z2⟩)]
        simp only [iI_mul, iI_add]
        rw [M.a22.1, iI_cl (by omega) (by omega), show (8 * (a : Int) + (b : Int)).toNat = 8 * a + b by omega]
        refine ⟨M.1, ix_of M.a22.2 (by omega) (by omega) (by decide), M.sI.1, jRet_mono (o_yes M.sI) ?_⟩
        intro q h1 w
        obtain ⟨r1, x1, x2, x3, x4⟩ := w
        exact ⟨r1, x1, x2, fun _ => ⟨x3, by rw [Int.toNat_natCast, Int.toNat_natCast]; exact x4⟩, fun z => absurd e0 z⟩
      have l28 : ∀ (d k : Nat), k + d = 8 → 0 ≤ tbO m h a b k → tbO m h a b k ≤ 1000 * k → J 155 28 0 0 [.ref m, .int (iI a), .int (iI b), .int (iI v), .int (iI (tbO m h a b k)), .int (iI k)] [] h (tbQ m h n a b v) := by
        intro d
        induction d with
        | zero =>
          intro k hk o1 o2
          obtain rfl : k = 8 := by omega
          exact j_M_table_28 ⟨fun _ => l68 o1 (by omega), fun z => absurd (by decide) z⟩
        | succ d ih =>
          intro k hk o1 o2
          have tk := tb k (by omega)
          refine j_M_table_28 ?_
          rw [iI_le ⟨by omega, by omega⟩ ⟨by omega, by omega⟩, iI_eq ⟨by omega, by omega⟩ ⟨by omega, by omega⟩]
          refine ⟨fun z => by omega, fun _ => ⟨fun z => j_M_table_47 ?_, fun z => j_M_table_59 ?_⟩⟩
          · have eo : tbO m h a b (k + 1) = tbO m h a b k + mI h (m + 16) (8 * a + k) := by
              show sm _ (k + 1) = _
              rw [sm, if_neg (by omega)]
              rfl
            simp only [iI_mul, iI_add]
            rw [M.a22.1, gI_q (by omega) (by omega), show (8 * (a : Int) + (k : Int)).toNat = 8 * a + k by omega]
            refine ⟨M.1, ixL_of M.a22.2 (by omega) (by omega) (by decide), j_M_table_59 ?_⟩
            rw [iI_add, iI_add, ← eo]
            exact ih (k + 1) (by omega) (by omega) (by rw [eo]; omega)
          · have eo : tbO m h a b (k + 1) = tbO m h a b k := by
              show sm _ (k + 1) = _
              rw [sm, if_pos (by omega), Int.add_zero]
              rfl
            rw [iI_add, iI_add, Int.add_zero, ← eo]
            exact ih (k + 1) (by omega) (by rw [eo]; exact o1) (by rw [eo]; omega)
      exact l28 8 0 (by omega) (Int.le_refl _) (Int.le_refl _)
    · rw [if_neg c2]
      exact ⟨fun z => absurd rfl z, fun _ => l16 (fun z => c2 z.2)⟩
  · rw [if_neg c1]
    exact ⟨fun _ => l16 (fun z => c1 z.1), fun z => absurd rfl z⟩
def coQ (m : Nat) (h : jHp) (n : Nat) (x y : Int) : jQ := fun r h' =>
  ((-1000 ≤ x ∧ x ≤ 1000 ∧ -1000 ≤ y ∧ y ≤ 1000) → (n = 24 → rfQ m h 3 r h') ∧ (n < 24 → ((∃ k, k < n ∧ mI h (m + 5) k = x ∧ mI h (m + 6) k = y) → rfQ m h 4 r h') ∧ (¬ (∃ k, k < n ∧ mI h (m + 5) k = x ∧ mI h (m + 6) k = y) → r = some (.int (iI (n : Int))) ∧ h' = sI (sI (sI (sI h (m + 5) n (iI x)) (m + 6) n (iI y)) m 19 (iI ((n : Int) + 1))) m 0 (iI 0)))) ∧
  (¬ (-1000 ≤ x ∧ x ≤ 1000 ∧ -1000 ≤ y ∧ y ≤ 1000) → rfQ m h 2 r h')
theorem c_corner {x y : Int} (M : Mo m h) (hn : mI h m 19 = (n : Int)) (hn24 : n ≤ 24) (hx : rI x) (hy : rI y) : jRet 131 0 0 [.ref m, .int (iI x), .int (iI y)] h (coQ m h n x y) := by
  have l28 : ¬ (-1000 ≤ x ∧ x ≤ 1000 ∧ -1000 ≤ y ∧ y ≤ 1000) → J 131 28 0 0 [.ref m, uu, uu, uu] [] h (coQ m h n x y) := by
    intro z
    refine j_M_corner_28 ⟨M.1, jRet_mono (c_refuse M) ?_⟩
    intro q h1 w
    exact ⟨_, w.1, fun y => absurd y z, fun _ => ⟨rfl, w.2⟩⟩
  refine jRet_of (by decide) (by decide) (Nat.le_of_ble_eq_true rfl) (j_M_corner_0 ?_)
  rw [iI_lt hx ⟨by omega, by omega⟩, iI_lt ⟨by omega, by omega⟩ hx, iI_lt hy ⟨by omega, by omega⟩, iI_le hy ⟨by omega, by omega⟩]
  refine ⟨fun z => l28 (by omega), fun z1 => ⟨fun z => l28 (by omega), fun z2 => ⟨fun z => l28 (by omega), fun z3 => ⟨fun z4 => j_M_corner_34 ?_, fun z => l28 (by omega)⟩⟩⟩⟩
  have inr : -1000 ≤ x ∧ x ≤ 1000 ∧ -1000 ≤ y ∧ y ≤ 1000 := ⟨(by omega), (by omega), (by omega), (by omega)⟩
  rw [gI_mI h m 19, hn, iI_eq ⟨by omega, by omega⟩ ⟨by omega, by omega⟩]
  refine ⟨M.1, fun z => j_M_corner_49 ?_, fun z => ⟨M.1, jRet_mono (c_refuse M) ?_⟩⟩
  · have l51 : ∀ (d k : Nat), k + d = n → (∀ j, j < k → ¬ (mI h (m + 5) j = x ∧ mI h (m + 6) j = y)) → J 131 51 0 0 [.ref m, .int (iI x), .int (iI y), .int (iI k)] [] h (coQ m h n x y) := by
      intro d
      induction d with
      | zero =>
        intro k hk hno
        obtain rfl : k = n := by omega
        have M1 : Mo m (sI h (m + 5) k (iI x)) := M.sI
        have M2 : Mo m (sI (sI h (m + 5) k (iI x)) (m + 6) k (iI y)) := M1.sI
        have a1 : mI (sI h (m + 5) k (iI x)) m 19 = (k : Int) := by
          rw [mI_sI hx, if_neg (fun z => by omega), hn]
        have a2 : mI (sI (sI h (m + 5) k (iI x)) (m + 6) k (iI y)) m 19 = (k : Int) := by
          rw [mI_sI hy, if_neg (fun z => by omega), a1]
        refine j_M_corner_51 ?_
        rw [gI_mI h m 19, hn, iI_le ⟨by omega, by omega⟩ ⟨by omega, by omega⟩]
        refine ⟨M.1, fun _ => j_M_corner_91 ?_, fun z => absurd (Int.le_refl _) z⟩
        rw [gI_mI h m 19, hn, M.a8.1, iI_cl (by omega) (by omega), Int.toNat_natCast, gI_mI (sI h (m + 5) k (iI x)) m 19, a1, M1.a9.1, iI_cl (by omega) (by omega), Int.toNat_natCast]
        refine ⟨M.1, M.1, ix_of M.a8.2 (by omega) (by omega) (by decide), M1.1, M1.1, ix_of M1.a9.2 (by omega) (by omega) (by decide), j_M_corner_111 ?_⟩
        rw [gI_mI _ m 19, a2, iI_add]
        refine ⟨M2.1, M2.1, M2.sI.1, j_M_corner_126 ⟨M2.sI.sI.1, fun _ => ⟨fun z => by omega, fun _ => ⟨fun u => by
          obtain ⟨j, h1, h2⟩ := u
          exact absurd h2 (hno j h1), fun _ => ⟨?_, rfl⟩⟩⟩, fun z => absurd inr z⟩⟩
        rw [gI_mI _ m 19, mI_sI ⟨by omega, by omega⟩, if_neg (fun z => by omega), mI_sI ⟨by omega, by omega⟩, if_pos ⟨rfl, rfl⟩, iI_sub, show (k : Int) + 1 - 1 = (k : Int) by omega]
      | succ d ih =>
        intro k hk hno
        have nx : ¬ (mI h (m + 5) k = x ∧ mI h (m + 6) k = y) → J 131 85 0 0 [.ref m, .int (iI x), .int (iI y), .int (iI k)] [] h (coQ m h n x y) := by
          intro hq
          refine j_M_corner_85 ?_
          rw [iI_add]
          refine ih (k + 1) (by omega) (fun j hj => ?_)
          by_cases c : j = k
          · rw [c]
            exact hq
          · exact hno j (by omega)
        refine j_M_corner_51 ?_
        rw [gI_mI h m 19, hn, iI_le ⟨by omega, by omega⟩ ⟨by omega, by omega⟩, M.a8.1, M.a9.1, gI_q (by omega) (by omega), gI_q (by omega) (by omega), Int.toNat_natCast, iI_eq (rI_mI _ _ _) hx, iI_eq (rI_mI _ _ _) hy]
        refine ⟨M.1, fun z => by omega, fun _ => ⟨M.1, ixL_of M.a8.2 (by omega) (by omega) (by decide), fun z => nx (fun u => z u.1), fun z => ⟨M.1, ixL_of M.a9.2 (by omega) (by omega) (by decide), fun z2 => nx (fun u => z2 u.2), fun z2 => ⟨M.1, jRet_mono (c_refuse M) ?_⟩⟩⟩⟩
        intro q h1 w
        exact ⟨_, w.1, fun _ => ⟨fun y => by omega, fun _ => ⟨fun _ => ⟨rfl, w.2⟩, fun y => absurd ⟨k, (by omega), z, z2⟩ y⟩⟩, fun y => absurd inr y⟩
    exact l51 n 0 (by omega) (fun j hj => by omega)
  · intro q h1 w
    exact ⟨_, w.1, fun _ => ⟨fun _ => ⟨rfl, w.2⟩, fun y => by omega⟩, fun y => absurd inr y⟩
end ST
