/-! the model's sight, length, share, crossed; the class's shares -/
section SHARES
variable {m w n : Nat} {h : jHp}
/-- the walls' cells are the same -/
def mwE (m : Nat) (h h' : jHp) : Prop := ∀ p k, (p = m + 5 ∨ p = m + 6 ∨ p = m + 7 ∨ p = m + 8) → mI h' p k = mI h p k
theorem mwE.f {h' : jHp} (e : mwE m h h') : mI h' (m + 5) = mI h (m + 5) ∧ mI h' (m + 6) = mI h (m + 6) ∧ mF1 m h' = mF1 m h ∧ mF2 m h' = mF2 m h := by
  refine ⟨funext (fun k => e _ k (Or.inl rfl)), funext (fun k => e _ k (Or.inr (Or.inl rfl))), funext (fun k => ?_), funext (fun k => ?_)⟩
  · unfold mF1
    rw [e _ k (Or.inr (Or.inr (Or.inl rfl)))]
  · unfold mF2
    rw [e _ k (Or.inr (Or.inr (Or.inr rfl)))]
theorem mwE.sg {h' : jHp} {a b : Nat} (e : mwE m h h') : mSg m h' n a b = mSg m h n a b := by
  obtain ⟨e1, e2, e3, e4⟩ := e.f
  unfold mSg
  rw [e1, e2, e3, e4]
theorem mwE.st {h' : jHp} {c d k : Nat} {u : Int} (e : mwE m h h') : mst m h' c d k u = mst m h c d k u := by
  obtain ⟨e1, e2, e3, e4⟩ := e.f
  unfold mst
  rw [e1, e2]
theorem mwE.mb {h' : jHp} (e : mwE m h h') (B : MB m h) : MB m h' := by
  obtain ⟨e1, e2, e3, e4⟩ := e.f
  unfold MB
  rw [e1, e2]
  exact B
theorem mwE.mp {h' : jHp} (e : mwE m h h') (P : MP m n h) : MP m n h' := fun i hi => by
  obtain ⟨u, v, h1, h2, h3⟩ := P i hi
  exact ⟨u, v, by rw [e _ _ (Or.inr (Or.inr (Or.inl rfl)))]; exact h1, by rw [e _ _ (Or.inr (Or.inr (Or.inr rfl)))]; exact h2, h3⟩
theorem mwE_0 {v : Int32} : mwE m h (sI h m 0 v) := fun p k hp => by
  unfold mI
  rw [gI_sI, if_neg (fun z => by omega)]
theorem mwE.tr {h' h'' : jHp} (e : mwE m h h') (f : mwE m h' h'') : mwE m h h'' := fun p k hp => (f p k hp).trans (e p k hp)
theorem mwE_17 {h' : jHp} (f : fg (fun p _ => p = m + 17) h h') : mwE m h h' := fun p k hp => f.eq (fun z => by omega)
def paS (n : Nat) (p q : Int) : Int := if ¬ ((0 ≤ p ∧ p < n) ∧ (0 ≤ q ∧ q < n) ∧ p ≠ q) then 1 else 0
def sgF (m p k : Nat) : Prop := p = m + 17 ∨ (p = m ∧ k = 0)
theorem c_MsightP {p q : Int} (M : Mo m h) (B : MB m h) (P : MP m n h) (hn : n ≤ 8) (hc : mI h m 20 = (n : Int)) (hp : rI p) (hq : rI q) : jRet 144 0 0 [.ref m, .int (iI p), .int (iI q)] h (fun r h' => (paS n p q = 0 → r = some (.int (iI (mSg m h n p.toNat q.toNat))) ∧ fg (sgF m) h h' ∧ mI h' m 0 = 0) ∧ (paS n p q ≠ 0 → rfQ m h 1 r h')) := by
  have l21 : paS n p q ≠ 0 → J 144 21 0 0 [.ref m, uu, uu] [] h (fun r h' => (paS n p q = 0 → r = some (.int (iI (mSg m h n p.toNat q.toNat))) ∧ fg (sgF m) h h' ∧ mI h' m 0 = 0) ∧ (paS n p q ≠ 0 → rfQ m h 1 r h')) := by
    intro hz
    refine j_M_sight_21 ⟨M.1, jRet_mono (c_refuse M) ?_⟩
    intro r1 h1 w1
    exact ⟨_, w1.1, fun z => absurd z hz, fun _ => ⟨rfl, w1.2⟩⟩
  refine jRet_of (by decide) (by decide) (Nat.le_of_ble_eq_true rfl) (j_M_sight_0 ⟨M.1, jRet_mono (c_isPatch M hp hc) ?_⟩)
  intro q1 h1 w1
  obtain ⟨e1, e2⟩ := w1
  rw [e2]
  refine ⟨_, e1, fun z => l21 ?_, fun z => ⟨M.1, jRet_mono (c_isPatch M hq hc) ?_⟩⟩
  · rw [iz] at z
    unfold paS
    rw [if_pos (fun y => z y.1)]
    decide
  have c1 : 0 ≤ p ∧ p < n := Classical.byContradiction (fun y => z (iz.mpr y))
  intro q2 h2 w2
  obtain ⟨e3, e4⟩ := w2
  rw [e4]
  refine ⟨_, e3, fun z => l21 ?_, fun z2 => ?_⟩
  · rw [iz] at z
    unfold paS
    rw [if_pos (fun y => z y.2.1)]
    decide
  have c2 : 0 ≤ q ∧ q < n := Classical.byContradiction (fun y => z2 (iz.mpr y))
  rw [iI_eq hp hq]
  refine ⟨fun z3 => ?_, fun z3 => l21 ?_⟩
  · have e0 : paS n p q = 0 := by
      unfold paS
      rw [if_neg (fun y => y ⟨c1, c2, z3⟩)]
    obtain ⟨pn, rfl⟩ : ∃ pn : Nat, p = (pn : Int) := ⟨p.toNat, by omega⟩
    obtain ⟨qn, rfl⟩ : ∃ qn : Nat, q = (qn : Int) := ⟨q.toNat, by omega⟩
    have E1 := mwE_0 (m := m) (h := h) (v := iI 0)
    have c20 : mI (sI h m 0 (iI 0)) m 20 = (n : Int) := by
      rw [mI_sI ⟨by omega, by omega⟩, if_neg (fun z => by omega)]
      exact hc
    refine j_M_sight_27 ⟨M.1, M.sI.1, jRet_mono (c_Msight (a := pn) (b := qn) M.sI (E1.mb B) (E1.mp P) hn c20 (by omega) (by omega)) ?_⟩
    intro q3 h3 w3
    obtain ⟨e5, f5⟩ := w3
    rw [E1.sg] at e5
    refine ⟨_, e5, fun _ => ⟨rfl, ?_, ?_⟩, fun z => absurd e0 z⟩
    · exact (fg.rf.wr (Or.inr ⟨rfl, rfl⟩)).tr (f5.mo (fun _ _ z => Or.inl z))
    · rw [f5.eq (by omega), mI_sI ⟨by omega, by omega⟩, if_pos ⟨rfl, rfl⟩]
  · unfold paS
    rw [if_pos (fun y => y.2.2 z3)]
    decide
def nmS (n : Nat) (p k : Int) (mx : Int) : Int := if ¬ (0 ≤ p ∧ p < n) then 1 else if ¬ (0 ≤ k ∧ k ≤ mx) then 2 else 0
theorem c_Mlength {p k u : Int} (M : Mo m h) (B : MB m h) (P : MP m n h) (hn : n ≤ 8) (hc : mI h m 20 = (n : Int)) (hp : rI p) (hk : rI k) (hu : u = 0 ∨ u = 1) : jRet 147 0 0 [.ref m, .int (iI p), .int (iI k), .int (iI u)] h (fun r h' => (nmS n p k 20 = 0 → r = some (.long (lI (mst m h (mF1 m h p.toNat) (mF2 m h p.toNat) k.toNat u))) ∧ h' = sI h m 0 (iI 0)) ∧ (nmS n p k 20 ≠ 0 → r = some (.long (lI (-1))) ∧ h' = sI h m 0 (iI (nmS n p k 20)))) := by
  refine jRet_of (by decide) (by decide) (Nat.le_of_ble_eq_true rfl) (j_M_length_0 ⟨M.1, jRet_mono (c_isPatch M hp hc) ?_⟩)
  intro q1 h1 w1
  obtain ⟨e1, e2⟩ := w1
  rw [e2]
  have em : (iI (-1)).toInt64 = lI (-1) := by decide
  refine ⟨_, e1, fun z => j_M_length_15 ?_, fun z => ⟨M.1, jRet_mono (c_refuse M) ?_⟩⟩
  · have c1 : 0 ≤ p ∧ p < n := Classical.byContradiction (fun y => z (iz.mpr y))
    have l25 : ¬ (0 ≤ k ∧ k ≤ 20) → J 147 25 0 0 [.ref m, uu, uu, uu] [] h (fun r h' => (nmS n p k 20 = 0 → r = some (.long (lI (mst m h (mF1 m h p.toNat) (mF2 m h p.toNat) k.toNat u))) ∧ h' = sI h m 0 (iI 0)) ∧ (nmS n p k 20 ≠ 0 → r = some (.long (lI (-1))) ∧ h' = sI h m 0 (iI (nmS n p k 20)))) := by
      intro hz
      have e0 : nmS n p k 20 = 2 := by
        unfold nmS
        rw [if_neg (fun y => y c1), if_pos hz]
      refine j_M_length_25 ⟨M.1, jRet_mono (c_refuse M) ?_⟩
      intro r1 h1 w1
      rw [e0]
      exact ⟨_, w1.1, fun z => absurd z (by decide), fun _ => ⟨by rw [em], w1.2⟩⟩
    rw [iI_0, iI_lt hk ⟨by omega, by omega⟩, iI_le hk ⟨by omega, by omega⟩]
    refine ⟨fun z2 => l25 (by omega), fun z2 => ⟨fun z3 => j_M_length_32 ?_, fun z3 => l25 (by omega)⟩⟩
    have e0 : nmS n p k 20 = 0 := by
      unfold nmS
      rw [if_neg (fun y => y c1), if_neg (fun y => y (by omega))]
    obtain ⟨pn, rfl⟩ : ∃ pn : Nat, p = (pn : Int) := ⟨p.toNat, by omega⟩
    obtain ⟨kn, rfl⟩ : ∃ kn : Nat, k = (kn : Int) := ⟨k.toNat, by omega⟩
    have E1 := mwE_0 (m := m) (h := h) (v := iI 0)
    have M1 : Mo m (sI h m 0 (iI 0)) := M.sI
    obtain ⟨p1, p2, p3, p4⟩ := (E1.mp P).at (show pn < n by omega)
    have ef := E1.f
    rw [M1.a10.1, M1.a11.1, gI_q (by omega) (by omega), gI_q (by omega) (by omega), Int.toNat_natCast, p1, p2]
    refine ⟨M.1, M1.1, ixL_of M1.a10.2 (by omega) (by omega) (by decide), M1.1, ixL_of M1.a11.2 (by omega) (by omega) (by decide), M1.1, jRet_mono (c_Mstring M1 (E1.mb B) p3 p4 (by omega) hu) ?_⟩
    intro q3 h3 w3
    obtain ⟨e5, e6⟩ := w3
    rw [E1.st, ef.2.2.1, ef.2.2.2] at e5
    exact ⟨_, e5, fun _ => ⟨rfl, e6⟩, fun z => absurd e0 z⟩
  · intro r1 h1 w1
    rw [iz] at z
    have e0 : nmS n p k 20 = 1 := by
      unfold nmS
      rw [if_pos z]
    rw [e0]
    exact ⟨_, w1.1, fun z => absurd z (by decide), fun _ => ⟨by rw [em], w1.2⟩⟩
/-- a share out of the strings' sums and the length -/
def shX (x o l : Int) (k : Nat) (u : Int) : Int := if u = 0 then ((if x - o < 0 then 0 else x - o) * 2 ^ k) / (2 * l) else ((if x - o < 0 then 0 else x - o) * 2 ^ k + 2 * l - 1) / (2 * l)
noncomputable def mX (m : Nat) (h : jHp) (a b k : Nat) (u : Int) : Int := mst m h (mF1 m h a) (mF1 m h b) k u + mst m h (mF2 m h a) (mF2 m h b) k u
noncomputable def mO' (m : Nat) (h : jHp) (a b k : Nat) (u : Int) : Int := mst m h (mF1 m h a) (mF2 m h b) k u + mst m h (mF2 m h a) (mF1 m h b) k u
noncomputable def mLn (m : Nat) (h : jHp) (a k : Nat) (u : Int) : Int := mst m h (mF1 m h a) (mF2 m h a) k u
theorem mwE.x {h' : jHp} {a b k : Nat} {u : Int} (e : mwE m h h') : mX m h' a b k u = mX m h a b k u ∧ mO' m h' a b k u = mO' m h a b k u ∧ mLn m h' a k u = mLn m h a k u := by
  obtain ⟨e1, e2, e3, e4⟩ := e.f
  unfold mX mO' mLn
  simp only [e.st, e3, e4, and_self]
theorem m_bd {a b k : Nat} {u : Int} (B : MB m h) (P : MP m n h) (ha : a < n) (hb : b < n) (hk : k ≤ 20) : (0 ≤ mX m h a b k u ∧ mX m h a b k u ≤ 8589934592) ∧ (0 ≤ mO' m h a b k u ∧ mO' m h a b k u ≤ 8589934592) ∧ (0 ≤ mLn m h a k u ∧ mLn m h a k u ≤ 4294967296) := by
  obtain ⟨p1, p2, p3, p4⟩ := P.at ha
  obtain ⟨r1, r2, r3, r4⟩ := P.at hb
  have a1 := mst_bd (u := u) B p3 r3 hk
  have a2 := mst_bd (u := u) B p4 r4 hk
  have a3 := mst_bd (u := u) B p3 r4 hk
  have a4 := mst_bd (u := u) B p4 r3 hk
  have a5 := mst_bd (u := u) B p3 p4 hk
  unfold mX mO' mLn
  omega
/-- the machine's way to it -/
theorem sh_lo {x o l : Int} {k : Nat} (hx : 0 ≤ x ∧ x ≤ 8589934592) (ho : 0 ≤ o ∧ o ≤ 8589934592) (hl : 1 ≤ l ∧ l ≤ 4294967296) (hk : k ≤ 20) : (((if lI x - lI o < lI ((0 : Nat) : Int) then lI ((0 : Nat) : Int) else lI x - lI o) <<< ((iI (k : Int)).toInt64 &&& 63)) / (lI 2 * lI l)).toInt32 = iI (shX x o l k 0) ∧ (if lI x - lI o < lI ((0 : Nat) : Int) then lI ((0 : Nat) : Int) else lI x - lI o) <<< ((iI (k : Int)).toInt64 &&& 63) = lI ((if x - o < 0 then 0 else x - o) * 2 ^ k) ∧ 0 ≤ (if x - o < 0 then 0 else x - o) * 2 ^ k ∧ (if x - o < 0 then 0 else x - o) * 2 ^ k ≤ 9007199254740992 ∧ ((((if lI x - lI o < lI ((0 : Nat) : Int) then lI ((0 : Nat) : Int) else lI x - lI o) <<< ((iI (k : Int)).toInt64 &&& 63)) + lI 2 * lI l - lI ((1 : Nat) : Int)) / (lI 2 * lI l)).toInt32 = iI (shX x o l k 1) := by
  have e1 : (if lI x - lI o < lI ((0 : Nat) : Int) then lI ((0 : Nat) : Int) else lI x - lI o) = lI (if x - o < 0 then 0 else x - o) := by
    rw [lI_sub]
    by_cases c : x - o < 0
    · rw [if_pos ((lI_lt (b := ((0 : Nat) : Int)) ⟨by omega, by omega⟩ ⟨by omega, by omega⟩).mpr c), if_pos c]
      rfl
    · rw [if_neg (fun z => c ((lI_lt (b := ((0 : Nat) : Int)) ⟨by omega, by omega⟩ ⟨by omega, by omega⟩).mp z)), if_neg c]
  have b0 : 0 ≤ (if x - o < 0 then 0 else x - o) ∧ (if x - o < 0 then 0 else x - o) ≤ 8589934592 := by split <;> omega
  unfold shX
  rw [e1]
  generalize (if x - o < 0 then 0 else x - o) = y at *
  rw [lI_shl k b0.1 (by omega)]
  obtain ⟨y', rfl⟩ : ∃ y' : Nat, y = (y' : Int) := ⟨y.toNat, by omega⟩
  have hp : 2 ^ k ≤ 2 ^ 20 := Nat.pow_le_pow_right (by decide) hk
  have b1 : y' * 2 ^ k ≤ 8589934592 * 2 ^ 20 := Nat.mul_le_mul (by omega) hp
  have e2 : (y' : Int) * 2 ^ k = ((y' * 2 ^ k : Nat) : Int) := by
    rw [Int.natCast_mul, Int.natCast_pow]
    rfl
  rw [e2]
  generalize y' * 2 ^ k = z at *
  rw [if_pos rfl, if_neg (show ¬ (1 : Int) = 0 by decide), lI_mul, lI_div (by omega) (by omega) (by omega) (by omega), lI_32]
  refine ⟨rfl, rfl, (by omega), (by omega), ?_⟩
  rw [lI_add, lI_sub, lI_div (by omega) (by omega) (by omega) (by omega), lI_32]
  rfl
noncomputable def shS (m : Nat) (h : jHp) (n : Nat) (p q k : Int) : Int := if ¬ ((0 ≤ p ∧ p < n) ∧ (0 ≤ q ∧ q < n) ∧ p ≠ q) then 1 else if ¬ (0 ≤ k ∧ k ≤ 20) then 2 else if mSg m h n p.toNat q.toNat ≠ 2 then 6 else 0
noncomputable def shV (m : Nat) (h : jHp) (a b k : Nat) (u : Int) : Int := shX (mX m h a b k u) (mO' m h a b k (1 - u)) (mLn m h a k (1 - u)) k u
theorem sgt_v {c1 c2 c3 c4 : Int} {E : Prop} : sgt c1 c2 c3 c4 E = 0 ∨ sgt c1 c2 c3 c4 E = 1 ∨ sgt c1 c2 c3 c4 E = 2 := by
  unfold sgt
  split
  · exact Or.inl rfl
  · split
    · exact Or.inr (Or.inl rfl)
    · split
      · exact Or.inr (Or.inl rfl)
      · exact Or.inr (Or.inr rfl)
noncomputable def shQ (m : Nat) (h : jHp) (n : Nat) (p q k u : Int) : jQ := fun r h' => (shS m h n p q k = 0 → r = some (.int (iI (shV m h p.toNat q.toNat k.toNat u))) ∧ fg (sgF m) h h' ∧ mI h' m 0 = 0) ∧ (shS m h n p q k ≠ 0 → r = some (.int (iI (-1))) ∧ fg (sgF m) h h' ∧ mI h' m 0 = shS m h n p q k)
theorem c_MshareP {p q k u : Int} (M : Mo m h) (B : MB m h) (P : MP m n h) (hn : n ≤ 8) (hc : mI h m 20 = (n : Int)) (hL : ∀ i, i < n → ∀ k u, 1 ≤ mLn m h i k u) (hp : rI p) (hq : rI q) (hk : rI k) (hu : u = 0 ∨ u = 1) : jRet 150 0 0 [.ref m, .int (iI p), .int (iI q), .int (iI k), .int (iI u)] h (shQ m h n p q k u) := by
  have no : ∀ (s : Int) (g : jHp), Mo m g → fg (sgF m) h g → (s = 1 ∨ s = 2 ∨ s = 6) → shS m h n p q k = s → jRet 132 0 0 [.ref m, .int (iI s)] g (fun v h1 => ∃ r1, v = some (.int r1) ∧ (shQ m h n p q k u) (some (.int r1)) h1) := by
    intro s g Mg f hs he
    refine jRet_mono (c_refuse Mg) ?_
    intro r1 h1 w1
    refine ⟨_, w1.1, fun z => by omega, fun _ => ⟨rfl, ?_, ?_⟩⟩
    · rw [w1.2]
      exact f.wr (Or.inr ⟨rfl, rfl⟩)
    · rw [w1.2, mI_sI ⟨by omega, by omega⟩, if_pos ⟨rfl, rfl⟩, he]
  have l21 : ¬ ((0 ≤ p ∧ p < n) ∧ (0 ≤ q ∧ q < n) ∧ p ≠ q) → J 150 21 0 0 [.ref m, uu, uu, uu, uu, uu, uu, uu, uu] [] h (shQ m h n p q k u) := fun z => j_M_share_21 ⟨M.1, no 1 h M fg.rf (Or.inl rfl) (by unfold shS; rw [if_pos z])⟩
  refine jRet_of (by decide) (by decide) (Nat.le_of_ble_eq_true rfl) (j_M_share_0 ⟨M.1, jRet_mono (c_isPatch M hp hc) ?_⟩)
  intro q1 h1 w1
  obtain ⟨e1, e2⟩ := w1
  rw [e2]
  refine ⟨_, e1, fun z => l21 (fun y => iz.mp z y.1), fun z => ⟨M.1, jRet_mono (c_isPatch M hq hc) ?_⟩⟩
  have c1 : 0 ≤ p ∧ p < n := Classical.byContradiction (fun y => z (iz.mpr y))
  intro q2 h2 w2
  obtain ⟨e3, e4⟩ := w2
  rw [e4]
  refine ⟨_, e3, fun z => l21 (fun y => iz.mp z y.2.1), fun z2 => ?_⟩
  have c2 : 0 ≤ q ∧ q < n := Classical.byContradiction (fun y => z2 (iz.mpr y))
  rw [iI_eq hp hq]
  refine ⟨fun z3 => j_M_share_27 ?_, fun z3 => l21 (fun y => y.2.2 z3)⟩
  have c3 : (0 ≤ p ∧ p < n) ∧ (0 ≤ q ∧ q < n) ∧ p ≠ q := ⟨c1, c2, z3⟩
  have l37 : ¬ (0 ≤ k ∧ k ≤ 20) → J 150 37 0 0 [.ref m, uu, uu, uu, uu, uu, uu, uu, uu] [] h (shQ m h n p q k u) := fun z => j_M_share_37 ⟨M.1, no 2 h M fg.rf (Or.inr (Or.inl rfl)) (by unfold shS; rw [if_neg (fun y => y c3), if_pos z])⟩
  rw [iI_0, iI_lt hk ⟨by omega, by omega⟩, iI_le hk ⟨by omega, by omega⟩]
  refine ⟨fun z4 => l37 (by omega), fun z4 => ⟨fun z5 => j_M_share_43 ?_, fun z5 => l37 (by omega)⟩⟩
  obtain ⟨pn, rfl⟩ : ∃ pn : Nat, p = (pn : Int) := ⟨p.toNat, by omega⟩
  obtain ⟨qn, rfl⟩ : ∃ qn : Nat, q = (qn : Int) := ⟨q.toNat, by omega⟩
  obtain ⟨kn, rfl⟩ : ∃ kn : Nat, k = (kn : Int) := ⟨k.toNat, by omega⟩
  refine ⟨M.1, jRet_mono (c_Msight (a := pn) (b := qn) M B P hn hc (by omega) (by omega)) ?_⟩
  intro q3 h3 w3
  obtain ⟨e5, f5⟩ := w3
  have M3 : Mo m h3 := M.sk f5.1
  have f3 : fg (sgF m) h h3 := f5.mo (fun _ _ z => Or.inl z)
  have E3 := mwE_17 f5
  refine ⟨_, e5, ?_⟩
  have sv := sgt_v (c1 := crs (mI h (m + 5)) (mI h (m + 6)) (mF1 m h pn) (mF2 m h pn) (mF1 m h qn)) (c2 := crs (mI h (m + 5)) (mI h (m + 6)) (mF1 m h pn) (mF2 m h pn) (mF2 m h qn)) (c3 := crs (mI h (m + 5)) (mI h (m + 6)) (mF1 m h qn) (mF2 m h qn) (mF1 m h pn)) (c4 := crs (mI h (m + 5)) (mI h (m + 6)) (mF1 m h qn) (mF2 m h qn) (mF2 m h pn)) (E := ∃ i, i < n ∧ i ≠ pn ∧ i ≠ qn ∧ fea (egP (mI h (m + 5)) (mI h (m + 6)) (f4 (mF1 m h pn) (mF2 m h pn) (mF1 m h qn) (mF2 m h qn)) (mF1 m h i) (mF2 m h i) 16))
  have sv : mSg m h n pn qn = 0 ∨ mSg m h n pn qn = 1 ∨ mSg m h n pn qn = 2 := sv
  rw [iI_eq ⟨by omega, by omega⟩ ⟨by omega, by omega⟩]
  refine ⟨fun y => j_M_share_60 ?_, fun y => ⟨M3.1, no 6 h3 M3 f3 (Or.inr (Or.inr rfl)) (by unfold shS; rw [if_neg (fun y => y c3), if_neg (fun y => y (by omega)), Int.toNat_natCast, Int.toNat_natCast, if_pos y])⟩⟩
  have e0 : shS m h n pn qn kn = 0 := by
    unfold shS
    rw [if_neg (fun y => y c3), if_neg (fun y => y (by omega)), Int.toNat_natCast, Int.toNat_natCast, if_neg (fun z => z y)]
  have M4 : Mo m (sI h3 m 0 (iI 0)) := M3.sI
  have E4 := E3.tr (mwE_0 (v := iI 0))
  have f4 : fg (sgF m) h (sI h3 m 0 (iI 0)) := f3.wr (Or.inr ⟨rfl, rfl⟩)
  have s4 : mI (sI h3 m 0 (iI 0)) m 0 = 0 := by rw [mI_sI ⟨by omega, by omega⟩, if_pos ⟨rfl, rfl⟩]
  have B4 := E4.mb B
  have P4 := E4.mp P
  refine ⟨M3.1, M4.1, jRet_mono (c_MsumX (a := pn) (b := qn) (k := kn) M4 B4 P4 hn (by omega) (by omega) (by omega) hu) ?_⟩
  intro q6 h6 w6
  obtain ⟨e6, e7⟩ := w6
  rw [e7]
  refine ⟨_, e6, ?_⟩
  have ex : mst m (sI h3 m 0 (iI 0)) (mF1 m (sI h3 m 0 (iI 0)) pn) (mF1 m (sI h3 m 0 (iI 0)) qn) kn u + mst m (sI h3 m 0 (iI 0)) (mF2 m (sI h3 m 0 (iI 0)) pn) (mF2 m (sI h3 m 0 (iI 0)) qn) kn u = mX m h pn qn kn u := E4.x.1
  rw [ex]
  have bd := fun v => m_bd (a := pn) (b := qn) (k := kn) (u := v) B P (by omega) (by omega) (by omega)
  have hl := hL pn (by omega) kn (1 - u)
  have l89 : J 150 89 0 0 [.ref m, .int (iI pn), uu, .int (iI kn), .int (iI u), uu, uu, uu, uu] [.int (iI (1 - u)), .int (iI kn), .int (iI qn), .int (iI pn), .ref m, .long (lI (mX m h pn qn kn u)), .long (lI ((0 : Nat) : Int))] (sI h3 m 0 (iI 0)) (shQ m h n pn qn kn u) := by
    refine j_M_share_89 ⟨M4.1, jRet_mono (c_MsumO (a := pn) (b := qn) (k := kn) (u := 1 - u) M4 B4 P4 hn (by omega) (by omega) (by omega) (by omega)) ?_⟩
    intro q8 h8 w8
    obtain ⟨e8, e9⟩ := w8
    rw [e9]
    have eo : mst m (sI h3 m 0 (iI 0)) (mF1 m (sI h3 m 0 (iI 0)) pn) (mF2 m (sI h3 m 0 (iI 0)) qn) kn (1 - u) + mst m (sI h3 m 0 (iI 0)) (mF2 m (sI h3 m 0 (iI 0)) pn) (mF1 m (sI h3 m 0 (iI 0)) qn) kn (1 - u) = mO' m h pn qn kn (1 - u) := E4.x.2.1
    rw [eo] at e8
    obtain ⟨p1, p2, p3, p4⟩ := P4.at (show pn < n by omega)
    have sh := sh_lo (x := mX m h pn qn kn u) (o := mO' m h pn qn kn (1 - u)) (l := mLn m h pn kn (1 - u)) (k := kn) (bd u).1 (bd (1 - u)).2.1 ⟨hl, (bd (1 - u)).2.2.2⟩ (by omega)
    obtain ⟨s1, s2, s3, s4', s5⟩ := sh
    have bl := (bd (1 - u)).2.2
    have fin : ∀ v, v = lI (shV m h pn qn kn u) ∨ v.toInt32 = iI (shV m h pn qn kn u) → J 150 156 0 0 [uu, uu, uu, uu, uu, uu, uu, uu, uu] [.long v] (sI h3 m 0 (iI 0)) (shQ m h n pn qn kn u) := by
      intro v hv
      refine j_M_share_156 ⟨fun _ => ⟨?_, f4, s4⟩, fun z => absurd e0 z⟩
      rcases hv with hv | hv
      · rw [hv, lI_32, Int.toNat_natCast, Int.toNat_natCast, Int.toNat_natCast]
      · rw [hv, Int.toNat_natCast, Int.toNat_natCast, Int.toNat_natCast]
    have l127 : J 150 127 0 0 [uu, uu, uu, uu, .int (iI u), .long ((if lI (mX m h pn qn kn u) - lI (mO' m h pn qn kn (1 - u)) < lI ((0 : Nat) : Int) then lI ((0 : Nat) : Int) else lI (mX m h pn qn kn u) - lI (mO' m h pn qn kn (1 - u))) <<< ((iI (kn : Int)).toInt64 &&& 63)), uu, uu, uu] [.int (iI (1 - u)), .int (iI kn), .int (iI (mF2 m (sI h3 m 0 (iI 0)) pn)), .int (iI (mF1 m (sI h3 m 0 (iI 0)) pn)), .ref m, .long (lI 2)] (sI h3 m 0 (iI 0)) (shQ m h n pn qn kn u) := by
      refine j_M_share_127 ⟨M4.1, jRet_mono (c_Mstring (k := kn) (u := 1 - u) M4 B4 p3 p4 (by omega) (by omega)) ?_⟩
      intro q9 h9 w9
      obtain ⟨e10, e11⟩ := w9
      rw [e11]
      have el : mst m (sI h3 m 0 (iI 0)) (mF1 m (sI h3 m 0 (iI 0)) pn) (mF2 m (sI h3 m 0 (iI 0)) pn) kn (1 - u) = mLn m h pn kn (1 - u) := (E4.x (b := pn)).2.2
      rw [el] at e10
      refine ⟨_, e10, ?_⟩
      have nz : ¬ lI 2 * lI (mLn m h pn kn (1 - u)) = 0 := by
        rw [lI_mul, lI_0, lI_eq ⟨by omega, by omega⟩ ⟨by omega, by omega⟩]
        omega
      rw [iI_0, iI_eq ⟨by omega, by omega⟩ ⟨by omega, by omega⟩]
      refine ⟨fun z => j_M_share_151 ⟨nz, fin _ (Or.inr ?_)⟩, fun z => ⟨nz, fin _ (Or.inr ?_)⟩⟩
      · unfold shV
        rw [z] at s1 ⊢
        exact s1
      · obtain rfl : u = 1 := by omega
        exact s5
    rw [M4.a10.1, M4.a11.1, gI_q (by omega) (by omega), gI_q (by omega) (by omega), Int.toNat_natCast, p1, p2, jc02, iI_0, iI_eq ⟨by omega, by omega⟩ ⟨by omega, by omega⟩]
    refine ⟨_, e8, M4.1, ixL_of M4.a10.2 (by omega) (by omega) (by decide), M4.1, ixL_of M4.a11.2 (by omega) (by omega) (by decide), fun z => j_M_share_126 ?_, fun z => ?_⟩
    · obtain rfl : u = 1 := by omega
      exact l127
    · subst z
      exact l127
  rw [iI_0, iI_eq ⟨by omega, by omega⟩ ⟨by omega, by omega⟩]
  refine ⟨fun z => j_M_share_88 ?_, fun z => ?_⟩
  · obtain rfl : u = 1 := by omega
    exact l89
  · subst z
    exact l89
def crV (x o : Int) : Int := if 4 < x - o then 1 else if x - o < -4 then -1 else 0
theorem c_McrossedP {p q : Int} (M : Mo m h) (B : MB m h) (P : MP m n h) (hn : n ≤ 8) (hc : mI h m 20 = (n : Int)) (hp : rI p) (hq : rI q) : jRet 153 0 0 [.ref m, .int (iI p), .int (iI q)] h (fun r h' => (paS n p q = 0 → r = some (.int (iI (crV (mX m h p.toNat q.toNat 20 0) (mO' m h p.toNat q.toNat 20 0)))) ∧ h' = sI h m 0 (iI 0)) ∧ (paS n p q ≠ 0 → rfQ m h 1 r h')) := by
  have l21 : paS n p q ≠ 0 → J 153 21 0 0 [.ref m, uu, uu, uu, uu] [] h (fun r h' => (paS n p q = 0 → r = some (.int (iI (crV (mX m h p.toNat q.toNat 20 0) (mO' m h p.toNat q.toNat 20 0)))) ∧ h' = sI h m 0 (iI 0)) ∧ (paS n p q ≠ 0 → rfQ m h 1 r h')) := by
    intro hz
    refine j_M_crossed_21 ⟨M.1, jRet_mono (c_refuse M) ?_⟩
    intro r1 h1 w1
    exact ⟨_, w1.1, fun z => absurd z hz, fun _ => ⟨rfl, w1.2⟩⟩
  refine jRet_of (by decide) (by decide) (Nat.le_of_ble_eq_true rfl) (j_M_crossed_0 ⟨M.1, jRet_mono (c_isPatch M hp hc) ?_⟩)
  intro q1 h1 w1
  obtain ⟨e1, e2⟩ := w1
  rw [e2]
  refine ⟨_, e1, fun z => l21 ?_, fun z => ⟨M.1, jRet_mono (c_isPatch M hq hc) ?_⟩⟩
  · rw [iz] at z
    unfold paS
    rw [if_pos (fun y => z y.1)]
    decide
  have c1 : 0 ≤ p ∧ p < n := Classical.byContradiction (fun y => z (iz.mpr y))
  intro q2 h2 w2
  obtain ⟨e3, e4⟩ := w2
  rw [e4]
  refine ⟨_, e3, fun z => l21 ?_, fun z2 => ?_⟩
  · rw [iz] at z
    unfold paS
    rw [if_pos (fun y => z y.2.1)]
    decide
  have c2 : 0 ≤ q ∧ q < n := Classical.byContradiction (fun y => z2 (iz.mpr y))
  rw [iI_eq hp hq]
  refine ⟨fun z3 => ?_, fun z3 => l21 ?_⟩
  · have e0 : paS n p q = 0 := by
      unfold paS
      rw [if_neg (fun y => y ⟨c1, c2, z3⟩)]
    obtain ⟨pn, rfl⟩ : ∃ pn : Nat, p = (pn : Int) := ⟨p.toNat, by omega⟩
    obtain ⟨qn, rfl⟩ : ∃ qn : Nat, q = (qn : Int) := ⟨q.toNat, by omega⟩
    have E1 := mwE_0 (m := m) (h := h) (v := iI 0)
    have B1 := E1.mb B
    have P1 := E1.mp P
    have bd := m_bd (a := pn) (b := qn) (k := 20) (u := 0) B P (by omega) (by omega) (by omega)
    have r4 : rL 4 := ⟨by omega, by omega⟩
    have r4' : rL (-4) := ⟨by omega, by omega⟩
    refine j_M_crossed_27 ⟨M.1, M.sI.1, jRet_mono (c_MsumX (a := pn) (b := qn) (k := 20) (u := 0) M.sI B1 P1 hn (by omega) (by omega) (by omega) (Or.inl rfl)) ?_⟩
    intro q3 h3 w3
    obtain ⟨e5, e6⟩ := w3
    rw [e6]
    refine ⟨_, e5, M.sI.1, jRet_mono (c_MsumO (a := pn) (b := qn) (k := 20) (u := 0) M.sI B1 P1 hn (by omega) (by omega) (by omega) (Or.inl rfl)) ?_⟩
    intro q4 h4 w4
    obtain ⟨e7, e8⟩ := w4
    rw [e8]
    refine ⟨_, e7, ?_⟩
    have ex := (E1.x (a := pn) (b := qn) (k := 20) (u := 0)).1
    have eo := (E1.x (a := pn) (b := qn) (k := 20) (u := 0)).2.1
    unfold mX at ex
    unfold mO' at eo
    rw [ex, eo]
    have ex' : mst m h (mF1 m h pn) (mF1 m h qn) 20 0 + mst m h (mF2 m h pn) (mF2 m h qn) 20 0 = mX m h pn qn 20 0 := rfl
    have eo' : mst m h (mF1 m h pn) (mF2 m h qn) 20 0 + mst m h (mF2 m h pn) (mF1 m h qn) 20 0 = mO' m h pn qn 20 0 := rfl
    rw [ex', eo', lI_sub, jc04, lg_cmp_le, lI_le ⟨by omega, by omega⟩ r4, Int.toNat_natCast, Int.toNat_natCast]
    generalize mX m h pn qn 20 0 = x at *
    generalize mO' m h pn qn 20 0 = o at *
    have fin : ∀ v, v = crV x o → J 153 77 0 0 [uu, uu, uu, uu, uu] [.int (iI v)] (sI h m 0 (iI 0)) (fun r h' => (paS n pn qn = 0 → r = some (.int (iI (crV x o))) ∧ h' = sI h m 0 (iI 0)) ∧ (paS n pn qn ≠ 0 → rfQ m h 1 r h')) := fun v hv => j_M_crossed_77 ⟨fun _ => ⟨by rw [hv], rfl⟩, fun z => absurd e0 z⟩
    refine ⟨fun y => j_M_crossed_64 ?_, fun y => fin 1 (by unfold crV; rw [if_pos (by omega)])⟩
    rw [jc14, lg_cmp_ge, lI_le r4' ⟨by omega, by omega⟩]
    exact ⟨fun y2 => j_M_crossed_76 (fin 0 (by unfold crV; rw [if_neg (by omega), if_neg (by omega)])), fun y2 => fin (-1) (by unfold crV; rw [if_neg (by omega), if_pos (by omega)])⟩
  · unfold paS
    rw [if_pos (fun y => y.2.2 z3)]
    decide
noncomputable def wXs (w : Nat) (h : jHp) (a b k : Nat) (u : Int) : Int := wst w h (wF1 w h a) (wF1 w h b) k u + wst w h (wF2 w h a) (wF2 w h b) k u
noncomputable def wO' (w : Nat) (h : jHp) (a b k : Nat) (u : Int) : Int := wst w h (wF1 w h a) (wF2 w h b) k u + wst w h (wF2 w h a) (wF1 w h b) k u
noncomputable def wLn (w : Nat) (h : jHp) (a k : Nat) (u : Int) : Int := wst w h (wF1 w h a) (wF2 w h a) k u
theorem w_bd {a b k : Nat} {u : Int} (B : XB w h) (P : PT w n h) (ha : a < n) (hb : b < n) (hk : k ≤ 20) : (0 ≤ wXs w h a b k u ∧ wXs w h a b k u ≤ 8589934592) ∧ (0 ≤ wO' w h a b k u ∧ wO' w h a b k u ≤ 8589934592) ∧ (0 ≤ wLn w h a k u ∧ wLn w h a k u ≤ 4294967296) := by
  obtain ⟨p1, p2, p3, p4⟩ := P.at ha
  obtain ⟨r1, r2, r3, r4⟩ := P.at hb
  have a1 := wst_bd (u := u) B p3 r3 hk
  have a2 := wst_bd (u := u) B p4 r4 hk
  have a3 := wst_bd (u := u) B p3 r4 hk
  have a4 := wst_bd (u := u) B p4 r3 hk
  have a5 := wst_bd (u := u) B p3 p4 hk
  unfold wXs wO' wLn
  omega
theorem c_Wlow {a b k : Nat} (W : WL w h) (B : XB w h) (P : PT w n h) (hn : n ≤ 8) (ha : a < n) (hb : b < n) (hk : k ≤ 20) (hl : 1 ≤ wLn w h a k 1) : jRet 88 0 0 [.ref w, .int (iI a), .int (iI b), .int (iI k)] h (fun q h' => q = some (.int (iI (shX (wXs w h a b k 0) (wO' w h a b k 1) (wLn w h a k 1) k 0))) ∧ h' = h) := by
  have b0 := w_bd (u := 0) B P ha hb hk
  have b1 := w_bd (u := 1) B P ha hb hk
  refine jRet_of (by decide) (by decide) (Nat.le_of_ble_eq_true rfl) (j_Wa_lowShare_0 ⟨W.1, jRet_mono (c_WxD W B P hn ha hb hk) ?_⟩)
  intro q1 h1 w1
  obtain ⟨e1, e2⟩ := w1
  rw [e2]
  refine ⟨_, e1, W.1, jRet_mono (c_WoU W B P hn ha hb hk) ?_⟩
  intro q2 h2 w2
  obtain ⟨e3, e4⟩ := w2
  rw [e4]
  refine ⟨_, e3, W.1, jRet_mono (c_WpatchLen W B P hn ha hk (Or.inr rfl)) ?_⟩
  intro q3 h3 w3
  obtain ⟨e5, e6⟩ := w3
  rw [e6]
  refine ⟨_, e5, ?_⟩
  have ex : wst w h (wF1 w h a) (wF1 w h b) k 0 + wst w h (wF2 w h a) (wF2 w h b) k 0 = wXs w h a b k 0 := rfl
  have eo : wst w h (wF1 w h a) (wF2 w h b) k 1 + wst w h (wF2 w h a) (wF1 w h b) k 1 = wO' w h a b k 1 := rfl
  have el : wst w h (wF1 w h a) (wF2 w h a) k 1 = wLn w h a k 1 := rfl
  rw [ex, eo, el]
  have sh := sh_lo (k := k) b0.1 b1.2.1 ⟨hl, b1.2.2.2⟩ hk
  have bl := b1.2.2
  have r0 : rL ((0 : Nat) : Int) := ⟨by decide, by decide⟩
  rw [jc02, sh.1, lI_mul, lg_cmp_le, lI_le ⟨by omega, by omega⟩ r0, lI_0, lI_eq ⟨by omega, by omega⟩ ⟨by omega, by omega⟩]
  exact ⟨fun z => by omega, fun z => ⟨(by omega), j_Wa_lowShare_53 ⟨rfl, rfl⟩⟩⟩
theorem c_Whigh {a b k : Nat} (W : WL w h) (B : XB w h) (P : PT w n h) (hn : n ≤ 8) (ha : a < n) (hb : b < n) (hk : k ≤ 20) (hl : 1 ≤ wLn w h a k 0) : jRet 85 0 0 [.ref w, .int (iI a), .int (iI b), .int (iI k)] h (fun q h' => q = some (.int (iI (shX (wXs w h a b k 1) (wO' w h a b k 0) (wLn w h a k 0) k 1))) ∧ h' = h) := by
  have b0 := w_bd (u := 0) B P ha hb hk
  have b1 := w_bd (u := 1) B P ha hb hk
  refine jRet_of (by decide) (by decide) (Nat.le_of_ble_eq_true rfl) (j_Wa_highShare_0 ⟨W.1, jRet_mono (c_WxU W B P hn ha hb hk) ?_⟩)
  intro q1 h1 w1
  obtain ⟨e1, e2⟩ := w1
  rw [e2]
  refine ⟨_, e1, W.1, jRet_mono (c_WoD W B P hn ha hb hk) ?_⟩
  intro q2 h2 w2
  obtain ⟨e3, e4⟩ := w2
  rw [e4]
  refine ⟨_, e3, W.1, jRet_mono (c_WpatchLen W B P hn ha hk (Or.inl rfl)) ?_⟩
  intro q3 h3 w3
  obtain ⟨e5, e6⟩ := w3
  rw [e6]
  refine ⟨_, e5, ?_⟩
  have ex : wst w h (wF1 w h a) (wF1 w h b) k 1 + wst w h (wF2 w h a) (wF2 w h b) k 1 = wXs w h a b k 1 := rfl
  have eo : wst w h (wF1 w h a) (wF2 w h b) k 0 + wst w h (wF2 w h a) (wF1 w h b) k 0 = wO' w h a b k 0 := rfl
  have el : wst w h (wF1 w h a) (wF2 w h a) k 0 = wLn w h a k 0 := rfl
  rw [ex, eo, el]
  have sh := sh_lo (k := k) b1.1 b0.2.1 ⟨hl, b0.2.2.2⟩ hk
  have bl := b0.2.2
  have r0 : rL ((0 : Nat) : Int) := ⟨by decide, by decide⟩
  rw [jc02, sh.2.2.2.2, lI_mul, lg_cmp_le, lI_le ⟨by omega, by omega⟩ r0, lI_0, lI_eq ⟨by omega, by omega⟩ ⟨by omega, by omega⟩]
  exact ⟨fun z => by omega, fun z => ⟨(by omega), j_Wa_highShare_58 ⟨rfl, rfl⟩⟩⟩
theorem c_Wcompare {a b : Nat} (W : WL w h) (B : XB w h) (P : PT w n h) (hn : n ≤ 8) (ha : a < n) (hb : b < n) : jRet 91 0 0 [.ref w, .int (iI a), .int (iI b)] h (fun q h' => q = some (.int (iI (crV (wXs w h a b 20 0) (wO' w h a b 20 0)))) ∧ h' = h) := by
  have b0 := w_bd (u := 0) (k := 20) B P ha hb (by omega)
  refine jRet_of (by decide) (by decide) (Nat.le_of_ble_eq_true rfl) (j_Wa_compareStrings_0 ⟨W.1, jRet_mono (c_WxD (k := 20) W B P hn ha hb (by omega)) ?_⟩)
  intro q1 h1 w1
  obtain ⟨e1, e2⟩ := w1
  rw [e2]
  refine ⟨_, e1, W.1, jRet_mono (c_WoD (k := 20) W B P hn ha hb (by omega)) ?_⟩
  intro q2 h2 w2
  obtain ⟨e3, e4⟩ := w2
  rw [e4]
  refine ⟨_, e3, ?_⟩
  have ex : wst w h (wF1 w h a) (wF1 w h b) 20 0 + wst w h (wF2 w h a) (wF2 w h b) 20 0 = wXs w h a b 20 0 := rfl
  have eo : wst w h (wF1 w h a) (wF2 w h b) 20 0 + wst w h (wF2 w h a) (wF1 w h b) 20 0 = wO' w h a b 20 0 := rfl
  rw [ex, eo]
  generalize wXs w h a b 20 0 = x at *
  generalize wO' w h a b 20 0 = o at *
  have r0 : rL 0 := ⟨by decide, by decide⟩
  have r4 : rL 4 := ⟨by decide, by decide⟩
  have eA : (if 0 < lI x - lI o then lI x - lI o else -(lI x - lI o)) = lI (if 0 < x - o then x - o else -(x - o)) := by
    rw [lI_sub, lI_neg]
    by_cases c : 0 < x - o
    · rw [if_pos (show (0 : Int64) < lI (x - o) by rw [lI_0, lI_lt r0 ⟨by omega, by omega⟩]; exact c), if_pos c]
    · rw [if_neg (show ¬ (0 : Int64) < lI (x - o) by rw [lI_0, lI_lt r0 ⟨by omega, by omega⟩]; exact c), if_neg c]
  have bA : rL (if 0 < x - o then x - o else -(x - o)) := by split <;> exact ⟨by omega, by omega⟩
  have aA : 4 < (if 0 < x - o then x - o else -(x - o)) ↔ 4 < x - o ∨ x - o < -4 := by split <;> omega
  rw [eA, jc04, lg_cmp_gt, lI_lt r4 bA, lI_sub]
  refine ⟨fun z => j_Wa_compareStrings_31 ?_, fun z => ⟨?_, rfl⟩⟩
  · have z' := aA.mp z
    have r00 : rL ((0 : Nat) : Int) := r0
    rw [lg_cmp_le, lI_le ⟨by omega, by omega⟩ r00]
    exact ⟨fun y => j_Wa_compareStrings_41 (j_Wa_compareStrings_42 ⟨by unfold crV; rw [if_neg (by omega), if_pos (by omega)], rfl⟩), fun y => j_Wa_compareStrings_42 ⟨by unfold crV; rw [if_pos (by omega)], rfl⟩⟩
  · have z' : ¬ (4 < x - o ∨ x - o < -4) := fun y => z (aA.mpr y)
    unfold crV
    rw [if_neg (by omega), if_neg (by omega)]
/-- the class's and the model's are the same -/
def DI (m n nc : Nat) (h : jHp) : Prop := nc ≤ 24 ∧ (∀ i j, i < nc → j < nc → mI h (m + 5) i = mI h (m + 5) j → mI h (m + 6) i = mI h (m + 6) j → i = j) ∧ ∀ i, i < n → mF1 m h i < nc ∧ mF2 m h i < nc ∧ mF1 m h i ≠ mF2 m h i
theorem w_same {a b k : Nat} {u : Int} (C : CW w m h) (P : MP m n h) (hn : n ≤ 8) (ha : a < n) (hb : b < n) : wXs w h a b k u = mX m h a b k u ∧ wO' w h a b k u = mO' m h a b k u ∧ wLn w h a k u = mLn m h a k u := by
  have f1 : ∀ i, i < n → wF1 w h i = mF1 m h i ∧ wF2 w h i = mF2 m h i := fun i hi => by
    have := C.2.2.2 i (by omega)
    unfold wF1 wF2 mF1 mF2
    rw [this.2.1, this.2.2.1]
    exact ⟨rfl, rfl⟩
  have st : ∀ c d, c < 24 → d < 24 → wst w h c d k u = mst m h c d k u := fun c d hc hd => stg_e (C.2.2.1 c hc).1 (C.2.2.1 d hd).1 (C.2.2.1 c hc).2 (C.2.2.1 d hd).2
  obtain ⟨p1, p2, p3, p4⟩ := P.at ha
  obtain ⟨r1, r2, r3, r4⟩ := P.at hb
  unfold wXs wO' wLn mX mO' mLn
  rw [(f1 a ha).1, (f1 a ha).2, (f1 b hb).1, (f1 b hb).2, st _ _ p3 r3, st _ _ p4 r4, st _ _ p3 r4, st _ _ p4 r3, st _ _ p3 p4]
  exact ⟨rfl, rfl, rfl⟩
theorem ln_pos {nc : Nat} (D : DI m n nc h) {i k : Nat} {u : Int} (hi : i < n) : 1 ≤ mLn m h i k u := by
  obtain ⟨d1, d2, d3⟩ := D
  obtain ⟨x1, x2, x3⟩ := d3 i hi
  exact stg_pos (fun z => x3 (d2 _ _ x1 x2 z.1 z.2))
theorem crs_e {X Y X' Y' : Nat → Int} {a b c : Nat} (ha : X a = X' a ∧ Y a = Y' a) (hb : X b = X' b ∧ Y b = Y' b) (hc : X c = X' c ∧ Y c = Y' c) : crs X Y a b c = crs X' Y' a b c := by
  unfold crs
  rw [ha.1, ha.2, hb.1, hb.2, hc.1, hc.2]
theorem sg_same {a b nc : Nat} (C : CW w m h) (P : MP m n h) (D : DI m n nc h) (hn : n ≤ 8) (ha : a < n) (hb : b < n) : wSg w h n a b = mSg m h n a b := by
  have f1 : ∀ i, i < n → wF1 w h i = mF1 m h i ∧ wF2 w h i = mF2 m h i := fun i hi => by
    have := C.2.2.2 i (by omega)
    unfold wF1 wF2 mF1 mF2
    rw [this.2.1, this.2.2.1]
    exact ⟨rfl, rfl⟩
  have cr : ∀ c d e, c < 24 → d < 24 → e < 24 → crs (mI h (w + 1)) (mI h (w + 2)) c d e = crs (mI h (m + 5)) (mI h (m + 6)) c d e := fun c d e hc hd he => crs_e (C.2.2.1 c hc) (C.2.2.1 d hd) (C.2.2.1 e he)
  obtain ⟨p1, p2, p3, p4⟩ := P.at ha
  obtain ⟨r1, r2, r3, r4⟩ := P.at hb
  obtain ⟨d1, d2, d3⟩ := D
  obtain ⟨da1, da2, da3⟩ := d3 a ha
  obtain ⟨db1, db2, db3⟩ := d3 b hb
  unfold wSg mSg
  rw [(f1 a ha).1, (f1 a ha).2, (f1 b hb).1, (f1 b hb).2, cr _ _ _ p3 p4 r3, cr _ _ _ p3 p4 r4, cr _ _ _ r3 r4 p3, cr _ _ _ r3 r4 p4]
  have f4l : ∀ j, f4 (mF1 m h a) (mF2 m h a) (mF1 m h b) (mF2 m h b) j < 24 ∧ f4 (mF1 m h a) (mF2 m h a) (mF1 m h b) (mF2 m h b) j < nc := by
    intro j
    unfold f4
    split
    · exact ⟨p3, da1⟩
    · split
      · exact ⟨p4, da2⟩
      · split
        · exact ⟨r3, db1⟩
        · exact ⟨r4, db2⟩
  unfold sgt
  by_cases c0 : (crs (mI h (m + 5)) (mI h (m + 6)) (mF1 m h a) (mF2 m h a) (mF1 m h b) ≤ 0 ∧ crs (mI h (m + 5)) (mI h (m + 6)) (mF1 m h a) (mF2 m h a) (mF2 m h b) ≤ 0) ∨ (crs (mI h (m + 5)) (mI h (m + 6)) (mF1 m h b) (mF2 m h b) (mF1 m h a) ≤ 0 ∧ crs (mI h (m + 5)) (mI h (m + 6)) (mF1 m h b) (mF2 m h b) (mF2 m h a) ≤ 0)
  · rw [if_pos c0, if_pos c0]
  rw [if_neg c0, if_neg c0]
  by_cases c1 : crs (mI h (m + 5)) (mI h (m + 6)) (mF1 m h a) (mF2 m h a) (mF1 m h b) < 0 ∨ crs (mI h (m + 5)) (mI h (m + 6)) (mF1 m h a) (mF2 m h a) (mF2 m h b) < 0 ∨ crs (mI h (m + 5)) (mI h (m + 6)) (mF1 m h b) (mF2 m h b) (mF1 m h a) < 0 ∨ crs (mI h (m + 5)) (mI h (m + 6)) (mF1 m h b) (mF2 m h b) (mF2 m h a) < 0
  · rw [if_pos c1, if_pos c1]
  rw [if_neg c1, if_neg c1]
  have key : ∀ i, i < n → (fea (rgP (mI h (w + 1)) (mI h (w + 2)) (f4 (mF1 m h a) (mF2 m h a) (mF1 m h b) (mF2 m h b)) (wF1 w h i) (wF2 w h i) 4) ↔ fea (egP (mI h (m + 5)) (mI h (m + 6)) (f4 (mF1 m h a) (mF2 m h a) (mF1 m h b) (mF2 m h b)) (mF1 m h i) (mF2 m h i) 16)) := by
    intro i hi
    obtain ⟨s1, s2, s3, s4⟩ := P.at hi
    rw [(f1 i hi).1, (f1 i hi).2]
    have er : rgP (mI h (w + 1)) (mI h (w + 2)) (f4 (mF1 m h a) (mF2 m h a) (mF1 m h b) (mF2 m h b)) (mF1 m h i) (mF2 m h i) 4 = rgP (mI h (m + 5)) (mI h (m + 6)) (f4 (mF1 m h a) (mF2 m h a) (mF1 m h b) (mF2 m h b)) (mF1 m h i) (mF2 m h i) 4 := by
      funext p q
      unfold rgP
      refine propext ⟨?_, ?_⟩
      · rintro ⟨j, h1, h2, h3, h4, h5⟩
        exact ⟨j, h1, h2, h3, by rw [h4, cr _ _ _ (f4l _).1 (f4l _).1 s3], by rw [h5, cr _ _ _ (f4l _).1 (f4l _).1 s4]⟩
      · rintro ⟨j, h1, h2, h3, h4, h5⟩
        exact ⟨j, h1, h2, h3, by rw [h4, cr _ _ _ (f4l _).1 (f4l _).1 s3], by rw [h5, cr _ _ _ (f4l _).1 (f4l _).1 s4]⟩
    rw [er]
    have g0 : f4 (mF1 m h a) (mF2 m h a) (mF1 m h b) (mF2 m h b) 0 = mF1 m h a := rfl
    have g1 : f4 (mF1 m h a) (mF2 m h a) (mF1 m h b) (mF2 m h b) 1 = mF2 m h a := rfl
    have g2 : f4 (mF1 m h a) (mF2 m h a) (mF1 m h b) (mF2 m h b) 2 = mF1 m h b := rfl
    have g3 : f4 (mF1 m h a) (mF2 m h a) (mF1 m h b) (mF2 m h b) 3 = mF2 m h b := rfl
    refine ring_hull (fun j k _ _ hne z => hne (d2 _ _ (f4l j).2 (f4l k).2 z.1 z.2)) (by rw [g0, g1]; exact da3) (by rw [g2, g3]; exact db3) ?_ ?_ ?_ ?_ ?_ ?_
    · rw [g0, g1, g2]
      omega
    · rw [g0, g1, g3]
      omega
    · rw [g0, g1, g2, g3]
      omega
    · rw [g2, g3, g0]
      omega
    · rw [g2, g3, g1]
      omega
    · rw [g2, g3, g0, g1]
      omega
  have ke : (∃ i, i < n ∧ i ≠ a ∧ i ≠ b ∧ fea (rgP (mI h (w + 1)) (mI h (w + 2)) (f4 (mF1 m h a) (mF2 m h a) (mF1 m h b) (mF2 m h b)) (wF1 w h i) (wF2 w h i) 4)) = (∃ i, i < n ∧ i ≠ a ∧ i ≠ b ∧ fea (egP (mI h (m + 5)) (mI h (m + 6)) (f4 (mF1 m h a) (mF2 m h a) (mF1 m h b) (mF2 m h b)) (mF1 m h i) (mF2 m h i) 16)) := by
    refine propext ⟨?_, ?_⟩
    · rintro ⟨i, h1, h2, h3, h4⟩
      exact ⟨i, h1, h2, h3, (key i h1).mp h4⟩
    · rintro ⟨i, h1, h2, h3, h4⟩
      exact ⟨i, h1, h2, h3, (key i h1).mpr h4⟩
  by_cases c2 : ∃ i, i < n ∧ i ≠ a ∧ i ≠ b ∧ fea (egP (mI h (m + 5)) (mI h (m + 6)) (f4 (mF1 m h a) (mF2 m h a) (mF1 m h b) (mF2 m h b)) (mF1 m h i) (mF2 m h i) 16)
  · rw [if_pos (ke ▸ c2), if_pos c2]
  · rw [if_neg (fun z => c2 (ke ▸ z)), if_neg c2]
end SHARES
