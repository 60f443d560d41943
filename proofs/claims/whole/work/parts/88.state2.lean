/-! the model's own, price, told, table, parts -/
section ST
variable {m : Nat} {h : jHp} {n : Nat}
def owS (m : Nat) (h : jHp) (n : Nat) (p v : Int) : Int := if ¬ (0 ≤ p ∧ p < n) then 1 else if ¬ (0 ≤ v ∧ v ≤ 10000) then 2 else if mI h (m + 9) p.toNat = 0 ∧ v ≠ 0 then 5 else 0
def owQ (m : Nat) (h : jHp) (n : Nat) (p v : Int) : jQ := fun r h' => (owS m h n p v = 0 → r = some (.int (iI 1)) ∧ h' = sI (sI h (m + 12) p.toNat (iI v)) m 0 (iI 0)) ∧ (owS m h n p v ≠ 0 → rbQ m h (owS m h n p v) r h')
theorem c_own {p v : Int} (M : Mo m h) (hn : mI h m 20 = n) (hn8 : n ≤ 8) (hp : rI p) (hv : rI v) : jRet 142 0 0 [.ref m, .int (iI p), .int (iI v)] h (owQ m h n p v) := by
  have no : ∀ s : Int, (s = 1 ∨ s = 2 ∨ s = 5) → owS m h n p v = s → jRet 141 0 0 [.ref m, .int (iI s)] h (fun u h1 => ∃ r1, u = some (.int r1) ∧ isB r1 ∧ owQ m h n p v (some (.int r1)) h1) := by
    intro s hs he
    refine jRet_mono (o_no M hs) ?_
    intro u h1 q
    obtain ⟨r1, e1, e2, e3⟩ := q
    exact ⟨r1, e1, e2, fun z => by omega, fun _ => by rw [he]; exact e3⟩
  refine jRet_of (by decide) (by decide) (Nat.le_of_ble_eq_true rfl) (j_M_own_0 ⟨M.1, jRet_mono (c_isPatch M hp hn) ?_⟩)
  intro q1 h1 w1
  obtain ⟨e1, e2⟩ := w1
  rw [e2]
  refine ⟨_, e1, ?_⟩
  rw [iI_0, iI_eq (by split <;> exact ⟨by omega, by omega⟩) ⟨by omega, by omega⟩]
  by_cases c1 : 0 ≤ p ∧ p < n
  · rw [if_pos c1]
    have l25 : ¬ (0 ≤ v ∧ v ≤ 10000) → J 142 25 0 0 [.ref m, uu, uu] [] h (owQ m h n p v) := fun z => j_M_own_25 ⟨M.1, no 2 (Or.inr (Or.inl rfl)) (by unfold owS; rw [if_neg (fun y => y c1), if_pos z])⟩
    refine ⟨fun _ => j_M_own_14 ?_, fun z => absurd z (by decide)⟩
    rw [iI_0, iI_lt hv ⟨by omega, by omega⟩, iI_le hv ⟨by omega, by omega⟩]
    refine ⟨fun z => l25 (by omega), fun z1 => ⟨fun z2 => j_M_own_31 ?_, fun z => l25 (by omega)⟩⟩
    obtain ⟨pn, rfl⟩ : ∃ pn : Nat, p = (pn : Int) := ⟨p.toNat, by omega⟩
    have ok : ¬ (mI h (m + 9) pn = 0 ∧ v ≠ 0) → J 142 50 0 0 [.ref m, .int (iI pn), .int (iI v)] [] h (owQ m h n pn v) := by
      intro hk
      have e0 : owS m h n pn v = 0 := by
        unfold owS
        rw [if_neg (fun y => y c1), if_neg (fun y => y (by omega)), Int.toNat_natCast, if_neg hk]
      refine j_M_own_50 ?_
      rw [M.a15.1, iI_cl (by omega) (by omega), Int.toNat_natCast]
      refine ⟨M.1, ix_of M.a15.2 (by omega) (by omega) (by decide), M.sI.1, ?_⟩
      refine jRet_mono (o_yes M.sI) ?_
      intro u h1 q
      obtain ⟨r1, e1, e2, e3, e4⟩ := q
      exact ⟨r1, e1, e2, fun _ => ⟨e3, e4⟩, fun z => absurd e0 z⟩
    rw [M.a12.1, gI_q (by omega) (by omega), Int.toNat_natCast, iI_0, iI_eq (rI_mI _ _ _) ⟨by omega, by omega⟩, iI_eq hv ⟨by omega, by omega⟩]
    refine ⟨M.1, ixL_of M.a12.2 (by omega) (by omega) (by decide), fun z => ok (fun y => z y.1), fun z => ⟨fun z5 => ok (fun y => y.2 z5), fun z5 => ⟨M.1, no 5 (Or.inr (Or.inr rfl)) ?_⟩⟩⟩
    unfold owS
    rw [if_neg (fun y => y c1), if_neg (fun y => y (by omega)), Int.toNat_natCast, if_pos ⟨z, z5⟩]
  · rw [if_neg c1]
    exact ⟨fun z => absurd rfl z, fun _ => ⟨M.1, no 1 (Or.inl rfl) (by unfold owS; rw [if_pos c1])⟩⟩
def prS (m : Nat) (h : jHp) (n : Nat) (p v u : Int) : Int := if ¬ (0 ≤ p ∧ p < n) then 1 else if ¬ (0 ≤ v ∧ v ≤ 1000 ∧ 0 ≤ u ∧ u ≤ 10000) then 2 else if mI h (m + 9) p.toNat = 1 then 0 else 5
def prQ (m : Nat) (h : jHp) (n : Nat) (p v u : Int) : jQ := fun r h' => (prS m h n p v u = 0 → r = some (.int (iI 1)) ∧ h' = sI (sI (sI h (m + 14) p.toNat (iI v)) (m + 15) p.toNat (iI u)) m 0 (iI 0)) ∧ (prS m h n p v u ≠ 0 → rbQ m h (prS m h n p v u) r h')
theorem c_price {p v u : Int} (M : Mo m h) (hn : mI h m 20 = n) (hn8 : n ≤ 8) (hp : rI p) (hv : rI v) (hu : rI u) : jRet 190 0 0 [.ref m, .int (iI p), .int (iI v), .int (iI u)] h (prQ m h n p v u) := by
  have no : ∀ s : Int, (s = 1 ∨ s = 2 ∨ s = 5) → prS m h n p v u = s → jRet 141 0 0 [.ref m, .int (iI s)] h (fun q h1 => ∃ r1, q = some (.int r1) ∧ isB r1 ∧ prQ m h n p v u (some (.int r1)) h1) := by
    intro s hs he
    refine jRet_mono (o_no M hs) ?_
    intro q h1 w
    obtain ⟨r1, e1, e2, e3⟩ := w
    exact ⟨r1, e1, e2, fun z => by omega, fun _ => by rw [he]; exact e3⟩
  refine jRet_of (by decide) (by decide) (Nat.le_of_ble_eq_true rfl) (j_M_price_0 ⟨M.1, jRet_mono (c_isPatch M hp hn) ?_⟩)
  intro q1 h1 w1
  obtain ⟨e1, e2⟩ := w1
  rw [e2]
  refine ⟨_, e1, ?_⟩
  rw [iI_0, iI_eq (by split <;> exact ⟨by omega, by omega⟩) ⟨by omega, by omega⟩]
  by_cases c1 : 0 ≤ p ∧ p < n
  · rw [if_pos c1]
    have l36 : ¬ (0 ≤ v ∧ v ≤ 1000 ∧ 0 ≤ u ∧ u ≤ 10000) → J 190 36 0 0 [.ref m, uu, uu, uu] [] h (prQ m h n p v u) := fun z => j_M_price_36 ⟨M.1, no 2 (Or.inr (Or.inl rfl)) (by unfold prS; rw [if_neg (fun y => y c1), if_pos z])⟩
    refine ⟨fun _ => j_M_price_14 ?_, fun z => absurd z (by decide)⟩
    rw [iI_0, iI_lt hv ⟨by omega, by omega⟩, iI_lt ⟨by omega, by omega⟩ hv, iI_lt hu ⟨by omega, by omega⟩, iI_le hu ⟨by omega, by omega⟩]
    refine ⟨fun z => l36 (by omega), fun z1 => ⟨fun z => l36 (by omega), fun z2 => ⟨fun z => l36 (by omega), fun z3 => ⟨fun z4 => j_M_price_42 ?_, fun z => l36 (by omega)⟩⟩⟩⟩
    obtain ⟨pn, rfl⟩ : ∃ pn : Nat, p = (pn : Int) := ⟨p.toNat, by omega⟩
    rw [M.a12.1, gI_q (by omega) (by omega), Int.toNat_natCast, iI_eq (rI_mI _ _ _) ⟨by omega, by omega⟩]
    refine ⟨M.1, ixL_of M.a12.2 (by omega) (by omega) (by decide), fun z => j_M_price_58 ?_, fun z => ⟨M.1, no 5 (Or.inr (Or.inr rfl)) ?_⟩⟩
    · have e0 : prS m h n pn v u = 0 := by
        unfold prS
        rw [if_neg (fun y => y c1), if_neg (fun y => y (by omega)), Int.toNat_natCast, if_pos z]
      have M1 : Mo m (sI h (m + 14) pn (iI v)) := M.sI
      rw [M.a17.1, iI_cl (by omega) (by omega), Int.toNat_natCast, M1.a18.1]
      refine ⟨M.1, ix_of M.a17.2 (by omega) (by omega) (by decide), M1.1, ix_of M1.a18.2 (by omega) (by omega) (by decide), j_M_price_72 ⟨M1.sI.1, ?_⟩⟩
      refine jRet_mono (o_yes M1.sI) ?_
      intro q h1 w
      obtain ⟨r1, e1, e2, e3, e4⟩ := w
      exact ⟨r1, e1, e2, fun _ => ⟨e3, e4⟩, fun y => absurd e0 y⟩
    · unfold prS
      rw [if_neg (fun y => y c1), if_neg (fun y => y (by omega)), Int.toNat_natCast, if_neg z]
  · rw [if_neg c1]
    exact ⟨fun z => absurd rfl z, fun _ => ⟨M.1, no 1 (Or.inl rfl) (by unfold prS; rw [if_pos c1])⟩⟩
/-- which of the model's arrays a fact is in -/
def fcA (k : Nat) : Nat := if k = 0 then 9 else if k = 1 then 7 else if k = 2 then 8 else k + 7
def tlQ (m : Nat) (h : jHp) (n : Nat) (p k : Int) : jQ := fun r h' => (0 ≤ p ∧ p < n → (0 ≤ k ∧ k ≤ 8 → r = some (.int (iI (mI h (m + fcA k.toNat) p.toNat))) ∧ h' = sI h m 0 (iI 0)) ∧ (¬ (0 ≤ k ∧ k ≤ 8) → rfQ m h 2 r h')) ∧ (¬ (0 ≤ p ∧ p < n) → rfQ m h 1 r h')
theorem c_told {p k : Int} (M : Mo m h) (hn : mI h m 20 = n) (hn8 : n ≤ 8) (hp : rI p) (hk : rI k) : jRet 143 0 0 [.ref m, .int (iI p), .int (iI k)] h (tlQ m h n p k) := by
  refine jRet_of (by decide) (by decide) (Nat.le_of_ble_eq_true rfl) (j_M_told_0 ⟨M.1, jRet_mono (c_isPatch M hp hn) ?_⟩)
  intro q1 h1 w1
  obtain ⟨e1, e2⟩ := w1
  rw [e2]
  refine ⟨_, e1, ?_⟩
  rw [iI_0, iI_eq (by split <;> exact ⟨by omega, by omega⟩) ⟨by omega, by omega⟩]
  by_cases c1 : 0 ≤ p ∧ p < n
  · rw [if_pos c1]
    have l24 : ¬ (0 ≤ k ∧ k ≤ 8) → J 143 24 0 0 [.ref m, uu, uu] [] h (tlQ m h n p k) := by
      intro z
      refine j_M_told_24 ⟨M.1, jRet_mono (c_refuse M) ?_⟩
      intro q h1 w
      exact ⟨_, w.1, fun _ => ⟨fun y => absurd y z, fun _ => ⟨rfl, w.2⟩⟩, fun y => absurd c1 y⟩
    refine ⟨fun _ => j_M_told_14 ?_, fun z => absurd z (by decide)⟩
    rw [iI_0, iI_lt hk ⟨by omega, by omega⟩, iI_le hk ⟨by omega, by omega⟩]
    refine ⟨fun z => l24 (by omega), fun z1 => ⟨fun z2 => j_M_told_30 ?_, fun z => l24 (by omega)⟩⟩
    obtain ⟨pn, rfl⟩ : ∃ pn : Nat, p = (pn : Int) := ⟨p.toNat, by omega⟩
    obtain ⟨kn, rfl⟩ : ∃ kn : Nat, k = (kn : Int) := ⟨k.toNat, by omega⟩
    have e : (iI (kn : Int)).toInt = kn := iI_to ⟨by omega, by omega⟩
    have M1 : Mo m (sI h m 0 (iI 0)) := M.sI
    have fin : ∀ q : Nat, q = fcA kn → gI (sI h m 0 (iI 0)) (m + q) (iI (pn : Int)).toNatClampNeg = iI (mI h (m + q) pn) → (q = 7 ∨ q = 8 ∨ q = 9 ∨ q = 10 ∨ q = 11 ∨ q = 12 ∨ q = 13 ∨ q = 14 ∨ q = 15) → tlQ m h n pn kn (some (.int (gI (sI h m 0 (iI 0)) (m + q) (iI (pn : Int)).toNatClampNeg))) (sI h m 0 (iI 0)) := by
      intro q hq hg _
      refine ⟨fun _ => ⟨fun _ => ⟨?_, rfl⟩, fun y => absurd (by omega) y⟩, fun y => absurd c1 y⟩
      rw [hg, hq, Int.toNat_natCast, Int.toNat_natCast]
    have gg : ∀ q : Nat, 1 ≤ q → gI (sI h m 0 (iI 0)) (m + q) (iI (pn : Int)).toNatClampNeg = iI (mI h (m + q) pn) := fun q hq => by
      rw [gI_q (by omega) (by omega), Int.toNat_natCast, mI_sI ⟨by omega, by omega⟩, if_neg (fun z => by omega)]
    refine ⟨M.1, fun z => ?_, fun j u hu hj => ?_⟩
    · rw [e] at z
      have h8 : kn = 8 := by omega
      subst h8
      refine J_cl (mk := [1, 1, 0]) (j_M_told_140 (x0 := m) (x1 := iI (pn : Int)) ?_)
      rw [M1.a18.1]
      exact ⟨M1.1, ixL_of M1.a18.2 (by omega) (by omega) (by decide), fin 15 rfl (gg 15 (by decide)) (by omega)⟩
    · rw [e] at hj
      have hjk : j = kn := by omega
      subst hjk
      have h9 : j = 0 ∨ j = 1 ∨ j = 2 ∨ j = 3 ∨ j = 4 ∨ j = 5 ∨ j = 6 ∨ j = 7 ∨ j = 8 := by omega
      rcases h9 with z | z | z | z | z | z | z | z | z <;> subst z <;> simp at hu
      · subst hu
        refine J_cl (mk := [1, 1, 0]) (j_M_told_84 (x0 := m) (x1 := iI (pn : Int)) ?_)
        rw [M1.a12.1]
        exact ⟨M1.1, ixL_of M1.a12.2 (by omega) (by omega) (by decide), fin 9 rfl (gg 9 (by decide)) (by omega)⟩
      · subst hu
        refine J_cl (mk := [1, 1, 0]) (j_M_told_91 (x0 := m) (x1 := iI (pn : Int)) ?_)
        rw [M1.a10.1]
        exact ⟨M1.1, ixL_of M1.a10.2 (by omega) (by omega) (by decide), fin 7 rfl (gg 7 (by decide)) (by omega)⟩
      · subst hu
        refine J_cl (mk := [1, 1, 0]) (j_M_told_98 (x0 := m) (x1 := iI (pn : Int)) ?_)
        rw [M1.a11.1]
        exact ⟨M1.1, ixL_of M1.a11.2 (by omega) (by omega) (by decide), fin 8 rfl (gg 8 (by decide)) (by omega)⟩
      · subst hu
        refine J_cl (mk := [1, 1, 0]) (j_M_told_105 (x0 := m) (x1 := iI (pn : Int)) ?_)
        rw [M1.a13.1]
        exact ⟨M1.1, ixL_of M1.a13.2 (by omega) (by omega) (by decide), fin 10 rfl (gg 10 (by decide)) (by omega)⟩
      · subst hu
        refine J_cl (mk := [1, 1, 0]) (j_M_told_112 (x0 := m) (x1 := iI (pn : Int)) ?_)
        rw [M1.a14.1]
        exact ⟨M1.1, ixL_of M1.a14.2 (by omega) (by omega) (by decide), fin 11 rfl (gg 11 (by decide)) (by omega)⟩
      · subst hu
        refine J_cl (mk := [1, 1, 0]) (j_M_told_119 (x0 := m) (x1 := iI (pn : Int)) ?_)
        rw [M1.a15.1]
        exact ⟨M1.1, ixL_of M1.a15.2 (by omega) (by omega) (by decide), fin 12 rfl (gg 12 (by decide)) (by omega)⟩
      · subst hu
        refine J_cl (mk := [1, 1, 0]) (j_M_told_126 (x0 := m) (x1 := iI (pn : Int)) ?_)
        rw [M1.a16.1]
        exact ⟨M1.1, ixL_of M1.a16.2 (by omega) (by omega) (by decide), fin 13 rfl (gg 13 (by decide)) (by omega)⟩
      · subst hu
        refine J_cl (mk := [1, 1, 0]) (j_M_told_133 (x0 := m) (x1 := iI (pn : Int)) ?_)
        rw [M1.a17.1]
        exact ⟨M1.1, ixL_of M1.a17.2 (by omega) (by omega) (by decide), fin 14 rfl (gg 14 (by decide)) (by omega)⟩
  · rw [if_neg c1]
    refine ⟨fun z => absurd rfl z, fun _ => ⟨M.1, jRet_mono (c_refuse M) ?_⟩⟩
    intro q h1 w
    exact ⟨_, w.1, fun y => absurd y c1, fun _ => ⟨rfl, w.2⟩⟩
end ST
