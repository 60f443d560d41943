/-! the model's calls that tell it something, and out -/
theorem Mo.a10 {m : Nat} {h : jHp} (M : Mo m h) : gR h m 10 = m + 7 ∧ jz h (m + 7) = (10, 8) := M.2 (10, 7, 8) (by decide)
theorem Mo.a11 {m : Nat} {h : jHp} (M : Mo m h) : gR h m 11 = m + 8 ∧ jz h (m + 8) = (10, 8) := M.2 (11, 8, 8) (by decide)
theorem Mo.a12 {m : Nat} {h : jHp} (M : Mo m h) : gR h m 12 = m + 9 ∧ jz h (m + 9) = (10, 8) := M.2 (12, 9, 8) (by decide)
theorem Mo.a17 {m : Nat} {h : jHp} (M : Mo m h) : gR h m 17 = m + 14 ∧ jz h (m + 14) = (10, 8) := M.2 (17, 14, 8) (by decide)
theorem Mo.a18 {m : Nat} {h : jHp} (M : Mo m h) : gR h m 18 = m + 15 ∧ jz h (m + 15) = (10, 8) := M.2 (18, 15, 8) (by decide)
section ST
variable {m : Nat} {h : jHp} {n : Nat}
/-- a refusal that answers false -/
def rbQ (m : Nat) (h : jHp) (s : Int) : jQ := fun r h' => r = some (.int (iI 0)) ∧ h' = sI h m 0 (iI s)
theorem o_no {s : Int} (M : Mo m h) (hs : s = 1 ∨ s = 2 ∨ s = 5) : jRet 141 0 0 [.ref m, .int (iI s)] h (fun v h1 => ∃ r1, v = some (.int r1) ∧ isB r1 ∧ rbQ m h s (some (.int r1)) h1) := by
  refine jRet_mono (c_is M ⟨by omega, by omega⟩) ?_
  intro q1 h1 w1
  obtain ⟨e1, e2⟩ := w1
  rw [if_neg (by omega)] at e1
  exact ⟨_, e1, Or.inl rfl, rfl, e2⟩
theorem o_yes (M : Mo m h) : jRet 141 0 0 [.ref m, .int (iI 0)] h (fun v h1 => ∃ r1, v = some (.int r1) ∧ isB r1 ∧ some (Value.int r1) = some (.int (iI 1)) ∧ h1 = sI h m 0 (iI 0)) := by
  refine jRet_mono (c_is M ⟨by omega, by omega⟩) ?_
  intro q1 h1 w1
  obtain ⟨e1, e2⟩ := w1
  rw [if_pos rfl] at e1
  exact ⟨_, e1, Or.inr rfl, rfl, e2⟩
theorem jR_w {z k s : Nat} {as : List Value} {Q : Value → jQ} {Q' : jQ} (H : jRet z k s as h (fun v h1 => ∃ r1, v = some (.int r1) ∧ isB r1 ∧ Q (.int r1) (some (.int r1)) h1)) (f : ∀ r1 h1, Q (.int r1) (some (.int r1)) h1 → Q' (some (.int r1)) h1) : jRet z k s as h (fun v h1 => ∃ r1, v = some (.int r1) ∧ isB r1 ∧ Q' (some (.int r1)) h1) :=
  jRet_mono H (fun v h1 q => by
    obtain ⟨r1, e1, e2, e3⟩ := q
    exact ⟨r1, e1, e2, f r1 h1 e3⟩)
def onS (m : Nat) (h : jHp) (n : Nat) (p a d : Int) : Int := if ¬ (0 ≤ p ∧ p < n) then 1 else if ¬ (1 ≤ d ∧ d ≤ 100 ∧ 0 ≤ a ∧ a < d) then 2 else if mI h (m + 9) p.toNat = 2 ∧ a ≠ 0 then 5 else 0
def onQ (m : Nat) (h : jHp) (n : Nat) (p a d : Int) : jQ := fun r h' => (onS m h n p a d = 0 → r = some (.int (iI 1)) ∧ h' = sI (sI (sI h (m + 10) p.toNat (iI a)) (m + 11) p.toNat (iI d)) m 0 (iI 0)) ∧ (onS m h n p a d ≠ 0 → rbQ m h (onS m h n p a d) r h')
theorem c_on {p a d : Int} (M : Mo m h) (hn : mI h m 20 = n) (hn8 : n ≤ 8) (hp : rI p) (ha : rI a) (hd : rI d) : jRet 139 0 0 [.ref m, .int (iI p), .int (iI a), .int (iI d)] h (onQ m h n p a d) := by
  have no : ∀ s : Int, (s = 1 ∨ s = 2 ∨ s = 5) → onS m h n p a d = s → jRet 141 0 0 [.ref m, .int (iI s)] h (fun v h1 => ∃ r1, v = some (.int r1) ∧ isB r1 ∧ onQ m h n p a d (some (.int r1)) h1) := by
    intro s hs he
    refine jRet_mono (o_no M hs) ?_
    intro v h1 q
    obtain ⟨r1, e1, e2, e3⟩ := q
    exact ⟨r1, e1, e2, fun z => by omega, fun _ => by rw [he]; exact e3⟩
  refine jRet_of (by decide) (by decide) (Nat.le_of_ble_eq_true rfl) (j_M_on_0 ⟨M.1, jRet_mono (c_isPatch M hp hn) ?_⟩)
  intro q1 h1 w1
  obtain ⟨e1, e2⟩ := w1
  rw [e2]
  refine ⟨_, e1, ?_⟩
  rw [iI_0, iI_eq (by split <;> exact ⟨by omega, by omega⟩) ⟨by omega, by omega⟩]
  by_cases c1 : 0 ≤ p ∧ p < n
  · rw [if_pos c1]
    have l34 : ¬ (1 ≤ d ∧ d ≤ 100 ∧ 0 ≤ a ∧ a < d) → J 139 34 0 0 [.ref m, uu, uu, uu] [] h (onQ m h n p a d) := fun z => j_M_on_34 ⟨M.1, no 2 (Or.inr (Or.inl rfl)) (by unfold onS; rw [if_neg (fun y => y c1), if_pos z])⟩
    refine ⟨fun _ => j_M_on_14 ?_, fun z => absurd z (by decide)⟩
    rw [iI_0, iI_lt hd ⟨by omega, by omega⟩, iI_lt ⟨by omega, by omega⟩ hd, iI_lt ha ⟨by omega, by omega⟩, iI_lt ha hd]
    refine ⟨fun z => l34 (by omega), fun z1 => ⟨fun z => l34 (by omega), fun z2 => ⟨fun z => l34 (by omega), fun z3 => ⟨fun z4 => j_M_on_40 ?_, fun z => l34 (by omega)⟩⟩⟩⟩
    obtain ⟨pn, rfl⟩ : ∃ pn : Nat, p = (pn : Int) := ⟨p.toNat, by omega⟩
    have ok : ¬ (mI h (m + 9) pn = 2 ∧ a ≠ 0) → J 139 60 0 0 [.ref m, .int (iI pn), .int (iI a), .int (iI d)] [] h (onQ m h n pn a d) := by
      intro hk
      have e0 : onS m h n pn a d = 0 := by
        unfold onS
        rw [if_neg (fun y => y c1), if_neg (fun y => y (by omega)), Int.toNat_natCast, if_neg hk]
      have M1 : Mo m (sI h (m + 10) pn (iI a)) := M.sI
      refine j_M_on_60 ?_
      rw [M.a13.1, iI_cl (by omega) (by omega), Int.toNat_natCast, M1.a14.1]
      refine ⟨M.1, ix_of M.a13.2 (by omega) (by omega) (by decide), M1.1, ix_of M1.a14.2 (by omega) (by omega) (by decide), j_M_on_74 ⟨M1.sI.1, ?_⟩⟩
      refine jRet_mono (o_yes M1.sI) ?_
      intro v h1 q
      obtain ⟨r1, e1, e2, e3, e4⟩ := q
      exact ⟨r1, e1, e2, fun _ => ⟨e3, e4⟩, fun z => absurd e0 z⟩
    rw [M.a12.1, gI_q (by omega) (by omega), Int.toNat_natCast, iI_eq (rI_mI _ _ _) ⟨by omega, by omega⟩, iI_0, iI_eq ha ⟨by omega, by omega⟩]
    refine ⟨M.1, ixL_of M.a12.2 (by omega) (by omega) (by decide), fun z => ok (fun y => z y.1), fun z => ⟨fun z5 => ok (fun y => y.2 z5), fun z5 => ⟨M.1, no 5 (Or.inr (Or.inr rfl)) ?_⟩⟩⟩
    unfold onS
    rw [if_neg (fun y => y c1), if_neg (fun y => y (by omega)), Int.toNat_natCast, if_pos ⟨z, z5⟩]
  · rw [if_neg c1]
    exact ⟨fun z => absurd rfl z, fun _ => ⟨M.1, no 1 (Or.inl rfl) (by unfold onS; rw [if_pos c1])⟩⟩
theorem c_out {k : Int} {l : List Int} (M : Mo m h) (O : OU m h l) (hk : rI k) : jRet 156 0 0 [.ref m, .int (iI k)] h (fun q h' => q = some (.int (iI (if 0 ≤ k ∧ k < l.length then l.getD k.toNat 0 else -1))) ∧ h' = h) := by
  have hl := O.2.1
  refine jRet_of (by decide) (by decide) (Nat.le_of_ble_eq_true rfl) (j_M_out_0 ?_)
  rw [gI_mI h m 27, O.1, iI_0, iI_lt hk ⟨by omega, by omega⟩, iI_le ⟨by omega, by omega⟩ hk, M.a26.1]
  refine ⟨fun z => j_M_out_21 (j_M_out_22 ⟨by rw [if_neg (by omega)], rfl⟩), fun z => ⟨M.1, fun z2 => j_M_out_21 (j_M_out_22 ⟨by rw [if_neg (by omega)], rfl⟩), fun z2 => ⟨M.1, ixL_of M.a26.2 (by omega) (by omega) (by decide), j_M_out_22 ⟨?_, rfl⟩⟩⟩⟩
  rw [gI_q (by omega) hk.2, O.2.2 _ (by omega), if_pos (by omega)]
def wnS (n : Nat) (p v : Int) : Int := if ¬ (0 ≤ p ∧ p < n) then 1 else if ¬ (0 ≤ v ∧ v ≤ 100000) then 2 else 0
def wnQ (m : Nat) (h : jHp) (n : Nat) (p v : Int) : jQ := fun r h' => (wnS n p v = 0 → r = some (.int (iI 1)) ∧ h' = sI (sI h (m + 13) p.toNat (iI v)) m 0 (iI 0)) ∧ (wnS n p v ≠ 0 → rbQ m h (wnS n p v) r h')
theorem c_want {p v : Int} (M : Mo m h) (hn : mI h m 20 = n) (hn8 : n ≤ 8) (hp : rI p) (hv : rI v) : jRet 189 0 0 [.ref m, .int (iI p), .int (iI v)] h (wnQ m h n p v) := by
  have j5 : jc 0 100000 = 100000 := by decide
  have no : ∀ s : Int, (s = 1 ∨ s = 2 ∨ s = 5) → wnS n p v = s → jRet 141 0 0 [.ref m, .int (iI s)] h (fun u h1 => ∃ r1, u = some (.int r1) ∧ isB r1 ∧ wnQ m h n p v (some (.int r1)) h1) := by
    intro s hs he
    refine jRet_mono (o_no M hs) ?_
    intro u h1 q
    obtain ⟨r1, e1, e2, e3⟩ := q
    exact ⟨r1, e1, e2, fun z => by omega, fun _ => by rw [he]; exact e3⟩
  refine jRet_of (by decide) (by decide) (Nat.le_of_ble_eq_true rfl) (j_M_want_0 ⟨M.1, jRet_mono (c_isPatch M hp hn) ?_⟩)
  intro q1 h1 w1
  obtain ⟨e1, e2⟩ := w1
  rw [e2]
  refine ⟨_, e1, ?_⟩
  rw [iI_0, iI_eq (by split <;> exact ⟨by omega, by omega⟩) ⟨by omega, by omega⟩]
  by_cases c1 : 0 ≤ p ∧ p < n
  · rw [if_pos c1]
    have l25 : ¬ (0 ≤ v ∧ v ≤ 100000) → J 189 25 0 0 [.ref m, uu, uu] [] h (wnQ m h n p v) := fun z => j_M_want_25 ⟨M.1, no 2 (Or.inr (Or.inl rfl)) (by unfold wnS; rw [if_neg (fun y => y c1), if_pos z])⟩
    refine ⟨fun _ => j_M_want_14 ?_, fun z => absurd z (by decide)⟩
    rw [iI_0, j5, iI_lt hv ⟨by omega, by omega⟩, iI_le hv ⟨by omega, by omega⟩]
    refine ⟨fun z => l25 (by omega), fun z1 => ⟨fun z2 => j_M_want_31 ?_, fun z => l25 (by omega)⟩⟩
    have e0 : wnS n p v = 0 := by
      unfold wnS
      rw [if_neg (fun y => y c1), if_neg (fun y => y (by omega))]
    rw [M.a16.1, iI_cl (by omega) (by omega)]
    refine ⟨M.1, ix_of M.a16.2 (by omega) (by omega) (by decide), M.sI.1, ?_⟩
    refine jRet_mono (o_yes M.sI) ?_
    intro u h1 q
    obtain ⟨r1, e1, e2, e3, e4⟩ := q
    exact ⟨r1, e1, e2, fun _ => ⟨e3, e4⟩, fun z => absurd e0 z⟩
  · rw [if_neg c1]
    exact ⟨fun z => absurd rfl z, fun _ => ⟨M.1, no 1 (Or.inl rfl) (by unfold wnS; rw [if_pos c1])⟩⟩
end ST
