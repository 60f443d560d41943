/-! meet: two pieces have a point in common that isn't a corner of both -/
theorem iz {P : Prop} [Decidable P] : iI (if P then 1 else 0) = 0 ↔ ¬ P := by
  rw [iI_0, iI_eq (by split <;> exact ⟨by omega, by omega⟩) ⟨by omega, by omega⟩]
  split <;> simp_all
def wth (X Y : Nat → Int) (a b c : Nat) : Prop := crs X Y a b c = 0 ∧ dot X Y a b c < 0
def mee (X Y : Nat → Int) (a b c d : Nat) : Prop := wth X Y a b c ∨ wth X Y a b d ∨ wth X Y c d a ∨ wth X Y c d b ∨ (a = c ∧ b = d ∨ a = d ∧ b = c) ∨ ((crs X Y a b c).sign * (crs X Y a b d).sign < 0 ∧ (crs X Y c d a).sign * (crs X Y c d b).sign < 0)
theorem sg_bd (z : Int) : -1 ≤ z.sign ∧ z.sign ≤ 1 := by
  rcases Int.lt_trichotomy z 0 with c | c | c
  · rw [Int.sign_eq_neg_one_of_neg c]
    omega
  · rw [c]
    decide
  · rw [Int.sign_eq_one_of_pos c]
    omega
theorem sm_bd (y z : Int) : -4000000 ≤ y.sign * z.sign ∧ y.sign * z.sign ≤ 4000000 := by
  have h1 := sg_bd y
  have h2 := sg_bd z
  exact mul_bd (by omega) (by omega)
theorem c_meet {m a b c d : Nat} {h : jHp} (M : Mo m h) (ha : a < 24) (hb : b < 24) (hc : c < 24) (hd : d < 24) (hX : ∀ k, k < 24 → -1000 ≤ mI h (m + 5) k ∧ mI h (m + 5) k ≤ 1000) (hY : ∀ k, k < 24 → -1000 ≤ mI h (m + 6) k ∧ mI h (m + 6) k ≤ 1000) :
    jRet 135 0 0 [.ref m, .int (iI a), .int (iI b), .int (iI c), .int (iI d)] h (fun r h' => (mee (mI h (m + 5)) (mI h (m + 6)) a b c d ∧ r = some (.int (iI 1)) ∨ ¬ mee (mI h (m + 5)) (mI h (m + 6)) a b c d ∧ r = some (.int (iI 0))) ∧ h' = h) := by
  have rc : ∀ p q s : Nat, p < 24 → q < 24 → s < 24 → rL (crs (mI h (m + 5)) (mI h (m + 6)) p q s) := fun p q s hp hq hs => by
    have := crs_bd (X := mI h (m + 5)) (Y := mI h (m + 6)) (a := p) (b := q) (c := s) (fun k hk => hX k (by omega)) (fun k hk => hY k (by omega))
    exact ⟨by omega, by omega⟩
  have yes43 : mee (mI h (m + 5)) (mI h (m + 6)) a b c d → J 135 43 0 0 [uu, uu, uu, uu, uu] [] h (fun r h' => (mee (mI h (m + 5)) (mI h (m + 6)) a b c d ∧ r = some (.int (iI 1)) ∨ ¬ mee (mI h (m + 5)) (mI h (m + 6)) a b c d ∧ r = some (.int (iI 0))) ∧ h' = h) := fun z => j_M_meet_43 ⟨Or.inr rfl, Or.inl ⟨z, rfl⟩, rfl⟩
  have yes67 : mee (mI h (m + 5)) (mI h (m + 6)) a b c d → J 135 67 0 0 [uu, uu, uu, uu, uu] [] h (fun r h' => (mee (mI h (m + 5)) (mI h (m + 6)) a b c d ∧ r = some (.int (iI 1)) ∨ ¬ mee (mI h (m + 5)) (mI h (m + 6)) a b c d ∧ r = some (.int (iI 0))) ∧ h' = h) := fun z => j_M_meet_67 ⟨Or.inr rfl, Or.inl ⟨z, rfl⟩, rfl⟩
  refine jRet_of (by decide) (by decide) (Nat.le_of_ble_eq_true rfl) (j_M_meet_0 ⟨M.1, jRet_mono (c_isWithin M ha hb hc hX hY) ?_⟩)
  intro v1 h1 q1
  obtain ⟨e1, e2⟩ := q1
  rw [e2]
  refine ⟨_, e1, fun z => yes43 (Or.inl (Classical.byContradiction (fun y => z (iz.mpr y)))), fun z1 => ⟨M.1, jRet_mono (c_isWithin M ha hb hd hX hY) ?_⟩⟩
  rw [iz] at z1
  intro v2 h2 q2
  obtain ⟨e3, e4⟩ := q2
  rw [e4]
  refine ⟨_, e3, fun z => yes43 (Or.inr (Or.inl (Classical.byContradiction (fun y => z (iz.mpr y))))), fun z2 => ⟨M.1, jRet_mono (c_isWithin M hc hd ha hX hY) ?_⟩⟩
  rw [iz] at z2
  intro v3 h3 q3
  obtain ⟨e5, e6⟩ := q3
  rw [e6]
  refine ⟨_, e5, fun z => yes43 (Or.inr (Or.inr (Or.inl (Classical.byContradiction (fun y => z (iz.mpr y)))))), fun z3 => ⟨M.1, jRet_mono (c_isWithin M hc hd hb hX hY) ?_⟩⟩
  rw [iz] at z3
  intro v4 h4 q4
  obtain ⟨e7, e8⟩ := q4
  rw [e8]
  refine ⟨_, e7, fun z4 => ?_, fun z => yes43 (Or.inr (Or.inr (Or.inr (Or.inl (Classical.byContradiction (fun y => z (iz.mpr y)))))))⟩
  rw [iz] at z4
  have l69 : ¬ (a = c ∧ b = d ∨ a = d ∧ b = c) → J 135 69 0 0 [.ref m, .int (iI a), .int (iI b), .int (iI c), .int (iI d)] [] h (fun r h' => (mee (mI h (m + 5)) (mI h (m + 6)) a b c d ∧ r = some (.int (iI 1)) ∨ ¬ mee (mI h (m + 5)) (mI h (m + 6)) a b c d ∧ r = some (.int (iI 0))) ∧ h' = h) := by
    intro ne
    have no : ¬ ((crs (mI h (m + 5)) (mI h (m + 6)) a b c).sign * (crs (mI h (m + 5)) (mI h (m + 6)) a b d).sign < 0 ∧ (crs (mI h (m + 5)) (mI h (m + 6)) c d a).sign * (crs (mI h (m + 5)) (mI h (m + 6)) c d b).sign < 0) → J 135 124 0 0 [uu, uu, uu, uu, uu] [] h (fun r h' => (mee (mI h (m + 5)) (mI h (m + 6)) a b c d ∧ r = some (.int (iI 1)) ∨ ¬ mee (mI h (m + 5)) (mI h (m + 6)) a b c d ∧ r = some (.int (iI 0))) ∧ h' = h) := by
      intro nx
      refine j_M_meet_124 (j_M_meet_125 ⟨Or.inl rfl, Or.inr ⟨?_, rfl⟩, rfl⟩)
      rintro (y | y | y | y | y | y)
      · exact z1 y
      · exact z2 y
      · exact z3 y
      · exact z4 y
      · exact ne y
      · exact nx y
    refine j_M_meet_69 ⟨M.1, jRet_mono (c_side M ha hb hc hX hY) ?_⟩
    intro w1 g1 p1
    obtain ⟨f1, f2⟩ := p1
    rw [f2]
    refine ⟨_, f1, jRet_mono (c_sign0 (rc a b c ha hb hc)) ?_⟩
    intro w2 g2 p2
    obtain ⟨f3, f4⟩ := p2
    rw [f4]
    refine ⟨_, f3, M.1, jRet_mono (c_side M ha hb hd hX hY) ?_⟩
    intro w3 g3 p3
    obtain ⟨f5, f6⟩ := p3
    rw [f6]
    refine ⟨_, f5, jRet_mono (c_sign0 (rc a b d ha hb hd)) ?_⟩
    intro w4 g4 p4
    obtain ⟨f7, f8⟩ := p4
    rw [f8]
    have b1 := sm_bd (crs (mI h (m + 5)) (mI h (m + 6)) a b c) (crs (mI h (m + 5)) (mI h (m + 6)) a b d)
    have b2 := sm_bd (crs (mI h (m + 5)) (mI h (m + 6)) c d a) (crs (mI h (m + 5)) (mI h (m + 6)) c d b)
    refine ⟨_, f7, ?_⟩
    rw [iI_mul, iI_0, iI_le ⟨by omega, by omega⟩ ⟨by omega, by omega⟩]
    refine ⟨fun y => no (fun u => by omega), fun y => ⟨M.1, jRet_mono (c_side M hc hd ha hX hY) ?_⟩⟩
    intro w5 g5 p5
    obtain ⟨f9, f10⟩ := p5
    rw [f10]
    refine ⟨_, f9, jRet_mono (c_sign0 (rc c d a hc hd ha)) ?_⟩
    intro w6 g6 p6
    obtain ⟨f11, f12⟩ := p6
    rw [f12]
    refine ⟨_, f11, M.1, jRet_mono (c_side M hc hd hb hX hY) ?_⟩
    intro w7 g7 p7
    obtain ⟨f13, f14⟩ := p7
    rw [f14]
    refine ⟨_, f13, jRet_mono (c_sign0 (rc c d b hc hd hb)) ?_⟩
    intro w8 g8 p8
    obtain ⟨f15, f16⟩ := p8
    rw [f16]
    refine ⟨_, f15, ?_⟩
    rw [iI_mul, iI_le ⟨by omega, by omega⟩ ⟨by omega, by omega⟩]
    refine ⟨fun y2 => no (fun u => by omega), fun y2 => j_M_meet_125 ⟨Or.inr rfl, Or.inl ⟨?_, rfl⟩, rfl⟩⟩
    exact Or.inr (Or.inr (Or.inr (Or.inr (Or.inr ⟨by omega, by omega⟩))))
  have l56 : ¬ (a = c ∧ b = d) → J 135 56 0 0 [.ref m, .int (iI a), .int (iI b), .int (iI c), .int (iI d)] [] h (fun r h' => (mee (mI h (m + 5)) (mI h (m + 6)) a b c d ∧ r = some (.int (iI 1)) ∨ ¬ mee (mI h (m + 5)) (mI h (m + 6)) a b c d ∧ r = some (.int (iI 0))) ∧ h' = h) := by
    intro n1
    refine j_M_meet_56 ?_
    rw [iI_eq ⟨by omega, by omega⟩ ⟨by omega, by omega⟩, iI_eq ⟨by omega, by omega⟩ ⟨by omega, by omega⟩]
    exact ⟨fun y => l69 (by omega), fun y => ⟨fun y2 => l69 (by omega), fun y2 => yes67 (Or.inr (Or.inr (Or.inr (Or.inr (Or.inl (Or.inr ⟨by omega, by omega⟩))))))⟩⟩
  refine j_M_meet_45 ?_
  rw [iI_eq ⟨by omega, by omega⟩ ⟨by omega, by omega⟩, iI_eq ⟨by omega, by omega⟩ ⟨by omega, by omega⟩]
  exact ⟨fun y => l56 (by omega), fun y => ⟨fun y2 => yes67 (Or.inr (Or.inr (Or.inr (Or.inr (Or.inl (Or.inl ⟨by omega, by omega⟩)))))), fun y2 => l56 (by omega)⟩⟩
