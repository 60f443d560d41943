/-! tellsNumber, tells -/
theorem nu_fg {m a : Nat} {S : Nat → Nat → Prop} {h h' : jHp} {v : Int} (n : NU m h a v) (f : fg S h h') (s : ∀ k, ¬ S (m + 1) k) : NU m h' a v :=
  ⟨n.1, by rw [show mm h' m a = mm h m a from f.eq (s a)]; exact n.2.1, fun k hk => by rw [show mm h' m (a + 1 + k) = mm h m (a + 1 + k) from f.eq (s _)]; exact n.2.2 k hk⟩
section TN
variable {m : Nat} {h : jHp} {l : List Int} {n : Nat}
theorem l_tn75 (M : Mo m h) (hl : l.length + sz 10 n ≤ 1000) (hn : sz B3 n ≤ 398) : ∀ (b V j : Nat) (g : jHp), V ≤ b → V = n / 10 ^ j → (j = 0 ∨ n / 10 ^ (j - 1) ≠ 0) → fg (tlS m) h g → OU m g (l ++ uD j n) → mI g m 6 = sz B3 V → (∀ k, k < sz B3 V → mI g (m + 2) k = dg B3 V k) →
    J 182 75 0 0 [.ref m, uu, .int (iI l.length), uu, uu, uu, uu, uu] [] g (tnQ m h (l ++ dT n)) := by
  intro b
  have fin : ∀ (j : Nat) (g : jHp), n / 10 ^ j = 0 → (j = 0 ∨ n / 10 ^ (j - 1) ≠ 0) → fg (tlS m) h g → OU m g (l ++ uD j n) → mI g m 6 = 0 → J 182 75 0 0 [.ref m, uu, .int (iI l.length), uu, uu, uu, uu, uu] [] g (tnQ m h (l ++ dT n)) := by
    intro j g hV hj f O h6
    have Mg := M.sk f.1
    have hlt : n < 10 ^ j := by
      rcases Nat.lt_or_ge n (10 ^ j) with z | z
      · exact z
      · have := Nat.div_pos z (Nat.pow_pos (show 0 < 10 by decide))
        omega
    have hs : sz 10 n = j := by
      refine sz_eq (by decide) hlt ?_
      rcases hj with z | z
      · exact Or.inl z
      · refine Or.inr ?_
        rcases Nat.eq_zero_or_pos j with y | y
        · rw [y] at z
          rw [y]
          rw [y] at hlt
          have : n = 0 := by omega
          rw [this] at z
          exact absurd rfl z
        · unfold dg
          have h1 : n / 10 ^ (j - 1) < 10 := by
            rw [Nat.div_lt_iff_lt_mul (Nat.pow_pos (by decide)), Nat.mul_comm, ← Nat.pow_succ, show (j - 1).succ = j by omega]
            exact hlt
          rw [Nat.mod_eq_of_lt h1]
          exact z
    have o1 : mI g m 27 = (l.length : Int) + (sz 10 n : Int) := by
      rw [O.1, List.length_append, uD_len, hs]
      rfl
    refine j_M_tellsNumber_75 ?_
    rw [gI_mI g m 6, h6, iI_0, iI_le ⟨by omega, by omega⟩ ⟨by omega, by omega⟩]
    refine ⟨Mg.1, fun _ => j_M_tellsNumber_185 ⟨Mg.1, ?_⟩, fun c => absurd (Int.le_refl _) c⟩
    rw [gI_mI g m 27, o1, iI_sub]
    have := l_tn195 M hl (sz 10 n) 0 g (by omega) (by omega) f o1 (fun k hk => ?_) (fun i hi => ?_)
    · rw [show (l.length : Int) + ((0 : Nat) : Int) = (l.length : Int) by omega, show (l.length : Int) + (sz 10 n : Int) - 1 - ((0 : Nat) : Int) = (l.length : Int) + (sz 10 n : Int) - 1 by omega] at this
      exact this
    · rw [O.2.2 k (by rw [List.length_append]; omega), gd_l hk]
    · rw [O.2.2 _ (by rw [List.length_append, uD_len]; omega), gd_r, uD_get n j i (by omega), if_neg (by omega), if_neg (by omega)]
  induction b with
  | zero =>
    intro V j g hb hV hj f O h6 hk
    have : V = 0 := by omega
    subst this
    exact fin j g hV.symm hj f O (by rw [h6, sz_0]; rfl)
  | succ b ih =>
    intro V j g hb hV hj f O h6 hk
    rcases Nat.eq_zero_or_pos V with z | hV0
    · subst z
      exact fin j g hV.symm hj f O (by rw [h6, sz_0]; rfl)
    have Mg := M.sk f.1
    obtain ⟨s, hs⟩ : ∃ s, s = sz B3 V := ⟨_, rfl⟩
    have hs0 : 0 < s := by
      rw [hs]
      exact (sz_pos (by decide)).mpr hV0
    have hs1 : s ≤ 398 := by
      rw [hs]
      refine Nat.le_trans (sz_mono (by decide) ?_) hn
      rw [hV]
      exact Nat.div_le_self _ _
    have hVs : V < B3 ^ s := by
      rw [hs]
      exact sz_lt (by decide)
    have hjs : j < sz 10 n := by
      rcases Nat.lt_or_ge j (sz 10 n) with z | z
      · exact z
      · have := (sz_le (B := 10) (v := n) (n := j) (by decide)).mp z
        rw [Nat.div_eq_of_lt this] at hV
        omega
    rw [← hs] at h6 hk
    have ej : jc 0 10 = 10 := by decide
    -- the digit is told
    have l173 : ∀ g1 : jHp, fg (tlS m) h g1 → OU m g1 (l ++ uD j n) → mI g1 m 6 = sz B3 (V / 10) → (∀ k, k < s → mI g1 (m + 2) k = dg B3 (V / 10) k) → J 182 173 0 0 [.ref m, uu, .int (iI l.length), .long (lI ((V % 10 : Nat) : Int)), uu, uu, uu, uu] [] g1 (tnQ m h (l ++ dT n)) := by
      intro g1 f1 O1 h61 hk1
      have M1 := M.sk f1.1
      have hm10 : V % 10 < 10 := Nat.mod_lt _ (by decide)
      refine j_M_tellsNumber_173 ⟨M1.1, ?_⟩
      rw [lI_32, iI_add]
      refine jRet_mono (c_tells0 M1 O1 (by rw [List.length_append, uD_len]; omega) ⟨by omega, by omega⟩) ?_
      intro v1 h1 q1
      obtain ⟨e1, e2, e3, e4⟩ := q1
      refine ⟨e1, ?_⟩
      have hz : sz B3 (V / 10) ≤ s := by
        rw [hs]
        exact sz_mono (by decide) (Nat.div_le_self _ _)
      refine ih (V / 10) (j + 1) h1 ?_ ?_ (Or.inr ?_) (f1.tr e2) ?_ ?_ (fun k hk2 => ?_)
      · have := Nat.div_lt_self hV0 (show 1 < 10 by decide)
        omega
      · rw [hV, Nat.div_div_eq_div_mul, ← Nat.pow_succ]
      · rw [Nat.add_sub_cancel, ← hV]
        omega
      · rw [uD, ← List.append_assoc]
        have : 48 + ((V % 10 : Nat) : Int) = 48 + (dg 10 n j : Int) := by
          unfold dg
          rw [hV]
        rw [this] at e3
        exact e3
      · rw [e4 m 6 (by omega) (fun z => by omega)]
        exact h61
      · rw [e4 (m + 2) k (by omega) (fun z => by omega)]
        exact hk1 k (by omega)
    -- the count
    have l139 : ∀ (q : Nat) (g1 : jHp), q ≤ s → fg (tlS m) h g1 → OU m g1 (l ++ uD j n) → mI g1 m 6 = q → V / 10 < B3 ^ q → (∀ k, k < s → mI g1 (m + 2) k = dg B3 (V / 10) k) → J 182 139 0 0 [.ref m, uu, .int (iI l.length), .long (lI ((V % 10 : Nat) : Int)), uu, uu, uu, uu] [] g1 (tnQ m h (l ++ dT n)) := by
      intro q
      induction q with
      | zero =>
        intro g1 hq f1 O1 h61 hlt hk1
        have M1 := M.sk f1.1
        refine j_M_tellsNumber_139 ?_
        rw [gI_mI g1 m 6, h61, iI_0, iI_le ⟨by omega, by omega⟩ ⟨by omega, by omega⟩]
        exact ⟨M1.1, fun _ => l173 g1 f1 O1 (by rw [h61, sz_eq (B := B3) (k := 0) (by decide) hlt (Or.inl rfl)]) hk1, fun c => absurd (by omega) c⟩
      | succ q ihq =>
        intro g1 hq f1 O1 h61 hlt hk1
        have M1 := M.sk f1.1
        have dq : dg B3 (V / 10) q < 1073741824 := dg_lt (by decide)
        refine j_M_tellsNumber_139 ?_
        rw [gI_mI g1 m 6, h61, M1.a3.1]
        simp only [iI_sub]
        rw [show ((q + 1 : Nat) : Int) - 1 = (q : Int) by omega, gI_q (by omega) (by omega), Int.toNat_natCast, hk1 q (by omega), iI_0, iI_le ⟨by omega, by omega⟩ ⟨by omega, by omega⟩, iI_eq ⟨by omega, by omega⟩ ⟨by omega, by omega⟩]
        refine ⟨M1.1, fun c => by omega, fun c => ⟨M1.1, M1.1, ixL_of M1.a3.2 (by omega) (by omega) (by decide), fun c2 => l173 g1 f1 O1 ?_ hk1, fun c2 => ⟨M1.1, M1.1, ?_⟩⟩⟩
        · rw [h61, sz_eq (B := B3) (k := q + 1) (by decide) hlt (Or.inr (by rw [Nat.add_sub_cancel]; omega))]
        · refine ihq _ (by omega) (f1.wr (by unfold tlS; omega)) (OU_fg O1 (S := fun p k => p = m ∧ k = 6) (fg.rf.wr ⟨rfl, rfl⟩) (fun p k z => by omega)) ?_ (lt_down (by decide) hlt (by omega)) (fun k hk2 => ?_)
          · rw [mI_sI ⟨by omega, by omega⟩, if_pos ⟨rfl, rfl⟩]
          · rw [mI_sI ⟨by omega, by omega⟩, if_neg (fun z => by omega)]
            exact hk1 k hk2
    -- the division by ten
    have l92 : ∀ (k : Nat) (g1 : jHp), k ≤ s → fg (tlS m) h g1 → OU m g1 (l ++ uD j n) → mI g1 m 6 = s → (∀ i, i < k → mI g1 (m + 2) i = dg B3 V i) → (∀ i, k ≤ i → i < s → mI g1 (m + 2) i = dg B3 (V / 10) i) → J 182 92 0 0 [.ref m, uu, .int (iI l.length), .long (lI ((V / B3 ^ k % 10 : Nat) : Int)), uu, .int (iI ((k : Int) - 1)), uu, uu] [] g1 (tnQ m h (l ++ dT n)) := by
      intro k
      induction k with
      | zero =>
        intro g1 hk1 f1 O1 h61 a1 a2
        rw [Nat.pow_zero, Nat.div_one]
        refine j_M_tellsNumber_92 ⟨fun _ => l139 s g1 (Nat.le_refl s) f1 O1 h61 (Nat.lt_of_le_of_lt (Nat.div_le_self _ _) hVs) (fun i hi => a2 i (by omega) hi), fun c => absurd (by rw [iI_0]; exact (iI_lt ⟨by omega, by omega⟩ ⟨by omega, by omega⟩).mpr (by omega)) c⟩
      | succ k ihk =>
        intro g1 hk1 f1 O1 h61 a1 a2
        have M1 := M.sk f1.1
        have hr0 : V / B3 ^ (k + 1) % 10 < 10 := Nat.mod_lt _ (by decide)
        have dk : dg B3 V k < 1073741824 := dg_lt (by decide)
        have hsq : dg B3 (V / 10) k = (V / B3 ^ (k + 1) % 10 * 1073741824 + dg B3 V k) / 10 := short_q (by decide) (by decide)
        have hsr : (V / B3 ^ (k + 1) % 10 * 1073741824 + dg B3 V k) % 10 = V / B3 ^ k % 10 := short_r (by decide)
        have dq : dg B3 (V / 10) k < 1073741824 := dg_lt (by decide)
        refine j_M_tellsNumber_92 ?_
        rw [ej, M1.a3.1, show ((k + 1 : Nat) : Int) - 1 = (k : Int) by omega, gI_q (by omega) (by omega), Int.toNat_natCast, a1 k (by omega), iI_64 (rI_nat dk), lI_or30 (by omega) dk, iI_add]
        obtain ⟨U, hU⟩ : ∃ U, U = V / B3 ^ (k + 1) % 10 * 1073741824 + dg B3 V k := ⟨_, rfl⟩
        rw [← hU] at hsq hsr ⊢
        have hU1 : U < 10 * 1073741824 := by
          generalize V / B3 ^ (k + 1) % 10 = z at *
          omega
        rw [lI_rem (by omega) (by omega) (by omega) (by omega), lI_div (by omega) (by omega) (by omega) (by omega), lI_32]
        have q1 : (U : Int) / 10 = ((dg B3 (V / 10) k : Nat) : Int) := by
          rw [hsq]
          omega
        have q2 : (U : Int) % 10 = ((V / B3 ^ k % 10 : Nat) : Int) := by
          rw [← hsr]
          omega
        rw [q1, q2, iI_cl (by omega) (by omega), Int.toNat_natCast, show (k : Int) + (-1) = (k : Int) - 1 by omega, iI_0, iI_lt ⟨by omega, by omega⟩ ⟨by omega, by omega⟩]
        refine ⟨fun c => by omega, fun c => ⟨M1.1, ixL_of M1.a3.2 (by omega) (by omega) (by decide), M1.1, by decide, ix_of M1.a3.2 (by omega) (by omega) (by decide), by decide, ?_⟩⟩
        refine ihk _ (by omega) (f1.wr (by unfold tlS; omega)) (OU_fg O1 (S := fun p k => p = m + 2) (fg.rf.wr rfl) (fun p k z => by omega)) ?_ (fun i hi => ?_) (fun i hi hi2 => ?_)
        · rw [mI_sI (rI_nat dq), if_neg (fun z => by omega)]
          exact h61
        · rw [mI_sI (rI_nat dq), if_neg (fun z => by omega)]
          exact a1 i (by omega)
        · rw [mI_sI (rI_nat dq)]
          by_cases e : i = k
          · rw [if_pos ⟨rfl, e⟩, e]
          · rw [if_neg (fun z => e z.2)]
            exact a2 i (by omega) (by omega)
    refine j_M_tellsNumber_75 ?_
    rw [gI_mI g m 6, h6, iI_0, iI_le ⟨by omega, by omega⟩ ⟨by omega, by omega⟩, iI_sub]
    refine ⟨Mg.1, fun c => by omega, fun c => ⟨Mg.1, ?_⟩⟩
    have := l92 s g (Nat.le_refl s) f O h6 hk (fun i hi hi2 => by omega)
    rw [Nat.div_eq_of_lt hVs] at this
    exact this
theorem c_tellsNumber {a : Nat} {v : Int} (M : Mo m h) (na : NU m h a v) (O : OU m h l) (hs : sz B3 v.natAbs ≤ 398) (hl : l.length + sz 10 v.natAbs + 2 ≤ 1000) :
    jRet 182 0 0 [.ref m, .int (iI a)] h (tnQ m h (l ++ nT v)) := by
  have hna := na.1
  -- behind the sign
  have l28 : ∀ (g : jHp) (l1 : List Int), fg (tlS m) h g → OU m g l1 → l1.length + sz 10 v.natAbs ≤ 1000 → J 182 28 0 0 [.ref m, .int (iI a), uu, uu, uu, uu, uu, uu] [] g (tnQ m h (l1 ++ dT v.natAbs)) := by
    intro g l1 f O1 hl1
    have Mg := M.sk f.1
    refine j_M_tellsNumber_28 ⟨Mg.1, ?_⟩
    rw [gI_mI g m 27, O1.1]
    have l35 : ∀ (d k : Nat) (g1 : jHp), k + d = sz B3 v.natAbs → fg (tlS m) h g1 → OU m g1 l1 → (∀ j, j < k → mI g1 (m + 2) j = dg B3 v.natAbs j) → J 182 35 0 0 [.ref m, .int (iI a), .int (iI l1.length), .int (iI k), uu, uu, uu, uu] [] g1 (tnQ m h (l1 ++ dT v.natAbs)) := by
      intro d
      induction d with
      | zero =>
        intro k g1 hk f1 O2 hc
        obtain rfl : k = sz B3 v.natAbs := by omega
        have M1 := M.sk f1.1
        have n1 := nu_fg na f1 (fun k z => by unfold tlS at z; omega)
        refine j_M_tellsNumber_35 ⟨M1.1, jRet_mono (c_size M1 n1) ?_⟩
        intro v1 h1 q1
        obtain ⟨e1, e2⟩ := q1
        rw [e2]
        refine ⟨_, e1, fun _ => j_M_tellsNumber_66 ⟨M1.1, jRet_mono (c_size M1 n1) ?_⟩, fun c => absurd ((iI_le ⟨by omega, by omega⟩ ⟨by omega, by omega⟩).mpr (by omega)) c⟩
        intro v2 h2 q2
        obtain ⟨e3, e4⟩ := q2
        rw [e4]
        refine ⟨_, e3, M1.1, ?_⟩
        have := l_tn75 M (l := l1) hl1 hs v.natAbs v.natAbs 0 (sI g1 m 6 (iI (sz B3 v.natAbs))) (Nat.le_refl _) (by rw [Nat.pow_zero, Nat.div_one]) (Or.inl rfl) (f1.wr (by unfold tlS; omega)) (by rw [uD, List.append_nil]; exact OU_fg O2 (S := fun p k => p = m ∧ k = 6) (fg.rf.wr ⟨rfl, rfl⟩) (fun p k z => by omega)) ?_ (fun j hj => ?_)
        · exact this
        · rw [mI_sI ⟨by omega, by omega⟩, if_pos ⟨rfl, rfl⟩]
        · rw [mI_sI ⟨by omega, by omega⟩, if_neg (fun z => by omega)]
          exact hc j hj
      | succ d ih =>
        intro k g1 hk f1 O2 hc
        have M1 := M.sk f1.1
        have n1 := nu_fg na f1 (fun k z => by unfold tlS at z; omega)
        have t1 : dg B3 v.natAbs k < 1073741824 := dg_lt (by decide)
        refine j_M_tellsNumber_35 ⟨M1.1, jRet_mono (c_size M1 n1) ?_⟩
        intro v1 h1 q1
        obtain ⟨e1, e2⟩ := q1
        rw [e2]
        refine ⟨_, e1, fun c => ?_, fun c => ?_⟩
        · rw [iI_le ⟨by omega, by omega⟩ ⟨by omega, by omega⟩] at c
          omega
        · rw [M1.a3.1, M1.r1, iI_add, iI_add, iI_add, gI_at (by omega) (by omega), show ((a : Int) + 1 + (k : Int)).toNat = a + 1 + k by omega, n1.2.2 k (by omega), iI_cl (by omega) (by omega), Int.toNat_natCast]
          refine ⟨M1.1, M1.1, M1.ixL (by omega) (by omega), ix_of M1.a3.2 (by omega) (by omega) (by decide), ih (k + 1) _ (by omega) (f1.wr (by unfold tlS; omega)) (OU_fg O2 (S := fun p k => p = m + 2) (fg.rf.wr rfl) (fun p k z => by omega)) (fun j hj => ?_)⟩
          rw [mI_sI (rI_nat t1)]
          by_cases e : j = k
          · rw [if_pos ⟨rfl, e⟩, e]
          · rw [if_neg (fun z => e z.2)]
            exact hc j (by omega)
    exact l35 (sz B3 v.natAbs) 0 g (by omega) f O1 (fun j hj => by omega)
  have l14 : ∀ (g : jHp) (l1 : List Int), fg (tlS m) h g → OU m g l1 → l1.length + sz 10 v.natAbs + 1 ≤ 1000 → J 182 14 0 0 [.ref m, .int (iI a), uu, uu, uu, uu, uu, uu] [] g (tnQ m h (l1 ++ (if v = 0 then [48] else dT v.natAbs))) := by
    intro g l1 f O1 hl1
    have Mg := M.sk f.1
    have n1 := nu_fg na f (fun k z => by unfold tlS at z; omega)
    refine j_M_tellsNumber_14 ⟨Mg.1, jRet_mono (c_sign Mg n1) ?_⟩
    intro v1 h1 q1
    obtain ⟨e1, e2⟩ := q1
    rw [e2]
    refine ⟨_, e1, ?_⟩
    rw [iI_0, iI_eq (rI_sg v) ⟨by omega, by omega⟩, Int.sign_eq_zero_iff_zero]
    refine ⟨fun c => ?_, fun c => ⟨Mg.1, jRet_mono (c_tells0 Mg O1 (by omega) ⟨by omega, by omega⟩) ?_⟩⟩
    · rw [if_neg c]
      exact l28 g l1 f O1 (by omega)
    · intro v2 h2 q2
      obtain ⟨e3, e4, e5, e6⟩ := q2
      refine ⟨e3, ?_⟩
      have := l28 h2 (l1 ++ [48]) (f.tr e4) e5 (by rw [List.length_append, show ([48] : List Int).length = 1 from rfl]; omega)
      rw [if_pos c]
      have e0 : dT v.natAbs = [] := by
        rw [c]
        rfl
      rw [e0, List.append_nil] at this
      exact this
  refine jRet_of (by decide) (by decide) (Nat.le_of_ble_eq_true rfl) (j_M_tellsNumber_0 ⟨M.1, jRet_mono (c_sign M na) ?_⟩)
  intro v1 h1 q1
  obtain ⟨e1, e2⟩ := q1
  rw [e2]
  refine ⟨_, e1, ?_⟩
  have sg : 0 ≤ v.sign ↔ ¬ v < 0 := by
    rcases Int.lt_trichotomy v 0 with z | z | z
    · rw [Int.sign_eq_neg_one_of_neg z]
      omega
    · rw [z]
      decide
    · rw [Int.sign_eq_one_of_pos z]
      omega
  rw [iI_0, iI_le ⟨by omega, by omega⟩ (rI_sg v), sg]
  unfold nT
  refine ⟨fun c => ?_, fun c => ⟨M.1, jRet_mono (c_tells0 M O (by omega) ⟨by omega, by omega⟩) ?_⟩⟩
  · rw [if_neg c, List.nil_append]
    exact l14 h l fg.rf O (by omega)
  · intro v2 h2 q2
    obtain ⟨e3, e4, e5, e6⟩ := q2
    refine ⟨e3, ?_⟩
    rw [if_pos (Classical.not_not.mp c), ← List.append_assoc]
    exact l14 h2 (l ++ [45]) e4 e5 (by rw [List.length_append, show ([45] : List Int).length = 1 from rfl]; omega)
end TN
