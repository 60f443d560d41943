/-! divideShort: what lies in left is divided by d -/
theorem Mo.a3 {m : Nat} {h : jHp} (M : Mo m h) : gR h m 3 = m + 2 ∧ jz h (m + 2) = (10, 400) := M.2 (3, 2, 400) (by decide)
theorem Mo.a4 {m : Nat} {h : jHp} (M : Mo m h) : gR h m 4 = m + 3 ∧ jz h (m + 3) = (10, 400) := M.2 (4, 3, 400) (by decide)
theorem Mo.a5 {m : Nat} {h : jHp} (M : Mo m h) : gR h m 5 = m + 4 ∧ jz h (m + 4) = (10, 400) := M.2 (5, 4, 400) (by decide)
theorem ix_of {h : jHp} {p n : Nat} {a : Int} (z : jz h p = (10, n)) (h0 : 0 ≤ a) (h1 : a < n) (hn : (n : Int) ≤ 2147483648) : ix h p 10 (iI a) := ⟨by rw [z], by rw [z]; exact iI_in h0 h1 hn⟩
theorem ixL_of {h : jHp} {p n : Nat} {a : Int} (z : jz h p = (10, n)) (h0 : 0 ≤ a) (h1 : a < n) (hn : (n : Int) ≤ 2147483648) : ixL h p (iI a) := ⟨Or.inl (by rw [z]), by rw [z]; exact iI_in h0 h1 hn⟩
/-- what a division may change -/
def fd (m : Nat) (h h' : jHp) : Prop := sk h h' ∧ ∀ q k, q ≠ m + 2 → q ≠ m + 3 → q ≠ m + 4 → ¬ (q = m ∧ (k = 6 ∨ k = 7)) → gI h' q k = gI h q k
theorem fd.rf {m : Nat} {h : jHp} : fd m h h := ⟨sk.rf, fun _ _ _ _ _ _ => rfl⟩
theorem fd.wq {m k p : Nat} {h h' : jHp} {v : Int32} (f : fd m h h') (hp : p = m + 2 ∨ p = m + 3 ∨ p = m + 4) : fd m h (sI h' p k v) := ⟨f.1.sI, fun q j a b c d => by rw [gI_sI, if_neg (fun z => by omega)]; exact f.2 q j a b c d⟩
theorem fd.wf {m k : Nat} {h h' : jHp} {v : Int32} (f : fd m h h') (hk : k = 6 ∨ k = 7) : fd m h (sI h' m k v) := ⟨f.1.sI, fun q j a b c d => by rw [gI_sI, if_neg (fun z => d ⟨z.1, by omega⟩)]; exact f.2 q j a b c d⟩
def LF (m : Nat) (h : jHp) (n v : Nat) : Prop := mI h m 6 = n ∧ n ≤ 399 ∧ v < B3 ^ n ∧ ∀ k, k < n → mI h (m + 2) k = dg B3 v k
def QF (m : Nat) (h : jHp) (v : Nat) : Prop := mI h m 7 = sz B3 v ∧ ∀ k, k < sz B3 v → mI h (m + 4) k = dg B3 v k
theorem lg_0 {r : Nat} (hr : r < 9223372036854775808) : lg_cmp (lI (r : Int)) (lI ((0 : Nat) : Int)) = 0 ↔ r = 0 := by
  by_cases e : r = 0
  · subst e
    exact ⟨fun _ => rfl, fun _ => by decide⟩
  · refine ⟨fun c => ?_, fun c => absurd c e⟩
    have h1 := (lg_cmp_le (lI (r : Int)) (lI ((0 : Nat) : Int))).mp (by rw [c]; decide)
    rw [lI_le ⟨by omega, by omega⟩ ⟨by omega, by omega⟩] at h1
    omega
theorem c_divideShort {m n v d : Nat} {h : jHp} (M : Mo m h) (F : LF m h n v) (hn1 : 1 ≤ n) (hd0 : 0 < d) (hd1 : d < 1073741824) :
    jRet 174 0 0 [.ref m, .int (iI d)] h (fun r h' => r = none ∧ fd m h h' ∧ QF m h' (v / d) ∧ LF m h' (if v % d = 0 then 0 else 1) (v % d)) := by
  obtain ⟨F1, F2, F3, F4⟩ := F
  have hvd : v / d < B3 ^ n := Nat.lt_of_le_of_lt (Nat.div_le_self v d) F3
  have hrd : v % d < d := Nat.mod_lt v hd0
  have hd64 : (iI (d : Int)).toInt64 = lI (d : Int) := iI_64 ⟨by omega, by omega⟩
  have hdn : ¬ lI (d : Int) = 0 := by
    rw [lI_0, lI_eq ⟨by omega, by omega⟩ ⟨by omega, by omega⟩]
    omega
  -- the rest is written
  have l97 : ∀ g : jHp, fd m h g → mI g m 7 = sz B3 (v / d) → (∀ k, k < n → mI g (m + 4) k = dg B3 (v / d) k) → J 174 97 0 0 [.ref m, uu, .long (lI ((v % d : Nat) : Int)), uu, uu, uu, uu] [] g (fun r h' => r = none ∧ fd m h h' ∧ QF m h' (v / d) ∧ LF m h' (if v % d = 0 then 0 else 1) (v % d)) := by
    intro g f hq hl
    have Mg := M.sk f.1
    have hsz := (sz_le (B := B3) (v := v / d) (n := n) (by decide)).mpr hvd
    have fin : ∀ s : Nat, s = (if v % d = 0 then 0 else 1) → J 174 117 0 0 [uu, uu, uu, uu, uu, uu, uu] [.int (iI (s : Int)), .ref m] (sI g (m + 2) 0 (iI ((v % d : Nat) : Int))) (fun r h' => r = none ∧ fd m h h' ∧ QF m h' (v / d) ∧ LF m h' (if v % d = 0 then 0 else 1) (v % d)) := by
      intro s hs
      have s1 : s ≤ 1 := by rw [hs]; split <;> omega
      refine j_M_divideShort_117 ⟨Mg.1, rfl, (f.wq (Or.inl rfl)).wf (Or.inl rfl), ⟨?_, fun k hk => ?_⟩, ⟨?_, ?_, ?_, fun k hk => ?_⟩⟩
      · rw [mI_sI ⟨by omega, by omega⟩, if_neg (fun z => by omega), mI_sI ⟨by omega, by omega⟩, if_neg (fun z => by omega)]
        exact hq
      · rw [mI_sI ⟨by omega, by omega⟩, if_neg (fun z => by omega), mI_sI ⟨by omega, by omega⟩, if_neg (fun z => by omega)]
        exact hl k (by omega)
      · rw [mI_sI ⟨by omega, by omega⟩, if_pos ⟨rfl, rfl⟩, hs]
      · rw [← hs]
        omega
      · by_cases c : v % d = 0
        · rw [if_pos c, c]
          decide
        · rw [if_neg c, Nat.pow_one]
          have : v % d < 1073741824 := by omega
          exact this
      · rw [← hs] at hk
        obtain rfl : k = 0 := by omega
        rw [mI_sI ⟨by omega, by omega⟩, if_neg (fun z => by omega), mI_sI ⟨by omega, by omega⟩, if_pos ⟨rfl, rfl⟩]
        unfold dg
        rw [Nat.pow_zero, Nat.div_one, Nat.mod_eq_of_lt (show v % d < B3 from Nat.lt_trans hrd hd1)]
    refine j_M_divideShort_97 ?_
    rw [Mg.a3.1, lI_32, lg_0 (by omega), iI_cl (by omega) (by omega)]
    refine ⟨Mg.1, ix_of Mg.a3.2 (by omega) (by omega) (by decide), fun c => j_M_divideShort_116 ?_, fun c => ?_⟩
    · exact fin 1 (by rw [if_neg c])
    · exact fin 0 (by rw [if_pos c])
  -- the quotient's count
  have l63 : ∀ (q : Nat) (g : jHp), q ≤ n → fd m h g → mI g m 7 = q → v / d < B3 ^ q → (∀ k, k < n → mI g (m + 4) k = dg B3 (v / d) k) → J 174 63 0 0 [.ref m, uu, .long (lI ((v % d : Nat) : Int)), uu, uu, uu, uu] [] g (fun r h' => r = none ∧ fd m h h' ∧ QF m h' (v / d) ∧ LF m h' (if v % d = 0 then 0 else 1) (v % d)) := by
    intro q
    induction q with
    | zero =>
      intro g hqn f hq hv hl
      have Mg := M.sk f.1
      refine j_M_divideShort_63 ?_
      rw [gI_mI, hq, iI_0, iI_le ⟨by omega, by omega⟩ ⟨by omega, by omega⟩]
      refine ⟨Mg.1, fun _ => l97 g f ?_ hl, fun c => absurd (by omega) c⟩
      rw [hq, sz_eq (B := B3) (k := 0) (by decide) hv (Or.inl rfl)]
    | succ q ih =>
      intro g hqn f hq hv hl
      have Mg := M.sk f.1
      refine j_M_divideShort_63 ?_
      rw [gI_mI g m 7, hq, Mg.a5.1]
      simp only [iI_sub]
      have dq : dg B3 (v / d) q < 1073741824 := dg_lt (by decide)
      rw [show ((q + 1 : Nat) : Int) - 1 = (q : Int) by omega, gI_q (by omega) (by omega), Int.toNat_natCast, hl q (by omega), iI_0, iI_le ⟨by omega, by omega⟩ ⟨by omega, by omega⟩, iI_eq ⟨by omega, by omega⟩ ⟨by omega, by omega⟩]
      refine ⟨Mg.1, fun c => by omega, fun c => ⟨Mg.1, Mg.1, ixL_of Mg.a5.2 (by omega) (by omega) (by decide), fun c2 => ?_, fun c2 => ⟨Mg.1, Mg.1, ?_⟩⟩⟩
      · refine l97 g f ?_ hl
        rw [hq, sz_eq (B := B3) (k := q + 1) (by decide) hv (Or.inr (by rw [Nat.add_sub_cancel]; omega))]
      · refine ih _ (by omega) (f.wf (Or.inr rfl)) ?_ (lt_down (by decide) hv (by omega)) (fun k hk => ?_)
        · rw [mI_sI ⟨by omega, by omega⟩, if_pos ⟨rfl, rfl⟩]
        · rw [mI_sI ⟨by omega, by omega⟩, if_neg (fun z => by omega)]
          exact hl k hk
  -- the limbs, from the top
  have l10 : ∀ (k : Nat) (g : jHp), k ≤ n → fd m h g → mI g m 6 = n → (∀ j, j < n → mI g (m + 2) j = dg B3 v j) → (∀ j, k ≤ j → j < n → mI g (m + 4) j = dg B3 (v / d) j) → J 174 10 0 0 [.ref m, .int (iI (d : Int)), .long (lI ((v / B3 ^ k % d : Nat) : Int)), uu, .int (iI ((k : Int) - 1)), uu, uu] [] g (fun r h' => r = none ∧ fd m h h' ∧ QF m h' (v / d) ∧ LF m h' (if v % d = 0 then 0 else 1) (v % d)) := by
    intro k
    induction k with
    | zero =>
      intro g hk f h6 hlf hqf
      have Mg := M.sk f.1
      rw [Nat.pow_zero, Nat.div_one]
      refine j_M_divideShort_10 ⟨fun _ => j_M_divideShort_55 ⟨Mg.1, Mg.1, ?_⟩, fun c => absurd ((by rw [iI_0]; exact (iI_lt ⟨by omega, by omega⟩ ⟨by omega, by omega⟩).mpr (by omega))) c⟩
      rw [gI_mI, h6]
      refine l63 n _ (Nat.le_refl n) (f.wf (Or.inr rfl)) ?_ hvd (fun j hj => ?_)
      · rw [mI_sI ⟨by omega, by omega⟩, if_pos ⟨rfl, rfl⟩]
      · rw [mI_sI ⟨by omega, by omega⟩, if_neg (fun z => by omega)]
        exact hqf j (by omega) hj
    | succ k ih =>
      intro g hk f h6 hlf hqf
      have Mg := M.sk f.1
      have hr0 : v / B3 ^ (k + 1) % d < d := Nat.mod_lt _ hd0
      have dk : dg B3 v k < 1073741824 := dg_lt (by decide)
      have hs : dg B3 (v / d) k = (v / B3 ^ (k + 1) % d * 1073741824 + dg B3 v k) / d := short_q (by decide) hd0
      have hr : (v / B3 ^ (k + 1) % d * 1073741824 + dg B3 v k) % d = v / B3 ^ k % d := short_r hd0
      have dq : dg B3 (v / d) k < 1073741824 := dg_lt (by decide)
      refine j_M_divideShort_10 ?_
      rw [Mg.a3.1, Mg.a5.1, hd64, show ((k + 1 : Nat) : Int) - 1 = (k : Int) by omega, gI_q (by omega) (by omega), Int.toNat_natCast, hlf k (by omega), iI_64 (a := (dg B3 v k : Int)) ⟨by omega, by omega⟩, lI_or30 (by omega) dk, iI_add]
      obtain ⟨V, hV⟩ : ∃ V, V = v / B3 ^ (k + 1) % d * 1073741824 + dg B3 v k := ⟨_, rfl⟩
      rw [← hV] at hs hr ⊢
      have hV1 : V < 1073741824 * 1073741824 := by omega
      rw [lI_rem (by omega) (by omega) (by omega) (by omega), lI_div (by omega) (by omega) (by omega) (by omega), lI_32]
      have q1 : (V : Int) / (d : Int) = ((dg B3 (v / d) k : Nat) : Int) := by rw [hs, Int.natCast_ediv]
      have q2 : (V : Int) % (d : Int) = ((v / B3 ^ k % d : Nat) : Int) := by rw [← hr, Int.natCast_emod]
      rw [q1, q2, iI_cl (by omega) (by omega), Int.toNat_natCast, show (k : Int) + (-1) = (k : Int) - 1 by omega]
      refine ⟨fun c => ?_, fun c => ⟨Mg.1, ixL_of Mg.a3.2 (by omega) (by omega) (by decide), Mg.1, hdn, ix_of Mg.a5.2 (by omega) (by omega) (by decide), hdn, ?_⟩⟩
      · rw [iI_0, iI_lt ⟨by omega, by omega⟩ ⟨by omega, by omega⟩] at c
        omega
      · refine ih _ (by omega) (f.wq (Or.inr (Or.inr rfl))) ?_ (fun j hj => ?_) (fun j hj hj2 => ?_)
        · rw [mI_sI ⟨by omega, by omega⟩, if_neg (fun z => by omega)]
          exact h6
        · rw [mI_sI ⟨by omega, by omega⟩, if_neg (fun z => by omega)]
          exact hlf j hj
        · rw [mI_sI ⟨by omega, by omega⟩]
          by_cases e : j = k
          · rw [if_pos ⟨rfl, e⟩, e]
          · rw [if_neg (fun z => e z.2)]
            exact hqf j (by omega) hj2
  refine jRet_of (by decide) (by decide) (Nat.le_of_ble_eq_true rfl) (j_M_divideShort_0 ⟨M.1, ?_⟩)
  rw [gI_mI, F1, iI_sub]
  have := l10 n h (Nat.le_refl n) fd.rf F1 F4 (fun j hj hj2 => by omega)
  rw [Nat.div_eq_of_lt F3, Nat.zero_mod] at this
  exact this
