/-! adding numbers of the model -/
/-- an operation's end: its answer z lies at the old top t -/
def RS (m : Nat) (h : jHp) (t : Nat) (z : Int) : jQ := fun r h' => r = some (.int (iI (t : Int))) ∧ fr m t h h' ∧ NU m h' t z ∧ mI h' m 2 = t + sz B3 z.natAbs + 1
theorem iI_mask (a : Int) : iI a &&& iI (jc 0 1073741823) = iI (a % 1073741824) := by
  rw [pk_and (iI a) (m := iI (jc 0 1073741823)) 30 (by decide), nI_iI]
  congr 1
  have e : (iI a).toBitVec.toNat = (a % 4294967296).toNat := by
    show (BitVec.ofInt 32 a).toNat = _
    rw [BitVec.toNat_ofInt]
    rfl
  rw [e]
  omega
theorem iI_ushr {a : Int} (h0 : 0 ≤ a) (h1 : a < 2147483648) : ((iI a).toUInt32 >>> ((iI 30).toUInt32 &&& Int32.toUInt32 31)).toInt32 = iI (a / 1073741824) := by
  have e : iI a = nI a.toNat := by rw [nI_iI]; congr 1; omega
  rw [e, pk_ushrN (by omega) (iI 30) 30 (by decide), nI_iI]
  congr 1
  omega
theorem add_car3 {X Y k : Nat} : car B3 X Y (k + 1) = (dg B3 X k + dg B3 Y k + car B3 X Y k) / 1073741824 := add_car (by decide)
theorem add_dg3 {X Y k : Nat} : dg B3 (X + Y) k = (dg B3 X k + dg B3 Y k + car B3 X Y k) % 1073741824 := add_dg (by decide)
section SAME
variable {m a b t : Nat} {h : jHp} {x y : Int}
/-- both of one sign: from behind the tests -/
theorem l_sum28 (M : Mo m h) (na : NU m h a x) (nb : NU m h b y) (ht : mI h m 2 = t) (ha : a + sz B3 x.natAbs < t) (hb : b + sz B3 y.natAbs < t) (hr : t + sz B3 x.natAbs + sz B3 y.natAbs + 3 < 400000) (hs : x.sign = y.sign) (hx : x ≠ 0)
    : J 170 28 0 0 [.ref m, .int (iI a), .int (iI b), uu, uu, uu, uu, uu, uu, uu, uu] [] h (RS m h t (x + y)) := by
  have s1 : rI x.sign := by
    rcases Int.lt_trichotomy x 0 with z | z | z
    · rw [Int.sign_eq_neg_one_of_neg z]
      exact ⟨by omega, by omega⟩
    · exact absurd z hx
    · rw [Int.sign_eq_one_of_pos z]
      exact ⟨by omega, by omega⟩
  refine j_M_sum_28 ⟨M.1, jRet_mono (c_sign M na) ?_⟩
  intro v1 h1 q1
  obtain ⟨e1, e2⟩ := q1
  rw [e2]
  refine ⟨_, e1, M.1, jRet_mono (c_sign M nb) ?_⟩
  intro v2 h2 q2
  obtain ⟨e3, e4⟩ := q2
  rw [e4]
  refine ⟨_, e3, fun c => absurd (by rw [hs]) c, fun _ => ⟨M.1, jRet_mono (c_size M na) ?_⟩⟩
  intro v3 h3 q3
  obtain ⟨e5, e6⟩ := q3
  rw [e6]
  refine ⟨_, e5, M.1, jRet_mono (c_size M nb) ?_⟩
  intro v4 h4 q4
  obtain ⟨e7, e8⟩ := q4
  rw [e8]
  generalize hX : x.natAbs = X at *
  generalize hY : y.natAbs = Y at *
  obtain ⟨n, hn, hn2⟩ : ∃ n : Nat, ((if iI (sz B3 X : Int) < iI (sz B3 Y : Int) then iI (sz B3 Y : Int) else iI (sz B3 X : Int)) + iI 1 = iI (n : Int)) ∧ n = (if sz B3 X < sz B3 Y then sz B3 Y else sz B3 X) + 1 := by
    refine ⟨_, ?_, rfl⟩
    by_cases c : sz B3 X < sz B3 Y
    · rw [if_pos ((iI_lt ⟨by omega, by omega⟩ ⟨by omega, by omega⟩).mpr (by omega)), if_pos c, iI_add]
      rfl
    · rw [if_neg (fun z => c (by have := (iI_lt ⟨by omega, by omega⟩ ⟨by omega, by omega⟩).mp z; omega)), if_neg c, iI_add]
      rfl
  have hn3 : n ≤ sz B3 X + sz B3 Y + 1 ∧ sz B3 X < n ∧ sz B3 Y < n := by split at hn2 <;> omega
  refine ⟨_, e7, M.1, ?_⟩
  rw [hn]
  refine jRet_mono (c_room M ht) ?_
  intro v5 h5 q5
  obtain ⟨e9, e10⟩ := q5
  rw [e10]
  refine ⟨_, e9, ?_⟩
  have f0 : fr m t h (sI h m 2 (iI ((t : Int) + n + 1))) := fr.rf.wt
  generalize sI h m 2 (iI ((t : Int) + n + 1)) = g0 at f0
  have hw : X + Y < B3 ^ n := by
    have h1 : X < B3 ^ (n - 1) := (sz_le (by decide)).mp (by omega)
    have h2 : Y < B3 ^ (n - 1) := (sz_le (by decide)).mp (by omega)
    have h3 : B3 ^ n = B3 ^ (n - 1) * B3 := by rw [← Nat.pow_succ]; congr 1; omega
    have h4 : B3 ^ (n - 1) * 2 ≤ B3 ^ (n - 1) * B3 := Nat.mul_le_mul_left _ (by decide)
    omega
  -- behind the loop
  have l156 : ∀ g : jHp, fr m t h g → (∀ j, j < n → mm g m (t + 1 + j) = dg B3 (X + Y) j) → J 170 156 0 0 [.ref m, .int (iI a), uu, .int (iI (n : Int)), .int (iI (t : Int)), uu, uu, uu, uu, uu, uu] [] g (RS m h t (x + y)) := by
    intro g f hl
    have Mg := M.sk f.1
    have fin : ∀ bl : Int, (bl = 0 ∧ 0 ≤ x ∨ bl = 1 ∧ x < 0) → J 170 173 0 0 [uu, uu, uu, uu, uu, uu, uu, uu, uu, uu, uu] [.int (iI bl), .int (iI (n : Int)), .int (iI (t : Int)), .ref m] g (RS m h t (x + y)) := by
      intro bl hbl
      refine j_M_sum_173 ⟨Mg.1, jRet_mono (c_done (n := n) (w := X + Y) Mg (by omega) (by omega) hw hl) ?_⟩
      intro v6 h6 q6
      obtain ⟨e11, f6, n6, t6⟩ := q6
      have hv : (if bl = 0 then ((X + Y : Nat) : Int) else -((X + Y : Nat) : Int)) = x + y := by
        rcases hbl with ⟨u1, u2⟩ | ⟨u1, u2⟩
        · rw [if_pos u1]
          have := Int.sign_nonneg_iff.mp (by rw [← hs]; exact Int.sign_nonneg_iff.mpr u2)
          omega
        · rw [if_neg (by omega)]
          have hy : y.sign = -1 := by rw [← hs]; exact Int.sign_eq_neg_one_of_neg u2
          have := Int.sign_eq_neg_one_iff_neg.mp hy
          omega
      rw [hv] at n6
      have hna : (x + y).natAbs = X + Y := by split at hv <;> omega
      refine ⟨_, e11, rfl, f.tr f6 (Nat.le_refl t), n6, ?_⟩
      rw [t6, hna]
    refine j_M_sum_156 ⟨Mg.1, jRet_mono (c_sign Mg (f.nu na (by rw [hX]; exact ha))) ?_⟩
    intro v7 h7 q7
    obtain ⟨e12, e13⟩ := q7
    rw [e13]
    refine ⟨_, e12, fun c => ?_, fun c => ?_⟩
    · rw [iI_0, iI_le ⟨by omega, by omega⟩ s1] at c
      exact j_M_sum_172 (fin 0 (Or.inl ⟨rfl, Int.sign_nonneg_iff.mp c⟩))
    · rw [iI_0, iI_le ⟨by omega, by omega⟩ s1] at c
      refine fin 1 (Or.inr ⟨rfl, ?_⟩)
      rcases Int.lt_or_le x 0 with z | z
      · exact z
      · exact absurd (Int.sign_nonneg_iff.mpr z) c
  have loop : ∀ (d k : Nat) (g : jHp), k + d = n → fr m t h g → (∀ j, j < k → mm g m (t + 1 + j) = dg B3 (X + Y) j) → J 170 70 0 0 [.ref m, .int (iI a), .int (iI b), .int (iI (n : Int)), .int (iI (t : Int)), .int (iI (car B3 X Y k : Int)), .int (iI ((k : Int) + 1)), uu, uu, uu, uu] [] g (RS m h t (x + y)) := by
    intro d
    induction d with
    | zero =>
      intro k g hk f hl
      obtain rfl : k = n := by omega
      refine j_M_sum_70 ⟨fun c => l156 g f hl, fun c => absurd ((iI_lt ⟨by omega, by omega⟩ ⟨by omega, by omega⟩).mpr (by omega)) c⟩
    | succ d ih =>
      intro k g hk f hl
      have Mg := M.sk f.1
      have nga := f.nu na (by rw [hX]; exact ha)
      have ngb := f.nu nb (by rw [hY]; exact hb)
      have hc := car_le (B := B3) (x := X) (y := Y) (k := k) (by decide)
      have dx : dg B3 X k < 1073741824 := dg_lt (by decide)
      have dy : dg B3 Y k < 1073741824 := dg_lt (by decide)
      have l125 : J 170 125 0 0 [.ref m, .int (iI a), .int (iI b), .int (iI (n : Int)), .int (iI (t : Int)), uu, .int (iI ((k : Int) + 1)), uu, uu, uu, uu] [.int (iI (dg B3 Y k : Int)), .int (iI ((car B3 X Y k : Int) + dg B3 X k))] g (RS m h t (x + y)) := by
        refine j_M_sum_125 ?_
        rw [Mg.r1]
        simp only [iI_add, iI_mask]
        rw [iI_ushr (by omega) (by omega), iI_cl (by omega) (by omega), show ((t : Int) + ((k : Int) + 1)).toNat = t + 1 + k by omega]
        have c1 : ((car B3 X Y k : Int) + dg B3 X k + dg B3 Y k) / 1073741824 = (car B3 X Y (k + 1) : Nat) := by
          rw [add_car3]
          omega
        have c2 : ((car B3 X Y k : Int) + dg B3 X k + dg B3 Y k) % 1073741824 = (dg B3 (X + Y) k : Nat) := by
          rw [add_dg3]
          omega
        rw [c1, c2]
        have dz : dg B3 (X + Y) k < 1073741824 := dg_lt (by decide)
        refine ⟨Mg.1, Mg.ix (by omega) (by omega), ?_⟩
        have := ih (k + 1) _ (by omega) (f.wm (k := t + 1 + k) (v := iI (dg B3 (X + Y) k : Nat)) (by omega)) (fun j hj => ?_)
        · exact this
        · rw [mm_sI ⟨by omega, by omega⟩]
          by_cases e : j = k
          · rw [if_pos (by omega), e]
          · rw [if_neg (by omega)]
            exact hl j (by omega)
      have l101 : J 170 101 0 0 [.ref m, .int (iI a), .int (iI b), .int (iI (n : Int)), .int (iI (t : Int)), uu, .int (iI ((k : Int) + 1)), uu, uu, uu, uu] [.int (iI (dg B3 X k : Int)), .int (iI (car B3 X Y k : Int))] g (RS m h t (x + y)) := by
        refine j_M_sum_101 ⟨Mg.1, jRet_mono (c_size Mg ngb) ?_⟩
        intro v8 h8 q8
        obtain ⟨e14, e15⟩ := q8
        rw [e15]
        rw [hY] at e14
        refine ⟨_, e14, fun c => ?_, fun c => ?_⟩
        · rw [iI_lt ⟨by omega, by omega⟩ ⟨by omega, by omega⟩] at c
          rw [iI_add]
          refine j_M_sum_124 ?_
          rw [dg_high (B := B3) (by decide) (show sz B3 Y ≤ k by omega)] at l125
          exact l125
        · rw [iI_lt ⟨by omega, by omega⟩ ⟨by omega, by omega⟩] at c
          rw [Mg.r1, iI_add, iI_add, gI_at (by omega) (by omega), show ((b : Int) + ((k : Int) + 1)).toNat = b + 1 + k by omega, ngb.2.2 k (by rw [hY]; omega), hY]
          exact ⟨Mg.1, Mg.ixL (by omega) (by omega), l125⟩
      refine j_M_sum_70 ⟨fun c => ?_, fun c => ⟨Mg.1, jRet_mono (c_size Mg nga) ?_⟩⟩
      · rw [iI_lt ⟨by omega, by omega⟩ ⟨by omega, by omega⟩] at c
        omega
      · intro v9 h9 q9
        obtain ⟨e16, e17⟩ := q9
        rw [e17]
        rw [hX] at e16
        refine ⟨_, e16, fun c2 => ?_, fun c2 => ?_⟩
        · rw [iI_lt ⟨by omega, by omega⟩ ⟨by omega, by omega⟩] at c2
          refine j_M_sum_100 ?_
          rw [dg_high (B := B3) (by decide) (show sz B3 X ≤ k by omega)] at l101
          exact l101
        · rw [iI_lt ⟨by omega, by omega⟩ ⟨by omega, by omega⟩] at c2
          rw [Mg.r1, iI_add, gI_at (by omega) (by omega), show ((a : Int) + ((k : Int) + 1)).toNat = a + 1 + k by omega, nga.2.2 k (by rw [hX]; omega), hX]
          exact ⟨Mg.1, Mg.ixL (by omega) (by omega), l101⟩
  have := loop n 0 g0 (by omega) f0 (fun j hj => by omega)
  rw [car_0] at this
  exact this
end SAME
