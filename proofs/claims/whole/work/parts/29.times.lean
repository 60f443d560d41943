/-! times(a, b) -/
theorem gI_64 {h : jHp} {m : Nat} {a : Int} (h0 : 0 ≤ a) (h1 : a < 2147483648) : (gI h (m + 1) (iI a).toNatClampNeg).toInt64 = lI (mm h m a.toNat) := by
  rw [gI_at h0 h1]
  exact iI_64 (rI_mI h (m + 1) a.toNat)
theorem lI_lo {v : Int} (h0 : 0 ≤ v) (h1 : v < 9223372036854775808) : (lI v &&& lI (jc 0 1073741823)).toInt32 = iI (v % 1073741824) := by
  rw [lI_mask (b := jc 0 1073741823) 30 h0 h1 (by decide) (by decide), lI_32]
  rfl
theorem lI_hi {v : Int} (h0 : 0 ≤ v) (h1 : v < 9223372036854775808) : ((lI v).toUInt64 >>> ((iI 30).toInt64.toUInt64 &&& Int64.toUInt64 63)).toInt64 = lI (v / 1073741824) := by
  have h30 := lI_ushr (a := v) 30 h0 h1 (by decide)
  exact h30
theorem rI_nat {z : Nat} (h : z < 1073741824) : rI (z : Int) := ⟨by omega, by omega⟩
theorem acc_dg3 {u w n : Nat} : dg B3 (u + w * B3 ^ n) n = (u / B3 ^ n + w) % 1073741824 := acc_dg (by decide)
theorem acc_car3 {u w n : Nat} : (u + w * B3 ^ n) / B3 ^ (n + 1) = (u / B3 ^ n + w) / 1073741824 := acc_car (by decide)
theorem c_times {m a b t : Nat} {h : jHp} {x y : Int} (M : Mo m h) (na : NU m h a x) (nb : NU m h b y) (ht : mI h m 2 = t) (ha : a + sz B3 x.natAbs < t) (hb : b + sz B3 y.natAbs < t) (hr : t + sz B3 x.natAbs + sz B3 y.natAbs + 4 < 400000) :
    jRet 164 0 0 [.ref m, .int (iI a), .int (iI b)] h (RS m h t (x * y)) := by
  have sg : ∀ z : Int, rI z.sign := by
    intro z
    rcases Int.lt_trichotomy z 0 with c | c | c
    · rw [Int.sign_eq_neg_one_of_neg c]
      exact ⟨by omega, by omega⟩
    · rw [c]
      exact ⟨by decide, by decide⟩
    · rw [Int.sign_eq_one_of_pos c]
      exact ⟨by omega, by omega⟩
  have s0 : ∀ z : Int, z.sign = 0 ↔ z = 0 := fun z => Int.sign_eq_zero_iff_zero
  have l16 : x * y = 0 → J 164 16 0 0 [.ref m, uu, uu, uu, uu, uu, uu, uu, uu, uu, uu, uu] [] h (RS m h t (x * y)) := by
    intro hz
    refine j_M_times_16 ⟨M.1, jRet_mono (c_whole (x := ((0 : Nat) : Int)) M ⟨by decide, by decide⟩ ht (by omega)) ?_⟩
    intro v2 h2 q2
    obtain ⟨e3, f3, n3, t3⟩ := q2
    refine ⟨_, e3, rfl, f3, ?_, ?_⟩
    · rw [hz]
      exact n3
    · rw [hz]
      exact t3
  obtain ⟨X, hX⟩ : ∃ X, x.natAbs = X := ⟨_, rfl⟩
  obtain ⟨Y, hY⟩ : ∃ Y, y.natAbs = Y := ⟨_, rfl⟩
  obtain ⟨n, hn⟩ : ∃ n, sz B3 X = n := ⟨_, rfl⟩
  obtain ⟨l, hl0⟩ : ∃ l, sz B3 Y = l := ⟨_, rfl⟩
  rw [hX, hn] at ha hr
  rw [hY, hl0] at hb hr
  have hw : X * Y < B3 ^ (n + l) := by
    rw [Nat.pow_add, ← hn, ← hl0]
    exact Nat.mul_lt_mul'' (sz_lt (by decide)) (sz_lt (by decide))
  -- the end
  have l200 : ∀ g : jHp, fr m t h g → (∀ j, j < n + l → mm g m (t + 1 + j) = dg B3 (X * Y) j) → x ≠ 0 → y ≠ 0 → J 164 200 0 0 [.ref m, .int (iI a), .int (iI b), .int (iI (n : Int)), .int (iI (l : Int)), .int (iI (t : Int)), uu, uu, uu, uu, uu, uu] [] g (RS m h t (x * y)) := by
    intro g f hl hx hy
    have Mg := M.sk f.1
    have nga := f.nu na (by rw [hX, hn]; exact ha)
    have ngb := f.nu nb (by rw [hY, hl0]; exact hb)
    have hna : (x * y).natAbs = X * Y := by rw [Int.natAbs_mul, hX, hY]
    have fin : ∀ bl : Int, (bl = 0 ∧ 0 ≤ x * y ∨ bl = 1 ∧ x * y < 0) → J 164 225 0 0 [uu, uu, uu, uu, uu, uu, uu, uu, uu, uu, uu, uu] [.int (iI bl), .int (iI (n : Int) + iI (l : Int)), .int (iI (t : Int)), .ref m] g (RS m h t (x * y)) := by
      intro bl hbl
      rw [iI_add, ← Int.natCast_add]
      refine j_M_times_225 ⟨Mg.1, jRet_mono (c_done (n := n + l) (w := X * Y) Mg (by omega) (by omega) hw hl) ?_⟩
      intro v6 h6 q6
      obtain ⟨e11, f6, n6, t6⟩ := q6
      have hv : (if bl = 0 then ((X * Y : Nat) : Int) else -((X * Y : Nat) : Int)) = x * y := by
        rw [← hna]
        rcases hbl with ⟨u1, u2⟩ | ⟨u1, u2⟩
        · rw [if_pos u1]
          omega
        · rw [if_neg (by omega)]
          omega
      rw [hv] at n6
      refine ⟨_, e11, rfl, f.tr f6 (Nat.le_refl t), n6, ?_⟩
      rw [t6, hna]
    refine j_M_times_200 ⟨Mg.1, jRet_mono (c_sign Mg nga) ?_⟩
    intro v7 h7 q7
    obtain ⟨e12, e13⟩ := q7
    rw [e13]
    refine ⟨_, e12, Mg.1, jRet_mono (c_sign Mg ngb) ?_⟩
    intro v8 h8 q8
    obtain ⟨e14, e15⟩ := q8
    rw [e15]
    refine ⟨_, e14, fun c => ?_, fun c => ?_⟩
    · rw [iI_eq (sg x) (sg y)] at c
      refine j_M_times_224 (fin 0 (Or.inl ⟨rfl, ?_⟩))
      rcases Int.lt_trichotomy x 0 with u | u | u
      · have hy2 : y < 0 := Int.sign_eq_neg_one_iff_neg.mp (by rw [← c]; exact Int.sign_eq_neg_one_of_neg u)
        exact Int.le_of_lt (Int.mul_pos_of_neg_of_neg u hy2)
      · exact absurd u hx
      · have hy2 : 0 < y := Int.sign_eq_one_iff_pos.mp (by rw [← c]; exact Int.sign_eq_one_of_pos u)
        exact Int.le_of_lt (Int.mul_pos u hy2)
    · rw [iI_eq (sg x) (sg y)] at c
      refine fin 1 (Or.inr ⟨rfl, ?_⟩)
      rcases Int.lt_trichotomy x 0 with u | u | u
      · rcases Int.lt_trichotomy y 0 with w | w | w
        · exact absurd ((Int.sign_eq_neg_one_of_neg u).trans (Int.sign_eq_neg_one_of_neg w).symm) c
        · exact absurd w hy
        · exact Int.mul_neg_of_neg_of_pos u w
      · exact absurd u hx
      · rcases Int.lt_trichotomy y 0 with w | w | w
        · exact Int.mul_neg_of_pos_of_neg u w
        · exact absurd w hy
        · exact absurd ((Int.sign_eq_one_of_pos u).trans (Int.sign_eq_one_of_pos w).symm) c
  -- the rows
  have l77 : x ≠ 0 → y ≠ 0 → ∀ (d i : Nat) (g : jHp), i + d = n → fr m t h g → (∀ j, j < n + l → mm g m (t + 1 + j) = dg B3 (X % B3 ^ i * Y) j) → J 164 77 0 0 [.ref m, .int (iI a), .int (iI b), .int (iI (n : Int)), .int (iI (l : Int)), .int (iI (t : Int)), .int (iI ((i : Int) + 1)), uu, uu, uu, uu, uu] [] g (RS m h t (x * y)) := by
    intro hx hy d
    induction d with
    | zero =>
      intro i g hi f hl
      obtain rfl : i = n := by omega
      rw [mod_big (by decide) (Nat.le_of_eq hn)] at hl
      refine j_M_times_77 ⟨fun c => l200 g f hl hx hy, fun c => absurd ((iI_lt ⟨by omega, by omega⟩ ⟨by omega, by omega⟩).mpr (by omega)) c⟩
    | succ d ih =>
      intro i g hi f hl
      have Mg := M.sk f.1
      have nga := f.nu na (by rw [hX, hn]; exact ha)
      have hT : dg B3 X i < 1073741824 := dg_lt (by decide)
      -- within a row
      have l101 : ∀ (e k : Nat) (g1 : jHp), k + e = l → fr m t h g1 → (∀ j, j < i + k → mm g1 m (t + 1 + j) = dg B3 (mU B3 (X % B3 ^ i * Y) (dg B3 X i) Y i k) j) → (∀ j, i + k ≤ j → j < n + l → mm g1 m (t + 1 + j) = dg B3 (X % B3 ^ i * Y) j) → J 164 101 0 0 [.ref m, .int (iI a), .int (iI b), .int (iI (n : Int)), .int (iI (l : Int)), .int (iI (t : Int)), .int (iI ((i : Int) + 1)), .long (lI ((mU B3 (X % B3 ^ i * Y) (dg B3 X i) Y i k / B3 ^ (i + k) : Nat) : Int)), uu, .long (lI (dg B3 X i : Int)), uu, .int (iI ((k : Int) + 1))] [] g1 (RS m h t (x * y)) := by
        intro e
        induction e with
        | zero =>
          intro k g1 hk f1 hlo hhi
          obtain rfl : k = l := by omega
          have M1 := M.sk f1.1
          have hc : mU B3 (X % B3 ^ i * Y) (dg B3 X i) Y i k / B3 ^ (i + k) < 1073741824 := mU_lt (by decide) hT
          refine j_M_times_101 ⟨fun _ => ?_, fun c => absurd ((iI_lt ⟨by omega, by omega⟩ ⟨by omega, by omega⟩).mpr (by omega)) c⟩
          refine j_M_times_178 ?_
          rw [M1.r1]
          simp only [iI_add, lI_32]
          rw [iI_cl (by omega) (by omega), show ((t : Int) + ((i : Int) + 1) + (k : Int)).toNat = t + 1 + (i + k) by omega]
          refine ⟨M1.1, M1.ix (by omega) (by omega), ?_⟩
          have hE : mU B3 (X % B3 ^ i * Y) (dg B3 X i) Y i k = X % B3 ^ (i + 1) * Y := by
            rw [← hl0]
            exact mU_e (by decide)
          rw [hE] at hlo hc ⊢
          have hS : X % B3 ^ (i + 1) * Y < B3 ^ (i + 1 + k) := by
            rw [← hl0]
            exact mS_lt (by decide)
          have hS0 : X % B3 ^ i * Y < B3 ^ (i + k) := by
            rw [← hl0]
            exact mS_lt (by decide)
          have := ih (i + 1) _ (by omega) (f1.wm (k := t + 1 + (i + k)) (v := iI ((X % B3 ^ (i + 1) * Y / B3 ^ (i + k) : Nat) : Int)) (by omega)) (fun j hj => ?_)
          · exact this
          · rw [mm_sI (rI_nat hc)]
            by_cases e1 : j = i + k
            · rw [if_pos (by omega), e1]
              congr 1
              unfold dg
              rw [Nat.mod_eq_of_lt hc]
            · rw [if_neg (by omega)]
              by_cases e2 : j < i + k
              · exact hlo j e2
              · rw [hhi j (by omega) hj, dg_high (by decide) (Nat.le_trans ((sz_le (by decide)).mpr hS0) (by omega)), dg_high (by decide) (Nat.le_trans ((sz_le (by decide)).mpr hS) (by omega))]
        | succ e ihe =>
          intro k g1 hk f1 hlo hhi
          have M1 := M.sk f1.1
          have ng1 := f1.nu nb (by rw [hY, hl0]; exact hb)
          have hc : mU B3 (X % B3 ^ i * Y) (dg B3 X i) Y i k / B3 ^ (i + k) < 1073741824 := mU_lt (by decide) hT
          have d1 : dg B3 Y k < 1073741824 := dg_lt (by decide)
          have d2 : dg B3 (X % B3 ^ i * Y) (i + k) < 1073741824 := dg_lt (by decide)
          have d3 : dg B3 X i * dg B3 Y k ≤ 1073741823 * 1073741823 := Nat.mul_le_mul (by omega) (by omega)
          obtain ⟨V, hV⟩ : ∃ V : Nat, V = mU B3 (X % B3 ^ i * Y) (dg B3 X i) Y i k / B3 ^ (i + k) + (dg B3 (X % B3 ^ i * Y) (i + k) + dg B3 X i * dg B3 Y k) := ⟨_, rfl⟩
          have hV1 : V < 9223372036854775808 := by omega
          refine j_M_times_101 ?_
          rw [M1.r1]
          simp only [iI_add, iI_sub]
          rw [show (t : Int) + ((i : Int) + 1) + ((k : Int) + 1) - 1 = ((t + 1 + (i + k) : Nat) : Int) by omega, gI_64 (by omega) (by omega), gI_64 (by omega) (by omega), show ((b : Int) + ((k : Int) + 1)).toNat = b + 1 + k by omega, Int.toNat_natCast, ng1.2.2 k (by rw [hY, hl0]; omega), hhi (i + k) (by omega) (by omega), hY]
          simp only [lI_mul, lI_add]
          have eV : ((mU B3 (X % B3 ^ i * Y) (dg B3 X i) Y i k / B3 ^ (i + k) : Nat) : Int) + ((dg B3 X i : Int) * (dg B3 Y k : Int) + (dg B3 (X % B3 ^ i * Y) (i + k) : Int)) = (V : Int) := by
            rw [hV, Int.natCast_add, Int.natCast_add, Int.natCast_mul]
            omega
          rw [eV, lI_lo (by omega) (by omega), lI_hi (by omega) (by omega), iI_cl (by omega) (by omega), Int.toNat_natCast]
          refine ⟨fun c => ?_, fun c => ⟨M1.1, M1.ixL (by omega) (by omega), M1.1, M1.ixL (by omega) (by omega), M1.1, M1.ix (by omega) (by omega), ?_⟩⟩
          · rw [iI_lt ⟨by omega, by omega⟩ ⟨by omega, by omega⟩] at c
            omega
          · have q1 : (V : Int) / 1073741824 = ((mU B3 (X % B3 ^ i * Y) (dg B3 X i) Y i (k + 1) / B3 ^ (i + (k + 1)) : Nat) : Int) := by
              rw [mU_s, show i + (k + 1) = i + k + 1 by omega, acc_car3, ← hV]
              omega
            have q2 : (V : Int) % 1073741824 = ((dg B3 (mU B3 (X % B3 ^ i * Y) (dg B3 X i) Y i (k + 1)) (i + k) : Nat) : Int) := by
              rw [mU_s, acc_dg3, ← hV]
              omega
            rw [q1, q2]
            have d4 : dg B3 (mU B3 (X % B3 ^ i * Y) (dg B3 X i) Y i (k + 1)) (i + k) < 1073741824 := dg_lt (by decide)
            have := ihe (k + 1) _ (by omega) (f1.wm (k := t + 1 + (i + k)) (v := iI ((dg B3 (mU B3 (X % B3 ^ i * Y) (dg B3 X i) Y i (k + 1)) (i + k) : Nat) : Int)) (by omega)) (fun j hj => ?_) (fun j hj hj2 => ?_)
            · exact this
            · rw [mm_sI ⟨by omega, by omega⟩]
              by_cases e1 : j = i + k
              · rw [if_pos (by omega), e1]
              · rw [if_neg (by omega), hlo j (by omega), mU_s, acc_low (by decide) (by omega)]
            · rw [mm_sI ⟨by omega, by omega⟩, if_neg (by omega)]
              exact hhi j (by omega) hj2
      refine j_M_times_77 ⟨fun c => ?_, fun c => ?_⟩
      · rw [iI_lt ⟨by omega, by omega⟩ ⟨by omega, by omega⟩] at c
        omega
      · rw [Mg.r1, iI_add, gI_64 (by omega) (by omega), show ((a : Int) + ((i : Int) + 1)).toNat = a + 1 + i by omega, nga.2.2 i (by rw [hX, hn]; omega), hX]
        refine ⟨Mg.1, Mg.ixL (by omega) (by omega), ?_⟩
        have := l101 l 0 g (by omega) f (fun j hj => ?_) (fun j _ hj2 => hl j hj2)
        · rw [mU_0, Nat.add_zero, Nat.div_eq_of_lt (Nat.mod_lt _ (Nat.pow_pos (by decide)))] at this
          exact this
        · rw [mU_0, dg_mod (by decide) (by omega)]
          exact hl j (by omega)
  -- the zeros
  have l48 : x ≠ 0 → y ≠ 0 → ∀ (d k : Nat) (g : jHp), k + d = n + l → fr m t h g → (∀ j, j < k → mm g m (t + 1 + j) = 0) → J 164 48 0 0 [.ref m, .int (iI a), .int (iI b), .int (iI (n : Int)), .int (iI (l : Int)), .int (iI (t : Int)), .int (iI ((k : Int) + 1)), uu, uu, uu, uu, uu] [] g (RS m h t (x * y)) := by
    intro hx hy d
    induction d with
    | zero =>
      intro k g hk f hz
      refine j_M_times_48 ⟨fun c => j_M_times_74 ?_, fun c => ?_⟩
      · have := l77 hx hy n 0 g (by omega) f (fun j hj => by rw [hz j (by omega), Nat.pow_zero, Nat.mod_one, Nat.zero_mul]; simp [dg])
        exact this
      · rw [iI_add, iI_lt ⟨by omega, by omega⟩ ⟨by omega, by omega⟩] at c
        omega
    | succ d ih =>
      intro k g hk f hz
      have Mg := M.sk f.1
      refine j_M_times_48 ?_
      rw [Mg.r1]
      simp only [iI_add]
      rw [iI_cl (by omega) (by omega), show ((t : Int) + ((k : Int) + 1)).toNat = t + 1 + k by omega]
      refine ⟨fun c => ?_, fun c => ⟨Mg.1, Mg.ix (by omega) (by omega), ?_⟩⟩
      · rw [iI_lt ⟨by omega, by omega⟩ ⟨by omega, by omega⟩] at c
        omega
      · have := ih (k + 1) _ (by omega) (f.wm (k := t + 1 + k) (v := iI 0) (by omega)) (fun j hj => ?_)
        · exact this
        · rw [mm_sI ⟨by omega, by omega⟩]
          by_cases e1 : j = k
          · rw [if_pos (by omega)]
          · rw [if_neg (by omega)]
            exact hz j (by omega)
  refine jRet_of (by decide) (by decide) (Nat.le_of_ble_eq_true rfl) (j_M_times_0 ⟨M.1, jRet_mono (c_sign M na) ?_⟩)
  intro v1 h1 q1
  obtain ⟨e1, e2⟩ := q1
  rw [e2]
  refine ⟨_, e1, fun c => ?_, fun c => ⟨M.1, jRet_mono (c_sign M nb) ?_⟩⟩
  · rw [iI_0, iI_eq (sg x) ⟨by omega, by omega⟩, s0] at c
    exact l16 (by rw [c, Int.zero_mul])
  · rw [iI_0, iI_eq (sg x) ⟨by omega, by omega⟩, s0] at c
    intro v2 h2 q2
    obtain ⟨e3, e4⟩ := q2
    rw [e4]
    refine ⟨_, e3, fun d => ?_, fun d => ?_⟩
    · rw [iI_0, iI_eq (sg y) ⟨by omega, by omega⟩, s0] at d
      refine j_M_times_22 ⟨M.1, jRet_mono (c_size M na) ?_⟩
      intro v3 h3 q3
      obtain ⟨e5, e6⟩ := q3
      rw [hX, hn] at e5
      rw [e6]
      refine ⟨_, e5, M.1, jRet_mono (c_size M nb) ?_⟩
      intro v4 h4 q4
      obtain ⟨e7, e8⟩ := q4
      rw [hY, hl0] at e7
      rw [e8]
      refine ⟨_, e7, M.1, ?_⟩
      rw [iI_add]
      refine jRet_mono (c_room M ht) ?_
      intro v5 h5 q5
      obtain ⟨e9, e10⟩ := q5
      rw [e10]
      refine ⟨_, e9, ?_⟩
      have := l48 c d (n + l) 0 _ (by omega) (fr.rf.wt (v := iI ((t : Int) + ((n : Int) + (l : Int)) + 1))) (fun j hj => by omega)
      exact this
    · rw [iI_0, iI_eq (sg y) ⟨by omega, by omega⟩, s0] at d
      exact l16 (by rw [d, Int.mul_zero])
