/-! lengths: roots, strings: the model's and the class's -/
theorem rt_ex : ∀ V : Nat, ∃ r, isR V r
  | 0 => ⟨0, Nat.le_refl _, by decide⟩
  | V + 1 => by
    obtain ⟨r, h1, h2⟩ := rt_ex V
    by_cases c : (r + 1) * (r + 1) ≤ V + 1
    · refine ⟨r + 1, c, ?_⟩
      have : (r + 1 + 1) * (r + 1 + 1) = (r + 1) * (r + 1) + 2 * (r + 1) + 1 := by grind
      omega
    · exact ⟨r, by omega, by omega⟩
noncomputable def rt (V : Nat) : Nat := Classical.choose (rt_ex V)
theorem rt_is (V : Nat) : isR V (rt V) := Classical.choose_spec (rt_ex V)
def sqv (X Y : Nat → Int) (c d k : Nat) : Nat := ((X c - X d) * (X c - X d) + (Y c - Y d) * (Y c - Y d)).toNat * 2 ^ (2 * k)
theorem sqv_c {X Y : Nat → Int} {c d k : Nat} : sqv X Y c d k = sqv X Y d c k := by
  unfold sqv
  congr 2
  grind
noncomputable def stg (X Y : Nat → Int) (c d k : Nat) (u : Int) : Int := if u ≠ 0 ∧ rt (sqv X Y c d k) * rt (sqv X Y c d k) < sqv X Y c d k then (rt (sqv X Y c d k) : Int) + 1 else (rt (sqv X Y c d k) : Int)
theorem sq_nn (x : Int) : 0 ≤ x * x := by
  rcases Int.le_total 0 x with c | c
  · exact Int.mul_nonneg c c
  · exact Int.mul_nonneg_of_nonpos_of_nonpos c c
theorem sqv_i {X Y : Nat → Int} {c d k : Nat} : ((sqv X Y c d k : Nat) : Int) = ((X c - X d) * (X c - X d) + (Y c - Y d) * (Y c - Y d)) * (2 : Int) ^ (2 * k) := by
  unfold sqv
  have a1 := sq_nn (X c - X d)
  have a2 := sq_nn (Y c - Y d)
  rw [Int.natCast_mul, Int.natCast_pow, Int.toNat_of_nonneg (by omega)]
  rfl
theorem sqv_lt {X Y : Nat → Int} {c d k : Nat} (hX : ∀ j, j = c ∨ j = d → -1000 ≤ X j ∧ X j ≤ 1000) (hY : ∀ j, j = c ∨ j = d → -1000 ≤ Y j ∧ Y j ≤ 1000) (hk : k ≤ 20) : sqv X Y c d k < 9223372036854775808 := by
  have x1 := hX c (Or.inl rfl)
  have x2 := hX d (Or.inr rfl)
  have y1 := hY c (Or.inl rfl)
  have y2 := hY d (Or.inr rfl)
  have m1 := mul_bd (p := X c - X d) (q := X c - X d) (by omega) (by omega)
  have m2 := mul_bd (p := Y c - Y d) (q := Y c - Y d) (by omega) (by omega)
  have hp : 2 ^ (2 * k) ≤ 2 ^ 40 := Nat.pow_le_pow_right (by decide) (by omega)
  unfold sqv
  refine Nat.lt_of_le_of_lt (Nat.mul_le_mul (show _ ≤ 8000000 by omega) hp) (by decide)
theorem stg_bd {X Y : Nat → Int} {c d k : Nat} {u : Int} (hX : ∀ j, j = c ∨ j = d → -1000 ≤ X j ∧ X j ≤ 1000) (hY : ∀ j, j = c ∨ j = d → -1000 ≤ Y j ∧ Y j ≤ 1000) (hk : k ≤ 20) : 0 ≤ stg X Y c d k u ∧ stg X Y c d k u ≤ 4294967296 := by
  have h1 := sq_lt (rt_is (sqv X Y c d k)).1 (sqv_lt hX hY hk)
  unfold stg
  split <;> omega
theorem stg_pos {X Y : Nat → Int} {c d k : Nat} {u : Int} (hne : ¬ (X c = X d ∧ Y c = Y d)) : 1 ≤ stg X Y c d k u := by
  have a1 := sq_nn (X c - X d)
  have a2 := sq_nn (Y c - Y d)
  have h3 : 0 < sqv X Y c d k := by
    unfold sqv
    refine Nat.mul_pos ?_ (Nat.pow_pos (by decide))
    have : ¬ ((X c - X d) * (X c - X d) + (Y c - Y d) * (Y c - Y d) ≤ 0) := by
      intro q
      have z1 : (X c - X d) * (X c - X d) = 0 := by omega
      have z2 : (Y c - Y d) * (Y c - Y d) = 0 := by omega
      have y1 := Int.mul_eq_zero.mp z1
      have y2 := Int.mul_eq_zero.mp z2
      omega
    omega
  have h1 := (rt_is (sqv X Y c d k)).2
  have h2 : rt (sqv X Y c d k) ≠ 0 := by
    intro z
    rw [z] at h1
    omega
  unfold stg
  split <;> omega
theorem stg_s {X Y : Nat → Int} {c d k : Nat} {u : Int} : stg X Y c d k u = stg X Y d c k u := by
  unfold stg
  rw [sqv_c]
theorem stg_e {X Y X' Y' : Nat → Int} {c d k : Nat} {u : Int} (h1 : X c = X' c) (h2 : X d = X' d) (h3 : Y c = Y' c) (h4 : Y d = Y' d) : stg X Y c d k u = stg X' Y' c d k u := by
  unfold stg sqv
  rw [h1, h2, h3, h4]
theorem shr1 : ∀ e, e < 32 → lI ((2 ^ e : Nat) : Int) >>> ((iI 1).toInt64 &&& 63) = lI ((2 ^ e / 2 : Nat) : Int) := by decide +kernel
theorem jcr1 : jc 0 2147483648 = 2147483648 := by decide
theorem jcr2 : jc 0 3037000499 = 3037000499 := by decide
theorem jc02 : jc 0 2 = 2 := by decide
theorem jc04 : jc 0 4 = 4 := by decide
theorem jc14 : jc 1 4 = -4 := by decide
theorem jc11 : jc 1 1 = -1 := by decide
section ROOT
variable {h : jHp}
theorem c_Mroot {V : Nat} (hV : V < 9223372036854775808) : jRet 149 0 0 [.long (lI (V : Int))] h (fun q h' => q = some (.long (lI (rt V : Int))) ∧ h' = h) := by
  have loop : ∀ (e r : Nat), e ≤ 32 → (∃ q, r = q * 2 ^ e) → r * r ≤ V → V < (r + 2 ^ e) * (r + 2 ^ e) → J 149 7 0 0 [.long (lI (V : Int)), uu, .long (lI (r : Int)), uu, .long (lI ((2 ^ e / 2 : Nat) : Int)), uu] [] h (fun q h' => q = some (.long (lI (rt V : Int))) ∧ h' = h) := by
    intro e
    induction e with
    | zero =>
      intro r _ _ h1 h2
      have hr : r = rt V := isR_u ⟨h1, h2⟩ (rt_is V)
      refine j_M_root_7 ?_
      rw [lg_cmp_le]
      refine ⟨fun _ => j_M_root_53 ⟨by rw [hr], rfl⟩, fun z => absurd ?_ z⟩
      decide
    | succ e ih =>
      intro r he hq h1 h2
      obtain ⟨q, hq⟩ := hq
      have hr := sq_lt h1 hV
      have hp0 : 0 < 2 ^ e := Nat.pow_pos (by decide)
      have hp : 2 ^ e ≤ 2 ^ 31 := Nat.pow_le_pow_right (by decide) (by omega)
      have hp' : 2 ^ e ≤ 2147483648 := hp
      have e2 : 2 ^ (e + 1) = 2 ^ e + 2 ^ e := by
        rw [Nat.pow_succ]
        omega
      have eb : 2 ^ (e + 1) / 2 = 2 ^ e := by omega
      obtain ⟨t, ht⟩ : ∃ t : Nat, t = r + 2 ^ e := ⟨_, rfl⟩
      have eo : lI (r : Int) ||| lI ((2 ^ e : Nat) : Int) = lI (t : Int) := by
        have o1 := or_add (x := q) (y := 2 ^ e) (k := e + 1) (by omega)
        rw [← hq, ← ht] at o1
        rw [← lN_lI, ← lN_lI, wb_or (by omega) (by omega), o1, lN_lI]
      refine j_M_root_7 ?_
      rw [eb, eo, lg_cmp_le, lg_cmp_gt, jcr2, lI_le ⟨by omega, by omega⟩ ⟨by omega, by omega⟩, lI_lt ⟨by omega, by omega⟩ ⟨by omega, by omega⟩]
      have nx : ∀ r' : Nat, (∃ q', r' = q' * 2 ^ e) → r' * r' ≤ V → V < (r' + 2 ^ e) * (r' + 2 ^ e) → J 149 44 0 0 [.long (lI (V : Int)), uu, .long (lI (r' : Int)), uu, .long (lI ((2 ^ e : Nat) : Int)), uu] [] h (fun q h' => q = some (.long (lI (rt V : Int))) ∧ h' = h) := by
        intro r' a0 a1 a2
        refine j_M_root_44 ?_
        rw [shr1 e (by omega)]
        exact ih r' (by omega) a0 a1 a2
      have q1 : ∃ q', r = q' * 2 ^ e := ⟨2 * q, by rw [hq, Nat.pow_succ]; grind⟩
      have q2 : ∃ q', t = q' * 2 ^ e := ⟨2 * q + 1, by rw [ht, hq, Nat.pow_succ]; grind⟩
      refine ⟨fun z => by omega, fun _ => ⟨fun z => nx r q1 h1 ?_, fun z => ?_⟩⟩
      · rw [← ht]
        have : 3037000500 * 3037000500 ≤ t * t := Nat.mul_le_mul (by omega) (by omega)
        omega
      · have hb : t * t ≤ 3037000499 * 3037000499 := Nat.mul_le_mul (by omega) (by omega)
        rw [lI_mul, ← Int.natCast_mul, lg_cmp_gt, lI_lt ⟨by omega, by omega⟩ ⟨by omega, by omega⟩]
        refine ⟨fun y => nx r q1 h1 (by rw [← ht]; omega), fun y => nx t q2 (by omega) ?_⟩
        have e3 : t + 2 ^ e = r + 2 ^ (e + 1) := by omega
        rw [e3]
        exact h2
  refine jRet_of (by decide) (by decide) (Nat.le_of_ble_eq_true rfl) (j_M_root_0 ?_)
  rw [jcr1]
  refine loop 32 0 (Nat.le_refl _) ⟨0, by rw [Nat.zero_mul]⟩ (Nat.zero_le _) ?_
  rw [Nat.zero_add]
  exact Nat.lt_of_lt_of_le hV (by decide)
theorem c_Wroot' {V : Nat} (hV : V < 9223372036854775808) : jRet 83 0 0 [.long (lI (V : Int))] h (fun q h' => q = some (.long (lI (rt V : Int))) ∧ h' = h) := by
  refine jRet_mono (c_Wroot hV) ?_
  intro q1 h1 w1
  obtain ⟨r, e1, e2, e3⟩ := w1
  rw [isR_u e2 (rt_is V)] at e1
  exact ⟨e1, e3⟩
end ROOT
/-- strings out of the model's corners -/
noncomputable def mst (m : Nat) (h : jHp) (c d k : Nat) (u : Int) : Int := stg (mI h (m + 5)) (mI h (m + 6)) c d k u
noncomputable def wst (w : Nat) (h : jHp) (c d k : Nat) (u : Int) : Int := stg (mI h (w + 1)) (mI h (w + 2)) c d k u
def MB (m : Nat) (h : jHp) : Prop := ∀ k, k < 24 → (-1000 ≤ mI h (m + 5) k ∧ mI h (m + 5) k ≤ 1000) ∧ (-1000 ≤ mI h (m + 6) k ∧ mI h (m + 6) k ≤ 1000)
section STRING
variable {m w : Nat} {h : jHp}
theorem mst_bd {c d k : Nat} {u : Int} (B : MB m h) (hc : c < 24) (hd : d < 24) (hk : k ≤ 20) : 0 ≤ mst m h c d k u ∧ mst m h c d k u ≤ 4294967296 :=
  stg_bd (fun j hj => (B j (by omega)).1) (fun j hj => (B j (by omega)).2) hk
theorem wst_bd {c d k : Nat} {u : Int} (B : XB w h) (hc : c < 24) (hd : d < 24) (hk : k ≤ 20) : 0 ≤ wst w h c d k u ∧ wst w h c d k u ≤ 4294967296 :=
  stg_bd (fun j hj => (B j (by omega)).1) (fun j hj => (B j (by omega)).2) hk
theorem c_Mstring {c d k : Nat} {u : Int} (M : Mo m h) (B : MB m h) (hc : c < 24) (hd : d < 24) (hk : k ≤ 20) (hu : u = 0 ∨ u = 1) : jRet 148 0 0 [.ref m, .int (iI c), .int (iI d), .int (iI k), .int (iI u)] h (fun q h' => q = some (.long (lI (mst m h c d k u))) ∧ h' = h) := by
  have x1 := B c hc
  have x2 := B d hd
  have i1 : ∀ k : Nat, k < 24 → ixL h (m + 5) (iI (k : Int)) := fun k hk => ixL_of M.a8.2 (by omega) (by omega) (by decide)
  have i2 : ∀ k : Nat, k < 24 → ixL h (m + 6) (iI (k : Int)) := fun k hk => ixL_of M.a9.2 (by omega) (by omega) (by decide)
  have g : ∀ (q k : Nat), k < 24 → gI h q (iI (k : Int)).toNatClampNeg = iI (mI h q k) := fun q k hk => by rw [gI_q (by omega) (by omega), Int.toNat_natCast]
  have hV : sqv (mI h (m + 5)) (mI h (m + 6)) c d k < 9223372036854775808 := sqv_lt (fun j hj => (B j (by omega)).1) (fun j hj => (B j (by omega)).2) hk
  have eV := sqv_i (X := mI h (m + 5)) (Y := mI h (m + 6)) (c := c) (d := d) (k := k)
  have a1 := sq_nn (mI h (m + 5) c - mI h (m + 5) d)
  have a2 := sq_nn (mI h (m + 6) c - mI h (m + 6) d)
  have hr := sq_lt (rt_is (sqv (mI h (m + 5)) (mI h (m + 6)) c d k)).1 hV
  have hr2 := (rt_is (sqv (mI h (m + 5)) (mI h (m + 6)) c d k)).1
  refine jRet_of (by decide) (by decide) (Nat.le_of_ble_eq_true rfl) (j_M_string_0 ?_)
  rw [M.a8.1, M.a9.1]
  simp only [g _ c hc, g _ d hd, iI_sub, iI_mul]
  rw [iI_64 ⟨by omega, by omega⟩, iI_64 ⟨by omega, by omega⟩, lI_mul, lI_mul, lI_add, show 2 * (k : Int) = ((2 * k : Nat) : Int) by omega, lI_shl (2 * k) (by omega) (by omega), ← eV]
  have em : ∀ v, mst m h c d k v = if v ≠ 0 ∧ rt (sqv (mI h (m + 5)) (mI h (m + 6)) c d k) * rt (sqv (mI h (m + 5)) (mI h (m + 6)) c d k) < sqv (mI h (m + 5)) (mI h (m + 6)) c d k then (rt (sqv (mI h (m + 5)) (mI h (m + 6)) c d k) : Int) + 1 else (rt (sqv (mI h (m + 5)) (mI h (m + 6)) c d k) : Int) := fun v => rfl
  clear eV a1 a2
  generalize sqv (mI h (m + 5)) (mI h (m + 6)) c d k = V at *
  refine ⟨M.1, i1 c hc, M.1, i1 d hd, M.1, i2 c hc, M.1, i2 d hd, jRet_mono (c_Mroot hV) ?_⟩
  intro q1 h1 w1
  obtain ⟨e1, e2⟩ := w1
  rw [e2]
  refine ⟨_, e1, ?_⟩
  rw [em]
  generalize rt V = r at *
  rw [lI_mul, ← Int.natCast_mul, lg_cmp_ge, lI_le ⟨by omega, by omega⟩ ⟨by omega, by omega⟩, iI_0, iI_eq ⟨by omega, by omega⟩ ⟨by omega, by omega⟩]
  refine ⟨fun z => j_M_string_79 (j_M_string_81 ⟨by rw [if_neg (fun y => y.1 z)], rfl⟩), fun z => ⟨fun y => j_M_string_79 (j_M_string_81 ⟨by rw [if_neg (fun x => by omega)], rfl⟩), fun y => j_M_string_81 ⟨?_, rfl⟩⟩⟩
  rw [if_pos ⟨z, by omega⟩, lI_add]
  rfl
theorem c_Wsquare {c d k : Nat} (W : WL w h) (B : XB w h) (hc : c < 24) (hd : d < 24) (hk : k ≤ 20) : jRet 82 0 0 [.ref w, .int (iI c), .int (iI d), .int (iI k)] h (fun q h' => q = some (.long (lI (sqv (mI h (w + 1)) (mI h (w + 2)) c d k : Nat))) ∧ h' = h) := by
  have x1 := B c hc
  have x2 := B d hd
  have i1 : ∀ k : Nat, k < 24 → ixL h (w + 1) (iI (k : Int)) := fun k hk => ixL_of W.2.2.1 (by omega) (by omega) (by decide)
  have i2 : ∀ k : Nat, k < 24 → ixL h (w + 2) (iI (k : Int)) := fun k hk => ixL_of W.2.2.2.2.1 (by omega) (by omega) (by decide)
  have g : ∀ (q k : Nat), k < 24 → gI h q (iI (k : Int)).toNatClampNeg = iI (mI h q k) := fun q k hk => by rw [gI_q (by omega) (by omega), Int.toNat_natCast]
  have eV := sqv_i (X := mI h (w + 1)) (Y := mI h (w + 2)) (c := d) (d := c) (k := k)
  have a1 := sq_nn (mI h (w + 1) d - mI h (w + 1) c)
  have a2 := sq_nn (mI h (w + 2) d - mI h (w + 2) c)
  refine jRet_of (by decide) (by decide) (Nat.le_of_ble_eq_true rfl) (j_Wa_square_0 ?_)
  rw [W.2.1, W.2.2.2.1]
  simp only [g _ c hc, g _ d hd, iI_sub, iI_mul]
  rw [iI_64 ⟨by omega, by omega⟩, iI_64 ⟨by omega, by omega⟩, lI_mul, lI_mul, lI_add, show 2 * (k : Int) = ((2 * k : Nat) : Int) by omega, lI_shl (2 * k) (by omega) (by omega), ← eV, sqv_c]
  exact ⟨W.1, i1 d hd, W.1, i1 c hc, W.1, i2 d hd, W.1, i2 c hc, rfl, trivial⟩
theorem c_WlenDown {c d k : Nat} (W : WL w h) (B : XB w h) (hc : c < 24) (hd : d < 24) (hk : k ≤ 20) : jRet 84 0 0 [.ref w, .int (iI c), .int (iI d), .int (iI k)] h (fun q h' => q = some (.long (lI (wst w h c d k 0))) ∧ h' = h) := by
  have hV : sqv (mI h (w + 1)) (mI h (w + 2)) c d k < 9223372036854775808 := sqv_lt (fun j hj => (B j (by omega)).1) (fun j hj => (B j (by omega)).2) hk
  refine jRet_of (by decide) (by decide) (Nat.le_of_ble_eq_true rfl) (j_Wa_lengthDown_0 ⟨W.1, jRet_mono (c_Wsquare W B hc hd hk) ?_⟩)
  intro q1 h1 w1
  obtain ⟨e1, e2⟩ := w1
  rw [e2]
  refine ⟨_, e1, jRet_mono (c_Wroot' hV) ?_⟩
  intro q2 h2 w2
  obtain ⟨e3, e4⟩ := w2
  rw [e4]
  exact ⟨_, e3, by unfold wst stg; rw [if_neg (fun z => z.1 rfl)], rfl⟩
theorem c_WlenUp {c d k : Nat} (W : WL w h) (B : XB w h) (hc : c < 24) (hd : d < 24) (hk : k ≤ 20) : jRet 81 0 0 [.ref w, .int (iI c), .int (iI d), .int (iI k)] h (fun q h' => q = some (.long (lI (wst w h c d k 1))) ∧ h' = h) := by
  have hV : sqv (mI h (w + 1)) (mI h (w + 2)) c d k < 9223372036854775808 := sqv_lt (fun j hj => (B j (by omega)).1) (fun j hj => (B j (by omega)).2) hk
  have hr2 := (rt_is (sqv (mI h (w + 1)) (mI h (w + 2)) c d k)).1
  refine jRet_of (by decide) (by decide) (Nat.le_of_ble_eq_true rfl) (j_Wa_lengthUp_0 ⟨W.1, jRet_mono (c_Wsquare W B hc hd hk) ?_⟩)
  intro q1 h1 w1
  obtain ⟨e1, e2⟩ := w1
  rw [e2]
  refine ⟨_, e1, jRet_mono (c_Wroot' hV) ?_⟩
  intro q2 h2 w2
  obtain ⟨e3, e4⟩ := w2
  rw [e4]
  refine ⟨_, e3, ?_⟩
  have em : wst w h c d k 1 = if (1 : Int) ≠ 0 ∧ rt (sqv (mI h (w + 1)) (mI h (w + 2)) c d k) * rt (sqv (mI h (w + 1)) (mI h (w + 2)) c d k) < sqv (mI h (w + 1)) (mI h (w + 2)) c d k then (rt (sqv (mI h (w + 1)) (mI h (w + 2)) c d k) : Int) + 1 else (rt (sqv (mI h (w + 1)) (mI h (w + 2)) c d k) : Int) := rfl
  rw [em]
  generalize sqv (mI h (w + 1)) (mI h (w + 2)) c d k = V at *
  generalize rt V = r at *
  rw [lI_mul, ← Int.natCast_mul, lg_cmp_eq, lI_eq ⟨by omega, by omega⟩ ⟨by omega, by omega⟩]
  refine ⟨fun z => j_Wa_lengthUp_32 (j_Wa_lengthUp_36 ⟨?_, rfl⟩), fun z => j_Wa_lengthUp_36 ⟨?_, rfl⟩⟩
  · rw [if_pos ⟨by decide, by omega⟩, lI_add]
    rfl
  · rw [if_neg (fun y => by omega)]
/-- patches lie between corners: the model's -/
def MP (m n : Nat) (h : jHp) : Prop := ∀ i, i < n → ∃ a b : Nat, mI h (m + 7) i = (a : Int) ∧ mI h (m + 8) i = (b : Int) ∧ a < 24 ∧ b < 24
def mF1 (m : Nat) (h : jHp) (i : Nat) : Nat := (mI h (m + 7) i).toNat
def mF2 (m : Nat) (h : jHp) (i : Nat) : Nat := (mI h (m + 8) i).toNat
def wF1 (w : Nat) (h : jHp) (i : Nat) : Nat := (mI h (w + 5 + i) 1).toNat
def wF2 (w : Nat) (h : jHp) (i : Nat) : Nat := (mI h (w + 5 + i) 2).toNat
theorem MP.at {n i : Nat} (P : MP m n h) (hi : i < n) : mI h (m + 7) i = (mF1 m h i : Int) ∧ mI h (m + 8) i = (mF2 m h i : Int) ∧ mF1 m h i < 24 ∧ mF2 m h i < 24 := by
  obtain ⟨a, b, h1, h2, h3, h4⟩ := P i hi
  unfold mF1 mF2
  rw [h1, h2]
  omega
theorem PT.at {n i : Nat} (P : PT w n h) (hi : i < n) : mI h (w + 5 + i) 1 = (wF1 w h i : Int) ∧ mI h (w + 5 + i) 2 = (wF2 w h i : Int) ∧ wF1 w h i < 24 ∧ wF2 w h i < 24 := by
  obtain ⟨a, b, h1, h2, h3, h4⟩ := P i hi
  unfold wF1 wF2
  rw [h1, h2]
  omega
theorem c_MsumX {a b k n : Nat} {u : Int} (M : Mo m h) (B : MB m h) (P : MP m n h) (hn : n ≤ 8) (ha : a < n) (hb : b < n) (hk : k ≤ 20) (hu : u = 0 ∨ u = 1) : jRet 151 0 0 [.ref m, .int (iI a), .int (iI b), .int (iI k), .int (iI u)] h (fun q h' => q = some (.long (lI (mst m h (mF1 m h a) (mF1 m h b) k u + mst m h (mF2 m h a) (mF2 m h b) k u))) ∧ h' = h) := by
  obtain ⟨p1, p2, p3, p4⟩ := P.at ha
  obtain ⟨r1, r2, r3, r4⟩ := P.at hb
  have i7 : ∀ k : Nat, k < 8 → ixL h (m + 7) (iI (k : Int)) := fun k hk => ixL_of M.a10.2 (by omega) (by omega) (by decide)
  have i8 : ∀ k : Nat, k < 8 → ixL h (m + 8) (iI (k : Int)) := fun k hk => ixL_of M.a11.2 (by omega) (by omega) (by decide)
  refine jRet_of (by decide) (by decide) (Nat.le_of_ble_eq_true rfl) (j_M_crossedSum_0 ?_)
  rw [M.a10.1, gI_q (by omega) (by omega), gI_q (by omega) (by omega), Int.toNat_natCast, Int.toNat_natCast, p1, r1]
  refine ⟨M.1, i7 a (by omega), M.1, i7 b (by omega), M.1, jRet_mono (c_Mstring M B p3 r3 hk hu) ?_⟩
  intro q1 h1 w1
  obtain ⟨e1, e2⟩ := w1
  rw [e2, M.a11.1, gI_q (by omega) (by omega), gI_q (by omega) (by omega), Int.toNat_natCast, Int.toNat_natCast, p2, r2]
  refine ⟨_, e1, M.1, i8 a (by omega), M.1, i8 b (by omega), M.1, jRet_mono (c_Mstring M B p4 r4 hk hu) ?_⟩
  intro q2 h2 w2
  obtain ⟨e3, e4⟩ := w2
  rw [e4]
  exact ⟨_, e3, by rw [lI_add], rfl⟩
theorem c_MsumO {a b k n : Nat} {u : Int} (M : Mo m h) (B : MB m h) (P : MP m n h) (hn : n ≤ 8) (ha : a < n) (hb : b < n) (hk : k ≤ 20) (hu : u = 0 ∨ u = 1) : jRet 152 0 0 [.ref m, .int (iI a), .int (iI b), .int (iI k), .int (iI u)] h (fun q h' => q = some (.long (lI (mst m h (mF1 m h a) (mF2 m h b) k u + mst m h (mF2 m h a) (mF1 m h b) k u))) ∧ h' = h) := by
  obtain ⟨p1, p2, p3, p4⟩ := P.at ha
  obtain ⟨r1, r2, r3, r4⟩ := P.at hb
  have i7 : ∀ k : Nat, k < 8 → ixL h (m + 7) (iI (k : Int)) := fun k hk => ixL_of M.a10.2 (by omega) (by omega) (by decide)
  have i8 : ∀ k : Nat, k < 8 → ixL h (m + 8) (iI (k : Int)) := fun k hk => ixL_of M.a11.2 (by omega) (by omega) (by decide)
  refine jRet_of (by decide) (by decide) (Nat.le_of_ble_eq_true rfl) (j_M_openSum_0 ?_)
  rw [M.a10.1, M.a11.1, gI_q (by omega) (by omega), gI_q (by omega) (by omega), Int.toNat_natCast, Int.toNat_natCast, p1, r2]
  refine ⟨M.1, i7 a (by omega), M.1, i8 b (by omega), M.1, jRet_mono (c_Mstring M B p3 r4 hk hu) ?_⟩
  intro q1 h1 w1
  obtain ⟨e1, e2⟩ := w1
  rw [e2, M.a10.1, M.a11.1, gI_q (by omega) (by omega), gI_q (by omega) (by omega), Int.toNat_natCast, Int.toNat_natCast, p2, r1]
  refine ⟨_, e1, M.1, i8 a (by omega), M.1, i7 b (by omega), M.1, jRet_mono (c_Mstring M B p4 r3 hk hu) ?_⟩
  intro q2 h2 w2
  obtain ⟨e3, e4⟩ := w2
  rw [e4]
  exact ⟨_, e3, by rw [lI_add], rfl⟩
theorem c_WxD {a b k n : Nat} (W : WL w h) (B : XB w h) (P : PT w n h) (hn : n ≤ 8) (ha : a < n) (hb : b < n) (hk : k ≤ 20) : jRet 89 0 0 [.ref w, .int (iI a), .int (iI b), .int (iI k)] h (fun q h' => q = some (.long (lI (wst w h (wF1 w h a) (wF1 w h b) k 0 + wst w h (wF2 w h a) (wF2 w h b) k 0))) ∧ h' = h) := by
  obtain ⟨p1, p2, p3, p4⟩ := P.at ha
  obtain ⟨r1, r2, r3, r4⟩ := P.at hb
  have wa := W.2.2.2.2.2.2.2.2.2 a (by omega)
  have wb := W.2.2.2.2.2.2.2.2.2 b (by omega)
  have ia := ixR_of (a := (a : Int)) W.2.2.2.2.2.2.1 (Or.inr (Or.inr rfl)) (by omega) (by omega) (by decide)
  have ib := ixR_of (a := (b : Int)) W.2.2.2.2.2.2.1 (Or.inr (Or.inr rfl)) (by omega) (by omega) (by decide)
  refine jRet_of (by decide) (by decide) (Nat.le_of_ble_eq_true rfl) (j_Wa_crossedDown_0 ?_)
  rw [W.2.2.2.2.2.1, iI_cl (a := (a : Int)) (by omega) (by omega), iI_cl (a := (b : Int)) (by omega) (by omega), Int.toNat_natCast, Int.toNat_natCast, wa.1, wb.1, gI_mI h (w + 5 + a), p1, gI_mI h (w + 5 + b), r1]
  refine ⟨W.1, ia, wa.2, W.1, ib, wb.2, W.1, jRet_mono (c_WlenDown W B p3 r3 hk) ?_⟩
  intro q1 h1 w1
  obtain ⟨e1, e2⟩ := w1
  rw [e2, W.2.2.2.2.2.1, wa.1, wb.1, gI_mI h (w + 5 + a), p2, gI_mI h (w + 5 + b), r2]
  refine ⟨_, e1, W.1, ia, wa.2, W.1, ib, wb.2, W.1, jRet_mono (c_WlenDown W B p4 r4 hk) ?_⟩
  intro q2 h2 w2
  obtain ⟨e3, e4⟩ := w2
  rw [e4]
  exact ⟨_, e3, by rw [lI_add], rfl⟩
theorem c_WoD {a b k n : Nat} (W : WL w h) (B : XB w h) (P : PT w n h) (hn : n ≤ 8) (ha : a < n) (hb : b < n) (hk : k ≤ 20) : jRet 87 0 0 [.ref w, .int (iI a), .int (iI b), .int (iI k)] h (fun q h' => q = some (.long (lI (wst w h (wF1 w h a) (wF2 w h b) k 0 + wst w h (wF2 w h a) (wF1 w h b) k 0))) ∧ h' = h) := by
  obtain ⟨p1, p2, p3, p4⟩ := P.at ha
  obtain ⟨r1, r2, r3, r4⟩ := P.at hb
  have wa := W.2.2.2.2.2.2.2.2.2 a (by omega)
  have wb := W.2.2.2.2.2.2.2.2.2 b (by omega)
  have ia := ixR_of (a := (a : Int)) W.2.2.2.2.2.2.1 (Or.inr (Or.inr rfl)) (by omega) (by omega) (by decide)
  have ib := ixR_of (a := (b : Int)) W.2.2.2.2.2.2.1 (Or.inr (Or.inr rfl)) (by omega) (by omega) (by decide)
  refine jRet_of (by decide) (by decide) (Nat.le_of_ble_eq_true rfl) (j_Wa_uncrossedDown_0 ?_)
  rw [W.2.2.2.2.2.1, iI_cl (a := (a : Int)) (by omega) (by omega), iI_cl (a := (b : Int)) (by omega) (by omega), Int.toNat_natCast, Int.toNat_natCast, wa.1, wb.1, gI_mI h (w + 5 + a), p1, gI_mI h (w + 5 + b), r2]
  refine ⟨W.1, ia, wa.2, W.1, ib, wb.2, W.1, jRet_mono (c_WlenDown W B p3 r4 hk) ?_⟩
  intro q1 h1 w1
  obtain ⟨e1, e2⟩ := w1
  rw [e2, W.2.2.2.2.2.1, wa.1, wb.1, gI_mI h (w + 5 + a), p2, gI_mI h (w + 5 + b), r1]
  refine ⟨_, e1, W.1, ia, wa.2, W.1, ib, wb.2, W.1, jRet_mono (c_WlenDown W B p4 r3 hk) ?_⟩
  intro q2 h2 w2
  obtain ⟨e3, e4⟩ := w2
  rw [e4]
  exact ⟨_, e3, by rw [lI_add], rfl⟩
theorem c_WxU {a b k n : Nat} (W : WL w h) (B : XB w h) (P : PT w n h) (hn : n ≤ 8) (ha : a < n) (hb : b < n) (hk : k ≤ 20) : jRet 86 0 0 [.ref w, .int (iI a), .int (iI b), .int (iI k)] h (fun q h' => q = some (.long (lI (wst w h (wF1 w h a) (wF1 w h b) k 1 + wst w h (wF2 w h a) (wF2 w h b) k 1))) ∧ h' = h) := by
  obtain ⟨p1, p2, p3, p4⟩ := P.at ha
  obtain ⟨r1, r2, r3, r4⟩ := P.at hb
  have wa := W.2.2.2.2.2.2.2.2.2 a (by omega)
  have wb := W.2.2.2.2.2.2.2.2.2 b (by omega)
  have ia := ixR_of (a := (a : Int)) W.2.2.2.2.2.2.1 (Or.inr (Or.inr rfl)) (by omega) (by omega) (by decide)
  have ib := ixR_of (a := (b : Int)) W.2.2.2.2.2.2.1 (Or.inr (Or.inr rfl)) (by omega) (by omega) (by decide)
  refine jRet_of (by decide) (by decide) (Nat.le_of_ble_eq_true rfl) (j_Wa_crossedUp_0 ?_)
  rw [W.2.2.2.2.2.1, iI_cl (a := (a : Int)) (by omega) (by omega), iI_cl (a := (b : Int)) (by omega) (by omega), Int.toNat_natCast, Int.toNat_natCast, wa.1, wb.1, gI_mI h (w + 5 + a), p1, gI_mI h (w + 5 + b), r1]
  refine ⟨W.1, ia, wa.2, W.1, ib, wb.2, W.1, jRet_mono (c_WlenUp W B p3 r3 hk) ?_⟩
  intro q1 h1 w1
  obtain ⟨e1, e2⟩ := w1
  rw [e2, W.2.2.2.2.2.1, wa.1, wb.1, gI_mI h (w + 5 + a), p2, gI_mI h (w + 5 + b), r2]
  refine ⟨_, e1, W.1, ia, wa.2, W.1, ib, wb.2, W.1, jRet_mono (c_WlenUp W B p4 r4 hk) ?_⟩
  intro q2 h2 w2
  obtain ⟨e3, e4⟩ := w2
  rw [e4]
  exact ⟨_, e3, by rw [lI_add], rfl⟩
theorem c_WoU {a b k n : Nat} (W : WL w h) (B : XB w h) (P : PT w n h) (hn : n ≤ 8) (ha : a < n) (hb : b < n) (hk : k ≤ 20) : jRet 90 0 0 [.ref w, .int (iI a), .int (iI b), .int (iI k)] h (fun q h' => q = some (.long (lI (wst w h (wF1 w h a) (wF2 w h b) k 1 + wst w h (wF2 w h a) (wF1 w h b) k 1))) ∧ h' = h) := by
  obtain ⟨p1, p2, p3, p4⟩ := P.at ha
  obtain ⟨r1, r2, r3, r4⟩ := P.at hb
  have wa := W.2.2.2.2.2.2.2.2.2 a (by omega)
  have wb := W.2.2.2.2.2.2.2.2.2 b (by omega)
  have ia := ixR_of (a := (a : Int)) W.2.2.2.2.2.2.1 (Or.inr (Or.inr rfl)) (by omega) (by omega) (by decide)
  have ib := ixR_of (a := (b : Int)) W.2.2.2.2.2.2.1 (Or.inr (Or.inr rfl)) (by omega) (by omega) (by decide)
  refine jRet_of (by decide) (by decide) (Nat.le_of_ble_eq_true rfl) (j_Wa_uncrossedUp_0 ?_)
  rw [W.2.2.2.2.2.1, iI_cl (a := (a : Int)) (by omega) (by omega), iI_cl (a := (b : Int)) (by omega) (by omega), Int.toNat_natCast, Int.toNat_natCast, wa.1, wb.1, gI_mI h (w + 5 + a), p1, gI_mI h (w + 5 + b), r2]
  refine ⟨W.1, ia, wa.2, W.1, ib, wb.2, W.1, jRet_mono (c_WlenUp W B p3 r4 hk) ?_⟩
  intro q1 h1 w1
  obtain ⟨e1, e2⟩ := w1
  rw [e2, W.2.2.2.2.2.1, wa.1, wb.1, gI_mI h (w + 5 + a), p2, gI_mI h (w + 5 + b), r1]
  refine ⟨_, e1, W.1, ia, wa.2, W.1, ib, wb.2, W.1, jRet_mono (c_WlenUp W B p4 r3 hk) ?_⟩
  intro q2 h2 w2
  obtain ⟨e3, e4⟩ := w2
  rw [e4]
  exact ⟨_, e3, by rw [lI_add], rfl⟩
theorem c_WpatchLen {a k n : Nat} {u : Int} (W : WL w h) (B : XB w h) (P : PT w n h) (hn : n ≤ 8) (ha : a < n) (hk : k ≤ 20) (hu : u = 0 ∨ u = 1) : jRet 80 0 0 [.ref w, .int (iI a), .int (iI k), .int (iI u)] h (fun q h' => q = some (.long (lI (wst w h (wF1 w h a) (wF2 w h a) k u))) ∧ h' = h) := by
  obtain ⟨p1, p2, p3, p4⟩ := P.at ha
  have wa := W.2.2.2.2.2.2.2.2.2 a (by omega)
  have ia := ixR_of (a := (a : Int)) W.2.2.2.2.2.2.1 (Or.inr (Or.inr rfl)) (by omega) (by omega) (by decide)
  refine jRet_of (by decide) (by decide) (Nat.le_of_ble_eq_true rfl) (j_Wa_patchLength_0 ?_)
  rw [W.2.2.2.2.2.1, iI_cl (a := (a : Int)) (by omega) (by omega), Int.toNat_natCast, wa.1, gI_mI h (w + 5 + a) 1, p1, gI_mI h (w + 5 + a) 2, p2, iI_0, iI_eq ⟨by omega, by omega⟩ ⟨by omega, by omega⟩]
  refine ⟨W.1, ia, wa.2, W.1, ia, wa.2, fun z => j_Wa_patchLength_38 ⟨W.1, jRet_mono (c_WlenDown W B p3 p4 hk) ?_⟩, fun z => ⟨W.1, jRet_mono (c_WlenUp W B p3 p4 hk) ?_⟩⟩
  · intro q1 h1 w1
    obtain ⟨e1, e2⟩ := w1
    rw [e2]
    exact ⟨_, e1, j_Wa_patchLength_47 ⟨by rw [z], rfl⟩⟩
  · intro q1 h1 w1
    obtain ⟨e1, e2⟩ := w1
    rw [e2]
    exact ⟨_, e1, j_Wa_patchLength_47 ⟨by rw [show u = 1 by omega], rfl⟩⟩
end STRING
