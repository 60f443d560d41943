/-! divide, from its begin -/
theorem fd_tr {m : Nat} {a b c : jHp} (f : fd m a b) (g : fd m b c) : fd m a c := ⟨f.1.tr g.1, fun p k x y z w => (g.2 p k x y z w).trans (f.2 p k x y z w)⟩
theorem dg_div {B v p j : Nat} : dg B (v / B ^ p) j = dg B v (p + j) := by
  unfold dg
  rw [Nat.div_div_eq_div_mul, ← Nat.pow_add]
section DIV
variable {m X Y : Nat} {h : jHp}
theorem l_div215 (M : Mo m h) {l s n : Nat} (hl1 : 1 ≤ l) (hln : l ≤ n) (hn : n ≤ 398) (hs : s ≤ 29) (hY1 : B3 ^ (l - 1) ≤ Y) (hY2 : Y * 2 ^ s < B3 ^ l) (hX : X < B3 ^ n) :
    ∀ (k : Nat) (g : jHp), k ≤ n → fd m h g → (∀ j, j < l → mI g (m + 3) j = dg B3 (Y * 2 ^ s) j) → (∀ j, j < k → mI g (m + 2) j = dg B3 X j) → (∀ j, k ≤ j → j ≤ n → mI g (m + 2) j = dg B3 (X * 2 ^ s) j) →
    J 173 215 0 0 [.ref m, uu, uu, .int (iI n), .int (iI l), .int (iI s), .int (iI ((k : Int) - 1))] [] g (dvQ m X Y h) := by
  intro k
  induction k with
  | zero =>
    intro g hk f hby h1 h2
    have Mg := M.sk f.1
    refine j_M_divide_215 ⟨fun _ => j_M_divide_276 ⟨Mg.1, ?_⟩, fun c => absurd (by rw [iI_0]; exact (iI_lt ⟨by omega, by omega⟩ ⟨by omega, by omega⟩).mpr (by omega)) c⟩
    have hp : 0 < B3 ^ (n - l + 1) := Nat.pow_pos (by decide)
    have hlt : X * 2 ^ s / B3 ^ (n - l + 1) < Y * 2 ^ s := by
      rw [Nat.div_lt_iff_lt_mul hp]
      have e : B3 ^ n = B3 ^ (l - 1) * B3 ^ (n - l + 1) := by
        rw [← Nat.pow_add]
        congr 1
        omega
      have h2s : 0 < 2 ^ s := Nat.pow_pos (by decide)
      have a1 : X * 2 ^ s < B3 ^ n * 2 ^ s := Nat.mul_lt_mul_of_pos_right hX h2s
      have a2 : B3 ^ n * 2 ^ s ≤ Y * 2 ^ s * B3 ^ (n - l + 1) := by
        rw [e, Nat.mul_assoc, Nat.mul_comm (B3 ^ (n - l + 1)), ← Nat.mul_assoc]
        exact Nat.mul_le_mul_right _ (Nat.mul_le_mul_right _ hY1)
      exact Nat.lt_of_lt_of_le a1 a2
    rw [iI_sub, iI_add, show (n : Int) - (l : Int) + 1 = ((n - l + 1 : Nat) : Int) by omega]
    have := l_div292 M hl1 hln hn hs hY1 hY2 hX (n - l + 1) (sI g m 7 (iI ((n - l + 1 : Nat) : Int))) (Nat.le_refl _) (f.wf (Or.inr rfl)) ?_ (fun j hj => ?_) (fun j hj => ?_) (fun j hj => ?_) (fun j hj hj2 => by omega)
    · rw [show ((n - l + 1 : Nat) : Int) - 1 = (n : Int) - (l : Int) by omega] at this
      exact this
    · rw [mI_sI ⟨by omega, by omega⟩, if_pos ⟨rfl, rfl⟩]
    · rw [mI_sI ⟨by omega, by omega⟩, if_neg (fun z => by omega)]
      exact hby j hj
    · rw [mI_sI ⟨by omega, by omega⟩, if_neg (fun z => by omega)]
      exact h2 j (by omega) (by omega)
    · rw [mI_sI ⟨by omega, by omega⟩, if_neg (fun z => by omega), Nat.mod_eq_of_lt hlt, dg_div]
      exact h2 _ (by omega) (by omega)
  | succ k ih =>
    intro g hk f hby h1 h2
    have Mg := M.sk f.1
    obtain ⟨e1, e2⟩ := shl_dg (V := X) (s := s) (k := k) (by omega)
    have t1 : dg B3 X k < 1073741824 := dg_lt (by decide)
    have t3 : dg B3 (X * 2 ^ s) k < 1073741824 := dg_lt (by decide)
    have l268 : ∀ y3 : Nat, y3 = (if k = 0 then 0 else dg B3 X (k - 1) / 2 ^ (30 - s)) → J 173 268 0 0 [.ref m, uu, uu, .int (iI n), .int (iI l), .int (iI s), .int (iI k)] [.int (iI y3), .int (iI ((dg B3 X k % 2 ^ (30 - s) * 2 ^ s : Nat) : Int)), .int (iI k), .ref (m + 2)] g (dvQ m X Y h) := by
      intro y3 hy
      rw [← hy] at e1 e2
      refine j_M_divide_268 ⟨ix_of Mg.a3.2 (by omega) (by omega) (by decide), ?_⟩
      rw [iI_or e2 (by rw [← e1]; omega), ← e1, iI_cl (by omega) (by omega), Int.toNat_natCast, iI_add, show (k : Int) + (-1) = (k : Int) - 1 by omega]
      refine ih _ (by omega) (f.wq (Or.inl rfl)) (fun j hj => ?_) (fun j hj => ?_) (fun j hj hj2 => ?_)
      · rw [mI_sI (rI_nat t3), if_neg (fun z => by omega)]
        exact hby j hj
      · rw [mI_sI (rI_nat t3), if_neg (fun z => by omega)]
        exact h1 j (by omega)
      · rw [mI_sI (rI_nat t3)]
        by_cases ej : j = k
        · rw [if_pos ⟨rfl, ej⟩, ej]
        · rw [if_neg (fun z => by omega)]
          exact h2 j (by omega) (by omega)
    have e4 : ((dg B3 X k * 2 ^ s : Nat) : Int) % 1073741824 = ((dg B3 X k % 2 ^ (30 - s) * 2 ^ s : Nat) : Int) := by
      rw [← shl_m (H := dg B3 X k) (s := s) (by omega)]
      generalize dg B3 X k * 2 ^ s = z
      omega
    refine j_M_divide_215 ?_
    rw [Mg.a3.1, show ((k + 1 : Nat) : Int) - 1 = (k : Int) by omega, gI_q (by omega) (by omega), Int.toNat_natCast, h1 k (by omega), iI_shl _ s (by omega), iI_mask, e4, iI_0]
    simp only [iI_sub]
    rw [iI_lt ⟨by omega, by omega⟩ ⟨by omega, by omega⟩, iI_le ⟨by omega, by omega⟩ ⟨by omega, by omega⟩, iI_le ⟨by omega, by omega⟩ ⟨by omega, by omega⟩]
    refine ⟨fun c => by omega, fun c => ⟨Mg.1, Mg.1, ixL_of Mg.a3.2 (by omega) (by omega) (by decide), fun c2 => j_M_divide_267 (l268 0 ?_), fun c2 => ⟨fun c3 => j_M_divide_267 (l268 0 ?_), fun c3 => ⟨Mg.1, ixL_of Mg.a3.2 (by omega) (by omega) (by decide), ?_⟩⟩⟩⟩
    · rw [if_pos (by omega)]
    · obtain rfl : s = 0 := by omega
      have tk : dg B3 X (k - 1) < 1073741824 := dg_lt (by decide)
      rw [if_neg (by omega), Nat.div_eq_of_lt tk]
    · have tk : dg B3 X (k - 1) < 1073741824 := dg_lt (by decide)
      rw [gI_q (by omega) (by omega), show ((k : Int) - 1).toNat = k - 1 by omega, h1 (k - 1) (by omega), show (30 : Int) - (s : Int) = ((30 - s : Nat) : Int) by omega, iI_shr _ _ (by omega) (by omega)]
      exact l268 _ (by rw [if_neg (by omega)])
theorem l_div114 (M : Mo m h) {l s n b : Nat} (hb : b + l < 400000) (hbl : ∀ k, k < l → mm h m (b + 1 + k) = dg B3 Y k) (hl1 : 1 ≤ l) (hln : l ≤ n) (hn : n ≤ 398) (hs : s ≤ 29) (hY1 : B3 ^ (l - 1) ≤ Y) (hY2 : Y * 2 ^ s < B3 ^ l) (hX : X < B3 ^ n) :
    ∀ (d k : Nat) (g : jHp), k + d = l → fd m h g → (∀ j, j < k → mI g (m + 3) j = dg B3 (Y * 2 ^ s) j) → (∀ j, j < n → mI g (m + 2) j = dg B3 X j) →
    J 173 114 0 0 [.ref m, uu, .int (iI b), .int (iI n), .int (iI l), .int (iI s), .int (iI k)] [] g (dvQ m X Y h) := by
  intro d
  induction d with
  | zero =>
    intro k g hk f h1 h2
    obtain rfl : k = l := by omega
    have Mg := M.sk f.1
    have e0 : dg B3 X n = 0 := dg_high (by decide) ((sz_le (by decide)).mpr hX)
    obtain ⟨e1, e2⟩ := shl_dg (V := X) (s := s) (k := n) (by omega)
    rw [e0, Nat.zero_mod, Nat.zero_mul, Nat.zero_add, if_neg (show ¬ n = 0 by omega)] at e1
    have tk : dg B3 X (n - 1) < 1073741824 := dg_lt (by decide)
    have t3 : dg B3 (X * 2 ^ s) n < 1073741824 := dg_lt (by decide)
    have l209 : ∀ y : Nat, y = dg B3 (X * 2 ^ s) n → J 173 209 0 0 [.ref m, uu, uu, .int (iI n), .int (iI k), .int (iI s), uu] [.int (iI y), .int (iI n), .ref (m + 2)] g (dvQ m X Y h) := by
      intro y hy
      refine j_M_divide_209 ⟨ix_of Mg.a3.2 (by omega) (by omega) (by decide), ?_⟩
      rw [hy, iI_cl (by omega) (by omega), Int.toNat_natCast, iI_sub]
      refine l_div215 M hl1 hln hn hs hY1 hY2 hX n _ (Nat.le_refl n) (f.wq (Or.inl rfl)) (fun j hj => ?_) (fun j hj => ?_) (fun j hj hj2 => ?_)
      · rw [mI_sI (rI_nat t3), if_neg (fun z => by omega)]
        exact h1 j hj
      · rw [mI_sI (rI_nat t3), if_neg (fun z => by omega)]
        exact h2 j hj
      · rw [mI_sI (rI_nat t3), if_pos ⟨rfl, by omega⟩, show j = n by omega]
    refine j_M_divide_114 ⟨fun _ => j_M_divide_181 ?_, fun c => absurd ((iI_le ⟨by omega, by omega⟩ ⟨by omega, by omega⟩).mpr (by omega)) c⟩
    rw [Mg.a3.1, iI_sub, iI_sub, iI_0, iI_le ⟨by omega, by omega⟩ ⟨by omega, by omega⟩]
    refine ⟨Mg.1, fun c => j_M_divide_208 (l209 0 ?_), fun c => ⟨Mg.1, ixL_of Mg.a3.2 (by omega) (by omega) (by decide), ?_⟩⟩
    · obtain rfl : s = 0 := by omega
      rw [e1, Nat.div_eq_of_lt tk]
    · rw [gI_q (by omega) (by omega), show ((n : Int) - 1).toNat = n - 1 by omega, h2 (n - 1) (by omega), show (30 : Int) - (s : Int) = ((30 - s : Nat) : Int) by omega, iI_shr _ _ (by omega) (by omega)]
      exact l209 _ e1.symm
  | succ d ih =>
    intro k g hk f h1 h2
    have Mg := M.sk f.1
    obtain ⟨e1, e2⟩ := shl_dg (V := Y) (s := s) (k := k) (by omega)
    have t1 : dg B3 Y k < 1073741824 := dg_lt (by decide)
    have t3 : dg B3 (Y * 2 ^ s) k < 1073741824 := dg_lt (by decide)
    have l173 : ∀ y3 : Nat, y3 = (if k = 0 then 0 else dg B3 Y (k - 1) / 2 ^ (30 - s)) → J 173 173 0 0 [.ref m, uu, .int (iI b), .int (iI n), .int (iI l), .int (iI s), .int (iI k)] [.int (iI y3), .int (iI ((dg B3 Y k % 2 ^ (30 - s) * 2 ^ s : Nat) : Int)), .int (iI k), .ref (m + 3)] g (dvQ m X Y h) := by
      intro y3 hy
      rw [← hy] at e1 e2
      refine j_M_divide_173 ⟨ix_of Mg.a4.2 (by omega) (by omega) (by decide), ?_⟩
      rw [iI_or e2 (by rw [← e1]; omega), ← e1, iI_cl (by omega) (by omega), Int.toNat_natCast, iI_add]
      refine ih (k + 1) _ (by omega) (f.wq (Or.inr (Or.inl rfl))) (fun j hj => ?_) (fun j hj => ?_)
      · rw [mI_sI (rI_nat t3)]
        by_cases ej : j = k
        · rw [if_pos ⟨rfl, ej⟩, ej]
        · rw [if_neg (fun z => by omega)]
          exact h1 j (by omega)
      · rw [mI_sI (rI_nat t3), if_neg (fun z => by omega)]
        exact h2 j hj
    have e4 : ((dg B3 Y k * 2 ^ s : Nat) : Int) % 1073741824 = ((dg B3 Y k % 2 ^ (30 - s) * 2 ^ s : Nat) : Int) := by
      rw [← shl_m (H := dg B3 Y k) (s := s) (by omega)]
      generalize dg B3 Y k * 2 ^ s = z
      omega
    refine j_M_divide_114 ?_
    rw [Mg.a4.1, Mg.r1]
    simp only [iI_add, iI_sub]
    rw [gI_at (by omega) (by omega), show ((b : Int) + 1 + (k : Int)).toNat = b + 1 + k by omega, fd_mm f, hbl k (by omega), iI_shl _ s (by omega), iI_mask, e4, iI_0, iI_le ⟨by omega, by omega⟩ ⟨by omega, by omega⟩, iI_le ⟨by omega, by omega⟩ ⟨by omega, by omega⟩, iI_le ⟨by omega, by omega⟩ ⟨by omega, by omega⟩]
    refine ⟨fun c => by omega, fun c => ⟨Mg.1, Mg.1, Mg.ixL (by omega) (by omega), fun c2 => j_M_divide_172 (l173 0 ?_), fun c2 => ⟨fun c3 => j_M_divide_172 (l173 0 ?_), fun c3 => ⟨Mg.1, Mg.ixL (by omega) (by omega), ?_⟩⟩⟩⟩
    · rw [if_pos (by omega)]
    · obtain rfl : s = 0 := by omega
      have tk : dg B3 Y (k - 1) < 1073741824 := dg_lt (by decide)
      rw [if_neg (by omega), Nat.div_eq_of_lt tk]
    · have tk : dg B3 Y (k - 1) < 1073741824 := dg_lt (by decide)
      rw [gI_at (by omega) (by omega), show ((b : Int) + (k : Int)).toNat = b + 1 + (k - 1) by omega, fd_mm f, hbl (k - 1) (by omega), show (30 : Int) - (s : Int) = ((30 - s : Nat) : Int) by omega, iI_shr _ _ (by omega) (by omega)]
      exact l173 _ (by rw [if_neg (by omega)])
theorem l_div88 (M : Mo m h) {l n b : Nat} (hb : b + l < 400000) (hbl : ∀ k, k < l → mm h m (b + 1 + k) = dg B3 Y k) (hl : sz B3 Y = l) (hl1 : 1 ≤ l) (hln : l ≤ n) (hn : n ≤ 398) (hX : X < B3 ^ n) (g : jHp) (f : fd m h g) (h2 : ∀ j, j < n → mI g (m + 2) j = dg B3 X j) :
    ∀ (d s : Nat), s + d = 29 → dg B3 Y (l - 1) * 2 ^ s < 1073741824 → J 173 88 0 0 [.ref m, uu, .int (iI b), .int (iI n), .int (iI l), .int (iI s), uu] [] g (dvQ m X Y h) := by
  have hY0 : 0 < Y := by
    apply (sz_pos (B := B3) (by decide)).mp
    omega
  have ht := dg_top (B := B3) (by decide) hY0
  have hY1 := sz_low (B := B3) (by decide) hY0
  have hY3 := sz_lt (B := B3) (v := Y) (by decide)
  rw [hl] at ht hY1 hY3
  have Mg := M.sk f.1
  have ej : jc 0 536870912 = 536870912 := by decide
  have hdl : Y / B3 ^ (l - 1) = dg B3 Y (l - 1) := by
    have := div_succ B3 Y (l - 1)
    rw [show l - 1 + 1 = l by omega, Nat.div_eq_of_lt hY3] at this
    omega
  intro d
  induction d with
  | zero =>
    intro s hs ht2
    obtain rfl : s = 29 := by omega
    refine j_M_divide_88 ?_
    rw [Mg.r1, iI_add, gI_at (by omega) (by omega), show ((b : Int) + (l : Int)).toNat = b + 1 + (l - 1) by omega, fd_mm f, hbl (l - 1) (by omega), show iI ((29 : Nat) : Int) &&& 31 = iI ((29 : Nat) : Int) &&& 31 from rfl, iI_shl _ 29 (by omega), ej, iI_le ⟨by omega, by omega⟩ ⟨by omega, by omega⟩]
    refine ⟨Mg.1, Mg.ixL (by omega) (by omega), fun c => j_M_divide_111 (l_div114 M hb hbl hl1 hln hn (by omega) hY1 ?_ hX l 0 g (by omega) f (fun j hj => by omega) h2), fun c => absurd (by omega) c⟩
    have e1 := Nat.div_add_mod Y (B3 ^ (l - 1))
    have e2 := Nat.mod_lt Y (show 0 < B3 ^ (l - 1) from Nat.pow_pos (by decide))
    have e3 : Y < 2 * B3 ^ (l - 1) := by
      rw [hdl, show dg B3 Y (l - 1) = 1 by omega] at e1
      omega
    have e4 : B3 ^ l = 2 * B3 ^ (l - 1) * 2 ^ 29 := by
      conv => lhs; rw [show l = l - 1 + 1 by omega, Nat.pow_succ]
      generalize B3 ^ (l - 1) = z
      show z * 1073741824 = 2 * z * 536870912
      omega
    rw [e4]
    exact Nat.mul_lt_mul_of_pos_right e3 (by decide)
  | succ d ih =>
    intro s hs ht2
    have hp2 : 2 ^ (s + 1) = 2 * 2 ^ s := by rw [Nat.pow_succ, Nat.mul_comm]
    refine j_M_divide_88 ?_
    rw [Mg.r1, iI_add, gI_at (by omega) (by omega), show ((b : Int) + (l : Int)).toNat = b + 1 + (l - 1) by omega, fd_mm f, hbl (l - 1) (by omega), iI_shl _ s (by omega), ej, iI_le ⟨by omega, by omega⟩ ⟨by omega, by omega⟩, iI_add]
    refine ⟨Mg.1, Mg.ixL (by omega) (by omega), fun c => j_M_divide_111 (l_div114 M hb hbl hl1 hln hn (by omega) hY1 ?_ hX l 0 g (by omega) f (fun j hj => by omega) h2), fun c => ih (s + 1) (by omega) ?_⟩
    · have e1 := Nat.div_add_mod Y (B3 ^ (l - 1))
      have e2 := Nat.mod_lt Y (show 0 < B3 ^ (l - 1) from Nat.pow_pos (by decide))
      have e3 : Y < B3 ^ (l - 1) * (dg B3 Y (l - 1) + 1) := by
        rw [hdl] at e1
        rw [Nat.mul_add, Nat.mul_one]
        omega
      have e5 : dg B3 Y (l - 1) + 1 ≤ 2 ^ (30 - s) := by
        have e6 := pw_30 (s := s) (by omega)
        rw [e6] at ht2
        exact Nat.lt_of_mul_lt_mul_right ht2
      have e4 : B3 ^ l = B3 ^ (l - 1) * 2 ^ (30 - s) * 2 ^ s := by
        rw [Nat.mul_assoc, ← pw_30 (s := s) (by omega)]
        conv => lhs; rw [show l = l - 1 + 1 by omega, Nat.pow_succ]
      rw [e4]
      exact Nat.mul_lt_mul_of_pos_right (Nat.lt_of_lt_of_le e3 (Nat.mul_le_mul_left _ e5)) (Nat.pow_pos (by decide))
    · rw [hp2, ← Nat.mul_assoc, Nat.mul_comm _ 2, Nat.mul_assoc]
      omega
end DIV
theorem c_divide {m a b : Nat} {h : jHp} {x y : Int} (M : Mo m h) (na : NU m h a x) (nb : NU m h b y) (hy : y ≠ 0) (hs : sz B3 x.natAbs ≤ 398) :
    jRet 173 0 0 [.ref m, .int (iI a), .int (iI b)] h (dvQ m x.natAbs y.natAbs h) := by
  have hna := na.1
  have hnb := nb.1
  obtain ⟨X, hX⟩ : ∃ X, X = x.natAbs := ⟨_, rfl⟩
  obtain ⟨Y, hY⟩ : ∃ Y, Y = y.natAbs := ⟨_, rfl⟩
  obtain ⟨n, hn⟩ : ∃ n, n = sz B3 X := ⟨_, rfl⟩
  obtain ⟨l, hl⟩ : ∃ l, l = sz B3 Y := ⟨_, rfl⟩
  have hY0 : 0 < Y := by omega
  have hl1 : 1 ≤ l := by
    rw [hl]
    exact (sz_pos (by decide)).mpr hY0
  rw [← hX, ← hY]
  rw [← hX, ← hn] at hs hna
  rw [← hY, ← hl] at hnb
  have hXn : X < B3 ^ n := by
    rw [hn]
    exact sz_lt (by decide)
  have hYl : Y < B3 ^ l := by
    rw [hl]
    exact sz_lt (by decide)
  have l56 : ∀ g : jHp, fd m h g → mI g m 6 = n → mI g m 7 = 0 → (∀ j, j < n → mI g (m + 2) j = dg B3 X j) → J 173 56 0 0 [.ref m, .int (iI a), .int (iI b), .int (iI n), .int (iI l), uu, uu] [] g (dvQ m X Y h) := by
    intro g f h6 h7 h2
    have Mg := M.sk f.1
    refine j_M_divide_56 ⟨Mg.1, jRet_mono (c_cmp Mg (fd_nu f na) (fd_nu f nb)) ?_⟩
    intro v1 h1 q1
    obtain ⟨e1, e2⟩ := q1
    rw [e2]
    rw [← hX, ← hY] at e1
    have rc : rI (cmpN X Y) := by
      unfold cmpN rI
      split
      · omega
      · split <;> omega
    refine ⟨_, e1, ?_⟩
    rw [iI_0, iI_le ⟨by omega, by omega⟩ rc]
    refine ⟨fun c => ?_, fun c => ?_⟩
    · have hXY : Y ≤ X := by
        unfold cmpN at c
        split at c <;> omega
      have hln : l ≤ n := by
        rw [hl, hn]
        exact sz_mono (by decide) hXY
      refine j_M_divide_66 ?_
      rw [iI_eq ⟨by omega, by omega⟩ ⟨by omega, by omega⟩]
      refine ⟨fun c1 => j_M_divide_85 ?_, fun c1 => ?_⟩
      · have ht : dg B3 Y (l - 1) * 2 ^ 0 < 1073741824 := by
          rw [Nat.pow_zero, Nat.mul_one]
          exact dg_lt (by decide)
        exact l_div88 M hnb (fun k hk => by rw [nb.2.2 k (by rw [← hY, ← hl]; exact hk), hY]) hl.symm hl1 hln hs hXn g f h2 29 0 (by omega) ht
      · have hl1' : l = 1 := by omega
        have hYd : dg B3 Y 0 = Y := by
          unfold dg
          rw [Nat.pow_zero, Nat.div_one, Nat.mod_eq_of_lt (by rw [hl1', Nat.pow_one] at hYl; exact hYl)]
        have hYb : Y < 1073741824 := by
          rw [← hYd]
          exact dg_lt (by decide)
        have hm : mm h m (b + 1 + 0) = Y := by
          rw [nb.2.2 0 (by rw [← hY, ← hl]; omega), ← hY, hYd]
        rw [Mg.r1, iI_add, gI_at (by omega) (by omega), show ((b : Int) + 1).toNat = b + 1 + 0 by omega, fd_mm f, hm]
        refine ⟨Mg.1, Mg.ixL (by omega) (by omega), Mg.1, jRet_mono (c_divideShort Mg ⟨h6, (by omega), hXn, h2⟩ (by omega) hY0 hYb) ?_⟩
        intro v2 h3 q2
        obtain ⟨e3, e4, e5, e6⟩ := q2
        refine ⟨e3, rfl, fd_tr f e4, e5, ?_⟩
        have hm1 : X % Y < Y := Nat.mod_lt X hY0
        have e7 : sz B3 (X % Y) = if X % Y = 0 then 0 else 1 := by
          by_cases z : X % Y = 0
          · rw [if_pos z, z, sz_0]
          · have hlt : X % Y < B3 ^ 1 := by
              rw [Nat.pow_one]
              exact Nat.lt_trans hm1 hYb
            rw [if_neg z]
            have a1 := (sz_le (B := B3) (by decide)).mpr hlt
            have a2 := (sz_pos (B := B3) (v := X % Y) (by decide)).mpr (by omega)
            omega
        rw [e7]
        exact e6
    · have hXY : X < Y := by
        unfold cmpN at c
        split at c
        · assumption
        · split at c <;> omega
      refine ⟨rfl, f, ?_, ?_⟩
      · rw [Nat.div_eq_of_lt hXY]
        exact ⟨by rw [h7, sz_0]; rfl, fun k hk => by rw [sz_0] at hk; omega⟩
      · rw [Nat.mod_eq_of_lt hXY, ← hn]
        exact ⟨h6, (by omega), hXn, h2⟩
  have l16 : ∀ (d k : Nat) (g : jHp), k + d = n → fd m h g → (∀ j, j < k → mI g (m + 2) j = dg B3 X j) → J 173 16 0 0 [.ref m, .int (iI a), .int (iI b), .int (iI n), .int (iI l), .int (iI k), uu] [] g (dvQ m X Y h) := by
    intro d
    induction d with
    | zero =>
      intro k g hk f h1
      obtain rfl : k = n := by omega
      have Mg := M.sk f.1
      refine j_M_divide_16 ⟨fun _ => j_M_divide_46 ⟨Mg.1, Mg.sI.1, ?_⟩, fun c => absurd ((iI_le ⟨by omega, by omega⟩ ⟨by omega, by omega⟩).mpr (by omega)) c⟩
      refine l56 _ ((f.wf (Or.inl rfl)).wf (Or.inr rfl)) ?_ ?_ (fun j hj => ?_)
      · rw [mI_sI ⟨by omega, by omega⟩, if_neg (fun z => by omega), mI_sI ⟨by omega, by omega⟩, if_pos ⟨rfl, rfl⟩]
      · rw [mI_sI ⟨by omega, by omega⟩, if_pos ⟨rfl, rfl⟩]
      · rw [mI_sI ⟨by omega, by omega⟩, if_neg (fun z => by omega), mI_sI ⟨by omega, by omega⟩, if_neg (fun z => by omega)]
        exact h1 j hj
    | succ d ih =>
      intro k g hk f h1
      have Mg := M.sk f.1
      have t1 : dg B3 X k < 1073741824 := dg_lt (by decide)
      refine j_M_divide_16 ?_
      rw [Mg.a3.1, Mg.r1, iI_add, iI_add, iI_add, gI_at (by omega) (by omega), show ((a : Int) + 1 + (k : Int)).toNat = a + 1 + k by omega, fd_mm f, na.2.2 k (by rw [← hX, ← hn]; omega), ← hX, iI_cl (by omega) (by omega), Int.toNat_natCast, iI_le ⟨by omega, by omega⟩ ⟨by omega, by omega⟩]
      refine ⟨fun c => by omega, fun c => ⟨Mg.1, Mg.1, Mg.ixL (by omega) (by omega), ix_of Mg.a3.2 (by omega) (by omega) (by decide), ?_⟩⟩
      refine ih (k + 1) _ (by omega) (f.wq (Or.inl rfl)) (fun j hj => ?_)
      rw [mI_sI (rI_nat t1)]
      by_cases ej : j = k
      · rw [if_pos ⟨rfl, ej⟩, ej]
      · rw [if_neg (fun z => by omega)]
        exact h1 j (by omega)
  refine jRet_of (by decide) (by decide) (Nat.le_of_ble_eq_true rfl) (j_M_divide_0 ⟨M.1, jRet_mono (c_size M na) ?_⟩)
  intro v1 h1 q1
  obtain ⟨e1, e2⟩ := q1
  rw [e2]
  rw [← hX, ← hn] at e1
  refine ⟨_, e1, M.1, jRet_mono (c_size M nb) ?_⟩
  intro v2 h3 q2
  obtain ⟨e3, e4⟩ := q2
  rw [e4]
  rw [← hY, ← hl] at e3
  exact ⟨_, e3, l16 n 0 h (by omega) fd.rf (fun j hj => by omega)⟩
