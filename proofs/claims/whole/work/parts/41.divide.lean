/-! divide: quotient and rest of two numbers -/
theorem fd_at {m p k : Nat} {h h' : jHp} (f : fd m h h') (h2 : p ≠ m + 2) (h3 : p ≠ m + 3) (h4 : p ≠ m + 4) (hm : ¬ (p = m ∧ (k = 6 ∨ k = 7))) : mI h' p k = mI h p k := by
  unfold mI
  rw [f.2 p k h2 h3 h4 hm]
theorem fd_mm {m k : Nat} {h h' : jHp} (f : fd m h h') : mm h' m k = mm h m k := fd_at f (by omega) (by omega) (by omega) (fun z => by omega)
theorem fd_nu {m a : Nat} {h h' : jHp} {v : Int} (f : fd m h h') (n : NU m h a v) : NU m h' a v := ⟨n.1, by rw [fd_mm f]; exact n.2.1, fun k hk => by rw [fd_mm f]; exact n.2.2 k hk⟩
theorem fd_fs {m q n : Nat} {h g g' : jHp} (f : fd m h g) (s : fs m q n g g') : fd m h g' := ⟨f.1.tr s.1, fun p k a b c d => (s.2 p k (fun z => a z.1)).trans (f.2 p k a b c d)⟩
def dvQ (m X Y : Nat) (h : jHp) : jQ := fun r h' => r = none ∧ fd m h h' ∧ QF m h' (X / Y) ∧ LF m h' (sz B3 (X % Y)) (X % Y)
section DIV
variable {m X Y : Nat} {h : jHp}
theorem l_div428 (M : Mo m h) {l : Nat} (hl : l ≤ 399) : ∀ (n : Nat) (g : jHp), n ≤ l → fd m h g → QF m g (X / Y) → mI g m 6 = n → X % Y < B3 ^ n → (∀ k, k < l → mI g (m + 2) k = dg B3 (X % Y) k) → J 173 428 0 0 [.ref m, uu, uu, uu, uu, uu, uu] [] g (dvQ m X Y h) := by
  intro n
  induction n with
  | zero =>
    intro g hn f hQ h6 hR hk
    have Mg := M.sk f.1
    refine j_M_divide_428 ?_
    rw [gI_mI g m 6, h6, iI_0, iI_le ⟨by omega, by omega⟩ ⟨by omega, by omega⟩]
    refine ⟨Mg.1, fun _ => j_M_divide_462 ⟨rfl, f, hQ, ?_⟩, fun c => absurd (by omega) c⟩
    rw [sz_eq (B := B3) (k := 0) (by decide) hR (Or.inl rfl)]
    exact ⟨h6, (by omega), hR, fun k hk => by omega⟩
  | succ n ih =>
    intro g hn f hQ h6 hR hk
    have Mg := M.sk f.1
    refine j_M_divide_428 ?_
    have dq : dg B3 (X % Y) n < 1073741824 := dg_lt (by decide)
    rw [gI_mI g m 6, h6, Mg.a3.1]
    simp only [iI_sub]
    rw [show ((n + 1 : Nat) : Int) - 1 = (n : Int) by omega, gI_q (by omega) (by omega), Int.toNat_natCast, hk n (by omega), iI_0, iI_le ⟨by omega, by omega⟩ ⟨by omega, by omega⟩, iI_eq ⟨by omega, by omega⟩ ⟨by omega, by omega⟩]
    refine ⟨Mg.1, fun c => by omega, fun c => ⟨Mg.1, Mg.1, ixL_of Mg.a3.2 (by omega) (by omega) (by decide), fun c2 => j_M_divide_462 ⟨rfl, f, hQ, ?_⟩, fun c2 => ⟨Mg.1, Mg.1, ?_⟩⟩⟩
    · rw [sz_eq (B := B3) (k := n + 1) (by decide) hR (Or.inr (by rw [Nat.add_sub_cancel]; omega))]
      exact ⟨h6, (by omega), hR, fun k hk2 => hk k (by omega)⟩
    · refine ih _ (by omega) (f.wf (Or.inl rfl)) ⟨?_, fun k hk2 => ?_⟩ ?_ (lt_down (by decide) hR (by omega)) (fun k hk2 => ?_)
      · rw [mI_sI ⟨by omega, by omega⟩, if_neg (fun z => by omega)]
        exact hQ.1
      · rw [mI_sI ⟨by omega, by omega⟩, if_neg (fun z => by omega)]
        exact hQ.2 k hk2
      · rw [mI_sI ⟨by omega, by omega⟩, if_pos ⟨rfl, rfl⟩]
      · rw [mI_sI ⟨by omega, by omega⟩, if_neg (fun z => by omega)]
        exact hk k hk2
theorem l_div355 (M : Mo m h) {l s : Nat} (hl : l ≤ 399) (hs : s ≤ 29) (hR : X % Y < B3 ^ l) (hR2 : X % Y * 2 ^ s < B3 ^ l) : ∀ (d k : Nat) (g : jHp), k + d = l → fd m h g → QF m g (X / Y) → (∀ j, j < k → mI g (m + 2) j = dg B3 (X % Y) j) → (∀ j, k ≤ j → j < l → mI g (m + 2) j = dg B3 (X % Y * 2 ^ s) j) →
    J 173 355 0 0 [.ref m, uu, uu, uu, .int (iI l), .int (iI s), .int (iI k)] [] g (dvQ m X Y h) := by
  intro d
  induction d with
  | zero =>
    intro k g hk f hQ h1 h2
    have Mg := M.sk f.1
    obtain rfl : k = l := by omega
    refine j_M_divide_355 ⟨fun _ => j_M_divide_422 ⟨Mg.1, ?_⟩, fun c => absurd ((iI_le ⟨by omega, by omega⟩ ⟨by omega, by omega⟩).mpr (by omega)) c⟩
    refine l_div428 M hl k _ (Nat.le_refl k) (f.wf (Or.inl rfl)) ⟨?_, fun j hj => ?_⟩ ?_ hR (fun j hj => ?_)
    · rw [mI_sI ⟨by omega, by omega⟩, if_neg (fun z => by omega)]
      exact hQ.1
    · rw [mI_sI ⟨by omega, by omega⟩, if_neg (fun z => by omega)]
      exact hQ.2 j hj
    · rw [mI_sI ⟨by omega, by omega⟩, if_pos ⟨rfl, rfl⟩]
    · rw [mI_sI ⟨by omega, by omega⟩, if_neg (fun z => by omega)]
      exact h1 j hj
  | succ d ih =>
    intro k g hk f hQ h1 h2
    have Mg := M.sk f.1
    obtain ⟨e1, e2⟩ := shr_dg (R := X % Y) (s := s) (k := k) (by omega)
    have t1 : dg B3 (X % Y * 2 ^ s) k < 1073741824 := dg_lt (by decide)
    have t2 : dg B3 (X % Y * 2 ^ s) (k + 1) < 1073741824 := dg_lt (by decide)
    have t3 : dg B3 (X % Y) k < 1073741824 := dg_lt (by decide)
    have l414 : ∀ y3 : Nat, y3 = dg B3 (X % Y * 2 ^ s) (k + 1) % 2 ^ s * 2 ^ (30 - s) → J 173 414 0 0 [.ref m, uu, uu, uu, .int (iI l), .int (iI s), .int (iI k)] [.int (iI y3), .int (iI ((dg B3 (X % Y * 2 ^ s) k / 2 ^ s : Nat) : Int)), .int (iI k), .ref (m + 2)] g (dvQ m X Y h) := by
      intro y3 hy
      refine j_M_divide_414 ⟨ix_of Mg.a3.2 (by omega) (by omega) (by decide), ?_⟩
      rw [hy, Int32.or_comm, iI_or e2 (by rw [← e1]; omega), ← e1, iI_cl (by omega) (by omega), Int.toNat_natCast, iI_add]
      refine ih (k + 1) _ (by omega) (f.wq (Or.inl rfl)) ⟨?_, fun j hj => ?_⟩ (fun j hj => ?_) (fun j hj hj2 => ?_)
      · rw [mI_sI (rI_nat t3), if_neg (fun z => by omega)]
        exact hQ.1
      · rw [mI_sI (rI_nat t3), if_neg (fun z => by omega)]
        exact hQ.2 j hj
      · rw [mI_sI (rI_nat t3)]
        by_cases ej : j = k
        · rw [if_pos ⟨rfl, ej⟩, ej]
        · rw [if_neg (fun z => by omega)]
          exact h1 j (by omega)
      · rw [mI_sI (rI_nat t3), if_neg (fun z => by omega)]
        exact h2 j (by omega) (by omega)
    refine j_M_divide_355 ?_
    rw [Mg.a3.1, gI_q (by omega) (by omega), Int.toNat_natCast, h2 k (by omega) (by omega), iI_shr _ s (by omega) (by omega), iI_0]
    simp only [iI_add, iI_sub]
    rw [iI_le ⟨by omega, by omega⟩ ⟨by omega, by omega⟩, iI_le ⟨by omega, by omega⟩ ⟨by omega, by omega⟩, iI_le ⟨by omega, by omega⟩ ⟨by omega, by omega⟩]
    refine ⟨fun c => by omega, fun c => ⟨Mg.1, Mg.1, ixL_of Mg.a3.2 (by omega) (by omega) (by decide), fun c2 => j_M_divide_413 (l414 0 ?_), fun c2 => ⟨fun c3 => j_M_divide_413 (l414 0 ?_), fun c3 => ⟨Mg.1, ixL_of Mg.a3.2 (by omega) (by omega) (by decide), ?_⟩⟩⟩⟩
    · rw [show dg B3 (X % Y * 2 ^ s) (k + 1) = 0 from dg_high (by decide) ((sz_le (by decide)).mpr (Nat.lt_of_lt_of_le hR2 (Nat.pow_le_pow_right (by decide) (by omega)))), Nat.zero_mod, Nat.zero_mul]
    · obtain rfl : s = 0 := by omega
      rw [Nat.pow_zero, Nat.mod_one, Nat.zero_mul]
    · rw [gI_q (by omega) (by omega), show ((k : Int) + 1).toNat = k + 1 by omega, h2 (k + 1) (by omega) (by omega), show (30 : Int) - (s : Int) = ((30 - s : Nat) : Int) by omega, iI_shl _ _ (by omega), iI_mask]
      have e3 := shl_m (H := dg B3 (X % Y * 2 ^ s) (k + 1)) (s := 30 - s) (by omega)
      rw [show 30 - (30 - s) = s by omega] at e3
      have e4 : ((dg B3 (X % Y * 2 ^ s) (k + 1) * 2 ^ (30 - s) : Nat) : Int) % 1073741824 = ((dg B3 (X % Y * 2 ^ s) (k + 1) % 2 ^ s * 2 ^ (30 - s) : Nat) : Int) := by
        rw [← e3]
        generalize dg B3 (X % Y * 2 ^ s) (k + 1) * 2 ^ (30 - s) = z
        omega
      rw [e4]
      exact l414 _ rfl
theorem l_div318 (M : Mo m h) {l s n : Nat} (hl : l ≤ 399) (hn : n ≤ 399) (hs : s ≤ 29) (hR : X % Y < B3 ^ l) (hR2 : X % Y * 2 ^ s < B3 ^ l) : ∀ (q : Nat) (g : jHp), q ≤ n → fd m h g → mI g m 7 = q → X / Y < B3 ^ q → (∀ k, k < n → mI g (m + 4) k = dg B3 (X / Y) k) → (∀ j, j < l → mI g (m + 2) j = dg B3 (X % Y * 2 ^ s) j) →
    J 173 318 0 0 [.ref m, uu, uu, uu, .int (iI l), .int (iI s), uu] [] g (dvQ m X Y h) := by
  intro q
  induction q with
  | zero =>
    intro g hqn f hq hv hk h2
    have Mg := M.sk f.1
    refine j_M_divide_318 ?_
    rw [gI_mI, hq, iI_0, iI_le ⟨by omega, by omega⟩ ⟨by omega, by omega⟩]
    refine ⟨Mg.1, fun _ => j_M_divide_352 (l_div355 M hl hs hR hR2 l 0 g (by omega) f ⟨?_, fun k hk2 => hk k ?_⟩ (fun j hj => by omega) (fun j _ hj => h2 j hj)), fun c => absurd (by omega) c⟩
    · rw [hq, sz_eq (B := B3) (k := 0) (by decide) hv (Or.inl rfl)]
    · rw [sz_eq (B := B3) (k := 0) (by decide) hv (Or.inl rfl)] at hk2
      omega
  | succ q ih =>
    intro g hqn f hq hv hk h2
    have Mg := M.sk f.1
    refine j_M_divide_318 ?_
    rw [gI_mI g m 7, hq, Mg.a5.1]
    simp only [iI_sub]
    have dq : dg B3 (X / Y) q < 1073741824 := dg_lt (by decide)
    rw [show ((q + 1 : Nat) : Int) - 1 = (q : Int) by omega, gI_q (by omega) (by omega), Int.toNat_natCast, hk q (by omega), iI_0, iI_le ⟨by omega, by omega⟩ ⟨by omega, by omega⟩, iI_eq ⟨by omega, by omega⟩ ⟨by omega, by omega⟩]
    refine ⟨Mg.1, fun c => by omega, fun c => ⟨Mg.1, Mg.1, ixL_of Mg.a5.2 (by omega) (by omega) (by decide), fun c2 => j_M_divide_352 (l_div355 M hl hs hR hR2 l 0 g (by omega) f ⟨?_, fun k hk2 => hk k ?_⟩ (fun j hj => by omega) (fun j _ hj => h2 j hj)), fun c2 => ⟨Mg.1, Mg.1, ?_⟩⟩⟩
    · rw [hq, sz_eq (B := B3) (k := q + 1) (by decide) hv (Or.inr (by rw [Nat.add_sub_cancel]; omega))]
    · rw [sz_eq (B := B3) (k := q + 1) (by decide) hv (Or.inr (by rw [Nat.add_sub_cancel]; omega))] at hk2
      omega
    · refine ih _ (by omega) (f.wf (Or.inr rfl)) ?_ (lt_down (by decide) hv (by omega)) (fun k hk2 => ?_) (fun j hj => ?_)
      · rw [mI_sI ⟨by omega, by omega⟩, if_pos ⟨rfl, rfl⟩]
      · rw [mI_sI ⟨by omega, by omega⟩, if_neg (fun z => by omega)]
        exact hk k hk2
      · rw [mI_sI ⟨by omega, by omega⟩, if_neg (fun z => by omega)]
        exact h2 j hj
theorem l_div292 (M : Mo m h) {l s n : Nat} (hl1 : 1 ≤ l) (hln : l ≤ n) (hn : n ≤ 398) (hs : s ≤ 29) (hY1 : B3 ^ (l - 1) ≤ Y) (hY2 : Y * 2 ^ s < B3 ^ l) (hX : X < B3 ^ n) :
    ∀ (k : Nat) (g : jHp), k ≤ n - l + 1 → fd m h g → mI g m 7 = ((n - l + 1 : Nat) : Int) → (∀ j, j < l → mI g (m + 3) j = dg B3 (Y * 2 ^ s) j) → (∀ j, j < k → mI g (m + 2) j = dg B3 (X * 2 ^ s) j) → (∀ j, j < l → mI g (m + 2) (k + j) = dg B3 (X * 2 ^ s / B3 ^ k % (Y * 2 ^ s)) j) → (∀ j, k ≤ j → j < n - l + 1 → mI g (m + 4) j = dg B3 (X / Y) j) →
    J 173 292 0 0 [.ref m, uu, uu, uu, .int (iI l), .int (iI s), .int (iI ((k : Int) - 1))] [] g (dvQ m X Y h) := by
  have h2s : 0 < 2 ^ s := Nat.pow_pos (by decide)
  have hY0 : 0 < Y := Nat.lt_of_lt_of_le (Nat.pow_pos (by decide)) hY1
  have hYs : 0 < Y * 2 ^ s := Nat.mul_pos hY0 h2s
  have hYle : Y ≤ Y * 2 ^ s := Nat.le_mul_of_pos_right Y h2s
  have hqe : X * 2 ^ s / (Y * 2 ^ s) = X / Y := Nat.mul_div_mul_right _ _ h2s
  have hre : X * 2 ^ s % (Y * 2 ^ s) = X % Y * 2 ^ s := Nat.mul_mod_mul_right _ _ _
  have hml := Nat.mod_lt X hY0
  have hR2 : X % Y * 2 ^ s < B3 ^ l := by
    rw [← hre]
    exact Nat.lt_trans (Nat.mod_lt _ hYs) hY2
  have hR : X % Y < B3 ^ l := Nat.lt_of_lt_of_le hml (Nat.le_trans hYle (Nat.le_of_lt hY2))
  have hQ : X / Y < B3 ^ (n - l + 1) := by
    rw [Nat.div_lt_iff_lt_mul hY0]
    refine Nat.lt_of_lt_of_le hX ?_
    have : B3 ^ n = B3 ^ (n - l + 1) * B3 ^ (l - 1) := by
      rw [← Nat.pow_add]
      congr 1
      omega
    rw [this]
    exact Nat.mul_le_mul_left _ hY1
  intro k
  induction k with
  | zero =>
    intro g hk f h7 hby h1 h2 h4
    refine j_M_divide_292 ⟨fun _ => l_div318 M (by omega) (show n - l + 1 ≤ 399 by omega) hs hR hR2 (n - l + 1) g (Nat.le_refl _) f h7 hQ (fun j hj => h4 j (by omega) hj) (fun j hj => ?_), fun c => absurd (by rw [iI_0]; exact (iI_lt ⟨by omega, by omega⟩ ⟨by omega, by omega⟩).mpr (by omega)) c⟩
    have := h2 j hj
    rw [Nat.pow_zero, Nat.div_one, hre, Nat.zero_add] at this
    exact this
  | succ k ih =>
    intro g hk f h7 hby h1 h2 h4
    have Mg := M.sk f.1
    have sq := short_q (B := B3) (v := X * 2 ^ s) (d := Y * 2 ^ s) (k := k) (by decide) hYs
    have sr := short_r (B := B3) (v := X * 2 ^ s) (d := Y * 2 ^ s) (k := k) hYs
    obtain ⟨W, hW⟩ : ∃ W, W = X * 2 ^ s / B3 ^ (k + 1) % (Y * 2 ^ s) * B3 + dg B3 (X * 2 ^ s) k := ⟨_, rfl⟩
    have dk : dg B3 (X * 2 ^ s) k < 1073741824 := dg_lt (by decide)
    rw [← hW] at sq sr
    rw [hqe] at sq
    have hrl : X * 2 ^ s / B3 ^ (k + 1) % (Y * 2 ^ s) < Y * 2 ^ s := Nat.mod_lt _ hYs
    have hWl : W < Y * 2 ^ s * 1073741824 := by
      have : (X * 2 ^ s / B3 ^ (k + 1) % (Y * 2 ^ s) + 1) * 1073741824 ≤ Y * 2 ^ s * 1073741824 := Nat.mul_le_mul_right _ hrl
      have hW3 : W = X * 2 ^ s / B3 ^ (k + 1) % (Y * 2 ^ s) * 1073741824 + dg B3 (X * 2 ^ s) k := hW
      generalize X * 2 ^ s / B3 ^ (k + 1) % (Y * 2 ^ s) = z2 at this hW3
      omega
    have hb : 0 < dg B3 (Y * 2 ^ s) (l - 1) := by
      have e : sz B3 (Y * 2 ^ s) = l := by
        apply Nat.le_antisymm
        · exact (sz_le (by decide)).mpr hY2
        · rcases Nat.lt_or_ge (sz B3 (Y * 2 ^ s)) l with c | c
          · have := (sz_le (B := B3) (v := Y * 2 ^ s) (n := l - 1) (by decide)).mp (by omega)
            omega
          · exact c
      have := dg_top (B := B3) (v := Y * 2 ^ s) (by decide) hYs
      rw [e] at this
      omega
    refine j_M_divide_292 ?_
    rw [Mg.a5.1, iI_0, show ((k + 1 : Nat) : Int) - 1 = (k : Int) by omega, iI_lt ⟨by omega, by omega⟩ ⟨by omega, by omega⟩]
    refine ⟨fun c => by omega, fun c => ⟨Mg.1, Mg.1, jRet_mono (c_step (W := W) (D := Y * 2 ^ s) Mg hl1 (by omega) hY2 hb hby (fun j hj => ?_) hWl) ?_⟩⟩
    · rcases j with _ | j
      · show mI g (m + 2) k = _
        rw [h1 k (by omega), hW]
        show ((dg B3 (X * 2 ^ s) k : Nat) : Int) = ((_ / B3 ^ 0 % B3 : Nat) : Int)
        rw [Nat.pow_zero, Nat.div_one, Nat.add_comm, Nat.add_mul_mod_self_right]
        congr 1
        exact (Nat.mod_eq_of_lt dk).symm
      · rw [show k + (j + 1) = k + 1 + j by omega, h2 j (by omega), hW]
        unfold dg
        rw [Nat.pow_succ B3 j, Nat.mul_comm (B3 ^ j), ← Nat.div_div_eq_div_mul, Nat.add_comm (_ * B3), Nat.add_mul_div_right _ _ (show 0 < B3 by decide), Nat.div_eq_of_lt (show X * 2 ^ s / B3 ^ k % B3 < B3 from Nat.mod_lt _ (by decide)), Nat.zero_add]
    · intro v1 h1' q1
      obtain ⟨e1, e2, e3, e4⟩ := q1
      rw [← sq] at e1
      have M1 := Mg.sk e2.1
      refine ⟨_, e1, ix_of M1.a5.2 (by omega) (by omega) (by decide), ?_⟩
      have dq : dg B3 (X / Y) k < 1073741824 := dg_lt (by decide)
      rw [iI_cl (by omega) (by omega), Int.toNat_natCast, iI_add, show (k : Int) + (-1) = (k : Int) - 1 by omega]
      refine ih _ (by omega) ((fd_fs f e2).wq (Or.inr (Or.inr rfl))) ?_ (fun j hj => ?_) (fun j hj => ?_) (fun j hj => ?_) (fun j hj hj2 => ?_)
      · rw [mI_sI (rI_nat dq), if_neg (fun z => by omega), e2.at (fun z => by omega)]
        exact h7
      · rw [mI_sI (rI_nat dq), if_neg (fun z => by omega), e2.at (fun z => by omega)]
        exact hby j hj
      · rw [mI_sI (rI_nat dq), if_neg (fun z => by omega), e2.at (fun z => by omega)]
        exact h1 j (by omega)
      · rw [mI_sI (rI_nat dq), if_neg (fun z => by omega), e3 j hj, sr]
      · rw [mI_sI (rI_nat dq)]
        by_cases ej : j = k
        · rw [if_pos ⟨rfl, ej⟩, ej]
        · rw [if_neg (fun z => by omega), e2.at (fun z => by omega)]
          exact h4 j (by omega) (by omega)
end DIV
