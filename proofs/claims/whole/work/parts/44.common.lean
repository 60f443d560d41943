/-! common: the greatest common divisor -/
theorem nu_at {m a v : Nat} {h : jHp} (n : NU m h a (v : Int)) : mm h m a = sz B3 v ∧ (∀ k, k < sz B3 v → mm h m (a + 1 + k) = dg B3 v k) ∧ a + sz B3 v < 400000 := by
  obtain ⟨h1, h2, h3⟩ := n
  rw [if_neg (by omega), Int.natAbs_natCast] at h2
  rw [Int.natAbs_natCast] at h1 h3
  exact ⟨h2, h3, h1⟩
theorem nu_of {m a v : Nat} {h : jHp} (h1 : mm h m a = sz B3 v) (h2 : ∀ k, k < sz B3 v → mm h m (a + 1 + k) = dg B3 v k) (h3 : a + sz B3 v < 400000) : NU m h a (v : Int) := by
  refine ⟨by rw [Int.natAbs_natCast]; exact h3, ?_, fun k hk => ?_⟩
  · rw [if_neg (by omega), Int.natAbs_natCast]
    exact h1
  · rw [Int.natAbs_natCast] at hk ⊢
    exact h2 k hk
section COM
variable {m t N : Nat} {h : jHp}
/-- the copy to the base -/
theorem l_com145 (M : Mo m h) (hN : t + 3 * (N + 1) < 400000) {X px : Nat} {g : jHp} (f : fg (wkS m t) h g) (nx : NU m g px (X : Int)) (hX : sz B3 X ≤ N) (hp : px = t ∨ t + N + 1 ≤ px) (hp2 : px ≤ t + 2 * (N + 1)) :
    J 180 145 0 0 [.ref m, uu, uu, .int (iI t), uu, .int (iI px), uu, uu, uu, uu] [] g (RW m h t (X : Int)) := by
  obtain ⟨n1, n2, n3⟩ := nu_at nx
  have Mg := M.sk f.1
  refine j_M_common_145 ?_
  rw [Mg.r1, gI_at (by omega) (by omega), Int.toNat_natCast, n1]
  refine ⟨Mg.1, Mg.ixL (by omega) (by omega), ?_⟩
  obtain ⟨s, hs⟩ : ∃ s, s = sz B3 X := ⟨_, rfl⟩
  rw [← hs] at n1 n2 n3 hX ⊢
  have l157 : ∀ (d k : Nat) (g1 : jHp), k + d = s + 1 → fg (wkS m t) h g1 → (∀ j, j < k → mm g1 m (t + j) = mm g m (px + j)) → (∀ j, j ≤ s → mm g1 m (px + j) = mm g m (px + j)) → J 180 157 0 0 [.ref m, uu, uu, .int (iI t), uu, .int (iI px), uu, uu, .int (iI s), .int (iI k)] [] g1 (RW m h t (X : Int)) := by
    intro d
    induction d with
    | zero =>
      intro k g1 hk f1 h1 h2
      have M1 := M.sk f1.1
      refine j_M_common_157 ⟨fun _ => j_M_common_189 ⟨M1.1, rfl, f1.wr (by unfold wkS; omega), nu_of ?_ (fun j hj => ?_) (by omega), ?_⟩, fun c => absurd ((iI_lt ⟨by omega, by omega⟩ ⟨by omega, by omega⟩).mpr (by omega)) c⟩
      · rw [mm_sT]
        have := h1 0 (by omega)
        rw [Nat.add_zero, Nat.add_zero] at this
        rw [this, n1, hs]
      · rw [← hs] at hj
        rw [mm_sT, Nat.add_assoc, h1 (1 + j) (by omega), ← Nat.add_assoc]
        exact n2 j hj
      · rw [iI_add, iI_add, tp_sT ⟨by omega, by omega⟩, Int.natAbs_natCast, hs]
    | succ d ih =>
      intro k g1 hk f1 h1 h2
      have M1 := M.sk f1.1
      have hv : rI (mm g m (px + k)) := rI_mI g (m + 1) (px + k)
      refine j_M_common_157 ?_
      rw [M1.r1, iI_add, iI_add, iI_add, gI_at (by omega) (by omega), show ((px : Int) + (k : Int)).toNat = px + k by omega, h2 k (by omega), iI_cl (by omega) (by omega), show ((t : Int) + (k : Int)).toNat = t + k by omega, iI_lt ⟨by omega, by omega⟩ ⟨by omega, by omega⟩]
      refine ⟨fun c => by omega, fun c => ⟨M1.1, M1.1, M1.ixL (by omega) (by omega), M1.ix (by omega) (by omega), ?_⟩⟩
      refine ih (k + 1) _ (by omega) (f1.wr (by unfold wkS; omega)) (fun j hj => ?_) (fun j hj => ?_)
      · rw [mm_sI hv]
        by_cases ej : j = k
        · rw [if_pos (by omega), ej]
        · rw [if_neg (by omega)]
          exact h1 j (by omega)
      · rw [mm_sI hv]
        by_cases ej : px + j = t + k
        · rw [if_pos ej, show px + j = px + k by omega]
        · rw [if_neg ej]
          exact h2 j hj
  exact l157 (s + 1) 0 g (by omega) f (fun j hj => by omega) (fun j _ => rfl)
theorem l_com60 (M : Mo m h) (hN : t + 3 * (N + 1) < 400000) (hN2 : N ≤ 398) : ∀ (b Y : Nat), Y ≤ b → ∀ (X px py pz : Nat) (g : jHp), fg (wkS m t) h g → NU m g px (X : Int) → NU m g py (Y : Int) → sz B3 X ≤ N → sz B3 Y ≤ N → (px = t ∨ t + N + 1 ≤ px) → (py = t ∨ t + N + 1 ≤ py) → (pz = t ∨ t + N + 1 ≤ pz) → px ≤ t + 2 * (N + 1) → py ≤ t + 2 * (N + 1) → pz ≤ t + 2 * (N + 1) →
    (px + N < py ∨ py + N < px) → (px + N < pz ∨ pz + N < px) → (py + N < pz ∨ pz + N < py) →
    J 180 60 0 0 [.ref m, uu, uu, .int (iI t), uu, .int (iI px), .int (iI py), .int (iI pz), uu, uu] [] g (RW m h t ((Nat.gcd X Y : Nat) : Int)) := by
  intro b
  induction b with
  | zero =>
    intro Y hY X px py pz g f nx ny hX hYs hx hy hz hx2 hy2 hz2 a1 a2 a3
    obtain rfl : Y = 0 := by omega
    obtain ⟨n1, n2, n3⟩ := nu_at ny
    have Mg := M.sk f.1
    refine j_M_common_60 ?_
    rw [Mg.r1, gI_at (by omega) (by omega), Int.toNat_natCast, n1, iI_0, iI_eq ⟨by omega, by omega⟩ ⟨by omega, by omega⟩]
    refine ⟨Mg.1, Mg.ixL (by omega) (by omega), fun _ => ?_, fun c => absurd (by rw [sz_0]; rfl) c⟩
    rw [Nat.gcd_zero_right]
    exact l_com145 M hN f nx hX hx hx2
  | succ b ih =>
    intro Y hY X px py pz g f nx ny hX hYs hx hy hz hx2 hy2 hz2 a1 a2 a3
    obtain ⟨n1, n2, n3⟩ := nu_at ny
    have Mg := M.sk f.1
    refine j_M_common_60 ?_
    rw [Mg.r1, gI_at (by omega) (by omega), Int.toNat_natCast, n1, iI_0, iI_eq ⟨by omega, by omega⟩ ⟨by omega, by omega⟩]
    refine ⟨Mg.1, Mg.ixL (by omega) (by omega), fun c => ?_, fun c => ?_⟩
    · have hY0 : Y = 0 := by
        rcases Nat.eq_zero_or_pos Y with z | z
        · exact z
        · have := (sz_pos (B := B3) (v := Y) (by decide)).mpr z
          omega
      rw [hY0, Nat.gcd_zero_right]
      exact l_com145 M hN f nx hX hx hx2
    · have hY0 : 0 < Y := by
        apply (sz_pos (B := B3) (by decide)).mp
        omega
      refine ⟨Mg.1, jRet_mono (c_divide Mg nx ny (by omega) (by rw [Int.natAbs_natCast]; omega)) ?_⟩
      intro v1 h1 q1
      obtain ⟨e1, f1, Q1, L1⟩ := q1
      rw [Int.natAbs_natCast, Int.natAbs_natCast] at L1
      have M1 := Mg.sk f1.1
      have hRl := Nat.mod_lt X hY0
      have hg : Nat.gcd X Y = Nat.gcd Y (X % Y) := by
        rw [Nat.gcd_comm Y, ← Nat.gcd_rec, Nat.gcd_comm]
      have hsr : sz B3 (X % Y) ≤ N := Nat.le_trans (sz_mono (by decide) (Nat.le_of_lt hRl)) hYs
      obtain ⟨R, hR⟩ : ∃ R, R = X % Y := ⟨_, rfl⟩
      rw [← hR] at L1 hRl hg hsr
      obtain ⟨s, hs⟩ : ∃ s, s = sz B3 R := ⟨_, rfl⟩
      rw [← hs] at L1 hsr
      obtain ⟨L6, L7, L8, L9⟩ := L1
      rw [M1.r1, gI_mI h1 m 6, L6, iI_cl (by omega) (by omega), Int.toNat_natCast]
      refine ⟨e1, M1.1, M1.1, M1.ix (by omega) (by omega), ?_⟩
      rw [hg]
      -- the limbs of the rest
      have l92 : ∀ (d k : Nat) (g1 : jHp), k + d = s → fg (wkS m t) h g1 → NU m g1 py (Y : Int) → mI g1 m 6 = s → mm g1 m pz = s → (∀ j, j < s → mI g1 (m + 2) j = dg B3 R j) → (∀ j, j < k → mm g1 m (pz + 1 + j) = dg B3 R j) → J 180 92 0 0 [.ref m, uu, uu, .int (iI t), uu, .int (iI px), .int (iI py), .int (iI pz), .int (iI k), uu] [] g1 (RW m h t ((Nat.gcd Y R : Nat) : Int)) := by
        intro d
        induction d with
        | zero =>
          intro k g1 hk f2 ny1 b6 bz bl bm
          obtain rfl : k = s := by omega
          have M2 := M.sk f2.1
          refine j_M_common_92 ?_
          rw [gI_mI g1 m 6, b6, iI_le ⟨by omega, by omega⟩ ⟨by omega, by omega⟩]
          refine ⟨M2.1, fun _ => j_M_common_126 ?_, fun c => absurd (Int.le_refl _) c⟩
          refine ih R (by omega) Y py pz px g1 f2 ny1 (nu_of (by rw [bz, hs]) (fun j hj => bm j (by rw [hs]; exact hj)) (by rw [← hs]; omega)) hYs (by rw [← hs]; exact hsr) hy hz hx hy2 hz2 hx2 a3 (by omega) (by omega)
        | succ d ih2 =>
          intro k g1 hk f2 ny1 b6 bz bl bm
          have M2 := M.sk f2.1
          have t1 : dg B3 R k < 1073741824 := dg_lt (by decide)
          obtain ⟨y1, y2, y3⟩ := nu_at ny1
          refine j_M_common_92 ?_
          rw [gI_mI g1 m 6, b6, iI_le ⟨by omega, by omega⟩ ⟨by omega, by omega⟩, M2.a3.1, M2.r1, iI_add, iI_add, iI_add, gI_q (by omega) (by omega), Int.toNat_natCast, bl k (by omega), iI_cl (by omega) (by omega), show ((pz : Int) + 1 + (k : Int)).toNat = pz + 1 + k by omega]
          refine ⟨M2.1, fun c => by omega, fun c => ⟨M2.1, M2.1, ixL_of M2.a3.2 (by omega) (by omega) (by decide), M2.ix (by omega) (by omega), ?_⟩⟩
          refine ih2 (k + 1) _ (by omega) (f2.wr (by unfold wkS; omega)) (nu_of ?_ (fun j hj => ?_) y3) ?_ ?_ (fun j hj => ?_) (fun j hj => ?_)
          · rw [mm_sI (rI_nat t1), if_neg (by omega)]
            exact y1
          · rw [mm_sI (rI_nat t1), if_neg (by omega)]
            exact y2 j hj
          · rw [tp_sI]
            exact b6
          · rw [mm_sI (rI_nat t1), if_neg (by omega)]
            exact bz
          · rw [mI_sI (rI_nat t1), if_neg (fun z => by omega)]
            exact bl j hj
          · rw [mm_sI (rI_nat t1)]
            by_cases ej : j = k
            · rw [if_pos (by omega), ej]
            · rw [if_neg (by omega)]
              exact bm j (by omega)
      refine l92 s 0 _ (by omega) ((f.tr (fd_fg f1)).wr (by unfold wkS; omega)) (nu_of ?_ (fun j hj => ?_) n3) ?_ ?_ (fun j hj => ?_) (fun j hj => by omega)
      · rw [mm_sI ⟨by omega, by omega⟩, if_neg (by omega), fd_mm f1]
        exact n1
      · rw [mm_sI ⟨by omega, by omega⟩, if_neg (by omega), fd_mm f1]
        exact n2 j hj
      · rw [tp_sI]
        exact L6
      · rw [mm_sI ⟨by omega, by omega⟩, if_pos rfl]
      · rw [mI_sI ⟨by omega, by omega⟩, if_neg (fun z => by omega)]
        exact L9 j hj
end COM
theorem c_common {m a b t : Nat} {h : jHp} {x y : Int} (M : Mo m h) (na : NU m h a x) (nb : NU m h b y) (ht : mI h m 2 = t) (ha : a + sz B3 x.natAbs < t) (hb : b + sz B3 y.natAbs < t) (hx : sz B3 x.natAbs ≤ 390) (hy : sz B3 y.natAbs ≤ 390) (hr : t + 1200 < 400000) :
    jRet 180 0 0 [.ref m, .int (iI a), .int (iI b)] h (RW m h t ((Nat.gcd x.natAbs y.natAbs : Nat) : Int)) := by
  refine jRet_of (by decide) (by decide) (Nat.le_of_ble_eq_true rfl) (j_M_common_0 ⟨M.1, M.1, jRet_mono (c_size M na) ?_⟩)
  intro v1 h1 q1
  obtain ⟨e1, e2⟩ := q1
  rw [e2]
  refine ⟨_, e1, M.1, jRet_mono (c_size M nb) ?_⟩
  intro v2 h2 q2
  obtain ⟨e3, e4⟩ := q2
  rw [e4]
  refine ⟨_, e3, M.1, ?_⟩
  obtain ⟨N, hN⟩ : ∃ N, N = (if sz B3 x.natAbs < sz B3 y.natAbs then sz B3 y.natAbs else sz B3 x.natAbs) + 2 := ⟨_, rfl⟩
  have hN1 : sz B3 x.natAbs + 2 ≤ N ∧ sz B3 y.natAbs + 2 ≤ N ∧ N ≤ 392 := by
    rw [hN]
    split <;> omega
  have eN : (if iI (sz B3 x.natAbs : Int) < iI (sz B3 y.natAbs : Int) then iI (sz B3 y.natAbs : Int) else iI (sz B3 x.natAbs : Int)) + iI 2 = iI (N : Int) := by
    by_cases c : sz B3 x.natAbs < sz B3 y.natAbs
    · rw [if_pos ((iI_lt ⟨by omega, by omega⟩ ⟨by omega, by omega⟩).mpr (by omega)), iI_add, hN, if_pos c]
      rfl
    · rw [if_neg (fun z => c (by rw [iI_lt ⟨by omega, by omega⟩ ⟨by omega, by omega⟩] at z; omega)), iI_add, hN, if_neg c]
      rfl
  rw [eN]
  refine jRet_mono (c_room (n := (N : Int)) M ht) ?_
  intro v3 h3 q3
  obtain ⟨a1, a2⟩ := q3
  have f3 : fg (wkS m t) h h3 := by
    rw [a2]
    exact fg.rf.wr (by unfold wkS; omega)
  have M3 := M.sk f3.1
  have t3 : mI h3 m 2 = (t : Int) + N + 1 := by
    rw [a2, tp_sT ⟨by omega, by omega⟩]
  refine ⟨_, a1, M3.1, jRet_mono (c_room (n := (N : Int)) M3 t3) ?_⟩
  intro v4 h4 q4
  obtain ⟨b1, b2⟩ := q4
  have f4 : fg (wkS m t) h h4 := by
    rw [b2]
    exact f3.wr (by unfold wkS; omega)
  have M4 := M.sk f4.1
  have t4 : mI h4 m 2 = (t : Int) + N + 1 + N + 1 := by
    rw [b2, tp_sT ⟨by omega, by omega⟩]
  refine ⟨_, b1, M4.1, jRet_mono (c_room (n := (N : Int)) M4 t4) ?_⟩
  intro v5 h5 q5
  obtain ⟨d1, d2⟩ := q5
  have f5 : fg (wkS m t) h h5 := by
    rw [d2]
    exact f4.wr (by unfold wkS; omega)
  have M5 := M.sk f5.1
  refine ⟨_, d1, M5.1, jRet_mono (c_put (b := t) M5 (fg_nu f5 na ha) (by omega) ha) ?_⟩
  intro v6 h6 q6
  obtain ⟨g1, g2, g3, g4⟩ := q6
  have f6 : fg (wkS m t) h h6 := f5.tr ⟨g2, fun p k q => g4 p k (fun z => q (Or.inl ⟨z.1, z.2.1⟩))⟩
  have M6 := M.sk f6.1
  refine ⟨g1, M6.1, ?_⟩
  have c7 := c_put (b := t + N + 1) M6 (fg_nu f6 nb hb) (by omega) (by omega)
  rw [show (((t + N + 1 : Nat)) : Int) = (t : Int) + N + 1 by omega] at c7
  refine jRet_mono c7 ?_
  intro v7 h7 q7
  obtain ⟨i1, i2, i3, i4⟩ := q7
  have f7 : fg (wkS m t) h h7 := f6.tr ⟨i2, fun p k q => i4 p k (fun z => q (Or.inl ⟨z.1, by omega⟩))⟩
  refine ⟨i1, ?_⟩
  have nx7 : NU m h7 t (x.natAbs : Int) := by
    obtain ⟨n1, n2, n3⟩ := nu_at g3
    have e : ∀ k, k ≤ sz B3 x.natAbs → mm h7 m (t + k) = mm h6 m (t + k) := by
      intro k hk
      unfold mm mI
      rw [i4 (m + 1) (t + k) (fun z => by omega)]
    refine nu_of ?_ (fun k hk => ?_) n3
    · have := e 0 (by omega)
      rw [Nat.add_zero] at this
      rw [this]
      exact n1
    · rw [Nat.add_assoc, e (1 + k) (by omega), ← Nat.add_assoc]
      exact n2 k hk
  have g2' : gI h m 2 = iI (t : Int) := by
    rw [gI_mI, ht]
  rw [g2']
  have := l_com60 M (t := t) (N := N) (by omega) (by omega) y.natAbs y.natAbs (Nat.le_refl _) x.natAbs t (t + N + 1) (t + N + 1 + N + 1) h7 f7 nx7 i3 (by omega) (by omega) (Or.inl rfl) (Or.inr (by omega)) (Or.inr (by omega)) (by omega) (by omega) (by omega) (Or.inl (by omega)) (Or.inl (by omega)) (Or.inl (by omega))
  rw [show (((t + N + 1 : Nat)) : Int) = (t : Int) + N + 1 by omega, show (((t + N + 1 + N + 1 : Nat)) : Int) = (t : Int) + N + 1 + N + 1 by omega] at this
  exact this
