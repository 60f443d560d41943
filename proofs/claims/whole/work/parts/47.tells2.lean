/-! tells: a fraction without a common divisor -/
def gT (x y : Int) : Int := ((Nat.gcd x.natAbs y.natAbs : Nat) : Int)
def fT (x y : Int) : List Int := nT (x.tdiv (gT x y)) ++ [47] ++ nT (y.tdiv (gT x y))
theorem nT_len (v : Int) : (nT v).length ≤ sz 10 v.natAbs + 2 := by
  unfold nT dT
  rw [List.length_append]
  split <;> split <;> simp [tD_len] <;> omega
def tsS (m t p k : Nat) : Prop := wkS m t p k ∨ tlS m p k ∨ (p = m ∧ k = 0)
theorem wkS_ts {m t t' p k : Nat} (h : t ≤ t') (w : wkS m t' p k) : tsS m t p k := Or.inl (wkS_mo h w)
theorem nat_td {x y : Int} : (x.tdiv y).natAbs = x.natAbs / y.natAbs := Int.natAbs_tdiv x y
theorem c_tells {m a b t : Nat} {h : jHp} {x y : Int} (M : Mo m h) (na : NU m h a x) (nb : NU m h b y) (ht : mI h m 2 = t) (ha : a + sz B3 x.natAbs < t) (hb : b + sz B3 y.natAbs < t) (hy : 0 < y) (hx1 : sz B3 x.natAbs ≤ 390) (hy1 : sz B3 y.natAbs ≤ 390) (hx2 : sz 10 x.natAbs ≤ 490) (hy2 : sz 10 y.natAbs ≤ 490) (hr : t + 2000 < 400000) :
    jRet 179 0 0 [.ref m, .int (iI a), .int (iI b)] h (fun r h' => r = some (.int (iI ((fT x y).length : Int))) ∧ fg (tsS m t) h h' ∧ OU m h' (fT x y) ∧ mI h' m 0 = 0) := by
  refine jRet_of (by decide) (by decide) (Nat.le_of_ble_eq_true rfl) (j_M_tells_0 ⟨M.1, jRet_mono (c_common M na nb ht ha hb hx1 hy1 (by omega)) ?_⟩)
  intro v1 h1 q1
  obtain ⟨a1, a2, a3, a4⟩ := q1
  rw [Int.natAbs_natCast] at a4
  refine ⟨_, a1, ?_⟩
  have M1 := M.sk a2.1
  have hg0 : 0 < Nat.gcd x.natAbs y.natAbs := Nat.gcd_pos_of_pos_right _ (by omega)
  have hgl : Nat.gcd x.natAbs y.natAbs ≤ y.natAbs := Nat.gcd_le_right _ (by omega)
  obtain ⟨G, hG⟩ : ∃ G, G = Nat.gcd x.natAbs y.natAbs := ⟨_, rfl⟩
  have hgT : gT x y = (G : Int) := by
    unfold gT
    rw [hG]
  rw [← hG] at a3 a4 hg0 hgl
  have hgs : sz B3 G ≤ 390 := Nat.le_trans (sz_mono (by decide) hgl) hy1
  have s1 : sz B3 (x.tdiv (G : Int)).natAbs ≤ 390 := by
    rw [nat_td]
    exact Nat.le_trans (sz_mono (by decide) (Nat.div_le_self _ _)) hx1
  have s2 : sz B3 (y.tdiv (G : Int)).natAbs ≤ 390 := by
    rw [nat_td]
    exact Nat.le_trans (sz_mono (by decide) (Nat.div_le_self _ _)) hy1
  have s3 : sz 10 (x.tdiv (G : Int)).natAbs ≤ 490 := by
    rw [nat_td]
    exact Nat.le_trans (sz_mono (by decide) (Nat.div_le_self _ _)) hx2
  have s4 : sz 10 (y.tdiv (G : Int)).natAbs ≤ 490 := by
    rw [nat_td]
    exact Nat.le_trans (sz_mono (by decide) (Nat.div_le_self _ _)) hy2
  have hD0 : 0 < y.tdiv (G : Int) := by
    have e1 : y.tdiv (G : Int) = ((y.natAbs / G : Nat) : Int) := by
      have e2 : y = (y.natAbs : Int) := by omega
      conv => lhs; rw [e2]
      rfl
    have := Nat.div_pos hgl hg0
    rw [e1]
    omega
  have t1 : mI h1 m 2 = ((t + sz B3 G + 1 : Nat) : Int) := by
    rw [a4]
    rfl
  have gN : sz B3 ((G : Int)).natAbs = sz B3 G := by rw [Int.natAbs_natCast]
  refine ⟨M1.1, jRet_mono (c_divided (t := t + sz B3 G + 1) M1 (fg_nu a2 na ha) a3 t1 (by omega) (by rw [gN]; omega) (by omega) (by omega) (by omega)) ?_⟩
  intro v2 h2 q2
  obtain ⟨b1, b2, b3, b4⟩ := q2
  have M2 := M1.sk b2.1
  have t2 : mI h2 m 2 = ((t + sz B3 G + 1 + sz B3 (x.tdiv (G : Int)).natAbs + 1 : Nat) : Int) := by
    rw [b4]
    omega
  have f2 : fg (tsS m t) h h2 := (a2.mo (fun p k => wkS_ts (Nat.le_refl t))).tr (b2.mo (fun p k => wkS_ts (by omega)))
  have ny2 : NU m h2 b y := fg_nu b2 (fg_nu a2 nb hb) (by omega)
  refine ⟨_, b1, M2.1, jRet_mono (c_divided (t := t + sz B3 G + 1 + sz B3 (x.tdiv (G : Int)).natAbs + 1) M2 ny2 (fg_nu b2 a3 (by rw [gN]; omega)) t2 (by omega) (by rw [gN]; omega) (by omega) (by omega) (by omega)) ?_⟩
  intro v3 h3 q3
  obtain ⟨d1, d2, d3, d4⟩ := q3
  have M3 := M2.sk d2.1
  have f3 : fg (tsS m t) h h3 := f2.tr (d2.mo (fun p k => wkS_ts (by omega)))
  have nx3 : NU m h3 (t + sz B3 G + 1) (x.tdiv (G : Int)) := fg_nu d2 b3 (by omega)
  refine ⟨_, d1, M3.1, M3.sI.1, ?_⟩
  have f4 : fg (tsS m t) h (sI h3 m 27 (iI 0)) := f3.wr (by unfold tsS tlS; omega)
  have M4 : Mo m (sI h3 m 27 (iI 0)) := M3.sI
  have n4 : ∀ (p : Nat) (v : Int), NU m h3 p v → NU m (sI h3 m 27 (iI 0)) p v := fun p v n => nu_fg n (S := fun p k => p = m) (fg.rf.wr rfl) (fun k z => by omega)
  have O4 : OU m (sI h3 m 27 (iI 0)) [] := ⟨by rw [mI_sI ⟨by omega, by omega⟩, if_pos ⟨rfl, rfl⟩]; rfl, by decide, fun k hk => absurd hk (Nat.not_lt_zero k)⟩
  refine jRet_mono (c_sign M4 (n4 _ _ d3)) ?_
  intro v5 h5 q5
  obtain ⟨e1, e2⟩ := q5
  rw [e2]
  refine ⟨_, e1, ?_⟩
  rw [Int.sign_eq_one_of_pos hD0]
  refine ⟨fun _ => j_M_tells_47 (j_M_tells_49 ⟨M4.1, jRet_mono (c_tellsNumber M4 (n4 _ _ nx3) O4 (by omega) ?_) ?_⟩), fun c => absurd (by decide) c⟩
  · rw [List.length_nil]
    omega
  intro v6 h6 q6
  obtain ⟨i1, i2, i3⟩ := q6
  have M6 := M4.sk i2.1
  rw [List.nil_append] at i3
  have ln := nT_len (x.tdiv (G : Int))
  refine ⟨i1, M6.1, jRet_mono (c_tells0 M6 i3 (by omega) ⟨by omega, by omega⟩) ?_⟩
  intro v7 h7 q7
  obtain ⟨j1, j2, j3, j4⟩ := q7
  have M7 := M6.sk j2.1
  have tl1 : ∀ k, ¬ tlS m (m + 1) k := fun k z => by
    unfold tlS at z
    omega
  have n7 := nu_fg (nu_fg (n4 _ _ d3) i2 tl1) j2 tl1
  refine ⟨j1, M7.1, jRet_mono (c_sign M7 n7) ?_⟩
  intro v8 h8 q8
  obtain ⟨k1, k2⟩ := q8
  rw [k2]
  refine ⟨_, k1, ?_⟩
  rw [Int.sign_eq_one_of_pos hD0]
  refine ⟨fun _ => j_M_tells_77 (j_M_tells_79 ⟨M7.1, jRet_mono (c_tellsNumber M7 n7 j3 (by omega) ?_) ?_⟩), fun c => absurd (by decide) c⟩
  · rw [List.length_append, show ([47] : List Int).length = 1 from rfl]
    omega
  intro v9 h9 q9
  obtain ⟨l1, l2, l3⟩ := q9
  have M9 := M7.sk l2.1
  have hft : fT x y = nT (x.tdiv (G : Int)) ++ [47] ++ nT (y.tdiv (G : Int)) := by
    unfold fT
    rw [hgT]
  rw [hft]
  refine ⟨l1, M9.1, M9.sI.1, ?_, ?_, ?_, ?_⟩
  · rw [gI_mI, mI_sI ⟨by omega, by omega⟩, if_neg (fun z => by omega), l3.1]
  · have tl : ∀ p k, tlS m p k → tsS m t p k := fun p k z => Or.inr (Or.inl z)
    exact (((f4.tr (i2.mo tl)).tr (j2.mo tl)).tr (l2.mo tl)).wr (Or.inr (Or.inr ⟨rfl, rfl⟩))
  · exact OU_fg l3 (S := fun p k => p = m ∧ k = 0) (fg.rf.wr ⟨rfl, rfl⟩) (fun p k z => by omega)
  · rw [mI_sI ⟨by omega, by omega⟩, if_pos ⟨rfl, rfl⟩]
