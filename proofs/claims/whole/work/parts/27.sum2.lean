/-! adding numbers of two signs; sum and less -/
theorem sub_dg3 {X Y k : Nat} (h : Y ≤ X) : dg B3 (X - Y) k + dg B3 Y k + lac B3 X Y k = dg B3 X k + 1073741824 * lac B3 X Y (k + 1) := sub_dg (by decide) h
section OTHER
variable {m p q t : Nat} {h : jHp} {u w : Int}
theorem l_sum214 (M : Mo m h) (np : NU m h p u) (nq : NU m h q w) (ht : mI h m 2 = t) (hp : p + sz B3 u.natAbs < t) (hq : q + sz B3 w.natAbs < t) (hr : t + sz B3 u.natAbs + 3 < 400000) (hlt : w.natAbs < u.natAbs) (hs : 0 < u ∧ w ≤ 0 ∨ u < 0 ∧ 0 ≤ w)
    : J 170 214 0 0 [.ref m, uu, uu, uu, .int (iI p), uu, uu, uu, uu, uu, uu] [.int (iI q)] h (RS m h t (u + w)) := by
  have s1 : rI u.sign := by
    rcases Int.lt_trichotomy u 0 with z | z | z
    · rw [Int.sign_eq_neg_one_of_neg z]
      exact ⟨by omega, by omega⟩
    · omega
    · rw [Int.sign_eq_one_of_pos z]
      exact ⟨by omega, by omega⟩
  refine j_M_sum_214 ⟨M.1, jRet_mono (c_size M np) ?_⟩
  intro v1 h1 q1
  obtain ⟨e1, e2⟩ := q1
  rw [e2]
  refine ⟨_, e1, M.1, jRet_mono (c_room M ht) ?_⟩
  intro v2 h2 q2
  obtain ⟨e3, e4⟩ := q2
  rw [e4]
  refine ⟨_, e3, ?_⟩
  have f0 : fr m t h (sI h m 2 (iI ((t : Int) + (sz B3 u.natAbs : Int) + 1))) := fr.rf.wt
  generalize sI h m 2 (iI ((t : Int) + (sz B3 u.natAbs : Int) + 1)) = g0 at f0
  obtain ⟨U, hU⟩ : ∃ U, u.natAbs = U := ⟨_, rfl⟩
  obtain ⟨V, hV⟩ : ∃ V, w.natAbs = V := ⟨_, rfl⟩
  have hw : U - V < B3 ^ sz B3 U := Nat.lt_of_le_of_lt (Nat.sub_le U V) (sz_lt (by decide))
  rw [hU] at hlt hp hr
  rw [hV] at hlt hq
  rw [hU]
  obtain ⟨n, hn⟩ : ∃ n, sz B3 U = n := ⟨_, rfl⟩
  rw [hn] at hw hp hr ⊢
  have l319 : ∀ g : jHp, fr m t h g → (∀ j, j < n → mm g m (t + 1 + j) = dg B3 (U - V) j) → J 170 319 0 0 [.ref m, uu, uu, uu, .int (iI p), uu, .int (iI (n : Int)), .int (iI (t : Int)), uu, uu, uu] [] g (RS m h t (u + w)) := by
    intro g f hl
    have Mg := M.sk f.1
    have fin : ∀ bl : Int, (bl = 0 ∧ 0 < u ∨ bl = 1 ∧ u < 0) → J 170 338 0 0 [uu, uu, uu, uu, uu, uu, uu, uu, uu, uu, uu] [.int (iI bl), .int (iI (n : Int)), .int (iI (t : Int)), .ref m] g (RS m h t (u + w)) := by
      intro bl hbl
      refine j_M_sum_338 ⟨Mg.1, jRet_mono (c_done (n := n) (w := U - V) Mg (by omega) (by omega) hw hl) ?_⟩
      intro v6 h6 q6
      obtain ⟨e11, f6, n6, t6⟩ := q6
      have hv : (if bl = 0 then ((U - V : Nat) : Int) else -((U - V : Nat) : Int)) = u + w := by
        rcases hbl with ⟨u1, u2⟩ | ⟨u1, u2⟩
        · rw [if_pos u1]
          omega
        · rw [if_neg (by omega)]
          omega
      rw [hv] at n6
      have hna : (u + w).natAbs = U - V := by omega
      refine ⟨_, e11, rfl, f.tr f6 (Nat.le_refl t), n6, ?_⟩
      rw [t6, hna]
    refine j_M_sum_319 ⟨Mg.1, jRet_mono (c_sign Mg (f.nu np (by rw [hU, hn]; exact hp))) ?_⟩
    intro v7 h7 q7
    obtain ⟨e12, e13⟩ := q7
    rw [e13]
    refine ⟨_, e12, fun c => ?_, fun c => ?_⟩
    · rw [iI_0, iI_le ⟨by omega, by omega⟩ s1] at c
      have := Int.sign_nonneg_iff.mp c
      exact j_M_sum_337 (fin 0 (Or.inl ⟨rfl, by omega⟩))
    · rw [iI_0, iI_le ⟨by omega, by omega⟩ s1] at c
      refine fin 1 (Or.inr ⟨rfl, ?_⟩)
      rcases Int.lt_or_le u 0 with z | z
      · exact z
      · exact absurd (Int.sign_nonneg_iff.mpr z) c
  have loop : ∀ (d k : Nat) (g : jHp), k + d = n → fr m t h g → (∀ j, j < k → mm g m (t + 1 + j) = dg B3 (U - V) j) → J 170 238 0 0 [.ref m, uu, uu, uu, .int (iI p), .int (iI q), .int (iI (n : Int)), .int (iI (t : Int)), .int (iI (lac B3 U V k : Int)), .int (iI ((k : Int) + 1)), uu] [] g (RS m h t (u + w)) := by
    intro d
    induction d with
    | zero =>
      intro k g hk f hl
      obtain rfl : k = n := by omega
      refine j_M_sum_238 ⟨fun c => l319 g f hl, fun c => absurd ((iI_lt ⟨by omega, by omega⟩ ⟨by omega, by omega⟩).mpr (by omega)) c⟩
    | succ d ih =>
      intro k g hk f hl
      have Mg := M.sk f.1
      have ngp := f.nu np (by rw [hU, hn]; exact hp)
      have ngq := f.nu nq (by rw [hV]; exact hq)
      have hc := lac_le (B := B3) (x := U) (y := V) (k := k)
      have hc1 := lac_le (B := B3) (x := U) (y := V) (k := k + 1)
      have dx : dg B3 U k < 1073741824 := dg_lt (by decide)
      have dy : dg B3 V k < 1073741824 := dg_lt (by decide)
      have dz : dg B3 (U - V) k < 1073741824 := dg_lt (by decide)
      have hd := sub_dg3 (k := k) (Nat.le_of_lt hlt)
      have l296 : ∀ bl : Int, bl = (lac B3 U V (k + 1) : Int) → J 170 296 0 0 [.ref m, uu, uu, uu, .int (iI p), .int (iI q), .int (iI (n : Int)), .int (iI (t : Int)), uu, .int (iI ((k : Int) + 1)), .int (iI ((dg B3 U k : Int) - lac B3 U V k - dg B3 V k))] [.int (iI bl)] g (RS m h t (u + w)) := by
        intro bl hbl
        refine j_M_sum_296 ?_
        rw [Mg.r1]
        simp only [iI_add, iI_mask]
        rw [iI_cl (by omega) (by omega), show ((t : Int) + ((k : Int) + 1)).toNat = t + 1 + k by omega]
        have c2 : ((dg B3 U k : Int) - lac B3 U V k - dg B3 V k) % 1073741824 = (dg B3 (U - V) k : Nat) := by omega
        rw [c2, hbl]
        refine ⟨Mg.1, Mg.ix (by omega) (by omega), ?_⟩
        have := ih (k + 1) _ (by omega) (f.wm (k := t + 1 + k) (v := iI (dg B3 (U - V) k : Nat)) (by omega)) (fun j hj => ?_)
        · exact this
        · rw [mm_sI ⟨by omega, by omega⟩]
          by_cases e : j = k
          · rw [if_pos (by omega), e]
          · rw [if_neg (by omega)]
            exact hl j (by omega)
      have l283 : J 170 283 0 0 [.ref m, uu, uu, uu, .int (iI p), .int (iI q), .int (iI (n : Int)), .int (iI (t : Int)), uu, .int (iI ((k : Int) + 1)), uu] [.int (iI (dg B3 V k : Int)), .int (iI ((dg B3 U k : Int) - lac B3 U V k))] g (RS m h t (u + w)) := by
        refine j_M_sum_283 ?_
        simp only [iI_sub]
        refine ⟨fun c => ?_, fun c => ?_⟩
        · rw [iI_0, iI_le ⟨by omega, by omega⟩ ⟨by omega, by omega⟩] at c
          exact j_M_sum_295 (l296 0 (by omega))
        · rw [iI_0, iI_le ⟨by omega, by omega⟩ ⟨by omega, by omega⟩] at c
          exact l296 1 (by omega)
      refine j_M_sum_238 ?_
      rw [Mg.r1]
      simp only [iI_add]
      rw [gI_at (by omega) (by omega), show ((p : Int) + ((k : Int) + 1)).toNat = p + 1 + k by omega, ngp.2.2 k (by rw [hU, hn]; omega), hU]
      simp only [iI_sub]
      refine ⟨fun c => ?_, fun c => ⟨Mg.1, Mg.ixL (by omega) (by omega), Mg.1, jRet_mono (c_size Mg ngq) ?_⟩⟩
      · rw [iI_lt ⟨by omega, by omega⟩ ⟨by omega, by omega⟩] at c
        omega
      · intro v9 h9 q9
        obtain ⟨e16, e17⟩ := q9
        rw [e17]
        rw [hV] at e16
        refine ⟨_, e16, fun c2 => ?_, fun c2 => ?_⟩
        · rw [iI_lt ⟨by omega, by omega⟩ ⟨by omega, by omega⟩] at c2
          refine j_M_sum_282 ?_
          rw [dg_high (B := B3) (by decide) (show sz B3 V ≤ k by omega)] at l283
          exact l283
        · rw [iI_lt ⟨by omega, by omega⟩ ⟨by omega, by omega⟩] at c2
          rw [Mg.r1, gI_at (by omega) (by omega), show ((q : Int) + ((k : Int) + 1)).toNat = q + 1 + k by omega, ngq.2.2 k (by rw [hV]; omega), hV]
          exact ⟨Mg.1, Mg.ixL (by omega) (by omega), l283⟩
  have := loop n 0 g0 (by omega) f0 (fun j hj => by omega)
  rw [lac_0] at this
  exact this
end OTHER
/-- sum(a, b) -/
theorem c_sum {m a b t : Nat} {h : jHp} {x y : Int} (M : Mo m h) (na : NU m h a x) (nb : NU m h b y) (ht : mI h m 2 = t) (ha : a + sz B3 x.natAbs < t) (hb : b + sz B3 y.natAbs < t) (hr : t + sz B3 x.natAbs + sz B3 y.natAbs + 3 < 400000) :
    jRet 170 0 0 [.ref m, .int (iI a), .int (iI b)] h (RS m h t (x + y)) := by
  have sg : ∀ z : Int, rI z.sign := by
    intro z
    rcases Int.lt_trichotomy z 0 with c | c | c
    · rw [Int.sign_eq_neg_one_of_neg c]
      exact ⟨by omega, by omega⟩
    · rw [c]
      exact ⟨by decide, by decide⟩
    · rw [Int.sign_eq_one_of_pos c]
      exact ⟨by omega, by omega⟩
  have s0 : ∀ z : Int, z.sign = 0 ↔ z = 0 := fun z => Int.sign_eq_zero_iff_zero
  have l177 : x ≠ 0 → y ≠ 0 → x.sign ≠ y.sign → J 170 177 0 0 [.ref m, .int (iI a), .int (iI b), uu, uu, uu, uu, uu, uu, uu, uu] [] h (RS m h t (x + y)) := by
    intro hx hy hs
    have hop : 0 < x ∧ y < 0 ∨ x < 0 ∧ 0 < y := by
      rcases Int.lt_trichotomy x 0 with c | c | c
      · rcases Int.lt_trichotomy y 0 with d | d | d
        · exact absurd ((Int.sign_eq_neg_one_of_neg c).trans (Int.sign_eq_neg_one_of_neg d).symm) hs
        · omega
        · omega
      · omega
      · rcases Int.lt_trichotomy y 0 with d | d | d
        · omega
        · omega
        · exact absurd ((Int.sign_eq_one_of_pos c).trans (Int.sign_eq_one_of_pos d).symm) hs
    refine j_M_sum_177 ⟨M.1, jRet_mono (c_cmp M na nb) ?_⟩
    intro v1 h1 q1
    obtain ⟨e1, e2⟩ := q1
    rw [e2]
    have rc : rI (cmpN x.natAbs y.natAbs) := by unfold cmpN rI; split <;> (try split) <;> omega
    refine ⟨_, e1, fun c => ?_, fun c => ⟨M.1, ?_⟩⟩
    · rw [iI_0, iI_eq rc ⟨by omega, by omega⟩] at c
      refine j_M_sum_194 ?_
      rw [iI_0, iI_le rc ⟨by omega, by omega⟩]
      refine ⟨fun d => ?_, fun d => ?_⟩
      · refine j_M_sum_202 (j_M_sum_203 ?_)
        rw [iI_0, iI_le rc ⟨by omega, by omega⟩]
        refine ⟨fun _ => j_M_sum_213 ?_, fun e => absurd d e⟩
        have hlt : x.natAbs < y.natAbs := by
          unfold cmpN at c d
          split at c
          · assumption
          · split at c <;> simp_all
        rw [Int.add_comm]
        exact l_sum214 M nb na ht hb ha (by omega) hlt (by omega)
      · refine j_M_sum_203 ?_
        rw [iI_0, iI_le rc ⟨by omega, by omega⟩]
        refine ⟨fun e => absurd e d, fun _ => ?_⟩
        have hlt : y.natAbs < x.natAbs := by
          rcases Nat.lt_trichotomy x.natAbs y.natAbs with z | z | z
          · exact absurd (by unfold cmpN; rw [if_pos z]; omega) d
          · exact absurd (by unfold cmpN; rw [if_neg (by omega), if_neg (by omega)]) c
          · exact z
        exact l_sum214 M na nb ht ha hb (by omega) hlt (by omega)
    · rw [iI_0, iI_eq rc ⟨by omega, by omega⟩] at c
      have heq : x + y = 0 := by
        unfold cmpN at c
        split at c
        · omega
        · split at c
          · omega
          · omega
      refine jRet_mono (c_whole (x := ((0 : Nat) : Int)) M ⟨by decide, by decide⟩ ht (by omega)) ?_
      intro v2 h2 q2
      obtain ⟨e3, f3, n3, t3⟩ := q2
      refine ⟨_, e3, rfl, f3, ?_, ?_⟩
      · rw [heq]
        exact n3
      · rw [heq]
        exact t3
  refine jRet_of (by decide) (by decide) (Nat.le_of_ble_eq_true rfl) (j_M_sum_0 ⟨M.1, jRet_mono (c_sign M na) ?_⟩)
  intro v1 h1 q1
  obtain ⟨e1, e2⟩ := q1
  rw [e2]
  refine ⟨_, e1, fun c => ?_, fun c => ⟨M.1, ?_⟩⟩
  · rw [iI_0, iI_eq (sg x) ⟨by omega, by omega⟩, s0] at c
    refine j_M_sum_14 ⟨M.1, jRet_mono (c_sign M nb) ?_⟩
    intro v2 h2 q2
    obtain ⟨e3, e4⟩ := q2
    rw [e4]
    refine ⟨_, e3, fun d => ?_, fun d => ⟨M.1, ?_⟩⟩
    · rw [iI_0, iI_eq (sg y) ⟨by omega, by omega⟩, s0] at d
      by_cases hs : x.sign = y.sign
      · exact l_sum28 M na nb ht ha hb hr hs c
      · refine j_M_sum_28 ⟨M.1, jRet_mono (c_sign M na) ?_⟩
        intro v3 h3 q3
        obtain ⟨e5, e6⟩ := q3
        rw [e6]
        refine ⟨_, e5, M.1, jRet_mono (c_sign M nb) ?_⟩
        intro v4 h4 q4
        obtain ⟨e7, e8⟩ := q4
        rw [e8]
        refine ⟨_, e7, fun _ => l177 c d hs, fun e => absurd ((iI_eq (sg x) (sg y)).mp e) hs⟩
    · rw [iI_0, iI_eq (sg y) ⟨by omega, by omega⟩, s0] at d
      refine jRet_mono (c_copy M na ht ha (by omega)) ?_
      intro v3 h3 q3
      obtain ⟨e5, f5, n5, t5⟩ := q3
      refine ⟨_, e5, rfl, f5, ?_, ?_⟩
      · rw [d, Int.add_zero]
        exact n5
      · rw [d, Int.add_zero]
        exact t5
  · rw [iI_0, iI_eq (sg x) ⟨by omega, by omega⟩, s0] at c
    refine jRet_mono (c_copy M nb ht hb (by omega)) ?_
    intro v3 h3 q3
    obtain ⟨e5, f5, n5, t5⟩ := q3
    refine ⟨_, e5, rfl, f5, ?_, ?_⟩
    · rw [c, Int.zero_add]
      exact n5
    · rw [c, Int.zero_add]
      exact t5
/-- less(a, b) -/
theorem c_less {m a b t : Nat} {h : jHp} {x y : Int} (M : Mo m h) (na : NU m h a x) (nb : NU m h b y) (ht : mI h m 2 = t) (ha : a + sz B3 x.natAbs < t) (hb : b + sz B3 y.natAbs < t) (hr : t + sz B3 x.natAbs + 2 * sz B3 y.natAbs + 4 < 400000) :
    jRet 167 0 0 [.ref m, .int (iI a), .int (iI b)] h (fun r h' => ∃ c : Nat, t ≤ c ∧ c ≤ t + sz B3 y.natAbs + 1 ∧ r = some (.int (iI (c : Int))) ∧ fr m t h h' ∧ NU m h' c (x - y) ∧ mI h' m 2 = c + sz B3 (x - y).natAbs + 1) := by
  refine jRet_of (by decide) (by decide) (Nat.le_of_ble_eq_true rfl) (j_M_less_0 ⟨M.1, jRet_mono (c_turned M nb ht hb (by omega)) ?_⟩)
  intro v1 h1 q1
  obtain ⟨e1, f1, n1, t1⟩ := q1
  have M1 := M.sk f1.1
  have hna : (-y).natAbs = y.natAbs := Int.natAbs_neg y
  refine ⟨_, e1, M1.1, ?_⟩
  refine jRet_mono (c_sum (t := t + sz B3 y.natAbs + 1) M1 (f1.nu na ha) n1 (by rw [t1]; omega) (by omega) (by rw [hna]; omega) (by rw [hna]; omega)) ?_
  intro v2 h2 q2
  obtain ⟨e3, f3, n3, t3⟩ := q2
  rw [← Int.sub_eq_add_neg] at n3 t3
  refine ⟨_, e3, t + sz B3 y.natAbs + 1, by omega, by omega, rfl, f1.tr f3 (by omega), n3, t3⟩
