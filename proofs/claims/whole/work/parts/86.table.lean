/-! Table, Patch, and the corners of Walls -/
section TAB
variable {w t : Nat} {h : jHp}
theorem c_Tbegin {v : Int} (T : TL t h) (hv : rI v) : jRet 64 0 0 [.ref t, .int (iI v)] h (fun q h' => q = none ∧ fg (fun p k => p = t ∧ k = 0 ∨ t + 2 ≤ p ∧ p ≤ t + 9) h h' ∧ mI h' t 0 = v ∧ ∀ i j, i < 8 → j < 8 → mI h' (t + 2 + i) j = 0) := by
  have l7 : ∀ (d i : Nat) (g : jHp), i + d = 8 → fg (fun p k => p = t ∧ k = 0 ∨ t + 2 ≤ p ∧ p ≤ t + 9) h g → mI g t 0 = v → (∀ i' j', i' < i → j' < 8 → mI g (t + 2 + i') j' = 0) → J 64 7 0 0 [.ref t, uu, .int (iI i), uu] [] g (fun q h' => q = none ∧ fg (fun p k => p = t ∧ k = 0 ∨ t + 2 ≤ p ∧ p ≤ t + 9) h h' ∧ mI h' t 0 = v ∧ ∀ i j, i < 8 → j < 8 → mI h' (t + 2 + i) j = 0) := by
    intro d
    induction d with
    | zero =>
      intro i g hi f g0 gz
      obtain rfl : i = 8 := by omega
      exact j_Ta_begin_7 ⟨fun _ => j_Ta_begin_42 ⟨rfl, f, g0, gz⟩, fun z => absurd (by decide) z⟩
    | succ d ih =>
      intro i g hi f g0 gz
      have l15 : ∀ (e j : Nat) (g2 : jHp), j + e = 8 → fg (fun p k => p = t ∧ k = 0 ∨ t + 2 ≤ p ∧ p ≤ t + 9) h g2 → mI g2 t 0 = v → (∀ i' j', (i' < i ∧ j' < 8 ∨ i' = i ∧ j' < j) → mI g2 (t + 2 + i') j' = 0) → J 64 15 0 0 [.ref t, uu, .int (iI i), .int (iI j)] [] g2 (fun q h' => q = none ∧ fg (fun p k => p = t ∧ k = 0 ∨ t + 2 ≤ p ∧ p ≤ t + 9) h h' ∧ mI h' t 0 = v ∧ ∀ i j, i < 8 → j < 8 → mI h' (t + 2 + i) j = 0) := by
        intro e
        induction e with
        | zero =>
          intro j g2 hj f2 g02 gz2
          obtain rfl : j = 8 := by omega
          refine j_Ta_begin_15 ⟨fun _ => j_Ta_begin_36 ?_, fun z => absurd (by decide) z⟩
          rw [iI_add]
          exact ih (i + 1) g2 (by omega) f2 g02 (fun i' j' h1 h2 => gz2 i' j' (by omega))
        | succ e ih2 =>
          intro j g2 hj f2 g02 gz2
          have T2 := tl_sk T f2.1
          have ti := T2.2.2.2 i (by omega)
          refine j_Ta_begin_15 ?_
          rw [iI_le ⟨by omega, by omega⟩ ⟨by omega, by omega⟩, T2.2.1, iI_cl (by omega) (by omega), iI_cl (by omega) (by omega), Int.toNat_natCast, Int.toNat_natCast, ti.1, iI_add]
          refine ⟨fun z => by omega, fun _ => ⟨T2.1, ixR_of T2.2.2.1 (Or.inl rfl) (by omega) (by omega) (by decide), ix_of ti.2 (by omega) (by omega) (by decide), ih2 (j + 1) _ (by omega) (f2.wr (Or.inr (by omega))) ?_ (fun i' j' hp => ?_)⟩⟩
          · rw [mI_sI ⟨by omega, by omega⟩, if_neg (fun z => by omega)]
            exact g02
          · rw [mI_sI ⟨by omega, by omega⟩]
            by_cases c : i' = i ∧ j' = j
            · rw [if_pos ⟨by omega, c.2⟩]
            · rw [if_neg (fun z => by omega)]
              exact gz2 i' j' (by omega)
      refine j_Ta_begin_7 ?_
      rw [iI_le ⟨by omega, by omega⟩ ⟨by omega, by omega⟩]
      exact ⟨fun z => by omega, fun _ => l15 8 0 g (by omega) f g0 (fun i' j' hp => gz i' j' (by omega) (by omega))⟩
  refine jRet_of (by decide) (by decide) (Nat.le_of_ble_eq_true rfl) (j_Ta_begin_0 ⟨T.1, ?_⟩)
  exact l7 8 0 _ (by omega) (fg.rf.wr (Or.inl ⟨rfl, rfl⟩)) (by rw [mI_sI hv, if_pos ⟨rfl, rfl⟩]) (fun i' j' h1 => by omega)
theorem c_Tleft {i j : Nat} (T : TL t h) (hi : i < 8) (hj : j < 8) (hp : 0 ≤ mI h t 0 ∧ mI h t 0 ≤ 1000) (hr : ∀ k, k < 8 → 0 ≤ mI h (t + 2 + i) k ∧ mI h (t + 2 + i) k ≤ 1000) : jRet 65 0 0 [.ref t, .int (iI i), .int (iI j)] h (fun q h' => q = some (.int (iI (mI h t 0 - sm (fun k => if k = j then 0 else mI h (t + 2 + i) k) 8))) ∧ h' = h) := by
  have ti := T.2.2.2 i hi
  have l8 : ∀ (d k : Nat) (s : Int), k + d = 8 → s = sm (fun k => if k = j then 0 else mI h (t + 2 + i) k) k → 0 ≤ s → s ≤ 1000 * k → J 65 8 0 0 [.ref t, .int (iI i), .int (iI j), .int (iI (mI h t 0 - s)), .int (iI k)] [] h (fun q h' => q = some (.int (iI (mI h t 0 - sm (fun k => if k = j then 0 else mI h (t + 2 + i) k) 8))) ∧ h' = h) := by
    intro d
    induction d with
    | zero =>
      intro k s hk hs h0 h1
      obtain rfl : k = 8 := by omega
      exact j_Ta_partsLeft_8 ⟨fun _ => j_Ta_partsLeft_39 ⟨by rw [hs], rfl⟩, fun z => absurd (by decide) z⟩
    | succ d ih =>
      intro k s hk hs h0 h1
      have rk := hr k (by omega)
      refine j_Ta_partsLeft_8 ?_
      rw [iI_le ⟨by omega, by omega⟩ ⟨by omega, by omega⟩, iI_eq ⟨by omega, by omega⟩ ⟨by omega, by omega⟩, T.2.1, iI_cl (by omega) (by omega), iI_cl (by omega) (by omega), Int.toNat_natCast, Int.toNat_natCast, ti.1, gI_mI h (t + 2 + i) k, iI_sub]
      refine ⟨fun z => by omega, fun _ => ⟨fun z => j_Ta_partsLeft_33 ?_, fun z => ⟨T.1, ixR_of T.2.2.1 (Or.inl rfl) (by omega) (by omega) (by decide), ixL_of ti.2 (by omega) (by omega) (by decide), j_Ta_partsLeft_33 ?_⟩⟩⟩
      · rw [iI_add]
        exact ih (k + 1) s (by omega) (by rw [sm, if_pos (by omega), Int.add_zero]; exact hs) h0 (by omega)
      · rw [iI_add, Int.sub_sub]
        exact ih (k + 1) (s + mI h (t + 2 + i) k) (by omega) (by rw [sm, if_neg (by omega), hs]) (by omega) (by omega)
  refine jRet_of (by decide) (by decide) (Nat.le_of_ble_eq_true rfl) (j_Ta_partsLeft_0 ⟨T.1, ?_⟩)
  rw [gI_mI h t 0]
  have := l8 8 0 0 (by omega) rfl (by omega) (by omega)
  rw [Int.sub_zero] at this
  exact this
theorem c_Pfact {p : Nat} {k : Nat} (hO : isO h p 5) (hk : k ≤ 8) : jRet 62 0 0 [.ref p, .int (iI k)] h (fun q h' => q = some (.int (iI (mI h p k))) ∧ h' = h) := by
  have e : (iI (k : Int)).toInt = k := iI_to ⟨by omega, by omega⟩
  refine jRet_of (by decide) (by decide) (Nat.le_of_ble_eq_true rfl) (j_Pa_fact_0 ⟨fun z => by rw [e] at z; omega, fun j u hu hj => ?_⟩)
  rw [e] at hj
  have hjk : j = k := by omega
  subst hjk
  have h9 : j = 0 ∨ j = 1 ∨ j = 2 ∨ j = 3 ∨ j = 4 ∨ j = 5 ∨ j = 6 ∨ j = 7 ∨ j = 8 := by omega
  rcases h9 with z | z | z | z | z | z | z | z | z <;> subst z <;> simp at hu <;> subst hu
  · exact J_cl (mk := [1, 0]) (j_Pa_fact_52 (x0 := p) ⟨hO, by rw [gI_mI], rfl⟩)
  · exact J_cl (mk := [1, 0]) (j_Pa_fact_57 (x0 := p) ⟨hO, by rw [gI_mI], rfl⟩)
  · exact J_cl (mk := [1, 0]) (j_Pa_fact_62 (x0 := p) ⟨hO, by rw [gI_mI], rfl⟩)
  · exact J_cl (mk := [1, 0]) (j_Pa_fact_67 (x0 := p) ⟨hO, by rw [gI_mI], rfl⟩)
  · exact J_cl (mk := [1, 0]) (j_Pa_fact_72 (x0 := p) ⟨hO, by rw [gI_mI], rfl⟩)
  · exact J_cl (mk := [1, 0]) (j_Pa_fact_77 (x0 := p) ⟨hO, by rw [gI_mI], rfl⟩)
  · exact J_cl (mk := [1, 0]) (j_Pa_fact_82 (x0 := p) ⟨hO, by rw [gI_mI], rfl⟩)
  · exact J_cl (mk := [1, 0]) (j_Pa_fact_87 (x0 := p) ⟨hO, by rw [gI_mI], rfl⟩)
  · exact J_cl (mk := [1, 0]) (j_Pa_fact_92 (x0 := p) ⟨hO, by rw [gI_mI], rfl⟩)
theorem c_WhasAt {x y : Int} {n : Nat} (W : WL w h) (hx : rI x) (hy : rI y) (hn : mI h w 2 = (n : Int)) (hn24 : n ≤ 24) : jRet 67 0 0 [.ref w, .int (iI x), .int (iI y)] h (bQ (∃ k, k < n ∧ mI h (w + 1) k = x ∧ mI h (w + 2) k = y) h) := by
  have l2 : ∀ (d k : Nat), k + d = n → (∀ j, j < k → ¬ (mI h (w + 1) j = x ∧ mI h (w + 2) j = y)) → J 67 2 0 0 [.ref w, .int (iI x), .int (iI y), .int (iI k)] [] h (bQ (∃ k, k < n ∧ mI h (w + 1) k = x ∧ mI h (w + 2) k = y) h) := by
    intro d
    induction d with
    | zero =>
      intro k hk hno
      obtain rfl : k = n := by omega
      refine j_Wa_hasCornerAt_2 ?_
      rw [gI_mI h w 2, hn, iI_le ⟨by omega, by omega⟩ ⟨by omega, by omega⟩]
      exact ⟨W.1, fun _ => j_Wa_hasCornerAt_38 ⟨Or.inl rfl, Or.inr ⟨fun u => by
        obtain ⟨j, h1, h2⟩ := u
        exact hno j h1 h2, rfl⟩, rfl⟩, fun z => absurd (Int.le_refl _) z⟩
    | succ d ih =>
      intro k hk hno
      have nx : ¬ (mI h (w + 1) k = x ∧ mI h (w + 2) k = y) → J 67 32 0 0 [.ref w, .int (iI x), .int (iI y), .int (iI k)] [] h (bQ (∃ k, k < n ∧ mI h (w + 1) k = x ∧ mI h (w + 2) k = y) h) := by
        intro hq
        refine j_Wa_hasCornerAt_32 ?_
        rw [iI_add]
        refine ih (k + 1) (by omega) (fun j hj => ?_)
        by_cases c : j = k
        · rw [c]
          exact hq
        · exact hno j (by omega)
      refine j_Wa_hasCornerAt_2 ?_
      rw [gI_mI h w 2, hn, iI_le ⟨by omega, by omega⟩ ⟨by omega, by omega⟩, W.2.1, W.2.2.2.1, gI_q (by omega) (by omega), gI_q (by omega) (by omega), Int.toNat_natCast, iI_eq (rI_mI _ _ _) hx, iI_eq (rI_mI _ _ _) hy]
      exact ⟨W.1, fun z => by omega, fun _ => ⟨W.1, ixL_of W.2.2.1 (by omega) (by omega) (by decide), fun z => nx (fun u => z u.1), fun z => ⟨W.1, ixL_of W.2.2.2.2.1 (by omega) (by omega) (by decide), fun z2 => nx (fun u => z2 u.2), fun z2 => ⟨Or.inr rfl, Or.inl ⟨⟨k, (by omega), z, z2⟩, rfl⟩, rfl⟩⟩⟩⟩
  refine jRet_of (by decide) (by decide) (Nat.le_of_ble_eq_true rfl) (j_Wa_hasCornerAt_0 ?_)
  exact l2 n 0 (by omega) (fun j hj => by omega)
theorem c_WaddCorner {x y : Int} {n : Nat} (W : WL w h) (hx : rI x) (hy : rI y) (hn : mI h w 2 = (n : Int)) (hn24 : n < 24) : jRet 68 0 0 [.ref w, .int (iI x), .int (iI y)] h (fun q h' => q = some (.int (iI (n : Int))) ∧ h' = sI (sI (sI h (w + 1) n (iI x)) (w + 2) n (iI y)) w 2 (iI ((n : Int) + 1))) := by
  have W1 := wl_sk W (sk.rf.sI (p := w + 1) (k := n) (v := iI x))
  have e1 : mI (sI h (w + 1) n (iI x)) w 2 = (n : Int) := by
    rw [mI_sI hx, if_neg (fun z => by omega), hn]
  have e2 : mI (sI (sI h (w + 1) n (iI x)) (w + 2) n (iI y)) w 2 = (n : Int) := by
    rw [mI_sI hy, if_neg (fun z => by omega), e1]
  have W2 := wl_sk W1 (sk.rf.sI (p := w + 2) (k := n) (v := iI y))
  refine jRet_of (by decide) (by decide) (Nat.le_of_ble_eq_true rfl) (j_Wa_addCorner_0 ?_)
  rw [gI_mI h w 2, hn, iI_lt ⟨by omega, by omega⟩ ⟨by omega, by omega⟩]
  refine ⟨W.1, fun _ => j_Wa_addCorner_11 ?_, fun z => absurd (by omega) z⟩
  rw [gI_mI h w 2, hn, W.2.1, iI_cl (by omega) (by omega), Int.toNat_natCast, gI_mI (sI h (w + 1) n (iI x)) w 2, e1, W1.2.2.2.1, iI_cl (by omega) (by omega), Int.toNat_natCast]
  refine ⟨W.1, W.1, ix_of W.2.2.1 (by omega) (by omega) (by decide), W1.1, W1.1, ix_of W1.2.2.2.2.1 (by omega) (by omega) (by decide), j_Wa_addCorner_31 ?_⟩
  have e3 : mI (sI (sI (sI h (w + 1) n (iI x)) (w + 2) n (iI y)) w 2 (iI ((n : Int) + 1))) w 2 = (n : Int) + 1 := by
    rw [mI_sI ⟨by omega, by omega⟩, if_pos ⟨rfl, rfl⟩]
  rw [gI_mI (sI (sI h (w + 1) n (iI x)) (w + 2) n (iI y)) w 2, e2, iI_add, gI_mI _ w 2, e3, iI_sub, show (n : Int) + 1 - 1 = (n : Int) by omega]
  exact ⟨W2.1, W2.1, (wl_sk W2 sk.rf.sI).1, rfl, rfl⟩
end TAB
