/-! the start: the invariant holds of two new objects -/
section START
variable {h0 h h' k K H : jHp} {x : Nat}
theorem bg_eqr {r b a c : Nat} {v : Int} (B : BG r b h v) (f : eqr a c h h') (h1 : a ≤ b) (h2 : b + 1 ≤ c) : BG r b h' v := by
  obtain ⟨⟨b1, b2, b3⟩, ⟨b4, b5, b6, b7⟩, b8⟩ := B
  have g : ∀ {q : Nat}, a ≤ q → q ≤ c → ∀ k, mI h' q k = mI h q k := fun ha hc k => by
    unfold mI
    rw [(f _ ha hc).2.1 k]
  refine ⟨⟨?_, ?_, ?_⟩, ⟨?_, b5, b6, fun k hk => ?_⟩, ?_⟩
  · unfold isO at *
    rw [(f b h1 (by omega)).1]
    exact b1
  · rw [(f b h1 (by omega)).2.2 0]
    exact b2
  · rw [(f (b + 1) (by omega) h2).1]
    exact b3
  · rw [g h1 (by omega)]
    exact b4
  · rw [g (by omega) h2]
    exact b7 k hk
  · rw [g h1 (by omega)]
    exact b8
theorem iO_eqr {a c p cc : Nat} (o : isO h p cc) (f : eqr a c h h') (h1 : a ≤ p) (h2 : p ≤ c) : isO h' p cc := by
  unfold isO at *
  rw [(f p h1 h2).1]
  exact o
theorem w_of (F : FW x K) : WL (x + 1) K ∧ ∀ q k, x + 1 ≤ q → q ≤ x + 13 → gI K q k = 0 := by
  obtain ⟨a, b, W, z, o, E⟩ := F
  obtain ⟨w0, w1, w2, w3, w4, w5⟩ := W
  have ob : isO b (x + 1) 7 := by
    unfold isO at *
    rw [w2.1 (x + 1) (Nat.le_refl _)]
    exact o
  have r : ∀ q j, x + 1 ≤ q → q ≤ x + 13 → gR K q j = gR b q j := fun q j h1 h2 => (E q h1 h2).2.2 j
  have s : ∀ q, x + 1 ≤ q → q ≤ x + 13 → jz K q = jz b q := fun q h1 h2 => (E q h1 h2).1
  have f0 := w3 0 (by decide)
  have f1 := w3 1 (by decide)
  have f2 := w3 2 (by decide)
  have f3 := w3 3 (by decide)
  refine ⟨⟨iO_eqr ob E (by omega) (by omega), ?_, ?_, ?_, ?_, ?_, ?_, ?_, ?_, fun i hi => ⟨?_, ?_⟩⟩, fun q k h1 h2 => ?_⟩
  · rw [r _ _ (by omega) (by omega)]
    exact f0.1
  · rw [s _ (by omega) (by omega)]
    exact f0.2
  · rw [r _ _ (by omega) (by omega)]
    exact f1.1
  · rw [s _ (by omega) (by omega)]
    exact f1.2
  · rw [r _ _ (by omega) (by omega)]
    exact f2.1
  · rw [s _ (by omega) (by omega)]
    exact f2.2
  · rw [r _ _ (by omega) (by omega)]
    exact f3.1
  · rw [s _ (by omega) (by omega)]
    exact f3.2
  · rw [r _ _ (by omega) (by omega)]
    exact (w5 i hi).1
  · exact iO_eqr (w5 i hi).2 E (by omega) (by omega)
  · rw [(E q h1 h2).2.1 k]
    by_cases e : q = x + 1
    · rw [e, w2.2.2 k]
      exact z k
    · exact w4 q k (by omega) (by omega)
theorem t_of (F : FT x K) : TL (x + 14) K ∧ gI K (x + 14) 0 = iI 100 ∧ ∀ q k, x + 14 < q → q ≤ x + 23 → gI K q k = 0 := by
  obtain ⟨a, b, T, o, E⟩ := F
  obtain ⟨t0, t1, t2, t3, t4, t5, t6, t7⟩ := T
  have ob : isO b (x + 14) 6 := by
    unfold isO at *
    rw [t1 (x + 14) (Nat.le_refl _)]
    exact o
  refine ⟨⟨iO_eqr ob E (by omega) (by omega), ?_, ?_, fun i hi => ⟨?_, ?_⟩⟩, ?_, fun q k h1 h2 => ?_⟩
  · rw [(E _ (by omega) (by omega)).2.2]
    exact t3
  · rw [(E _ (by omega) (by omega)).1]
    exact t4
  · rw [(E _ (by omega) (by omega)).2.2]
    exact (t5 i hi).1
  · rw [(E _ (by omega) (by omega)).1]
    exact (t5 i hi).2
  · rw [(E _ (by omega) (by omega)).2.1]
    exact t6
  · rw [(E q (by omega) h2).2.1]
    exact t7 q k h1 (by omega)
theorem bq_r {c na : Nat} {fa : Nat → Nat} {sh : Nat → Nat × Nat} {P F R : Nat → Nat} {j b : Nat} {a g : jHp} (I : BQ c na fa sh P F R j a g) (E : eqr c b g K) (hb : c + 1 + na + 2 * j ≤ b + 1) (hp : ∀ t, t < j → c ≤ P t ∧ P t ≤ b) : (∀ i, i < na → gR K c (fa i) = c + 1 + i ∧ jz K (c + 1 + i) = sh i) ∧ ∀ t, t < j → gR K (P t) (F t) = c + 1 + na + 2 * t ∧ BG (R t) (c + 1 + na + 2 * t) K 0 := by
  obtain ⟨b0, b1, b2, b3, b4, b5⟩ := I
  refine ⟨fun i hi => ⟨?_, ?_⟩, fun t ht => ⟨?_, ?_⟩⟩
  · rw [(E _ (by omega) (by omega)).2.2]
    exact (b3 i hi).1
  · rw [(E _ (by omega) (by omega)).1]
    exact (b3 i hi).2
  · rw [(E _ (hp t ht).1 (hp t ht).2).2.2]
    exact (b5 t ht).1
  · exact bg_eqr (b5 t ht).2 E (by omega) (by omega)
theorem bq_o {c na : Nat} {fa : Nat → Nat} {sh : Nat → Nat × Nat} {P F R : Nat → Nat} {j b cc : Nat} {a g : jHp} (I : BQ c na fa sh P F R j a g) (o : isO a c cc) (E : eqr c b g K) (hb : c ≤ b) : isO K c cc := iO_eqr (BQ_o I o) E (Nat.le_refl c) hb
theorem g_of (F : FG x K) : GL (x + 24) K ∧ GN (x + 24) K ∧ gI K (x + 24) 5 = 0 := by
  obtain ⟨a, b, G, z, o, E⟩ := F
  have oK := bq_o G o E (by omega)
  obtain ⟨A, B⟩ := bq_r G E (by omega) (fun t ht => by unfold gP; split <;> omega)
  have A0 := A 0 (by decide)
  have B4 : ∀ k, k < 64 → gR K (x + 24 + 1) k = x + 24 + 10 + 2 * k ∧ BG 10 (x + 24 + 10 + 2 * k) K 0 := fun k hk => by
    have q := B (4 + k) (by omega)
    have e1 : gP (x + 24) (4 + k) = x + 24 + 1 := by
      unfold gP
      rw [if_neg (by omega)]
    have e2 : gFd (4 + k) = k := by
      unfold gFd
      rw [if_neg (by omega)]
      omega
    have e3 : gRm (4 + k) = 10 := by
      unfold gRm
      rw [if_neg (by omega), if_neg (by omega)]
    rw [e1, e2, e3, show x + 24 + 1 + 1 + 2 * (4 + k) = x + 24 + 10 + 2 * k by omega] at q
    exact q
  refine ⟨⟨oK, A0.1, A0.2, (B 0 (by decide)).1, (B 1 (by decide)).1, (B 2 (by decide)).1, (B 3 (by decide)).1, fun k hk => (B4 k hk).1⟩, ⟨⟨0, (B 0 (by decide)).2⟩, ⟨0, (B 1 (by decide)).2⟩, ⟨0, (B 2 (by decide)).2⟩, ⟨0, (B 3 (by decide)).2⟩, fun i j hi hj => ⟨0, ?_⟩⟩, ?_⟩
  · exact (B4 (8 * i + j) (by omega)).2
  · rw [(E _ (by omega) (by omega)).2.1, G.2.2.1.2.2 5]
    exact z 5
theorem b_of (F : FB x K) : BnW x K := by
  obtain ⟨a, b, G, o, E⟩ := F
  have oK := bq_o G o E (by omega)
  obtain ⟨A, B⟩ := bq_r G E (by omega) (fun t ht => by unfold bPl; (repeat' split) <;> omega)
  have A0 := A 0 (by decide)
  have A1 := A 1 (by decide)
  have B5 : ∀ i, i < 8 → (gR K (x + 162 + 1) i = x + 162 + 13 + 4 * i ∧ BG 28 (x + 162 + 13 + 4 * i) K 0) ∧ (gR K (x + 162 + 2) i = x + 162 + 15 + 4 * i ∧ BG 28 (x + 162 + 15 + 4 * i) K 0) := fun i hi => by
    have q := B (5 + 2 * i) (by omega)
    have r := B (5 + 2 * i + 1) (by omega)
    have e1 : bPl (x + 162) (5 + 2 * i) = x + 162 + 1 := by
      unfold bPl
      rw [if_neg (by omega), if_pos (by omega)]
    have e2 : bFd (5 + 2 * i) = i := by
      unfold bFd
      rw [if_neg (by omega)]
      omega
    have e3 : bRm (5 + 2 * i) = 28 := by
      unfold bRm
      rw [if_neg (by omega)]
    have e4 : bPl (x + 162) (5 + 2 * i + 1) = x + 162 + 2 := by
      unfold bPl
      rw [if_neg (by omega), if_neg (by omega)]
    have e5 : bFd (5 + 2 * i + 1) = i := by
      unfold bFd
      rw [if_neg (by omega)]
      omega
    have e6 : bRm (5 + 2 * i + 1) = 28 := by
      unfold bRm
      rw [if_neg (by omega)]
    rw [e1, e2, e3, show x + 162 + 1 + 2 + 2 * (5 + 2 * i) = x + 162 + 13 + 4 * i by omega] at q
    rw [e4, e5, e6, show x + 162 + 1 + 2 + 2 * (5 + 2 * i + 1) = x + 162 + 15 + 4 * i by omega] at r
    exact ⟨q, r⟩
  refine ⟨0, ⟨Or.inl rfl, oK, A0.1, A1.1, (B 0 (by decide)).1, (B 1 (by decide)).1, (B 2 (by decide)).1, (B 3 (by decide)).1, (B 4 (by decide)).1, A0.2, A1.2, fun i hi => ⟨(B5 i hi).1.1, (B5 i hi).2.1⟩⟩, ⟨0, (B 0 (by decide)).2⟩, ⟨0, (B 1 (by decide)).2⟩, ⟨0, (B 2 (by decide)).2⟩, ⟨0, (B 3 (by decide)).2⟩, ⟨0, (B 4 (by decide)).2⟩, fun s i hs hi => ⟨0, ?_⟩⟩
  have e : s = 0 ∨ s = 1 := by omega
  unfold bp
  rcases e with rfl | rfl
  · exact (B5 i hi).1.2
  · rw [show x + 162 + 13 + 4 * i + 2 * 1 = x + 162 + 15 + 4 * i by omega]
    exact (B5 i hi).2.2
theorem c_of (F : FC x K) : CL (x + 207) K ∧ CV (x + 207) (fun _ => 0) K ∧ gI K (x + 207) 13 = 0 := by
  obtain ⟨a, b, G, z, o, E⟩ := F
  have oK := bq_o G o E (by omega)
  obtain ⟨A, B⟩ := bq_r G E (by omega) (fun t ht => by have := cPl_b (c := x + 207) t; omega)
  have at' : ∀ t, t < 78 → x + 207 + 1 + 9 + 2 * t = pl (x + 207) t := fun t ht => by
    unfold pl
    omega
  have B' : ∀ t p f, t < 78 → cPl (x + 207) t = p → cFd t = f → gR K p f = pl (x + 207) t := fun t p f ht e1 e2 => by
    rw [← e1, ← e2, (B t ht).1, at' t ht]
  refine ⟨⟨oK, (A 0 (by decide)).1, (A 0 (by decide)).2, (A 1 (by decide)).1, (A 1 (by decide)).2, (A 2 (by decide)).1, (A 2 (by decide)).2, (A 3 (by decide)).1, (A 3 (by decide)).2, (A 4 (by decide)).1, (A 4 (by decide)).2, (A 5 (by decide)).1, (A 5 (by decide)).2, (A 6 (by decide)).1, (A 6 (by decide)).2, (A 7 (by decide)).1, (A 7 (by decide)).2, (A 8 (by decide)).1, (A 8 (by decide)).2, B' 0 _ _ (by decide) rfl rfl, B' 1 _ _ (by decide) rfl rfl, B' 2 _ _ (by decide) rfl rfl, B' 3 _ _ (by decide) rfl rfl, fun k hk => ?_, fun k hk => ?_, fun k hk => ?_, fun k hk => ⟨?_, ?_, ?_⟩⟩, fun q hq => ?_, ?_⟩
  · refine B' (4 + k) _ _ (by omega) ?_ ?_
    · unfold cPl
      rw [if_neg (by omega), if_pos (by omega)]
    · unfold cFd
      rw [if_neg (by omega), if_pos (by omega)]
      omega
  · refine B' (46 + k) _ _ (by omega) ?_ ?_
    · unfold cPl
      rw [if_neg (by omega), if_neg (by omega), if_pos (by omega)]
    · unfold cFd
      rw [if_neg (by omega), if_neg (by omega), if_pos (by omega)]
      omega
  · refine B' (60 + k) _ _ (by omega) ?_ ?_
    · unfold cPl
      rw [if_neg (by omega), if_neg (by omega), if_neg (by omega), if_pos (by omega)]
    · unfold cFd
      rw [if_neg (by omega), if_neg (by omega), if_neg (by omega), if_pos (by omega)]
      omega
  · refine B' (69 + 3 * k) _ _ (by omega) ?_ ?_
    · unfold cPl
      rw [if_neg (by omega), if_neg (by omega), if_neg (by omega), if_neg (by omega)]
      omega
    · unfold cFd
      rw [if_neg (by omega), if_neg (by omega), if_neg (by omega), if_neg (by omega)]
      omega
  · refine B' (70 + 3 * k) _ _ (by omega) ?_ ?_
    · unfold cPl
      rw [if_neg (by omega), if_neg (by omega), if_neg (by omega), if_neg (by omega)]
      omega
    · unfold cFd
      rw [if_neg (by omega), if_neg (by omega), if_neg (by omega), if_neg (by omega)]
      omega
  · refine B' (71 + 3 * k) _ _ (by omega) ?_ ?_
    · unfold cPl
      rw [if_neg (by omega), if_neg (by omega), if_neg (by omega), if_neg (by omega)]
      omega
    · unfold cFd
      rw [if_neg (by omega), if_neg (by omega), if_neg (by omega), if_neg (by omega)]
      omega
  · rw [← at' q hq]
    exact (B q hq).2
  · rw [(E _ (by omega) (by omega)).2.1, G.2.2.1.2.2 13]
    exact z 13
theorem o_of (F : FO x K) : OO (x + 373) K ∧ OX x [] K := by
  obtain ⟨a, b, O, z, o, E⟩ := F
  obtain ⟨o0, o1, o2, o3, o4⟩ := O
  have ob : isO b (x + 373) 4 := by
    unfold isO at *
    rw [o1.1 (x + 373) (Nat.le_refl _)]
    exact o
  have r : ∀ j, gR K (x + 373) j = gR b (x + 373) j := fun j => (E _ (by omega) (by omega)).2.2 j
  have g : ∀ i, i < 5 → BG 40 (x + 373 + 2 + 2 * i) K 0 := fun i hi => bg_eqr (o4 i hi).2 E (by omega) (by omega)
  refine ⟨⟨iO_eqr ob E (by omega) (by omega), by rw [r]; exact o2, by rw [(E _ (by omega) (by omega)).1]; exact o3, by rw [r]; exact (o4 0 (by decide)).1, by rw [r]; exact (o4 1 (by decide)).1, by rw [r]; exact (o4 2 (by decide)).1, by rw [r]; exact (o4 3 (by decide)).1, by rw [r]; exact (o4 4 (by decide)).1⟩, ⟨⟨0, g 0 (by decide)⟩, ⟨0, g 1 (by decide)⟩, ⟨0, g 2 (by decide)⟩, ⟨0, g 3 (by decide)⟩, ⟨0, g 4 (by decide)⟩⟩, ?_, by decide, fun k hk => absurd hk (Nat.not_lt_zero k)⟩
  refine mI_0 ?_
  rw [(E _ (by omega) (by omega)).2.1, o1.2.2 1]
  exact z 1
end START
