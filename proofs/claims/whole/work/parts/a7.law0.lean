/-! the law's start: both new, the invariant holds, the loop -/
section LAW0
variable {k0 K kM H : jHp} {x : Nat}
theorem eqr_up {a b c d : Nat} {k h : jHp} (E : eqr a b k h) (h1 : a ≤ c) (h2 : d ≤ b) : eqr c d k h := fun q q1 q2 => E q (by omega) (by omega)
theorem st_in (A : RQ x k0 K) (hx : 2 ≤ x) (M : MI (x + 385) 27 1 kM H) (ho : isO kM (x + 385) 9) (E : eqr x (x + 384) K H) : IN x H := by
  obtain ⟨X, R, fw, ft, fg', fb, fc, fo⟩ := A
  have fw' : FW x H := by
    obtain ⟨a, b, f1, f2, f3, f4⟩ := fw
    exact ⟨a, b, f1, f2, f3, f4.tr (eqr_up E (by omega) (by omega))⟩
  have ft' : FT x H := by
    obtain ⟨a, b, f1, f3, f4⟩ := ft
    exact ⟨a, b, f1, f3, f4.tr (eqr_up E (by omega) (by omega))⟩
  have fg2 : FG x H := by
    obtain ⟨a, b, f1, f2, f3, f4⟩ := fg'
    exact ⟨a, b, f1, f2, f3, f4.tr (eqr_up E (by omega) (by omega))⟩
  have fb' : FB x H := by
    obtain ⟨a, b, f1, f3, f4⟩ := fb
    exact ⟨a, b, f1, f3, f4.tr (eqr_up E (by omega) (by omega))⟩
  have fc' : FC x H := by
    obtain ⟨a, b, f1, f2, f3, f4⟩ := fc
    exact ⟨a, b, f1, f2, f3, f4.tr (eqr_up E (by omega) (by omega))⟩
  have fo' : FO x H := by
    obtain ⟨a, b, f1, f2, f3, f4⟩ := fo
    exact ⟨a, b, f1, f2, f3, f4.tr (eqr_up E (by omega) (by omega))⟩
  obtain ⟨W, Wz⟩ := w_of fw'
  obtain ⟨T, Tp, Tz⟩ := t_of ft'
  obtain ⟨G, GNh, Gz⟩ := g_of fg2
  have B := b_of fb'
  obtain ⟨C, CVh, Cz⟩ := c_of fc'
  obtain ⟨O, OXh⟩ := o_of fo'
  obtain ⟨m1, m2, m3, m4, m5, m6', m7⟩ := M
  have Mo' : Mo (x + 385) H := by
    refine ⟨?_, fun y hy => m7 y (show y ∈ mA.take 27 from hy)⟩
    unfold isO at *
    rw [m3 _ (Nat.le_refl _)]
    exact ho
  have mz : ∀ q j, x + 385 < q → q ≤ x + 412 → mI H q j = 0 := fun q j h1 h2 => mI_0 (m5 q j h1 (by omega))
  have mf : ∀ j, j ≠ 21 → mI H (x + 385) j = 0 := fun j hj => mI_0 (by rw [m6' j, if_neg (fun z => hj z.1)])
  have m21 : mI H (x + 385) 21 = 100 := by
    unfold mI
    rw [m6' 21, if_pos ⟨rfl, rfl⟩]
    decide
  have wz : ∀ q j, x + 1 ≤ q → q ≤ x + 13 → mI H q j = 0 := fun q j h1 h2 => mI_0 (Wz q j h1 h2)
  have tz : ∀ q j, x + 14 < q → q ≤ x + 23 → mI H q j = 0 := fun q j h1 h2 => mI_0 (Tz q j h1 h2)
  have tp : mI H (x + 14) 0 = 100 := by
    unfold mI
    rw [Tp]
    decide
  have xo : isO H x 8 := iO_eqr X.2.1 E (Nat.le_refl x) (by omega)
  have xr : ∀ f, f < 6 → gR H x f = pX x f := fun f hf => by
    rw [(E x (Nat.le_refl x) (by omega)).2.2 f]
    exact R f hf
  have x6 : mI H x 6 = 0 := mI_0 (by
    rw [(E x (Nat.le_refl x) (by omega)).2.1 6]
    exact X.2.2.1 6)
  have s0 : ∀ i, i < 8 → sm (fun j => mI H (x + 385 + 16) (8 * i + j)) 8 = 0 := fun i hi => by
    have e : sm (fun j => mI H (x + 385 + 16) (8 * i + j)) 8 = sm (fun _ => 0) 8 := sm_congr (fun j hj => mz _ _ (by omega) (by omega))
    rw [e]
    simp [sm]
  have rs : RWS (x + 385) H := fun i hi => by
    rw [s0 i hi, m21]
    decide
  have no : ∀ {P : Nat → Prop}, ∀ i, i < 0 → P i := fun i hi => absurd hi (Nat.not_lt_zero i)
  refine ⟨0, 0, [], ⟨⟨xo, xr 0 (by decide), xr 1 (by decide), xr 2 (by decide), xr 3 (by decide), xr 4 (by decide), xr 5 (by decide), W, T, G, C, O, Mo'⟩, ⟨fun k hk => ?_, no, ⟨by decide, fun i j hi => absurd hi (Nat.not_lt_zero i), no⟩, ⟨mf 20 (by decide), by decide, by rw [m21]; decide, by rw [m21]; decide, no, fun k hk => ?_, no⟩, no, no, no, no, mf 19 (by decide), by rw [lmC]; decide, rs⟩, ⟨⟨?_, ?_, fun k hk => ?_, fun i hi => ?_⟩, ⟨?_, fun i j hi hj => ?_⟩, ?_⟩, ⟨GNh, Or.inl (mI_0 Gz)⟩, B, ⟨fun _ => 0, CVh, ⟨fun _ _ _ _ _ => rfl, fun _ _ _ _ _ _ _ => rfl, fun _ _ _ => rfl⟩, Or.inl (mI_0 Cz)⟩, OXh, ⟨mf 27 (by decide), by decide, fun k hk => absurd hk (Nat.not_lt_zero k)⟩, fun _ => ⟨0, by decide, ?_, fun k hk => absurd hk (Nat.not_lt_zero k)⟩⟩, ?_⟩
  · rw [mz _ _ (by omega) (by omega), mz _ _ (by omega) (by omega)]
    decide
  · rw [mz _ _ (by omega) (by omega)]
    decide
  · rw [wz _ _ (by omega) (by omega), mf 19 (by decide)]
  · rw [wz _ _ (by omega) (by omega), mf 20 (by decide)]
  · rw [wz _ _ (by omega) (by omega), mz _ _ (by omega) (by omega), wz _ _ (by omega) (by omega), mz _ _ (by omega) (by omega)]
    exact ⟨rfl, rfl⟩
  · have w : ∀ j, mI H (x + 1 + 5 + i) j = 0 := fun j => wz _ _ (by omega) (by omega)
    have u : ∀ q, 7 ≤ q → q ≤ 15 → mI H (x + 385 + q) i = 0 := fun q h1 h2 => mz _ _ (by omega) (by omega)
    rw [w, w, w, w, w, w, w, w, w, u 9 (by decide) (by decide), u 7 (by decide) (by decide), u 8 (by decide) (by decide), u 10 (by decide) (by decide), u 11 (by decide) (by decide), u 12 (by decide) (by decide), u 13 (by decide) (by decide), u 14 (by decide) (by decide), u 15 (by decide) (by decide)]
    exact ⟨rfl, rfl, rfl, rfl, rfl, rfl, rfl, rfl, rfl⟩
  · rw [tp, m21]
  · rw [tz _ _ (by omega) (by omega), mz _ _ (by omega) (by omega)]
  · rw [wz _ _ (by omega) (by omega), lmC]
  · rw [mz _ _ (by omega) (by omega)]
    rfl
  · rw [x6, mf 0 (by decide)]
/-- the law from its first instruction, owing MNA alone -/
theorem law_start {L : Nat} {h : jHp} (X : MNA) (hL : L ≤ 2560) (hn : jn h = 0) (hz : jz h 1 = (20, L)) : J 200 0 413 414046 [.ref 1, uu, uu, uu] [] h lwQ := by
  have pe : jn h + 2 = 2 := by omega
  have o2 : isO (jA h 8 0) 2 8 := by
    rw [← pe]
    exact new_o
  refine j_W_law_0 ?_
  rw [pe]
  refine ⟨by decide, by decide, by decide, jRet_mono (c_Rinit (x := 2) X o2 (by decide) (by rw [jn_A, hn]) (fun j => by rw [← pe]; exact new_z)) ?_⟩
  intro q K w
  obtain ⟨u, A⟩ := w
  have pK : jn K + 2 = 2 + 385 := by rw [A.1.1]
  have oM : isO (jA K 9 0) (2 + 385) 9 := by
    rw [← pK]
    exact new_o
  rw [pK]
  refine ⟨u, by decide, by decide +kernel, by decide, jRet_mono (c_Minit (m := 2 + 385) oM (by decide) (by rw [jn_A]; omega) (fun j => by rw [← pK]; exact new_z)) ?_⟩
  intro q H w
  obtain ⟨u2, M⟩ := w
  have lK : ∀ q, q < 2 + 385 → jz H q = jz K q ∧ (∀ j, gI H q j = gI K q j) ∧ ∀ j, gR H q j = gR K q j := fun q hq => by
    refine ⟨?_, fun j => ?_, fun j => ?_⟩
    · rw [M.2.2.1 q (by omega), jz_A, if_neg (by omega)]
    · rw [(M.2.2.2.1 q j hq).1, gI_A, if_neg (by omega)]
    · rw [(M.2.2.2.1 q j hq).2, gR_A, if_neg (by omega)]
  have I : IN 2 H := st_in A (by decide) M oM (fun q h1 h2 => lK q (by omega))
  have z1 : jz H 1 = (20, L) := by
    rw [(lK 1 (by decide)).1, (A.1.2.2.2 1 (by decide)).1, jz_A, if_neg (by omega)]
    exact hz
  refine ⟨u2, ?_⟩
  rw [show (((413 - 1) - 384) - 1) - 27 = 0 by decide +kernel, show (((414046 - cF 8) - 9000) - cF 9) - 405000 = 0 by decide +kernel]
  exact law_loop hL L 0 H (by omega) (by omega) I z1
end LAW0
