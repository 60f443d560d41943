/-! constructors: Bounces, Cheapest -/
section MAKE2
variable {h0 h h' : jHp}
/-- a loop's Big into the array at c + 1 + a -/
theorem BQ_big {c na : Nat} {fa : Nat → Nat} {sh : Nat → Nat × Nat} {P F R : Nat → Nat} {j a i n r : Nat} (I : BQ c na fa sh P F R j h0 h) (ha : a < na) (hs : sh a = (13, n)) (hi : i < n) (hn : n ≤ 1000) (h4 : 4 ≤ r) (h40 : r ≤ 40) : jRet 5 1 40 [.ref (jn h + 2), .int (iI (r : Int))] (jA h 0 0) (fun v h1 => v = none ∧ ((ix h1 (c + 1 + a) 13 (iI (i : Int)) ∧ isO h1 (jn h + 2) 0) ∨ (ix h1 (c + 1 + a) 14 (iI (i : Int)) ∧ isO h1 (jn h + 2) 5)) ∧ h1 = mkB h r) := by
  refine jRet_mono (c_Binit h4 h40) ?_
  intro q k w
  obtain ⟨w1, w2⟩ := w
  rw [w2]
  exact ⟨w1, BQ_ix I ha hs hi hn, rfl⟩
/-- Bounces -/
def bFa (a : Nat) : Nat := a
def bSh (_ : Nat) : Nat × Nat := (13, 8)
def bPl (b t : Nat) : Nat := if t < 5 then b else if (t - 5) % 2 = 0 then b + 1 else b + 2
def bFd (t : Nat) : Nat := if t < 5 then 2 + t else (t - 5) / 2
def bRm (t : Nat) : Nat := if t = 1 ∨ t = 2 then 10 else 28
def BQb (b : Nat) (j : Nat) (h0 h : jHp) : Prop := BQ b 2 bFa bSh (bPl b) bFd bRm j h0 h
theorem BQb_s {b j p f r : Nat} (I : BQb b j h0 h) (e1 : bPl b j = p) (e2 : bFd j = f) (e3 : bRm j = r) : BQb b (j + 1) h0 (sR (mkB h r) p f (jn h + 2)) := by
  have lp : ∀ t, b ≤ bPl b t ∧ bPl b t < b + 1 + 2 := fun t => by
    unfold bPl
    repeat' split
    all_goals omega
  refine BQ_s I e1 e2 e3 (by rw [← e1]; exact (lp j).1) (by rw [← e1]; exact (lp j).2) ?_ (fun t ht z => ?_) (fun z a ha y => ?_) (fun t ht => (lp t).2)
  · rw [← e3]
    unfold bRm
    split <;> omega
  · rw [← e1, ← e2] at z
    unfold bPl bFd at z
    repeat' split at z
    all_goals omega
  · rw [← e1] at z
    rw [← e2] at y
    unfold bPl at z
    unfold bFd bFa at y
    repeat' split at z
    all_goals (try split at y)
    all_goals omega
theorem c_Boinit {b : Nat} (ho : isO h0 b 1) (hm : 2 ≤ b) (hj : jn h0 = b - 1) : jRet 28 44 919 [.ref b] h0 (fun q h' => q = none ∧ BQb b 21 h0 h') := by
  have c0 : cF 0 = 3 := rfl
  have l89 : ∀ (d i : Nat) (h : jHp), i + d = 8 → BQb b (5 + 2 * i) h0 h → J 28 89 (4 * d) (86 * d) [.ref b, .int (iI (i : Int))] [] h (fun q h' => q = none ∧ BQb b 21 h0 h') := by
    intro d
    induction d with
    | zero =>
      intro i h hi I
      obtain rfl : i = 8 := by omega
      refine j_Bo_init_89 ?_
      exact ⟨fun _ => j_Bo_init_131 ⟨rfl, I⟩, fun y => absurd (by decide) y⟩
    | succ d ih =>
      intro i h hi I
      have f0 : gR h b 0 = b + 1 := (I.2.2.2.1 0 (by decide)).1
      refine j_Bo_init_89 ?_
      rw [iI_le ⟨by omega, by omega⟩ ⟨by omega, by omega⟩]
      refine ⟨fun y => by omega, fun _ => ?_⟩
      have bd : J 28 95 (4 * d + 2 + 2) (86 * d + 43 + 43) [.ref b, .int (iI (i : Int))] [] h (fun q h' => q = none ∧ BQb b 21 h0 h') := by
        refine j_Bo_init_95 (kc := 4 * d + 2) (ks := 86 * d + 43) ?_
        rw [f0]
        refine ⟨BQ_o I ho, by omega, by omega, by omega, jRet_mono (BQ_big (a := 0) (i := i) (n := 8) (r := 28) I (by decide) rfl (by omega) (by decide) (by decide) (by decide)) ?_⟩
        intro q k w
        obtain ⟨w1, w2, w3⟩ := w
        rw [iI_cl (by omega) (by omega), Int.toNat_natCast]
        refine ⟨w1, w2, ?_⟩
        rw [w3]
        have I2 : BQb b (5 + 2 * i + 1) h0 (sR (mkB h 28) (b + 1) i (jn h + 2)) := BQb_s (j := 5 + 2 * i) I (by unfold bPl; rw [if_neg (by omega), if_pos (by omega)]) (by unfold bFd; rw [if_neg (by omega)]; omega) (by unfold bRm; rw [if_neg (by omega)])
        have f1 : gR (sR (mkB h 28) (b + 1) i (jn h + 2)) b 1 = b + 2 := (I2.2.2.2.1 1 (by decide)).1
        have k1 : 4 * d + 2 + 2 - 1 - 1 = 4 * d + 2 := by omega
        have k2 : 86 * d + 43 + 43 - cF 0 - 40 = 86 * d + 43 := by omega
        rw [k1, k2]
        generalize sR (mkB h 28) (b + 1) i (jn h + 2) = h2 at *
        refine j_Bo_init_110 (kc := 4 * d) (ks := 86 * d) ?_
        rw [f1]
        refine ⟨BQ_o I2 ho, by omega, by omega, by omega, jRet_mono (BQ_big (a := 1) (i := i) (n := 8) (r := 28) I2 (by decide) rfl (by omega) (by decide) (by decide) (by decide)) ?_⟩
        intro q k w
        obtain ⟨w1, w2, w3⟩ := w
        rw [iI_cl (by omega) (by omega), Int.toNat_natCast, iI_add]
        refine ⟨w1, w2, ?_⟩
        rw [w3]
        have I3 : BQb b (5 + 2 * i + 1 + 1) h0 (sR (mkB h2 28) (b + 2) i (jn h2 + 2)) := BQb_s (j := 5 + 2 * i + 1) I2 (by unfold bPl; rw [if_neg (by omega), if_neg (by omega)]) (by unfold bFd; rw [if_neg (by omega)]; omega) (by unfold bRm; rw [if_neg (by omega)])
        have k3 : 4 * d + 2 - 1 - 1 = 4 * d := by omega
        have k4 : 86 * d + 43 - cF 0 - 40 = 86 * d := by omega
        rw [k3, k4]
        exact ih (i + 1) _ (by omega) (by rw [show 5 + 2 * (i + 1) = 5 + 2 * i + 1 + 1 by omega]; exact I3)
      rw [show 4 * (d + 1) = 4 * d + 2 + 2 by omega, show 86 * (d + 1) = 86 * d + 43 + 43 by omega]
      exact bd
  have l74 : ∀ h, BQb b 4 h0 h → J 28 74 34 731 [.ref b, uu] [] h (fun q h' => q = none ∧ BQb b 21 h0 h') := by
    intro h I
    refine j_Bo_init_74 (kc := 32) (ks := 688) ⟨by decide, by decide, by omega, jRet_mono (c_Binit (r := 28) (by decide) (by decide)) ?_⟩
    intro q k w
    obtain ⟨w1, w2⟩ := w
    rw [w2]
    exact ⟨w1, BQ_oM I ho, l89 8 0 _ rfl (BQb_s I rfl rfl rfl)⟩
  have l61 : ∀ h, BQb b 3 h0 h → J 28 61 36 774 [.ref b, uu] [] h (fun q h' => q = none ∧ BQb b 21 h0 h') := by
    intro h I
    refine j_Bo_init_61 (kc := 34) (ks := 731) ⟨by decide, by decide, by omega, jRet_mono (c_Binit (r := 28) (by decide) (by decide)) ?_⟩
    intro q k w
    obtain ⟨w1, w2⟩ := w
    rw [w2]
    exact ⟨w1, BQ_oM I ho, l74 _ (BQb_s I rfl rfl rfl)⟩
  have l48 : ∀ h, BQb b 2 h0 h → J 28 48 38 817 [.ref b, uu] [] h (fun q h' => q = none ∧ BQb b 21 h0 h') := by
    intro h I
    refine j_Bo_init_48 (kc := 36) (ks := 774) ⟨by decide, by decide, by omega, jRet_mono (c_Binit (r := 10) (by decide) (by decide)) ?_⟩
    intro q k w
    obtain ⟨w1, w2⟩ := w
    rw [w2]
    exact ⟨w1, BQ_oM I ho, l61 _ (BQb_s I rfl rfl rfl)⟩
  have l35 : ∀ h, BQb b 1 h0 h → J 28 35 40 860 [.ref b, uu] [] h (fun q h' => q = none ∧ BQb b 21 h0 h') := by
    intro h I
    refine j_Bo_init_35 (kc := 38) (ks := 817) ⟨by decide, by decide, by omega, jRet_mono (c_Binit (r := 10) (by decide) (by decide)) ?_⟩
    intro q k w
    obtain ⟨w1, w2⟩ := w
    rw [w2]
    exact ⟨w1, BQ_oM I ho, l48 _ (BQb_s I rfl rfl rfl)⟩
  have l22 : ∀ h, BQb b 0 h0 h → J 28 22 42 903 [.ref b, uu] [] h (fun q h' => q = none ∧ BQb b 21 h0 h') := by
    intro h I
    refine j_Bo_init_22 (kc := 40) (ks := 860) ⟨by decide, by decide, by omega, jRet_mono (c_Binit (r := 28) (by decide) (by decide)) ?_⟩
    intro q k w
    obtain ⟨w1, w2⟩ := w
    rw [w2]
    exact ⟨w1, BQ_oM I ho, l35 _ (BQb_s I rfl rfl rfl)⟩
  have e : (iI 8).toNatClampNeg = 8 := by decide
  have I0 : BQ b 0 bFa bSh (bPl b) bFd bRm 0 h0 h0 := BQ_0 (by omega) hj
  have I1 := BQ_a (cc := 13) (n := 8) (f := 0) I0 rfl rfl (fun a ha => absurd ha (Nat.not_lt_zero a))
  have l13 : ∀ h, BQ b 1 bFa bSh (bPl b) bFd bRm 0 h0 h → J 28 13 43 911 [.ref b, uu] [] h (fun q h' => q = none ∧ BQb b 21 h0 h') := by
    intro h I
    refine j_Bo_init_13 (kc := 42) (ks := 903) ?_
    rw [e]
    exact ⟨by decide, by decide, by decide, by decide, BQ_oA I ho, l22 _ (BQ_a I rfl rfl (fun a ha => by unfold bFa; omega))⟩
  refine jRet_of (by decide) (by decide) (Nat.le_of_ble_eq_true rfl) (j_Bo_init_0 ⟨by omega, j_Bo_init_4 (kc := 43) (ks := 911) ?_⟩)
  rw [e]
  exact ⟨by decide, by decide, by decide, by decide, BQ_oA I0 ho, l13 _ I1⟩
end MAKE2
