/-! constructors: growth; the model's -/
section INIT
variable {m : Nat} {h0 h : jHp}
theorem jn_A {c n : Nat} : jn (jA h c n) = jn h + 1 := rfl
theorem jz_A {c n q : Nat} : jz (jA h c n) q = if q = jn h + 2 then (c, n) else jz h q := rfl
theorem gI_A {c n q j : Nat} : gI (jA h c n) q j = if q = jn h + 2 then 0 else gI h q j := rfl
theorem gR_A {c n q j : Nat} : gR (jA h c n) q j = if q = jn h + 2 then 0 else gR h q j := rfl
theorem jn_R {p k r : Nat} : jn (sR h p k r) = jn h := rfl
theorem jz_R {p k r q : Nat} : jz (sR h p k r) q = jz h q := rfl
theorem gI_R {p k r q j : Nat} : gI (sR h p k r) q j = gI h q j := rfl
theorem gR_R {p k r q j : Nat} : gR (sR h p k r) q j = if q = p ∧ j = k then r else gR h q j := rfl
/-- the model, i arrays made; b: field 21 is told -/
def MI (m i b : Nat) (h0 h : jHp) : Prop := jn h = m - 1 + i ∧ 2 ≤ m ∧ (∀ q, q ≤ m → jz h q = jz h0 q) ∧ (∀ q k, q < m → gI h q k = gI h0 q k ∧ gR h q k = gR h0 q k) ∧ (∀ q k, m < q → q ≤ m + i → gI h q k = 0) ∧ (∀ k, gI h m k = if k = 21 ∧ b = 1 then iI 100 else 0) ∧ ∀ x ∈ mA.take i, gR h m x.1 = m + x.2.1 ∧ jz h (m + x.2.1) = (10, x.2.2)
theorem mA_le : ∀ i, i < 28 → ∀ x ∈ mA.take i, 1 ≤ x.2.1 ∧ x.2.1 ≤ i := by decide
theorem MI_s {i b f n : Nat} (I : MI m i b h0 h) (hi : i < 27) (hx : mA[i]? = some (f, i + 1, n)) (hf : ∀ x ∈ mA.take i, x.1 ≠ f) : MI m (i + 1) b h0 (sR (jA h 10 n) m f (jn h + 2)) := by
  obtain ⟨a1, a2, a3, a4, a5, a6, a7⟩ := I
  refine ⟨by rw [jn_R, jn_A, a1]; omega, a2, fun q hq => ?_, fun q k hq => ⟨?_, ?_⟩, fun q k h1 h2 => ?_, fun k => ?_, fun x hxm => ?_⟩
  · rw [jz_R, jz_A, if_neg (by omega)]
    exact a3 q hq
  · rw [gI_R, gI_A, if_neg (by omega)]
    exact (a4 q k hq).1
  · rw [gR_R, if_neg (by omega), gR_A, if_neg (by omega)]
    exact (a4 q k hq).2
  · rw [gI_R, gI_A]
    by_cases e : q = jn h + 2
    · rw [if_pos e]
    · rw [if_neg e]
      exact a5 q k h1 (by omega)
  · rw [gI_R, gI_A, if_neg (by omega)]
    exact a6 k
  · rw [List.take_add_one, hx] at hxm
    rcases List.mem_append.mp hxm with y | y
    · have le := mA_le i (by omega) x y
      rw [gR_R, if_neg (fun z => hf x y z.2), gR_A, if_neg (by omega), jz_R, jz_A, if_neg (by omega)]
      exact a7 x y
    · have e : x = (f, i + 1, n) := by simpa using y
      rw [e]
      refine ⟨?_, ?_⟩
      · rw [gR_R, if_pos ⟨rfl, rfl⟩, a1]
        show m - 1 + i + 2 = m + (i + 1)
        omega
      · rw [jz_R, jz_A, if_pos (by show m + (i + 1) = jn h + 2; omega)]
theorem MI_21 {i : Nat} (I : MI m i 0 h0 h) : MI m i 1 h0 (sI h m 21 (iI 100)) := by
  obtain ⟨a1, a2, a3, a4, a5, a6, a7⟩ := I
  refine ⟨a1, a2, a3, fun q k hq => ⟨?_, (a4 q k hq).2⟩, fun q k h1 h2 => ?_, fun k => ?_, a7⟩
  · rw [gI_sI, if_neg (by omega)]
    exact (a4 q k hq).1
  · rw [gI_sI, if_neg (by omega)]
    exact a5 q k h1 h2
  · rw [gI_sI]
    by_cases e : k = 21
    · rw [if_pos ⟨rfl, e⟩, if_pos ⟨e, rfl⟩]
    · rw [if_neg (fun z => e z.2), if_neg (fun z => e z.1)]
      have := a6 k
      rw [if_neg (fun z => e z.1)] at this
      exact this
theorem c_Minit (ho : isO h0 m 9) (hm : 2 ≤ m) (hj : jn h0 = m - 1) (hz : ∀ k, gI h0 m k = 0) : jRet 129 27 405000 [.ref m] h0 (fun q h' => q = none ∧ MI m 27 1 h0 h') := by
  have ob : ∀ {h : jHp} {i b n : Nat}, MI m i b h0 h → isO (jA h 10 n) m 9 := fun {h i b n} I => by
    unfold isO
    rw [jz_A, if_neg (by have := I.1; omega), I.2.2.1 m (Nat.le_refl m)]
    exact ho
  have l219 : ∀ h, MI m 26 1 h0 h → J 129 219 1 654 [.ref m] [] h (fun q h' => q = none ∧ MI m 27 1 h0 h') := by
    intro h I
    have e : (iI 12).toNatClampNeg = 12 := by decide
    refine j_M_init_219 (kc := 0) (ks := 642) ?_
    rw [e]
    exact ⟨by decide, by decide, by decide, by decide, ob I, rfl, MI_s I (by decide) rfl (by decide)⟩
  have l212 : ∀ h, MI m 25 1 h0 h → J 129 212 2 658 [.ref m] [] h (fun q h' => q = none ∧ MI m 27 1 h0 h') := by
    intro h I
    have e : (iI 4).toNatClampNeg = 4 := by decide
    refine j_M_init_212 (kc := 1) (ks := 654) ?_
    rw [e]
    exact ⟨by decide, by decide, by decide, by decide, ob I, l219 _ (MI_s I (by decide) rfl (by decide))⟩
  have l205 : ∀ h, MI m 24 1 h0 h → J 129 205 3 661 [.ref m] [] h (fun q h' => q = none ∧ MI m 27 1 h0 h') := by
    intro h I
    have e : (iI 3).toNatClampNeg = 3 := by decide
    refine j_M_init_205 (kc := 2) (ks := 658) ?_
    rw [e]
    exact ⟨by decide, by decide, by decide, by decide, ob I, l212 _ (MI_s I (by decide) rfl (by decide))⟩
  have l197 : ∀ h, MI m 23 1 h0 h → J 129 197 4 721 [.ref m] [] h (fun q h' => q = none ∧ MI m 27 1 h0 h') := by
    intro h I
    have e : (iI 60).toNatClampNeg = 60 := by decide
    refine j_M_init_197 (kc := 3) (ks := 661) ?_
    rw [e]
    exact ⟨by decide, by decide, by decide, by decide, ob I, l205 _ (MI_s I (by decide) rfl (by decide))⟩
  have l190 : ∀ h, MI m 22 1 h0 h → J 129 190 5 724 [.ref m] [] h (fun q h' => q = none ∧ MI m 27 1 h0 h') := by
    intro h I
    have e : (iI 3).toNatClampNeg = 3 := by decide
    refine j_M_init_190 (kc := 4) (ks := 721) ?_
    rw [e]
    exact ⟨by decide, by decide, by decide, by decide, ob I, l197 _ (MI_s I (by decide) rfl (by decide))⟩
  have l182 : ∀ h, MI m 21 1 h0 h → J 129 182 6 732 [.ref m] [] h (fun q h' => q = none ∧ MI m 27 1 h0 h') := by
    intro h I
    have e : (iI 8).toNatClampNeg = 8 := by decide
    refine j_M_init_182 (kc := 5) (ks := 724) ?_
    rw [e]
    exact ⟨by decide, by decide, by decide, by decide, ob I, l190 _ (MI_s I (by decide) rfl (by decide))⟩
  have l174 : ∀ h, MI m 20 1 h0 h → J 129 174 7 740 [.ref m] [] h (fun q h' => q = none ∧ MI m 27 1 h0 h') := by
    intro h I
    have e : (iI 8).toNatClampNeg = 8 := by decide
    refine j_M_init_174 (kc := 6) (ks := 732) ?_
    rw [e]
    exact ⟨by decide, by decide, by decide, by decide, ob I, l182 _ (MI_s I (by decide) rfl (by decide))⟩
  have l165 : ∀ h, MI m 19 1 h0 h → J 129 165 8 1740 [.ref m] [] h (fun q h' => q = none ∧ MI m 27 1 h0 h') := by
    intro h I
    have e : (iI 1000).toNatClampNeg = 1000 := by decide
    refine j_M_init_165 (kc := 7) (ks := 740) ?_
    rw [e]
    exact ⟨by decide, by decide, by decide, by decide, ob I, l174 _ (MI_s I (by decide) rfl (by decide))⟩
  have l157 : ∀ h, MI m 18 1 h0 h → J 129 157 9 1812 [.ref m] [] h (fun q h' => q = none ∧ MI m 27 1 h0 h') := by
    intro h I
    have e : (iI 72).toNatClampNeg = 72 := by decide
    refine j_M_init_157 (kc := 8) (ks := 1740) ?_
    rw [e]
    exact ⟨by decide, by decide, by decide, by decide, ob I, l165 _ (MI_s I (by decide) rfl (by decide))⟩
  have l148 : ∀ h, MI m 17 1 h0 h → J 129 148 10 3612 [.ref m] [] h (fun q h' => q = none ∧ MI m 27 1 h0 h') := by
    intro h I
    have e : (iI 1800).toNatClampNeg = 1800 := by decide
    refine j_M_init_148 (kc := 9) (ks := 1812) ?_
    rw [e]
    exact ⟨by decide, by decide, by decide, by decide, ob I, l157 _ (MI_s I (by decide) rfl (by decide))⟩
  have l141 : ∀ h, MI m 16 1 h0 h → J 129 141 11 3616 [.ref m] [] h (fun q h' => q = none ∧ MI m 27 1 h0 h') := by
    intro h I
    have e : (iI 4).toNatClampNeg = 4 := by decide
    refine j_M_init_141 (kc := 10) (ks := 3612) ?_
    rw [e]
    exact ⟨by decide, by decide, by decide, by decide, ob I, l148 _ (MI_s I (by decide) rfl (by decide))⟩
  have l133 : ∀ h, MI m 15 1 h0 h → J 129 133 12 3680 [.ref m] [] h (fun q h' => q = none ∧ MI m 27 1 h0 h') := by
    intro h I
    have e : (iI 64).toNatClampNeg = 64 := by decide
    refine j_M_init_133 (kc := 11) (ks := 3616) ?_
    rw [e]
    exact ⟨by decide, by decide, by decide, by decide, ob I, l141 _ (MI_s I (by decide) rfl (by decide))⟩
  have l127 : ∀ h, MI m 15 0 h0 h → J 129 127 12 3680 [.ref m] [] h (fun q h' => q = none ∧ MI m 27 1 h0 h') := by
    intro h I
    refine j_M_init_127 ⟨?_, l133 _ (MI_21 I)⟩
    unfold isO
    rw [I.2.2.1 m (Nat.le_refl m)]
    exact ho
  have l119 : ∀ h, MI m 14 0 h0 h → J 129 119 13 3688 [.ref m] [] h (fun q h' => q = none ∧ MI m 27 1 h0 h') := by
    intro h I
    have e : (iI 8).toNatClampNeg = 8 := by decide
    refine j_M_init_119 (kc := 12) (ks := 3680) ?_
    rw [e]
    exact ⟨by decide, by decide, by decide, by decide, ob I, l127 _ (MI_s I (by decide) rfl (by decide))⟩
  have l111 : ∀ h, MI m 13 0 h0 h → J 129 111 14 3696 [.ref m] [] h (fun q h' => q = none ∧ MI m 27 1 h0 h') := by
    intro h I
    have e : (iI 8).toNatClampNeg = 8 := by decide
    refine j_M_init_111 (kc := 13) (ks := 3688) ?_
    rw [e]
    exact ⟨by decide, by decide, by decide, by decide, ob I, l119 _ (MI_s I (by decide) rfl (by decide))⟩
  have l103 : ∀ h, MI m 12 0 h0 h → J 129 103 15 3704 [.ref m] [] h (fun q h' => q = none ∧ MI m 27 1 h0 h') := by
    intro h I
    have e : (iI 8).toNatClampNeg = 8 := by decide
    refine j_M_init_103 (kc := 14) (ks := 3696) ?_
    rw [e]
    exact ⟨by decide, by decide, by decide, by decide, ob I, l111 _ (MI_s I (by decide) rfl (by decide))⟩
  have l95 : ∀ h, MI m 11 0 h0 h → J 129 95 16 3712 [.ref m] [] h (fun q h' => q = none ∧ MI m 27 1 h0 h') := by
    intro h I
    have e : (iI 8).toNatClampNeg = 8 := by decide
    refine j_M_init_95 (kc := 15) (ks := 3704) ?_
    rw [e]
    exact ⟨by decide, by decide, by decide, by decide, ob I, l103 _ (MI_s I (by decide) rfl (by decide))⟩
  have l87 : ∀ h, MI m 10 0 h0 h → J 129 87 17 3720 [.ref m] [] h (fun q h' => q = none ∧ MI m 27 1 h0 h') := by
    intro h I
    have e : (iI 8).toNatClampNeg = 8 := by decide
    refine j_M_init_87 (kc := 16) (ks := 3712) ?_
    rw [e]
    exact ⟨by decide, by decide, by decide, by decide, ob I, l95 _ (MI_s I (by decide) rfl (by decide))⟩
  have l79 : ∀ h, MI m 9 0 h0 h → J 129 79 18 3728 [.ref m] [] h (fun q h' => q = none ∧ MI m 27 1 h0 h') := by
    intro h I
    have e : (iI 8).toNatClampNeg = 8 := by decide
    refine j_M_init_79 (kc := 17) (ks := 3720) ?_
    rw [e]
    exact ⟨by decide, by decide, by decide, by decide, ob I, l87 _ (MI_s I (by decide) rfl (by decide))⟩
  have l71 : ∀ h, MI m 8 0 h0 h → J 129 71 19 3736 [.ref m] [] h (fun q h' => q = none ∧ MI m 27 1 h0 h') := by
    intro h I
    have e : (iI 8).toNatClampNeg = 8 := by decide
    refine j_M_init_71 (kc := 18) (ks := 3728) ?_
    rw [e]
    exact ⟨by decide, by decide, by decide, by decide, ob I, l79 _ (MI_s I (by decide) rfl (by decide))⟩
  have l63 : ∀ h, MI m 7 0 h0 h → J 129 63 20 3744 [.ref m] [] h (fun q h' => q = none ∧ MI m 27 1 h0 h') := by
    intro h I
    have e : (iI 8).toNatClampNeg = 8 := by decide
    refine j_M_init_63 (kc := 19) (ks := 3736) ?_
    rw [e]
    exact ⟨by decide, by decide, by decide, by decide, ob I, l71 _ (MI_s I (by decide) rfl (by decide))⟩
  have l55 : ∀ h, MI m 6 0 h0 h → J 129 55 21 3752 [.ref m] [] h (fun q h' => q = none ∧ MI m 27 1 h0 h') := by
    intro h I
    have e : (iI 8).toNatClampNeg = 8 := by decide
    refine j_M_init_55 (kc := 20) (ks := 3744) ?_
    rw [e]
    exact ⟨by decide, by decide, by decide, by decide, ob I, l63 _ (MI_s I (by decide) rfl (by decide))⟩
  have l47 : ∀ h, MI m 5 0 h0 h → J 129 47 22 3776 [.ref m] [] h (fun q h' => q = none ∧ MI m 27 1 h0 h') := by
    intro h I
    have e : (iI 24).toNatClampNeg = 24 := by decide
    refine j_M_init_47 (kc := 21) (ks := 3752) ?_
    rw [e]
    exact ⟨by decide, by decide, by decide, by decide, ob I, l55 _ (MI_s I (by decide) rfl (by decide))⟩
  have l39 : ∀ h, MI m 4 0 h0 h → J 129 39 23 3800 [.ref m] [] h (fun q h' => q = none ∧ MI m 27 1 h0 h') := by
    intro h I
    have e : (iI 24).toNatClampNeg = 24 := by decide
    refine j_M_init_39 (kc := 22) (ks := 3776) ?_
    rw [e]
    exact ⟨by decide, by decide, by decide, by decide, ob I, l47 _ (MI_s I (by decide) rfl (by decide))⟩
  have l30 : ∀ h, MI m 3 0 h0 h → J 129 30 24 4200 [.ref m] [] h (fun q h' => q = none ∧ MI m 27 1 h0 h') := by
    intro h I
    have e : (iI 400).toNatClampNeg = 400 := by decide
    refine j_M_init_30 (kc := 23) (ks := 3800) ?_
    rw [e]
    exact ⟨by decide, by decide, by decide, by decide, ob I, l39 _ (MI_s I (by decide) rfl (by decide))⟩
  have l21 : ∀ h, MI m 2 0 h0 h → J 129 21 25 4600 [.ref m] [] h (fun q h' => q = none ∧ MI m 27 1 h0 h') := by
    intro h I
    have e : (iI 400).toNatClampNeg = 400 := by decide
    refine j_M_init_21 (kc := 24) (ks := 4200) ?_
    rw [e]
    exact ⟨by decide, by decide, by decide, by decide, ob I, l30 _ (MI_s I (by decide) rfl (by decide))⟩
  have l12 : ∀ h, MI m 1 0 h0 h → J 129 12 26 5000 [.ref m] [] h (fun q h' => q = none ∧ MI m 27 1 h0 h') := by
    intro h I
    have e : (iI 400).toNatClampNeg = 400 := by decide
    refine j_M_init_12 (kc := 25) (ks := 4600) ?_
    rw [e]
    exact ⟨by decide, by decide, by decide, by decide, ob I, l21 _ (MI_s I (by decide) rfl (by decide))⟩
  have l4 : ∀ h, MI m 0 0 h0 h → J 129 4 27 405000 [.ref m] [] h (fun q h' => q = none ∧ MI m 27 1 h0 h') := by
    intro h I
    have e : (iI (jc 0 400000)).toNatClampNeg = 400000 := by decide
    refine j_M_init_4 (kc := 26) (ks := 5000) ?_
    rw [e]
    exact ⟨by decide, by decide, by decide, by decide, ob I, l12 _ (MI_s I (by decide) rfl (by decide))⟩
  refine jRet_of (by decide) (by decide) (Nat.le_of_ble_eq_true rfl) (j_M_init_0 ⟨by omega, l4 h0 ⟨by omega, hm, fun _ _ => rfl, fun _ _ _ => ⟨rfl, rfl⟩, fun q k h1 h2 => by omega, fun k => ?_, fun x hx => ?_⟩⟩)
  · rw [if_neg (by omega)]
    exact hz k
  · exact absurd hx (by simp)
end INIT
