/-! constructors: Big, Out -/
section INIT2
variable {h0 h h' : jHp} {A : Nat → Nat → Prop}
/-- what was there stays, but the refs of A -/
def ex (A : Nat → Nat → Prop) (h h' : jHp) : Prop := jn h ≤ jn h' ∧ (∀ q, q < jn h + 2 → jz h' q = jz h q ∧ ∀ k, gI h' q k = gI h q k) ∧ ∀ q k, q < jn h + 2 → ¬ A q k → gR h' q k = gR h q k
theorem ex.rf : ex A h h := ⟨Nat.le_refl _, fun _ _ => ⟨rfl, fun _ => rfl⟩, fun _ _ _ _ => rfl⟩
theorem ex.tr {k : jHp} (a : ex A h h') (b : ex A h' k) : ex A h k := by
  obtain ⟨a1, a2, a3⟩ := a
  obtain ⟨b1, b2, b3⟩ := b
  refine ⟨Nat.le_trans a1 b1, fun q hq => ⟨?_, fun j => ?_⟩, fun q j hq ha => ?_⟩
  · rw [(b2 q (by omega)).1, (a2 q hq).1]
  · rw [(b2 q (by omega)).2 j, (a2 q hq).2 j]
  · rw [b3 q j (by omega) ha, a3 q j hq ha]
theorem ex.mo {B : Nat → Nat → Prop} (a : ex A h h') (s : ∀ q k, A q k → B q k) : ex B h h' := ⟨a.1, a.2.1, fun q k hq hb => a.2.2 q k hq (fun z => hb (s q k z))⟩
theorem ex_arr {p f c n : Nat} (hp : p < jn h + 2) : ex (fun q k => q = p ∧ k = f) h (sR (jA h c n) p f (jn h + 2)) ∧ jn (sR (jA h c n) p f (jn h + 2)) = jn h + 1 ∧ jz (sR (jA h c n) p f (jn h + 2)) (jn h + 2) = (c, n) ∧ (∀ k, gI (sR (jA h c n) p f (jn h + 2)) (jn h + 2) k = 0) ∧ gR (sR (jA h c n) p f (jn h + 2)) p f = jn h + 2 := by
  refine ⟨⟨by rw [jn_R, jn_A]; omega, fun q hq => ⟨?_, fun k => ?_⟩, fun q k hq ha => ?_⟩, rfl, ?_, fun k => ?_, ?_⟩
  · rw [jz_R, jz_A, if_neg (by omega)]
  · rw [gI_R, gI_A, if_neg (by omega)]
  · rw [gR_R, if_neg ha, gR_A, if_neg (by omega)]
  · rw [jz_R, jz_A, if_pos rfl]
  · rw [gI_R, gI_A, if_pos rfl]
  · rw [gR_R, if_pos ⟨rfl, rfl⟩]
/-- new Big(r) -/
def mkB (h : jHp) (r : Nat) : jHp := sR (jA (jA h 0 0) 10 r) (jn h + 2) 0 (jn h + 3)
theorem mI_0 {p k : Nat} (z : gI h p k = 0) : mI h p k = 0 := by
  unfold mI
  rw [z]
  decide
theorem bg_mk {r : Nat} (hr : r ≤ 100) : BG r (jn h + 2) (mkB h r) 0 := by
  have z1 : ∀ k, gI (mkB h r) (jn h + 2) k = 0 := fun k => by
    unfold mkB
    rw [gI_R, gI_A, if_neg (by rw [jn_A]; omega), gI_A, if_pos rfl]
  refine ⟨⟨?_, ?_, ?_, hr⟩, ⟨?_, ?_, ?_, fun k hk => ?_⟩, ?_⟩
  · unfold isO mkB
    rw [jz_R, jz_A, if_neg (by rw [jn_A]; omega), jz_A, if_pos rfl]
  · unfold mkB
    rw [gR_R, if_pos ⟨rfl, rfl⟩]
  · unfold mkB
    rw [jz_R, jz_A, if_pos (by rw [jn_A])]
  · rw [mI_0 (z1 1)]
    rfl
  · exact Nat.zero_le _
  · exact Nat.pow_pos (by decide)
  · exact absurd hk (Nat.not_lt_zero k)
  · rw [mI_0 (z1 2)]
    rfl
theorem ex_mk {r : Nat} : ex (fun _ _ => False) h (mkB h r) ∧ jn (mkB h r) = jn h + 2 := by
  refine ⟨⟨?_, fun q hq => ⟨?_, fun k => ?_⟩, fun q k hq ha => ?_⟩, rfl⟩
  · show jn h ≤ jn h + 2
    omega
  · unfold mkB
    rw [jz_R, jz_A, if_neg (by rw [jn_A]; omega), jz_A, if_neg (by omega)]
  · unfold mkB
    rw [gI_R, gI_A, if_neg (by rw [jn_A]; omega), gI_A, if_neg (by omega)]
  · unfold mkB
    rw [gR_R, if_neg (by omega), gR_A, if_neg (by rw [jn_A]; omega), gR_A, if_neg (by omega)]
theorem c_Binit {r : Nat} (h4 : 4 ≤ r) (h40 : r ≤ 40) : jRet 5 1 40 [.ref (jn h + 2), .int (iI (r : Int))] (jA h 0 0) (fun q g => q = none ∧ g = mkB h r) := by
  have e : (if iI (r : Int) < iI 4 then iI 4 else iI (r : Int)) = iI (r : Int) := by
    rw [if_neg (by rw [iI_lt ⟨by omega, by omega⟩ ⟨by omega, by omega⟩]; omega)]
  have e2 : (iI (r : Int)).toNatClampNeg = r := by
    rw [iI_cl (by omega) (by omega), Int.toNat_natCast]
  refine jRet_of (by decide) (by decide) (Nat.le_of_ble_eq_true rfl) (j_Bi_init_0 ⟨by omega, j_Bi_init_4 (kc := 0) (ks := 40) ?_⟩)
  rw [e, e2, iI_0, iI_lt ⟨by omega, by omega⟩ ⟨by omega, by omega⟩]
  refine ⟨by omega, by omega, by omega, by omega, ?_, rfl, rfl⟩
  unfold isO
  rw [jz_A, if_neg (by rw [jn_A]; omega), jz_A, if_pos rfl]
theorem bg_ex {r b : Nat} {v : Int} (B : BG r b h v) (f : ex A h h') (hb : b + 1 < jn h + 2) (ha : ∀ k, ¬ A b k) : BG r b h' v := by
  obtain ⟨⟨b1, b2, b3⟩, ⟨b4, b5, b6, b7⟩, b8⟩ := B
  have g : ∀ {q : Nat}, q < jn h + 2 → ∀ k, mI h' q k = mI h q k := fun hq k => by
    unfold mI
    rw [(f.2.1 _ hq).2 k]
  refine ⟨⟨?_, ?_, ?_⟩, ⟨?_, b5, b6, fun k hk => ?_⟩, ?_⟩
  · unfold isO at *
    rw [(f.2.1 b (by omega)).1]
    exact b1
  · rw [f.2.2 b 0 (by omega) (ha 0)]
    exact b2
  · rw [(f.2.1 (b + 1) hb).1]
    exact b3
  · rw [g (by omega)]
    exact b4
  · rw [g hb]
    exact b7 k hk
  · rw [g (by omega)]
    exact b8
/-- a new Big behind the field f of p -/
theorem ex_big {p f r : Nat} (hp : p < jn h + 2) (hr : r ≤ 100) : ex (fun q k => q = p ∧ k = f) h (sR (mkB h r) p f (jn h + 2)) ∧ jn (sR (mkB h r) p f (jn h + 2)) = jn h + 2 ∧ BG r (jn h + 2) (sR (mkB h r) p f (jn h + 2)) 0 ∧ gR (sR (mkB h r) p f (jn h + 2)) p f = jn h + 2 := by
  have e1 := ex_mk (h := h) (r := r)
  have s1 : ex (fun q k => q = p ∧ k = f) (mkB h r) (sR (mkB h r) p f (jn h + 2)) := ⟨Nat.le_refl _, fun q hq => ⟨rfl, fun k => rfl⟩, fun q k hq ha => by rw [gR_R, if_neg ha]⟩
  refine ⟨(e1.1.mo (fun _ _ z => z.elim)).tr s1, e1.2, bg_ex (bg_mk hr) s1 (by rw [e1.2]; omega) (fun k z => by omega), ?_⟩
  rw [gR_R, if_pos ⟨rfl, rfl⟩]
/-- what lies before the object c stays; its own ints are 0 -/
def CB (c : Nat) (h0 h : jHp) : Prop := (∀ q, q ≤ c → jz h q = jz h0 q) ∧ (∀ q k, q < c → gI h q k = gI h0 q k ∧ gR h q k = gR h0 q k) ∧ ∀ k, gI h c k = gI h0 c k
theorem CB.rf {c : Nat} : CB c h h := ⟨fun _ _ => rfl, fun _ _ _ => ⟨rfl, rfl⟩, fun _ => rfl⟩
theorem CB.ex {c : Nat} (B : CB c h0 h) (f : ex A h h') (hc : c < jn h + 2) (ha : ∀ q k, q < c → ¬ A q k) : CB c h0 h' := by
  refine ⟨fun q hq => ?_, fun q k hq => ⟨?_, ?_⟩, fun k => ?_⟩
  · rw [(f.2.1 q (by omega)).1]
    exact B.1 q hq
  · rw [(f.2.1 q (by omega)).2 k]
    exact (B.2.1 q k hq).1
  · rw [f.2.2 q k (by omega) (ha q k hq)]
    exact (B.2.1 q k hq).2
  · rw [(f.2.1 c hc).2 k]
    exact B.2.2 k
/-- Out, j numbers made -/
def OI (o j : Nat) (h0 h : jHp) : Prop := jn h = o + 2 * j ∧ CB o h0 h ∧ gR h o 0 = o + 1 ∧ jz h (o + 1) = (11, 512) ∧ ∀ i, i < j → gR h o (2 + i) = o + 2 + 2 * i ∧ BG 40 (o + 2 + 2 * i) h 0
theorem OI_s {o j : Nat} (I : OI o j h0 h) : OI o (j + 1) h0 (sR (mkB h 40) o (2 + j) (jn h + 2)) := by
  obtain ⟨a1, a2, a3, a4, a5⟩ := I
  obtain ⟨e1, e2, e3, e4⟩ := ex_big (h := h) (p := o) (f := 2 + j) (r := 40) (by omega) (by decide)
  refine ⟨by rw [e2]; omega, a2.ex e1 (by omega) (fun q k hq z => by omega), ?_, ?_, fun i hi => ?_⟩
  · rw [e1.2.2 o 0 (by omega) (fun z => by omega)]
    exact a3
  · rw [(e1.2.1 (o + 1) (by omega)).1]
    exact a4
  · by_cases e : i = j
    · rw [e, e4, a1]
      rw [a1] at e3
      refine ⟨by omega, ?_⟩
      rw [show o + 2 + 2 * j = o + 2 * j + 2 by omega]
      exact e3
    · have q := a5 i (by omega)
      rw [e1.2.2 o (2 + i) (by omega) (fun z => by omega)]
      exact ⟨q.1, bg_ex q.2 e1 (by omega) (fun k z => by omega)⟩
theorem c_Oinit {o : Nat} (ho : isO h0 o 4) (hm : 2 ≤ o) (hj : jn h0 = o - 1) : jRet 54 11 727 [.ref o] h0 (fun q h' => q = none ∧ OI o 5 h0 h') := by
  have io : ∀ {h : jHp} {j : Nat}, OI o j h0 h → isO (mkB h 40) o 4 := fun {h j} I => by
    unfold isO
    rw [((ex_mk (h := h) (r := 40)).1.2.1 o (by have := I.1; omega)).1, I.2.1.1 o (Nat.le_refl o)]
    exact ho
  have l65 : ∀ h, OI o 4 h0 h → J 54 65 2 43 [.ref o] [] h (fun q h' => q = none ∧ OI o 5 h0 h') := by
    intro h I
    refine j_Ou_init_65 (kc := 0) (ks := 0) ⟨by decide, by decide, by omega, jRet_mono (c_Binit (r := 40) (by decide) (by decide)) ?_⟩
    intro q g w
    obtain ⟨w1, w2⟩ := w
    rw [w2]
    exact ⟨w1, io I, rfl, OI_s I⟩
  have l52 : ∀ h, OI o 3 h0 h → J 54 52 4 86 [.ref o] [] h (fun q h' => q = none ∧ OI o 5 h0 h') := by
    intro h I
    refine j_Ou_init_52 (kc := 2) (ks := 43) ⟨by decide, by decide, by omega, jRet_mono (c_Binit (r := 40) (by decide) (by decide)) ?_⟩
    intro q g w
    obtain ⟨w1, w2⟩ := w
    rw [w2]
    exact ⟨w1, io I, l65 _ (OI_s I)⟩
  have l39 : ∀ h, OI o 2 h0 h → J 54 39 6 129 [.ref o] [] h (fun q h' => q = none ∧ OI o 5 h0 h') := by
    intro h I
    refine j_Ou_init_39 (kc := 4) (ks := 86) ⟨by decide, by decide, by omega, jRet_mono (c_Binit (r := 40) (by decide) (by decide)) ?_⟩
    intro q g w
    obtain ⟨w1, w2⟩ := w
    rw [w2]
    exact ⟨w1, io I, l52 _ (OI_s I)⟩
  have l26 : ∀ h, OI o 1 h0 h → J 54 26 8 172 [.ref o] [] h (fun q h' => q = none ∧ OI o 5 h0 h') := by
    intro h I
    refine j_Ou_init_26 (kc := 6) (ks := 129) ⟨by decide, by decide, by omega, jRet_mono (c_Binit (r := 40) (by decide) (by decide)) ?_⟩
    intro q g w
    obtain ⟨w1, w2⟩ := w
    rw [w2]
    exact ⟨w1, io I, l39 _ (OI_s I)⟩
  have l13 : ∀ h, OI o 0 h0 h → J 54 13 10 215 [.ref o] [] h (fun q h' => q = none ∧ OI o 5 h0 h') := by
    intro h I
    refine j_Ou_init_13 (kc := 8) (ks := 172) ⟨by decide, by decide, by omega, jRet_mono (c_Binit (r := 40) (by decide) (by decide)) ?_⟩
    intro q g w
    obtain ⟨w1, w2⟩ := w
    rw [w2]
    exact ⟨w1, io I, l26 _ (OI_s I)⟩
  have e : (iI 512).toNatClampNeg = 512 := by decide
  obtain ⟨e1, e2, e3, e4, e5⟩ := ex_arr (h := h0) (p := o) (f := 0) (c := 11) (n := 512) (by omega)
  refine jRet_of (by decide) (by decide) (Nat.le_of_ble_eq_true rfl) (j_Ou_init_0 ⟨by omega, j_Ou_init_4 (kc := 10) (ks := 215) ?_⟩)
  rw [e]
  refine ⟨by decide, by decide, by decide, by decide, ?_, l13 _ ⟨by rw [e2]; omega, CB.rf.ex e1 (by omega) (fun q k hq z => by omega), by rw [e5]; omega, ?_, fun i hi => absurd hi (Nat.not_lt_zero i)⟩⟩
  · unfold isO
    rw [jz_A, if_neg (by omega)]
    exact ho
  · rw [show o + 1 = jn h0 + 2 by omega]
    exact e3
end INIT2
