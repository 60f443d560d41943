/-! constructors: arrays first, then numbers one behind the other -/
section MAKE
variable {h0 h h' : jHp}
def BQ (c na : Nat) (fa : Nat → Nat) (sh : Nat → Nat × Nat) (P F R : Nat → Nat) (j : Nat) (h0 h : jHp) : Prop := 1 ≤ c ∧ jn h = c + na - 1 + 2 * j ∧ CB c h0 h ∧ (∀ a, a < na → gR h c (fa a) = c + 1 + a ∧ jz h (c + 1 + a) = sh a) ∧ (∀ q k, c < q → q < c + 1 + na → gI h q k = 0) ∧ ∀ t, t < j → gR h (P t) (F t) = c + 1 + na + 2 * t ∧ BG (R t) (c + 1 + na + 2 * t) h 0
section BQS
variable {c na : Nat} {fa : Nat → Nat} {sh : Nat → Nat × Nat} {P F R : Nat → Nat} {j : Nat}
theorem BQ_0 (hc : 1 ≤ c) (hj : jn h0 = c - 1) : BQ c 0 fa sh P F R 0 h0 h0 := ⟨hc, by omega, CB.rf, fun a ha => absurd ha (Nat.not_lt_zero a), fun q k h1 h2 => by omega, fun t ht => absurd ht (Nat.not_lt_zero t)⟩
theorem BQ_a {cc n f : Nat} (I : BQ c na fa sh P F R 0 h0 h) (e1 : sh na = (cc, n)) (e2 : fa na = f) (hf : ∀ a, a < na → fa a ≠ f) : BQ c (na + 1) fa sh P F R 0 h0 (sR (jA h cc n) c f (jn h + 2)) := by
  obtain ⟨a0, a1, a2, a3, a4, a5⟩ := I
  obtain ⟨x1, x2, x3, x4, x5⟩ := ex_arr (h := h) (p := c) (f := f) (c := cc) (n := n) (by omega)
  have pe : jn h + 2 = c + 1 + na := by omega
  refine ⟨a0, by rw [x2]; omega, a2.ex x1 (by omega) (fun q k hq z => by omega), fun a ha => ?_, fun q k h1 h2 => ?_, fun t ht => absurd ht (Nat.not_lt_zero t)⟩
  · by_cases e : a = na
    · rw [e, e2, x5, ← pe, e1]
      exact ⟨rfl, x3⟩
    · have q := a3 a (by omega)
      rw [x1.2.2 c (fa a) (by omega) (fun z => hf a (by omega) z.2), (x1.2.1 (c + 1 + a) (by omega)).1]
      exact q
  · by_cases e : q = c + 1 + na
    · rw [e, ← pe]
      exact x4 k
    · rw [(x1.2.1 q (by omega)).2 k]
      exact a4 q k h1 (by omega)
theorem BQ_s {p f r : Nat} (I : BQ c na fa sh P F R j h0 h) (e1 : P j = p) (e2 : F j = f) (e3 : R j = r) (hP : c ≤ p) (hP2 : p < c + 1 + na) (hr : r ≤ 100) (hi : ∀ t, t < j → ¬ (P t = p ∧ F t = f)) (ha : p = c → ∀ a, a < na → fa a ≠ f) (hb : ∀ t, t < j → P t < c + 1 + na) : BQ c na fa sh P F R (j + 1) h0 (sR (mkB h r) p f (jn h + 2)) := by
  obtain ⟨a0, a1, a2, a3, a4, a5⟩ := I
  obtain ⟨x1, x2, x3, x4⟩ := ex_big (h := h) (p := p) (f := f) (r := r) (by omega) hr
  have pe : jn h + 2 = c + 1 + na + 2 * j := by omega
  refine ⟨a0, by rw [x2]; omega, a2.ex x1 (by omega) (fun q k hq z => by omega), fun a haa => ?_, fun q k h1 h2 => ?_, fun t ht => ?_⟩
  · rw [x1.2.2 c (fa a) (by omega) (fun z => ha z.1.symm a haa z.2), (x1.2.1 (c + 1 + a) (by omega)).1]
    exact a3 a haa
  · rw [(x1.2.1 q (by omega)).2 k]
    exact a4 q k h1 h2
  · by_cases e : t = j
    · rw [e, e1, e2, e3, x4, ← pe]
      exact ⟨rfl, x3⟩
    · have q := a5 t (by omega)
      have pt := hb t (by omega)
      rw [x1.2.2 (P t) (F t) (by omega) (hi t (by omega))]
      exact ⟨q.1, bg_ex q.2 x1 (by omega) (fun k z => by omega)⟩
theorem BQ_o {cc : Nat} (I : BQ c na fa sh P F R j h0 h) (ho : isO h0 c cc) : isO h c cc := by
  unfold isO at *
  rw [I.2.2.1.1 c (Nat.le_refl c)]
  exact ho
theorem BQ_oA {cc c2 n : Nat} (I : BQ c na fa sh P F R j h0 h) (ho : isO h0 c cc) : isO (jA h c2 n) c cc := by
  have o := BQ_o I ho
  have a1 := I.2.1
  have a0 := I.1
  unfold isO at *
  rw [jz_A, if_neg (by omega)]
  exact o
theorem BQ_oM {cc r : Nat} (I : BQ c na fa sh P F R j h0 h) (ho : isO h0 c cc) : isO (mkB h r) c cc := by
  have o := BQ_o I ho
  have a1 := I.2.1
  have a0 := I.1
  unfold isO at *
  rw [((ex_mk (h := h) (r := r)).1.2.1 c (by omega)).1]
  exact o
/-- the array at c + 1 + a, as aastore asks -/
theorem BQ_ix {a r i n : Nat} (I : BQ c na fa sh P F R j h0 h) (ha : a < na) (hs : sh a = (13, n)) (hi : i < n) (hn : n ≤ 1000) : (ix (mkB h r) (c + 1 + a) 13 (iI (i : Int)) ∧ isO (mkB h r) (jn h + 2) 0) ∨ (ix (mkB h r) (c + 1 + a) 14 (iI (i : Int)) ∧ isO (mkB h r) (jn h + 2) 5) := by
  have z : jz (mkB h r) (c + 1 + a) = (13, n) := by
    have a1 := I.2.1
    have a0 := I.1
    rw [((ex_mk (h := h) (r := r)).1.2.1 (c + 1 + a) (by omega)).1, (I.2.2.2.1 a ha).2, hs]
  refine Or.inl ⟨⟨by rw [z], by rw [z]; exact iI_in (by omega) (by omega) (by omega)⟩, ?_⟩
  unfold isO mkB
  rw [jz_R, jz_A, if_neg (by rw [jn_A]; omega), jz_A, if_pos rfl]
end BQS
/-- Glow -/
def gF (_ : Nat) : Nat := 0
def gSh (_ : Nat) : Nat × Nat := (13, 64)
def gP (g t : Nat) : Nat := if t < 4 then g else g + 1
def gFd (t : Nat) : Nat := if t < 4 then 1 + t else t - 4
def gRm (t : Nat) : Nat := if t < 1 then 10 else if t < 4 then 20 else 10
def GQ (g : Nat) (j : Nat) (h0 h : jHp) : Prop := BQ g 1 gF gSh (gP g) gFd gRm j h0 h
theorem GQ_s {g j p f r : Nat} (I : GQ g j h0 h) (e1 : gP g j = p) (e2 : gFd j = f) (e3 : gRm j = r) : GQ g (j + 1) h0 (sR (mkB h r) p f (jn h + 2)) := by
  refine BQ_s I e1 e2 e3 ?_ ?_ ?_ (fun t ht z => ?_) (fun z a ha y => ?_) (fun t ht => ?_)
  · rw [← e1]
    unfold gP
    split <;> omega
  · rw [← e1]
    unfold gP
    split <;> omega
  · rw [← e3]
    unfold gRm
    repeat' split
    all_goals omega
  · rw [← e1, ← e2] at z
    unfold gP gFd at z
    split at z <;> split at z <;> omega
  · rw [← e1] at z
    rw [← e2] at y
    unfold gP at z
    unfold gFd gF at y
    split at z
    · split at y <;> omega
    · omega
  · unfold gP
    split <;> omega
theorem c_Ginit {g : Nat} (ho : isO h0 g 3) (hm : 2 ≤ g) (hj : jn h0 = g - 1) : jRet 47 137 2988 [.ref g] h0 (fun q h' => q = none ∧ GQ g 68 h0 h') := by
  have l67 : ∀ (d i : Nat) (h : jHp), i + d = 64 → GQ g (4 + i) h0 h → J 47 67 (2 * d) (43 * d) [.ref g, .int (iI (i : Int))] [] h (fun q h' => q = none ∧ GQ g 68 h0 h') := by
    intro d
    induction d with
    | zero =>
      intro i h hi I
      obtain rfl : i = 64 := by omega
      obtain ⟨f1, f2⟩ := I.2.2.2.1 0 (by decide)
      have f1' : gR h g 0 = g + 1 := f1
      have f2' : jz h (g + 1) = (13, 64) := f2
      refine j_Gl_init_67 ?_
      rw [f1', f2']
      exact ⟨BQ_o I ho, by decide, fun _ => j_Gl_init_97 ⟨rfl, I⟩, fun y => absurd (by decide) y⟩
    | succ d ih =>
      intro i h hi I
      obtain ⟨f1, f2⟩ := I.2.2.2.1 0 (by decide)
      have f1' : gR h g 0 = g + 1 := f1
      have f2' : jz h (g + 1) = (13, 64) := f2
      refine j_Gl_init_67 ?_
      rw [f1', f2']
      refine ⟨BQ_o I ho, by decide, fun y => ?_, fun _ => ?_⟩
      · have e : Int32.ofNat 64 = iI 64 := rfl
        rw [e, iI_le ⟨by omega, by omega⟩ ⟨by omega, by omega⟩] at y
        omega
      · have bd : J 47 76 (2 * d + 2) (43 * d + 43) [.ref g, .int (iI (i : Int))] [] h (fun q h' => q = none ∧ GQ g 68 h0 h') := by
          refine j_Gl_init_76 (kc := 2 * d) (ks := 43 * d) ⟨BQ_o I ho, by omega, by have : cF 0 = 3 := rfl; omega, by omega, jRet_mono (c_Binit (r := 10) (by decide) (by decide)) ?_⟩
          intro q k w
          obtain ⟨w1, w2⟩ := w
          rw [w2, f1', iI_cl (by omega) (by omega), Int.toNat_natCast, iI_add]
          refine ⟨w1, BQ_ix (a := 0) I (by decide) rfl (show i < 64 by omega) (by decide), ?_⟩
          have nx := ih (i + 1) _ (by omega) (GQ_s (j := 4 + i) (p := g + 1) (f := i) (r := 10) I (by unfold gP; rw [if_neg (by omega)]) (by unfold gFd; rw [if_neg (by omega)]; omega) (by unfold gRm; rw [if_neg (by omega), if_neg (by omega)]))
          have k1 : 2 * d + 2 - 1 - 1 = 2 * d := by omega
          have k2 : 43 * d + 43 - cF 0 - 40 = 43 * d := by
            have : cF 0 = 3 := rfl
            omega
          rw [k1, k2]
          exact nx
        exact bd
  have big : ∀ {h : jHp} {j p f r : Nat}, GQ g j h0 h → gP g j = p → gFd j = f → gRm j = r → GQ g (j + 1) h0 (sR (mkB h r) p f (jn h + 2)) := fun I a b c => GQ_s I a b c
  have l52 : ∀ h, GQ g 3 h0 h → J 47 52 130 2795 [.ref g, uu] [] h (fun q h' => q = none ∧ GQ g 68 h0 h') := by
    intro h I
    refine j_Gl_init_52 (kc := 128) (ks := 2752) ⟨by decide, by decide, by omega, jRet_mono (c_Binit (r := 20) (by decide) (by decide)) ?_⟩
    intro q k w
    obtain ⟨w1, w2⟩ := w
    rw [w2]
    exact ⟨w1, BQ_oM I ho, l67 64 0 _ rfl (big I rfl rfl rfl)⟩
  have l39 : ∀ h, GQ g 2 h0 h → J 47 39 132 2838 [.ref g, uu] [] h (fun q h' => q = none ∧ GQ g 68 h0 h') := by
    intro h I
    refine j_Gl_init_39 (kc := 130) (ks := 2795) ⟨by decide, by decide, by omega, jRet_mono (c_Binit (r := 20) (by decide) (by decide)) ?_⟩
    intro q k w
    obtain ⟨w1, w2⟩ := w
    rw [w2]
    exact ⟨w1, BQ_oM I ho, l52 _ (big I rfl rfl rfl)⟩
  have l26 : ∀ h, GQ g 1 h0 h → J 47 26 134 2881 [.ref g, uu] [] h (fun q h' => q = none ∧ GQ g 68 h0 h') := by
    intro h I
    refine j_Gl_init_26 (kc := 132) (ks := 2838) ⟨by decide, by decide, by omega, jRet_mono (c_Binit (r := 20) (by decide) (by decide)) ?_⟩
    intro q k w
    obtain ⟨w1, w2⟩ := w
    rw [w2]
    exact ⟨w1, BQ_oM I ho, l39 _ (big I rfl rfl rfl)⟩
  have l13 : ∀ h, GQ g 0 h0 h → J 47 13 136 2924 [.ref g, uu] [] h (fun q h' => q = none ∧ GQ g 68 h0 h') := by
    intro h I
    refine j_Gl_init_13 (kc := 134) (ks := 2881) ⟨by decide, by decide, by omega, jRet_mono (c_Binit (r := 10) (by decide) (by decide)) ?_⟩
    intro q k w
    obtain ⟨w1, w2⟩ := w
    rw [w2]
    exact ⟨w1, BQ_oM I ho, l26 _ (big I rfl rfl rfl)⟩
  have e : (iI 64).toNatClampNeg = 64 := by decide
  have I0 : BQ g 0 gF gSh (gP g) gFd gRm 0 h0 h0 := BQ_0 (by omega) hj
  refine jRet_of (by decide) (by decide) (Nat.le_of_ble_eq_true rfl) (j_Gl_init_0 ⟨by omega, j_Gl_init_4 (kc := 136) (ks := 2924) ?_⟩)
  rw [e]
  exact ⟨by decide, by decide, by decide, by decide, BQ_oA I0 ho, l13 _ (BQ_a I0 rfl rfl (fun a ha => absurd ha (Nat.not_lt_zero a)))⟩
end MAKE
