/-! constructors: Walls -/
section MAKE4
variable {h0 h h' : jHp}
theorem c_Painit {p : Nat} (hp : p ≠ 0) : jRet 60 0 0 [.ref p] h (fun q g => q = none ∧ g = h) := jRet_of (by decide) (by decide) (Nat.le_of_ble_eq_true rfl) (j_Pa_init_0 ⟨hp, rfl, rfl⟩)
def wFa (a : Nat) : Nat := if a = 0 then 0 else if a = 1 then 1 else if a = 2 then 3 else 6
def wSh (a : Nat) : Nat × Nat := if a = 0 then (10, 24) else if a = 1 then (10, 24) else if a = 2 then (14, 8) else (10, 4)
def WQ (w i : Nat) (h0 h : jHp) : Prop := 1 ≤ w ∧ jn h = w + 3 + i ∧ CB w h0 h ∧ (∀ a, a < 4 → gR h w (wFa a) = w + 1 + a ∧ jz h (w + 1 + a) = wSh a) ∧ (∀ q k, w < q → q < w + 5 + i → gI h q k = 0) ∧ ∀ t, t < i → gR h (w + 3) t = w + 5 + t ∧ isO h (w + 5 + t) 5
theorem WQ_s {w i : Nat} (I : WQ w i h0 h) : WQ w (i + 1) h0 (sR (jA h 5 0) (w + 3) i (jn h + 2)) := by
  obtain ⟨a0, a1, a2, a3, a4, a5⟩ := I
  obtain ⟨x1, x2, x3, x4, x5⟩ := ex_arr (h := h) (p := w + 3) (f := i) (c := 5) (n := 0) (by omega)
  have pe : jn h + 2 = w + 5 + i := by omega
  refine ⟨a0, by rw [x2]; omega, a2.ex x1 (by omega) (fun q k hq z => by omega), fun a ha => ?_, fun q k h1 h2 => ?_, fun t ht => ?_⟩
  · rw [x1.2.2 w (wFa a) (by omega) (fun z => by omega), (x1.2.1 (w + 1 + a) (by omega)).1]
    exact a3 a ha
  · by_cases e : q = w + 5 + i
    · rw [e, ← pe]
      exact x4 k
    · rw [(x1.2.1 q (by omega)).2 k]
      exact a4 q k h1 (by omega)
  · by_cases e : t = i
    · rw [e, x5, ← pe]
      refine ⟨rfl, ?_⟩
      unfold isO
      rw [x3]
    · have q := a5 t (by omega)
      rw [x1.2.2 (w + 3) t (by omega) (fun z => e z.2)]
      refine ⟨q.1, ?_⟩
      unfold isO
      rw [(x1.2.1 (w + 5 + t) (by omega)).1]
      exact q.2
theorem c_Winit {w : Nat} (ho : isO h0 w 7) (hm : 2 ≤ w) (hj : jn h0 = w - 1) : jRet 66 12 132 [.ref w] h0 (fun q h' => q = none ∧ WQ w 8 h0 h') := by
  have c5 : cF 5 = 9 := rfl
  have l38 : ∀ (d i : Nat) (h : jHp), i + d = 8 → WQ w i h0 h → J 66 38 d (9 * d) [.ref w, .int (iI (i : Int))] [] h (fun q h' => q = none ∧ WQ w 8 h0 h') := by
    intro d
    induction d with
    | zero =>
      intro i h hi I
      obtain rfl : i = 8 := by omega
      refine j_Wa_init_38 ?_
      exact ⟨fun _ => j_Wa_init_63 ⟨rfl, I⟩, fun y => absurd (by decide) y⟩
    | succ d ih =>
      intro i h hi I
      have I' := I
      obtain ⟨a0, a1, a2, a3, a4, a5⟩ := I'
      have f : gR h w 3 = w + 3 := (a3 2 (by decide)).1
      have z : jz h (w + 3) = (14, 8) := (a3 2 (by decide)).2
      have o : isO h w 7 := by
        unfold isO at *
        rw [a2.1 w (Nat.le_refl w)]
        exact ho
      refine j_Wa_init_38 ?_
      rw [iI_le ⟨by omega, by omega⟩ ⟨by omega, by omega⟩]
      refine ⟨fun y => by omega, fun _ => ?_⟩
      have go : J 66 44 (d + 1) (9 * d + 9) [.ref w, .int (iI (i : Int))] [] h (fun q h' => q = none ∧ WQ w 8 h0 h') := by
        refine j_Wa_init_44 (kc := d) (ks := 9 * d) ?_
        rw [f]
        refine ⟨o, by omega, by omega, by omega, jRet_mono (c_Painit (by omega)) ?_⟩
        intro q k y
        obtain ⟨y1, y2⟩ := y
        rw [y2, iI_cl (by omega) (by omega), Int.toNat_natCast, iI_add]
        refine ⟨y1, Or.inr ⟨⟨?_, ?_⟩, ?_⟩, ?_⟩
        · rw [jz_A, if_neg (by omega), z]
        · rw [jz_A, if_neg (by omega), z]
          exact iI_in (by omega) (by omega) (by omega)
        · unfold isO
          rw [jz_A, if_pos rfl]
        · rw [show d + 1 - 1 = d by omega, show 9 * d + 9 - cF 5 = 9 * d by omega]
          exact ih (i + 1) _ (by omega) (WQ_s I)
      exact go
  have l29 : ∀ h, BQ w 3 wFa wSh (fun _ => 0) (fun _ => 0) (fun _ => 0) 0 h0 h → J 66 29 9 76 [.ref w, uu] [] h (fun q h' => q = none ∧ WQ w 8 h0 h') := by
    intro h I
    have e : (iI 4).toNatClampNeg = 4 := by decide
    refine j_Wa_init_29 (kc := 8) (ks := 72) ?_
    rw [e]
    have I4 := BQ_a (cc := 10) (n := 4) (f := 6) I rfl rfl (fun a ha => by unfold wFa; (repeat' split) <;> omega)
    refine ⟨by decide, by decide, by decide, by decide, BQ_oA I ho, l38 8 0 _ rfl ?_⟩
    obtain ⟨b0, b1, b2, b3, b4, _⟩ := I4
    exact ⟨b0, by omega, b2, b3, fun q k h1 h2 => b4 q k h1 (by omega), fun t ht => absurd ht (Nat.not_lt_zero t)⟩
  have l20 : ∀ h, BQ w 2 wFa wSh (fun _ => 0) (fun _ => 0) (fun _ => 0) 0 h0 h → J 66 20 10 84 [.ref w, uu] [] h (fun q h' => q = none ∧ WQ w 8 h0 h') := by
    intro h I
    have e : (iI 8).toNatClampNeg = 8 := by decide
    refine j_Wa_init_20 (kc := 9) (ks := 76) ?_
    rw [e]
    exact ⟨by decide, by decide, by decide, by decide, BQ_oA I ho, l29 _ (BQ_a I rfl rfl (fun a ha => by unfold wFa; (repeat' split) <;> omega))⟩
  have l12 : ∀ h, BQ w 1 wFa wSh (fun _ => 0) (fun _ => 0) (fun _ => 0) 0 h0 h → J 66 12 11 108 [.ref w, uu] [] h (fun q h' => q = none ∧ WQ w 8 h0 h') := by
    intro h I
    have e : (iI 24).toNatClampNeg = 24 := by decide
    refine j_Wa_init_12 (kc := 10) (ks := 84) ?_
    rw [e]
    exact ⟨by decide, by decide, by decide, by decide, BQ_oA I ho, l20 _ (BQ_a I rfl rfl (fun a ha => by unfold wFa; (repeat' split) <;> omega))⟩
  have e : (iI 24).toNatClampNeg = 24 := by decide
  have I0 : BQ w 0 wFa wSh (fun _ => 0) (fun _ => 0) (fun _ => 0) 0 h0 h0 := BQ_0 (by omega) hj
  refine jRet_of (by decide) (by decide) (Nat.le_of_ble_eq_true rfl) (j_Wa_init_0 ⟨by omega, j_Wa_init_4 (kc := 11) (ks := 108) ?_⟩)
  rw [e]
  exact ⟨by decide, by decide, by decide, by decide, BQ_oA I0 ho, l12 _ (BQ_a I0 rfl rfl (fun a ha => absurd ha (Nat.not_lt_zero a)))⟩
end MAKE4
