/-! Cheapest: its numbers by slots -/
/-- the place of slot q: 0 whole, 1 total, 2 sum, 3 product, 4.. slopes, 46.. needs, 60.. ways, 69.. costs, leans, owns by turns -/
def pl (c q : Nat) : Nat := c + 10 + 2 * q
def rm (q : Nat) : Nat := if q < 2 then 28 else if q < 4 then 40 else if q < 60 then 10 else if q < 69 then 20 else if q % 3 = 0 then 20 else 28
def CL (c : Nat) (h : jHp) : Prop := isO h c 2 ∧ gR h c 0 = c + 1 ∧ jz h (c + 1) = (13, 42) ∧ gR h c 1 = c + 2 ∧ jz h (c + 2) = (13, 14) ∧ gR h c 2 = c + 3 ∧ jz h (c + 3) = (10, 3) ∧ gR h c 3 = c + 4 ∧ jz h (c + 4) = (10, 3) ∧ gR h c 4 = c + 5 ∧ jz h (c + 5) = (10, 3) ∧ gR h c 5 = c + 6 ∧ jz h (c + 6) = (13, 9) ∧ gR h c 6 = c + 7 ∧ jz h (c + 7) = (13, 3) ∧ gR h c 7 = c + 8 ∧ jz h (c + 8) = (13, 3) ∧ gR h c 8 = c + 9 ∧ jz h (c + 9) = (13, 3) ∧ gR h c 9 = pl c 0 ∧ gR h c 10 = pl c 1 ∧ gR h c 11 = pl c 2 ∧ gR h c 12 = pl c 3 ∧ (∀ k, k < 42 → gR h (c + 1) k = pl c (4 + k)) ∧ (∀ k, k < 14 → gR h (c + 2) k = pl c (46 + k)) ∧ (∀ k, k < 9 → gR h (c + 6) k = pl c (60 + k)) ∧ ∀ k, k < 3 → gR h (c + 7) k = pl c (69 + 3 * k) ∧ gR h (c + 8) k = pl c (70 + 3 * k) ∧ gR h (c + 9) k = pl c (71 + 3 * k)
theorem cl_sk {c : Nat} {h h' : jHp} (C : CL c h) (k : sk h h') : CL c h' := by
  unfold CL isO at *
  rw [k.r, k.z]
  exact C
section CHEAP
variable {c : Nat} {h : jHp} {V : Nat → Int}
theorem CL.o (C : CL c h) : isO h c 2 := C.1
theorem CL.f0 (C : CL c h) : gR h c 0 = c + 1 := C.2.1
theorem CL.j1 (C : CL c h) : jz h (c + 1) = (13, 42) := C.2.2.1
theorem CL.f1 (C : CL c h) : gR h c 1 = c + 2 := C.2.2.2.1
theorem CL.j2 (C : CL c h) : jz h (c + 2) = (13, 14) := C.2.2.2.2.1
theorem CL.f2 (C : CL c h) : gR h c 2 = c + 3 := C.2.2.2.2.2.1
theorem CL.z3 (C : CL c h) : jz h (c + 3) = (10, 3) := C.2.2.2.2.2.2.1
theorem CL.f3 (C : CL c h) : gR h c 3 = c + 4 := C.2.2.2.2.2.2.2.1
theorem CL.z4 (C : CL c h) : jz h (c + 4) = (10, 3) := C.2.2.2.2.2.2.2.2.1
theorem CL.f4 (C : CL c h) : gR h c 4 = c + 5 := C.2.2.2.2.2.2.2.2.2.1
theorem CL.z5 (C : CL c h) : jz h (c + 5) = (10, 3) := C.2.2.2.2.2.2.2.2.2.2.1
theorem CL.f5 (C : CL c h) : gR h c 5 = c + 6 := C.2.2.2.2.2.2.2.2.2.2.2.1
theorem CL.j6 (C : CL c h) : jz h (c + 6) = (13, 9) := C.2.2.2.2.2.2.2.2.2.2.2.2.1
theorem CL.f6 (C : CL c h) : gR h c 6 = c + 7 := C.2.2.2.2.2.2.2.2.2.2.2.2.2.1
theorem CL.j7 (C : CL c h) : jz h (c + 7) = (13, 3) := C.2.2.2.2.2.2.2.2.2.2.2.2.2.2.1
theorem CL.f7 (C : CL c h) : gR h c 7 = c + 8 := C.2.2.2.2.2.2.2.2.2.2.2.2.2.2.2.1
theorem CL.j8 (C : CL c h) : jz h (c + 8) = (13, 3) := C.2.2.2.2.2.2.2.2.2.2.2.2.2.2.2.2.1
theorem CL.f8 (C : CL c h) : gR h c 8 = c + 9 := C.2.2.2.2.2.2.2.2.2.2.2.2.2.2.2.2.2.1
theorem CL.j9 (C : CL c h) : jz h (c + 9) = (13, 3) := C.2.2.2.2.2.2.2.2.2.2.2.2.2.2.2.2.2.2.1
theorem CL.f9 (C : CL c h) : gR h c 9 = pl c 0 := C.2.2.2.2.2.2.2.2.2.2.2.2.2.2.2.2.2.2.2.1
theorem CL.f10 (C : CL c h) : gR h c 10 = pl c 1 := C.2.2.2.2.2.2.2.2.2.2.2.2.2.2.2.2.2.2.2.2.1
theorem CL.f11 (C : CL c h) : gR h c 11 = pl c 2 := C.2.2.2.2.2.2.2.2.2.2.2.2.2.2.2.2.2.2.2.2.2.1
theorem CL.f12 (C : CL c h) : gR h c 12 = pl c 3 := C.2.2.2.2.2.2.2.2.2.2.2.2.2.2.2.2.2.2.2.2.2.2.1
theorem CL.s (C : CL c h) : ∀ k, k < 42 → gR h (c + 1) k = pl c (4 + k) := C.2.2.2.2.2.2.2.2.2.2.2.2.2.2.2.2.2.2.2.2.2.2.2.1
theorem CL.n (C : CL c h) : ∀ k, k < 14 → gR h (c + 2) k = pl c (46 + k) := C.2.2.2.2.2.2.2.2.2.2.2.2.2.2.2.2.2.2.2.2.2.2.2.2.1
theorem CL.w (C : CL c h) : ∀ k, k < 9 → gR h (c + 6) k = pl c (60 + k) := C.2.2.2.2.2.2.2.2.2.2.2.2.2.2.2.2.2.2.2.2.2.2.2.2.2.1
theorem CL.t (C : CL c h) : ∀ k, k < 3 → gR h (c + 7) k = pl c (69 + 3 * k) ∧ gR h (c + 8) k = pl c (70 + 3 * k) ∧ gR h (c + 9) k = pl c (71 + 3 * k) := C.2.2.2.2.2.2.2.2.2.2.2.2.2.2.2.2.2.2.2.2.2.2.2.2.2.2
theorem CL.i1 (C : CL c h) : ∀ k : Nat, k < 42 → ixR h (c + 1) (iI (k : Int)) := fun k hk => ixR_of C.j1 (Or.inr (Or.inl rfl)) (by omega) (by omega) (by decide)
theorem CL.i2 (C : CL c h) : ∀ k : Nat, k < 14 → ixR h (c + 2) (iI (k : Int)) := fun k hk => ixR_of C.j2 (Or.inr (Or.inl rfl)) (by omega) (by omega) (by decide)
theorem CL.i6 (C : CL c h) : ∀ k : Nat, k < 9 → ixR h (c + 6) (iI (k : Int)) := fun k hk => ixR_of C.j6 (Or.inr (Or.inl rfl)) (by omega) (by omega) (by decide)
theorem CL.i7 (C : CL c h) : ∀ k : Nat, k < 3 → ixR h (c + 7) (iI (k : Int)) ∧ ixR h (c + 8) (iI (k : Int)) ∧ ixR h (c + 9) (iI (k : Int)) := fun k hk => ⟨ixR_of C.j7 (Or.inr (Or.inl rfl)) (by omega) (by omega) (by decide), ixR_of C.j8 (Or.inr (Or.inl rfl)) (by omega) (by omega) (by decide), ixR_of C.j9 (Or.inr (Or.inl rfl)) (by omega) (by omega) (by decide)⟩
/-- slot q holds V q -/
def CV (c : Nat) (V : Nat → Int) (h : jHp) : Prop := ∀ q, q < 78 → BG (rm q) (pl c q) h (V q)
def setV (V : Nat → Int) (q : Nat) (x : Int) : Nat → Int := fun p => if p = q then x else V p
theorem setV_s {q : Nat} {x : Int} : setV V q x q = x := if_pos rfl
theorem setV_n {q p : Nat} {x : Int} (hp : p ≠ q) : setV V q x p = V p := if_neg hp
def chS (c p k : Nat) : Prop := c + 10 ≤ p ∧ p ≤ c + 165
def vQ (c : Nat) (h : jHp) (V : Nat → Int) : jQ := fun r h' => r = none ∧ fg (chS c) h h' ∧ CV c V h'
theorem cv_up {q : Nat} {x : Int} {h' : jHp} (C : CV c V h) (hq : q < 78) (f : fg (fbS (pl c q)) h h') (B : BG (rm q) (pl c q) h' x) : CV c (setV V q x) h' ∧ fg (chS c) h h' := by
  refine ⟨fun p hp => ?_, f.mo (fun p k z => by unfold fbS pl at z; unfold chS; omega)⟩
  by_cases e : p = q
  · rw [e, setV_s]
    exact B
  · rw [setV_n e]
    exact bg_fg (C p hp) f (fun k => by unfold fbS pl; omega)
theorem cv_fg {S : Nat → Nat → Prop} {h' : jHp} (C : CV c V h) (f : fg S h h') (a : ∀ p k, c + 10 ≤ p → p ≤ c + 165 → ¬ S p k) : CV c V h' := fun q hq => bg_fg (C q hq) f (fun k => ⟨a _ _ (by unfold pl; omega) (by unfold pl; omega), a _ _ (by unfold pl; omega) (by unfold pl; omega)⟩)
theorem pl_ne {p q : Nat} (hp : p ≠ q) : pl c p ≠ pl c q ∧ pl c p ≠ pl c q + 1 ∧ pl c q ≠ pl c p + 1 := by
  unfold pl
  omega
theorem v_set {q : Nat} {x : Int} (C : CV c V h) (hq : q < 78) (hx : -9223372036854775808 < x ∧ x < 9223372036854775808) (hz : sz B6 x.natAbs ≤ rm q) : jRet 6 0 0 [.ref (pl c q), .long (lI x)] h (vQ c h (setV V q x)) := by
  refine jRet_mono (c_Bset (C q hq) hx hz) ?_
  intro r h' w
  have := cv_up C hq w.2.1 w.2.2
  exact ⟨w.1, this.2, this.1⟩
theorem v_copy {q p : Nat} (C : CV c V h) (hq : q < 78) (hp : p < 78) (hne : p ≠ q) (hz : sz B6 (V p).natAbs ≤ rm q) : jRet 22 0 0 [.ref (pl c q), .ref (pl c p)] h (vQ c h (setV V q (V p))) := by
  refine jRet_mono (c_Bcopy (C q hq) (C p hp) (pl_ne hne) hz) ?_
  intro r h' w
  have := cv_up C hq w.2.1 w.2.2
  exact ⟨w.1, this.2, this.1⟩
theorem v_times {q : Nat} {f : Nat} (C : CV c V h) (hq : q < 78) (hf : f ≤ 1000000) (hz : sz B6 ((V q).natAbs * f) ≤ rm q) : jRet 23 0 0 [.ref (pl c q), .int (iI (f : Int))] h (vQ c h (setV V q (V q * f))) := by
  refine jRet_mono (c_Btimes (C q hq) hf hz) ?_
  intro r h' w
  have := cv_up C hq w.2.1 w.2.2
  exact ⟨w.1, this.2, this.1⟩
theorem v_add {q p : Nat} {y : Int} (C : CV c V h) (hq : q < 78) (hp : p < 78) (hne : p ≠ q) (hy : y = 0 ∨ y = 1) (hz : sz B6 ((V q).natAbs + (V p).natAbs) ≤ rm q) : jRet 10 0 0 [.ref (pl c q), .ref (pl c p), .int (iI y)] h (vQ c h (setV V q (if y = 0 then V q + V p else V q - V p))) := by
  refine jRet_mono (c_Badd (C q hq) (C p hp) (pl_ne hne) hy hz) ?_
  intro r h' w
  have := cv_up C hq w.2.1 w.2.2
  exact ⟨w.1, this.2, this.1⟩
theorem v_prod {q p1 p2 : Nat} (C : CV c V h) (hq : q < 78) (h1 : p1 < 78) (h2 : p2 < 78) (n1 : p1 ≠ q) (n2 : p2 ≠ q) (hz : sz B6 (V p1).natAbs + sz B6 (V p2).natAbs ≤ rm q) : jRet 7 0 0 [.ref (pl c q), .ref (pl c p1), .ref (pl c p2)] h (vQ c h (setV V q (V p1 * V p2))) := by
  refine jRet_mono (c_BsetProduct (C q hq) (C p1 h1) (C p2 h2) (pl_ne n1) (pl_ne n2) hz) ?_
  intro r h' w
  have := cv_up C hq w.2.1 w.2.2
  exact ⟨w.1, this.2, this.1⟩
theorem v_plus {q p1 p2 : Nat} (C : CV c V h) (hq : q < 78) (h1 : p1 < 78) (h2 : p2 < 78) (n0 : q ≠ 3) (n1 : p1 ≠ 3) (n2 : p2 ≠ 3) (hz : sz B6 (V p1).natAbs + sz B6 (V p2).natAbs ≤ 40) (hz2 : sz B6 ((V q).natAbs + (V p1 * V p2).natAbs) ≤ rm q) : jRet 27 0 0 [.ref (pl c q), .ref (pl c p1), .ref (pl c p2), .ref (pl c 3)] h (vQ c h (setV (setV V 3 (V p1 * V p2)) q (V q + V p1 * V p2))) := by
  refine jRet_mono (c_BplusProduct (C q hq) (C 3 (by decide)) (C p1 h1) (C p2 h2) (pl_ne (Ne.symm n0)) (pl_ne n1) (pl_ne n2) hz hz2) ?_
  intro r h' w
  obtain ⟨e1, e2, e3, e4⟩ := w
  refine ⟨e1, e2.mo (fun p k z => by unfold fbS pl at z; unfold chS; omega), fun p hp => ?_⟩
  by_cases e : p = q
  · rw [e, setV_s]
    exact e3
  · rw [setV_n e]
    by_cases e' : p = 3
    · rw [e', setV_s]
      exact e4
    · rw [setV_n e']
      exact bg_fg (C p hp) e2 (fun k => by unfold fbS pl; omega)
end CHEAP
