/-! constructors: Table (owing its array), LightRoom -/
section ROOM
variable {h0 h h' k : jHp}
/-- what is owed of new int[8][8] -/
def MNA : Prop := ∀ (kc ks t : Nat) (h : jHp) (Q : jQ), J 63 19 kc ks [uu] [.ref (jn h + 2), .ref t] (jM h 8 8) Q → J 63 15 (kc + 9) (ks + 72) [uu] [.int (iI 8), .int (iI 8), .ref t] h Q
theorem jn_M {n m : Nat} : jn (jM h n m) = jn h + 1 + n := rfl
theorem jz_M {n m q : Nat} : jz (jM h n m) q = if q = jn h + 2 then (12, n) else if jn h + 2 < q ∧ q < jn h + 3 + n then (10, m) else jz h q := rfl
theorem gI_M {n m q j : Nat} : gI (jM h n m) q j = if jn h + 2 ≤ q ∧ q < jn h + 3 + n then 0 else gI h q j := rfl
theorem gR_M {n m q j : Nat} : gR (jM h n m) q j = if q = jn h + 2 then (if j < n then jn h + 3 + j else 0) else if jn h + 2 < q ∧ q < jn h + 3 + n then 0 else gR h q j := rfl
def TQ (t : Nat) (h0 h : jHp) : Prop := jn h = t + 8 ∧ (∀ q, q ≤ t → jz h q = jz h0 q) ∧ (∀ q j, q < t → gI h q j = gI h0 q j ∧ gR h q j = gR h0 q j) ∧ gR h t 1 = t + 1 ∧ jz h (t + 1) = (12, 8) ∧ (∀ i, i < 8 → gR h (t + 1) i = t + 2 + i ∧ jz h (t + 2 + i) = (10, 8)) ∧ gI h t 0 = iI 100 ∧ ∀ q j, t < q → q ≤ t + 9 → gI h q j = 0
theorem c_Tinit {t : Nat} (X : MNA) (ho : isO h0 t 6) (hm : 2 ≤ t) (hj : jn h0 = t - 1) : jRet 63 9 72 [.ref t] h0 (fun q h' => q = none ∧ TQ t h0 h') := by
  have jn1 : jn (sI h0 t 0 (iI 100)) = t - 1 := hj
  have zz : ∀ q, jz (sI h0 t 0 (iI 100)) q = jz h0 q := fun _ => rfl
  have rr : ∀ q j, gR (sI h0 t 0 (iI 100)) q j = gR h0 q j := fun _ _ => rfl
  refine jRet_of (by decide) (by decide) (Nat.le_of_ble_eq_true rfl) (j_Ta_init_0 ⟨by omega, j_Ta_init_4 ⟨ho, j_Ta_init_10 (X 0 0 t _ _ (j_Ta_init_19 ⟨?_, rfl, ?_⟩))⟩⟩)
  · unfold isO
    rw [jz_M, jn1, if_neg (by omega), if_neg (by omega), zz]
    exact ho
  · refine ⟨by rw [jn_R, jn_M, jn1]; omega, fun q hq => ?_, fun q j hq => ⟨?_, ?_⟩, ?_, ?_, fun i hi => ⟨?_, ?_⟩, ?_, fun q j h1 h2 => ?_⟩
    · rw [jz_R, jz_M, jn1, if_neg (by omega), if_neg (by omega), zz]
    · rw [gI_R, gI_M, jn1, if_neg (by omega), gI_sI, if_neg (by omega)]
    · rw [gR_R, if_neg (by omega), gR_M, jn1, if_neg (by omega), if_neg (by omega), rr]
    · rw [gR_R, if_pos ⟨rfl, rfl⟩, jn1]
      omega
    · rw [jz_R, jz_M, jn1, if_pos (by omega)]
    · rw [gR_R, if_neg (by omega), gR_M, jn1, if_pos (by omega), if_pos hi]
      omega
    · rw [jz_R, jz_M, jn1, if_neg (by omega), if_pos (by omega)]
    · rw [gI_R, gI_M, jn1, if_neg (by omega), gI_sI, if_pos ⟨rfl, rfl⟩]
    · rw [gI_R, gI_M, jn1, if_pos (by omega)]
/-- below c all stays -/
def lw (c : Nat) (k h : jHp) : Prop := ∀ q, q < c → jz h q = jz k q ∧ (∀ j, gI h q j = gI k q j) ∧ ∀ j, gR h q j = gR k q j
theorem lw_cb {c cc : Nat} (B : CB c (jA k cc 0) h) (hc : jn k + 2 = c) : lw c k h := fun q hq => by
  refine ⟨?_, fun j => ?_, fun j => ?_⟩
  · rw [B.1 q (by omega), jz_A, if_neg (by omega)]
  · rw [(B.2.1 q j hq).1, gI_A, if_neg (by omega)]
  · rw [(B.2.1 q j hq).2, gR_A, if_neg (by omega)]
theorem lw_tq {c cc : Nat} (B : TQ c (jA k cc 0) h) (hc : jn k + 2 = c) : lw c k h := fun q hq => by
  refine ⟨?_, fun j => ?_, fun j => ?_⟩
  · rw [B.2.1 q (by omega), jz_A, if_neg (by omega)]
  · rw [(B.2.2.1 q j hq).1, gI_A, if_neg (by omega)]
  · rw [(B.2.2.1 q j hq).2, gR_A, if_neg (by omega)]
def eqr (a b : Nat) (k h : jHp) : Prop := ∀ q, a ≤ q → q ≤ b → jz h q = jz k q ∧ (∀ j, gI h q j = gI k q j) ∧ ∀ j, gR h q j = gR k q j
theorem eqr.tr {a b : Nat} {k h g : jHp} (x : eqr a b k h) (y : eqr a b h g) : eqr a b k g := fun q h1 h2 => ⟨(y q h1 h2).1.trans (x q h1 h2).1, fun j => ((y q h1 h2).2.1 j).trans ((x q h1 h2).2.1 j), fun j => ((y q h1 h2).2.2 j).trans ((x q h1 h2).2.2 j)⟩
theorem eqr_x {a b x f v : Nat} (hx : x < a) : eqr a b h (sR h x f v) := fun q h1 h2 => ⟨rfl, fun _ => rfl, fun j => by rw [gR_R, if_neg (by omega)]⟩
theorem eqr_lw {a b c : Nat} (w : lw c k h) (hb : b < c) : eqr a b k h := fun q h1 h2 => w q (by omega)
/-- LightRoom while its fields are made: f of them -/
def XQ (x N : Nat) (k0 k : jHp) : Prop := jn k = x + N ∧ isO k x 8 ∧ (∀ j, gI k x j = 0) ∧ ∀ q, q < x → jz k q = jz k0 q ∧ (∀ j, gI k q j = gI k0 q j) ∧ ∀ j, gR k q j = gR k0 q j
theorem XQ_s {x N N' c f : Nat} {k0 : jHp} (I : XQ x N k0 k) (w : lw c k h) (hc : x < c) (hj : jn h = x + N') : XQ x N' k0 (sR h x f c) ∧ gR (sR h x f c) x f = c ∧ (∀ f', f' ≠ f → gR (sR h x f c) x f' = gR k x f') ∧ isO h x 8 := by
  obtain ⟨a1, a2, a3, a4⟩ := I
  have e := w x hc
  have o : isO h x 8 := by
    unfold isO at *
    rw [e.1]
    exact a2
  refine ⟨⟨hj, o, fun j => ?_, fun q hq => ?_⟩, ?_, fun f' hf => ?_, o⟩
  · rw [gI_R, e.2.1 j]
    exact a3 j
  · have g := w q (by omega)
    have b := a4 q hq
    refine ⟨?_, fun j => ?_, fun j => ?_⟩
    · rw [jz_R, g.1]
      exact b.1
    · rw [gI_R, g.2.1 j]
      exact b.2.1 j
    · rw [gR_R, if_neg (by omega), g.2.2 j]
      exact b.2.2 j
  · rw [gR_R, if_pos ⟨rfl, rfl⟩]
  · rw [gR_R, if_neg (fun z => hf z.2), e.2.2 f']
theorem sI_same {p k : Nat} {v : Int32} (e : (fun q j => if q = p ∧ j = k then v else gI h q j) = gI h) : sI h p k v = h := by
  have : sI h p k v = (h.1, (fun q j => if q = p ∧ j = k then v else gI h q j), h.2.2) := rfl
  rw [this, e]
  rfl
theorem new_o {c : Nat} : isO (jA h c 0) (jn h + 2) c := by
  unfold isO
  rw [jz_A, if_pos rfl]
theorem new_z {c j : Nat} : gI (jA h c 0) (jn h + 2) j = 0 := by
  rw [gI_A, if_pos rfl]
def FW (x : Nat) (K : jHp) : Prop := ∃ a b, WQ (x + 1) 8 a b ∧ (∀ j, gI a (x + 1) j = 0) ∧ isO a (x + 1) 7 ∧ eqr (x + 1) (x + 13) b K
def FT (x : Nat) (K : jHp) : Prop := ∃ a b, TQ (x + 14) a b ∧ isO a (x + 14) 6 ∧ eqr (x + 14) (x + 23) b K
def FG (x : Nat) (K : jHp) : Prop := ∃ a b, GQ (x + 24) 68 a b ∧ (∀ j, gI a (x + 24) j = 0) ∧ isO a (x + 24) 3 ∧ eqr (x + 24) (x + 161) b K
def FB (x : Nat) (K : jHp) : Prop := ∃ a b, BQb (x + 162) 21 a b ∧ isO a (x + 162) 1 ∧ eqr (x + 162) (x + 206) b K
def FC (x : Nat) (K : jHp) : Prop := ∃ a b, BQc (x + 207) 78 a b ∧ (∀ j, gI a (x + 207) j = 0) ∧ isO a (x + 207) 2 ∧ eqr (x + 207) (x + 372) b K
def FO (x : Nat) (K : jHp) : Prop := ∃ a b, OI (x + 373) 5 a b ∧ (∀ j, gI a (x + 373) j = 0) ∧ isO a (x + 373) 4 ∧ eqr (x + 373) (x + 384) b K
theorem eqr_s {a b c f x : Nat} {g : jHp} (E : eqr a b g k) (w : lw c k h) (hx : x < a) (hb : b < c) : eqr a b g (sR h x f c) := E.tr ((eqr_lw w hb).tr (eqr_x hx))
theorem FW.s {x c f : Nat} (F : FW x k) (w : lw c k h) (hb : x + 13 < c) : FW x (sR h x f c) := by
  obtain ⟨a, b, f1, f2, f3, f4⟩ := F
  exact ⟨a, b, f1, f2, f3, eqr_s f4 w (by omega) hb⟩
theorem FT.s {x c f : Nat} (F : FT x k) (w : lw c k h) (hb : x + 23 < c) : FT x (sR h x f c) := by
  obtain ⟨a, b, f1, f3, f4⟩ := F
  exact ⟨a, b, f1, f3, eqr_s f4 w (by omega) hb⟩
theorem FG.s {x c f : Nat} (F : FG x k) (w : lw c k h) (hb : x + 161 < c) : FG x (sR h x f c) := by
  obtain ⟨a, b, f1, f2, f3, f4⟩ := F
  exact ⟨a, b, f1, f2, f3, eqr_s f4 w (by omega) hb⟩
theorem FB.s {x c f : Nat} (F : FB x k) (w : lw c k h) (hb : x + 206 < c) : FB x (sR h x f c) := by
  obtain ⟨a, b, f1, f3, f4⟩ := F
  exact ⟨a, b, f1, f3, eqr_s f4 w (by omega) hb⟩
theorem FC.s {x c f : Nat} (F : FC x k) (w : lw c k h) (hb : x + 372 < c) : FC x (sR h x f c) := by
  obtain ⟨a, b, f1, f2, f3, f4⟩ := F
  exact ⟨a, b, f1, f2, f3, eqr_s f4 w (by omega) hb⟩
def pX (x f : Nat) : Nat := if f = 0 then x + 1 else if f = 1 then x + 14 else if f = 2 then x + 24 else if f = 3 then x + 162 else if f = 4 then x + 207 else x + 373
def RF (x n : Nat) (K : jHp) : Prop := ∀ f, f < n → gR K x f = pX x f
theorem RF_s {x n c : Nat} {k0 : jHp} {N N' : Nat} (R : RF x n k) (I : XQ x N k0 k) (w : lw c k h) (hc : x < c) (hj : jn h = x + N') (hp : pX x n = c) : RF x (n + 1) (sR h x n c) := fun f hf => by
  obtain ⟨_, r1, r2, _⟩ := XQ_s (f := n) I w hc hj
  by_cases e : f = n
  · rw [e, r1, hp]
  · rw [r2 f e]
    exact R f (by omega)
def RQ (x : Nat) (k0 K : jHp) : Prop := XQ x 383 k0 K ∧ RF x 6 K ∧ FW x K ∧ FT x K ∧ FG x K ∧ FB x K ∧ FC x K ∧ FO x K
section STG
variable {x : Nat} {k0 : jHp}
theorem s70 (A : RQ x k0 k) : J 92 70 0 680 [.ref x] [] k (fun q K => q = none ∧ RQ x k0 K) := by
  have K0 : sI k x 6 (iI 0) = k := by
    refine sI_same ?_
    funext q j
    by_cases c : q = x ∧ j = 6
    · rw [if_pos c, c.1, c.2, A.1.2.2.1 6]
      rfl
    · rw [if_neg c]
  refine j_R_init_70 ⟨A.1.2.1, rfl, ?_⟩
  rw [K0]
  exact A
theorem s59 (X : MNA) (I : XQ x 371 k0 k) (R : RF x 5 k) (aFW : FW x k) (aFT : FT x k) (aFG : FG x k) (aFB : FB x k) (aFC : FC x k) : J 92 59 12 1414 [.ref x] [] k (fun q K => q = none ∧ RQ x k0 K) := by
  have pe : jn k + 2 = x + 373 := by rw [I.1]
  have no : isO (jA k 4 0) (x + 373) 4 := by
    rw [← pe]
    exact new_o
  refine j_R_init_59 ?_
  rw [pe]
  refine ⟨by decide, by decide, by omega, jRet_mono (c_Oinit no (by omega) (by rw [jn_A]; omega)) ?_⟩
  intro q hh ww
  obtain ⟨u, O⟩ := ww
  have w : lw (x + 373) k hh := lw_cb O.2.1 pe
  have jj : jn hh = x + 383 := by
    have := O.1
    omega
  refine ⟨u, (XQ_s (f := 5) I w (by omega) jj).2.2.2, ?_⟩
  rw [show (12 - 1) - 11 = 0 by decide +kernel, show (1414 - cF 4) - 727 = 680 by decide +kernel]
  exact s70 ⟨(XQ_s (f := 5) I w (by omega) jj).1, RF_s R I w (by omega) jj rfl, aFW.s w (by omega), aFT.s w (by omega), aFG.s w (by omega), aFB.s w (by omega), aFC.s w (by omega), ⟨_, hh, O, fun j => by rw [← pe]; exact new_z, no, eqr_x (by omega)⟩⟩
theorem s48 (X : MNA) (I : XQ x 205 k0 k) (R : RF x 4 k) (aFW : FW x k) (aFT : FT x k) (aFG : FG x k) (aFB : FB x k) : J 92 48 178 4866 [.ref x] [] k (fun q K => q = none ∧ RQ x k0 K) := by
  have pe : jn k + 2 = x + 207 := by rw [I.1]
  have no : isO (jA k 2 0) (x + 207) 2 := by
    rw [← pe]
    exact new_o
  refine j_R_init_48 ?_
  rw [pe]
  refine ⟨by decide, by decide, by omega, jRet_mono (c_Cinit no (by omega) (by rw [jn_A]; omega)) ?_⟩
  intro q hh ww
  obtain ⟨u, O⟩ := ww
  have w : lw (x + 207) k hh := lw_cb O.2.2.1 pe
  have jj : jn hh = x + 371 := by
    have := O.2.1
    omega
  refine ⟨u, (XQ_s (f := 4) I w (by omega) jj).2.2.2, ?_⟩
  rw [show (178 - 1) - 165 = 12 by decide +kernel, show (4866 - cF 2) - 3437 = 1414 by decide +kernel]
  exact s59 X (XQ_s (f := 4) I w (by omega) jj).1 (RF_s R I w (by omega) jj rfl) (aFW.s w (by omega)) (aFT.s w (by omega)) (aFG.s w (by omega)) (aFB.s w (by omega)) ⟨_, hh, O, fun j => by rw [← pe]; exact new_z, no, eqr_x (by omega)⟩
theorem s37 (X : MNA) (I : XQ x 160 k0 k) (R : RF x 3 k) (aFW : FW x k) (aFT : FT x k) (aFG : FG x k) : J 92 37 223 5793 [.ref x] [] k (fun q K => q = none ∧ RQ x k0 K) := by
  have pe : jn k + 2 = x + 162 := by rw [I.1]
  have no : isO (jA k 1 0) (x + 162) 1 := by
    rw [← pe]
    exact new_o
  refine j_R_init_37 ?_
  rw [pe]
  refine ⟨by decide, by decide, by omega, jRet_mono (c_Boinit no (by omega) (by rw [jn_A]; omega)) ?_⟩
  intro q hh ww
  obtain ⟨u, O⟩ := ww
  have w : lw (x + 162) k hh := lw_cb O.2.2.1 pe
  have jj : jn hh = x + 205 := by
    have := O.2.1
    omega
  refine ⟨u, (XQ_s (f := 3) I w (by omega) jj).2.2.2, ?_⟩
  rw [show (223 - 1) - 44 = 178 by decide +kernel, show (5793 - cF 1) - 919 = 4866 by decide +kernel]
  exact s48 X (XQ_s (f := 3) I w (by omega) jj).1 (RF_s R I w (by omega) jj rfl) (aFW.s w (by omega)) (aFT.s w (by omega)) (aFG.s w (by omega)) ⟨_, hh, O, no, eqr_x (by omega)⟩
theorem s26 (X : MNA) (I : XQ x 22 k0 k) (R : RF x 2 k) (aFW : FW x k) (aFT : FT x k) : J 92 26 361 8787 [.ref x] [] k (fun q K => q = none ∧ RQ x k0 K) := by
  have pe : jn k + 2 = x + 24 := by rw [I.1]
  have no : isO (jA k 3 0) (x + 24) 3 := by
    rw [← pe]
    exact new_o
  refine j_R_init_26 ?_
  rw [pe]
  refine ⟨by decide, by decide, by omega, jRet_mono (c_Ginit no (by omega) (by rw [jn_A]; omega)) ?_⟩
  intro q hh ww
  obtain ⟨u, O⟩ := ww
  have w : lw (x + 24) k hh := lw_cb O.2.2.1 pe
  have jj : jn hh = x + 160 := by
    have := O.2.1
    omega
  refine ⟨u, (XQ_s (f := 2) I w (by omega) jj).2.2.2, ?_⟩
  rw [show (361 - 1) - 137 = 223 by decide +kernel, show (8787 - cF 3) - 2988 = 5793 by decide +kernel]
  exact s37 X (XQ_s (f := 2) I w (by omega) jj).1 (RF_s R I w (by omega) jj rfl) (aFW.s w (by omega)) (aFT.s w (by omega)) ⟨_, hh, O, fun j => by rw [← pe]; exact new_z, no, eqr_x (by omega)⟩
theorem s15 (X : MNA) (I : XQ x 12 k0 k) (R : RF x 1 k) (aFW : FW x k) : J 92 15 371 8861 [.ref x] [] k (fun q K => q = none ∧ RQ x k0 K) := by
  have pe : jn k + 2 = x + 14 := by rw [I.1]
  have no : isO (jA k 6 0) (x + 14) 6 := by
    rw [← pe]
    exact new_o
  refine j_R_init_15 ?_
  rw [pe]
  refine ⟨by decide, by decide, by omega, jRet_mono (c_Tinit X no (by omega) (by rw [jn_A]; omega)) ?_⟩
  intro q hh ww
  obtain ⟨u, O⟩ := ww
  have w : lw (x + 14) k hh := lw_tq O pe
  have jj : jn hh = x + 22 := by
    have := O.1
    omega
  refine ⟨u, (XQ_s (f := 1) I w (by omega) jj).2.2.2, ?_⟩
  rw [show (371 - 1) - 9 = 361 by decide +kernel, show (8861 - cF 6) - 72 = 8787 by decide +kernel]
  exact s26 X (XQ_s (f := 1) I w (by omega) jj).1 (RF_s R I w (by omega) jj rfl) (aFW.s w (by omega)) ⟨_, hh, O, no, eqr_x (by omega)⟩
theorem c_Rinit (X : MNA) (ho : isO k0 x 8) (hm : 2 ≤ x) (hj : jn k0 = x - 1) (hz : ∀ j, gI k0 x j = 0) : jRet 92 384 9000 [.ref x] k0 (fun q K => q = none ∧ RQ x k0 K) := by
  have pe : jn k0 + 2 = x + 1 := by omega
  have no : isO (jA k0 7 0) (x + 1) 7 := by
    rw [← pe]
    exact new_o
  refine jRet_of (by decide) (by decide) (Nat.le_of_ble_eq_true rfl) (j_R_init_0 ⟨by omega, j_R_init_4 ?_⟩)
  rw [pe]
  refine ⟨by decide, by decide, by omega, jRet_mono (c_Winit no (by omega) (by rw [jn_A]; omega)) ?_⟩
  intro q hh ww
  obtain ⟨u, W⟩ := ww
  have w : lw (x + 1) k0 hh := lw_cb W.2.2.1 pe
  have o1 : isO hh x 8 := by
    unfold isO at *
    rw [(w x (by omega)).1]
    exact ho
  have X1 : XQ x 12 k0 (sR hh x 0 (x + 1)) := by
    refine ⟨by rw [jn_R, W.2.1], o1, fun j => ?_, fun q hq => ?_⟩
    · rw [gI_R, (w x (by omega)).2.1 j]
      exact hz j
    · have g := w q (by omega)
      exact ⟨g.1, g.2.1, fun j => by rw [gR_R, if_neg (by omega)]; exact g.2.2 j⟩
  refine ⟨u, o1, ?_⟩
  rw [show (384 - 1) - 12 = 371 by decide +kernel, show (9000 - cF 7) - 132 = 8861 by decide +kernel]
  refine s15 X X1 (fun f hf => ?_) ⟨_, hh, W, fun j => by rw [← pe]; exact new_z, no, eqr_x (by omega)⟩
  obtain rfl : f = 0 := by omega
  rw [gR_R, if_pos ⟨rfl, rfl⟩]
  rfl
end STG
end ROOM
