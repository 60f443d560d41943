/-! one call of class and model: those that tell -/
section TELL
variable {x n nc p : Nat} {h k : jHp} {S : Nat → Nat → Prop} {l l1 l2 : List Int}
theorem aw2_st' (f : fg S h k) (a : aw2 S x) : stq (x + 385) h k := aw2_st (fg_wg f) a
theorem c_lampsChanged (R : LY x h) : jRet 106 0 0 [.ref x] h (fun q g => q = none ∧ g = sI h (x + 207) 13 (iI 0)) := by
  refine jRet_of (by decide) (by decide) (Nat.le_of_ble_eq_true rfl) (j_R_lampsChanged_0 ?_)
  rw [R.f4]
  exact ⟨R.1, R.c.1, Or.inl rfl, rfl, rfl⟩
theorem LY.sI {q j : Nat} {v : Int32} (R : LY x h) : LY x (sI h q j v) := R.wb (sk_wb (fg.rf (S := fun _ _ => True)).1 |>.tr (sk_wb (fg.wr (S := fun _ _ => True) fg.rf trivial).1))
theorem c_sharesChanged (R : LY x h) : jRet 100 0 0 [.ref x] h (fun q g => q = none ∧ g = sI (sI h (x + 24) 5 (iI 0)) (x + 207) 13 (iI 0)) := by
  have R1 : LY x (sI h (x + 24) 5 (iI 0)) := R.sI
  refine jRet_of (by decide) (by decide) (Nat.le_of_ble_eq_true rfl) (j_R_sharesChanged_0 ?_)
  rw [R.f2, R1.f4]
  exact ⟨R.1, R.g.1, Or.inl rfl, R1.1, R1.c.1, Or.inl rfl, j_R_sharesChanged_16 ⟨rfl, rfl⟩⟩
/-- all that a telling call may change -/
def tlF (x q j : Nat) : Prop := q = x ∨ (x + 1 ≤ q ∧ q ≤ x + 23) ∨ (q = x + 24 ∧ j = 5) ∨ (q = x + 207 ∧ j = 13) ∨ (x + 390 ≤ q ∧ q ≤ x + 401) ∨ (q = x + 385 ∧ (j = 0 ∨ j = 19 ∨ j = 20 ∨ j = 21))
theorem mk_in {n' nc' : Nat} (I : INV x n nc l l h) (f : fg (tlF x) h k) (T : TD x n' nc' k) (C : CX x n' k) (G : GlW x n' k) (Ch : ChW x n' k) (n0 : n' = 0 → n = 0) (st : mI k x 6 = mI k (x + 385) 0) : IN x k ∧ lo x h k := by
  have g : wg (x + 162) (tlF x) h k := fg_wg f
  refine ⟨⟨n', nc', l, ⟨I.r.wb g.1, T, C, G, bnw_fr I.2.2.2.2.1 f (fun q j h1 h2 z => by unfold tlF at z; omega), Ch, ox_fr I.2.2.2.2.2.2.1 g (fun q j h1 h2 z => by unfold tlF at z; omega), ou_wg I.2.2.2.2.2.2.2.1 g ⟨fun z => by unfold tlF at z; omega, fun j z => by unfold tlF at z; omega⟩, fun z => ?_⟩, st⟩, lo_fg f (fun q j z => by unfold tlF at z; omega)⟩
  obtain ⟨v, kv⟩ := I.2.2.2.2.2.2.2.2 (n0 z)
  exact ⟨v, kn_wg kv g (fun j z => by unfold tlF at z; omega)⟩
theorem lc9 {m : Nat} (e : ∀ i, mI k (m + 9) i = mI h (m + 9) i) : ∀ i, lmC m k i = lmC m h i
  | 0 => rfl
  | i + 1 => by rw [lmC_s, lmC_s, lc9 e i, e]
theorem la9 {m : Nat} (e : ∀ i, mI k (m + 9) i = mI h (m + 9) i) : ∀ i l, lmA m k i l = lmA m h i l
  | 0, _ => rfl
  | i + 1, l => by rw [lmA_s, lmA_s, la9 e i l, lc9 e, e]
theorem glw_t {n' : Nat} (I : INV x n nc l l h) (f : fg (tlF x) h k) (z : mI k (x + 24) 5 = 0) : GlW x n' k := glw_0 I.2.2.2.1 (fg_wg f) (fun q j h1 h2 z => by unfold tlF at z; omega) z
theorem glw_u (I : INV x n nc l l h) (f : fg (tlF x) h k) (e : ste (x + 385) h k) (z : mI k (x + 24) 5 = mI h (x + 24) 5) : GlW x n k := by
  have g : wg (x + 162) (tlF x) h k := fg_wg f
  have no : ∀ q j, x + 24 + 2 ≤ q → q ≤ x + 24 + 137 → ¬ tlF x q j := fun q j h1 h2 z => by
    unfold tlF at z
    omega
  refine ⟨gn_wg I.2.2.2.1.1 g (by omega) no, ?_⟩
  unfold GK
  rw [z, e.pv, e.dv]
  rcases I.2.2.2.1.2 with y | y
  · exact Or.inl y
  · exact Or.inr ⟨y.1, gt_wg I.n8 y.2 g (by omega) no⟩
theorem chw_t {n' : Nat} (I : INV x n nc l l h) (f : fg (tlF x) h k) (z : mI k (x + 207) 13 = 0) (la : ∀ a, a < 3 → lmA (x + 385) k n' a = -1 → lmA (x + 385) h n a = -1) (hn : n ≤ n') : ChW x n' k := by
  refine chw_0 I.2.2.2.2.2.1 (fg_wg f) (fun q j h1 h2 z => by unfold tlF at z; omega) z (fun V cz => ?_)
  obtain ⟨z1, z2, z3⟩ := cz
  refine ⟨fun r a hr ha y => z1 r a hr ha ?_, z2, fun r h1 h2 => z3 r (by omega) (by omega)⟩
  rcases y with y | y
  · exact Or.inl (by omega)
  · exact Or.inr (la a ha y)
/-- a patch's facts, from the third on -/
def pfF (x p q j : Nat) : Prop := (q = x ∧ j = 6) ∨ (q = x + 1 + 5 + p ∧ 3 ≤ j ∧ j ≤ 8) ∨ (q = x + 24 ∧ j = 5) ∨ (q = x + 207 ∧ j = 13) ∨ (x + 385 + 10 ≤ q ∧ q ≤ x + 385 + 15 ∧ j = p) ∨ (q = x + 385 ∧ j = 0)
theorem cx_p (C : CX x n h) (hp : p < 8) (f : fg (pfF x p) h k) (c : ∀ j, 3 ≤ j → j ≤ 8 → mI k (x + 1 + 5 + p) j = mI k (x + 385 + (7 + j)) p) : CX x n k := by
  obtain ⟨⟨c1, c2, c3, c4⟩, ⟨t1, t2⟩, c5⟩ := C
  refine ⟨⟨?_, ?_, fun q hq => ?_, fun i hi => ?_⟩, ⟨?_, fun i j hi hj => ?_⟩, ?_⟩
  · rw [f.eq (fun z => by unfold pfF at z; omega), f.eq (fun z => by unfold pfF at z; omega)]
    exact c1
  · rw [f.eq (fun z => by unfold pfF at z; omega), f.eq (fun z => by unfold pfF at z; omega)]
    exact c2
  · rw [f.eq (p := x + 1 + 1) (fun z => by unfold pfF at z; omega), f.eq (p := x + 385 + 5) (fun z => by unfold pfF at z; omega), f.eq (p := x + 1 + 2) (fun z => by unfold pfF at z; omega), f.eq (p := x + 385 + 6) (fun z => by unfold pfF at z; omega)]
    exact c3 q hq
  · have d := c4 i hi
    have m3 : ∀ j, 7 ≤ j → j ≤ 9 → mI k (x + 385 + j) i = mI h (x + 385 + j) i := fun j h1 h2 => f.eq (fun z => by unfold pfF at z; omega)
    have w3 : ∀ j, j < 3 → mI k (x + 1 + 5 + i) j = mI h (x + 1 + 5 + i) j := fun j h1 => f.eq (fun z => by unfold pfF at z; omega)
    by_cases e : i = p
    · rw [w3 0 (by decide), w3 1 (by decide), w3 2 (by decide), m3 9 (by decide) (by decide), m3 7 (by decide) (by decide), m3 8 (by decide) (by decide), e]
      rw [e] at d
      exact ⟨d.1, d.2.1, d.2.2.1, c 3 (by decide) (by decide), c 4 (by decide) (by decide), c 5 (by decide) (by decide), c 6 (by decide) (by decide), c 7 (by decide) (by decide), c 8 (by decide) (by decide)⟩
    · have w : ∀ j, mI k (x + 1 + 5 + i) j = mI h (x + 1 + 5 + i) j := fun j => f.eq (fun z => by unfold pfF at z; omega)
      have u : ∀ j, 7 ≤ j → j ≤ 15 → mI k (x + 385 + j) i = mI h (x + 385 + j) i := fun j h1 h2 => f.eq (fun z => by unfold pfF at z; omega)
      rw [w, w, w, w, w, w, w, w, w, u 9 (by decide) (by decide), u 7 (by decide) (by decide), u 8 (by decide) (by decide), u 10 (by decide) (by decide), u 11 (by decide) (by decide), u 12 (by decide) (by decide), u 13 (by decide) (by decide), u 14 (by decide) (by decide), u 15 (by decide) (by decide)]
      exact d
  · rw [f.eq (fun z => by unfold pfF at z; omega), f.eq (fun z => by unfold pfF at z; omega)]
    exact t1
  · rw [f.eq (fun z => by unfold pfF at z; omega), f.eq (fun z => by unfold pfF at z; omega)]
    exact t2 i j hi hj
  · rw [f.eq (fun z => by unfold pfF at z; omega), lc9 (fun i => f.eq (fun z => by unfold pfF at z; omega))]
    exact c5
theorem td_p (T : TD x n nc h) (hp : p < 8) (f : fg (pfF x p) h k) (w : SW (x + 385) k n) (so : SO (x + 385) k n) (sn : SN (x + 385) k n) (sp : SP (x + 385) k n) (kd : KD (x + 385) k n) : TD x n nc k := by
  obtain ⟨a, b, c, _, _, _, _, _, o, r, rs⟩ := T
  have m5 : ∀ q, 5 ≤ q → q ≤ 9 → mI k (x + 385 + q) = mI h (x + 385 + q) := fun q h1 h2 => funext (fun j => f.eq (fun z => by unfold pfF at z; omega))
  refine ⟨?_, ?_, ?_, w, so, sn, sp, kd, by rw [f.eq (fun z => by unfold pfF at z; omega)]; exact o, by rw [lc9 (k := k) (h := h) (m := x + 385) (fun i => congrFun (m5 9 (by decide) (by decide)) i)]; exact r, ?_⟩
  · unfold MB at *
    rw [m5 5 (by decide) (by decide), m5 6 (by decide) (by decide)]
    exact a
  · unfold MP at *
    rw [m5 7 (by decide) (by decide), m5 8 (by decide) (by decide)]
    exact b
  · unfold DI mF1 mF2 at *
    rw [m5 5 (by decide) (by decide), m5 6 (by decide) (by decide), m5 7 (by decide) (by decide), m5 8 (by decide) (by decide)]
    exact c
  · have e16 : mI k (x + 385 + 16) = mI h (x + 385 + 16) := funext (fun j => f.eq (fun z => by unfold pfF at z; omega))
    have e21 : mI k (x + 385) 21 = mI h (x + 385) 21 := f.eq (fun z => by unfold pfF at z; omega)
    unfold RWS at *
    rw [e16, e21]
    exact rs
theorem pf_tl (hp : p < 8) (f : fg (pfF x p) h k) : fg (tlF x) h k := f.mo (fun q j z => by unfold pfF at z; unfold tlF; omega)
theorem on_r {m : Nat} {a b c : Int} : rI (onS m h n a b c) := by
  unfold onS
  repeat' split
  all_goals exact ⟨by omega, by omega⟩
theorem ow_r {m : Nat} {a b : Int} : rI (owS m h n a b) := by
  unfold owS
  repeat' split
  all_goals exact ⟨by omega, by omega⟩
theorem pr_r {m : Nat} {a b c : Int} : rI (prS m h n a b c) := by
  unfold prS
  repeat' split
  all_goals exact ⟨by omega, by omega⟩
theorem own_0 {m : Nat} {p v : Int} (z : owS m h n p v = 0) : (0 ≤ p ∧ p < (n : Int)) ∧ (0 ≤ v ∧ v ≤ 10000) ∧ (mI h (m + 9) p.toNat = 0 → v = 0) := by
  unfold owS at z
  split at z
  · omega
  · split at z
    · omega
    · split at z
      · omega
      · rename_i a b c
        exact ⟨Classical.byContradiction a, Classical.byContradiction b, fun y => Classical.byContradiction (fun u => c ⟨y, u⟩)⟩
theorem owS_st {m : Nat} {p v : Int} {k : jHp} (e : stq m h k) : owS m k n p v = owS m h n p v := by
  unfold owS
  rw [e.1 9 (by decide) (by decide)]
/-- a patch's facts are told anew: all is well again -/
theorem tel_in {a : Nat} (nv : Nat → Int) (i : INV x n nc l l h) (an : a < n) (f3 : fg (pfF x a) h k) (hW : ∀ j, 3 ≤ j → j ≤ 8 → mI k (x + 1 + 5 + a) j = nv j) (hM : ∀ j, 3 ≤ j → j ≤ 8 → mI k (x + 385 + (7 + j)) a = nv j) (t3 : 1 ≤ nv 4 ∧ nv 4 ≤ 100 ∧ 0 ≤ nv 3 ∧ nv 3 < nv 4) (t5 : 0 ≤ nv 5 ∧ nv 5 ≤ 10000) (t6 : 0 ≤ nv 6 ∧ nv 6 ≤ 100000) (t7 : 0 ≤ nv 7 ∧ nv 7 ≤ 1000) (t8 : 0 ≤ nv 8 ∧ nv 8 ≤ 10000) (tk : mI h (x + 385 + 9) a = 0 → nv 5 = 0) (k13 : mI k (x + 207) 13 = 0) (G : mI k (x + 24) 5 = 0 ∨ (mI k (x + 24) 5 = mI h (x + 24) 5 ∧ nv 3 = mI h (x + 385 + 10) a ∧ nv 4 = mI h (x + 385 + 11) a)) (st : mI k x 6 = mI k (x + 385) 0) : IN x k ∧ lo x h k := by
  have n8 := i.n8
  have a8 : a < 8 := by omega
  have e16 : mI k (x + 385 + 16) = mI h (x + 385 + 16) := funext (fun j => f3.eq (fun z => by unfold pfF at z; omega))
  have e21 : mI k (x + 385) 21 = mI h (x + 385) 21 := f3.eq (fun z => by unfold pfF at z; omega)
  have e20 : mI k (x + 385) 20 = mI h (x + 385) 20 := f3.eq (fun z => by unfold pfF at z; omega)
  have e9 : ∀ j, mI k (x + 385 + 9) j = mI h (x + 385 + 9) j := fun j => f3.eq (fun z => by unfold pfF at z; omega)
  have ot : ∀ q j, j ≠ a → 10 ≤ q → q ≤ 15 → mI k (x + 385 + q) j = mI h (x + 385 + q) j := fun q j hj h1 h2 => f3.eq (fun z => by unfold pfF at z; omega)
  have h10 := hM 3 (by decide) (by decide)
  have h11 := hM 4 (by decide) (by decide)
  have h12 := hM 5 (by decide) (by decide)
  have h13 := hM 6 (by decide) (by decide)
  have h14 := hM 7 (by decide) (by decide)
  have h15 := hM 8 (by decide) (by decide)
  have ta : TD x n nc k := by
    refine td_p i.td a8 f3 ?_ ?_ ?_ ?_ ?_
    · obtain ⟨w1, w2, w3, w4, w5, w6, w7⟩ := i.sw
      refine ⟨by rw [e20]; exact w1, w2, by rw [e21]; exact w3, by rw [e21]; exact w4, fun q hq => ?_, by rw [e16]; exact w6, by rw [e16, e21]; exact w7⟩
      by_cases eq : q = a
      · rw [eq, h10, h11]
        exact t3
      · rw [ot 10 q eq (by decide) (by decide), ot 11 q eq (by decide) (by decide)]
        exact w5 q hq
    · intro q hq
      by_cases eq : q = a
      · rw [eq, h12]
        exact t5
      · rw [ot 12 q eq (by decide) (by decide)]
        exact i.so q hq
    · intro q hq
      by_cases eq : q = a
      · rw [eq, h13]
        exact t6
      · rw [ot 13 q eq (by decide) (by decide)]
        exact i.sn q hq
    · intro q hq
      by_cases eq : q = a
      · rw [eq, h14, h15]
        exact ⟨t7, t8⟩
      · rw [ot 14 q eq (by decide) (by decide), ot 15 q eq (by decide) (by decide)]
        exact i.sp q hq
    · intro q hq
      have w := i.kd q hq
      rw [e9]
      refine ⟨w.1, fun y => ?_⟩
      by_cases eq : q = a
      · rw [eq, h12]
        rw [eq] at y
        exact tk y
      · rw [ot 12 q eq (by decide) (by decide)]
        exact w.2 y
  have cx : CX x n k := cx_p i.cx a8 f3 (fun j h1 h2 => by rw [hW j h1 h2, hM j h1 h2])
  have ft := pf_tl a8 f3
  have gl : GlW x n k := by
    rcases G with g | ⟨g, g3, g4⟩
    · exact glw_t i ft g
    · refine glw_u i ft ⟨funext (fun j => ?_), funext (fun j => ?_), e16, e21⟩ g
      · by_cases eq : j = a
        · rw [eq, h10, g3]
        · exact ot 10 j eq (by decide) (by decide)
      · by_cases eq : j = a
        · rw [eq, h11, g4]
        · exact ot 11 j eq (by decide) (by decide)
  exact mk_in i ft ta cx gl (chw_t i ft k13 (fun q _ y => by rw [la9 e9] at y; exact y) (Nat.le_refl n)) (fun y => y) st
theorem old_w {a j : Nat} (i : INV x n nc l l h) (an : a < n) (h1 : 3 ≤ j) (h2 : j ≤ 8) : mI h (x + 1 + 5 + a) j = mI h (x + 385 + (7 + j)) a := by
  have n8 := i.n8
  have cw := i.cx.1.2.2.2 a (by omega)
  have cases : j = 3 ∨ j = 4 ∨ j = 5 ∨ j = 6 ∨ j = 7 ∨ j = 8 := by omega
  rcases cases with rfl | rfl | rfl | rfl | rfl | rfl
  · exact cw.2.2.2.1
  · exact cw.2.2.2.2.1
  · exact cw.2.2.2.2.2.1
  · exact cw.2.2.2.2.2.2.1
  · exact cw.2.2.2.2.2.2.2.1
  · exact cw.2.2.2.2.2.2.2.2
theorem in_6e {s : Int} {v : Int} (i : INV x n nc l l h) (hs : rI s) (z : s = v) : ∃ h6, h6 = sI h x 6 (iI s) ∧ INV x n nc l l h6 ∧ stq (x + 385) h h6 ∧ fg (fun q j => q = x ∧ j = 6) h h6 ∧ mI h6 x 6 = v := ⟨_, rfl, (in_6 i).1, (in_6 i).2, f6, by rw [m6 hs, z]⟩
/-- want, own: one fact is told -/
theorem tel_1 {a q j : Nat} {v : Int} {Q : jQ} {h6 : jHp} (i : INV x n nc l l h) (i6 : INV x n nc l l h6) (f0 : fg (fun q j => q = x ∧ j = 6) h h6) (m60 : mI h6 x 6 = 0) (an : a < n) (j1 : 5 ≤ j) (j2 : j ≤ 6) (eq : q = 7 + j) (hv : rI v) (hb : 0 ≤ v ∧ v ≤ (if j = 5 then 10000 else 100000)) (tk : j = 5 → mI h (x + 385 + 9) a = 0 → v = 0) (H : ∀ g, LY x g → stq (x + 385) h g → (∀ k, k = sI (sI g (x + 385 + q) a (iI v)) (x + 385) 0 (iI 0) → IN x k ∧ lo x h k) → Q none g) : jRet 106 0 0 [.ref x] (sI h6 (x + 1 + 5 + a) j (iI v)) Q := by
  have n8 := i.n8
  have R1 : LY x (sI h6 (x + 1 + 5 + a) j (iI v)) := i6.r.sI
  refine jRet_mono (c_lampsChanged R1) ?_
  intro q2 g2 w2
  obtain ⟨e3, e4⟩ := w2
  rw [e3]
  have f2 : fg (fun q j => (q = x + 1 + 5 + a ∧ 3 ≤ j ∧ j ≤ 8) ∨ (q = x + 207 ∧ j = 13)) h6 g2 := by
    rw [e4]
    exact (fg.rf.wr (Or.inl ⟨rfl, by omega, by omega⟩)).wr (Or.inr ⟨rfl, rfl⟩)
  have f02 : ∀ {p k : Nat}, x + 385 ≤ p → mI g2 p k = mI h p k := fun hq => by rw [f2.eq (by omega), f0.eq (by omega)]
  refine H g2 (by rw [e4]; exact R1.sI) ⟨fun p h1 h2 => funext (fun k => f02 (by omega)), f02 (by omega), f02 (by omega), f02 (by omega)⟩ (fun k y2 => ?_)
  have f3 : fg (pfF x a) h k := by
    rw [y2]
    refine ((f0.mo (fun q j z => Or.inl z)).tr (f2.mo (fun q j z => ?_))).wr ?_ |>.wr ?_
    · omega
    · omega
    · omega
  have sp := i.sp a an
  have so := i.so a an
  have sn := i.sn a an
  have sw := i.sw.2.2.2.2.1 a an
  have kd := i.kd a an
  refine tel_in (a := a) (fun b => if b = j then v else mI h (x + 385 + (7 + b)) a) i an f3 (fun b h1 h2 => ?_) (fun b h1 h2 => ?_) ?_ ?_ ?_ ?_ ?_ ?_ ?_ ?_ ?_
  · by_cases c : b = j
    · rw [if_pos c, y2, mI_sI ⟨by omega, by omega⟩, if_neg (by omega), mI_sI hv, if_neg (by omega), e4, mI_sI ⟨by omega, by omega⟩, if_neg (by omega), mI_sI hv, if_pos ⟨rfl, c⟩]
    · rw [if_neg c, y2, mI_sI ⟨by omega, by omega⟩, if_neg (by omega), mI_sI hv, if_neg (by omega), e4, mI_sI ⟨by omega, by omega⟩, if_neg (by omega), mI_sI hv, if_neg (by omega), f0.eq (by omega)]
      exact old_w i an h1 h2
  · by_cases c : b = j
    · rw [if_pos c, y2, mI_sI ⟨by omega, by omega⟩, if_neg (by omega), mI_sI hv, if_pos (by omega)]
    · rw [if_neg c, y2, mI_sI ⟨by omega, by omega⟩, if_neg (by omega), mI_sI hv, if_neg (by omega), f02 (by omega)]
  · rw [if_neg (by omega), if_neg (by omega)]
    exact sw
  · by_cases c : 5 = j
    · rw [if_pos c]
      rw [if_pos c.symm] at hb
      exact hb
    · rw [if_neg c]
      exact so
  · by_cases c : 6 = j
    · rw [if_pos c]
      rw [if_neg (by omega)] at hb
      exact hb
    · rw [if_neg c]
      exact sn
  · rw [if_neg (by omega)]
    exact sp.1
  · rw [if_neg (by omega)]
    exact sp.2
  · intro y
    by_cases c : 5 = j
    · rw [if_pos c]
      exact tk c.symm y
    · rw [if_neg c]
      exact kd.2 y
  · rw [y2, mI_sI ⟨by omega, by omega⟩, if_neg (by omega), mI_sI hv, if_neg (by omega), e4, mI_sI ⟨by omega, by omega⟩, if_pos ⟨rfl, rfl⟩]
  · refine Or.inr ⟨?_, ?_, ?_⟩
    · rw [y2, mI_sI ⟨by omega, by omega⟩, if_neg (by omega), mI_sI hv, if_neg (by omega), f2.eq (by omega), f0.eq (by omega)]
    · rw [if_neg (by omega)]
    · rw [if_neg (by omega)]
  · have b1 : mI k x 6 = 0 := by
      rw [y2, mI_sI ⟨by omega, by omega⟩, if_neg (by omega), mI_sI hv, if_neg (by omega), f2.eq (by omega), m60]
    have b2 : mI k (x + 385) 0 = 0 := by
      rw [y2, mI_sI ⟨by omega, by omega⟩, if_pos ⟨rfl, rfl⟩]
    rw [b1, b2]
theorem p_own {p v : Int} (hp : rI p) (hv : rI v) (I : IN x h) : PR x 103 142 [.int (iI p), .int (iI v)] h := by
  obtain ⟨n, nc, l, i, e⟩ := I
  refine jRet_of (by decide) (by decide) (Nat.le_of_ble_eq_true rfl) (j_R_own_0 ⟨i.r.1, jRet_mono (c_ownStatus i.r i.td i.cx hp hv) ?_⟩)
  intro q1 g1 w1
  obtain ⟨e1, e2⟩ := w1
  rw [e2]
  have hs := ow_r (m := x + 385) (h := h) (n := n) (a := p) (b := v)
  obtain ⟨j, sq⟩ := in_6 (v := iI (owS (x + 385) h n p v)) i
  have es : owS (x + 385) (sI h x 6 (iI (owS (x + 385) h n p v))) n p v = owS (x + 385) h n p v := owS_st sq
  have n8 := j.n8
  refine ⟨_, e1, i.r.1, j.r.1, ?_⟩
  rw [g6, iI_0, iI_eq hs ⟨by omega, by omega⟩]
  refine ⟨fun z => j_R_own_19 ?_, fun z => ⟨Or.inl rfl, _, rfl, j.r, jRet_mono (c_own j.r.m j.sw.1 j.n8 hp hv) ?_⟩⟩
  · have c := own_0 z
    obtain ⟨h6, eh, j6, sq6, f0, m60⟩ := in_6e i hs z
    rw [← eh]
    obtain ⟨a, rfl⟩ : ∃ a : Nat, p = (a : Int) := ⟨p.toNat, by omega⟩
    rw [Int.toNat_natCast] at c
    obtain ⟨p1, p2, p3⟩ := j6.r.p (p := a) (by omega)
    rw [j6.r.f0, p2]
    refine ⟨j6.r.1, j6.r.w.1, p1, p3, j6.r.sI.1, tel_1 (q := 12) i j6 f0 m60 (show a < n by omega) (by decide) (by decide) rfl hv (by rw [if_pos rfl]; exact c.2.1) (fun _ => c.2.2) (fun g R sg H => ?_)⟩
    refine ⟨rfl, Or.inr rfl, _, rfl, R, jRet_mono (c_own R.m (by rw [sg.2.2.1]; exact i.sw.1) n8 hp hv) ?_⟩
    intro r k y
    obtain ⟨y1, y2⟩ := y.1 ((owS_st sg).trans z)
    exact ⟨y1, H k y2⟩
  · intro r g w
    have u := w.2 (by rw [es]; exact z)
    rw [es] at u
    exact ⟨u.1, fin_0 hs j lo_6 (m6 hs) u.2⟩
theorem p_want {p v : Int} (hp : rI p) (hv : rI v) (I : IN x h) : PR x 123 189 [.int (iI p), .int (iI v)] h := by
  obtain ⟨n, nc, l, i, e⟩ := I
  have j0 : jc 0 100000 = 100000 := by decide
  refine jRet_of (by decide) (by decide) (Nat.le_of_ble_eq_true rfl) (j_R_want_0 ?_)
  rw [j0]
  refine ⟨i.r.1, jRet_mono (c_numberStatus i.r i.td i.cx hp hv ⟨by omega, by omega⟩) ?_⟩
  intro q1 g1 w1
  obtain ⟨e1, e2⟩ := w1
  rw [e2]
  have hs := nmS_r (n := n) (p := p) (k := v) (mx := 100000)
  have ew : wnS n p v = nmS n p v 100000 := rfl
  obtain ⟨j, sq⟩ := in_6 (v := iI (nmS n p v 100000)) i
  have n8 := j.n8
  refine ⟨_, e1, i.r.1, j.r.1, ?_⟩
  rw [g6, iI_0, iI_eq hs ⟨by omega, by omega⟩]
  refine ⟨fun z => j_R_want_21 ?_, fun z => ⟨Or.inl rfl, _, rfl, j.r, jRet_mono (c_want j.r.m j.sw.1 j.n8 hp hv) ?_⟩⟩
  · have c := nm_0 z
    obtain ⟨h6, eh, j6, sq6, f0, m60⟩ := in_6e i hs z
    rw [← eh]
    obtain ⟨a, rfl⟩ : ∃ a : Nat, p = (a : Int) := ⟨p.toNat, by omega⟩
    obtain ⟨p1, p2, p3⟩ := j6.r.p (p := a) (by omega)
    rw [j6.r.f0, p2]
    refine ⟨j6.r.1, j6.r.w.1, p1, p3, j6.r.sI.1, tel_1 (q := 13) i j6 f0 m60 (show a < n by omega) (by decide) (by decide) rfl hv (by rw [if_neg (by decide)]; exact c.2) (fun y => absurd y (by decide)) (fun g R sg H => ?_)⟩
    refine ⟨rfl, Or.inr rfl, _, rfl, R, jRet_mono (c_want R.m (by rw [sg.2.2.1]; exact i.sw.1) n8 hp hv) ?_⟩
    intro r k y
    obtain ⟨y1, y2⟩ := y.1 z
    exact ⟨y1, H k y2⟩
  · intro r g w
    have u := w.2 z
    exact ⟨u.1, fin_0 hs j lo_6 (m6 hs) u.2⟩
end TELL
