/-! table, parts, corner, patch -/
section TELL3
variable {x n nc p : Nat} {h k : jHp} {S : Nat → Nat → Prop} {l l1 l2 : List Int}
theorem sm_upd {g : Nat → Int} {v : Int} {j : Nat} : ∀ {n : Nat}, (j < n → sm (fun q => if q = j then v else g q) n = sm (fun q => if q = j then 0 else g q) n + v) ∧ (n ≤ j → sm (fun q => if q = j then v else g q) n = sm (fun q => if q = j then 0 else g q) n)
  | 0 => ⟨fun z => absurd z (by omega), fun _ => rfl⟩
  | n + 1 => by
    have ih := sm_upd (g := g) (v := v) (j := j) (n := n)
    refine ⟨fun z => ?_, fun z => ?_⟩
    · rw [sm, sm]
      by_cases e : n = j
      · rw [if_pos e, if_pos e, ih.2 (by omega)]
        omega
      · rw [if_neg e, if_neg e, ih.1 (by omega)]
        omega
    · rw [sm, sm, if_neg (by omega), if_neg (by omega), ih.2 (by omega)]
theorem tb_r {m : Nat} {a b c : Int} : rI (tbS m h n a b c) := by
  unfold tbS
  repeat' split
  all_goals exact ⟨by omega, by omega⟩
theorem tb_0 {m : Nat} {i j v : Int} (z : tbS m h n i j v = 0) : ((0 ≤ i ∧ i < (n : Int)) ∧ (0 ≤ j ∧ j < (n : Int))) ∧ (0 ≤ v ∧ v ≤ mI h m 21 - tbO m h i.toNat j.toNat 8) := by
  unfold tbS at z
  split at z
  · omega
  · split at z
    · omega
    · rename_i a b
      exact ⟨Classical.byContradiction a, Classical.byContradiction b⟩
theorem tbS_st {m : Nat} {i j v : Int} (e : stq m h k) : tbS m k n i j v = tbS m h n i j v := by
  unfold tbS tbO
  rw [e.1 16 (by decide) (by decide), e.2.2.2]
/-- told facts but the table stay -/
def tbF (x q j : Nat) : Prop := (q = x ∧ j = 6) ∨ (x + 14 ≤ q ∧ q ≤ x + 23) ∨ (q = x + 24 ∧ j = 5) ∨ (q = x + 207 ∧ j = 13) ∨ q = x + 385 + 16 ∨ (q = x + 385 ∧ (j = 0 ∨ j = 21))
theorem tab_in (i : INV x n nc l l h) (f : fg (tbF x) h k) (p1 : 1 ≤ mI k (x + 385) 21) (p2 : mI k (x + 385) 21 ≤ 1000) (nn : ∀ q, q < 64 → 0 ≤ mI k (x + 385 + 16) q) (rs : RWS (x + 385) k) (ct : CT (x + 14) (x + 385) k) (k5 : mI k (x + 24) 5 = 0) (k13 : mI k (x + 207) 13 = 0) (st : mI k x 6 = mI k (x + 385) 0) : IN x k ∧ lo x h k := by
  have n8 := i.n8
  have m5 : ∀ q, 5 ≤ q → q ≤ 15 → mI k (x + 385 + q) = mI h (x + 385 + q) := fun q h1 h2 => funext (fun j => f.eq (fun z => by unfold tbF at z; omega))
  have w5 : ∀ q j, x + 1 ≤ q → q ≤ x + 13 → mI k q j = mI h q j := fun q j h1 h2 => f.eq (fun z => by unfold tbF at z; omega)
  have e19 : mI k (x + 385) 19 = mI h (x + 385) 19 := f.eq (fun z => by unfold tbF at z; omega)
  have e20 : mI k (x + 385) 20 = mI h (x + 385) 20 := f.eq (fun z => by unfold tbF at z; omega)
  have ft : fg (tlF x) h k := f.mo (fun q j z => by unfold tbF at z; unfold tlF; omega)
  have ta : TD x n nc k := by
    obtain ⟨a, b, c, sw, so, sn, sp, kd, o, r, _⟩ := i.td
    refine ⟨?_, ?_, ?_, ?_, ?_, ?_, ?_, ?_, by rw [e19]; exact o, by rw [lc9 (k := k) (h := h) (m := x + 385) (fun i => congrFun (m5 9 (by decide) (by decide)) i)]; exact r, rs⟩
    · unfold MB at *
      rw [m5 5 (by decide) (by decide), m5 6 (by decide) (by decide)]
      exact a
    · unfold MP at *
      rw [m5 7 (by decide) (by decide), m5 8 (by decide) (by decide)]
      exact b
    · unfold DI mF1 mF2 at *
      rw [m5 5 (by decide) (by decide), m5 6 (by decide) (by decide), m5 7 (by decide) (by decide), m5 8 (by decide) (by decide)]
      exact c
    · refine ⟨by rw [e20]; exact sw.1, n8, p1, p2, by rw [m5 11 (by decide) (by decide), m5 10 (by decide) (by decide)]; exact sw.2.2.2.2.1, nn, fun q hq => rs q (by omega)⟩
    · unfold SO at *
      rw [m5 12 (by decide) (by decide)]
      exact so
    · unfold SN at *
      rw [m5 13 (by decide) (by decide)]
      exact sn
    · unfold SP at *
      rw [m5 14 (by decide) (by decide), m5 15 (by decide) (by decide)]
      exact sp
    · unfold KD at *
      rw [m5 9 (by decide) (by decide), m5 12 (by decide) (by decide)]
      exact kd
  have cx : CX x n k := by
    obtain ⟨⟨c1, c2, c3, c4⟩, _, c5⟩ := i.cx
    refine ⟨⟨by rw [w5 _ _ (by omega) (by omega), e19]; exact c1, by rw [w5 _ _ (by omega) (by omega), e20]; exact c2, fun q hq => ?_, fun q hq => ?_⟩, ct, ?_⟩
    · rw [w5 _ _ (by omega) (by omega), w5 (x + 1 + 2) _ (by omega) (by omega), m5 5 (by decide) (by decide), m5 6 (by decide) (by decide)]
      exact c3 q hq
    · have w : ∀ j, mI k (x + 1 + 5 + q) j = mI h (x + 1 + 5 + q) j := fun j => w5 _ _ (by omega) (by omega)
      rw [w, w, w, w, w, w, w, w, w, m5 9 (by decide) (by decide), m5 7 (by decide) (by decide), m5 8 (by decide) (by decide), m5 10 (by decide) (by decide), m5 11 (by decide) (by decide), m5 12 (by decide) (by decide), m5 13 (by decide) (by decide), m5 14 (by decide) (by decide), m5 15 (by decide) (by decide)]
      exact c4 q hq
    · rw [w5 _ _ (by omega) (by omega), lc9 (k := k) (h := h) (m := x + 385) (fun i => congrFun (m5 9 (by decide) (by decide)) i)]
      exact c5
  exact mk_in i ft ta cx (glw_t i ft k5) (chw_t i ft k13 (fun q _ y => by rw [la9 (k := k) (h := h) (m := x + 385) (fun i => congrFun (m5 9 (by decide) (by decide)) i)] at y; exact y) (Nat.le_refl n)) (fun y => y) st
theorem p_table {i j v : Int} (hi : rI i) (hj : rI j) (hv : rI v) (I : IN x h) : PR x 115 155 [.int (iI i), .int (iI j), .int (iI v)] h := by
  obtain ⟨n, nc, l, I, e⟩ := I
  refine jRet_of (by decide) (by decide) (Nat.le_of_ble_eq_true rfl) (j_R_table_0 ⟨I.r.1, jRet_mono (c_tableStatus I.r I.td I.cx hi hj hv) ?_⟩)
  intro q1 g1 w1
  obtain ⟨e1, e2⟩ := w1
  rw [e2]
  have hs := tb_r (m := x + 385) (h := h) (n := n) (a := i) (b := j) (c := v)
  obtain ⟨J', sq⟩ := in_6 (v := iI (tbS (x + 385) h n i j v)) I
  have es : tbS (x + 385) (sI h x 6 (iI (tbS (x + 385) h n i j v))) n i j v = tbS (x + 385) h n i j v := tbS_st sq
  have n8 := J'.n8
  refine ⟨_, e1, I.r.1, J'.r.1, ?_⟩
  rw [g6, iI_0, iI_eq hs ⟨by omega, by omega⟩]
  refine ⟨fun z => j_R_table_20 ?_, fun z => ⟨Or.inl rfl, _, rfl, J'.r, jRet_mono (c_table J'.r.m J'.sw hi hj hv) ?_⟩⟩
  · have c := tb_0 z
    obtain ⟨h6, eh, j6, sq6, f0, m60⟩ := in_6e I hs z
    rw [← eh]
    obtain ⟨a, rfl⟩ : ∃ a : Nat, i = (a : Int) := ⟨i.toNat, by omega⟩
    obtain ⟨b, rfl⟩ : ∃ b : Nat, j = (b : Int) := ⟨j.toNat, by omega⟩
    rw [Int.toNat_natCast, Int.toNat_natCast] at c
    obtain ⟨t1, t2, t3, t4⟩ := j6.r.t
    have row := t4 a (by omega)
    rw [j6.r.f1, t2, iI_cl (by omega) (by omega), Int.toNat_natCast, iI_cl (by omega) (by omega), Int.toNat_natCast, row.1]
    have R1 : LY x (sI h6 (x + 14 + 2 + a) b (iI v)) := j6.r.sI
    refine ⟨j6.r.1, t1, ixR_of t3 (Or.inl rfl) (by omega) (by omega) (by decide), ix_of row.2 (by omega) (by omega) (by decide), R1.1, jRet_mono (c_sharesChanged R1) ?_⟩
    intro q2 g2 w2
    obtain ⟨e3, e4⟩ := w2
    have f2 : fg (fun q d => (q = x + 14 + 2 + a ∧ d = b) ∨ (q = x + 207 ∧ d = 13) ∨ (q = x + 24 ∧ d = 5)) h6 g2 := by
      rw [e4]
      exact ((fg.rf.wr (Or.inl ⟨rfl, rfl⟩)).wr (Or.inr (Or.inr ⟨rfl, rfl⟩))).wr (Or.inr (Or.inl ⟨rfl, rfl⟩))
    have f02 : ∀ {p k : Nat}, x + 385 ≤ p → mI g2 p k = mI h p k := fun hq => by rw [f2.eq (by omega), f0.eq (by omega)]
    have sg : stq (x + 385) h g2 := ⟨fun p h1 h2 => funext (fun k => f02 (by omega)), f02 (by omega), f02 (by omega), f02 (by omega)⟩
    have R3 : LY x g2 := by
      rw [e4]
      exact R1.sI.sI
    refine ⟨e3, Or.inr rfl, _, rfl, R3, jRet_mono (c_table R3.m (sg.sw I.sw) hi hj hv) ?_⟩
    intro r k y
    obtain ⟨y1, y2⟩ := y.1 ((tbS_st sg).trans z)
    rw [Int.toNat_natCast, Int.toNat_natCast] at y2
    obtain ⟨S1, S2, S3, S4, S5, S6, S7⟩ := I.sw
    have RS := I.td.2.2.2.2.2.2.2.2.2.2
    have f3 : fg (tbF x) h k := by
      rw [y2]
      refine (((f0.mo (fun q j z => Or.inl z)).tr (f2.mo (fun q j z => ?_))).wr ?_ |>.wr ?_)
      · omega
      · omega
      · omega
    have kk : ∀ {q d : Nat}, q < x + 385 → mI k q d = mI g2 q d := fun hq => by
      rw [y2, mI_sI ⟨by omega, by omega⟩, if_neg (by omega), mI_sI hv, if_neg (by omega)]
    have k16 : ∀ q, mI k (x + 385 + 16) q = if q = 8 * a + b then v else mI h (x + 385 + 16) q := fun q => by
      rw [y2, mI_sI ⟨by omega, by omega⟩, if_neg (by omega), mI_sI hv]
      by_cases c : q = 8 * a + b
      · rw [if_pos ⟨rfl, c⟩, if_pos c]
      · rw [if_neg (by omega), if_neg c, f02 (by omega)]
    have k21 : mI k (x + 385) 21 = mI h (x + 385) 21 := by
      rw [y2, mI_sI ⟨by omega, by omega⟩, if_neg (by omega), mI_sI hv, if_neg (by omega), f02 (by omega)]
    refine ⟨y1, tab_in I f3 (by rw [k21]; exact S3) (by rw [k21]; exact S4) (fun q hq => ?_) (fun q hq => ?_) ⟨?_, fun q d hq hd => ?_⟩ ?_ ?_ ?_⟩
    · rw [k16]
      split
      · exact c.2.1
      · exact S6 q hq
    · rw [k21]
      by_cases eq : q = a
      · have : sm (fun d => mI k (x + 385 + 16) (8 * q + d)) 8 = sm (fun d => if d = b then v else mI h (x + 385 + 16) (8 * a + d)) 8 := sm_congr (fun d hd => by
          rw [k16, eq]
          by_cases c : d = b
          · rw [if_pos (by omega), if_pos c]
          · rw [if_neg (by omega), if_neg c])
        rw [this, (sm_upd (n := 8)).1 (by omega)]
        have c2 := c.2.2
        unfold tbO at c2
        omega
      · have : sm (fun d => mI k (x + 385 + 16) (8 * q + d)) 8 = sm (fun d => mI h (x + 385 + 16) (8 * q + d)) 8 := sm_congr (fun d hd => by
          rw [k16, if_neg (by omega)])
        rw [this]
        exact RS q hq
    · rw [kk (by omega), k21, f2.eq (by omega), f0.eq (by omega)]
      exact I.cx.2.1.1
    · rw [kk (by omega), k16, e4, mI_sI ⟨by omega, by omega⟩, if_neg (by omega), mI_sI ⟨by omega, by omega⟩, if_neg (by omega), mI_sI hv]
      by_cases c : q = a ∧ d = b
      · rw [if_pos (by omega), if_pos (by omega)]
      · rw [if_neg (by omega), if_neg (by omega), f0.eq (by omega)]
        exact I.cx.2.1.2 q d hq hd
    · rw [kk (by omega), e4, mI_sI ⟨by omega, by omega⟩, if_neg (by omega), mI_sI ⟨by omega, by omega⟩, if_pos ⟨rfl, rfl⟩]
    · rw [kk (by omega), e4, mI_sI ⟨by omega, by omega⟩, if_pos ⟨rfl, rfl⟩]
    · have b2 : mI k (x + 385) 0 = 0 := by
        rw [y2, mI_sI ⟨by omega, by omega⟩, if_pos ⟨rfl, rfl⟩]
      rw [kk (by omega), b2, f2.eq (by omega), m60]
  · intro r g w
    have y := w.2 (by rw [es]; exact z)
    rw [es] at y
    exact ⟨y.1, fin_0 hs J' lo_6 (m6 hs) y.2⟩
theorem p_parts {v : Int} (hv : rI v) (I : IN x h) : PR x 114 154 [.int (iI v)] h := by
  obtain ⟨n, nc, l, I, e⟩ := I
  have n8 := I.n8
  have fin : ∀ {Q : jQ} (s : Int), rI s → (s = 0 → J 114 29 0 0 [.ref x, .int (iI v)] [] (sI h x 6 (iI s)) Q) → (s ≠ 0 → Q (some (.int (iI 0))) (sI h x 6 (iI s))) → J 114 17 0 0 [.ref x, .int (iI v)] [.int (iI s), .ref x] h Q := by
    intro Q s hs a b
    obtain ⟨j, _⟩ := in_6 (v := iI s) I
    refine j_R_parts_17 ⟨I.r.1, j.r.1, ?_⟩
    rw [g6, iI_0, iI_eq hs ⟨by omega, by omega⟩]
    exact ⟨a, fun z => ⟨Or.inl rfl, b z⟩⟩
  refine jRet_of (by decide) (by decide) (Nat.le_of_ble_eq_true rfl) (j_R_parts_0 (jRet_mono (c_isFrom ⟨by omega, by omega⟩ hv ⟨by omega, by omega⟩) ?_))
  intro q1 g1 w1
  obtain ⟨e1, e2⟩ := w1
  rw [e2]
  refine ⟨_, e1, fun z => j_R_parts_16 (fin 2 ⟨by omega, by omega⟩ (fun y => by omega) (fun _ => ?_)), fun z => fin 0 ⟨by omega, by omega⟩ (fun _ => j_R_parts_29 ?_) (fun y => absurd rfl y)⟩
  · obtain ⟨j, _⟩ := in_6 (v := iI 2) I
    refine ⟨_, rfl, j.r, jRet_mono (c_parts j.r.m hv) ?_⟩
    intro r g w
    have u := w.2 (iz.mp z)
    exact ⟨u.1, fin_0 (s := 2) ⟨by omega, by omega⟩ j lo_6 (m6 ⟨by omega, by omega⟩) u.2⟩
  · have c := iz1 z
    obtain ⟨h6, eh, j6, sq6, f0, m60⟩ := in_6e (s := 0) (v := 0) I ⟨by omega, by omega⟩ rfl
    rw [← eh, j6.r.f1]
    refine ⟨j6.r.1, j6.r.t.1, jRet_mono (c_Tbegin j6.r.t hv) ?_⟩
    intro q2 g2 w2
    obtain ⟨b1, b2, b3, b4⟩ := w2
    have R2 : LY x g2 := j6.r.wb (fg_wg b2).1
    refine ⟨b1, R2.1, jRet_mono (c_sharesChanged R2) ?_⟩
    intro q3 g3 w3
    obtain ⟨d1, d2⟩ := w3
    have f2 : fg (fun q j => (q = x + 14 ∧ j = 0 ∨ x + 14 + 2 ≤ q ∧ q ≤ x + 14 + 9) ∨ (q = x + 207 ∧ j = 13) ∨ (q = x + 24 ∧ j = 5)) h6 g3 := by
      rw [d2]
      refine (fg.wr (fg.wr (b2.mo (fun q j z => Or.inl z)) ?_) ?_)
      · exact Or.inr (Or.inr ⟨rfl, rfl⟩)
      · exact Or.inr (Or.inl ⟨rfl, rfl⟩)
    have f02 : ∀ {p k : Nat}, x + 385 ≤ p → mI g3 p k = mI h p k := fun hq => by rw [f2.eq (by omega), f0.eq (by omega)]
    have R3 : LY x g3 := by
      rw [d2]
      exact R2.sI.sI
    refine ⟨d1, Or.inr rfl, _, rfl, R3, jRet_mono (c_parts R3.m hv) ?_⟩
    intro r k y
    obtain ⟨y1, y2, y3, y4, y5⟩ := y.1 c
    have f3 : fg (tbF x) h k := ((f0.mo (fun q j z => Or.inl z)).tr (f2.mo (fun q j z => by omega))).tr (y2.mo (fun q j z => by omega))
    refine ⟨y1, tab_in I f3 (by rw [y3]; exact c.1) (by rw [y3]; exact c.2) (fun q hq => by rw [y5 q hq]; decide) (fun q hq => ?_) ⟨?_, fun q d hq hd => ?_⟩ ?_ ?_ ?_⟩
    · have : sm (fun d => mI k (x + 385 + 16) (8 * q + d)) 8 = sm (fun _ => 0) 8 := sm_congr (fun d hd => y5 _ (by omega))
      rw [this, y3]
      simp [sm]
      omega
    · rw [y2.eq (by omega), y3, d2, mI_sI ⟨by omega, by omega⟩, if_neg (by omega), mI_sI ⟨by omega, by omega⟩, if_neg (by omega)]
      exact b3
    · rw [y2.eq (by omega), y5 _ (by omega), d2, mI_sI ⟨by omega, by omega⟩, if_neg (by omega), mI_sI ⟨by omega, by omega⟩, if_neg (by omega)]
      exact b4 q d hq hd
    · rw [y2.eq (by omega), d2, mI_sI ⟨by omega, by omega⟩, if_neg (by omega), mI_sI ⟨by omega, by omega⟩, if_pos ⟨rfl, rfl⟩]
    · rw [y2.eq (by omega), d2, mI_sI ⟨by omega, by omega⟩, if_pos ⟨rfl, rfl⟩]
    · rw [y2.eq (by omega), y4, f2.eq (by omega), m60]
theorem co_r {m : Nat} {a b : Int} : rI (coS m h nc a b) := by
  unfold coS
  repeat' split
  all_goals exact ⟨by omega, by omega⟩
theorem p_corner {X Y : Int} (hx : rI X) (hy : rI Y) (I : IN x h) : PR x 95 131 [.int (iI X), .int (iI Y)] h := by
  obtain ⟨n, nc, l, I, e⟩ := I
  refine jRet_of (by decide) (by decide) (Nat.le_of_ble_eq_true rfl) (j_R_corner_0 ⟨I.r.1, jRet_mono (c_cornerStatus I.r I.td I.cx hx hy) ?_⟩)
  intro q1 g1 w1
  obtain ⟨e1, e2⟩ := w1
  rw [e2]
  have hs := co_r (m := x + 385) (h := h) (nc := nc) (a := X) (b := Y)
  have n8 := I.n8
  have n24 : nc ≤ 24 := I.td.2.2.1.1
  have hc : mI h (x + 1) 2 = (nc : Int) := I.cx.1.1.trans I.td.2.2.2.2.2.2.2.2.1
  obtain ⟨h6, eh, j6, sq6, f0, m60⟩ := in_6e I hs rfl
  have cst : ∀ r g, coQ (x + 385) h6 nc X Y r g → coS (x + 385) h nc X Y ≠ 0 → rfQ (x + 385) h6 (coS (x + 385) h nc X Y) r g := by
    intro r g q z
    unfold coS at *
    by_cases a : -1000 ≤ X ∧ X ≤ 1000 ∧ -1000 ≤ Y ∧ Y ≤ 1000
    · rw [if_neg (fun y => y a)] at *
      by_cases b : nc = 24
      · rw [if_pos b]
        exact (q.1 a).1 b
      · rw [if_neg b] at *
        by_cases c : ∃ k, k < nc ∧ mI h (x + 385 + 5) k = X ∧ mI h (x + 385 + 6) k = Y
        · rw [if_pos c]
          refine ((q.1 a).2 (by omega)).1 ?_
          rw [sq6.1 5 (by decide) (by decide), sq6.1 6 (by decide) (by decide)]
          exact c
        · rw [if_neg c] at z
          exact absurd rfl z
    · rw [if_pos a]
      exact q.2 a
  have m19 : mI h6 (x + 385) 19 = (nc : Int) := j6.td.2.2.2.2.2.2.2.2.1
  refine ⟨_, e1, I.r.1, by rw [← eh]; exact j6.r.1, ?_⟩
  rw [g6, ← eh, iI_0, iI_eq hs ⟨by omega, by omega⟩]
  refine ⟨fun z => j_R_corner_29 (j_R_corner_30 ⟨_, rfl, j6.r, jRet_mono (c_corner j6.r.m m19 n24 hx hy) ?_⟩), fun z => ?_⟩
  · intro r g w
    have u := cst r g w z
    exact ⟨u.1, fin_0 hs j6 (lo_fg f0 (fun q j z => by omega)) m60 u.2⟩
  · have a : -1000 ≤ X ∧ X ≤ 1000 ∧ -1000 ≤ Y ∧ Y ≤ 1000 := Classical.byContradiction (fun y => by
      unfold coS at z
      rw [if_pos y] at z
      omega)
    have b : nc ≠ 24 := fun y => by
      unfold coS at z
      rw [if_neg (fun y => y a), if_pos y] at z
      omega
    have c : ¬ ∃ k, k < nc ∧ mI h (x + 385 + 5) k = X ∧ mI h (x + 385 + 6) k = Y := fun y => by
      unfold coS at z
      rw [if_neg (fun y => y a), if_neg b, if_pos y] at z
      omega
    rw [z] at m60
    have hc6 : mI h6 (x + 1) 2 = (nc : Int) := by
      rw [f0.eq (by omega)]
      exact hc
    rw [j6.r.f0]
    refine ⟨j6.r.1, j6.r.w.1, jRet_mono (c_WaddCorner j6.r.w hx hy hc6 (by omega)) ?_⟩
    intro q2 g2 w2
    obtain ⟨v1, v2⟩ := w2
    have f2 : fg (fun q j => (q = x + 1 + 1 ∨ q = x + 1 + 2) ∧ j = nc ∨ q = x + 1 ∧ j = 2) h6 g2 := by
      rw [v2]
      exact ((fg.rf.wr (Or.inl ⟨Or.inl rfl, rfl⟩)).wr (Or.inl ⟨Or.inr rfl, rfl⟩)).wr (Or.inr ⟨rfl, rfl⟩)
    have f02 : ∀ {p k : Nat}, x + 385 ≤ p → mI g2 p k = mI h p k := fun hq => by rw [f2.eq (by omega), f0.eq (by omega)]
    have R2 : LY x g2 := j6.r.wb (fg_wg f2).1
    refine ⟨_, v1, j_R_corner_30 ⟨_, rfl, R2, jRet_mono (c_corner R2.m (by rw [f02 (by omega)]; exact I.td.2.2.2.2.2.2.2.2.1) n24 hx hy) ?_⟩⟩
    intro r k y
    obtain ⟨y1, y2⟩ := ((y.1 a).2 (by omega)).2 (fun ⟨q, q1, q2, q3⟩ => c ⟨q, q1, by rw [← f02 (by omega)]; exact q2, by rw [← f02 (by omega)]; exact q3⟩)
    have rn : rI ((nc : Int) + 1) := ⟨by omega, by omega⟩
    have f3 : fg (fun q j => (q = x ∧ j = 6) ∨ ((q = x + 1 + 1 ∨ q = x + 1 + 2 ∨ q = x + 385 + 5 ∨ q = x + 385 + 6) ∧ j = nc) ∨ q = x + 1 ∧ j = 2 ∨ q = x + 385 ∧ (j = 19 ∨ j = 0)) h k := by
      rw [y2]
      refine ((((f0.mo (fun q j z => Or.inl z)).tr (f2.mo (fun q j z => ?_))).wr ?_ |>.wr ?_) |>.wr ?_) |>.wr ?_
      · omega
      · omega
      · omega
      · omega
      · omega
    have k5 : ∀ q, mI k (x + 385 + 5) q = if q = nc then X else mI h (x + 385 + 5) q := fun q => by
      rw [y2, mI_sI ⟨by omega, by omega⟩, if_neg (by omega), mI_sI rn, if_neg (by omega), mI_sI hy, if_neg (by omega), mI_sI hx]
      by_cases c : q = nc
      · rw [if_pos ⟨rfl, c⟩, if_pos c]
      · rw [if_neg (by omega), if_neg c, f02 (by omega)]
    have k6 : ∀ q, mI k (x + 385 + 6) q = if q = nc then Y else mI h (x + 385 + 6) q := fun q => by
      rw [y2, mI_sI ⟨by omega, by omega⟩, if_neg (by omega), mI_sI rn, if_neg (by omega), mI_sI hy]
      by_cases c : q = nc
      · rw [if_pos ⟨rfl, c⟩, if_pos c]
      · rw [if_neg (by omega), mI_sI hx, if_neg (by omega), if_neg c, f02 (by omega)]
    have kk : ∀ {q d : Nat}, q < x + 385 → mI k q d = mI g2 q d := fun hq => by
      rw [y2, mI_sI ⟨by omega, by omega⟩, if_neg (by omega), mI_sI rn, if_neg (by omega), mI_sI hy, if_neg (by omega), mI_sI hx, if_neg (by omega)]
    have w1 : ∀ q, mI k (x + 1 + 1) q = if q = nc then X else mI h (x + 1 + 1) q := fun q => by
      rw [kk (by omega), v2, mI_sI rn, if_neg (by omega), mI_sI hy, if_neg (by omega), mI_sI hx]
      by_cases c : q = nc
      · rw [if_pos ⟨rfl, c⟩, if_pos c]
      · rw [if_neg (by omega), if_neg c, f0.eq (by omega)]
    have w2 : ∀ q, mI k (x + 1 + 2) q = if q = nc then Y else mI h (x + 1 + 2) q := fun q => by
      rw [kk (by omega), v2, mI_sI rn, if_neg (by omega), mI_sI hy]
      by_cases c : q = nc
      · rw [if_pos ⟨rfl, c⟩, if_pos c]
      · rw [if_neg (by omega), mI_sI hx, if_neg (by omega), if_neg c, f0.eq (by omega)]
    have k19 : mI k (x + 385) 19 = ((nc + 1 : Nat) : Int) := by
      rw [y2, mI_sI ⟨by omega, by omega⟩, if_neg (by omega), mI_sI rn, if_pos ⟨rfl, rfl⟩]
      omega
    have kw2 : mI k (x + 1) 2 = ((nc + 1 : Nat) : Int) := by
      rw [kk (by omega), v2, mI_sI rn, if_pos ⟨rfl, rfl⟩]
      omega
    have m7 : ∀ q, 7 ≤ q → q ≤ 16 → mI k (x + 385 + q) = mI h (x + 385 + q) := fun q h1 h2 => funext (fun j => f3.eq (by omega))
    have e20 : mI k (x + 385) 20 = mI h (x + 385) 20 := f3.eq (by omega)
    have e21 : mI k (x + 385) 21 = mI h (x + 385) 21 := f3.eq (by omega)
    have ft : fg (tlF x) h k := f3.mo (fun q j z => by unfold tlF; omega)
    have sk' : stk (x + 385) h k := ⟨fun q h1 h2 => m7 q (by omega) (by omega), e20, e21⟩
    have ta : TD x n (nc + 1) k := by
      obtain ⟨a1, b1, ⟨c1, c2, c3⟩, sw, so, sn, sp, kd, o, r, rs⟩ := I.td
      refine ⟨fun q hq => ?_, ?_, ⟨by omega, fun q d hq hd => ?_, ?_⟩, ?_, ?_, ?_, ?_, ?_, k19, by rw [sk'.lc]; exact r, ?_⟩
      · rw [k5, k6]
        by_cases cq : q = nc
        · rw [if_pos cq, if_pos cq]
          omega
        · rw [if_neg cq, if_neg cq]
          exact a1 q hq
      · unfold MP at *
        rw [m7 7 (by decide) (by decide), m7 8 (by decide) (by decide)]
        exact b1
      · rw [k5, k5, k6, k6]
        intro E1 E2
        by_cases cq : q = nc
        · by_cases cd : d = nc
          · omega
          · exfalso
            rw [if_pos cq, if_neg cd] at E1 E2
            exact c ⟨d, by omega, E1.symm, E2.symm⟩
        · by_cases cd : d = nc
          · exfalso
            rw [if_neg cq, if_pos cd] at E1 E2
            exact c ⟨q, by omega, E1, E2⟩
          · rw [if_neg cq, if_neg cd] at E1 E2
            exact c2 q d (by omega) (by omega) E1 E2
      · intro q hq
        have := c3 q hq
        unfold mF1 mF2 at *
        rw [m7 7 (by decide) (by decide), m7 8 (by decide) (by decide)]
        exact ⟨by omega, by omega, this.2.2⟩
      · unfold SW at *
        rw [m7 11 (by decide) (by decide), m7 10 (by decide) (by decide), m7 16 (by decide) (by decide), e20, e21]
        exact sw
      · unfold SO at *
        rw [m7 12 (by decide) (by decide)]
        exact so
      · unfold SN at *
        rw [m7 13 (by decide) (by decide)]
        exact sn
      · unfold SP at *
        rw [m7 14 (by decide) (by decide), m7 15 (by decide) (by decide)]
        exact sp
      · unfold KD at *
        rw [m7 9 (by decide) (by decide), m7 12 (by decide) (by decide)]
        exact kd
      · unfold RWS at *
        rw [m7 16 (by decide) (by decide), e21]
        exact rs
    have cx : CX x n k := by
      obtain ⟨⟨c1, c2, c3, c4⟩, ⟨t1, t2⟩, c5⟩ := I.cx
      refine ⟨⟨by rw [kw2, k19], by rw [f3.eq (by omega), e20]; exact c2, fun q hq => ?_, fun q hq => ?_⟩, ⟨by rw [f3.eq (by omega), e21]; exact t1, fun q d hq hd => ?_⟩, ?_⟩
      · rw [w1, w2, k5, k6]
        by_cases cq : q = nc
        · rw [if_pos cq, if_pos cq]
          rw [if_pos cq, if_pos cq]
          exact ⟨rfl, rfl⟩
        · rw [if_neg cq, if_neg cq, if_neg cq, if_neg cq]
          exact c3 q hq
      · have w : ∀ j, mI k (x + 1 + 5 + q) j = mI h (x + 1 + 5 + q) j := fun j => f3.eq (by omega)
        rw [w, w, w, w, w, w, w, w, w, m7 9 (by decide) (by decide), m7 7 (by decide) (by decide), m7 8 (by decide) (by decide), m7 10 (by decide) (by decide), m7 11 (by decide) (by decide), m7 12 (by decide) (by decide), m7 13 (by decide) (by decide), m7 14 (by decide) (by decide), m7 15 (by decide) (by decide)]
        exact c4 q hq
      · rw [f3.eq (by omega), m7 16 (by decide) (by decide)]
        exact t2 q d hq hd
      · rw [f3.eq (by omega), sk'.lc]
        exact c5
    exact ⟨y1, mk_in I ft ta cx (glw_u I ft sk'.e (f3.eq (by omega))) (chw_fr I.2.2.2.2.2.1 sk' (fg_wg f3) (fun q j h1 h2 z => by omega)) (fun y => y) (by
      have b2 : mI k (x + 385) 0 = 0 := by
        rw [y2, mI_sI ⟨by omega, by omega⟩, if_pos ⟨rfl, rfl⟩]
      rw [kk (by omega), b2, f2.eq (by omega), m60])⟩
theorem lc9' {m : Nat} : ∀ i, (∀ q, q < i → mI k (m + 9) q = mI h (m + 9) q) → lmC m k i = lmC m h i
  | 0, _ => rfl
  | i + 1, e => by rw [lmC_s, lmC_s, lc9' i (fun q hq => e q (by omega)), e i (by omega)]
theorem la9' {m : Nat} : ∀ i l, (∀ q, q < i → mI k (m + 9) q = mI h (m + 9) q) → lmA m k i l = lmA m h i l
  | 0, _, _ => rfl
  | i + 1, l, e => by rw [lmA_s, lmA_s, la9' i l (fun q hq => e q (by omega)), lc9' i (fun q hq => e q (by omega)), e i (by omega)]
theorem pt_r {m : Nat} {a b c : Int} : rI (ptS m h n nc a b c) := by
  unfold ptS
  repeat' split
  all_goals exact ⟨by omega, by omega⟩
theorem ptS_st {m : Nat} {f t d : Int} (e : stq m h k) : ptS m k n nc f t d = ptS m h n nc f t d := by
  unfold ptS
  rw [e.lc, e.1 5 (by decide) (by decide), e.1 6 (by decide) (by decide), e.mw.f.2.2.1, e.mw.f.2.2.2]
theorem pt_0 {m : Nat} {f t d : Int} (z : ptS m h n nc f t d = 0) : ((0 ≤ f ∧ f < (nc : Int)) ∧ (0 ≤ t ∧ t < (nc : Int)) ∧ f ≠ t) ∧ (0 ≤ d ∧ d ≤ 2) ∧ n ≠ 8 ∧ ¬ (d = 1 ∧ lmC m h n = 3) := by
  unfold ptS at z
  split at z
  · omega
  · split at z
    · omega
    · split at z
      · omega
      · split at z
        · omega
        · rename_i a b c e
          exact ⟨Classical.byContradiction a, Classical.byContradiction b, c, e⟩
theorem p_patch {f t d : Int} (hf : rI f) (ht : rI t) (hd : rI d) (I : IN x h) : PR x 98 133 [.int (iI f), .int (iI t), .int (iI d)] h := by
  obtain ⟨n, nc, l, I, e⟩ := I
  refine jRet_of (by decide) (by decide) (Nat.le_of_ble_eq_true rfl) (j_R_patch_0 ⟨I.r.1, jRet_mono (c_newPatchStatus I.r I.td I.cx hf ht hd) ?_⟩)
  intro q1 g1 w1
  obtain ⟨e1, e2⟩ := w1
  rw [e2]
  have hs := pt_r (m := x + 385) (h := h) (n := n) (nc := nc) (a := f) (b := t) (c := d)
  have n8 := I.n8
  have n24 : nc ≤ 24 := I.td.2.2.1.1
  obtain ⟨h6, eh, j6, sq6, f0, m60⟩ := in_6e I hs rfl
  refine ⟨_, e1, I.r.1, by rw [← eh]; exact j6.r.1, ?_⟩
  rw [g6, ← eh, iI_0, iI_eq hs ⟨by omega, by omega⟩]
  refine ⟨fun z => j_R_patch_20 ⟨j6.r.1, jRet_mono (c_sharesChanged j6.r) ?_⟩, fun z => ⟨_, rfl, j6.r, jRet_mono (c_Mpatch j6.r.m j6.td.1 j6.td.2.1 n8 j6.sw.1 j6.td.2.2.2.2.2.2.2.2.1 n24 hf ht hd) ?_⟩⟩
  · obtain ⟨c1, c2, c3, c4⟩ := pt_0 z
    rw [z] at m60
    intro q2 g2 w2
    obtain ⟨v1, v2⟩ := w2
    have f2 : fg (fun q j => (q = x + 207 ∧ j = 13) ∨ (q = x + 24 ∧ j = 5)) h6 g2 := by
      rw [v2]
      exact (fg.rf.wr (Or.inr ⟨rfl, rfl⟩)).wr (Or.inl ⟨rfl, rfl⟩)
    have R2 : LY x g2 := j6.r.wb (fg_wg f2).1
    have w4 : mI g2 (x + 1) 4 = (n : Int) := by
      rw [f2.eq (by omega), f0.eq (by omega)]
      exact hn_x I.td I.cx
    have w5 : mI g2 (x + 1) 5 = lmC (x + 385) h n := by
      rw [f2.eq (by omega), f0.eq (by omega)]
      exact I.cx.2.2
    have lb := lmC_bd (m := x + 385) (h := h) n
    have l3 := I.l3
    rw [R2.f0]
    refine ⟨v1, R2.1, R2.w.1, jRet_mono (c_WaddPatch (n := n) R2.w w4 (by omega) (by rw [w5]; omega) hf ht hd) ?_⟩
    intro q3 g3 w3
    obtain ⟨u1, u2, u4, u5, p0, p1, p2, p3, p4, p5, p6, p7, p8⟩ := w3
    have F : fg (fun q j => (q = x ∧ j = 6) ∨ (q = x + 207 ∧ j = 13) ∨ (q = x + 24 ∧ j = 5) ∨ q = x + 1 + 5 + n ∨ q = x + 1 ∧ (j = 4 ∨ j = 5)) h g3 := ((f0.mo (fun q j z => Or.inl z)).tr (f2.mo (fun q j z => by omega))).tr (u2.mo (fun q j z => by omega))
    have fm : ∀ {q j : Nat}, x + 385 ≤ q → mI g3 q j = mI h q j := fun hq => F.eq (by omega)
    have sg : stq (x + 385) h g3 := ⟨fun q h1 h2 => funext (fun j => fm (by omega)), fm (by omega), fm (by omega), fm (by omega)⟩
    have R3 : LY x g3 := R2.wb (fg_wg u2).1
    have T3 := I.td.st sg
    refine ⟨_, u1, _, rfl, R3, jRet_mono (c_Mpatch R3.m T3.1 T3.2.1 n8 T3.2.2.2.1.1 T3.2.2.2.2.2.2.2.2.1 n24 hf ht hd) ?_⟩
    intro r k y
    obtain ⟨y1, y2, n7, n8', n9, n10, n11, n12, n13, n14, n15, n20, n0⟩ := y.1 ((ptS_st sg).trans z)
    have kk : ∀ {q j : Nat}, q < x + 385 → mI k q j = mI g3 q j := fun hq => y2.eq (fun z => by unfold ptF at z; omega)
    have ot : ∀ q j, 5 ≤ q → q ≤ 16 → (j ≠ n ∨ q < 7 ∨ q = 16) → mI k (x + 385 + q) j = mI h (x + 385 + q) j := fun q j h1 h2 h3 => by
      rw [y2.eq (fun z => by unfold ptF at z; omega), fm (by omega)]
    have m56 : ∀ q, q = 5 ∨ q = 6 ∨ q = 16 → mI k (x + 385 + q) = mI h (x + 385 + q) := fun q hq => funext (fun j => ot q j (by omega) (by omega) (by omega))
    have e19 : mI k (x + 385) 19 = mI h (x + 385) 19 := by
      rw [y2.eq (fun z => by unfold ptF at z; omega), fm (by omega)]
    have e21 : mI k (x + 385) 21 = mI h (x + 385) 21 := by
      rw [y2.eq (fun z => by unfold ptF at z; omega), fm (by omega)]
    have k9 : ∀ q, q < n → mI k (x + 385 + 9) q = mI h (x + 385 + 9) q := fun q hq => ot 9 q (by decide) (by decide) (Or.inl (by omega))
    have lc : lmC (x + 385) k (n + 1) = lmC (x + 385) h n + (if d = 1 then 1 else 0) := by
      rw [lmC_s, n9, lc9' n k9]
    have f3 : fg (tlF x) h k := by
      refine (F.mo (fun q j z => ?_)).tr (y2.mo (fun q j z => ?_))
      · unfold tlF
        omega
      · unfold ptF at z
        unfold tlF
        omega
    have ta : TD x (n + 1) nc k := by
      obtain ⟨a1, b1, ⟨d1, d2, d3⟩, sw, so, sn, sp, kd, o, r', rs⟩ := I.td
      have rs' : RWS (x + 385) k := by
        unfold RWS at *
        rw [m56 16 (by omega), e21]
        exact rs
      refine ⟨?_, fun q hq => ?_, ⟨d1, ?_, fun q hq => ?_⟩, ⟨by rw [n20]; omega, by omega, by rw [e21]; exact sw.2.2.1, by rw [e21]; exact sw.2.2.2.1, fun q hq => ?_, by rw [m56 16 (by omega)]; exact sw.2.2.2.2.2.1, fun q hq => rs' q (by omega)⟩, fun q hq => ?_, fun q hq => ?_, fun q hq => ?_, fun q hq => ?_, by rw [e19]; exact o, ?_, rs'⟩
      · unfold MB at *
        rw [m56 5 (by omega), m56 6 (by omega)]
        exact a1
      · by_cases c : q = n
        · rw [c, n7, n8']
          exact ⟨f.toNat, t.toNat, by omega, by omega, by omega, by omega⟩
        · rw [ot 7 q (by decide) (by decide) (Or.inl c), ot 8 q (by decide) (by decide) (Or.inl c)]
          exact b1 q (by omega)
      · rw [m56 5 (by omega), m56 6 (by omega)]
        exact d2
      · unfold mF1 mF2
        by_cases c : q = n
        · rw [c, n7, n8']
          exact ⟨by omega, by omega, by omega⟩
        · rw [ot 7 q (by decide) (by decide) (Or.inl c), ot 8 q (by decide) (by decide) (Or.inl c)]
          exact d3 q (by omega)
      · by_cases c : q = n
        · rw [c, n10, n11]
          decide
        · rw [ot 10 q (by decide) (by decide) (Or.inl c), ot 11 q (by decide) (by decide) (Or.inl c)]
          exact sw.2.2.2.2.1 q (by omega)
      · by_cases c : q = n
        · rw [c, n12]
          decide
        · rw [ot 12 q (by decide) (by decide) (Or.inl c)]
          exact so q (by omega)
      · by_cases c : q = n
        · rw [c, n13]
          decide
        · rw [ot 13 q (by decide) (by decide) (Or.inl c)]
          exact sn q (by omega)
      · by_cases c : q = n
        · rw [c, n14, n15]
          decide
        · rw [ot 14 q (by decide) (by decide) (Or.inl c), ot 15 q (by decide) (by decide) (Or.inl c)]
          exact sp q (by omega)
      · by_cases c : q = n
        · rw [c, n9, n12]
          exact ⟨by omega, fun _ => rfl⟩
        · rw [ot 9 q (by decide) (by decide) (Or.inl c), ot 12 q (by decide) (by decide) (Or.inl c)]
          exact kd q (by omega)
      · rw [lc]
        split <;> omega
    have cx : CX x (n + 1) k := by
      obtain ⟨⟨c1, c2, c3, c4⟩, ⟨t1, t2⟩, c5⟩ := I.cx
      refine ⟨⟨by rw [kk (by omega), F.eq (by omega), e19]; exact c1, by rw [kk (by omega), u4, n20], fun q hq => ?_, fun q hq => ?_⟩, ⟨by rw [kk (by omega), F.eq (by omega), e21]; exact t1, fun q j hq hj => ?_⟩, ?_⟩
      · rw [kk (by omega), F.eq (by omega), kk (q := x + 1 + 2) (by omega), F.eq (by omega), m56 5 (by omega), m56 6 (by omega)]
        exact c3 q hq
      · by_cases c : q = n
        · have kw : ∀ j, mI k (x + 1 + 5 + n) j = mI g3 (x + 1 + 5 + n) j := fun j => kk (by omega)
          rw [c, n9, n7, n8', n10, n11, n12, n13, n14, n15, kw, kw, kw, kw, kw, kw, kw, kw, kw, p0, p1, p2, p3, p4, p5, p6, p7, p8]
          exact ⟨rfl, rfl, rfl, rfl, rfl, rfl, rfl, rfl, rfl⟩
        · have w : ∀ j, mI k (x + 1 + 5 + q) j = mI h (x + 1 + 5 + q) j := fun j => by rw [kk (by omega), F.eq (by omega)]
          have u : ∀ j, 7 ≤ j → j ≤ 15 → mI k (x + 385 + j) q = mI h (x + 385 + j) q := fun j h1 h2 => ot j q (by omega) (by omega) (Or.inl c)
          rw [w, w, w, w, w, w, w, w, w, u 9 (by decide) (by decide), u 7 (by decide) (by decide), u 8 (by decide) (by decide), u 10 (by decide) (by decide), u 11 (by decide) (by decide), u 12 (by decide) (by decide), u 13 (by decide) (by decide), u 14 (by decide) (by decide), u 15 (by decide) (by decide)]
          exact c4 q hq
      · rw [kk (by omega), F.eq (by omega), m56 16 (by omega)]
        exact t2 q j hq hj
      · rw [kk (by omega), u5, w5, lc]
    have gl : GlW x (n + 1) k := glw_t I f3 (by rw [kk (by omega), u2.eq (by omega), v2, mI_sI ⟨by omega, by omega⟩, if_neg (by omega), mI_sI ⟨by omega, by omega⟩, if_pos ⟨rfl, rfl⟩])
    have ch : ChW x (n + 1) k := by
      refine chw_t I f3 (by rw [kk (by omega), u2.eq (by omega), v2, mI_sI ⟨by omega, by omega⟩, if_pos ⟨rfl, rfl⟩]) (fun a _ y => ?_) (by omega)
      rw [lmA_s, n9, lc9' n k9, la9' n a k9] at y
      split at y
      · omega
      · exact y
    exact ⟨y1, mk_in I f3 ta cx gl ch (fun y => by omega) (by rw [kk (by omega), u2.eq (by omega), f2.eq (by omega), m60, n0])⟩
  · intro r g w
    have es : ptS (x + 385) h6 n nc f t d = ptS (x + 385) h n nc f t d := ptS_st sq6
    have u := w.2 (by rw [es]; exact z)
    rw [es] at u
    exact ⟨u.1, fin_0 hs j6 (lo_fg f0 (fun q j z => by omega)) m60 u.2⟩
end TELL3
