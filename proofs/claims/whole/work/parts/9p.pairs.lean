/-! one call of class and model: those that ask -/
section PAIR
variable {x n nc : Nat} {h h1 h2 : jHp} {S : Nat → Nat → Prop} {l l1 l2 : List Int}
theorem g6 {v : Int32} : gI (sI h x 6 v) x 6 = v := by rw [gI_sI, if_pos ⟨rfl, rfl⟩]
/-- a step of the class's that touches status and ring alone -/
theorem inv_s (I : INV x n nc l1 l2 h) (f : fg S h h1) (s : ∀ p k, S p k → p = x ∨ p = x + 5) : INV x n nc l1 l2 h1 ∧ stq (x + 385) h h1 := by
  have a : aw2 S x := fun p k hp z => by
    have := s p k z
    omega
  have g : wg (x + 162) S h h1 := fg_wg f
  have e := aw2_st g a
  have no : ∀ p k, x + 24 ≤ p → ¬ S p k := fun p k hp z => by
    have := s p k z
    omega
  have n8 : n ≤ 8 := n8_x I.2.1
  exact inv_c I g a (glw_fr n8 I.2.2.2.1 e.k.e g (fun p k h1 _ => no p k (by omega))) (bnw_fr I.2.2.2.2.1 f (fun p k h1 _ => no p k (by omega))) (chw_fr I.2.2.2.2.2.1 e.k g (fun p k h1 _ => no p k (by omega))) (ox_fr I.2.2.2.2.2.2.1 g (fun p k h1 _ => no p k (by omega)))
theorem f6 {v : Int32} : fg (fun p k => p = x ∧ k = 6) h (sI h x 6 v) := fg.rf.wr ⟨rfl, rfl⟩
theorem in_6 {v : Int32} (I : INV x n nc l1 l2 h) : INV x n nc l1 l2 (sI h x 6 v) ∧ stq (x + 385) h (sI h x 6 v) := inv_s I f6 (fun p k z => Or.inl z.1)
theorem lo_6 {v : Int32} : lo x h (sI h x 6 v) := lo_wg (b := 0) (fg_wg f6) (fun p k hp z => by omega)
theorem lo_fg (f : fg S h h1) (s : ∀ p k, S p k → x ≤ p) : lo x h h1 := lo_wg (b := 0) (fg_wg f) (fun p k hp z => by
  have := s p k z
  omega)
theorem m6 {v : Int} (hv : rI v) : mI (sI h x 6 (iI v)) x 6 = v := by rw [mI_sI hv, if_pos ⟨rfl, rfl⟩]
/-- the end of a call that the model has answered -/
theorem fin_pair (I : INV x n nc l1 l h1) (f0 : lo x h h1) (fm : fg (cuS (x + 385)) h1 h2) (O : OU (x + 385) h2 l1) (K : KX x n h2) (st : mI h1 x 6 = mI h2 (x + 385) 0) : IN x h2 ∧ lo x h h2 := by
  have no : ∀ p k, p < x + 385 → ¬ cuS (x + 385) p k := fun p k h1 z => by
    have := cu_lo z
    omega
  refine ⟨⟨n, nc, l1, inv_m I fm O K, ?_⟩, f0.tr (lo_fg fm (fun p k z => by have := cu_lo z; omega))⟩
  rw [fm.eq (no _ _ (by omega))]
  exact st
theorem fin_2 (I : INV x n nc l l h1) (f0 : lo x h h1) (fm : fg (sgF (x + 385)) h1 h2) (st : mI h1 x 6 = mI h2 (x + 385) 0) : IN x h2 ∧ lo x h h2 := by
  have f' : wg (x + 162) (sgF (x + 385)) h1 h2 := fg_wg fm
  refine fin_pair I f0 (fm.mo (fun p k z => ?_)) (ou_wg I.2.2.2.2.2.2.2.1 f' ⟨by unfold sgF; omega, fun k => by unfold sgF; omega⟩) (fun z => ?_) st
  · unfold sgF at z
    unfold cuS cnS
    omega
  · obtain ⟨v, k⟩ := I.2.2.2.2.2.2.2.2 z
    exact ⟨v, kn_wg k f' (fun k => by unfold sgF; omega)⟩
theorem fin_0 {s : Int} (hs : rI s) (I : INV x n nc l l h1) (f0 : lo x h h1) (st : mI h1 x 6 = s) (e : h2 = sI h1 (x + 385) 0 (iI s)) : IN x h2 ∧ lo x h h2 := by
  refine fin_2 I f0 (by rw [e]; exact fg.rf.wr (Or.inr ⟨rfl, rfl⟩)) ?_
  rw [e, mI_sI hs, if_pos ⟨rfl, rfl⟩]
  exact st
theorem INV.r (I : INV x n nc l1 l2 h) : LY x h := I.1
theorem INV.td (I : INV x n nc l1 l2 h) : TD x n nc h := I.2.1
theorem INV.cx (I : INV x n nc l1 l2 h) : CX x n h := I.2.2.1
theorem INV.n8 (I : INV x n nc l1 l2 h) : n ≤ 8 := n8_x I.2.1
theorem INV.sw (I : INV x n nc l1 l2 h) : SW (x + 385) h n := I.2.1.2.2.2.1
theorem INV.so (I : INV x n nc l1 l2 h) : SO (x + 385) h n := I.2.1.2.2.2.2.1
theorem INV.sn (I : INV x n nc l1 l2 h) : SN (x + 385) h n := I.2.1.2.2.2.2.2.1
theorem INV.sp (I : INV x n nc l1 l2 h) : SP (x + 385) h n := I.2.1.2.2.2.2.2.2.1
theorem INV.kd (I : INV x n nc l1 l2 h) : KD (x + 385) h n := I.2.1.2.2.2.2.2.2.2.1
theorem INV.l3 (I : INV x n nc l1 l2 h) : lmC (x + 385) h n ≤ 3 := I.2.1.2.2.2.2.2.2.2.2.2.1
theorem p_status (I : IN x h) : PR x 93 130 [] h := by
  obtain ⟨n, nc, l, i, e⟩ := I
  refine jRet_of (by decide) (by decide) (Nat.le_of_ble_eq_true rfl) (j_R_status_0 ⟨i.r.1, _, rfl, i.r, jRet_mono (c_status i.r.m) ?_⟩)
  intro r g w
  rw [w.1, w.2, gI_mI, gI_mI, e]
  exact ⟨rfl, ⟨n, nc, l, i, e⟩, ⟨rfl, fun _ _ _ => rfl⟩⟩
theorem p_out {k : Int} (hk : rI k) (I : IN x h) : PR x 94 156 [.int (iI k)] h := by
  obtain ⟨n, nc, l, i, e⟩ := I
  refine jRet_of (by decide) (by decide) (Nat.le_of_ble_eq_true rfl) (j_R_out_0 ?_)
  rw [i.r.f5]
  refine ⟨i.r.1, i.r.o.1, jRet_mono (c_Obyte i.r.o i.2.2.2.2.2.2.1.2 hk) ?_⟩
  intro r g w
  obtain ⟨w1, w2⟩ := w
  rw [w2]
  refine ⟨_, w1, _, rfl, i.r, jRet_mono (c_out i.r.m i.2.2.2.2.2.2.2.1 hk) ?_⟩
  intro r g w
  rw [w.1, w.2]
  exact ⟨rfl, ⟨n, nc, l, i, e⟩, ⟨rfl, fun _ _ _ => rfl⟩⟩
theorem nmS_r {p k mx : Int} : rI (nmS n p k mx) := by
  unfold nmS
  split
  · exact ⟨by omega, by omega⟩
  · split <;> exact ⟨by omega, by omega⟩
theorem nm_0 {p k mx : Int} (z : nmS n p k mx = 0) : (0 ≤ p ∧ p < (n : Int)) ∧ 0 ≤ k ∧ k ≤ mx := by
  unfold nmS at z
  split at z
  · omega
  · split at z <;> omega
theorem nm_n {p k mx : Int} (z : nmS n p k mx ≠ 0) : (¬ (0 ≤ p ∧ p < (n : Int)) ∧ nmS n p k mx = 1) ∨ ((0 ≤ p ∧ p < (n : Int)) ∧ ¬ (0 ≤ k ∧ k ≤ mx) ∧ nmS n p k mx = 2) := by
  by_cases a : 0 ≤ p ∧ p < (n : Int)
  · by_cases b : 0 ≤ k ∧ k ≤ mx
    · exfalso
      unfold nmS at z
      rw [if_neg (fun y => y a), if_neg (fun y => y b)] at z
      exact z rfl
    · refine Or.inr ⟨a, b, ?_⟩
      unfold nmS
      rw [if_neg (fun y => y a), if_pos b]
  · refine Or.inl ⟨a, ?_⟩
    unfold nmS
    rw [if_pos a]
theorem fca_eq {m w p : Nat} {k : Nat} (k8 : k ≤ 8) (cw : mI h w 0 = mI h (m + 9) p ∧ mI h w 1 = mI h (m + 7) p ∧ mI h w 2 = mI h (m + 8) p ∧ mI h w 3 = mI h (m + 10) p ∧ mI h w 4 = mI h (m + 11) p ∧ mI h w 5 = mI h (m + 12) p ∧ mI h w 6 = mI h (m + 13) p ∧ mI h w 7 = mI h (m + 14) p ∧ mI h w 8 = mI h (m + 15) p) : mI h (m + fcA k) p = mI h w k := by
  obtain ⟨c0, c1, c2, c3, c4, c5, c6, c7, c8⟩ := cw
  match k, k8 with
  | 0, _ => exact c0.symm
  | 1, _ => exact c1.symm
  | 2, _ => exact c2.symm
  | 3, _ => exact c3.symm
  | 4, _ => exact c4.symm
  | 5, _ => exact c5.symm
  | 6, _ => exact c6.symm
  | 7, _ => exact c7.symm
  | 8, _ => exact c8.symm
theorem p_told {p k : Int} (hp : rI p) (hk : rI k) (I : IN x h) : PR x 107 143 [.int (iI p), .int (iI k)] h := by
  obtain ⟨n, nc, l, i, e⟩ := I
  refine jRet_of (by decide) (by decide) (Nat.le_of_ble_eq_true rfl) (j_R_told_0 ⟨i.r.1, jRet_mono (c_numberStatus i.r i.td i.cx hp hk ⟨by omega, by omega⟩) ?_⟩)
  intro q1 g1 w1
  obtain ⟨e1, e2⟩ := w1
  rw [e2]
  have hs := nmS_r (n := n) (p := p) (k := k) (mx := 8)
  obtain ⟨j, sq⟩ := in_6 (v := iI (nmS n p k 8)) i
  have n8 := j.n8
  refine ⟨_, e1, i.r.1, j.r.1, ?_⟩
  rw [g6, iI_0, iI_eq hs ⟨by omega, by omega⟩]
  refine ⟨fun z => j_R_told_35 (j_R_told_36 ⟨_, rfl, j.r, jRet_mono (c_told j.r.m j.sw.1 j.n8 hp hk) ?_⟩), fun z => ?_⟩
  · intro r g w
    have : rfQ (x + 385) (sI h x 6 (iI (nmS n p k 8))) (nmS n p k 8) r g := by
      rcases nm_n z with ⟨y1, y2⟩ | ⟨y1, y2, y3⟩
      · rw [y2]
        exact y2 ▸ w.2 y1
      · rw [y3]
        exact y3 ▸ (w.1 y1).2 y2
    exact ⟨this.1, fin_0 hs j lo_6 (m6 hs) this.2⟩
  · have c := nm_0 z
    obtain ⟨pn, rfl⟩ : ∃ pn : Nat, p = (pn : Int) := ⟨p.toNat, by omega⟩
    obtain ⟨kn, rfl⟩ : ∃ kn : Nat, k = (kn : Int) := ⟨k.toNat, by omega⟩
    obtain ⟨p1, p2, p3⟩ := j.r.p (p := pn) (by omega)
    rw [j.r.f0, p2]
    refine ⟨j.r.1, j.r.w.1, p1, p3, jRet_mono (c_Pfact p3 (k := kn) (by omega)) ?_⟩
    intro r g w
    obtain ⟨w1, w2⟩ := w
    rw [w2]
    refine ⟨_, w1, j_R_told_36 ⟨_, rfl, j.r, jRet_mono (c_told j.r.m j.sw.1 j.n8 hp hk) ?_⟩⟩
    intro r' g' w'
    obtain ⟨u1, u2⟩ := (w'.1 c.1).1 c.2
    refine ⟨?_, fin_0 (s := 0) ⟨by omega, by omega⟩ j lo_6 (by rw [m6 hs, z]) u2⟩
    rw [u1, Int.toNat_natCast, Int.toNat_natCast]
    have cw := j.cx.1.2.2.2 pn (by omega)
    have k8 : kn ≤ 8 := by omega
    rw [fca_eq k8 cw]
theorem pa_r {p q : Int} : rI (paS n p q) := by
  unfold paS
  split <;> exact ⟨by omega, by omega⟩
theorem pa_0 {p q : Int} (z : paS n p q = 0) : (0 ≤ p ∧ p < (n : Int)) ∧ (0 ≤ q ∧ q < (n : Int)) ∧ p ≠ q := by
  unfold paS at z
  split at z
  · omega
  · omega
theorem pa_n {p q : Int} (z : paS n p q ≠ 0) : paS n p q = 1 := by
  unfold paS at *
  split at z
  · rename_i y
    rw [if_pos y]
  · exact absurd rfl z
theorem p_sight {p q : Int} (hp : rI p) (hq : rI q) (I : IN x h) : PR x 108 144 [.int (iI p), .int (iI q)] h := by
  obtain ⟨n, nc, l, i, e⟩ := I
  refine jRet_of (by decide) (by decide) (Nat.le_of_ble_eq_true rfl) (j_R_sight_0 ⟨i.r.1, jRet_mono (c_pairStatus i.r i.td i.cx hp hq) ?_⟩)
  intro q1 g1 w1
  obtain ⟨e1, e2⟩ := w1
  rw [e2]
  have hs := pa_r (n := n) (p := p) (q := q)
  obtain ⟨j, sq⟩ := in_6 (v := iI (paS n p q)) i
  have n8 := j.n8
  refine ⟨_, e1, i.r.1, j.r.1, ?_⟩
  rw [g6, iI_0, iI_eq hs ⟨by omega, by omega⟩]
  refine ⟨fun z => j_R_sight_29 (j_R_sight_30 ⟨_, rfl, j.r, jRet_mono (c_MsightP j.r.m j.td.1 j.td.2.1 n8 j.sw.1 hp hq) ?_⟩), fun z => ?_⟩
  · intro r g w
    have u := w.2 z
    rw [← pa_n z] at u
    exact ⟨u.1, fin_0 hs j lo_6 (m6 hs) u.2⟩
  · have c := pa_0 z
    obtain ⟨a, rfl⟩ : ∃ a : Nat, p = (a : Int) := ⟨p.toNat, by omega⟩
    obtain ⟨b, rfl⟩ : ∃ b : Nat, q = (b : Int) := ⟨q.toNat, by omega⟩
    rw [j.r.f0]
    refine ⟨j.r.1, j.r.w.1, jRet_mono (c_Wsight j.r.w (xb_x j.td j.cx) (pt_x j.td j.cx) n8 (hn_x j.td j.cx) (a := a) (b := b) (by omega) (by omega)) ?_⟩
    intro r g w
    obtain ⟨w1, w2⟩ := w
    rw [sg_same j.cx.1 j.td.2.1 j.td.2.2.1 n8 (by omega) (by omega)] at w1
    obtain ⟨j2, sq2⟩ := inv_s j w2 (fun p k z => Or.inr (by omega))
    refine ⟨_, w1, j_R_sight_30 ⟨_, rfl, j2.r, jRet_mono (c_MsightP j2.r.m j2.td.1 j2.td.2.1 n8 j2.sw.1 hp hq) ?_⟩⟩
    intro r' g' w'
    obtain ⟨u1, u2, u3⟩ := w'.1 z
    refine ⟨?_, fin_2 j2 (lo_6.tr (lo_fg w2 (fun p k z => by omega))) u2 ?_⟩
    · rw [u1, Int.toNat_natCast, Int.toNat_natCast, sq2.mw.sg]
    · rw [w2.eq (by omega), m6 hs, z, u3]
theorem p_crossed {p q : Int} (hp : rI p) (hq : rI q) (I : IN x h) : PR x 113 153 [.int (iI p), .int (iI q)] h := by
  obtain ⟨n, nc, l, i, e⟩ := I
  refine jRet_of (by decide) (by decide) (Nat.le_of_ble_eq_true rfl) (j_R_crossed_0 ⟨i.r.1, jRet_mono (c_pairStatus i.r i.td i.cx hp hq) ?_⟩)
  intro q1 g1 w1
  obtain ⟨e1, e2⟩ := w1
  rw [e2]
  have hs := pa_r (n := n) (p := p) (q := q)
  obtain ⟨j, sq⟩ := in_6 (v := iI (paS n p q)) i
  have n8 := j.n8
  refine ⟨_, e1, i.r.1, j.r.1, ?_⟩
  rw [g6, iI_0, iI_eq hs ⟨by omega, by omega⟩]
  refine ⟨fun z => j_R_crossed_29 (j_R_crossed_30 ⟨_, rfl, j.r, jRet_mono (c_McrossedP j.r.m j.td.1 j.td.2.1 n8 j.sw.1 hp hq) ?_⟩), fun z => ?_⟩
  · intro r g w
    have u := w.2 z
    rw [← pa_n z] at u
    exact ⟨u.1, fin_0 hs j lo_6 (m6 hs) u.2⟩
  · have c := pa_0 z
    obtain ⟨a, rfl⟩ : ∃ a : Nat, p = (a : Int) := ⟨p.toNat, by omega⟩
    obtain ⟨b, rfl⟩ : ∃ b : Nat, q = (b : Int) := ⟨q.toNat, by omega⟩
    rw [j.r.f0]
    refine ⟨j.r.1, j.r.w.1, jRet_mono (c_Wcompare j.r.w (xb_x j.td j.cx) (pt_x j.td j.cx) n8 (a := a) (b := b) (by omega) (by omega)) ?_⟩
    intro r g w
    obtain ⟨w1, w2⟩ := w
    have ws := fun k u => w_same (k := k) (u := u) j.cx.1 j.td.2.1 n8 (show a < n by omega) (show b < n by omega)
    rw [(ws 20 0).1, (ws 20 0).2.1] at w1
    rw [w2]
    refine ⟨_, w1, j_R_crossed_30 ⟨_, rfl, j.r, jRet_mono (c_McrossedP j.r.m j.td.1 j.td.2.1 n8 j.sw.1 hp hq) ?_⟩⟩
    intro r' g' w'
    obtain ⟨u1, u2⟩ := w'.1 z
    refine ⟨?_, fin_0 (s := 0) ⟨by omega, by omega⟩ j lo_6 (by rw [m6 hs, z]) u2⟩
    rw [u1, Int.toNat_natCast, Int.toNat_natCast]
theorem p_length {p k u : Int} (hp : rI p) (hk : rI k) (hu : u = 0 ∨ u = 1) (I : IN x h) : PR2 x 110 147 [.int (iI p), .int (iI k), .int (iI u)] h := by
  obtain ⟨n, nc, l, i, e⟩ := I
  refine jRet_of (by decide) (by decide) (Nat.le_of_ble_eq_true rfl) (j_R_length_0 ⟨i.r.1, jRet_mono (c_numberStatus i.r i.td i.cx hp hk ⟨by omega, by omega⟩) ?_⟩)
  intro q1 g1 w1
  obtain ⟨e1, e2⟩ := w1
  rw [e2]
  have hs := nmS_r (n := n) (p := p) (k := k) (mx := 20)
  obtain ⟨j, sq⟩ := in_6 (v := iI (nmS n p k 20)) i
  have n8 := j.n8
  refine ⟨_, e1, i.r.1, j.r.1, ?_⟩
  rw [g6, iI_0, iI_eq hs ⟨by omega, by omega⟩]
  refine ⟨fun z => j_R_length_32 (j_R_length_35 ⟨_, rfl, j.r, jRet_mono (c_Mlength j.r.m j.td.1 j.td.2.1 n8 j.sw.1 hp hk hu) ?_⟩), fun z => ?_⟩
  · intro r g w
    have v := w.2 z
    refine ⟨?_, fin_0 hs j lo_6 (m6 hs) v.2⟩
    rw [v.1, jc11]
  · have c := nm_0 z
    obtain ⟨a, rfl⟩ : ∃ a : Nat, p = (a : Int) := ⟨p.toNat, by omega⟩
    obtain ⟨b, rfl⟩ : ∃ b : Nat, k = (b : Int) := ⟨k.toNat, by omega⟩
    rw [j.r.f0]
    refine ⟨j.r.1, j.r.w.1, jRet_mono (c_WpatchLen j.r.w (xb_x j.td j.cx) (pt_x j.td j.cx) n8 (a := a) (k := b) (by omega) (by omega) hu) ?_⟩
    intro r g w
    obtain ⟨w1, w2⟩ := w
    have ws := (w_same (k := b) (u := u) j.cx.1 j.td.2.1 n8 (show a < n by omega) (show a < n by omega)).2.2
    unfold wLn mLn at ws
    rw [ws] at w1
    rw [w2]
    refine ⟨_, w1, j_R_length_35 ⟨_, rfl, j.r, jRet_mono (c_Mlength j.r.m j.td.1 j.td.2.1 n8 j.sw.1 hp hk hu) ?_⟩⟩
    intro r' g' w'
    obtain ⟨u1, u2⟩ := w'.1 z
    refine ⟨?_, fin_0 (s := 0) ⟨by omega, by omega⟩ j lo_6 (by rw [m6 hs, z]) u2⟩
    rw [u1, Int.toNat_natCast, Int.toNat_natCast]
theorem sh_r {m : Nat} {p q k : Int} : rI (shS m h n p q k) := by
  unfold shS
  repeat' split
  all_goals exact ⟨by omega, by omega⟩
theorem shS_st {m : Nat} {p q k : Int} (e : stq m h h1) : shS m h1 n p q k = shS m h n p q k := by
  unfold shS
  rw [e.mw.sg]
theorem p_share {p q k u : Int} (hp : rI p) (hq : rI q) (hk : rI k) (hu : u = 0 ∨ u = 1) (I : IN x h) : PR x 111 150 [.int (iI p), .int (iI q), .int (iI k), .int (iI u)] h := by
  obtain ⟨n, nc, l, i, e⟩ := I
  refine jRet_of (by decide) (by decide) (Nat.le_of_ble_eq_true rfl) (j_R_share_0 ⟨i.r.1, jRet_mono (c_shareStatus i.r i.td i.cx hp hq hk) ?_⟩)
  intro q1 g1 w1
  obtain ⟨e1, f1⟩ := w1
  obtain ⟨i1, sq1⟩ := inv_s i f1 (fun p k z => Or.inr z)
  have hs := sh_r (m := x + 385) (h := h) (n := n) (p := p) (q := q) (k := k)
  obtain ⟨j, sq⟩ := in_6 (v := iI (shS (x + 385) h n p q k)) i1
  have es2 : shS (x + 385) (sI g1 x 6 (iI (shS (x + 385) h n p q k))) n p q k = shS (x + 385) h n p q k := (shS_st sq).trans (shS_st sq1)
  have n8 := j.n8
  have L0 : lo x h (sI g1 x 6 (iI (shS (x + 385) h n p q k))) := (lo_fg f1 (fun p k z => by omega)).tr lo_6
  have lnp : ∀ a, a < n → ∀ (b : Nat) (v : Int), 1 ≤ mLn (x + 385) (sI g1 x 6 (iI (shS (x + 385) h n p q k))) a b v := fun a ha b v => ln_pos j.td.2.2.1 ha
  have mc := c_MshareP j.r.m j.td.1 j.td.2.1 n8 j.sw.1 lnp hp hq hk hu
  refine ⟨_, e1, i1.r.1, j.r.1, ?_⟩
  rw [g6, iI_0, iI_eq hs ⟨by omega, by omega⟩]
  refine ⟨fun z => j_R_share_20 ?_, fun z => ⟨_, rfl, j.r, jRet_mono mc ?_⟩⟩
  · have c : ((0 ≤ p ∧ p < (n : Int)) ∧ (0 ≤ q ∧ q < (n : Int)) ∧ p ≠ q) ∧ 0 ≤ k ∧ k ≤ 20 := by
      unfold shS at z
      split at z
      · omega
      · split at z
        · omega
        · omega
    obtain ⟨a, rfl⟩ : ∃ a : Nat, p = (a : Int) := ⟨p.toNat, by omega⟩
    obtain ⟨b, rfl⟩ : ∃ b : Nat, q = (b : Int) := ⟨q.toNat, by omega⟩
    obtain ⟨d, rfl⟩ : ∃ d : Nat, k = (d : Int) := ⟨k.toNat, by omega⟩
    have ws := fun u => w_same (k := d) (u := u) j.cx.1 j.td.2.1 n8 (show a < n by omega) (show b < n by omega)
    have fin : ∀ r' g', shQ (x + 385) (sI g1 x 6 (iI (shS (x + 385) h n a b d))) n a b d u r' g' → r' = some (.int (iI (shV (x + 385) (sI g1 x 6 (iI (shS (x + 385) h n a b d))) a b d u))) ∧ IN x g' ∧ lo x h g' := by
      intro r' g' w'
      obtain ⟨u1, u2, u3⟩ := w'.1 (by rw [es2]; exact z)
      refine ⟨?_, fin_2 j L0 u2 (by rw [m6 hs, z, u3])⟩
      rw [u1, Int.toNat_natCast, Int.toNat_natCast, Int.toNat_natCast]
    rw [j.r.f0]
    rcases hu with rfl | rfl
    · refine ⟨fun _ => j_R_share_38 ?_, fun y => absurd rfl y⟩
      rw [j.r.f0]
      refine ⟨j.r.1, j.r.w.1, jRet_mono (c_Wlow j.r.w (xb_x j.td j.cx) (pt_x j.td j.cx) n8 (a := a) (b := b) (k := d) (by omega) (by omega) (by omega) (by rw [(ws 1).2.2]; exact lnp a (by omega) d 1)) ?_⟩
      intro r g w
      obtain ⟨w1, w2⟩ := w
      rw [(ws 0).1, (ws 1).2.1, (ws 1).2.2] at w1
      rw [w2]
      refine ⟨_, w1, j_R_share_48 ⟨_, rfl, j.r, jRet_mono mc (fun r' g' w' => ?_)⟩⟩
      obtain ⟨v1, v2⟩ := fin r' g' w'
      exact ⟨by rw [v1]; rfl, v2⟩
    · refine ⟨fun y => absurd y (by decide), fun _ => ⟨j.r.1, j.r.w.1, jRet_mono (c_Whigh j.r.w (xb_x j.td j.cx) (pt_x j.td j.cx) n8 (a := a) (b := b) (k := d) (by omega) (by omega) (by omega) (by rw [(ws 0).2.2]; exact lnp a (by omega) d 0)) ?_⟩⟩
      intro r g w
      obtain ⟨w1, w2⟩ := w
      rw [(ws 1).1, (ws 0).2.1, (ws 0).2.2] at w1
      rw [w2]
      refine ⟨_, w1, j_R_share_48 ⟨_, rfl, j.r, jRet_mono mc (fun r' g' w' => ?_)⟩⟩
      obtain ⟨v1, v2⟩ := fin r' g' w'
      exact ⟨by rw [v1]; rfl, v2⟩
  · intro r' g' w'
    obtain ⟨u1, u2, u3⟩ := w'.2 (by rw [es2]; exact z)
    exact ⟨u1, fin_2 j L0 u2 (by rw [m6 hs, u3, es2])⟩
end PAIR
