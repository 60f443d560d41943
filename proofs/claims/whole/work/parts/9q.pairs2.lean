/-! one call of class and model: light, pull, bounce, enough -/
section PAIR2
variable {x n nc : Nat} {h h1 h2 : jHp} {S : Nat → Nat → Prop} {l l1 l2 : List Int}
/-- the glow's numbers after a step that renews sum and product -/
theorem gn_47 {g b : Nat} (N : GN g h) (f : wg b S h h1) (hb : b < g ∨ g + 137 < b) (a : ∀ p k, g + 2 ≤ p → p ≤ g + 137 → (p < g + 4 ∨ g + 7 < p) → ¬ S p k) (q2 : ∃ v, BG 20 (g + 4) h1 v) (q3 : ∃ v, BG 20 (g + 6) h1 v) : GN g h1 := by
  obtain ⟨⟨v1, q1⟩, _, _, ⟨v4, q4⟩, P⟩ := N
  have go : ∀ {r c : Nat} {v : Int}, BG r c h v → g + 2 ≤ c → c + 1 ≤ g + 137 → (c + 1 < g + 4 ∨ g + 7 < c) → BG r c h1 v := fun B h1 h2 h3 => bg_wg B f (by omega) (fun k => ⟨a _ _ (by omega) (by omega) (by omega), a _ _ (by omega) (by omega) (by omega)⟩)
  refine ⟨⟨v1, go q1 (by omega) (by omega) (by omega)⟩, q2, q3, ⟨v4, go q4 (by omega) (by omega) (by omega)⟩, fun i j hi hj => ?_⟩
  obtain ⟨v, q⟩ := P i j hi hj
  refine ⟨v, go q ?_ ?_ ?_⟩
  · unfold pc
    omega
  · unfold pc
    omega
  · unfold pc
    omega
theorem gt_47 {g b : Nat} {X : Nat → Nat → Int} {u : Int} (hn : n ≤ 8) (T : GT g n h X u) (f : wg b S h h1) (hb : b < g ∨ g + 137 < b) (a : ∀ p k, g + 2 ≤ p → p ≤ g + 137 → (p < g + 4 ∨ g + 7 < p) → ¬ S p k) (q2 : ∃ v, BG 20 (g + 4) h1 v) (q3 : ∃ v, BG 20 (g + 6) h1 v) : GT g n h1 X u := by
  obtain ⟨P, q1, _, _, v4, q4⟩ := T
  have go : ∀ {r c : Nat} {v : Int}, BG r c h v → g + 2 ≤ c → c + 1 ≤ g + 137 → (c + 1 < g + 4 ∨ g + 7 < c) → BG r c h1 v := fun B h1 h2 h3 => bg_wg B f (by omega) (fun k => ⟨a _ _ (by omega) (by omega) (by omega), a _ _ (by omega) (by omega) (by omega)⟩)
  refine ⟨fun i j hi hj => ?_, go q1 (by omega) (by omega) (by omega), q2, q3, v4, go q4 (by omega) (by omega) (by omega)⟩
  refine go (P i j hi hj) ?_ ?_ ?_
  · unfold pc
    omega
  · unfold pc
    omega
  · unfold pc
    omega
/-- a step of the class's within the glow -/
theorem inv_g (I : INV x n nc l1 l2 h) (f : fg S h h1) (s : ∀ p k, S p k → x + 24 ≤ p ∧ p ≤ x + 161) (G : GlW x n h1) : INV x n nc l1 l2 h1 ∧ stq (x + 385) h h1 := by
  have a : aw2 S x := fun p k hp z => by
    have := s p k z
    omega
  have g : wg (x + 162) S h h1 := fg_wg f
  have e := aw2_st g a
  have no : ∀ p k, x + 162 ≤ p → ¬ S p k := fun p k hp z => by
    have := s p k z
    omega
  exact inv_c I g a G (bnw_fr I.2.2.2.2.1 f (fun p k h1 _ => no p k (by omega))) (chw_fr I.2.2.2.2.2.1 e.k g (fun p k h1 _ => no p k (by omega))) (ox_fr I.2.2.2.2.2.2.1 g (fun p k h1 _ => no p k (by omega)))
def svQ (x n nc : Nat) (l1 l2 : List Int) (h : jHp) : jQ := fun q h' => q = none ∧ lo x h h' ∧ INV x n nc l1 l2 h' ∧ stq (x + 385) h h' ∧ GT (x + 24) n h' (pV (x + 385) h' n) (dV (x + 385) h' n) ∧ mI h' (x + 24) 5 = 1 ∧ mI h' x 6 = mI h x 6
theorem solve_x (I : INV x n nc l1 l2 h) : jRet 48 0 0 [.ref (gR h x 2), .ref (gR h x 0), .ref (gR h x 1)] h (svQ x n nc l1 l2 h) := by
  rw [I.r.f0, I.r.f1, I.r.f2]
  refine jRet_mono (c_Gsolve (t := x + 14) (m := x + 385) (n := n) I.r.g I.2.2.2.1.1 I.r.w I.r.t I.cx.1 I.cx.2.1 I.sw (fun p k hp z => by unfold gmS glS at z; omega) I.2.2.2.1.2) ?_
  intro q g w
  obtain ⟨w1, w2, w3, w4, w5⟩ := w
  have sq : stq (x + 385) h g := aw2_st (fg_wg w2) (fun p k hp z => by unfold gmS glS at z; omega)
  have T : GT (x + 24) n g (pV (x + 385) g n) (dV (x + 385) g n) := by
    rw [sq.k.e.pv, sq.k.e.dv]
    exact w4
  obtain ⟨j, _⟩ := inv_g I w2 (fun p k z => by unfold gmS glS at z; omega) ⟨w5, Or.inr ⟨w3, T⟩⟩
  exact ⟨w1, lo_fg w2 (fun p k z => by unfold gmS glS at z; omega), j, sq, T, w3, w2.eq (fun z => by unfold gmS glS at z; omega)⟩
def teQ (x n nc : Nat) (l l2 : List Int) (h : jHp) : jQ := fun q h' => q = some (.int (iI (l.length : Int))) ∧ lo x h h' ∧ INV x n nc l l2 h' ∧ stq (x + 385) h h' ∧ mI h' x 6 = mI h x 6
theorem tell_x {r1 a r2 b : Nat} {X Y : Int} (I : INV x n nc l1 l2 h) (A : BG r1 a h X) (B : BG r2 b h Y) (hr1 : r1 ≤ 40) (hr2 : r2 ≤ 40) (ha : a + 1 < x + 373) (hb : b + 1 < x + 373) (hY : 0 < Y) : jRet 56 0 0 [.ref (gR h x 5), .ref a, .ref b] h (teQ x n nc (fT X Y) l2 h) := by
  rw [I.r.f5]
  have s1 := A.2.1.2.1
  have s2 := B.2.1.2.1
  refine jRet_mono (c_Otell I.r.o I.2.2.2.2.2.2.1.1 A B (by omega) (by omega) hY (by omega) (by omega)) ?_
  intro q g w
  obtain ⟨w1, w2, w3, w4⟩ := w
  have f : wg (x + 162) (otS (x + 373)) h g := fg_wg w2
  have a2 : aw2 (otS (x + 373)) x := fun p k hp z => by
    unfold otS at z
    omega
  have e := aw2_st f a2
  have no : ∀ p k, p < x + 373 → ¬ otS (x + 373) p k := fun p k hp z => by
    unfold otS at z
    omega
  obtain ⟨j, sq⟩ := inv_c I f a2 (glw_fr I.n8 I.2.2.2.1 e.k.e f (fun p k _ h2 => no p k (by omega))) (bnw_fr I.2.2.2.2.1 w2 (fun p k _ h2 => no p k (by omega))) (chw_fr I.2.2.2.2.2.1 e.k f (fun p k _ h2 => no p k (by omega))) (l := fT X Y) ⟨w4, w3⟩
  exact ⟨w1, lo_fg w2 (fun p k z => by unfold otS at z; omega), j, sq, w2.eq (no _ _ (by omega))⟩
theorem gS_b0 {m p : Nat} : gS m h n p 0 n = lV m h n p := by
  unfold gS lV
  refine sm_congr (fun j _ => ?_)
  rw [if_neg (fun z => z.1 rfl)]
theorem pc_r {p : Int} : rI (pcS n p) := by
  unfold pcS
  split <;> exact ⟨by omega, by omega⟩
theorem pc_0 {p : Int} (z : pcS n p = 0) : 0 ≤ p ∧ p < (n : Int) := by
  unfold pcS at z
  split at z
  · omega
  · omega
theorem pc_n {p : Int} (z : pcS n p ≠ 0) : ¬ (0 ≤ p ∧ p < (n : Int)) ∧ pcS n p = 1 := by
  by_cases c : 0 ≤ p ∧ p < (n : Int)
  · unfold pcS at z
    rw [if_neg (fun y => y c)] at z
    exact absurd rfl z
  · refine ⟨c, ?_⟩
    unfold pcS
    rw [if_pos c]
theorem awg {p k : Nat} (hp : x + 1 ≤ p ∧ p ≤ x + 1 + 12 ∨ x + 14 ≤ p ∧ p ≤ x + 14 + 9 ∨ x + 385 ≤ p ∧ p ≤ x + 385 + 27) : ¬ glS (x + 24) p k := fun z => by
  unfold glS at z
  omega
theorem p_light {p : Int} (hp : rI p) (I : IN x h) : PR x 117 157 [.int (iI p)] h := by
  obtain ⟨n, nc, l, i, e⟩ := I
  refine jRet_of (by decide) (by decide) (Nat.le_of_ble_eq_true rfl) (j_R_light_0 ⟨i.r.1, jRet_mono (c_patchStatus i.r i.td i.cx hp) ?_⟩)
  intro q1 g1 w1
  obtain ⟨e1, e2⟩ := w1
  rw [e2]
  have hs := pc_r (n := n) (p := p)
  obtain ⟨j, sq⟩ := in_6 (v := iI (pcS n p)) i
  have n8 := j.n8
  refine ⟨_, e1, i.r.1, j.r.1, ?_⟩
  rw [g6, iI_0, iI_eq hs ⟨by omega, by omega⟩]
  refine ⟨fun z => j_R_light_18 ?_, fun z => ⟨_, rfl, j.r, jRet_mono (c_light j.r.m j.sw j.so hp) ?_⟩⟩
  · have c := pc_0 z
    obtain ⟨a, rfl⟩ : ∃ a : Nat, p = (a : Int) := ⟨p.toNat, by omega⟩
    have m6' := m6 (x := x) (h := h) hs
    have L6 : lo x h (sI h x 6 (iI (pcS n a))) := lo_6
    generalize sI h x 6 (iI (pcS n a)) = h6 at *
    refine ⟨j.r.1, j.r.1, j.r.1, by rw [j.r.f2]; exact j.r.g.1, jRet_mono (solve_x j) ?_⟩
    intro r g w
    obtain ⟨w1, w2, w3, w4, w5, w6, w7⟩ := w
    rw [w3.r.f2, w3.r.f0]
    obtain ⟨v4, q4⟩ := w5.2.2.1
    refine ⟨w1, w3.r.1, w3.r.1, w3.r.g.1, jRet_mono (c_Gather (v := 0) (t := x + 14) (m := x + 385) (p := a) w3.r.g w3.r.w w3.cx.1 w3.sw w3.so (fun p k hp => awg hp) w5.1 q4 (by omega) (Or.inl rfl)) ?_⟩
    intro r2 g2 u
    obtain ⟨u1, u2, u3⟩ := u
    have f2 : wg (x + 162) (fbS (x + 24 + 4)) g g2 := fg_wg u2
    have no : ∀ p k, x + 24 + 2 ≤ p → p ≤ x + 24 + 137 → (p < x + 24 + 4 ∨ x + 24 + 7 < p) → ¬ fbS (x + 24 + 4) p k := fun p k _ _ h3 z => by
      unfold fbS at z
      omega
    have q6 : ∃ v, BG 20 (x + 24 + 6) g2 v := by
      obtain ⟨v, b⟩ := w5.2.2.2.1
      exact ⟨v, bg_fg b u2 (fun k => ⟨fun z => by unfold fbS at z; omega, fun z => by unfold fbS at z; omega⟩)⟩
    have sq2 : stq (x + 385) g g2 := aw2_st f2 (fun p k hp z => by unfold fbS at z; omega)
    have T2 : GT (x + 24) n g2 (pV (x + 385) g2 n) (dV (x + 385) g2 n) := by
      rw [sq2.k.e.pv, sq2.k.e.dv]
      exact gt_47 n8 w5 f2 (by omega) no ⟨_, u3⟩ q6
    have k5 : mI g2 (x + 24) 5 = 1 := by
      rw [u2.eq (fun z => by unfold fbS at z; omega)]
      exact w6
    obtain ⟨j2, _⟩ := inv_g w3 u2 (fun p k z => by unfold fbS at z; omega) ⟨gn_47 w3.2.2.2.1.1 f2 (by omega) no ⟨_, u3⟩ q6, Or.inr ⟨k5, T2⟩⟩
    rw [j2.r.f2, j2.r.g.2.2.2.2.1, j2.r.g.2.2.2.1]
    rw [gS_b0, ← sq2.lv] at u3
    have dv := dV_bd j2.sw
    refine ⟨u1, j2.r.1, j2.r.1, j2.r.g.1, j2.r.1, j2.r.g.1, by rw [j2.r.f5]; exact j2.r.o.1, jRet_mono (tell_x j2 u3 T2.2.1 (by omega) (by omega) (by omega) (by omega) dv.1) ?_⟩
    intro r3 g3 t
    obtain ⟨t1, t2, t3, t4, t5⟩ := t
    refine ⟨_, t1, _, rfl, t3.r, jRet_mono (c_light t3.r.m t3.sw t3.so hp) ?_⟩
    intro r4 g4 y
    have y' := y.1 c
    rw [Int.toNat_natCast, t4.lv, t4.dv] at y'
    obtain ⟨y1, y2, y3, y4⟩ := y'
    refine ⟨y1, fin_pair t3 ((L6.tr w2).tr ((lo_fg u2 (fun p k z => by unfold fbS at z; omega)).tr t2)) y2 y3 (fun z => by omega) ?_⟩
    rw [t5, u2.eq (fun z => by unfold fbS at z; omega), w7, m6', z, y4]
  · intro r g w
    obtain ⟨y1, y2⟩ := pc_n z
    have u := w.2 y1
    exact ⟨u.1, fin_0 (s := 1) ⟨by omega, by omega⟩ j lo_6 (by rw [m6 hs, y2]) u.2⟩
theorem p_pull {p q : Int} (hp : rI p) (hq : rI q) (I : IN x h) : PR x 120 187 [.int (iI p), .int (iI q)] h := by
  obtain ⟨n, nc, l, i, e⟩ := I
  have n8 := i.n8
  have fin : ∀ {Q : jQ} (s : Int), rI s → (s = 0 → J 120 40 0 0 [.ref x, .int (iI p), .int (iI q)] [] (sI h x 6 (iI s)) Q) → (s ≠ 0 → Q (some (.int (iI (-1)))) (sI h x 6 (iI s))) → J 120 28 0 0 [.ref x, .int (iI p), .int (iI q)] [.int (iI s), .ref x] h Q := by
    intro Q s hs a b
    obtain ⟨j, _⟩ := in_6 (v := iI s) i
    refine j_R_pull_28 ⟨i.r.1, j.r.1, ?_⟩
    rw [g6, iI_0, iI_eq hs ⟨by omega, by omega⟩]
    exact ⟨a, b⟩
  have no : ¬ ((0 ≤ p ∧ p < (n : Int)) ∧ (0 ≤ q ∧ q < (n : Int))) → J 120 27 0 0 [.ref x, .int (iI p), .int (iI q)] [.ref x] h (fun r1 h1 => ∃ r : Int32, r1 = some (.int r) ∧ LY x h1 ∧ jRet 187 0 0 [.ref (x + 385), .int (iI p), .int (iI q)] h1 (fun r2 h2 => r2 = some (.int r) ∧ IN x h2 ∧ lo x h h2)) := by
    intro z
    obtain ⟨j, _⟩ := in_6 (v := iI 1) i
    refine j_R_pull_27 (fin 1 ⟨by omega, by omega⟩ (fun y => by omega) (fun _ => ⟨_, rfl, j.r, jRet_mono (c_pull j.r.m j.sw hp hq) ?_⟩))
    intro r g w
    have u := w.2 z
    exact ⟨u.1, fin_0 (s := 1) ⟨by omega, by omega⟩ j lo_6 (m6 ⟨by omega, by omega⟩) u.2⟩
  refine jRet_of (by decide) (by decide) (Nat.le_of_ble_eq_true rfl) (j_R_pull_0 ⟨i.r.1, (hp_x i.r i.td i.cx hp).1, jRet_mono (hp_x i.r i.td i.cx hp).2 ?_⟩)
  intro q1 g1 w1
  obtain ⟨e1, e2⟩ := w1
  rw [e2]
  refine ⟨_, e1, fun z => no (fun y => iz.mp z y.1), fun z => ⟨i.r.1, (hp_x i.r i.td i.cx hq).1, jRet_mono (hp_x i.r i.td i.cx hq).2 ?_⟩⟩
  intro q2 g2 w2
  obtain ⟨e3, e4⟩ := w2
  rw [e4]
  refine ⟨_, e3, fun z2 => no (fun y => iz.mp z2 y.2), fun z2 => fin 0 ⟨by omega, by omega⟩ (fun _ => j_R_pull_40 ?_) (fun y => absurd rfl y)⟩
  have c1 := iz1 z
  have c2 := iz1 z2
  obtain ⟨j, sq⟩ := in_6 (v := iI 0) i
  have m6' := m6 (x := x) (h := h) (v := 0) ⟨by omega, by omega⟩
  have L6 : lo x h (sI h x 6 (iI 0)) := lo_6
  generalize sI h x 6 (iI 0) = h6 at *
  obtain ⟨a, rfl⟩ : ∃ a : Nat, p = (a : Int) := ⟨p.toNat, by omega⟩
  obtain ⟨b, rfl⟩ : ∃ b : Nat, q = (b : Int) := ⟨q.toNat, by omega⟩
  refine ⟨j.r.1, j.r.1, j.r.1, by rw [j.r.f2]; exact j.r.g.1, jRet_mono (solve_x j) ?_⟩
  intro r g w
  obtain ⟨w1, w2, w3, w4, w5, w6, w7⟩ := w
  have dv := dV_bd w3.sw
  have ix : iI (a : Int) * iI 8 + iI (b : Int) = iI ((8 * a + b : Nat) : Int) := by
    rw [iI_mul, iI_add]
    congr 1
    omega
  have pcell : gR g (x + 24 + 1) (8 * a + b) = pc (x + 24) a b := by
    rw [w3.r.g.2.2.2.2.2.2.2 _ (by omega)]
    rfl
  rw [w3.r.f2, w3.r.g.2.1, w3.r.g.2.2.2.1, ix, iI_cl (by omega) (by omega), Int.toNat_natCast, pcell]
  refine ⟨w1, w3.r.1, w3.r.1, w3.r.g.1, ixR_of w3.r.g.2.2.1 (Or.inr (Or.inl rfl)) (by omega) (by omega) (by decide), w3.r.1, w3.r.g.1, by rw [w3.r.f5]; exact w3.r.o.1, jRet_mono (tell_x w3 (w5.1 a b (by omega) (by omega)) w5.2.1 (by omega) (by omega) (by unfold pc; omega) (by omega) dv.1) ?_⟩
  intro r3 g3 t
  obtain ⟨t1, t2, t3, t4, t5⟩ := t
  refine ⟨_, t1, _, rfl, t3.r, jRet_mono (c_pull t3.r.m t3.sw hp hq) ?_⟩
  intro r4 g4 y
  have y' := y.1 ⟨c1, c2⟩
  rw [Int.toNat_natCast, Int.toNat_natCast, t4.pv, t4.dv] at y'
  obtain ⟨y1, y2, y3, y4⟩ := y'
  refine ⟨y1, fin_pair t3 ((L6.tr w2).tr t2) y2 y3 (fun z => by omega) ?_⟩
  rw [t5, w7, m6', y4]
/-- a step of the class's within the bounces -/
theorem inv_b {g : jHp} (I : INV x n nc l1 l2 h) (f : wg (x + 162) (boS (x + 162)) h g) (B : BnW x g) : INV x n nc l1 l2 g ∧ stq (x + 385) h g ∧ lo x h g ∧ mI g x 6 = mI h x 6 := by
  have a : aw2 (boS (x + 162)) x := fun p k hp z => by
    unfold boS at z
    omega
  have e := aw2_st f a
  have no : ∀ p k, (p < x + 162 ∨ x + 207 ≤ p) → ¬ boS (x + 162) p k := fun p k hp z => by
    unfold boS at z
    omega
  obtain ⟨j, sq⟩ := inv_c I f a (glw_fr I.n8 I.2.2.2.1 e.k.e f (fun p k _ h2 => no p k (by omega))) B (chw_fr I.2.2.2.2.2.1 e.k f (fun p k h1 _ => no p k (by omega))) (ox_fr I.2.2.2.2.2.2.1 f (fun p k h1 _ => no p k (by omega)))
  exact ⟨j, sq, lo_wg f (fun p k hp => no p k (by omega)), f.eq (no _ _ (by omega))⟩
theorem awb {p k : Nat} (hp : x + 1 ≤ p ∧ p ≤ x + 1 + 12 ∨ x + 14 ≤ p ∧ p ≤ x + 14 + 9 ∨ x + 385 ≤ p ∧ p ≤ x + 385 + 27) : ¬ boS (x + 162) p k := fun z => by
  unfold boS at z
  omega
def bbQ (x n u : Nat) (h : jHp) : jQ := fun q g => q = none ∧ wg (x + 162) (boS (x + 162)) h g ∧ BT (x + 162) (x + 385) n h g u
theorem begin_x (I : INV x n nc l1 l2 h) : jRet 29 0 0 [.ref (gR h x 3), .ref (gR h x 0), .int (gI h (gR h x 1) 0)] h (bbQ x n 0 h) := by
  obtain ⟨s, B, N⟩ := I.2.2.2.2.1
  rw [I.r.f3, I.r.f0, I.r.f1, gI_mI, I.cx.2.1.1]
  exact c_Bbegin (t := x + 14) I.r.w I.cx.1 I.sw I.so (fun p k hp => awb hp) B N
theorem go_x {g : jHp} {u : Nat} (I : INV x n nc l1 l2 h) (f : wg (x + 162) (boS (x + 162)) h g) (B : BT (x + 162) (x + 385) n h g u) (hu : u ≤ 5) : jRet 31 0 0 [.ref (gR g x 3), .ref (gR g x 0), .ref (gR g x 1)] g (bbQ x n (u + 1) h) := by
  have R := I.r.wb f.1
  rw [R.f3, R.f0, R.f1]
  exact c_BgoOn I.r.w I.r.t I.cx.1 I.cx.2.1 I.sw I.so (fun p k hp => awb hp) f B hu
theorem p_bounce {p t : Int} (hp : rI p) (ht : rI t) (I : IN x h) : PR x 119 184 [.int (iI p), .int (iI t)] h := by
  obtain ⟨n, nc, l, i, e⟩ := I
  refine jRet_of (by decide) (by decide) (Nat.le_of_ble_eq_true rfl) (j_R_bounce_0 ⟨i.r.1, jRet_mono (c_numberStatus i.r i.td i.cx hp ht ⟨by omega, by omega⟩) ?_⟩)
  intro q1 g1 w1
  obtain ⟨e1, e2⟩ := w1
  rw [e2]
  have hs := nmS_r (n := n) (p := p) (k := t) (mx := 6)
  obtain ⟨j, sq⟩ := in_6 (v := iI (nmS n p t 6)) i
  have n8 := j.n8
  refine ⟨_, e1, i.r.1, j.r.1, ?_⟩
  rw [g6, iI_0, iI_eq hs ⟨by omega, by omega⟩]
  refine ⟨fun z => j_R_bounce_21 ?_, fun z => ⟨_, rfl, j.r, jRet_mono (c_bounce j.r.m j.sw j.so hp ht) ?_⟩⟩
  · have c := nm_0 z
    obtain ⟨a, rfl⟩ : ∃ a : Nat, p = (a : Int) := ⟨p.toNat, by omega⟩
    obtain ⟨b, rfl⟩ : ∃ b : Nat, t = (b : Int) := ⟨t.toNat, by omega⟩
    have m6' := m6 (x := x) (h := h) hs
    have L6 : lo x h (sI h x 6 (iI (nmS n a b 6))) := lo_6
    generalize sI h x 6 (iI (nmS n a b 6)) = h6 at *
    obtain ⟨s0, B0, N0⟩ := j.2.2.2.2.1
    have l41 : ∀ (d u : Nat) (g : jHp), u + d = b → wg (x + 162) (boS (x + 162)) h6 g → BT (x + 162) (x + 385) n h6 g u → J 119 41 0 0 [.ref x, .int (iI (a : Int)), .int (iI (b : Int)), .int (iI (u : Int))] [] g (fun r1 h1 => ∃ r : Int32, r1 = some (.int r) ∧ LY x h1 ∧ jRet 184 0 0 [.ref (x + 385), .int (iI (a : Int)), .int (iI (b : Int))] h1 (fun r2 h2 => r2 = some (.int r) ∧ IN x h2 ∧ lo x h h2)) := by
      intro d
      induction d with
      | zero =>
        intro u g hd f B
        obtain rfl : u = b := by omega
        have B' := B
        obtain ⟨s, b1, b2, b3, b4, b5, b6⟩ := B
        obtain ⟨j2, sq2, lo2, x62⟩ := inv_b j f ⟨s, b1, b2⟩
        obtain ⟨now1, now2⟩ := b1.now (i := a) (by omega)
        refine j_R_bounce_41 ?_
        rw [iI_le ⟨by omega, by omega⟩ ⟨by omega, by omega⟩]
        refine ⟨fun _ => j_R_bounce_67 ?_, fun y => absurd (Int.le_refl _) y⟩
        rw [j2.r.f3, iI_cl (by omega) (by omega), Int.toNat_natCast, now1, b1.2.2.2.2.1]
        have s2 : s ≤ 1 := by
          rcases b1.1 with y | y <;> omega
        refine ⟨j2.r.1, j2.r.1, b1.2.1, ixR_of now2 (Or.inr (Or.inl rfl)) (by omega) (by omega) (by decide), j2.r.1, b1.2.1, by rw [j2.r.f5]; exact j2.r.o.1, jRet_mono (tell_x j2 (b6 a (by omega)) b4 (by omega) (by omega) (by unfold bp; omega) (by omega) (bU_bd j.sw u).1) ?_⟩
        intro r3 g3 y
        obtain ⟨t1, t2, t3, t4, t5⟩ := y
        refine ⟨_, t1, _, rfl, t3.r, jRet_mono (c_bounce t3.r.m t3.sw t3.so hp ht) ?_⟩
        intro r4 g4 y
        have y' := (y.1 c.1).1 (by omega)
        rw [Int.toNat_natCast, Int.toNat_natCast, (sq2.tr t4).bn, (sq2.tr t4).bu] at y'
        obtain ⟨y1, y2, y3, y4⟩ := y'
        refine ⟨y1, fin_pair t3 ((L6.tr lo2).tr t2) y2 y3 (fun z => by omega) ?_⟩
        rw [t5, x62, m6', z, y4]
      | succ d ih =>
        intro u g hd f B
        have B' := B
        obtain ⟨s, b1, b2, _⟩ := B
        have R := j.r.wb f.1
        refine j_R_bounce_41 ?_
        rw [iI_le ⟨by omega, by omega⟩ ⟨by omega, by omega⟩]
        refine ⟨fun y => by omega, fun _ => ⟨R.1, R.1, R.1, by rw [R.f3]; exact b1.2.1, jRet_mono (go_x j f B' (by omega)) ?_⟩⟩
        intro r3 g3 y
        rw [iI_add]
        exact ⟨y.1, ih (u + 1) g3 (by omega) y.2.1 y.2.2⟩
    refine ⟨j.r.1, j.r.1, j.r.1, by rw [j.r.f1]; exact j.r.t.1, by rw [j.r.f3]; exact B0.2.1, jRet_mono (begin_x j) ?_⟩
    intro r3 g3 y
    exact ⟨y.1, l41 b 0 g3 (by omega) y.2.1 y.2.2⟩
  · intro r g w
    have : rfQ (x + 385) (sI h x 6 (iI (nmS n p t 6))) (nmS n p t 6) r g := by
      rcases nm_n z with ⟨y1, y2⟩ | ⟨y1, y2, y3⟩
      · rw [y2]
        exact y2 ▸ w.2 y1
      · rw [y3]
        exact y3 ▸ (w.1 y1).2 y2
    exact ⟨this.1, fin_0 hs j lo_6 (m6 hs) this.2⟩
/-- how many bounces are needed -/
noncomputable def bnN (m : Nat) (h : jHp) (n p : Nat) : Nat → Nat → Int
  | 0, _ => 7
  | d + 1, t => if mI h (m + 13) p * bU m h n t ≤ bN m h n t p then (t : Int) else bnN m h n p d (t + 1)
theorem bnN_e {m p : Nat} : ∀ d t, t + d = 7 → (0 ≤ bnN m h n p d t ∧ bnN m h n p d t ≤ 6 ∧ eG m h n p d t = bnN m h n p d t) ∨ (bnN m h n p d t = 7 ∧ eG m h n p d t = eZ m h n p)
  | 0, t, _ => Or.inr ⟨rfl, rfl⟩
  | d + 1, t, hd => by
    unfold bnN eG
    split
    · exact Or.inl ⟨by omega, by omega, rfl⟩
    · exact bnN_e d (t + 1) (by omega)
theorem c_bouncesNeeded {p : Nat} (I : INV x n nc l1 l2 h) (hp : p < n) : jRet 122 0 0 [.ref x, .int (iI (p : Int))] h (fun q g => q = some (.int (iI (bnN (x + 385) h n p 7 0))) ∧ wg (x + 162) (boS (x + 162)) h g ∧ BnW x g) := by
  have n8 := I.n8
  obtain ⟨s0, B0, N0⟩ := I.2.2.2.2.1
  have reach : ∀ {g : jHp} {u : Nat}, wg (x + 162) (boS (x + 162)) h g → BT (x + 162) (x + 385) n h g u → u ≤ 6 → isO g x 8 ∧ isO g (gR g x 3) 1 ∧ jRet 33 0 0 [.ref (gR g x 3), .int (iI (p : Int)), .ref (gR g x 0)] g (fun q h' => (mI h (x + 385 + 13) p * bU (x + 385) h n u ≤ bN (x + 385) h n u p ∧ q = some (.int (iI 1)) ∨ ¬ mI h (x + 385 + 13) p * bU (x + 385) h n u ≤ bN (x + 385) h n u p ∧ q = some (.int (iI 0))) ∧ wg (x + 162) (boS (x + 162)) h h' ∧ BT (x + 162) (x + 385) n h h' u) := fun f B hu => by
    have R := I.r.wb f.1
    have B' := B
    obtain ⟨s, b1, _⟩ := B
    rw [R.f3, R.f0]
    exact ⟨R.1, b1.2.1, c_Breaches (t := x + 14) I.r.w I.cx.1 I.sw I.so I.sn (fun p k hp => awb hp) f B' hu hp⟩
  have bw : ∀ {g : jHp} {u : Nat}, BT (x + 162) (x + 385) n h g u → BnW x g := fun B => by
    obtain ⟨s, b1, b2, _⟩ := B
    exact ⟨s, b1, b2⟩
  have l20 : ∀ (d u : Nat) (g : jHp), u + d = 6 → wg (x + 162) (boS (x + 162)) h g → BT (x + 162) (x + 385) n h g u → bnN (x + 385) h n p 7 0 = bnN (x + 385) h n p (d + 1) u → J 122 20 0 0 [.ref x, .int (iI (p : Int)), .int (iI (u : Int))] [] g (fun q g => q = some (.int (iI (bnN (x + 385) h n p 7 0))) ∧ wg (x + 162) (boS (x + 162)) h g ∧ BnW x g) := by
    intro d
    induction d with
    | zero =>
      intro u g hd f B hb
      obtain rfl : u = 6 := by omega
      obtain ⟨r1, r2, r3⟩ := reach f B (by omega)
      refine j_R_bouncesNeeded_20 ?_
      rw [iI_le ⟨by omega, by omega⟩ ⟨by omega, by omega⟩]
      refine ⟨fun _ => j_R_bouncesNeeded_64 ⟨r1, r1, r2, jRet_mono r3 ?_⟩, fun y => absurd (Int.le_refl _) y⟩
      intro q g' w
      obtain ⟨w1, w2, w3⟩ := w
      rw [hb]
      unfold bnN
      rcases w1 with ⟨y1, y2⟩ | ⟨y1, y2⟩
      · exact ⟨_, y2, fun y => absurd y (by decide), fun _ => j_R_bouncesNeeded_86 ⟨by rw [if_pos y1]; rfl, w2, bw w3⟩⟩
      · exact ⟨_, y2, fun _ => j_R_bouncesNeeded_84 (j_R_bouncesNeeded_86 ⟨by rw [if_neg y1]; rfl, w2, bw w3⟩), fun y => absurd rfl y⟩
    | succ d ih =>
      intro u g hd f B hb
      obtain ⟨r1, r2, r3⟩ := reach f B (by omega)
      refine j_R_bouncesNeeded_20 ?_
      rw [iI_le ⟨by omega, by omega⟩ ⟨by omega, by omega⟩]
      refine ⟨fun y => by omega, fun _ => ⟨r1, r1, r2, jRet_mono r3 ?_⟩⟩
      intro q g' w
      obtain ⟨w1, w2, w3⟩ := w
      rcases w1 with ⟨y1, y2⟩ | ⟨y1, y2⟩
      · refine ⟨_, y2, fun y => absurd y (by decide), fun _ => ⟨?_, w2, bw w3⟩⟩
        rw [hb]
        unfold bnN
        rw [if_pos y1]
      · refine ⟨_, y2, fun _ => j_R_bouncesNeeded_43 ?_, fun y => absurd rfl y⟩
        have R := I.r.wb w2.1
        have w3' := w3
        obtain ⟨s, b1, _⟩ := w3
        refine ⟨R.1, R.1, R.1, by rw [R.f3]; exact b1.2.1, jRet_mono (go_x I w2 w3' (by omega)) ?_⟩
        intro r3 g3 y
        rw [iI_add]
        refine ⟨y.1, ih (u + 1) g3 (by omega) y.2.1 y.2.2 ?_⟩
        rw [hb, bnN, if_neg y1]
  refine jRet_of (by decide) (by decide) (Nat.le_of_ble_eq_true rfl) (j_R_bouncesNeeded_0 ⟨I.r.1, I.r.1, I.r.1, by rw [I.r.f1]; exact I.r.t.1, by rw [I.r.f3]; exact B0.2.1, jRet_mono (begin_x I) ?_⟩)
  intro r3 g3 y
  exact ⟨y.1, l20 6 0 g3 (by omega) y.2.1 y.2.2 rfl⟩
theorem sg_r {v : Int} : rI v.sign := by
  have : v.sign = -1 ∨ v.sign = 0 ∨ v.sign = 1 := by
    rcases Int.lt_trichotomy v 0 with y | y | y
    · exact Or.inl (Int.sign_eq_neg_one_of_neg y)
    · rw [y]
      exact Or.inr (Or.inl rfl)
    · exact Or.inr (Or.inr (Int.sign_eq_one_of_pos y))
  rcases this with y | y | y <;> (rw [y]; exact ⟨by omega, by omega⟩)
theorem p_enough {p : Int} (hp : rI p) (I : IN x h) : PR x 121 188 [.int (iI p)] h := by
  obtain ⟨n, nc, l, i, e⟩ := I
  refine jRet_of (by decide) (by decide) (Nat.le_of_ble_eq_true rfl) (j_R_enough_0 ⟨i.r.1, jRet_mono (c_patchStatus i.r i.td i.cx hp) ?_⟩)
  intro q1 g1 w1
  obtain ⟨e1, e2⟩ := w1
  rw [e2]
  have hs := pc_r (n := n) (p := p)
  obtain ⟨j, sq⟩ := in_6 (v := iI (pcS n p)) i
  have n8 := j.n8
  refine ⟨_, e1, i.r.1, j.r.1, ?_⟩
  rw [g6, iI_0, iI_eq hs ⟨by omega, by omega⟩]
  refine ⟨fun z => j_R_enough_18 ?_, fun z => ⟨_, rfl, j.r, jRet_mono (c_enough j.r.m j.sw j.so j.sn hp) ?_⟩⟩
  · have c := pc_0 z
    obtain ⟨a, rfl⟩ : ∃ a : Nat, p = (a : Int) := ⟨p.toNat, by omega⟩
    have m6' := m6 (x := x) (h := h) hs
    have L6 : lo x h (sI h x 6 (iI (pcS n a))) := lo_6
    generalize sI h x 6 (iI (pcS n a)) = h6 at *
    -- the model's end
    have fin : ∀ {g : jHp} {v : Int}, INV x n nc l l g → lo x h g → stq (x + 385) h6 g → mI g x 6 = 0 → eG (x + 385) h6 n a 7 0 = v → ∃ w : Int32, some (Value.int (iI v)) = some (Value.int w) ∧ LY x g ∧ jRet 188 0 0 [.ref (x + 385), .int (iI (a : Int))] g (fun r2 h2 => r2 = some (.int w) ∧ IN x h2 ∧ lo x h h2) := by
      intro g v J' lg sg x0 ev
      refine ⟨_, rfl, J'.r, jRet_mono (c_enough J'.r.m J'.sw J'.so J'.sn hp) ?_⟩
      intro r k y
      obtain ⟨y1, y2, y3⟩ := y.1 c
      rw [Int.toNat_natCast, sg.eg, ev] at y1
      refine ⟨y1, fin_pair J' lg (y2.mo (fun p k z => ?_)) (ou_cn J'.2.2.2.2.2.2.2.1 y2) (fun z => by omega) (by rw [x0, y3])⟩
      rcases z with z | z
      · exact cn_cu z
      · unfold cuS
        omega
    refine ⟨j.r.1, jRet_mono (c_bouncesNeeded j (p := a) (by omega)) ?_⟩
    intro r g w
    obtain ⟨w1, w2, w3⟩ := w
    obtain ⟨j2, sq2, lo2, x62⟩ := inv_b j w2 w3
    refine ⟨_, w1, ?_⟩
    have bn := bnN_e (m := x + 385) (h := h6) (n := n) (p := a) 7 0 rfl
    rw [iI_lt ⟨by omega, by omega⟩ (by rcases bn with y | y <;> exact ⟨by omega, by omega⟩)]
    refine ⟨fun y => j_R_enough_32 ?_, fun y => fin j2 (L6.tr lo2) sq2 (by rw [x62, m6', z]) (by rcases bn with b | b; exact b.2.2; omega)⟩
    have eZ' : eG (x + 385) h6 n a 7 0 = eZ (x + 385) h6 n a := by
      rcases bn with b | b
      · omega
      · exact b.2
    refine ⟨j2.r.1, j2.r.1, j2.r.1, by rw [j2.r.f2]; exact j2.r.g.1, jRet_mono (solve_x j2) ?_⟩
    intro r3 g3 v
    obtain ⟨v1, v2, v3, v4, v5, v6, v7⟩ := v
    rw [v3.r.f2, v3.r.f0]
    refine ⟨v1, v3.r.1, v3.r.1, v3.r.g.1, jRet_mono (c_Gcompare (t := x + 14) (m := x + 385) (p := a) v3.r.g v3.r.w v3.cx.1 v3.sw v3.so v3.sn (fun p k hp => awg hp) v5 (by omega)) ?_⟩
    intro r4 g4 u
    obtain ⟨u1, u2, u3, u4⟩ := u
    have f2 : wg (x + 162) (fun i k => x + 24 + 4 ≤ i ∧ i ≤ x + 24 + 7) g3 g4 := fg_wg u2
    have no : ∀ p k : Nat, x + 24 + 2 ≤ p → p ≤ x + 24 + 137 → (p < x + 24 + 4 ∨ x + 24 + 7 < p) → ¬ (x + 24 + 4 ≤ p ∧ p ≤ x + 24 + 7) := fun p k _ _ h3 z => by
      omega
    have sq4 : stq (x + 385) g3 g4 := aw2_st f2 (fun p k hp z => by omega)
    have T4 : GT (x + 24) n g4 (pV (x + 385) g4 n) (dV (x + 385) g4 n) := by
      rw [sq4.k.e.pv, sq4.k.e.dv]
      exact gt_47 n8 v5 f2 (by omega) no u3 u4
    have k5 : mI g4 (x + 24) 5 = 1 := by
      rw [u2.eq (fun z => by omega)]
      exact v6
    obtain ⟨j4, _⟩ := inv_g v3 u2 (fun p k z => by omega) ⟨gn_47 v3.2.2.2.1.1 f2 (by omega) no u3 u4, Or.inr ⟨k5, T4⟩⟩
    have sq' := sq2.tr v4
    rw [sq'.lv, sq'.dv, sq'.1 13 (by decide) (by decide)] at u1
    have x64 : mI g4 x 6 = 0 := by
      rw [u2.eq (fun z => by omega), v7, x62, m6', z]
    have lo4 : lo x h g4 := ((L6.tr lo2).tr v2).tr (lo_fg u2 (fun p k z => by omega))
    refine ⟨_, u1, ?_⟩
    have zz : (0 : Int32) = iI 0 := rfl
    rw [zz, iI_le sg_r ⟨by omega, by omega⟩]
    refine ⟨fun y1 => j_R_enough_69 ?_, fun y1 => j_R_enough_80 (fin j4 lo4 (sq'.tr sq4) x64 ?_)⟩
    · rw [zz, iI_eq sg_r ⟨by omega, by omega⟩]
      refine ⟨fun y2 => j_R_enough_78 (j_R_enough_80 (fin j4 lo4 (sq'.tr sq4) x64 ?_)), fun y2 => j_R_enough_80 (fin j4 lo4 (sq'.tr sq4) x64 ?_)⟩
      · rw [eZ']
        unfold eZ
        generalize lV (x + 385) h6 n a - mI h6 (x + 385 + 13) a * dV (x + 385) h6 n = q at *
        have : q < 0 := by
          rcases Int.lt_trichotomy q 0 with y | y | y
          · exact y
          · rw [y] at y2
            exact absurd rfl y2
          · rw [Int.sign_eq_one_of_pos y] at y1
            omega
        rw [if_neg (by omega), if_neg (by omega)]
      · rw [eZ']
        unfold eZ
        rw [Int.sign_eq_zero_iff_zero] at y2
        rw [y2]
        rfl
    · rw [eZ']
      unfold eZ
      generalize lV (x + 385) h6 n a - mI h6 (x + 385 + 13) a * dV (x + 385) h6 n = q at *
      have : 0 < q := by
        rcases Int.lt_trichotomy q 0 with y | y | y
        · rw [Int.sign_eq_neg_one_of_neg y] at y1
          omega
        · rw [y] at y1
          exact absurd (Int.le_refl 0) y1
        · exact y
      rw [if_pos this]
  · intro r g w
    obtain ⟨y1, y2⟩ := pc_n z
    have u := w.2 y1
    exact ⟨u.1, fin_0 (s := 1) ⟨by omega, by omega⟩ j lo_6 (by rw [m6 hs, y2]) u.2⟩
end PAIR2
