/-! one call of class and model: least, power -/
section PAIR3
variable {x n nc : Nat} {h h1 h2 : jHp} {S : Nat → Nat → Prop} {l l1 l2 : List Int}
def fdQ (x n nc : Nat) (l1 l2 : List Int) (h : jHp) : jQ := fun q h' => q = none ∧ lo x h h' ∧ INV x n nc l1 l2 h' ∧ stq (x + 385) h h' ∧ CRes (x + 207) (x + 385) n h' h' ∧ mI h' x 6 = mI h x 6
theorem find_x (I : INV x n nc l1 l2 h) (T : GT (x + 24) n h (pV (x + 385) h n) (dV (x + 385) h n)) (k5 : mI h (x + 24) 5 = 1) : jRet 35 0 0 [.ref (gR h x 4), .ref (gR h x 0), .ref (gR h x 2)] h (fdQ x n nc l1 l2 h) := by
  rw [I.r.f4, I.r.f0, I.r.f2]
  obtain ⟨V, c1, c2, c3⟩ := I.2.2.2.2.2.1
  have n8 := I.n8
  refine jRet_mono (c_Cfind (t := x + 14) I.r.c c1 c2 c3 I.r.g T I.r.w I.cx.1 I.sw I.so I.sn I.sp I.l3 (fun p k hp z => by unfold cfS fbS at z; omega) (fun p k hp => awg hp) (by omega)) ?_
  intro q g w
  obtain ⟨w1, w2, w3, w4, w5⟩ := w
  have f : wg (x + 162) (cfS (x + 207) (x + 24)) h g := fg_wg w2
  have a : aw2 (cfS (x + 207) (x + 24)) x := fun p k hp z => by
    unfold cfS fbS at z
    omega
  have e := aw2_st f a
  have T' : GT (x + 24) n g (pV (x + 385) g n) (dV (x + 385) g n) := by
    rw [e.k.e.pv, e.k.e.dv]
    exact w5
  have R : CRes (x + 207) (x + 385) n g g := cres_st w4 e.k
  have N : GN (x + 24) g := gn_47 I.2.2.2.1.1 f (by omega) (fun p k _ h2 h3 z => by unfold cfS fbS at z; omega) w5.2.2.1 w5.2.2.2.1
  have C : ChW x n g := by
    have R' := R
    obtain ⟨_, V', v1, v2, _⟩ := R'
    exact ⟨V', v1, v2, Or.inr ⟨w3, R⟩⟩
  have k5' : mI g (x + 24) 5 = 1 := by
    rw [w2.eq (fun z => by unfold cfS fbS at z; omega)]
    exact k5
  obtain ⟨j, sq⟩ := inv_c I f a ⟨N, Or.inr ⟨k5', T'⟩⟩ (bnw_fr I.2.2.2.2.1 w2 (fun p k h1 h2 z => by unfold cfS fbS at z; omega)) C (ox_fr I.2.2.2.2.2.2.1 f (fun p k h1 h2 z => by unfold cfS fbS at z; omega))
  exact ⟨w1, lo_fg w2 (fun p k z => by unfold cfS fbS at z; omega), j, sq, R, w2.eq (fun z => by unfold cfS fbS at z; omega)⟩
theorem rm_40 {q : Nat} : rm q ≤ 40 := by
  unfold rm
  repeat' split
  all_goals omega
/-- the class found none, so has the model -/
theorem no_both {L : Nat} (n8 : n ≤ 8) (hL3 : L ≤ 3) {m : Nat} (hLC : lmC m h n = (L : Int)) (no : ∀ y u, ¬ fbl (sV m h n) (nV m h n) 14 y u) {a b c : Nat} (ns : nsT m h n L (n + 2 * L) a b c) : False := no _ _ (ns_fbl n8 hL3 hLC ns)
theorem cres_6 {c m : Nat} {v : Int32} (R : CRes c m n h h) (e : stq m h (sI h x 6 v)) (hx : x < c) : CRes c m n (sI h x 6 v) (sI h x 6 v) := cres_wg (b := 0) (cres_st R e.k) (fg_wg f6) (by omega) (fun p k h1 h2 z => by omega)
theorem p_least (I : IN x h) : PR x 127 191 [] h := by
  obtain ⟨n, nc, l, i, e⟩ := I
  have n8 := i.n8
  refine jRet_of (by decide) (by decide) (Nat.le_of_ble_eq_true rfl) (j_R_least_0 ⟨i.r.1, i.r.1, i.r.1, by rw [i.r.f2]; exact i.r.g.1, jRet_mono (solve_x i) ?_⟩)
  intro r1 g1 w
  obtain ⟨w1, w2, w3, w4, w5, w6, w7⟩ := w
  refine ⟨w1, w3.r.1, w3.r.1, w3.r.1, by rw [w3.r.f4]; exact w3.r.c.1, jRet_mono (find_x w3 w5 w6) ?_⟩
  intro r2 g2 u
  obtain ⟨u1, u2, u3, u4, u5, u6⟩ := u
  have lo2 : lo x h g2 := w2.tr u2
  clear u4 u6 w4 w7 w2 w5 w6 w3 w1
  rw [u3.r.f4, gI_mI]
  obtain ⟨L, hLC⟩ : ∃ L : Nat, lmC (x + 385) g2 n = (L : Int) := ⟨(lmC (x + 385) g2 n).toNat, by have := lmC_bd (m := x + 385) (h := g2) n; omega⟩
  have hL3 : L ≤ 3 := by
    have := u3.l3
    omega
  have K64 : ∀ {g : jHp}, INV x n nc l l g → 0 < n ∨ ∃ v, KN (x + 385) g 64 v := fun J' => by
    by_cases c : 0 < n
    · exact Or.inl c
    · exact Or.inr (J'.2.2.2.2.2.2.2.2 (by omega))
  have K64' : ∀ {g : jHp} {l1 : List Int}, INV x n nc l1 l g → 0 < n ∨ ∃ v, KN (x + 385) g 64 v := fun J' => by
    by_cases c : 0 < n
    · exact Or.inl c
    · exact Or.inr (J'.2.2.2.2.2.2.2.2 (by omega))
  refine ⟨u1, u3.r.1, u3.r.c.1, ?_⟩
  obtain ⟨R1, V, R2, R3, R4⟩ := u5
  rcases R4 with ⟨f1, H, H1, H2, H3, H4, H5, H6, H7, H8⟩ | ⟨f0, no⟩
  · rw [f1]
    refine ⟨fun y => absurd y (by decide), fun _ => j_R_least_47 ?_⟩
    obtain ⟨j, sq⟩ := in_6 (v := iI 0) u3
    have m6' := m6 (x := x) (h := g2) (v := 0) ⟨by omega, by omega⟩
    have L6 : lo x h (sI g2 x 6 (iI 0)) := lo2.tr lo_6
    have CV6 : CV (x + 207) V (sI g2 x 6 (iI 0)) := cv_wg (b := 0) R2 (fg_wg f6) (by omega) (fun p k h1 h2 z => by omega)
    rw [g6]
    refine ⟨u3.r.1, j.r.1, fun y => absurd rfl y, fun _ => ?_⟩
    rw [← sq.sv, ← sq.nv, ← sq.prv] at H8
    rw [← sq.sv, ← sq.nv] at H7
    rw [← sq.sv] at H3 H4
    rw [← sq.sv, ← sq.nv, ← sq.prv] at H6
    have H2' : HL (x + 385) (sI g2 x 6 (iI 0)) n H := by
      unfold HL liv at *
      simp only [sq.la]
      exact H2
    have hLC' : lmC (x + 385) (sI g2 x 6 (iI 0)) n = (L : Int) := by rw [sq.lc, hLC]
    generalize sI g2 x 6 (iI 0) = g6 at *
    have A := CV6 1 (by decide)
    have B := CV6 0 (by decide)
    rw [H6] at A
    rw [H4] at B
    rw [j.r.f4, j.r.c.f10, j.r.c.f9]
    refine ⟨j.r.1, j.r.1, j.r.c.1, j.r.1, j.r.c.1, by rw [j.r.f5]; exact j.r.o.1, jRet_mono (tell_x j A B rm_40 rm_40 (by unfold pl; omega) (by unfold pl; omega) H3) ?_⟩
    intro r3 g3 t
    obtain ⟨t1, t2, t3, t4, t5⟩ := t
    refine ⟨_, t1, j_R_least_82 ⟨_, rfl, t3.r, jRet_mono (c_least t3.r.m t3.sw t3.so t3.sn t3.sp t3.kd hL3 (by rw [t4.lc]; exact hLC') (K64' t3)) ?_⟩⟩
    intro r4 g4 y
    obtain ⟨k64, y⟩ := y
    rw [← t4.sv, ← t4.nv, ← t4.prv] at H8
    rw [← t4.sv, ← t4.nv] at H7
    rw [← t4.sv] at H3
    have H2'' : HL (x + 385) g3 n H := by
      unfold HL liv at *
      simp only [t4.la]
      exact H2'
    have hLC3 : lmC (x + 385) g3 n = (L : Int) := by rw [t4.lc, hLC']
    rcases y with ⟨y1, _⟩ | ⟨a, b, c, va, ns, best, y1, y2, y3, y4⟩
    · exact absurd y1 (same_none n8 hL3 hLC3 H2'' H3 H7)
    · have sl := same_least n8 hL3 hLC3 H2'' H3 H7 H8 ns best 0 (by decide)
      have eq := fT_eq sl H3 (wT_pos ns.1)
      rw [← eq] at y1 y3
      rw [t4.sv, t4.nv, t4.prv] at y1 y3
      refine ⟨y1, fin_pair t3 (L6.tr t2) y2 y3 (fun _ => k64) ?_⟩
      rw [t5, m6', y4]
  · rw [f0]
    refine ⟨fun _ => j_R_least_45 (j_R_least_47 ?_), fun y => absurd rfl y⟩
    obtain ⟨j, sq⟩ := in_6 (v := iI 8) u3
    rw [g6]
    refine ⟨u3.r.1, j.r.1, fun _ => j_R_least_81 (j_R_least_82 ⟨_, rfl, j.r, jRet_mono (c_least j.r.m j.sw j.so j.sn j.sp j.kd hL3 (by rw [sq.lc]; exact hLC) (K64 j)) ?_⟩), fun y => absurd y (by decide)⟩
    intro r4 g4 y
    obtain ⟨k64, y⟩ := y
    rcases y with ⟨_, y1, y2, y3, y4⟩ | ⟨a, b, c, va, ns, _⟩
    · exact ⟨y1, fin_pair j (lo2.tr lo_6) y2 (y4 _ j.2.2.2.2.2.2.2.1) (fun _ => k64) (by rw [m6 ⟨by omega, by omega⟩, y3])⟩
    · refine absurd ns (fun ns => no_both n8 hL3 (by rw [sq.lc]; exact hLC) (fun y u => ?_) ns)
      rw [sq.sv, sq.nv]
      exact no y u
theorem la_r {m : Nat} {p : Int} : rI (laS m h n p) := by
  unfold laS
  repeat' split
  all_goals exact ⟨by omega, by omega⟩
theorem laS_st {m : Nat} {p : Int} (e : stq m h h1) : laS m h1 n p = laS m h n p := by
  unfold laS
  rw [e.1 9 (by decide) (by decide)]
theorem p_power {p : Int} (hp : rI p) (I : IN x h) : PR x 128 199 [.int (iI p)] h := by
  obtain ⟨n, nc, l, i, e⟩ := I
  have n8 := i.n8
  refine jRet_of (by decide) (by decide) (Nat.le_of_ble_eq_true rfl) (j_R_power_0 ⟨i.r.1, jRet_mono (c_lampStatus i.r i.td i.cx hp) ?_⟩)
  intro q1 g0 w0
  obtain ⟨e1, e2⟩ := w0
  rw [e2]
  have hs := la_r (m := x + 385) (h := h) (n := n) (p := p)
  obtain ⟨j0, sq0⟩ := in_6 (v := iI (laS (x + 385) h n p)) i
  have la6 : laS (x + 385) (sI h x 6 (iI (laS (x + 385) h n p))) n p = laS (x + 385) h n p := laS_st sq0
  have m60 := m6 (x := x) (h := h) hs
  have L60 : lo x h (sI h x 6 (iI (laS (x + 385) h n p))) := lo_6
  have hlc : ∀ {g : jHp}, INV x n nc l l g → ∃ L : Nat, lmC (x + 385) g n = (L : Int) ∧ L ≤ 3 := fun {g} J' => ⟨(lmC (x + 385) g n).toNat, by have := lmC_bd (m := x + 385) (h := g) n; omega, by have := J'.l3; omega⟩
  refine ⟨_, e1, i.r.1, j0.r.1, ?_⟩
  rw [g6, iI_0, iI_eq hs ⟨by omega, by omega⟩]
  refine ⟨fun z => j_R_power_18 ?_, fun z => ⟨_, rfl, j0.r, ?_⟩⟩
  · generalize sI h x 6 (iI (laS (x + 385) h n p)) = h6 at *
    rw [z] at la6 m60
    have c1 : (0 ≤ p ∧ p < (n : Int)) ∧ mI h6 (x + 385 + 9) p.toNat = 1 := by
      unfold laS at la6
      split at la6
      · omega
      · split at la6
        · omega
        · rename_i y1 y2
          exact ⟨Classical.byContradiction y1, Classical.byContradiction y2⟩
    obtain ⟨pn, rfl⟩ : ∃ pn : Nat, p = (pn : Int) := ⟨p.toNat, by omega⟩
    rw [Int.toNat_natCast] at c1
    refine ⟨j0.r.1, j0.r.1, j0.r.1, by rw [j0.r.f2]; exact j0.r.g.1, jRet_mono (solve_x j0) ?_⟩
    intro r1 g1 w
    obtain ⟨w1, w2, w3, w4, w5, w6, w7⟩ := w
    refine ⟨w1, w3.r.1, w3.r.1, w3.r.1, by rw [w3.r.f4]; exact w3.r.c.1, jRet_mono (find_x w3 w5 w6) ?_⟩
    intro r2 g2 u
    obtain ⟨u1, u2, u3, u4, u5, u6⟩ := u
    have lo2 : lo x h g2 := (L60.tr w2).tr u2
    have kd2 : mI g2 (x + 385 + 9) pn = 1 := by
      rw [(w4.tr u4).1 9 (by decide) (by decide)]
      exact c1.2
    clear u4 u6 w4 w7 w2 w5 w6 w3 w1
    rw [u3.r.f4, gI_mI]
    obtain ⟨L, hLC, hL3⟩ := hlc u3
    refine ⟨u1, u3.r.1, u3.r.c.1, ?_⟩
    obtain ⟨R1, V, R2, R3, R4⟩ := u5
    rcases R4 with ⟨f1, H, H1, H2, H3, H4, H5, H6, H7, H8⟩ | ⟨f0, no⟩
    · rw [f1]
      refine ⟨fun y => absurd y (by decide), fun _ => j_R_power_65 ?_⟩
      obtain ⟨j, sq⟩ := in_6 (v := iI 0) u3
      have m6' := m6 (x := x) (h := g2) (v := 0) ⟨by omega, by omega⟩
      have L6 : lo x h (sI g2 x 6 (iI 0)) := lo2.tr lo_6
      have CV6 : CV (x + 207) V (sI g2 x 6 (iI 0)) := cv_wg (b := 0) R2 (fg_wg f6) (by omega) (fun p k h1 h2 z => by omega)
      have R6 : ∀ a, a < 3 → mI (sI g2 x 6 (iI 0)) (x + 207 + 3) a = lmA (x + 385) (sI g2 x 6 (iI 0)) n a := fun a ha => by
        rw [f6.eq (fun z => by omega), sq.la]
        exact R1 a ha
      have kd6 : mI (sI g2 x 6 (iI 0)) (x + 385 + 9) pn = 1 := by
        rw [sq.1 9 (by decide) (by decide)]
        exact kd2
      rw [g6]
      refine ⟨u3.r.1, j.r.1, fun y => absurd rfl y, fun _ => ?_⟩
      rw [← sq.sv, ← sq.nv, ← sq.prv] at H8
      rw [← sq.sv, ← sq.nv] at H7 H5
      rw [← sq.sv] at H3 H4
      have H2' : HL (x + 385) (sI g2 x 6 (iI 0)) n H := by
        unfold HL liv at *
        simp only [sq.la]
        exact H2
      have hLC' : lmC (x + 385) (sI g2 x 6 (iI 0)) n = (L : Int) := by rw [sq.lc, hLC]
      generalize sI g2 x 6 (iI 0) = g6 at *
      have la := lmA_at (m := x + 385) (h := g6) (n := n) (k := pn) (by omega) kd6
      obtain ⟨wl, hwl⟩ : ∃ wl : Nat, lmC (x + 385) g6 pn = (wl : Int) := ⟨(lmC (x + 385) g6 pn).toNat, by have := lmC_bd (m := x + 385) (h := g6) pn; omega⟩
      rw [hwl, Int.toNat_natCast] at la
      have wl3 : wl < 3 := by omega
      have B := CV6 0 (by decide)
      rw [H4] at B
      have A := CV6 (71 + 3 * wl) (by omega)
      rw [H5 wl wl3] at A
      rw [j.r.f4, j.r.f5]
      refine ⟨j.r.1, j.r.1, j.r.c.1, jRet_mono (c_CownOf (p := (pn : Int)) (a := wl) j.r.c hp wl3 (by rw [R6 wl wl3]; exact la.1) (fun a' ha' => ?_)) ?_⟩
      · rw [R6 a' (by omega)]
        obtain ⟨dd', hdd⟩ : ∃ dd', n = pn + dd' := ⟨n - pn, by omega⟩
        have up := lmA_up (m := x + 385) (h := g6) (k := pn) (l := a') (by omega) dd'
        rw [← hdd] at up
        have q2 := (lmA_in (m := x + 385) (h := g6) pn a').1 (by omega)
        rw [up]
        omega
      · intro r3 g3 y
        obtain ⟨y1, y2⟩ := y
        rw [y2, j.r.f4, j.r.c.f9]
        have tx := tell_x j A B rm_40 rm_40 (by unfold pl; omega) (by unfold pl; omega) H3
        rw [j.r.f5] at tx
        refine ⟨_, y1, j.r.1, j.r.c.1, j.r.o.1, jRet_mono tx ?_⟩
        intro r3 g3 t
        obtain ⟨t1, t2, t3, t4, t5⟩ := t
        have hLC3 : lmC (x + 385) g3 n = (L : Int) := by rw [t4.lc, hLC']
        have la0 : laS (x + 385) g3 n pn = 0 := by
          unfold laS
          rw [if_neg (fun y => y c1.1), Int.toNat_natCast, t4.1 9 (by decide) (by decide), if_neg (fun y => y kd6)]
        refine ⟨_, t1, j_R_power_101 ⟨_, rfl, t3.r, jRet_mono (c_power t3.r.m t3.sw t3.so t3.sn t3.sp t3.kd hL3 hLC3 hp) ?_⟩⟩
        intro r4 g4 y
        have y' := y.2 la0
        rw [Int.toNat_natCast, t4.lc, hwl, Int.toNat_natCast] at y'
        rw [← t4.sv, ← t4.nv, ← t4.prv] at H8
        rw [← t4.sv, ← t4.nv] at H7
        rw [← t4.sv] at H3
        have H2'' : HL (x + 385) g3 n H := by
          unfold HL liv at *
          simp only [t4.la]
          exact H2'
        rcases y' with ⟨y1, _⟩ | ⟨a, b, c, va, ns, best, y1, y2, y3, y4⟩
        · exact absurd y1 (same_none n8 hL3 hLC3 H2'' H3 H7)
        · have sl := same_least n8 hL3 hLC3 H2'' H3 H7 H8 ns best (wl + 1) (by omega)
          have eq := fT_eq sl H3 (wT_pos ns.1)
          unfold ob at eq
          rw [← eq] at y1 y3
          rw [t4.sv, t4.nv] at y1 y3
          refine ⟨y1, fin_pair t3 (L6.tr t2) y2 y3 (fun z => by omega) ?_⟩
          rw [t5, m6', y4]
    · rw [f0]
      refine ⟨fun _ => j_R_power_63 (j_R_power_65 ?_), fun y => absurd rfl y⟩
      obtain ⟨j, sq⟩ := in_6 (v := iI 8) u3
      have la0 : laS (x + 385) (sI g2 x 6 (iI 8)) n pn = 0 := by
        unfold laS
        rw [if_neg (fun y => y c1.1), Int.toNat_natCast, sq.1 9 (by decide) (by decide), if_neg (fun y => y kd2)]
      rw [g6]
      refine ⟨u3.r.1, j.r.1, fun _ => j_R_power_100 (j_R_power_101 ⟨_, rfl, j.r, jRet_mono (c_power j.r.m j.sw j.so j.sn j.sp j.kd hL3 (by rw [sq.lc]; exact hLC) hp) ?_⟩), fun y => absurd y (by decide)⟩
      intro r4 g4 y
      rcases y.2 la0 with ⟨_, y1, y2, y3, y4⟩ | ⟨a, b, c, va, ns, _⟩
      · exact ⟨y1, fin_pair j (lo2.tr lo_6) y2 (y4 _ j.2.2.2.2.2.2.2.1) (fun z => by omega) (by rw [m6 ⟨by omega, by omega⟩, y3])⟩
      · refine absurd ns (fun ns => no_both n8 hL3 (by rw [sq.lc]; exact hLC) (fun y u => ?_) ns)
        rw [sq.sv, sq.nv]
        exact no y u
  · obtain ⟨L, hLC, hL3⟩ := hlc j0
    refine jRet_mono (c_power j0.r.m j0.sw j0.so j0.sn j0.sp j0.kd hL3 hLC hp) ?_
    intro r g w
    obtain ⟨y1, y2⟩ := w.1 (by rw [la6]; exact z)
    rw [la6] at y2
    exact ⟨y1, fin_0 hs j0 lo_6 (m6 hs) y2⟩
end PAIR3
