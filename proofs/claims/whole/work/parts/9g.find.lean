/-! Cheapest: find -/
section FIND
variable {c w t g m n : Nat} {h : jHp}
theorem stq.lc {k : jHp} (e : stq m h k) : ∀ i, lmC m k i = lmC m h i
  | 0 => rfl
  | i + 1 => by rw [lmC_s, lmC_s, stq.lc e i, e.1 9 (by decide) (by decide)]
theorem stq.la {k : jHp} (e : stq m h k) : ∀ i l, lmA m k i l = lmA m h i l
  | 0, _ => rfl
  | i + 1, l => by rw [lmA_s, lmA_s, stq.la e i l, e.lc, e.1 9 (by decide) (by decide)]
theorem stq.sv {k : jHp} (e : stq m h k) : sV m k n = sV m h n := by
  funext r a
  unfold sV
  rw [e.la, e.pv]
theorem stq.nv {k : jHp} (e : stq m h k) : nV m k n = nV m h n := by
  funext r
  unfold nV
  rw [e.la, e.gs, e.dv, e.1 13 (by decide) (by decide), e.1 15 (by decide) (by decide)]
theorem stq.prv {k : jHp} (e : stq m h k) : prV m k n = prV m h n := by
  funext a
  unfold prV
  rw [e.la, e.1 14 (by decide) (by decide)]
/-- a row of a patch or of a lamp -/
def liv (m : Nat) (h : jHp) (n r : Nat) : Prop := r < n ∨ ∃ b, b < 3 ∧ lmA m h n b ≠ -1 ∧ (r = 8 + b ∨ r = 11 + b)
def HL (m : Nat) (h : jHp) (n : Nat) (H : Nat → Nat) : Prop := ∀ a, a < 3 → (lmA m h n a = -1 → H a = 8 + a) ∧ (lmA m h n a ≠ -1 → liv m h n (H a))
theorem wy_0 {s : Nat → Nat → Int} {H : Nat → Nat} : ∀ d, d < 3 → (∀ i, i < 3 → i ≠ d → s (H i) d = 0) → ∀ a, a < 3 → a ≠ d → wy s H d a = 0 := by
  apply lt3
  · intro hz
    have h1 := hz 1 (by decide) (by decide)
    have h2 := hz 2 (by decide) (by decide)
    apply lt3
    · intro z; exact absurd rfl z
    · intro _; simp [wy, h1, h2]
    · intro _; simp [wy, h1, h2]
  · intro hz
    have h1 := hz 0 (by decide) (by decide)
    have h2 := hz 2 (by decide) (by decide)
    apply lt3
    · intro _; simp [wy, h1, h2]
    · intro z; exact absurd rfl z
    · intro _; simp [wy, h1, h2]
  · intro hz
    have h1 := hz 0 (by decide) (by decide)
    have h2 := hz 1 (by decide) (by decide)
    apply lt3
    · intro _; simp [wy, h1, h2]
    · intro _; simp [wy, h1, h2]
    · intro z; exact absurd rfl z
theorem liv_0 {r d : Nat} (hn : n ≤ 8) (hr : liv m h n r) (hd : d < 3) (hz : lmA m h n d = -1) : sV m h n r d = 0 := by
  unfold sV
  rcases hr with hr | ⟨b, b1, b2, b3⟩
  · rw [if_pos (by omega), if_neg (fun z => z.2 hz)]
  · have hbd : b ≠ d := fun z => b2 (by rw [z]; exact hz)
    rw [if_neg (by omega), if_neg (by omega), if_neg (by omega)]
theorem dead_s {H : Nat → Nat} {d : Nat} (hn : n ≤ 8) (L : HL m h n H) (hd : d < 3) (hz : lmA m h n d = -1) : ∀ i, i < 3 → i ≠ d → sV m h n (H i) d = 0 := by
  intro i hi hne
  by_cases e : lmA m h n i = -1
  · rw [(L i hi).1 e]
    unfold sV
    rw [if_neg (by omega), if_neg (by omega), if_neg (by omega)]
  · exact liv_0 hn ((L i hi).2 e) hd hz
theorem dead_le {H : Nat → Nat} {d r : Nat} (hn : n ≤ 8) (L : HL m h n H) (hr : liv m h n r) (hd : d < 3) (hz : lmA m h n d = -1) : le3 (sV m h n) H r d = 0 := by
  have w0 := wy_0 (s := sV m h n) (H := H) d hd (dead_s hn L hd hz)
  have s0 := liv_0 hn hr hd hz
  unfold le3 dt3
  match d, hd, s0, w0 with
  | 0, _, s0, w0 => rw [s0, w0 1 (by decide) (by decide), w0 2 (by decide) (by decide)]; omega
  | 1, _, s0, w0 => rw [s0, w0 0 (by decide) (by decide), w0 2 (by decide) (by decide)]; omega
  | 2, _, s0, w0 => rw [s0, w0 0 (by decide) (by decide), w0 1 (by decide) (by decide)]; omega
theorem unit_dt {a : Nat} {o : Nat → Int} (ha : a < 3) : dt3 (sV m h n) (8 + a) o = o a ∧ dt3 (sV m h n) (11 + a) o = -o a := by
  unfold dt3 sV
  match a, ha with
  | 0, _ => simp
  | 1, _ => simp
  | 2, _ => simp
theorem dead_ow {H : Nat → Nat} {d : Nat} (L : HL m h n H) (hd : d < 3) (hz : lmA m h n d = -1) : ow (sV m h n) (nV m h n) H d = 0 := by
  have e := ow_on (s := sV m h n) (nd := nV m h n) (H := H) d hd
  rw [(L d hd).1 hz, (unit_dt hd).1] at e
  rw [e]
  unfold nV
  rw [if_neg (by omega), if_pos (by omega), Int.zero_mul]
theorem brk_liv {H : Nat → Nat} {r : Nat} (L : HL m h n H) (hr : r < 14) (hb : dt3 (sV m h n) r (ow (sV m h n) (nV m h n) H) < nV m h n r * wh (sV m h n) H) : liv m h n r := by
  by_cases e : r < n
  · exact Or.inl e
  · by_cases e8 : r < 8
    · exfalso
      have s0 : ∀ a, sV m h n r a = 0 := fun a => by
        unfold sV
        rw [if_pos e8, if_neg (fun z => e z.1)]
      have n0 : nV m h n r = 0 := by
        unfold nV
        rw [if_pos e8, if_neg e]
      unfold dt3 at hb
      rw [s0, s0, s0, n0] at hb
      omega
    · have key : ∀ a, a < 3 → (r = 8 + a ∨ r = 11 + a) → liv m h n r := by
        intro a ha hra
        by_cases z : lmA m h n a = -1
        · exfalso
          have o0 := dead_ow L ha z
          have n0 : nV m h n r = 0 := by
            unfold nV
            rcases hra with q | q
            · rw [if_neg e8, if_pos (by omega)]
            · rw [if_neg e8, if_neg (by omega), show r - 11 = a by omega, if_pos z]
          rw [n0, Int.zero_mul] at hb
          rcases hra with q | q
          · rw [q, (unit_dt ha).1, o0] at hb
            omega
          · rw [q, (unit_dt ha).2, o0] at hb
            omega
        · exact Or.inr ⟨a, ha, z, hra⟩
      by_cases e11 : r < 11
      · exact key (r - 8) (by omega) (Or.inl (by omega))
      · exact key (r - 11) (by omega) (Or.inr (by omega))
/-- the end of the search -/
def CRes (c m n : Nat) (h0 h : jHp) : Prop := (∀ a, a < 3 → mI h (c + 3) a = lmA m h0 n a) ∧ ∃ V, CV c V h ∧ CZ m h0 n V ∧ ((mI h c 14 = 1 ∧ ∃ H : Nat → Nat, (∀ i, i < 3 → H i < 14) ∧ HL m h0 n H ∧ 0 < wh (sV m h0 n) H ∧ V 0 = wh (sV m h0 n) H ∧ (∀ a, a < 3 → V (71 + 3 * a) = ow (sV m h0 n) (nV m h0 n) H a) ∧ V 1 = ob (prV m h0 n) (ow (sV m h0 n) (nV m h0 n) H) 0 ∧ fbl (sV m h0 n) (nV m h0 n) 14 (ow (sV m h0 n) (nV m h0 n) H) (wh (sV m h0 n) H) ∧ ∀ y u, fbl (sV m h0 n) (nV m h0 n) 14 y u → ple (prV m h0 n) (ow (sV m h0 n) (nV m h0 n) H) (wh (sV m h0 n) H) y u) ∨ (mI h c 14 = 0 ∧ ∀ y u, ¬ fbl (sV m h0 n) (nV m h0 n) 14 y u))
def cfS (c g p k : Nat) : Prop := (c ≤ p ∧ p ≤ c + 165) ∨ fbS (g + 4) p k
def fiQ (c g m n : Nat) (h : jHp) : jQ := fun q h' => q = none ∧ fg (cfS c g) h h' ∧ mI h' c 13 = 1 ∧ CRes c m n h h' ∧ GT g n h' (pV m h n) (dV m h n)
theorem start_wy {m n : Nat} {h : jHp} : ∀ i, i < 3 → ∀ a, a < 3 → wy (sV m h n) (fun i => 8 + i) i a = if i = a then 1 else 0 := by
  apply lt3 <;> apply lt3 <;> simp [wy, sV]
theorem c_Cfind {V : Nat → Int} (C : CL c h) (CVh : CV c V h) (Z : CZ m h n V) (K : mI h c 13 = 0 ∨ (mI h c 13 = 1 ∧ CRes c m n h h)) (G : GL g h) (T : GT g n h (pV m h n) (dV m h n)) (W : WL w h) (CWh : CW w m h) (S : SW m h n) (O : SO m h n) (N : SN m h n) (Q : SP m h n) (hl3 : lmC m h n ≤ 3) (a : awy (cfS c g) w t m) (a0 : awy (glS g) w t m) (dj : g + 137 < c ∨ c + 165 < g) : jRet 35 0 0 [.ref c, .ref w, .ref g] h (fiQ c g m n h) := by
  have hn8 := S.2.1
  have SB := sb_of S O N Q
  have wc : c ≠ w := fun z => a w 0 (by omega) (Or.inl (by omega))
  refine jRet_of (by decide) (by decide) (Nat.le_of_ble_eq_true rfl) (j_Ch_find_0 ?_)
  rcases K with k0 | ⟨k1, K⟩
  rotate_left
  · rw [gI_mI h c 13, k1, iI_0, iI_eq ⟨by omega, by omega⟩ ⟨by omega, by omega⟩]
    exact ⟨C.o, fun z => absurd z (by decide), fun _ => ⟨rfl, fg.rf, k1, K, T⟩⟩
  rw [gI_mI h c 13, k0, iI_0, iI_eq ⟨by omega, by omega⟩ ⟨by omega, by omega⟩]
  refine ⟨C.o, fun _ => j_Ch_find_8 ?_, fun z => absurd rfl z⟩
  have aw : ∀ (S' : Nat → Nat → Prop), (∀ p k, S' p k → cfS c g p k) → awy S' w t m := fun S' hS p k hp z => a p k hp (hS p k z)
  have nl : ∀ p k, nlS c p k → cfS c g p k := fun p k z => by unfold nlS at z; exact Or.inl (by omega)
  have ch : ∀ p k, chS c p k → cfS c g p k := fun p k z => by unfold chS at z; exact Or.inl (by omega)
  have lp : ∀ p k, lpS c g p k → cfS c g p k := fun p k z => by
    rcases z with z | z
    · exact ch p k z
    · exact Or.inr z
  have lb : ∀ p k, lbS c p k → cfS c g p k := fun p k z => by
    rcases z with z | z
    · exact ch p k z
    · exact Or.inl (by omega)
  refine ⟨C.o, jRet_mono (c_Cname (t := t) C W CWh S.1 hn8 hl3 Q (aw _ nl) wc) ?_⟩
  intro q1 h1 w1
  obtain ⟨x1, f1, A1⟩ := w1
  have F1 := f1.mo nl
  have s1 : stq m h h1 := stq_aw (fun p q hp => F1.eq hp) a
  have D1 := cl_sk C F1.1
  have T1 := gt_fg hn8 T f1 (fun p q u1 u2 => by unfold nlS; omega)
  have T1' : GT g n h1 (pV m h1 n) (dV m h1 n) := by
    have e : pV m h1 n = pV m h n := funext (fun i => funext (fun j => s1.pv))
    rw [e, s1.dv]
    exact T1
  have C1 : CV c V h1 := cv_fg CVh f1 (fun p q u1 u2 => by unfold nlS; omega)
  have Z1 : CZ m h1 n V := by
    unfold CZ
    simp only [s1.la]
    exact Z
  refine ⟨x1, D1.o, jRet_mono (c_ClayRows (t := t) D1 C1 Z1 (gl_sk G F1.1) T1' (wl_sk W F1.1) (cw_fg CWh F1 a) (s1.sw S) (s1.so O) (s1.sn N) (aw _ lp) a0 (fun x hx => by rw [s1.la]; exact (A1 x hx).1) dj) ?_⟩
  intro q2 h2 w2
  obtain ⟨x2, f2, T2, V2, C2, R2, E2⟩ := w2
  have epv : pV m h1 n = pV m h n := funext (fun i => funext (fun j => s1.pv))
  rw [epv, s1.dv] at T2
  rw [s1.sv, s1.nv] at R2
  have F2 := F1.tr (f2.mo lp)
  have s2 : stq m h h2 := stq_aw (fun p q hp => F2.eq hp) a
  have D2 := cl_sk C F2.1
  have Z2 : CZ m h n V2 := by
    refine ⟨fun r x hr hx hz => ?_, fun r x u1 u2 u3 u4 u5 => ?_, fun r u1 u2 => ?_⟩
    · rw [(R2 r hr).1 x hx]
      unfold sV
      rw [if_pos hr, if_neg (fun z => by omega)]
    · rw [E2 _ (by omega)]
      exact Z.2.1 r x u1 u2 u3 u4 u5
    · by_cases e : r < 8
      · rw [(R2 r e).2]
        unfold nV
        rw [if_pos e, if_neg (by omega)]
      · rw [E2 _ (by omega)]
        exact Z.2.2 r u1 u2
  have l32 : ∀ x, x < 3 → mI h2 (c + 3) x = lmA m h n x ∧ mI h2 (c + 4) x = prV m h n x := fun x hx => by
    rw [f2.eq (by unfold lpS chS fbS; omega), f2.eq (by unfold lpS chS fbS; omega)]
    exact A1 x hx
  refine ⟨x2, D2.o, jRet_mono (c_ClayBounds (t := t) (h0 := h) D2 C2 Z2 R2 (wl_sk W F2.1) (cw_fg CWh F2 a) s2 hn8 Q (aw _ lb) (fun x hx => (l32 x hx).1)) ?_⟩
  intro q3 h3 w3
  obtain ⟨x3, f3, H3, V3, C3, L3⟩ := w3
  have F3 := F2.tr (f3.mo lb)
  have D3 := cl_sk C F3.1
  have T3 := gt_fg hn8 T2 f3 (fun p q u1 u2 => by unfold lbS chS; omega)
  have l33 : ∀ x, x < 3 → mI h3 (c + 3) x = lmA m h n x ∧ mI h3 (c + 4) x = prV m h n x := fun x hx => by
    rw [f3.eq (by unfold lbS chS; omega), f3.eq (by unfold lbS chS; omega)]
    exact l32 x hx
  -- the end
  have l99 : ∀ (k : jHp) (X : Nat → Int) (H : Nat → Nat) (y : Int), (y = 0 ∨ y = 1) → fg (cfS c g) h k → CL c k → GT g n k (pV m h n) (dV m h n) → CV c X k → LPV (sV m h n) (nV m h n) X → PLV (sV m h n) (nV m h n) H X → HH c k H → PP c k (prV m h n) → (∀ x, x < 3 → mI k (c + 3) x = lmA m h n x) → HL m h n H → 0 < wh (sV m h n) H → (y = 1 → fbl (sV m h n) (nV m h n) 14 (ow (sV m h n) (nV m h n) H) (wh (sV m h n) H) ∧ ∀ y u, fbl (sV m h n) (nV m h n) 14 y u → ple (prV m h n) (ow (sV m h n) (nV m h n) H) (wh (sV m h n) H) y u) → (y = 0 → ∀ y u, ¬ fbl (sV m h n) (nV m h n) 14 y u) → J 35 99 0 0 [.ref c, uu, uu, uu, uu, uu] [.int (iI y), .ref c] k (fiQ c g m n h) := by
    intro k X H y hy f D T Ck Lk Pk Hk PPk Ak HLk wp y1 y0
    have D' : CL c (sI k c 14 (iI y)) := cl_sk D sk.rf.sI
    have fw : fg (fun p k => p = c ∧ k = 14) k (sI k c 14 (iI y)) := fg.rf.wr ⟨rfl, rfl⟩
    have C' : CV c X (sI k c 14 (iI y)) := cv_fg Ck fw (fun p q u1 u2 z => by omega)
    have PP' : PP c (sI k c 14 (iI y)) (prV m h n) := fun x hx => ⟨by rw [fw.eq (by omega)]; exact (PPk x hx).1, (PPk x hx).2⟩
    refine j_Ch_find_99 ⟨D.o, by rcases hy with rfl | rfl; exact Or.inl rfl; exact Or.inr rfl, D'.o, jRet_mono (c_Cprices D' C' Pk SB Hk.l PP') ?_⟩
    intro q5 h5 w5
    obtain ⟨x5, f5, V5, C5, t5, E5⟩ := w5
    have F5 : fg (cfS c g) h h5 := (f.tr (fw.mo (fun p q z => Or.inl (by omega)))).tr (f5.mo ch)
    have D5 := cl_sk C F5.1
    have F6 : fg (cfS c g) h (sI h5 c 13 (iI 1)) := F5.wr (Or.inl (by omega))
    have fw6 : fg (fun p k => p = c ∧ k = 13) h5 (sI h5 c 13 (iI 1)) := fg.rf.wr ⟨rfl, rfl⟩
    refine ⟨x5, D5.o, Or.inr rfl, rfl, F6, by rw [mI_sI ⟨by omega, by omega⟩, if_pos ⟨rfl, rfl⟩], ⟨fun x hx => ?_, V5, cv_fg C5 fw6 (fun p q u1 u2 z => by omega), cz_of (lpv_c Lk (fun q u1 u2 => E5 q (by omega) (by omega))), ?_⟩, ?_⟩
    · rw [fw6.eq (by omega), f5.eq (by unfold chS; omega), fw.eq (by omega)]
      exact Ak x hx
    · have e14 : mI (sI h5 c 13 (iI 1)) c 14 = y := by
        rw [fw6.eq (by omega), f5.eq (by unfold chS; omega), mI_sI (by rcases hy with rfl | rfl <;> exact ⟨by omega, by omega⟩), if_pos ⟨rfl, rfl⟩]
      rw [e14]
      rcases hy with e | e
      · exact Or.inr ⟨e, y0 e⟩
      · refine Or.inl ⟨e, H, Hk.l, HLk, wp, ?_, fun x hx => ?_, t5, (y1 e).1, (y1 e).2⟩
        · rw [E5 _ (by omega) (by omega)]
          exact Pk.2.1
        · rw [E5 _ (by omega) (by omega)]
          exact Pk.2.2 x hx
    · exact gt_fg hn8 (gt_fg hn8 (gt_fg hn8 T fw (fun p q u1 u2 => by omega)) f5 (fun p q u1 u2 => by unfold chS; omega)) fw6 (fun p q u1 u2 => by omega)
  -- the search
  have l32' : ∀ (N0 st : Nat) (br : Int) (k : jHp) (X : Nat → Int) (H : Nat → Nat), pot (sV m h n) (nV m h n) (prV m h n) (ow (sV m h n) (nV m h n) H) (wh (sV m h n) H) = N0 → st + N0 ≤ 364 → rI br → fg (cfS c g) h k → CL c k → GT g n k (pV m h n) (dV m h n) → CV c X k → LPV (sV m h n) (nV m h n) X → HH c k H → PP c k (prV m h n) → (∀ x, x < 3 → mI k (c + 3) x = lmA m h n x) → HL m h n H → 0 < wh (sV m h n) H → dul (sV m h n) (prV m h n) H → J 35 32 0 0 [.ref c, uu, uu, .int (iI br), uu, .int (iI (st : Int))] [] k (fiQ c g m n h) := by
    intro N0
    induction N0 using Nat.strongRecOn with
    | _ N0 ih =>
      intro st br k X H hN hst rb f D Tk Ck Lk Hk PPk Ak HLk wp Dk
      refine j_Ch_find_32 ?_
      rw [iI_le ⟨by omega, by omega⟩ ⟨by omega, by omega⟩]
      refine ⟨fun z => by omega, fun _ => ⟨D.o, jRet_mono (c_Cplace D Ck Lk SB Hk) ?_⟩⟩
      intro q4 h4 w4
      obtain ⟨x4, f4', V4, C4, L4', P4⟩ := w4
      have D4 := cl_sk D f4'.1
      refine ⟨x4, D4.o, jRet_mono (c_Cbroken D4 C4 L4' P4 SB (hh_fg Hk f4')) ?_⟩
      intro q5 h5 w5
      obtain ⟨x5, f5, V5, C5, L5, P5⟩ := w5
      have D5 := cl_sk D4 f5.1
      have F5 : fg (cfS c g) h h5 := (f.tr (f4'.mo ch)).tr (f5.mo ch)
      have T5 := gt_fg hn8 (gt_fg hn8 Tk f4' (fun p q u1 u2 => by unfold chS; omega)) f5 (fun p q u1 u2 => by unfold chS; omega)
      have H5 := hh_fg (hh_fg Hk f4') f5
      have PP5 := pp_fg (pp_fg PPk f4') f5
      have A5 : ∀ x, x < 3 → mI h5 (c + 3) x = lmA m h n x := fun x hx => by
        rw [f5.eq (by unfold chS; omega), f4'.eq (by unfold chS; omega)]
        exact Ak x hx
      rcases x5 with ⟨x5, ok⟩ | ⟨r, hr, x5, bk⟩
      · refine ⟨_, x5, fun z => absurd rfl z, fun _ => j_Ch_find_63 ⟨fun z => absurd rfl z, fun _ => j_Ch_find_88 ⟨fun z => absurd rfl z, fun _ => l99 h5 V5 H 1 (Or.inr rfl) F5 D5 T5 C5 L5 P5 H5 PP5 A5 HLk wp (fun _ => ⟨⟨wp, ok⟩, fun y u F => opt Dk wp Hk.l F⟩) (fun z => absurd z (by decide))⟩⟩⟩
      · have nr : ¬ iI (r : Int) = iI (-1) := by
          rw [iI_eq ⟨by omega, by omega⟩ ⟨by omega, by omega⟩]
          omega
        have lr := brk_liv HLk hr bk
        refine ⟨_, x5, fun _ => j_Ch_find_58 ⟨D5.o, jRet_mono (c_Cleave D5 C5 L5 P5 SB H5 PP5 hr) ?_⟩, fun z => absurd z nr⟩
        intro q6 h6 w6
        obtain ⟨x6, f6, V6, C6, L6, P6⟩ := w6
        have D6 := cl_sk D5 f6.1
        have F6 : fg (cfS c g) h h6 := F5.tr (f6.mo ch)
        have T6 := gt_fg hn8 T5 f6 (fun p q u1 u2 => by unfold chS; omega)
        have H6 := hh_fg H5 f6
        have PP6 := pp_fg PP5 f6
        have A6 : ∀ x, x < 3 → mI h6 (c + 3) x = lmA m h n x := fun x hx => by
          rw [f6.eq (by unfold chS; omega)]
          exact A5 x hx
        rcases x6 with ⟨x6, nol⟩ | ⟨i, hi, x6, li, bi⟩
        · exact ⟨_, x6, j_Ch_find_63 ⟨fun z => absurd rfl z, fun _ => j_Ch_find_88 ⟨fun _ => j_Ch_find_98 (l99 h6 V6 H 0 (Or.inl rfl) F6 D6 T6 C6 L6 P6 H6 PP6 A6 HLk wp (fun z => absurd z (by decide)) (fun _ y u F => infeasible wp Hk.l hr bk nol F)), fun z => absurd z nr⟩⟩⟩
        · have ni : ¬ iI (i : Int) = iI (-1) := by
            rw [iI_eq ⟨by omega, by omega⟩ ⟨by omega, by omega⟩]
            omega
          have sp := step Dk wp bk hi li bi
          have pl' := pot_lt (nd := nV m h n) (pr := prV m h n) wp sp.2.1 (fun j hj => by unfold upH; split; exact hr; exact Hk.l j hj) sp.2.2
          rw [hN] at pl'
          refine ⟨_, x6, j_Ch_find_63 ⟨fun _ => j_Ch_find_74 ?_, fun z => absurd z ni⟩⟩
          rw [D6.f4, iI_cl (by omega) (by omega), Int.toNat_natCast, iI_add]
          have fw : fg (fun p k => p = c + 5 ∧ k = i) h6 (sI h6 (c + 5) i (iI (r : Int))) := fg.rf.wr ⟨rfl, rfl⟩
          refine ⟨D6.o, ix_of D6.z5 (by omega) (by omega) (by decide), ih _ pl' (st + 1) (r : Int) _ V6 (upH H i r) rfl (by omega) ⟨by omega, by omega⟩ (F6.wr (Or.inl (by omega))) (cl_sk D6 sk.rf.sI) (gt_fg hn8 T6 fw (fun p q u1 u2 => by omega)) (cv_fg C6 fw (fun p q u1 u2 z => by omega)) L6 (fun j hj => ?_) (fun x hx => ⟨by rw [fw.eq (by omega)]; exact (PP6 x hx).1, (PP6 x hx).2⟩) (fun x hx => by rw [fw.eq (by omega)]; exact A6 x hx) (fun x hx => ?_) sp.2.1 sp.1⟩
          · rw [mI_sI ⟨by omega, by omega⟩]
            unfold upH
            by_cases e : j = i
            · rw [if_pos ⟨rfl, e⟩, if_pos e]
              exact ⟨rfl, hr⟩
            · rw [if_neg (fun z => e z.2), if_neg e]
              exact H6 j hj
          · unfold upH
            by_cases e : x = i
            · rw [if_pos e]
              refine ⟨fun z => ?_, fun _ => lr⟩
              rw [e] at z
              have := dead_le hn8 HLk lr hi z
              omega
            · rw [if_neg e]
              exact HLk x hx
  have wy0 := start_wy (m := m) (n := n) (h := h)
  have wh0 : wh (sV m h n) (fun i => 8 + i) = 1 := by
    unfold wh dt3
    rw [wy0 0 (by decide) 0 (by decide), wy0 0 (by decide) 1 (by decide), wy0 0 (by decide) 2 (by decide)]
    simp [sV]
  refine ⟨x3, ?_⟩
  have := l32' _ 0 (-1) h3 V3 (fun i => 8 + i) rfl (by have := pot_le (s := sV m h n) (nd := nV m h n) (pr := prV m h n) (o := ow (sV m h n) (nV m h n) (fun i => 8 + i)) (w := wh (sV m h n) (fun i => 8 + i)); omega) ⟨by omega, by omega⟩ F3 D3 T3 C3 L3 H3 (fun x hx => ⟨(l33 x hx).2, pr_bd Q⟩) (fun x hx => (l33 x hx).1) (fun x hx => ⟨fun _ => rfl, fun z => Or.inr ⟨x, hx, z, Or.inl rfl⟩⟩) (by rw [wh0]; decide) ?_
  · exact this
  · intro i hi
    have p0 := pr_bd (m := m) (h := h) (n := n) Q (a := 0)
    have p1 := pr_bd (m := m) (h := h) (n := n) Q (a := 1)
    have p2 := pr_bd (m := m) (h := h) (n := n) Q (a := 2)
    have y0 := wy0 i hi 0 (by decide)
    have y1 := wy0 i hi 1 (by decide)
    have y2 := wy0 i hi 2 (by decide)
    unfold ln L4
    simp only [ob]
    rw [y0, y1, y2]
    match i, hi with
    | 0, _ => simp; omega
    | 1, _ => simp; omega
    | 2, _ => simp; omega
end FIND
