/-! what the model's reckoning depends on; Bounces: begin, goOn, reaches -/
/-- what is told is the same -/
def stq (m : Nat) (h g : jHp) : Prop := (∀ p, 5 ≤ p → p ≤ 16 → mI g (m + p) = mI h (m + p)) ∧ mI g m 19 = mI h m 19 ∧ mI g m 20 = mI h m 20 ∧ mI g m 21 = mI h m 21
theorem stq.rf {m : Nat} {h : jHp} : stq m h h := ⟨fun _ _ _ => rfl, rfl, rfl, rfl⟩
theorem stq.tr {m : Nat} {h g k : jHp} (a : stq m h g) (b : stq m g k) : stq m h k := ⟨fun p h1 h2 => (b.1 p h1 h2).trans (a.1 p h1 h2), b.2.1.trans a.2.1, b.2.2.1.trans a.2.2.1, b.2.2.2.trans a.2.2.2⟩
theorem stq.sy {m : Nat} {h g : jHp} (a : stq m h g) : stq m g h := ⟨fun p h1 h2 => (a.1 p h1 h2).symm, a.2.1.symm, a.2.2.1.symm, a.2.2.2.symm⟩
theorem stq_cu {m : Nat} {h g : jHp} (f : fg (cuS m) h g) : stq m h g := ⟨fun p h1 h2 => funext (fun k => cu_eq f h1 (by omega)), cu_f f (by omega), cu_f f (by omega), cu_f f (by omega)⟩
theorem stq_aw {m w t : Nat} {S : Nat → Nat → Prop} {h g : jHp} (f : ∀ p k, ¬ S p k → mI g p k = mI h p k) (a : awy S w t m) : stq m h g := ⟨fun p h1 h2 => funext (fun k => f _ _ (a _ _ (by omega))), f _ _ (a _ _ (by omega)), f _ _ (a _ _ (by omega)), f _ _ (a _ _ (by omega))⟩
section STQ
variable {m n : Nat} {h g : jHp}
theorem stq.em (e : stq m h g) : EM m g = EM m h := by
  funext t j
  unfold EM
  rw [e.1 11 (by decide) (by decide), e.1 10 (by decide) (by decide), e.1 16 (by decide) (by decide), e.2.2.2]
theorem stq.sc (e : stq m h g) {c : Nat} : sC m g c = sC m h c := by
  unfold sC
  rw [e.1 11 (by decide) (by decide), e.2.2.2]
theorem stq.sw (e : stq m h g) (S : SW m h n) : SW m g n := by
  unfold SW at *
  rw [e.1 11 (by decide) (by decide), e.1 10 (by decide) (by decide), e.1 16 (by decide) (by decide), e.2.2.2, e.2.2.1]
  exact S
theorem stq.so (e : stq m h g) (S : SO m h n) : SO m g n := by
  unfold SO at *
  rw [e.1 12 (by decide) (by decide)]
  exact S
theorem stq.sn (e : stq m h g) (S : SN m h n) : SN m g n := by
  unfold SN at *
  rw [e.1 13 (by decide) (by decide)]
  exact S
theorem stq.pv (e : stq m h g) {i j : Nat} : pV m g n i j = pV m h n i j := by
  unfold pV
  rw [e.em, e.sc]
theorem stq.dv (e : stq m h g) : dV m g n = dV m h n := by
  unfold dV
  rw [e.em]
theorem stq.lv (e : stq m h g) {p : Nat} : lV m g n p = lV m h n p := by
  unfold lV
  exact sm_congr (fun j _ => by rw [e.pv, e.1 12 (by decide) (by decide)])
theorem stq.gs (e : stq m h g) {p k : Nat} {b : Int} : gS m g n p b k = gS m h n p b k := by
  unfold gS
  exact sm_congr (fun j _ => by rw [e.pv, e.1 12 (by decide) (by decide), e.1 9 (by decide) (by decide)])
theorem stq.bl (e : stq m h g) : ∀ k, bL m g k = bL m h k
  | 0 => rfl
  | k + 1 => by rw [bL_s, bL_s, stq.bl e k, e.1 11 (by decide) (by decide)]
theorem stq.bb (e : stq m h g) : bB m g n = bB m h n := by
  unfold bB
  rw [e.bl, e.2.2.2]
theorem stq.bu (e : stq m h g) : ∀ t, bU m g n t = bU m h n t
  | 0 => rfl
  | t + 1 => by rw [bU, bU, stq.bu e t, e.bb]
theorem stq.bw (e : stq m h g) {i : Nat} : bW m g n i = bW m h n i := by
  unfold bW
  rw [e.bb, e.1 10 (by decide) (by decide), e.1 11 (by decide) (by decide), e.2.2.2]
theorem stq.bn (e : stq m h g) : ∀ t i, bN m g n t i = bN m h n t i
  | 0, i => by rw [bN, bN, e.1 12 (by decide) (by decide)]
  | t + 1, i => by
    rw [bN, bN, e.bu, e.bw, e.1 12 (by decide) (by decide)]
    congr 2
    exact sm_congr (fun j _ => by rw [e.1 16 (by decide) (by decide), stq.bn e t j])
theorem stq.eg (e : stq m h g) {p : Nat} : ∀ d t, eG m g n p d t = eG m h n p d t
  | 0, t => by
    rw [eG, eG]
    unfold eZ
    rw [e.lv, e.dv, e.1 13 (by decide) (by decide)]
  | d + 1, t => by rw [eG, eG, e.bu, e.bn, e.1 13 (by decide) (by decide), stq.eg e d (t + 1)]
theorem stq.mw (e : stq m h g) : mwE m h g := fun p k hp => by
  rcases hp with rfl | rfl | rfl | rfl
  · rw [e.1 5 (by decide) (by decide)]
  · rw [e.1 6 (by decide) (by decide)]
  · rw [e.1 7 (by decide) (by decide)]
  · rw [e.1 8 (by decide) (by decide)]
end STQ
theorem bg_w0 {r c b : Nat} {h h' : jHp} {v : Int} (B : BG r c h v) (f : wg b (fun _ _ => False) h h') (h1 : c ≠ b) : BG r c h' v := bg_wg B f h1 (fun _ => ⟨fun z => z, fun z => z⟩)
section BOUN
variable {b w t m n : Nat} {h : jHp}
/-- u bounces have been -/
def BT (b m n : Nat) (h g : jHp) (u : Nat) : Prop := ∃ s, BL b s g ∧ BNs b g ∧ gL g b 7 = lI (bL m h n : Int) ∧ BG 28 (b + 3) g (bU m h n u) ∧ BG 10 (b + 5) g (bB m h n) ∧ ∀ i, i < n → BG 28 (bp b s i) g (bN m h n u i)
theorem bns_L {g : jHp} {v : Int64} (N : BNs b g) : BNs b (sL g b 7 v) := N
theorem bl_L {g : jHp} {v : Int64} {s : Nat} (N : BL b s g) : BL b s (sL g b 7 v) := N
theorem bg_L {g : jHp} {v : Int64} {r c : Nat} {x : Int} (N : BG r c g x) : BG r c (sL g b 7 v) x := N
theorem fb_bo {c p k : Nat} (hc : b + 3 ≤ c) (hc2 : c ≤ b + 43) (z : fbS c p k) : boS b p k := by
  unfold fbS at z
  unfold boS
  omega
theorem bpl {s i : Nat} (hs : s < 2) (hi : i < 8) : b + 13 ≤ bp b s i ∧ bp b s i ≤ b + 43 := by
  unfold bp
  omega
theorem c_Bbegin {s : Nat} (W : WL w h) (C : CW w m h) (S : SW m h n) (O : SO m h n) (a : awy (boS b) w t m) (B : BL b s h) (N : BNs b h) : jRet 29 0 0 [.ref b, .ref w, .int (iI (mI h m 21))] h (fun q h' => q = none ∧ wg b (boS b) h h' ∧ BT b m n h h' 0) := by
  have hn8 := S.2.1
  have s3 := S.2.2.1
  have s4 := S.2.2.2.1
  have nb : ∀ p, (w ≤ p ∧ p ≤ w + 12 ∨ t ≤ p ∧ p ≤ t + 9 ∨ m ≤ p ∧ p ≤ m + 27) → p ≠ b := fun p hp z => a p 0 hp (by unfold boS; omega)
  have hs := B.1
  have bL8 : ∀ k, k ≤ n → 0 < bL m h k ∧ bL m h k ≤ 10000000000000000 := fun k hk => by
    obtain ⟨a1, a2⟩ := bL_bd S k hk
    exact ⟨a1, Nat.le_trans a2 (Nat.le_trans (Nat.pow_le_pow_right (by decide) (show k ≤ 8 by omega)) (by decide))⟩
  have l60 : ∀ g : jHp, wg b (boS b) h g → BL b s g → BNs b g → gL g b 7 = lI (bL m h n : Int) → (∀ j, j < n → BG 28 (bp b s j) g (bN m h n 0 j)) → J 29 60 0 0 [.ref b, uu, .int (iI (mI h m 21)), uu] [] g (fun q h' => q = none ∧ wg b (boS b) h h' ∧ BT b m n h h' 0) := by
    intro g f Bg Ng Lg Vg
    obtain ⟨v3, V3⟩ := Ng.1
    refine j_Bo_begin_60 ?_
    rw [Bg.2.2.2.2.1]
    refine ⟨Bg.2.1, V3.1.1, jRet_mono (c_Bset (x := ((1 : Nat) : Int)) V3 (by omega) (by decide)) ?_⟩
    intro q1 h1 w1
    obtain ⟨e1, f1, V1⟩ := w1
    have B1 := bl_sk Bg f1.1
    have N1 := bns_fg Ng f1 V1 (by omega)
    obtain ⟨v5, V5⟩ := N1.2.1
    have bl := bL8 n (Nat.le_refl n)
    rw [B1.2.2.2.2.2.1, f1.1.l, Lg]
    refine ⟨e1, B1.2.1, B1.2.1, V5.1.1, jRet_mono (c_Bset (x := ((bL m h n : Nat) : Int)) V5 (by omega) (sz6b (s := 10) (by rw [Int.natAbs_natCast]; exact Nat.le_trans bl.2 (by decide)) (by decide))) ?_⟩
    intro q2 h2 w2
    obtain ⟨e2, f2, V2⟩ := w2
    have B2 := bl_sk B1 f2.1
    have N2 := bns_fg N1 f2 V2 (by omega)
    obtain ⟨pp, hpp⟩ : ∃ pp : Nat, mI h m 21 = (pp : Int) := ⟨(mI h m 21).toNat, by omega⟩
    have bb := bB_k S (Nat.le_refl n)
    have ebb : bB m h n = (bL m h n : Int) * (pp : Int) := by
      unfold bB
      rw [hpp, Int.mul_comm]
    have ezz : ((bL m h n : Nat) : Int).natAbs * pp = (bB m h n).natAbs := by
      rw [ebb, ← Int.natCast_mul, Int.natAbs_natCast, Int.natAbs_natCast]
    rw [B2.2.2.2.2.2.1, hpp]
    refine ⟨e2, B2.2.1, V2.1.1, jRet_mono (c_Btimes V2 (by omega) (by rw [ezz]; exact sz6b (Nat.le_trans bb.2 (by decide)) (by decide))) ?_⟩
    intro q3 h3 w3
    obtain ⟨e3, f3, V4⟩ := w3
    rw [← ebb] at V4
    have B3 := bl_sk B2 f3.1
    have N3 := bns_fg N2 f3 V4 (by omega)
    refine ⟨e3, rfl, ?_, s, B3, N3, ?_, ?_, V4, fun i hi => ?_⟩
    · exact ((f.tr (fg_wg (f1.mo (fun p k z => fb_bo (by omega) (by omega) z)))).tr (fg_wg (f2.mo (fun p k z => fb_bo (by omega) (by omega) z)))).tr (fg_wg (f3.mo (fun p k z => fb_bo (by omega) (by omega) z)))
    · rw [f3.1.l, f2.1.l, f1.1.l]
      exact Lg
    · exact bg_fg (bg_fg V1 f2 (fun q => by unfold fbS; omega)) f3 (fun q => by unfold fbS; omega)
    · exact bg_fg (bg_fg (bg_fg (Vg i hi) f1 (fun q => by unfold fbS bp; omega)) f2 (fun q => by unfold fbS bp; omega)) f3 (fun q => by unfold fbS bp; omega)
  have l7 : ∀ (d i : Nat) (g : jHp), i + d = n → wg b (boS b) h g → BL b s g → BNs b g → gL g b 7 = lI (bL m h i : Int) → (∀ j, j < i → BG 28 (bp b s j) g (bN m h n 0 j)) → J 29 7 0 0 [.ref b, .ref w, .int (iI (mI h m 21)), .int (iI i)] [] g (fun q h' => q = none ∧ wg b (boS b) h h' ∧ BT b m n h h' 0) := by
    intro d
    induction d with
    | zero =>
      intro i g hi f Bg Ng Lg Vg
      obtain rfl : i = n := by omega
      have Wg := wl_wb W f.1 (nb _ (by omega)) (nb _ (by omega))
      refine j_Bo_begin_7 ?_
      rw [gI_mI g w 4, f.eq (a _ _ (by omega)), C.2.1, S.1, iI_le ⟨by omega, by omega⟩ ⟨by omega, by omega⟩]
      exact ⟨Wg.1, fun _ => l60 g f Bg Ng Lg Vg, fun z => absurd (Int.le_refl _) z⟩
    | succ d ih =>
      intro i g hi f Bg Ng Lg Vg
      have hin : i < n := by omega
      have Wg := wl_wb W f.1 (nb _ (by omega)) (nb _ (by omega))
      have wi := Wg.2.2.2.2.2.2.2.2.2 i (by omega)
      have ci := C.2.2.2 i (by omega)
      have oi := O i hin
      have s5 := S.2.2.2.2.1 i hin
      have nw := Bg.now (i := i) (by omega)
      have ir := ixR_of (a := (i : Int)) Wg.2.2.2.2.2.2.1 (Or.inr (Or.inr rfl)) (by omega) (by omega) (by decide)
      obtain ⟨v0, V0⟩ := Ng.2.2.2.2.2 s i (by omega) (by omega)
      have hbp := bpl (b := b) (s := s) (i := i) (by omega) (by omega)
      refine j_Bo_begin_7 ?_
      rw [gI_mI g w 4, f.eq (a _ _ (by omega)), C.2.1, S.1, iI_le ⟨by omega, by omega⟩ ⟨by omega, by omega⟩, Wg.2.2.2.2.2.1, iI_cl (by omega) (by omega), Int.toNat_natCast, wi.1, nw.1, gI_mI g (w + 5 + i) 5, f.eq (a _ _ (by omega)), ci.2.2.2.2.2.1, iI_64 ⟨by omega, by omega⟩]
      refine ⟨Wg.1, fun z => by omega, fun _ => ⟨Bg.2.1, ixR_of nw.2 (Or.inr (Or.inl rfl)) (by omega) (by omega) (by decide), Wg.1, ir, wi.2, V0.1.1, jRet_mono (c_Bset V0 (by omega) (sz6b (s := 28) (Nat.le_trans (show (mI h (m + 12) i).natAbs ≤ 10000 by omega) (by decide)) (by decide))) ?_⟩⟩
      intro q1 h1 w1
      obtain ⟨e1, f1, V1⟩ := w1
      have B1 := bl_sk Bg f1.1
      have N1 := bns_fg Ng f1 V1 (Or.inr (Or.inr (Or.inr (Or.inr (Or.inr ⟨s, i, by omega, by omega, rfl, rfl⟩)))))
      have f1' : wg b (boS b) h h1 := f.tr (fg_wg (f1.mo (fun p k z => fb_bo (by omega) (by omega) z)))
      have W1 := wl_wb W f1'.1 (nb _ (by omega)) (nb _ (by omega))
      have wi1 := W1.2.2.2.2.2.2.2.2.2 i (by omega)
      have ir1 := ixR_of (a := (i : Int)) W1.2.2.2.2.2.2.1 (Or.inr (Or.inr rfl)) (by omega) (by omega) (by decide)
      obtain ⟨dd, hd⟩ : ∃ dd : Nat, mI h (m + 11) i = (dd : Int) := ⟨(mI h (m + 11) i).toNat, by omega⟩
      rw [f1.1.l, Lg, W1.2.2.2.2.2.1, wi1.1, gI_mI h1 (w + 5 + i) 4, f1'.eq (a _ _ (by omega)), ci.2.2.2.2.1, hd]
      have bl := bL8 i (by omega)
      refine ⟨e1, B1.2.1, W1.1, ir1, wi1.2, jRet_mono (c_Bcm bl.1 bl.2 (by omega) (by omega)) ?_⟩
      intro q2 h2 w2
      obtain ⟨e2, e3⟩ := w2
      rw [e3]
      refine ⟨_, e2, B1.2.1, ?_⟩
      rw [iI_add]
      refine ih (i + 1) _ (by omega) (wg_L f1') (bl_L B1) (bns_L N1) ?_ (fun j hj => bg_L ?_)
      · rw [gL_sL, if_pos ⟨rfl, rfl⟩, bL_s, hd, Int.toNat_natCast]
      · by_cases c : j = i
        · rw [c, bN]
          exact V1
        · exact bg_fg (Vg j (by omega)) f1 (fun q => by unfold fbS bp; omega)
  refine jRet_of (by decide) (by decide) (Nat.le_of_ble_eq_true rfl) (j_Bo_begin_0 ⟨B.2.1, ?_⟩)
  refine l7 n 0 _ (by omega) (wg_L wg.rf) (bl_L B) (bns_L N) ?_ (fun j hj => by omega)
  rw [gL_sL, if_pos ⟨rfl, rfl⟩]
  rfl
theorem c_BgoOn {u : Nat} {g : jHp} (W : WL w h) (T : TL t h) (C : CW w m h) (CT' : CT t m h) (S : SW m h n) (O : SO m h n) (a : awy (boS b) w t m) (f : wg b (boS b) h g) (BB : BT b m n h g u) (hu : u ≤ 5) : jRet 31 0 0 [.ref b, .ref w, .ref t] g (fun q h' => q = none ∧ wg b (boS b) h h' ∧ BT b m n h h' (u + 1)) := by
  have hn8 := S.2.1
  obtain ⟨s, Bg, Ng, Lg, U3, U5, Vg⟩ := BB
  have hs := Bg.1
  have nb : ∀ p, (w ≤ p ∧ p ≤ w + 12 ∨ t ≤ p ∧ p ≤ t + 9 ∨ m ≤ p ∧ p ≤ m + 27) → p ≠ b := fun p hp z => a p 0 hp (by unfold boS; omega)
  have bu := bU_bd S u
  have bu1 := bU_bd S (u + 1)
  have bb := bB_k S (Nat.le_refl n)
  have z1 : sz B6 (bU m h n u).natAbs ≤ 16 := sz6b (Nat.le_trans bu.2 (Nat.pow_le_pow_right (by decide) (by omega))) (by decide)
  have z2 : sz B6 (bB m h n).natAbs ≤ 4 := sz6b (Nat.le_trans bb.2 (by decide)) (by decide)
  have z3 : sz B6 (bU m h n (u + 1)).natAbs ≤ 28 := sz6b (Nat.le_trans bu1.2 (Nat.pow_le_pow_right (by decide) (by omega))) (by decide)
  obtain ⟨v11, V11⟩ := Ng.2.2.2.2.1
  have l49 : ∀ k : jHp, wg b (boS b) h k → BL b s k → BNs b k → gL k b 7 = lI (bL m h n : Int) → BG 28 (b + 3) k (bU m h n (u + 1)) → BG 10 (b + 5) k (bB m h n) → (∀ j, j < n → BG 28 (bp b (1 - s) j) k (bN m h n (u + 1) j)) → J 31 49 0 0 [.ref b, uu, uu, uu] [] k (fun q h' => q = none ∧ wg b (boS b) h h' ∧ BT b m n h h' (u + 1)) := by
    intro k fk Bk Nk Lk K3 K5 Vk
    obtain ⟨b0, b1, b2, b3, b4, b5, b6, b7, b8, b9, b10, b11⟩ := Bk
    obtain ⟨k', hk'⟩ : ∃ k', k' = sR (sR k b 0 (gR k b 1)) b 1 (gR k b 0) := ⟨_, rfl⟩
    have wk : wg b (fun _ _ => False) k k' := by
      rw [hk']
      refine ⟨⟨rfl, fun p j hp => ?_⟩, fun p j _ => rfl⟩
      rw [gR_sR, if_neg (fun z => hp ⟨z.1, by omega⟩), gR_sR, if_neg (fun z => hp ⟨z.1, by omega⟩)]
    have Bk' : BL b (1 - s) k' := by
      have r0 : gR k' b 0 = gR k b 1 := by
        rw [hk', gR_sR, if_neg (fun z => by omega), gR_sR, if_pos ⟨rfl, rfl⟩]
      have r1 : gR k' b 1 = gR k b 0 := by
        rw [hk', gR_sR, if_pos ⟨rfl, rfl⟩]
      have rr : ∀ p j, ¬ (p = b ∧ j < 2) → gR k' p j = gR k p j := wk.1.2
      refine ⟨by omega, ?_, by rw [r0, b3]; omega, by rw [r1, b2]; omega, by rw [rr _ _ (by omega)]; exact b4, by rw [rr _ _ (by omega)]; exact b5, by rw [rr _ _ (by omega)]; exact b6, by rw [rr _ _ (by omega)]; exact b7, by rw [rr _ _ (by omega)]; exact b8, by rw [wk.1.z]; exact b9, by rw [wk.1.z]; exact b10, fun i hi => ?_⟩
      · unfold isO at *
        rw [wk.1.z]
        exact b1
      · rw [rr _ _ (by omega), rr _ _ (by omega)]
        exact b11 i hi
    have Nk' : BNs b k' := by
      obtain ⟨⟨u1, U1⟩, ⟨u2, U2⟩, ⟨u3, U3⟩, ⟨u4, U4⟩, ⟨u5, U5⟩, U6⟩ := Nk
      refine ⟨⟨_, bg_w0 U1 wk (by omega) ⟩, ⟨_, bg_w0 U2 wk (by omega) ⟩, ⟨_, bg_w0 U3 wk (by omega) ⟩, ⟨_, bg_w0 U4 wk (by omega) ⟩, ⟨_, bg_w0 U5 wk (by omega) ⟩, fun s i hs hi => ?_⟩
      obtain ⟨x, X⟩ := U6 s i hs hi
      exact ⟨x, bg_w0 X wk (by unfold bp; omega) ⟩
    refine j_Bo_goOn_49 ⟨b1, b1, b1, b1, j_Bo_goOn_67 ⟨rfl, ?_, 1 - s, ?_, ?_, ?_, ?_, ?_, fun i hi => ?_⟩⟩
    · rw [← hk']
      exact fk.tr (wk.mo (fun _ _ z => z.elim))
    · rw [← hk']
      exact Bk'
    · rw [← hk']
      exact Nk'
    · exact Lk
    · rw [← hk']
      exact bg_w0 K3 wk (by omega)
    · rw [← hk']
      exact bg_w0 K5 wk (by omega)
    · rw [← hk']
      exact bg_w0 (Vk i hi) wk (by unfold bp; omega)
  have l28 : ∀ (d i : Nat) (k : jHp), i + d = n → wg b (boS b) h k → BL b s k → BNs b k → gL k b 7 = lI (bL m h n : Int) → BG 28 (b + 3) k (bU m h n (u + 1)) → BG 10 (b + 5) k (bB m h n) → (∀ j, j < n → BG 28 (bp b s j) k (bN m h n u j)) → (∀ j, j < i → BG 28 (bp b (1 - s) j) k (bN m h n (u + 1) j)) → J 31 28 0 0 [.ref b, .ref w, .ref t, .int (iI i)] [] k (fun q h' => q = none ∧ wg b (boS b) h h' ∧ BT b m n h h' (u + 1)) := by
    intro d
    induction d with
    | zero =>
      intro i k hi fk Bk Nk Lk K3 K5 Vk Xk
      obtain rfl : i = n := by omega
      have Wk := wl_wb W fk.1 (nb _ (by omega)) (nb _ (by omega))
      refine j_Bo_goOn_28 ?_
      rw [gI_mI k w 4, fk.eq (a _ _ (by omega)), C.2.1, S.1, iI_le ⟨by omega, by omega⟩ ⟨by omega, by omega⟩]
      exact ⟨Wk.1, fun _ => l49 k fk Bk Nk Lk K3 K5 Xk, fun z => absurd (Int.le_refl _) z⟩
    | succ d ih =>
      intro i k hi fk Bk Nk Lk K3 K5 Vk Xk
      have hin : i < n := by omega
      have Wk := wl_wb W fk.1 (nb _ (by omega)) (nb _ (by omega))
      have Tk := tl_wb T fk.1 (nb _ (by omega)) (nb _ (by omega))
      have st : stq m h k := stq_aw (fun p q hp => fk.eq hp) a
      have ew : ∀ p q, (w ≤ p ∧ p ≤ w + 12 ∨ t ≤ p ∧ p ≤ t + 9 ∨ m ≤ p ∧ p ≤ m + 27) → mI k p q = mI h p q := fun p q hp => fk.eq (a _ _ hp)
      have Ck : CW w m k := by
        obtain ⟨c1, c2, c3, c4⟩ := C
        refine ⟨by rw [ew _ _ (by omega), ew m _ (by omega)]; exact c1, by rw [ew _ _ (by omega), ew m _ (by omega)]; exact c2, fun j hj => ?_, fun j hj => ?_⟩
        · rw [ew (w + 1) _ (by omega), ew (w + 2) _ (by omega), ew (m + 5) _ (by omega), ew (m + 6) _ (by omega)]
          exact c3 j hj
        · have e := fun q => ew (w + 5 + j) q (by omega)
          rw [e, e, e, e, e, e, e, e, e, ew (m + 9) _ (by omega), ew (m + 7) _ (by omega), ew (m + 8) _ (by omega), ew (m + 10) _ (by omega), ew (m + 11) _ (by omega), ew (m + 12) _ (by omega), ew (m + 13) _ (by omega), ew (m + 14) _ (by omega), ew (m + 15) _ (by omega)]
          exact c4 j hj
      have CTk : CT t m k := by
        obtain ⟨c1, c2⟩ := CT'
        refine ⟨by rw [ew _ _ (by omega), ew m _ (by omega)]; exact c1, fun j j' h1 h2 => ?_⟩
        rw [ew _ _ (by omega), ew (m + 16) _ (by omega)]
        exact c2 j j' h1 h2
      have key := c_Bat (i := i) (u := u) Wk Tk Ck CTk (st.sw S) (st.so O) a Bk Nk (by rw [st.bl]; exact Lk) (by rw [st.bu]; exact K3) (fun j hj => by rw [st.bn]; exact Vk j hj) hu hin
      rw [st.bn] at key
      refine j_Bo_goOn_28 ?_
      rw [gI_mI k w 4, ew _ _ (by omega), C.2.1, S.1, iI_le ⟨by omega, by omega⟩ ⟨by omega, by omega⟩]
      refine ⟨Wk.1, fun z => by omega, fun _ => ⟨Bk.2.1, jRet_mono key ?_⟩⟩
      intro q1 h1 w1
      obtain ⟨e1, f1, V1, N1⟩ := w1
      refine ⟨e1, ?_⟩
      rw [iI_add]
      refine ih (i + 1) h1 (by omega) (fk.tr (fg_wg (f1.mo (fun p q z => ?_)))) (bl_sk Bk f1.1) N1 ?_ ?_ ?_ (fun j hj => ?_) (fun j hj => ?_)
      · unfold fbS bp at z
        unfold boS
        omega
      · rw [f1.1.l]
        exact Lk
      · exact bg_fg K3 f1 (fun q => by unfold fbS bp; omega)
      · exact bg_fg K5 f1 (fun q => by unfold fbS bp; omega)
      · exact bg_fg (Vk j hj) f1 (fun q => by unfold fbS bp; omega)
      · by_cases c : j = i
        · rw [c]
          exact V1
        · exact bg_fg (Xk j (by omega)) f1 (fun q => by unfold fbS bp; omega)
  refine jRet_of (by decide) (by decide) (Nat.le_of_ble_eq_true rfl) (j_Bo_goOn_0 ?_)
  rw [Bg.2.2.2.2.2.2.2.2.1, Bg.2.2.2.2.1, Bg.2.2.2.2.2.1]
  refine ⟨Bg.2.1, Bg.2.1, Bg.2.1, V11.1.1, jRet_mono (c_BsetProduct V11 U3 U5 (by omega) (by omega) (by omega)) ?_⟩
  intro q1 h1 w1
  obtain ⟨e1, f1, V1⟩ := w1
  have eU : bU m h n u * bB m h n = bU m h n (u + 1) := rfl
  rw [eU] at V1
  have B1 := bl_sk Bg f1.1
  have N1 := bns_fg Ng f1 V1 (by omega)
  have U31 := bg_fg U3 f1 (fun q => by unfold fbS; omega)
  rw [B1.2.2.2.2.1, B1.2.2.2.2.2.2.2.2.1]
  refine ⟨e1, B1.2.1, B1.2.1, U31.1.1, jRet_mono (c_Bcopy U31 V1 (by omega) z3) ?_⟩
  intro q2 h2 w2
  obtain ⟨e2, f2, V2⟩ := w2
  refine ⟨e2, l28 n 0 h2 (by omega) ?_ (bl_sk B1 f2.1) (bns_fg N1 f2 V2 (by omega)) ?_ V2 ?_ (fun j hj => ?_) (fun j hj => by omega)⟩
  · exact (f.tr (fg_wg (f1.mo (fun p k z => fb_bo (by omega) (by omega) z)))).tr (fg_wg (f2.mo (fun p k z => fb_bo (by omega) (by omega) z)))
  · rw [f2.1.l, f1.1.l]
    exact Lg
  · exact bg_fg (bg_fg U5 f1 (fun q => by unfold fbS; omega)) f2 (fun q => by unfold fbS; omega)
  · exact bg_fg (bg_fg (Vg j hj) f1 (fun q => by unfold fbS bp; omega)) f2 (fun q => by unfold fbS bp; omega)
theorem c_Breaches {u p : Nat} {g : jHp} (W : WL w h) (C : CW w m h) (S : SW m h n) (O : SO m h n) (N : SN m h n) (a : awy (boS b) w t m) (f : wg b (boS b) h g) (BB : BT b m n h g u) (hu : u ≤ 6) (hp : p < n) : jRet 33 0 0 [.ref b, .int (iI p), .ref w] g (fun q h' => (mI h (m + 13) p * bU m h n u ≤ bN m h n u p ∧ q = some (.int (iI 1)) ∨ ¬ mI h (m + 13) p * bU m h n u ≤ bN m h n u p ∧ q = some (.int (iI 0))) ∧ wg b (boS b) h h' ∧ BT b m n h h' u) := by
  have hn8 := S.2.1
  obtain ⟨s, Bg, Ng, Lg, U3, U5, Vg⟩ := BB
  have hs := Bg.1
  have nb : ∀ p, (w ≤ p ∧ p ≤ w + 12 ∨ t ≤ p ∧ p ≤ t + 9 ∨ m ≤ p ∧ p ≤ m + 27) → p ≠ b := fun p hp z => a p 0 hp (by unfold boS; omega)
  have bu := bU_bd S u
  have sn := N p hp
  obtain ⟨v11, V11⟩ := Ng.2.2.2.2.1
  have z1 : sz B6 (bU m h n u).natAbs ≤ 28 := sz6b (Nat.le_trans bu.2 (Nat.pow_le_pow_right (by decide) (by omega))) (by decide)
  refine jRet_of (by decide) (by decide) (Nat.le_of_ble_eq_true rfl) (j_Bo_reaches_0 ?_)
  rw [Bg.2.2.2.2.2.2.2.2.1, Bg.2.2.2.2.1]
  refine ⟨Bg.2.1, Bg.2.1, V11.1.1, jRet_mono (c_Bcopy V11 U3 (by omega) z1) ?_⟩
  intro q1 h1 w1
  obtain ⟨e1, f1, V1⟩ := w1
  have B1 := bl_sk Bg f1.1
  have N1 := bns_fg Ng f1 V1 (by omega)
  have f1' : wg b (boS b) h h1 := f.tr (fg_wg (f1.mo (fun p k z => fb_bo (by omega) (by omega) z)))
  have W1 := wl_wb W f1'.1 (nb _ (by omega)) (nb _ (by omega))
  have wi1 := W1.2.2.2.2.2.2.2.2.2 p (by omega)
  have ir1 := ixR_of (a := (p : Int)) W1.2.2.2.2.2.2.1 (Or.inr (Or.inr rfl)) (by omega) (by omega) (by decide)
  obtain ⟨x, hx⟩ : ∃ x : Nat, mI h (m + 13) p = (x : Int) := ⟨(mI h (m + 13) p).toNat, by omega⟩
  obtain ⟨y, hy⟩ : ∃ y : Nat, bU m h n u = (y : Int) := ⟨(bU m h n u).toNat, by omega⟩
  have bu2 : y ≤ 10 ^ 114 := by
    have := bu.2
    rw [hy, Int.natAbs_natCast] at this
    exact Nat.le_trans this (Nat.pow_le_pow_right (by decide) (by omega))
  rw [B1.2.2.2.2.2.2.2.2.1, W1.2.2.2.2.2.1, iI_cl (by omega) (by omega), Int.toNat_natCast, wi1.1, gI_mI h1 (w + 5 + p) 6, f1'.eq (a _ _ (by omega)), (C.2.2.2 p (by omega)).2.2.2.2.2.2.1, hx]
  rw [hy] at V1
  refine ⟨e1, B1.2.1, W1.1, ir1, wi1.2, V1.1.1, jRet_mono (c_Btimes V1 (by omega) (by rw [Int.natAbs_natCast]; exact sz6b (Nat.le_trans (Nat.mul_le_mul bu2 (show x ≤ 100000 by omega)) (by decide)) (by decide))) ?_⟩
  intro q2 h2 w2
  obtain ⟨e2, f2, V2⟩ := w2
  have B2 := bl_sk B1 f2.1
  have N2 := bns_fg N1 f2 V2 (by omega)
  have nw := B2.now (i := p) (by omega)
  have Vp := bg_fg (bg_fg (Vg p hp) f1 (fun q => by unfold fbS bp; omega)) f2 (fun q => by unfold fbS bp; omega)
  rw [nw.1, B2.2.2.2.2.2.2.2.2.1]
  refine ⟨e2, B2.2.1, ixR_of nw.2 (Or.inr (Or.inl rfl)) (by omega) (by omega) (by decide), B2.2.1, Vp.1.1, jRet_mono (c_Bcmp Vp V2) ?_⟩
  intro q3 h3 w3
  obtain ⟨e3, e4⟩ := w3
  rw [e4]
  have fin : wg b (boS b) h h2 ∧ BT b m n h h2 u := by
    refine ⟨f1'.tr (fg_wg (f2.mo (fun p k z => fb_bo (by omega) (by omega) z))), s, B2, N2, ?_, ?_, ?_, fun i hi => ?_⟩
    · rw [f2.1.l, f1.1.l]
      exact Lg
    · exact bg_fg (bg_fg U3 f1 (fun q => by unfold fbS; omega)) f2 (fun q => by unfold fbS; omega)
    · exact bg_fg (bg_fg U5 f1 (fun q => by unfold fbS; omega)) f2 (fun q => by unfold fbS; omega)
    · exact bg_fg (bg_fg (Vg i hi) f1 (fun q => by unfold fbS bp; omega)) f2 (fun q => by unfold fbS bp; omega)
  have bn := bN_nn S O u p hp
  have ec : cmpN (bN m h n u p).natAbs ((y : Int) * (x : Int)).natAbs < 0 ↔ ¬ mI h (m + 13) p * bU m h n u ≤ bN m h n u p := by
    rw [hx, hy, Int.mul_comm (x : Int), ← Int.natCast_mul, Int.natAbs_natCast]
    unfold cmpN
    generalize y * x = z
    split
    · exact ⟨fun _ => by omega, fun _ => by decide⟩
    · split
      · exact ⟨fun q => absurd q (by decide), fun q => by omega⟩
      · exact ⟨fun q => absurd q (by decide), fun q => by omega⟩
  have rc : rI (cmpN (bN m h n u p).natAbs ((y : Int) * (x : Int)).natAbs) := by
    unfold cmpN
    split
    · exact ⟨by omega, by omega⟩
    · split <;> exact ⟨by omega, by omega⟩
  refine ⟨_, e3, ?_⟩
  rw [iI_0, iI_lt rc ⟨by omega, by omega⟩, ec, ← hx]
  exact ⟨fun z => j_Bo_reaches_47 (j_Bo_reaches_48 ⟨Or.inl rfl, Or.inr ⟨z, rfl⟩, fin⟩), fun z => j_Bo_reaches_48 ⟨Or.inr rfl, Or.inl ⟨Classical.byContradiction z, rfl⟩, fin⟩⟩
end BOUN
