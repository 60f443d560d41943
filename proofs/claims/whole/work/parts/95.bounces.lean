/-! Bounces: a wider frame (a long is written, two rows change places) -/
def wb (b : Nat) (h h' : jHp) : Prop := h'.1 = h.1 ∧ ∀ p k, ¬ (p = b ∧ k < 2) → gR h' p k = gR h p k
theorem wb.rf {b : Nat} {h : jHp} : wb b h h := ⟨rfl, fun _ _ _ => rfl⟩
theorem wb.tr {b : Nat} {h h' h'' : jHp} (f : wb b h h') (g : wb b h' h'') : wb b h h'' := ⟨g.1.trans f.1, fun p k q => (g.2 p k q).trans (f.2 p k q)⟩
theorem sk_wb {b : Nat} {h h' : jHp} (s : sk h h') : wb b h h' := ⟨s.1, fun p k _ => by rw [s.r]⟩
theorem wb.z {b : Nat} {h h' : jHp} (f : wb b h h') : jz h' = jz h := by unfold jz; rw [f.1]
theorem wb.e {b : Nat} {h h' : jHp} (f : wb b h h') {p k : Nat} (hp : p ≠ b) : gR h' p k = gR h p k := f.2 p k (fun z => hp z.1)
theorem wl_wb {w b : Nat} {h h' : jHp} (W : WL w h) (f : wb b h h') (h1 : w ≠ b) (h2 : w + 3 ≠ b) : WL w h' := by
  have e1 : ∀ k, gR h' w k = gR h w k := fun k => f.e h1
  have e2 : ∀ k, gR h' (w + 3) k = gR h (w + 3) k := fun k => f.e h2
  unfold WL isO at *
  rw [f.z]
  simp only [e1, e2]
  exact W
theorem tl_wb {t b : Nat} {h h' : jHp} (T : TL t h) (f : wb b h h') (h1 : t ≠ b) (h2 : t + 1 ≠ b) : TL t h' := by
  have e1 : ∀ k, gR h' t k = gR h t k := fun k => f.e h1
  have e2 : ∀ k, gR h' (t + 1) k = gR h (t + 1) k := fun k => f.e h2
  unfold TL isO at *
  rw [f.z]
  simp only [e1, e2]
  exact T
theorem gl_wb {g b : Nat} {h h' : jHp} (G : GL g h) (f : wb b h h') (h1 : g ≠ b) (h2 : g + 1 ≠ b) : GL g h' := by
  have e1 : ∀ k, gR h' g k = gR h g k := fun k => f.e h1
  have e2 : ∀ k, gR h' (g + 1) k = gR h (g + 1) k := fun k => f.e h2
  unfold GL isO at *
  rw [f.z]
  simp only [e1, e2]
  exact G
theorem mo_wb {m b : Nat} {h h' : jHp} (M : Mo m h) (f : wb b h h') (h1 : m ≠ b) : Mo m h' := by
  have e1 : ∀ k, gR h' m k = gR h m k := fun k => f.e h1
  unfold Mo isO at *
  rw [f.z]
  simp only [e1]
  exact M
theorem bo_wb {r c b : Nat} {h h' : jHp} (B : BO r c h) (f : wb b h h') (h1 : c ≠ b) : BO r c h' := by
  have e1 : ∀ k, gR h' c k = gR h c k := fun k => f.e h1
  unfold BO isO at *
  rw [f.z]
  simp only [e1]
  exact B
def wg (b : Nat) (S : Nat → Nat → Prop) (h h' : jHp) : Prop := wb b h h' ∧ ∀ p k, ¬ S p k → gI h' p k = gI h p k
theorem wg.rf {b : Nat} {S : Nat → Nat → Prop} {h : jHp} : wg b S h h := ⟨wb.rf, fun _ _ _ => rfl⟩
theorem wg.tr {b : Nat} {S : Nat → Nat → Prop} {h h' h'' : jHp} (f : wg b S h h') (g : wg b S h' h'') : wg b S h h'' := ⟨f.1.tr g.1, fun p k q => (g.2 p k q).trans (f.2 p k q)⟩
theorem wg.eq {b : Nat} {S : Nat → Nat → Prop} {h h' : jHp} {p k : Nat} (f : wg b S h h') (s : ¬ S p k) : mI h' p k = mI h p k := by
  unfold mI
  rw [f.2 p k s]
theorem wg.mo {b : Nat} {S S' : Nat → Nat → Prop} {h h' : jHp} (f : wg b S h h') (s : ∀ p k, S p k → S' p k) : wg b S' h h' := ⟨f.1, fun p k q => f.2 p k (fun z => q (s p k z))⟩
theorem fg_wg {b : Nat} {S : Nat → Nat → Prop} {h h' : jHp} (f : fg S h h') : wg b S h h' := ⟨sk_wb f.1, f.2⟩
theorem wg_L {b k : Nat} {S : Nat → Nat → Prop} {h h' : jHp} {v : Int64} (f : wg b S h h') : wg b S h (sL h' b k v) := ⟨⟨f.1.1, f.1.2⟩, f.2⟩
theorem bg_wg {r c b : Nat} {S : Nat → Nat → Prop} {h h' : jHp} {v : Int} (B : BG r c h v) (f : wg b S h h') (h1 : c ≠ b) (s : ∀ k, ¬ S c k ∧ ¬ S (c + 1) k) : BG r c h' v := by
  obtain ⟨b1, ⟨b2, b3, b4, b5⟩, b6⟩ := B
  refine ⟨bo_wb b1 f.1 h1, ⟨by rw [f.eq (s _).1]; exact b2, b3, b4, fun k hk => ?_⟩, by rw [f.eq (s _).1]; exact b6⟩
  rw [f.eq (s _).2]
  exact b5 k hk
/-- the lowest common multiple -/
theorem c_Bcm {a b : Nat} {h : jHp} (ha : 0 < a) (ha2 : a ≤ 10000000000000000) (hb : 0 < b) (hb2 : b ≤ 100) : jRet 30 0 0 [.long (lI (a : Int)), .int (iI (b : Int))] h (fun q h' => q = some (.long (lI ((a * (b / Nat.gcd a b) : Nat) : Int))) ∧ h' = h) := by
  have r0 : rL ((0 : Nat) : Int) := ⟨by decide, by decide⟩
  obtain ⟨G, hG⟩ : ∃ G, G = Nat.gcd a b := ⟨_, rfl⟩
  have G0 : 0 < G := by
    rw [hG]
    exact Nat.gcd_pos_of_pos_left _ ha
  have G1 : G ≤ a := by
    rw [hG]
    exact Nat.gcd_le_left _ ha
  have e0 : a / G * b = a * (b / G) := by
    have d1 : G ∣ a := by rw [hG]; exact Nat.gcd_dvd_left a b
    have d2 : G ∣ b := by rw [hG]; exact Nat.gcd_dvd_right a b
    obtain ⟨x, hx⟩ := d1
    obtain ⟨y, hy⟩ := d2
    rw [hx, hy, Nat.mul_div_cancel_left _ G0, Nat.mul_div_cancel_left _ G0]
    grind
  rw [← hG, ← e0]
  have hq : a / G ≤ a := Nat.div_le_self _ _
  have l42 : J 30 42 0 0 [.long (lI (a : Int)), uu, .int (iI (b : Int)), .long (lI (G : Int)), uu, uu, uu, uu, uu, uu] [] h (fun q h' => q = some (.long (lI ((a / G * b : Nat) : Int))) ∧ h' = h) := by
    refine j_Bo_commonMultiple_42 ?_
    rw [lg_cmp_le, lI_le ⟨by omega, by omega⟩ r0, lI_div (by omega) (by omega) (by omega) (by omega), iI_64 ⟨by omega, by omega⟩, lI_mul, ← Int.natCast_ediv, ← Int.natCast_mul]
    exact ⟨fun z => by omega, fun _ => ⟨by rw [lI_0, lI_eq ⟨by omega, by omega⟩ ⟨by omega, by omega⟩]; omega, j_Bo_commonMultiple_58 ⟨rfl, rfl⟩⟩⟩
  have loop : ∀ (d i x y : Nat), i + d = 100 → y ≤ d → x ≤ 10000000000000000 → Nat.gcd x y = G → J 30 9 0 0 [.long (lI (a : Int)), uu, .int (iI (b : Int)), .long (lI (x : Int)), uu, .long (lI (y : Int)), uu, .int (iI (i : Int)), uu, uu] [] h (fun q h' => q = some (.long (lI ((a / G * b : Nat) : Int))) ∧ h' = h) := by
    intro d
    induction d with
    | zero =>
      intro i x y hi hy hx hg
      obtain rfl : y = 0 := by omega
      rw [Nat.gcd_zero_right] at hg
      subst hg
      refine j_Bo_commonMultiple_9 ?_
      rw [iI_le ⟨by omega, by omega⟩ ⟨by omega, by omega⟩]
      exact ⟨fun _ => l42, fun z => by omega⟩
    | succ d ih =>
      intro i x y hi hy hx hg
      refine j_Bo_commonMultiple_9 ?_
      rw [iI_le ⟨by omega, by omega⟩ ⟨by omega, by omega⟩, lg_cmp_le, lI_le ⟨by omega, by omega⟩ r0]
      refine ⟨fun z => by omega, fun _ => ⟨fun z => ?_, fun z => ⟨by rw [lI_0, lI_eq ⟨by omega, by omega⟩ ⟨by omega, by omega⟩]; omega, ?_⟩⟩⟩
      · obtain rfl : y = 0 := by omega
        rw [Nat.gcd_zero_right] at hg
        subst hg
        exact l42
      · rw [lI_rem (by omega) (by omega) (by omega) (by omega), ← Int.natCast_emod, iI_add]
        have hm := Nat.mod_lt x (show 0 < y by omega)
        refine ih (i + 1) y (x % y) (by omega) (by omega) (by omega) ?_
        rw [← hg, Nat.gcd_comm x y]
        exact (Nat.gcd_comm _ _).trans (Nat.gcd_rec y x).symm
  refine jRet_of (by decide) (by decide) (Nat.le_of_ble_eq_true rfl) (j_Bo_commonMultiple_0 ?_)
  rw [iI_64 ⟨by omega, by omega⟩]
  exact loop 100 0 a b (by omega) (by omega) (by omega) hG.symm
/-- Bounces as it lies: s says which row is now's -/
def BL (b s : Nat) (h : jHp) : Prop := (s = 0 ∨ s = 1) ∧ isO h b 1 ∧ gR h b 0 = b + 1 + s ∧ gR h b 1 = b + 2 - s ∧ gR h b 2 = b + 3 ∧ gR h b 3 = b + 5 ∧ gR h b 4 = b + 7 ∧ gR h b 5 = b + 9 ∧ gR h b 6 = b + 11 ∧ jz h (b + 1) = (13, 8) ∧ jz h (b + 2) = (13, 8) ∧ ∀ i, i < 8 → gR h (b + 1) i = b + 13 + 4 * i ∧ gR h (b + 2) i = b + 15 + 4 * i
theorem bl_sk {b s : Nat} {h h' : jHp} (B : BL b s h) (k : sk h h') : BL b s h' := by
  unfold BL isO at *
  rw [k.r, k.z]
  exact B
def bp (b s i : Nat) : Nat := b + 13 + 4 * i + 2 * s
theorem BL.now {b s i : Nat} {h : jHp} (B : BL b s h) (hi : i < 8) : gR h (gR h b 0) i = bp b s i ∧ jz h (gR h b 0) = (13, 8) := by
  obtain ⟨b0, b1, b2, b3, b4, b5, b6, b7, b8, b9, b10, b11⟩ := B
  have := b11 i hi
  rw [b2]
  unfold bp
  rcases b0 with rfl | rfl
  · exact ⟨this.1, b9⟩
  · exact ⟨by rw [show b + 1 + 1 = b + 2 from rfl, this.2]; omega, b10⟩
theorem BL.nxt {b s i : Nat} {h : jHp} (B : BL b s h) (hi : i < 8) : gR h (gR h b 1) i = bp b (1 - s) i ∧ jz h (gR h b 1) = (13, 8) := by
  obtain ⟨b0, b1, b2, b3, b4, b5, b6, b7, b8, b9, b10, b11⟩ := B
  have := b11 i hi
  rw [b3]
  unfold bp
  rcases b0 with rfl | rfl
  · exact ⟨by rw [show b + 2 - 0 = b + 2 from rfl, this.2]; omega, b10⟩
  · exact ⟨by rw [show b + 2 - 1 = b + 1 from rfl, this.1]; omega, b9⟩
/-- its numbers, whatever they are -/
def BNs (b : Nat) (h : jHp) : Prop := (∃ v, BG 28 (b + 3) h v) ∧ (∃ v, BG 10 (b + 5) h v) ∧ (∃ v, BG 10 (b + 7) h v) ∧ (∃ v, BG 28 (b + 9) h v) ∧ (∃ v, BG 28 (b + 11) h v) ∧ ∀ s i, s < 2 → i < 8 → ∃ v, BG 28 (bp b s i) h v
/-- a number's place changed: the others stay -/
theorem bns_fg {b c r : Nat} {h h' : jHp} {x : Int} (N : BNs b h) (f : fg (fbS c) h h') (B : BG r c h' x) (hc : c = b + 3 ∧ r = 28 ∨ c = b + 5 ∧ r = 10 ∨ c = b + 7 ∧ r = 10 ∨ c = b + 9 ∧ r = 28 ∨ c = b + 11 ∧ r = 28 ∨ ∃ s i, s < 2 ∧ i < 8 ∧ c = bp b s i ∧ r = 28) : BNs b h' := by
  have hcc : ∃ k, c = b + 2 * k + 3 ∧ k < 21 := by
    rcases hc with z | z | z | z | z | ⟨s, i, h1, h2, h3, h4⟩
    · exact ⟨0, by omega, by omega⟩
    · exact ⟨1, by omega, by omega⟩
    · exact ⟨2, by omega, by omega⟩
    · exact ⟨3, by omega, by omega⟩
    · exact ⟨4, by omega, by omega⟩
    · refine ⟨5 + 2 * i + s, ?_, by omega⟩
      unfold bp at h3
      omega
  obtain ⟨k, hk, hk2⟩ := hcc
  have key : ∀ (j r' : Nat), j < 21 → (j = k → r' = r) → (∃ v, BG r' (b + 2 * j + 3) h v) → ∃ v, BG r' (b + 2 * j + 3) h' v := by
    intro j r' hj hr hv
    by_cases e : j = k
    · rw [e, hr e, ← hk]
      exact ⟨x, B⟩
    · obtain ⟨v, V⟩ := hv
      exact ⟨v, bg_fg V f (fun q => by unfold fbS; omega)⟩
  obtain ⟨n1, n2, n3, n4, n5, n6⟩ := N
  have hr : ∀ j, j = k → (j = 0 → r = 28) ∧ (j = 1 → r = 10) ∧ (j = 2 → r = 10) ∧ (3 ≤ j → r = 28) := by
    intro j hj
    rcases hc with z | z | z | z | z | ⟨s, i, h1, h2, h3, h4⟩
    · omega
    · omega
    · omega
    · omega
    · omega
    · unfold bp at h3
      omega
  refine ⟨key 0 28 (by omega) (fun z => ((hr 0 z).1 rfl).symm) n1, key 1 10 (by omega) (fun z => ((hr 1 z).2.1 rfl).symm) n2, key 2 10 (by omega) (fun z => ((hr 2 z).2.2.1 rfl).symm) n3, key 3 28 (by omega) (fun z => ((hr 3 z).2.2.2 (by omega)).symm) n4, key 4 28 (by omega) (fun z => ((hr 4 z).2.2.2 (by omega)).symm) n5, fun s i hs hi => ?_⟩
  have e : bp b s i = b + 2 * (5 + 2 * i + s) + 3 := by
    unfold bp
    omega
  have := n6 s i hs hi
  rw [e] at this ⊢
  exact key _ 28 (by omega) (fun z => ((hr _ z).2.2.2 (by omega)).symm) this
section BOUN
variable {b w t m n s : Nat} {h : jHp}
theorem bW_c (S : SW m h n) {i : Nat} (hi : i < n) : bW m h n i = (((bL m h n / (mI h (m + 11) i).toNat) * (mI h (m + 10) i).toNat : Nat) : Int) := by
  have s5 := S.2.2.2.2.1 i hi
  have s3 := S.2.2.1
  obtain ⟨a1, a2⟩ := bL_bd S n (Nat.le_refl n)
  obtain ⟨d, hd⟩ : ∃ d : Nat, mI h (m + 11) i = (d : Int) := ⟨(mI h (m + 11) i).toNat, by omega⟩
  obtain ⟨e, he⟩ : ∃ e : Nat, mI h (m + 10) i = (e : Int) := ⟨(mI h (m + 10) i).toNat, by omega⟩
  obtain ⟨p, hp⟩ : ∃ p : Nat, mI h m 21 = (p : Int) := ⟨(mI h m 21).toNat, by omega⟩
  unfold bW bB
  rw [hd, he, hp, Int.toNat_natCast, Int.toNat_natCast, ← Int.natCast_mul, ← Int.natCast_mul, show ((p * bL m h n : Nat) : Int).tdiv ((d * p : Nat) : Int) = ((p * bL m h n / (d * p) : Nat) : Int) from rfl, Nat.mul_comm d p, Nat.mul_div_mul_left _ _ (show 0 < p by omega), ← Int.natCast_mul, Nat.mul_comm]
theorem bN_nn (S : SW m h n) (O : SO m h n) : ∀ t i, i < n → 0 ≤ bN m h n t i
  | 0, i, hi => by
    rw [bN]
    exact (O i hi).1
  | t + 1, i, hi => by
    have hn := S.2.1
    rw [bN]
    have a1 := (bU_bd S (t + 1)).1
    have a2 := Int.mul_nonneg (O i hi).1 (Int.le_of_lt a1)
    have a3 : 0 ≤ bW m h n i := by
      rw [bW_c S hi]
      omega
    have a4 : 0 ≤ sm (fun j => mI h (m + 16) (8 * i + j) * bN m h n t j) n := sm_nn (fun j hj => Int.mul_nonneg (S.2.2.2.2.2.1 (8 * i + j) (by omega)) (bN_nn S O t j hj))
    have a5 := Int.mul_nonneg a3 a4
    omega
def boS (b p k : Nat) : Prop := b ≤ p ∧ p ≤ b + 44
/-- one patch's next bounce -/
theorem c_Bat {i u : Nat} {g : jHp} (W : WL w g) (T : TL t g) (C : CW w m g) (CT' : CT t m g) (S : SW m g n) (O : SO m g n) (a : awy (boS b) w t m) (B : BL b s g) (N : BNs b g) (hL : gL g b 7 = lI (bL m g n : Int)) (hU : BG 28 (b + 3) g (bU m g n (u + 1))) (hN : ∀ j, j < n → BG 28 (bp b s j) g (bN m g n u j)) (hu : u ≤ 5) (hi : i < n) :
    jRet 32 0 0 [.ref b, .int (iI i), .ref w, .ref t] g (fun q h' => q = none ∧ fg (fun p k => fbS (b + 9) p k ∨ fbS (b + 7) p k ∨ fbS (bp b (1 - s) i) p k) g h' ∧ BG 28 (bp b (1 - s) i) h' (bN m g n (u + 1) i) ∧ BNs b h') := by
  have hn8 := S.2.1
  have hs01 := B.1
  have wi := W.2.2.2.2.2.2.2.2.2 i (by omega)
  have ci := C.2.2.2 i (by omega)
  have s5 := S.2.2.2.2.1 i hi
  have oi := O i hi
  obtain ⟨a1, a2⟩ := bL_bd S n (Nat.le_refl n)
  have a3 : 100 ^ n ≤ 100 ^ 8 := Nat.pow_le_pow_right (by decide) hn8
  have a4 : bL m g n ≤ 10000000000000000 := Nat.le_trans a2 (Nat.le_trans a3 (by decide))
  have bdN : ∀ j, j < n → (bN m g n u j).natAbs ≤ 10 ^ 130 := fun j hj => Nat.le_trans (bN_bd S O u j hj) (Nat.pow_le_pow_right (by decide) (by omega))
  have bdS : ∀ k, k ≤ n → 0 ≤ sm (fun j => mI g (m + 16) (8 * i + j) * bN m g n u j) k ∧ (sm (fun j => mI g (m + 16) (8 * i + j) * bN m g n u j) k).natAbs ≤ 10 ^ 134 := fun k hk => by
    refine ⟨sm_nn (fun j hj => Int.mul_nonneg (S.2.2.2.2.2.1 (8 * i + j) (by omega)) (bN_nn S O u j (by omega))), ?_⟩
    have q1 : (sm (fun j => mI g (m + 16) (8 * i + j) * bN m g n u j) k).natAbs ≤ k * (1000 * 10 ^ 130) := nA_sm (fun j hj => bN_t S hi (show j < n by omega) (bdN j (by omega)))
    have q2 : k * (1000 * 10 ^ 130) ≤ 8 * (1000 * 10 ^ 130) := Nat.mul_le_mul_right _ (by omega)
    exact Nat.le_trans q1 (Nat.le_trans q2 (by decide))
  -- behind the sum
  have l91 : ∀ g1 : jHp, fg (fbS (b + 9)) g g1 → BNs b g1 → BG 28 (b + 9) g1 (sm (fun j => mI g (m + 16) (8 * i + j) * bN m g n u j) n) → J 32 91 0 0 [.ref b, .int (iI i), uu, uu, .ref (w + 5 + i), uu] [.long (lI (bW m g n i)), .ref (b + 7)] g1 (fun q h' => q = none ∧ fg (fun p k => fbS (b + 9) p k ∨ fbS (b + 7) p k ∨ fbS (bp b (1 - s) i) p k) g h' ∧ BG 28 (bp b (1 - s) i) h' (bN m g n (u + 1) i) ∧ BNs b h') := by
    intro g1 f1 N1 V1
    have B1 := bl_sk B f1.1
    obtain ⟨w0, W0⟩ := N1.2.2.1
    obtain ⟨x0, X0⟩ := N1.2.2.2.2.2 (1 - s) i (by omega) (by omega)
    have bw := bW_bd S hi
    have bw2 : bW m g n i < 9223372036854775808 ∧ 0 ≤ bW m g n i := by
      rw [bW_c S hi]
      have q1 : bL m g n / (mI g (m + 11) i).toNat ≤ bL m g n := Nat.div_le_self _ _
      have q2 : bL m g n / (mI g (m + 11) i).toNat * (mI g (m + 10) i).toNat ≤ 10000000000000000 * 100 := Nat.mul_le_mul (Nat.le_trans q1 a4) (by omega)
      omega
    have szw : sz B6 (bW m g n i).natAbs ≤ 4 := sz6b (Nat.le_trans bw (by decide)) (by decide)
    have szs : sz B6 (sm (fun j => mI g (m + 16) (8 * i + j) * bN m g n u j) n).natAbs ≤ 23 := sz6b (Nat.le_trans (bdS n (Nat.le_refl n)).2 (by decide)) (by decide)
    refine j_Bo_bounceAt_91 ⟨W0.1.1, jRet_mono (c_Bset W0 (by omega) (by omega)) ?_⟩
    intro q2 h2 w2
    obtain ⟨e2, f2, V2⟩ := w2
    have B2 := bl_sk B1 f2.1
    have N2 := bns_fg N1 f2 V2 (by omega)
    have V12 := bg_fg V1 f2 (fun q => by unfold fbS; omega)
    have X2 := bg_fg X0 f2 (fun q => by unfold fbS bp; omega)
    have nx2 := B2.nxt (i := i) (by omega)
    rw [iI_cl (by omega) (by omega), Int.toNat_natCast, nx2.1, B2.2.2.2.2.2.2.2.1, B2.2.2.2.2.2.2.1]
    refine ⟨e2, B2.2.1, ixR_of nx2.2 (Or.inr (Or.inl rfl)) (by omega) (by omega) (by decide), B2.2.1, B2.2.1, X2.1.1, jRet_mono (c_BsetProduct X2 V12 V2 (by unfold bp; omega) (by unfold bp; omega) (by omega)) ?_⟩
    intro q3 h3 w3
    obtain ⟨e3, f3, V3⟩ := w3
    have B3 := bl_sk B2 f3.1
    have N3 := bns_fg N2 f3 V3 (Or.inr (Or.inr (Or.inr (Or.inr (Or.inr ⟨1 - s, i, by omega, by omega, rfl, rfl⟩)))))
    have nx3 := B3.nxt (i := i) (by omega)
    have U3 := bg_fg (bg_fg (bg_fg hU f1 (fun q => by unfold fbS; omega)) f2 (fun q => by unfold fbS; omega)) f3 (fun q => by unfold fbS bp; omega)
    have aw : ∀ p k, (w ≤ p ∧ p ≤ w + 12) → mI h3 p k = mI g p k := fun p k hp => by
      rw [f3.eq (fun z => a p k (Or.inl hp) (by unfold fbS bp at z; unfold boS; omega)), f2.eq (fun z => a p k (Or.inl hp) (by unfold fbS at z; unfold boS; omega)), f1.eq (fun z => a p k (Or.inl hp) (by unfold fbS at z; unfold boS; omega))]
    have bu := bU_bd S (u + 1)
    have sn := bdS n (Nat.le_refl n)
    obtain ⟨X, hX⟩ : ∃ X : Nat, sm (fun j => mI g (m + 16) (8 * i + j) * bN m g n u j) n * bW m g n i = (X : Int) := ⟨(sm (fun j => mI g (m + 16) (8 * i + j) * bN m g n u j) n * bW m g n i).toNat, by have := Int.mul_nonneg sn.1 bw2.2; omega⟩
    obtain ⟨Y, hY⟩ : ∃ Y : Nat, bU m g n (u + 1) = (Y : Int) := ⟨(bU m g n (u + 1)).toNat, by omega⟩
    obtain ⟨f, hf⟩ : ∃ f : Nat, mI g (m + 12) i = (f : Int) := ⟨(mI g (m + 12) i).toNat, by omega⟩
    rw [hX] at V3
    rw [hY] at U3
    have ez : bN m g n (u + 1) i = ((X + Y * f : Nat) : Int) := by
      rw [bN, hY, hf, Int.natCast_add, ← hX, Int.natCast_mul, Int.mul_comm (bW m g n i), Int.mul_comm (f : Int)]
      omega
    have bn1 := bN_bd S O (u + 1) i hi
    rw [ez, Int.natAbs_natCast] at bn1
    have bn2 : X + Y * f ≤ 10 ^ 155 := Nat.le_trans bn1 (Nat.pow_le_pow_right (by decide) (by omega))
    have bu2 := bu.2
    rw [hY, Int.natAbs_natCast] at bu2
    have bu3 : Y ≤ 10 ^ 120 := Nat.le_trans bu2 (Nat.pow_le_pow_right (by decide) (by omega))
    rw [nx3.1, B3.2.2.2.2.1, gI_mI h3 (w + 5 + i) 5, aw _ _ (by omega), ci.2.2.2.2.2.1, hf]
    have wi3 := (wl_sk (wl_sk (wl_sk W f1.1) f2.1) f3.1).2.2.2.2.2.2.2.2.2 i (by omega)
    refine ⟨e3, B3.2.1, ixR_of nx3.2 (Or.inr (Or.inl rfl)) (by omega) (by omega) (by decide), B3.2.1, wi3.2, V3.1.1, jRet_mono (c_BplusTimes V3 U3 (by unfold bp; omega) (by omega) (sz6b (Nat.le_trans bn2 (by decide)) (by decide)) (sz6b (Nat.le_trans bu3 (by decide)) (by decide))) ?_⟩
    intro q4 h4 w4
    obtain ⟨e4, f4, V4⟩ := w4
    refine ⟨e4, rfl, (((f1.mo (fun _ _ z => Or.inl z)).tr (f2.mo (fun _ _ z => Or.inr (Or.inl z)))).tr (f3.mo (fun _ _ z => Or.inr (Or.inr z)))).tr (f4.mo (fun _ _ z => Or.inr (Or.inr z))), ?_, bns_fg N3 f4 V4 (Or.inr (Or.inr (Or.inr (Or.inr (Or.inr ⟨1 - s, i, by omega, by omega, rfl, rfl⟩)))))⟩
    rw [ez]
    exact V4
  have l19 : ∀ (d j : Nat) (g1 : jHp), j + d = n → fg (fbS (b + 9)) g g1 → BNs b g1 → BG 28 (b + 9) g1 (sm (fun j => mI g (m + 16) (8 * i + j) * bN m g n u j) j) → J 32 19 0 0 [.ref b, .int (iI i), .ref w, .ref t, .ref (w + 5 + i), .int (iI j)] [] g1 (fun q h' => q = none ∧ fg (fun p k => fbS (b + 9) p k ∨ fbS (b + 7) p k ∨ fbS (bp b (1 - s) i) p k) g h' ∧ BG 28 (bp b (1 - s) i) h' (bN m g n (u + 1) i) ∧ BNs b h') := by
    intro d
    induction d with
    | zero =>
      intro j g1 hj f1 N1 V1
      obtain rfl : j = n := by omega
      have aw : ∀ p k, (w ≤ p ∧ p ≤ w + 12) → mI g1 p k = mI g p k := fun p k hp => f1.eq (fun z => a p k (Or.inl hp) (by unfold fbS at z; unfold boS; omega))
      have W1 := wl_sk W f1.1
      have B1 := bl_sk B f1.1
      have wi1 := W1.2.2.2.2.2.2.2.2.2 i (by omega)
      have L1 : gL g1 b 7 = lI (bL m g j : Int) := by rw [f1.1.l]; exact hL
      refine j_Bo_bounceAt_19 ?_
      rw [gI_mI g1 w 4, aw _ _ (by omega), C.2.1, S.1, iI_le ⟨by omega, by omega⟩ ⟨by omega, by omega⟩]
      refine ⟨W1.1, fun _ => j_Bo_bounceAt_57 ?_, fun z => absurd (Int.le_refl _) z⟩
      have bwc := bW_c S hi
      have l91' := l91 g1 f1 N1 V1
      rw [bwc] at l91'
      obtain ⟨dd, hd⟩ : ∃ dd : Nat, mI g (m + 11) i = (dd : Int) := ⟨(mI g (m + 11) i).toNat, by omega⟩
      obtain ⟨e, he⟩ : ∃ e : Nat, mI g (m + 10) i = (e : Int) := ⟨(mI g (m + 10) i).toNat, by omega⟩
      rw [hd, he, Int.toNat_natCast, Int.toNat_natCast] at l91'
      have q1 : bL m g j / dd ≤ bL m g j := Nat.div_le_self _ _
      rw [gI_mI g1 (w + 5 + i) 4, aw _ _ (by omega), ci.2.2.2.2.1, hd, gI_mI g1 (w + 5 + i) 3, aw _ _ (by omega), ci.2.2.2.1, he, L1, iI_0, iI_le ⟨by omega, by omega⟩ ⟨by omega, by omega⟩, iI_64 ⟨by omega, by omega⟩, iI_64 ⟨by omega, by omega⟩, lI_div (by omega) (by omega) (by omega) (by omega), lI_mul, ← Int.natCast_ediv, ← Int.natCast_mul, B1.2.2.2.2.2.2.1]
      exact ⟨B1.2.1, wi1.2, fun z => by omega, fun z => ⟨B1.2.1, wi1.2, by rw [lI_0, lI_eq ⟨by omega, by omega⟩ ⟨by omega, by omega⟩]; omega, wi1.2, l91'⟩⟩
    | succ d ih =>
      intro j g1 hj f1 N1 V1
      have hjn : j < n := by omega
      have aw : ∀ p k, (w ≤ p ∧ p ≤ w + 12 ∨ t ≤ p ∧ p ≤ t + 9 ∨ m ≤ p ∧ p ≤ m + 27) → mI g1 p k = mI g p k := fun p k hp => f1.eq (fun z => a p k hp (by unfold fbS at z; unfold boS; omega))
      have W1 := wl_sk W f1.1
      have T1 := tl_sk T f1.1
      have B1 := bl_sk B f1.1
      have nw := B1.now (i := j) (by omega)
      have tb1 := tab_le S hi (show j < 8 by omega)
      have tb2 := S.2.2.2.2.2.1 (8 * i + j) (by omega)
      have s4 := S.2.2.2.1
      have bs0 := bdS j (by omega)
      have bs1 := bdS (j + 1) (by omega)
      have bnj := bdN j hjn
      have bnn := bN_nn S O u j hjn
      have CY : BG 28 (bp b s j) g1 (bN m g n u j) := bg_fg (hN j hjn) f1 (fun k => by unfold fbS bp; omega)
      obtain ⟨X, hX⟩ : ∃ X : Nat, sm (fun j => mI g (m + 16) (8 * i + j) * bN m g n u j) j = (X : Int) := ⟨(sm (fun j => mI g (m + 16) (8 * i + j) * bN m g n u j) j).toNat, by omega⟩
      obtain ⟨Y, hY⟩ : ∃ Y : Nat, bN m g n u j = (Y : Int) := ⟨(bN m g n u j).toNat, by omega⟩
      obtain ⟨f, hf⟩ : ∃ f : Nat, mI g (m + 16) (8 * i + j) = (f : Int) := ⟨(mI g (m + 16) (8 * i + j)).toNat, by omega⟩
      have eZ : sm (fun j => mI g (m + 16) (8 * i + j) * bN m g n u j) (j + 1) = ((X + Y * f : Nat) : Int) := by
        rw [sm, hX, hY, hf, Int.natCast_add, Int.natCast_mul, Int.mul_comm (f : Int)]
      rw [hX] at V1
      rw [hY] at CY
      rw [eZ, Int.natAbs_natCast] at bs1
      rw [hY, Int.natAbs_natCast] at bnj
      refine j_Bo_bounceAt_19 ?_
      rw [gI_mI g1 w 4, aw _ _ (by omega), C.2.1, S.1, iI_le ⟨by omega, by omega⟩ ⟨by omega, by omega⟩, iI_cl (a := (j : Int)) (by omega) (by omega), iI_cl (a := (i : Int)) (by omega) (by omega), Int.toNat_natCast, Int.toNat_natCast, nw.1, T1.2.1, (T1.2.2.2 i (by omega)).1, gI_mI g1 (t + 2 + i) j, aw _ _ (by omega), CT'.2 i j (by omega) (by omega), hf, B1.2.2.2.2.2.2.2.1]
      refine ⟨W1.1, fun z => by omega, fun _ => ⟨B1.2.1, B1.2.1, ixR_of nw.2 (Or.inr (Or.inl rfl)) (by omega) (by omega) (by decide), T1.1, ixR_of T1.2.2.1 (Or.inl rfl) (by omega) (by omega) (by decide), ixL_of (T1.2.2.2 i (by omega)).2 (by omega) (by omega) (by decide), V1.1.1, jRet_mono (c_BplusTimes V1 CY (by unfold bp; omega) (by omega) (sz6b (Nat.le_trans bs1.2 (by decide)) (by decide)) (sz6b (Nat.le_trans bnj (by decide)) (by decide))) ?_⟩⟩
      intro q2 h2 w2
      obtain ⟨e2, f2, V2⟩ := w2
      refine ⟨e2, ?_⟩
      rw [iI_add]
      exact ih (j + 1) h2 (by omega) (f1.tr f2) (bns_fg N1 f2 V2 (by omega)) (by rw [eZ]; exact V2)
  obtain ⟨v9, V9⟩ := N.2.2.2.1
  have ir := ixR_of (a := (i : Int)) W.2.2.2.2.2.2.1 (Or.inr (Or.inr rfl)) (by omega) (by omega) (by decide)
  refine jRet_of (by decide) (by decide) (Nat.le_of_ble_eq_true rfl) (j_Bo_bounceAt_0 ?_)
  rw [B.2.2.2.2.2.2.2.1, W.2.2.2.2.2.1, iI_cl (by omega) (by omega), Int.toNat_natCast, wi.1]
  refine ⟨W.1, ir, B.2.1, V9.1.1, jRet_mono (c_Bset (x := ((0 : Nat) : Int)) V9 (by omega) (by decide)) ?_⟩
  intro q1 h1 w1
  obtain ⟨e1, f1, V1⟩ := w1
  exact ⟨e1, l19 n 0 h1 (by omega) f1 (bns_fg N f1 V1 (by omega)) V1⟩
end BOUN
