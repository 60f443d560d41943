/-! numbers of the class: divide -/
/-- what is left when the limbs from k on are divided -/
def lfN (X D k : Nat) : Nat := X % B6 ^ k + X / B6 ^ k % D * B6 ^ k
theorem td_n {x d : Int} : x.tdiv d = (if ((if x < 0 then 1 else 0) : Int) = (if d < 0 then 1 else 0) then ((x.natAbs / d.natAbs : Nat) : Int) else -((x.natAbs / d.natAbs : Nat) : Int)) := by
  by_cases c1 : x < 0
  · have e1 : x = -(x.natAbs : Int) := by omega
    by_cases c2 : d < 0
    · have e2 : d = -(d.natAbs : Int) := by omega
      rw [if_pos c1, if_pos c2, if_pos rfl]
      conv => lhs; rw [e1, e2]
      rw [Int.neg_tdiv, Int.tdiv_neg, Int.neg_neg]
      rfl
    · have e2 : d = (d.natAbs : Int) := by omega
      rw [if_pos c1, if_neg c2, if_neg (by decide)]
      conv => lhs; rw [e1, e2]
      rw [Int.neg_tdiv]
      rfl
  · have e1 : x = (x.natAbs : Int) := by omega
    by_cases c2 : d < 0
    · have e2 : d = -(d.natAbs : Int) := by omega
      rw [if_neg c1, if_pos c2, if_neg (by decide)]
      conv => lhs; rw [e1, e2]
      rw [Int.tdiv_neg]
      rfl
    · have e2 : d = (d.natAbs : Int) := by omega
      rw [if_neg c1, if_neg c2, if_pos rfl]
      conv => lhs; rw [e1, e2]
      rfl
theorem tm_n {x d : Int} : x.tmod d = (if x < 0 then -((x.natAbs % d.natAbs : Nat) : Int) else ((x.natAbs % d.natAbs : Nat) : Int)) := by
  have e0 : x.tmod d = x - d * x.tdiv d := Int.tmod_def x d
  have hd := Nat.div_add_mod x.natAbs d.natAbs
  rw [e0, td_n]
  have hc : ∀ a b : Nat, ((a * b : Nat) : Int) = (a : Int) * (b : Int) := fun a b => Int.natCast_mul a b
  obtain ⟨q, hq⟩ : ∃ q, q = x.natAbs / d.natAbs := ⟨_, rfl⟩
  obtain ⟨m, hm⟩ : ∃ m, m = x.natAbs % d.natAbs := ⟨_, rfl⟩
  rw [← hq, ← hm] at hd
  rw [← hq, ← hm]
  have h1 : (d.natAbs : Int) * (q : Int) + (m : Int) = (x.natAbs : Int) := by
    rw [← hc]
    omega
  by_cases c1 : x < 0
  · have e1 : x = -(x.natAbs : Int) := by omega
    by_cases c2 : d < 0
    · have e2 : d = -(d.natAbs : Int) := by omega
      rw [if_pos c1, if_pos c2, if_pos rfl, if_pos c1]
      generalize (d.natAbs : Int) = dn at h1 e2
      rw [e2, Int.neg_mul]
      omega
    · have e2 : d = (d.natAbs : Int) := by omega
      rw [if_pos c1, if_neg c2, if_neg (by decide), if_pos c1]
      generalize (d.natAbs : Int) = dn at h1 e2
      rw [e2, Int.mul_neg]
      omega
  · have e1 : x = (x.natAbs : Int) := by omega
    by_cases c2 : d < 0
    · have e2 : d = -(d.natAbs : Int) := by omega
      rw [if_neg c1, if_pos c2, if_neg (by decide), if_neg c1]
      generalize (d.natAbs : Int) = dn at h1 e2
      rw [e2, Int.neg_mul_neg]
      omega
    · have e2 : d = (d.natAbs : Int) := by omega
      rw [if_neg c1, if_neg c2, if_pos rfl, if_neg c1]
      generalize (d.natAbs : Int) = dn at h1 e2
      rw [e2]
      omega
section BIG
variable {r b : Nat} {h : jHp}
def sgB (x s : Int) : Prop := s = (if x < 0 then 1 else 0)
theorem sgB_r {x s : Int} (h : sgB x s) : rI s := by
  unfold sgB at h
  rw [h]
  split <;> exact ⟨by omega, by omega⟩
def sgE (y sx sd : Int) : Prop := (y = 0 ∨ y = 1) ∧ (y = 0 ↔ sx = sd)
theorem sgE_r {y sx sd : Int} (h : sgE y sx sd) : rI y := by
  have := h.1
  exact ⟨by omega, by omega⟩
def dvS (b e p k : Nat) : Prop := fbS b p k ∨ fbS e p k
theorem c_Bdivide {rc c rq e : Nat} {x d q0 : Int} (B : BG r b h x) (C : BG rc c h d) (E : BG rq e h q0) (hc : c ≠ b ∧ c ≠ b + 1 ∧ b ≠ c + 1) (he : e ≠ b ∧ e ≠ b + 1 ∧ b ≠ e + 1) (hce : c ≠ e ∧ c ≠ e + 1 ∧ e ≠ c + 1) (hd : d ≠ 0) (hq : sz B6 (x.natAbs / d.natAbs) ≤ rq) :
    jRet 16 0 0 [.ref b, .ref c, .ref e] h (fun q h' => q = none ∧ fg (dvS b e) h h' ∧ BG r b h' (x.tmod d) ∧ BG rq e h' (x.tdiv d)) := by
  obtain ⟨B1, ⟨s1, s2, s3, s4⟩, B3⟩ := B
  have C0 := C
  obtain ⟨C1, ⟨t1, t2, t3, t4⟩, C3⟩ := C
  obtain ⟨E1, _, _⟩ := E
  have hr := B1.2.2.2
  have hrc := C1.2.2.2
  have hrq := E1.2.2.2
  obtain ⟨sx, hsx, B3'⟩ : ∃ sx, sgB x sx ∧ mI h b 2 = sx := ⟨_, rfl, B3⟩
  obtain ⟨sd, hsd, C3'⟩ : ∃ sd, sgB d sd ∧ mI h c 2 = sd := ⟨_, rfl, C3⟩
  clear B3 C3 C0
  obtain ⟨X, hX⟩ : ∃ X, X = x.natAbs := ⟨_, rfl⟩
  obtain ⟨D, hD⟩ : ∃ D, D = d.natAbs := ⟨_, rfl⟩
  obtain ⟨s, hs⟩ : ∃ s, s = sz B6 X := ⟨_, rfl⟩
  obtain ⟨t, ht⟩ : ∃ t, t = sz B6 D := ⟨_, rfl⟩
  rw [← hX, ← hs] at s1 s2 s3 s4
  rw [← hD, ← ht] at t1 t2 t3 t4
  rw [← hX, ← hD] at hq
  have hD0 : 0 < D := by omega
  have ht0 : 1 ≤ t := by
    rw [ht]
    exact (sz_pos (by decide)).mpr hD0
  have hDlo : B6 ^ (t - 1) ≤ D := by
    rw [ht]
    exact sz_low (by decide) hD0
  have hDt : 0 < dg B6 D (t - 1) := by
    have := dg_top (B := B6) (by decide) hD0
    rw [← ht] at this
    omega
  have kc : ∀ k, ¬ dvS b e c k ∧ ¬ dvS b e (c + 1) k := fun k => by
    unfold dvS fbS
    omega
  -- the end
  have l102 : ∀ (g : jHp) (sb Z sq V : Nat) (y : Int), fg (dvS b e) h g → RB r b g sb Z → Z = X % D → mI g b 2 = mI h b 2 → RB rq e g sq V → V = X / D → mI g e 2 = y → sgE y sx sd → J 16 102 0 0 [.ref b, uu, .ref e, uu, uu, uu] [] g (fun q h' => q = none ∧ fg (dvS b e) h h' ∧ BG r b h' (x.tmod d) ∧ BG rq e h' (x.tdiv d)) := by
    intro g sb Z sq V y f RZ hZ g2 RV hV gy hyy
    have hy := hyy.1
    have tmv := tm_n (x := x) (d := d)
    have tdv := td_n (x := x) (d := d)
    rw [← hX, ← hD] at tmv tdv
    have hsx' := hsx
    have hsd' := hsd
    unfold sgB at hsx' hsd'
    have Eg := bo_sk E1 f.1
    have Bg := bo_sk B1 f.1
    refine j_Bi_divide_102 ⟨Eg.1, jRet_mono (c_Btrim (v := x.tdiv d) Eg RV (by rw [gy]; exact hy) ?_) ?_⟩
    · rw [gy, tdv, hV]
      rw [← hsx', ← hsd']
      by_cases c : y = 0
      · rw [if_pos c, if_pos (hyy.2.mp c)]
      · rw [if_neg c, if_neg (fun z => c (hyy.2.mpr z))]
    intro q1 h1 w1
    obtain ⟨e1, e2, e3⟩ := w1
    have B2 := bo_sk Bg e2.1
    have RZ1 : RB r b h1 sb Z := ⟨by rw [e2.eq (by unfold fbS; omega)]; exact RZ.1, RZ.2.1, RZ.2.2.1, fun k hk => by rw [e2.eq (by unfold fbS; omega)]; exact RZ.2.2.2 k hk⟩
    have b2 : mI h1 b 2 = (if x < 0 then 1 else 0) := by
      rw [e2.eq (by unfold fbS; omega), g2, B3']
      exact hsx'
    refine ⟨e1, B2.1, jRet_mono (c_Btrim (v := x.tmod d) B2 RZ1 (by rw [b2]; split <;> omega) ?_) ?_⟩
    · rw [b2, tmv, hZ]
      by_cases c : x < 0
      · rw [if_pos c, if_pos c, if_neg (by decide)]
      · rw [if_neg c, if_neg c, if_pos rfl]
    intro q2 h2 w2
    obtain ⟨e4, e5, e6⟩ := w2
    exact ⟨e4, rfl, (f.tr (e2.mo (fun _ _ z => Or.inr z))).tr (e5.mo (fun _ _ z => Or.inl z)), e6, bg_fg e3 e5 (fun k => by unfold fbS; omega)⟩
  -- from limb to limb
  have l64 : ∀ (qs : Nat) (y : Int), t ≤ s → qs ≤ rq → (qs = s - t + 1 ∨ qs = rq) → sgE y sx sd → ∀ (k : Nat) (g : jHp), k ≤ s - t + 1 → fg (dvS b e) h g → RB r b g s (lfN X D k) → mI g b 2 = mI h b 2 → mI g e 1 = (qs : Int) → mI g e 2 = y → (∀ j, k ≤ j → j < qs → mI g (e + 1) j = dg B6 (X / D) j) → J 16 64 0 0 [.ref b, .ref c, .ref e, uu, .int (iI ((k : Int) - 1)), uu] [] g (fun q h' => q = none ∧ fg (dvS b e) h h' ∧ BG r b h' (x.tmod d) ∧ BG rq e h' (x.tdiv d)) := by
    intro qs y hts hqs hqs2 hyy k
    have hQ1 : X / D < B6 ^ (s - t + 1) := by
      rw [Nat.div_lt_iff_lt_mul hD0]
      refine Nat.lt_of_lt_of_le s3 ?_
      have e1 : B6 ^ s = B6 ^ (s - t + 1) * B6 ^ (t - 1) := by
        rw [← Nat.pow_add]
        congr 1
        omega
      rw [e1]
      exact Nat.mul_le_mul_left _ hDlo
    have hQ : X / D < B6 ^ qs := by
      rcases hqs2 with z | z
      · rw [z]
        exact hQ1
      · rw [z]
        exact (sz_le (by decide)).mp hq
    induction k with
    | zero =>
      intro g hk f RX g2 ge gy gl
      have e0 : lfN X D 0 = X % D := by
        unfold lfN
        rw [Nat.pow_zero, Nat.mod_one, Nat.div_one, Nat.mul_one, Nat.zero_add]
      refine j_Bi_divide_64 ⟨fun _ => l102 g s (lfN X D 0) qs (X / D) y f RX e0 g2 ⟨ge, hqs, hQ, fun j hj => gl j (by omega) hj⟩ rfl gy hyy, fun z => absurd (by rw [iI_0]; exact (iI_lt ⟨by omega, by omega⟩ ⟨by omega, by omega⟩).mpr (by omega)) z⟩
    | succ k ih =>
      intro g hk f RX g2 ge gy gl
      have Bg := bo_sk B1 f.1
      have Cg := bo_sk C1 f.1
      have sq := short_q (B := B6) (v := X) (d := D) (k := k) (by decide) hD0
      have sr := short_r (B := B6) (v := X) (d := D) (k := k) hD0
      obtain ⟨W, hW⟩ : ∃ W, W = X / B6 ^ (k + 1) % D * B6 + dg B6 X k := ⟨_, rfl⟩
      rw [← hW] at sq sr
      have dk : dg B6 X k < 1000000 := dg_lt (by decide)
      have hrl : X / B6 ^ (k + 1) % D < D := Nat.mod_lt _ hD0
      have hWD : W < D * 1000000 := by
        have h1 : (X / B6 ^ (k + 1) % D + 1) * 1000000 ≤ D * 1000000 := Nat.mul_le_mul_right _ hrl
        rw [Nat.add_mul, Nat.one_mul] at h1
        have h2 : W = X / B6 ^ (k + 1) % D * 1000000 + dg B6 X k := hW
        rw [h2]
        exact Nat.lt_of_lt_of_le (Nat.add_lt_add_left dk _) h1
      have hpk : 0 < B6 ^ k := Nat.pow_pos (by decide)
      have eS : lfN X D (k + 1) = X % B6 ^ k + W * B6 ^ k := by
        unfold lfN
        rw [mod_succ, hW, Nat.pow_succ, Nat.add_mul]
        have : X / (B6 ^ k * B6) % D * (B6 ^ k * B6) = X / (B6 ^ k * B6) % D * B6 * B6 ^ k := by rw [Nat.mul_comm (B6 ^ k), ← Nat.mul_assoc]
        rw [this, Nat.add_assoc, Nat.add_comm (dg B6 X k * B6 ^ k)]
      have eW : lfN X D (k + 1) / B6 ^ k = W := by
        rw [eS, Nat.add_mul_div_right _ _ hpk, Nat.div_eq_of_lt (Nat.mod_lt _ hpk), Nat.zero_add]
      have hdg : ∀ j, dg B6 (lfN X D (k + 1)) (k + j) = dg B6 W j := fun j => by rw [← dg_div, eW]
      have hml : W % D < D := Nat.mod_lt _ hD0
      have eS2 : lfN X D k = X % B6 ^ k + W % D * B6 ^ k := by
        unfold lfN
        rw [sr]
      have hd2 : ∀ j, dg B6 (lfN X D k) (k + j) = dg B6 (W % D) j := fun j => by
        rw [← dg_div, eS2, Nat.add_mul_div_right _ _ hpk, Nat.div_eq_of_lt (Nat.mod_lt _ hpk), Nat.zero_add]
      have hd1 : ∀ j, j < k → dg B6 (lfN X D k) j = dg B6 (lfN X D (k + 1)) j := fun j hj => by rw [eS2, eS, acc_low (by decide) hj, acc_low (by decide) hj]
      have RD : RB rc c g t D := ⟨by rw [f.eq (kc 1).1]; exact t1, t2, t3, fun j hj => by rw [f.eq (kc j).2]; exact t4 j hj⟩
      refine j_Bi_divide_64 ?_
      rw [show ((k + 1 : Nat) : Int) - 1 = (k : Int) by omega, iI_0, iI_lt ⟨by omega, by omega⟩ ⟨by omega, by omega⟩]
      refine ⟨fun z => by omega, fun _ => ⟨Bg.1, jRet_mono (c_BtakeAway (W := W) (k := k) Bg RX Cg hc RD ht0 hDt (by omega) (fun j _ => hdg j) (hdg t) hWD) ?_⟩⟩
      intro q1 h1 w1
      obtain ⟨e1, e2, e3, e4⟩ := w1
      rw [← sq] at e1
      have f1 : fg (dvS b e) h h1 := f.tr (e2.mo (fun p k z => by unfold lmS at z; unfold dvS fbS; omega))
      have Eg := bo_sk E1 f1.1
      have ge1 : mI h1 e 1 = (qs : Int) := by
        rw [e2.eq (by unfold lmS; omega)]
        exact ge
      have gy1 : mI h1 e 2 = y := by
        rw [e2.eq (by unfold lmS; omega)]
        exact gy
      have gb2 : mI h1 b 2 = mI h b 2 := by
        rw [e2.eq (by unfold lmS; omega)]
        exact g2
      have RX1 : RB r b h1 s (lfN X D k) := by
        refine ⟨by rw [e2.eq (by unfold lmS; omega)]; exact RX.1, s2, ?_, fun j hj => ?_⟩
        · have h3 : lfN X D k < B6 ^ (k + t) := by
            rw [eS2, Nat.add_comm k t, Nat.pow_add]
            have h4 : (W % D + 1) * B6 ^ k ≤ B6 ^ t * B6 ^ k := Nat.mul_le_mul_right _ (Nat.lt_trans hml t3)
            rw [Nat.add_mul, Nat.one_mul] at h4
            have h5 := Nat.mod_lt X hpk
            omega
          exact Nat.lt_of_lt_of_le h3 (Nat.pow_le_pow_right (by decide) (by omega))
        · by_cases c1 : j < k
          · rw [e2.eq (by unfold lmS; omega), RX.2.2.2 j hj, hd1 j c1]
          · obtain ⟨i, rfl⟩ : ∃ i, j = k + i := ⟨j - k, by omega⟩
            rw [hd2]
            by_cases c2 : i < t
            · exact e3 i c2
            · have z1 : dg B6 (W % D) i = 0 := dg_high (by decide) ((sz_le (by decide)).mpr (Nat.lt_of_lt_of_le (Nat.lt_trans hml t3) (Nat.pow_le_pow_right (by decide) (by omega))))
              rw [z1]
              by_cases c3 : i = t
              · rw [c3] at hj ⊢
                exact e4 hj
              · rw [e2.eq (by unfold lmS; omega), RX.2.2.2 _ hj, hdg i]
                have hWt : W < B6 ^ (t + 1) := by
                  rw [Nat.pow_succ]
                  exact Nat.lt_of_lt_of_le hWD (Nat.mul_le_mul_right _ (Nat.le_of_lt t3))
                have z2 : dg B6 W i = 0 := dg_high (by decide) ((sz_le (by decide)).mpr (Nat.lt_of_lt_of_le hWt (Nat.pow_le_pow_right (by decide) (by omega))))
                rw [z2]
      have dq : dg B6 (X / D) k < 1000000 := dg_lt (by decide)
      refine ⟨_, e1, Eg.1, ?_⟩
      rw [gI_mI h1 e 1, ge1, iI_le ⟨by omega, by omega⟩ ⟨by omega, by omega⟩, Eg.2.1, iI_cl (by omega) (by omega), Int.toNat_natCast]
      refine ⟨fun z => j_Bi_divide_96 ?_, fun z => ⟨Eg.1, ix_of Eg.2.2.1 (by omega) (by omega) (by omega), j_Bi_divide_96 ?_⟩⟩
      · rw [iI_add, show (k : Int) + -1 = (k : Int) - 1 by omega]
        exact ih h1 (by omega) f1 RX1 gb2 ge1 gy1 (fun j hj hj2 => by omega)
      · rw [iI_add, show (k : Int) + -1 = (k : Int) - 1 by omega]
        refine ih _ (by omega) (f1.wr (Or.inr (Or.inr rfl))) ⟨?_, RX1.2.1, RX1.2.2.1, fun j hj => ?_⟩ ?_ ?_ ?_ (fun j hj hj2 => ?_)
        · rw [mI_sI (rI6 dq), if_neg (fun z => by omega)]
          exact RX1.1
        · rw [mI_sI (rI6 dq), if_neg (fun z => by omega)]
          exact RX1.2.2.2 j hj
        · rw [mI_sI (rI6 dq), if_neg (fun z => by omega)]
          exact gb2
        · rw [mI_sI (rI6 dq), if_neg (fun z => by omega)]
          exact ge1
        · rw [mI_sI (rI6 dq), if_neg (fun z => by omega)]
          exact gy1
        · rw [mI_sI (rI6 dq)]
          by_cases c1 : j = k
          · rw [if_pos ⟨rfl, c1⟩, c1]
          · rw [if_neg (fun z => c1 z.2), e2.eq (by unfold lmS; omega)]
            exact gl j (by omega) (by omega)
  have l32 : ∀ y : Int, sgE y sx sd → J 16 32 0 0 [.ref b, .ref c, .ref e, .int (iI ((s : Int) - (t : Int))), uu, uu] [.int (iI y), .ref e] (sI h e 1 (iI 0)) (fun q h' => q = none ∧ fg (dvS b e) h h' ∧ BG r b h' (x.tmod d) ∧ BG rq e h' (x.tdiv d)) := by
    intro y hyy
    have ry := sgE_r hyy
    have f2 : fg (dvS b e) h (sI (sI h e 1 (iI 0)) e 2 (iI y)) := (fg.rf.wr (Or.inr (Or.inl rfl))).wr (Or.inr (Or.inl rfl))
    have Eg := bo_sk E1 f2.1
    have Cg := bo_sk C1 f2.1
    have gt : gI (sI (sI h e 1 (iI 0)) e 2 (iI y)) c 1 = iI (t : Int) := by rw [gI_mI, f2.eq (kc 1).1, t1]
    refine j_Bi_divide_32 ?_
    rw [gt, iI_0, iI_le ⟨by omega, by omega⟩ ⟨by omega, by omega⟩, iI_lt ⟨by omega, by omega⟩ ⟨by omega, by omega⟩]
    refine ⟨(bo_sk E1 sk.rf.sI).1, ?_, Cg.1, fun z => by omega, fun _ => ⟨fun z => ?_, fun z => ⟨Eg.1, bo_ar Eg, Eg.1, ?_⟩⟩⟩
    · rcases hyy.1 with z | z
      · rw [z]
        exact Or.inl rfl
      · rw [z]
        exact Or.inr rfl
    · have hlt : X < D := cmp_sz (B := B6) (by decide) (by rw [← hs, ← ht]; omega)
      refine l102 _ s X 0 0 y f2 ⟨?_, s2, s3, fun k hk => ?_⟩ (Nat.mod_eq_of_lt hlt).symm ?_ ⟨?_, (by omega), by decide, fun k hk => by omega⟩ (Nat.div_eq_of_lt hlt).symm ?_ hyy
      · rw [mI_sI ry, if_neg (fun z => by omega), mI_sI ⟨by omega, by omega⟩, if_neg (fun z => by omega)]
        exact s1
      · rw [mI_sI ry, if_neg (fun z => by omega), mI_sI ⟨by omega, by omega⟩, if_neg (fun z => by omega)]
        exact s4 k hk
      · rw [mI_sI ry, if_neg (fun z => by omega), mI_sI ⟨by omega, by omega⟩, if_neg (fun z => by omega)]
      · rw [mI_sI ry, if_neg (fun z => by omega), mI_sI ⟨by omega, by omega⟩, if_pos ⟨rfl, rfl⟩]
        rfl
      · rw [mI_sI ry, if_pos ⟨rfl, rfl⟩]
    · have hts : t ≤ s := by omega
      obtain ⟨qs, hqs⟩ : ∃ qs : Nat, qs = (if rq < s - t + 1 then rq else s - t + 1) := ⟨_, rfl⟩
      have hqs1 : qs ≤ rq ∧ (qs = s - t + 1 ∨ qs = rq) ∧ qs ≤ s - t + 1 := by
        rw [hqs]
        split <;> omega
      have em : (if Int32.ofNat (jz (sI (sI h e 1 (iI 0)) e 2 (iI y)) (gR (sI (sI h e 1 (iI 0)) e 2 (iI y)) e 0)).2 < iI ((s : Int) - (t : Int)) + iI 1 then Int32.ofNat (jz (sI (sI h e 1 (iI 0)) e 2 (iI y)) (gR (sI (sI h e 1 (iI 0)) e 2 (iI y)) e 0)).2 else iI ((s : Int) - (t : Int)) + iI 1) = iI (qs : Int) := by
        have e1 := bo_ln Eg
        by_cases c1 : rq < s - t + 1
        · rw [if_pos (by rw [e1, iI_add, iI_lt ⟨by omega, by omega⟩ ⟨by omega, by omega⟩]; omega), e1, hqs, if_pos c1]
        · rw [if_neg (by rw [e1, iI_add, iI_lt ⟨by omega, by omega⟩ ⟨by omega, by omega⟩]; omega), iI_add, hqs, if_neg c1]
          congr 1
          omega
      rw [em]
      have e0 : lfN X D (s - t + 1) = X := by
        unfold lfN
        have hlt : X / B6 ^ (s - t + 1) < D := by
          rw [Nat.div_lt_iff_lt_mul (Nat.pow_pos (by decide))]
          have e1 : B6 ^ s = B6 ^ (t - 1) * B6 ^ (s - t + 1) := by
            rw [← Nat.pow_add]
            congr 1
            omega
          refine Nat.lt_of_lt_of_le s3 ?_
          rw [e1]
          exact Nat.mul_le_mul_right _ hDlo
        rw [Nat.mod_eq_of_lt hlt, Nat.mul_comm, Nat.mod_add_div]
      have := l64 qs y hts hqs1.1 hqs1.2.1 hyy (s - t + 1) (sI (sI (sI h e 1 (iI 0)) e 2 (iI y)) e 1 (iI (qs : Int))) (Nat.le_refl _) (f2.wr (Or.inr (Or.inl rfl))) (by
        rw [e0]
        refine ⟨?_, s2, s3, fun k hk => ?_⟩
        · rw [mI_sI ⟨by omega, by omega⟩, if_neg (fun z => by omega), mI_sI ry, if_neg (fun z => by omega), mI_sI ⟨by omega, by omega⟩, if_neg (fun z => by omega)]
          exact s1
        · rw [mI_sI ⟨by omega, by omega⟩, if_neg (fun z => by omega), mI_sI ry, if_neg (fun z => by omega), mI_sI ⟨by omega, by omega⟩, if_neg (fun z => by omega)]
          exact s4 k hk) ?_ ?_ ?_ (fun j hj hj2 => absurd (Nat.lt_of_lt_of_le hj2 (Nat.le_trans hqs1.2.2 hj)) (Nat.lt_irrefl j))
      · rw [show ((s - t + 1 : Nat) : Int) - 1 = (s : Int) - (t : Int) by omega] at this
        exact this
      · rw [mI_sI ⟨by omega, by omega⟩, if_neg (fun z => by omega), mI_sI ry, if_neg (fun z => by omega), mI_sI ⟨by omega, by omega⟩, if_neg (fun z => by omega)]
      · rw [mI_sI ⟨by omega, by omega⟩, if_pos ⟨rfl, rfl⟩]
      · rw [mI_sI ⟨by omega, by omega⟩, if_neg (fun z => by omega), mI_sI ry, if_pos ⟨rfl, rfl⟩]
  refine jRet_of (by decide) (by decide) (Nat.le_of_ble_eq_true rfl) (j_Bi_divide_0 ?_)
  have gb : gI (sI h e 1 (iI 0)) b 2 = iI sx := by rw [gI_mI, mI_sI ⟨by omega, by omega⟩, if_neg (fun z => by omega), B3']
  have gc : gI (sI h e 1 (iI 0)) c 2 = iI sd := by rw [gI_mI, mI_sI ⟨by omega, by omega⟩, if_neg (fun z => by omega), C3']
  rw [gb, gc, gI_mI h b 1, s1, gI_mI h c 1, t1, iI_sub, iI_eq (sgB_r hsx) (sgB_r hsd)]
  refine ⟨B1.1, C1.1, E1.1, (bo_sk B1 sk.rf.sI).1, (bo_sk C1 sk.rf.sI).1, fun z => j_Bi_divide_31 (l32 0 ⟨Or.inl rfl, fun _ => z, fun _ => rfl⟩), fun z => l32 1 ⟨Or.inr rfl, fun y => absurd y (by decide), fun y => absurd y z⟩⟩
end BIG
