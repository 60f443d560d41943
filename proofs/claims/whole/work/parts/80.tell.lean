/-! Out.write, Out.tell -/
section OUT
variable {o : Nat} {h : jHp} {l : List Int}
theorem c_Owrite {r b : Nat} {v : Int} (O : OO o h) (C : CO o h l) (B : BG r b h v) (hb : b ≠ o ∧ b ≠ o + 1 ∧ b + 1 ≠ o) (hl : l.length + sz 10 v.natAbs + 2 ≤ 512) : jRet 57 0 0 [.ref o, .ref b] h (puQ o h (l ++ nT v)) := by
  have hr := B.1.2.2.2
  have ks : ∀ k, ¬ ouS o b k ∧ ¬ ouS o (b + 1) k := fun k => by
    unfold ouS
    omega
  obtain ⟨N, hN⟩ : ∃ N, N = v.natAbs := ⟨_, rfl⟩
  obtain ⟨s, hs⟩ : ∃ s, s = sz B6 N := ⟨_, rfl⟩
  have hN6 : N < 10 ^ (6 * s) := by
    rw [Nat.pow_mul, hs]
    exact sz_lt (B := B6) (by decide)
  -- the limbs
  have l26 : ∀ (g : jHp) (l1 : List Int), fg (ouS o) h g → CO o g l1 → l1.length + sz 10 N ≤ 512 → J 57 26 0 0 [.ref o, .ref b, uu, uu] [] g (puQ o h (l1 ++ dT N)) := by
    intro g l1 f C1 hl1
    have Bg := bg_fg B f ks
    have s1 : mI g b 1 = (s : Int) := by
      have := Bg.2.1.1
      rw [← hN, ← hs] at this
      exact this
    have loop : ∀ (k : Nat) (g1 : jHp), k ≤ s → fg (ouS o) h g1 → CO o g1 (l1 ++ dT (N / 10 ^ (6 * k))) → J 57 35 0 0 [.ref o, .ref b, .int (iI (bgI (N / 10 ^ (6 * k)))), .int (iI ((k : Int) - 1))] [] g1 (puQ o h (l1 ++ dT N)) := by
      intro k
      induction k with
      | zero =>
        intro g1 _ f1 C2
        rw [Nat.mul_zero, Nat.pow_zero, Nat.div_one] at C2
        exact j_Ou_write_35 ⟨fun _ => j_Ou_write_57 ⟨rfl, f1, C2⟩, fun z => absurd (by rw [iI_0]; exact (iI_lt ⟨by omega, by omega⟩ ⟨by omega, by omega⟩).mpr (by omega)) z⟩
      | succ k ih =>
        intro g1 hk f1 C2
        have B1 := bg_fg B f1 ks
        have O1 := oo_sk O f1.1
        have lk := B1.2.1.2.2.2 k (by rw [← hN, ← hs]; omega)
        rw [← hN] at lk
        have sr : s ≤ r := by
          have := B1.2.1.2.1
          rw [← hN, ← hs] at this
          exact this
        refine j_Ou_write_35 ?_
        rw [B1.1.2.1, show ((k + 1 : Nat) : Int) - 1 = (k : Int) by omega, gI_q (by omega) (by omega), Int.toNat_natCast, lk, iI_0, iI_lt ⟨by omega, by omega⟩ ⟨by omega, by omega⟩]
        refine ⟨fun z => by omega, fun _ => ⟨B1.1.1, ixL_of B1.1.2.2.1 (by omega) (by omega) (by omega), O1.1, ?_⟩⟩
        rw [Nat.mul_add, Nat.mul_one] at C2 ⊢
        refine jRet_mono (c_Olimb (i := k) O1 C2 hl1) ?_
        intro q1 h1 w1
        obtain ⟨e1, e2, e3⟩ := w1
        refine ⟨_, e1, ?_⟩
        rw [iI_add, show (k : Int) + -1 = (k : Int) - 1 by omega]
        exact ih h1 (by omega) (f1.tr e2) e3
    refine j_Ou_write_26 ⟨Bg.1.1, ?_⟩
    rw [gI_mI g b 1, s1, iI_sub]
    have e0 : N / 10 ^ (6 * s) = 0 := Nat.div_eq_of_lt hN6
    have := loop s g (Nat.le_refl s) f (by
      rw [e0]
      have : dT 0 = [] := rfl
      rw [this, List.append_nil]
      exact C1)
    rw [e0] at this
    exact this
  have hp := sz_pos (B := B6) (v := N) (by decide)
  have l13 : ∀ (g : jHp) (l1 : List Int), fg (ouS o) h g → CO o g l1 → l1.length + sz 10 N + 1 ≤ 512 → J 57 13 0 0 [.ref o, .ref b, uu, uu] [] g (puQ o h (l1 ++ (if v = 0 then [48] else dT N))) := by
    intro g l1 f C1 hl1
    have Bg := bg_fg B f ks
    have Og := oo_sk O f.1
    have s1 : mI g b 1 = (s : Int) := by
      have := Bg.2.1.1
      rw [← hN, ← hs] at this
      exact this
    have sr : s ≤ r := by
      have := Bg.2.1.2.1
      rw [← hN, ← hs] at this
      exact this
    refine j_Ou_write_13 ?_
    rw [gI_mI g b 1, s1, iI_0, iI_eq ⟨by omega, by omega⟩ ⟨by omega, by omega⟩]
    refine ⟨Bg.1.1, fun z => ?_, fun z => ⟨Og.1, jRet_mono (c_Oput (c := 48) Og C1 (by omega) (by omega)) ?_⟩⟩
    · rw [if_neg (by omega)]
      exact l26 g l1 f C1 (by omega)
    · intro q1 h1 w1
      obtain ⟨e1, e2, e3⟩ := w1
      refine ⟨e1, ?_⟩
      have v0 : v = 0 := by omega
      have := l26 h1 (l1 ++ [((48 : Nat) : Int)]) (f.tr e2) e3 (by rw [List.length_append, show ([((48 : Nat) : Int)] : List Int).length = 1 from rfl]; omega)
      have n0 : N = 0 := by omega
      rw [n0, show dT 0 = [] from rfl, List.append_nil] at this
      rw [if_pos v0]
      exact this
  have B3 := B.2.2
  refine jRet_of (by decide) (by decide) (Nat.le_of_ble_eq_true rfl) (j_Ou_write_0 ?_)
  rw [gI_mI h b 2, B3, iI_0, iI_eq (by split <;> exact ⟨by omega, by omega⟩) ⟨by omega, by omega⟩]
  unfold nT
  rw [← hN]
  rw [← hN] at hl
  by_cases c : v < 0
  · rw [if_pos c, if_pos c]
    refine ⟨B.1.1, fun z => absurd z (by decide), fun _ => ⟨O.1, jRet_mono (c_Oput (c := 45) O C (by omega) (by omega)) ?_⟩⟩
    intro q1 h1 w1
    obtain ⟨e1, e2, e3⟩ := w1
    refine ⟨e1, ?_⟩
    rw [← List.append_assoc]
    exact l13 h1 (l ++ [((45 : Nat) : Int)]) e2 e3 (by rw [List.length_append, show ([((45 : Nat) : Int)] : List Int).length = 1 from rfl]; omega)
  · rw [if_neg c, if_neg c, List.nil_append]
    exact ⟨B.1.1, fun _ => l13 h l fg.rf C (by omega), fun z => absurd rfl z⟩
/-- all of the object's cells -/
def otS (o p k : Nat) : Prop := o ≤ p ∧ p ≤ o + 11
/-- its five numbers -/
def O5 (o : Nat) (h : jHp) : Prop := (∃ v, BG 40 (o + 2) h v) ∧ (∃ v, BG 40 (o + 4) h v) ∧ (∃ v, BG 40 (o + 6) h v) ∧ (∃ v, BG 40 (o + 8) h v) ∧ ∃ v, BG 40 (o + 10) h v
theorem bg_abs {r b : Nat} {g : jHp} {v : Int} (B : BG r b g v) : BG r b (sI g b 2 (iI 0)) ((v.natAbs : Nat) : Int) := by
  obtain ⟨B1, ⟨s1, s2, s3, s4⟩, B3⟩ := B
  refine ⟨bo_sk B1 sk.rf.sI, ⟨?_, ?_, ?_, fun k hk => ?_⟩, ?_⟩
  · rw [mI_sI ⟨by omega, by omega⟩, if_neg (fun z => by omega), s1, Int.natAbs_natCast]
  · rw [Int.natAbs_natCast]
    exact s2
  · rw [Int.natAbs_natCast]
    exact s3
  · rw [Int.natAbs_natCast] at hk ⊢
    rw [mI_sI ⟨by omega, by omega⟩, if_neg (fun z => by omega)]
    exact s4 k hk
  · rw [mI_sI ⟨by omega, by omega⟩, if_pos ⟨rfl, rfl⟩, if_neg (by omega)]
theorem sz_6_10 {n : Nat} (h : sz B6 n ≤ 40) : sz 10 n ≤ 240 := by
  have h1 : n < B6 ^ 40 := (sz_le (by decide)).mp h
  exact (sz_le (by decide)).mpr (Nat.lt_of_lt_of_le h1 (by decide +kernel))
theorem c_Otell {r1 a r2 b : Nat} {x y : Int} (O : OO o h) (F : O5 o h) (A : BG r1 a h x) (B : BG r2 b h y) (ha : a + 1 < o ∨ o + 11 < a) (hb : b + 1 < o ∨ o + 11 < b) (hy : 0 < y) (hx4 : sz B6 x.natAbs ≤ 40) (hy4 : sz B6 y.natAbs ≤ 40) :
    jRet 56 0 0 [.ref o, .ref a, .ref b] h (fun q h' => q = some (.int (iI ((fT x y).length : Int))) ∧ fg (otS o) h h' ∧ CO o h' (fT x y) ∧ O5 o h') := by
  obtain ⟨⟨v2, F2⟩, ⟨v4, F4⟩, ⟨v6, F6⟩, ⟨v8, F8⟩, ⟨v10, F10⟩⟩ := F
  have fb : ∀ c, 2 ≤ c → c ≤ 10 → ∀ p k, fbS (o + c) p k → otS o p k := fun c h1 h2 p k z => by
    unfold fbS at z
    unfold otS
    omega
  have kA : ∀ k, ¬ otS o a k ∧ ¬ otS o (a + 1) k := fun k => by
    unfold otS
    omega
  have kB : ∀ k, ¬ otS o b k ∧ ¬ otS o (b + 1) k := fun k => by
    unfold otS
    omega
  have gt := sz_6_10 hx4
  have gt2 := sz_6_10 hy4
  refine jRet_of (by decide) (by decide) (Nat.le_of_ble_eq_true rfl) (j_Ou_tell_0 ?_)
  rw [O.2.2.2.1]
  refine ⟨O.1, F2.1.1, jRet_mono (c_Bcopy F2 A (by omega) hx4) ?_⟩
  intro q1 h1 w1
  obtain ⟨e1, f1, X2⟩ := w1
  have O1 := oo_sk O f1.1
  have t1 : fg (otS o) h h1 := f1.mo (fb 2 (by decide) (by decide))
  rw [O1.2.2.2.2.1]
  have F41 := bg_fg F4 f1 (fun k => by unfold fbS; omega)
  refine ⟨e1, O1.1, F41.1.1, jRet_mono (c_Bcopy F41 (bg_fg B t1 kB) (by omega) hy4) ?_⟩
  intro q2 h2 w2
  obtain ⟨e2, f2, Y4⟩ := w2
  have O2 := oo_sk O1 f2.1
  have t2 : fg (otS o) h h2 := t1.tr (f2.mo (fb 4 (by decide) (by decide)))
  rw [O2.2.2.2.2.2.2.1]
  have F82 := bg_fg (bg_fg F8 f1 (fun k => by unfold fbS; omega)) f2 (fun k => by unfold fbS; omega)
  refine ⟨e2, O2.1, F82.1.1, jRet_mono (c_Bcopy F82 (bg_fg A t2 kA) (by omega) hx4) ?_⟩
  intro q3 h3 w3
  obtain ⟨e3, f3, X8⟩ := w3
  have O3 := oo_sk O2 f3.1
  have t3 : fg (otS o) h h3 := t2.tr (f3.mo (fb 8 (by decide) (by decide)))
  rw [O3.2.2.2.2.2.2.1]
  have fs : fg (fbS (o + 8)) h3 (sI h3 (o + 8) 2 (iI 0)) := fg.rf.wr (Or.inl rfl)
  have O3' := oo_sk O3 fs.1
  have t3' : fg (otS o) h (sI h3 (o + 8) 2 (iI 0)) := t3.tr (fs.mo (fb 8 (by decide) (by decide)))
  rw [O3'.2.2.2.2.2.1]
  have X8' := bg_abs X8
  have F63 := bg_fg (bg_fg (bg_fg (bg_fg F6 f1 (fun k => by unfold fbS; omega)) f2 (fun k => by unfold fbS; omega)) f3 (fun k => by unfold fbS; omega)) fs (fun k => by unfold fbS; omega)
  refine ⟨e3, O3.1, X8.1.1, Or.inl rfl, O3'.1, F63.1.1, jRet_mono (c_Bcopy F63 (bg_fg B t3' kB) (by omega) hy4) ?_⟩
  intro q4 h4 w4
  obtain ⟨e4, f4, Y6⟩ := w4
  have O4 := oo_sk O3' f4.1
  have t4 : fg (otS o) h h4 := t3'.tr (f4.mo (fb 6 (by decide) (by decide)))
  rw [O4.2.2.2.2.2.1, O4.2.2.2.2.2.2.1, O4.2.2.2.2.2.2.2]
  have X84 := bg_fg X8' f4 (fun k => by unfold fbS; omega)
  have F104 := bg_fg (bg_fg (bg_fg (bg_fg (bg_fg F10 f1 (fun k => by unfold fbS; omega)) f2 (fun k => by unfold fbS; omega)) f3 (fun k => by unfold fbS; omega)) fs (fun k => by unfold fbS; omega)) f4 (fun k => by unfold fbS; omega)
  have X24 := bg_fg (bg_fg (bg_fg (bg_fg X2 f2 (fun k => by unfold fbS; omega)) f3 (fun k => by unfold fbS; omega)) fs (fun k => by unfold fbS; omega)) f4 (fun k => by unfold fbS; omega)
  have Y44 := bg_fg (bg_fg (bg_fg Y4 f3 (fun k => by unfold fbS; omega)) fs (fun k => by unfold fbS; omega)) f4 (fun k => by unfold fbS; omega)
  have Y6' : BG 40 (o + 6) h4 ((y.natAbs : Nat) : Int) := by
    have : ((y.natAbs : Nat) : Int) = y := by omega
    rw [this]
    exact Y6
  refine ⟨e4, O4.1, O4.1, O4.1, jRet_mono (c_Bgcd (r := 40) (by unfold ap2; omega) (by unfold ap2; omega) (by unfold ap2; omega) Y6' X84 F104) ?_⟩
  intro q5 h5 w5
  obtain ⟨p, e5, hp, f5, GP, G6, G8, ⟨u10, G10⟩⟩ := w5
  have t5 : fg (otS o) h h5 := t4.tr (f5.mo (fun p k z => by unfold fbS at z; unfold otS; omega))
  have O5' := oo_sk O4 f5.1
  obtain ⟨G, hG⟩ : ∃ G, G = Nat.gcd y.natAbs x.natAbs := ⟨_, rfl⟩
  rw [← hG] at GP
  have hgT : gT x y = (G : Int) := by
    unfold gT
    rw [hG, Nat.gcd_comm]
  have hG0 : 0 < G := by
    rw [hG]
    exact Nat.gcd_pos_of_pos_left _ (by omega)
  have X25 := bg_fg X24 f5 (fun k => by unfold fbS; omega)
  have Y45 := bg_fg Y44 f5 (fun k => by unfold fbS; omega)
  refine ⟨p, e5, O5'.1, ?_⟩
  have fz : fg (fun i k => i = o ∧ k = 1) h5 (sI h5 o 1 (iI 0)) := fg.rf.wr ⟨rfl, rfl⟩
  have Oz := oo_sk O5' fz.1
  have tz : fg (otS o) h (sI h5 o 1 (iI 0)) := t5.tr (fz.mo (fun p k z => by unfold otS; omega))
  have Cz : CO o (sI h5 o 1 (iI 0)) [] := ⟨by rw [mI_sI ⟨by omega, by omega⟩, if_pos ⟨rfl, rfl⟩]; rfl, by decide, fun k hk => absurd hk (Nat.not_lt_zero k)⟩
  have up : ∀ c, 2 ≤ c → ∀ r v, BG r (o + c) h5 v → BG r (o + c) (sI h5 o 1 (iI 0)) v := fun c hc r v z => bg_fg z fz (fun k => by omega)
  have GPz : BG 40 p (sI h5 o 1 (iI 0)) (G : Int) := by
    rcases hp with z | z
    · rw [z] at GP ⊢
      exact up 6 (by decide) _ _ GP
    · rw [z] at GP ⊢
      exact up 8 (by decide) _ _ GP
  have X2z := up 2 (by decide) _ _ X25
  have Y4z := up 4 (by decide) _ _ Y45
  have G10z := up 10 (by decide) _ _ G10
  rw [Oz.2.2.2.1, Oz.2.2.2.2.2.2.2]
  have sx : sz B6 (x.natAbs / ((G : Int)).natAbs) ≤ 40 := Nat.le_trans (sz_mono (by decide) (Nat.div_le_self _ _)) hx4
  have sy : sz B6 (y.natAbs / ((G : Int)).natAbs) ≤ 40 := Nat.le_trans (sz_mono (by decide) (Nat.div_le_self _ _)) hy4
  refine ⟨Oz.1, Oz.1, X2z.1.1, jRet_mono (c_Bdivide X2z GPz G10z (by omega) (by omega) (by omega) (by omega) sx) ?_⟩
  intro q6 h6 w6
  obtain ⟨e6, f6, R2, Q10⟩ := w6
  have t6 : fg (otS o) h h6 := tz.tr (f6.mo (fun p k z => by unfold dvS fbS at z; unfold otS; omega))
  have O6 := oo_sk Oz f6.1
  have C6 : CO o h6 [] := co_fg Cz f6 (fun p k z => by unfold dvS fbS at z; unfold ouS; omega)
  have GP6 := bg_fg GPz f6 (fun k => by unfold dvS fbS; omega)
  have Y46 := bg_fg Y4z f6 (fun k => by unfold dvS fbS; omega)
  rw [O6.2.2.2.2.2.2.2]
  have n1 : sz 10 (x.tdiv (G : Int)).natAbs ≤ 240 := by
    rw [nat_td]
    exact Nat.le_trans (sz_mono (by decide) (Nat.div_le_self _ _)) gt
  have n2 : sz 10 (y.tdiv (G : Int)).natAbs ≤ 240 := by
    rw [nat_td]
    exact Nat.le_trans (sz_mono (by decide) (Nat.div_le_self _ _)) gt2
  have ln := nT_len (x.tdiv (G : Int))
  refine ⟨e6, O6.1, O6.1, jRet_mono (c_Owrite O6 C6 Q10 (by omega) (by rw [List.length_nil]; omega)) ?_⟩
  intro q7 h7 w7
  obtain ⟨e7, f7, C7⟩ := w7
  rw [List.nil_append] at C7
  have t7 : fg (otS o) h h7 := t6.tr (f7.mo (fun p k z => by unfold ouS at z; unfold otS; omega))
  have O7 := oo_sk O6 f7.1
  refine ⟨e7, O7.1, jRet_mono (c_Oput (c := 47) O7 C7 (by decide) (by omega)) ?_⟩
  intro q8 h8 w8
  obtain ⟨e8, f8, C8⟩ := w8
  have t8 : fg (otS o) h h8 := t7.tr (f8.mo (fun p k z => by unfold ouS at z; unfold otS; omega))
  have O8 := oo_sk O7 f8.1
  rw [O8.2.2.2.2.1, O8.2.2.2.2.2.2.2]
  have ou2 : ∀ c, 2 ≤ c → ∀ k, ¬ ouS o (o + c) k ∧ ¬ ouS o (o + c + 1) k := fun c hc k => by
    unfold ouS
    omega
  have Y48 := bg_fg (bg_fg Y46 f7 (ou2 4 (by decide))) f8 (ou2 4 (by decide))
  have Q108 := bg_fg (bg_fg Q10 f7 (ou2 10 (by decide))) f8 (ou2 10 (by decide))
  have R28 := bg_fg (bg_fg R2 f7 (ou2 2 (by decide))) f8 (ou2 2 (by decide))
  have GP8 : BG 40 p h8 (G : Int) := by
    rcases hp with z | z
    · rw [z] at GP6 ⊢
      exact bg_fg (bg_fg GP6 f7 (ou2 6 (by decide))) f8 (ou2 6 (by decide))
    · rw [z] at GP6 ⊢
      exact bg_fg (bg_fg GP6 f7 (ou2 8 (by decide))) f8 (ou2 8 (by decide))
  refine ⟨e8, O8.1, O8.1, Y48.1.1, jRet_mono (c_Bdivide Y48 GP8 Q108 (by omega) (by omega) (by omega) (by omega) sy) ?_⟩
  intro q9 h9 w9
  obtain ⟨e9, f9, R4, P10⟩ := w9
  have t9 : fg (otS o) h h9 := t8.tr (f9.mo (fun p k z => by unfold dvS fbS at z; unfold otS; omega))
  have O9 := oo_sk O8 f9.1
  have C9 : CO o h9 (nT (x.tdiv (G : Int)) ++ [((47 : Nat) : Int)]) := co_fg C8 f9 (fun p k z => by unfold dvS fbS at z; unfold ouS; omega)
  rw [O9.2.2.2.2.2.2.2]
  refine ⟨e9, O9.1, O9.1, jRet_mono (c_Owrite O9 C9 P10 (by omega) (by rw [List.length_append, show ([((47 : Nat) : Int)] : List Int).length = 1 from rfl]; omega)) ?_⟩
  intro q10 h10 w10
  obtain ⟨e10, f10, C10⟩ := w10
  have t10 : fg (otS o) h h10 := t9.tr (f10.mo (fun p k z => by unfold ouS at z; unfold otS; omega))
  have hft : nT (x.tdiv (G : Int)) ++ [((47 : Nat) : Int)] ++ nT (y.tdiv (G : Int)) = fT x y := by
    unfold fT
    rw [hgT]
    rfl
  rw [hft] at C10
  refine ⟨e10, (oo_sk O9 f10.1).1, ?_, t10, C10, ?_⟩
  · rw [gI_mI, C10.1]
  · obtain ⟨u6, G6'⟩ := G6
    obtain ⟨u8, G8'⟩ := G8
    have G6z := up 6 (by decide) _ _ G6'
    have G8z := up 8 (by decide) _ _ G8'
    have dv6 : ∀ c, (c = 6 ∨ c = 8) → ∀ k, (¬ dvS (o + 2) (o + 10) (o + c) k ∧ ¬ dvS (o + 2) (o + 10) (o + c + 1) k) ∧ (¬ dvS (o + 4) (o + 10) (o + c) k ∧ ¬ dvS (o + 4) (o + 10) (o + c + 1) k) := fun c hc k => by
      unfold dvS fbS
      omega
    exact ⟨⟨_, bg_fg (bg_fg R28 f9 (fun k => by unfold dvS fbS; omega)) f10 (ou2 2 (by decide))⟩, ⟨_, bg_fg R4 f10 (ou2 4 (by decide))⟩,
      ⟨_, bg_fg (bg_fg (bg_fg (bg_fg (bg_fg G6z f6 (fun k => (dv6 6 (Or.inl rfl) k).1)) f7 (ou2 6 (by decide))) f8 (ou2 6 (by decide))) f9 (fun k => (dv6 6 (Or.inl rfl) k).2)) f10 (ou2 6 (by decide))⟩,
      ⟨_, bg_fg (bg_fg (bg_fg (bg_fg (bg_fg G8z f6 (fun k => (dv6 8 (Or.inr rfl) k).1)) f7 (ou2 8 (by decide))) f8 (ou2 8 (by decide))) f9 (fun k => (dv6 8 (Or.inr rfl) k).2)) f10 (ou2 8 (by decide))⟩,
      ⟨_, bg_fg P10 f10 (ou2 10 (by decide))⟩⟩
end OUT
