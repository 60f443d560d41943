/-! the model's finds, least, power -/
section FINDS2
variable {m n L K T0 : Nat} {h : jHp}
def lexP (a b c : Nat) : Nat → Nat → Nat → Prop := fun a' b' c' => a' < a ∨ (a' = a ∧ (b' < b ∨ (b' = b ∧ c' < c)))
def fnQ (m : Nat) (h : jHp) (n L : Nat) : jQ := fun r g' => ∃ any : Int, r = some (.int (iI any)) ∧ (any = 0 ∨ any = 1) ∧ fg (cnS m) h g' ∧ FV m h n L (n + 2 * L) g' any (fun _ _ _ => True) ∧ (∃ T : Nat, mI g' m 2 = (T : Int) ∧ T ≤ 75000) ∧ (∀ l, l < L → mI g' (m + 23) l = lmA m h n l) ∧ ∃ v, KN m g' 64 v
theorem l_loops {g1 : jHp} (M : Mo m g1) (S : SW m h n) (O : SO m h n) (N : SN m h n) (Qp : SP m h n) (hL : mI g1 m 37 = (L : Int)) (hL3 : L ≤ 3) (eK : K = n + 2 * L) (hK : mI g1 m 38 = (K : Int)) (X : LM m g1 T0 K (lvK m h n K)) (hT0 : T0 ≤ 75000) (t0 : mI g1 m 2 = (T0 : Int)) (LPg : LPr m n L h g1) (f0 : fg (cnS m) h g1) (K64 : ∃ v, KN m g1 64 v) : J 192 122 0 0 [.ref m, .int (iI 0), .int (iI ((if L = 0 then 1 else K : Nat) : Int)), .int (iI ((if L < 2 then 1 else K : Nat) : Int)), .int (iI ((if L < 3 then 1 else K : Nat) : Int)), .int (iI 0), uu, uu, uu, uu] [] g1 (fnQ m h n L) := by
  have hn8 := S.2.1
  have K14 : K ≤ 14 := by omega
  obtain ⟨aN, haN⟩ : ∃ aN, aN = (if L = 0 then 1 else K) := ⟨_, rfl⟩
  obtain ⟨sN, hsN⟩ : ∃ sN, sN = (if L < 2 then 1 else K) := ⟨_, rfl⟩
  obtain ⟨tN, htN⟩ : ∃ tN, tN = (if L < 3 then 1 else K) := ⟨_, rfl⟩
  have a15 : aN < 20 := by rw [haN]; split <;> omega
  have s15 : sN < 20 := by rw [hsN]; split <;> omega
  have t15 : tN < 20 := by rw [htN]; split <;> omega
  have vd : ∀ a b c, vaT L K a b c ↔ (a < aN ∧ (if L < 2 then 0 else a + 1) ≤ b ∧ b < sN ∧ (if L < 3 then 0 else b + 1) ≤ c ∧ c < tN) := fun a b c => by
    rw [haN, hsN, htN]
    exact Iff.rfl
  rw [← haN, ← hsN, ← htN]
  have fx : ∀ {k : jHp}, fg (fxS m T0) g1 k → fg (cnS m) h k := fun z => f0.tr (z.mo (fun p q y => by unfold fxS at y; unfold cnS; omega))
  have av : ∀ {any : Int} {k : jHp} {P : Nat → Nat → Nat → Prop}, FV m h n L K k any P → any = 0 ∨ any = 1 := fun z => by
    rcases z with z | z
    · exact Or.inl z.1
    · exact Or.inr z.1
  have l122 : ∀ (d a : Nat) (any : Int) (k : jHp), a + d = aN → fg (fxS m T0) g1 k → mI k m 2 = (T0 : Int) → FV m h n L K k any (lexP a 0 0) → J 192 122 0 0 [.ref m, .int (iI any), .int (iI (aN : Int)), .int (iI (sN : Int)), .int (iI (tN : Int)), .int (iI a), uu, uu, uu, uu] [] k (fnQ m h n L) := by
    intro d
    induction d with
    | zero =>
      intro a any k hd f t F
      obtain rfl : a = aN := by omega
      have any2 := av F
      refine j_M_finds_122 ?_
      rw [iI_le ⟨by omega, by omega⟩ ⟨by omega, by omega⟩]
      refine ⟨fun _ => j_M_finds_314 ⟨by rcases any2 with rfl | rfl; exact Or.inl rfl; exact Or.inr rfl, any, rfl, any2, fx f, ?_, ⟨T0, t, hT0⟩, fun l hl => ?_, ?_⟩, fun z => absurd (Int.le_refl _) z⟩
      · rw [← eK]
        refine fv_c F (fun a' b' c' v _ => Or.inl ?_)
        have := (vd a' b' c').mp v
        omega
      · rw [f.eq (by unfold fxS; omega)]
        exact (LPg l hl).1
      · obtain ⟨v, kv⟩ := K64
        exact ⟨v, kn_fg kv f (fun q _ _ z => by unfold fxS at z; omega)⟩
    | succ d ih =>
      intro a any k hd f t F
      have l146 : ∀ (e b : Nat) (any : Int) (k : jHp), b + e = sN ∨ (e = 0 ∧ sN ≤ b) → (if L < 2 then 0 else a + 1) ≤ b → b ≤ 30 → fg (fxS m T0) g1 k → mI k m 2 = (T0 : Int) → FV m h n L K k any (lexP a b 0) → J 192 146 0 0 [.ref m, .int (iI any), .int (iI (aN : Int)), .int (iI (sN : Int)), .int (iI (tN : Int)), .int (iI a), .int (iI b), uu, uu, uu] [] k (fnQ m h n L) := by
        intro e
        induction e with
        | zero =>
          intro b any k hb hb0 hb30 f t F
          refine j_M_finds_146 ?_
          rw [iI_le ⟨by omega, by omega⟩ ⟨by omega, by omega⟩]
          refine ⟨fun _ => j_M_finds_308 ?_, fun z => by omega⟩
          rw [iI_add]
          refine ih (a + 1) any k (by omega) f t (fv_c F (fun a' b' c' v p => ?_))
          have := (vd a' b' c').mp v
          unfold lexP at *
          omega
        | succ e ih2 =>
          intro b any k hb hb0 hb30 f t F
          have hbs : b < sN := by omega
          have Mk := M.sk f.1
          have l170 : ∀ (u c : Nat) (any : Int) (k : jHp), c + u = tN ∨ (u = 0 ∧ tN ≤ c) → (if L < 3 then 0 else b + 1) ≤ c → c ≤ 40 → fg (fxS m T0) g1 k → mI k m 2 = (T0 : Int) → FV m h n L K k any (lexP a b c) → J 192 170 0 0 [.ref m, .int (iI any), .int (iI (aN : Int)), .int (iI (sN : Int)), .int (iI (tN : Int)), .int (iI a), .int (iI b), .int (iI c), uu, uu] [] k (fnQ m h n L) := by
            intro u
            induction u with
            | zero =>
              intro c any k hc hc0 hc40 f t F
              refine j_M_finds_170 ?_
              rw [iI_le ⟨by omega, by omega⟩ ⟨by omega, by omega⟩]
              refine ⟨fun _ => j_M_finds_302 ?_, fun z => by omega⟩
              rw [iI_add]
              refine ih2 (b + 1) any k (by omega) (by omega) (by omega) f t (fv_c F (fun a' b' c' v p => ?_))
              have := (vd a' b' c').mp v
              unfold lexP at *
              omega
            | succ u ih3 =>
              intro c any k hc hc0 hc40 f t F
              have Mk := M.sk f.1
              have z0 : (iI 0).toNatClampNeg = 0 := by decide
              have z1 : (iI 1).toNatClampNeg = 1 := by decide
              have M1 : ∀ v, Mo m (sI k (m + 25) 0 v) := fun v => Mk.sI
              refine j_M_finds_170 ?_
              rw [iI_le ⟨by omega, by omega⟩ ⟨by omega, by omega⟩, Mk.a34.1, z0, (M1 _).a34.1, z1, gI_mI k m 2, t]
              refine ⟨fun z => by omega, fun _ => ⟨Mk.1, Mk.1, ix_of (a := ((0 : Nat) : Int)) Mk.a34.2 (by omega) (by omega) (by decide), (M1 _).1, ix_of (a := ((1 : Nat) : Int)) (M1 _).a34.2 (by omega) (by omega) (by decide), ?_⟩⟩
              refine l_one M S O N Qp hL hL3 eK hK X hT0 LPg ((vd a b c).mpr ⟨by omega, hb0, hbs, hc0, by omega⟩) f t F ?_
              intro k2 any2 tp F2 t2 FV2
              have M2 := M.sk F2.1
              have f3 : fg (fun p q => p = m ∧ q = 2) k2 (sI k2 m 2 (iI (T0 : Int))) := fg.rf.wr ⟨rfl, rfl⟩
              refine j_M_finds_290 ⟨M2.1, ?_⟩
              rw [iI_add]
              refine ih3 (c + 1) any2 _ (by omega) (by omega) (by omega) (F2.tr (f3.mo (fun p q z => by unfold fxS; omega))) (by rw [mI_sI ⟨by omega, by omega⟩, if_pos ⟨rfl, rfl⟩]) (fv_c (fv_fg hL3 FV2 f3 (fun q => by omega)) (fun a' b' c' v p => ?_))
              unfold lexP at *
              omega
          refine j_M_finds_146 ?_
          rw [iI_le ⟨by omega, by omega⟩ ⟨by omega, by omega⟩, gI_mI k m 37, f.eq (by unfold fxS; omega), hL, iI_le ⟨by omega, by omega⟩ ⟨by omega, by omega⟩]
          refine ⟨fun z => by omega, fun _ => ⟨Mk.1, fun z => j_M_finds_164 (j_M_finds_168 ?_), fun z => j_M_finds_168 ?_⟩⟩
          · rw [iI_add]
            refine l170 (tN - (b + 1)) (b + 1) any k (by omega) (by rw [if_neg (by omega)]; exact Nat.le_refl _) (by omega) f t (fv_c F (fun a' b' c' v p => ?_))
            have := (vd a' b' c').mp v
            rw [if_neg (by omega), if_neg (by omega)] at this
            unfold lexP at *
            omega
          · refine l170 tN 0 any k (by omega) (by rw [if_pos (by omega)]; exact Nat.le_refl _) (by omega) f t F
      have Mk := M.sk f.1
      refine j_M_finds_122 ?_
      rw [iI_le ⟨by omega, by omega⟩ ⟨by omega, by omega⟩, gI_mI k m 37, f.eq (by unfold fxS; omega), hL, iI_le ⟨by omega, by omega⟩ ⟨by omega, by omega⟩]
      refine ⟨fun z => by omega, fun _ => ⟨Mk.1, fun z => j_M_finds_140 (j_M_finds_144 ?_), fun z => j_M_finds_144 ?_⟩⟩
      · rw [iI_add]
        refine l146 (sN - (a + 1)) (a + 1) any k (by omega) (by rw [if_neg (by omega)]; exact Nat.le_refl _) (by omega) f t (fv_c F (fun a' b' c' v p => ?_))
        have := (vd a' b' c').mp v
        rw [if_neg (by omega)] at this
        unfold lexP at *
        omega
      · refine l146 sN 0 any k (by omega) (by rw [if_pos (by omega)]; exact Nat.le_refl _) (by omega) f t F
  exact l122 aN 0 0 g1 (by omega) fg.rf t0 (Or.inl ⟨rfl, fun a b c _ p => by unfold lexP at p; omega⟩)
theorem c_finds (M : Mo m h) (S : SW m h n) (O : SO m h n) (N : SN m h n) (Qp : SP m h n) (KDh : KD m h n) (hL3 : L ≤ 3) (hLC : lmC m h n = (L : Int)) (K64 : 0 < n ∨ ∃ v0, KN m h 64 v0) : jRet 192 0 0 [.ref m] h (fnQ m h n L) := by
  have hn8 := S.2.1
  refine jRet_of (by decide) (by decide) (Nat.le_of_ble_eq_true rfl) (j_M_finds_0 ⟨M.1, jRet_mono (c_allPulls M S) ?_⟩)
  intro r1 h1 w1
  obtain ⟨x1, f1, K1, K2, K3⟩ := w1
  have M1 := M.sk f1.1
  refine ⟨x1, M1.1, jRet_mono (c_clean M1) ?_⟩
  intro r2 h2 w2
  obtain ⟨x2, e2⟩ := w2
  have f2 : fg (fun p k => p = m ∧ k = 2) h1 h2 := by
    rw [e2]
    exact fg.rf.wr ⟨rfl, rfl⟩
  have M2 := M1.sk f2.1
  have F2 : fg (cnS m) h h2 := (f1.mo (fun _ _ z => pu_cn z)).tr (f2.mo (fun p q z => by unfold cnS; omega))
  have t2 : mI h2 m 2 = ((0 : Nat) : Int) := by
    rw [e2, mI_sI ⟨by omega, by omega⟩, if_pos ⟨rfl, rfl⟩]
    rfl
  obtain ⟨d0, K64', hd0⟩ : ∃ d0, KN m h2 64 d0 ∧ (0 < n → d0 = dV m h n) := by
    by_cases c : 0 < n
    · exact ⟨_, kn_fg (K2 c) f2 (fun k _ _ z => by omega), fun _ => rfl⟩
    · rcases K64 with K64 | ⟨v0, K64⟩
      · exact absurd K64 c
      · exact ⟨v0, kn_fg (K3 64 v0 (by omega) (by omega) (by omega) K64) f2 (fun k _ _ z => by omega), fun z => absurd z c⟩
  have Kp : ∀ i j, i < n → j < n → KN m h2 (8 * i + j) (pV m h n i j) := fun i j hi hj => kn_fg (K1 i j hi hj) f2 (fun k _ _ z => by omega)
  have lS : ∀ (p k : Nat), (p = m + 23 ∨ p = m ∧ k = 37) → cnS m p k := fun p k z => by
    unfold cnS
    omega
  have l15 : ∀ (d i : Nat) (k : jHp), i + d = n → fg (fun p k => p = m + 23 ∨ p = m ∧ k = 37) h2 k → mI k m 37 = lmC m h i → (∀ x : Nat, (x : Int) < lmC m h i → mI k (m + 23) x = lmA m h i x) → J 192 15 0 0 [.ref m, .int (iI i), uu, uu, uu, uu, uu, uu, uu, uu] [] k (fnQ m h n L) := by
    intro d
    induction d with
    | zero =>
      intro i k hd f k37 A
      obtain rfl : i = n := by omega
      have Mk := M2.sk f.1
      have Fk : fg (cnS m) h k := F2.tr (f.mo lS)
      have sk' : stq m h k := stq_cu (cn_cuF Fk)
      have kn : ∀ {p : Nat} {v : Int}, KN m h2 p v → KN m k p v := fun z => kn_fg z f (fun q _ _ y => by omega)
      refine j_M_finds_15 ?_
      rw [gI_mI k m 20, sk'.2.2.1, S.1, iI_le ⟨by omega, by omega⟩ ⟨by omega, by omega⟩]
      refine ⟨Mk.1, fun _ => j_M_finds_62 ⟨Mk.1, jRet_mono (c_tellLimits (L := L) Mk S O N Qp KDh sk' (by rw [f.eq (by omega)]; exact t2) (by rw [k37, hLC]) hL3 hLC (fun l hl => A l (by omega)) (fun i j hi hj => kn (Kp i j hi hj)) (kn K64') hd0) ?_⟩, fun z => absurd (Int.le_refl _) z⟩
      intro r3 k3 w3
      obtain ⟨x3, f3, k38, T3, t3, b3, X3⟩ := w3
      have M3 := Mk.sk f3.1
      have F3 : fg (cnS m) h k3 := Fk.tr (f3.mo (fun p q z => by unfold tmS at z; unfold cnS; omega))
      have s3 : stq m h k3 := stq_cu (cn_cuF F3)
      have k337 : mI k3 m 37 = (L : Int) := by
        rw [f3.eq (by unfold tmS; omega), k37, hLC]
      have X3' : LM m k3 T3 (i + 2 * L) (lvK m h i (i + 2 * L)) := fun x j hx hj => by
        unfold lvK
        rw [if_pos ⟨hx, hj⟩]
        exact X3 x j hx hj
      have LP3 : LPr m i L h k3 := fun l hl => by
        have q := (lmA_in (m := m) (h := h) i l).1 (by omega)
        refine ⟨?_, q.1, q.2.1, ?_⟩
        · rw [f3.eq (by unfold tmS; omega)]
          exact A l (by omega)
        · rw [s3.1 14 (by decide) (by decide)]
          unfold prV
          rw [if_neg (by omega)]
      have go := l_loops M3 S O N Qp k337 hL3 rfl k38 X3' b3 t3 LP3 F3 ⟨d0, kn_fg (kn K64') f3 (fun q _ _ z => by unfold tmS at z; omega)⟩
      have l117 : ∀ y : Int, y = ((if L < 3 then 1 else i + 2 * L : Nat) : Int) → J 192 117 0 0 [.ref m, .int (iI 0), .int (iI ((if L = 0 then 1 else i + 2 * L : Nat) : Int)), .int (iI ((if L < 2 then 1 else i + 2 * L : Nat) : Int)), uu, uu, uu, uu, uu, uu] [.int (iI y)] k3 (fnQ m h i L) := by
        intro y hy
        refine j_M_finds_117 ?_
        rw [hy]
        exact go
      have l100 : ∀ y : Int, y = ((if L < 2 then 1 else i + 2 * L : Nat) : Int) → J 192 100 0 0 [.ref m, .int (iI 0), .int (iI ((if L = 0 then 1 else i + 2 * L : Nat) : Int)), uu, uu, uu, uu, uu, uu, uu] [.int (iI y)] k3 (fnQ m h i L) := by
        intro y hy
        refine j_M_finds_100 ?_
        rw [gI_mI k3 m 37, k337, iI_le ⟨by omega, by omega⟩ ⟨by omega, by omega⟩, hy]
        refine ⟨M3.1, fun z => j_M_finds_113 ⟨M3.1, ?_⟩, fun z => l117 1 (by rw [if_pos (by omega)]; rfl)⟩
        rw [gI_mI k3 m 38, k38]
        exact l117 _ (by rw [if_neg (by omega)])
      have l83 : ∀ y : Int, y = ((if L = 0 then 1 else i + 2 * L : Nat) : Int) → J 192 83 0 0 [.ref m, .int (iI 0), uu, uu, uu, uu, uu, uu, uu, uu] [.int (iI y)] k3 (fnQ m h i L) := by
        intro y hy
        refine j_M_finds_83 ?_
        rw [gI_mI k3 m 37, k337, iI_le ⟨by omega, by omega⟩ ⟨by omega, by omega⟩, hy]
        refine ⟨M3.1, fun z => j_M_finds_96 ⟨M3.1, ?_⟩, fun z => l100 1 (by rw [if_pos (by omega)]; rfl)⟩
        rw [gI_mI k3 m 38, k38]
        exact l100 _ (by rw [if_neg (by omega)])
      rw [gI_mI k3 m 37, k337, iI_0, iI_eq ⟨by omega, by omega⟩ ⟨by omega, by omega⟩]
      refine ⟨x3, M3.1, fun z => j_M_finds_79 ⟨M3.1, ?_⟩, fun z => l83 1 (by rw [if_pos (by omega)]; rfl)⟩
      rw [gI_mI k3 m 38, k38]
      exact l83 _ (by rw [if_neg (by omega)])
    | succ d ih =>
      intro i k hd f k37 A
      have hin : i < n := by omega
      have Mk := M2.sk f.1
      have Fk : fg (cnS m) h k := F2.tr (f.mo lS)
      have sk' : stq m h k := stq_cu (cn_cuF Fk)
      have b := lmC_bd (m := m) (h := h) i
      obtain ⟨dd', hdd⟩ : ∃ dd', n = i + dd' := ⟨n - i, by omega⟩
      have m1 := lmC_mo (m := m) (h := h) (k := i + 1) (dd' - 1)
      rw [show i + 1 + (dd' - 1) = n by omega] at m1
      have ls := lmC_s (m := m) (h := h) (k := i)
      refine j_M_finds_15 ?_
      rw [gI_mI k m 20, sk'.2.2.1, S.1, iI_le ⟨by omega, by omega⟩ ⟨by omega, by omega⟩, Mk.a12.1, gI_q (by omega) (by omega), Int.toNat_natCast, sk'.1 9 (by decide) (by decide), iI_eq (rI_mI _ _ _) ⟨by omega, by omega⟩]
      refine ⟨Mk.1, fun z => by omega, fun _ => ⟨Mk.1, ixL_of Mk.a12.2 (by omega) (by omega) (by decide), fun z => j_M_finds_36 ?_, fun z => j_M_finds_56 ?_⟩⟩
      · rw [if_pos z] at ls
        obtain ⟨l, hl⟩ : ∃ l : Nat, lmC m h i = (l : Int) := ⟨(lmC m h i).toNat, by omega⟩
        have f3 : fg (fun p q => p = m + 23 ∧ q = l) k (sI k (m + 23) l (iI (i : Int))) := fg.rf.wr ⟨rfl, rfl⟩
        have M3 := Mk.sk f3.1
        have k373 : mI (sI k (m + 23) l (iI (i : Int))) m 37 = (l : Int) := by
          rw [f3.eq (by omega), k37, hl]
        rw [Mk.a32.1, gI_mI k m 37, k37, hl, iI_cl (by omega) (by omega), Int.toNat_natCast, gI_mI _ m 37, k373, iI_add]
        refine ⟨Mk.1, Mk.1, ix_of Mk.a32.2 (by omega) (by omega) (by decide), M3.1, M3.1, j_M_finds_56 ?_⟩
        rw [iI_add]
        refine ih (i + 1) _ (by omega) ((f.tr (f3.mo (fun p q z => Or.inl z.1))).wr (Or.inr ⟨rfl, rfl⟩)) ?_ (fun x hx => ?_)
        · rw [mI_sI ⟨by omega, by omega⟩, if_pos ⟨rfl, rfl⟩, ls, hl]
        · rw [mI_sI ⟨by omega, by omega⟩, if_neg (fun y => by omega), mI_sI ⟨by omega, by omega⟩, lmA_s]
          by_cases e : x = l
          · rw [if_pos ⟨rfl, e⟩, if_pos ⟨z, by omega⟩]
          · have e' : ¬ (mI h (m + 9) i = 1 ∧ (x : Int) = lmC m h i) := fun y => by omega
            rw [if_neg e', if_neg (fun y => e y.2)]
            exact A x (by omega)
      · rw [if_neg z] at ls
        rw [iI_add]
        refine ih (i + 1) k (by omega) f (by rw [k37, ls]; omega) (fun x hx => ?_)
        rw [lmA_s, if_neg (fun y => z y.1)]
        exact A x (by omega)
  have f3 : fg (fun p k => p = m + 23 ∨ p = m ∧ k = 37) h2 (sI h2 m 37 (iI 0)) := fg.rf.wr (Or.inr ⟨rfl, rfl⟩)
  refine ⟨x2, M2.1, l15 n 0 _ (by omega) f3 (by rw [mI_sI ⟨by omega, by omega⟩, if_pos ⟨rfl, rfl⟩]; rfl) (fun x hx => by rw [lmC] at hx; omega)⟩
/-- least's answer -/
def leQ (m : Nat) (h : jHp) (n L : Nat) : jQ := fun r h' => (∃ v, KN m h' 64 v) ∧ (((∀ a b c, vaT L (n + 2 * L) a b c → ¬ nsT m h n L (n + 2 * L) a b c) ∧ r = some (.int (iI (-1))) ∧ fg (cuS m) h h' ∧ mI h' m 0 = 8 ∧ ∀ l, OU m h l → OU m h' l) ∨ ∃ a b c, vaT L (n + 2 * L) a b c ∧ nsT m h n L (n + 2 * L) a b c ∧ (∀ a' b' c', vaT L (n + 2 * L) a' b' c' → nsT m h n L (n + 2 * L) a' b' c' → ¬ plt (prV m h n) (oT m h n L (n + 2 * L) a' b' c') (wT m h n L (n + 2 * L) a' b' c') (oT m h n L (n + 2 * L) a b c) (wT m h n L (n + 2 * L) a b c)) ∧ tdQ m h (ob (prV m h n) (oT m h n L (n + 2 * L) a b c) 0) (wT m h n L (n + 2 * L) a b c) r h')
theorem ou_cn {g : jHp} {l : List Int} (O : OU m h l) (f : fg (fun p k => cnS m p k ∨ (p = m ∧ k = 0)) h g) : OU m g l := by
  unfold OU at *
  refine ⟨by rw [f.eq (by unfold cnS; omega)]; exact O.1, O.2.1, fun k hk => ?_⟩
  rw [f.eq (by unfold cnS; omega)]
  exact O.2.2 k hk
theorem ob_151 (S : SW m h n) (O : SO m h n) (N : SN m h n) (Qp : SP m h n) (hL3 : L ≤ 3) (a b c : Nat) : (∀ l, (oT m h n L (n + 2 * L) a b c l).natAbs ≤ 10 ^ 151) ∧ (wT m h n L (n + 2 * L) a b c).natAbs ≤ 10 ^ 151 ∧ (ob (prV m h n) (oT m h n L (n + 2 * L) a b c) 0).natAbs ≤ 10 ^ 205 := by
  have bl := lv_bd (L := L) S O N Qp hL3
  have bo : ∀ l, (oT m h n L (n + 2 * L) a b c l).natAbs ≤ 10 ^ 151 := fun l => by
    unfold oT
    split
    · rw [sg_na]
      exact G_bd (fun i j => At_bd bl i j)
    · decide +kernel
  refine ⟨bo, ?_, ?_⟩
  · unfold wT
    rw [sg_na]
    exact dd_bd (fun i j => At_bd bl i j)
  · have tt : ∀ l, l < 3 → (prV m h n l * oT m h n L (n + 2 * L) a b c l).natAbs ≤ 10 ^ 154 := fun l _ => by
      have := pr_bd (m := m) (h := h) (n := n) Qp (a := l)
      exact Nat.le_trans (nA_mul (show (prV m h n l).natAbs ≤ 1000 by omega) (bo l)) (by decide +kernel)
    have e : ob (prV m h n) (oT m h n L (n + 2 * L) a b c) 0 = sm (fun l => prV m h n l * oT m h n L (n + 2 * L) a b c l) 3 := by
      rw [sm3]
      rfl
    rw [e]
    exact Nat.le_trans (s_bd (Nat.le_refl 3) tt) (by decide +kernel)
theorem o_held2 {g : jHp} {T p : Nat} {x : Int} (M : Mo m g) (ht : mI g m 2 = (T : Int)) (hT : T ≤ 300000) (K : KN m g p x) (hp : p < 75) : jRet 178 0 0 [.ref m, .int (iI p)] g (OP m g T x) := o_held M ht (by omega) K hp
theorem o_tells2 {a b T : Nat} {g : jHp} {x y : Int} (M : Mo m g) (f : fg (cuS m) h g) (ht : mI g m 2 = (T : Int)) (hT : T ≤ 380000) (na : PN m g T a x) (nb : PN m g T b y) (hy : 0 < y) (hx : x.natAbs ≤ 10 ^ 210) (hy2 : y.natAbs ≤ 10 ^ 210) : jRet 179 0 0 [.ref m, .int (iI a), .int (iI b)] g (fun r h' => tdQ m h x y r h' ∧ fg (tsS m T) g h') := by
  have s1 := na.2.2
  have s2 := nb.2.2
  refine jRet_mono (c_tells M na.1 nb.1 ht na.2.1 nb.2.1 hy (by omega) (by omega) (sz10 hx) (sz10 hy2) (by omega)) ?_
  intro r h' q
  exact ⟨⟨q.1, f.tr (q.2.1.mo (fun _ _ z => ts_cu z)), q.2.2.1, q.2.2.2⟩, q.2.1⟩
theorem c_least (M : Mo m h) (S : SW m h n) (O : SO m h n) (N : SN m h n) (Qp : SP m h n) (KDh : KD m h n) (hL3 : L ≤ 3) (hLC : lmC m h n = (L : Int)) (K64 : 0 < n ∨ ∃ v0, KN m h 64 v0) : jRet 191 0 0 [.ref m] h (leQ m h n L) := by
  refine jRet_of (by decide) (by decide) (Nat.le_of_ble_eq_true rfl) (j_M_least_0 ⟨M.1, jRet_mono (c_finds M S O N Qp KDh hL3 hLC K64) ?_⟩)
  intro r1 h1 w1
  obtain ⟨any, x1, an, f1, F1, ⟨T, t1, b1⟩, lm, v64, k64⟩ := w1
  have M1 := M.sk f1.1
  refine ⟨_, x1, ?_⟩
  rcases F1 with ⟨a0, none⟩ | ⟨a1, a, b, c, va, ns, K69, K68, K65, best⟩
  · rw [a0]
    refine ⟨fun z => absurd rfl z, fun _ => ⟨M1.1, jRet_mono (c_refuse M1) ?_⟩⟩
    intro r2 h2 w2
    have f2 : fg (fun p k => cnS m p k ∨ (p = m ∧ k = 0)) h h2 := by
      rw [w2.2]
      exact (f1.mo (fun _ _ z => Or.inl z)).wr (Or.inr ⟨rfl, rfl⟩)
    refine ⟨_, w2.1, ⟨v64, kn_fg k64 (show fg (fun p k => p = m ∧ k = 0) h1 h2 by rw [w2.2]; exact fg.rf.wr ⟨rfl, rfl⟩) (fun q _ _ z => by omega)⟩, Or.inl ⟨fun a b c v => none a b c v trivial, rfl, f2.mo (fun p k z => ?_), by rw [w2.2, mI_sI ⟨by omega, by omega⟩, if_pos ⟨rfl, rfl⟩], fun l o => ou_cn o f2⟩⟩
    rcases z with z | z
    · exact cn_cu z
    · unfold cuS
      omega
  · rw [a1]
    have bd := ob_151 S O N Qp hL3 a b c
    refine ⟨fun _ => j_M_least_14 ⟨M1.1, jRet_mono (o_held2 (p := 69) M1 t1 (by omega) K69 (by omega)) ?_⟩, fun z => absurd z (by decide)⟩
    intro r2 h2 w2
    obtain ⟨a2, T2, x2, f2, t2, c1, c2, n2⟩ := w2
    have M2 := M1.sk f2.1
    refine ⟨_, x2, M2.1, jRet_mono (o_held2 (p := 68) M2 t2 (by omega) (kn_fg K68 f2 (fun k _ _ z => by unfold wkS at z; omega)) (by omega)) ?_⟩
    intro r3 h3 w3
    obtain ⟨a3, T3, x3, f3, t3, c3, c4, n3⟩ := w3
    have M3 := M2.sk f3.1
    have F3 : fg (cuS m) h h3 := ((f1.mo (fun _ _ z => cn_cu z)).tr (f2.mo (fun _ _ z => cn_cu (wk_cn z)))).tr (f3.mo (fun _ _ z => cn_cu (wk_cn z)))
    refine ⟨_, x3, M3.1, jRet_mono (o_tells2 M3 F3 t3 (by omega) (pn_up n2 f3 c3) n3 (wT_pos ns.1) (Nat.le_trans bd.2.2 (by decide +kernel)) (Nat.le_trans bd.2.1 (by decide +kernel))) ?_⟩
    intro r4 h4 w4
    refine ⟨_, w4.1.1, ⟨v64, kn_fg (kn_fg (kn_fg k64 f2 (fun q _ _ z => by unfold wkS at z; omega)) f3 (fun q _ _ z => by unfold wkS at z; omega)) w4.2 (fun q _ _ z => by unfold tsS tlS wkS at z; omega)⟩, Or.inr ⟨a, b, c, va, ns, fun a' b' c' v u => best a' b' c' v trivial u, rfl, w4.1.2⟩⟩
/-- power's answer, of the lamp which -/
def poQ (m : Nat) (h : jHp) (n L wl : Nat) : jQ := fun r h' => ((∀ a b c, vaT L (n + 2 * L) a b c → ¬ nsT m h n L (n + 2 * L) a b c) ∧ r = some (.int (iI (-1))) ∧ fg (cuS m) h h' ∧ mI h' m 0 = 8 ∧ ∀ l, OU m h l → OU m h' l) ∨ ∃ a b c, vaT L (n + 2 * L) a b c ∧ nsT m h n L (n + 2 * L) a b c ∧ (∀ a' b' c', vaT L (n + 2 * L) a' b' c' → nsT m h n L (n + 2 * L) a' b' c' → ¬ plt (prV m h n) (oT m h n L (n + 2 * L) a' b' c') (wT m h n L (n + 2 * L) a' b' c') (oT m h n L (n + 2 * L) a b c) (wT m h n L (n + 2 * L) a b c)) ∧ tdQ m h (oT m h n L (n + 2 * L) a b c wl) (wT m h n L (n + 2 * L) a b c) r h'
def laS (m : Nat) (h : jHp) (n : Nat) (p : Int) : Int := if ¬ (0 ≤ p ∧ p < n) then 1 else if mI h (m + 9) p.toNat ≠ 1 then 5 else 0
theorem c_power {p : Int} (M : Mo m h) (S : SW m h n) (O : SO m h n) (N : SN m h n) (Qp : SP m h n) (KDh : KD m h n) (hL3 : L ≤ 3) (hLC : lmC m h n = (L : Int)) (hp : rI p) : jRet 199 0 0 [.ref m, .int (iI p)] h (fun r h' => (laS m h n p ≠ 0 → rfQ m h (laS m h n p) r h') ∧ (laS m h n p = 0 → poQ m h n L (lmC m h p.toNat).toNat r h')) := by
  have hn8 := S.2.1
  refine jRet_of (by decide) (by decide) (Nat.le_of_ble_eq_true rfl) (j_M_power_0 ⟨M.1, jRet_mono (c_isPatch M hp S.1) ?_⟩)
  intro q1 h1 w1
  obtain ⟨e1, e2⟩ := w1
  rw [e2]
  refine ⟨_, e1, fun z => j_M_power_14 ?_, fun z => ⟨M.1, jRet_mono (c_refuse M) ?_⟩⟩
  rotate_left
  · intro r2 h2 w2
    have e0 : laS m h n p = 1 := by
      unfold laS
      rw [if_pos (iz.mp z)]
    rw [e0]
    exact ⟨_, w2.1, fun _ => ⟨rfl, w2.2⟩, fun y => absurd y (by decide)⟩
  have c1 : 0 ≤ p ∧ p < n := Classical.byContradiction (fun y => z (iz.mpr y))
  obtain ⟨pn, rfl⟩ : ∃ pn : Nat, p = (pn : Int) := ⟨p.toNat, by omega⟩
  rw [M.a12.1, gI_q (by omega) (by omega), Int.toNat_natCast, iI_eq (rI_mI _ _ _) ⟨by omega, by omega⟩]
  refine ⟨M.1, ixL_of M.a12.2 (by omega) (by omega) (by decide), fun z2 => j_M_power_30 ⟨M.1, jRet_mono (c_finds M S O N Qp KDh hL3 hLC (Or.inl (by omega))) ?_⟩, fun z2 => ⟨M.1, jRet_mono (c_refuse M) ?_⟩⟩
  rotate_left
  · intro r2 h2 w2
    have e0 : laS m h n pn = 5 := by
      unfold laS
      rw [if_neg (fun y => y c1), Int.toNat_natCast, if_pos z2]
    rw [e0]
    exact ⟨_, w2.1, fun _ => ⟨rfl, w2.2⟩, fun y => absurd y (by decide)⟩
  have e0 : laS m h n pn = 0 := by
    unfold laS
    rw [if_neg (fun y => y c1), Int.toNat_natCast, if_neg (fun y => y z2)]
  have la := lmA_at (m := m) (h := h) (n := n) (k := pn) (by omega) z2
  have lb := lmC_bd (m := m) (h := h) pn
  intro r1 h1 w1
  obtain ⟨any, x1, an, f1, F1, ⟨T, t1, b1⟩, lm, _⟩ := w1
  have M1 := M.sk f1.1
  refine ⟨_, x1, ?_⟩
  rcases F1 with ⟨a0, none⟩ | ⟨a1, a, b, c, va, ns, K69, K68, K65, best⟩
  · rw [a0]
    refine ⟨fun z => absurd rfl z, fun _ => ⟨M1.1, jRet_mono (c_refuse M1) ?_⟩⟩
    intro r2 h2 w2
    have f2 : fg (fun p k => cnS m p k ∨ (p = m ∧ k = 0)) h h2 := by
      rw [w2.2]
      exact (f1.mo (fun _ _ z => Or.inl z)).wr (Or.inr ⟨rfl, rfl⟩)
    refine ⟨_, w2.1, fun y => absurd e0 y, fun _ => Or.inl ⟨fun a b c v => none a b c v trivial, rfl, f2.mo (fun p k z => ?_), by rw [w2.2, mI_sI ⟨by omega, by omega⟩, if_pos ⟨rfl, rfl⟩], fun l o => ou_cn o f2⟩⟩
    rcases z with z | z
    · exact cn_cu z
    · unfold cuS
      omega
  · rw [a1]
    have bd := ob_151 S O N Qp hL3 a b c
    obtain ⟨wl, hwl⟩ : ∃ wl : Nat, lmC m h pn = (wl : Int) := ⟨(lmC m h pn).toNat, by omega⟩
    rw [hwl, Int.toNat_natCast] at la
    have wlL : wl < L := by omega
    refine ⟨fun _ => j_M_power_44 ?_, fun z => absurd z (by decide)⟩
    have l62 : J 199 62 0 0 [.ref m, uu, .int (iI (wl : Int))] [] h1 (fun r h' => (laS m h n pn ≠ 0 → rfQ m h (laS m h n pn) r h') ∧ (laS m h n pn = 0 → poQ m h n L (lmC m h (pn : Int).toNat).toNat r h')) := by
      have e65 : iI 65 + iI (wl : Int) = iI ((65 + wl : Nat) : Int) := by
        rw [iI_add]
        congr 1
      refine j_M_power_62 ?_
      rw [e65]
      refine ⟨M1.1, jRet_mono (o_held2 (p := 65 + wl) M1 t1 (by omega) (K65 wl wlL) (by omega)) ?_⟩
      intro r2 h2 w2
      obtain ⟨a2, T2, x2, f2, t2, c1', c2, n2⟩ := w2
      have M2 := M1.sk f2.1
      refine ⟨_, x2, M2.1, jRet_mono (o_held2 (p := 68) M2 t2 (by omega) (kn_fg K68 f2 (fun k _ _ z => by unfold wkS at z; omega)) (by omega)) ?_⟩
      intro r3 h3 w3
      obtain ⟨a3, T3, x3, f3, t3, c3, c4, n3⟩ := w3
      have M3 := M2.sk f3.1
      have F3 : fg (cuS m) h h3 := ((f1.mo (fun _ _ z => cn_cu z)).tr (f2.mo (fun _ _ z => cn_cu (wk_cn z)))).tr (f3.mo (fun _ _ z => cn_cu (wk_cn z)))
      refine ⟨_, x3, M3.1, jRet_mono (o_tells M3 F3 t3 (by omega) (pn_up n2 f3 c3) n3 (wT_pos ns.1) (Nat.le_trans (bd.1 wl) (by decide +kernel)) (Nat.le_trans bd.2.1 (by decide +kernel))) ?_⟩
      intro r4 h4 w4
      refine ⟨_, w4.1, fun y => absurd e0 y, fun _ => Or.inr ⟨a, b, c, va, ns, fun a' b' c' v u => best a' b' c' v trivial u, ?_⟩⟩
      rw [Int.toNat_natCast, hwl, Int.toNat_natCast]
      exact ⟨rfl, w4.2⟩
    have l46 : ∀ (d l : Nat), l + d = wl → J 199 46 0 0 [.ref m, .int (iI (pn : Int)), .int (iI l)] [] h1 (fun r h' => (laS m h n pn ≠ 0 → rfQ m h (laS m h n pn) r h') ∧ (laS m h n pn = 0 → poQ m h n L (lmC m h (pn : Int).toNat).toNat r h')) := by
      intro d
      induction d with
      | zero =>
        intro l hl
        obtain rfl : l = wl := by omega
        refine j_M_power_46 ?_
        rw [M1.a32.1, gI_q (by omega) (by omega), Int.toNat_natCast, lm l wlL, la.1]
        exact ⟨M1.1, ixL_of M1.a32.2 (by omega) (by omega) (by decide), fun _ => l62, fun z => absurd rfl z⟩
      | succ d ih =>
        intro l hl
        have q := (lmA_in (m := m) (h := h) n l).1 (by omega)
        refine j_M_power_46 ?_
        rw [M1.a32.1, gI_q (by omega) (by omega), Int.toNat_natCast, lm l (by omega), iI_eq ⟨by omega, by omega⟩ ⟨by omega, by omega⟩]
        refine ⟨M1.1, ixL_of M1.a32.2 (by omega) (by omega) (by decide), fun z => ?_, fun z => ?_⟩
        · exfalso
          obtain ⟨dd', hdd⟩ : ∃ dd', n = pn + dd' := ⟨n - pn, by omega⟩
          have up := lmA_up (m := m) (h := h) (k := pn) (l := l) (by omega) dd'
          rw [← hdd, z] at up
          have q2 := (lmA_in (m := m) (h := h) pn l).1 (by omega)
          omega
        · rw [iI_add]
          exact ih (l + 1) (by omega)
    exact l46 wl 0 (by omega)
end FINDS2
