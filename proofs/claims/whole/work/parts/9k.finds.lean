/-! the model's finds: all corners of the limits -/
section FINDS
variable {m n L K T0 : Nat} {h : jHp}
theorem nu_lt {a T : Nat} {S : Nat → Nat → Prop} {g g' : jHp} {v : Int} (N : NU m g a v) (ha : a + sz B3 v.natAbs < T) (f : fg S g g') (s : ∀ k, k < T → ¬ S (m + 1) k) : NU m g' a v := by
  obtain ⟨n1, n2, n3⟩ := N
  have e : ∀ k, k < T → mm g' m k = mm g m k := fun k hk => f.eq (s k hk)
  exact ⟨n1, by rw [e _ (by omega)]; exact n2, fun k hk => by rw [e _ (by omega)]; exact n3 k hk⟩
theorem lm_lt {T : Nat} {S : Nat → Nat → Prop} {g g' : jHp} {lv : Nat → Nat → Int} (X : LM m g T K lv) (f : fg S g g') (s1 : ∀ k, k < T → ¬ S (m + 1) k) (s2 : ∀ k, ¬ S (m + 24) k) : LM m g' T K lv := fun k j hk hj => by
  obtain ⟨a, a1, a2⟩ := X k j hk hj
  exact ⟨a, by rw [f.eq (s2 _)]; exact a1, nu_lt a2.1 a2.2.1 f s1, a2.2⟩
/-- the limits' numbers, 0 beyond -/
noncomputable def lvK (m : Nat) (h : jHp) (n K k j : Nat) : Int := if k < K ∧ j < 4 then lV4 m h n k j else 0
def c3t (a b c i : Nat) : Nat := if i = 0 then a else if i = 1 then b else c
noncomputable def At (m : Nat) (h : jHp) (n L K a b c i j : Nat) : Int := if i < L then lvK m h n K (c3t a b c i) j else 0
noncomputable def oT (m : Nat) (h : jHp) (n L K a b c l : Nat) : Int := if l < L then sg1 (dd (At m h n L K a b c) L) * Gs (At m h n L K a b c) L l 3 else 0
noncomputable def wT (m : Nat) (h : jHp) (n L K a b c : Nat) : Int := sg1 (dd (At m h n L K a b c) L) * dd (At m h n L K a b c) L
def nsT (m : Nat) (h : jHp) (n L K a b c : Nat) : Prop := dd (At m h n L K a b c) L ≠ 0 ∧ ∀ k, k < K → gdV (lvK m h n K) (oT m h n L K a b c) (wT m h n L K a b c) k L ≤ 0
def vaT (L K a b c : Nat) : Prop := a < (if L = 0 then 1 else K) ∧ (if L < 2 then 0 else a + 1) ≤ b ∧ b < (if L < 2 then 1 else K) ∧ (if L < 3 then 0 else b + 1) ≤ c ∧ c < (if L < 3 then 1 else K)
theorem psi_lt {k : Nat} (hn : n ≤ 8) (hL : L ≤ 3) (hk : k < n + 2 * L) : psi n k < 14 := by
  unfold psi
  split
  · omega
  · split <;> omega
theorem lv_bd (S : SW m h n) (O : SO m h n) (N : SN m h n) (Q : SP m h n) (hL : L ≤ 3) (k j : Nat) : (lvK m h n (n + 2 * L) k j).natAbs ≤ 10 ^ 50 := by
  have SB := sb_of S O N Q
  unfold lvK
  split
  · rename_i z
    have pl := psi_lt (n := n) (L := L) S.2.1 hL z.1
    unfold lV4
    split
    · rename_i zj
      exact Nat.le_trans (SB.1 _ j pl zj) (by decide)
    · exact SB.2 _ pl
  · decide
theorem At_bd (bl : ∀ k j, (lvK m h n K k j).natAbs ≤ 10 ^ 50) {a b c : Nat} (i j : Nat) : (At m h n L K a b c i j).natAbs ≤ 10 ^ 50 := by
  unfold At
  split
  · exact bl _ _
  · decide
theorem sg_na (x y : Int) : (sg1 x * y).natAbs = y.natAbs := by
  unfold sg1
  split <;> omega
theorem dd_bd {A : Nat → Nat → Int} {k : Nat} (h : ∀ i j, (A i j).natAbs ≤ 10 ^ 50) : (dd A k).natAbs ≤ 10 ^ 151 := by
  by_cases c : k = 0
  · unfold dd
    rw [if_pos c]
    decide +kernel
  · have e : dd A k = Gs A (if k < 3 then k - 1 else 2) (if k < 3 then k - 1 else 2) (if k < 3 then k - 1 else 2) := by
      by_cases c1 : k = 1
      · subst c1
        simp [dd, Gs]
      · by_cases c2 : k = 2
        · subst c2
          simp [dd, Gs]
        · rw [if_neg (by omega)]
          unfold dd Gs
          simp [c, c1, c2]
    rw [e]
    exact G_bd h
theorem wT_pos {a b c : Nat} (hd : dd (At m h n L K a b c) L ≠ 0) : 0 < wT m h n L K a b c := by
  unfold wT sg1
  split <;> omega
/-- the best so far -/
def FV (m : Nat) (h : jHp) (n L K : Nat) (k : jHp) (any : Int) (P : Nat → Nat → Nat → Prop) : Prop := (any = 0 ∧ ∀ a b c, vaT L K a b c → P a b c → ¬ nsT m h n L K a b c) ∨ (any = 1 ∧ ∃ a0 b0 c0, vaT L K a0 b0 c0 ∧ nsT m h n L K a0 b0 c0 ∧ KN m k 69 (ob (prV m h n) (oT m h n L K a0 b0 c0) 0) ∧ KN m k 68 (wT m h n L K a0 b0 c0) ∧ (∀ l, l < L → KN m k (65 + l) (oT m h n L K a0 b0 c0 l)) ∧ ∀ a b c, vaT L K a b c → P a b c → nsT m h n L K a b c → ¬ plt (prV m h n) (oT m h n L K a b c) (wT m h n L K a b c) (oT m h n L K a0 b0 c0) (wT m h n L K a0 b0 c0))
theorem fv_c {k : jHp} {any : Int} {P P' : Nat → Nat → Nat → Prop} (F : FV m h n L K k any P) (e : ∀ a b c, vaT L K a b c → P' a b c → P a b c) : FV m h n L K k any P' := by
  rcases F with ⟨f1, f2⟩ | ⟨f1, a0, b0, c0, f2, f3, f4, f5, f6, f7⟩
  · exact Or.inl ⟨f1, fun a b c v p => f2 a b c v (e a b c v p)⟩
  · exact Or.inr ⟨f1, a0, b0, c0, f2, f3, f4, f5, f6, fun a b c v p => f7 a b c v (e a b c v p)⟩
theorem fv_fg {k k' : jHp} {S : Nat → Nat → Prop} {any : Int} {P : Nat → Nat → Nat → Prop} (hL3 : L ≤ 3) (F : FV m h n L K k any P) (f : fg S k k') (s : ∀ q, ¬ S (m + 18) q) : FV m h n L K k' any P := by
  have kk : ∀ {p : Nat} {v : Int}, KN m k p v → KN m k' p v := fun z => kn_fg z f (fun q _ _ => s q)
  rcases F with ⟨f1, f2⟩ | ⟨f1, a0, b0, c0, f2, f3, f4, f5, f6, f7⟩
  · exact Or.inl ⟨f1, f2⟩
  · exact Or.inr ⟨f1, a0, b0, c0, f2, f3, kk f4, kk f5, fun l hl => kk (f6 l hl), f7⟩
def fxS (m T0 p k : Nat) : Prop := (p = m + 1 ∧ T0 ≤ k) ∨ (p = m ∧ (k = 2 ∨ k = 6 ∨ k = 7)) ∨ p = m + 2 ∨ p = m + 3 ∨ p = m + 4 ∨ p = m + 25 ∨ p = m + 26 ∨ p = m + 27 ∨ (p = m + 18 ∧ 1560 ≤ k)
theorem me_fx {p k : Nat} (w : meS m T0 p k) : fxS m T0 p k := by
  unfold meS at w
  unfold fxS
  omega
theorem wk_fx {t p k : Nat} (ht : T0 ≤ t) (w : wkS m t p k) : fxS m T0 p k := by
  unfold wkS at w
  unfold fxS
  omega
/-- one corner -/
def oneQ (m : Nat) (h : jHp) (n L K : Nat) (g1 : jHp) (T0 : Nat) (P : Nat → Nat → Nat → Prop) (a b c : Nat) (all sec thi : Int) (Q : jQ) : Prop := ∀ (k : jHp) (any : Int) (tp : Nat), fg (fxS m T0) g1 k → mI k m 2 = (tp : Int) → FV m h n L K k any (fun a' b' c' => P a' b' c' ∨ (a' = a ∧ b' = b ∧ c' = c)) → J 192 290 0 0 [.ref m, .int (iI any), .int (iI all), .int (iI sec), .int (iI thi), .int (iI a), .int (iI b), .int (iI c), .int (iI T0), uu] [] k Q
theorem l_one {g1 k : jHp} {any all sec thi : Int} {a b c : Nat} {P : Nat → Nat → Nat → Prop} {Q : jQ} (M : Mo m g1) (S : SW m h n) (O : SO m h n) (N : SN m h n) (Qp : SP m h n) (hL : mI g1 m 37 = (L : Int)) (hL3 : L ≤ 3) (eK : K = n + 2 * L) (hK : mI g1 m 38 = (K : Int)) (X : LM m g1 T0 K (lvK m h n K)) (hT0 : T0 ≤ 75000) (LPg : LPr m n L h g1) (va : vaT L K a b c) (f : fg (fxS m T0) g1 k) (t : mI k m 2 = (T0 : Int)) (F : FV m h n L K k any P) (nx : oneQ m h n L K g1 T0 P a b c all sec thi Q) : J 192 199 0 0 [.ref m, .int (iI any), .int (iI all), .int (iI sec), .int (iI thi), .int (iI a), .int (iI b), .int (iI c), .int (iI T0), uu] [] (sI (sI k (m + 25) 0 (iI (a : Int))) (m + 25) 1 (iI (b : Int))) Q := by
  have hn8 := S.2.1
  have bl := lv_bd S O N Qp hL3
  rw [← eK] at bl
  have bA := fun i j => At_bd (L := L) (a := a) (b := b) (c := c) bl i j
  have bo : ∀ (a b c l : Nat), (oT m h n L K a b c l).natAbs ≤ 10 ^ 151 := fun a b c l => by
    unfold oT
    split
    · rw [sg_na]
      exact G_bd (fun i j => At_bd bl i j)
    · decide +kernel
  have bw : ∀ (a b c : Nat), (wT m h n L K a b c).natAbs ≤ 10 ^ 151 := fun a b c => by
    unfold wT
    rw [sg_na]
    exact dd_bd (fun i j => At_bd bl i j)
  have oz : ∀ (a b c l : Nat), L ≤ l → oT m h n L K a b c l = 0 := fun a b c l hl => by
    unfold oT
    rw [if_neg (by omega)]
  have K14 : K ≤ 14 := by omega
  have cb : ∀ i, i < L → c3t a b c i < K := fun i hi => by
    obtain ⟨v1, v2, v3, v4, v5⟩ := va
    unfold c3t
    split
    · rw [if_neg (by omega)] at v1
      exact v1
    · split
      · rw [if_neg (by omega)] at v3
        exact v3
      · rw [if_neg (by omega)] at v5
        exact v5
  obtain ⟨v1, v2, v3, v4, v5⟩ := va
  have ab : a < 2000 ∧ b < 2000 ∧ c < 2000 := by
    refine ⟨?_, ?_, ?_⟩
    · split at v1 <;> omega
    · split at v3 <;> omega
    · split at v5 <;> omega
  have Mk := M.sk f.1
  have f2 : fg (fun p _ => p = m + 25) k (sI (sI k (m + 25) 0 (iI (a : Int))) (m + 25) 1 (iI (b : Int))) := by
    refine fg.wr (fg.wr fg.rf ?_) ?_ <;> rfl
  have M2 := Mk.sk f2.1
  have c2 : (iI 2).toNatClampNeg = 2 := by decide
  refine j_M_finds_199 ?_
  rw [M2.a34.1, c2]
  obtain ⟨k3, hk3⟩ : ∃ k3, k3 = sI (sI (sI k (m + 25) 0 (iI (a : Int))) (m + 25) 1 (iI (b : Int))) (m + 25) 2 (iI (c : Int)) := ⟨_, rfl⟩
  have f3 : fg (fun p _ => p = m + 25) k k3 := by
    rw [hk3]
    exact f2.wr rfl
  have M3 := Mk.sk f3.1
  have F3 : fg (fxS m T0) g1 k3 := f.tr (f3.mo (fun p q z => by unfold fxS; omega))
  have fl : ∀ {k' : jHp}, fg (fxS m T0) g1 k' → mI k' m 37 = (L : Int) ∧ mI k' m 38 = (K : Int) ∧ LM m k' T0 K (lvK m h n K) ∧ LPr m n L h k' := fun z => ⟨by rw [z.eq (by unfold fxS; omega)]; exact hL, by rw [z.eq (by unfold fxS; omega)]; exact hK, lm_lt X z (fun q hq => by unfold fxS; omega) (fun q => by unfold fxS; omega), fun l hl => by
    obtain ⟨q1, q2, q3, q4⟩ := LPg l hl
    exact ⟨by rw [z.eq (by unfold fxS; omega)]; exact q1, q2, q3, by rw [z.eq (by unfold fxS; omega)]; exact q4⟩⟩
  have ch : ∀ i, i < L → mI k3 (m + 25) i = (c3t a b c i : Int) ∧ c3t a b c i < K := fun i hi => by
    refine ⟨?_, cb i hi⟩
    rw [hk3, mI_sI ⟨by omega, by omega⟩, mI_sI ⟨by omega, by omega⟩, mI_sI ⟨by omega, by omega⟩]
    unfold c3t
    by_cases e0 : i = 0
    · rw [if_neg (fun z => by omega), if_neg (fun z => by omega), if_pos ⟨rfl, e0⟩, if_pos e0]
    · by_cases e1 : i = 1
      · rw [if_neg (fun z => by omega), if_pos ⟨rfl, e1⟩, if_neg e0, if_pos e1]
      · rw [if_pos ⟨rfl, by omega⟩, if_neg e0, if_neg e1]
  have hAt : ∀ i j, i < L → (j < L ∨ j = 3) → At m h n L K a b c i j = lvK m h n K (c3t a b c i) j := fun i j hi _ => by
    unfold At
    rw [if_pos hi]
  rw [← hk3]
  obtain ⟨g37, g38, gL, gP⟩ := fl F3
  refine ⟨M2.1, ix_of (a := ((2 : Nat) : Int)) M2.a34.2 (by omega) (by omega) (by decide), M3.1, jRet_mono (c_meets (c := c3t a b c) (A := At m h n L K a b c) M3 (by rw [f3.eq (by omega)]; exact t) (by omega) g37 hL3 gL K14 ch hAt bA) ?_⟩
  intro r4 k4 w4
  obtain ⟨f4', T4, t4, c3', c4, X4, alt⟩ := w4
  have F4 : fg (fxS m T0) g1 k4 := F3.tr (f4'.mo (fun _ _ z => me_fx z))
  have FV4 : FV m h n L K k4 any P := fv_fg hL3 (fv_fg hL3 F f3 (fun q => by omega)) f4' (fun q => by unfold meS; omega)
  have skip : ∀ {k' : jHp} {tp : Nat}, fg (fxS m T0) g1 k' → mI k' m 2 = (tp : Int) → FV m h n L K k' any P → ¬ nsT m h n L K a b c → J 192 290 0 0 [.ref m, .int (iI any), .int (iI all), .int (iI sec), .int (iI thi), .int (iI a), .int (iI b), .int (iI c), .int (iI T0), uu] [] k' Q := by
    intro k' tp z tz FZ no
    refine nx k' any tp z tz ?_
    rcases FZ with ⟨q1, q2⟩ | ⟨q1, a0, b0, c0, q2, q3, q4, q5, q6, q7⟩
    · refine Or.inl ⟨q1, fun a' b' c' v p => ?_⟩
      rcases p with p | ⟨rfl, rfl, rfl⟩
      · exact q2 a' b' c' v p
      · exact no
    · refine Or.inr ⟨q1, a0, b0, c0, q2, q3, q4, q5, q6, fun a' b' c' v p u => ?_⟩
      rcases p with p | ⟨rfl, rfl, rfl⟩
      · exact q7 a' b' c' v p u
      · exact absurd u no
  rcases alt with ⟨dn, y4, PLx⟩ | ⟨d0, y4⟩
  rotate_left
  · exact ⟨_, y4, fun _ => skip F4 t4 FV4 (fun z => z.1 d0), fun z => absurd rfl z⟩
  have M4 := M.sk F4.1
  have PL4 : PL m k4 T4 L (oT m h n L K a b c) (wT m h n L K a b c) := by
    refine ⟨fun l hl => ?_, PLx.2⟩
    have := PLx.1 l hl
    unfold oT
    rw [if_pos hl]
    exact this
  obtain ⟨i37, i38, iX, iP⟩ := fl F4
  refine ⟨_, y4, fun z => absurd z (by decide), fun _ => ⟨M4.1, jRet_mono (c_isGood M4 t4 (by omega) i37 hL3 i38 K14 X4 PL4 bl (bo a b c) (bw a b c)) ?_⟩⟩
  intro r5 k5 w5
  obtain ⟨y5, f5, T5, t5, c5, c6⟩ := w5
  have F5 : fg (fxS m T0) g1 k5 := F4.tr (f5.mo (fun _ _ z => wk_fx c3' z))
  have FV5 : FV m h n L K k5 any P := fv_fg hL3 FV4 f5 (fun q => by unfold wkS; omega)
  have PL5 := pl_up PL4 f5 c5
  have M5 := M.sk F5.1
  rcases y5 with ⟨gd, y5⟩ | ⟨gd, y5⟩
  rotate_left
  · exact ⟨_, y5, fun _ => skip F5 t5 FV5 (fun z => gd z.2), fun z => absurd rfl z⟩
  have ns : nsT m h n L K a b c := ⟨dn, gd⟩
  -- it is the best
  have l232 : ∀ (k6 : jHp) (T6 : Nat), fg (fxS m T0) g1 k6 → mI k6 m 2 = (T6 : Int) → T0 ≤ T6 → T6 ≤ 200000 → PL m k6 T6 L (oT m h n L K a b c) (wT m h n L K a b c) → (∀ a' b' c', vaT L K a' b' c' → P a' b' c' → nsT m h n L K a' b' c' → ¬ plt (prV m h n) (oT m h n L K a' b' c') (wT m h n L K a' b' c') (oT m h n L K a b c) (wT m h n L K a b c)) → J 192 232 0 0 [.ref m, uu, .int (iI all), .int (iI sec), .int (iI thi), .int (iI a), .int (iI b), .int (iI c), .int (iI T0), uu] [] k6 Q := by
    intro k6 T6 F6 t6 d1 d2 PL6 least
    have M6 := M.sk F6.1
    obtain ⟨j37, j38, jX, jP⟩ := fl F6
    refine j_M_finds_232 ⟨M6.1, jRet_mono (c_pays (h := h) (n := n) M6 t6 (by omega) hn8 j37 hL3 jP Qp PL6 (bo a b c)) ?_⟩
    intro r7 k7 w7
    obtain ⟨a7, T7, y7, f7, t7, e1, e2, n7⟩ := w7
    rw [pays_ob hL3 (oz a b c)] at n7
    have F7 : fg (fxS m T0) g1 k7 := F6.tr (f7.mo (fun _ _ z => wk_fx d1 z))
    have M7 := M.sk F7.1
    have PL7 := pl_up PL6 f7 e1
    have obb : (ob (prV m h n) (oT m h n L K a b c) 0).natAbs ≤ 10 ^ 205 := by
      have tt : ∀ l, l < 3 → (prV m h n l * oT m h n L K a b c l).natAbs ≤ 10 ^ 154 := fun l _ => by
        have := pr_bd (m := m) (h := h) (n := n) Qp (a := l)
        exact Nat.le_trans (nA_mul (show (prV m h n l).natAbs ≤ 1000 by omega) (bo a b c l)) (by decide +kernel)
      have e : ob (prV m h n) (oT m h n L K a b c) 0 = sm (fun l => prV m h n l * oT m h n L K a b c l) 3 := by
        rw [sm3]
        rfl
      rw [e]
      exact Nat.le_trans (s_bd (Nat.le_refl 3) tt) (by decide +kernel)
    refine ⟨_, y7, M7.1, jRet_mono (w_keep (p := 69) M7 n7 (by omega) obb) ?_⟩
    intro r8 k8 w8
    obtain ⟨y8, f8, K8⟩ := w8
    have kp : ∀ {p q k : Nat}, 65 ≤ p → p < 75 → kpS m p q k → fxS m T0 q k := fun h1 h2 z => by
      unfold kpS at z
      unfold fxS
      omega
    have F8 : fg (fxS m T0) g1 k8 := F7.tr (f8.mo (fun _ _ z => kp (by omega) (by omega) z))
    have M8 := M.sk F8.1
    have plk : ∀ {k' k'' : jHp} {p : Nat}, fg (kpS m p) k' k'' → PL m k' T7 L (oT m h n L K a b c) (wT m h n L K a b c) → PL m k'' T7 L (oT m h n L K a b c) (wT m h n L K a b c) := fun z PL' => by
      obtain ⟨p1, x, x1, x2⟩ := PL'
      refine ⟨fun l hl => ?_, x, by rw [z.eq (by unfold kpS; omega)]; exact x1, pw_fg x2 z (fun q => by unfold kpS; omega)⟩
      obtain ⟨y, y1, y2⟩ := p1 l hl
      exact ⟨y, by rw [z.eq (by unfold kpS; omega)]; exact y1, pw_fg y2 z (fun q => by unfold kpS; omega)⟩
    have PL8 := plk f8 PL7
    obtain ⟨wa, wa1, wa2⟩ := PL8.2
    have c3'' : (iI 3).toNatClampNeg = 3 := by decide
    rw [M8.a35.1, c3'', gI_mI k8 (m + 26) 3, wa1]
    refine ⟨y8, M8.1, ixL_of (a := ((3 : Nat) : Int)) M8.a35.2 (by omega) (by omega) (by decide), M8.1, jRet_mono (w_keep (p := 68) M8 wa2 (by omega) (Nat.le_trans (bw a b c) (by decide +kernel))) ?_⟩
    intro r9 k9 w9
    obtain ⟨y9, f9, K9⟩ := w9
    have F9 : fg (fxS m T0) g1 k9 := F8.tr (f9.mo (fun _ _ z => kp (by omega) (by omega) z))
    refine ⟨y9, ?_⟩
    have l259 : ∀ (d l : Nat) (q : jHp), l + d = L → fg (fxS m T0) g1 q → mI q m 2 = (T7 : Int) → PL m q T7 L (oT m h n L K a b c) (wT m h n L K a b c) → KN m q 69 (ob (prV m h n) (oT m h n L K a b c) 0) → KN m q 68 (wT m h n L K a b c) → (∀ l', l' < l → KN m q (65 + l') (oT m h n L K a b c l')) → J 192 259 0 0 [.ref m, .int (iI 1), .int (iI all), .int (iI sec), .int (iI thi), .int (iI a), .int (iI b), .int (iI c), .int (iI T0), .int (iI l)] [] q Q := by
      intro d
      induction d with
      | zero =>
        intro l q hd Fq tq PLq K69 K68 K65
        obtain rfl : l = L := by omega
        have Mq := M.sk Fq.1
        refine j_M_finds_259 ?_
        rw [gI_mI q m 37, (fl Fq).1, iI_le ⟨by omega, by omega⟩ ⟨by omega, by omega⟩]
        refine ⟨Mq.1, fun _ => nx q 1 T7 Fq tq (Or.inr ⟨rfl, a, b, c, ⟨v1, v2, v3, v4, v5⟩, ns, K69, K68, K65, fun a' b' c' v p u => ?_⟩), fun z => absurd (Int.le_refl _) z⟩
        rcases p with p | ⟨rfl, rfl, rfl⟩
        · exact least a' b' c' v p u
        · intro z
          refine ln_nz z ?_
          unfold zz4
          dsimp only
          omega
      | succ d ih =>
        intro l q hd Fq tq PLq K69 K68 K65
        have hlL : l < L := by omega
        have Mq := M.sk Fq.1
        obtain ⟨pa, pa1, pa2⟩ := PLq.1 l hlL
        have e65 : iI 65 + iI (l : Int) = iI ((65 + l : Nat) : Int) := by
          rw [iI_add]
          congr 1
        refine j_M_finds_259 ?_
        rw [gI_mI q m 37, (fl Fq).1, iI_le ⟨by omega, by omega⟩ ⟨by omega, by omega⟩, Mq.a35.1, iI_cl (by omega) (by omega), Int.toNat_natCast, gI_mI q (m + 26) l, pa1, e65]
        refine ⟨Mq.1, fun z => by omega, fun _ => ⟨Mq.1, ixL_of Mq.a35.2 (by omega) (by omega) (by decide), Mq.1, jRet_mono (w_keep (p := 65 + l) Mq pa2 (by omega) (Nat.le_trans (bo a b c l) (by decide +kernel))) ?_⟩⟩
        intro r10 k10 w10
        obtain ⟨y10, f10, K10⟩ := w10
        refine ⟨y10, ?_⟩
        rw [iI_add]
        refine ih (l + 1) k10 (by omega) (Fq.tr (f10.mo (fun _ _ z => kp (by omega) (by omega) z))) (by rw [f10.eq (by unfold kpS; omega)]; exact tq) (plk f10 PLq) (kn_fg K69 f10 (fun q h1 h2 z => by unfold kpS at z; omega)) (kn_fg K68 f10 (fun q h1 h2 z => by unfold kpS at z; omega)) (fun l' hl' => ?_)
        by_cases ce : l' = l
        · rw [ce]
          exact K10
        · exact kn_fg (K65 l' (by omega)) f10 (fun q h1 h2 z => by unfold kpS at z; omega)
    refine l259 L 0 k9 (by omega) F9 ?_ (plk f9 PL8) (kn_fg K8 f9 (fun q h1 h2 z => by unfold kpS at z; omega)) K9 (fun l' hl' => by omega)
    rw [f9.eq (by unfold kpS; omega), f8.eq (by unfold kpS; omega)]
    exact t7
  obtain ⟨p37, p38, pX, pP⟩ := fl F5
  refine ⟨_, y5, fun z => absurd z (by decide), fun _ => ?_⟩
  rcases FV5 with ⟨any0, none⟩ | ⟨any1, a0, b0, c0, q2, q3, q4, q5, q6, q7⟩
  · rw [any0]
    exact ⟨fun _ => l232 k5 T5 F5 t5 (by omega) (by omega) PL5 (fun a' b' c' v p u => absurd u (none a' b' c' v p)), fun z => absurd rfl z⟩
  · rw [any1]
    refine ⟨fun z => absurd z (by decide), fun _ => ⟨M5.1, jRet_mono (c_isBetter (h := h) (n := n) M5 t5 (by omega) hn8 p37 hL3 pP Qp PL5 (bo a b c) (bw a b c) (oz a b c) (oz a0 b0 c0) (bo a0 b0 c0) (bw a0 b0 c0) q5 q4 q6) ?_⟩⟩
    intro r6 k6 w6
    obtain ⟨y6, f6, T6, t6, c7, c8⟩ := w6
    have F6 : fg (fxS m T0) g1 k6 := F5.tr (f6.mo (fun _ _ z => wk_fx (by omega) z))
    have kk : ∀ {p : Nat} {v : Int}, KN m k5 p v → KN m k6 p v := fun z => kn_fg z f6 (fun q _ _ => by unfold wkS; omega)
    rcases y6 with ⟨bt, y6⟩ | ⟨bt, y6⟩
    · refine ⟨_, y6, fun z => absurd z (by decide), fun _ => l232 k6 T6 F6 t6 (by omega) (by omega) (pl_up PL5 f6 c7) (fun a' b' c' v p u z => ?_)⟩
      exact q7 a' b' c' v p u (plt_tr (wT_pos u.1) (wT_pos dn) (wT_pos q3.1) z (Or.inl bt))
    · have FV6 : FV m h n L K k6 1 (fun a' b' c' => P a' b' c' ∨ (a' = a ∧ b' = b ∧ c' = c)) := by
        refine Or.inr ⟨rfl, a0, b0, c0, q2, q3, kk q4, kk q5, fun l hl => kk (q6 l hl), fun a' b' c' v p u => ?_⟩
        rcases p with p | ⟨rfl, rfl, rfl⟩
        · exact q7 a' b' c' v p u
        · exact bt
      have := nx k6 1 T6 F6 t6 FV6
      exact ⟨_, y6, fun _ => this, fun z => absurd rfl z⟩
end FINDS
