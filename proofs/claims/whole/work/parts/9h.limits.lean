/-! the model's least: wider operations; the limits -/
def PW (m : Nat) (h : jHp) (T a : Nat) (v : Int) : Prop := NU m h a v ∧ a + sz B3 v.natAbs < T ∧ sz B3 v.natAbs ≤ 60
theorem pw_up {m T T' a : Nat} {h h' : jHp} {v : Int} (n : PW m h T a v) (f : fg (wkS m T) h h') (ht : T ≤ T') : PW m h' T' a v := ⟨fg_nu f n.1 n.2.1, by have := n.2.1; omega, n.2.2⟩
theorem pw_fg {m T a : Nat} {S : Nat → Nat → Prop} {h h' : jHp} {v : Int} (n : PW m h T a v) (f : fg S h h') (s : ∀ k, ¬ S (m + 1) k) : PW m h' T a v := ⟨nu_fg n.1 f s, n.2⟩
theorem pn_pw {m T a : Nat} {h : jHp} {v : Int} (n : PN m h T a v) : PW m h T a v := ⟨n.1, n.2.1, Nat.le_trans n.2.2 (by decide)⟩
/-- an operation's end -/
def OW (m : Nat) (h : jHp) (T : Nat) (z : Int) : jQ := fun r h' => ∃ a T' : Nat, r = some (.int (iI (a : Int))) ∧ fg (wkS m T) h h' ∧ mI h' m 2 = (T' : Int) ∧ T ≤ T' ∧ T' ≤ T + 200 ∧ PW m h' T' a z
theorem sz_w {v : Int} (h : v.natAbs ≤ 10 ^ 530) : sz B3 v.natAbs ≤ 60 := sz_b (Nat.lt_of_le_of_lt h (by decide +kernel))
theorem RS_OW {m T : Nat} {h : jHp} {z : Int} (hz : sz B3 z.natAbs ≤ 60) {r : Option Value} {h' : jHp} (q : RS m h T z r h') : OW m h T z r h' :=
  ⟨T, T + sz B3 z.natAbs + 1, q.1, fr_fg q.2.1, by rw [q.2.2.2]; omega, (by omega), (by omega), q.2.2.1, (by omega), hz⟩
theorem RW_OW {m T : Nat} {h : jHp} {z : Int} (hz : sz B3 z.natAbs ≤ 60) {r : Option Value} {h' : jHp} (q : RW m h T z r h') : OW m h T z r h' :=
  ⟨T, T + sz B3 z.natAbs + 1, q.1, q.2.1, by rw [q.2.2.2]; omega, (by omega), (by omega), q.2.2.1, (by omega), hz⟩
section OPS
variable {m T a b : Nat} {h : jHp} {x y : Int}
theorem w_whole (M : Mo m h) (ht : mI h m 2 = T) (hT : T ≤ 390000) (hx : -9223372036854775808 < x ∧ x < 9223372036854775808) : jRet 161 0 0 [.ref m, .long (lI x)] h (OW m h T x) := by
  refine jRet_mono (c_whole M hx ht (by omega)) ?_
  intro r h' q
  have : sz B3 x.natAbs ≤ 60 := sz_b (Nat.lt_trans (show x.natAbs < 9223372036854775808 by omega) (by decide))
  exact RS_OW this q
theorem w_sum (M : Mo m h) (ht : mI h m 2 = T) (hT : T ≤ 390000) (na : PW m h T a x) (nb : PW m h T b y) (hz : (x + y).natAbs ≤ 10 ^ 530) : jRet 170 0 0 [.ref m, .int (iI a), .int (iI b)] h (OW m h T (x + y)) :=
  jRet_mono (c_sum M na.1 nb.1 ht na.2.1 nb.2.1 (by have := na.2.2; have := nb.2.2; omega)) (fun _ _ q => RS_OW (sz_w hz) q)
theorem w_times (M : Mo m h) (ht : mI h m 2 = T) (hT : T ≤ 390000) (na : PW m h T a x) (nb : PW m h T b y) (hz : (x * y).natAbs ≤ 10 ^ 530) : jRet 164 0 0 [.ref m, .int (iI a), .int (iI b)] h (OW m h T (x * y)) :=
  jRet_mono (c_times M na.1 nb.1 ht na.2.1 nb.2.1 (by have := na.2.2; have := nb.2.2; omega)) (fun _ _ q => RS_OW (sz_w hz) q)
theorem w_less (M : Mo m h) (ht : mI h m 2 = T) (hT : T ≤ 390000) (na : PW m h T a x) (nb : PW m h T b y) (hz : (x - y).natAbs ≤ 10 ^ 530) : jRet 167 0 0 [.ref m, .int (iI a), .int (iI b)] h (OW m h T (x - y)) := by
  have e1 := na.2.2
  have e2 := nb.2.2
  have e3 := sz_w hz
  refine jRet_mono (c_less M na.1 nb.1 ht na.2.1 nb.2.1 (by omega)) ?_
  intro r h' q
  obtain ⟨c, q1, q2, q3, q4, q5, q6⟩ := q
  exact ⟨c, c + sz B3 (x - y).natAbs + 1, q3, fr_fg q4, by rw [q6]; omega, (by omega), (by omega), q5, (by omega), e3⟩
theorem w_divided (M : Mo m h) (ht : mI h m 2 = T) (hT : T ≤ 390000) (na : PW m h T a x) (nb : PW m h T b y) (hy : y ≠ 0) : jRet 172 0 0 [.ref m, .int (iI a), .int (iI b)] h (OW m h T (x.tdiv y)) := by
  have e1 := na.2.2
  have e2 : sz B3 (x.tdiv y).natAbs ≤ 60 := by
    rw [nat_td]
    exact Nat.le_trans (sz_mono (by decide) (Nat.div_le_self _ _)) e1
  exact jRet_mono (c_divided M na.1 nb.1 ht na.2.1 nb.2.1 hy (by omega) (by omega)) (fun _ _ q => RW_OW e2 q)
theorem w_held {p : Nat} (M : Mo m h) (ht : mI h m 2 = T) (hT : T ≤ 390000) (n : KN m h p x) (hp : p < 75) : jRet 178 0 0 [.ref m, .int (iI p)] h (OW m h T x) :=
  jRet_mono (c_held M n hp ht (by have := n.1; omega)) (fun _ _ q => RS_OW (by have := n.1; omega) q)
theorem w_turned (M : Mo m h) (ht : mI h m 2 = T) (hT : T ≤ 390000) (na : PW m h T a x) : jRet 168 0 0 [.ref m, .int (iI a)] h (OW m h T (-x)) := by
  have e1 := na.2.2
  refine jRet_mono (c_turned M na.1 ht na.2.1 (by omega)) ?_
  intro r h' q
  have e2 : (-x).natAbs = x.natAbs := Int.natAbs_neg x
  exact ⟨T, T + sz B3 x.natAbs + 1, q.1, fr_fg q.2.1, by rw [q.2.2.2]; omega, (by omega), (by omega), q.2.2.1, by rw [e2]; omega, by rw [e2]; exact e1⟩
theorem w_keep {p : Nat} (M : Mo m h) (na : PW m h T a x) (hp : p < 75) (hs : x.natAbs ≤ 10 ^ 205) : jRet 176 0 0 [.ref m, .int (iI p), .int (iI a)] h (fun r h' => r = none ∧ fg (kpS m p) h h' ∧ KN m h' p x) := by
  refine jRet_mono (c_keep M na.1 hp (sz_b (Nat.lt_of_le_of_lt hs (by decide +kernel)))) ?_
  intro r h' q
  exact ⟨q.1, ⟨q.2.1, fun a b z => q.2.2.2 a b z⟩, q.2.2.1⟩
end OPS
theorem Mo.a32 {m : Nat} {h : jHp} (M : Mo m h) : gR h m 32 = m + 23 ∧ jz h (m + 23) = (10, 3) := M.2 (32, 23, 3) (by decide)
theorem Mo.a33 {m : Nat} {h : jHp} (M : Mo m h) : gR h m 33 = m + 24 ∧ jz h (m + 24) = (10, 60) := M.2 (33, 24, 60) (by decide)
theorem Mo.a34 {m : Nat} {h : jHp} (M : Mo m h) : gR h m 34 = m + 25 ∧ jz h (m + 25) = (10, 3) := M.2 (34, 25, 3) (by decide)
theorem Mo.a35 {m : Nat} {h : jHp} (M : Mo m h) : gR h m 35 = m + 26 ∧ jz h (m + 26) = (10, 4) := M.2 (35, 26, 4) (by decide)
theorem Mo.a36 {m : Nat} {h : jHp} (M : Mo m h) : gR h m 36 = m + 27 ∧ jz h (m + 27) = (10, 12) := M.2 (36, 27, 12) (by decide)
section LIM
variable {m n T : Nat} {h : jHp}
/-- the first K limits' numbers -/
def LM (m : Nat) (g : jHp) (T K : Nat) (lv : Nat → Nat → Int) : Prop := ∀ k j, k < K → j < 4 → ∃ a : Nat, mI g (m + 24) (4 * k + j) = (a : Int) ∧ PW m g T a (lv k j)
theorem lm_up {T T' K : Nat} {g g' : jHp} {lv : Nat → Nat → Int} (L : LM m g T K lv) (f : fg (wkS m T) g g') (ht : T ≤ T') : LM m g' T' K lv := fun k j hk hj => by
  obtain ⟨a, a1, a2⟩ := L k j hk hj
  exact ⟨a, by rw [f.eq (by unfold wkS; omega)]; exact a1, pw_up a2 f ht⟩
theorem lm_fg {T K : Nat} {g g' : jHp} {S : Nat → Nat → Prop} {lv : Nat → Nat → Int} (L : LM m g T K lv) (f : fg S g g') (s1 : ∀ k, ¬ S (m + 1) k) (s2 : ∀ k, k < 4 * K → ¬ S (m + 24) k) : LM m g' T K lv := fun k j hk hj => by
  obtain ⟨a, a1, a2⟩ := L k j hk hj
  exact ⟨a, by rw [f.eq (s2 _ (by omega))]; exact a1, pw_fg a2 f s1⟩
def psi (n k : Nat) : Nat := if k < n then k else if (k - n) % 2 = 0 then 8 + (k - n) / 2 else 11 + (k - n) / 2
noncomputable def lV4 (m : Nat) (h : jHp) (n k j : Nat) : Int := if j < 3 then sV m h n (psi n k) j else nV m h n (psi n k)
/-- what the limits' making changes -/
def tmS (m p k : Nat) : Prop := p = m + 1 ∨ (p = m ∧ (k = 2 ∨ k = 6 ∨ k = 7 ∨ k = 38)) ∨ p = m + 2 ∨ p = m + 3 ∨ p = m + 4 ∨ p = m + 24
theorem wk_tm {t p k : Nat} (w : wkS m t p k) : tmS m p k := by
  unfold wkS at w
  unfold tmS
  omega
def alQ (m : Nat) (g : jHp) (T K : Nat) (lv : Nat → Nat → Int) : jQ := fun r g' => r = none ∧ fg (tmS m) g g' ∧ mI g' m 38 = (K : Int) + 1 ∧ ∃ T' : Nat, mI g' m 2 = (T' : Int) ∧ T ≤ T' ∧ T' ≤ T + 600 ∧ LM m g' T' (K + 1) lv
theorem c_addLimit {K wh' ta : Nat} {of tv : Int} {g : jHp} {lv : Nat → Nat → Int} (M : Mo m g) (ht : mI g m 2 = T) (hT : T ≤ 380000) (hK : mI g m 38 = (K : Int)) (hK14 : K < 14) (L : LM m g T K lv) (hw : wh' < 3) (hof : of = 1 ∨ of = -1) (nt : PW m g T ta tv) (e1 : ∀ j, j < 3 → lv K j = if j = wh' then of else 0) (e2 : lv K 3 = tv) : jRet 194 0 0 [.ref m, .int (iI wh'), .long (lI of), .int (iI ta)] g (alQ m g T K lv) := by
  have l44 : ∀ (k : jHp) (T1 : Nat), fg (tmS m) g k → mI k m 2 = (T1 : Int) → T ≤ T1 → T1 ≤ T + 600 → LM m k T1 K lv → mI k m 38 = (K : Int) → PW m k T1 ta tv → (∀ j, j < 3 → ∃ a : Nat, mI k (m + 24) (4 * K + j) = (a : Int) ∧ PW m k T1 a (lv K j)) → J 194 44 0 0 [.ref m, uu, uu, uu, .int (iI ta), uu] [] k (alQ m g T K lv) := by
    intro k T1 f t1 b1 b2 Lk k38 nk A
    have Mk := M.sk f.1
    have hx : 4 * (K : Int) + 3 = ((4 * K + 3 : Nat) : Int) := by omega
    refine j_M_addLimit_44 ?_
    rw [Mk.a33.1, gI_mI k m 38, k38, iI_mul, iI_add, hx, iI_cl (by omega) (by omega), Int.toNat_natCast]
    have ta4 : ta < 400000 := by have := nk.1.1; omega
    have f1 : fg (fun p q => p = m + 24 ∧ q = 4 * K + 3) k (sI k (m + 24) (4 * K + 3) (iI (ta : Int))) := fg.rf.wr ⟨rfl, rfl⟩
    have M1 := Mk.sk f1.1
    have k381 : mI (sI k (m + 24) (4 * K + 3) (iI (ta : Int))) m 38 = (K : Int) := by
      rw [f1.eq (by omega)]
      exact k38
    rw [gI_mI _ m 38, k381, iI_add]
    have f2 : fg (fun p q => (p = m + 24 ∧ q = 4 * K + 3) ∨ (p = m ∧ q = 38)) k (sI (sI k (m + 24) (4 * K + 3) (iI (ta : Int))) m 38 (iI ((K : Int) + 1))) := (f1.mo (fun _ _ z => Or.inl z)).wr (Or.inr ⟨rfl, rfl⟩)
    refine ⟨Mk.1, Mk.1, ix_of Mk.a33.2 (by omega) (by omega) (by decide), M1.1, M1.1, j_M_addLimit_69 ⟨rfl, f.tr (f2.mo (fun p q z => by unfold tmS; omega)), by rw [mI_sI ⟨by omega, by omega⟩, if_pos ⟨rfl, rfl⟩], T1, ?_, b1, b2, fun x j hx hj => ?_⟩⟩
    · rw [f2.eq (by omega)]
      exact t1
    · by_cases c : x < K
      · obtain ⟨a, a1, a2⟩ := Lk x j c hj
        exact ⟨a, by rw [f2.eq (by omega)]; exact a1, pw_fg a2 f2 (fun q => by omega)⟩
      · obtain rfl : x = K := by omega
        by_cases c3 : j < 3
        · obtain ⟨a, a1, a2⟩ := A j c3
          exact ⟨a, by rw [f2.eq (by omega)]; exact a1, pw_fg a2 f2 (fun q => by omega)⟩
        · obtain rfl : j = 3 := by omega
          refine ⟨ta, ?_, by rw [e2]; exact pw_fg nk f2 (fun q => by omega)⟩
          rw [mI_sI ⟨by omega, by omega⟩, if_neg (fun z => by omega), mI_sI ⟨by omega, by omega⟩, if_pos ⟨rfl, rfl⟩]
  have l3 : ∀ (d b : Nat) (k : jHp) (T1 : Nat), b + d = 3 → fg (tmS m) g k → mI k m 2 = (T1 : Int) → T ≤ T1 → T1 ≤ T + 200 * b → LM m k T1 K lv → mI k m 38 = (K : Int) → PW m k T1 ta tv → (∀ j, j < b → ∃ a : Nat, mI k (m + 24) (4 * K + j) = (a : Int) ∧ PW m k T1 a (lv K j)) → J 194 3 0 0 [.ref m, .int (iI wh'), .long (lI of), uu, .int (iI ta), .int (iI b)] [] k (alQ m g T K lv) := by
    intro d
    induction d with
    | zero =>
      intro b k T1 hd f t1 b1 b2 Lk k38 nk A
      obtain rfl : b = 3 := by omega
      exact j_M_addLimit_3 ⟨fun _ => l44 k T1 f t1 b1 (by omega) Lk k38 nk A, fun z => absurd (by decide) z⟩
    | succ d ih =>
      intro b k T1 hd f t1 b1 b2 Lk k38 nk A
      have hb3 : b < 3 := by omega
      have Mk := M.sk f.1
      have hx : 4 * (K : Int) + (b : Int) = ((4 * K + b : Nat) : Int) := by omega
      have l34 : ∀ v : Int, v = lv K b → (v = 0 ∨ v = 1 ∨ v = -1) → J 194 34 0 0 [.ref m, .int (iI wh'), .long (lI of), uu, .int (iI ta), .int (iI b)] [.long (lI v), .ref m, .int (iI ((4 * K + b : Nat) : Int)), .ref (m + 24)] k (alQ m g T K lv) := by
        intro v hv hv2
        refine j_M_addLimit_34 ⟨Mk.1, jRet_mono (w_whole (x := v) Mk t1 (by omega) (by omega)) ?_⟩
        intro r2 k2 w2
        obtain ⟨a2, T2, x2, f2, t2, c1, c2, n2⟩ := w2
        have M2 := Mk.sk f2.1
        refine ⟨_, x2, ix_of M2.a33.2 (by omega) (by omega) (by decide), ?_⟩
        have a24 : a2 < 400000 := by have := n2.1.1; omega
        rw [iI_cl (by omega) (by omega), Int.toNat_natCast, iI_add]
        have f3 : fg (fun p q => p = m + 24 ∧ q = 4 * K + b) k2 (sI k2 (m + 24) (4 * K + b) (iI (a2 : Int))) := fg.rf.wr ⟨rfl, rfl⟩
        refine ih (b + 1) _ T2 (by omega) ((f.tr (f2.mo (fun _ _ z => wk_tm z))).tr (f3.mo (fun p q z => by unfold tmS; omega))) ?_ (by omega) (by omega) (lm_fg (lm_up Lk f2 c1) f3 (fun q => by omega) (fun q hq => by omega)) ?_ (pw_fg (pw_up nk f2 c1) f3 (fun q => by omega)) (fun j hj => ?_)
        · rw [f3.eq (by omega)]
          exact t2
        · rw [f3.eq (by omega), f2.eq (by unfold wkS; omega)]
          exact k38
        · by_cases c : j = b
          · rw [c]
            refine ⟨a2, ?_, by rw [← hv]; exact pw_fg n2 f3 (fun q => by omega)⟩
            rw [mI_sI ⟨by omega, by omega⟩, if_pos ⟨rfl, rfl⟩]
          · obtain ⟨a, a1, a3⟩ := A j (by omega)
            exact ⟨a, by rw [f3.eq (by omega), f2.eq (by unfold wkS; omega)]; exact a1, pw_fg (pw_up a3 f2 c1) f3 (fun q => by omega)⟩
      refine j_M_addLimit_3 ?_
      rw [iI_le ⟨by omega, by omega⟩ ⟨by omega, by omega⟩, Mk.a33.1, gI_mI k m 38, k38, iI_mul, iI_add, hx, iI_eq ⟨by omega, by omega⟩ ⟨by omega, by omega⟩]
      refine ⟨fun z => by omega, fun _ => ⟨Mk.1, Mk.1, fun z => j_M_addLimit_33 (l34 0 ?_ (Or.inl rfl)), fun z => l34 of ?_ (Or.inr hof)⟩⟩
      · rw [e1 b hb3, if_neg (by omega)]
      · rw [e1 b hb3, if_pos (by omega)]
  refine jRet_of (by decide) (by decide) (Nat.le_of_ble_eq_true rfl) (j_M_addLimit_0 ?_)
  exact l3 3 0 g T (by omega) fg.rf ht (Nat.le_refl _) (by omega) L hK nt (fun j hj => by omega)
def tBi (i : Nat) : Nat := 200 + 8000 * i
theorem tB_s (i : Nat) : tBi (i + 1) = tBi i + 8000 := by
  unfold tBi
  rw [Nat.mul_add, Nat.mul_one, Nat.add_assoc]
theorem tB_le {i : Nat} (h : i ≤ 8) : tBi i ≤ 64200 := by
  unfold tBi
  omega
def tCi (i : Nat) : Nat := 65000 + 2000 * i
theorem tC_s (i : Nat) : tCi (i + 1) = tCi i + 2000 := by
  unfold tCi
  rw [Nat.mul_add, Nat.mul_one, Nat.add_assoc]
theorem tC_le {i : Nat} (h : i ≤ 3) : tCi i ≤ 71000 := by
  unfold tCi
  omega
/-- kinds -/
def KD (m : Nat) (h : jHp) (n : Nat) : Prop := ∀ i, i < n → (mI h (m + 9) i = 0 ∨ mI h (m + 9) i = 1 ∨ mI h (m + 9) i = 2) ∧ (mI h (m + 9) i = 0 → mI h (m + 12) i = 0)
def tmQ (m n L : Nat) (h g : jHp) : jQ := fun r g' => r = none ∧ fg (tmS m) g g' ∧ mI g' m 38 = ((n + 2 * L : Nat) : Int) ∧ ∃ T' : Nat, mI g' m 2 = (T' : Int) ∧ T' ≤ 75000 ∧ LM m g' T' (n + 2 * L) (lV4 m h n)
set_option maxRecDepth 8000 in
theorem c_tellLimits {L : Nat} {g : jHp} {d0 : Int} (M : Mo m g) (S : SW m h n) (O : SO m h n) (N : SN m h n) (Q : SP m h n) (KDh : KD m h n) (st : stq m h g) (ht : mI g m 2 = ((0 : Nat) : Int)) (hL : mI g m 37 = (L : Int)) (hL3 : L ≤ 3) (hLC : lmC m h n = (L : Int)) (hlm : ∀ l, l < L → mI g (m + 23) l = lmA m h n l) (K : ∀ i j, i < n → j < n → KN m g (8 * i + j) (pV m h n i j)) (K64 : KN m g 64 d0) (hd0 : 0 < n → d0 = dV m h n) : jRet 193 0 0 [.ref m] g (tmQ m n L h g) := by
  have hn8 := S.2.1
  have SB := sb_of S O N Q
  have kt : ∀ {k : jHp}, fg (tmS m) g k → stq m h k := fun f => st.tr (stq_cu (f.mo (fun p q z => by unfold tmS at z; unfold cuS cnS; omega)))
  have kk : ∀ {k : jHp} {p : Nat} {v : Int}, fg (tmS m) g k → KN m g p v → KN m k p v := fun f k0 => kn_fg k0 f (fun q _ _ z => by unfold tmS at z; omega)
  have liveA : ∀ l, l < L → 0 ≤ lmA m h n l ∧ lmA m h n l < n := fun l hl => by
    have := (lmA_in (m := m) (h := h) n l).1 (by omega)
    omega
  have deadA : ∀ l, L ≤ l → lmA m h n l = -1 := fun l hl => (lmA_in (m := m) (h := h) n l).2 (by omega)
  -- the lamps' bounds
  have l195 : ∀ (d l : Nat) (k : jHp) (T1 : Nat), l + d = L → fg (tmS m) g k → mI k m 2 = (T1 : Int) → T1 ≤ tCi l → mI k m 38 = ((n + 2 * l : Nat) : Int) → LM m k T1 (n + 2 * l) (lV4 m h n) → J 193 195 0 0 [.ref m, uu, .int (iI l), uu, uu] [] k (tmQ m n L h g) := by
    intro d
    induction d with
    | zero =>
      intro l k T1 hd f t1 b1 k38 Lk
      obtain rfl : l = L := by omega
      have tc := tC_le hL3
      have Mk := M.sk f.1
      refine j_M_tellLimits_195 ?_
      rw [gI_mI k m 37, f.eq (by unfold tmS; omega), hL, iI_le ⟨by omega, by omega⟩ ⟨by omega, by omega⟩]
      exact ⟨Mk.1, fun _ => j_M_tellLimits_245 ⟨rfl, f, k38, T1, t1, (by omega), Lk⟩, fun z => absurd (Int.le_refl _) z⟩
    | succ d ih =>
      intro l k T1 hd f t1 b1 k38 Lk
      have hlL : l < L := by omega
      have tc := tC_le (show l ≤ 3 by omega)
      have tc1 := tC_s l
      have Mk := M.sk f.1
      have la := liveA l hlL
      obtain ⟨lm, hlm'⟩ : ∃ lm : Nat, lmA m h n l = (lm : Int) := ⟨(lmA m h n l).toNat, by omega⟩
      have mb := (Q lm (by omega)).2
      refine j_M_tellLimits_195 ?_
      rw [gI_mI k m 37, f.eq (by unfold tmS; omega), hL, iI_le ⟨by omega, by omega⟩ ⟨by omega, by omega⟩]
      refine ⟨Mk.1, fun z => by omega, fun _ => ⟨Mk.1, jRet_mono (w_whole (x := ((0 : Nat) : Int)) Mk t1 (by omega) (by omega)) ?_⟩⟩
      intro r2 k2 w2
      obtain ⟨a2, T2, x2, f2, t2, c1, c2, n2⟩ := w2
      have M2 := Mk.sk f2.1
      have F2 := f.tr (f2.mo (fun _ _ z => wk_tm z))
      have p1 : psi n (n + 2 * l) = 8 + l := by
        unfold psi
        rw [if_neg (by omega), show n + 2 * l - n = 2 * l by omega, if_pos (by omega), show 2 * l / 2 = l by omega]
      have p2 : psi n (n + 2 * l + 1) = 11 + l := by
        unfold psi
        rw [if_neg (by omega), show n + 2 * l + 1 - n = 2 * l + 1 by omega, if_neg (by omega), show (2 * l + 1) / 2 = l by omega]
      refine ⟨_, x2, M2.1, jRet_mono (c_addLimit (K := n + 2 * l) (wh' := l) (of := ((1 : Nat) : Int)) (lv := lV4 m h n) M2 t2 (by omega) (by rw [f2.eq (by unfold wkS; omega)]; exact k38) (by omega) (lm_up Lk f2 c1) (by omega) (Or.inl rfl) n2 (fun j hj => ?_) ?_) ?_⟩
      · unfold lV4
        rw [if_pos hj, p1]
        unfold sV
        rw [if_neg (by omega)]
        by_cases e : j = l
        · rw [if_pos (by omega), if_pos e]
          rfl
        · rw [if_neg (by omega), if_neg (by omega), if_neg e]
      · unfold lV4
        rw [if_neg (by omega), p1]
        unfold nV
        rw [if_neg (by omega), if_pos (by omega)]
        rfl
      intro r3 k3 w3
      obtain ⟨x3, f3, k383, T3, t3, c3, c4, L3⟩ := w3
      have M3 := M2.sk f3.1
      have F3 := F2.tr f3
      have s3 := kt F3
      rw [M3.a32.1, gI_q (by omega) (by omega), Int.toNat_natCast, F3.eq (by unfold tmS; omega), hlm l hlL, hlm', M3.a18.1, gI_q (by omega) (by omega), Int.toNat_natCast, s3.1 15 (by decide) (by decide), iI_neg, iI_64 ⟨by omega, by omega⟩]
      refine ⟨x3, M3.1, M3.1, ixL_of M3.a32.2 (by omega) (by omega) (by decide), ixL_of M3.a18.2 (by omega) (by omega) (by decide), M3.1, jRet_mono (w_whole (x := -mI h (m + 15) lm) M3 t3 (by omega) (by omega)) ?_⟩
      intro r4 k4 w4
      obtain ⟨a4, T4, x4, f4', t4, c5, c6, n4⟩ := w4
      have M4 := M3.sk f4'.1
      have F4 := F3.tr (f4'.mo (fun _ _ z => wk_tm z))
      rw [jc11]
      refine ⟨_, x4, M4.1, jRet_mono (c_addLimit (K := n + 2 * l + 1) (wh' := l) (of := -1) (lv := lV4 m h n) M4 t4 (by omega) (by rw [f4'.eq (by unfold wkS; omega), k383]; omega) (by omega) (lm_up L3 f4' c5) (by omega) (Or.inr rfl) n4 (fun j hj => ?_) ?_) ?_⟩
      · unfold lV4
        rw [if_pos hj, p2]
        unfold sV
        rw [if_neg (by omega), if_neg (by omega)]
        by_cases e : j = l
        · rw [if_pos (by omega), if_pos e]
        · rw [if_neg (by omega), if_neg e]
      · unfold lV4
        rw [if_neg (by omega), p2]
        unfold nV
        rw [if_neg (by omega), if_neg (by omega), show 11 + l - 11 = l by omega, if_neg (by omega), hlm', Int.toNat_natCast]
      intro r5 k5 w5
      obtain ⟨x5, f5, k385, T5, t5, c7, c8, L5⟩ := w5
      refine ⟨x5, ?_⟩
      rw [iI_add]
      refine ih (l + 1) k5 T5 (by omega) (F4.tr f5) t5 (by omega) (by rw [k385]; omega) ?_
      rw [show n + 2 * (l + 1) = n + 2 * l + 1 + 1 by omega]
      exact L5
  -- the patches' rows
  have l14 : ∀ (d i da : Nat) (k : jHp) (T1 : Nat), i + d = n → fg (tmS m) g k → mI k m 2 = (T1 : Int) → T1 ≤ tBi i → mI k m 38 = (i : Int) → LM m k T1 i (lV4 m h n) → PW m k T1 da d0 → J 193 14 0 0 [.ref m, .int (iI da), .int (iI i), uu, uu] [] k (tmQ m n L h g) := by
    intro d
    induction d with
    | zero =>
      intro i da k T1 hd f t1 b1 k38 Lk nd
      obtain rfl : i = n := by omega
      have tb := tB_le hn8
      have tc0 : tCi 0 = 65000 := rfl
      have Mk := M.sk f.1
      refine j_M_tellLimits_14 ?_
      rw [gI_mI k m 20, (kt f).2.2.1, S.1, iI_le ⟨by omega, by omega⟩ ⟨by omega, by omega⟩]
      exact ⟨Mk.1, fun _ => j_M_tellLimits_193 (l195 L 0 k T1 (by omega) f t1 (by omega) k38 Lk), fun z => absurd (Int.le_refl _) z⟩
    | succ d ih =>
      intro i da k T1 hd f t1 b1 k38 Lk nd
      have hin : i < n := by omega
      have tb := tB_le (show i ≤ 8 by omega)
      have tb1 := tB_s i
      have Mk := M.sk f.1
      have pi : psi n i = i := by
        unfold psi
        rw [if_pos hin]
      have ed0 := hd0 (by omega)
      have wn := N i hin
      have dv := dV_bd S
      have bb1 : (mI h (m + 13) i * dV m h n).natAbs ≤ 10 ^ 50 := Nat.le_trans (nA_mul (show (mI h (m + 13) i).natAbs ≤ 100000 by omega) dv.2) (by decide)
      -- slopes
      have l104 : ∀ (e l na : Nat) (k1 : jHp) (T2 : Nat), l + e = 3 → fg (tmS m) g k1 → mI k1 m 2 = (T2 : Int) → T2 ≤ tBi i + 6900 + 200 * l → mI k1 m 38 = (i : Int) → LM m k1 T2 i (lV4 m h n) → PW m k1 T2 da d0 → PW m k1 T2 na (nV m h n i) → (∀ j, j < l → ∃ a : Nat, mI k1 (m + 24) (4 * i + j) = (a : Int) ∧ PW m k1 T2 a (sV m h n i j)) → J 193 104 0 0 [.ref m, .int (iI da), .int (iI i), .int (iI na), .int (iI l)] [] k1 (tmQ m n L h g) := by
        intro e
        induction e with
        | zero =>
          intro l na k1 T2 he f1 t2 b2 k381 L1 nd1 nn1 A1
          obtain rfl : l = 3 := by omega
          have M1 := M.sk f1.1
          have hx : 4 * (i : Int) + 3 = ((4 * i + 3 : Nat) : Int) := by omega
          have na4 : na < 400000 := by have := nn1.1.1; omega
          refine j_M_tellLimits_104 ⟨fun _ => j_M_tellLimits_163 ?_, fun z => absurd (by decide) z⟩
          rw [M1.a33.1, gI_mI k1 m 38, k381, iI_mul, iI_add, hx, iI_cl (by omega) (by omega), Int.toNat_natCast]
          have f2 : fg (fun p q => p = m + 24 ∧ q = 4 * i + 3) k1 (sI k1 (m + 24) (4 * i + 3) (iI (na : Int))) := fg.rf.wr ⟨rfl, rfl⟩
          have M2 := M1.sk f2.1
          have k382 : mI (sI k1 (m + 24) (4 * i + 3) (iI (na : Int))) m 38 = (i : Int) := by
            rw [f2.eq (by omega)]
            exact k381
          rw [gI_mI _ m 38, k382, iI_add]
          have f3 : fg (fun p q => (p = m + 24 ∧ q = 4 * i + 3) ∨ (p = m ∧ q = 38)) k1 (sI (sI k1 (m + 24) (4 * i + 3) (iI (na : Int))) m 38 (iI ((i : Int) + 1))) := (f2.mo (fun _ _ z => Or.inl z)).wr (Or.inr ⟨rfl, rfl⟩)
          refine ⟨M1.1, M1.1, ix_of M1.a33.2 (by omega) (by omega) (by decide), M2.1, M2.1, j_M_tellLimits_187 ?_⟩
          rw [iI_add]
          refine ih (i + 1) da _ T2 (by omega) (f1.tr (f3.mo (fun p q z => by unfold tmS; omega))) ?_ (by omega) (by rw [mI_sI ⟨by omega, by omega⟩, if_pos ⟨rfl, rfl⟩]; omega) (fun x j hx hj => ?_) (pw_fg nd1 f3 (fun q => by omega))
          · rw [f3.eq (by omega)]
            exact t2
          · by_cases c : x < i
            · obtain ⟨a, a1, a2⟩ := L1 x j c hj
              exact ⟨a, by rw [f3.eq (by omega)]; exact a1, pw_fg a2 f3 (fun q => by omega)⟩
            · obtain rfl : x = i := by omega
              unfold lV4
              rw [pi]
              by_cases c3 : j < 3
              · obtain ⟨a, a1, a2⟩ := A1 j c3
                rw [if_pos c3]
                exact ⟨a, by rw [f3.eq (by omega)]; exact a1, pw_fg a2 f3 (fun q => by omega)⟩
              · obtain rfl : j = 3 := by omega
                rw [if_neg c3]
                refine ⟨na, ?_, pw_fg nn1 f3 (fun q => by omega)⟩
                rw [mI_sI ⟨by omega, by omega⟩, if_neg (fun z => by omega), mI_sI ⟨by omega, by omega⟩, if_pos ⟨rfl, rfl⟩]
        | succ e ih2 =>
          intro l na k1 T2 he f1 t2 b2 k381 L1 nd1 nn1 A1
          have hl3 : l < 3 := by omega
          have M1 := M.sk f1.1
          have hx : 4 * (i : Int) + (l : Int) = ((4 * i + l : Nat) : Int) := by omega
          have l156 : ∀ (k2 : jHp) (T3 a2 : Nat), fg (wkS m T2) k1 k2 → mI k2 m 2 = (T3 : Int) → T2 ≤ T3 → T3 ≤ T2 + 200 → PW m k2 T3 a2 (sV m h n i l) → J 193 156 0 0 [.ref m, .int (iI da), .int (iI i), .int (iI na), .int (iI l)] [.int (iI a2), .int (iI ((4 * i + l : Nat) : Int)), .ref (m + 24)] k2 (tmQ m n L h g) := by
            intro k2 T3 a2 f2 t3 c1 c2 n2
            have M2 := M1.sk f2.1
            have a24 : a2 < 400000 := by have := n2.1.1; omega
            refine j_M_tellLimits_156 ⟨ix_of M2.a33.2 (by omega) (by omega) (by decide), ?_⟩
            rw [iI_cl (by omega) (by omega), Int.toNat_natCast, iI_add]
            have f3 : fg (fun p q => p = m + 24 ∧ q = 4 * i + l) k2 (sI k2 (m + 24) (4 * i + l) (iI (a2 : Int))) := fg.rf.wr ⟨rfl, rfl⟩
            refine ih2 (l + 1) na _ T3 (by omega) ((f1.tr (f2.mo (fun _ _ z => wk_tm z))).tr (f3.mo (fun p q z => by unfold tmS; omega))) ?_ (by omega) ?_ (lm_fg (lm_up L1 f2 c1) f3 (fun q => by omega) (fun q hq => by omega)) (pw_fg (pw_up nd1 f2 c1) f3 (fun q => by omega)) (pw_fg (pw_up nn1 f2 c1) f3 (fun q => by omega)) (fun j hj => ?_)
            · rw [f3.eq (by omega)]
              exact t3
            · rw [f3.eq (by omega), f2.eq (by unfold wkS; omega)]
              exact k381
            · by_cases c : j = l
              · rw [c]
                exact ⟨a2, by rw [mI_sI ⟨by omega, by omega⟩, if_pos ⟨rfl, rfl⟩], pw_fg n2 f3 (fun q => by omega)⟩
              · obtain ⟨a, a1, a3⟩ := A1 j (by omega)
                exact ⟨a, by rw [f3.eq (by omega), f2.eq (by unfold wkS; omega)]; exact a1, pw_fg (pw_up a3 f2 c1) f3 (fun q => by omega)⟩
          refine j_M_tellLimits_104 ?_
          rw [iI_le ⟨by omega, by omega⟩ ⟨by omega, by omega⟩, M1.a33.1, gI_mI k1 m 38, k381, iI_mul, iI_add, hx, gI_mI k1 m 37, f1.eq (by unfold tmS; omega), hL, iI_le ⟨by omega, by omega⟩ ⟨by omega, by omega⟩]
          refine ⟨fun z => by omega, fun _ => ⟨M1.1, M1.1, M1.1, fun z => j_M_tellLimits_151 ⟨M1.1, jRet_mono (w_whole (x := ((0 : Nat) : Int)) M1 t2 (by omega) (by omega)) ?_⟩, fun z => ?_⟩⟩
          · intro r2 k2 w2
            obtain ⟨a2, T3, x2, f2, t3, c1, c2, n2⟩ := w2
            have e0 : sV m h n i l = ((0 : Nat) : Int) := by
              unfold sV
              rw [if_pos (by omega), if_neg (fun y => y.2 (deadA l (by omega)))]
              rfl
            exact ⟨_, x2, l156 k2 T3 a2 f2 t3 c1 c2 (by rw [e0]; exact n2)⟩
          · have la := liveA l (by omega)
            obtain ⟨lm, hlm'⟩ : ∃ lm : Nat, lmA m h n l = (lm : Int) := ⟨(lmA m h n l).toNat, by omega⟩
            have e8 : 8 * (i : Int) + (lm : Int) = ((8 * i + lm : Nat) : Int) := by omega
            rw [M1.a32.1, gI_q (by omega) (by omega), Int.toNat_natCast, f1.eq (by unfold tmS; omega), hlm l (by omega), hlm', iI_mul, iI_add, e8]
            refine ⟨M1.1, ixL_of M1.a32.2 (by omega) (by omega) (by decide), M1.1, jRet_mono (w_held M1 t2 (by omega) (kk f1 (K i lm hin (by omega))) (by omega)) ?_⟩
            intro r2 k2 w2
            obtain ⟨a2, T3, x2, f2, t3, c1, c2, n2⟩ := w2
            have e0 : sV m h n i l = pV m h n i lm := by
              unfold sV
              rw [if_pos (by omega), if_pos ⟨hin, by omega⟩, hlm', Int.toNat_natCast]
            exact ⟨_, x2, l156 k2 T3 a2 f2 t3 c1 c2 (by rw [e0]; exact n2)⟩
      -- the need
      have l42 : ∀ (e j na : Nat) (k1 : jHp) (T2 : Nat), j + e = n → fg (tmS m) g k1 → mI k1 m 2 = (T2 : Int) → T2 ≤ tBi i + 500 + 800 * j → mI k1 m 38 = (i : Int) → LM m k1 T2 i (lV4 m h n) → PW m k1 T2 da d0 → PW m k1 T2 na (mI h (m + 13) i * dV m h n - gS m h n i 1 j) → J 193 42 0 0 [.ref m, .int (iI da), .int (iI i), .int (iI na), .int (iI j)] [] k1 (tmQ m n L h g) := by
        intro e
        induction e with
        | zero =>
          intro j na k1 T2 he f1 t2 b2 k381 L1 nd1 nn1
          obtain rfl : j = n := by omega
          have M1 := M.sk f1.1
          have en : mI h (m + 13) i * dV m h j - gS m h j i 1 j = nV m h j i := by
            unfold nV
            rw [if_pos (by omega), if_pos hin]
          rw [en] at nn1
          refine j_M_tellLimits_42 ?_
          rw [gI_mI k1 m 20, (kt f1).2.2.1, S.1, iI_le ⟨by omega, by omega⟩ ⟨by omega, by omega⟩]
          exact ⟨M1.1, fun _ => j_M_tellLimits_101 (l104 3 0 na k1 T2 (by omega) f1 t2 (by omega) k381 L1 nd1 nn1 (fun j hj => by omega)), fun z => absurd (Int.le_refl _) z⟩
        | succ e ih2 =>
          intro j na k1 T2 he f1 t2 b2 k381 L1 nd1 nn1
          have hjn : j < n := by omega
          have M1 := M.sk f1.1
          have s1 := kt f1
          have kd := KDh j hjn
          have ob := O j hjn
          have gs1 : gS m h n i 1 (j + 1) = gS m h n i 1 j + (if (1 : Int) ≠ 0 ∧ mI h (m + 9) j = 1 then 0 else pV m h n i j * mI h (m + 12) j) := rfl
          refine j_M_tellLimits_42 ?_
          rw [gI_mI k1 m 20, s1.2.2.1, S.1, iI_le ⟨by omega, by omega⟩ ⟨by omega, by omega⟩, M1.a12.1, gI_q (by omega) (by omega), Int.toNat_natCast, s1.1 9 (by decide) (by decide), iI_eq (rI_mI _ _ _) ⟨by omega, by omega⟩]
          refine ⟨M1.1, fun z => by omega, fun _ => ⟨M1.1, ixL_of M1.a12.2 (by omega) (by omega) (by decide), fun z => j_M_tellLimits_95 ?_, fun z => ?_⟩⟩
          · rw [iI_add]
            have g0 : gS m h n i 1 (j + 1) = gS m h n i 1 j := by
              rw [gs1]
              by_cases c1 : mI h (m + 9) j = 1
              · rw [if_pos ⟨by decide, c1⟩]
                omega
              · rw [if_neg (fun y => c1 y.2), kd.2 (by omega), Int.mul_zero]
                omega
            exact ih2 (j + 1) na k1 T2 (by omega) f1 t2 (by omega) k381 L1 nd1 (by rw [g0]; exact nn1)
          · have e8 : 8 * (i : Int) + (j : Int) = ((8 * i + j : Nat) : Int) := by omega
            rw [iI_mul, iI_add, e8]
            refine ⟨M1.1, jRet_mono (w_held M1 t2 (by omega) (kk f1 (K i j hin hjn)) (by omega)) ?_⟩
            intro r2 k2 w2
            obtain ⟨a2, T3, x2, f2, t3, c1, c2, n2⟩ := w2
            have M2 := M1.sk f2.1
            have F2 := f1.tr (f2.mo (fun _ _ z => wk_tm z))
            rw [M2.a15.1, gI_q (by omega) (by omega), Int.toNat_natCast, (kt F2).1 12 (by decide) (by decide), iI_64 ⟨by omega, by omega⟩]
            refine ⟨_, x2, M2.1, ixL_of M2.a15.2 (by omega) (by omega) (by decide), M2.1, jRet_mono (w_whole M2 t3 (by omega) (by omega)) ?_⟩
            intro r3 k3 w3
            obtain ⟨a3, T4, x3, f3, t4, c3, c4, n3⟩ := w3
            have M3 := M2.sk f3.1
            have pb : (pV m h n i j * mI h (m + 12) j).natAbs ≤ 10 ^ 50 := Nat.le_trans (nA_mul (pV_45 S hin hjn) (show (mI h (m + 12) j).natAbs ≤ 10000 by omega)) (by decide)
            refine ⟨_, x3, M3.1, jRet_mono (w_times M3 t4 (by omega) (pw_up n2 f3 c3) n3 (Nat.le_trans pb (by decide +kernel))) ?_⟩
            intro r4 k4 w4
            obtain ⟨a4, T5, x4, f4', t5, c5, c6, n4⟩ := w4
            have M4 := M3.sk f4'.1
            have gb := gS_45 (b := 1) (k := j) S O hin (by omega)
            have db : (mI h (m + 13) i * dV m h n - gS m h n i 1 j - pV m h n i j * mI h (m + 12) j).natAbs ≤ 10 ^ 50 + 8 * 10 ^ 49 + 10 ^ 50 := by
              generalize 10 ^ 50 = q1 at *
              generalize 8 * 10 ^ 49 = q2 at *
              omega
            refine ⟨_, x4, M4.1, jRet_mono (w_less M4 t5 (by omega) (pw_up (pw_up (pw_up nn1 f2 c1) f3 c3) f4' c5) n4 (Nat.le_trans db (by decide +kernel))) ?_⟩
            intro r5 k5 w5
            obtain ⟨a5, T6, x5, f5, t6, c7, c8, n5⟩ := w5
            refine ⟨_, x5, j_M_tellLimits_95 ?_⟩
            rw [iI_add]
            have g0 : mI h (m + 13) i * dV m h n - gS m h n i 1 (j + 1) = mI h (m + 13) i * dV m h n - gS m h n i 1 j - pV m h n i j * mI h (m + 12) j := by
              rw [gs1, if_neg (fun y => by omega)]
              omega
            refine ih2 (j + 1) a5 k5 T6 (by omega) (((F2.tr (f3.mo (fun _ _ z => wk_tm z))).tr (f4'.mo (fun _ _ z => wk_tm z))).tr (f5.mo (fun _ _ z => wk_tm z))) t6 ?_ ?_ (lm_up (lm_up (lm_up (lm_up L1 f2 c1) f3 c3) f4' c5) f5 c7) (pw_up (pw_up (pw_up (pw_up nd1 f2 c1) f3 c3) f4' c5) f5 c7) (by rw [g0]; exact n5)
            · omega
            · rw [f5.eq (by unfold wkS; omega), f4'.eq (by unfold wkS; omega), f3.eq (by unfold wkS; omega), f2.eq (by unfold wkS; omega)]
              exact k381
      refine j_M_tellLimits_14 ?_
      have s0 := kt f
      rw [gI_mI k m 20, s0.2.2.1, S.1, iI_le ⟨by omega, by omega⟩ ⟨by omega, by omega⟩, Mk.a16.1, gI_q (by omega) (by omega), Int.toNat_natCast, s0.1 13 (by decide) (by decide), iI_64 ⟨by omega, by omega⟩]
      refine ⟨Mk.1, fun z => by omega, fun _ => ⟨Mk.1, ixL_of Mk.a16.2 (by omega) (by omega) (by decide), Mk.1, jRet_mono (w_whole Mk t1 (by omega) (by omega)) ?_⟩⟩
      intro r2 k2 w2
      obtain ⟨a2, T3, x2, f2, t3, c1, c2, n2⟩ := w2
      have M2 := Mk.sk f2.1
      have nd2 := pw_up nd f2 c1
      rw [ed0] at nd2
      refine ⟨_, x2, M2.1, jRet_mono (w_times M2 t3 (by omega) n2 nd2 (Nat.le_trans bb1 (by decide +kernel))) ?_⟩
      intro r3 k3 w3
      obtain ⟨a3, T4, x3, f3, t4, c3, c4, n3⟩ := w3
      refine ⟨_, x3, l42 n 0 a3 k3 T4 (by omega) ((f.tr (f2.mo (fun _ _ z => wk_tm z))).tr (f3.mo (fun _ _ z => wk_tm z))) t4 (by omega) ?_ (lm_up (lm_up Lk f2 c1) f3 c3) (pw_up (pw_up nd f2 c1) f3 c3) ?_⟩
      · rw [f3.eq (by unfold wkS; omega), f2.eq (by unfold wkS; omega)]
        exact k38
      · have g0 : gS m h n i 1 0 = 0 := rfl
        rw [g0, Int.sub_zero]
        exact n3
  have f0 : fg (tmS m) g (sI g m 38 (iI 0)) := fg.rf.wr (by unfold tmS; omega)
  have M0 := M.sk f0.1
  refine jRet_of (by decide) (by decide) (Nat.le_of_ble_eq_true rfl) (j_M_tellLimits_0 ⟨M.1, M0.1, ?_⟩)
  have t0 : mI (sI g m 38 (iI 0)) m 2 = ((0 : Nat) : Int) := by
    rw [mI_sI ⟨by omega, by omega⟩, if_neg (fun z => by omega)]
    exact ht
  refine jRet_mono (w_held (p := 64) M0 t0 (by omega) (kk f0 K64) (by omega)) ?_
  intro r2 k2 w2
  obtain ⟨a2, T3, x2, f2, t3, c1, c2, n2⟩ := w2
  have tb0 : tBi 0 = 200 := rfl
  refine ⟨_, x2, l14 n 0 a2 k2 T3 (by omega) (f0.tr (f2.mo (fun _ _ z => wk_tm z))) t3 (by omega) ?_ (fun k j hk => by omega) n2⟩
  rw [f2.eq (by unfold wkS; omega), mI_sI ⟨by omega, by omega⟩, if_pos ⟨rfl, rfl⟩]
  rfl
end LIM
