/-! the model's operations in one form -/
def PN (m : Nat) (h : jHp) (T a : Nat) (v : Int) : Prop := NU m h a v ∧ a + sz B3 v.natAbs < T ∧ sz B3 v.natAbs ≤ 24
theorem pn_up {m T T' a : Nat} {h h' : jHp} {v : Int} (n : PN m h T a v) (f : fg (wkS m T) h h') (ht : T ≤ T') : PN m h' T' a v := ⟨fg_nu f n.1 n.2.1, by have := n.2.1; omega, n.2.2⟩
theorem pn_fg {m T a : Nat} {S : Nat → Nat → Prop} {h h' : jHp} {v : Int} (n : PN m h T a v) (f : fg S h h') (s : ∀ k, ¬ S (m + 1) k) : PN m h' T a v := ⟨nu_fg n.1 f s, n.2⟩
theorem sz_b {v : Int} {s : Nat} (h : v.natAbs < B3 ^ s) : sz B3 v.natAbs ≤ s := (sz_le (by decide)).mpr h
/-- an operation's end: z lies somewhere from T on, the top is T' -/
def OP (m : Nat) (h : jHp) (T : Nat) (z : Int) : jQ := fun r h' => ∃ a T' : Nat, r = some (.int (iI (a : Int))) ∧ fg (wkS m T) h h' ∧ mI h' m 2 = (T' : Int) ∧ T ≤ T' ∧ T' ≤ T + 80 ∧ PN m h' T' a z
theorem RS_OP {m T : Nat} {h : jHp} {z : Int} (hz : sz B3 z.natAbs ≤ 24) {r : Option Value} {h' : jHp} (q : RS m h T z r h') : OP m h T z r h' :=
  ⟨T, T + sz B3 z.natAbs + 1, q.1, fr_fg q.2.1, by rw [q.2.2.2]; omega, (by omega), (by omega), q.2.2.1, (by omega), hz⟩
theorem RW_OP {m T : Nat} {h : jHp} {z : Int} (hz : sz B3 z.natAbs ≤ 24) {r : Option Value} {h' : jHp} (q : RW m h T z r h') : OP m h T z r h' :=
  ⟨T, T + sz B3 z.natAbs + 1, q.1, q.2.1, by rw [q.2.2.2]; omega, (by omega), (by omega), q.2.2.1, (by omega), hz⟩
section OPS
variable {m T a b : Nat} {h : jHp} {x y : Int}
theorem o_whole (M : Mo m h) (ht : mI h m 2 = T) (hT : T + 100 < 400000) (hx : -9223372036854775808 < x ∧ x < 9223372036854775808) : jRet 161 0 0 [.ref m, .long (lI x)] h (OP m h T x) := by
  refine jRet_mono (c_whole M hx ht (by omega)) ?_
  intro r h' q
  have : sz B3 x.natAbs ≤ 24 := sz_b (Nat.lt_trans (show x.natAbs < 9223372036854775808 by omega) (by decide))
  exact RS_OP this q
theorem o_sum (M : Mo m h) (ht : mI h m 2 = T) (hT : T + 100 < 400000) (na : PN m h T a x) (nb : PN m h T b y) (hz : sz B3 (x + y).natAbs ≤ 24) : jRet 170 0 0 [.ref m, .int (iI a), .int (iI b)] h (OP m h T (x + y)) :=
  jRet_mono (c_sum M na.1 nb.1 ht na.2.1 nb.2.1 (by have := na.2.2; have := nb.2.2; omega)) (fun _ _ q => RS_OP hz q)
theorem o_times (M : Mo m h) (ht : mI h m 2 = T) (hT : T + 100 < 400000) (na : PN m h T a x) (nb : PN m h T b y) (hz : sz B3 (x * y).natAbs ≤ 24) : jRet 164 0 0 [.ref m, .int (iI a), .int (iI b)] h (OP m h T (x * y)) :=
  jRet_mono (c_times M na.1 nb.1 ht na.2.1 nb.2.1 (by have := na.2.2; have := nb.2.2; omega)) (fun _ _ q => RS_OP hz q)
theorem o_less (M : Mo m h) (ht : mI h m 2 = T) (hT : T + 100 < 400000) (na : PN m h T a x) (nb : PN m h T b y) (hz : sz B3 (x - y).natAbs ≤ 24) : jRet 167 0 0 [.ref m, .int (iI a), .int (iI b)] h (OP m h T (x - y)) := by
  have e1 := na.2.2
  have e2 := nb.2.2
  refine jRet_mono (c_less M na.1 nb.1 ht na.2.1 nb.2.1 (by omega)) ?_
  intro r h' q
  obtain ⟨c, q1, q2, q3, q4, q5, q6⟩ := q
  exact ⟨c, c + sz B3 (x - y).natAbs + 1, q3, fr_fg q4, by rw [q6]; omega, (by omega), (by omega), q5, (by omega), hz⟩
theorem o_divided (M : Mo m h) (ht : mI h m 2 = T) (hT : T + 100 < 400000) (na : PN m h T a x) (nb : PN m h T b y) (hy : y ≠ 0) : jRet 172 0 0 [.ref m, .int (iI a), .int (iI b)] h (OP m h T (x.tdiv y)) := by
  have e1 := na.2.2
  have e2 : sz B3 (x.tdiv y).natAbs ≤ 24 := by
    rw [nat_td]
    exact Nat.le_trans (sz_mono (by decide) (Nat.div_le_self _ _)) e1
  exact jRet_mono (c_divided M na.1 nb.1 ht na.2.1 nb.2.1 hy (by omega) (by omega)) (fun _ _ q => RW_OP e2 q)
theorem o_held {p : Nat} (M : Mo m h) (ht : mI h m 2 = T) (hT : T + 100 < 400000) (n : KN m h p x) (hp : p < 75) : jRet 178 0 0 [.ref m, .int (iI p)] h (OP m h T x) :=
  jRet_mono (c_held M n hp ht (by have := n.1; omega)) (fun _ _ q => RS_OP (by have := n.1; omega) q)
theorem o_turned (M : Mo m h) (ht : mI h m 2 = T) (hT : T + 100 < 400000) (na : PN m h T a x) : jRet 168 0 0 [.ref m, .int (iI a)] h (OP m h T (-x)) := by
  have e1 := na.2.2
  refine jRet_mono (c_turned M na.1 ht na.2.1 (by omega)) ?_
  intro r h' q
  have e2 : (-x).natAbs = x.natAbs := Int.natAbs_neg x
  exact ⟨T, T + sz B3 x.natAbs + 1, q.1, fr_fg q.2.1, by rw [q.2.2.2]; omega, (by omega), (by omega), q.2.2.1, by rw [e2]; omega, by rw [e2]; exact e1⟩
theorem o_sign (M : Mo m h) (na : PN m h T a x) : jRet 165 0 0 [.ref m, .int (iI a)] h (fun r h' => r = some (.int (iI x.sign)) ∧ h' = h) := c_sign M na.1
end OPS
/-- bounds by powers of ten -/
theorem sz_10 {v : Int} (h : v.natAbs ≤ 10 ^ 210) : sz B3 v.natAbs ≤ 24 := sz_b (Nat.lt_of_le_of_lt h (by decide))
