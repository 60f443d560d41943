/-! pulls: the rows of the model's system -/
theorem Mo.a13 {m : Nat} {h : jHp} (M : Mo m h) : gR h m 13 = m + 10 ∧ jz h (m + 10) = (10, 8) := M.2 (13, 10, 8) (by decide)
theorem Mo.a14 {m : Nat} {h : jHp} (M : Mo m h) : gR h m 14 = m + 11 ∧ jz h (m + 11) = (10, 8) := M.2 (14, 11, 8) (by decide)
theorem Mo.a15 {m : Nat} {h : jHp} (M : Mo m h) : gR h m 15 = m + 12 ∧ jz h (m + 12) = (10, 8) := M.2 (15, 12, 8) (by decide)
theorem Mo.a22 {m : Nat} {h : jHp} (M : Mo m h) : gR h m 22 = m + 16 ∧ jz h (m + 16) = (10, 64) := M.2 (22, 16, 64) (by decide)
theorem Mo.a25 {m : Nat} {h : jHp} (M : Mo m h) : gR h m 25 = m + 19 ∧ jz h (m + 19) = (10, 72) := M.2 (25, 19, 72) (by decide)
/-- the told shares and what patches give back, as they must be -/
def SW (m : Nat) (h : jHp) (n : Nat) : Prop := mI h m 20 = n ∧ n ≤ 8 ∧ 1 ≤ mI h m 21 ∧ mI h m 21 ≤ 1000 ∧ (∀ i, i < n → 1 ≤ mI h (m + 11) i ∧ mI h (m + 11) i ≤ 100 ∧ 0 ≤ mI h (m + 10) i ∧ mI h (m + 10) i < mI h (m + 11) i) ∧ (∀ k, k < 64 → 0 ≤ mI h (m + 16) k) ∧ (∀ i, i < n → sm (fun j => mI h (m + 16) (8 * i + j)) 8 ≤ mI h m 21)
def EM (m : Nat) (h : jHp) (t j : Nat) : Int := if t < 8 then (if j < 8 then (if t = j then mI h (m + 11) t * mI h m 21 else 0) - mI h (m + 10) t * mI h (m + 16) (8 * t + j) else if j = 9 + t then 1 else 0) else (if j = t - 8 then -1 else 0)
theorem sm_mono {f : Nat → Int} {a : Nat} : ∀ {b : Nat}, a ≤ b → (∀ k, k < b → 0 ≤ f k) → sm f a ≤ sm f b
  | 0, h, _ => by
    rw [show a = 0 by omega]
    exact Int.le_refl _
  | b + 1, h, h0 => by
    by_cases c : a = b + 1
    · rw [c]
      exact Int.le_refl _
    · rw [sm]
      have a1 := sm_mono (f := f) (a := a) (b := b) (by omega) (fun k hk => h0 k (by omega))
      have a2 := h0 b (by omega)
      omega
theorem sm_one {v : Int} {i : Nat} : ∀ {n : Nat}, i < n → sm (fun j => if i = j then v else 0) n = v
  | 0, h => by omega
  | n + 1, h => by
    rw [sm]
    by_cases c : i = n
    · subst c
      rw [if_pos rfl, sm_z (fun k hk => if_neg (show ¬ i = k by omega)), Int.zero_add]
    · rw [if_neg c, sm_one (n := n) (by omega), Int.add_zero]
theorem tab_le {m n : Nat} {h : jHp} (S : SW m h n) {i j : Nat} (hi : i < n) (hj : j < 8) : mI h (m + 16) (8 * i + j) ≤ mI h m 21 := by
  obtain ⟨s1, s2, s3, s4, s5, s6, s7⟩ := S
  have a1 := s7 i hi
  have a2 : mI h (m + 16) (8 * i + j) ≤ sm (fun j => mI h (m + 16) (8 * i + j)) (j + 1) := by
    rw [sm]
    have : sm (fun j => mI h (m + 16) (8 * i + j)) 0 ≤ sm (fun j => mI h (m + 16) (8 * i + j)) j := sm_mono (by omega) (fun k hk => s6 _ (by omega))
    rw [sm] at this
    omega
  have a3 : sm (fun j => mI h (m + 16) (8 * i + j)) (j + 1) ≤ sm (fun j => mI h (m + 16) (8 * i + j)) 8 := sm_mono (by omega) (fun k hk => s6 _ (by omega))
  omega
theorem dm_of {m n : Nat} {h : jHp} (S : SW m h n) : Dm (EM m h) n := by
  have S' := S
  obtain ⟨s1, s2, s3, s4, s5, s6, s7⟩ := S
  refine ⟨fun i j hi hj hij => ?_, fun i hi => ?_, fun i hi => ?_, fun i j => ?_, fun i c hi => ?_⟩
  · unfold EM
    rw [if_pos (by omega), if_pos (by omega), if_neg hij]
    have a1 := (s5 i hi).2.2.1
    have a2 := s6 (8 * i + j) (by omega)
    have := Int.mul_nonneg a1 a2
    omega
  · have e : sm (fun j => EM m h i j) n = mI h (m + 11) i * mI h m 21 - mI h (m + 10) i * sm (fun j => mI h (m + 16) (8 * i + j)) n := by
      rw [← sm_mul, ← sm_one (v := mI h (m + 11) i * mI h m 21) hi, ← sm_sub]
      refine sm_congr (fun j hj => ?_)
      unfold EM
      rw [if_pos (by omega), if_pos (by omega)]
    rw [e]
    have a1 := s5 i hi
    have a2 := s7 i hi
    have a3 : sm (fun j => mI h (m + 16) (8 * i + j)) n ≤ sm (fun j => mI h (m + 16) (8 * i + j)) 8 := sm_mono s2 (fun k hk => s6 _ (by omega))
    have a4 := Int.mul_le_mul_of_nonneg_left (show sm (fun j => mI h (m + 16) (8 * i + j)) n ≤ mI h m 21 by omega) a1.2.2.1
    have a5 := Int.mul_pos (show 0 < mI h (m + 11) i - mI h (m + 10) i by omega) (show 0 < mI h m 21 by omega)
    rw [Int.sub_mul] at a5
    omega
  · unfold EM
    rw [if_pos (by omega), if_pos (by omega), if_pos rfl]
    have a1 := s5 i hi
    have a2 := s6 (8 * i + i) (by omega)
    have a3 := Int.mul_nonneg a1.2.2.1 a2
    have a4 := Int.mul_le_mul (show mI h (m + 11) i ≤ 100 by omega) s4 (by omega) (show (0 : Int) ≤ 100 by decide)
    omega
  · unfold EM
    rw [if_neg (by omega), show 8 + i - 8 = i by omega]
  · unfold EM
    rw [if_pos (by omega), if_neg (by omega)]
    split <;> omega
/-- what the cells of row name -/
def RT (m : Nat) (g : jHp) (T : Nat) (P : Nat → Nat → Prop) (V : Nat → Nat → Int) : Prop := ∀ i j, P i j → ∃ a : Nat, mI g (m + 19) (9 * i + j) = (a : Int) ∧ PN m g T a (V i j)
theorem pn_lt {m T a : Nat} {h : jHp} {v : Int} (n : PN m h T a v) : a < 400000 := by
  have := n.1.1
  omega
theorem rt_up {m T T' a i j : Nat} {g h1 : jHp} {P P' : Nat → Nat → Prop} {V V' : Nat → Nat → Int} {z : Int} (R : RT m g T P V) (f : fg (wkS m T) g h1) (ht : T ≤ T') (n : PN m h1 T' a z)
    (hp : ∀ i' j', P' i' j' → (i' = i ∧ j' = j ∧ V' i' j' = z) ∨ (P i' j' ∧ V' i' j' = V i' j' ∧ ¬ 9 * i' + j' = 9 * i + j)) : RT m (sI h1 (m + 19) (9 * i + j) (iI (a : Int))) T' P' V' := by
  have ha := pn_lt n
  intro i' j' p
  rcases hp i' j' p with ⟨e1, e2, e3⟩ | ⟨e1, e2, e3⟩
  · refine ⟨a, ?_, ?_⟩
    · rw [mI_sI ⟨by omega, by omega⟩, if_pos ⟨rfl, by rw [e1, e2]⟩]
    · rw [e3]
      exact pn_fg n (S := fun p k => p = m + 19) (fg.rf.wr rfl) (fun k z => by omega)
  · obtain ⟨b, b1, b2⟩ := R i' j' e1
    refine ⟨b, ?_, ?_⟩
    · rw [mI_sI ⟨by omega, by omega⟩, if_neg (fun z => e3 z.2), f.eq (by unfold wkS; omega)]
      exact b1
    · rw [e2]
      exact pn_fg (pn_up b2 f ht) (S := fun p k => p = m + 19) (fg.rf.wr rfl) (fun k z => by omega)
def puS (m p k : Nat) : Prop := p = m + 1 ∨ (p = m ∧ (k = 2 ∨ k = 6 ∨ k = 7)) ∨ p = m + 2 ∨ p = m + 3 ∨ p = m + 4 ∨ p = m + 18 ∨ p = m + 19
theorem wk_pu {m t p k : Nat} (w : wkS m t p k) : puS m p k := by
  unfold wkS at w
  unfold puS
  omega
theorem pu_eq {m p k : Nat} {h g : jHp} (f : fg (puS m) h g) (hp : 5 ≤ p) (hp2 : p < 18) : mI g (m + p) k = mI h (m + p) k := f.eq (by unfold puS; omega)
theorem pu_f {m k : Nat} {h g : jHp} (f : fg (puS m) h g) (hk : k ≠ 2 ∧ k ≠ 6 ∧ k ≠ 7) : mI g m k = mI h m k := f.eq (by unfold puS; omega)
