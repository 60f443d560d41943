/-! decimal text, and what the model tells -/
theorem gd_l {l l' : List Int} {k : Nat} (h : k < l.length) : (l ++ l').getD k 0 = l.getD k 0 := by
  simp only [List.getD_eq_getElem?_getD, List.getElem?_append_left h]
theorem gd_r {l l' : List Int} {k : Nat} : (l ++ l').getD (l.length + k) 0 = l'.getD k 0 := by
  simp only [List.getD_eq_getElem?_getD]
  rw [List.getElem?_append_right (Nat.le_add_right _ _), Nat.add_sub_cancel_left]
/-- the k lowest digits, the highest first -/
def tD : Nat → Nat → List Int
  | 0, _ => []
  | k + 1, n => (48 + (dg 10 n k : Int)) :: tD k n
def dT (n : Nat) : List Int := tD (sz 10 n) n
def nT (v : Int) : List Int := (if v < 0 then [45] else []) ++ (if v = 0 then [48] else dT v.natAbs)
theorem tD_len (n : Nat) : ∀ k, (tD k n).length = k
  | 0 => rfl
  | k + 1 => by rw [tD, List.length_cons, tD_len n k]
theorem tD_get (n : Nat) : ∀ (k j : Nat), j < k → (tD k n).getD j 0 = 48 + (dg 10 n (k - 1 - j) : Int)
  | 0, _, h => by omega
  | k + 1, 0, _ => by
    rw [tD]
    rfl
  | k + 1, j + 1, h => by
    rw [tD, List.getD_cons_succ, tD_get n k j (by omega)]
    congr 3
    omega
/-- the j lowest digits, the lowest first -/
def uD : Nat → Nat → List Int
  | 0, _ => []
  | j + 1, n => uD j n ++ [48 + (dg 10 n j : Int)]
theorem uD_len (n : Nat) : ∀ j, (uD j n).length = j
  | 0 => rfl
  | j + 1 => by rw [uD, List.length_append, uD_len n j]; rfl
theorem uD_get (n : Nat) : ∀ (j i : Nat), i < j → (uD j n).getD i 0 = 48 + (dg 10 n i : Int)
  | 0, _, h => by omega
  | j + 1, i, h => by
    rw [uD]
    by_cases e : i = j
    · subst e
      have := gd_r (l := uD i n) (l' := [48 + (dg 10 n i : Int)]) (k := 0)
      rw [uD_len, Nat.add_zero] at this
      rw [this]
      rfl
    · rw [gd_l (by rw [uD_len]; omega)]
      exact uD_get n j i (by omega)
theorem Mo.a26 {m : Nat} {h : jHp} (M : Mo m h) : gR h m 26 = m + 20 ∧ jz h (m + 20) = (10, 1000) := M.2 (26, 20, 1000) (by decide)
/-- what is told so far -/
def OU (m : Nat) (h : jHp) (l : List Int) : Prop := mI h m 27 = l.length ∧ l.length ≤ 1000 ∧ ∀ k, k < l.length → mI h (m + 20) k = l.getD k 0
def tlS (m p k : Nat) : Prop := p = m + 20 ∨ p = m + 2 ∨ (p = m ∧ (k = 27 ∨ k = 6))
theorem OU_fg {m : Nat} {S : Nat → Nat → Prop} {h h' : jHp} {l : List Int} (O : OU m h l) (f : fg S h h') (s : ∀ p k, S p k → p ≠ m + 20 ∧ ¬ (p = m ∧ k = 27)) : OU m h' l :=
  ⟨by rw [f.eq (fun z => (s _ _ z).2 ⟨rfl, rfl⟩)]; exact O.1, O.2.1, fun k hk => by rw [f.eq (fun z => (s _ _ z).1 rfl)]; exact O.2.2 k hk⟩
theorem c_tells0 {m : Nat} {h : jHp} {c : Int} {l : List Int} (M : Mo m h) (O : OU m h l) (hl : l.length < 1000) (hc : rI c) :
    jRet 183 0 0 [.ref m, .int (iI c)] h (fun r h' => r = none ∧ fg (tlS m) h h' ∧ OU m h' (l ++ [c]) ∧ (∀ p k, p ≠ m + 20 → ¬ (p = m ∧ k = 27) → mI h' p k = mI h p k)) := by
  refine jRet_of (by decide) (by decide) (Nat.le_of_ble_eq_true rfl) (j_M_tells0_0 ?_)
  have e : mI (sI h (m + 20) l.length (iI c)) m 27 = l.length := by
    rw [mI_sI hc, if_neg (fun z => by omega)]
    exact O.1
  rw [M.a26.1, gI_mI h m 27, O.1, iI_cl (by omega) (by omega), Int.toNat_natCast, gI_mI _ m 27, e, iI_add]
  refine ⟨M.1, M.1, ix_of M.a26.2 (by omega) (by omega) (by decide), M.sI.1, M.sI.1, j_M_tells0_20 ⟨rfl, (fg.rf.wr (by unfold tlS; omega)).wr (by unfold tlS; omega), ⟨?_, ?_, fun k hk => ?_⟩, fun p k h1 h2 => ?_⟩⟩
  · rw [mI_sI ⟨by omega, by omega⟩, if_pos ⟨rfl, rfl⟩, List.length_append]
    rfl
  · rw [List.length_append]
    exact hl
  · rw [List.length_append] at hk
    have hk2 : k < l.length + 1 := hk
    rw [mI_sI ⟨by omega, by omega⟩, if_neg (fun z => by omega), mI_sI hc]
    by_cases ek : k = l.length
    · rw [if_pos ⟨rfl, ek⟩, ek]
      exact (gd_r (l := l) (l' := [c]) (k := 0)).symm
    · rw [if_neg (fun z => ek z.2), gd_l (by omega)]
      exact O.2.2 k (by omega)
  · rw [mI_sI ⟨by omega, by omega⟩, if_neg (fun z => by omega), mI_sI hc, if_neg (fun z => by omega)]
section TN
variable {m : Nat} {h : jHp} {l : List Int} {n : Nat}
def tnQ (m : Nat) (h : jHp) (l : List Int) : jQ := fun r h' => r = none ∧ fg (tlS m) h h' ∧ OU m h' l
theorem l_tn195 (M : Mo m h) (hl : l.length + sz 10 n ≤ 1000) : ∀ (e d : Nat) (g : jHp), e + d = sz 10 n → 2 * d ≤ sz 10 n → fg (tlS m) h g → mI g m 27 = l.length + sz 10 n → (∀ k, k < l.length → mI g (m + 20) k = l.getD k 0) →
    (∀ j, j < sz 10 n → mI g (m + 20) (l.length + j) = 48 + (dg 10 n (if j < d then sz 10 n - 1 - j else if sz 10 n - 1 - d < j then sz 10 n - 1 - j else j) : Int)) →
    J 182 195 0 0 [.ref m, uu, uu, .int (iI ((l.length : Int) + d)), .int (iI ((l.length : Int) + sz 10 n - 1 - d)), uu, uu, uu] [] g (tnQ m h (l ++ dT n)) := by
  intro e
  induction e with
  | zero =>
    intro d g hd hd2 f h27 hlo hhi
    have hd0 : d = 0 := by omega
    subst hd0
    have h0 : sz 10 n = 0 := by omega
    refine j_M_tellsNumber_195 ⟨fun _ => j_M_tellsNumber_240 ⟨rfl, f, ?_⟩, fun c => absurd ((iI_le ⟨by omega, by omega⟩ ⟨by omega, by omega⟩).mpr (by omega)) c⟩
    unfold dT
    rw [h0, tD, List.append_nil]
    exact ⟨by rw [h27]; omega, (by omega), hlo⟩
  | succ e ih =>
    intro d g hd hd2 f h27 hlo hhi
    have Mg := M.sk f.1
    obtain ⟨J', hJ⟩ : ∃ J', J' = sz 10 n := ⟨_, rfl⟩
    rw [← hJ] at hd hd2 h27 hhi hl ⊢
    have dl : ∀ i, dg 10 n i < 10 := fun i => dg_lt (by decide)
    by_cases c : J' ≤ 2 * d + 1
    · refine j_M_tellsNumber_195 ⟨fun _ => j_M_tellsNumber_240 ⟨rfl, f, ?_⟩, fun c => absurd ((iI_le ⟨by omega, by omega⟩ ⟨by omega, by omega⟩).mpr (by omega)) c⟩
      have hT : (dT n).length = J' := by
        unfold dT
        rw [tD_len, hJ]
      refine ⟨by rw [h27, List.length_append, hT]; rfl, by rw [List.length_append, hT]; exact hl, fun k hk => ?_⟩
      rw [List.length_append, hT] at hk
      by_cases ck : k < l.length
      · rw [gd_l ck]
        exact hlo k ck
      · obtain ⟨j, rfl⟩ : ∃ j, k = l.length + j := ⟨k - l.length, by omega⟩
        rw [gd_r, hhi j (by omega)]
        unfold dT
        rw [← hJ, tD_get n J' j (by omega)]
        congr 3
        split
        · rfl
        · split
          · rfl
          · omega
    · refine j_M_tellsNumber_195 ?_
      have g1 : mI g (m + 20) (l.length + d) = 48 + (dg 10 n d : Int) := by
        rw [hhi d (by omega), if_neg (by omega), if_neg (by omega)]
      have g2 : mI g (m + 20) (l.length + (J' - 1 - d)) = 48 + (dg 10 n (J' - 1 - d) : Int) := by
        rw [hhi (J' - 1 - d) (by omega), if_neg (by omega), if_neg (by omega)]
      have d1 := dl d
      have d2 := dl (J' - 1 - d)
      rw [Mg.a26.1, gI_q (by omega) (by omega), gI_q (by omega) (by omega), show ((l.length : Int) + (d : Int)).toNat = l.length + d by omega, show ((l.length : Int) + (J' : Int) - 1 - (d : Int)).toNat = l.length + (J' - 1 - d) by omega, g1, g2, iI_le ⟨by omega, by omega⟩ ⟨by omega, by omega⟩]
      rw [iI_cl (by omega) (by omega), iI_cl (by omega) (by omega), show ((l.length : Int) + (d : Int)).toNat = l.length + d by omega, show ((l.length : Int) + (J' : Int) - 1 - (d : Int)).toNat = l.length + (J' - 1 - d) by omega]
      have M2 : Mo m (sI g (m + 20) (l.length + d) (iI (48 + (dg 10 n (J' - 1 - d) : Int)))) := Mg.sI
      rw [M2.a26.1]
      refine ⟨fun c => by omega, fun c => ⟨Mg.1, ixL_of Mg.a26.2 (by omega) (by omega) (by decide), Mg.1, Mg.1, ixL_of Mg.a26.2 (by omega) (by omega) (by decide), ix_of Mg.a26.2 (by omega) (by omega) (by decide), M2.1, ix_of M2.a26.2 (by omega) (by omega) (by decide), j_M_tellsNumber_231 ?_⟩⟩
      rw [iI_add, iI_add, show (l.length : Int) + (d : Int) + 1 = (l.length : Int) + ((d + 1 : Nat) : Int) by omega, show (l.length : Int) + (J' : Int) - 1 - (d : Int) + (-1) = (l.length : Int) + (J' : Int) - 1 - ((d + 1 : Nat) : Int) by omega]
      have := ih (d + 1) (sI (sI g (m + 20) (l.length + d) (iI (48 + (dg 10 n (J' - 1 - d) : Int)))) (m + 20) (l.length + (J' - 1 - d)) (iI (48 + (dg 10 n d : Int)))) (by omega) (by omega) ((f.wr (by unfold tlS; omega)).wr (by unfold tlS; omega)) ?_ (fun k hk => ?_) (fun j hj => ?_)
      · rw [← hJ] at this
        exact this
      · rw [mI_sI ⟨by omega, by omega⟩, if_neg (fun z => by omega), mI_sI ⟨by omega, by omega⟩, if_neg (fun z => by omega), ← hJ]
        exact h27
      · rw [mI_sI ⟨by omega, by omega⟩, if_neg (fun z => by omega), mI_sI ⟨by omega, by omega⟩, if_neg (fun z => by omega)]
        exact hlo k hk
      · rw [← hJ] at hj ⊢
        rw [mI_sI ⟨by omega, by omega⟩]
        by_cases c1 : j = J' - 1 - d
        · rw [if_pos ⟨rfl, by omega⟩, if_neg (by omega), if_pos (by omega)]
          congr 3
          omega
        · rw [if_neg (fun z => by omega), mI_sI ⟨by omega, by omega⟩]
          by_cases c2 : j = d
          · rw [if_pos ⟨rfl, by omega⟩, if_pos (by omega), c2]
          · rw [if_neg (fun z => by omega), hhi j hj]
            congr 3
            by_cases c3 : j < d
            · rw [if_pos c3, if_pos (by omega)]
            · rw [if_neg c3, if_neg (show ¬ j < d + 1 by omega)]
              by_cases c4 : J' - 1 - d < j
              · rw [if_pos c4, if_pos (by omega)]
              · rw [if_neg c4, if_neg (by omega)]
end TN
