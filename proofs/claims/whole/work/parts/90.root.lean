/-! roots, rounded down: the class's and the model's -/
/-- r is the root of V, rounded down -/
def isR (V r : Nat) : Prop := r * r ≤ V ∧ V < (r + 1) * (r + 1)
theorem isR_u {V r s : Nat} (h1 : isR V r) (h2 : isR V s) : r = s := by
  rcases Nat.lt_trichotomy r s with c | c | c
  · have : (r + 1) * (r + 1) ≤ s * s := Nat.mul_le_mul c c
    have a := h1.2
    have b := h2.1
    omega
  · exact c
  · have : (s + 1) * (s + 1) ≤ r * r := Nat.mul_le_mul c c
    have a := h2.2
    have b := h1.1
    omega
theorem sq_lt {r : Nat} {V : Nat} (h : r * r ≤ V) (hV : V < 9223372036854775808) : r < 4294967296 := by
  rcases Nat.lt_or_ge r 4294967296 with c | c
  · exact c
  · have : 4294967296 * 4294967296 ≤ r * r := Nat.mul_le_mul c c
    omega
section ROOT
variable {h : jHp}
theorem c_Wroot {V : Nat} (hV : V < 9223372036854775808) : jRet 83 0 0 [.long (lI (V : Int))] h (fun q h' => ∃ r : Nat, q = some (.long (lI (r : Int))) ∧ isR V r ∧ h' = h) := by
  have loop : ∀ (e r : Nat), e ≤ 32 → r * r ≤ V → V < (r + 2 ^ e) * (r + 2 ^ e) → J 83 6 0 0 [.long (lI (V : Int)), uu, .long (lI (r : Int)), uu, .int (iI ((e : Int) - 1)), uu, uu] [] h (fun q h' => ∃ r : Nat, q = some (.long (lI (r : Int))) ∧ isR V r ∧ h' = h) := by
    intro e
    induction e with
    | zero =>
      intro r _ h1 h2
      exact j_Wa_rootDown_6 ⟨fun _ => j_Wa_rootDown_45 ⟨r, rfl, ⟨h1, h2⟩, rfl⟩, fun z => absurd (by decide) z⟩
    | succ e ih =>
      intro r he h1 h2
      have hr := sq_lt h1 hV
      have hp0 : 0 < 2 ^ e := Nat.pow_pos (by decide)
      have hp : 2 ^ e ≤ 2 ^ 31 := Nat.pow_le_pow_right (by decide) (by omega)
      have hp' : 2 ^ e ≤ 2147483648 := hp
      have e2 : 2 ^ (e + 1) = 2 ^ e + 2 ^ e := by
        rw [Nat.pow_succ]
        omega
      have es : lI ((1 : Nat) : Int) <<< ((iI (e : Int)).toInt64 &&& 63) = lI ((2 ^ e : Nat) : Int) := by
        rw [lI_shl e (by omega) (by omega), Int.natCast_pow]
        congr 1
        exact Int.one_mul _
      obtain ⟨t, ht⟩ : ∃ t : Nat, t = r + 2 ^ e := ⟨_, rfl⟩
      have et : lI (r : Int) + lI ((2 ^ e : Nat) : Int) = lI (t : Int) := by
        rw [lI_add, ht]
        rfl
      have hq : V / t ≤ V := Nat.div_le_self _ _
      refine j_Wa_rootDown_6 ?_
      rw [show ((e + 1 : Nat) : Int) - 1 = (e : Int) by omega, es, et, lI_div (by omega) (by omega) (by omega) (by omega), ← Int.natCast_ediv]
      obtain ⟨q, hqe⟩ : ∃ q : Nat, q = V / t := ⟨_, rfl⟩
      rw [← hqe] at hq ⊢
      have c1 : lg_cmp (lI (t : Int)) (lI ((0 : Nat) : Int)) ≤ 0 ↔ t = 0 := by
        rw [lg_cmp_le, lI_le ⟨by omega, by omega⟩ ⟨by omega, by omega⟩]
        omega
      have c2 : 0 < lg_cmp (lI (t : Int)) (lI (q : Int)) ↔ q < t := by
        rw [lg_cmp_gt, lI_lt ⟨by omega, by omega⟩ ⟨by omega, by omega⟩]
        omega
      have c3 : q < t ↔ V < t * t := by
        rw [hqe]
        exact Nat.div_lt_iff_lt_mul (by omega)
      rw [c1, c2, iI_0, iI_lt ⟨by omega, by omega⟩ ⟨by omega, by omega⟩, c3]
      have nx : ∀ r' : Nat, r' * r' ≤ V → V < (r' + 2 ^ e) * (r' + 2 ^ e) → J 83 39 0 0 [.long (lI (V : Int)), uu, .long (lI (r' : Int)), uu, .int (iI (e : Int)), uu, uu] [] h (fun q h' => ∃ r : Nat, q = some (.long (lI (r : Int))) ∧ isR V r ∧ h' = h) := by
        intro r' a1 a2
        refine j_Wa_rootDown_39 ?_
        rw [iI_add, show (e : Int) + -1 = (e : Int) - 1 by omega]
        exact ih r' (by omega) a1 a2
      refine ⟨fun z => by omega, fun _ => ⟨fun z => by omega, fun _ => ⟨by rw [lI_0, lI_eq ⟨by omega, by omega⟩ ⟨by omega, by omega⟩]; omega, fun z => nx r h1 (by rw [← ht]; exact z), fun z => nx t (Nat.le_of_not_lt z) ?_⟩⟩⟩
      have e3 : t + 2 ^ e = r + 2 ^ (e + 1) := by omega
      rw [e3]
      exact h2
  refine jRet_of (by decide) (by decide) (Nat.le_of_ble_eq_true rfl) (j_Wa_rootDown_0 ?_)
  refine loop 32 0 (Nat.le_refl _) (Nat.zero_le _) ?_
  rw [Nat.zero_add]
  exact Nat.lt_of_lt_of_le hV (by decide)
end ROOT
