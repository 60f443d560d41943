/-! what the class tells -/
theorem dg_ten {q d k : Nat} (hd : d < 10) : dg 10 (10 * q + d) (k + 1) = dg 10 q k := by
  unfold dg
  rw [Nat.pow_succ, Nat.mul_comm (10 ^ k), ← Nat.div_div_eq_div_mul, Nat.mul_add_div (by decide), Nat.div_eq_of_lt hd, Nat.add_zero]
theorem tD_ten {q d : Nat} (hd : d < 10) : ∀ k, tD (k + 1) (10 * q + d) = tD k q ++ [48 + (d : Int)]
  | 0 => by
    rw [tD, tD, tD]
    have : dg 10 (10 * q + d) 0 = d := by
      unfold dg
      rw [Nat.pow_zero, Nat.div_one]
      omega
    rw [this]
    rfl
  | k + 1 => by
    rw [tD, tD_ten hd k, dg_ten hd, tD, List.cons_append]
theorem sz_ten {q d : Nat} (hd : d < 10) (h : 0 < 10 * q + d) : sz 10 (10 * q + d) = sz 10 q + 1 := by
  have h1 := sz_lt (B := 10) (v := q) (by decide)
  refine sz_eq (by decide) ?_ (Or.inr ?_)
  · rw [Nat.pow_succ]
    omega
  · rw [Nat.add_sub_cancel]
    rcases Nat.eq_zero_or_pos q with z | z
    · subst z
      rw [sz_0]
      unfold dg
      rw [Nat.pow_zero, Nat.div_one]
      omega
    · obtain ⟨k, hk⟩ : ∃ k, sz 10 q = k + 1 := ⟨sz 10 q - 1, by have := (sz_pos (B := 10) (v := q) (by decide)).mpr z; omega⟩
      have := dg_top (B := 10) (by decide) z
      rw [hk, Nat.add_sub_cancel] at this
      rw [hk, dg_ten hd]
      exact this
theorem dT_ten {q d : Nat} (hd : d < 10) (h : 0 < 10 * q + d) : dT (10 * q + d) = dT q ++ [48 + (d : Int)] := by
  unfold dT
  rw [sz_ten hd h, tD_ten hd]
theorem by_n : ∀ c, c < 128 → (nI c).toInt8.toInt32 = nI c := by decide +kernel
/-- the object that tells: its bytes at o + 1, its numbers behind -/
def OO (o : Nat) (h : jHp) : Prop := isO h o 4 ∧ gR h o 0 = o + 1 ∧ jz h (o + 1) = (11, 512) ∧ gR h o 2 = o + 2 ∧ gR h o 3 = o + 4 ∧ gR h o 4 = o + 6 ∧ gR h o 5 = o + 8 ∧ gR h o 6 = o + 10
theorem oo_sk {o : Nat} {h h' : jHp} (O : OO o h) (s : sk h h') : OO o h' := by
  obtain ⟨a1, a2, a3, a4, a5, a6, a7, a8⟩ := O
  exact ⟨s.o a1, by rw [s.r]; exact a2, by rw [s.z]; exact a3, by rw [s.r]; exact a4, by rw [s.r]; exact a5, by rw [s.r]; exact a6, by rw [s.r]; exact a7, by rw [s.r]; exact a8⟩
def CO (o : Nat) (h : jHp) (l : List Int) : Prop := mI h o 1 = l.length ∧ l.length ≤ 512 ∧ ∀ k, k < l.length → mI h (o + 1) k = l.getD k 0
def ouS (o p k : Nat) : Prop := (p = o ∧ k = 1) ∨ p = o + 1
theorem co_fg {o : Nat} {S : Nat → Nat → Prop} {h h' : jHp} {l : List Int} (O : CO o h l) (f : fg S h h') (s : ∀ p k, S p k → ¬ ouS o p k) : CO o h' l :=
  ⟨by rw [f.eq (fun z => s _ _ z (Or.inl ⟨rfl, rfl⟩))]; exact O.1, O.2.1, fun k hk => by rw [f.eq (fun z => s _ _ z (Or.inr rfl))]; exact O.2.2 k hk⟩
theorem ix_b {h : jHp} {p n : Nat} {a : Int} (z : jz h p = (11, n)) (h0 : 0 ≤ a) (h1 : a < n) (hn : (n : Int) ≤ 2147483648) : ix h p 11 (iI a) := ⟨by rw [z], by rw [z]; exact iI_in h0 h1 hn⟩
section OUT
variable {o : Nat} {h : jHp} {l : List Int}
theorem c_Obyte {k : Int} (O : OO o h) (C : CO o h l) (hk : rI k) : jRet 55 0 0 [.ref o, .int (iI k)] h (fun q h' => q = some (.int (iI (if 0 ≤ k ∧ k < l.length then l.getD k.toNat 0 else -1))) ∧ h' = h) := by
  have hl := C.2.1
  refine jRet_of (by decide) (by decide) (Nat.le_of_ble_eq_true rfl) (j_Ou_byteAt_0 ?_)
  rw [gI_mI h o 1, C.1, iI_0, iI_lt hk ⟨by omega, by omega⟩, iI_le ⟨by omega, by omega⟩ hk]
  refine ⟨fun z => j_Ou_byteAt_21 (j_Ou_byteAt_22 ⟨by rw [if_neg (by omega)], rfl⟩), fun z => ⟨O.1, fun z2 => j_Ou_byteAt_21 (j_Ou_byteAt_22 ⟨by rw [if_neg (by omega)], rfl⟩), fun z2 => ⟨O.1, ?_, j_Ou_byteAt_22 ⟨?_, rfl⟩⟩⟩⟩
  · rw [O.2.1]
    exact ix_b O.2.2.1 (by omega) (by omega) (by decide)
  · rw [O.2.1, gI_q (by omega) hk.2, C.2.2 _ (by omega), if_pos (by omega)]
def puQ (o : Nat) (h : jHp) (l : List Int) : jQ := fun q h' => q = none ∧ fg (ouS o) h h' ∧ CO o h' l
theorem c_Oput {c : Nat} (O : OO o h) (C : CO o h l) (hc : c < 128) (hl : l.length < 512) : jRet 58 0 0 [.ref o, .int (iI (c : Int))] h (puQ o h (l ++ [(c : Int)])) := by
  refine jRet_of (by decide) (by decide) (Nat.le_of_ble_eq_true rfl) (j_Ou_put_0 ?_)
  have eb : vp_nar .byte (iI (c : Int)).toInt8.toInt32 = iI (c : Int) := by
    rw [pk_vb, ← nI_iI]
    exact by_n c hc
  have e1 : mI (sI h (o + 1) l.length (iI (c : Int))) o 1 = l.length := by
    rw [mI_sI ⟨by omega, by omega⟩, if_neg (fun z => by omega)]
    exact C.1
  rw [eb, O.2.1, gI_mI h o 1, C.1, iI_le ⟨by omega, by omega⟩ ⟨by omega, by omega⟩, iI_cl (by omega) (by omega), Int.toNat_natCast, gI_mI _ o 1, e1, iI_add]
  have O1 := oo_sk O (sk.rf.sI (p := o + 1) (k := l.length) (v := iI (c : Int)))
  refine ⟨O.1, fun z => by omega, fun _ => ⟨O.1, O.1, ix_b O.2.2.1 (by omega) (by omega) (by decide), O1.1, O1.1, j_Ou_put_31 ⟨rfl, (fg.rf.wr (Or.inr rfl)).wr (Or.inl ⟨rfl, rfl⟩), ?_, ?_, fun k hk => ?_⟩⟩⟩
  · rw [mI_sI ⟨by omega, by omega⟩, if_pos ⟨rfl, rfl⟩, List.length_append]
    rfl
  · rw [List.length_append]
    exact hl
  · rw [List.length_append] at hk
    have hk2 : k < l.length + 1 := hk
    rw [mI_sI ⟨by omega, by omega⟩, if_neg (fun z => by omega), mI_sI ⟨by omega, by omega⟩]
    by_cases ek : k = l.length
    · rw [if_pos ⟨rfl, ek⟩, ek]
      exact (gd_r (l := l) (l' := [(c : Int)]) (k := 0)).symm
    · rw [if_neg (fun z => ek z.2), gd_l (by omega)]
      exact C.2.2 k (by omega)
theorem ten_dg {N i e : Nat} (he : e < 6) : dg B6 N i / 10 ^ e % 10 = N / 10 ^ (6 * i + e) % 10 := by
  have e1 : (10 : Nat) ^ (6 * i + e) = B6 ^ i * 10 ^ e := by
    rw [Nat.pow_add, Nat.pow_mul]
  rw [e1, ← Nat.div_div_eq_div_mul]
  unfold dg
  generalize N / B6 ^ i = M
  have h6 : e = 0 ∨ e = 1 ∨ e = 2 ∨ e = 3 ∨ e = 4 ∨ e = 5 := by omega
  have a1 : (10 : Nat) ^ 0 = 1 := rfl
  have a2 : (10 : Nat) ^ 1 = 10 := rfl
  have a3 : (10 : Nat) ^ 2 = 100 := rfl
  have a4 : (10 : Nat) ^ 3 = 1000 := rfl
  have a5 : (10 : Nat) ^ 4 = 10000 := rfl
  have a6 : (10 : Nat) ^ 5 = 100000 := rfl
  show M % 1000000 / 10 ^ e % 10 = _
  rcases h6 with z | z | z | z | z | z <;> subst z
  · rw [a1]
    omega
  · rw [a2]
    omega
  · rw [a3]
    omega
  · rw [a4]
    omega
  · rw [a5]
    omega
  · rw [a6]
    omega
theorem dT_len {N p : Nat} : (dT (N / 10 ^ p)).length ≤ sz 10 N := by
  unfold dT
  rw [tD_len]
  exact sz_mono (by decide) (Nat.div_le_self _ _)
/-- begun already, or not -/
def bgI (n : Nat) : Int := if n = 0 then 0 else 1
theorem bgI_r (n : Nat) : rI (bgI n) := by
  unfold bgI
  split <;> exact ⟨by omega, by omega⟩
theorem c_Olimb {N i : Nat} (O : OO o h) (C : CO o h (l ++ dT (N / 10 ^ (6 * i + 6)))) (hl : l.length + sz 10 N ≤ 512) : jRet 59 0 0 [.ref o, .int (iI (dg B6 N i : Int)), .int (iI (bgI (N / 10 ^ (6 * i + 6))))] h (fun q h' => q = some (.int (iI (bgI (N / 10 ^ (6 * i))))) ∧ fg (ouS o) h h' ∧ CO o h' (l ++ dT (N / 10 ^ (6 * i)))) := by
  have dl : dg B6 N i < 1000000 := dg_lt (by decide)
  have loop : ∀ (e : Nat) (g : jHp), e ≤ 6 → fg (ouS o) h g → CO o g (l ++ dT (N / 10 ^ (6 * i + e))) → J 59 6 0 0 [.ref o, .int (iI (dg B6 N i : Int)), uu, .int (iI (bgI (N / 10 ^ (6 * i + e)))), .int (iI ((10 ^ e / 10 : Nat) : Int)), uu] [] g (fun q h' => q = some (.int (iI (bgI (N / 10 ^ (6 * i))))) ∧ fg (ouS o) h h' ∧ CO o h' (l ++ dT (N / 10 ^ (6 * i)))) := by
    intro e
    induction e with
    | zero =>
      intro g _ f Cg
      refine j_Ou_writeLimb_6 ⟨fun _ => j_Ou_writeLimb_58 ⟨?_, rfl, f, Cg⟩, fun z => absurd (by decide) z⟩
      unfold bgI
      split
      · exact Or.inl rfl
      · exact Or.inr rfl
    | succ e ih =>
      intro g he f Cg
      have Og := oo_sk O f.1
      have hp : 0 < (10 : Nat) ^ e := Nat.pow_pos (by decide)
      have hp5 : (10 : Nat) ^ e ≤ 10 ^ 5 := Nat.pow_le_pow_right (by decide) (by omega)
      have hp5' : (10 : Nat) ^ e ≤ 100000 := hp5
      have e10 : (10 : Nat) ^ (e + 1) / 10 = 10 ^ e := by rw [Nat.pow_succ, Nat.mul_div_cancel _ (by decide)]
      rw [e10]
      have td := ten_dg (N := N) (i := i) (e := e) (by omega)
      obtain ⟨q, hq⟩ : ∃ q, q = N / 10 ^ (6 * i + (e + 1)) := ⟨_, rfl⟩
      obtain ⟨m, hm⟩ : ∃ m, m = N / 10 ^ (6 * i + e) := ⟨_, rfl⟩
      have hqm : q = m / 10 := by
        rw [hq, hm, Nat.div_div_eq_div_mul, ← Nat.pow_succ]
        rfl
      rw [← hm] at td
      have hlen : (dT m).length ≤ sz 10 N := by
        rw [hm]
        exact dT_len
      have hlen2 : (dT q).length ≤ sz 10 N := by
        rw [hq]
        exact dT_len
      rw [← hq] at Cg ⊢
      have e1 : iI (dg B6 N i : Int) / iI ((10 ^ e : Nat) : Int) = iI ((dg B6 N i / 10 ^ e : Nat) : Int) := by
        rw [iI_divn (by omega) (by omega) (by omega) (by omega), ← Int.natCast_ediv]
      have hdq : dg B6 N i / 10 ^ e ≤ dg B6 N i := Nat.div_le_self _ _
      have e2 : iI ((dg B6 N i / 10 ^ e : Nat) : Int) - iI ((dg B6 N i / 10 ^ e : Nat) : Int) / iI 10 * iI 10 = iI ((m % 10 : Nat) : Int) := by
        obtain ⟨z, hz⟩ : ∃ z, z = dg B6 N i / 10 ^ e := ⟨_, rfl⟩
        rw [← hz] at td hdq ⊢
        rw [iI_rem (by omega) (by omega) (by omega) (by omega)]
        congr 1
        omega
      have hm10 : m % 10 < 10 := Nat.mod_lt _ (by decide)
      have l48 : ∀ g2 : jHp, fg (ouS o) h g2 → CO o g2 (l ++ dT m) → J 59 48 0 0 [.ref o, .int (iI (dg B6 N i : Int)), uu, .int (iI (bgI m)), .int (iI ((10 ^ e : Nat) : Int)), uu] [] g2 (fun q h' => q = some (.int (iI (bgI (N / 10 ^ (6 * i))))) ∧ fg (ouS o) h h' ∧ CO o h' (l ++ dT (N / 10 ^ (6 * i)))) := by
        intro g2 f2 C2
        refine j_Ou_writeLimb_48 ⟨by decide, ?_⟩
        rw [iI_divn (b := 10) (by omega) (by omega) (by omega) (by omega)]
        have := ih g2 (by omega) f2 (by rw [← hm]; exact C2)
        rw [← hm] at this
        have ec : ((10 ^ e / 10 : Nat) : Int) = ((10 ^ e : Nat) : Int) / 10 := by
          rw [Int.natCast_ediv]
          rfl
        rw [ec] at this
        exact this
      have l34 : J 59 34 0 0 [.ref o, .int (iI (dg B6 N i : Int)), uu, uu, .int (iI ((10 ^ e : Nat) : Int)), .int (iI ((m % 10 : Nat) : Int))] [.int (iI (bgI m))] g (fun q h' => q = some (.int (iI (bgI (N / 10 ^ (6 * i))))) ∧ fg (ouS o) h h' ∧ CO o h' (l ++ dT (N / 10 ^ (6 * i)))) := by
        refine j_Ou_writeLimb_34 ?_
        by_cases m0 : m = 0
        · have eb : bgI m = 0 := if_pos m0
          rw [eb]
          refine ⟨fun _ => ?_, fun z => absurd rfl z⟩
          have := l48 g f (by
            have q0 : q = 0 := by omega
            rw [m0]
            rw [q0] at Cg
            exact Cg)
          rw [eb] at this
          exact this
        · have eb : bgI m = 1 := if_neg m0
          have ed : dT m = dT q ++ [48 + ((m % 10 : Nat) : Int)] := by
            have e3 : m = 10 * q + m % 10 := by omega
            conv => lhs; rw [e3]
            exact dT_ten hm10 (by omega)
          rw [eb]
          refine ⟨fun z => absurd z (by decide), fun _ => ⟨Og.1, ?_⟩⟩
          rw [iI_add, show (48 : Int) + ((m % 10 : Nat) : Int) = ((48 + m % 10 : Nat) : Int) by omega]
          have hlq : (l ++ dT q).length < 512 := by
            rw [ed, List.length_append] at hlen
            rw [List.length_append]
            have : ([48 + ((m % 10 : Nat) : Int)] : List Int).length = 1 := rfl
            omega
          refine jRet_mono (c_Oput Og Cg (by omega) hlq) ?_
          intro q3 h3 w3
          obtain ⟨w1, w2, w4⟩ := w3
          refine ⟨w1, ?_⟩
          have := l48 h3 (f.tr w2) (by
            rw [ed, ← List.append_assoc]
            rw [show ((48 + m % 10 : Nat) : Int) = 48 + ((m % 10 : Nat) : Int) by omega] at w4
            exact w4)
          rw [eb] at this
          exact this
      refine j_Ou_writeLimb_6 ?_
      rw [e1, e2, iI_0, iI_le ⟨by omega, by omega⟩ ⟨by omega, by omega⟩, iI_eq (a := ((10 ^ e : Nat) : Int)) ⟨by omega, by omega⟩ ⟨by omega, by omega⟩, iI_eq (a := bgI q) (bgI_r q) ⟨by omega, by omega⟩, iI_eq (a := ((m % 10 : Nat) : Int)) ⟨by omega, by omega⟩ ⟨by omega, by omega⟩]
      refine ⟨fun z => by omega, fun _ => ⟨(by omega), by decide, fun z => j_Ou_writeLimb_29 ?_, fun z => ⟨fun z2 => j_Ou_writeLimb_33 ?_, fun z2 => j_Ou_writeLimb_29 ?_⟩⟩⟩
      · have hq0 : q ≠ 0 := fun y => z (if_pos y)
        have eb : bgI m = 1 := if_neg (by omega)
        rw [eb] at l34
        exact l34
      · have hq0 : q = 0 := by
          unfold bgI at z
          split at z
          · assumption
          · omega
        have eb : bgI m = 0 := if_pos (by omega)
        rw [eb] at l34
        exact l34
      · have eb : bgI m = 1 := if_neg (by omega)
        rw [eb] at l34
        exact l34
  refine jRet_of (by decide) (by decide) (Nat.le_of_ble_eq_true rfl) (j_Ou_writeLimb_0 ?_)
  have := loop 6 h (Nat.le_refl 6) fg.rf C
  exact this
end OUT
