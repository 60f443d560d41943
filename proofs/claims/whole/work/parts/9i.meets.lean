/-! the model's meets: elimination with a choice of rows -/
def de3 (A : Nat → Nat → Int) (x y z : Nat) : Int := A 0 x * (A 1 y * A 2 z - A 2 y * A 1 z) - A 0 y * (A 1 x * A 2 z - A 2 x * A 1 z) + A 0 z * (A 1 x * A 2 y - A 2 x * A 1 y)
def dd (A : Nat → Nat → Int) (k : Nat) : Int := if k = 0 then 1 else if k = 1 then A 0 0 else if k = 2 then A 0 0 * A 1 1 - A 1 0 * A 0 1 else de3 A 0 1 2
def Gs (A : Nat → Nat → Int) (k i j : Nat) : Int := if k = 0 then A i j else if k = 1 then (if i = 0 then A 0 j else A 0 0 * A i j - A i 0 * A 0 j) else if k = 2 then (if i = 0 then A 1 1 * A 0 j - A 0 1 * A 1 j else if i = 1 then A 0 0 * A 1 j - A 1 0 * A 0 j else de3 A 0 1 j) else (if i = 0 then de3 A j 1 2 else if i = 1 then de3 A 0 j 2 else de3 A 0 1 j)
section GS
variable {A : Nat → Nat → Int}
theorem G_step {j : Nat} : ∀ k, k < 3 → ∀ i, i < 3 → i ≠ k → Gs A k k k * Gs A k i j - Gs A k i k * Gs A k k j = dd A k * Gs A (k + 1) i j := by
  apply lt3 <;> apply lt3 <;> intro hne <;> (first | exact absurd rfl hne | skip) <;> simp [Gs, dd, de3] <;> grind
theorem G_self {j : Nat} : ∀ k, k < 3 → Gs A (k + 1) k j = Gs A k k j := by
  apply lt3 <;> simp [Gs]
theorem d_s : ∀ k, k < 3 → dd A (k + 1) = Gs A k k k := by
  apply lt3 <;> simp [Gs, dd]
def sw (k p i : Nat) : Nat := if i = k then p else if i = p then k else i
def swp (A : Nat → Nat → Int) (k p : Nat) : Nat → Nat → Int := fun i => A (sw k p i)
theorem G_swap {j : Nat} : ∀ k, k < 3 → ∀ p, p < 3 → k ≤ p → ∀ i, i < 3 → Gs (swp A k p) k i j = Gs A k (sw k p i) j := by
  apply lt3 <;> apply lt3 <;> intro hkp <;> (first | omega | skip) <;> apply lt3 <;> simp [Gs, swp, sw, de3]
theorem d_swap : ∀ k, k < 3 → ∀ p, p < 3 → k ≤ p → dd (swp A k p) k = dd A k := by
  apply lt3 <;> apply lt3 <;> intro hkp <;> (first | omega | skip) <;> simp [dd, swp, sw]
theorem D_swap : ∀ L, L < 4 → ∀ k, k < 3 → ∀ p, p < 3 → k ≤ p → p < L → ∃ e : Int, (e = 1 ∨ e = -1) ∧ dd (swp A k p) L = e * dd A L ∧ ∀ i, i < L → Gs (swp A k p) L i 3 = e * Gs A L i 3 := by
  intro L hL k hk p hp hkp hpL
  refine ⟨if k = p then 1 else -1, by split <;> omega, ?_, ?_⟩
  · match L, k, p, hL, hk, hp, hkp, hpL with
    | 1, 0, 0, _, _, _, _, _ => simp [dd, swp, sw]
    | 2, 0, 0, _, _, _, _, _ => simp [dd, swp, sw]
    | 2, 0, 1, _, _, _, _, _ => simp [dd, swp, sw]; grind
    | 2, 1, 1, _, _, _, _, _ => simp [dd, swp, sw]
    | 3, 0, 0, _, _, _, _, _ => simp [dd, swp, sw, de3]
    | 3, 0, 1, _, _, _, _, _ => simp [dd, swp, sw, de3]; grind
    | 3, 0, 2, _, _, _, _, _ => simp [dd, swp, sw, de3]; grind
    | 3, 1, 1, _, _, _, _, _ => simp [dd, swp, sw, de3]
    | 3, 1, 2, _, _, _, _, _ => simp [dd, swp, sw, de3]; grind
    | 3, 2, 2, _, _, _, _, _ => simp [dd, swp, sw, de3]
    | 1, k + 1, p, _, _, _, hkp, hpL => omega
    | 2, k + 2, p, _, _, _, hkp, hpL => omega
  · intro i hi
    match L, k, p, i, hL, hk, hp, hkp, hpL, hi with
    | 1, 0, 0, 0, _, _, _, _, _, _ => simp [Gs, swp, sw]
    | 2, 0, 0, 0, _, _, _, _, _, _ => simp [Gs, swp, sw]
    | 2, 0, 0, 1, _, _, _, _, _, _ => simp [Gs, swp, sw]
    | 2, 0, 1, 0, _, _, _, _, _, _ => simp [Gs, swp, sw]; grind
    | 2, 0, 1, 1, _, _, _, _, _, _ => simp [Gs, swp, sw]; grind
    | 2, 1, 1, 0, _, _, _, _, _, _ => simp [Gs, swp, sw]
    | 2, 1, 1, 1, _, _, _, _, _, _ => simp [Gs, swp, sw]
    | 3, 0, 0, 0, _, _, _, _, _, _ => simp [Gs, swp, sw, de3]
    | 3, 0, 0, 1, _, _, _, _, _, _ => simp [Gs, swp, sw, de3]
    | 3, 0, 0, 2, _, _, _, _, _, _ => simp [Gs, swp, sw, de3]
    | 3, 0, 1, 0, _, _, _, _, _, _ => simp [Gs, swp, sw, de3]; grind
    | 3, 0, 1, 1, _, _, _, _, _, _ => simp [Gs, swp, sw, de3]; grind
    | 3, 0, 1, 2, _, _, _, _, _, _ => simp [Gs, swp, sw, de3]; grind
    | 3, 0, 2, 0, _, _, _, _, _, _ => simp [Gs, swp, sw, de3]; grind
    | 3, 0, 2, 1, _, _, _, _, _, _ => simp [Gs, swp, sw, de3]; grind
    | 3, 0, 2, 2, _, _, _, _, _, _ => simp [Gs, swp, sw, de3]; grind
    | 3, 1, 1, 0, _, _, _, _, _, _ => simp [Gs, swp, sw, de3]
    | 3, 1, 1, 1, _, _, _, _, _, _ => simp [Gs, swp, sw, de3]
    | 3, 1, 1, 2, _, _, _, _, _, _ => simp [Gs, swp, sw, de3]
    | 3, 1, 2, 0, _, _, _, _, _, _ => simp [Gs, swp, sw, de3]; grind
    | 3, 1, 2, 1, _, _, _, _, _, _ => simp [Gs, swp, sw, de3]; grind
    | 3, 1, 2, 2, _, _, _, _, _, _ => simp [Gs, swp, sw, de3]; grind
    | 3, 2, 2, 0, _, _, _, _, _, _ => simp [Gs, swp, sw, de3]
    | 3, 2, 2, 1, _, _, _, _, _, _ => simp [Gs, swp, sw, de3]
    | 3, 2, 2, 2, _, _, _, _, _, _ => simp [Gs, swp, sw, de3]
    | 1, k + 1, p, _, _, _, _, hkp, hpL, _ => omega
    | 2, k + 2, p, _, _, _, _, hkp, hpL, _ => omega
/-- no row has anything in the column: no solution -/
theorem sing {L k : Nat} (hL : L < 4) (hk : k < L) (hd : dd A k ≠ 0) (h0 : ∀ i, k ≤ i → i < L → Gs A k i k = 0) : dd A L = 0 := by
  match L, k, hL, hk, hd, h0 with
  | 1, 0, _, _, _, h0 =>
    have a := h0 0 (by decide) (by decide)
    simp [Gs] at a
    simp [dd, a]
  | 2, 0, _, _, _, h0 =>
    have a := h0 0 (by decide) (by decide)
    have b := h0 1 (by decide) (by decide)
    simp [Gs] at a b
    simp [dd, a, b]
  | 2, 1, _, _, _, h0 =>
    have a := h0 1 (by decide) (by decide)
    simp [Gs] at a
    simp [dd]
    grind
  | 3, 0, _, _, _, h0 =>
    have a := h0 0 (by decide) (by decide)
    have b := h0 1 (by decide) (by decide)
    have c := h0 2 (by decide) (by decide)
    simp [Gs] at a b c
    simp [dd, de3, a, b, c]
  | 3, 1, _, _, hd, h0 =>
    have a := h0 1 (by decide) (by decide)
    have b := h0 2 (by decide) (by decide)
    simp [Gs] at a b
    simp [dd] at hd
    have e : A 0 0 * dd A 3 = (A 0 0 * A 1 1 - A 1 0 * A 0 1) * (A 0 0 * A 2 2 - A 2 0 * A 0 2) - (A 0 0 * A 2 1 - A 2 0 * A 0 1) * (A 0 0 * A 1 2 - A 1 0 * A 0 2) := by
      simp [dd, de3]
      grind
    rw [a, b, Int.zero_mul, Int.zero_mul, Int.sub_zero] at e
    rcases Int.mul_eq_zero.mp e with z | z
    · exact absurd z hd
    · exact z
  | 3, 2, _, _, _, h0 =>
    have a := h0 2 (by decide) (by decide)
    simp [Gs] at a
    simp [dd, a]
theorem de_bd {B x y z : Nat} (h : ∀ i j, (A i j).natAbs ≤ B) : (de3 A x y z).natAbs ≤ 6 * (B * (B * B)) := by
  have p : ∀ a b c d : Nat, (A a b * A c d).natAbs ≤ B * B := fun a b c d => nA_mul (h a b) (h c d)
  have q : ∀ a b c d e f g' k : Nat, (A a b * (A c d * A e f - A g' k * A c f)).natAbs ≤ B * (2 * (B * B)) := fun a b c d e f g' k => nA_mul (h a b) (nA_sub (p c d e f) (p g' k c f))
  have t1 : (A 0 x * (A 1 y * A 2 z - A 2 y * A 1 z)).natAbs ≤ B * (2 * (B * B)) := nA_mul (h 0 x) (nA_sub (p 1 y 2 z) (p 2 y 1 z))
  have t2 : (A 0 y * (A 1 x * A 2 z - A 2 x * A 1 z)).natAbs ≤ B * (2 * (B * B)) := nA_mul (h 0 y) (nA_sub (p 1 x 2 z) (p 2 x 1 z))
  have t3 : (A 0 z * (A 1 x * A 2 y - A 2 x * A 1 y)).natAbs ≤ B * (2 * (B * B)) := nA_mul (h 0 z) (nA_sub (p 1 x 2 y) (p 2 x 1 y))
  have e : B * (2 * (B * B)) = 2 * (B * (B * B)) := by grind
  rw [e] at t1 t2 t3
  unfold de3
  generalize B * (B * B) = w at *
  omega
theorem G_bd {k i j : Nat} (h : ∀ i j, (A i j).natAbs ≤ 10 ^ 50) : (Gs A k i j).natAbs ≤ 10 ^ 151 := by
  have p : ∀ a b c d e f g' k : Nat, (A a b * A c d - A e f * A g' k).natAbs ≤ 2 * (10 ^ 50 * 10 ^ 50) := fun a b c d e f g' k => nA_sub (nA_mul (h a b) (h c d)) (nA_mul (h e f) (h g' k))
  have d : ∀ x y z, (de3 A x y z).natAbs ≤ 6 * (10 ^ 50 * (10 ^ 50 * 10 ^ 50)) := fun x y z => de_bd h
  unfold Gs
  split
  · exact Nat.le_trans (h i j) (by decide)
  · split
    · split
      · exact Nat.le_trans (h 0 j) (by decide)
      · exact Nat.le_trans (p _ _ _ _ _ _ _ _) (by decide)
    · split
      · split
        · exact Nat.le_trans (p _ _ _ _ _ _ _ _) (by decide)
        · split
          · exact Nat.le_trans (p _ _ _ _ _ _ _ _) (by decide)
          · exact Nat.le_trans (d _ _ _) (by decide)
      · split
        · exact Nat.le_trans (d _ _ _) (by decide)
        · split
          · exact Nat.le_trans (d _ _ _) (by decide)
          · exact Nat.le_trans (d _ _ _) (by decide)
theorem swp_bd {k p B : Nat} (h : ∀ i j, (A i j).natAbs ≤ B) : ∀ i j, (swp A k p i j).natAbs ≤ B := fun i j => h _ j
end GS
def mu (a i : Nat) : Nat := a * i
theorem mu_s (a i : Nat) : mu a (i + 1) = mu a i + a := by
  unfold mu
  rw [Nat.mul_add, Nat.mul_one]
theorem mu_0 (a : Nat) : mu a 0 = 0 := Nat.mul_zero a
section MEETS
variable {m n L K T0 : Nat} {h : jHp} {lv : Nat → Nat → Int}
/-- the matrix at hand -/
def SVp (m : Nat) (k : jHp) (T L : Nat) (M : Nat → Nat → Int) : Prop := ∀ i j, i < L → (j < L ∨ j = 3) → ∃ a : Nat, mI k (m + 27) (4 * i + j) = (a : Int) ∧ PW m k T a (M i j)
theorem sv_up {T T' : Nat} {g g' : jHp} {M : Nat → Nat → Int} (X : SVp m g T L M) (f : fg (wkS m T) g g') (ht : T ≤ T') : SVp m g' T' L M := fun i j hi hj => by
  obtain ⟨a, a1, a2⟩ := X i j hi hj
  exact ⟨a, by rw [f.eq (by unfold wkS; omega)]; exact a1, pw_up a2 f ht⟩
theorem sv_c {T : Nat} {g : jHp} {M M' : Nat → Nat → Int} (X : SVp m g T L M) (e : ∀ i j, i < L → (j < L ∨ j = 3) → M i j = M' i j) : SVp m g T L M' := fun i j hi hj => by
  rw [← e i j hi hj]
  exact X i j hi hj
def meS (m T0 p k : Nat) : Prop := (p = m + 1 ∧ T0 ≤ k) ∨ (p = m ∧ (k = 2 ∨ k = 6 ∨ k = 7)) ∨ p = m + 2 ∨ p = m + 3 ∨ p = m + 4 ∨ p = m + 26 ∨ p = m + 27
theorem wk_me {t p k : Nat} (ht : T0 ≤ t) (w : wkS m t p k) : meS m T0 p k := by
  unfold wkS at w
  unfold meS
  omega
def PL (m : Nat) (g : jHp) (T L : Nat) (o : Nat → Int) (w : Int) : Prop := (∀ l, l < L → ∃ a : Nat, mI g (m + 26) l = (a : Int) ∧ PW m g T a (o l)) ∧ ∃ a : Nat, mI g (m + 26) 3 = (a : Int) ∧ PW m g T a w
def sg1 (x : Int) : Int := if x < 0 then -1 else 1
def meQ (m L K T0 : Nat) (g : jHp) (lv : Nat → Nat → Int) (A : Nat → Nat → Int) : jQ := fun r g' => fg (meS m T0) g g' ∧ ∃ T' : Nat, mI g' m 2 = (T' : Int) ∧ T0 ≤ T' ∧ T' ≤ T0 + 40000 ∧ LM m g' T' K lv ∧ ((dd A L ≠ 0 ∧ r = some (.int (iI 1)) ∧ PL m g' T' L (fun l => sg1 (dd A L) * Gs A L l 3) (sg1 (dd A L) * dd A L)) ∨ (dd A L = 0 ∧ r = some (.int (iI 0))))
theorem c_meets {g : jHp} {c : Nat → Nat} {A : Nat → Nat → Int} (M : Mo m g) (ht : mI g m 2 = (T0 : Int)) (hT : T0 ≤ 300000) (hL : mI g m 37 = (L : Int)) (hL3 : L ≤ 3) (LMg : LM m g T0 K lv) (hK : K ≤ 14) (hc : ∀ i, i < L → mI g (m + 25) i = (c i : Int) ∧ c i < K) (hA : ∀ i j, i < L → (j < L ∨ j = 3) → A i j = lv (c i) j) (bA : ∀ i j, (A i j).natAbs ≤ 10 ^ 50) : jRet 195 0 0 [.ref m] g (meQ m L K T0 g lv A) := by
  have x4 : ∀ a b : Nat, iI 4 * iI (a : Int) + iI (b : Int) = iI ((4 * a + b : Nat) : Int) := fun a b => by
    rw [iI_mul, iI_add]
    congr 1
  have cl : ∀ x : Nat, x < 100 → (iI (x : Int)).toNatClampNeg = x := fun x hx => by rw [iI_cl (by omega) (by omega), Int.toNat_natCast]
  have k37 : ∀ {k : jHp}, fg (meS m T0) g k → gI k m 37 = iI (L : Int) := fun f => by rw [gI_mI, f.eq (by unfold meS; omega), hL]
  -- the answer
  have l367 : ∀ (A' : Nat → Nat → Int) (e : Int), (e = 1 ∨ e = -1) → dd A' L = e * dd A L → (∀ i, i < L → Gs A' L i 3 = e * Gs A L i 3) → dd A' L ≠ 0 → ∀ (d l la : Nat) (y : Int) (k : jHp) (T : Nat), l + d = L → (y = 0 ∨ y = 1) → (y = 1 ↔ dd A' L < 0) → fg (meS m T0) g k → mI k m 2 = (T : Int) → T0 ≤ T → T ≤ T0 + 32000 + mu 200 l → LM m k T K lv → SVp m k T L (Gs A' L) → PW m k T la (dd A' L) → (∀ l', l' < l → ∃ a : Nat, mI k (m + 26) l' = (a : Int) ∧ PW m k T a (sg1 (dd A L) * Gs A L l' 3)) → J 195 367 0 0 [.ref m, .int (iI la), .int (iI y), .int (iI l), uu, uu, uu, uu] [] k (meQ m L K T0 g lv A) := by
    intro A' e he hd hG hnz
    have sgn : ∀ y : Int, (y = 0 ∨ y = 1) → (y = 1 ↔ dd A' L < 0) → ∀ x x' : Int, x = e * x' → (if y = 0 then x else -x) = sg1 (dd A L) * x' := by
      intro y hy hyy x x' hx
      have nz : dd A L ≠ 0 := fun z => hnz (by rw [hd, z, Int.mul_zero])
      unfold sg1
      rcases he with rfl | rfl
      · rw [Int.one_mul] at hd hx
        by_cases c0 : dd A L < 0
        · rw [if_neg (by have := hyy.mpr (by omega); omega), if_pos c0, hx]
          omega
        · rw [if_pos (by rcases hy with z | z; exact z; exact absurd (hyy.mp z) (by omega)), if_neg c0, hx]
          omega
      · by_cases c0 : dd A L < 0
        · rw [if_pos (by rcases hy with z | z; exact z; exact absurd (hyy.mp z) (by omega)), if_pos c0, hx]
        · rw [if_neg (by have := hyy.mpr (by omega); omega), if_neg c0, hx]
          omega
    intro d
    induction d with
    | zero =>
      intro l la y k T hl hy hyy f t1 b1 b2 Lk Sk nl P
      obtain rfl : l = L := by omega
      have Mk := M.sk f.1
      have m3 : mu 200 l ≤ 600 := by
        unfold mu
        omega
      have fin : ∀ (k2 : jHp) (T2 a2 : Nat), fg (wkS m T) k k2 → mI k2 m 2 = (T2 : Int) → T ≤ T2 → T2 ≤ T + 200 → PW m k2 T2 a2 (if y = 0 then dd A' l else -dd A' l) → J 195 436 0 0 [uu, uu, uu, uu, uu, uu, uu, uu] [.int (iI a2), .int (iI 3), .ref (m + 26)] k2 (meQ m l K T0 g lv A) := by
        intro k2 T2 a2 f2 t2 c1 c2 n2
        have M2 := Mk.sk f2.1
        have a24 : a2 < 400000 := by have := n2.1.1; omega
        have c3 : (iI 3).toNatClampNeg = 3 := by decide
        have f3 : fg (fun p q => p = m + 26 ∧ q = 3) k2 (sI k2 (m + 26) 3 (iI (a2 : Int))) := fg.rf.wr ⟨rfl, rfl⟩
        refine j_M_meets_436 ⟨ix_of (a := ((3 : Nat) : Int)) M2.a35.2 (by omega) (by omega) (by decide), Or.inr rfl, ?_⟩
        rw [c3]
        refine ⟨(f.tr (f2.mo (fun _ _ z => wk_me (by omega) z))).tr (f3.mo (fun p q z => by unfold meS; omega)), T2, by rw [f3.eq (by omega)]; exact t2, (by omega), (by omega), lm_fg (lm_up Lk f2 c1) f3 (fun q => by omega) (fun q _ => by omega), Or.inl ⟨fun z => hnz (by rw [hd, z, Int.mul_zero]), rfl, fun l' hl' => ?_, a2, by rw [mI_sI ⟨by omega, by omega⟩, if_pos ⟨rfl, rfl⟩], ?_⟩⟩
        · obtain ⟨a, a1, a3⟩ := P l' hl'
          exact ⟨a, by rw [f3.eq (by omega), f2.eq (by unfold wkS; omega)]; exact a1, pw_fg (pw_up a3 f2 c1) f3 (fun q => by omega)⟩
        · rw [sgn y hy hyy _ _ hd] at n2
          exact pw_fg n2 f3 (fun q => by omega)
      refine j_M_meets_367 ?_
      rw [k37 f, iI_le ⟨by omega, by omega⟩ ⟨by omega, by omega⟩]
      refine ⟨Mk.1, fun _ => j_M_meets_418 ?_, fun z => absurd (Int.le_refl _) z⟩
      rw [Mk.a35.1, iI_0, iI_eq ⟨by omega, by omega⟩ ⟨by omega, by omega⟩]
      refine ⟨Mk.1, fun z => j_M_meets_435 (fin k T la fg.rf t1 (Nat.le_refl _) (by omega) (by rw [if_pos z]; exact nl)), fun z => ⟨Mk.1, jRet_mono (w_turned Mk t1 (by omega) nl) ?_⟩⟩
      intro r2 k2 w2
      obtain ⟨a2, T2, x2, f2, t2, c1, c2, n2⟩ := w2
      exact ⟨_, x2, fin k2 T2 a2 f2 t2 c1 c2 (by rw [if_neg z]; exact n2)⟩
    | succ d ih =>
      intro l la y k T hl hy hyy f t1 b1 b2 Lk Sk nl P
      have hlL : l < L := by omega
      have Mk := M.sk f.1
      have m3 : mu 200 l ≤ 600 := by
        unfold mu
        omega
      have ms := mu_s 200 l
      obtain ⟨sa, sa1, sa2⟩ := Sk l 3 hlL (Or.inr rfl)
      have x43 : iI 4 * iI (l : Int) + iI 3 = iI ((4 * l + 3 : Nat) : Int) := x4 l 3
      have fin : ∀ (k2 : jHp) (T2 a2 : Nat), fg (wkS m T) k k2 → mI k2 m 2 = (T2 : Int) → T ≤ T2 → T2 ≤ T + 200 → PW m k2 T2 a2 (if y = 0 then Gs A' L l 3 else -Gs A' L l 3) → J 195 411 0 0 [.ref m, .int (iI la), .int (iI y), .int (iI l), uu, uu, uu, uu] [.int (iI a2), .int (iI l), .ref (m + 26)] k2 (meQ m L K T0 g lv A) := by
        intro k2 T2 a2 f2 t2 c1 c2 n2
        have M2 := Mk.sk f2.1
        have a24 : a2 < 400000 := by have := n2.1.1; omega
        have f3 : fg (fun p q => p = m + 26 ∧ q = l) k2 (sI k2 (m + 26) l (iI (a2 : Int))) := fg.rf.wr ⟨rfl, rfl⟩
        refine j_M_meets_411 ⟨ix_of M2.a35.2 (by omega) (by omega) (by decide), ?_⟩
        rw [cl l (by omega), iI_add]
        refine ih (l + 1) la y _ T2 (by omega) hy hyy ((f.tr (f2.mo (fun _ _ z => wk_me (by omega) z))).tr (f3.mo (fun p q z => by unfold meS; omega))) (by rw [f3.eq (by omega)]; exact t2) (by omega) (by omega) (lm_fg (lm_up Lk f2 c1) f3 (fun q => by omega) (fun q _ => by omega)) (fun i j hi hj => ?_) (pw_fg (pw_up nl f2 c1) f3 (fun q => by omega)) (fun l' hl' => ?_)
        · obtain ⟨a, a1, a3⟩ := Sk i j hi hj
          exact ⟨a, by rw [f3.eq (by omega), f2.eq (by unfold wkS; omega)]; exact a1, pw_fg (pw_up a3 f2 c1) f3 (fun q => by omega)⟩
        · by_cases ce : l' = l
          · rw [ce]
            rw [sgn y hy hyy _ _ (hG l hlL)] at n2
            exact ⟨a2, by rw [mI_sI ⟨by omega, by omega⟩, if_pos ⟨rfl, rfl⟩], pw_fg n2 f3 (fun q => by omega)⟩
          · obtain ⟨a, a1, a3⟩ := P l' (by omega)
            exact ⟨a, by rw [f3.eq (by omega), f2.eq (by unfold wkS; omega)]; exact a1, pw_fg (pw_up a3 f2 c1) f3 (fun q => by omega)⟩
      refine j_M_meets_367 ?_
      rw [k37 f, iI_le ⟨by omega, by omega⟩ ⟨by omega, by omega⟩, Mk.a35.1, Mk.a36.1, x43, cl (4 * l + 3) (by omega), gI_mI k (m + 27) (4 * l + 3), sa1, iI_0, iI_eq ⟨by omega, by omega⟩ ⟨by omega, by omega⟩]
      refine ⟨Mk.1, fun z => by omega, fun _ => ⟨Mk.1, fun z => j_M_meets_401 ?_, fun z => ⟨Mk.1, ixL_of Mk.a36.2 (by omega) (by omega) (by decide), Mk.1, jRet_mono (w_turned Mk t1 (by omega) sa2) ?_⟩⟩⟩
      · rw [Mk.a36.1, x43, cl (4 * l + 3) (by omega), gI_mI k (m + 27) (4 * l + 3), sa1]
        exact ⟨Mk.1, ixL_of Mk.a36.2 (by omega) (by omega) (by decide), fin k T sa fg.rf t1 (Nat.le_refl _) (by omega) (by rw [if_pos z]; exact sa2)⟩
      · intro r2 k2 w2
        obtain ⟨a2, T2, x2, f2, t2, c1, c2, n2⟩ := w2
        exact ⟨_, x2, fin k2 T2 a2 f2 t2 c1 c2 (by rw [if_neg z]; exact n2)⟩
  -- the steps
  have l90 : ∀ (d k' la : Nat) (k : jHp) (T : Nat) (A' : Nat → Nat → Int) (e : Int), k' + d = L → (e = 1 ∨ e = -1) → dd A' L = e * dd A L → (∀ i, i < L → Gs A' L i 3 = e * Gs A L i 3) → (∀ i j, (A' i j).natAbs ≤ 10 ^ 50) → dd A' k' ≠ 0 → fg (meS m T0) g k → mI k m 2 = (T : Int) → T0 ≤ T → T ≤ T0 + 200 + mu 9600 k' → LM m k T K lv → SVp m k T L (Gs A' k') → PW m k T la (dd A' k') → J 195 90 0 0 [.ref m, .int (iI la), .int (iI k'), uu, uu, uu, uu, uu] [] k (meQ m L K T0 g lv A) := by
    intro d
    induction d with
    | zero =>
      intro k' la k T A' e hd he hD hG bA' hnz f t1 b1 b2 Lk Sk nl
      obtain rfl : k' = L := by omega
      have Mk := M.sk f.1
      have m3 : mu 9600 k' ≤ 28800 := by
        unfold mu
        omega
      have m0 := mu_0 200
      refine j_M_meets_90 ?_
      rw [k37 f, iI_le ⟨by omega, by omega⟩ ⟨by omega, by omega⟩]
      refine ⟨Mk.1, fun _ => j_M_meets_351 ⟨Mk.1, jRet_mono (c_sign Mk nl.1) ?_⟩, fun z => absurd (Int.le_refl _) z⟩
      intro r2 k2 w2
      obtain ⟨x2, x3⟩ := w2
      rw [x3]
      refine ⟨_, x2, ?_⟩
      have sb := sg_bd (dd A' k')
      have sl := sg_lt (x := dd A' k')
      rw [iI_0, iI_le ⟨by omega, by omega⟩ ⟨by omega, by omega⟩]
      refine ⟨fun z => j_M_meets_363 (j_M_meets_364 ?_), fun z => j_M_meets_364 ?_⟩
      · exact l367 A' e he hD hG hnz k' 0 la 0 k T (by omega) (Or.inl rfl) ⟨fun z => absurd z (by decide), fun z => by have := sl.mpr z; omega⟩ f t1 b1 (by omega) Lk Sk nl (fun l' hl' => by omega)
      · exact l367 A' e he hD hG hnz k' 0 la 1 k T (by omega) (Or.inr rfl) ⟨fun _ => sl.mp (by omega), fun _ => rfl⟩ f t1 b1 (by omega) Lk Sk nl (fun l' hl' => by omega)
    | succ d ih =>
      intro k' la k T A' e hd he hD hG bA' hnz f t1 b1 b2 Lk Sk nl
      have hkL : k' < L := by omega
      have m3 : mu 9600 k' ≤ 19200 := by
        unfold mu
        omega
      have ms := mu_s 9600 k'
      -- with the rows exchanged: the elimination
      have l204 : ∀ (k1 : jHp) (B : Nat → Nat → Int) (e' : Int), (e' = 1 ∨ e' = -1) → dd B L = e' * dd A L → (∀ i, i < L → Gs B L i 3 = e' * Gs A L i 3) → (∀ i j, (B i j).natAbs ≤ 10 ^ 50) → dd B k' = dd A' k' → Gs B k' k' k' ≠ 0 → fg (meS m T0) g k1 → mI k1 m 2 = (T : Int) → LM m k1 T K lv → SVp m k1 T L (Gs B k') → PW m k1 T la (dd A' k') → J 195 204 0 0 [.ref m, .int (iI la), .int (iI k'), uu, uu, uu, uu, uu] [] k1 (meQ m L K T0 g lv A) := by
        intro k1 B e' he' hDB hGB bB hdk hpv f1 t1' L1 S1 nl1
        have M1 := M.sk f1.1
        obtain ⟨ha, ha1, ha2⟩ := S1 k' k' hkL (Or.inl hkL)
        -- new values
        have nv : ∀ i j, i < L → i ≠ k' → (Gs B k' k' k' * Gs B k' i j - Gs B k' i k' * Gs B k' k' j).tdiv (dd A' k') = Gs B (k' + 1) i j := by
          intro i j hi hne
          rw [G_step k' (by omega) i (by omega) hne, hdk, Int.mul_tdiv_cancel_left _ hnz]
        have l219 : ∀ (u i : Nat) (k2 : jHp) (T2 : Nat), i + u = L → fg (meS m T0) g k2 → mI k2 m 2 = (T2 : Int) → T ≤ T2 → T2 ≤ T + mu 3200 i → LM m k2 T2 K lv → SVp m k2 T2 L (fun i' j' => if i' ≠ k' ∧ i' < i then Gs B (k' + 1) i' j' else Gs B k' i' j') → PW m k2 T2 la (dd A' k') → PW m k2 T2 ha (Gs B k' k' k') → J 195 219 0 0 [.ref m, .int (iI la), .int (iI k'), uu, .int (iI ha), .int (iI i), uu, uu] [] k2 (meQ m L K T0 g lv A) := by
          intro u
          induction u with
          | zero =>
            intro i k2 T2 hi f2 t2 c1 c2 L2 S2 nl2 nh2
            obtain rfl : i = L := by omega
            have M2 := M.sk f2.1
            have m4 : mu 3200 i ≤ 9600 := by
              unfold mu
              omega
            refine j_M_meets_219 ?_
            rw [k37 f2, iI_le ⟨by omega, by omega⟩ ⟨by omega, by omega⟩]
            refine ⟨M2.1, fun _ => j_M_meets_342 ?_, fun z => absurd (Int.le_refl _) z⟩
            rw [iI_add]
            refine ih (k' + 1) ha k2 T2 B e' (by omega) he' hDB hGB bB (by rw [d_s k' (by omega)]; exact hpv) f2 t2 (by omega) (by omega) L2 (sv_c S2 (fun i' j' h1 h2 => ?_)) (by rw [d_s k' (by omega)]; exact nh2)
            by_cases ce : i' = k'
            · rw [if_neg (fun z => z.1 ce), ce, G_self k' (by omega)]
            · rw [if_pos ⟨ce, h1⟩]
          | succ u ih2 =>
            intro i k2 T2 hi f2 t2 c1 c2 L2 S2 nl2 nh2
            have hiL : i < L := by omega
            have M2 := M.sk f2.1
            have m4 : mu 3200 i ≤ 6400 := by
              unfold mu
              omega
            have ms4 := mu_s 3200 i
            have l336 : ∀ (k3 : jHp) (T3 : Nat), fg (meS m T0) g k3 → mI k3 m 2 = (T3 : Int) → T ≤ T3 → T3 ≤ T + mu 3200 (i + 1) → LM m k3 T3 K lv → SVp m k3 T3 L (fun i' j' => if i' ≠ k' ∧ i' < i + 1 then Gs B (k' + 1) i' j' else Gs B k' i' j') → PW m k3 T3 la (dd A' k') → PW m k3 T3 ha (Gs B k' k' k') → J 195 336 0 0 [.ref m, .int (iI la), .int (iI k'), uu, .int (iI ha), .int (iI i), uu, uu] [] k3 (meQ m L K T0 g lv A) := by
              intro k3 T3 f3 t3 d1 d2 L3 S3 nl3 nh3
              refine j_M_meets_336 ?_
              rw [iI_add]
              exact ih2 (i + 1) k3 T3 (by omega) f3 t3 d1 d2 L3 S3 nl3 nh3
            refine j_M_meets_219 ?_
            rw [k37 f2, iI_le ⟨by omega, by omega⟩ ⟨by omega, by omega⟩, iI_eq ⟨by omega, by omega⟩ ⟨by omega, by omega⟩]
            refine ⟨M2.1, fun z => by omega, fun _ => ⟨fun z => j_M_meets_237 ?_, fun z => l336 k2 T2 f2 t2 c1 (by omega) L2 (sv_c S2 (fun i' j' h1 h2 => ?_)) nl2 nh2⟩⟩
            rotate_left
            · try dsimp only
              by_cases ce : i' ≠ k' ∧ i' < i
              · rw [if_pos ce, if_pos ⟨ce.1, by omega⟩]
              · rw [if_neg ce, if_neg (fun y => by omega)]
            have hik : i ≠ k' := by omega
            obtain ⟨ia, ia1, ia2⟩ := S2 i k' hiL (Or.inl hkL)
            try dsimp only at ia2
            rw [if_neg (fun y => by omega)] at ia2
            rw [M2.a36.1, x4, cl (4 * i + k') (by omega), gI_mI k2 (m + 27) (4 * i + k'), ia1]
            refine ⟨M2.1, ixL_of M2.a36.2 (by omega) (by omega) (by decide), ?_⟩
            have l253 : ∀ (v j : Nat) (k3 : jHp) (T3 : Nat), j + v = 4 → fg (meS m T0) g k3 → mI k3 m 2 = (T3 : Int) → T ≤ T3 → T3 ≤ T + mu 3200 i + mu 800 j → LM m k3 T3 K lv → SVp m k3 T3 L (fun i' j' => if i' ≠ k' ∧ (i' < i ∨ i' = i ∧ j' < j) then Gs B (k' + 1) i' j' else Gs B k' i' j') → PW m k3 T3 la (dd A' k') → PW m k3 T3 ha (Gs B k' k' k') → PW m k3 T3 ia (Gs B k' i k') → J 195 253 0 0 [.ref m, .int (iI la), .int (iI k'), uu, .int (iI ha), .int (iI i), .int (iI ia), .int (iI j)] [] k3 (meQ m L K T0 g lv A) := by
              intro v
              induction v with
              | zero =>
                intro j k3 T3 hj f3 t3 d1 d2 L3 S3 nl3 nh3 ni3
                obtain rfl : j = 4 := by omega
                have m8 : mu 800 4 = 3200 := rfl
                refine j_M_meets_253 ⟨fun _ => l336 k3 T3 f3 t3 d1 (by omega) L3 (sv_c S3 (fun i' j' h1 h2 => ?_)) nl3 nh3, fun z => absurd (by decide) z⟩
                try dsimp only
                by_cases ce : i' ≠ k' ∧ i' < i + 1
                · rw [if_pos ce, if_pos ⟨ce.1, by omega⟩]
                · rw [if_neg ce, if_neg (fun y => by omega)]
              | succ v ih3 =>
                intro j k3 T3 hj f3 t3 d1 d2 L3 S3 nl3 nh3 ni3
                have M3 := M.sk f3.1
                have ms8 := mu_s 800 j
                have m8 : mu 800 j ≤ 2400 := by
                  unfold mu
                  omega
                have skip : ¬ (j < L ∨ j = 3) → J 195 330 0 0 [.ref m, .int (iI la), .int (iI k'), uu, .int (iI ha), .int (iI i), .int (iI ia), .int (iI j)] [] k3 (meQ m L K T0 g lv A) := by
                  intro hno
                  refine j_M_meets_330 ?_
                  rw [iI_add]
                  refine ih3 (j + 1) k3 T3 (by omega) f3 t3 d1 (by omega) L3 (sv_c S3 (fun i' j' h1 h2 => ?_)) nl3 nh3 ni3
                  try dsimp only
                  by_cases ce : i' ≠ k' ∧ (i' < i ∨ i' = i ∧ j' < j)
                  · rw [if_pos ce, if_pos ⟨ce.1, by omega⟩]
                  · rw [if_neg ce, if_neg (fun y => by omega)]
                have go : (j < L ∨ j = 3) → J 195 274 0 0 [.ref m, .int (iI la), .int (iI k'), uu, .int (iI ha), .int (iI i), .int (iI ia), .int (iI j)] [] k3 (meQ m L K T0 g lv A) := by
                  intro hjj
                  obtain ⟨sa, sa1, sa2⟩ := S3 i j hiL hjj
                  try dsimp only at sa2
                  rw [if_neg (fun y => by omega)] at sa2
                  have gb : ∀ x y z, (Gs B x y z).natAbs ≤ 10 ^ 151 := fun x y z => G_bd bB
                  have pb : ∀ x y z x' y' z', (Gs B x y z * Gs B x' y' z').natAbs ≤ 10 ^ 302 := fun x y z x' y' z' => Nat.le_trans (nA_mul (gb x y z) (gb x' y' z')) (by decide +kernel)
                  refine j_M_meets_274 ?_
                  rw [M3.a36.1, x4, cl (4 * i + j) (by omega), gI_mI k3 (m + 27) (4 * i + j), sa1]
                  refine ⟨M3.1, M3.1, ixL_of M3.a36.2 (by omega) (by omega) (by decide), M3.1, jRet_mono (w_times M3 t3 (by omega) nh3 sa2 (Nat.le_trans (pb _ _ _ _ _ _) (by decide +kernel))) ?_⟩
                  intro r4 k4 w4
                  obtain ⟨a4, T4, y4, f4', t4, u1, u2, n4⟩ := w4
                  have M4 := M3.sk f4'.1
                  obtain ⟨ka, ka1, ka2⟩ := sv_up S3 f4' u1 k' j hkL hjj
                  try dsimp only at ka2
                  rw [if_neg (fun y => y.1 rfl)] at ka2
                  rw [M4.a36.1, x4, cl (4 * k' + j) (by omega), gI_mI k4 (m + 27) (4 * k' + j), ka1]
                  refine ⟨_, y4, M4.1, ixL_of M4.a36.2 (by omega) (by omega) (by decide), M4.1, jRet_mono (w_times M4 t4 (by omega) (pw_up ni3 f4' u1) ka2 (Nat.le_trans (pb _ _ _ _ _ _) (by decide +kernel))) ?_⟩
                  intro r5 k5 w5
                  obtain ⟨a5, T5, y5, f5, t5, u3, u4, n5⟩ := w5
                  have M5 := M4.sk f5.1
                  have sb : (Gs B k' k' k' * Gs B k' i j - Gs B k' i k' * Gs B k' k' j).natAbs ≤ 2 * 10 ^ 302 := nA_sub (pb _ _ _ _ _ _) (pb _ _ _ _ _ _)
                  refine ⟨_, y5, M5.1, jRet_mono (w_less M5 t5 (by omega) (pw_up n4 f5 u3) n5 (Nat.le_trans sb (by decide +kernel))) ?_⟩
                  intro r6 k6 w6
                  obtain ⟨a6, T6, y6, f6, t6, u5, u6, n6⟩ := w6
                  have M6 := M5.sk f6.1
                  refine ⟨_, y6, M6.1, jRet_mono (w_divided M6 t6 (by omega) n6 (pw_up (pw_up (pw_up nl3 f4' u1) f5 u3) f6 u5) hnz) ?_⟩
                  intro r7 k7 w7
                  obtain ⟨a7, T7, y7, f7, t7, u7, u8, n7⟩ := w7
                  have M7 := M6.sk f7.1
                  rw [nv i j hiL hik] at n7
                  have a74 : a7 < 400000 := by have := n7.1.1; omega
                  have f8 : fg (fun p q => p = m + 27 ∧ q = 4 * i + j) k7 (sI k7 (m + 27) (4 * i + j) (iI (a7 : Int))) := fg.rf.wr ⟨rfl, rfl⟩
                  refine ⟨_, y7, ix_of M7.a36.2 (by omega) (by omega) (by decide), j_M_meets_330 ?_⟩
                  rw [iI_add]
                  have up : ∀ {a : Nat} {x : Int}, PW m k3 T3 a x → PW m (sI k7 (m + 27) (4 * i + j) (iI (a7 : Int))) T7 a x := fun z => pw_fg (pw_up (pw_up (pw_up (pw_up z f4' u1) f5 u3) f6 u5) f7 u7) f8 (fun q => by omega)
                  refine ih3 (j + 1) _ T7 (by omega) (((((f3.tr (f4'.mo (fun _ _ z => wk_me (by omega) z))).tr (f5.mo (fun _ _ z => wk_me (by omega) z))).tr (f6.mo (fun _ _ z => wk_me (by omega) z))).tr (f7.mo (fun _ _ z => wk_me (by omega) z))).tr (f8.mo (fun p q z => by unfold meS; omega))) (by rw [f8.eq (by omega)]; exact t7) (by omega) (by omega) (lm_fg (lm_up (lm_up (lm_up (lm_up L3 f4' u1) f5 u3) f6 u5) f7 u7) f8 (fun q => by omega) (fun q _ => by omega)) (fun i' j' h1 h2 => ?_) (up nl3) (up nh3) (up ni3)
                  try dsimp only
                  by_cases ce : i' = i ∧ j' = j
                  · rw [if_pos ⟨by omega, by omega⟩, ce.1, ce.2]
                    exact ⟨a7, by rw [mI_sI ⟨by omega, by omega⟩, if_pos ⟨rfl, rfl⟩], pw_fg n7 f8 (fun q => by omega)⟩
                  · obtain ⟨a, a1, a2⟩ := S3 i' j' h1 h2
                    refine ⟨a, ?_, ?_⟩
                    · rw [f8.eq (by omega), f7.eq (by unfold wkS; omega), f6.eq (by unfold wkS; omega), f5.eq (by unfold wkS; omega), f4'.eq (by unfold wkS; omega)]
                      exact a1
                    · have a2' := up a2
                      try dsimp only at a2'
                      by_cases c8 : i' ≠ k' ∧ (i' < i ∨ i' = i ∧ j' < j)
                      · rw [if_pos c8] at a2'
                        rw [if_pos ⟨c8.1, by omega⟩]
                        exact a2'
                      · rw [if_neg c8] at a2'
                        rw [if_neg (fun y => by omega)]
                        exact a2'
                refine j_M_meets_253 ?_
                rw [iI_le ⟨by omega, by omega⟩ ⟨by omega, by omega⟩, k37 f3, iI_lt ⟨by omega, by omega⟩ ⟨by omega, by omega⟩, iI_eq ⟨by omega, by omega⟩ ⟨by omega, by omega⟩]
                exact ⟨fun z => by omega, fun _ => ⟨M3.1, fun z => go (Or.inl (by omega)), fun z => ⟨fun z2 => skip (by omega), fun z2 => go (Or.inr (by omega))⟩⟩⟩
            have m80 := mu_0 800
            exact l253 4 0 k2 T2 (by omega) f2 t2 c1 (by omega) L2 (sv_c S2 (fun i' j' h1 h2 => by
              try dsimp only
              by_cases ce : i' ≠ k' ∧ i' < i
              · rw [if_pos ce, if_pos ⟨ce.1, by omega⟩]
              · rw [if_neg ce, if_neg (fun y => by omega)])) nl2 nh2 ia2
        have m0 := mu_0 3200
        refine j_M_meets_204 ?_
        rw [M1.a36.1, x4, cl (4 * k' + k') (by omega), gI_mI k1 (m + 27) (4 * k' + k'), ha1]
        exact ⟨M1.1, ixL_of M1.a36.2 (by omega) (by omega) (by decide), l219 L 0 k1 T (by omega) f1 t1' (Nat.le_refl _) (by omega) L1 (sv_c S1 (fun i' j' h1 h2 => by rw [if_neg (fun y => by omega)])) nl1 ha2⟩
      -- the rows are exchanged
      have l144 : ∀ p, k' ≤ p → p < L → Gs A' k' p k' ≠ 0 → ∀ (u j : Nat) (k1 : jHp), j + u = 4 → fg (fun q _ => q = m + 27) k k1 → (∀ i' j', i' < 3 → j' < 4 → mI k1 (m + 27) (4 * i' + j') = mI k (m + 27) (4 * (if j' < j then sw k' p i' else i') + j')) → J 195 144 0 0 [.ref m, .int (iI la), .int (iI k'), .int (iI p), .int (iI j), uu, uu, uu] [] k1 (meQ m L K T0 g lv A) := by
        intro p hkp hpL hpv u
        induction u with
        | zero =>
          intro j k1 hj f1 E1
          obtain rfl : j = 4 := by omega
          obtain ⟨e2, he2, hd2, hg2⟩ := D_swap (A := A') L (by omega) k' (by omega) p (by omega) hkp hpL
          have swl : ∀ i', i' < L → sw k' p i' < L := fun i' hi' => by
            unfold sw
            split
            · exact hpL
            · split <;> omega
          refine j_M_meets_144 ⟨fun _ => l204 k1 (swp A' k' p) (e2 * e) ?_ ?_ ?_ (swp_bd bA') (d_swap k' (by omega) p (by omega) hkp) ?_ (f.tr (f1.mo (fun p q z => by unfold meS; omega))) (by rw [f1.eq (by omega)]; exact t1) (lm_fg Lk f1 (fun q => by omega) (fun q _ => by omega)) (fun i' j' h1 h2 => ?_) (pw_fg nl f1 (fun q => by omega)), fun z => absurd (by decide) z⟩
          · rcases he2 with rfl | rfl <;> rcases he with rfl | rfl <;> decide
          · rw [hd2, hD, Int.mul_assoc]
          · intro i' hi'
            rw [hg2 i' hi', hG i' hi', Int.mul_assoc]
          · rw [G_swap k' (by omega) p (by omega) hkp k' (by omega)]
            unfold sw
            rw [if_pos rfl]
            exact hpv
          · rw [G_swap k' (by omega) p (by omega) hkp i' (by omega)]
            obtain ⟨a, a1, a2⟩ := Sk (sw k' p i') j' (swl i' h1) h2
            refine ⟨a, ?_, pw_fg a2 f1 (fun q => by omega)⟩
            rw [E1 i' j' (by omega) (by omega), if_pos (by omega)]
            exact a1
        | succ u ih2 =>
          intro j k1 hj f1 E1
          have M1 := (M.sk f.1).sk f1.1
          have F2 : ∀ v, fg (fun q _ => q = m + 27) k (sI k1 (m + 27) (4 * k' + j) v) := fun v => f1.wr rfl
          have M2 : ∀ v, Mo m (sI k1 (m + 27) (4 * k' + j) v) := fun v => M1.sI
          refine j_M_meets_144 ?_
          rw [iI_le ⟨by omega, by omega⟩ ⟨by omega, by omega⟩, M1.a36.1, x4, x4, cl (4 * k' + j) (by omega), cl (4 * p + j) (by omega), (M2 _).a36.1]
          refine ⟨fun z => by omega, fun _ => ⟨M1.1, ixL_of M1.a36.2 (by omega) (by omega) (by decide), M1.1, M1.1, ixL_of M1.a36.2 (by omega) (by omega) (by decide), ix_of M1.a36.2 (by omega) (by omega) (by decide), (M2 _).1, ix_of (M2 _).a36.2 (by omega) (by omega) (by decide), j_M_meets_198 ?_⟩⟩
          rw [iI_add, gI_mI k1 (m + 27) (4 * p + j), gI_mI k1 (m + 27) (4 * k' + j)]
          refine ih2 (j + 1) _ (by omega) ((f1.wr rfl).wr rfl) (fun i' j' h1 h2 => ?_)
          rw [mI_sI (rI_mI _ _ _), mI_sI (rI_mI _ _ _)]
          by_cases cj : j' = j
          · subst cj
            rw [if_pos (show j' < j' + 1 by omega)]
            unfold sw
            by_cases ck : i' = k'
            · rw [if_pos ck]
              by_cases cp : i' = p
              · rw [if_pos ⟨rfl, by omega⟩, E1 k' j' (by omega) (by omega), if_neg (by omega)]
                congr 2
                omega
              · rw [if_neg (fun y => by omega), if_pos ⟨rfl, by omega⟩, E1 p j' (by omega) (by omega), if_neg (by omega)]
            · rw [if_neg ck]
              by_cases cp : i' = p
              · rw [if_pos cp, if_pos ⟨rfl, by omega⟩, E1 k' j' (by omega) (by omega), if_neg (by omega)]
              · rw [if_neg cp, if_neg (fun y => by omega), if_neg (fun y => by omega), E1 i' j' h1 h2, if_neg (by omega)]
          · rw [if_neg (fun y => by omega), if_neg (fun y => by omega), E1 i' j' h1 h2]
            by_cases cl' : j' < j
            · rw [if_pos cl', if_pos (by omega)]
            · rw [if_neg cl', if_neg (by omega)]
      have l100 : ∀ (u p : Nat), p + u = L → k' ≤ p → (∀ i, k' ≤ i → i < p → Gs A' k' i k' = 0) → J 195 100 0 0 [.ref m, .int (iI la), .int (iI k'), .int (iI p), uu, uu, uu, uu] [] k (meQ m L K T0 g lv A) := by
        intro u
        induction u with
        | zero =>
          intro p hp hkp hz
          obtain rfl : p = L := by omega
          have Mk := M.sk f.1
          have d0 := sing (A := A') (L := p) (by omega) hkL hnz hz
          have d0' : dd A p = 0 := by
            rw [hD] at d0
            rcases he with rfl | rfl <;> omega
          refine j_M_meets_100 ?_
          rw [k37 f, iI_le ⟨by omega, by omega⟩ ⟨by omega, by omega⟩]
          refine ⟨Mk.1, fun _ => j_M_meets_131 ?_, fun z => absurd (Int.le_refl _) z⟩
          rw [k37 f]
          exact ⟨Mk.1, fun z => absurd rfl z, fun _ => ⟨Or.inl rfl, f, T, t1, b1, (by omega), Lk, Or.inr ⟨d0', rfl⟩⟩⟩
        | succ u ih2 =>
          intro p hp hkp hz
          have Mk := M.sk f.1
          obtain ⟨sa, sa1, sa2⟩ := Sk p k' (by omega) (Or.inl hkL)
          refine j_M_meets_100 ?_
          rw [k37 f, iI_le ⟨by omega, by omega⟩ ⟨by omega, by omega⟩, Mk.a36.1, x4, cl (4 * p + k') (by omega), gI_mI k (m + 27) (4 * p + k'), sa1]
          refine ⟨Mk.1, fun z => by omega, fun _ => ⟨Mk.1, ixL_of Mk.a36.2 (by omega) (by omega) (by decide), Mk.1, jRet_mono (c_sign Mk sa2.1) ?_⟩⟩
          intro r2 k2 w2
          obtain ⟨y2, y3⟩ := w2
          rw [y3]
          refine ⟨_, y2, ?_⟩
          have sb := sg_bd (Gs A' k' p k')
          rw [iI_0, iI_eq ⟨by omega, by omega⟩ ⟨by omega, by omega⟩, sg_0]
          refine ⟨fun z => j_M_meets_131 ?_, fun z => ?_⟩
          · rw [k37 f, iI_eq ⟨by omega, by omega⟩ ⟨by omega, by omega⟩]
            refine ⟨Mk.1, fun _ => j_M_meets_141 (l144 p hkp (by omega) z 4 0 k (by omega) fg.rf (fun i' j' h1 h2 => by rw [if_neg (by omega)])), fun y => by omega⟩
          · rw [iI_add]
            refine ih2 (p + 1) (by omega) (by omega) (fun i h1 h2 => ?_)
            by_cases ce : i = p
            · rw [ce]
              exact z
            · exact hz i h1 (by omega)
      have Mk := M.sk f.1
      refine j_M_meets_90 ?_
      rw [k37 f, iI_le ⟨by omega, by omega⟩ ⟨by omega, by omega⟩]
      exact ⟨Mk.1, fun z => by omega, fun _ => l100 (L - k') k' (by omega) (Nat.le_refl _) (fun i h1 h2 => by omega)⟩
  -- the rows are copied
  have l2 : ∀ (d i : Nat) (k : jHp), i + d = L → fg (fun q _ => q = m + 27) g k → (∀ i' j', i' < i → (j' < L ∨ j' = 3) → ∃ a : Nat, mI k (m + 27) (4 * i' + j') = (a : Int) ∧ PW m k T0 a (A i' j')) → J 195 2 0 0 [.ref m, .int (iI i), uu, uu, uu, uu, uu, uu] [] k (meQ m L K T0 g lv A) := by
    intro d
    induction d with
    | zero =>
      intro i k hd f S
      obtain rfl : i = L := by omega
      have Mk := M.sk f.1
      have f' : fg (meS m T0) g k := f.mo (fun p q z => by unfold meS; omega)
      have m0 := mu_0 9600
      refine j_M_meets_2 ?_
      rw [k37 f', iI_le ⟨by omega, by omega⟩ ⟨by omega, by omega⟩]
      refine ⟨Mk.1, fun _ => j_M_meets_82 ⟨Mk.1, jRet_mono (w_whole (x := ((1 : Nat) : Int)) Mk (by rw [f.eq (by omega)]; exact ht) (by omega) (by omega)) ?_⟩, fun z => absurd (Int.le_refl _) z⟩
      intro r2 k2 w2
      obtain ⟨a2, T2, y2, f2, t2, c1, c2, n2⟩ := w2
      refine ⟨_, y2, l90 i 0 a2 k2 T2 A 1 (by omega) (Or.inl rfl) (by omega) (fun i' _ => by omega) bA (by unfold dd; rw [if_pos rfl]; decide) (f'.tr (f2.mo (fun _ _ z => wk_me (by omega) z))) t2 (by omega) (by omega) (lm_up (lm_fg LMg f (fun q => by omega) (fun q _ => by omega)) f2 c1) (fun i' j' h1 h2 => ?_) ?_⟩
      · obtain ⟨a, a1, a3⟩ := S i' j' h1 h2
        refine ⟨a, by rw [f2.eq (by unfold wkS; omega)]; exact a1, ?_⟩
        unfold Gs
        rw [if_pos rfl]
        exact pw_up a3 f2 c1
      · unfold dd
        rw [if_pos rfl]
        exact n2
    | succ d ih =>
      intro i k hd f S
      have hiL : i < L := by omega
      obtain ⟨ci1, ci2⟩ := hc i hiL
      have fin : ∀ (k1 : jHp), fg (fun q _ => q = m + 27) g k1 → (∀ i' j', (i' < i ∧ (j' < L ∨ j' = 3) ∨ i' = i ∧ j' < L) → ∃ a : Nat, mI k1 (m + 27) (4 * i' + j') = (a : Int) ∧ PW m k1 T0 a (A i' j')) → J 195 51 0 0 [.ref m, .int (iI i), uu, uu, uu, uu, uu, uu] [] k1 (meQ m L K T0 g lv A) := by
        intro k1 f1 S1
        have M1 := M.sk f1.1
        have x43 : ∀ a : Nat, iI 4 * iI (a : Int) + iI 3 = iI ((4 * a + 3 : Nat) : Int) := fun a => x4 a 3
        obtain ⟨ra, ra1, ra2⟩ := lm_fg LMg f1 (fun q => by omega) (fun q _ => by omega) (c i) 3 ci2 (by decide)
        have ra4 : ra < 400000 := by have := ra2.1.1; omega
        refine j_M_meets_51 ?_
        rw [M1.a34.1, M1.a33.1, M1.a36.1, cl i (by omega), gI_mI k1 (m + 25) i, f1.eq (by omega), ci1, x43, x43, cl (4 * c i + 3) (by omega), cl (4 * i + 3) (by omega), gI_mI k1 (m + 24) (4 * c i + 3), ra1, iI_add]
        have f2 : fg (fun p q => p = m + 27 ∧ q = 4 * i + 3) k1 (sI k1 (m + 27) (4 * i + 3) (iI (ra : Int))) := fg.rf.wr ⟨rfl, rfl⟩
        refine ⟨M1.1, M1.1, M1.1, ixL_of M1.a34.2 (by omega) (by omega) (by decide), ixL_of M1.a33.2 (by omega) (by omega) (by decide), ix_of M1.a36.2 (by omega) (by omega) (by decide), ih (i + 1) _ (by omega) (f1.wr rfl) (fun i' j' h1 h2 => ?_)⟩
        by_cases ce : i' = i ∧ j' = 3
        · rw [ce.1, ce.2, hA i 3 hiL (Or.inr rfl)]
          exact ⟨ra, by rw [mI_sI ⟨by omega, by omega⟩, if_pos ⟨rfl, rfl⟩], pw_fg ra2 f2 (fun q => by omega)⟩
        · obtain ⟨a, a1, a2⟩ := S1 i' j' (by omega)
          exact ⟨a, by rw [f2.eq (by omega)]; exact a1, pw_fg a2 f2 (fun q => by omega)⟩
      have l12 : ∀ (e j : Nat) (k1 : jHp), j + e = L → fg (fun q _ => q = m + 27) g k1 → (∀ i' j', (i' < i ∧ (j' < L ∨ j' = 3) ∨ i' = i ∧ j' < j) → ∃ a : Nat, mI k1 (m + 27) (4 * i' + j') = (a : Int) ∧ PW m k1 T0 a (A i' j')) → J 195 12 0 0 [.ref m, .int (iI i), .int (iI j), uu, uu, uu, uu, uu] [] k1 (meQ m L K T0 g lv A) := by
        intro e
        induction e with
        | zero =>
          intro j k1 hj f1 S1
          obtain rfl : j = L := by omega
          have M1 := M.sk f1.1
          refine j_M_meets_12 ?_
          rw [k37 (f1.mo (fun p q z => by unfold meS; omega)), iI_le ⟨by omega, by omega⟩ ⟨by omega, by omega⟩]
          exact ⟨M1.1, fun _ => fin k1 f1 S1, fun z => absurd (Int.le_refl _) z⟩
        | succ e ih2 =>
          intro j k1 hj f1 S1
          have hjL : j < L := by omega
          have M1 := M.sk f1.1
          obtain ⟨ra, ra1, ra2⟩ := lm_fg LMg f1 (fun q => by omega) (fun q _ => by omega) (c i) j ci2 (by omega)
          have ra4 : ra < 400000 := by have := ra2.1.1; omega
          refine j_M_meets_12 ?_
          rw [k37 (f1.mo (fun p q z => by unfold meS; omega)), iI_le ⟨by omega, by omega⟩ ⟨by omega, by omega⟩, M1.a34.1, M1.a33.1, M1.a36.1, cl i (by omega), gI_mI k1 (m + 25) i, f1.eq (by omega), ci1, x4, x4, cl (4 * c i + j) (by omega), cl (4 * i + j) (by omega), gI_mI k1 (m + 24) (4 * c i + j), ra1, iI_add]
          have f2 : fg (fun p q => p = m + 27 ∧ q = 4 * i + j) k1 (sI k1 (m + 27) (4 * i + j) (iI (ra : Int))) := fg.rf.wr ⟨rfl, rfl⟩
          refine ⟨M1.1, fun z => by omega, fun _ => ⟨M1.1, M1.1, M1.1, ixL_of M1.a34.2 (by omega) (by omega) (by decide), ixL_of M1.a33.2 (by omega) (by omega) (by decide), ix_of M1.a36.2 (by omega) (by omega) (by decide), ih2 (j + 1) _ (by omega) (f1.wr rfl) (fun i' j' h1 => ?_)⟩⟩
          by_cases ce : i' = i ∧ j' = j
          · rw [ce.1, ce.2, hA i j hiL (Or.inl hjL)]
            exact ⟨ra, by rw [mI_sI ⟨by omega, by omega⟩, if_pos ⟨rfl, rfl⟩], pw_fg ra2 f2 (fun q => by omega)⟩
          · obtain ⟨a, a1, a2⟩ := S1 i' j' (by omega)
            exact ⟨a, by rw [f2.eq (by omega)]; exact a1, pw_fg a2 f2 (fun q => by omega)⟩
      have Mk := M.sk f.1
      refine j_M_meets_2 ?_
      rw [k37 (f.mo (fun p q z => by unfold meS; omega)), iI_le ⟨by omega, by omega⟩ ⟨by omega, by omega⟩]
      exact ⟨Mk.1, fun z => by omega, fun _ => l12 L 0 k (by omega) f (fun i' j' h1 => S i' j' (by omega) (by omega))⟩
  refine jRet_of (by decide) (by decide) (Nat.le_of_ble_eq_true rfl) (j_M_meets_0 ?_)
  exact l2 L 0 g (by omega) fg.rf (fun i' j' h1 => by omega)
end MEETS
