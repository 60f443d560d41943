/-! the law's loop -/
section LAW
variable {x L : Nat} {h : jHp}
/-- a call keeps the script -/
theorem jRet_scr {z k s : Nat} {as : List Value} {Q : jQ} (hR : jRet z k s as h Q) : jRet z k s as h (fun v h' => Q v h' ∧ jz h' 1 = jz h 1 ∧ ∀ j, j < (jz h 1).2 → gI h' 1 j = gI h 1 j) := by
  intro l base b L xs D tc p e ha hc hk s0 m0 args below hf hap hP hK
  have hk0 : Hk L xs h := by
    first
      | exact hP.2.2.2.2.2.2.1
      | exact hP.2.2.2.2.2.1
  obtain ⟨n, o, a1, a2, a3, ⟨⟨v, h', e1, e2, e3⟩, a4⟩, a5⟩ := hR l base b L xs D tc p e ha hc hk s0 m0 args below hf hap hP hK
  have hk1 : Hk L xs h' := e3.2.2.2.2.2.1
  refine ⟨n, o, a1, a2, a3, ⟨⟨v, h', e1, ⟨e2, by rw [hk1.1, hk0.1], fun j hj => ?_⟩, e3⟩, a4⟩, a5⟩
  rw [hk0.1] at hj
  rw [hk1.2.1 j hj, hk0.2.1 j hj]
def lwQ : jQ := fun r _ => r = some (.int (iI 1))
def scQ (h h1 : jHp) : Prop := jz h1 1 = jz h 1 ∧ ∀ j, j < (jz h 1).2 → gI h1 1 j = gI h 1 j
def mdQ (x i c2 : Nat) (as : List Value) (h : jHp) : jQ := fun v h1 => ∃ r1 : Int32, v = some (.int r1) ∧ scQ h h1 ∧ isO h1 (x + 385) 9 ∧ jRet c2 0 0 (.ref (x + 385) :: as) h1 (fun v h2 => ∃ r2 : Int32, v = some (.int r2) ∧ (r1 = r2 → J 200 838 0 0 [.ref 1, .ref x, .ref (x + 385), .int (iI (i : Int))] [] h2 lwQ) ∧ (¬ r1 = r2 → isB (iI 0) ∧ lwQ (some (.int (iI 0))) h2))
theorem law_i {i c1 c2 : Nat} {as : List Value} (P : PR x c1 c2 as h) (K : ∀ h2, IN x h2 → jz h2 1 = jz h 1 → J 200 838 0 0 [.ref 1, .ref x, .ref (x + 385), .int (iI (i : Int))] [] h2 lwQ) : jRet c1 0 0 (.ref x :: as) h (mdQ x i c2 as h) := by
  refine jRet_mono (jRet_scr P) ?_
  intro v h1 q
  obtain ⟨⟨r, e, R, m⟩, s⟩ := q
  refine ⟨r, e, s, R.m.1, jRet_mono m ?_⟩
  intro v2 h2 q2
  obtain ⟨e2, I, l2⟩ := q2
  refine ⟨r, e2, fun _ => K h2 I ?_, fun z => absurd rfl z⟩
  unfold jz
  rw [l2.1]
theorem a_in {i t : Nat} (hz : jz h 1 = (20, L)) (hi : i + 5 ≤ L) (ht : t < 5) (hL : L ≤ 2560) : ixL h 1 (iI (i : Int) + iI (t : Int)) ∧ (iI (i : Int) + iI (t : Int)).toNatClampNeg < L := by
  have e : iI (i : Int) + iI (t : Int) = iI ((i + t : Nat) : Int) := by
    rw [iI_add]
    congr 1
  rw [e]
  refine ⟨⟨Or.inr (by rw [hz]), by rw [hz]; exact iI_in (by omega) (by omega) (by omega)⟩, ?_⟩
  rw [iI_cl (by omega) (by omega), Int.toNat_natCast]
  omega
theorem ixL_z {h1 : jHp} {v : Int32} (z : jz h1 1 = jz h 1) (a : ixL h 1 v) : ixL h1 1 v := by
  unfold ixL at *
  rw [z]
  exact a
theorem lg_same {v : Int64} : lg_cmp v v = 0 := (lg_cmp_eq v v).mpr rfl
/-- one round of the loop -/
theorem law_go {i : Nat} (I : IN x h) (hz : jz h 1 = (20, L)) (hi : i + 5 ≤ L) (hL : L ≤ 2560) (K : ∀ h2, IN x h2 → jz h2 1 = jz h 1 → J 200 838 0 0 [.ref 1, .ref x, .ref (x + 385), .int (iI (i : Int))] [] h2 lwQ) (t : Nat) (j : Nat) (ht : [132, 145, 168, 201, 244, 287, 320, 353, 386, 446, 515, 548, 571, 614, 637, 670, 703, 726, 759, 802, 815][j]? = some t) : J 200 t 0 0 [.ref 1, .ref x, .ref (x + 385), .int (iI (i : Int))] [] h lwQ := by
  have R : isO h x 8 := by
    obtain ⟨_, _, _, J', _⟩ := I
    exact J'.r.1
  have a1 := a_in (t := 1) hz hi (by decide) hL
  have a2 := a_in (t := 2) hz hi (by decide) hL
  have a3 := a_in (t := 3) hz hi (by decide) hL
  have a4 := a_in (t := 4) hz hi (by decide) hL
  have zL : (jz h 1).2 = L := by rw [hz]
  have g : ∀ {p k : Nat}, rI (mI h p k) := fun {p k} => rI_mI h p k
  match j, ht with
  | 0, ht =>
    obtain rfl : t = 132 := by simpa using ht.symm
    -- status
    refine j_W_law_132 ?_
    have P := p_status (x := x) (h := h) I
    refine ⟨R, jRet_mono (law_i P K) ?_⟩
    intro v h1 q
    obtain ⟨r1, e1, sc, o1, m1⟩ := q
    exact ⟨r1, e1, o1, m1⟩
  | 1, ht =>
    obtain rfl : t = 145 := by simpa using ht.symm
    -- out
    refine j_W_law_145 ?_
    have P := p_out (x := x) (h := h) (rI_mI h 1 (iI (i : Int) + iI 1).toNatClampNeg) I
    simp only [← gI_mI] at P
    refine ⟨a1.1, R, jRet_mono (law_i P K) ?_⟩
    intro v h1 q
    obtain ⟨r1, e1, sc, o1, m1⟩ := q
    refine ⟨r1, e1, ixL_z sc.1 a1.1, o1, ?_⟩
    rw [sc.2 _ (by rw [zL]; exact a1.2)]
    exact m1
  | 2, ht =>
    obtain rfl : t = 168 := by simpa using ht.symm
    -- corner
    refine j_W_law_168 ?_
    have P := p_corner (x := x) (h := h) (rI_mI h 1 (iI (i : Int) + iI 1).toNatClampNeg) (rI_mI h 1 (iI (i : Int) + iI 2).toNatClampNeg) I
    simp only [← gI_mI] at P
    refine ⟨a1.1, a2.1, R, jRet_mono (law_i P K) ?_⟩
    intro v h1 q
    obtain ⟨r1, e1, sc, o1, m1⟩ := q
    refine ⟨r1, e1, ixL_z sc.1 a1.1, ixL_z sc.1 a2.1, o1, ?_⟩
    rw [sc.2 _ (by rw [zL]; exact a1.2), sc.2 _ (by rw [zL]; exact a2.2)]
    exact m1
  | 3, ht =>
    obtain rfl : t = 201 := by simpa using ht.symm
    -- patch
    refine j_W_law_201 ?_
    have P := p_patch (x := x) (h := h) (rI_mI h 1 (iI (i : Int) + iI 1).toNatClampNeg) (rI_mI h 1 (iI (i : Int) + iI 2).toNatClampNeg) (rI_mI h 1 (iI (i : Int) + iI 3).toNatClampNeg) I
    simp only [← gI_mI] at P
    refine ⟨a1.1, a2.1, a3.1, R, jRet_mono (law_i P K) ?_⟩
    intro v h1 q
    obtain ⟨r1, e1, sc, o1, m1⟩ := q
    refine ⟨r1, e1, ixL_z sc.1 a1.1, ixL_z sc.1 a2.1, ixL_z sc.1 a3.1, o1, ?_⟩
    rw [sc.2 _ (by rw [zL]; exact a1.2), sc.2 _ (by rw [zL]; exact a2.2), sc.2 _ (by rw [zL]; exact a3.2)]
    exact m1
  | 4, ht =>
    obtain rfl : t = 244 := by simpa using ht.symm
    -- on
    refine j_W_law_244 ?_
    have P := p_on (x := x) (h := h) (rI_mI h 1 (iI (i : Int) + iI 1).toNatClampNeg) (rI_mI h 1 (iI (i : Int) + iI 2).toNatClampNeg) (rI_mI h 1 (iI (i : Int) + iI 3).toNatClampNeg) I
    simp only [← gI_mI] at P
    refine ⟨a1.1, a2.1, a3.1, R, jRet_mono (law_i P K) ?_⟩
    intro v h1 q
    obtain ⟨r1, e1, sc, o1, m1⟩ := q
    refine ⟨r1, e1, ixL_z sc.1 a1.1, ixL_z sc.1 a2.1, ixL_z sc.1 a3.1, o1, ?_⟩
    rw [sc.2 _ (by rw [zL]; exact a1.2), sc.2 _ (by rw [zL]; exact a2.2), sc.2 _ (by rw [zL]; exact a3.2)]
    exact m1
  | 5, ht =>
    obtain rfl : t = 287 := by simpa using ht.symm
    -- own
    refine j_W_law_287 ?_
    have P := p_own (x := x) (h := h) (rI_mI h 1 (iI (i : Int) + iI 1).toNatClampNeg) (rI_mI h 1 (iI (i : Int) + iI 2).toNatClampNeg) I
    simp only [← gI_mI] at P
    refine ⟨a1.1, a2.1, R, jRet_mono (law_i P K) ?_⟩
    intro v h1 q
    obtain ⟨r1, e1, sc, o1, m1⟩ := q
    refine ⟨r1, e1, ixL_z sc.1 a1.1, ixL_z sc.1 a2.1, o1, ?_⟩
    rw [sc.2 _ (by rw [zL]; exact a1.2), sc.2 _ (by rw [zL]; exact a2.2)]
    exact m1
  | 6, ht =>
    obtain rfl : t = 320 := by simpa using ht.symm
    -- told
    refine j_W_law_320 ?_
    have P := p_told (x := x) (h := h) (rI_mI h 1 (iI (i : Int) + iI 1).toNatClampNeg) (rI_mI h 1 (iI (i : Int) + iI 2).toNatClampNeg) I
    simp only [← gI_mI] at P
    refine ⟨a1.1, a2.1, R, jRet_mono (law_i P K) ?_⟩
    intro v h1 q
    obtain ⟨r1, e1, sc, o1, m1⟩ := q
    refine ⟨r1, e1, ixL_z sc.1 a1.1, ixL_z sc.1 a2.1, o1, ?_⟩
    rw [sc.2 _ (by rw [zL]; exact a1.2), sc.2 _ (by rw [zL]; exact a2.2)]
    exact m1
  | 7, ht =>
    obtain rfl : t = 353 := by simpa using ht.symm
    -- sight
    refine j_W_law_353 ?_
    have P := p_sight (x := x) (h := h) (rI_mI h 1 (iI (i : Int) + iI 1).toNatClampNeg) (rI_mI h 1 (iI (i : Int) + iI 2).toNatClampNeg) I
    simp only [← gI_mI] at P
    refine ⟨a1.1, a2.1, R, jRet_mono (law_i P K) ?_⟩
    intro v h1 q
    obtain ⟨r1, e1, sc, o1, m1⟩ := q
    refine ⟨r1, e1, ixL_z sc.1 a1.1, ixL_z sc.1 a2.1, o1, ?_⟩
    rw [sc.2 _ (by rw [zL]; exact a1.2), sc.2 _ (by rw [zL]; exact a2.2)]
    exact m1
  | 8, ht =>
    obtain rfl : t = 386 := by simpa using ht.symm
    have len : ∀ u : Int, (u = 0 ∨ u = 1) → (∀ h1 : jHp, gI h1 1 (iI (i : Int) + iI 3).toNatClampNeg = gI h 1 (iI (i : Int) + iI 3).toNatClampNeg → ((gI h1 1 (iI (i : Int) + iI 3).toNatClampNeg = 0 ∧ u = 0) ∨ (¬ gI h1 1 (iI (i : Int) + iI 3).toNatClampNeg = 0 ∧ u = 1))) → J 200 410 0 0 [.ref 1, .ref x, .ref (x + 385), .int (iI (i : Int))] [.int (iI u), .int (gI h 1 (iI (i : Int) + iI 2).toNatClampNeg), .int (gI h 1 (iI (i : Int) + iI 1).toNatClampNeg), .ref x] h lwQ := by
      intro u hu hsel
      have P := p_length (x := x) (h := h) (rI_mI h 1 (iI (i : Int) + iI 1).toNatClampNeg) (rI_mI h 1 (iI (i : Int) + iI 2).toNatClampNeg) hu I
      simp only [← gI_mI] at P
      refine j_W_law_410 ⟨R, jRet_mono (jRet_scr P) ?_⟩
      intro v h1 q
      obtain ⟨⟨r, e, R1, m⟩, sc⟩ := q
      have e1 : gI h1 1 (iI (i : Int) + iI 1).toNatClampNeg = gI h 1 (iI (i : Int) + iI 1).toNatClampNeg := sc.2 _ (by rw [zL]; exact a1.2)
      have e2 : gI h1 1 (iI (i : Int) + iI 2).toNatClampNeg = gI h 1 (iI (i : Int) + iI 2).toNatClampNeg := sc.2 _ (by rw [zL]; exact a2.2)
      have e3 : gI h1 1 (iI (i : Int) + iI 3).toNatClampNeg = gI h 1 (iI (i : Int) + iI 3).toNatClampNeg := sc.2 _ (by rw [zL]; exact a3.2)
      have l437 : J 200 437 0 0 [.ref 1, .ref x, .ref (x + 385), .int (iI (i : Int))] [.int (iI u), .int (gI h1 1 (iI (i : Int) + iI 2).toNatClampNeg), .int (gI h1 1 (iI (i : Int) + iI 1).toNatClampNeg), .ref (x + 385), .long r] h1 lwQ := by
        rw [e1, e2]
        refine j_W_law_437 ⟨R1.m.1, jRet_mono m ?_⟩
        intro v2 h2 q2
        obtain ⟨f1, f2, f3⟩ := q2
        refine ⟨r, f1, fun _ => K h2 f2 (by unfold jz; rw [f3.1]), fun z => absurd lg_same z⟩
      refine ⟨r, e, ixL_z sc.1 a1.1, ixL_z sc.1 a2.1, ixL_z sc.1 a3.1, fun z => j_W_law_436 ?_, fun z => ?_⟩
      · rcases hsel h1 e3 with ⟨_, y⟩ | ⟨y, _⟩
        · rw [y] at l437
          exact l437
        · exact absurd z y
      · rcases hsel h1 e3 with ⟨y, _⟩ | ⟨_, y⟩
        · exact absurd y z
        · rw [y] at l437
          exact l437
    refine j_W_law_386 ⟨a1.1, a2.1, a3.1, fun z => j_W_law_409 (len 0 (Or.inl rfl) (fun h1 e => Or.inl ⟨by rw [e]; exact z, rfl⟩)), fun z => len 1 (Or.inr rfl) (fun h1 e => Or.inr ⟨by rw [e]; exact z, rfl⟩)⟩
  | 9, ht =>
    obtain rfl : t = 446 := by simpa using ht.symm
    have shr : ∀ u : Int, (u = 0 ∨ u = 1) → (∀ h1 : jHp, gI h1 1 (iI (i : Int) + iI 4).toNatClampNeg = gI h 1 (iI (i : Int) + iI 4).toNatClampNeg → ((gI h1 1 (iI (i : Int) + iI 4).toNatClampNeg = 0 ∧ u = 0) ∨ (¬ gI h1 1 (iI (i : Int) + iI 4).toNatClampNeg = 0 ∧ u = 1))) → J 200 475 0 0 [.ref 1, .ref x, .ref (x + 385), .int (iI (i : Int))] [.int (iI u), .int (gI h 1 (iI (i : Int) + iI 3).toNatClampNeg), .int (gI h 1 (iI (i : Int) + iI 2).toNatClampNeg), .int (gI h 1 (iI (i : Int) + iI 1).toNatClampNeg), .ref x] h lwQ := by
      intro u hu hsel
      have P := p_share (x := x) (h := h) (rI_mI h 1 (iI (i : Int) + iI 1).toNatClampNeg) (rI_mI h 1 (iI (i : Int) + iI 2).toNatClampNeg) (rI_mI h 1 (iI (i : Int) + iI 3).toNatClampNeg) hu I
      simp only [← gI_mI] at P
      refine j_W_law_475 ⟨R, jRet_mono (law_i P K) ?_⟩
      intro v h1 q
      obtain ⟨r1, e, sc, o1, m1⟩ := q
      have e1 : gI h1 1 (iI (i : Int) + iI 1).toNatClampNeg = gI h 1 (iI (i : Int) + iI 1).toNatClampNeg := sc.2 _ (by rw [zL]; exact a1.2)
      have e2 : gI h1 1 (iI (i : Int) + iI 2).toNatClampNeg = gI h 1 (iI (i : Int) + iI 2).toNatClampNeg := sc.2 _ (by rw [zL]; exact a2.2)
      have e3 : gI h1 1 (iI (i : Int) + iI 3).toNatClampNeg = gI h 1 (iI (i : Int) + iI 3).toNatClampNeg := sc.2 _ (by rw [zL]; exact a3.2)
      have e4 : gI h1 1 (iI (i : Int) + iI 4).toNatClampNeg = gI h 1 (iI (i : Int) + iI 4).toNatClampNeg := sc.2 _ (by rw [zL]; exact a4.2)
      have l507 : J 200 507 0 0 [.ref 1, .ref x, .ref (x + 385), .int (iI (i : Int))] [.int (iI u), .int (gI h1 1 (iI (i : Int) + iI 3).toNatClampNeg), .int (gI h1 1 (iI (i : Int) + iI 2).toNatClampNeg), .int (gI h1 1 (iI (i : Int) + iI 1).toNatClampNeg), .ref (x + 385), .int r1] h1 lwQ := by
        rw [e1, e2, e3]
        exact j_W_law_507 ⟨o1, m1⟩
      refine ⟨r1, e, ixL_z sc.1 a1.1, ixL_z sc.1 a2.1, ixL_z sc.1 a3.1, ixL_z sc.1 a4.1, fun z => j_W_law_506 ?_, fun z => ?_⟩
      · rcases hsel h1 e4 with ⟨_, y⟩ | ⟨y, _⟩
        · rw [y] at l507
          exact l507
        · exact absurd z y
      · rcases hsel h1 e4 with ⟨y, _⟩ | ⟨_, y⟩
        · exact absurd y z
        · rw [y] at l507
          exact l507
    refine j_W_law_446 ⟨a1.1, a2.1, a3.1, a4.1, fun z => j_W_law_474 (shr 0 (Or.inl rfl) (fun h1 e => Or.inl ⟨by rw [e]; exact z, rfl⟩)), fun z => shr 1 (Or.inr rfl) (fun h1 e => Or.inr ⟨by rw [e]; exact z, rfl⟩)⟩
  | 10, ht =>
    obtain rfl : t = 515 := by simpa using ht.symm
    -- crossed
    refine j_W_law_515 ?_
    have P := p_crossed (x := x) (h := h) (rI_mI h 1 (iI (i : Int) + iI 1).toNatClampNeg) (rI_mI h 1 (iI (i : Int) + iI 2).toNatClampNeg) I
    simp only [← gI_mI] at P
    refine ⟨a1.1, a2.1, R, jRet_mono (law_i P K) ?_⟩
    intro v h1 q
    obtain ⟨r1, e1, sc, o1, m1⟩ := q
    refine ⟨r1, e1, ixL_z sc.1 a1.1, ixL_z sc.1 a2.1, o1, ?_⟩
    rw [sc.2 _ (by rw [zL]; exact a1.2), sc.2 _ (by rw [zL]; exact a2.2)]
    exact m1
  | 11, ht =>
    obtain rfl : t = 548 := by simpa using ht.symm
    -- parts
    refine j_W_law_548 ?_
    have P := p_parts (x := x) (h := h) (rI_mI h 1 (iI (i : Int) + iI 1).toNatClampNeg) I
    simp only [← gI_mI] at P
    refine ⟨a1.1, R, jRet_mono (law_i P K) ?_⟩
    intro v h1 q
    obtain ⟨r1, e1, sc, o1, m1⟩ := q
    refine ⟨r1, e1, ixL_z sc.1 a1.1, o1, ?_⟩
    rw [sc.2 _ (by rw [zL]; exact a1.2)]
    exact m1
  | 12, ht =>
    obtain rfl : t = 571 := by simpa using ht.symm
    -- table
    refine j_W_law_571 ?_
    have P := p_table (x := x) (h := h) (rI_mI h 1 (iI (i : Int) + iI 1).toNatClampNeg) (rI_mI h 1 (iI (i : Int) + iI 2).toNatClampNeg) (rI_mI h 1 (iI (i : Int) + iI 3).toNatClampNeg) I
    simp only [← gI_mI] at P
    refine ⟨a1.1, a2.1, a3.1, R, jRet_mono (law_i P K) ?_⟩
    intro v h1 q
    obtain ⟨r1, e1, sc, o1, m1⟩ := q
    refine ⟨r1, e1, ixL_z sc.1 a1.1, ixL_z sc.1 a2.1, ixL_z sc.1 a3.1, o1, ?_⟩
    rw [sc.2 _ (by rw [zL]; exact a1.2), sc.2 _ (by rw [zL]; exact a2.2), sc.2 _ (by rw [zL]; exact a3.2)]
    exact m1
  | 13, ht =>
    obtain rfl : t = 614 := by simpa using ht.symm
    -- light
    refine j_W_law_614 ?_
    have P := p_light (x := x) (h := h) (rI_mI h 1 (iI (i : Int) + iI 1).toNatClampNeg) I
    simp only [← gI_mI] at P
    refine ⟨a1.1, R, jRet_mono (law_i P K) ?_⟩
    intro v h1 q
    obtain ⟨r1, e1, sc, o1, m1⟩ := q
    refine ⟨r1, e1, ixL_z sc.1 a1.1, o1, ?_⟩
    rw [sc.2 _ (by rw [zL]; exact a1.2)]
    exact m1
  | 14, ht =>
    obtain rfl : t = 637 := by simpa using ht.symm
    -- bounce
    refine j_W_law_637 ?_
    have P := p_bounce (x := x) (h := h) (rI_mI h 1 (iI (i : Int) + iI 1).toNatClampNeg) (rI_mI h 1 (iI (i : Int) + iI 2).toNatClampNeg) I
    simp only [← gI_mI] at P
    refine ⟨a1.1, a2.1, R, jRet_mono (law_i P K) ?_⟩
    intro v h1 q
    obtain ⟨r1, e1, sc, o1, m1⟩ := q
    refine ⟨r1, e1, ixL_z sc.1 a1.1, ixL_z sc.1 a2.1, o1, ?_⟩
    rw [sc.2 _ (by rw [zL]; exact a1.2), sc.2 _ (by rw [zL]; exact a2.2)]
    exact m1
  | 15, ht =>
    obtain rfl : t = 670 := by simpa using ht.symm
    -- pull
    refine j_W_law_670 ?_
    have P := p_pull (x := x) (h := h) (rI_mI h 1 (iI (i : Int) + iI 1).toNatClampNeg) (rI_mI h 1 (iI (i : Int) + iI 2).toNatClampNeg) I
    simp only [← gI_mI] at P
    refine ⟨a1.1, a2.1, R, jRet_mono (law_i P K) ?_⟩
    intro v h1 q
    obtain ⟨r1, e1, sc, o1, m1⟩ := q
    refine ⟨r1, e1, ixL_z sc.1 a1.1, ixL_z sc.1 a2.1, o1, ?_⟩
    rw [sc.2 _ (by rw [zL]; exact a1.2), sc.2 _ (by rw [zL]; exact a2.2)]
    exact m1
  | 16, ht =>
    obtain rfl : t = 703 := by simpa using ht.symm
    -- enough
    refine j_W_law_703 ?_
    have P := p_enough (x := x) (h := h) (rI_mI h 1 (iI (i : Int) + iI 1).toNatClampNeg) I
    simp only [← gI_mI] at P
    refine ⟨a1.1, R, jRet_mono (law_i P K) ?_⟩
    intro v h1 q
    obtain ⟨r1, e1, sc, o1, m1⟩ := q
    refine ⟨r1, e1, ixL_z sc.1 a1.1, o1, ?_⟩
    rw [sc.2 _ (by rw [zL]; exact a1.2)]
    exact m1
  | 17, ht =>
    obtain rfl : t = 726 := by simpa using ht.symm
    -- want
    refine j_W_law_726 ?_
    have P := p_want (x := x) (h := h) (rI_mI h 1 (iI (i : Int) + iI 1).toNatClampNeg) (rI_mI h 1 (iI (i : Int) + iI 2).toNatClampNeg) I
    simp only [← gI_mI] at P
    refine ⟨a1.1, a2.1, R, jRet_mono (law_i P K) ?_⟩
    intro v h1 q
    obtain ⟨r1, e1, sc, o1, m1⟩ := q
    refine ⟨r1, e1, ixL_z sc.1 a1.1, ixL_z sc.1 a2.1, o1, ?_⟩
    rw [sc.2 _ (by rw [zL]; exact a1.2), sc.2 _ (by rw [zL]; exact a2.2)]
    exact m1
  | 18, ht =>
    obtain rfl : t = 759 := by simpa using ht.symm
    -- price
    refine j_W_law_759 ?_
    have P := p_price (x := x) (h := h) (rI_mI h 1 (iI (i : Int) + iI 1).toNatClampNeg) (rI_mI h 1 (iI (i : Int) + iI 2).toNatClampNeg) (rI_mI h 1 (iI (i : Int) + iI 3).toNatClampNeg) I
    simp only [← gI_mI] at P
    refine ⟨a1.1, a2.1, a3.1, R, jRet_mono (law_i P K) ?_⟩
    intro v h1 q
    obtain ⟨r1, e1, sc, o1, m1⟩ := q
    refine ⟨r1, e1, ixL_z sc.1 a1.1, ixL_z sc.1 a2.1, ixL_z sc.1 a3.1, o1, ?_⟩
    rw [sc.2 _ (by rw [zL]; exact a1.2), sc.2 _ (by rw [zL]; exact a2.2), sc.2 _ (by rw [zL]; exact a3.2)]
    exact m1
  | 19, ht =>
    obtain rfl : t = 802 := by simpa using ht.symm
    -- least
    refine j_W_law_802 ?_
    have P := p_least (x := x) (h := h) I
    refine ⟨R, jRet_mono (law_i P K) ?_⟩
    intro v h1 q
    obtain ⟨r1, e1, sc, o1, m1⟩ := q
    exact ⟨r1, e1, o1, m1⟩
  | 20, ht =>
    obtain rfl : t = 815 := by simpa using ht.symm
    -- power
    refine j_W_law_815 ?_
    have P := p_power (x := x) (h := h) (rI_mI h 1 (iI (i : Int) + iI 1).toNatClampNeg) I
    simp only [← gI_mI] at P
    refine ⟨a1.1, R, jRet_mono (law_i P K) ?_⟩
    intro v h1 q
    obtain ⟨r1, e1, sc, o1, m1⟩ := q
    refine ⟨r1, e1, ixL_z sc.1 a1.1, o1, ?_⟩
    rw [sc.2 _ (by rw [zL]; exact a1.2)]
    exact m1
  | j + 21, ht => exact absurd ht (by simp)
/-- the law's loop comes to its end with true -/
theorem law_loop (hL : L ≤ 2560) : ∀ (d i : Nat) (h : jHp), L ≤ i + d → i ≤ L + 5 → IN x h → jz h 1 = (20, L) → J 200 18 0 0 [.ref 1, .ref x, .ref (x + 385), .int (iI (i : Int))] [] h lwQ := by
  intro d
  induction d with
  | zero =>
    intro i h hd hi I hz
    have eL : Int32.ofNat L - iI 5 = iI ((L : Int) - 5) := by
      rw [show Int32.ofNat L = iI (L : Int) from rfl, iI_sub]
    refine j_W_law_18 ?_
    rw [hz]
    dsimp only
    rw [eL, iI_lt ⟨by omega, by omega⟩ ⟨by omega, by omega⟩]
    exact ⟨Or.inr rfl, fun _ => j_W_law_844 ⟨Or.inr rfl, rfl⟩, fun z => by omega⟩
  | succ d ih =>
    intro i h hd hi I hz
    have eL : Int32.ofNat L - iI 5 = iI ((L : Int) - 5) := by
      rw [show Int32.ofNat L = iI (L : Int) from rfl, iI_sub]
    have K : i + 5 ≤ L → ∀ h2, IN x h2 → jz h2 1 = jz h 1 → J 200 838 0 0 [.ref 1, .ref x, .ref (x + 385), .int (iI (i : Int))] [] h2 lwQ := fun h5 h2 I2 z2 => by
      refine j_W_law_838 ?_
      rw [iI_add]
      exact ih (i + 5) h2 (by omega) (by omega) I2 (by rw [z2]; exact hz)
    refine j_W_law_18 ?_
    rw [hz]
    dsimp only
    rw [eL, iI_lt ⟨by omega, by omega⟩ ⟨by omega, by omega⟩]
    refine ⟨Or.inr rfl, fun _ => j_W_law_844 ⟨Or.inr rfl, rfl⟩, fun z => ⟨?_, fun _ => K (by omega) h I rfl, fun j t ht _ => law_go I hz (by omega) hL (K (by omega)) t j ht⟩⟩
    exact ⟨Or.inr (by rw [hz]), by rw [hz]; exact iI_in (by omega) (by omega) (by omega)⟩
end LAW
