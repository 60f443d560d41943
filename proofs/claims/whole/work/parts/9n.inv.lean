/-! all in one heap: what class and model keep between the calls -/
section INV
variable {x n nc : Nat} {h h' : jHp} {S : Nat → Nat → Prop} {l l1 l2 : List Int}
theorem oo_wb {o b : Nat} (O : OO o h) (f : wb b h h') (h1 : o ≠ b) : OO o h' := by
  have e1 : ∀ k, gR h' o k = gR h o k := fun k => f.e h1
  unfold OO isO at *
  rw [f.z]
  simp only [e1]
  exact O
theorem cl_wb {c b : Nat} (C : CL c h) (f : wb b h h') (h1 : ∀ i, i ≤ 9 → c + i ≠ b) : CL c h' := by
  have e0 : ∀ k, gR h' c k = gR h c k := fun k => f.e (h1 0 (by decide))
  have e1 : ∀ k, gR h' (c + 1) k = gR h (c + 1) k := fun k => f.e (h1 1 (by decide))
  have e2 : ∀ k, gR h' (c + 2) k = gR h (c + 2) k := fun k => f.e (h1 2 (by decide))
  have e6 : ∀ k, gR h' (c + 6) k = gR h (c + 6) k := fun k => f.e (h1 6 (by decide))
  have e7 : ∀ k, gR h' (c + 7) k = gR h (c + 7) k := fun k => f.e (h1 7 (by decide))
  have e8 : ∀ k, gR h' (c + 8) k = gR h (c + 8) k := fun k => f.e (h1 8 (by decide))
  have e9 : ∀ k, gR h' (c + 9) k = gR h (c + 9) k := fun k => f.e (h1 9 (by decide))
  unfold CL isO at *
  rw [f.z]
  simp only [e0, e1, e2, e6, e7, e8, e9]
  exact C
def LY (x : Nat) (h : jHp) : Prop := isO h x 8 ∧ gR h x 0 = x + 1 ∧ gR h x 1 = x + 14 ∧ gR h x 2 = x + 24 ∧ gR h x 3 = x + 162 ∧ gR h x 4 = x + 207 ∧ gR h x 5 = x + 373 ∧ WL (x + 1) h ∧ TL (x + 14) h ∧ GL (x + 24) h ∧ CL (x + 207) h ∧ OO (x + 373) h ∧ Mo (x + 385) h
theorem LY.wb (L : LY x h) (f : wb (x + 162) h h') : LY x h' := by
  obtain ⟨a0, a1, a2, a3, a4, a5, a6, W, T, G, C, O, M⟩ := L
  have e : ∀ k, gR h' x k = gR h x k := fun k => f.e (by omega)
  refine ⟨?_, by rw [e]; exact a1, by rw [e]; exact a2, by rw [e]; exact a3, by rw [e]; exact a4, by rw [e]; exact a5, by rw [e]; exact a6, wl_wb W f (by omega) (by omega), tl_wb T f (by omega) (by omega), gl_wb G f (by omega) (by omega), cl_wb C f (fun i hi => by omega), oo_wb O f (by omega), mo_wb M f (by omega)⟩
  unfold isO at *
  rw [f.z]
  exact a0
def RWS (m : Nat) (h : jHp) : Prop := ∀ i, i < 8 → sm (fun j => mI h (m + 16) (8 * i + j)) 8 ≤ mI h m 21
def TD (x n nc : Nat) (h : jHp) : Prop := MB (x + 385) h ∧ MP (x + 385) n h ∧ DI (x + 385) n nc h ∧ SW (x + 385) h n ∧ SO (x + 385) h n ∧ SN (x + 385) h n ∧ SP (x + 385) h n ∧ KD (x + 385) h n ∧ mI h (x + 385) 19 = (nc : Int) ∧ lmC (x + 385) h n ≤ 3 ∧ RWS (x + 385) h
theorem TD.st (T : TD x n nc h) (e : stq (x + 385) h h') : TD x n nc h' := by
  obtain ⟨a, b, c, d, i, j, k, l, o, p, q⟩ := T
  refine ⟨?_, ?_, ?_, e.sw d, e.so i, e.sn j, ?_, ?_, by rw [e.2.1]; exact o, by rw [e.lc]; exact p, by unfold RWS at *; rw [e.1 16 (by decide) (by decide), e.2.2.2]; exact q⟩
  · unfold MB at *
    rw [e.1 5 (by decide) (by decide), e.1 6 (by decide) (by decide)]
    exact a
  · unfold MP at *
    rw [e.1 7 (by decide) (by decide), e.1 8 (by decide) (by decide)]
    exact b
  · unfold DI mF1 mF2 at *
    rw [e.1 5 (by decide) (by decide), e.1 6 (by decide) (by decide), e.1 7 (by decide) (by decide), e.1 8 (by decide) (by decide)]
    exact c
  · unfold SP at *
    rw [e.1 14 (by decide) (by decide), e.1 15 (by decide) (by decide)]
    exact k
  · unfold KD at *
    rw [e.1 9 (by decide) (by decide), e.1 12 (by decide) (by decide)]
    exact l
/-- shares and table are the same -/
def ste (m : Nat) (h g : jHp) : Prop := mI g (m + 10) = mI h (m + 10) ∧ mI g (m + 11) = mI h (m + 11) ∧ mI g (m + 16) = mI h (m + 16) ∧ mI g m 21 = mI h m 21
/-- all but the places of the corners is the same -/
def stk (m : Nat) (h g : jHp) : Prop := (∀ p, 9 ≤ p → p ≤ 16 → mI g (m + p) = mI h (m + p)) ∧ mI g m 20 = mI h m 20 ∧ mI g m 21 = mI h m 21
theorem stq.k {m : Nat} (e : stq m h h') : stk m h h' := ⟨fun p h1 h2 => e.1 p (by omega) (by omega), e.2.2.1, e.2.2.2⟩
theorem stk.e {m : Nat} (e : stk m h h') : ste m h h' := ⟨e.1 10 (by decide) (by decide), e.1 11 (by decide) (by decide), e.1 16 (by decide) (by decide), e.2.2⟩
theorem ste.em {m : Nat} (e : ste m h h') : EM m h' = EM m h := by
  funext t j
  unfold EM
  rw [e.1, e.2.1, e.2.2.1, e.2.2.2]
theorem ste.pv {m : Nat} (e : ste m h h') : pV m h' n = pV m h n := by
  funext i j
  unfold pV sC
  rw [e.em, e.2.1, e.2.2.2]
theorem ste.dv {m : Nat} (e : ste m h h') : dV m h' n = dV m h n := by
  unfold dV
  rw [e.em]
theorem stk.lc {m : Nat} (e : stk m h h') : ∀ i, lmC m h' i = lmC m h i
  | 0 => rfl
  | i + 1 => by rw [lmC_s, lmC_s, stk.lc e i, e.1 9 (by decide) (by decide)]
theorem stk.la {m : Nat} (e : stk m h h') : ∀ i l, lmA m h' i l = lmA m h i l
  | 0, _ => rfl
  | i + 1, l => by rw [lmA_s, lmA_s, stk.la e i l, e.lc, e.1 9 (by decide) (by decide)]
theorem stk.sv {m : Nat} (e : stk m h h') : sV m h' n = sV m h n := by
  funext r a
  unfold sV
  rw [e.la, e.e.pv]
theorem stk.nv {m : Nat} (e : stk m h h') : nV m h' n = nV m h n := by
  funext r
  unfold nV gS
  rw [e.la, e.e.dv, e.e.pv, e.1 13 (by decide) (by decide), e.1 15 (by decide) (by decide), e.1 9 (by decide) (by decide), e.1 12 (by decide) (by decide)]
theorem stk.prv {m : Nat} (e : stk m h h') : prV m h' n = prV m h n := by
  funext a
  unfold prV
  rw [e.la, e.1 14 (by decide) (by decide)]
theorem gt_wg {g b : Nat} {X : Nat → Nat → Int} {u : Int} (hn : n ≤ 8) (T : GT g n h X u) (f : wg b S h h') (hb : b < g ∨ g + 137 < b) (a : ∀ p k, g + 2 ≤ p → p ≤ g + 137 → ¬ S p k) : GT g n h' X u := by
  obtain ⟨P, q1, ⟨v2, q2⟩, ⟨v3, q3⟩, v4, q4⟩ := T
  have go : ∀ {r c : Nat} {v : Int}, BG r c h v → g + 2 ≤ c → c + 1 ≤ g + 137 → BG r c h' v := fun B h1 h2 => bg_wg B f (by omega) (fun k => ⟨a _ _ (by omega) (by omega), a _ _ (by omega) (by omega)⟩)
  refine ⟨fun i j hi hj => ?_, go q1 (by omega) (by omega), ⟨v2, go q2 (by omega) (by omega)⟩, ⟨v3, go q3 (by omega) (by omega)⟩, v4, go q4 (by omega) (by omega)⟩
  refine go (P i j hi hj) ?_ ?_
  · unfold pc
    omega
  · unfold pc
    omega
theorem gn_wg {g b : Nat} (N : GN g h) (f : wg b S h h') (hb : b < g ∨ g + 137 < b) (a : ∀ p k, g + 2 ≤ p → p ≤ g + 137 → ¬ S p k) : GN g h' := by
  obtain ⟨⟨v1, q1⟩, ⟨v2, q2⟩, ⟨v3, q3⟩, ⟨v4, q4⟩, P⟩ := N
  have go : ∀ {r c : Nat} {v : Int}, BG r c h v → g + 2 ≤ c → c + 1 ≤ g + 137 → BG r c h' v := fun B h1 h2 => bg_wg B f (by omega) (fun k => ⟨a _ _ (by omega) (by omega), a _ _ (by omega) (by omega)⟩)
  refine ⟨⟨v1, go q1 (by omega) (by omega)⟩, ⟨v2, go q2 (by omega) (by omega)⟩, ⟨v3, go q3 (by omega) (by omega)⟩, ⟨v4, go q4 (by omega) (by omega)⟩, fun i j hi hj => ?_⟩
  obtain ⟨v, q⟩ := P i j hi hj
  refine ⟨v, go q ?_ ?_⟩
  · unfold pc
    omega
  · unfold pc
    omega
def GlW (x n : Nat) (h : jHp) : Prop := GN (x + 24) h ∧ GK (x + 24) (x + 385) n h
theorem glw_fr (hn : n ≤ 8) (G : GlW x n h) (e : ste (x + 385) h h') (f : wg (x + 162) S h h') (s : ∀ p k, x + 24 ≤ p → p ≤ x + 161 → ¬ S p k) : GlW x n h' := by
  refine ⟨gn_wg G.1 f (by omega) (fun p k h1 h2 => s p k (by omega) (by omega)), ?_⟩
  unfold GK
  rw [f.eq (s _ _ (by omega) (by omega)), e.pv, e.dv]
  rcases G.2 with z | z
  · exact Or.inl z
  · exact Or.inr ⟨z.1, gt_wg hn z.2 f (by omega) (fun p k h1 h2 => s p k (by omega) (by omega))⟩
theorem glw_0 {n' : Nat} (G : GlW x n h) (f : wg (x + 162) S h h') (s : ∀ p k, x + 26 ≤ p → p ≤ x + 161 → ¬ S p k) (z : mI h' (x + 24) 5 = 0) : GlW x n' h' := ⟨gn_wg G.1 f (by omega) (fun p k h1 h2 => s p k (by omega) (by omega)), Or.inl z⟩
def BnW (x : Nat) (h : jHp) : Prop := ∃ s, BL (x + 162) s h ∧ BNs (x + 162) h
theorem bnw_fr (B : BnW x h) (f : fg S h h') (s : ∀ p k, x + 162 ≤ p → p ≤ x + 206 → ¬ S p k) : BnW x h' := by
  obtain ⟨q, B1, ⟨v1, b1⟩, ⟨v2, b2⟩, ⟨v3, b3⟩, ⟨v4, b4⟩, ⟨v5, b5⟩, P⟩ := B
  have go : ∀ {r c : Nat} {v : Int}, BG r c h v → x + 162 ≤ c → c + 1 ≤ x + 206 → BG r c h' v := fun B h1 h2 => bg_fg B f (fun k => ⟨s _ _ (by omega) (by omega), s _ _ (by omega) (by omega)⟩)
  refine ⟨q, ?_, ⟨v1, go b1 (by omega) (by omega)⟩, ⟨v2, go b2 (by omega) (by omega)⟩, ⟨v3, go b3 (by omega) (by omega)⟩, ⟨v4, go b4 (by omega) (by omega)⟩, ⟨v5, go b5 (by omega) (by omega)⟩, fun u i hu hi => ?_⟩
  · unfold BL isO at *
    rw [f.1.z, f.1.r]
    exact B1
  · obtain ⟨v, p⟩ := P u i hu hi
    refine ⟨v, go p ?_ ?_⟩
    · unfold bp
      omega
    · unfold bp
      omega
def ChW (x n : Nat) (h : jHp) : Prop := ∃ V, CV (x + 207) V h ∧ CZ (x + 385) h n V ∧ (mI h (x + 207) 13 = 0 ∨ (mI h (x + 207) 13 = 1 ∧ CRes (x + 207) (x + 385) n h h))
theorem cv_wg {c b : Nat} {V : Nat → Int} (C : CV c V h) (f : wg b S h h') (hb : b < c ∨ c + 165 < b) (a : ∀ p k, c + 10 ≤ p → p ≤ c + 165 → ¬ S p k) : CV c V h' := fun q hq => bg_wg (C q hq) f (by unfold pl; omega) (fun k => ⟨a _ _ (by unfold pl; omega) (by unfold pl; omega), a _ _ (by unfold pl; omega) (by unfold pl; omega)⟩)
theorem cz_st {m : Nat} {V : Nat → Int} (Z : CZ m h n V) (e : stk m h h') : CZ m h' n V := by
  unfold CZ at *
  simp only [e.la]
  exact Z
theorem cres_st {c m : Nat} {k : jHp} (R : CRes c m n h k) (e : stk m h h') : CRes c m n h' k := by
  unfold CRes CZ HL liv at *
  simp only [e.la, e.sv, e.nv, e.prv]
  exact R
theorem cres_wg {c m b : Nat} {g : jHp} (R : CRes c m n g h) (f : wg b S h h') (hb : b < c ∨ c + 165 < b) (a : ∀ p k, c ≤ p → p ≤ c + 165 → ¬ S p k) : CRes c m n g h' := by
  obtain ⟨r1, V, r2, r3, r4⟩ := R
  refine ⟨fun i hi => by rw [f.eq (a _ _ (by omega) (by omega))]; exact r1 i hi, V, cv_wg r2 f hb (fun p k h1 h2 => a p k (by omega) (by omega)), r3, ?_⟩
  rw [f.eq (a _ _ (by omega) (by omega))]
  exact r4
theorem chw_fr (C : ChW x n h) (e : stk (x + 385) h h') (f : wg (x + 162) S h h') (s : ∀ p k, x + 207 ≤ p → p ≤ x + 372 → ¬ S p k) : ChW x n h' := by
  obtain ⟨V, c1, c2, c3⟩ := C
  refine ⟨V, cv_wg c1 f (by omega) (fun p k h1 h2 => s p k (by omega) (by omega)), cz_st c2 e, ?_⟩
  rw [f.eq (s _ _ (by omega) (by omega))]
  rcases c3 with z | z
  · exact Or.inl z
  · exact Or.inr ⟨z.1, cres_wg (cres_st z.2 e) f (by omega) (fun p k h1 h2 => s p k (by omega) (by omega))⟩
theorem chw_0 {n' : Nat} (C : ChW x n h) (f : wg (x + 162) S h h') (s : ∀ p k, x + 217 ≤ p → p ≤ x + 372 → ¬ S p k) (z : mI h' (x + 207) 13 = 0) (cz : ∀ V, CZ (x + 385) h n V → CZ (x + 385) h' n' V) : ChW x n' h' := by
  obtain ⟨V, c1, c2, c3⟩ := C
  exact ⟨V, cv_wg c1 f (by omega) (fun p k h1 h2 => s p k (by omega) (by omega)), cz V c2, Or.inl z⟩
def OX (x : Nat) (l : List Int) (h : jHp) : Prop := O5 (x + 373) h ∧ CO (x + 373) h l
theorem ox_fr (O : OX x l h) (f : wg (x + 162) S h h') (s : ∀ p k, x + 373 ≤ p → p ≤ x + 384 → ¬ S p k) : OX x l h' := by
  obtain ⟨⟨⟨v1, b1⟩, ⟨v2, b2⟩, ⟨v3, b3⟩, ⟨v4, b4⟩, v5, b5⟩, o1, o2, o3⟩ := O
  have go : ∀ {r c : Nat} {v : Int}, BG r c h v → x + 373 ≤ c → c + 1 ≤ x + 384 → BG r c h' v := fun B h1 h2 => bg_wg B f (by omega) (fun k => ⟨s _ _ (by omega) (by omega), s _ _ (by omega) (by omega)⟩)
  refine ⟨⟨⟨v1, go b1 (by omega) (by omega)⟩, ⟨v2, go b2 (by omega) (by omega)⟩, ⟨v3, go b3 (by omega) (by omega)⟩, ⟨v4, go b4 (by omega) (by omega)⟩, v5, go b5 (by omega) (by omega)⟩, by rw [f.eq (s _ _ (by omega) (by omega))]; exact o1, o2, fun k hk => ?_⟩
  rw [f.eq (s _ _ (by omega) (by omega))]
  exact o3 k hk
theorem ou_wg {m b : Nat} (O : OU m h l) (f : wg b S h h') (s : ¬ S m 27 ∧ ∀ k, ¬ S (m + 20) k) : OU m h' l := by
  obtain ⟨o1, o2, o3⟩ := O
  refine ⟨by rw [f.eq s.1]; exact o1, o2, fun k hk => ?_⟩
  rw [f.eq (s.2 k)]
  exact o3 k hk
theorem kn_wg {m b q : Nat} {v : Int} (K : KN m h q v) (f : wg b S h h') (s : ∀ k, ¬ S (m + 18) k) : KN m h' q v := by
  obtain ⟨a, b, c⟩ := K
  refine ⟨a, by rw [f.eq (s _)]; exact b, fun k hk => ?_⟩
  rw [f.eq (s _)]
  exact c k hk
def KX (x n : Nat) (h : jHp) : Prop := n = 0 → ∃ v, KN (x + 385) h 64 v
def CX (x n : Nat) (h : jHp) : Prop := CW (x + 1) (x + 385) h ∧ CT (x + 14) (x + 385) h ∧ mI h (x + 1) 5 = lmC (x + 385) h n
def INV (x n nc : Nat) (l1 l2 : List Int) (h : jHp) : Prop := LY x h ∧ TD x n nc h ∧ CX x n h ∧ GlW x n h ∧ BnW x h ∧ ChW x n h ∧ OX x l1 h ∧ OU (x + 385) h l2 ∧ KX x n h
def aw2 (S : Nat → Nat → Prop) (x : Nat) : Prop := ∀ p k, (x + 1 ≤ p ∧ p ≤ x + 13 ∧ p ≠ x + 5) ∨ (x + 14 ≤ p ∧ p ≤ x + 23) ∨ (x + 385 ≤ p ∧ p ≤ x + 412) → ¬ S p k
theorem aw2_st (f : wg (x + 162) S h h') (a : aw2 S x) : stq (x + 385) h h' := ⟨fun p h1 h2 => funext (fun k => f.eq (a _ _ (by omega))), f.eq (a _ _ (by omega)), f.eq (a _ _ (by omega)), f.eq (a _ _ (by omega))⟩
theorem aw2_cx (C : CX x n h) (f : wg (x + 162) S h h') (a : aw2 S x) : CX x n h' := by
  have e := aw2_st f a
  obtain ⟨⟨c1, c2, c3, c4⟩, ⟨t1, t2⟩, c5⟩ := C
  have q : ∀ {p k : Nat}, (x + 1 ≤ p ∧ p ≤ x + 13 ∧ p ≠ x + 5) ∨ (x + 14 ≤ p ∧ p ≤ x + 23) ∨ (x + 385 ≤ p ∧ p ≤ x + 412) → mI h' p k = mI h p k := fun z => f.eq (a _ _ z)
  refine ⟨⟨by rw [q (by omega), q (by omega)]; exact c1, by rw [q (by omega), q (by omega)]; exact c2, fun k hk => ?_, fun i hi => ?_⟩, ⟨by rw [q (by omega), q (by omega)]; exact t1, fun i j hi hj => by rw [q (by omega), q (by omega)]; exact t2 i j hi hj⟩, by rw [q (by omega), e.lc]; exact c5⟩
  · rw [q (by omega), q (by omega), q (by omega), q (by omega)]
    exact c3 k hk
  · have w : ∀ k, mI h' (x + 1 + 5 + i) k = mI h (x + 1 + 5 + i) k := fun k => q (by omega)
    have u : ∀ k, 7 ≤ k → k ≤ 15 → mI h' (x + 385 + k) i = mI h (x + 385 + k) i := fun k h1 h2 => q (by omega)
    rw [w, w, w, w, w, w, w, w, w, u 9 (by decide) (by decide), u 7 (by decide) (by decide), u 8 (by decide) (by decide), u 10 (by decide) (by decide), u 11 (by decide) (by decide), u 12 (by decide) (by decide), u 13 (by decide) (by decide), u 14 (by decide) (by decide), u 15 (by decide) (by decide)]
    exact c4 i hi
/-- a step of the class's: what is told stays -/
theorem inv_c (I : INV x n nc l1 l2 h) (f : wg (x + 162) S h h') (a : aw2 S x) (G : GlW x n h') (B : BnW x h') (C : ChW x n h') (O : OX x l h') : INV x n nc l l2 h' ∧ stq (x + 385) h h' := by
  obtain ⟨i1, i2, i3, i4, i5, i6, i7, i8, i9⟩ := I
  have e := aw2_st f a
  refine ⟨⟨i1.wb f.1, i2.st e, aw2_cx i3 f a, G, B, C, O, ou_wg i8 f ⟨a _ _ (by omega), fun k => a _ _ (by omega)⟩, fun z => ?_⟩, e⟩
  obtain ⟨v, k⟩ := i9 z
  exact ⟨v, kn_wg k f (fun k => a _ _ (by omega))⟩
theorem cu_lo {p k : Nat} (z : cuS (x + 385) p k) : x + 385 ≤ p := by
  unfold cuS cnS at z
  omega
/-- a step of the model's: what is told stays -/
theorem inv_m (I : INV x n nc l1 l2 h) (f : fg (cuS (x + 385)) h h') (O : OU (x + 385) h' l) (K : KX x n h') : INV x n nc l1 l h' := by
  obtain ⟨i1, i2, i3, i4, i5, i6, i7, i8, i9⟩ := I
  have e := stq_cu f
  have g : wg (x + 162) (cuS (x + 385)) h h' := fg_wg f
  have no : ∀ p k, p < x + 385 → ¬ cuS (x + 385) p k := fun p k h1 z => by
    have := cu_lo z
    omega
  obtain ⟨⟨c1, c2, c3, c4⟩, ⟨t1, t2⟩, c5⟩ := i3
  refine ⟨i1.wb g.1, i2.st e, ⟨⟨?_, ?_, fun k hk => ?_, fun i hi => ?_⟩, ⟨?_, fun i j hi hj => ?_⟩, ?_⟩, glw_fr i2.2.2.2.1.2.1 i4 e.k.e g (fun p k h1 h2 => no p k (by omega)), bnw_fr i5 f (fun p k h1 h2 => no p k (by omega)), chw_fr i6 e.k g (fun p k h1 h2 => no p k (by omega)), ox_fr i7 g (fun p k h1 h2 => no p k (by omega)), O, K⟩
  · rw [f.eq (no _ _ (by omega)), e.2.1]
    exact c1
  · rw [f.eq (no _ _ (by omega)), e.2.2.1]
    exact c2
  · rw [e.1 5 (by decide) (by decide), e.1 6 (by decide) (by decide), f.eq (no _ _ (by omega)), f.eq (no (x + 1 + 2) _ (by omega))]
    exact c3 k hk
  · have w : ∀ k, mI h' (x + 1 + 5 + i) k = mI h (x + 1 + 5 + i) k := fun k => f.eq (no _ _ (by omega))
    rw [w, w, w, w, w, w, w, w, w, e.1 9 (by decide) (by decide), e.1 7 (by decide) (by decide), e.1 8 (by decide) (by decide), e.1 10 (by decide) (by decide), e.1 11 (by decide) (by decide), e.1 12 (by decide) (by decide), e.1 13 (by decide) (by decide), e.1 14 (by decide) (by decide), e.1 15 (by decide) (by decide)]
    exact c4 i hi
  · rw [f.eq (no _ _ (by omega)), e.2.2.2]
    exact t1
  · rw [f.eq (no _ _ (by omega)), e.1 16 (by decide) (by decide)]
    exact t2 i j hi hj
  · rw [f.eq (no _ _ (by omega)), e.lc]
    exact c5
/-- between the calls: class and model have told the same -/
def IN (x : Nat) (h : jHp) : Prop := ∃ n nc l, INV x n nc l l h ∧ mI h x 6 = mI h (x + 385) 0
def lo (x : Nat) (h h' : jHp) : Prop := h'.1 = h.1 ∧ ∀ p k, p < x → gI h' p k = gI h p k
theorem lo.tr {k : jHp} (a : lo x h h') (b : lo x h' k) : lo x h k := ⟨b.1.trans a.1, fun p q z => (b.2 p q z).trans (a.2 p q z)⟩
theorem lo_wg {b : Nat} (f : wg b S h h') (s : ∀ p k, p < x → ¬ S p k) : lo x h h' := ⟨f.1.1, fun p k z => f.2 p k (s p k z)⟩
/-- one call of both -/
def PR (x c1 c2 : Nat) (as : List Value) (h : jHp) : Prop := jRet c1 0 0 (.ref x :: as) h (fun r1 h1 => ∃ r : Int32, r1 = some (.int r) ∧ LY x h1 ∧ jRet c2 0 0 (.ref (x + 385) :: as) h1 (fun r2 h2 => r2 = some (.int r) ∧ IN x h2 ∧ lo x h h2))
def PR2 (x c1 c2 : Nat) (as : List Value) (h : jHp) : Prop := jRet c1 0 0 (.ref x :: as) h (fun r1 h1 => ∃ r : Int64, r1 = some (.long r) ∧ LY x h1 ∧ jRet c2 0 0 (.ref (x + 385) :: as) h1 (fun r2 h2 => r2 = some (.long r) ∧ IN x h2 ∧ lo x h h2))
end INV
