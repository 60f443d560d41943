/-! on, price -/
section TELL2
variable {x n nc p : Nat} {h k : jHp} {S : Nat → Nat → Prop} {l l1 l2 : List Int}
theorem onS_st {m : Nat} {p a d : Int} (e : stq m h k) : onS m k n p a d = onS m h n p a d := by
  unfold onS
  rw [e.1 9 (by decide) (by decide)]
theorem prS_st {m : Nat} {p a d : Int} (e : stq m h k) : prS m k n p a d = prS m h n p a d := by
  unfold prS
  rw [e.1 9 (by decide) (by decide)]
theorem on_0 {m : Nat} {p a d : Int} (z : onS m h n p a d = 0) : (0 ≤ p ∧ p < (n : Int)) ∧ (1 ≤ d ∧ d ≤ 100 ∧ 0 ≤ a ∧ a < d) := by
  unfold onS at z
  split at z
  · omega
  · split at z
    · omega
    · rename_i a b
      exact ⟨Classical.byContradiction a, Classical.byContradiction b⟩
theorem pr_0 {m : Nat} {p a d : Int} (z : prS m h n p a d = 0) : (0 ≤ p ∧ p < (n : Int)) ∧ (0 ≤ a ∧ a ≤ 1000 ∧ 0 ≤ d ∧ d ≤ 10000) := by
  unfold prS at z
  split at z
  · omega
  · split at z
    · omega
    · rename_i a b
      exact ⟨Classical.byContradiction a, Classical.byContradiction b⟩
/-- two facts are told -/
theorem tel_2 {a j : Nat} {v u : Int} {h6 g2 : jHp} (i : INV x n nc l l h) (f0 : fg (fun q j => q = x ∧ j = 6) h h6) (m60 : mI h6 x 6 = 0) (an : a < n) (hv : rI v) (hu : rI u) (hj : j = 3 ∧ 1 ≤ u ∧ u ≤ 100 ∧ 0 ≤ v ∧ v < u ∨ j = 7 ∧ (0 ≤ v ∧ v ≤ 1000) ∧ 0 ≤ u ∧ u ≤ 10000) (f2 : fg (fun q b => (q = x + 1 + 5 + a ∧ 3 ≤ b ∧ b ≤ 8) ∨ (q = x + 207 ∧ b = 13) ∨ (q = x + 24 ∧ b = 5)) h6 g2) (g13 : mI g2 (x + 207) 13 = 0) (g5 : mI g2 (x + 24) 5 = 0 ∨ (j = 7 ∧ mI g2 (x + 24) 5 = mI h (x + 24) 5)) (gw : ∀ b, mI g2 (x + 1 + 5 + a) b = if b = j then v else if b = j + 1 then u else mI h6 (x + 1 + 5 + a) b) (y2 : k = sI (sI (sI g2 (x + 385 + (7 + j)) a (iI v)) (x + 385 + (8 + j)) a (iI u)) (x + 385) 0 (iI 0)) : IN x k ∧ lo x h k := by
  have n8 := i.n8
  have j9 : j = 3 ∨ j = 7 := by omega
  have f02 : ∀ {p k : Nat}, x + 385 ≤ p → mI g2 p k = mI h p k := fun hq => by rw [f2.eq (by omega), f0.eq (by omega)]
  have f3 : fg (pfF x a) h k := by
    rw [y2]
    refine (((f0.mo (fun q j z => Or.inl z)).tr (f2.mo (fun q j z => ?_))).wr ?_ |>.wr ?_) |>.wr ?_
    · omega
    · omega
    · omega
    · omega
  have kk : ∀ {q b : Nat}, q < x + 385 → mI k q b = mI g2 q b := fun hq => by
    rw [y2, mI_sI ⟨by omega, by omega⟩, if_neg (by omega), mI_sI hu, if_neg (by omega), mI_sI hv, if_neg (by omega)]
  have sp := i.sp a an
  have so := i.so a an
  have sn := i.sn a an
  have sw := i.sw.2.2.2.2.1 a an
  have kd := i.kd a an
  refine tel_in (a := a) (fun b => if b = j then v else if b = j + 1 then u else mI h (x + 385 + (7 + b)) a) i an f3 (fun b h1 h2 => ?_) (fun b h1 h2 => ?_) ?_ ?_ ?_ ?_ ?_ ?_ ?_ ?_ ?_
  · rw [kk (by omega), gw b, f0.eq (by omega), old_w i an h1 h2]
  · by_cases c : b = j
    · rw [if_pos c, y2, mI_sI ⟨by omega, by omega⟩, if_neg (by omega), mI_sI hu, if_neg (by omega), mI_sI hv, if_pos (by omega)]
    · by_cases c2 : b = j + 1
      · rw [if_neg c, if_pos c2, y2, mI_sI ⟨by omega, by omega⟩, if_neg (by omega), mI_sI hu, if_pos (by omega)]
      · rw [if_neg c, if_neg c2, y2, mI_sI ⟨by omega, by omega⟩, if_neg (by omega), mI_sI hu, if_neg (by omega), mI_sI hv, if_neg (by omega), f02 (by omega)]
  · rcases hj with ⟨rfl, y⟩ | ⟨rfl, _⟩
    · exact y
    · exact sw
  · rw [if_neg (by omega), if_neg (by omega)]
    exact so
  · rw [if_neg (by omega), if_neg (by omega)]
    exact sn
  · rcases hj with ⟨rfl, _⟩ | ⟨rfl, y, _⟩
    · exact sp.1
    · exact y
  · rcases hj with ⟨rfl, _⟩ | ⟨rfl, _, y⟩
    · exact sp.2
    · exact y
  · intro y
    rw [if_neg (by omega), if_neg (by omega)]
    exact kd.2 y
  · rw [kk (by omega)]
    exact g13
  · rw [kk (by omega)]
    rcases g5 with y | ⟨rfl, y⟩
    · exact Or.inl y
    · exact Or.inr ⟨y, rfl, rfl⟩
  · have b2 : mI k (x + 385) 0 = 0 := by
      rw [y2, mI_sI ⟨by omega, by omega⟩, if_pos ⟨rfl, rfl⟩]
    rw [kk (by omega), b2, f2.eq (by omega), m60]
theorem p_on {p v u : Int} (hp : rI p) (hv : rI v) (hu : rI u) (I : IN x h) : PR x 101 139 [.int (iI p), .int (iI v), .int (iI u)] h := by
  obtain ⟨n, nc, l, i, e⟩ := I
  refine jRet_of (by decide) (by decide) (Nat.le_of_ble_eq_true rfl) (j_R_on_0 ⟨i.r.1, jRet_mono (c_onStatus i.r i.td i.cx hp hv hu) ?_⟩)
  intro q1 g1 w1
  obtain ⟨e1, e2⟩ := w1
  rw [e2]
  have hs := on_r (m := x + 385) (h := h) (n := n) (a := p) (b := v) (c := u)
  obtain ⟨j, sq⟩ := in_6 (v := iI (onS (x + 385) h n p v u)) i
  have es : onS (x + 385) (sI h x 6 (iI (onS (x + 385) h n p v u))) n p v u = onS (x + 385) h n p v u := onS_st sq
  have n8 := j.n8
  refine ⟨_, e1, i.r.1, j.r.1, ?_⟩
  rw [g6, iI_0, iI_eq hs ⟨by omega, by omega⟩]
  refine ⟨fun z => j_R_on_20 ?_, fun z => ⟨Or.inl rfl, _, rfl, j.r, jRet_mono (c_on j.r.m j.sw.1 j.n8 hp hv hu) ?_⟩⟩
  · have c := on_0 z
    obtain ⟨h6, eh, j6, sq6, f0, m60⟩ := in_6e i hs z
    rw [← eh]
    obtain ⟨a, rfl⟩ : ∃ a : Nat, p = (a : Int) := ⟨p.toNat, by omega⟩
    obtain ⟨p1, p2, p3⟩ := j6.r.p (p := a) (by omega)
    have R1 : LY x (sI h6 (x + 1 + 5 + a) 3 (iI v)) := j6.r.sI
    obtain ⟨o1, o2, o3⟩ := R1.p (p := a) (by omega)
    have R2 : LY x (sI (sI h6 (x + 1 + 5 + a) 3 (iI v)) (x + 1 + 5 + a) 4 (iI u)) := R1.sI
    rw [j6.r.f0, p2, R1.f0, o2]
    refine ⟨j6.r.1, j6.r.w.1, p1, p3, R1.1, R1.w.1, o1, o3, j_R_on_46 ⟨R2.1, jRet_mono (c_sharesChanged R2) ?_⟩⟩
    intro q2 g2 w2
    obtain ⟨e3, e4⟩ := w2
    have f2 : fg (fun q b => (q = x + 1 + 5 + a ∧ 3 ≤ b ∧ b ≤ 8) ∨ (q = x + 207 ∧ b = 13) ∨ (q = x + 24 ∧ b = 5)) h6 g2 := by
      rw [e4]
      exact (((fg.rf.wr (Or.inl ⟨rfl, by decide, by decide⟩)).wr (Or.inl ⟨rfl, by decide, by decide⟩)).wr (Or.inr (Or.inr ⟨rfl, rfl⟩))).wr (Or.inr (Or.inl ⟨rfl, rfl⟩))
    have f02 : ∀ {p k : Nat}, x + 385 ≤ p → mI g2 p k = mI h p k := fun hq => by rw [f2.eq (by omega), f0.eq (by omega)]
    have sg : stq (x + 385) h g2 := ⟨fun p h1 h2 => funext (fun k => f02 (by omega)), f02 (by omega), f02 (by omega), f02 (by omega)⟩
    have R3 : LY x g2 := by
      rw [e4]
      exact R2.sI.sI
    refine ⟨e3, Or.inr rfl, _, rfl, R3, jRet_mono (c_on R3.m (by rw [sg.2.2.1]; exact i.sw.1) n8 hp hv hu) ?_⟩
    intro r k y
    obtain ⟨y1, y2⟩ := y.1 ((onS_st sg).trans z)
    rw [Int.toNat_natCast] at y2
    refine ⟨y1, tel_2 (j := 3) i f0 m60 (show a < n by omega) hv hu (Or.inl ⟨rfl, c.2⟩) f2 ?_ (Or.inl ?_) (fun b => ?_) y2⟩
    · rw [e4, mI_sI ⟨by omega, by omega⟩, if_pos ⟨rfl, rfl⟩]
    · rw [e4, mI_sI ⟨by omega, by omega⟩, if_neg (by omega), mI_sI ⟨by omega, by omega⟩, if_pos ⟨rfl, rfl⟩]
    · rw [e4, mI_sI ⟨by omega, by omega⟩, if_neg (by omega), mI_sI ⟨by omega, by omega⟩, if_neg (by omega), mI_sI hu, mI_sI hv]
      by_cases c3 : b = 3
      · rw [if_neg (by omega), if_pos ⟨rfl, c3⟩, if_pos c3]
      · by_cases c4 : b = 4
        · rw [if_pos ⟨rfl, c4⟩, if_neg c3, if_pos c4]
        · rw [if_neg (by omega), if_neg (by omega), if_neg c3, if_neg c4]
  · intro r g w
    have y := w.2 (by rw [es]; exact z)
    rw [es] at y
    exact ⟨y.1, fin_0 hs j lo_6 (m6 hs) y.2⟩
theorem p_price {p v u : Int} (hp : rI p) (hv : rI v) (hu : rI u) (I : IN x h) : PR x 124 190 [.int (iI p), .int (iI v), .int (iI u)] h := by
  obtain ⟨n, nc, l, i, e⟩ := I
  refine jRet_of (by decide) (by decide) (Nat.le_of_ble_eq_true rfl) (j_R_price_0 ⟨i.r.1, jRet_mono (c_priceStatus i.r i.td i.cx hp hv hu) ?_⟩)
  intro q1 g1 w1
  obtain ⟨e1, e2⟩ := w1
  rw [e2]
  have hs := pr_r (m := x + 385) (h := h) (n := n) (a := p) (b := v) (c := u)
  obtain ⟨j, sq⟩ := in_6 (v := iI (prS (x + 385) h n p v u)) i
  have es : prS (x + 385) (sI h x 6 (iI (prS (x + 385) h n p v u))) n p v u = prS (x + 385) h n p v u := prS_st sq
  have n8 := j.n8
  refine ⟨_, e1, i.r.1, j.r.1, ?_⟩
  rw [g6, iI_0, iI_eq hs ⟨by omega, by omega⟩]
  refine ⟨fun z => j_R_price_20 ?_, fun z => ⟨Or.inl rfl, _, rfl, j.r, jRet_mono (c_price j.r.m j.sw.1 j.n8 hp hv hu) ?_⟩⟩
  · have c := pr_0 z
    obtain ⟨h6, eh, j6, sq6, f0, m60⟩ := in_6e i hs z
    rw [← eh]
    obtain ⟨a, rfl⟩ : ∃ a : Nat, p = (a : Int) := ⟨p.toNat, by omega⟩
    obtain ⟨p1, p2, p3⟩ := j6.r.p (p := a) (by omega)
    have R1 : LY x (sI h6 (x + 1 + 5 + a) 7 (iI v)) := j6.r.sI
    obtain ⟨o1, o2, o3⟩ := R1.p (p := a) (by omega)
    have R2 : LY x (sI (sI h6 (x + 1 + 5 + a) 7 (iI v)) (x + 1 + 5 + a) 8 (iI u)) := R1.sI
    rw [j6.r.f0, p2, R1.f0, o2]
    refine ⟨j6.r.1, j6.r.w.1, p1, p3, R1.1, R1.w.1, o1, o3, j_R_price_46 ⟨R2.1, jRet_mono (c_lampsChanged R2) ?_⟩⟩
    intro q2 g2 w2
    obtain ⟨e3, e4⟩ := w2
    have f2 : fg (fun q b => (q = x + 1 + 5 + a ∧ 3 ≤ b ∧ b ≤ 8) ∨ (q = x + 207 ∧ b = 13) ∨ (q = x + 24 ∧ b = 5)) h6 g2 := by
      rw [e4]
      exact ((fg.rf.wr (Or.inl ⟨rfl, by decide, by decide⟩)).wr (Or.inl ⟨rfl, by decide, by decide⟩)).wr (Or.inr (Or.inl ⟨rfl, rfl⟩))
    have f02 : ∀ {p k : Nat}, x + 385 ≤ p → mI g2 p k = mI h p k := fun hq => by rw [f2.eq (by omega), f0.eq (by omega)]
    have sg : stq (x + 385) h g2 := ⟨fun p h1 h2 => funext (fun k => f02 (by omega)), f02 (by omega), f02 (by omega), f02 (by omega)⟩
    have R3 : LY x g2 := by
      rw [e4]
      exact R2.sI
    refine ⟨e3, Or.inr rfl, _, rfl, R3, jRet_mono (c_price R3.m (by rw [sg.2.2.1]; exact i.sw.1) n8 hp hv hu) ?_⟩
    intro r k y
    obtain ⟨y1, y2⟩ := y.1 ((prS_st sg).trans z)
    rw [Int.toNat_natCast] at y2
    refine ⟨y1, tel_2 (j := 7) i f0 m60 (show a < n by omega) hv hu (Or.inr ⟨rfl, ⟨c.2.1, c.2.2.1⟩, c.2.2.2⟩) f2 ?_ (Or.inr ⟨rfl, ?_⟩) (fun b => ?_) y2⟩
    · rw [e4, mI_sI ⟨by omega, by omega⟩, if_pos ⟨rfl, rfl⟩]
    · rw [e4, mI_sI ⟨by omega, by omega⟩, if_neg (by omega), mI_sI hu, if_neg (by omega), mI_sI hv, if_neg (by omega), f0.eq (by omega)]
    · rw [e4, mI_sI ⟨by omega, by omega⟩, if_neg (by omega), mI_sI hu, mI_sI hv]
      by_cases c3 : b = 7
      · rw [if_neg (by omega), if_pos ⟨rfl, c3⟩, if_pos c3]
      · by_cases c4 : b = 8
        · rw [if_pos ⟨rfl, c4⟩, if_neg c3, if_pos c4]
        · rw [if_neg (by omega), if_neg (by omega), if_neg c3, if_neg c4]
  · intro r g w
    have y := w.2 (by rw [es]; exact z)
    rw [es] at y
    exact ⟨y.1, fin_0 hs j lo_6 (m6 hs) y.2⟩
end TELL2
