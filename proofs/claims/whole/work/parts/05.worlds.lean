/-! the machine's own worlds: how the abstract heap lies in the machine's heap -/
def ad (base b q : Nat) : Nat := if q = 1 then b else base + (q - 2)
def rfo (base b q : Nat) : Option Nat := if q = 0 then none else some (ad base b q)
def cv (base b : Nat) : Value → Value
  | .ref q => va_rf (rfo base b q)
  | v => v
def fv (base b : Nat) (h : jHp) (p c k : Nat) : Value := match jkf (cY c k) with
  | 1 => .long (gL h p k)
  | 2 => va_rf (rfo base b (gR h p k))
  | _ => .int (gI h p k)
def fl (base b : Nat) (h : jHp) (p c : Nat) : List Value := (List.range (cF c)).map (fv base b h p c)
def ce (base b : Nat) (tc : Nat → ClassId) (h : jHp) (p : Nat) : va_E :=
  if (jz h p).1 < 10 then .inr ((jz h p).1, fl base b h p (jz h p).1)
  else if (jz h p).1 < 12 then .inl (tc (jz h p).1, (jz h p).2, .inl (gI h p))
  else .inl (tc (jz h p).1, (jz h p).2, .inr (.inr (.inr (.inr (fun j => rfo base b (gR h p j))))))
def wl (base b : Nat) (tc : Nat → ClassId) (h : jHp) : va_W := (List.range (jn h)).map (fun j => (base + j, ce base b tc h (j + 2)))
def tyl (tc : Nat → ClassId) : List (ClassId × FieldType) := [(tc 10, .int), (tc 11, .byte), (tc 12, .array .int), (tc 13, .object (cN 0)), (tc 14, .object (cN 5))]
def Hk (L : Nat) (xs : Nat → Int32) (h : jHp) : Prop := jz h 1 = (20, L) ∧ (∀ j, j < L → gI h 1 j = xs j) ∧ (∀ p, (jz h p).1 = 20 → p = 1) ∧ ∀ p, (jz h p).1 < 15 → 2 ≤ p ∧ p < jn h + 2
/-- what the tables say of int[][] -/
def aoI (U : State) : Prop := (Cond.arrayOver (.array .int)).before #[] U = true
def spw (U : State) : Prop := va_AO (cN 5) U ∧ va_AO (cN 0) U ∧ aoI U ∧ ∀ x ∈ tZ, va_Nw (.methodLinkNest (cN (x.getD 0 0)) (x.getD 1 0) (mN (x.getD 2 0)) "LightRoom") U
def okv : Value → Bool
  | .int _ => true
  | .long _ => true
  | .ref _ => true
  | _ => false
def Lr (base b : Nat) (la : Array Slot) (n : Nat) (ls : List Value) : Prop := ls.length = n ∧ la.size = n ∧ lv_wf la ∧ ∀ i, okv (nth ls i) = true → la[i]? = some (.val (cv base b (nth ls i)))
section WL
variable {base b : Nat} {tc : Nat → ClassId} {h h' : jHp} {p : Nat}
theorem wl_len : (wl base b tc h).length = jn h := by simp [wl]
theorem wl_get {j : Nat} (hj : j < jn h) : (wl base b tc h)[j]? = some (base + j, ce base b tc h (j + 2)) := by
  unfold wl
  rw [List.getElem?_map, List.getElem?_range hj]
  rfl
theorem ad_of (h1 : 2 ≤ p) : ad base b p = base + (p - 2) := by
  unfold ad
  rw [if_neg (by omega)]
theorem wl_at (h1 : 2 ≤ p) (h2 : p < jn h + 2) : (wl base b tc h)[p - 2]? = some (ad base b p, ce base b tc h p) := by
  rw [wl_get (by omega), ad_of h1, show p - 2 + 2 = p by omega]
theorem rfo_of (h1 : 2 ≤ p) : rfo base b p = some (ad base b p) := by
  unfold rfo
  rw [if_neg (by omega)]
theorem cv_ref (h1 : p ≠ 0) : cv base b (.ref p) = .ref (ad base b p) := by
  show va_rf (rfo base b p) = _
  unfold rfo
  rw [if_neg h1]
  rfl
theorem wl_D : va_D (fun q => base ≤ q) (wl base b tc h) := by
  have key : ∀ (i : Nat) (x : Nat × va_E), (wl base b tc h)[i]? = some x → x.1 = base + i := by
    intro i x hx
    have hl : i < jn h := by
      have := (List.getElem?_eq_some_iff.mp hx).1
      rwa [wl_len] at this
    rw [wl_get hl] at hx
    cases hx
    rfl
  refine ⟨fun i j x y hi hj hxy => ?_, fun k x hx => ?_⟩
  · have := key i x hi
    have := key j y hj
    omega
  · have := key k x hx
    show base ≤ x.1
    omega
theorem wl_ext (hn : jn h' = jn h) (he : ∀ q, 2 ≤ q → q ≠ p → ce base b tc h' q = ce base b tc h q) (h1 : 2 ≤ p) (h2 : p < jn h + 2) : wl base b tc h' = (wl base b tc h).set (p - 2) (ad base b p, ce base b tc h' p) := by
  apply List.ext_getElem?
  intro j
  by_cases hj : j < jn h
  · rw [wl_get (by omega)]
    by_cases e : j = p - 2
    · subst e
      rw [List.getElem?_set_self (by rw [wl_len]; omega), ad_of h1, show p - 2 + 2 = p by omega]
    · rw [List.getElem?_set_ne (by omega), wl_get hj, he (j + 2) (by omega) (by omega)]
  · rw [List.getElem?_eq_none (by rw [wl_len]; omega), List.getElem?_eq_none (by rw [List.length_set, wl_len]; omega)]
theorem wl_new (hn : jn h' = jn h + 1) (he : ∀ q, 2 ≤ q → q < jn h + 2 → ce base b tc h' q = ce base b tc h q) : wl base b tc h' = wl base b tc h ++ [(base + jn h, ce base b tc h' (jn h + 2))] := by
  apply List.ext_getElem?
  intro j
  by_cases hj : j < jn h
  · rw [wl_get (by omega), List.getElem?_append_left (by rw [wl_len]; exact hj), wl_get hj, he (j + 2) (by omega) (by omega)]
  · by_cases e : j = jn h
    · subst e
      rw [wl_get (by omega), List.getElem?_append_right (by rw [wl_len]; omega), wl_len, Nat.sub_self]
      rfl
    · rw [List.getElem?_eq_none (by rw [wl_len]; omega), List.getElem?_eq_none (by rw [List.length_append, wl_len]; simp; omega)]
end WL
section RW
variable {h : jHp} {p k q j c n : Nat} {v : Int32} {w : Int64} {r : Nat}
theorem jn_sI : jn (sI h p k v) = jn h := rfl
theorem jn_sL : jn (sL h p k w) = jn h := rfl
theorem jn_sR : jn (sR h p k r) = jn h := rfl
theorem jz_sI : jz (sI h p k v) = jz h := rfl
theorem jz_sL : jz (sL h p k w) = jz h := rfl
theorem jz_sR : jz (sR h p k r) = jz h := rfl
theorem gI_sI : gI (sI h p k v) q j = if q = p ∧ j = k then v else gI h q j := rfl
theorem gL_sI : gL (sI h p k v) = gL h := rfl
theorem gR_sI : gR (sI h p k v) = gR h := rfl
theorem gI_sL : gI (sL h p k w) = gI h := rfl
theorem gL_sL : gL (sL h p k w) q j = if q = p ∧ j = k then w else gL h q j := rfl
theorem gR_sL : gR (sL h p k w) = gR h := rfl
theorem gI_sR : gI (sR h p k r) = gI h := rfl
theorem gL_sR : gL (sR h p k r) = gL h := rfl
theorem gR_sR : gR (sR h p k r) q j = if q = p ∧ j = k then r else gR h q j := rfl
theorem jn_jA : jn (jA h c n) = jn h + 1 := rfl
theorem jz_jA : jz (jA h c n) q = if q = jn h + 2 then (c, n) else jz h q := rfl
theorem gI_jA : gI (jA h c n) q j = if q = jn h + 2 then 0 else gI h q j := rfl
theorem gL_jA : gL (jA h c n) q j = if q = jn h + 2 then 0 else gL h q j := rfl
theorem gR_jA : gR (jA h c n) q j = if q = jn h + 2 then 0 else gR h q j := rfl
theorem jn_jY {a sp b dp : Nat} : jn (jY h a sp b dp n) = jn h := rfl
theorem jz_jY {a sp b dp : Nat} : jz (jY h a sp b dp n) = jz h := rfl
theorem gI_jY {a sp b dp : Nat} : gI (jY h a sp b dp n) q j = if q = b then va_cpy (gI h a) (gI h b) sp dp n j else gI h q j := rfl
theorem gL_jY {a sp b dp : Nat} : gL (jY h a sp b dp n) = gL h := rfl
theorem gR_jY {a sp b dp : Nat} : gR (jY h a sp b dp n) = gR h := rfl
end RW
section CE
variable {base b : Nat} {tc : Nat → ClassId} {h h' : jHp} {p : Nat}
/-- a cell depends on its own place alone -/
theorem ce_eq {q : Nat} (hz : jz h' q = jz h q) (hi : gI h' q = gI h q) (hl : gL h' q = gL h q) (hr : gR h' q = gR h q) : ce base b tc h' q = ce base b tc h q := by
  have hf : ∀ c, fl base b h' q c = fl base b h q c := by
    intro c
    unfold fl
    apply List.map_congr_left
    intro k _
    unfold fv
    rw [hi, hl, hr]
  unfold ce
  rw [hz, hi, hr, hf]
theorem ce_obj {c : Nat} (hc : (jz h p).1 = c) (h10 : c < 10) : ce base b tc h p = .inr (c, fl base b h p c) := by
  unfold ce
  rw [hc, if_pos h10]
theorem ce_int {c : Nat} (hc : (jz h p).1 = c) (h10 : 10 ≤ c) (h12 : c < 12) : ce base b tc h p = .inl (tc c, (jz h p).2, .inl (gI h p)) := by
  unfold ce
  rw [hc, if_neg (by omega), if_pos h12]
theorem ce_ref {c : Nat} (hc : (jz h p).1 = c) (h12 : 12 ≤ c) : ce base b tc h p = .inl (tc c, (jz h p).2, .inr (.inr (.inr (.inr (fun j => rfo base b (gR h p j)))))) := by
  unfold ce
  rw [hc, if_neg (by omega), if_neg (by omega)]
theorem fl_get {c k : Nat} (hk : k < cF c) : (fl base b h p c)[k]? = some (fv base b h p c k) := by
  unfold fl
  rw [List.getElem?_map, List.getElem?_range hk]
  rfl
theorem fl_len {c : Nat} : (fl base b h p c).length = cF c := by simp [fl]
theorem fl_set {c k : Nat} {v : Value} (hk : k < cF c) (hv : fv base b h' p c k = v) (ho : ∀ j, j ≠ k → fv base b h' p c j = fv base b h p c j) : fl base b h' p c = (fl base b h p c).set k v := by
  apply List.ext_getElem?
  intro j
  by_cases hj : j < cF c
  · rw [fl_get hj]
    by_cases e : j = k
    · subst e
      rw [List.getElem?_set_self (by rw [fl_len]; exact hj), hv]
    · rw [List.getElem?_set_ne (by omega), fl_get hj, ho j e]
  · rw [List.getElem?_eq_none (by rw [fl_len]; omega), List.getElem?_eq_none (by rw [List.length_set, fl_len]; omega)]
end CE
/-! locals -/
theorem nth_s1 {v : Value} : ∀ {l : List Value} {i j : Nat}, i < l.length → nth (s1 l i v) j = if j = i then v else if j + 1 = i then kl (nth l j) else nth l j
  | [], _, _, h => absurd h (by simp)
  | _ :: r, 0, 0, _ => rfl
  | _ :: r, 0, j + 1, _ => by
    rw [if_neg (by omega), if_neg (by omega)]
    rfl
  | a :: r, 1, 0, _ => rfl
  | a :: r, n + 2, 0, _ => by
    rw [if_neg (by omega), if_neg (by omega)]
    rfl
  | a :: r, n + 1, j + 1, h => by
    show nth (s1 r n v) j = _
    rw [nth_s1 (l := r) (i := n) (j := j) (by simpa using h)]
    simp only [Nat.add_right_cancel_iff]
    rfl
theorem nth_s2 {v : Value} : ∀ {l : List Value} {i j : Nat}, i + 1 < l.length → nth (s2 l i v) j = if j = i then v else if j = i + 1 then uu else if j + 1 = i then kl (nth l j) else nth l j
  | [], _, _, h => absurd h (by simp)
  | [_], 0, _, h => absurd h (by simp)
  | _ :: _ :: r, 0, 0, _ => rfl
  | _ :: _ :: r, 0, 1, _ => rfl
  | _ :: _ :: r, 0, j + 2, _ => by
    rw [if_neg (by omega), if_neg (by omega), if_neg (by omega)]
    rfl
  | a :: r, 1, 0, _ => rfl
  | a :: r, n + 2, 0, _ => by
    rw [if_neg (by omega), if_neg (by omega), if_neg (by omega)]
    rfl
  | a :: r, n + 1, j + 1, h => by
    show nth (s2 r n v) j = _
    rw [nth_s2 (l := r) (i := n) (j := j) (by simpa using h)]
    simp only [Nat.add_right_cancel_iff]
    rfl
theorem len_s1 {v : Value} : ∀ {l : List Value} {i : Nat}, (s1 l i v).length = l.length
  | [], _ => rfl
  | _ :: r, 0 => rfl
  | _ :: r, n + 1 => by
    show (s1 r n v).length + 1 = _
    rw [len_s1]
    rfl
theorem len_s2 {v : Value} : ∀ {l : List Value} {i : Nat}, (s2 l i v).length = l.length
  | [], _ => rfl
  | [_], 0 => rfl
  | _ :: _ :: r, 0 => rfl
  | _ :: r, n + 1 => by
    show (s2 r n v).length + 1 = _
    rw [len_s2]
    rfl
theorem cln_cons (x : Nat) (m : List Nat) (a : Value) (r : List Value) : cln (x :: m) (a :: r) = a :: cln m r ∨ cln (x :: m) (a :: r) = uu :: cln m r := by
  by_cases e : x = 1
  · subst e
    exact Or.inl rfl
  · refine Or.inr ?_
    rw [cln]
    exact fun h => e h
theorem len_cln : ∀ {m : List Nat} {l : List Value}, (cln m l).length = l.length
  | [], _ => by simp [cln]
  | _ :: _, [] => by simp [cln]
  | x :: m, a :: r => by
    rcases cln_cons x m a r with h | h
    · rw [h, List.length_cons, len_cln, List.length_cons]
    · rw [h, List.length_cons, len_cln, List.length_cons]
theorem nth_cln : ∀ {m : List Nat} {l : List Value} {i : Nat}, okv (nth (cln m l) i) = true → nth (cln m l) i = nth l i
  | [], l, i, _ => by simp [cln]
  | _ :: _, [], i, _ => by simp [cln]
  | x :: m, a :: r, i, h => by
    rcases cln_cons x m a r with e | e
    · rw [e] at h ⊢
      cases i with
      | zero => rfl
      | succ i => exact nth_cln (m := m) (l := r) (i := i) h
    · rw [e] at h ⊢
      cases i with
      | zero => exact absurd (show okv uu = true from h) (by decide)
      | succ i => exact nth_cln (m := m) (l := r) (i := i) h
theorem okv_kl {v : Value} (h : okv (kl v) = true) : kl v = v ∧ v.category ≠ 2 := by
  cases v <;> simp_all [kl, okv, uu, Value.category]
theorem cat_cv {base b : Nat} {v : Value} : (cv base b v).category = v.category := by
  cases v <;> simp [cv]
  rename_i q
  unfold rfo
  split <;> simp [va_rf, Value.category]
/-- all that is known of the locals, as the kit has it -/
def lst (base b : Nat) (ls : List Value) : List (Nat × Value) := (List.range ls.length).filterMap (fun i => if okv (nth ls i) = true then some (i, cv base b (nth ls i)) else none)
theorem nth_len : ∀ {l : List Value} {i : Nat}, okv (nth l i) = true → i < l.length
  | [], i, h => absurd h (by simp [nth, okv, uu])
  | _ :: r, 0, _ => by simp
  | _ :: r, i + 1, h => by
    have := nth_len (l := r) (i := i) h
    simp
    omega
theorem mem_lst {base b : Nat} {ls : List Value} {i : Nat} (h : okv (nth ls i) = true) : (i, cv base b (nth ls i)) ∈ lst base b ls := by
  refine List.mem_filterMap.mpr ⟨i, List.mem_range.mpr (nth_len h), ?_⟩
  rw [if_pos h]
theorem Lr.has {base b n : Nat} {la : Array Slot} {ls : List Value} (h : Lr base b la n ls) : lv_has la n (lst base b ls) := by
  obtain ⟨h1, h2, h3, h4⟩ := h
  refine ⟨h2, h3, fun q hq => ?_⟩
  obtain ⟨i, -, hi⟩ := List.mem_filterMap.mp hq
  split at hi
  · rename_i ho
    cases hi
    exact h4 i ho
  · cases hi
theorem Lr.s1 {base b n i : Nat} {la la' : Array Slot} {ls : List Value} {v : Value} (h : Lr base b la n ls) (hi : i < n) (h' : lv_has la' n ((i, cv base b v) :: (lst base b ls).filter (fun q => !(q.1 == i) && !(q.1 + 1 == i && q.2.category == 2)))) : Lr base b la' n (s1 ls i v) := by
  obtain ⟨h1, h2, h3, h4⟩ := h
  refine ⟨len_s1.trans h1, h'.1, h'.2.1, fun j hj => ?_⟩
  rw [nth_s1 (by omega)] at hj ⊢
  by_cases e : j = i
  · rw [if_pos e]
    subst e
    exact h'.2.2 (j, cv base b v) List.mem_cons_self
  · rw [if_neg e] at hj ⊢
    by_cases e2 : j + 1 = i
    · rw [if_pos e2] at hj ⊢
      obtain ⟨k1, k2⟩ := okv_kl hj
      rw [k1] at hj ⊢
      refine h'.2.2 (j, _) (List.mem_cons_of_mem _ (List.mem_filter.mpr ⟨mem_lst hj, ?_⟩))
      have k3 : (cv base b (nth ls j)).category ≠ 2 := by rw [cat_cv]; exact k2
      simp [e]
      exact Or.inr k3
    · rw [if_neg e2] at hj ⊢
      refine h'.2.2 (j, _) (List.mem_cons_of_mem _ (List.mem_filter.mpr ⟨mem_lst hj, ?_⟩))
      simp [e, e2]
theorem Lr.s2 {base b n i : Nat} {la la' : Array Slot} {ls : List Value} {v : Value} (h : Lr base b la n ls) (hi : i + 1 < n) (h' : lv_has la' n ((i, cv base b v) :: (lst base b ls).filter (fun q => !(q.1 == i) && (!(q.1 == i + 1) && !(q.1 + 1 == i && q.2.category == 2))))) : Lr base b la' n (s2 ls i v) := by
  obtain ⟨h1, h2, h3, h4⟩ := h
  refine ⟨len_s2.trans h1, h'.1, h'.2.1, fun j hj => ?_⟩
  rw [nth_s2 (by omega)] at hj ⊢
  by_cases e : j = i
  · rw [if_pos e]
    subst e
    exact h'.2.2 (j, cv base b v) List.mem_cons_self
  · rw [if_neg e] at hj ⊢
    by_cases e1 : j = i + 1
    · rw [if_pos e1] at hj
      exact absurd hj (by decide)
    · rw [if_neg e1] at hj ⊢
      by_cases e2 : j + 1 = i
      · rw [if_pos e2] at hj ⊢
        obtain ⟨k1, k2⟩ := okv_kl hj
        rw [k1] at hj ⊢
        refine h'.2.2 (j, _) (List.mem_cons_of_mem _ (List.mem_filter.mpr ⟨mem_lst hj, ?_⟩))
        have k3 : (cv base b (nth ls j)).category ≠ 2 := by rw [cat_cv]; exact k2
        simp [e, e1]
        exact Or.inr k3
      · rw [if_neg e2] at hj ⊢
        refine h'.2.2 (j, _) (List.mem_cons_of_mem _ (List.mem_filter.mpr ⟨mem_lst hj, ?_⟩))
        simp [e, e1, e2]
theorem Lr.cln {base b n : Nat} {la : Array Slot} {ls : List Value} (m : List Nat) (h : Lr base b la n ls) : Lr base b la n (cln m ls) := by
  obtain ⟨h1, h2, h3, h4⟩ := h
  refine ⟨len_cln.trans h1, h2, h3, fun i hi => ?_⟩
  have e := nth_cln hi
  rw [e] at hi ⊢
  exact h4 i hi
theorem Lr.at {base b n i : Nat} {la : Array Slot} {ls : List Value} {v : Value} (h : Lr base b la n ls) (hv : nth ls i = v) (ho : okv v = true) : la[i]? = some (.val (cv base b v)) := by
  subst hv
  exact h.2.2.2 i ho
