/-! what is made: objects, arrays; copying; Math -/
section WON
variable {base b L : Nat} {xs : Nat → Int32} {D : va_G} {tc : Nat → ClassId} {h h' : jHp} {s : State} {H H1 : Heap} {locs : List Loc}
theorem Wo.new (hw : Wo base b L xs D tc h s H locs) (hn : jn h' = jn h + 1) (he : ∀ q, 2 ≤ q → q < jn h + 2 → ce base b tc h' q = ce base b tc h q) (hk : Hk L xs h') (e : va_at D cls (base + jn h, ce base b tc h' (jn h + 2)) H1) (z : H1.size = H.size + 1) (oq : ∀ q : Nat, q < H.size → H1[q]? = H[q]?) : Wo base b L xs D tc h' s H1 locs := by
  obtain ⟨w1, w2, w3, w4, w5, w6⟩ := hw
  refine ⟨?_, by rw [z, hn, w2]; omega, ⟨by rw [z]; exact Nat.le_succ_of_le w3.1, fun q hq hA => ?_, w3.2.2⟩, w4.kept (oq b (by omega)), w5, hk⟩
  · rw [wl_new hn he]
    refine (w1.kept (fun k x hx => oq x.1 ((w1 k x hx).lt))).app (fun k x hx => ?_)
    have h0 : k < 1 := (List.getElem?_eq_some_iff.mp hx).1
    rw [show k = 0 by omega] at hx
    cases hx
    exact e
  · rw [oq q (Nat.lt_of_lt_of_le hq w3.1)]
    exact w3.2.1 q hq hA
theorem Hk.jA {c n : Nat} (hk : Hk L xs h) (hc : c < 15) : Hk L xs (jA h c n) := by
  obtain ⟨k1, k2, k3, k4⟩ := hk
  refine ⟨by rw [jz_jA, if_neg (by omega)]; exact k1, fun j hj => by rw [gI_jA, if_neg (by omega)]; exact k2 j hj, fun p hp => ?_, fun p hp => ?_⟩
  · rw [jz_jA] at hp
    split at hp
    · simp at hp
      omega
    · exact k3 p hp
  · rw [jz_jA] at hp
    rw [jn_jA]
    split at hp
    · omega
    · have := k4 p hp
      omega
theorem ce_jA {c n q : Nat} (hq : q < jn h + 2) : ce base b tc (jA h c n) q = ce base b tc h q :=
  ce_eq (by rw [jz_jA, if_neg (by omega)]) (by funext j; rw [gI_jA, if_neg (by omega)]) (by funext j; rw [gL_jA, if_neg (by omega)]) (by funext j; rw [gR_jA, if_neg (by omega)])
end WON
theorem fv_new {base b : Nat} {h : jHp} {c n ci k : Nat} (hci : ci < 10) (hk : k < cF ci) : fv base b (jA h c n) (jn h + 2) ci k = defaultValue (cY ci k) := by
  unfold fv
  rw [gI_jA, gL_jA, gR_jA, if_pos rfl, if_pos rfl, if_pos rfl]
  have hr := ty_ref ci hci k hk
  cases hy : cY ci k <;> rw [hy] at hr <;> first | rfl | exact absurd (hr rfl) (by decide)
section JN
variable {y pc kc ks : Nat} {ls st : List Value} {h : jHp} {Q : jQ}
theorem J_new {i ci : Nat} (hd : decode (mC y) pc = .ok (.new i, 3)) (hN : [mO y, i, ci] ∈ tN) (hci : ci < 10) (h1 : 1 ≤ kc) (h2 : cF ci ≤ ks) (kk : J y (pc + 3) (kc - 1) (ks - cF ci) ls (.ref (jn h + 2) :: st) (jA h ci 0) Q) : J y pc kc ks ls st h Q := by
  intro p l e R s m args below meth c Z base b L xs D tc hc H locs cells slots la hw hl g1 g2 hf
  have k1 := fun H1 hw1 => kk p l e R s m args below meth c Z base b L xs D tc hc H1 locs (cells + 1) (slots + cF ci) la hw1 hl (by omega) (by omega) hf
  obtain ⟨hx, hb, hr, hml, hown, hlk, hts, hnm, hK, hbs, hfr, hlo, hsp⟩ := hc
  have hX : [ci] ∈ tX := by
    have h9 : ∀ k, k < 10 → [k] ∈ tX := by decide +kernel
    exact h9 ci hci
  have hC : [ci] ∈ tC := by
    have h9 : ∀ k, k < 10 → [k] ∈ tC := by decide +kernel
    exact h9 ci hci
  have hcl : (Cond.classLink (cN (mO y)) i (cN ci)).before args s = true := hts _ (wN_ok _ hN)
  have hKn := hK.1 ci _ (cls_at ci hci)
  refine W.newcK hx hb hown hcl (hts _ (wX_ok _ hX)) (hts _ (wC_ok _ hC)) rfl hd (by omega) (by show slots + cF ci ≤ R.slots; omega) hKn.2.1 rfl fun H1 kC hkC e1 z1 o1 => ?_
  have k2 := k1 H1 (hw.new jn_jA (fun q _ hq => ce_jA hq) (hw.2.2.2.2.2.jA (by omega)) ?_ z1 o1)
  · rw [List.map_cons, cv_ref (by omega), ad_of (by omega), show jn h + 2 - 2 = jn h by omega, ← hw.2.1] at k2
    exact k2
  · rw [ce_obj (c := ci) (by rw [jz_jA, if_pos rfl]) hci]
    refine ⟨_, cls_at ci hci, ?_⟩
    have e2 : H1[base + jn h]? = some (blank (D.1 ci) kC) := by rw [← hw.2.1]; exact e1
    refine (u_born (cY ci) hts (in_gw hci) hKn hkC e2 (ty_ok ci hci)).to (fun k hk => ?_)
    show defaultValue (cY ci k) = (fl base b (jA h ci 0) (jn h + 2) ci).getD k .null
    rw [List.getD_eq_getElem?_getD, fl_get hk, fv_new hci hk]
    rfl
theorem J_nai {cd : Nat} {at0 : ArrayType} {n : Int32} (hd : decode (mC y) pc = .ok (.newarray at0, 2)) (hcd : (at0 = .int ∧ cd = 10) ∨ (at0 = .byte ∧ cd = 11)) (kk : jNew cd (fun kc ks ls st h => J y (pc + 2) kc ks ls st h Q) kc ks ls h n st) : J y pc kc ks ls (.int n :: st) h Q := by
  obtain ⟨h1, h2, h3, h4, kk⟩ := kk
  intro p l e R s m args below meth c Z base b L xs D tc hc H locs cells slots la hw hl g1 g2 hf
  have k1 := fun H1 hw1 => kk p l e R s m args below meth c Z base b L xs D tc hc H1 locs (cells + 1) (slots + n.toNatClampNeg) la hw1 hl (by omega) (by omega) hf
  obtain ⟨hx, hb, hr, hml, hown, hlk, hts, hnm, hK, hbs, hfr, hlo, hsp⟩ := hc
  obtain ⟨c10, c12, har, t0, ht0, hdv, hby⟩ : 10 ≤ cd ∧ cd < 12 ∧ (Cond.arrayClass (newarray.typeOf at0)).before args s = true ∧ ∃ t0, (tyl tc)[t0]? = some (tc cd, newarray.typeOf at0) ∧ defaultValue (newarray.typeOf at0) = .int 0 ∧ componentBytes (newarray.typeOf at0) ≤ 4 := by
    rcases hcd with ⟨rfl, rfl⟩ | ⟨rfl, rfl⟩
    · exact ⟨by omega, by omega, hts _ gw_ai, 0, rfl, rfl, by decide⟩
    · exact ⟨by omega, by omega, hts _ gw_ab, 1, rfl, rfl, by decide⟩
  have hbb : n.toNatClampNeg * componentBytes (newarray.typeOf at0) ≤ 536870912 := Nat.le_trans (Nat.mul_le_mul h2 hby) (by decide)
  refine va_newaK hx hb har rfl hd rfl h1 rfl hbb (by omega) (by omega) rfl fun H1 cA e1 z1 o1 hAr hNm => ?_
  have hcA : cA = tc cd := by
    have h9 := (hK.2 t0 _ ht0).2
    rcases hcd with ⟨rfl, rfl⟩ | ⟨rfl, rfl⟩
    · exact Option.some.inj (hNm.symm.trans h9)
    · exact Option.some.inj (hNm.symm.trans h9)
  subst hcA
  have k2 := k1 H1 (hw.new jn_jA (fun q _ hq => ce_jA hq) (hw.2.2.2.2.2.jA (by omega)) ?_ z1 o1)
  · rw [List.map_cons, cv_ref (by omega), ad_of (by omega), show jn h + 2 - 2 = jn h by omega, ← hw.2.1] at k2
    exact k2
  · rw [ce_int (c := cd) (by rw [jz_jA, if_pos rfl]) c10 c12]
    show H1[base + jn h]? = some (vp_cell _ _)
    rw [← hw.2.1, e1, vp_cell_i, jz_jA, if_pos rfl, hdv]
    congr 2
    funext j
    rw [gI_jA, if_pos rfl]
theorem J_naq {cd i : Nat} {n : Int32} (hd : decode (mC y) pc = .ok (.anewarray i, 3)) (hcd : ([mO y, i, 0] ∈ tA ∧ cd = 13) ∨ ([mO y, i, 5] ∈ tA ∧ cd = 14)) (kk : jNew cd (fun kc ks ls st h => J y (pc + 3) kc ks ls st h Q) kc ks ls h n st) : J y pc kc ks ls (.int n :: st) h Q := by
  obtain ⟨h1, h2, h3, h4, kk⟩ := kk
  intro p l e R s m args below meth c Z base b L xs D tc hc H locs cells slots la hw hl g1 g2 hf
  have k1 := fun H1 hw1 => kk p l e R s m args below meth c Z base b L xs D tc hc H1 locs (cells + 1) (slots + n.toNatClampNeg) la hw1 hl (by omega) (by omega) hf
  obtain ⟨hx, hb, hr, hml, hown, hlk, hts, hnm, hK, hbs, hfr, hlo, hsp⟩ := hc
  obtain ⟨c12, c15, ci, hli, hao, t0, ht0⟩ : 12 ≤ cd ∧ cd < 15 ∧ ∃ ci, (Cond.classLink (cN (mO y)) i (cN ci)).before args s = true ∧ va_AO (cN ci) s ∧ ∃ t0, (tyl tc)[t0]? = some (tc cd, FieldType.object (cN ci)) := by
    rcases hcd with ⟨u, rfl⟩ | ⟨u, rfl⟩
    · exact ⟨by omega, by omega, 0, hts _ (wA_ok _ u), hsp.2.1, 3, rfl⟩
    · exact ⟨by omega, by omega, 5, hts _ (wA_ok _ u), hsp.1, 4, rfl⟩
  refine W.anew hx hb hown hli (va_AO.use hao) rfl hd rfl h1 (by omega) (by omega) (by omega) fun cA kA comp f1 f2 f3 f4 => ?_
  have hcA : cA = tc cd := by
    obtain ⟨_, _, -, -, -, h9⟩ := (hK.2 t0 _ ht0).2
    exact Option.some.inj (f1.symm.trans h9)
  subst hcA
  have k2 := k1 _ (hw.new jn_jA (fun q _ hq => ce_jA hq) (hw.2.2.2.2.2.jA (by omega)) (H1 := H.push ({ cls := tc cd, slots := Array.replicate n.toNatClampNeg .null, vm := .none } : Cell)) ?_ (by simp) (fun q hq => by rw [Array.getElem?_push, if_neg (Nat.ne_of_lt hq)]))
  · rw [List.map_cons, cv_ref (by omega), ad_of (by omega), show jn h + 2 - 2 = jn h by omega, ← hw.2.1] at k2
    exact k2
  · rw [ce_ref (c := cd) (by rw [jz_jA, if_pos rfl]) c12]
    show _ = some (vp_cell _ _)
    rw [← hw.2.1, Array.getElem?_push_size, vp_cell_q, jz_jA, if_pos rfl, arrV_new]
    congr 2
    funext j
    rw [gR_jA, if_pos rfl]
    rfl
theorem J_mth {i z : Nat} {v : Value} {st' : List Value} (hH : [mO y, i, z] ∈ tH) (h1 : 1 ≤ mF y) (h2 : 23 ≤ mS y) (hct : cats st ≤ 8)
    (row : ∀ {p : Program} {l : Launch} {e : Env} {R : Room} {s : State} {m : MethodId} {args : Array Value} {below : List Frame} {meth : Method} {c : Code} {Z : State → Prop} {H : Heap} {locs : List Loc} {cells slots : Nat} {la : Array Slot} (base b : Nat), p.tables.exec = Jvm.exec → c.code = mC y → c.maxLocals = la.size → s.vm.findClass (cN (mO y)) = some m.cls → (Cond.methodLink (cN (mO y)) i (mN z)).before args s = true → (∀ w ∈ gw, w.before args s = true) → 1 ≤ R.frames → ((st.map (cv base b)).map fun v => v.category).sum + 15 ≤ R.locals → cells ≤ R.cells → slots ≤ R.slots → W p l e R s m args below meth c H locs cells slots Z (F0 m (pc + 3) la ((v :: st).map (cv base b))) → W p l e R s m args below meth c H locs cells slots Z (F0 m pc la (st'.map (cv base b))))
    (kk : J y (pc + 3) kc ks ls (v :: st) h Q) : J y pc kc ks ls st' h Q := by
  intro p l e R s m args below meth c Z base b L xs D tc hc H locs cells slots la hw hl g1 g2 hf
  have k1 := kk p l e R s m args below meth c Z base b L xs D tc hc H locs cells slots la hw hl g1 g2 hf
  obtain ⟨hx, hb, hr, hml, hown, hlk, hts, hnm, hK, hbs, hfr, hlo, hsp⟩ := hc
  have hlink : (Cond.methodLink (cN (mO y)) i (mN z)).before args s = true := hts _ (wH_ok _ hH)
  exact row base b hx hb (hml.trans hl.2.1.symm) hown hlink hts (by omega) (by rw [cats_eq]; omega) (by omega) (by omega) k1
theorem tC_math : (Cond.initialized "java/lang/Math") ∈ gw := wC_ok [11] (by decide +kernel)
theorem J_max {i : Nat} {a x : Int32} (hd : decode (mC y) pc = .ok (.invokestatic i, 3)) (hH : [mO y, i, 0] ∈ tH) (h1 : 1 ≤ mF y) (h2 : 23 ≤ mS y) (hct : cats st ≤ 8) (kk : J y (pc + 3) kc ks ls (.int (if x < a then a else x) :: st) h Q) : J y pc kc ks ls (.int a :: .int x :: st) h Q :=
  J_mth (v := .int (if x < a then a else x)) hH h1 h2 hct (fun base b hx hb hml hown hlink hts f1 f2 f3 f4 k => va_mmax hx hb hml hown hlink (hts _ (wS_ok [0] (by decide +kernel))) (hts _ tC_math) (hts _ (gw_code (z := 0) (by omega))) f1 (by omega) f3 f4 hd k) kk
theorem J_min {i : Nat} {a x : Int32} (hd : decode (mC y) pc = .ok (.invokestatic i, 3)) (hH : [mO y, i, 4] ∈ tH) (h1 : 1 ≤ mF y) (h2 : 23 ≤ mS y) (hct : cats st ≤ 8) (kk : J y (pc + 3) kc ks ls (.int (if a < x then a else x) :: st) h Q) : J y pc kc ks ls (.int a :: .int x :: st) h Q :=
  J_mth (v := .int (if a < x then a else x)) hH h1 h2 hct (fun base b hx hb hml hown hlink hts f1 f2 f3 f4 k => va_mmin hx hb hml hown hlink (hts _ (wS_ok [4] (by decide +kernel))) (hts _ tC_math) (hts _ (gw_code (z := 4) (by omega))) f1 (by omega) f3 f4 hd k) kk
theorem J_maxl {i : Nat} {a x : Int64} (hd : decode (mC y) pc = .ok (.invokestatic i, 3)) (hH : [mO y, i, 1] ∈ tH) (h1 : 1 ≤ mF y) (h2 : 23 ≤ mS y) (hct : cats st ≤ 8) (kk : J y (pc + 3) kc ks ls (.long (if a < x then x else a) :: st) h Q) : J y pc kc ks ls (.long a :: .long x :: st) h Q :=
  J_mth (v := .long (if a < x then x else a)) hH h1 h2 hct (fun base b hx hb hml hown hlink hts f1 f2 f3 f4 k => va_mmax_long hx hb hml hown hlink (hts _ (wS_ok [1] (by decide +kernel))) (hts _ tC_math) (hts _ (gw_code (z := 1) (by omega))) f1 f2 f3 f4 hd k) kk
theorem J_minl {i : Nat} {a x : Int64} (hd : decode (mC y) pc = .ok (.invokestatic i, 3)) (hH : [mO y, i, 2] ∈ tH) (h1 : 1 ≤ mF y) (h2 : 23 ≤ mS y) (hct : cats st ≤ 8) (kk : J y (pc + 3) kc ks ls (.long (if a < x then a else x) :: st) h Q) : J y pc kc ks ls (.long a :: .long x :: st) h Q :=
  J_mth (v := .long (if a < x then a else x)) hH h1 h2 hct (fun base b hx hb hml hown hlink hts f1 f2 f3 f4 k => va_mmin_long hx hb hml hown hlink (hts _ (wS_ok [2] (by decide +kernel))) (hts _ tC_math) (hts _ (gw_code (z := 2) (by omega))) f1 f2 f3 f4 hd k) kk
theorem J_absl {i : Nat} {x : Int64} (hd : decode (mC y) pc = .ok (.invokestatic i, 3)) (hH : [mO y, i, 3] ∈ tH) (h1 : 1 ≤ mF y) (h2 : 23 ≤ mS y) (hct : cats st ≤ 8) (kk : J y (pc + 3) kc ks ls (.long (if 0 < x then x else -x) :: st) h Q) : J y pc kc ks ls (.long x :: st) h Q :=
  J_mth (v := .long (if 0 < x then x else -x)) hH h1 h2 hct (fun base b hx hb hml hown hlink hts f1 f2 f3 f4 k => va_mabs_long hx hb hml hown hlink (hts _ (wS_ok [3] (by decide +kernel))) (hts _ tC_math) (hts _ (gw_code (z := 3) (by omega))) f1 (by omega) f3 f4 hd k) kk
end JN
