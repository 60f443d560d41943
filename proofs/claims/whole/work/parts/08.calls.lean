/-! the tables' words in another state -/
theorem aoI_spec {s : State} (h : aoI s) : ∃ comp c k, s.vm.findClass (FieldType.array .int).toString = some comp ∧ (s.vm.classes.findIdx? fun (x : Class) => match x.kind with | .array component _ => component == comp | _ => false) = some c ∧ s.vm.classes[c]? = some k ∧ k.kind = .array comp (.array .int) ∧ s.vm.findClass ("[" ++ (FieldType.array .int).toString) = some c :=
  arrayOverA_spec h
theorem aoI.moved {u U : State} (hvm : u.vm.Alike U.vm) (h : aoI u) : aoI U := by
  obtain ⟨comp, c, k, h1, h2, h3, h4, h5⟩ := aoI_spec h
  obtain ⟨k', hk', he⟩ := hvm.2.2 _ _ h3
  have hi : (U.vm.classes.findIdx? fun (x : Class) => match x.kind with | .array component _ => component == comp | _ => false) = some c := by
    have e0 := va_idx_bare U.vm comp
    have e1 := va_idx_bare u.vm comp
    first | rw [hvm.bare_eq] at e0 | rw [hvm.bare_eq] at e1
    exact (e0.symm.trans e1).trans h2
  have hkind : k'.kind = .array comp (.array .int) := by rw [he]; exact h4
  have f1 : U.vm.findClass (FieldType.array .int).toString = some comp := by rw [hvm.findClass]; exact h1
  have f2 : U.vm.findClass ("[" ++ (FieldType.array .int).toString) = some c := by rw [hvm.findClass]; exact h5
  unfold aoI Cond.before Cond.holds
  simp only [Cond.value]
  rw [f1, Option.bind_some]
  refine (congrArg (fun o : Option Nat => (o.bind (fun c => (U.vm.classes[c]?).map fun (k : Class) => match k.kind with | .array _ ty => decide (ty = FieldType.array .int) && decide (U.vm.findClass ("[" ++ (FieldType.array .int).toString) = some c) | _ => false) == some true)) hi).trans ?_
  simp [hk', hkind, f2]
theorem spw.warm {s U : State} (hW : s.WarmedH U.vm) (h : spw s) : spw U := ⟨h.1.moved hW.alike, h.2.1.moved hW.alike, h.2.2.1.moved hW.alike, fun x hx => (h.2.2.2 x hx).warmM hW⟩
theorem spw.calling {U : State} (g : JFrame) (mk : MethodId) (a : Array Value) (h : spw U) : spw (U.calling g mk a) := ⟨h.1.moved (Vm.Alike.refl U.vm), h.2.1.moved (Vm.Alike.refl U.vm), h.2.2.1.moved (Vm.Alike.refl U.vm), fun x hx => (h.2.2.2 x hx).same rfl rfl⟩
theorem good_gw {ws : List Cond} (h : ∀ w ∈ ws, w ∈ gw) : GoodIn gw ws := fun w hw => ⟨h w hw, good_of_word (List.all_eq_true.mp gw_all w (h w hw))⟩
theorem jWs_in {z : Nat} (hz : z < 200) : ∀ w ∈ jWs z, w ∈ gw := by
  intro w hw
  rcases List.mem_cons.mp hw with rfl | hw
  · exact gw_code hz
  · exact hw
theorem mOk_at {z : Nat} (hz : z < 201) : (mN z).cls = cN (mO z) ∧ (mN z).cls ≠ "java/lang/invoke/MethodHandle" ∧ (mN z).cls ≠ "java/lang/invoke/VarHandle" ∧ (5 ≤ z → Jvm.plainName (mN z).cls = true) := by
  have h := List.all_eq_true.mp mOk_all z (List.mem_range.mpr hz)
  simp only [mOk, Bool.and_eq_true, decide_eq_true_eq, Bool.or_eq_true] at h
  exact ⟨h.1.1.1, h.1.1.2, h.1.2, fun h5 => h.2.resolve_left (by omega)⟩
theorem jWd.blind {base b L : Nat} {xs : Nat → Int32} {D : va_G} {tc : Nat → ClassId} {h : jHp} {as : List Value} : FrameBlind (va_Pc as (jWd base b L xs D tc h)) := by
  intro a U g mk q
  obtain ⟨q0, qK, qP, qs, qX, qb, qk, qw⟩ := q
  exact ⟨q0, va_K.moved (u := U) (U := U.calling g mk a) (Vm.Alike.refl U.vm) qK, qP, qs, va_X.moved (u := U) (U := U.calling g mk a) (Vm.Alike.refl U.vm) qX, qb, qk, qw.calling g mk a⟩
theorem cats_eq (base b : Nat) : ∀ (r : List Value), ((r.map (cv base b)).map fun v => v.category).sum = cats r
  | [] => rfl
  | v :: r => by
    simp only [List.map_cons, List.sum_cons, cats_eq base b r, cat_cv, cats]
section CALL
variable {y pc kc ks : Nat} {ls st : List Value} {h : jHp} {Q : jQ}
/-- behind a call -/
theorem J_back {p : Program} {l : Launch} {e : Env} {R : Room} {s : State} {m : MethodId} {args : Array Value} {below : List Frame} {meth : Method} {c : Code} {Z : State → Prop} {base b L : Nat} {xs : Nat → Int32} {D : va_G} {tc : Nat → ClassId} (hc : Cx y p R s m args meth c base D tc) {H : Heap} {locs : List Loc} {cells slots : Nat} {la : Array Slot} (hw : Wo base b L xs D tc h s H locs) (hl : Lr base b la (mL y) ls) (g1 : cells + kc ≤ R.cells) (g2 : slots + ks ≤ R.slots)
    (hf : ∀ (v : Option Value) (h' : jHp) (H' : Heap) (locs' : List Loc) (cells' slots' pc' : Nat) (la' : Array Slot), Q v h' → Wo base b L xs D tc h' s H' locs' → cells' ≤ R.cells → slots' ≤ R.slots → rtO y pc' v → W p l e R s m args below meth c H' locs' cells' slots' Z (F0 m pc' la' ((v.map (cv base b)).toList)))
    {k1 s1 : Nat} (hk1 : k1 ≤ kc) (hs1 : s1 ≤ ks) {st0 rest : List Value} {Q1 : jQ}
    (hr : va_Run p l e R s m args below meth c H locs cells slots k1 s1 (F0 m pc la st0) (rest.map (cv base b)) (fun st o t => (∃ (v : Option Value) (h' : jHp), o = .returned (v.map (cv base b)) ∧ Q1 v h' ∧ jWd base b L xs D tc h' t) ∧ va_F (fun q => base ≤ q) st t) (fun q => base ≤ q))
    (kk : ∀ v h', Q1 v h' → J y (pc + 3) (kc - k1) (ks - s1) ls (v.toList ++ rest) h' Q) : W p l e R s m args below meth c H locs cells slots Z (F0 m pc la st0) := by
  intro T hT X
  obtain ⟨v, st₀, t, T', Lc, h0, X', hL, e1, e2, ⟨⟨v', h', ev, hq, wK, wP, ws, wX, wb, wk, ww⟩, hz, hk⟩, step⟩ := hr T hT X
  have ev : v = v'.map (cv base b) := by simpa using ev
  subst ev
  rw [h0] at hz hk
  have hS := hw.2.2.1
  have hal : s.vm.Alike t.vm := by rw [← e2]; exact X'.warmed.alike
  have hw' : Wo base b L xs D tc h' s T'.heap (locs ++ Lc) := by
    refine ⟨by rw [e1]; exact wP, by rw [e1]; exact ws, ⟨Nat.le_trans hS.1 (by rw [e1]; exact hz), fun q u1 u2 => ?_, fun q hq => ?_⟩, by rw [e1]; exact va_X.moved hal.symm wX, wb, wk⟩
    · rw [e1, hk q (Nat.lt_of_lt_of_le u1 hS.1) u2]
      exact hS.2.1 q u1 u2
    · rcases List.mem_append.mp hq with h | h
      · exact hS.2.2 q h
      · exact hL q h
  obtain ⟨t2, a1, b1⟩ := kk v' h' hq p l e R s m args below meth c Z base b L xs D tc hc T'.heap (locs ++ Lc) (cells + k1) (slots + s1) la hw' hl (by omega) (by omega) hf T' rfl X'
  refine ⟨t2, step t2 ?_, b1⟩
  have ee : (v'.map (cv base b)).toList ++ rest.map (cv base b) = (v'.toList ++ rest).map (cv base b) := by
    cases v' <;> simp
  show Steps p.tables e below (T'.setTop (F0 m (pc + 3) la ((v'.map (cv base b)).toList ++ rest.map (cv base b)))) t2
  rw [ee]
  exact a1
theorem jWd_of {p : Program} {R : Room} {s : State} {m : MethodId} {args : Array Value} {meth : Method} {c : Code} {base b L : Nat} {xs : Nat → Int32} {D : va_G} {tc : Nat → ClassId} (hc : Cx y p R s m args meth c base D tc) {H : Heap} {locs : List Loc} (hw : Wo base b L xs D tc h s H locs) {U : State} (hU : U.heap = H) (hW : s.WarmedH U.vm) : jWd base b L xs D tc h U := by
  obtain ⟨hx, hb, hr, hml, hown, hlk, hts, hnm, hK, hbs, hfr, hlo, hsp⟩ := hc
  exact ⟨va_K.moved hW.alike hK, by rw [hU]; exact hw.1, by rw [hU]; exact hw.2.1, by rw [hU]; exact va_X.moved hW.alike hw.2.2.2.1, hw.2.2.2.2.1, hw.2.2.2.2.2, hsp.warm hW⟩
theorem tM_facts {i z n kd : Nat} (hM : [mO y, i, z, n, kd] ∈ tM ++ tZ) : z < 200 ∧ (parseMethodDescriptor (mN z).desc).map (fun d => d.parameters.length) = some (n - (if kd = 2 then 0 else 1)) ∧ (kd = 1 ∨ kd = 3 → (mN z).name = "<init>") ∧ (kd = 0 → [z] ∈ tV) ∧ (kd = 2 → [z] ∈ tS) ∧ (kd ≠ 2 → [z] ∈ tI) ∧ [mO z] ∈ tC := by
  have h1 := List.all_eq_true.mp tM_n _ hM
  have h2 := List.all_eq_true.mp tM_i _ hM
  have h3 := List.all_eq_true.mp tM_z _ hM
  have h4 := List.all_eq_true.mp tM_v _ hM
  simp only [List.getD_cons_zero, List.getD_cons_succ, Bool.and_eq_true, decide_eq_true_eq] at h1 h2 h3 h4
  exact ⟨h3.1, h1, h2, h4.1.1.1, h4.1.1.2, h4.1.2, h4.2⟩
theorem J_callV {i z n p0 k1 s1 : Nat} {As rest : List Value} {Q1 : jQ} (hd : decode (mC y) pc = .ok (.invokevirtual i, 3)) (hM : [mO y, i, z, n, 0] ∈ tM) (hF1 : mF z + 1 ≤ mF y) (hS1 : 8 + (mL z + 11) + mS z ≤ mS y) (hn : As.length + 1 = n) (hst : st = As.reverse ++ .ref p0 :: rest) (hct : cats rest ≤ 8) (hO : isO h p0 (mO z)) (hk1 : k1 ≤ kc) (hs1 : s1 ≤ ks)
    (hR : jRet z k1 s1 (.ref p0 :: As) h Q1) (kk : ∀ v h', Q1 v h' → J y (pc + 3) (kc - k1) (ks - s1) ls (v.toList ++ rest) h' Q) : J y pc kc ks ls st h Q := by
  intro p l e R s m args below meth c Z base b L xs D tc hc H locs cells slots la hw hl g1 g2 hf
  have hc0 := hc
  obtain ⟨hx, hb, hr, hml, hown, hlk, hts, hnm, hK, hbs, hfr, hlo, hsp⟩ := hc
  obtain ⟨hz, hpd, -, hV, -, hI, hC⟩ := tM_facts (y := y) (List.mem_append_left _ hM)
  obtain ⟨m1, m2, m3, m4⟩ := mOk_at (z := z) (by omega)
  have hmo : mO z < 10 := by
    have := hw.2.2.2.2.2
    have tV10 : tV.all (fun x => decide (mO (x.getD 0 0) < 10)) = true := by decide +kernel
    have h9 := List.all_eq_true.mp tV10 _ (hV rfl)
    simpa using h9
  obtain ⟨a1, a2⟩ := hw.2.2.2.2.2.lt (p := p0) (by rw [hO]; omega)
  have hat := wl_at (base := base) (b := b) (tc := tc) a1 a2
  rw [ce_obj hO hmo] at hat
  have hst' : st.map (cv base b) = (As.map (cv base b)).reverse ++ .ref (ad base b p0) :: rest.map (cv base b) := by
    rw [hst, List.map_append, List.map_reverse, List.map_cons, cv_ref (by omega)]
  rw [hst']
  have hws : ∀ w ∈ wsV (cN (mO y)) i (cN (mO z)) (mN z) (jWs z), w ∈ gw := by
    intro w hw9
    rcases List.mem_append.mp hw9 with h9 | h9
    · simp only [List.mem_cons, List.not_mem_nil, or_false] at h9
      rcases h9 with rfl | rfl | rfl | rfl
      · exact wM_ok _ hM
      · exact wI_ok _ (hI (by omega))
      · exact wV_ok _ (hV rfl)
      · exact wC_ok _ hC
    · exact jWs_in hz w h9
  have run := va_runV (As := As.map (cv base b)) (rest := rest.map (cv base b)) (g := F0 m pc la ((As.map (cv base b)).reverse ++ .ref (ad base b p0) :: rest.map (cv base b))) (locs := locs) (cells := cells) (slots := slots) (e := e) (below := below) (meth := meth) ⟨hx, hb, hml, hown, hts⟩ (hR l base b L xs D tc)
    (cwV (R := R) (C := cN (mO z)) (n - 1) hts (good_gw hws) rfl rfl rfl ⟨m1, m2, m3, hpd⟩ ⟨Nat.le_trans hF1 hfr, Nat.le_trans hS1 hlo⟩)
    ⟨jWd.blind, va_recv hK hw.1 (cls_at (mO z) hmo) hat, fun U hU hW => ⟨by rw [List.map_cons, cv_ref (by omega)], jWd_of hc0 hw hU hW⟩⟩ rfl (by rw [List.length_map]; omega) (hl.2.1) rfl (lv_room (by rw [cats_eq]; exact hct)) hd ⟨by omega, by omega⟩
  exact J_back hc0 hw hl g1 g2 hf hk1 hs1 run kk
theorem J_callS {i z n k1 s1 : Nat} {As rest : List Value} {Q1 : jQ} (hd : decode (mC y) pc = .ok (.invokestatic i, 3)) (hM : [mO y, i, z, n, 2] ∈ tM) (hF1 : mF z + 1 ≤ mF y) (hS1 : 8 + (mL z + 11) + mS z ≤ mS y) (hn : As.length = n) (hst : st = As.reverse ++ rest) (hct : cats rest ≤ 8) (hk1 : k1 ≤ kc) (hs1 : s1 ≤ ks)
    (hR : jRet z k1 s1 As h Q1) (kk : ∀ v h', Q1 v h' → J y (pc + 3) (kc - k1) (ks - s1) ls (v.toList ++ rest) h' Q) : J y pc kc ks ls st h Q := by
  intro p l e R s m args below meth c Z base b L xs D tc hc H locs cells slots la hw hl g1 g2 hf
  have hc0 := hc
  obtain ⟨hx, hb, hr, hml, hown, hlk, hts, hnm, hK, hbs, hfr, hlo, hsp⟩ := hc
  obtain ⟨hz, hpd, -, -, hS9, -, hC⟩ := tM_facts (y := y) (List.mem_append_left _ hM)
  obtain ⟨m1, m2, m3, m4⟩ := mOk_at (z := z) (by omega)
  have hst' : st.map (cv base b) = (As.map (cv base b)).reverse ++ rest.map (cv base b) := by
    rw [hst, List.map_append, List.map_reverse]
  rw [hst']
  have run := va_runS (As := As.map (cv base b)) (rest := rest.map (cv base b)) (g := F0 m pc la ((As.map (cv base b)).reverse ++ rest.map (cv base b))) (locs := locs) (cells := cells) (slots := slots) (e := e) (below := below) (meth := meth) ⟨hx, hb, hml, hown, hts⟩ (hR l base b L xs D tc)
    ⟨callB_of (R := R) n hts (good_gw (jWs_in hz)) rfl rfl rfl (by rw [m1]; exact hts _ (wC_ok _ hC)) (hts _ (wM_ok _ hM)) ⟨m2, m3, hpd⟩ ⟨Nat.le_trans hF1 hfr, Nat.le_trans hS1 hlo⟩, hts _ (wS_ok _ (hS9 rfl))⟩
    ⟨jWd.blind, fun U hU hW => ⟨rfl, jWd_of hc0 hw hU hW⟩⟩ rfl (by rw [List.length_map]; omega) (hl.2.1) rfl (lv_room (by rw [cats_eq]; exact hct)) hd ⟨by omega, by omega⟩
  exact J_back hc0 hw hl g1 g2 hf hk1 hs1 run kk
theorem J_callI {i z n p0 k1 s1 : Nat} {As rest : List Value} {Q1 : jQ} (hd : decode (mC y) pc = .ok (.invokespecial i, 3)) (hM : [mO y, i, z, n, 1] ∈ tM ∨ [mO y, i, z, n, 3] ∈ tZ) (hrt : mR z = none) (hF1 : mF z + 1 ≤ mF y) (hS1 : 8 + (mL z + 11) + mS z ≤ mS y) (hn : As.length + 1 = n) (hst : st = As.reverse ++ .ref p0 :: rest) (hct : cats rest ≤ 8) (hO : p0 ≠ 0) (hk1 : k1 ≤ kc) (hs1 : s1 ≤ ks)
    (hR : jRet z k1 s1 (.ref p0 :: As) h Q1) (kk : ∀ v h', Q1 v h' → J y (pc + 3) (kc - k1) (ks - s1) ls (v.toList ++ rest) h' Q) : J y pc kc ks ls st h Q := by
  intro p l e R s m args below meth c Z base b L xs D tc hc H locs cells slots la hw hl g1 g2 hf
  have hc0 := hc
  obtain ⟨hx, hb, hr, hml, hown, hlk, hts, hnm, hK, hbs, hfr, hlo, hsp⟩ := hc
  have hst' : st.map (cv base b) = (As.map (cv base b)).reverse ++ .ref (ad base b p0) :: rest.map (cv base b) := by
    rw [hst, List.map_append, List.map_reverse, List.map_cons, cv_ref hO]
  rw [hst']
  have hjw : ∀ {z : Nat}, mR z = none → jWs z = Cond.code (mN z) (mC z) (mL z) none :: gw := fun {z} hz => by unfold jWs; rw [hz]
  rcases hM with hM | hM
  · obtain ⟨hz, hpd, hi9, -, -, hI, hC⟩ := tM_facts (y := y) (List.mem_append_left _ hM)
    obtain ⟨m1, m2, m3, m4⟩ := mOk_at (z := z) (by omega)
    have run := va_runI (As := As.map (cv base b)) (rest := rest.map (cv base b)) (g := F0 m pc la ((As.map (cv base b)).reverse ++ .ref (ad base b p0) :: rest.map (cv base b))) (locs := locs) (cells := cells) (slots := slots) (e := e) (below := below) (meth := meth) ⟨hx, hb, hml, hown, hts⟩ (hR l base b L xs D tc)
      (cwI (R := R) (n - 1) hts (good_gw (jWs_in hz)) (hjw hrt) rfl rfl (by rw [m1]; exact hts _ (wC_ok _ hC)) (hts _ (wM_ok _ hM)) (hts _ (wI_ok _ (hI (by omega)))) (hi9 (Or.inl rfl)) ⟨m2, m3, hpd⟩ ⟨Nat.le_trans hF1 hfr, Nat.le_trans hS1 hlo⟩)
      ⟨jWd.blind, fun U hU hW => ⟨by rw [List.map_cons, cv_ref hO], jWd_of hc0 hw hU hW⟩⟩ rfl (by rw [List.length_map]; omega) (hl.2.1) rfl (lv_room (by rw [cats_eq]; exact hct)) hd ⟨by omega, by omega⟩
    exact J_back hc0 hw hl g1 g2 hf hk1 hs1 run kk
  · obtain ⟨hz, hpd, hi9, -, -, hI, hC⟩ := tM_facts (y := y) (List.mem_append_right _ hM)
    obtain ⟨m1, m2, m3, m4⟩ := mOk_at (z := z) (by omega)
    have hnw : va_Nw (.methodLinkNest (cN (mO y)) i (mN z) "LightRoom") s := by
      have h9 := hsp.2.2.2 _ hM
      simp only [List.getD_cons_zero, List.getD_cons_succ] at h9
      exact h9
    have hcn := va_cnB (R := R) (own := cN (mO y)) (host := "LightRoom") (index := i) (y := mN z) (bytes := mC z) (maxL := mL z) (ret := none) (ws := jWs z) (rm := jRm z k1 s1) (mc := k1) (ms := s1) (n - 1) hts (good_gw (jWs_in hz)) (hjw hrt) rfl rfl hnw (by rw [m1]; exact hts _ (wC_ok _ hC)) ⟨m2, m3, hpd⟩ ⟨Nat.le_trans hF1 hfr, Nat.le_trans hS1 hlo⟩
    have run := va_runIN (As := As.map (cv base b)) (rest := rest.map (cv base b)) (g := F0 m pc la ((As.map (cv base b)).reverse ++ .ref (ad base b p0) :: rest.map (cv base b))) (locs := locs) (cells := cells) (slots := slots) (e := e) (below := below) (meth := meth) ⟨hx, hb, hml, hown, hts⟩ (hR l base b L xs D tc)
      ⟨hcn, hi9 (Or.inr rfl), hts _ (wI_ok _ (hI (by omega)))⟩
      ⟨jWd.blind, fun U hU hW => ⟨by rw [List.map_cons, cv_ref hO], jWd_of hc0 hw hU hW⟩⟩ rfl (by rw [List.length_map]; omega) (hl.2.1) rfl (lv_room (by rw [cats_eq]; exact hct)) hd ⟨by omega, by omega⟩
    exact J_back hc0 hw hl g1 g2 hf hk1 hs1 run kk
/-- Object's constructor -/
theorem J_obj {i p0 : Nat} (hd : decode (mC y) pc = .ok (.invokespecial i, 3)) (hO : [mO y, i] ∈ tO) (h1 : 1 ≤ mF y) (h2 : 20 ≤ mS y) (hct : cats st ≤ 8) (hp : p0 ≠ 0) (kk : J y (pc + 3) kc ks ls st h Q) : J y pc kc ks ls (.ref p0 :: st) h Q := by
  intro p l e R s m args below meth c Z base b L xs D tc hc H locs cells slots la hw hl g1 g2 hf
  have k1 := kk p l e R s m args below meth c Z base b L xs D tc hc H locs cells slots la hw hl g1 g2 hf
  obtain ⟨hx, hb, hr, hml, hown, hlk, hts, hnm, hK, hbs, hfr, hlo, hsp⟩ := hc
  rw [List.map_cons, cv_ref hp]
  exact W.objInit hx hb hown (hts _ (wO_ok _ hO)) (hts _ gw_obi) (hts _ gw_obc) rfl (hl.2.1.trans hml.symm) rfl hd (Nat.le_trans h1 hfr) (by show 2 * 0 + _ + 12 ≤ _; rw [cats_eq]; omega) k1
end CALL
