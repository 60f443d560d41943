/-! a block is sound; a method's contract out of its walk -/
section BLOCK
variable {y : Nat} {Q : jQ} {C : jT} {JJ : Nat → jK}
theorem J_stp {pc len kc ks pc0 : Nat} {ls st : List Value} {h : jHp} {k : jK} {ins : Instr} {aux : List Nat} (hd : decode (mC y) pc = .ok (ins, len)) (hlen : jsw ins = true ∨ len = jlen ins) (hok : okI y pc ins aux = true) (hk : ∀ kc ks ls st h, k kc ks ls st h → J y (pc + len) kc ks ls st h Q) (hJ : ∀ L kc ks ls st h, JJ L kc ks ls st h → J y L kc ks ls st h Q) (hC : ∀ z kc ks as h Q1, C z kc ks as h Q1 → jRet z kc ks as h Q1) (hS : jS JJ C Q (pc0, ins, aux) k kc ks ls st h) : J y pc kc ks ls st h Q := by
  cases ins
  case iconst n => exact Q_iconst hd hlen hok hk hJ hC hS
  case bipush n => exact Q_bipush hd hlen hok hk hJ hC hS
  case sipush n => exact Q_sipush hd hlen hok hk hJ hC hS
  case lconst n => exact Q_lconst hd hlen hok hk hJ hC hS
  case ldc i => exact Q_ldc hd hlen hok hk hJ hC hS
  case ldc_w i => exact Q_ldc_w hd hlen hok hk hJ hC hS
  case ldc2_w i => exact Q_ldc2_w hd hlen hok hk hJ hC hS
  case iload i => exact Q_iload hd hlen hok hk hJ hC hS
  case iload_n i => exact Q_iload_n hd hlen hok hk hJ hC hS
  case lload i => exact Q_lload hd hlen hok hk hJ hC hS
  case lload_n i => exact Q_lload_n hd hlen hok hk hJ hC hS
  case aload i => exact Q_aload hd hlen hok hk hJ hC hS
  case aload_n i => exact Q_aload_n hd hlen hok hk hJ hC hS
  case istore i => exact Q_istore hd hlen hok hk hJ hC hS
  case istore_n i => exact Q_istore_n hd hlen hok hk hJ hC hS
  case lstore i => exact Q_lstore hd hlen hok hk hJ hC hS
  case lstore_n i => exact Q_lstore_n hd hlen hok hk hJ hC hS
  case astore i => exact Q_astore hd hlen hok hk hJ hC hS
  case astore_n i => exact Q_astore_n hd hlen hok hk hJ hC hS
  case iinc i n => exact Q_iinc hd hlen hok hk hJ hC hS
  case iadd => exact Q_iadd hd hlen hok hk hJ hC hS
  case isub => exact Q_isub hd hlen hok hk hJ hC hS
  case imul => exact Q_imul hd hlen hok hk hJ hC hS
  case idiv => exact Q_idiv hd hlen hok hk hJ hC hS
  case irem => exact Q_irem hd hlen hok hk hJ hC hS
  case iand => exact Q_iand hd hlen hok hk hJ hC hS
  case ior => exact Q_ior hd hlen hok hk hJ hC hS
  case ishl => exact Q_ishl hd hlen hok hk hJ hC hS
  case ishr => exact Q_ishr hd hlen hok hk hJ hC hS
  case iushr => exact Q_iushr hd hlen hok hk hJ hC hS
  case ineg => exact Q_ineg hd hlen hok hk hJ hC hS
  case ladd => exact Q_ladd hd hlen hok hk hJ hC hS
  case lsub => exact Q_lsub hd hlen hok hk hJ hC hS
  case lmul => exact Q_lmul hd hlen hok hk hJ hC hS
  case ldiv => exact Q_ldiv hd hlen hok hk hJ hC hS
  case lrem => exact Q_lrem hd hlen hok hk hJ hC hS
  case land => exact Q_land hd hlen hok hk hJ hC hS
  case lor => exact Q_lor hd hlen hok hk hJ hC hS
  case lneg => exact Q_lneg hd hlen hok hk hJ hC hS
  case lshl => exact Q_lshl hd hlen hok hk hJ hC hS
  case lshr => exact Q_lshr hd hlen hok hk hJ hC hS
  case lushr => exact Q_lushr hd hlen hok hk hJ hC hS
  case lcmp => exact Q_lcmp hd hlen hok hk hJ hC hS
  case i2l => exact Q_i2l hd hlen hok hk hJ hC hS
  case l2i => exact Q_l2i hd hlen hok hk hJ hC hS
  case i2b => exact Q_i2b hd hlen hok hk hJ hC hS
  case dup => exact Q_dup hd hlen hok hk hJ hC hS
  case ifCond c o => exact Q_ifCond hd hlen hok hk hJ hC hS
  case if_icmp c o => exact Q_if_icmp hd hlen hok hk hJ hC hS
  case goto o => exact Q_goto hd hlen hok hk hJ hC hS
  case tableswitch d lo hi os => exact Q_tableswitch hd hlen hok hk hJ hC hS
  case iaload => exact Q_iaload hd hlen hok hk hJ hC hS
  case baload => exact Q_baload hd hlen hok hk hJ hC hS
  case aaload => exact Q_aaload hd hlen hok hk hJ hC hS
  case iastore => exact Q_iastore hd hlen hok hk hJ hC hS
  case bastore => exact Q_bastore hd hlen hok hk hJ hC hS
  case aastore => exact Q_aastore hd hlen hok hk hJ hC hS
  case arraylength => exact Q_arraylength hd hlen hok hk hJ hC hS
  case newarray t => exact Q_newarray hd hlen hok hk hJ hC hS
  case anewarray i => exact Q_anewarray hd hlen hok hk hJ hC hS
  case new i => exact Q_new hd hlen hok hk hJ hC hS
  case getfield i => exact Q_getfield hd hlen hok hk hJ hC hS
  case putfield i => exact Q_putfield hd hlen hok hk hJ hC hS
  case invokevirtual i => exact Q_invokevirtual hd hlen hok hk hJ hC hS
  case invokespecial i => exact Q_invokespecial hd hlen hok hk hJ hC hS
  case invokestatic i => exact Q_invokestatic hd hlen hok hk hJ hC hS
  case ireturn => exact Q_ireturn hd hlen hok hk hJ hC hS
  case lreturn => exact Q_lreturn hd hlen hok hk hJ hC hS
  case areturn => exact Q_areturn hd hlen hok hk hJ hC hS
  case return_ => exact Q_return hd hlen hok hk hJ hC hS
  case multianewarray => exact absurd hok (by intro h9; cases h9)
  all_goals exact hS.elim
theorem jend_k {pc len kc ks pc0 : Nat} {ls st : List Value} {h : jHp} {k k' : jK} {ins : Instr} {aux : List Nat} (he : jend ins = true) (hS : jS JJ C Q (pc0, ins, aux) k kc ks ls st h) : jS JJ C Q (pc0, ins, aux) k' kc ks ls st h := by
  cases ins <;> first | exact hS | exact absurd he (by intro h9; cases h9)
theorem J_blk {nx : Nat} {nm : List Nat} (hJ : ∀ L kc ks ls st h, JJ L kc ks ls st h → J y L kc ks ls st h Q) (hC : ∀ z kc ks as h Q1, C z kc ks as h Q1 → jRet z kc ks as h Q1) : ∀ (es : List jE) (pc : Nat), okB y pc es nx = true → ∀ kc ks ls st h, jB JJ C Q nx nm es kc ks ls st h → J y pc kc ks ls st h Q
  | [], pc, hok, kc, ks, ls, st, h, hS => by
    have e : pc = nx := Nat.eq_of_beq_eq_true hok
    subst e
    exact J_cl (mk := nm) (hJ _ _ _ _ _ _ hS)
  | e :: r, pc, hok, kc, ks, ls, st, h, hS => by
    obtain ⟨pc0, ins, aux⟩ := e
    unfold okB at hok
    split at hok
    · rename_i i len hd
      simp only [Bool.and_eq_true, Bool.or_eq_true, decide_eq_true_eq] at hok
      obtain ⟨⟨⟨e1, e2⟩, e3⟩, e4⟩ := hok
      subst e1
      have e2' : jsw i = true ∨ len = jlen i := e2.imp id (fun q => Nat.eq_of_beq_eq_true q)
      match r, e4, hS with
      | [], e4, hS =>
        simp only [Bool.or_eq_true] at e4
        rcases e4 with e4 | e4
        · exact J_stp (k := fun _ _ _ _ _ => False) hd e2' e3 (fun _ _ _ _ _ q => q.elim) hJ hC (jend_k (pc := 0) (len := 0) e4 hS)
        · have e5 : pc + len = nx := Nat.eq_of_beq_eq_true e4
          exact J_stp hd e2' e3 (fun kc ks ls st h q => J_blk hJ hC [] (pc + len) (by rw [e5]; exact Nat.beq_refl nx) kc ks ls st h q) hJ hC hS
      | e' :: r', e4, hS =>
        exact J_stp hd e2' e3 (fun kc ks ls st h q => J_blk hJ hC (e' :: r') (pc + len) e4 kc ks ls st h q) hJ hC hS
    · cases hok
/-- the form in which blocks are used -/
theorem J_run {nx : Nat} {nm : List Nat} {es : List jE} {pc kc ks : Nat} {ls st : List Value} {h : jHp} (hok : okB y pc es nx = true) (hS : jB (fun L kc ks ls st h => J y L kc ks ls st h Q) jRet Q nx nm es kc ks ls st h) : J y pc kc ks ls st h Q := J_blk (fun _ _ _ _ _ _ q => q) (fun _ _ _ _ _ _ q => q) es pc hok kc ks ls st h hS
end BLOCK
theorem jRet_mono {z k s : Nat} {as : List Value} {h : jHp} {Q Q' : jQ} (hR : jRet z k s as h Q) (m : ∀ v h', Q v h' → Q' v h') : jRet z k s as h Q' := by
  intro l base b L xs D tc p e ha hc hk s0 m0 args below hf hap hP hK
  obtain ⟨n, o, a1, a2, a3, ⟨⟨v, h', e1, e2, e3⟩, a4⟩, a5⟩ := hR l base b L xs D tc p e ha hc hk s0 m0 args below hf hap hP hK
  exact ⟨n, o, a1, a2, a3, ⟨⟨v, h', e1, m v h' e2, e3⟩, a4⟩, a5⟩
theorem ent_1 {v : Value} {r : List Value} {n : Nat} (h : v.category = 1) : ent (v :: r) (n + 1) = v :: ent r n := by
  cases n <;> simp [ent, h]
theorem ent_20 {v : Value} {r : List Value} (h : v.category = 2) : ent (v :: r) 1 = [v] := by
  simp [ent, h]
theorem ent_2 {v : Value} {r : List Value} {n : Nat} (h : v.category = 2) : ent (v :: r) (n + 2) = v :: uu :: ent r n := by
  simp [ent, h]
theorem len_ent : ∀ (n : Nat) (as : List Value), (ent as n).length = n
  | 0, _ => by simp [ent]
  | n + 1, [] => by simp [ent, len_ent n []]
  | 1, v :: r => by
    rcases lv_cat v with h | h
    · rw [ent_1 h, List.length_cons, len_ent 0]
    · rw [ent_20 h]
      rfl
  | n + 2, v :: r => by
    rcases lv_cat v with h | h
    · rw [ent_1 h, List.length_cons, len_ent (n + 1)]
    · rw [ent_2 h, List.length_cons, List.length_cons, len_ent n]
theorem nth_ent : ∀ (n : Nat) (as : List Value) (i j : Nat), okv (nth (ent as n) i) = true → (j + i, nth (ent as n) i) ∈ lv_args j as
  | 0, _, i, j, h => by simp [ent, nth, okv, uu] at h
  | n + 1, [], 0, j, h => by simp [ent, nth, okv, uu] at h
  | n + 1, [], i + 1, j, h => by
    have h2 : okv (nth (ent [] n) i) = true := by simpa [ent, nth] using h
    have := nth_ent n [] i (j + 1) h2
    simp [lv_args] at this
  | n + 1, v :: r, 0, j, h => by
    have e : nth (ent (v :: r) (n + 1)) 0 = v := by cases n <;> simp [ent, nth]
    rw [e]
    exact List.mem_cons_self
  | 1, v :: r, i + 1, j, h => by
    rcases lv_cat v with hc | hc
    · rw [ent_1 hc] at h
      simp [ent, nth, okv, uu] at h
    · rw [ent_20 hc] at h
      simp [nth, okv, uu] at h
  | n + 2, v :: r, i + 1, j, h => by
    unfold lv_args
    rcases lv_cat v with hc | hc
    · rw [ent_1 hc] at h ⊢
      have := nth_ent (n + 1) r i (j + 1) h
      rw [if_neg (by omega), show j + (i + 1) = j + 1 + i by omega]
      exact List.mem_cons_of_mem _ this
    · rw [ent_2 hc] at h ⊢
      cases i with
      | zero => exact absurd (show okv uu = true from h) (by decide)
      | succ i =>
        have := nth_ent n r i (j + 2) h
        rw [if_pos hc, show j + (i + 1 + 1) = j + 2 + i by omega]
        exact List.mem_cons_of_mem _ this
theorem ent_map {base b : Nat} : ∀ (n : Nat) (as : List Value) (i : Nat), okv (nth (ent as n) i) = true → (i, cv base b (nth (ent as n) i)) ∈ lv_args 0 (as.map (cv base b)) := by
  intro n as i h
  have key : ∀ (as : List Value) (j : Nat) (x : Nat × Value), x ∈ lv_args j as → (x.1, cv base b x.2) ∈ lv_args j (as.map (cv base b)) := by
    intro as
    induction as with
    | nil => intro j x hx; simp [lv_args] at hx
    | cons v r ih =>
      intro j x hx
      unfold lv_args at hx
      rw [List.map_cons]
      unfold lv_args
      rcases List.mem_cons.mp hx with rfl | hx
      · exact List.mem_cons_self
      · refine List.mem_cons_of_mem _ ?_
        rw [cat_cv]
        exact ih _ _ hx
  have := key as 0 _ (nth_ent n as i 0 h)
  simpa using this
/-- as many words as the arguments take -/
theorem sl_len {base b : Nat} : ∀ (as : List Value), (lg_sl (as.map (cv base b))).length = cats as
  | [] => rfl
  | v :: r => by
    have ih := sl_len (base := base) (b := b) r
    unfold lg_sl at ih ⊢
    rw [List.map_cons, List.flatMap_cons, List.length_append, ih]
    show _ = v.category + cats r
    rw [cat_cv]
    rcases lv_cat v with h | h
    · rw [if_neg (by omega), h]
      rfl
    · rw [if_pos h, h]
      rfl
/-- THE CONTRACT of a method out of its walk from its start -/
theorem jRet_of {z k s : Nat} {as : List Value} {h : jHp} {Q : jQ} (hz5 : 5 ≤ z) (hz : z < 200) (ha : cats as ≤ mL z) (kk : J z 0 k s (ent as (mL z)) [] h Q) : jRet z k s as h Q := by
  intro l base b L xs D tc
  obtain ⟨m1, m2, m3, m4⟩ := mOk_at (z := z) (by omega)
  refine Met.ofW (cc := mC z) (maxL := mL z) (ret := mR z) (m4 hz5) rfl ?_
  intro p e s0 m args below meth c s₁ B hml hv
  obtain ⟨rfl, hK, hP, hsz, hX, hbb, hHk, hsp⟩ := hv
  have hts0 := atoms_spec (ws := jWs z) B.pre
  have hts : ∀ w ∈ gw, w.before (as.map (cv base b)).toArray s0 = true := fun w hw => hts0 w (List.mem_cons_of_mem _ hw)
  have hown : s0.vm.findClass (cN (mO z)) = some m.cls := by rw [← m1]; exact findClass_of_methodNamed B.named
  have hl := lv_entry (as.map (cv base b)) (n := mL z) (by rw [sl_len]; exact ha)
  rw [lg_entry_eq]
  generalize (lg_sl (as.map (cv base b)) ++ List.replicate (mL z - (lg_sl (as.map (cv base b))).length) Slot.unset).toArray = la at hl ⊢
  have hcx : Cx z p (jRm z k s) s0 m (as.map (cv base b)).toArray meth c base D tc := ⟨B.exec, B.bytes, B.returns, hml, hown, B.notSynchronized, hts, (name_of_methodNamed B.named B.method).1, hK, by omega, Nat.le_refl _, Nat.le_refl _, hsp⟩
  refine kk p l e (jRm z k s) s0 m (as.map (cv base b)).toArray below meth c _ base b L xs D tc hcx s0.heap [] 0 0 la ⟨hP, hsz, va_S.rf, hX, hbb, hHk⟩ ⟨len_ent _ _, hl.1, hl.2.1, fun i hi => hl.2.2 _ (ent_map _ _ i hi)⟩ (by show 0 + k ≤ k; omega) (by show 0 + s ≤ s; omega) ?_
  intro v h' H' locs' cells' slots' pc' la' hq hw hc1 hc2 hrt
  refine W.widen (k := k) (n := s) hc1 hc2 ?_
  have hqq : ∀ t : State, t.heap = H' → s0.WarmedH t.vm → (∃ (v9 : Option Value) (h9 : jHp), Outcome.returned (v.map (cv base b)) = .returned (v9.map (cv base b)) ∧ Q v9 h9 ∧ jWd base b L xs D tc h9 t) ∧ va_F (fun q => base ≤ q) s0 t := by
    intro t ht hW
    refine ⟨⟨v, h', rfl, hq, va_K.moved hW.alike hK, by rw [ht]; exact hw.1, by rw [ht]; exact hw.2.1, by rw [ht]; exact va_X.moved hW.alike hw.2.2.2.1, hw.2.2.2.2.1, hw.2.2.2.2.2, hsp.warm hW⟩, hw.2.2.1.F ht⟩
  have hlk := B.notSynchronized
  match v, hrt, hqq with
  | none, hrt, hqq => exact W.vret B.exec B.bytes (B.returns.trans hrt.1) (fun t ht hW => hqq t ht hW) hw.2.2.1.2.2 hrt.2
  | some (.int x), hrt, hqq =>
    rcases hrt.1 with hr | ⟨hr, hB⟩
    · exact W.iret B.exec B.bytes (B.returns.trans hr) (fun t ht hW => hqq t ht hW) hw.2.2.1.2.2 hrt.2
    · exact W.zret B.exec B.bytes (B.returns.trans hr) (by rcases hB with rfl | rfl <;> rfl) (fun t ht hW => hqq t ht hW) hw.2.2.1.2.2 hrt.2
  | some (.long x), hrt, hqq => exact W.lret B.exec B.bytes (B.returns.trans hrt.1) (fun t ht hW => hqq t ht hW) hw.2.2.1.2.2 hrt.2
  | some (.ref x), hrt, hqq => exact W.aret B.exec B.bytes (B.returns.trans hrt.1) (Or.inl ⟨_, rfl⟩) (rf_cases base b x) (fun t ht hW => hqq t ht hW) hw.2.2.1.2.2 hrt.2
