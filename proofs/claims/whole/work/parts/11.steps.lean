/-! the cases of an instruction, one by one -/
section STEP
variable {y pc kc ks : Nat} {ls st : List Value} {h : jHp} {Q : jQ} {aux : List Nat} {pc0 len : Nat} {k : jK} {JJ : Nat → jK} {C : jT}
theorem J_cal {vt z n rk k1 s1 : Nat} (hC : ∀ z kc ks as h Q1, C z kc ks as h Q1 → jRet z kc ks as h Q1) (hS : jCal C vt z n rk k1 s1 k kc ks ls st h) : k1 ≤ kc ∧ s1 ≤ ks ∧ cats (st.drop n) ≤ 8 ∧ (st.take n).length = n ∧ (vt = 1 → ∃ p0 As, (st.take n).reverse = .ref p0 :: As ∧ isO h p0 (mO z)) ∧ (vt = 2 → ∃ p0 As, (st.take n).reverse = .ref p0 :: As ∧ p0 ≠ 0) ∧ jRet z k1 s1 (st.take n).reverse h (jAns rk (fun st' h' => k (kc - k1) (ks - s1) ls st' h') (st.drop n)) := by
  obtain ⟨h1, h2⟩ := bif_of hS
  simp only [Bool.and_eq_true, Nat.ble_eq] at h1
  refine ⟨h1.1, h1.2.1, h1.2.2.1, Nat.eq_of_beq_eq_true h1.2.2.2, ?_⟩
  match vt, h2 with
  | 0, h2 => exact ⟨(fun e => by omega), (fun e => by omega), hC _ _ _ _ _ _ h2⟩
  | 1, h2 =>
    have h3 : jHd _ (st.take n).reverse := h2
    generalize hq : (st.take n).reverse = as at h3
    match as, h3 with
    | .ref p0 :: As, h3 => exact ⟨fun _ => ⟨p0, As, rfl, h3.1⟩, (fun e => by omega), hC _ _ _ _ _ _ h3.2⟩
  | v + 2, h2 =>
    have h3 : jHd _ (st.take n).reverse := h2
    generalize hq : (st.take n).reverse = as at h3
    match as, h3 with
    | .ref p0 :: As, h3 => exact ⟨(fun e => by omega), fun _ => ⟨p0, As, rfl, h3.1⟩, hC _ _ _ _ _ _ h3.2⟩
theorem jPut_mono {t : Nat} {p k : Nat} {v : Value} {K K' : jHp → Prop} (hS : jPut t h p k v K) (m : ∀ h', K h' → K' h') : jPut t h p k v K' := by
  match t, hS with
  | 0, hS =>
    obtain ⟨x, rfl, q⟩ := o_i_of (v := v) hS
    exact m _ q
  | 1, hS =>
    obtain ⟨x, rfl, q⟩ := o_l_of (v := v) hS
    exact m _ q
  | 2, hS =>
    obtain ⟨x, rfl, q⟩ := o_r_of (v := v) hS
    exact m _ q
  | n + 3, hS =>
    obtain ⟨x, rfl, q⟩ := o_i_of (v := v) hS
    exact ⟨q.1, m _ q.2⟩
theorem take_rev {n : Nat} {as : List Value} (h : (st.take n).reverse = as) : st = as.reverse ++ st.drop n := by
  rw [← h, List.reverse_reverse, List.take_append_drop]
theorem Q_iconst {n : Int} (hd : decode (mC y) pc = .ok (.iconst n, len)) (hlen : jsw (.iconst n) = true ∨ len = jlen (.iconst n)) (hok : okI y pc (.iconst n) aux = true) (hk : ∀ kc ks ls st h, k kc ks ls st h → J y (pc + len) kc ks ls st h Q) (hJ : ∀ L kc ks ls st h, JJ L kc ks ls st h → J y L kc ks ls st h Q) (hC : ∀ z kc ks as h Q1, C z kc ks as h Q1 → jRet z kc ks as h Q1) (hS : jS JJ C Q (pc0, .iconst n, aux) k kc ks ls st h) : J y pc kc ks ls st h Q := by
  obtain rfl : len = 1 := hlen.resolve_left (by intro h9; cases h9)
  exact J_pu (fun base b hx hb kk => lv_iconst hx hb hd rfl kk) (hk _ _ _ _ _ hS)
theorem Q_bipush {n : Int} (hd : decode (mC y) pc = .ok (.bipush n, len)) (hlen : jsw (.bipush n) = true ∨ len = jlen (.bipush n)) (hok : okI y pc (.bipush n) aux = true) (hk : ∀ kc ks ls st h, k kc ks ls st h → J y (pc + len) kc ks ls st h Q) (hJ : ∀ L kc ks ls st h, JJ L kc ks ls st h → J y L kc ks ls st h Q) (hC : ∀ z kc ks as h Q1, C z kc ks as h Q1 → jRet z kc ks as h Q1) (hS : jS JJ C Q (pc0, .bipush n, aux) k kc ks ls st h) : J y pc kc ks ls st h Q := by
  obtain rfl : len = 2 := hlen.resolve_left (by intro h9; cases h9)
  exact J_pu (fun base b hx hb kk => lv_bipush hx hb hd (bipush_v (of_decide_eq_true hok)) kk) (hk _ _ _ _ _ hS)
theorem Q_sipush {n : Int} (hd : decode (mC y) pc = .ok (.sipush n, len)) (hlen : jsw (.sipush n) = true ∨ len = jlen (.sipush n)) (hok : okI y pc (.sipush n) aux = true) (hk : ∀ kc ks ls st h, k kc ks ls st h → J y (pc + len) kc ks ls st h Q) (hJ : ∀ L kc ks ls st h, JJ L kc ks ls st h → J y L kc ks ls st h Q) (hC : ∀ z kc ks as h Q1, C z kc ks as h Q1 → jRet z kc ks as h Q1) (hS : jS JJ C Q (pc0, .sipush n, aux) k kc ks ls st h) : J y pc kc ks ls st h Q := by
  obtain rfl : len = 3 := hlen.resolve_left (by intro h9; cases h9)
  exact J_pu (fun base b hx hb kk => lv_sipush hx hb hd (sipush_v (of_decide_eq_true hok)) kk) (hk _ _ _ _ _ hS)
theorem Q_lconst {n : Fin 2} (hd : decode (mC y) pc = .ok (.lconst n, len)) (hlen : jsw (.lconst n) = true ∨ len = jlen (.lconst n)) (hok : okI y pc (.lconst n) aux = true) (hk : ∀ kc ks ls st h, k kc ks ls st h → J y (pc + len) kc ks ls st h Q) (hJ : ∀ L kc ks ls st h, JJ L kc ks ls st h → J y L kc ks ls st h Q) (hC : ∀ z kc ks as h Q1, C z kc ks as h Q1 → jRet z kc ks as h Q1) (hS : jS JJ C Q (pc0, .lconst n, aux) k kc ks ls st h) : J y pc kc ks ls st h Q := by
  obtain rfl : len = 1 := hlen.resolve_left (by intro h9; cases h9)
  exact J_pu (fun base b hx hb kk => lv_lconst hx hb hd (lconst_v n) kk) (hk _ _ _ _ _ hS)
theorem Q_ldc {i : Nat} (hd : decode (mC y) pc = .ok (.ldc i, len)) (hlen : jsw (.ldc i) = true ∨ len = jlen (.ldc i)) (hok : okI y pc (.ldc i) aux = true) (hk : ∀ kc ks ls st h, k kc ks ls st h → J y (pc + len) kc ks ls st h Q) (hJ : ∀ L kc ks ls st h, JJ L kc ks ls st h → J y L kc ks ls st h Q) (hC : ∀ z kc ks as h Q1, C z kc ks as h Q1 → jRet z kc ks as h Q1) (hS : jS JJ C Q (pc0, .ldc i, aux) k kc ks ls st h) : J y pc kc ks ls st h Q := by
  obtain rfl : len = 2 := hlen.resolve_left (by intro h9; cases h9)
  have hm : [mO y, i, aux.getD 0 0, aux.getD 1 0] ∈ tK := by simpa [okI] using hok
  intro p l e R s m args below meth c Z base b L xs D tc hc H locs cells slots la hw hl g1 g2 hf
  have k1 := hk _ _ _ _ _ hS p l e R s m args below meth c Z base b L xs D tc hc H locs cells slots la hw hl g1 g2 hf
  obtain ⟨hx, hb, hr, hml, hown, hlk, hts, hnm, hK, hbs, hfr, hlo, hsp⟩ := hc
  exact lv_ldc hx hb hown (hts _ (wK_ok _ hm)) hd k1
theorem Q_ldc_w {i : Nat} (hd : decode (mC y) pc = .ok (.ldc_w i, len)) (hlen : jsw (.ldc_w i) = true ∨ len = jlen (.ldc_w i)) (hok : okI y pc (.ldc_w i) aux = true) (hk : ∀ kc ks ls st h, k kc ks ls st h → J y (pc + len) kc ks ls st h Q) (hJ : ∀ L kc ks ls st h, JJ L kc ks ls st h → J y L kc ks ls st h Q) (hC : ∀ z kc ks as h Q1, C z kc ks as h Q1 → jRet z kc ks as h Q1) (hS : jS JJ C Q (pc0, .ldc_w i, aux) k kc ks ls st h) : J y pc kc ks ls st h Q := by
  obtain rfl : len = 3 := hlen.resolve_left (by intro h9; cases h9)
  have hm : [mO y, i, aux.getD 0 0, aux.getD 1 0] ∈ tK := by simpa [okI] using hok
  intro p l e R s m args below meth c Z base b L xs D tc hc H locs cells slots la hw hl g1 g2 hf
  have k1 := hk _ _ _ _ _ hS p l e R s m args below meth c Z base b L xs D tc hc H locs cells slots la hw hl g1 g2 hf
  obtain ⟨hx, hb, hr, hml, hown, hlk, hts, hnm, hK, hbs, hfr, hlo, hsp⟩ := hc
  exact lv_ldcw hx hb hown (hts _ (wK_ok _ hm)) hd k1
theorem Q_ldc2_w {i : Nat} (hd : decode (mC y) pc = .ok (.ldc2_w i, len)) (hlen : jsw (.ldc2_w i) = true ∨ len = jlen (.ldc2_w i)) (hok : okI y pc (.ldc2_w i) aux = true) (hk : ∀ kc ks ls st h, k kc ks ls st h → J y (pc + len) kc ks ls st h Q) (hJ : ∀ L kc ks ls st h, JJ L kc ks ls st h → J y L kc ks ls st h Q) (hC : ∀ z kc ks as h Q1, C z kc ks as h Q1 → jRet z kc ks as h Q1) (hS : jS JJ C Q (pc0, .ldc2_w i, aux) k kc ks ls st h) : J y pc kc ks ls st h Q := by
  obtain rfl : len = 3 := hlen.resolve_left (by intro h9; cases h9)
  have hm : [mO y, i, aux.getD 0 0, aux.getD 1 0] ∈ tJ := by simpa [okI] using hok
  intro p l e R s m args below meth c Z base b L xs D tc hc H locs cells slots la hw hl g1 g2 hf
  have k1 := hk _ _ _ _ _ hS p l e R s m args below meth c Z base b L xs D tc hc H locs cells slots la hw hl g1 g2 hf
  obtain ⟨hx, hb, hr, hml, hown, hlk, hts, hnm, hK, hbs, hfr, hlo, hsp⟩ := hc
  exact lv_ldc2 hx hb hown (hts _ (wJ_ok _ hm)) hd k1
theorem Q_iload {i : Nat} (hd : decode (mC y) pc = .ok (.iload i, len)) (hlen : jsw (.iload i) = true ∨ len = jlen (.iload i)) (hok : okI y pc (.iload i) aux = true) (hk : ∀ kc ks ls st h, k kc ks ls st h → J y (pc + len) kc ks ls st h Q) (hJ : ∀ L kc ks ls st h, JJ L kc ks ls st h → J y L kc ks ls st h Q) (hC : ∀ z kc ks as h Q1, C z kc ks as h Q1 → jRet z kc ks as h Q1) (hS : jS JJ C Q (pc0, .iload i, aux) k kc ks ls st h) : J y pc kc ks ls st h Q := by
  obtain rfl : len = 2 := hlen.resolve_left (by intro h9; cases h9)
  obtain ⟨x, e, hS⟩ := o_i_of hS
  exact J_ild e (Or.inl ⟨hd, rfl⟩) (hk _ _ _ _ _ hS)
theorem Q_iload_n {i : Fin 4} (hd : decode (mC y) pc = .ok (.iload_n i, len)) (hlen : jsw (.iload_n i) = true ∨ len = jlen (.iload_n i)) (hok : okI y pc (.iload_n i) aux = true) (hk : ∀ kc ks ls st h, k kc ks ls st h → J y (pc + len) kc ks ls st h Q) (hJ : ∀ L kc ks ls st h, JJ L kc ks ls st h → J y L kc ks ls st h Q) (hC : ∀ z kc ks as h Q1, C z kc ks as h Q1 → jRet z kc ks as h Q1) (hS : jS JJ C Q (pc0, .iload_n i, aux) k kc ks ls st h) : J y pc kc ks ls st h Q := by
  obtain rfl : len = 1 := hlen.resolve_left (by intro h9; cases h9)
  obtain ⟨x, e, hS⟩ := o_i_of hS
  exact J_ild e (Or.inr ⟨i, rfl, hd, rfl⟩) (hk _ _ _ _ _ hS)
theorem Q_istore {i : Nat} (hd : decode (mC y) pc = .ok (.istore i, len)) (hlen : jsw (.istore i) = true ∨ len = jlen (.istore i)) (hok : okI y pc (.istore i) aux = true) (hk : ∀ kc ks ls st h, k kc ks ls st h → J y (pc + len) kc ks ls st h Q) (hJ : ∀ L kc ks ls st h, JJ L kc ks ls st h → J y L kc ks ls st h Q) (hC : ∀ z kc ks as h Q1, C z kc ks as h Q1 → jRet z kc ks as h Q1) (hS : jS JJ C Q (pc0, .istore i, aux) k kc ks ls st h) : J y pc kc ks ls st h Q := by
  obtain rfl : len = 2 := hlen.resolve_left (by intro h9; cases h9)
  obtain ⟨x, r, rfl, hS⟩ := p_i_of hS
  exact J_ist (of_decide_eq_true hok) (Or.inl ⟨hd, rfl⟩) (hk _ _ _ _ _ hS)
theorem Q_istore_n {i : Fin 4} (hd : decode (mC y) pc = .ok (.istore_n i, len)) (hlen : jsw (.istore_n i) = true ∨ len = jlen (.istore_n i)) (hok : okI y pc (.istore_n i) aux = true) (hk : ∀ kc ks ls st h, k kc ks ls st h → J y (pc + len) kc ks ls st h Q) (hJ : ∀ L kc ks ls st h, JJ L kc ks ls st h → J y L kc ks ls st h Q) (hC : ∀ z kc ks as h Q1, C z kc ks as h Q1 → jRet z kc ks as h Q1) (hS : jS JJ C Q (pc0, .istore_n i, aux) k kc ks ls st h) : J y pc kc ks ls st h Q := by
  obtain rfl : len = 1 := hlen.resolve_left (by intro h9; cases h9)
  obtain ⟨x, r, rfl, hS⟩ := p_i_of hS
  exact J_ist (of_decide_eq_true hok) (Or.inr ⟨i, rfl, hd, rfl⟩) (hk _ _ _ _ _ hS)
theorem Q_lload {i : Nat} (hd : decode (mC y) pc = .ok (.lload i, len)) (hlen : jsw (.lload i) = true ∨ len = jlen (.lload i)) (hok : okI y pc (.lload i) aux = true) (hk : ∀ kc ks ls st h, k kc ks ls st h → J y (pc + len) kc ks ls st h Q) (hJ : ∀ L kc ks ls st h, JJ L kc ks ls st h → J y L kc ks ls st h Q) (hC : ∀ z kc ks as h Q1, C z kc ks as h Q1 → jRet z kc ks as h Q1) (hS : jS JJ C Q (pc0, .lload i, aux) k kc ks ls st h) : J y pc kc ks ls st h Q := by
  obtain rfl : len = 2 := hlen.resolve_left (by intro h9; cases h9)
  obtain ⟨x, e, hS⟩ := o_l_of hS
  exact J_lld e (Or.inl ⟨hd, rfl⟩) (hk _ _ _ _ _ hS)
theorem Q_lload_n {i : Fin 4} (hd : decode (mC y) pc = .ok (.lload_n i, len)) (hlen : jsw (.lload_n i) = true ∨ len = jlen (.lload_n i)) (hok : okI y pc (.lload_n i) aux = true) (hk : ∀ kc ks ls st h, k kc ks ls st h → J y (pc + len) kc ks ls st h Q) (hJ : ∀ L kc ks ls st h, JJ L kc ks ls st h → J y L kc ks ls st h Q) (hC : ∀ z kc ks as h Q1, C z kc ks as h Q1 → jRet z kc ks as h Q1) (hS : jS JJ C Q (pc0, .lload_n i, aux) k kc ks ls st h) : J y pc kc ks ls st h Q := by
  obtain rfl : len = 1 := hlen.resolve_left (by intro h9; cases h9)
  obtain ⟨x, e, hS⟩ := o_l_of hS
  exact J_lld e (Or.inr ⟨i, rfl, hd, rfl⟩) (hk _ _ _ _ _ hS)
theorem Q_lstore {i : Nat} (hd : decode (mC y) pc = .ok (.lstore i, len)) (hlen : jsw (.lstore i) = true ∨ len = jlen (.lstore i)) (hok : okI y pc (.lstore i) aux = true) (hk : ∀ kc ks ls st h, k kc ks ls st h → J y (pc + len) kc ks ls st h Q) (hJ : ∀ L kc ks ls st h, JJ L kc ks ls st h → J y L kc ks ls st h Q) (hC : ∀ z kc ks as h Q1, C z kc ks as h Q1 → jRet z kc ks as h Q1) (hS : jS JJ C Q (pc0, .lstore i, aux) k kc ks ls st h) : J y pc kc ks ls st h Q := by
  obtain rfl : len = 2 := hlen.resolve_left (by intro h9; cases h9)
  obtain ⟨x, r, rfl, hS⟩ := p_l_of hS
  exact J_lst (of_decide_eq_true hok) (Or.inl ⟨hd, rfl⟩) (hk _ _ _ _ _ hS)
theorem Q_lstore_n {i : Fin 4} (hd : decode (mC y) pc = .ok (.lstore_n i, len)) (hlen : jsw (.lstore_n i) = true ∨ len = jlen (.lstore_n i)) (hok : okI y pc (.lstore_n i) aux = true) (hk : ∀ kc ks ls st h, k kc ks ls st h → J y (pc + len) kc ks ls st h Q) (hJ : ∀ L kc ks ls st h, JJ L kc ks ls st h → J y L kc ks ls st h Q) (hC : ∀ z kc ks as h Q1, C z kc ks as h Q1 → jRet z kc ks as h Q1) (hS : jS JJ C Q (pc0, .lstore_n i, aux) k kc ks ls st h) : J y pc kc ks ls st h Q := by
  obtain rfl : len = 1 := hlen.resolve_left (by intro h9; cases h9)
  obtain ⟨x, r, rfl, hS⟩ := p_l_of hS
  exact J_lst (of_decide_eq_true hok) (Or.inr ⟨i, rfl, hd, rfl⟩) (hk _ _ _ _ _ hS)
theorem Q_aload {i : Nat} (hd : decode (mC y) pc = .ok (.aload i, len)) (hlen : jsw (.aload i) = true ∨ len = jlen (.aload i)) (hok : okI y pc (.aload i) aux = true) (hk : ∀ kc ks ls st h, k kc ks ls st h → J y (pc + len) kc ks ls st h Q) (hJ : ∀ L kc ks ls st h, JJ L kc ks ls st h → J y L kc ks ls st h Q) (hC : ∀ z kc ks as h Q1, C z kc ks as h Q1 → jRet z kc ks as h Q1) (hS : jS JJ C Q (pc0, .aload i, aux) k kc ks ls st h) : J y pc kc ks ls st h Q := by
  obtain rfl : len = 2 := hlen.resolve_left (by intro h9; cases h9)
  obtain ⟨x, e, hS⟩ := o_r_of hS
  exact J_ald e (Or.inl ⟨hd, rfl⟩) (hk _ _ _ _ _ hS)
theorem Q_aload_n {i : Fin 4} (hd : decode (mC y) pc = .ok (.aload_n i, len)) (hlen : jsw (.aload_n i) = true ∨ len = jlen (.aload_n i)) (hok : okI y pc (.aload_n i) aux = true) (hk : ∀ kc ks ls st h, k kc ks ls st h → J y (pc + len) kc ks ls st h Q) (hJ : ∀ L kc ks ls st h, JJ L kc ks ls st h → J y L kc ks ls st h Q) (hC : ∀ z kc ks as h Q1, C z kc ks as h Q1 → jRet z kc ks as h Q1) (hS : jS JJ C Q (pc0, .aload_n i, aux) k kc ks ls st h) : J y pc kc ks ls st h Q := by
  obtain rfl : len = 1 := hlen.resolve_left (by intro h9; cases h9)
  obtain ⟨x, e, hS⟩ := o_r_of hS
  exact J_ald e (Or.inr ⟨i, rfl, hd, rfl⟩) (hk _ _ _ _ _ hS)
theorem Q_astore {i : Nat} (hd : decode (mC y) pc = .ok (.astore i, len)) (hlen : jsw (.astore i) = true ∨ len = jlen (.astore i)) (hok : okI y pc (.astore i) aux = true) (hk : ∀ kc ks ls st h, k kc ks ls st h → J y (pc + len) kc ks ls st h Q) (hJ : ∀ L kc ks ls st h, JJ L kc ks ls st h → J y L kc ks ls st h Q) (hC : ∀ z kc ks as h Q1, C z kc ks as h Q1 → jRet z kc ks as h Q1) (hS : jS JJ C Q (pc0, .astore i, aux) k kc ks ls st h) : J y pc kc ks ls st h Q := by
  obtain rfl : len = 2 := hlen.resolve_left (by intro h9; cases h9)
  obtain ⟨x, r, rfl, hS⟩ := p_r_of hS
  exact J_ast (of_decide_eq_true hok) (Or.inl ⟨hd, rfl⟩) (hk _ _ _ _ _ hS)
theorem Q_astore_n {i : Fin 4} (hd : decode (mC y) pc = .ok (.astore_n i, len)) (hlen : jsw (.astore_n i) = true ∨ len = jlen (.astore_n i)) (hok : okI y pc (.astore_n i) aux = true) (hk : ∀ kc ks ls st h, k kc ks ls st h → J y (pc + len) kc ks ls st h Q) (hJ : ∀ L kc ks ls st h, JJ L kc ks ls st h → J y L kc ks ls st h Q) (hC : ∀ z kc ks as h Q1, C z kc ks as h Q1 → jRet z kc ks as h Q1) (hS : jS JJ C Q (pc0, .astore_n i, aux) k kc ks ls st h) : J y pc kc ks ls st h Q := by
  obtain rfl : len = 1 := hlen.resolve_left (by intro h9; cases h9)
  obtain ⟨x, r, rfl, hS⟩ := p_r_of hS
  exact J_ast (of_decide_eq_true hok) (Or.inr ⟨i, rfl, hd, rfl⟩) (hk _ _ _ _ _ hS)
theorem Q_iinc {i : Nat} {n : Int} (hd : decode (mC y) pc = .ok (.iinc i n, len)) (hlen : jsw (.iinc i n) = true ∨ len = jlen (.iinc i n)) (hok : okI y pc (.iinc i n) aux = true) (hk : ∀ kc ks ls st h, k kc ks ls st h → J y (pc + len) kc ks ls st h Q) (hJ : ∀ L kc ks ls st h, JJ L kc ks ls st h → J y L kc ks ls st h Q) (hC : ∀ z kc ks as h Q1, C z kc ks as h Q1 → jRet z kc ks as h Q1) (hS : jS JJ C Q (pc0, .iinc i n, aux) k kc ks ls st h) : J y pc kc ks ls st h Q := by
  obtain rfl : len = 3 := hlen.resolve_left (by intro h9; cases h9)
  obtain ⟨x, e, hS⟩ := o_i_of hS
  exact J_inc e (of_decide_eq_true hok) hd (hk _ _ _ _ _ hS)
theorem Q_iadd (hd : decode (mC y) pc = .ok (.iadd, len)) (hlen : jsw (.iadd) = true ∨ len = jlen (.iadd)) (hok : okI y pc (.iadd) aux = true) (hk : ∀ kc ks ls st h, k kc ks ls st h → J y (pc + len) kc ks ls st h Q) (hJ : ∀ L kc ks ls st h, JJ L kc ks ls st h → J y L kc ks ls st h Q) (hC : ∀ z kc ks as h Q1, C z kc ks as h Q1 → jRet z kc ks as h Q1) (hS : jS JJ C Q (pc0, .iadd, aux) k kc ks ls st h) : J y pc kc ks ls st h Q := by
  obtain rfl : len = 1 := hlen.resolve_left (by intro h9; cases h9)
  obtain ⟨b1, r1, rfl, hS⟩ := p_i_of hS
  obtain ⟨a1, r, rfl, hS⟩ := p_i_of hS
  exact J_pu (fun base b hx hb kk => lv_iadd hx hb hd kk) (hk _ _ _ _ _ hS)
theorem Q_isub (hd : decode (mC y) pc = .ok (.isub, len)) (hlen : jsw (.isub) = true ∨ len = jlen (.isub)) (hok : okI y pc (.isub) aux = true) (hk : ∀ kc ks ls st h, k kc ks ls st h → J y (pc + len) kc ks ls st h Q) (hJ : ∀ L kc ks ls st h, JJ L kc ks ls st h → J y L kc ks ls st h Q) (hC : ∀ z kc ks as h Q1, C z kc ks as h Q1 → jRet z kc ks as h Q1) (hS : jS JJ C Q (pc0, .isub, aux) k kc ks ls st h) : J y pc kc ks ls st h Q := by
  obtain rfl : len = 1 := hlen.resolve_left (by intro h9; cases h9)
  obtain ⟨b1, r1, rfl, hS⟩ := p_i_of hS
  obtain ⟨a1, r, rfl, hS⟩ := p_i_of hS
  exact J_pu (fun base b hx hb kk => lv_isub hx hb hd kk) (hk _ _ _ _ _ hS)
theorem Q_imul (hd : decode (mC y) pc = .ok (.imul, len)) (hlen : jsw (.imul) = true ∨ len = jlen (.imul)) (hok : okI y pc (.imul) aux = true) (hk : ∀ kc ks ls st h, k kc ks ls st h → J y (pc + len) kc ks ls st h Q) (hJ : ∀ L kc ks ls st h, JJ L kc ks ls st h → J y L kc ks ls st h Q) (hC : ∀ z kc ks as h Q1, C z kc ks as h Q1 → jRet z kc ks as h Q1) (hS : jS JJ C Q (pc0, .imul, aux) k kc ks ls st h) : J y pc kc ks ls st h Q := by
  obtain rfl : len = 1 := hlen.resolve_left (by intro h9; cases h9)
  obtain ⟨b1, r1, rfl, hS⟩ := p_i_of hS
  obtain ⟨a1, r, rfl, hS⟩ := p_i_of hS
  exact J_pu (fun base b hx hb kk => lv_imul hx hb hd kk) (hk _ _ _ _ _ hS)
theorem Q_iand (hd : decode (mC y) pc = .ok (.iand, len)) (hlen : jsw (.iand) = true ∨ len = jlen (.iand)) (hok : okI y pc (.iand) aux = true) (hk : ∀ kc ks ls st h, k kc ks ls st h → J y (pc + len) kc ks ls st h Q) (hJ : ∀ L kc ks ls st h, JJ L kc ks ls st h → J y L kc ks ls st h Q) (hC : ∀ z kc ks as h Q1, C z kc ks as h Q1 → jRet z kc ks as h Q1) (hS : jS JJ C Q (pc0, .iand, aux) k kc ks ls st h) : J y pc kc ks ls st h Q := by
  obtain rfl : len = 1 := hlen.resolve_left (by intro h9; cases h9)
  obtain ⟨b1, r1, rfl, hS⟩ := p_i_of hS
  obtain ⟨a1, r, rfl, hS⟩ := p_i_of hS
  exact J_pu (fun base b hx hb kk => lv_iand hx hb hd kk) (hk _ _ _ _ _ hS)
theorem Q_ior (hd : decode (mC y) pc = .ok (.ior, len)) (hlen : jsw (.ior) = true ∨ len = jlen (.ior)) (hok : okI y pc (.ior) aux = true) (hk : ∀ kc ks ls st h, k kc ks ls st h → J y (pc + len) kc ks ls st h Q) (hJ : ∀ L kc ks ls st h, JJ L kc ks ls st h → J y L kc ks ls st h Q) (hC : ∀ z kc ks as h Q1, C z kc ks as h Q1 → jRet z kc ks as h Q1) (hS : jS JJ C Q (pc0, .ior, aux) k kc ks ls st h) : J y pc kc ks ls st h Q := by
  obtain rfl : len = 1 := hlen.resolve_left (by intro h9; cases h9)
  obtain ⟨b1, r1, rfl, hS⟩ := p_i_of hS
  obtain ⟨a1, r, rfl, hS⟩ := p_i_of hS
  exact J_pu (fun base b hx hb kk => lv_ior hx hb hd kk) (hk _ _ _ _ _ hS)
theorem Q_ishl (hd : decode (mC y) pc = .ok (.ishl, len)) (hlen : jsw (.ishl) = true ∨ len = jlen (.ishl)) (hok : okI y pc (.ishl) aux = true) (hk : ∀ kc ks ls st h, k kc ks ls st h → J y (pc + len) kc ks ls st h Q) (hJ : ∀ L kc ks ls st h, JJ L kc ks ls st h → J y L kc ks ls st h Q) (hC : ∀ z kc ks as h Q1, C z kc ks as h Q1 → jRet z kc ks as h Q1) (hS : jS JJ C Q (pc0, .ishl, aux) k kc ks ls st h) : J y pc kc ks ls st h Q := by
  obtain rfl : len = 1 := hlen.resolve_left (by intro h9; cases h9)
  obtain ⟨b1, r1, rfl, hS⟩ := p_i_of hS
  obtain ⟨a1, r, rfl, hS⟩ := p_i_of hS
  exact J_pu (fun base b hx hb kk => lv_ishl hx hb hd kk) (hk _ _ _ _ _ hS)
theorem Q_ishr (hd : decode (mC y) pc = .ok (.ishr, len)) (hlen : jsw (.ishr) = true ∨ len = jlen (.ishr)) (hok : okI y pc (.ishr) aux = true) (hk : ∀ kc ks ls st h, k kc ks ls st h → J y (pc + len) kc ks ls st h Q) (hJ : ∀ L kc ks ls st h, JJ L kc ks ls st h → J y L kc ks ls st h Q) (hC : ∀ z kc ks as h Q1, C z kc ks as h Q1 → jRet z kc ks as h Q1) (hS : jS JJ C Q (pc0, .ishr, aux) k kc ks ls st h) : J y pc kc ks ls st h Q := by
  obtain rfl : len = 1 := hlen.resolve_left (by intro h9; cases h9)
  obtain ⟨b1, r1, rfl, hS⟩ := p_i_of hS
  obtain ⟨a1, r, rfl, hS⟩ := p_i_of hS
  exact J_pu (fun base b hx hb kk => lv_ishr hx hb hd kk) (hk _ _ _ _ _ hS)
theorem Q_ladd (hd : decode (mC y) pc = .ok (.ladd, len)) (hlen : jsw (.ladd) = true ∨ len = jlen (.ladd)) (hok : okI y pc (.ladd) aux = true) (hk : ∀ kc ks ls st h, k kc ks ls st h → J y (pc + len) kc ks ls st h Q) (hJ : ∀ L kc ks ls st h, JJ L kc ks ls st h → J y L kc ks ls st h Q) (hC : ∀ z kc ks as h Q1, C z kc ks as h Q1 → jRet z kc ks as h Q1) (hS : jS JJ C Q (pc0, .ladd, aux) k kc ks ls st h) : J y pc kc ks ls st h Q := by
  obtain rfl : len = 1 := hlen.resolve_left (by intro h9; cases h9)
  obtain ⟨b1, r1, rfl, hS⟩ := p_l_of hS
  obtain ⟨a1, r, rfl, hS⟩ := p_l_of hS
  exact J_pu (fun base b hx hb kk => lv_ladd hx hb hd kk) (hk _ _ _ _ _ hS)
theorem Q_lsub (hd : decode (mC y) pc = .ok (.lsub, len)) (hlen : jsw (.lsub) = true ∨ len = jlen (.lsub)) (hok : okI y pc (.lsub) aux = true) (hk : ∀ kc ks ls st h, k kc ks ls st h → J y (pc + len) kc ks ls st h Q) (hJ : ∀ L kc ks ls st h, JJ L kc ks ls st h → J y L kc ks ls st h Q) (hC : ∀ z kc ks as h Q1, C z kc ks as h Q1 → jRet z kc ks as h Q1) (hS : jS JJ C Q (pc0, .lsub, aux) k kc ks ls st h) : J y pc kc ks ls st h Q := by
  obtain rfl : len = 1 := hlen.resolve_left (by intro h9; cases h9)
  obtain ⟨b1, r1, rfl, hS⟩ := p_l_of hS
  obtain ⟨a1, r, rfl, hS⟩ := p_l_of hS
  exact J_pu (fun base b hx hb kk => lv_lsub hx hb hd kk) (hk _ _ _ _ _ hS)
theorem Q_lmul (hd : decode (mC y) pc = .ok (.lmul, len)) (hlen : jsw (.lmul) = true ∨ len = jlen (.lmul)) (hok : okI y pc (.lmul) aux = true) (hk : ∀ kc ks ls st h, k kc ks ls st h → J y (pc + len) kc ks ls st h Q) (hJ : ∀ L kc ks ls st h, JJ L kc ks ls st h → J y L kc ks ls st h Q) (hC : ∀ z kc ks as h Q1, C z kc ks as h Q1 → jRet z kc ks as h Q1) (hS : jS JJ C Q (pc0, .lmul, aux) k kc ks ls st h) : J y pc kc ks ls st h Q := by
  obtain rfl : len = 1 := hlen.resolve_left (by intro h9; cases h9)
  obtain ⟨b1, r1, rfl, hS⟩ := p_l_of hS
  obtain ⟨a1, r, rfl, hS⟩ := p_l_of hS
  exact J_pu (fun base b hx hb kk => lv_lmul hx hb hd kk) (hk _ _ _ _ _ hS)
theorem Q_land (hd : decode (mC y) pc = .ok (.land, len)) (hlen : jsw (.land) = true ∨ len = jlen (.land)) (hok : okI y pc (.land) aux = true) (hk : ∀ kc ks ls st h, k kc ks ls st h → J y (pc + len) kc ks ls st h Q) (hJ : ∀ L kc ks ls st h, JJ L kc ks ls st h → J y L kc ks ls st h Q) (hC : ∀ z kc ks as h Q1, C z kc ks as h Q1 → jRet z kc ks as h Q1) (hS : jS JJ C Q (pc0, .land, aux) k kc ks ls st h) : J y pc kc ks ls st h Q := by
  obtain rfl : len = 1 := hlen.resolve_left (by intro h9; cases h9)
  obtain ⟨b1, r1, rfl, hS⟩ := p_l_of hS
  obtain ⟨a1, r, rfl, hS⟩ := p_l_of hS
  exact J_pu (fun base b hx hb kk => lv_land hx hb hd kk) (hk _ _ _ _ _ hS)
theorem Q_lor (hd : decode (mC y) pc = .ok (.lor, len)) (hlen : jsw (.lor) = true ∨ len = jlen (.lor)) (hok : okI y pc (.lor) aux = true) (hk : ∀ kc ks ls st h, k kc ks ls st h → J y (pc + len) kc ks ls st h Q) (hJ : ∀ L kc ks ls st h, JJ L kc ks ls st h → J y L kc ks ls st h Q) (hC : ∀ z kc ks as h Q1, C z kc ks as h Q1 → jRet z kc ks as h Q1) (hS : jS JJ C Q (pc0, .lor, aux) k kc ks ls st h) : J y pc kc ks ls st h Q := by
  obtain rfl : len = 1 := hlen.resolve_left (by intro h9; cases h9)
  obtain ⟨b1, r1, rfl, hS⟩ := p_l_of hS
  obtain ⟨a1, r, rfl, hS⟩ := p_l_of hS
  exact J_pu (fun base b hx hb kk => lv_lor hx hb hd kk) (hk _ _ _ _ _ hS)
theorem Q_idiv (hd : decode (mC y) pc = .ok (.idiv, len)) (hlen : jsw (.idiv) = true ∨ len = jlen (.idiv)) (hok : okI y pc (.idiv) aux = true) (hk : ∀ kc ks ls st h, k kc ks ls st h → J y (pc + len) kc ks ls st h Q) (hJ : ∀ L kc ks ls st h, JJ L kc ks ls st h → J y L kc ks ls st h Q) (hC : ∀ z kc ks as h Q1, C z kc ks as h Q1 → jRet z kc ks as h Q1) (hS : jS JJ C Q (pc0, .idiv, aux) k kc ks ls st h) : J y pc kc ks ls st h Q := by
  obtain rfl : len = 1 := hlen.resolve_left (by intro h9; cases h9)
  obtain ⟨b1, r1, rfl, hS⟩ := p_i_of hS
  obtain ⟨a1, r, rfl, h0, hS⟩ := p_i_of hS
  exact J_pu (fun base b hx hb kk => lv_idiv hx hb hd h0 kk) (hk _ _ _ _ _ hS)
theorem Q_irem (hd : decode (mC y) pc = .ok (.irem, len)) (hlen : jsw (.irem) = true ∨ len = jlen (.irem)) (hok : okI y pc (.irem) aux = true) (hk : ∀ kc ks ls st h, k kc ks ls st h → J y (pc + len) kc ks ls st h Q) (hJ : ∀ L kc ks ls st h, JJ L kc ks ls st h → J y L kc ks ls st h Q) (hC : ∀ z kc ks as h Q1, C z kc ks as h Q1 → jRet z kc ks as h Q1) (hS : jS JJ C Q (pc0, .irem, aux) k kc ks ls st h) : J y pc kc ks ls st h Q := by
  obtain rfl : len = 1 := hlen.resolve_left (by intro h9; cases h9)
  obtain ⟨b1, r1, rfl, hS⟩ := p_i_of hS
  obtain ⟨a1, r, rfl, h0, hS⟩ := p_i_of hS
  exact J_pu (fun base b hx hb kk => lv_irem hx hb hd h0 kk) (hk _ _ _ _ _ hS)
theorem Q_ldiv (hd : decode (mC y) pc = .ok (.ldiv, len)) (hlen : jsw (.ldiv) = true ∨ len = jlen (.ldiv)) (hok : okI y pc (.ldiv) aux = true) (hk : ∀ kc ks ls st h, k kc ks ls st h → J y (pc + len) kc ks ls st h Q) (hJ : ∀ L kc ks ls st h, JJ L kc ks ls st h → J y L kc ks ls st h Q) (hC : ∀ z kc ks as h Q1, C z kc ks as h Q1 → jRet z kc ks as h Q1) (hS : jS JJ C Q (pc0, .ldiv, aux) k kc ks ls st h) : J y pc kc ks ls st h Q := by
  obtain rfl : len = 1 := hlen.resolve_left (by intro h9; cases h9)
  obtain ⟨b1, r1, rfl, hS⟩ := p_l_of hS
  obtain ⟨a1, r, rfl, h0, hS⟩ := p_l_of hS
  exact J_pu (fun base b hx hb kk => lv_ldiv hx hb hd h0 kk) (hk _ _ _ _ _ hS)
theorem Q_lrem (hd : decode (mC y) pc = .ok (.lrem, len)) (hlen : jsw (.lrem) = true ∨ len = jlen (.lrem)) (hok : okI y pc (.lrem) aux = true) (hk : ∀ kc ks ls st h, k kc ks ls st h → J y (pc + len) kc ks ls st h Q) (hJ : ∀ L kc ks ls st h, JJ L kc ks ls st h → J y L kc ks ls st h Q) (hC : ∀ z kc ks as h Q1, C z kc ks as h Q1 → jRet z kc ks as h Q1) (hS : jS JJ C Q (pc0, .lrem, aux) k kc ks ls st h) : J y pc kc ks ls st h Q := by
  obtain rfl : len = 1 := hlen.resolve_left (by intro h9; cases h9)
  obtain ⟨b1, r1, rfl, hS⟩ := p_l_of hS
  obtain ⟨a1, r, rfl, h0, hS⟩ := p_l_of hS
  exact J_pu (fun base b hx hb kk => lv_lrem hx hb hd h0 kk) (hk _ _ _ _ _ hS)
theorem Q_iushr (hd : decode (mC y) pc = .ok (.iushr, len)) (hlen : jsw (.iushr) = true ∨ len = jlen (.iushr)) (hok : okI y pc (.iushr) aux = true) (hk : ∀ kc ks ls st h, k kc ks ls st h → J y (pc + len) kc ks ls st h Q) (hJ : ∀ L kc ks ls st h, JJ L kc ks ls st h → J y L kc ks ls st h Q) (hC : ∀ z kc ks as h Q1, C z kc ks as h Q1 → jRet z kc ks as h Q1) (hS : jS JJ C Q (pc0, .iushr, aux) k kc ks ls st h) : J y pc kc ks ls st h Q := by
  obtain rfl : len = 1 := hlen.resolve_left (by intro h9; cases h9)
  obtain ⟨b1, r1, rfl, hS⟩ := p_i_of hS
  obtain ⟨a1, r, rfl, hS⟩ := p_i_of hS
  exact J_pu (fun base b hx hb kk => lv_iushr hx hb hd rfl kk) (hk _ _ _ _ _ hS)
theorem Q_lshl (hd : decode (mC y) pc = .ok (.lshl, len)) (hlen : jsw (.lshl) = true ∨ len = jlen (.lshl)) (hok : okI y pc (.lshl) aux = true) (hk : ∀ kc ks ls st h, k kc ks ls st h → J y (pc + len) kc ks ls st h Q) (hJ : ∀ L kc ks ls st h, JJ L kc ks ls st h → J y L kc ks ls st h Q) (hC : ∀ z kc ks as h Q1, C z kc ks as h Q1 → jRet z kc ks as h Q1) (hS : jS JJ C Q (pc0, .lshl, aux) k kc ks ls st h) : J y pc kc ks ls st h Q := by
  obtain rfl : len = 1 := hlen.resolve_left (by intro h9; cases h9)
  obtain ⟨b1, r1, rfl, hS⟩ := p_i_of hS
  obtain ⟨a1, r, rfl, hS⟩ := p_l_of hS
  exact J_pu (fun base b hx hb kk => lv_lshl hx hb hd rfl kk) (hk _ _ _ _ _ hS)
theorem Q_lshr (hd : decode (mC y) pc = .ok (.lshr, len)) (hlen : jsw (.lshr) = true ∨ len = jlen (.lshr)) (hok : okI y pc (.lshr) aux = true) (hk : ∀ kc ks ls st h, k kc ks ls st h → J y (pc + len) kc ks ls st h Q) (hJ : ∀ L kc ks ls st h, JJ L kc ks ls st h → J y L kc ks ls st h Q) (hC : ∀ z kc ks as h Q1, C z kc ks as h Q1 → jRet z kc ks as h Q1) (hS : jS JJ C Q (pc0, .lshr, aux) k kc ks ls st h) : J y pc kc ks ls st h Q := by
  obtain rfl : len = 1 := hlen.resolve_left (by intro h9; cases h9)
  obtain ⟨b1, r1, rfl, hS⟩ := p_i_of hS
  obtain ⟨a1, r, rfl, hS⟩ := p_l_of hS
  exact J_pu (fun base b hx hb kk => lv_lshr hx hb hd rfl kk) (hk _ _ _ _ _ hS)
theorem Q_lushr (hd : decode (mC y) pc = .ok (.lushr, len)) (hlen : jsw (.lushr) = true ∨ len = jlen (.lushr)) (hok : okI y pc (.lushr) aux = true) (hk : ∀ kc ks ls st h, k kc ks ls st h → J y (pc + len) kc ks ls st h Q) (hJ : ∀ L kc ks ls st h, JJ L kc ks ls st h → J y L kc ks ls st h Q) (hC : ∀ z kc ks as h Q1, C z kc ks as h Q1 → jRet z kc ks as h Q1) (hS : jS JJ C Q (pc0, .lushr, aux) k kc ks ls st h) : J y pc kc ks ls st h Q := by
  obtain rfl : len = 1 := hlen.resolve_left (by intro h9; cases h9)
  obtain ⟨b1, r1, rfl, hS⟩ := p_i_of hS
  obtain ⟨a1, r, rfl, hS⟩ := p_l_of hS
  exact J_pu (fun base b hx hb kk => lv_lushr hx hb hd rfl kk) (hk _ _ _ _ _ hS)
theorem Q_lcmp (hd : decode (mC y) pc = .ok (.lcmp, len)) (hlen : jsw (.lcmp) = true ∨ len = jlen (.lcmp)) (hok : okI y pc (.lcmp) aux = true) (hk : ∀ kc ks ls st h, k kc ks ls st h → J y (pc + len) kc ks ls st h Q) (hJ : ∀ L kc ks ls st h, JJ L kc ks ls st h → J y L kc ks ls st h Q) (hC : ∀ z kc ks as h Q1, C z kc ks as h Q1 → jRet z kc ks as h Q1) (hS : jS JJ C Q (pc0, .lcmp, aux) k kc ks ls st h) : J y pc kc ks ls st h Q := by
  obtain rfl : len = 1 := hlen.resolve_left (by intro h9; cases h9)
  obtain ⟨b1, r1, rfl, hS⟩ := p_l_of hS
  obtain ⟨a1, r, rfl, hS⟩ := p_l_of hS
  exact J_pu (fun base b hx hb kk => W.lcmp hx hb hd kk) (hk _ _ _ _ _ hS)
theorem Q_ineg (hd : decode (mC y) pc = .ok (.ineg, len)) (hlen : jsw (.ineg) = true ∨ len = jlen (.ineg)) (hok : okI y pc (.ineg) aux = true) (hk : ∀ kc ks ls st h, k kc ks ls st h → J y (pc + len) kc ks ls st h Q) (hJ : ∀ L kc ks ls st h, JJ L kc ks ls st h → J y L kc ks ls st h Q) (hC : ∀ z kc ks as h Q1, C z kc ks as h Q1 → jRet z kc ks as h Q1) (hS : jS JJ C Q (pc0, .ineg, aux) k kc ks ls st h) : J y pc kc ks ls st h Q := by
  obtain rfl : len = 1 := hlen.resolve_left (by intro h9; cases h9)
  obtain ⟨a1, r, rfl, hS⟩ := p_i_of hS
  exact J_pu (fun base b hx hb kk => lv_ineg hx hb hd kk) (hk _ _ _ _ _ hS)
theorem Q_lneg (hd : decode (mC y) pc = .ok (.lneg, len)) (hlen : jsw (.lneg) = true ∨ len = jlen (.lneg)) (hok : okI y pc (.lneg) aux = true) (hk : ∀ kc ks ls st h, k kc ks ls st h → J y (pc + len) kc ks ls st h Q) (hJ : ∀ L kc ks ls st h, JJ L kc ks ls st h → J y L kc ks ls st h Q) (hC : ∀ z kc ks as h Q1, C z kc ks as h Q1 → jRet z kc ks as h Q1) (hS : jS JJ C Q (pc0, .lneg, aux) k kc ks ls st h) : J y pc kc ks ls st h Q := by
  obtain rfl : len = 1 := hlen.resolve_left (by intro h9; cases h9)
  obtain ⟨a1, r, rfl, hS⟩ := p_l_of hS
  exact J_pu (fun base b hx hb kk => lv_lneg hx hb hd kk) (hk _ _ _ _ _ hS)
theorem Q_i2l (hd : decode (mC y) pc = .ok (.i2l, len)) (hlen : jsw (.i2l) = true ∨ len = jlen (.i2l)) (hok : okI y pc (.i2l) aux = true) (hk : ∀ kc ks ls st h, k kc ks ls st h → J y (pc + len) kc ks ls st h Q) (hJ : ∀ L kc ks ls st h, JJ L kc ks ls st h → J y L kc ks ls st h Q) (hC : ∀ z kc ks as h Q1, C z kc ks as h Q1 → jRet z kc ks as h Q1) (hS : jS JJ C Q (pc0, .i2l, aux) k kc ks ls st h) : J y pc kc ks ls st h Q := by
  obtain rfl : len = 1 := hlen.resolve_left (by intro h9; cases h9)
  obtain ⟨a1, r, rfl, hS⟩ := p_i_of hS
  exact J_pu (fun base b hx hb kk => lv_i2l hx hb hd rfl kk) (hk _ _ _ _ _ hS)
theorem Q_l2i (hd : decode (mC y) pc = .ok (.l2i, len)) (hlen : jsw (.l2i) = true ∨ len = jlen (.l2i)) (hok : okI y pc (.l2i) aux = true) (hk : ∀ kc ks ls st h, k kc ks ls st h → J y (pc + len) kc ks ls st h Q) (hJ : ∀ L kc ks ls st h, JJ L kc ks ls st h → J y L kc ks ls st h Q) (hC : ∀ z kc ks as h Q1, C z kc ks as h Q1 → jRet z kc ks as h Q1) (hS : jS JJ C Q (pc0, .l2i, aux) k kc ks ls st h) : J y pc kc ks ls st h Q := by
  obtain rfl : len = 1 := hlen.resolve_left (by intro h9; cases h9)
  obtain ⟨a1, r, rfl, hS⟩ := p_l_of hS
  exact J_pu (fun base b hx hb kk => lv_l2i hx hb hd rfl kk) (hk _ _ _ _ _ hS)
theorem Q_i2b (hd : decode (mC y) pc = .ok (.i2b, len)) (hlen : jsw (.i2b) = true ∨ len = jlen (.i2b)) (hok : okI y pc (.i2b) aux = true) (hk : ∀ kc ks ls st h, k kc ks ls st h → J y (pc + len) kc ks ls st h Q) (hJ : ∀ L kc ks ls st h, JJ L kc ks ls st h → J y L kc ks ls st h Q) (hC : ∀ z kc ks as h Q1, C z kc ks as h Q1 → jRet z kc ks as h Q1) (hS : jS JJ C Q (pc0, .i2b, aux) k kc ks ls st h) : J y pc kc ks ls st h Q := by
  obtain rfl : len = 1 := hlen.resolve_left (by intro h9; cases h9)
  obtain ⟨a1, r, rfl, hS⟩ := p_i_of hS
  exact J_pu (fun base b hx hb kk => lv_i2b hx hb hd rfl kk) (hk _ _ _ _ _ hS)
theorem Q_dup (hd : decode (mC y) pc = .ok (.dup, len)) (hlen : jsw (.dup) = true ∨ len = jlen (.dup)) (hok : okI y pc (.dup) aux = true) (hk : ∀ kc ks ls st h, k kc ks ls st h → J y (pc + len) kc ks ls st h Q) (hJ : ∀ L kc ks ls st h, JJ L kc ks ls st h → J y L kc ks ls st h Q) (hC : ∀ z kc ks as h Q1, C z kc ks as h Q1 → jRet z kc ks as h Q1) (hS : jS JJ C Q (pc0, .dup, aux) k kc ks ls st h) : J y pc kc ks ls st h Q := by
  obtain rfl : len = 1 := hlen.resolve_left (by intro h9; cases h9)
  match st, hS with
  | .ref q :: r, hS => exact J_pu (fun base b hx hb kk => lv_dup hx hb hd (by rw [cat_cv]; rfl) kk) (hk _ _ _ _ _ hS)
  | .int q :: r, hS => exact J_pu (fun base b hx hb kk => lv_dup hx hb hd rfl kk) (hk _ _ _ _ _ hS)
theorem Q_ifCond {cd : Jvm.ClassFile.Cond} {o : Int} (hd : decode (mC y) pc = .ok (.ifCond cd o, len)) (hlen : jsw (.ifCond cd o) = true ∨ len = jlen (.ifCond cd o)) (hok : okI y pc (.ifCond cd o) aux = true) (hk : ∀ kc ks ls st h, k kc ks ls st h → J y (pc + len) kc ks ls st h Q) (hJ : ∀ L kc ks ls st h, JJ L kc ks ls st h → J y L kc ks ls st h Q) (hC : ∀ z kc ks as h Q1, C z kc ks as h Q1 → jRet z kc ks as h Q1) (hS : jS JJ C Q (pc0, .ifCond cd o, aux) k kc ks ls st h) : J y pc kc ks ls st h Q := by
  obtain rfl : len = 3 := hlen.resolve_left (by intro h9; cases h9)
  obtain ⟨a1, r, rfl, hS⟩ := p_i_of hS
  exact J_if hd (of_decide_eq_true hok) (jcd_mono hS (hJ _ _ _ _ _ _) (hk _ _ _ _ _))
theorem Q_if_icmp {cd : Jvm.ClassFile.Cond} {o : Int} (hd : decode (mC y) pc = .ok (.if_icmp cd o, len)) (hlen : jsw (.if_icmp cd o) = true ∨ len = jlen (.if_icmp cd o)) (hok : okI y pc (.if_icmp cd o) aux = true) (hk : ∀ kc ks ls st h, k kc ks ls st h → J y (pc + len) kc ks ls st h Q) (hJ : ∀ L kc ks ls st h, JJ L kc ks ls st h → J y L kc ks ls st h Q) (hC : ∀ z kc ks as h Q1, C z kc ks as h Q1 → jRet z kc ks as h Q1) (hS : jS JJ C Q (pc0, .if_icmp cd o, aux) k kc ks ls st h) : J y pc kc ks ls st h Q := by
  obtain rfl : len = 3 := hlen.resolve_left (by intro h9; cases h9)
  obtain ⟨b1, r1, rfl, hS⟩ := p_i_of hS
  obtain ⟨a1, r, rfl, hS⟩ := p_i_of hS
  exact J_ic hd (of_decide_eq_true hok) (jcd_mono hS (hJ _ _ _ _ _ _) (hk _ _ _ _ _))
theorem Q_goto {o : Int} (hd : decode (mC y) pc = .ok (.goto o, len)) (hlen : jsw (.goto o) = true ∨ len = jlen (.goto o)) (hok : okI y pc (.goto o) aux = true) (hk : ∀ kc ks ls st h, k kc ks ls st h → J y (pc + len) kc ks ls st h Q) (hJ : ∀ L kc ks ls st h, JJ L kc ks ls st h → J y L kc ks ls st h Q) (hC : ∀ z kc ks as h Q1, C z kc ks as h Q1 → jRet z kc ks as h Q1) (hS : jS JJ C Q (pc0, .goto o, aux) k kc ks ls st h) : J y pc kc ks ls st h Q := by
  obtain rfl : len = 3 := hlen.resolve_left (by intro h9; cases h9)
  exact J_go hd (of_decide_eq_true hok) (hJ _ _ _ _ _ _ hS)
theorem Q_tableswitch {d lo hi : Int} {os : Array Int} (hd : decode (mC y) pc = .ok (.tableswitch d lo hi os, len)) (hlen : jsw (.tableswitch d lo hi os) = true ∨ len = jlen (.tableswitch d lo hi os)) (hok : okI y pc (.tableswitch d lo hi os) aux = true) (hk : ∀ kc ks ls st h, k kc ks ls st h → J y (pc + len) kc ks ls st h Q) (hJ : ∀ L kc ks ls st h, JJ L kc ks ls st h → J y L kc ks ls st h Q) (hC : ∀ z kc ks as h Q1, C z kc ks as h Q1 → jRet z kc ks as h Q1) (hS : jS JJ C Q (pc0, .tableswitch d lo hi os, aux) k kc ks ls st h) : J y pc kc ks ls st h Q := by
  obtain ⟨a1, r, rfl, hS⟩ := p_i_of hS
  simp only [okI, Bool.and_eq_true, decide_eq_true_eq] at hok
  exact J_sw hd hok.1.1 hok.1.2 hok.2 (fun q => hJ _ _ _ _ _ _ (hS.1 q)) (fun j t q1 q2 => hJ _ _ _ _ _ _ (hS.2 j t q1 q2))
theorem Q_iaload (hd : decode (mC y) pc = .ok (.iaload, len)) (hlen : jsw (.iaload) = true ∨ len = jlen (.iaload)) (hok : okI y pc (.iaload) aux = true) (hk : ∀ kc ks ls st h, k kc ks ls st h → J y (pc + len) kc ks ls st h Q) (hJ : ∀ L kc ks ls st h, JJ L kc ks ls st h → J y L kc ks ls st h Q) (hC : ∀ z kc ks as h Q1, C z kc ks as h Q1 → jRet z kc ks as h Q1) (hS : jS JJ C Q (pc0, .iaload, aux) k kc ks ls st h) : J y pc kc ks ls st h Q := by
  obtain rfl : len = 1 := hlen.resolve_left (by intro h9; cases h9)
  obtain ⟨b1, r1, rfl, hS⟩ := p_i_of hS
  obtain ⟨a1, r, rfl, h0, hS⟩ := p_r_of hS
  exact J_iald hd h0 (hk _ _ _ _ _ hS)
theorem Q_baload (hd : decode (mC y) pc = .ok (.baload, len)) (hlen : jsw (.baload) = true ∨ len = jlen (.baload)) (hok : okI y pc (.baload) aux = true) (hk : ∀ kc ks ls st h, k kc ks ls st h → J y (pc + len) kc ks ls st h Q) (hJ : ∀ L kc ks ls st h, JJ L kc ks ls st h → J y L kc ks ls st h Q) (hC : ∀ z kc ks as h Q1, C z kc ks as h Q1 → jRet z kc ks as h Q1) (hS : jS JJ C Q (pc0, .baload, aux) k kc ks ls st h) : J y pc kc ks ls st h Q := by
  obtain rfl : len = 1 := hlen.resolve_left (by intro h9; cases h9)
  obtain ⟨b1, r1, rfl, hS⟩ := p_i_of hS
  obtain ⟨a1, r, rfl, h0, hS⟩ := p_r_of hS
  exact J_bald hd h0 (hk _ _ _ _ _ hS)
theorem Q_aaload (hd : decode (mC y) pc = .ok (.aaload, len)) (hlen : jsw (.aaload) = true ∨ len = jlen (.aaload)) (hok : okI y pc (.aaload) aux = true) (hk : ∀ kc ks ls st h, k kc ks ls st h → J y (pc + len) kc ks ls st h Q) (hJ : ∀ L kc ks ls st h, JJ L kc ks ls st h → J y L kc ks ls st h Q) (hC : ∀ z kc ks as h Q1, C z kc ks as h Q1 → jRet z kc ks as h Q1) (hS : jS JJ C Q (pc0, .aaload, aux) k kc ks ls st h) : J y pc kc ks ls st h Q := by
  obtain rfl : len = 1 := hlen.resolve_left (by intro h9; cases h9)
  obtain ⟨b1, r1, rfl, hS⟩ := p_i_of hS
  obtain ⟨a1, r, rfl, h0, hS⟩ := p_r_of hS
  exact J_aald hd h0 (hk _ _ _ _ _ hS)
theorem Q_iastore (hd : decode (mC y) pc = .ok (.iastore, len)) (hlen : jsw (.iastore) = true ∨ len = jlen (.iastore)) (hok : okI y pc (.iastore) aux = true) (hk : ∀ kc ks ls st h, k kc ks ls st h → J y (pc + len) kc ks ls st h Q) (hJ : ∀ L kc ks ls st h, JJ L kc ks ls st h → J y L kc ks ls st h Q) (hC : ∀ z kc ks as h Q1, C z kc ks as h Q1 → jRet z kc ks as h Q1) (hS : jS JJ C Q (pc0, .iastore, aux) k kc ks ls st h) : J y pc kc ks ls st h Q := by
  obtain rfl : len = 1 := hlen.resolve_left (by intro h9; cases h9)
  obtain ⟨c1, r2, rfl, hS⟩ := p_i_of hS
  obtain ⟨b1, r1, rfl, hS⟩ := p_i_of hS
  obtain ⟨a1, r, rfl, h0, hS⟩ := p_r_of hS
  exact J_iast hd h0 (hk _ _ _ _ _ hS)
theorem Q_bastore (hd : decode (mC y) pc = .ok (.bastore, len)) (hlen : jsw (.bastore) = true ∨ len = jlen (.bastore)) (hok : okI y pc (.bastore) aux = true) (hk : ∀ kc ks ls st h, k kc ks ls st h → J y (pc + len) kc ks ls st h Q) (hJ : ∀ L kc ks ls st h, JJ L kc ks ls st h → J y L kc ks ls st h Q) (hC : ∀ z kc ks as h Q1, C z kc ks as h Q1 → jRet z kc ks as h Q1) (hS : jS JJ C Q (pc0, .bastore, aux) k kc ks ls st h) : J y pc kc ks ls st h Q := by
  obtain rfl : len = 1 := hlen.resolve_left (by intro h9; cases h9)
  obtain ⟨c1, r2, rfl, hS⟩ := p_i_of hS
  obtain ⟨b1, r1, rfl, hS⟩ := p_i_of hS
  obtain ⟨a1, r, rfl, h0, hS⟩ := p_r_of hS
  exact J_bast hd h0 (hk _ _ _ _ _ hS)
theorem Q_aastore (hd : decode (mC y) pc = .ok (.aastore, len)) (hlen : jsw (.aastore) = true ∨ len = jlen (.aastore)) (hok : okI y pc (.aastore) aux = true) (hk : ∀ kc ks ls st h, k kc ks ls st h → J y (pc + len) kc ks ls st h Q) (hJ : ∀ L kc ks ls st h, JJ L kc ks ls st h → J y L kc ks ls st h Q) (hC : ∀ z kc ks as h Q1, C z kc ks as h Q1 → jRet z kc ks as h Q1) (hS : jS JJ C Q (pc0, .aastore, aux) k kc ks ls st h) : J y pc kc ks ls st h Q := by
  obtain rfl : len = 1 := hlen.resolve_left (by intro h9; cases h9)
  obtain ⟨c1, r2, rfl, hS⟩ := p_r_of hS
  obtain ⟨b1, r1, rfl, hS⟩ := p_i_of hS
  obtain ⟨a1, r, rfl, h0, hS⟩ := p_r_of hS
  exact J_aast hd h0 (hk _ _ _ _ _ hS)
theorem Q_arraylength (hd : decode (mC y) pc = .ok (.arraylength, len)) (hlen : jsw (.arraylength) = true ∨ len = jlen (.arraylength)) (hok : okI y pc (.arraylength) aux = true) (hk : ∀ kc ks ls st h, k kc ks ls st h → J y (pc + len) kc ks ls st h Q) (hJ : ∀ L kc ks ls st h, JJ L kc ks ls st h → J y L kc ks ls st h Q) (hC : ∀ z kc ks as h Q1, C z kc ks as h Q1 → jRet z kc ks as h Q1) (hS : jS JJ C Q (pc0, .arraylength, aux) k kc ks ls st h) : J y pc kc ks ls st h Q := by
  obtain rfl : len = 1 := hlen.resolve_left (by intro h9; cases h9)
  obtain ⟨a1, r, rfl, h0, hS⟩ := p_r_of hS
  exact J_alen hd h0 (hk _ _ _ _ _ hS)
theorem Q_newarray {t : ArrayType} (hd : decode (mC y) pc = .ok (.newarray t, len)) (hlen : jsw (.newarray t) = true ∨ len = jlen (.newarray t)) (hok : okI y pc (.newarray t) aux = true) (hk : ∀ kc ks ls st h, k kc ks ls st h → J y (pc + len) kc ks ls st h Q) (hJ : ∀ L kc ks ls st h, JJ L kc ks ls st h → J y L kc ks ls st h Q) (hC : ∀ z kc ks as h Q1, C z kc ks as h Q1 → jRet z kc ks as h Q1) (hS : jS JJ C Q (pc0, .newarray t, aux) k kc ks ls st h) : J y pc kc ks ls st h Q := by
  obtain rfl : len = 2 := hlen.resolve_left (by intro h9; cases h9)
  obtain ⟨a1, r, rfl, u1, u2, u3, u4, hS⟩ := p_i_of hS
  refine J_nai (cd := aux.getD 0 0) hd ?_ ⟨u1, u2, u3, u4, hk _ _ _ _ _ hS⟩
  cases t <;> first | exact Or.inl ⟨rfl, of_decide_eq_true hok⟩ | exact Or.inr ⟨rfl, of_decide_eq_true hok⟩ | exact absurd hok (by intro h9; cases h9)
theorem Q_anewarray {i : Nat} (hd : decode (mC y) pc = .ok (.anewarray i, len)) (hlen : jsw (.anewarray i) = true ∨ len = jlen (.anewarray i)) (hok : okI y pc (.anewarray i) aux = true) (hk : ∀ kc ks ls st h, k kc ks ls st h → J y (pc + len) kc ks ls st h Q) (hJ : ∀ L kc ks ls st h, JJ L kc ks ls st h → J y L kc ks ls st h Q) (hC : ∀ z kc ks as h Q1, C z kc ks as h Q1 → jRet z kc ks as h Q1) (hS : jS JJ C Q (pc0, .anewarray i, aux) k kc ks ls st h) : J y pc kc ks ls st h Q := by
  obtain rfl : len = 3 := hlen.resolve_left (by intro h9; cases h9)
  obtain ⟨a1, r, rfl, u1, u2, u3, u4, hS⟩ := p_i_of hS
  refine J_naq (cd := aux.getD 0 0) hd ?_ ⟨u1, u2, u3, u4, hk _ _ _ _ _ hS⟩
  simpa [okI] using hok
theorem Q_new {i : Nat} (hd : decode (mC y) pc = .ok (.new i, len)) (hlen : jsw (.new i) = true ∨ len = jlen (.new i)) (hok : okI y pc (.new i) aux = true) (hk : ∀ kc ks ls st h, k kc ks ls st h → J y (pc + len) kc ks ls st h Q) (hJ : ∀ L kc ks ls st h, JJ L kc ks ls st h → J y L kc ks ls st h Q) (hC : ∀ z kc ks as h Q1, C z kc ks as h Q1 → jRet z kc ks as h Q1) (hS : jS JJ C Q (pc0, .new i, aux) k kc ks ls st h) : J y pc kc ks ls st h Q := by
  obtain rfl : len = 3 := hlen.resolve_left (by intro h9; cases h9)
  obtain ⟨u1, u2, hS⟩ := hS
  simp only [okI, Bool.and_eq_true, decide_eq_true_eq, List.contains_iff_mem] at hok
  exact J_new hd hok.1 hok.2 u1 u2 (hk _ _ _ _ _ hS)
theorem Q_getfield {i : Nat} (hd : decode (mC y) pc = .ok (.getfield i, len)) (hlen : jsw (.getfield i) = true ∨ len = jlen (.getfield i)) (hok : okI y pc (.getfield i) aux = true) (hk : ∀ kc ks ls st h, k kc ks ls st h → J y (pc + len) kc ks ls st h Q) (hJ : ∀ L kc ks ls st h, JJ L kc ks ls st h → J y L kc ks ls st h Q) (hC : ∀ z kc ks as h Q1, C z kc ks as h Q1 → jRet z kc ks as h Q1) (hS : jS JJ C Q (pc0, .getfield i, aux) k kc ks ls st h) : J y pc kc ks ls st h Q := by
  obtain rfl : len = 3 := hlen.resolve_left (by intro h9; cases h9)
  obtain ⟨a1, r, rfl, u1, hS⟩ := p_r_of hS
  simp only [okI, Bool.and_eq_true, decide_eq_true_eq, List.contains_iff_mem] at hok
  exact J_get hd hok.1.1.1 hok.1.1.2 hok.1.2 hok.2 u1 (hk _ _ _ _ _ hS)
theorem Q_putfield {i : Nat} (hd : decode (mC y) pc = .ok (.putfield i, len)) (hlen : jsw (.putfield i) = true ∨ len = jlen (.putfield i)) (hok : okI y pc (.putfield i) aux = true) (hk : ∀ kc ks ls st h, k kc ks ls st h → J y (pc + len) kc ks ls st h Q) (hJ : ∀ L kc ks ls st h, JJ L kc ks ls st h → J y L kc ks ls st h Q) (hC : ∀ z kc ks as h Q1, C z kc ks as h Q1 → jRet z kc ks as h Q1) (hS : jS JJ C Q (pc0, .putfield i, aux) k kc ks ls st h) : J y pc kc ks ls st h Q := by
  obtain rfl : len = 3 := hlen.resolve_left (by intro h9; cases h9)
  simp only [okI, Bool.and_eq_true, decide_eq_true_eq, List.contains_iff_mem, Bool.or_eq_true, Bool.not_eq_true'] at hok
  match st, hS with
  | v :: .ref p0 :: r, hS =>
    refine J_put hd hok.1.1.1.1 hok.1.1.1.2 hok.1.1.2 hok.1.2 hok.2 hS.1 ?_
    exact jPut_mono hS.2 (fun h' q => hk _ _ _ _ _ q)
theorem Q_invokevirtual {i : Nat} (hd : decode (mC y) pc = .ok (.invokevirtual i, len)) (hlen : jsw (.invokevirtual i) = true ∨ len = jlen (.invokevirtual i)) (hok : okI y pc (.invokevirtual i) aux = true) (hk : ∀ kc ks ls st h, k kc ks ls st h → J y (pc + len) kc ks ls st h Q) (hJ : ∀ L kc ks ls st h, JJ L kc ks ls st h → J y L kc ks ls st h Q) (hC : ∀ z kc ks as h Q1, C z kc ks as h Q1 → jRet z kc ks as h Q1) (hS : jS JJ C Q (pc0, .invokevirtual i, aux) k kc ks ls st h) : J y pc kc ks ls st h Q := by
  obtain rfl : len = 3 := hlen.resolve_left (by intro h9; cases h9)
  match aux, hok, hS with
  | [z, n, rk, k1, s1], hok, hS =>
    simp only [okI, Bool.and_eq_true, decide_eq_true_eq, List.contains_iff_mem] at hok
    have hS9 : jCal C 1 z n rk k1 s1 k kc ks ls st h := hS
    obtain ⟨u1, u2, u3, ul, u4, u9, u5⟩ := J_cal hC hS9
    obtain ⟨p0, As, u6, u7⟩ := u4 rfl
    rw [u6] at u5
    have hn : As.length + 1 = n := by
      have := congrArg List.length u6
      rw [List.length_reverse, ul, List.length_cons] at this
      omega
    exact J_callV (As := As) (rest := st.drop n) hd hok.1.1.1 hok.1.2 hok.2 hn ((take_rev u6).trans (by simp)) u3 u7 u1 u2 u5 (fun v h' q => hk _ _ _ _ _ (jAns_of q))
theorem Q_invokestatic {i : Nat} (hd : decode (mC y) pc = .ok (.invokestatic i, len)) (hlen : jsw (.invokestatic i) = true ∨ len = jlen (.invokestatic i)) (hok : okI y pc (.invokestatic i) aux = true) (hk : ∀ kc ks ls st h, k kc ks ls st h → J y (pc + len) kc ks ls st h Q) (hJ : ∀ L kc ks ls st h, JJ L kc ks ls st h → J y L kc ks ls st h Q) (hC : ∀ z kc ks as h Q1, C z kc ks as h Q1 → jRet z kc ks as h Q1) (hS : jS JJ C Q (pc0, .invokestatic i, aux) k kc ks ls st h) : J y pc kc ks ls st h Q := by
  obtain rfl : len = 3 := hlen.resolve_left (by intro h9; cases h9)
  match aux, hok, hS with
  | [z, n, rk, k1, s1], hok, hS =>
    simp only [okI, Bool.and_eq_true, decide_eq_true_eq, List.contains_iff_mem] at hok
    have hS9 : jCal C 0 z n rk k1 s1 k kc ks ls st h := hS
    obtain ⟨u1, u2, u3, ul, u4, u9, u5⟩ := J_cal hC hS9
    exact J_callS (As := (st.take n).reverse) (rest := st.drop n) hd hok.1.1.1 hok.1.2 hok.2 (by rw [List.length_reverse, ul]) (take_rev rfl) u3 u1 u2 u5 (fun v h' q => hk _ _ _ _ _ (jAns_of q))
  | [0, q], hok, hS =>
    simp only [okI, Bool.and_eq_true, decide_eq_true_eq, List.contains_iff_mem] at hok
    obtain ⟨b1, r1, rfl, hS⟩ := p_i_of hS
    obtain ⟨a1, r, rfl, hS⟩ := p_i_of hS
    obtain ⟨hb, hS⟩ := bif_of hS
    exact J_max hd hok.1.1.2 hok.1.2 hok.2 (Nat.le_of_ble_eq_true hb) (hk _ _ _ _ _ hS)
  | [1, q], hok, hS =>
    simp only [okI, Bool.and_eq_true, decide_eq_true_eq, List.contains_iff_mem] at hok
    obtain ⟨b1, r1, rfl, hS⟩ := p_l_of hS
    obtain ⟨a1, r, rfl, hS⟩ := p_l_of hS
    obtain ⟨hb, hS⟩ := bif_of hS
    exact J_maxl hd hok.1.1.2 hok.1.2 hok.2 (Nat.le_of_ble_eq_true hb) (hk _ _ _ _ _ hS)
  | [2, q], hok, hS =>
    simp only [okI, Bool.and_eq_true, decide_eq_true_eq, List.contains_iff_mem] at hok
    obtain ⟨b1, r1, rfl, hS⟩ := p_l_of hS
    obtain ⟨a1, r, rfl, hS⟩ := p_l_of hS
    obtain ⟨hb, hS⟩ := bif_of hS
    exact J_minl hd hok.1.1.2 hok.1.2 hok.2 (Nat.le_of_ble_eq_true hb) (hk _ _ _ _ _ hS)
  | [3, q], hok, hS =>
    simp only [okI, Bool.and_eq_true, decide_eq_true_eq, List.contains_iff_mem] at hok
    obtain ⟨a1, r, rfl, hS⟩ := p_l_of hS
    obtain ⟨hb, hS⟩ := bif_of hS
    exact J_absl hd hok.1.1.2 hok.1.2 hok.2 (Nat.le_of_ble_eq_true hb) (hk _ _ _ _ _ hS)
  | [4, q], hok, hS =>
    simp only [okI, Bool.and_eq_true, decide_eq_true_eq, List.contains_iff_mem] at hok
    obtain ⟨b1, r1, rfl, hS⟩ := p_i_of hS
    obtain ⟨a1, r, rfl, hS⟩ := p_i_of hS
    obtain ⟨hb, hS⟩ := bif_of hS
    exact J_min hd hok.1.1.2 hok.1.2 hok.2 (Nat.le_of_ble_eq_true hb) (hk _ _ _ _ _ hS)
  | [n + 5, q], hok, hS =>
    simp only [okI, Bool.and_eq_true, decide_eq_true_eq, List.contains_iff_mem] at hok
    omega
  | [], hok, hS =>
    simp only [okI, Bool.and_eq_true, decide_eq_true_eq, List.contains_iff_mem] at hok
    obtain ⟨n, r1, rfl, hS⟩ := p_i_of hS
    obtain ⟨dp, r1, rfl, hS⟩ := p_i_of hS
    obtain ⟨b0, r1, rfl, hS⟩ := p_r_of hS
    obtain ⟨sp, r1, rfl, hS⟩ := p_i_of hS
    obtain ⟨a0, r1, rfl, hS⟩ := p_r_of hS
    obtain ⟨hb, v1, v2, v3, v4, v5, v6, v7, hS9⟩ := bif_of hS
    obtain ⟨⟨⟨w1, w2⟩, w3⟩, w4⟩ := hok
    subst w2
    exact J_cpy hd w1 w3 w4 (Nat.le_of_ble_eq_true hb) v1 v2 v3 v4 v5 v6 v7 (hk _ _ _ _ _ hS9)
theorem Q_invokespecial {i : Nat} (hd : decode (mC y) pc = .ok (.invokespecial i, len)) (hlen : jsw (.invokespecial i) = true ∨ len = jlen (.invokespecial i)) (hok : okI y pc (.invokespecial i) aux = true) (hk : ∀ kc ks ls st h, k kc ks ls st h → J y (pc + len) kc ks ls st h Q) (hJ : ∀ L kc ks ls st h, JJ L kc ks ls st h → J y L kc ks ls st h Q) (hC : ∀ z kc ks as h Q1, C z kc ks as h Q1 → jRet z kc ks as h Q1) (hS : jS JJ C Q (pc0, .invokespecial i, aux) k kc ks ls st h) : J y pc kc ks ls st h Q := by
  obtain rfl : len = 3 := hlen.resolve_left (by intro h9; cases h9)
  match aux, hok, hS with
  | [z, n, rk, k1, s1], hok, hS =>
    simp only [okI, Bool.and_eq_true, decide_eq_true_eq, List.contains_iff_mem, Bool.or_eq_true] at hok
    have hS9 : jCal C 2 z n rk k1 s1 k kc ks ls st h := hS
    obtain ⟨u1, u2, u3, ul, u4, u9, u5⟩ := J_cal hC hS9
    obtain ⟨hz, hrt, hl1, hp0⟩ : z < 200 ∧ mR z = none ∧ 1 ≤ n ∧ True := by
      have e0 : (tM ++ tZ).all (fun x => decide (x.getD 4 0 = 1 ∨ x.getD 4 0 = 3 → x.getD 2 0 < 200 ∧ mR (x.getD 2 0) = none ∧ 1 ≤ x.getD 3 0)) = true := by decide +kernel
      rcases hok.1.1.1 with hM | hM
      · have h9 := List.all_eq_true.mp e0 _ (List.mem_append_left _ hM)
        simp only [List.getD_cons_zero, List.getD_cons_succ, decide_eq_true_eq] at h9
        obtain ⟨q1, q2, q3⟩ := h9 (by simp)
        exact ⟨q1, q2, q3, trivial⟩
      · have h9 := List.all_eq_true.mp e0 _ (List.mem_append_right _ hM)
        simp only [List.getD_cons_zero, List.getD_cons_succ, decide_eq_true_eq] at h9
        obtain ⟨q1, q2, q3⟩ := h9 (by simp)
        exact ⟨q1, q2, q3, trivial⟩
    obtain ⟨p0, As, u6, u7⟩ := u9 rfl
    rw [u6] at u5
    have hn : As.length + 1 = n := by
      have := congrArg List.length u6
      rw [List.length_reverse, ul, List.length_cons] at this
      omega
    exact J_callI (As := As) (rest := st.drop n) hd hok.1.1.1 hrt hok.1.2 hok.2 hn ((take_rev u6).trans (by simp)) u3 u7 u1 u2 u5 (fun v h' q => hk _ _ _ _ _ (jAns_of q))
  | [], hok, hS =>
    simp only [okI, Bool.and_eq_true, decide_eq_true_eq, List.contains_iff_mem] at hok
    obtain ⟨p0, r, rfl, hS⟩ := p_r_of hS
    obtain ⟨hb, hp, hS⟩ := bif_of hS
    exact J_obj hd hok.1.1 hok.1.2 hok.2 (Nat.le_of_ble_eq_true hb) hp (hk _ _ _ _ _ hS)
theorem Q_ireturn (hd : decode (mC y) pc = .ok (.ireturn, len)) (hlen : jsw (.ireturn) = true ∨ len = jlen (.ireturn)) (hok : okI y pc (.ireturn) aux = true) (hk : ∀ kc ks ls st h, k kc ks ls st h → J y (pc + len) kc ks ls st h Q) (hJ : ∀ L kc ks ls st h, JJ L kc ks ls st h → J y L kc ks ls st h Q) (hC : ∀ z kc ks as h Q1, C z kc ks as h Q1 → jRet z kc ks as h Q1) (hS : jS JJ C Q (pc0, .ireturn, aux) k kc ks ls st h) : J y pc kc ks ls st h Q := by
  obtain rfl : len = 1 := hlen.resolve_left (by intro h9; cases h9)
  obtain ⟨v, r, rfl, hS⟩ := p_i_of hS
  obtain ⟨rfl, hS⟩ := p_n_of hS
  simp only [okI, Bool.and_eq_true, decide_eq_true_eq, Bool.or_eq_true] at hok
  rcases hok with ⟨e1, e2⟩ | ⟨e1, e2⟩
  · subst e2
    exact J_ret (v := some (.int v)) ⟨Or.inl e1, hd⟩ hS
  · subst e2
    exact J_ret (v := some (.int v)) ⟨Or.inr ⟨e1, hS.1⟩, hd⟩ hS.2
theorem Q_lreturn (hd : decode (mC y) pc = .ok (.lreturn, len)) (hlen : jsw (.lreturn) = true ∨ len = jlen (.lreturn)) (hok : okI y pc (.lreturn) aux = true) (hk : ∀ kc ks ls st h, k kc ks ls st h → J y (pc + len) kc ks ls st h Q) (hJ : ∀ L kc ks ls st h, JJ L kc ks ls st h → J y L kc ks ls st h Q) (hC : ∀ z kc ks as h Q1, C z kc ks as h Q1 → jRet z kc ks as h Q1) (hS : jS JJ C Q (pc0, .lreturn, aux) k kc ks ls st h) : J y pc kc ks ls st h Q := by
  obtain rfl : len = 1 := hlen.resolve_left (by intro h9; cases h9)
  obtain ⟨v, r, rfl, hS⟩ := p_l_of hS
  obtain ⟨rfl, hS⟩ := p_n_of hS
  exact J_ret (v := some (.long v)) ⟨of_decide_eq_true hok, hd⟩ hS
theorem Q_areturn (hd : decode (mC y) pc = .ok (.areturn, len)) (hlen : jsw (.areturn) = true ∨ len = jlen (.areturn)) (hok : okI y pc (.areturn) aux = true) (hk : ∀ kc ks ls st h, k kc ks ls st h → J y (pc + len) kc ks ls st h Q) (hJ : ∀ L kc ks ls st h, JJ L kc ks ls st h → J y L kc ks ls st h Q) (hC : ∀ z kc ks as h Q1, C z kc ks as h Q1 → jRet z kc ks as h Q1) (hS : jS JJ C Q (pc0, .areturn, aux) k kc ks ls st h) : J y pc kc ks ls st h Q := by
  obtain rfl : len = 1 := hlen.resolve_left (by intro h9; cases h9)
  obtain ⟨v, r, rfl, hS⟩ := p_r_of hS
  obtain ⟨rfl, hS⟩ := p_n_of hS
  exact J_ret (v := some (.ref v)) ⟨of_decide_eq_true hok, hd⟩ hS
theorem Q_return (hd : decode (mC y) pc = .ok (.return_, len)) (hlen : jsw (.return_) = true ∨ len = jlen (.return_)) (hok : okI y pc (.return_) aux = true) (hk : ∀ kc ks ls st h, k kc ks ls st h → J y (pc + len) kc ks ls st h Q) (hJ : ∀ L kc ks ls st h, JJ L kc ks ls st h → J y L kc ks ls st h Q) (hC : ∀ z kc ks as h Q1, C z kc ks as h Q1 → jRet z kc ks as h Q1) (hS : jS JJ C Q (pc0, .return_, aux) k kc ks ls st h) : J y pc kc ks ls st h Q := by
  obtain rfl : len = 1 := hlen.resolve_left (by intro h9; cases h9)
  obtain ⟨rfl, hS⟩ := p_n_of hS
  exact J_ret (v := none) ⟨of_decide_eq_true hok, hd⟩ hS
end STEP
