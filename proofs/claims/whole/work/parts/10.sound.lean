/-! a step and a block are sound -/
section JE
variable {y pc kc ks : Nat} {ls st : List Value} {h : jHp} {Q : jQ}
theorem J_ret {v : Option Value} (hv : rtO y pc v) (hq : Q v h) : J y pc kc ks ls v.toList h Q := by
  intro p l e R s m args below meth c Z base b L xs D tc hc H locs cells slots la hw hl g1 g2 hf
  have k := hf v h H locs cells slots pc la hq hw (by omega) (by omega) hv
  cases v with
  | none => exact k
  | some v => exact k
theorem J_cpy {a0 b0 : Nat} {sp dp n : Int32} (hd : decode (mC y) pc = .ok (.invokestatic 36, 3)) (ho : mO y = 0) (h1 : 1 ≤ mF y) (h2 : 26 ≤ mS y) (hct : cats st ≤ 8) (hA : (jz h a0).1 = 10) (hB : (jz h b0).1 = 10) (u1 : ¬ sp < 0) (u2 : ¬ dp < 0) (u3 : ¬ n < 0) (u4 : sp.toNatClampNeg + n.toNatClampNeg ≤ (jz h a0).2) (u5 : dp.toNatClampNeg + n.toNatClampNeg ≤ (jz h b0).2)
    (kk : J y (pc + 3) kc ks ls st (jY h a0 sp.toNatClampNeg b0 dp.toNatClampNeg n.toNatClampNeg) Q) : J y pc kc ks ls (.int n :: .int dp :: .ref b0 :: .int sp :: .ref a0 :: st) h Q := by
  intro p l e R s m args below meth c Z base b L xs D tc hc H locs cells slots la hw hl g1 g2 hf
  have k1 := fun H1 locs1 hw1 => kk p l e R s m args below meth c Z base b L xs D tc hc H1 locs1 cells slots la hw1 hl g1 g2 hf
  obtain ⟨hx, hb, hr, hml, hown, hlk, hts, hnm, hK, hbs, hfr, hlo, hsp⟩ := hc
  obtain ⟨a1, a2⟩ := hw.2.2.2.2.2.lt (p := a0) (by rw [hA]; omega)
  obtain ⟨b1, b2⟩ := hw.2.2.2.2.2.lt (p := b0) (by rw [hB]; omega)
  have hat := wl_at (base := base) (b := b) (tc := tc) a1 a2
  rw [ce_int hA (by omega) (by omega)] at hat
  have hbt := wl_at (base := base) (b := b) (tc := tc) b1 b2
  rw [ce_int hB (by omega) (by omega)] at hbt
  rw [ho] at hown
  simp only [List.map_cons, cv_ref (show a0 ≠ 0 by omega), cv_ref (show b0 ≠ 0 by omega)]
  have nn : ∀ z : Int32, ¬ z < 0 → z.toInt = (z.toNatClampNeg : Int) := by
    intro z hz
    have hz0 : (0 : Int) ≤ z.toInt := by
      have := Int32.not_lt.mp hz
      simpa using Int32.le_iff_toInt_le.mp this
    show z.toInt = ((z.toInt.toNat : Nat) : Int)
    omega
  intro T hT X
  have hc0 : H[ad base b a0]? = some (vp_cell (tc 10) ((jz h a0).2, .inl (gI h a0))) := hw.1 _ _ hat
  have hc1 : H[ad base b b0]? = some (vp_cell (tc 10) ((jz h b0).2, .inl (gI h b0))) := hw.1 _ _ hbt
  obtain ⟨-, k0, hk0, cm0, hkk0⟩ := (hK.2 0 _ rfl).1 (jz h a0).2 (fun j => .int (gI h a0 j))
  obtain ⟨-, k9, hk9, cm9, hkk9⟩ := (hK.2 0 _ rfl).1 (jz h b0).2 (fun j => .int (gI h b0 j))
  have hfw : nativeFrameWords "java/lang/System" "arraycopy" 5 = 7 := by decide +kernel
  obtain ⟨vm', X', step⟩ := X.arraycopy hx hown (hts _ gw_acl) (hts _ gw_acn) (hts _ gw_acs) (hts _ gw_sys) (src := ad base b a0) (dst := ad base b b0) (cs := vp_cell (tc 10) ((jz h a0).2, .inl (gI h a0))) (cd := vp_cell (tc 10) ((jz h b0).2, .inl (gI h b0))) (srcPos := sp) (destPos := dp) (n := n) (by rw [hT]; exact hc0) (by rw [hT]; exact hc1)
    (fun _ h => by cases h) (fun _ h => by cases h) (fun h => by cases h) (fun h => by cases h) hk0 hk9 hkk0 hkk9 (by simp [refKind]) u1 u2 u3
    (by rw [nn sp u1, nn n u3]; show ¬ _ > ((arrV (tc 10) (jz h a0).2 (fun j => .int (gI h a0 j))).slots.size : Int); rw [arrV_size]; omega)
    (by rw [nn dp u2, nn n u3]; show ¬ _ > ((arrV (tc 10) (jz h b0).2 (fun j => .int (gI h b0 j))).slots.size : Int); rw [arrV_size]; omega)
    (fun vm₁ _ i hi => by
      have e : (vp_cell (tc 10) ((jz h a0).2, .inl (gI h a0))).slots.getD (sp.toNatClampNeg + i) .null = .int (gI h a0 (sp.toNatClampNeg + i)) := by
        show (arrV (tc 10) (jz h a0).2 (fun j => .int (gI h a0 j))).slots.getD _ _ = _
        rw [Array.getD_eq_getD_getElem?, arrV_read _ _ (by omega)]
        rfl
      refine ⟨?_, ?_⟩
      · rw [e]
        rfl
      · rw [e]
        exact trivial)
    (g := F0 m pc la (cv base b (.int n) :: cv base b (.int dp) :: .ref (ad base b b0) :: cv base b (.int sp) :: .ref (ad base b a0) :: st.map (cv base b))) rfl (by rw [hml]; exact hl.2.1) (rest := st.map (cv base b)) rfl (by rw [hb]; exact hd) (by omega) (by show 2 * 0 + _ + _ ≤ _; rw [cats_eq, hfw]; omega)
  have e1 : copied (vp_cell (tc 10) ((jz h a0).2, .inl (gI h a0))) (vp_cell (tc 10) ((jz h b0).2, .inl (gI h b0))) sp dp n = vp_cell (tc 10) ((jz h b0).2, .inl (va_cpy (gI h a0) (gI h b0) sp.toNatClampNeg dp.toNatClampNeg n.toNatClampNeg)) := va_copied (fun z => .int z) (tc 10) (tc 10) (gI h a0) (gI h b0) u4
  rw [e1] at X' step
  have hl0 : ad base b b0 < H.size := (Array.getElem?_eq_some_iff.mp hc1).1
  generalize hnc : vp_cell (tc 10) ((jz h b0).2, .inl (va_cpy (gI h a0) (gI h b0) sp.toNatClampNeg dp.toNatClampNeg n.toNatClampNeg)) = nc at X' step
  have hheap : ((T.setVm vm').setCell (ad base b b0) nc).heap = H.setIfInBounds (ad base b b0) nc := by rw [← hT]; rfl
  obtain ⟨t, c1, c2⟩ := k1 (H.setIfInBounds (ad base b b0) nc) _ (hw.upd b1 b2 (h' := jY h a0 sp.toNatClampNeg b0 dp.toNatClampNeg n.toNatClampNeg) jn_jY jz_jY (fun q hq => by funext j; rw [gI_jY, if_neg hq]) (fun _ _ => by rw [gL_jY]) (fun _ _ => by rw [gR_jY]) (by
      rw [ce_int (h := jY h a0 sp.toNatClampNeg b0 dp.toNatClampNeg n.toNatClampNeg) (c := 10) (by rw [jz_jY]; exact hB) (by omega) (by omega), jz_jY]
      show (H.setIfInBounds (ad base b b0) nc)[ad base b b0]? = some (vp_cell _ _)
      rw [Array.getElem?_setIfInBounds, if_pos rfl, if_pos hl0, ← hnc]
      congr 4
      funext j
      rw [gI_jY, if_pos rfl]) (by simp) (fun q hq => by simp [Array.getElem?_setIfInBounds, Ne.symm hq]) (fun x hx9 => by
      rcases List.mem_append.mp hx9 with h9 | h9
      · exact hw.2.2.1.2.2 x h9
      · obtain ⟨z, -, hz⟩ := List.mem_map.mp h9
        rw [← hz]
        show base ≤ ad base b b0
        rw [ad_of b1]
        omega)) _ hheap X'
  exact ⟨t, step t c1, c2⟩
end JE
theorem bipush_v {n : Int} (h : -128 ≤ n ∧ n ≤ 127) : (Int8.ofInt n).toInt32 = iI n := by
  apply Int32.toInt_inj.mp
  rw [Int8.toInt_toInt32, Int8.toInt_ofInt, Int32.toInt_ofInt, show Int8.size = 256 from rfl, show Int32.size = 4294967296 from rfl]
  rw [Int.bmod_eq_of_le (by omega) (by omega), Int.bmod_eq_of_le (by omega) (by omega)]
theorem sipush_v {n : Int} (h : -32768 ≤ n ∧ n ≤ 32767) : (Int16.ofInt n).toInt32 = iI n := by
  apply Int32.toInt_inj.mp
  rw [Int16.toInt_toInt32, Int16.toInt_ofInt, Int32.toInt_ofInt, show Int16.size = 65536 from rfl, show Int32.size = 4294967296 from rfl]
  rw [Int.bmod_eq_of_le (by omega) (by omega), Int.bmod_eq_of_le (by omega) (by omega)]
theorem lconst_v (n : Fin 2) : Int64.ofNat (n : Nat) = lI ((n.val : Nat) : Int) := by
  match n with
  | 0 => rfl
  | 1 => rfl
theorem jAns_of {rk : Nat} {K : List Value → jHp → Prop} {r : List Value} {v : Option Value} {h : jHp} (a : jAns rk K r v h) : K (v.toList ++ r) h := by
  match rk, a with
  | 0, ⟨e, k⟩ => subst e; exact k
  | 1, ⟨x, e, k⟩ => subst e; exact k
  | 2, ⟨x, e, k⟩ => subst e; exact k
  | n + 3, ⟨x, e, k⟩ => subst e; exact k
theorem p_i_of {f : Int32 → List Value → Prop} {st : List Value} (h : p_i f st) : ∃ x r, st = .int x :: r ∧ f x r := by
  unfold p_i at h
  split at h
  · exact ⟨_, _, rfl, h⟩
  · exact h.elim
theorem p_l_of {f : Int64 → List Value → Prop} {st : List Value} (h : p_l f st) : ∃ x r, st = .long x :: r ∧ f x r := by
  unfold p_l at h
  split at h
  · exact ⟨_, _, rfl, h⟩
  · exact h.elim
theorem p_r_of {f : Nat → List Value → Prop} {st : List Value} (h : p_r f st) : ∃ x r, st = .ref x :: r ∧ f x r := by
  unfold p_r at h
  split at h
  · exact ⟨_, _, rfl, h⟩
  · exact h.elim
theorem p_n_of {f : Prop} {st : List Value} (h : p_n f st) : st = [] ∧ f := by
  unfold p_n at h
  split at h
  · exact ⟨rfl, h⟩
  · exact h.elim
theorem o_i_of {f : Int32 → Prop} {v : Value} (h : o_i f v) : ∃ x, v = .int x ∧ f x := by
  cases v <;> first | exact ⟨_, rfl, h⟩ | exact h.elim
theorem o_l_of {f : Int64 → Prop} {v : Value} (h : o_l f v) : ∃ x, v = .long x ∧ f x := by
  cases v <;> first | exact ⟨_, rfl, h⟩ | exact h.elim
theorem o_r_of {f : Nat → Prop} {v : Value} (h : o_r f v) : ∃ x, v = .ref x ∧ f x := by
  cases v <;> first | exact ⟨_, rfl, h⟩ | exact h.elim
theorem jcd_mono {c : Jvm.ClassFile.Cond} {x y : Int32} {A B A' B' : Prop} (h : jcd c x y A B) (ha : A → A') (hb : B → B') : jcd c x y A' B' := by
  cases c <;> exact ⟨fun k => by first | exact ha (h.1 k) | exact hb (h.1 k), fun k => by first | exact hb (h.2 k) | exact ha (h.2 k)⟩
theorem bif_of {b : Bool} {A : Prop} (h : bif b then A else False) : b = true ∧ A := by
  cases b
  · exact h.elim
  · exact ⟨rfl, h⟩
