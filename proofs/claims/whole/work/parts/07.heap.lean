/-! rows of the heap: fields and arrays -/
theorem lay_good (C : String) (T : u_T) (k : Nat) : goodWord (u_lay C T k) = true := by
  unfold u_lay
  split <;> rfl
theorem in_gw {i : Nat} (hi : i < 10) : ∀ w ∈ u_ws (cN i) (cT i) (cF i), w ∈ gw := by
  intro w hw
  refine List.mem_filter.mpr ⟨in_ok i hi w hw, ?_⟩
  obtain ⟨k, -, rfl⟩ := List.mem_map.mp hw
  exact lay_good _ _ _
theorem ty_ref : ∀ ci, ci < 10 → ∀ k, k < cF ci → jkf (cY ci k) = 2 → (cY ci k).isReference = true := by decide +kernel
theorem Hk.lt {L : Nat} {xs : Nat → Int32} {h : jHp} {p : Nat} (hk : Hk L xs h) (hc : (jz h p).1 < 15) : 2 ≤ p ∧ p < jn h + 2 := hk.2.2.2 p hc
section WOU
variable {base b L : Nat} {xs : Nat → Int32} {D : va_G} {tc : Nat → ClassId} {h h' : jHp} {s : State} {H H1 : Heap} {locs locs1 : List Loc} {p : Nat}
theorem Wo.upd (hw : Wo base b L xs D tc h s H locs) (h1 : 2 ≤ p) (h2 : p < jn h + 2) (hn : jn h' = jn h) (hz : jz h' = jz h) (hI : ∀ q, q ≠ p → gI h' q = gI h q) (hL : ∀ q, q ≠ p → gL h' q = gL h q) (hR : ∀ q, q ≠ p → gR h' q = gR h q)
    (e : va_at D cls (ad base b p, ce base b tc h' p) H1) (z : H1.size = H.size) (oq : ∀ q : Nat, q ≠ ad base b p → H1[q]? = H[q]?) (hl : ∀ x ∈ locs1, base ≤ x.base) : Wo base b L xs D tc h' s H1 locs1 := by
  obtain ⟨w1, w2, w3, w4, w5, w6⟩ := hw
  have hb : b ≠ ad base b p := by rw [ad_of h1]; omega
  refine ⟨?_, by rw [z, hn]; exact w2, ⟨by rw [z]; exact w3.1, fun q hq hA => ?_, hl⟩, w4.kept (oq b hb), w5, ?_⟩
  · rw [wl_ext (p := p) hn (fun q _ hq => ce_eq (by rw [hz]) (hI q hq) (hL q hq) (hR q hq)) h1 h2]
    exact w1.set wl_D (wl_at h1 h2) e oq
  · rw [oq q (fun hq => hA (by show base ≤ q; rw [hq, ad_of h1]; omega))]
    exact w3.2.1 q hq hA
  · obtain ⟨k1, k2, k3, k4⟩ := w6
    refine ⟨by rw [hz]; exact k1, fun j hj => ?_, fun q => by rw [hz]; exact k3 q, fun q => by rw [hz, hn]; exact k4 q⟩
    rw [hI 1 (by omega)]
    exact k2 j hj
theorem Wo.put {k : Nat} (hw : Wo base b L xs D tc h s H locs) (h1 : 2 ≤ p) (h2 : p < jn h + 2) (hn : jn h' = jn h) (hz : jz h' = jz h) (hI : ∀ q, q ≠ p → gI h' q = gI h q) (hL : ∀ q, q ≠ p → gL h' q = gL h q) (hR : ∀ q, q ≠ p → gR h' q = gR h q)
    (e : va_at D cls (ad base b p, ce base b tc h' p) H1) (z : H1.size = H.size) (oq : ∀ q : Nat, q ≠ ad base b p → H1[q]? = H[q]?) : Wo base b L xs D tc h' s H1 (locs ++ [⟨ad base b p, k⟩]) := by
  refine hw.upd h1 h2 hn hz hI hL hR e z oq (fun x hx => ?_)
  rcases List.mem_append.mp hx with hx | hx
  · exact hw.2.2.1.2.2 x hx
  · rw [List.mem_singleton.mp hx]
    show base ≤ ad base b p
    rw [ad_of h1]
    omega
end WOU
theorem cv_fld {base b : Nat} {h : jHp} {p c k : Nat} : cv base b (jFld h p k (jkf (cY c k))) = fv base b h p c k := by
  unfold jFld fv
  generalize jkf (cY c k) = t
  match t with
  | 0 => rfl
  | 1 => rfl
  | 2 => rfl
  | n + 3 => rfl
section JH
variable {y pc kc ks : Nat} {ls st : List Value} {h : jHp} {Q : jQ}
theorem J_get {i ci k t p0 : Nat} (hd : decode (mC y) pc = .ok (.getfield i, 3)) (hF : [mO y, i, ci, k] ∈ tF) (hci : ci < 10) (hk : k < cF ci) (ht : t = jkf (cY ci k)) (hO : isO h p0 ci) (kk : J y (pc + 3) kc ks ls (jFld h p0 k t :: st) h Q) : J y pc kc ks ls (.ref p0 :: st) h Q := by
  subst ht
  intro p l e R s m args below meth c Z base b L xs D tc hc H locs cells slots la hw hl g1 g2 hf
  have k1 := kk p l e R s m args below meth c Z base b L xs D tc hc H locs cells slots la hw hl g1 g2 hf
  obtain ⟨hx, hb, hr, hml, hown, hlk, hts, hnm, hK, hbs, hfr, hlo, hsp⟩ := hc
  obtain ⟨a1, a2⟩ := hw.2.2.2.2.2.lt (p := p0) (by rw [hO]; omega)
  have hat := wl_at (base := base) (b := b) (tc := tc) a1 a2
  rw [ce_obj hO hci] at hat
  rw [List.map_cons, cv_fld] at k1
  rw [List.map_cons, cv_ref (by omega)]
  exact va_get (ci := ci) (C := cN ci) (T := cT ci) (N := cF ci) hx hb hts (in_gw hci) hown hK hw.1 (p0 - 2) hat (cls_at ci hci) k hk (hts _ (wF_ok _ hF)) (fun _ h9 => h9) (fl_get hk) hd k1
/-- the cell behind a put -/
theorem J_put0 {i ci k p0 : Nat} {v : Value} {h' : jHp} (hd : decode (mC y) pc = .ok (.putfield i, 3)) (hF : [mO y, i, ci, k] ∈ tF) (hci : ci < 10) (hk : k < cF ci) (hfin : (cT ci k).2.2.2 = false ∨ ((mN y).name = "<init>" ∧ (cT ci k).1 = cN (mO y))) (hO : isO h p0 ci)
    (hn : ∀ base b, narrow (cY ci k) (cv base b v) = cv base b v) (hft : ∀ base b, fits (cY ci k) (cv base b v) = true) (hh : jn h' = jn h ∧ jz h' = jz h ∧ (∀ q, q ≠ p0 → gI h' q = gI h q) ∧ (∀ q, q ≠ p0 → gL h' q = gL h q) ∧ (∀ q, q ≠ p0 → gR h' q = gR h q)) (hv : ∀ base b, fv base b h' p0 ci k = cv base b v) (ho : ∀ base b j, j ≠ k → fv base b h' p0 ci j = fv base b h p0 ci j)
    (kk : J y (pc + 3) kc ks ls st h' Q) : J y pc kc ks ls (v :: .ref p0 :: st) h Q := by
  intro p l e R s m args below meth c Z base b L xs D tc hc H locs cells slots la hw hl g1 g2 hf
  have k1 := fun H1 locs1 hw1 => kk p l e R s m args below meth c Z base b L xs D tc hc H1 locs1 cells slots la hw1 hl g1 g2 hf
  obtain ⟨hx, hb, hr, hml, hown, hlk, hts, hnm, hK, hbs, hfr, hlo, hsp⟩ := hc
  obtain ⟨a1, a2⟩ := hw.2.2.2.2.2.lt (p := p0) (by rw [hO]; omega)
  have hat := wl_at (base := base) (b := b) (tc := tc) a1 a2
  rw [ce_obj hO hci] at hat
  rw [List.map_cons, List.map_cons, cv_ref (p := p0) (by omega)]
  have hap := va_apart (own := cN (mO y)) hts (in_gw hci) (cY ci) (ty_ok ci hci) (nm_ok ci hci) hK (cls_at ci hci)
  obtain ⟨r, h1, cell, q1, q2, q3, q4⟩ := hw.1 (p0 - 2) _ hat
  have hr2 : r = (cN ci, cT ci, cF ci) := Option.some.inj (h1.symm.trans (cls_at ci hci))
  subst hr2
  obtain ⟨hS, hfc, kC, hkC, hkind⟩ := hK.1 ci _ (cls_at ci hci)
  obtain ⟨cf, kf, fi, f, hi, hsl⟩ := hS k hk
  have hlay := hts _ (in_gw hci _ (u_in_lay hk))
  have hst := (u_facts hfc hkC (u_lays hts (in_gw hci) hk) hi).1
  have hlink := hts _ (wF_ok _ hF)
  have fin : ∀ H', H'[ad base b p0]? = some (cell.setSlot f.slot (cv base b v)) → H'.size = H.size → (∀ q, q ≠ ad base b p0 → H'[q]? = H[q]?) → W p l e R s m args below meth c H' (locs ++ [⟨ad base b p0, f.slot⟩]) cells slots Z (F0 m (pc + 3) la (st.map (cv base b))) := by
    intro H' e1 e2 e3
    rw [hsl] at e1 ⊢
    refine k1 H' _ (hw.put a1 a2 hh.1 hh.2.1 hh.2.2.1 hh.2.2.2.1 hh.2.2.2.2 ?_ e2 e3)
    rw [ce_obj (h := h') (by rw [hh.2.1]; exact hO) hci, fl_set hk (hv base b) (ho base b)]
    exact ⟨_, cls_at ci hci, t_OB.to (V := updV (vp_V (fl base b h p0 ci)) k (cv base b v)) ⟨_, e1, q2, q3, t_set q4 hap hk _⟩ (fun j _ => vp_updV_set (by rw [fl_len]; exact hk) _ j)⟩
  by_cases hfn : (cT ci k).2.2.2 = false
  · unfold u_lay at hlay
    rw [if_neg (by rw [hfn]; decide)] at hlay
    exact W.putK hx hb (f := f) ⟨hown, hlink, ⟨_, _, _, hi⟩, hst⟩ (by rw [q2]; exact u_store hfc hkC hkind hlay hi (ty_ok ci hci k hk) (hn base b) (hft base b)) q1 q3 (by rw [hsl]; exact k2_hasslot (q4 k hk)) rfl rfl hd fin
  · obtain ⟨hi2, hdecl⟩ := hfin.resolve_left hfn
    unfold u_lay at hlay
    rw [if_pos (by revert hfn; cases (cT ci k).2.2.2 <;> simp)] at hlay
    have hcf : m.cls = cf := by
      obtain ⟨_, _, c', _, _, _, -, -, hf', -, -, -, hown2, -⟩ := Cond.laysFinal_spec hlay
      have e1 : c' = cf := by have := hi.symm.trans hf'; simp at this; exact this.1.symm
      rw [hdecl] at hown2
      rw [← e1]; exact Option.some.inj (hown.symm.trans hown2)
    exact W.putFinK hx hb hown hlink hi hst hcf (hnm.trans hi2) (by rw [q2]; exact u_fits hfc hkC hkind (Or.inr hlay) hi (ty_ok ci hci k hk) (hn base b) (hft base b)) q1 q3 (by rw [hsl]; exact k2_hasslot (q4 k hk)) rfl rfl hd fin
theorem jkf_0 {ty : FieldType} (h : jkf ty = 0) : ty = .int := by cases ty <;> simp_all [jkf]
theorem jkf_1 {ty : FieldType} (h : jkf ty = 1) : ty = .long := by cases ty <;> simp_all [jkf]
theorem jkf_3 {ty : FieldType} {n : Nat} (h : jkf ty = n + 3) : ty = .boolean := by cases ty <;> simp_all [jkf]
theorem rf_cases (base b q : Nat) : cv base b (.ref q) = .null ∨ ∃ a, cv base b (.ref q) = .ref a := by
  by_cases h : q = 0
  · subst h
    exact Or.inl rfl
  · exact Or.inr ⟨_, cv_ref h⟩
theorem J_put {i ci k t p0 : Nat} {v : Value} (hd : decode (mC y) pc = .ok (.putfield i, 3)) (hF : [mO y, i, ci, k] ∈ tF) (hci : ci < 10) (hk : k < cF ci) (ht : t = jkf (cY ci k)) (hfin : (cT ci k).2.2.2 = false ∨ ((mN y).name = "<init>" ∧ (cT ci k).1 = cN (mO y))) (hO : isO h p0 ci)
    (kk : jPut t h p0 k v (fun h' => J y (pc + 3) kc ks ls st h' Q)) : J y pc kc ks ls (v :: .ref p0 :: st) h Q := by
  match t, ht, kk with
  | 0, ht, kk =>
    cases v <;> try exact kk.elim
    rename_i x
    have hy := jkf_0 ht.symm
    refine J_put0 hd hF hci hk hfin hO (fun _ _ => by rw [hy]; rfl) (fun _ _ => by rw [hy]; rfl) ⟨jn_sI, jz_sI, fun q hq => ?_, fun _ _ => by rw [gL_sI], fun _ _ => by rw [gR_sI]⟩ (fun base b => ?_) (fun base b j hj => ?_) kk
    · funext j
      rw [gI_sI, if_neg (fun z => hq z.1)]
    · unfold fv
      rw [← ht]
      show Value.int (gI _ _ _) = _
      rw [gI_sI, if_pos ⟨rfl, rfl⟩]
      rfl
    · unfold fv
      rw [gL_sI, gR_sI, gI_sI, if_neg (fun z => hj z.2)]
  | 1, ht, kk =>
    cases v <;> try exact kk.elim
    rename_i x
    have hy := jkf_1 ht.symm
    refine J_put0 hd hF hci hk hfin hO (fun _ _ => by rw [hy]; rfl) (fun _ _ => by rw [hy]; rfl) ⟨jn_sL, jz_sL, fun _ _ => by rw [gI_sL], fun q hq => ?_, fun _ _ => by rw [gR_sL]⟩ (fun base b => ?_) (fun base b j hj => ?_) kk
    · funext j
      rw [gL_sL, if_neg (fun z => hq z.1)]
    · unfold fv
      rw [← ht]
      show Value.long (gL _ _ _) = _
      rw [gL_sL, if_pos ⟨rfl, rfl⟩]
      rfl
    · unfold fv
      rw [gI_sL, gR_sL, gL_sL, if_neg (fun z => hj z.2)]
  | 2, ht, kk =>
    cases v <;> try exact kk.elim
    rename_i x kk0
    have hr := ty_ref ci hci k hk ht.symm
    refine J_put0 hd hF hci hk hfin hO (fun base b => ?_) (fun base b => ?_) ⟨jn_sR, jz_sR, fun _ _ => by rw [gI_sR], fun _ _ => by rw [gL_sR], fun q hq => ?_⟩ (fun base b => ?_) (fun base b j hj => ?_) kk
    · rcases rf_cases base b x with e | ⟨a, e⟩ <;> rw [e] <;> cases hy : cY ci k <;> rw [hy] at hr <;> first | rfl | exact absurd hr (by decide)
    · rcases rf_cases base b x with e | ⟨a, e⟩ <;> rw [e] <;> cases hy : cY ci k <;> rw [hy] at hr <;> first | rfl | exact absurd hr (by decide)
    · funext j
      rw [gR_sR, if_neg (fun z => hq z.1)]
    · unfold fv
      rw [← ht]
      show va_rf (rfo _ _ (gR _ _ _)) = _
      rw [gR_sR, if_pos ⟨rfl, rfl⟩]
      rfl
    · unfold fv
      rw [gI_sR, gL_sR, gR_sR, if_neg (fun z => hj z.2)]
  | n + 3, ht, kk =>
    cases v <;> try exact kk.elim
    rename_i x
    have hy := jkf_3 ht.symm
    obtain ⟨hB, kk⟩ := kk
    refine J_put0 hd hF hci hk hfin hO (fun _ _ => ?_) (fun _ _ => ?_) ⟨jn_sI, jz_sI, fun q hq => ?_, fun _ _ => by rw [gL_sI], fun _ _ => by rw [gR_sI]⟩ (fun base b => ?_) (fun base b j hj => ?_) kk
    · rw [hy]
      rcases hB with rfl | rfl <;> rfl
    · rw [hy]
      rcases hB with rfl | rfl <;> rfl
    · funext j
      rw [gI_sI, if_neg (fun z => hq z.1)]
    · unfold fv
      rw [← ht]
      show Value.int (gI _ _ _) = _
      rw [gI_sI, if_pos ⟨rfl, rfl⟩]
      rfl
    · unfold fv
      rw [gL_sI, gR_sI, gI_sI, if_neg (fun z => hj z.2)]
end JH
/-! arrays -/
theorem ty_at {tc : Nat → ClassId} {c : Nat} (h1 : 10 ≤ c) (h2 : c < 15) : ∃ ty, (tyl tc)[c - 10]? = some (tc c, ty) := by
  match c, h1, h2 with
  | 10, _, _ => exact ⟨_, rfl⟩
  | 11, _, _ => exact ⟨_, rfl⟩
  | 12, _, _ => exact ⟨_, rfl⟩
  | 13, _, _ => exact ⟨_, rfl⟩
  | 14, _, _ => exact ⟨_, rfl⟩
  | c + 15, _, h => exact absurd h (by omega)
theorem vp_lt {i : Int32} {n : Nat} (h : vp_in i n) : i.toNatClampNeg < n := Nat.not_le.mp fun q => h (Or.inr q)
section JA
variable {y pc kc ks : Nat} {ls st : List Value} {h : jHp} {Q : jQ}
theorem J_iald {p0 : Nat} {i : Int32} (hd : decode (mC y) pc = .ok (.iaload, 1)) (hx0 : ixL h p0 i) (kk : J y (pc + 1) kc ks ls (.int (gI h p0 i.toNatClampNeg) :: st) h Q) : J y pc kc ks ls (.int i :: .ref p0 :: st) h Q := by
  intro p l e R s m args below meth c Z base b L xs D tc hc H locs cells slots la hw hl g1 g2 hf
  have k1 := kk p l e R s m args below meth c Z base b L xs D tc hc H locs cells slots la hw hl g1 g2 hf
  obtain ⟨hx, hb, hr, hml, hown, hlk, hts, hnm, hK, hbs, hfr, hlo, hsp⟩ := hc
  obtain ⟨hcd, hin⟩ := hx0
  have hlt := vp_lt hin
  rcases hcd with hcd | hcd
  · obtain ⟨a1, a2⟩ := hw.2.2.2.2.2.lt (p := p0) (by rw [hcd]; omega)
    have hat := wl_at (base := base) (b := b) (tc := tc) a1 a2
    rw [ce_int hcd (by omega) (by omega)] at hat
    rw [List.map_cons, List.map_cons, cv_ref (by omega)]
    exact va_iald hx hb hK hw.1 (p0 - 2) 0 hat rfl hin hd k1
  · obtain ⟨z1, z2, z3, z4⟩ := hw.2.2.2.2.2
    have hp1 := z3 p0 hcd
    subst hp1
    rw [z1] at hin hlt
    rw [z2 _ hlt] at k1
    obtain ⟨scr, e1, e2, e3, e4, e5⟩ := hw.2.2.2.1
    rw [List.map_cons, List.map_cons, cv_ref (by omega)]
    exact W.iald (v := .int (xs i.toNatClampNeg)) hx hb (show H[ad base b 1]? = some scr from e1) e2 e3 (by rw [e4]; exact hin) (e5 _ hlt) rfl rfl hd k1
theorem J_bald {p0 : Nat} {i : Int32} (hd : decode (mC y) pc = .ok (.baload, 1)) (hx0 : ix h p0 11 i) (kk : J y (pc + 1) kc ks ls (.int (gI h p0 i.toNatClampNeg) :: st) h Q) : J y pc kc ks ls (.int i :: .ref p0 :: st) h Q := by
  intro p l e R s m args below meth c Z base b L xs D tc hc H locs cells slots la hw hl g1 g2 hf
  have k1 := kk p l e R s m args below meth c Z base b L xs D tc hc H locs cells slots la hw hl g1 g2 hf
  obtain ⟨hx, hb, hr, hml, hown, hlk, hts, hnm, hK, hbs, hfr, hlo, hsp⟩ := hc
  obtain ⟨hcd, hin⟩ := hx0
  obtain ⟨a1, a2⟩ := hw.2.2.2.2.2.lt (p := p0) (by rw [hcd]; omega)
  have hat := wl_at (base := base) (b := b) (tc := tc) a1 a2
  rw [ce_int hcd (by omega) (by omega)] at hat
  rw [List.map_cons, List.map_cons, cv_ref (by omega)]
  exact va_bald hx hb hK hw.1 (p0 - 2) 1 hat rfl hin hd k1
theorem J_aald {p0 : Nat} {i : Int32} (hd : decode (mC y) pc = .ok (.aaload, 1)) (hx0 : ixR h p0 i) (kk : J y (pc + 1) kc ks ls (.ref (gR h p0 i.toNatClampNeg) :: st) h Q) : J y pc kc ks ls (.int i :: .ref p0 :: st) h Q := by
  intro p l e R s m args below meth c Z base b L xs D tc hc H locs cells slots la hw hl g1 g2 hf
  have k1 := kk p l e R s m args below meth c Z base b L xs D tc hc H locs cells slots la hw hl g1 g2 hf
  obtain ⟨hx, hb, hr, hml, hown, hlk, hts, hnm, hK, hbs, hfr, hlo, hsp⟩ := hc
  obtain ⟨hcd, hin⟩ := hx0
  obtain ⟨cd, hcd, h12, h15, ty, hty, hrf⟩ : ∃ cd, (jz h p0).1 = cd ∧ 12 ≤ cd ∧ cd < 15 ∧ ∃ ty, (tyl tc)[cd - 10]? = some (tc cd, ty) ∧ ty.isReference = true := by
    rcases hcd with hcd | hcd | hcd
    · exact ⟨12, hcd, by omega, by omega, _, rfl, rfl⟩
    · exact ⟨13, hcd, by omega, by omega, _, rfl, rfl⟩
    · exact ⟨14, hcd, by omega, by omega, _, rfl, rfl⟩
  obtain ⟨a1, a2⟩ := hw.2.2.2.2.2.lt (p := p0) (by rw [hcd]; omega)
  have hat := wl_at (base := base) (b := b) (tc := tc) a1 a2
  rw [ce_ref hcd h12] at hat
  have hlt := vp_lt hin
  rw [List.map_cons, List.map_cons, cv_ref (by omega)]
  exact W.aald (v := va_rf (rfo base b (gR h p0 i.toNatClampNeg))) (ty := ty) hx hb (hw.1 (p0 - 2) _ hat) ((hK.2 (cd - 10) _ hty).1 (jz h p0).2 (fun j => va_rf (rfo base b (gR h p0 j)))) hrf (fun q => by cases q) (by show ¬ (i < 0 ∨ (arrV _ _ _).slots.size ≤ _); rw [arrV_size]; exact hin) (by show (arrV _ _ _).slots[_]? = _; rw [arrV_read _ _ hlt]) rfl rfl hd k1
theorem sI_hh {p0 k : Nat} {x : Int32} : jn (sI h p0 k x) = jn h ∧ jz (sI h p0 k x) = jz h ∧ (∀ q, q ≠ p0 → gI (sI h p0 k x) q = gI h q) ∧ (∀ q, q ≠ p0 → gL (sI h p0 k x) q = gL h q) ∧ (∀ q, q ≠ p0 → gR (sI h p0 k x) q = gR h q) :=
  ⟨jn_sI, jz_sI, fun q hq => by funext j; rw [gI_sI, if_neg (fun z => hq z.1)], fun _ _ => by rw [gL_sI], fun _ _ => by rw [gR_sI]⟩
theorem sI_upd {p0 k : Nat} {x : Int32} : gI (sI h p0 k x) p0 = upd (gI h p0) k x := by
  funext j
  rw [gI_sI]
  by_cases e : j = k
  · subst e
    rw [if_pos ⟨rfl, rfl⟩, pk_us]
  · rw [if_neg (fun z => e z.2), pk_un e]
theorem J_iast {p0 : Nat} {i x : Int32} (hd : decode (mC y) pc = .ok (.iastore, 1)) (hx0 : ix h p0 10 i) (kk : J y (pc + 1) kc ks ls st (sI h p0 i.toNatClampNeg x) Q) : J y pc kc ks ls (.int x :: .int i :: .ref p0 :: st) h Q := by
  intro p l e R s m args below meth c Z base b L xs D tc hc H locs cells slots la hw hl g1 g2 hf
  have k1 := fun H1 locs1 hw1 => kk p l e R s m args below meth c Z base b L xs D tc hc H1 locs1 cells slots la hw1 hl g1 g2 hf
  obtain ⟨hx, hb, hr, hml, hown, hlk, hts, hnm, hK, hbs, hfr, hlo, hsp⟩ := hc
  obtain ⟨hcd, hin⟩ := hx0
  obtain ⟨a1, a2⟩ := hw.2.2.2.2.2.lt (p := p0) (by rw [hcd]; omega)
  have hat := wl_at (base := base) (b := b) (tc := tc) a1 a2
  rw [ce_int hcd (by omega) (by omega)] at hat
  rw [List.map_cons, List.map_cons, List.map_cons, cv_ref (by omega)]
  refine W.iast hx hb (hw.1 _ _ hat) ((hK.2 0 _ rfl).1 _ (fun j => .int (gI h p0 j))) (fun q => by cases q) (by show ¬ (i < 0 ∨ (arrV _ _ _).slots.size ≤ _); rw [arrV_size]; exact hin) rfl rfl hd fun H1 e z oq => ?_
  obtain ⟨s1, s2, s3, s4, s5⟩ := sI_hh (h := h) (p0 := p0) (k := i.toNatClampNeg) (x := x)
  refine k1 H1 _ (hw.put a1 a2 s1 s2 s3 s4 s5 ?_ z oq)
  rw [ce_int (h := sI h p0 i.toNatClampNeg x) (c := 10) (by rw [jz_sI]; exact hcd) (by omega) (by omega), sI_upd, jz_sI]
  show H1[ad base b p0]? = some (vp_cell _ _)
  rw [e, vp_cell_i, vp_cell_i, arrV_store]
  congr 2
  funext q
  by_cases hq : q = i.toNatClampNeg
  · subst hq
    simp [updV, upd]
  · simp [updV, upd, hq]
theorem J_bast {p0 : Nat} {i x : Int32} (hd : decode (mC y) pc = .ok (.bastore, 1)) (hx0 : ix h p0 11 i) (kk : J y (pc + 1) kc ks ls st (sI h p0 i.toNatClampNeg (vp_nar .byte x)) Q) : J y pc kc ks ls (.int x :: .int i :: .ref p0 :: st) h Q := by
  intro p l e R s m args below meth c Z base b L xs D tc hc H locs cells slots la hw hl g1 g2 hf
  have k1 := fun H1 locs1 hw1 => kk p l e R s m args below meth c Z base b L xs D tc hc H1 locs1 cells slots la hw1 hl g1 g2 hf
  obtain ⟨hx, hb, hr, hml, hown, hlk, hts, hnm, hK, hbs, hfr, hlo, hsp⟩ := hc
  obtain ⟨hcd, hin⟩ := hx0
  obtain ⟨a1, a2⟩ := hw.2.2.2.2.2.lt (p := p0) (by rw [hcd]; omega)
  have hat := wl_at (base := base) (b := b) (tc := tc) a1 a2
  rw [ce_int hcd (by omega) (by omega)] at hat
  rw [List.map_cons, List.map_cons, List.map_cons, cv_ref (by omega)]
  refine W.bast hx hb (hw.1 _ _ hat) ((hK.2 1 _ rfl).1 _ (fun j => .int (gI h p0 j))) (fun q => by cases q) (by show ¬ (i < 0 ∨ (arrV _ _ _).slots.size ≤ _); rw [arrV_size]; exact hin) rfl rfl hd fun H1 e z oq => ?_
  obtain ⟨s1, s2, s3, s4, s5⟩ := sI_hh (h := h) (p0 := p0) (k := i.toNatClampNeg) (x := vp_nar .byte x)
  refine k1 H1 _ (hw.put a1 a2 s1 s2 s3 s4 s5 ?_ z oq)
  rw [ce_int (h := sI h p0 i.toNatClampNeg (vp_nar .byte x)) (c := 11) (by rw [jz_sI]; exact hcd) (by omega) (by omega), sI_upd, jz_sI]
  show H1[ad base b p0]? = some (vp_cell _ _)
  rw [e, vp_cell_i, vp_cell_i, arrV_store]
  congr 2
  funext q
  by_cases hq : q = i.toNatClampNeg
  · subst hq
    simp [updV, upd, vp_nar, narrow]
  · simp [updV, upd, hq]
theorem J_aast {p0 q0 : Nat} {i : Int32} (hd : decode (mC y) pc = .ok (.aastore, 1)) (hx0 : (ix h p0 13 i ∧ isO h q0 0) ∨ (ix h p0 14 i ∧ isO h q0 5)) (kk : J y (pc + 1) kc ks ls st (sR h p0 i.toNatClampNeg q0) Q) : J y pc kc ks ls (.ref q0 :: .int i :: .ref p0 :: st) h Q := by
  intro p l e R s m args below meth c Z base b L xs D tc hc H locs cells slots la hw hl g1 g2 hf
  have k1 := fun H1 locs1 hw1 => kk p l e R s m args below meth c Z base b L xs D tc hc H1 locs1 cells slots la hw1 hl g1 g2 hf
  obtain ⟨hx, hb, hr, hml, hown, hlk, hts, hnm, hK, hbs, hfr, hlo, hsp⟩ := hc
  obtain ⟨cd, ci, t0, hcd, hin, hO, h12, h15, hci, ht⟩ : ∃ cd ci t0, (jz h p0).1 = cd ∧ vp_in i (jz h p0).2 ∧ isO h q0 ci ∧ 12 ≤ cd ∧ cd < 15 ∧ ci < 10 ∧ (tyl tc)[t0]? = some (tc cd, FieldType.object (cN ci)) := by
    rcases hx0 with ⟨⟨u1, u2⟩, u3⟩ | ⟨⟨u1, u2⟩, u3⟩
    · exact ⟨13, 0, 3, u1, u2, u3, by omega, by omega, by omega, rfl⟩
    · exact ⟨14, 5, 4, u1, u2, u3, by omega, by omega, by omega, rfl⟩
  obtain ⟨a1, a2⟩ := hw.2.2.2.2.2.lt (p := p0) (by rw [hcd]; omega)
  obtain ⟨b1, b2⟩ := hw.2.2.2.2.2.lt (p := q0) (by rw [hO]; omega)
  have hat := wl_at (base := base) (b := b) (tc := tc) a1 a2
  rw [ce_ref hcd h12] at hat
  have hav := wl_at (base := base) (b := b) (tc := tc) b1 b2
  rw [ce_obj hO hci] at hav
  rw [List.map_cons, List.map_cons, List.map_cons, cv_ref (p := p0) (by omega), cv_ref (p := q0) (by omega)]
  have hlt := vp_lt hin
  have h0 : ¬ i < 0 := fun q => hin (Or.inl q)
  obtain ⟨r', hr', cellV, u1, u2, u3, -⟩ := hw.1 _ _ hav
  have hcls := (hK.1 ci _ (cls_at ci hci)).2
  obtain ⟨kA, comp, v1, v2, v3, -⟩ := (hK.2 t0 _ ht).2
  have hcomp : comp = D.1 ci := Option.some.inj (v3.symm.trans hcls.1)
  subst hcomp
  obtain ⟨kC, hkC, -⟩ := hcls.2
  refine W.aast hx hb (hw.1 _ _ hat) (fun q h => by cases h) (fun h => by cases h) v1 v2 rfl hkC ⟨h0, by show _ < (arrV _ _ _).slots.size; rw [arrV_size]; exact hlt⟩ u1 (fun q h => by rw [u3] at h; cases h) (by rw [u2]; exact hkC) (by rw [u2]; exact va_assign hcls) rfl rfl hd fun H1 e z oq => ?_
  refine k1 H1 _ (hw.put a1 a2 jn_sR jz_sR (fun _ _ => by rw [gI_sR]) (fun _ _ => by rw [gL_sR]) (fun q hq => by funext j; rw [gR_sR, if_neg (fun z => hq z.1)]) ?_ z oq)
  rw [ce_ref (h := sR h p0 i.toNatClampNeg q0) (c := cd) (by rw [jz_sR]; exact hcd) h12, jz_sR]
  show H1[ad base b p0]? = some (vp_cell _ _)
  rw [e, vp_cell_q, vp_cell_q, arrV_store]
  congr 2
  funext q
  by_cases hq : q = i.toNatClampNeg
  · subst hq
    simp [updV, gR_sR, rfo_of b1, va_rf]
  · simp [updV, gR_sR, hq]
theorem J_alen {p0 : Nat} (hd : decode (mC y) pc = .ok (.arraylength, 1)) (hx0 : 10 ≤ (jz h p0).1 ∧ (jz h p0).1 ≤ 14 ∨ (jz h p0).1 = 20) (kk : J y (pc + 1) kc ks ls (.int (Int32.ofNat (jz h p0).2) :: st) h Q) : J y pc kc ks ls (.ref p0 :: st) h Q := by
  intro p l e R s m args below meth c Z base b L xs D tc hc H locs cells slots la hw hl g1 g2 hf
  have k1 := kk p l e R s m args below meth c Z base b L xs D tc hc H locs cells slots la hw hl g1 g2 hf
  obtain ⟨hx, hb, hr, hml, hown, hlk, hts, hnm, hK, hbs, hfr, hlo, hsp⟩ := hc
  rcases hx0 with ⟨c1, c2⟩ | hcd
  · obtain ⟨a1, a2⟩ := hw.2.2.2.2.2.lt (p := p0) (by omega)
    have hat := wl_at (base := base) (b := b) (tc := tc) a1 a2
    obtain ⟨ty, hty⟩ := ty_at (tc := tc) c1 (by omega)
    rw [List.map_cons, cv_ref (by omega)]
    by_cases c12 : (jz h p0).1 < 12
    · rw [ce_int rfl c1 c12] at hat
      exact va_alen hx hb hK hw.1 (p0 - 2) _ hat hty rfl hd k1
    · rw [ce_ref rfl (by omega)] at hat
      exact va_alen hx hb hK hw.1 (p0 - 2) _ hat hty rfl hd k1
  · obtain ⟨z1, z2, z3, z4⟩ := hw.2.2.2.2.2
    have hp1 := z3 p0 hcd
    subst hp1
    rw [z1] at k1
    obtain ⟨scr, e1, e2, e3, e4, e5⟩ := hw.2.2.2.1
    rw [List.map_cons, cv_ref (by omega)]
    exact W.alen (n := Int32.ofNat L) hx hb (show H[ad base b 1]? = some scr from e1) e2 (by rw [e4] <;> rfl) rfl rfl hd k1
end JA
