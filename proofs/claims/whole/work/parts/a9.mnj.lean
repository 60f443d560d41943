/-! new int[8][8] over the worlds: what Table's constructor owed -/
theorem gw_tab : Cond.classLink (cN 6) 15 "[[I" ∈ gw := List.mem_filter.mpr ⟨List.mem_of_getElem? (i := 224) (by decide +kernel), by decide +kernel⟩
section MNJ
variable {h : jHp} {q j : Nat}
theorem jn_jM : jn (jM h 8 8) = jn h + 9 := rfl
theorem jz_jM : jz (jM h 8 8) q = if q = jn h + 2 then (12, 8) else if jn h + 2 < q ∧ q < jn h + 11 then (10, 8) else jz h q := rfl
theorem gI_jM : gI (jM h 8 8) q j = if jn h + 2 ≤ q ∧ q < jn h + 11 then 0 else gI h q j := rfl
theorem gL_jM : gL (jM h 8 8) q j = if jn h + 2 ≤ q ∧ q < jn h + 11 then 0 else gL h q j := rfl
theorem gR_jM : gR (jM h 8 8) q j = if q = jn h + 2 then (if j < 8 then jn h + 3 + j else 0) else if jn h + 2 < q ∧ q < jn h + 11 then 0 else gR h q j := rfl
theorem Hk.jM {L : Nat} {xs : Nat → Int32} (hk : Hk L xs h) : Hk L xs (jM h 8 8) := by
  obtain ⟨k1, k2, k3, k4⟩ := hk
  refine ⟨by rw [jz_jM, if_neg (by omega), if_neg (by omega)]; exact k1, fun j hj => by rw [gI_jM, if_neg (by omega)]; exact k2 j hj, fun p hp => ?_, fun p hp => ?_⟩
  · rw [jz_jM] at hp
    split at hp
    · cases hp
    · split at hp
      · cases hp
      · exact k3 p hp
  · rw [jz_jM] at hp
    rw [jn_jM]
    split at hp
    · omega
    · split at hp
      · omega
      · have := k4 p hp
        omega
theorem ce_jM {base b : Nat} {tc : Nat → ClassId} (hq : q < jn h + 2) : ce base b tc (jM h 8 8) q = ce base b tc h q :=
  ce_eq (by rw [jz_jM, if_neg (by omega), if_neg (by omega)]) (by funext j; rw [gI_jM, if_neg (by omega)]) (by funext j; rw [gL_jM, if_neg (by omega)]) (by funext j; rw [gR_jM, if_neg (by omega), if_neg (by omega)])
theorem ce_jM0 {base b : Nat} {tc : Nat → ClassId} : ce base b tc (jM h 8 8) (jn h + 2) = .inl (tc 12, 8, .inr (.inr (.inr (.inr (fun j => if j < 8 then some (base + jn h + 1 + j) else none))))) := by
  have e : jz (jM h 8 8) (jn h + 2) = (12, 8) := by rw [jz_jM, if_pos rfl]
  rw [ce_ref (c := 12) (by rw [e]) (by omega), e]
  have f : (fun j => rfo base b (gR (jM h 8 8) (jn h + 2) j)) = (fun j => if j < 8 then some (base + jn h + 1 + j) else none) := by
    funext j
    rw [gR_jM, if_pos rfl]
    by_cases h8 : j < 8
    · rw [if_pos h8, if_pos h8, rfo_of (by omega), ad_of (by omega)]
      congr 1
      omega
    · rw [if_neg h8, if_neg h8]
      rfl
  rw [f]
theorem ce_jM1 {base b : Nat} {tc : Nat → ClassId} (h1 : jn h + 2 < q) (h2 : q < jn h + 11) : ce base b tc (jM h 8 8) q = .inl (tc 10, 8, .inl (fun _ => 0)) := by
  have e : jz (jM h 8 8) q = (10, 8) := by rw [jz_jM, if_neg (by omega), if_pos ⟨h1, h2⟩]
  rw [ce_int (c := 10) (by rw [e]) (by omega) (by omega), e]
  have f : gI (jM h 8 8) q = (fun _ => 0) := by
    funext j
    rw [gI_jM, if_pos ⟨by omega, h2⟩]
  rw [f]
end MNJ
theorem gy_cell (cA : ClassId) (z : Nat) : gy_O cA z 8 = vp_cell cA (8, .inr (.inr (.inr (.inr (fun j => if j < 8 then some (z + 1 + j) else none))))) := by
  rw [vp_cell_q]
  unfold gy_O
  congr 1
  funext j
  by_cases h8 : j < 8
  · rw [if_pos h8, if_pos h8]
    rfl
  · rw [if_neg h8, if_neg h8]
    rfl
section WOM
variable {base b L : Nat} {xs : Nat → Int32} {D : va_G} {tc : Nat → ClassId} {h : jHp} {s : State} {H H1 : Heap} {locs : List Loc}
theorem Wo.jM (hw : Wo base b L xs D tc h s H locs) (hz : H1.size = H.size + 9) (ho : ∀ q : Nat, q < H.size → H1[q]? = H[q]?) (h0 : H1[H.size]? = some (gy_O (tc 12) H.size 8)) (hr : ∀ j : Nat, j < 8 → H1[H.size + 1 + j]? = some (gy_N (tc 10))) : Wo base b L xs D tc (jM h 8 8) s H1 locs := by
  obtain ⟨w1, w2, w3, w4, w5, w6⟩ := hw
  have w1' := w1.kept (fun k x hx => ho x.1 ((w1 k x hx).lt))
  refine ⟨fun k x hx => ?_, by rw [jn_jM, hz, w2]; omega, ⟨by have := w3.1; omega, fun q hq hA => ?_, w3.2.2⟩, w4.kept (ho b (by omega)), w5, w6.jM⟩
  · have hk : k < jn h + 9 := by
      have := (List.getElem?_eq_some_iff.mp hx).1
      rwa [wl_len, jn_jM] at this
    rw [wl_get (by rw [jn_jM]; exact hk)] at hx
    cases hx
    by_cases hk1 : k < jn h
    · rw [ce_jM (by omega)]
      exact w1' k _ (wl_get hk1)
    · by_cases hk2 : k = jn h
      · subst hk2
        rw [ce_jM0]
        show H1[base + jn h]? = some (vp_cell _ _)
        rw [← w2, ← gy_cell]
        exact h0
      · rw [ce_jM1 (by omega) (by omega)]
        show H1[base + k]? = some (vp_cell _ _)
        have := hr (k - jn h - 1) (by omega)
        rw [w2, show base + jn h + 1 + (k - jn h - 1) = base + k by omega] at this
        exact this
  · rw [ho q (Nat.lt_of_lt_of_le hq w3.1)]
    exact w3.2.1 q hq hA
end WOM
theorem d63_15 : decode (mC 63) 15 = .ok (.multianewarray 15 2, 4) := by decide +kernel
theorem mna_ok : MNA := by
  intro kc ks t h Q kk p l e R s m args below meth c Z base b L xs D tc hc H locs cells slots la hw hl g1 g2 hf
  have k1 := fun H1 hw1 => kk p l e R s m args below meth c Z base b L xs D tc hc H1 locs (cells + 9) (slots + 72) la hw1 hl (by omega) (by omega) hf
  obtain ⟨hx, hb, hr, hml, hown, hlk, hts, hnm, hK, hbs, hfr, hlo, hsp⟩ := hc
  intro T hT X
  obtain ⟨cA, cI, F, fA, fI, hG, X8, stp⟩ := gy_step X hx (own := cN (mO 63)) (index := 15) hown (hts _ gw_tab) hsp.2.2.1 (hts _ gw_ai) (g := F0 m 15 la [.int (iI 8), .int (iI 8), cv base b (.ref t)]) rfl (by rw [hb]; exact d63_15) (n := iI 8) (rest := [cv base b (.ref t)]) rfl (by decide) (by decide) (by omega) (by omega)
  have eA : cA = tc 12 := Option.some.inj (fA.symm.trans (hK.2 2 _ rfl).2)
  have eI : cI = tc 10 := Option.some.inj (fI.symm.trans (hK.2 0 _ rfl).2)
  subst eA
  subst eI
  rw [hT] at hG
  obtain ⟨z1, z2, z3, z4⟩ := hG
  obtain ⟨t1, a1, b1⟩ := k1 F.heap (hw.jM (by rw [z1]) z2 z3 z4) F rfl X8
  refine ⟨t1, stp t1 ?_, b1⟩
  rw [List.map_cons, cv_ref (by omega), ad_of (by omega), show jn h + 2 - 2 = jn h by omega, ← hw.2.1, ← hT] at a1
  exact a1
