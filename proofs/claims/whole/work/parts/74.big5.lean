/-! numbers of the class: add, plusProduct, plusTimes -/
section BIG
variable {r b : Nat} {h : jHp}
theorem c_Badd {rc c : Nat} {v w : Int} {y : Int} (B : BG r b h v) (C : BG rc c h w) (hc : c ≠ b ∧ c ≠ b + 1 ∧ b ≠ c + 1) (hy : y = 0 ∨ y = 1) (hz : sz B6 (v.natAbs + w.natAbs) ≤ r) : jRet 10 0 0 [.ref b, .ref c, .int (iI y)] h (trQ r b h (if y = 0 then v + w else v - w)) := by
  have B0 := B
  have C0 := C
  obtain ⟨B1, R1, B3⟩ := B
  have hr := B1.2.2.2
  obtain ⟨C1, ⟨t1, t2, t3, t4⟩, C3⟩ := C
  have kee : ∀ k, ¬ fbS b c k ∧ ¬ fbS b (c + 1) k := fun k => by
    unfold fbS
    omega
  -- the end
  have l68 : ∀ (g : jHp) (s' Z : Nat), fg (fbS b) h g → RB r b g s' Z → (mI g b 2 = 0 ∨ mI g b 2 = 1) → (if y = 0 then v + w else v - w) = (if mI g b 2 = 0 then (Z : Int) else -(Z : Int)) → J 10 68 0 0 [.ref b, uu, uu, uu] [] g (trQ r b h (if y = 0 then v + w else v - w)) := by
    intro g s' Z f RZ h2 he
    have Bg := bo_sk B1 f.1
    refine j_Bi_add_68 ⟨Bg.1, jRet_mono (c_Btrim Bg RZ h2 he) ?_⟩
    intro q2 h2 w2
    exact ⟨w2.1, rfl, f.tr w2.2.1, w2.2.2⟩
  have l13 : ∀ o : Int, (o = 0 ∨ o = 1) → (if y = 0 then w else -w) = (if o = 0 then (w.natAbs : Int) else -(w.natAbs : Int)) → J 10 13 0 0 [.ref b, .ref c, uu, uu] [.int (iI o)] h (trQ r b h (if y = 0 then v + w else v - w)) := by
    intro o ho hw
    have iB : isB (iI o) := by
      rcases ho with z | z
      · rw [z]
        exact Or.inl rfl
      · rw [z]
        exact Or.inr rfl
    have l29 : (mI h b 2 = o ∨ v = 0) → J 10 29 0 0 [.ref b, .ref c, uu, .int (iI o)] [] h (trQ r b h (if y = 0 then v + w else v - w)) := by
      intro hs
      refine j_Bi_add_29 ⟨B1.1, jRet_mono (c_Braise B1 R1 C0 hc hz) ?_⟩
      intro q1 h1 w1
      obtain ⟨e1, e2, e3, s', e4⟩ := w1
      have Bg := bo_sk B1 e2.1
      refine ⟨e1, Bg.1, iB, ?_⟩
      have eo : mI (sI h1 b 2 (iI o)) b 2 = o := by
        rw [mI_sI ⟨by omega, by omega⟩, if_pos ⟨rfl, rfl⟩]
      refine l68 _ s' (v.natAbs + w.natAbs) (e2.wr (Or.inl rfl)) ⟨?_, e4.2.1, e4.2.2.1, fun k hk => ?_⟩ (by rw [eo]; exact ho) ?_
      · rw [mI_sI ⟨by omega, by omega⟩, if_neg (fun z => by omega)]
        exact e4.1
      · rw [mI_sI ⟨by omega, by omega⟩, if_neg (fun z => by omega)]
        exact e4.2.2.2 k hk
      · rw [eo]
        rw [B3] at hs
        rcases hy with y0 | y0 <;> rcases ho with o0 | o0 <;> subst y0 <;> subst o0 <;> simp at hw ⊢ <;> split at hs <;> omega
    have l42 : mI h b 2 ≠ o → v ≠ 0 → J 10 42 0 0 [.ref b, .ref c, uu, .int (iI o)] [] h (trQ r b h (if y = 0 then v + w else v - w)) := by
      intro hs hv
      rw [B3] at hs
      refine j_Bi_add_42 ⟨B1.1, jRet_mono (c_Bcmp B0 C0) ?_⟩
      intro q1 h1 w1
      obtain ⟨e1, e2⟩ := w1
      rw [e2]
      have rc : rI (cmpN v.natAbs w.natAbs) := by
        unfold cmpN rI
        split
        · omega
        · split <;> omega
      refine ⟨_, e1, ?_⟩
      rw [iI_0, iI_lt rc ⟨by omega, by omega⟩]
      refine ⟨fun z => j_Bi_add_58 ?_, fun z => ⟨B1.1, ?_⟩⟩
      · have hlt : v.natAbs < w.natAbs := by
          unfold cmpN at z
          split at z
          · assumption
          · split at z <;> omega
        refine ⟨B1.1, jRet_mono (c_BlowerFrom B1 R1 C0 hc (Nat.le_of_lt hlt) (Nat.le_trans (sz_mono (by decide) (by omega)) hz) (sz_mono (by decide) (Nat.le_of_lt hlt))) ?_⟩
        intro q3 h3 w3
        obtain ⟨e5, e6, e7, s', e8⟩ := w3
        have Bg := bo_sk B1 e6.1
        refine ⟨e5, Bg.1, iB, ?_⟩
        have eo : mI (sI h3 b 2 (iI o)) b 2 = o := by
          rw [mI_sI ⟨by omega, by omega⟩, if_pos ⟨rfl, rfl⟩]
        refine l68 _ s' (w.natAbs - v.natAbs) (e6.wr (Or.inl rfl)) ⟨?_, e8.2.1, e8.2.2.1, fun k hk => ?_⟩ (by rw [eo]; exact ho) ?_
        · rw [mI_sI ⟨by omega, by omega⟩, if_neg (fun z => by omega)]
          exact e8.1
        · rw [mI_sI ⟨by omega, by omega⟩, if_neg (fun z => by omega)]
          exact e8.2.2.2 k hk
        · rw [eo]
          rcases hy with y0 | y0 <;> rcases ho with o0 | o0 <;> subst y0 <;> subst o0 <;> simp at hw ⊢ <;> split at hs <;> omega
      · have hle : w.natAbs ≤ v.natAbs := by
          unfold cmpN at z
          split at z <;> omega
        refine jRet_mono (c_Blower B1 R1 C0 hc hle) ?_
        intro q3 h3 w3
        obtain ⟨e5, e6, e7, s', e8⟩ := w3
        refine ⟨e5, l68 h3 s' _ e6 e8 (by rw [e7, B3]; split <;> omega) ?_⟩
        rw [e7, B3]
        rcases hy with y0 | y0 <;> rcases ho with o0 | o0 <;> subst y0 <;> subst o0 <;> by_cases c : v < 0 <;> simp [c] at hw hs ⊢ <;> omega
    refine j_Bi_add_13 ?_
    rw [gI_mI h b 2, gI_mI h b 1, R1.1, iI_0, iI_eq (rI_mI _ _ _) ⟨by omega, by omega⟩, iI_eq (by have := R1.2.1; exact ⟨by omega, by omega⟩) ⟨by omega, by omega⟩]
    have hp := sz_pos (B := B6) (v := v.natAbs) (by decide)
    exact ⟨B1.1, fun z => l29 (Or.inl z), fun z => ⟨B1.1, fun z2 => l42 z (by intro v0; rw [v0] at z2; exact z2 rfl), fun z2 => l29 (Or.inr (by omega))⟩⟩
  refine jRet_of (by decide) (by decide) (Nat.le_of_ble_eq_true rfl) (j_Bi_add_0 ?_)
  rw [gI_mI h c 2, C3, iI_eq (by split <;> exact ⟨by omega, by omega⟩) (by rcases hy with z | z <;> rw [z] <;> exact ⟨by omega, by omega⟩)]
  refine ⟨C1.1, fun z => j_Bi_add_12 (l13 0 (Or.inl rfl) ?_), fun z => l13 1 (Or.inr rfl) ?_⟩
  · rcases hy with y0 | y0 <;> subst y0 <;> by_cases c : w < 0 <;> simp [c] at z ⊢ <;> omega
  · rcases hy with y0 | y0 <;> subst y0 <;> by_cases c : w < 0 <;> simp [c] at z ⊢ <;> omega
theorem c_BplusProduct {rs sc ra a rc c : Nat} {u s v w : Int} (B : BG r b h u) (T : BG rs sc h s) (A : BG ra a h v) (C : BG rc c h w) (hs : sc ≠ b ∧ sc ≠ b + 1 ∧ b ≠ sc + 1) (ha : a ≠ sc ∧ a ≠ sc + 1 ∧ sc ≠ a + 1) (hc : c ≠ sc ∧ c ≠ sc + 1 ∧ sc ≠ c + 1) (hz : sz B6 v.natAbs + sz B6 w.natAbs ≤ rs) (hz2 : sz B6 (u.natAbs + (v * w).natAbs) ≤ r) :
    jRet 27 0 0 [.ref b, .ref a, .ref c, .ref sc] h (fun q h' => q = none ∧ fg (fun p k => fbS b p k ∨ fbS sc p k) h h' ∧ BG r b h' (u + v * w) ∧ BG rs sc h' (v * w)) := by
  refine jRet_of (by decide) (by decide) (Nat.le_of_ble_eq_true rfl) (j_Bi_plusProduct_0 ⟨T.1.1, jRet_mono (c_BsetProduct T A C ha hc hz) ?_⟩)
  intro q1 h1 w1
  obtain ⟨e1, e2, e3⟩ := w1
  have B1 := bg_fg B e2 (fun k => by unfold fbS; omega)
  refine ⟨e1, B1.1.1, jRet_mono (c_Badd (y := 0) B1 e3 hs (Or.inl rfl) hz2) ?_⟩
  intro q2 h2 w2
  obtain ⟨e4, e5, e6⟩ := w2
  rw [if_pos rfl] at e6
  exact ⟨e4, rfl, (e2.mo (fun _ _ z => Or.inr z)).tr (e5.mo (fun _ _ z => Or.inl z)), e6, bg_fg e3 e5 (fun k => by unfold fbS; omega)⟩
end BIG
