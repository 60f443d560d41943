/-! no three rows come twice (pure) -/
noncomputable def cnt {α : Type} (P : α → Prop) : List α → Nat
  | [] => 0
  | x :: l => @ite Nat (P x) (Classical.propDecidable (P x)) 1 0 + cnt P l
theorem cnt_le {α : Type} {P : α → Prop} : ∀ l : List α, cnt P l ≤ l.length
  | [] => Nat.le_refl _
  | x :: l => by
    have := cnt_le (P := P) l
    rw [cnt, List.length_cons]
    split <;> omega
theorem cnt_mono {α : Type} {P Q : α → Prop} (h : ∀ x, P x → Q x) : ∀ l : List α, cnt P l ≤ cnt Q l
  | [] => Nat.le_refl _
  | x :: l => by
    have := cnt_mono h l
    rw [cnt, cnt]
    by_cases c : P x
    · rw [if_pos c, if_pos (h x c)]
      omega
    · rw [if_neg c]
      split <;> omega
theorem cnt_lt {α : Type} {P Q : α → Prop} (h : ∀ x, P x → Q x) {y : α} (hq : Q y) (hp : ¬ P y) : ∀ l : List α, y ∈ l → cnt P l < cnt Q l
  | [], hy => absurd hy (by simp)
  | x :: l, hy => by
    rw [cnt, cnt]
    rcases List.mem_cons.mp hy with e | e
    · subst e
      have := cnt_mono h l
      rw [if_neg hp, if_pos hq]
      omega
    · have := cnt_lt h hq hp l e
      by_cases c : P x
      · rw [if_pos c, if_pos (h x c)]
        omega
      · rw [if_neg c]
        split <;> omega
def tri : List (Nat × Nat × Nat) := (List.range 14).flatMap fun a => (List.range 14).flatMap fun b => (List.range 14).filterMap fun c => if a < b ∧ b < c then some (a, b, c) else none
theorem tri_len : tri.length = 364 := by decide +kernel
theorem tri_mem {a b c : Nat} (h1 : a < b) (h2 : b < c) (h3 : c < 14) : (a, b, c) ∈ tri := by
  unfold tri
  refine List.mem_flatMap.mpr ⟨a, List.mem_range.mpr (by omega), List.mem_flatMap.mpr ⟨b, List.mem_range.mpr (by omega), List.mem_filterMap.mpr ⟨c, List.mem_range.mpr h3, ?_⟩⟩⟩
  rw [if_pos ⟨h1, h2⟩]
section POT
variable {s : Nat → Nat → Int} {nd pr : Nat → Int}
/-- the rows of H are those of T -/
def hT (T : Nat × Nat × Nat) (H : Nat → Nat) : Prop := (∀ i, i < 3 → H i = T.1 ∨ H i = T.2.1 ∨ H i = T.2.2) ∧ (∃ j, j < 3 ∧ H j = T.1) ∧ (∃ j, j < 3 ∧ H j = T.2.1) ∧ ∃ j, j < 3 ∧ H j = T.2.2
theorem wh_eq {H : Nat → Nat} (hw : 0 < wh s H) : H 0 ≠ H 1 ∧ H 0 ≠ H 2 ∧ H 1 ≠ H 2 := by
  refine ⟨fun z => ?_, fun z => ?_, fun z => ?_⟩ <;> (have e : wh s H = 0 := by simp only [wh, dt3, wy, Nat.reduceAdd, Nat.reduceMod, z]; grind) <;> omega
theorem sort3 {H : Nat → Nat} (hw : 0 < wh s H) (hH : ∀ i, i < 3 → H i < 14) : ∃ T, T ∈ tri ∧ hT T H := by
  obtain ⟨n1, n2, n3⟩ := wh_eq hw
  have h0 := hH 0 (by decide)
  have h1 := hH 1 (by decide)
  have h2 := hH 2 (by decide)
  have key : ∀ i j k, i < 3 → j < 3 → k < 3 → H i < H j → H j < H k → (∀ x, x < 3 → x = i ∨ x = j ∨ x = k) → ∃ T, T ∈ tri ∧ hT T H := by
    intro i j k hi hj hk a b c
    refine ⟨(H i, H j, H k), tri_mem a b (hH k hk), fun x hx => ?_, ⟨i, hi, rfl⟩, ⟨j, hj, rfl⟩, ⟨k, hk, rfl⟩⟩
    rcases c x hx with rfl | rfl | rfl
    · exact Or.inl rfl
    · exact Or.inr (Or.inl rfl)
    · exact Or.inr (Or.inr rfl)
  by_cases a : H 0 < H 1
  · by_cases b : H 1 < H 2
    · exact key 0 1 2 (by decide) (by decide) (by decide) a b (by omega)
    · by_cases c : H 0 < H 2
      · exact key 0 2 1 (by decide) (by decide) (by decide) c (by omega) (by omega)
      · exact key 2 0 1 (by decide) (by decide) (by decide) (by omega) a (by omega)
  · by_cases b : H 0 < H 2
    · exact key 1 0 2 (by decide) (by decide) (by decide) (by omega) b (by omega)
    · by_cases c : H 1 < H 2
      · exact key 1 2 0 (by decide) (by decide) (by decide) c (by omega) (by omega)
      · exact key 2 1 0 (by decide) (by decide) (by decide) (by omega) (by omega) (by omega)
/-- a point on H's rows is H's point -/
theorem same_pt {H : Nat → Nat} {y : Nat → Int} {u : Int} (h : ∀ i, i < 3 → dt3 s (H i) y = nd (H i) * u) : ∀ a, a < 3 → wh s H * y a = ow s nd H a * u := by
  intro a ha
  rw [wy_inv a ha, h 0 (by decide), h 1 (by decide), h 2 (by decide)]
  unfold ow
  grind
def gq (s : Nat → Nat → Int) (nd pr : Nat → Int) (o : Nat → Int) (w : Int) (T : Nat × Nat × Nat) : Prop := ∃ H, hT T H ∧ 0 < wh s H ∧ plt pr o w (ow s nd H) (wh s H)
noncomputable def pot (s : Nat → Nat → Int) (nd pr : Nat → Int) (o : Nat → Int) (w : Int) : Nat := cnt (gq s nd pr o w) tri
theorem pot_le {o : Nat → Int} {w : Int} : pot s nd pr o w ≤ 364 := by
  have := cnt_le (P := gq s nd pr o w) tri
  rw [tri_len] at this
  exact this
theorem pot_lt {H H' : Nat → Nat} (hw : 0 < wh s H) (hw' : 0 < wh s H') (hH' : ∀ i, i < 3 → H' i < 14) (hp : plt pr (ow s nd H) (wh s H) (ow s nd H') (wh s H')) : pot s nd pr (ow s nd H') (wh s H') < pot s nd pr (ow s nd H) (wh s H) := by
  obtain ⟨T, hTm, hTT⟩ := sort3 hw' hH'
  refine cnt_lt (fun X hX => ?_) (y := T) ⟨H', hTT, hw', hp⟩ ?_ tri hTm
  · obtain ⟨G, g1, g2, g3⟩ := hX
    exact ⟨G, g1, g2, plt_tr hw hw' g2 hp (Or.inl g3)⟩
  · rintro ⟨G, g1, g2, g3⟩
    have on : ∀ i, i < 3 → dt3 s (H' i) (ow s nd G) = nd (H' i) * wh s G := by
      intro i hi
      obtain ⟨_, ⟨j0, a0, b0⟩, ⟨j1, a1, b1⟩, ⟨j2, a2, b2⟩⟩ := g1
      rcases hTT.1 i hi with e | e | e
      · rw [e, ← b0]
        exact ow_on j0 a0
      · rw [e, ← b1]
        exact ow_on j1 a1
      · rw [e, ← b2]
        exact ow_on j2 a2
    have sp := same_pt on
    have lin := ob_lin (pr := pr) (x := ow s nd H') (y := ow s nd H') (z := ow s nd G) (a := wh s G) (b := 0) (c := wh s H') (fun k hk => by rw [sp k hk]; grind)
    refine ln_nz g3 ?_
    unfold zz4
    dsimp only
    have l0 := lin 0 (by decide)
    have l1 := lin 1 (by decide)
    have l2 := lin 2 (by decide)
    have l3 := lin 3 (by decide)
    refine ⟨by grind, by grind, by grind, by grind⟩
end POT
