/-! new int[8][8] out of the machine's own words. gy_R: words that come to one answer in one state; gy_turns: a loop of them; gy_K: the heap with the outer row and i inner ones -/
section GYR
variable {e : Env}
def gy_R {α : Type} (e : Env) (t : Sem α) (U : State) (a : α) (V : State) : Prop :=
  ∀ (Q : α → Pre) (E : CtlPost) (d : Bool) (acts : List Action), (∀ (d1 : Bool) (acts1 : List Action), Q a d1 acts1 V) → wp t Q E e d acts U
theorem gy_stay {α : Type} (a : α) (U : State) : gy_R e (Pure.pure a) U a U := by
  intro Q E d acts hq
  rw [wp_pure']
  exact hq d acts
theorem gy_then {α β : Type} {t : Sem α} {g : α → Sem β} {U V Z : State} {a : α} {b : β} (h1 : gy_R e t U a V) (h2 : gy_R e (g a) V b Z) : gy_R e (t >>= g) U b Z := by
  intro Q E d acts hq
  rw [wp_bind']
  exact h1 _ E d acts fun d1 acts1 => h2 Q E d1 acts1 hq
theorem gy_turns {f : Nat → Unit → Sem (ForInStep Unit)} {P : Nat → State → Prop} (k : Nat) : ∀ (i : Nat) (U : State), P i U → (∀ (j : Nat) (X : State), i ≤ j → j < i + k → P j X → ∃ Y, P (j + 1) Y ∧ gy_R e (f j ()) X (.yield ()) Y) → ∃ V, P (i + k) V ∧ gy_R e (forIn (List.range' i k) () f) U () V := by
  induction k with
  | zero =>
    intro i U hU _
    exact ⟨U, hU, gy_stay () U⟩
  | succ k ih =>
    intro i U hU hs
    obtain ⟨Y, y1, y2⟩ := hs i U (Nat.le_refl i) (by omega) hU
    obtain ⟨V, v1, v2⟩ := ih (i + 1) Y y1 fun j X h1 h2 h3 => hs j X (by omega) (by omega) h3
    refine ⟨V, ?_, ?_⟩
    · rw [show i + (k + 1) = i + 1 + k by omega]
      exact v1
    · rw [List.range'_succ, List.forIn_cons]
      exact gy_then y2 v2
end GYR
def gy_O (cA : ClassId) (z i : Nat) : Cell := arrV cA 8 (fun j => if j < i then .ref (z + 1 + j) else .null)
def gy_N (cI : ClassId) : Cell := arrV cI 8 (fun _ => .int 0)
def gy_K (cA cI : ClassId) (H K : Heap) (i : Nat) : Prop :=
  K.size = H.size + 1 + i ∧ (∀ q : Nat, q < H.size → K[q]? = H[q]?) ∧ K[H.size]? = some (gy_O cA H.size i) ∧ ∀ j : Nat, j < i → K[H.size + 1 + j]? = some (gy_N cI)
theorem gy_new (cA : ClassId) (z : Nat) : ({ cls := cA, slots := Array.replicate 8 .null, vm := .none } : Cell) = gy_O cA z 0 := by
  rw [arrV_new]
  refine congrArg (arrV cA 8) (funext fun j => ?_)
  show Value.null = if j < 0 then Value.ref (z + 1 + j) else Value.null
  rw [if_neg (Nat.not_lt_zero j)]
theorem gy_put (cA : ClassId) (z i : Nat) : (gy_O cA z i).setSlot i (.ref (z + 1 + i)) = gy_O cA z (i + 1) := by
  unfold gy_O
  rw [arrV_store]
  refine congrArg (arrV cA 8) (funext fun j => ?_)
  show (if j = i then Value.ref (z + 1 + i) else if j < i then Value.ref (z + 1 + j) else Value.null) = if j < i + 1 then Value.ref (z + 1 + j) else Value.null
  by_cases hj : j = i
  · rw [if_pos hj, if_pos (by omega), hj]
  · rw [if_neg hj]
    by_cases hl : j < i
    · rw [if_pos hl, if_pos (by omega)]
    · rw [if_neg hl, if_neg (by omega)]
section GYK
variable {cA cI : ClassId} {H K : Heap} {i : Nat}
theorem gy_K0 (cA cI : ClassId) (H : Heap) : gy_K cA cI H (H.push (gy_O cA H.size 0)) 0 := by
  refine ⟨Array.size_push .., fun q hq => ?_, ?_, fun j hj => absurd hj (Nat.not_lt_zero j)⟩
  · rw [Array.getElem?_push, if_neg (by omega)]
  · rw [Array.getElem?_push, if_pos rfl]
theorem gy_K1 (h : gy_K cA cI H K i) : gy_K cA cI H ((K.push (gy_N cI)).setIfInBounds H.size (gy_O cA H.size (i + 1))) (i + 1) := by
  obtain ⟨h1, h2, h3, h4⟩ := h
  have hz : (K.push (gy_N cI)).size = H.size + 1 + i + 1 := by
    rw [Array.size_push, h1]
  refine ⟨?_, fun q hq => ?_, ?_, fun j hj => ?_⟩
  · have := Array.size_setIfInBounds (xs := K.push (gy_N cI)) (i := H.size) (a := gy_O cA H.size (i + 1))
    omega
  · rw [Array.getElem?_setIfInBounds, if_neg (by omega), Array.getElem?_push, if_neg (by omega)]
    exact h2 q hq
  · rw [Array.getElem?_setIfInBounds, if_pos rfl, if_pos (by omega)]
  · rw [Array.getElem?_setIfInBounds, if_neg (by omega), Array.getElem?_push]
    by_cases hl : j < i
    · rw [if_neg (by omega)]
      exact h4 j hl
    · rw [if_pos (by omega)]
end GYK
section GYM
variable {T s : State} {p : Program} {l : Launch} {e : Env} {R : Room} {m : MethodId} {meth : Method} {c : Code} {below : List Frame} {args : Array Value} {cells slots : Nat} {locs : List Loc} {cA cI cB : ClassId} {kA kI : Class} {n : Int32}
/-- an inner row -/
theorem gy_row {U : State} (ha : l.admits e) (hI : U.vm.classes[cI]? = some kI) (dI : kI.kind = .array cB .int) (hn : ¬ n < 0) (h8 : n.toNatClampNeg = 8) (r1 : U.heap.size + 1 ≤ e.platform.maxCells) (r2 : U.slotsUsed + 8 ≤ e.platform.maxSlots) : gy_R e (multianewarray.make cI [n]) U U.heap.size (U.pushCell (gy_N cI)) := by
  intro Q E d acts hq
  rw [multianewarray.make]
  simp only [wp_bind', W.ite, hn, if_false, wp_pure', W.theClass]
  refine ⟨kI, hI, ?_⟩
  simp only [dI, h8]
  refine W.newArray_of hI dI ?_ ?_ r1 r2 rfl fun acts1 => ?_
  · rw [Launch.admits_arrayLengthLimit ha]
    omega
  · rw [Launch.admits_maxHeapBytes ha]
    show ¬ 8 * 4 > 536870912
    omega
  · rw [arrV_new]
    exact hq d acts1
def gy_P (p : Program) (l : Launch) (e : Env) (R : Room) (s : State) (m : MethodId) (args : Array Value) (below : List Frame) (meth : Method) (c : Code) (locs : List Loc) (cells slots : Nat) (vm : Vm) (cA cI : ClassId) (H : Heap) (f : JFrame) (i : Nat) (U : State) : Prop :=
  ∃ X : State, U = X.setTop f ∧ X.vm = vm ∧ gy_K cA cI H X.heap i ∧ Stand p l e R s m args below meth c X locs (cells + 1 + i) (slots + 8 + 8 * i)
/-- one turn of the machine's loop: an inner row comes, and is put into the outer one -/
theorem gy_turn {vm : Vm} {H : Heap} {f : JFrame} {i : Nat} {U : State} (hA : vm.classes[cA]? = some kA) (dA : kA.kind = .array cI (.array .int)) (hI : vm.classes[cI]? = some kI) (dI : kI.kind = .array cB .int) (hn : ¬ n < 0) (h8 : n.toNatClampNeg = 8) (hc : cells + 9 ≤ R.cells) (hs : slots + 72 ≤ R.slots) (hz : s.heap.size ≤ H.size) (hi : i < 8) (hP : gy_P p l e R s m args below meth c locs cells slots vm cA cI H f i U) :
    ∃ V, gy_P p l e R s m args below meth c locs cells slots vm cA cI H f (i + 1) V ∧ gy_R e (multianewarray.make cI [n] >>= fun a => Jvm.writeLoc H.size i (.ref a) >>= fun _ => Pure.pure (ForInStep.yield ())) U (ForInStep.yield ()) V := by
  obtain ⟨X, rfl, hv, hK, S⟩ := hP
  subst hv
  obtain ⟨r1, r2⟩ := S.roomAbove (a := 1) (b := 8) (by omega) (by omega)
  have hK1 := gy_K1 hK
  obtain ⟨k1, k2, k3, k4⟩ := hK
  have c1 : (X.pushCell (gy_N cI)).heap[H.size]? = some (gy_O cA H.size i) := by
    show (X.heap.push (gy_N cI))[H.size]? = _
    rw [Array.getElem?_push, if_neg (by omega)]
    exact k3
  have S1 := (S.pushed (gy_N cI)).stored c1 i (.ref (H.size + 1 + i))
  rw [gy_put, show (gy_N cI).slots.size = 8 from arrV_size ..] at S1
  have S2 := S1.dropFresh (by
    intro x hx
    rw [List.mem_singleton] at hx
    rw [hx]
    exact hz)
  refine ⟨((X.pushCell (gy_N cI)).setCell H.size (gy_O cA H.size (i + 1))).setTop f, ⟨_, rfl, rfl, hK1, ?_⟩, ?_⟩
  · rw [show cells + 1 + (i + 1) = cells + 1 + i + 1 by omega, show slots + 8 + 8 * (i + 1) = slots + 8 + 8 * i + 8 by omega]
    exact S2
  · refine gy_then (gy_row (U := X.setTop f) S.admits hI dI hn h8 r1 r2) ?_
    show gy_R e (Jvm.writeLoc H.size i (.ref X.heap.size) >>= fun _ => Pure.pure (ForInStep.yield ())) ((X.pushCell (gy_N cI)).setTop f) (ForInStep.yield ()) _
    rw [k1]
    intro Q E d acts hq
    rw [wp_bind', W.writeLoc]
    refine ⟨gy_O cA H.size i, c1, (show VmData.none ≠ VmData.unknown from fun h => nomatch h), ?_, ?_, ?_⟩
    · rw [show (gy_O cA H.size i).slots.size = 8 from arrV_size ..]
      exact hi
    · have hf : fits (.array .int) (.ref (H.size + 1 + i)) = true := rfl
      show (X.pushCell (gy_N cI)).fitsSlot cA VmData.none i (.ref (H.size + 1 + i)) = true
      simp [State.fitsSlot, State.slotType?, hA, dA, hf]
    · rw [gy_put, wp_pure']
      exact hq _ _
/-- the outer row, and eight turns -/
theorem gy_make {f : JFrame} (S : Stand p l e R s m args below meth c T locs cells slots) (hA : T.vm.classes[cA]? = some kA) (dA : kA.kind = .array cI (.array .int)) (hI : T.vm.classes[cI]? = some kI) (dI : kI.kind = .array cB .int) (hn : ¬ n < 0) (h8 : n.toNatClampNeg = 8) (hc : cells + 9 ≤ R.cells) (hs : slots + 72 ≤ R.slots) (hz : s.heap.size ≤ T.heap.size) :
    ∃ F, gy_K cA cI T.heap F.heap 8 ∧ Stand p l e R s m args below meth c F locs (cells + 9) (slots + 72) ∧ gy_R e (multianewarray.make cA [n, n]) (T.setTop f) T.heap.size (F.setTop f) := by
  obtain ⟨r1, r2⟩ := S.roomAbove (a := 1) (b := 8) (by omega) (by omega)
  have S0 := S.pushed (gy_O cA T.heap.size 0)
  rw [show (gy_O cA T.heap.size 0).slots.size = 8 from arrV_size ..] at S0
  have P0 : gy_P p l e R s m args below meth c locs cells slots T.vm cA cI T.heap f 0 ((T.pushCell (gy_O cA T.heap.size 0)).setTop f) := ⟨_, rfl, rfl, gy_K0 cA cI T.heap, S0⟩
  obtain ⟨V, ⟨F, rfl, hv, hK, SF⟩, hl⟩ := gy_turns (e := e) (f := fun i _ => multianewarray.make cI [n] >>= fun a => Jvm.writeLoc T.heap.size i (.ref a) >>= fun _ => Pure.pure (ForInStep.yield ())) (P := gy_P p l e R s m args below meth c locs cells slots T.vm cA cI T.heap f) 8 0 _ P0 fun j X _ hj hP => gy_turn hA dA hI dI hn h8 hc hs hz (by omega) hP
  have n0 : (n == 0) = false := by
    rw [beq_eq_false_iff_ne]
    intro h0
    rw [h0] at h8
    exact absurd h8 (by decide)
  refine ⟨F, hK, SF, ?_⟩
  intro Q E d acts hq
  rw [multianewarray.make]
  simp only [wp_bind', W.ite, hn, if_false, wp_pure', W.theClass]
  refine ⟨kA, hA, ?_⟩
  simp only [dA, h8, n0, wp_bind', W.ite, Bool.false_eq_true, if_false, wp_pure']
  refine W.newArray_of (s := T.setTop f) hA dA ?_ ?_ r1 r2 rfl fun acts1 => ?_
  · rw [Launch.admits_arrayLengthLimit S.admits]
    omega
  · rw [Launch.admits_maxHeapBytes S.admits]
    show ¬ 8 * 4 > 536870912
    omega
  · rw [gy_new cA T.heap.size, Std.Legacy.Range.forIn_eq_forIn_range', wp_bind']
    show wp (forIn (List.range' 0 8) () _) _ E e d acts1 ((T.pushCell (gy_O cA T.heap.size 0)).setTop f)
    refine hl _ E d acts1 fun d1 acts2 => ?_
    exact hq d1 acts2
theorem gy_s1 : (FieldType.array .int).toString = "[" ++ FieldType.int.toString := by decide +kernel
theorem gy_s2 : "[" ++ (FieldType.array .int).toString = "[[I" := by decide +kernel
/-- the whole instruction -/
theorem gy_step (S : Stand p l e R s m args below meth c T locs cells slots) (hx : p.tables.exec = Jvm.exec) {own : String} {index : Nat} (hown : s.vm.findClass own = some m.cls) (hlk : (Cond.classLink own index "[[I").before args s = true) (hao : aoI s) (har : (Cond.arrayClass .int).before args s = true) {g : JFrame} (hg : g.method = m) (hd : decode c.code g.pc = .ok (.multianewarray index 2, 4)) {rest : List Value} (hst : g.stack = .int n :: .int n :: rest) (hn : ¬ n < 0) (h8 : n.toNatClampNeg = 8) (hc : cells + 9 ≤ R.cells) (hs : slots + 72 ≤ R.slots) :
    ∃ (cA cI : ClassId) (F : State), s.vm.findClass ("[" ++ (FieldType.array .int).toString) = some cA ∧ s.vm.findClass ("[" ++ FieldType.int.toString) = some cI ∧ gy_K cA cI T.heap F.heap 8 ∧ Stand p l e R s m args below meth c F locs (cells + 9) (slots + 72) ∧
      ∀ tg, Steps p.tables e below (F.setTop { g with pc := g.pc + 4, stack := .ref T.heap.size :: rest }) tg → Steps p.tables e below (T.setTop g) tg := by
  subst hg
  obtain ⟨cI, cA, kA, f1, -, f3, f4, f5⟩ := aoI_spec hao
  obtain ⟨cI1, kI, cB, g1, g2, g3⟩ := Cond.arrayClass_spec har
  rw [gy_s1] at f1
  obtain rfl : cI1 = cI := Option.some.inj (g1.symm.trans f1)
  obtain ⟨cA1, hf, hcl⟩ := Cond.classLink_spec hown hlk e.platform (by rw [S.admits.platform])
  rw [← gy_s2] at hf
  obtain rfl : cA1 = cA := Option.some.inj (hf.symm.trans f5)
  obtain ⟨w1, w2, -⟩ := State.classEntry (e := e) S.warmed hcl
  have hq : (T.vm.noted g.method.cls index (.cls cA1)).classes.size ≤ T.vm.classes.size := Nat.le_of_eq (Vm.size_noted ..)
  generalize T.vm.noted g.method.cls index (.cls cA1) = vm1 at w1 w2 hq
  obtain ⟨kA1, a1, a2⟩ := w2.alike.2.2 _ _ f3
  obtain ⟨kI1, b1, b2⟩ := w2.alike.2.2 _ _ g2
  have S1 := S.noted w2
  obtain ⟨F, hK, SF, hm⟩ := gy_make (f := { g with stack := rest }) S1 a1 (by rw [a2]; exact f4) b1 (by rw [b2]; exact g3) hn h8 hc hs S.same.2.1
  refine ⟨cA1, cI1, F, f5, g1, hK, SF, fun tg ht => ?_⟩
  refine Steps.instr (c := c) S.here ?_
  rw [hd]
  show wpRun (p.tables.exec (.multianewarray index 2)) _ _ e (T.setTop g)
  rw [hx]
  show wp (multianewarray.sem index 2) _ _ e false [] (T.setTop g)
  simp only [multianewarray.sem, wp_bind']
  rw [W.resolveClassAt_links (t := T.setTop g) (State.method?_setTop g S.here.top) w1 hq, wp_bind', W.popN, if_neg (by decide)]
  refine ⟨g, State.topJava?_setTop' g S1.here.top, [.int n, .int n], rest, rfl, hst, ?_⟩
  rw [show ((T.setTop g).setVm vm1).setTop { g with stack := rest } = (T.setVm vm1).setTop { g with stack := rest } from State.setTop_setTop (T.setVm vm1) g _]
  show wp (multianewarray.make cA1 [n, n] >>= fun a => Jvm.mark "op.multianewarray" >>= fun _ => Jvm.pushRef a) _ _ e true [] _
  rw [wp_bind']
  refine hm _ _ true [] fun d1 acts1 => ?_
  rw [wp_bind', W.mark, W.pushRef]
  refine ⟨{ g with stack := rest }, State.topJava?_setTop' _ SF.here.top, fun acts2 => ?_⟩
  rw [State.setTop_setTop, afterInstr_ok]
  exact ht
end GYM
