/-! new int[8][8] (Table's constructor): the machine's own making, walked here: first the outer array, then row by row an inner one and the store of its place -/
def mnO (cA : ClassId) (z i : Nat) : Cell := arrV cA 8 (fun j => if j < i then .ref (z + 1 + j) else .null)
def mnI (cI : ClassId) : Cell := arrV cI 8 (fun _ => .int 0)
def mnS (cA cI : ClassId) (S : State) : Nat → State
  | 0 => S.pushCell (mnO cA S.heap.size 0)
  | i + 1 => ((mnS cA cI S i).pushCell (mnI cI)).setCell S.heap.size (mnO cA S.heap.size (i + 1))
theorem mnO_set (cA : ClassId) (z i : Nat) : (mnO cA z i).setSlot i (.ref (z + 1 + i)) = mnO cA z (i + 1) := by
  unfold mnO
  rw [arrV_store]
  congr 1
  funext j
  unfold updV
  by_cases e : j = i
  · subst e
    rw [if_pos rfl, if_pos (Nat.lt_succ_self j)]
  · rw [if_neg e]
    show (if j < i then Value.ref (z + 1 + j) else Value.null) = _
    by_cases h : j < i
    · rw [if_pos h, if_pos (Nat.lt_succ_of_lt h)]
    · rw [if_neg h, if_neg (fun q => by omega)]
section MNF
variable (cA cI : ClassId) (S : State)
theorem mn_size : ∀ i, (mnS cA cI S i).heap.size = S.heap.size + 1 + i
  | 0 => State.heap_size_pushCell _ _
  | i + 1 => by
    have := mn_size i
    simp [mnS, State.setCell, this]
    omega
theorem mn_vm : ∀ i, (mnS cA cI S i).vm = S.vm
  | 0 => rfl
  | i + 1 => mn_vm i
theorem mn_used : ∀ i, (mnS cA cI S i).slotsUsed = S.slotsUsed + 8 + 8 * i
  | 0 => by
    show S.slotsUsed + (mnO cA S.heap.size 0).slots.size = _
    unfold mnO
    rw [arrV_size]
  | i + 1 => by
    have := mn_used i
    show (mnS cA cI S i).slotsUsed + (mnI cI).slots.size = _
    unfold mnI
    rw [arrV_size]
    omega
theorem mn_out : ∀ i, (mnS cA cI S i).heap[S.heap.size]? = some (mnO cA S.heap.size i)
  | 0 => State.heap_pushCell_size _ _
  | i + 1 => by
    have h1 := mn_size cA cI S i
    have h2 : S.heap.size < (mnS cA cI S i).heap.size := by omega
    refine State.heap_setCell_self (c := mnO cA S.heap.size i) ?_
    rw [State.heap_pushCell_of_lt _ _ h2]
    exact mn_out i
theorem mn_old {q : Nat} (hq : q < S.heap.size) : ∀ i, (mnS cA cI S i).heap[q]? = S.heap[q]?
  | 0 => State.heap_pushCell_of_lt _ _ hq
  | i + 1 => by
    have h1 := mn_size cA cI S i
    have h2 : q < (mnS cA cI S i).heap.size := by omega
    show (((mnS cA cI S i).pushCell (mnI cI)).setCell S.heap.size _).heap[q]? = _
    rw [State.heap_setCell_other (Nat.ne_of_gt hq), State.heap_pushCell_of_lt _ _ h2]
    exact mn_old hq i
theorem mn_row : ∀ i j, j < i → (mnS cA cI S i).heap[S.heap.size + 1 + j]? = some (mnI cI)
  | 0, _, h => absurd h (Nat.not_lt_zero _)
  | i + 1, j, h => by
    have h1 := mn_size cA cI S i
    show (((mnS cA cI S i).pushCell (mnI cI)).setCell S.heap.size _).heap[S.heap.size + 1 + j]? = _
    rw [State.heap_setCell_other (show S.heap.size ≠ S.heap.size + 1 + j by omega)]
    by_cases hj : j < i
    · have h2 : S.heap.size + 1 + j < (mnS cA cI S i).heap.size := by omega
      rw [State.heap_pushCell_of_lt _ _ h2]
      exact mn_row i j hj
    · have e : S.heap.size + 1 + j = (mnS cA cI S i).heap.size := by omega
      rw [e]
      exact State.heap_pushCell_size _ _
theorem mn_top (f : JFrame) : ∀ i, mnS cA cI (S.setTop f) i = (mnS cA cI S i).setTop f
  | 0 => rfl
  | i + 1 => by
    show ((mnS cA cI (S.setTop f) i).pushCell (mnI cI)).setCell _ _ = _
    rw [mn_top f i]
    rfl
end MNF
section MNW
variable {E : CtlPost} {e : Env} {d : Bool} {acts : List Action} {S : State}
/-- an array all of whose slots hold a default -/
theorem mn_new {c co : ClassId} {k : Class} {ty : FieldType} {len : Nat} {v : Value} {Q : Addr → Pre} (hk : S.vm.classes[c]? = some k) (hd : k.kind = .array co ty) (hl : ¬ len > e.platform.arrayLengthLimit) (hb : ¬ len * componentBytes ty > e.platform.maxHeapBytes) (hf : fits ty v = true) (hv : v.isDefault = true) (h1 : S.heap.size < e.platform.maxCells) (h2 : S.slotsUsed + len ≤ e.platform.maxSlots) (hq : Q S.heap.size d acts (S.pushCell (arrV c len (fun _ => v)))) : wp (Jvm.newArray c len v) Q E e d acts S := by
  rw [← arrV_new] at hq
  have g1 : ∀ i w, (Array.replicate len v)[i]? = some w → S.fitsSlot c .none i w = true := by
    intro i w hw
    rw [Array.getElem?_replicate] at hw
    by_cases hi : i < len
    · rw [if_pos hi] at hw
      cases hw
      simp [State.fitsSlot, State.slotType?, hk, hd, hf]
    · rw [if_neg hi] at hw
      cases hw
  have g2 : allocActs (Array.replicate len v) S.heap.size acts = acts := by
    have g3 : (Array.replicate len v).all (fun w => w.isDefault) = true := by
      rw [Array.all_replicate]
      split <;> simp [hv]
    unfold allocActs
    rw [if_pos g3]
  simp only [Jvm.newArray, Jvm.arrayFits, wp_bind', W.ask, W.ite, hl, if_false, wp_pure', W.theClass, hk, hd, hb, W.alloc, W.stop, Option.some.injEq, exists_eq_left', Array.size_replicate, g2]
  rw [if_neg (by omega)]
  exact ⟨h1, h2, g1, hq⟩
/-- the making of eight rows of eight -/
theorem mn_make {cA cI cc : ClassId} {kA kI : Class} {n : Int32} {Q : Addr → Pre} (hn : ¬ n < 0) (hn8 : n.toNatClampNeg = 8) (hA : S.vm.classes[cA]? = some kA) (dA : kA.kind = .array cI (.array .int)) (hI : S.vm.classes[cI]? = some kI) (dI : kI.kind = .array cc .int)
    (hl : ¬ 8 > e.platform.arrayLengthLimit) (hb : ¬ 8 * 4 > e.platform.maxHeapBytes) (h1 : S.heap.size + 9 ≤ e.platform.maxCells) (h2 : S.slotsUsed + 72 ≤ e.platform.maxSlots) (hq : ∀ d' acts', Q S.heap.size d' acts' (mnS cA cI S 8)) : wp (multianewarray.make cA [n, n]) Q E e d acts S := by
  have hfind : ([n].find? (· < 0)) = none := by simp [hn]
  rw [multianewarray.make]
  simp only [wp_bind', W.ite, hn, if_false, wp_pure', W.theClass, hA, dA, Option.some.injEq, exists_eq_left', hn8]
  refine mn_new hA dA hl hb rfl rfl (by omega) (by omega) ?_
  simp only [hfind]
  rw [ite_self, wp_bind', Std.Legacy.Range.forIn_eq_forIn_range']
  show wp (forIn (List.range' 0 8 1) PUnit.unit _) _ E e d acts _
  refine wp_forIn_inv (fun rest s' => ∃ i, i ≤ 8 ∧ rest = List.range' i (8 - i) ∧ s' = mnS cA cI S i) _ _ ⟨0, Nat.zero_le _, rfl, rfl⟩ ?_ ?_
  · rintro x rest s' d' acts' Q' ⟨i, hi, hr, rfl⟩ hnext
    have h8 : i < 8 := by
      rcases Nat.lt_or_ge i 8 with h | h
      · exact h
      · rw [show 8 - i = 0 by omega] at hr
        cases hr
    rw [show 8 - i = (8 - (i + 1)) + 1 by omega, List.range'_succ] at hr
    obtain ⟨rfl, hr⟩ := List.cons.inj hr
    have e1 := mn_size cA cI S x
    have e2 := mn_used cA cI S x
    have e3 := mn_out cA cI S x
    have e4 := mn_vm cA cI S x
    rw [multianewarray.make]
    simp only [wp_bind', W.ite, hn, if_false, wp_pure', W.theClass, e4, hI, dI, Option.some.injEq, exists_eq_left', hn8]
    refine mn_new (by rw [e4]; exact hI) dI hl hb rfl rfl (by omega) (by omega) ?_
    simp only [wp_bind', W.writeLoc, wp_pure']
    refine ⟨mnO cA S.heap.size x, ?_, ?_, ?_, ?_, hnext _ _ _ ⟨x + 1, h8, hr, ?_⟩⟩
    · have h9 : S.heap.size < (mnS cA cI S x).heap.size := by omega
      rw [State.heap_pushCell_of_lt _ _ h9]
      exact e3
    · intro z
      cases z
    · show x < (arrV _ _ _).slots.size
      rw [arrV_size]
      exact h8
    · show State.fitsSlot _ cA .none x _ = true
      simp [State.fitsSlot, State.slotType?, e4, hA, dA]
      rfl
    · rw [e1, mnO_set]
      rfl
  · rintro s' d' acts' ⟨i, hi, hr, rfl⟩
    have h8 : i = 8 := by
      rcases Nat.lt_or_ge i 8 with h | h
      · rw [show 8 - i = (8 - (i + 1)) + 1 by omega, List.range'_succ] at hr
        cases hr
      · omega
    subst h8
    simp only [wp_pure']
    exact hq _ _
end MNW
section MNR
variable {p : Program} {l : Launch} {e : Env} {R : Room} {s : State} {m : MethodId} {args : Array Value} {below : List Frame} {meth : Method} {c : Code} {T : State} {locs : List Loc} {cells slots : Nat}
theorem mn_stand (X : Stand p l e R s m args below meth c T locs cells slots) (cA cI : ClassId) : ∀ i, Stand p l e R s m args below meth c (mnS cA cI T i) (locs ++ (List.range i).map (fun j => (⟨T.heap.size, j⟩ : Loc))) (cells + 1 + i) (slots + 8 + 8 * i)
  | 0 => by
    have h := X.pushed (mnO cA T.heap.size 0)
    have e1 : (mnO cA T.heap.size 0).slots.size = 8 := by unfold mnO; rw [arrV_size]
    rw [e1] at h
    simpa [mnS] using h
  | i + 1 => by
    have h0 := mn_size cA cI T i
    have h1 : ((mnS cA cI T i).pushCell (mnI cI)).heap[T.heap.size]? = some (mnO cA T.heap.size i) := by
      have h2 : T.heap.size < (mnS cA cI T i).heap.size := by omega
      rw [State.heap_pushCell_of_lt _ _ h2]
      exact mn_out cA cI T i
    have h := ((mn_stand X cA cI i).pushed (mnI cI)).stored h1 i (.ref (T.heap.size + 1 + i))
    have e1 : (mnI cI).slots.size = 8 := by unfold mnI; rw [arrV_size]
    rw [e1, mnO_set] at h
    rw [List.range_succ, List.map_append, ← List.append_assoc, show slots + 8 + 8 * (i + 1) = slots + 8 + 8 * i + 8 by omega]
    exact h
/-- the instruction -/
theorem mn_step (X : Stand p l e R s m args below meth c T locs cells slots) (hx : p.tables.exec = Jvm.exec) {own : String} {index : Nat} (hown : s.vm.findClass own = some m.cls) (hcl : (Cond.classLink own index "[[I").before args s = true) (hao : aoI s) (har : (Cond.arrayClass .int).before args s = true)
    {g : JFrame} (hg : g.method = m) (hd : decode c.code g.pc = .ok (.multianewarray index 2, 4)) {n : Int32} {rest : List Value} (hst : g.stack = .int n :: .int n :: rest) (hn : ¬ n < 0) (hn8 : n.toNatClampNeg = 8) (hc : cells + 9 ≤ R.cells) (hs : slots + 72 ≤ R.slots) :
    ∃ (vm₁ : Vm) (cA cI : ClassId), s.vm.findClass "[[I" = some cA ∧ s.vm.findClass "[I" = some cI ∧ Stand p l e R s m args below meth c (mnS cA cI (T.setVm vm₁) 8) locs (cells + 9) (slots + 72) ∧
      ∀ t, Steps p.tables e below ((mnS cA cI (T.setVm vm₁) 8).setTop { g with pc := g.pc + 4, stack := .ref T.heap.size :: rest }) t → Steps p.tables e below (T.setTop g) t := by
  subst hg
  have hpl : e.platform.magicAccessors = ({} : Platform).magicAccessors := by rw [X.admits.platform]
  obtain ⟨cI, cA, kA, fI, -, kAe, kAd, fA⟩ := aoI_spec hao
  obtain ⟨cI', kI, cc, fI', kIe, kId⟩ := Cond.arrayClass_spec har
  have eI : cI' = cI := Option.some.inj (fI'.symm.trans fI)
  subst eI
  obtain ⟨cA', fA', hlk⟩ := Cond.classLink_spec hown hcl e.platform hpl
  have eA : cA' = cA := Option.some.inj (fA'.symm.trans fA)
  subst eA
  obtain ⟨hg1, hw1, hr1⟩ := State.classEntry (e := e) X.warmed hlk
  generalize T.vm.noted g.method.cls index (.cls cA') = vm₁ at hg1 hw1 hr1
  obtain ⟨kA1, kA1e, qA⟩ := hw1.alike.2.2 _ _ kAe
  obtain ⟨kI1, kI1e, qI⟩ := hw1.alike.2.2 _ _ kIe
  have X1 := X.noted hw1
  obtain ⟨r1, r2⟩ := X.roomAbove hc hs
  have X8 := mn_stand X1 cA' cI' 8
  refine ⟨vm₁, cA', cI', fA', fI', X8.dropFresh (fun x hx => ?_), fun t hrest => ?_⟩
  · obtain ⟨j, -, rfl⟩ := List.mem_map.mp hx
    exact X.heapGrown
  have l1 : ¬ 8 > e.platform.arrayLengthLimit := by rw [Launch.admits_arrayLengthLimit X.admits]; omega
  have l2 : ¬ 8 * 4 > e.platform.maxHeapBytes := by rw [Launch.admits_maxHeapBytes X.admits]; omega
  jvm_step X.here [hx, hd]
  simp only [multianewarray.sem, wp_bind', W.resolveClassAt_links (State.method?_setTop g X.here.top) hg1]
  rw [W.popN, if_neg (by decide)]
  refine ⟨g, State.topJava?_setTop' (s := T.setVm vm₁) g X.here.top, [.int n, .int n], rest, rfl, hst, ?_⟩
  simp only [List.mapM_cons, List.mapM_nil, wp_bind', wp_pure']
  refine mn_make (kA := kA1) (kI := kI1) (cc := cc) hn hn8 kA1e (by rw [qA]; exact kAd) kI1e (by rw [qI]; exact kId) l1 l2 r1 r2 (fun d' acts' => ?_)
  have e8 : ((T.setTop g).setVm vm₁).setTop { g with stack := rest } = (T.setVm vm₁).setTop { g with stack := rest } := by
    show ((T.setVm vm₁).setTop g).setTop _ = _
    rw [State.setTop_setTop]
  rw [e8, mn_top]
  simp only [wp_bind', W.mark, W.pushRef, State.topJava?_setTop' _ X8.here.top, Option.some.injEq, exists_eq_left', State.setTop_setTop, State.heap_setTop]
  intro acts
  simp [jvm, X8.here.top]
  exact hrest
end MNR
