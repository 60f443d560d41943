/-! THE START: what the law's entry gives (rows of the skeleton), the first world, and the law from its entry -/
def R_law : String := "LightRoomLaw"
def lw_P (b : Addr) (xs : List Int32) (args : Array Value) (s : State) : Prop := args = #[.ref b] ∧ s.IntsAt b xs ∧ xs.length ≤ 2560 ∧ (Jvm.Cond.and given_1 narrow_1).before args s = true
def lw_Q (_ : Array Value) (s : State) (o : Outcome) (t : State) : Prop := o = .returned (some (.int 1)) ∧ Framed s o t [] 600000 7302250
def lw_Z (below : List Frame) (a : Array Value) (s : State) : State → Prop := fun t => ∃ o, t.status = .running ∧ Ended t below o ∧ lw_Q a s o t
/-- the law's own end, with 1 on the stack, nothing written that was there before, its room as the claim has it -/
theorem lw_ret {p : Program} {l : Launch} {e : Env} {s : State} {m : MethodId} {below : List Frame} {meth : Method} {c : Code} {b : Nat} (hx : p.tables.exec = Jvm.exec) (hb : c.code = code) (hr : meth.sig.returnType = ret) (hlocks : meth.locks = false) {pc : Nat} {H : Heap} {ls : Array Slot} (hdg : decode code pc = .ok (.ireturn, 1)) : W p l e room_1 s m #[Value.ref b] below meth c H [] 600000 7302250 (lw_Z below #[Value.ref b] s) (F0 m pc ls [.int 1]) := by
  intro T hT X
  obtain ⟨fs, hret, hrun, hended, hW, hframe⟩ := X.leave (v := some (.int 1)) (hlocks := hlocks) (fun h => by rw [hr] at h; cases h)
  have hmeth' : T.vm.method? m = some meth := X.method'
  refine ⟨T.setFrames fs, ?_, .returned (some (.int 1)), hrun, hended, rfl, ⟨_, rfl⟩, hW, hframe⟩
  jvm_step X.here [X.here.top, hx, hb, hdg, hmeth', hr, ret, narrow_b1]
  (try refine ⟨rfl, ?_⟩); (try refine ⟨rfl, ?_⟩)
  first | (intro acts; rw [hret _ acts rfl rfl rfl]) | rw [hret _ _ rfl rfl rfl]
  exact Steps.refl _
/-- what holds at the law's entry: the machine, the code, the tables' words (any of lw_tbl by 'hts w (by decide +kernel)'), the script of L ints xs at the cell b, what the Statement gives of the start (any of its parts by flat_of_before) -/
def lw_At (p : Program) (s : State) (m : MethodId) (meth : Method) (c : Code) (b L : Nat) (xs : Nat → Int32) : Prop :=
  p.tables.exec = Jvm.exec ∧ c.code = code ∧ meth.sig.returnType = ret ∧ c.maxLocals = 4 ∧ s.vm.findClass R_law = some m.cls ∧ (∀ w ∈ lw_tbl, w.before #[Value.ref b] s = true) ∧ va_X b L xs s s.heap ∧ b < s.heap.size ∧ meth.locks = false ∧ (Jvm.Cond.and given_1 narrow_1).before #[Value.ref b] s = true ∧ meth.name = x.name
section START
variable {s : State} {b : Nat}
/-- the classes, by their words -/
theorem st_cls (hts : ∀ w ∈ gw, w.before #[Value.ref b] s = true) : ∃ D : va_G, ∀ (c : Nat) (q : vw_C), cls[c]? = some q → u_Kn s q.1 q.2.1 q.2.2 (D.1 c) (D.2 c) := by
  have key : ∀ c : Nat, ∃ y : ClassId × (Nat → Nat), c < 10 → u_Kn s (cN c) (cT c) (cF c) y.1 y.2 := by
    intro c
    by_cases hc : c < 10
    · have h9 : ∀ k, k < 10 → [k] ∈ tX := by decide +kernel
      obtain ⟨cC, iS, hK⟩ := u_known (C := cN c) (T := cT c) (N := cF c) (n := cF c) hts (in_gw hc) (hts _ (wX_ok _ (h9 c hc)))
      exact ⟨(cC, iS), fun _ => hK⟩
    · exact ⟨(0, fun _ => 0), fun q => absurd q hc⟩
  obtain ⟨f, hf⟩ := Classical.axiomOfChoice key
  refine ⟨(fun c => (f c).1, fun c => (f c).2), fun c q hq => ?_⟩
  have hc : c < 10 := by
    have := (List.getElem?_eq_some_iff.mp hq).1
    exact this
  have e : q = (cN c, cT c, cF c) := Option.some.inj (hq.symm.trans (cls_at c hc))
  rw [e]
  exact hf c hc
theorem st_prim {ty : FieldType} (h : (Cond.arrayClass ty).before #[Value.ref b] s = true) (hr : ∀ cA, s.vm.findClass ("[" ++ ty.toString) = some cA → va_RA s cA ty) : ∃ cA : ClassId, ArrOfT s cA ty ∧ va_RA s cA ty := by
  obtain ⟨cA, k, co, f, hk, hd⟩ := Cond.arrayClass_spec h
  exact ⟨cA, fun n z => ⟨(fun k h => by cases h), k, hk, co, hd⟩, hr cA f⟩
theorem st_obj {C : String} (h : va_AO C s) : ∃ cA : ClassId, ArrOfT s cA (.object C) ∧ va_RA s cA (.object C) := by
  obtain ⟨comp, cA, k, f1, -, f2, f3, f4⟩ := Cond.arrayOver_spec h
  exact ⟨cA, fun n z => ⟨(fun k h => by cases h), k, f2, comp, f3⟩, k, comp, f2, f3, f1, f4⟩
theorem st_arr (h : aoI s) : ∃ cA : ClassId, ArrOfT s cA (.array .int) ∧ va_RA s cA (.array .int) := by
  obtain ⟨cI, cA, k, f1, -, f2, f3, f4⟩ := aoI_spec h
  exact ⟨cA, fun n z => ⟨(fun k h => by cases h), k, f2, cI, f3⟩, f4⟩
theorem st_tys (hi : (Cond.arrayClass .int).before #[Value.ref b] s = true) (hb : (Cond.arrayClass .byte).before #[Value.ref b] s = true) (hsp : spw s) : ∃ tc : Nat → ClassId, ∀ (k : Nat) (q : ClassId × FieldType), (tyl tc)[k]? = some q → ArrOfT s q.1 q.2 ∧ va_RA s q.1 q.2 := by
  obtain ⟨a0, h0⟩ := st_prim hi (fun _ h => h)
  obtain ⟨a1, h1⟩ := st_prim hb (fun _ h => h)
  obtain ⟨a2, h2⟩ := st_arr hsp.2.2.1
  obtain ⟨a3, h3⟩ := st_obj hsp.2.1
  obtain ⟨a4, h4⟩ := st_obj hsp.1
  refine ⟨fun k => if k = 10 then a0 else if k = 11 then a1 else if k = 12 then a2 else if k = 13 then a3 else a4, fun k q hq => ?_⟩
  match k, hq with
  | 0, hq => cases hq; exact h0
  | 1, hq => cases hq; exact h1
  | 2, hq => cases hq; exact h2
  | 3, hq => cases hq; exact h3
  | 4, hq => cases hq; exact h4
  | k + 5, hq => cases hq
theorem tb_p : Cond.arrayOver (.object (cN 5)) ∈ lw_tbl := List.mem_of_getElem? (i := 129) (by decide +kernel)
theorem tb_b : Cond.arrayOver (.object (cN 0)) ∈ lw_tbl := List.mem_of_getElem? (i := 245) (by decide +kernel)
theorem tb_i : Cond.arrayOver (.array .int) ∈ lw_tbl := List.mem_of_getElem? (i := 225) (by decide +kernel)
theorem tb_z : ∀ x ∈ tZ, Cond.methodLinkNest (cN (x.getD 0 0)) (x.getD 1 0) (mN (x.getD 2 0)) "LightRoom" ∈ lw_tbl := by
  intro x hx
  have h0 : x = [7, 27, 60, 1, 3] ∨ x = [8, 18, 63, 1, 3] ∨ x = [8, 46, 54, 1, 3] := by
    simpa [tZ] using hx
  rcases h0 with rfl | rfl | rfl
  · exact List.mem_of_getElem? (i := 131) (by decide +kernel)
  · exact List.mem_of_getElem? (i := 220) (by decide +kernel)
  · exact List.mem_of_getElem? (i := 389) (by decide +kernel)
theorem st_spw (hts : ∀ w ∈ lw_tbl, w.before #[Value.ref b] s = true) : spw s := ⟨hts _ tb_p, hts _ tb_b, hts _ tb_i, fun x hx => va_Nw.of rfl (hts _ (tb_z x hx))⟩
end START
/-- the heap before anything is made: the script alone -/
def sH (L : Nat) (xs : Nat → Int32) : jHp := ((0, fun q => if q = 1 then (20, L) else (99, 0)), (fun _ j => xs j), (fun _ _ => 0), (fun _ _ => 0))
theorem sH_Hk (L : Nat) (xs : Nat → Int32) : Hk L xs (sH L xs) := by
  refine ⟨rfl, fun _ _ => rfl, fun p hp => ?_, fun p hp => ?_⟩
  · by_cases e : p = 1
    · exact e
    · have e2 : jz (sH L xs) p = (99, 0) := if_neg e
      rw [e2] at hp
      exact absurd hp (by decide)
  · by_cases e : p = 1
    · have e2 : jz (sH L xs) p = (20, L) := if_pos e
      rw [e2] at hp
      exact absurd (show 20 < 15 from hp) (by decide)
    · have e2 : jz (sH L xs) p = (99, 0) := if_neg e
      rw [e2] at hp
      exact absurd hp (by decide)
/-- THE LAW from its entry, for every script of at most 2560 ints -/
theorem whole_start {p : Program} {e : Env} {s : State} {m : MethodId} {below : List Frame} {meth : Method} {c : Code} (l : Launch) {b L : Nat} {xs : Nat → Int32} (hL : L ≤ 2560) (C0 : lw_At p s m meth c b L xs) : W p l e room_1 s m #[Value.ref b] below meth c s.heap [] 0 0 (lw_Z below #[Value.ref b] s) (entryFrame m ([Value.ref b] : List Value).toArray 4) := by
  obtain ⟨hx, hb, hr, hml, hown, hts, hX, hbl, hlocks, hgv, hnm⟩ := id C0
  have hg : ∀ w ∈ gw, w.before #[Value.ref b] s = true := fun w hw => hts w (List.mem_filter.mp hw).1
  have hsp := st_spw hts
  obtain ⟨D, hD⟩ := st_cls hg
  obtain ⟨tc, htc⟩ := st_tys (hg _ gw_ai) (hg _ gw_ab) hsp
  have hcx : Cx 200 p room_1 s m #[Value.ref b] meth c s.heap.size D tc := ⟨hx, hb, hr, hml, hown, hlocks, hg, hnm, ⟨hD, htc⟩, Nat.le_refl _, Nat.le_of_ble_eq_true rfl, Nat.le_of_ble_eq_true rfl, hsp⟩
  have hl := lv_entry ([.ref b]) (n := 4) (Nat.le_of_ble_eq_true rfl)
  rw [lg_entry_eq]
  generalize (lg_sl ([.ref b]) ++ List.replicate (4 - (lg_sl ([.ref b])).length) Slot.unset).toArray = la at hl ⊢
  have hl : lv_has la 4 [(0, .ref b)] := hl
  have hLr : Lr s.heap.size b la (mL 200) [.ref 1, uu, uu, uu] := by
    refine ⟨rfl, hl.1, hl.2.1, fun i hi => ?_⟩
    match i, hi with
    | 0, _ => exact hl.2.2 (0, .ref b) List.mem_cons_self
    | 1, hi => exact absurd hi (by decide)
    | 2, hi => exact absurd hi (by decide)
    | 3, hi => exact absurd hi (by decide)
    | i + 4, hi => exact absurd (show okv uu = true from hi) (by decide)
  have hw : Wo s.heap.size b L xs D tc (sH L xs) s s.heap [] := ⟨(fun k q h => by cases h), rfl, va_S.rf, hX, hbl, sH_Hk L xs⟩
  refine law_start mna_ok hL rfl rfl p l e room_1 s m #[Value.ref b] below meth c _ s.heap.size b L xs D tc hcx s.heap [] 0 0 la hw hLr (Nat.le_of_ble_eq_true rfl) (Nat.le_of_ble_eq_true rfl) ?_
  intro v h' H' locs' cells' slots' pc' la' hq hw' c1 c2 hrt
  have hq : v = some (.int (iI 1)) := hq
  subst hq
  refine va_forget (fun q hq => hw'.2.2.1.2.2 q hq) (W.widen (k := 600000) (n := 7302250) c1 c2 ?_)
  exact lw_ret hx hb hr hlocks hrt.2
