/-! THE JUDGEMENT J: from label pc of method y, with locals ls, stack st and heap h, the method returns with Q; at most kc cells of ks slots come. jRet: a call of method z -/
def Cx (y : Nat) (p : Program) (R : Room) (s : State) (m : MethodId) (args : Array Value) (meth : Method) (c : Code) (base : Nat) (D : va_G) (tc : Nat → ClassId) : Prop :=
  p.tables.exec = Jvm.exec ∧ c.code = mC y ∧ meth.sig.returnType = mR y ∧ c.maxLocals = mL y ∧ s.vm.findClass (cN (mO y)) = some m.cls ∧ meth.locks = false ∧ (∀ w ∈ gw, w.before args s = true) ∧ meth.name = (mN y).name ∧ va_K D cls (tyl tc) s ∧ base ≤ s.heap.size ∧ mF y ≤ R.frames ∧ mS y ≤ R.locals ∧ spw s
def Wo (base b L : Nat) (xs : Nat → Int32) (D : va_G) (tc : Nat → ClassId) (h : jHp) (s : State) (H : Heap) (locs : List Loc) : Prop :=
  va_P D cls (wl base b tc h) H ∧ H.size = base + jn h ∧ va_S (fun q => base ≤ q) s.heap H locs ∧ va_X b L xs s H ∧ b < base ∧ Hk L xs h
def rtO (y pc : Nat) (v : Option Value) : Prop := match v with
  | none => mR y = none ∧ decode (mC y) pc = .ok (.return_, 1)
  | some (.int x) => (mR y = some .int ∨ mR y = some .boolean ∧ isB x) ∧ decode (mC y) pc = .ok (.ireturn, 1)
  | some (.long _) => mR y = some .long ∧ decode (mC y) pc = .ok (.lreturn, 1)
  | some (.ref _) => mR y = some (.object (cN 0)) ∧ decode (mC y) pc = .ok (.areturn, 1)
  | _ => False
def J (y pc kc ks : Nat) (ls st : List Value) (h : jHp) (Q : jQ) : Prop :=
  ∀ (p : Program) (l : Launch) (e : Env) (R : Room) (s : State) (m : MethodId) (args : Array Value) (below : List Frame) (meth : Method) (c : Code) (Z : State → Prop) (base b L : Nat) (xs : Nat → Int32) (D : va_G) (tc : Nat → ClassId),
    Cx y p R s m args meth c base D tc → ∀ (H : Heap) (locs : List Loc) (cells slots : Nat) (la : Array Slot), Wo base b L xs D tc h s H locs → Lr base b la (mL y) ls → cells + kc ≤ R.cells → slots + ks ≤ R.slots →
    (∀ (v : Option Value) (h' : jHp) (H' : Heap) (locs' : List Loc) (cells' slots' pc' : Nat) (la' : Array Slot), Q v h' → Wo base b L xs D tc h' s H' locs' → cells' ≤ R.cells → slots' ≤ R.slots → rtO y pc' v → W p l e R s m args below meth c H' locs' cells' slots' Z (F0 m pc' la' ((v.map (cv base b)).toList))) →
    W p l e R s m args below meth c H locs cells slots Z (F0 m pc la (st.map (cv base b)))
def jWs (z : Nat) : List Cond := Cond.code (mN z) (mC z) (mL z) (mR z) :: gw
def jRm (z k s : Nat) : Room := { frames := mF z, cells := k, slots := s, locals := mS z }
def jWd (base b L : Nat) (xs : Nat → Int32) (D : va_G) (tc : Nat → ClassId) (h : jHp) (U : State) : Prop :=
  va_K D cls (tyl tc) U ∧ va_P D cls (wl base b tc h) U.heap ∧ U.heap.size = base + jn h ∧ va_X b L xs U U.heap ∧ b < base ∧ Hk L xs h ∧ spw U
def jRet (z k s : Nat) (as : List Value) (h : jHp) (Q : jQ) : Prop := ∀ (l : Launch) (base b L : Nat) (xs : Nat → Int32) (D : va_G) (tc : Nat → ClassId),
  Met l (mN z) (jWs z) (jRm z k s) (va_Pc (as.map (cv base b)) (jWd base b L xs D tc h)) (fun _ st o t => (∃ (v : Option Value) (h' : jHp), o = .returned (v.map (cv base b)) ∧ Q v h' ∧ jWd base b L xs D tc h' t) ∧ va_F (fun q => base ≤ q) st t) k s (fun q => base ≤ q)
section JROWS
variable {y pc kc ks : Nat} {ls st : List Value} {h : jHp} {Q : jQ}
/-- an instruction that changes the stack alone -/
theorem J_pu {pc' : Nat} {st' : List Value} (row : ∀ {p : Program} {l : Launch} {e : Env} {R : Room} {s : State} {m : MethodId} {args : Array Value} {below : List Frame} {meth : Method} {c : Code} {Z : State → Prop} {H : Heap} {locs : List Loc} {cells slots : Nat} {la : Array Slot} (base b : Nat), p.tables.exec = Jvm.exec → c.code = mC y → W p l e R s m args below meth c H locs cells slots Z (F0 m pc' la (st'.map (cv base b))) → W p l e R s m args below meth c H locs cells slots Z (F0 m pc la (st.map (cv base b))))
    (k : J y pc' kc ks ls st' h Q) : J y pc kc ks ls st h Q := by
  intro p l e R s m args below meth c Z base b L xs D tc hc H locs cells slots la hw hl h1 h2 hf
  exact row base b hc.1 hc.2.1 (k p l e R s m args below meth c Z base b L xs D tc hc H locs cells slots la hw hl h1 h2 hf)
/-- a load -/
theorem J_ld {pc' i : Nat} {v : Value} (hv : nth ls i = v) (ho : okv v = true) (row : ∀ {p : Program} {l : Launch} {e : Env} {R : Room} {s : State} {m : MethodId} {args : Array Value} {below : List Frame} {meth : Method} {c : Code} {Z : State → Prop} {H : Heap} {locs : List Loc} {cells slots : Nat} {la : Array Slot} (base b : Nat), p.tables.exec = Jvm.exec → c.code = mC y → la[i]? = some (.val (cv base b v)) → W p l e R s m args below meth c H locs cells slots Z (F0 m pc' la ((v :: st).map (cv base b))) → W p l e R s m args below meth c H locs cells slots Z (F0 m pc la (st.map (cv base b))))
    (k : J y pc' kc ks ls (v :: st) h Q) : J y pc kc ks ls st h Q := by
  intro p l e R s m args below meth c Z base b L xs D tc hc H locs cells slots la hw hl h1 h2 hf
  exact row base b hc.1 hc.2.1 (hl.at hv ho) (k p l e R s m args below meth c Z base b L xs D tc hc H locs cells slots la hw hl h1 h2 hf)
theorem J_ild {pc' i : Nat} {x : Int32} (hv : nth ls i = .int x) (hd : (decode (mC y) pc = .ok (.iload i, 2) ∧ pc' = pc + 2) ∨ ∃ k : Fin 4, k.val = i ∧ decode (mC y) pc = .ok (.iload_n k, 1) ∧ pc' = pc + 1) (k : J y pc' kc ks ls (.int x :: st) h Q) : J y pc kc ks ls st h Q := by
  refine J_ld hv rfl (fun base b hx hb hl kk => ?_) k
  rcases hd with ⟨hd, rfl⟩ | ⟨j, e, hd, rfl⟩
  · exact lv_iload hx hb hd hl kk
  · exact lv_iload_n hx hb hd e hl kk
theorem J_lld {pc' i : Nat} {x : Int64} (hv : nth ls i = .long x) (hd : (decode (mC y) pc = .ok (.lload i, 2) ∧ pc' = pc + 2) ∨ ∃ k : Fin 4, k.val = i ∧ decode (mC y) pc = .ok (.lload_n k, 1) ∧ pc' = pc + 1) (k : J y pc' kc ks ls (.long x :: st) h Q) : J y pc kc ks ls st h Q := by
  refine J_ld hv rfl (fun base b hx hb hl kk => ?_) k
  rcases hd with ⟨hd, rfl⟩ | ⟨j, e, hd, rfl⟩
  · exact lv_lload hx hb hd hl kk
  · exact lv_lload_n hx hb hd e hl kk
theorem J_ald {pc' i : Nat} {x : Nat} (hv : nth ls i = .ref x) (hd : (decode (mC y) pc = .ok (.aload i, 2) ∧ pc' = pc + 2) ∨ ∃ k : Fin 4, k.val = i ∧ decode (mC y) pc = .ok (.aload_n k, 1) ∧ pc' = pc + 1) (k : J y pc' kc ks ls (.ref x :: st) h Q) : J y pc kc ks ls st h Q := by
  refine J_ld hv rfl (fun base b hx hb hl kk => ?_) k
  by_cases h0 : x = 0
  · subst h0
    rcases hd with ⟨hd, rfl⟩ | ⟨j, e, hd, rfl⟩
    · exact lv_aloadN hx hb hd hl kk
    · exact lv_aload_nN hx hb hd e hl kk
  · rw [cv_ref h0] at hl
    rw [List.map_cons, cv_ref h0] at kk
    rcases hd with ⟨hd, rfl⟩ | ⟨j, e, hd, rfl⟩
    · exact lv_aload hx hb hd hl kk
    · exact lv_aload_n hx hb hd e hl kk
/-- stores -/
theorem J_ist {pc' i : Nat} {x : Int32} (hi : i < mL y) (hd : (decode (mC y) pc = .ok (.istore i, 2) ∧ pc' = pc + 2) ∨ ∃ k : Fin 4, k.val = i ∧ decode (mC y) pc = .ok (.istore_n k, 1) ∧ pc' = pc + 1) (k : J y pc' kc ks (s1 ls i (.int x)) st h Q) : J y pc kc ks ls (.int x :: st) h Q := by
  intro p l e R s m args below meth c Z base b L xs D tc hc H locs cells slots la hw hl h1 h2 hf
  have kk := fun (la' : Array Slot) (hl' : lv_has la' (mL y) _) => k p l e R s m args below meth c Z base b L xs D tc hc H locs cells slots la' hw (hl.s1 (v := .int x) hi hl') h1 h2 hf
  rcases hd with ⟨hd, rfl⟩ | ⟨j, e, hd, rfl⟩
  · exact lv_istore hc.1 hc.2.1 hd hl.has hi rfl kk
  · exact lv_istore_n hc.1 hc.2.1 hd e hl.has hi rfl kk
theorem J_lst {pc' i : Nat} {x : Int64} (hi : i + 1 < mL y) (hd : (decode (mC y) pc = .ok (.lstore i, 2) ∧ pc' = pc + 2) ∨ ∃ k : Fin 4, k.val = i ∧ decode (mC y) pc = .ok (.lstore_n k, 1) ∧ pc' = pc + 1) (k : J y pc' kc ks (s2 ls i (.long x)) st h Q) : J y pc kc ks ls (.long x :: st) h Q := by
  intro p l e R s m args below meth c Z base b L xs D tc hc H locs cells slots la hw hl h1 h2 hf
  have kk := fun (la' : Array Slot) (hl' : lv_has la' (mL y) _) => k p l e R s m args below meth c Z base b L xs D tc hc H locs cells slots la' hw (hl.s2 (v := .long x) hi hl') h1 h2 hf
  rcases hd with ⟨hd, rfl⟩ | ⟨j, e, hd, rfl⟩
  · exact lv_lstore hc.1 hc.2.1 hd hl.has hi rfl kk
  · exact lv_lstore_n hc.1 hc.2.1 hd e hl.has hi rfl kk
theorem J_ast {pc' i : Nat} {x : Nat} (hi : i < mL y) (hd : (decode (mC y) pc = .ok (.astore i, 2) ∧ pc' = pc + 2) ∨ ∃ k : Fin 4, k.val = i ∧ decode (mC y) pc = .ok (.astore_n k, 1) ∧ pc' = pc + 1) (k : J y pc' kc ks (s1 ls i (.ref x)) st h Q) : J y pc kc ks ls (.ref x :: st) h Q := by
  intro p l e R s m args below meth c Z base b L xs D tc hc H locs cells slots la hw hl h1 h2 hf
  have kk := fun (la' : Array Slot) (hl' : lv_has la' (mL y) _) => k p l e R s m args below meth c Z base b L xs D tc hc H locs cells slots la' hw (hl.s1 (v := .ref x) hi hl') h1 h2 hf
  by_cases h0 : x = 0
  · subst h0
    rcases hd with ⟨hd, rfl⟩ | ⟨j, e, hd, rfl⟩
    · exact lv_astoreN hc.1 hc.2.1 hd hl.has hi rfl kk
    · exact lv_astore_nN hc.1 hc.2.1 hd e hl.has hi rfl kk
  · rw [List.map_cons]
    rw [cv_ref h0] at kk ⊢
    rcases hd with ⟨hd, rfl⟩ | ⟨j, e, hd, rfl⟩
    · exact lv_astore hc.1 hc.2.1 hd hl.has hi rfl kk
    · exact lv_astore_n hc.1 hc.2.1 hd e hl.has hi rfl kk
theorem J_inc {i : Nat} {n : Int} {x : Int32} (hv : nth ls i = .int x) (hi : i < mL y) (hd : decode (mC y) pc = .ok (.iinc i n, 3)) (k : J y (pc + 3) kc ks (s1 ls i (.int (x + iI n))) st h Q) : J y pc kc ks ls st h Q := by
  intro p l e R s m args below meth c Z base b L xs D tc hc H locs cells slots la hw hl h1 h2 hf
  have kk := fun (la' : Array Slot) (hl' : lv_has la' (mL y) _) => k p l e R s m args below meth c Z base b L xs D tc hc H locs cells slots la' hw (hl.s1 (v := .int (x + iI n)) hi hl') h1 h2 hf
  have hm : (i, cv base b (nth ls i)) ∈ lst base b ls := mem_lst (by rw [hv]; rfl)
  rw [hv] at hm
  obtain ⟨q, hq⟩ := List.getElem?_of_mem hm
  exact lv_iinc hc.1 hc.2.1 hd hl.has hq rfl hi rfl kk
/-- jumps -/
theorem J_go {tg : Nat} {o : Int} {mk : List Nat} (hd : decode (mC y) pc = .ok (.goto o, 3)) (ht : (pc : Int) + o = (tg : Int)) (k : J y tg kc ks (cln mk ls) st h Q) : J y pc kc ks ls st h Q := by
  intro p l e R s m args below meth c Z base b L xs D tc hc H locs cells slots la hw hl h1 h2 hf
  exact lv_goto hc.1 hc.2.1 hd ht (k p l e R s m args below meth c Z base b L xs D tc hc H locs cells slots la hw (hl.cln mk) h1 h2 hf)
theorem J_cl {mk : List Nat} (k : J y pc kc ks (cln mk ls) st h Q) : J y pc kc ks ls st h Q := by
  intro p l e R s m args below meth c Z base b L xs D tc hc H locs cells slots la hw hl h1 h2 hf
  exact k p l e R s m args below meth c Z base b L xs D tc hc H locs cells slots la hw (hl.cln mk) h1 h2 hf
/-- a weaker end, more room -/
theorem J_mono {Q' : jQ} (hq : ∀ v h', Q' v h' → Q v h') (k : J y pc kc ks ls st h Q') : J y pc kc ks ls st h Q := by
  intro p l e R s m args below meth c Z base b L xs D tc hc H locs cells slots la hw hl h1 h2 hf
  exact k p l e R s m args below meth c Z base b L xs D tc hc H locs cells slots la hw hl h1 h2 (fun v h' H' locs' cells' slots' pc' la' q => hf v h' H' locs' cells' slots' pc' la' (hq v h' q))
theorem J_br (A B : Prop) {tg : Nat} {st' : List Value} {mk : List Nat} (row : ∀ {p : Program} {l : Launch} {e : Env} {R : Room} {s : State} {m : MethodId} {args : Array Value} {below : List Frame} {meth : Method} {c : Code} {Z : State → Prop} {H : Heap} {locs : List Loc} {cells slots : Nat} {la : Array Slot} (base b : Nat), p.tables.exec = Jvm.exec → c.code = mC y → (A → W p l e R s m args below meth c H locs cells slots Z (F0 m tg la (st'.map (cv base b)))) → (B → W p l e R s m args below meth c H locs cells slots Z (F0 m (pc + 3) la (st'.map (cv base b)))) → W p l e R s m args below meth c H locs cells slots Z (F0 m pc la (st.map (cv base b))))
    (k1 : A → J y tg kc ks (cln mk ls) st' h Q) (k2 : B → J y (pc + 3) kc ks ls st' h Q) : J y pc kc ks ls st h Q := by
  intro p l e R s m args below meth c Z base b L xs D tc hc H locs cells slots la hw hl h1 h2 hf
  exact row base b hc.1 hc.2.1 (fun a => k1 a p l e R s m args below meth c Z base b L xs D tc hc H locs cells slots la hw (hl.cln mk) h1 h2 hf) (fun a => k2 a p l e R s m args below meth c Z base b L xs D tc hc H locs cells slots la hw hl h1 h2 hf)
theorem J_if {cd : Jvm.ClassFile.Cond} {o : Int} {tg : Nat} {mk : List Nat} {x : Int32} (hd : decode (mC y) pc = .ok (.ifCond cd o, 3)) (ht : (pc : Int) + o = (tg : Int)) (k : jcd cd x 0 (J y tg kc ks (cln mk ls) st h Q) (J y (pc + 3) kc ks ls st h Q)) : J y pc kc ks ls (.int x :: st) h Q := by
  cases cd
  · exact J_br _ _ (fun base b hx hb kt kf => lv_if_eq hx hb hd ht kt kf) k.1 k.2
  · exact J_br _ _ (fun base b hx hb kt kf => lv_if_ne hx hb hd ht kt kf) k.1 k.2
  · exact J_br _ _ (fun base b hx hb kt kf => lv_if_lt hx hb hd ht kt kf) k.1 k.2
  · exact J_br _ _ (fun base b hx hb kt kf => lv_if_ge hx hb hd ht kt kf) k.1 k.2
  · exact J_br _ _ (fun base b hx hb kt kf => lv_if_gt hx hb hd ht kt kf) k.1 k.2
  · exact J_br _ _ (fun base b hx hb kt kf => lv_if_le hx hb hd ht kt kf) k.1 k.2
theorem J_ic {cd : Jvm.ClassFile.Cond} {o : Int} {tg : Nat} {mk : List Nat} {x z : Int32} (hd : decode (mC y) pc = .ok (.if_icmp cd o, 3)) (ht : (pc : Int) + o = (tg : Int)) (k : jcd cd x z (J y tg kc ks (cln mk ls) st h Q) (J y (pc + 3) kc ks ls st h Q)) : J y pc kc ks ls (.int z :: .int x :: st) h Q := by
  cases cd
  · exact J_br _ _ (fun base b hx hb kt kf => lv_icmp_eq hx hb hd ht kt kf) k.1 k.2
  · exact J_br _ _ (fun base b hx hb kt kf => lv_icmp_ne hx hb hd ht kt kf) k.1 k.2
  · exact J_br _ _ (fun base b hx hb kt kf => lv_icmp_lt hx hb hd ht kt kf) k.1 k.2
  · exact J_br _ _ (fun base b hx hb kt kf => lv_icmp_ge hx hb hd ht kt kf) k.1 k.2
  · exact J_br _ _ (fun base b hx hb kt kf => lv_icmp_gt hx hb hd ht kt kf) k.1 k.2
  · exact J_br _ _ (fun base b hx hb kt kf => lv_icmp_le hx hb hd ht kt kf) k.1 k.2
theorem J_sw {d lo hi : Int} {os : Array Int} {len : Nat} {a : List Nat} {x : Int32} (hd : decode (mC y) pc = .ok (.tableswitch d lo hi os, len)) (h0 : (pc : Int) + d = ((a.getD 0 0 : Nat) : Int)) (h1 : (a.drop 1).map (fun t => ((t : Nat) : Int)) = os.toList.map (fun o => (pc : Int) + o)) (h2 : hi = lo + (os.toList.length : Int) - 1)
    (k1 : (x.toInt < lo ∨ hi < x.toInt) → J y (a.getD 0 0) kc ks ls st h Q) (k2 : ∀ (j t : Nat), (a.drop 1)[j]? = some t → x.toInt = lo + j → J y t kc ks ls st h Q) : J y pc kc ks ls (.int x :: st) h Q := by
  intro p l e R s m args below meth c Z base b L xs D tc hc H locs cells slots la hw hl g1 g2 hf
  by_cases hx : x.toInt < lo ∨ hi < x.toInt
  · exact lv_tableOut hc.1 hc.2.1 hd hx h0 (k1 hx p l e R s m args below meth c Z base b L xs D tc hc H locs cells slots la hw hl g1 g2 hf)
  · have hj : (x.toInt - lo).toNat < os.toList.length := by omega
    have hlen : (a.drop 1).length = os.toList.length := by
      have := congrArg List.length h1
      simpa using this
    have ho : os[(x.toInt - lo).toNat]? = some (os.toList[(x.toInt - lo).toNat]) := by
      rw [← Array.getElem?_toList]
      exact List.getElem?_eq_getElem hj
    have ht : (a.drop 1)[(x.toInt - lo).toNat]? = some ((a.drop 1)[(x.toInt - lo).toNat]'(by omega)) := List.getElem?_eq_getElem (by omega)
    have he : (pc : Int) + os.toList[(x.toInt - lo).toNat] = (((a.drop 1)[(x.toInt - lo).toNat]'(by omega) : Nat) : Int) := by
      have h3 := congrArg (fun l => l[(x.toInt - lo).toNat]?) h1
      simp only [List.getElem?_map, ht, List.getElem?_eq_getElem hj, Option.map_some, Option.some.injEq] at h3
      exact h3.symm
    exact lv_tableIn hc.1 hc.2.1 hd (by omega) (by omega) ho he (k2 _ _ ht (by omega) p l e R s m args below meth c Z base b L xs D tc hc H locs cells slots la hw hl g1 g2 hf)
end JROWS
