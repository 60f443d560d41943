/-! THE ABSTRACT MACHINE. A heap is a table of places: 0 is null, 1 the script, 2 and on what is made; a place has a shape (code, length) and whole numbers, longs, places as its contents -/
abbrev iI (n : Int) : Int32 := Int32.ofInt n
abbrev lI (n : Int) : Int64 := Int64.ofInt n
abbrev jHp : Type := (Nat × (Nat → Nat × Nat)) × (Nat → Nat → Int32) × (Nat → Nat → Int64) × (Nat → Nat → Nat)
def jn (h : jHp) : Nat := h.1.1
def jz (h : jHp) (p : Nat) : Nat × Nat := h.1.2 p
def gI (h : jHp) (p k : Nat) : Int32 := h.2.1 p k
def gL (h : jHp) (p k : Nat) : Int64 := h.2.2.1 p k
def gR (h : jHp) (p k : Nat) : Nat := h.2.2.2 p k
def sI (h : jHp) (p k : Nat) (v : Int32) : jHp := (h.1, (fun q j => if q = p ∧ j = k then v else h.2.1 q j), h.2.2)
def sL (h : jHp) (p k : Nat) (v : Int64) : jHp := (h.1, h.2.1, (fun q j => if q = p ∧ j = k then v else h.2.2.1 q j), h.2.2.2)
def sR (h : jHp) (p k : Nat) (v : Nat) : jHp := (h.1, h.2.1, h.2.2.1, (fun q j => if q = p ∧ j = k then v else h.2.2.2 q j))
/-- a new place of shape (c, n), all 0 -/
def jA (h : jHp) (c n : Nat) : jHp := ((h.1.1 + 1, fun q => if q = h.1.1 + 2 then (c, n) else h.1.2 q), (fun q j => if q = h.1.1 + 2 then 0 else h.2.1 q j), (fun q j => if q = h.1.1 + 2 then 0 else h.2.2.1 q j), (fun q j => if q = h.1.1 + 2 then 0 else h.2.2.2 q j))
/-- new int[n][k] -/
def jM (h : jHp) (n k : Nat) : jHp := ((h.1.1 + 1 + n, fun q => if q = h.1.1 + 2 then (12, n) else if h.1.1 + 2 < q ∧ q < h.1.1 + 3 + n then (10, k) else h.1.2 q), (fun q j => if h.1.1 + 2 ≤ q ∧ q < h.1.1 + 3 + n then 0 else h.2.1 q j), (fun q j => if h.1.1 + 2 ≤ q ∧ q < h.1.1 + 3 + n then 0 else h.2.2.1 q j), (fun q j => if q = h.1.1 + 2 then (if j < n then h.1.1 + 3 + j else 0) else if h.1.1 + 2 < q ∧ q < h.1.1 + 3 + n then 0 else h.2.2.2 q j))
/-- n ints from (a, sp) to (b, dp) -/
def jY (h : jHp) (a sp b dp n : Nat) : jHp := (h.1, (fun q j => if q = b then va_cpy (h.2.1 a) (h.2.1 b) sp dp n j else h.2.1 q j), h.2.2)
def uu : Value := .float 0
def kl : Value → Value
  | .long _ => uu
  | v => v
def nth : List Value → Nat → Value
  | [], _ => uu
  | a :: _, 0 => a
  | _ :: r, n + 1 => nth r n
/-- a value of one slot into a local -/
def s1 : List Value → Nat → Value → List Value
  | [], _, _ => []
  | _ :: r, 0, v => v :: r
  | a :: r, n + 1, v => (match n with
    | 0 => kl a
    | _ + 1 => a) :: s1 r n v
def s2 : List Value → Nat → Value → List Value
  | [], _, _ => []
  | _ :: r, 0, v => v :: (match r with
    | [] => []
    | _ :: r' => uu :: r')
  | a :: r, n + 1, v => (match n with
    | 0 => kl a
    | _ + 1 => a) :: s2 r n v
/-- the locals that live on: 1 keeps, anything else drops -/
def cln : List Nat → List Value → List Value
  | [], l => l
  | _ :: _, [] => []
  | 1 :: m, a :: r => a :: cln m r
  | _ :: m, _ :: r => uu :: cln m r
def cats : List Value → Nat
  | [] => 0
  | v :: r => v.category + cats r
/-- the locals at a method's start -/
def ent : List Value → Nat → List Value
  | _, 0 => []
  | [], n + 1 => uu :: ent [] n
  | v :: r, n + 1 => v :: (match v.category with
    | 2 => (match n with
      | 0 => []
      | n' + 1 => uu :: ent r n')
    | _ => ent r n)
def isB (v : Int32) : Prop := v = 0 ∨ v = 1
abbrev jE : Type := Nat × Instr × List Nat
abbrev jK : Type := Nat → Nat → List Value → List Value → jHp → Prop
abbrev jQ : Type := Option Value → jHp → Prop
abbrev jT : Type := Nat → Nat → Nat → List Value → jHp → jQ → Prop
def o_i (f : Int32 → Prop) : Value → Prop
  | .int x => f x
  | _ => False
def o_l (f : Int64 → Prop) : Value → Prop
  | .long x => f x
  | _ => False
def o_r (f : Nat → Prop) : Value → Prop
  | .ref x => f x
  | _ => False
def p_i (f : Int32 → List Value → Prop) : List Value → Prop
  | .int x :: r => f x r
  | _ => False
def p_l (f : Int64 → List Value → Prop) : List Value → Prop
  | .long x :: r => f x r
  | _ => False
def p_r (f : Nat → List Value → Prop) : List Value → Prop
  | .ref x :: r => f x r
  | _ => False
def p_n (f : Prop) : List Value → Prop
  | [] => f
  | _ => False
def jcd (c : Jvm.ClassFile.Cond) (x y : Int32) (A B : Prop) : Prop := match c with
  | .eq => (x = y → A) ∧ (¬ x = y → B)
  | .ne => (¬ x = y → A) ∧ (x = y → B)
  | .lt => (x < y → A) ∧ (¬ x < y → B)
  | .ge => (y ≤ x → A) ∧ (¬ y ≤ x → B)
  | .gt => (y < x → A) ∧ (¬ y < x → B)
  | .le => (x ≤ y → A) ∧ (¬ x ≤ y → B)
/-- within an array of code c -/
def ix (h : jHp) (p c : Nat) (i : Int32) : Prop := (jz h p).1 = c ∧ vp_in i (jz h p).2
def ixL (h : jHp) (p : Nat) (i : Int32) : Prop := ((jz h p).1 = 10 ∨ (jz h p).1 = 20) ∧ vp_in i (jz h p).2
def ixR (h : jHp) (p : Nat) (i : Int32) : Prop := ((jz h p).1 = 12 ∨ (jz h p).1 = 13 ∨ (jz h p).1 = 14) ∧ vp_in i (jz h p).2
def isO (h : jHp) (p c : Nat) : Prop := (jz h p).1 = c
def jFld (h : jHp) (p k : Nat) (t : Nat) : Value := match t with
  | 0 => .int (gI h p k)
  | 1 => .long (gL h p k)
  | 2 => .ref (gR h p k)
  | _ => .int (gI h p k)
def jPut (t : Nat) (h : jHp) (p k : Nat) (v : Value) (K : jHp → Prop) : Prop := match t with
  | 0 => o_i (fun x => K (sI h p k x)) v
  | 1 => o_l (fun x => K (sL h p k x)) v
  | 2 => o_r (fun x => K (sR h p k x)) v
  | _ => o_i (fun x => isB x ∧ K (sI h p k x)) v
def jNew (c : Nat) (k : jK) (kc ks : Nat) (ls : List Value) (h : jHp) (n : Int32) (r : List Value) : Prop := ¬ n < 0 ∧ n.toNatClampNeg ≤ 1000000 ∧ 1 ≤ kc ∧ n.toNatClampNeg ≤ ks ∧ k (kc - 1) (ks - n.toNatClampNeg) ls (.ref (jn h + 2) :: r) (jA h c n.toNatClampNeg)
/-- what comes behind a call, by the kind of its answer: 0 none, 1 int, 2 long, 3 a place -/
def jAns (rk : Nat) (K : List Value → jHp → Prop) (r : List Value) : jQ := match rk with
  | 0 => fun v h => v = none ∧ K r h
  | 1 => fun v h => ∃ x, v = some (.int x) ∧ K (.int x :: r) h
  | 2 => fun v h => ∃ x, v = some (.long x) ∧ K (.long x :: r) h
  | _ => fun v h => ∃ x, v = some (.ref x) ∧ K (.ref x :: r) h
def jHd (f : Nat → Prop) : List Value → Prop
  | .ref p :: _ => f p
  | _ => False
def jCal (C : jT) (vt : Nat) (z n rk k1 s1 : Nat) (k : jK) (kc ks : Nat) (ls st : List Value) (h : jHp) : Prop :=
  bif Nat.ble k1 kc && (Nat.ble s1 ks && (Nat.ble (cats (st.drop n)) 8 && Nat.beq (st.take n).length n)) then
    (match vt with
    | 0 => C z k1 s1 (st.take n).reverse h (jAns rk (fun st' h' => k (kc - k1) (ks - s1) ls st' h') (st.drop n))
    | 1 => jHd (fun p => isO h p (mO z) ∧ C z k1 s1 (st.take n).reverse h (jAns rk (fun st' h' => k (kc - k1) (ks - s1) ls st' h') (st.drop n))) (st.take n).reverse
    | _ => jHd (fun p => p ≠ 0 ∧ C z k1 s1 (st.take n).reverse h (jAns rk (fun st' h' => k (kc - k1) (ks - s1) ls st' h') (st.drop n))) (st.take n).reverse)
  else False
/-- one instruction -/
def jS (JJ : Nat → jK) (C : jT) (Q : jQ) (e : jE) (k : jK) : jK := fun kc ks ls st h => match e.2.1 with
  | .iconst n => k kc ks ls (.int (iI n) :: st) h
  | .bipush n => k kc ks ls (.int (iI n) :: st) h
  | .sipush n => k kc ks ls (.int (iI n) :: st) h
  | .lconst n => k kc ks ls (.long (lI (n.val : Int)) :: st) h
  | .ldc _ => k kc ks ls (.int (iI (jc (e.2.2.getD 0 0) (e.2.2.getD 1 0))) :: st) h
  | .ldc_w _ => k kc ks ls (.int (iI (jc (e.2.2.getD 0 0) (e.2.2.getD 1 0))) :: st) h
  | .ldc2_w _ => k kc ks ls (.long (lI (jc (e.2.2.getD 0 0) (e.2.2.getD 1 0))) :: st) h
  | .iload i => o_i (fun x => k kc ks ls (.int x :: st) h) (nth ls i)
  | .iload_n i => o_i (fun x => k kc ks ls (.int x :: st) h) (nth ls i.val)
  | .lload i => o_l (fun x => k kc ks ls (.long x :: st) h) (nth ls i)
  | .lload_n i => o_l (fun x => k kc ks ls (.long x :: st) h) (nth ls i.val)
  | .aload i => o_r (fun x => k kc ks ls (.ref x :: st) h) (nth ls i)
  | .aload_n i => o_r (fun x => k kc ks ls (.ref x :: st) h) (nth ls i.val)
  | .istore i => p_i (fun x r => k kc ks (s1 ls i (.int x)) r h) st
  | .istore_n i => p_i (fun x r => k kc ks (s1 ls i.val (.int x)) r h) st
  | .lstore i => p_l (fun x r => k kc ks (s2 ls i (.long x)) r h) st
  | .lstore_n i => p_l (fun x r => k kc ks (s2 ls i.val (.long x)) r h) st
  | .astore i => p_r (fun x r => k kc ks (s1 ls i (.ref x)) r h) st
  | .astore_n i => p_r (fun x r => k kc ks (s1 ls i.val (.ref x)) r h) st
  | .iinc i n => o_i (fun x => k kc ks (s1 ls i (.int (x + iI n))) st h) (nth ls i)
  | .iadd => p_i (fun y => p_i (fun x r => k kc ks ls (.int (x + y) :: r) h)) st
  | .isub => p_i (fun y => p_i (fun x r => k kc ks ls (.int (x - y) :: r) h)) st
  | .imul => p_i (fun y => p_i (fun x r => k kc ks ls (.int (x * y) :: r) h)) st
  | .idiv => p_i (fun y => p_i (fun x r => ¬ y = 0 ∧ k kc ks ls (.int (x / y) :: r) h)) st
  | .irem => p_i (fun y => p_i (fun x r => ¬ y = 0 ∧ k kc ks ls (.int (x - x / y * y) :: r) h)) st
  | .iand => p_i (fun y => p_i (fun x r => k kc ks ls (.int (x &&& y) :: r) h)) st
  | .ior => p_i (fun y => p_i (fun x r => k kc ks ls (.int (x ||| y) :: r) h)) st
  | .ishl => p_i (fun y => p_i (fun x r => k kc ks ls (.int (x <<< (y &&& 31)) :: r) h)) st
  | .ishr => p_i (fun y => p_i (fun x r => k kc ks ls (.int (x >>> (y &&& 31)) :: r) h)) st
  | .iushr => p_i (fun y => p_i (fun x r => k kc ks ls (.int (x.toUInt32 >>> (y.toUInt32 &&& Int32.toUInt32 31)).toInt32 :: r) h)) st
  | .ineg => p_i (fun x r => k kc ks ls (.int (-x) :: r) h) st
  | .ladd => p_l (fun y => p_l (fun x r => k kc ks ls (.long (x + y) :: r) h)) st
  | .lsub => p_l (fun y => p_l (fun x r => k kc ks ls (.long (x - y) :: r) h)) st
  | .lmul => p_l (fun y => p_l (fun x r => k kc ks ls (.long (x * y) :: r) h)) st
  | .ldiv => p_l (fun y => p_l (fun x r => ¬ y = 0 ∧ k kc ks ls (.long (x / y) :: r) h)) st
  | .lrem => p_l (fun y => p_l (fun x r => ¬ y = 0 ∧ k kc ks ls (.long (x - x / y * y) :: r) h)) st
  | .land => p_l (fun y => p_l (fun x r => k kc ks ls (.long (x &&& y) :: r) h)) st
  | .lor => p_l (fun y => p_l (fun x r => k kc ks ls (.long (x ||| y) :: r) h)) st
  | .lneg => p_l (fun x r => k kc ks ls (.long (-x) :: r) h) st
  | .lshl => p_i (fun y => p_l (fun x r => k kc ks ls (.long (x <<< (y.toInt64 &&& 63)) :: r) h)) st
  | .lshr => p_i (fun y => p_l (fun x r => k kc ks ls (.long (x >>> (y.toInt64 &&& 63)) :: r) h)) st
  | .lushr => p_i (fun y => p_l (fun x r => k kc ks ls (.long (x.toUInt64 >>> (y.toInt64.toUInt64 &&& Int64.toUInt64 63)).toInt64 :: r) h)) st
  | .lcmp => p_l (fun y => p_l (fun x r => k kc ks ls (.int (lg_cmp x y) :: r) h)) st
  | .i2l => p_i (fun x r => k kc ks ls (.long x.toInt64 :: r) h) st
  | .l2i => p_l (fun x r => k kc ks ls (.int x.toInt32 :: r) h) st
  | .i2b => p_i (fun x r => k kc ks ls (.int x.toInt8.toInt32 :: r) h) st
  | .dup => match st with
    | .ref q :: r => k kc ks ls (.ref q :: .ref q :: r) h
    | .int q :: r => k kc ks ls (.int q :: .int q :: r) h
    | _ => False
  | .ifCond c _ => p_i (fun x r => jcd c x 0 (JJ (e.2.2.getD 0 0) kc ks (cln (e.2.2.drop 1) ls) r h) (k kc ks ls r h)) st
  | .if_icmp c _ => p_i (fun y => p_i (fun x r => jcd c x y (JJ (e.2.2.getD 0 0) kc ks (cln (e.2.2.drop 1) ls) r h) (k kc ks ls r h))) st
  | .goto _ => JJ (e.2.2.getD 0 0) kc ks (cln (e.2.2.drop 1) ls) st h
  | .tableswitch _ lo hi _ => p_i (fun x r => ((x.toInt < lo ∨ hi < x.toInt) → JJ (e.2.2.getD 0 0) kc ks ls r h) ∧ ∀ (j t : Nat), (e.2.2.drop 1)[j]? = some t → x.toInt = lo + j → JJ t kc ks ls r h) st
  | .iaload => p_i (fun i => p_r (fun p r => ixL h p i ∧ k kc ks ls (.int (gI h p i.toNatClampNeg) :: r) h)) st
  | .baload => p_i (fun i => p_r (fun p r => ix h p 11 i ∧ k kc ks ls (.int (gI h p i.toNatClampNeg) :: r) h)) st
  | .aaload => p_i (fun i => p_r (fun p r => ixR h p i ∧ k kc ks ls (.ref (gR h p i.toNatClampNeg) :: r) h)) st
  | .iastore => p_i (fun x => p_i (fun i => p_r (fun p r => ix h p 10 i ∧ k kc ks ls r (sI h p i.toNatClampNeg x)))) st
  | .bastore => p_i (fun x => p_i (fun i => p_r (fun p r => ix h p 11 i ∧ k kc ks ls r (sI h p i.toNatClampNeg (vp_nar .byte x))))) st
  | .aastore => p_r (fun q => p_i (fun i => p_r (fun p r => ((ix h p 13 i ∧ isO h q 0) ∨ (ix h p 14 i ∧ isO h q 5)) ∧ k kc ks ls r (sR h p i.toNatClampNeg q)))) st
  | .arraylength => p_r (fun p r => (10 ≤ (jz h p).1 ∧ (jz h p).1 ≤ 14 ∨ (jz h p).1 = 20) ∧ k kc ks ls (.int (Int32.ofNat (jz h p).2) :: r) h) st
  | .newarray _ => p_i (fun n r => jNew (e.2.2.getD 0 0) k kc ks ls h n r) st
  | .anewarray _ => p_i (fun n r => jNew (e.2.2.getD 0 0) k kc ks ls h n r) st
  | .multianewarray _ _ => p_i (fun m => p_i (fun n r => (¬ n < 0 ∧ ¬ m < 0 ∧ n.toNatClampNeg ≤ 1000 ∧ m.toNatClampNeg ≤ 1000 ∧ 1 + n.toNatClampNeg ≤ kc ∧ n.toNatClampNeg + n.toNatClampNeg * m.toNatClampNeg ≤ ks) ∧ k (kc - (1 + n.toNatClampNeg)) (ks - (n.toNatClampNeg + n.toNatClampNeg * m.toNatClampNeg)) ls (.ref (jn h + 2) :: r) (jM h n.toNatClampNeg m.toNatClampNeg))) st
  | .new _ => 1 ≤ kc ∧ cF (e.2.2.getD 0 0) ≤ ks ∧ k (kc - 1) (ks - cF (e.2.2.getD 0 0)) ls (.ref (jn h + 2) :: st) (jA h (e.2.2.getD 0 0) 0)
  | .getfield _ => p_r (fun p r => isO h p (e.2.2.getD 0 0) ∧ k kc ks ls (jFld h p (e.2.2.getD 1 0) (e.2.2.getD 2 0) :: r) h) st
  | .putfield _ => match st with
    | v :: .ref p :: r => isO h p (e.2.2.getD 0 0) ∧ jPut (e.2.2.getD 2 0) h p (e.2.2.getD 1 0) v (fun h' => k kc ks ls r h')
    | _ => False
  | .invokevirtual _ => match e.2.2 with
    | [z, n, rk, k1, s1] => jCal C 1 z n rk k1 s1 k kc ks ls st h
    | _ => False
  | .invokespecial _ => match e.2.2 with
    | [z, n, rk, k1, s1] => jCal C 2 z n rk k1 s1 k kc ks ls st h
    | _ => p_r (fun p r => bif Nat.ble (cats r) 8 then p ≠ 0 ∧ k kc ks ls r h else False) st
  | .invokestatic _ => match e.2.2 with
    | [z, n, rk, k1, s1] => jCal C 0 z n rk k1 s1 k kc ks ls st h
    | [0, _] => p_i (fun y => p_i (fun x r => bif Nat.ble (cats r) 8 then k kc ks ls (.int (if x < y then y else x) :: r) h else False)) st
    | [1, _] => p_l (fun y => p_l (fun x r => bif Nat.ble (cats r) 8 then k kc ks ls (.long (if y < x then x else y) :: r) h else False)) st
    | [2, _] => p_l (fun y => p_l (fun x r => bif Nat.ble (cats r) 8 then k kc ks ls (.long (if y < x then y else x) :: r) h else False)) st
    | [3, _] => p_l (fun x r => bif Nat.ble (cats r) 8 then k kc ks ls (.long (if 0 < x then x else -x) :: r) h else False) st
    | [4, _] => p_i (fun y => p_i (fun x r => bif Nat.ble (cats r) 8 then k kc ks ls (.int (if y < x then y else x) :: r) h else False)) st
    | _ => p_i (fun n => p_i (fun dp => p_r (fun b => p_i (fun sp => p_r (fun a r => bif Nat.ble (cats r) 8 then (jz h a).1 = 10 ∧ (jz h b).1 = 10 ∧ ¬ sp < 0 ∧ ¬ dp < 0 ∧ ¬ n < 0 ∧ sp.toNatClampNeg + n.toNatClampNeg ≤ (jz h a).2 ∧ dp.toNatClampNeg + n.toNatClampNeg ≤ (jz h b).2 ∧ k kc ks ls r (jY h a sp.toNatClampNeg b dp.toNatClampNeg n.toNatClampNeg) else False))))) st
  | .ireturn => p_i (fun v r => p_n (match e.2.2 with
    | [1] => isB v ∧ Q (some (.int v)) h
    | _ => Q (some (.int v)) h) r) st
  | .lreturn => p_l (fun v r => p_n (Q (some (.long v)) h) r) st
  | .areturn => p_r (fun v r => p_n (Q (some (.ref v)) h) r) st
  | .return_ => p_n (Q none h) st
  | _ => False
/-- a block: its instructions, then the label behind it -/
def jB (JJ : Nat → jK) (C : jT) (Q : jQ) (nx : Nat) (nm : List Nat) : List jE → jK
  | [] => fun kc ks ls st h => JJ nx kc ks (cln nm ls) st h
  | e :: r => jS JJ C Q e (jB JJ C Q nx nm r)
/-- what is checked of an instruction of method y, before it is believed -/
def jkf (ty : FieldType) : Nat := match ty with
  | .int => 0
  | .long => 1
  | .boolean => 3
  | _ => 2
def jrk (r : Option FieldType) : Nat := match r with
  | none => 0
  | some .int => 1
  | some .boolean => 1
  | some .long => 2
  | _ => 3
def okI (y pc : Nat) (ins : Instr) (a : List Nat) : Bool := match ins with
  | .bipush n => decide (-128 ≤ n ∧ n ≤ 127)
  | .sipush n => decide (-32768 ≤ n ∧ n ≤ 32767)
  | .ldc i => tK.contains [mO y, i, a.getD 0 0, a.getD 1 0]
  | .ldc_w i => tK.contains [mO y, i, a.getD 0 0, a.getD 1 0]
  | .ldc2_w i => tJ.contains [mO y, i, a.getD 0 0, a.getD 1 0]
  | .istore i => decide (i < mL y)
  | .istore_n i => decide (i.val < mL y)
  | .astore i => decide (i < mL y)
  | .astore_n i => decide (i.val < mL y)
  | .iinc i _ => decide (i < mL y)
  | .lstore i => decide (i + 1 < mL y)
  | .lstore_n i => decide (i.val + 1 < mL y)
  | .ifCond _ o => decide ((pc : Int) + o = ((a.getD 0 0 : Nat) : Int))
  | .if_icmp _ o => decide ((pc : Int) + o = ((a.getD 0 0 : Nat) : Int))
  | .goto o => decide ((pc : Int) + o = ((a.getD 0 0 : Nat) : Int))
  | .tableswitch d lo hi os => decide ((pc : Int) + d = ((a.getD 0 0 : Nat) : Int)) && decide ((a.drop 1).map (fun t => ((t : Nat) : Int)) = os.toList.map (fun o => (pc : Int) + o)) && decide (hi = lo + (os.toList.length : Int) - 1)
  | .getfield i => tF.contains [mO y, i, a.getD 0 0, a.getD 1 0] && decide (a.getD 0 0 < 10) && decide (a.getD 1 0 < cF (a.getD 0 0)) && decide (a.getD 2 0 = jkf (cY (a.getD 0 0) (a.getD 1 0)))
  | .putfield i => tF.contains [mO y, i, a.getD 0 0, a.getD 1 0] && decide (a.getD 0 0 < 10) && decide (a.getD 1 0 < cF (a.getD 0 0)) && decide (a.getD 2 0 = jkf (cY (a.getD 0 0) (a.getD 1 0))) && (!(cT (a.getD 0 0) (a.getD 1 0)).2.2.2 || (decide ((mN y).name = "<init>") && decide ((cT (a.getD 0 0) (a.getD 1 0)).1 = cN (mO y))))
  | .new i => tN.contains [mO y, i, a.getD 0 0] && decide (a.getD 0 0 < 10)
  | .newarray .int => decide (a.getD 0 0 = 10)
  | .newarray .byte => decide (a.getD 0 0 = 11)
  | .newarray _ => false
  | .anewarray i => (tA.contains [mO y, i, 0] && decide (a.getD 0 0 = 13)) || (tA.contains [mO y, i, 5] && decide (a.getD 0 0 = 14))
  | .multianewarray _ _ => false
  | .invokevirtual i => (match a with
    | [z, n, rk, _, _] => tM.contains [mO y, i, z, n, 0] && decide (rk = jrk (mR z)) && decide (mF z + 1 ≤ mF y) && decide (8 + (mL z + 11) + mS z ≤ mS y)
    | _ => false)
  | .invokespecial i => (match a with
    | [z, n, rk, _, _] => (tM.contains [mO y, i, z, n, 1] || tZ.contains [mO y, i, z, n, 3]) && decide (rk = jrk (mR z)) && decide (mF z + 1 ≤ mF y) && decide (8 + (mL z + 11) + mS z ≤ mS y)
    | [] => tO.contains [mO y, i] && decide (1 ≤ mF y) && decide (20 ≤ mS y)
    | _ => false)
  | .invokestatic i => (match a with
    | [z, n, rk, _, _] => tM.contains [mO y, i, z, n, 2] && decide (rk = jrk (mR z)) && decide (mF z + 1 ≤ mF y) && decide (8 + (mL z + 11) + mS z ≤ mS y)
    | [z, _] => decide (z < 5) && tH.contains [mO y, i, z] && decide (1 ≤ mF y) && decide (23 ≤ mS y)
    | [] => decide (mO y = 0) && decide (i = 36) && decide (1 ≤ mF y) && decide (26 ≤ mS y)
    | _ => false)
  | .ireturn => (decide (mR y = some .int) && decide (a = [])) || (decide (mR y = some .boolean) && decide (a = [1]))
  | .lreturn => decide (mR y = some .long)
  | .areturn => decide (mR y = some (.object (cN 0)))
  | .return_ => decide (mR y = none)
  | _ => true
def jend : Instr → Bool
  | .goto _ => true
  | .ireturn => true
  | .lreturn => true
  | .areturn => true
  | .return_ => true
  | .tableswitch _ _ _ _ => true
  | _ => false
def jlen : Instr → Nat
  | .iload _ => 2
  | .lload _ => 2
  | .aload _ => 2
  | .istore _ => 2
  | .lstore _ => 2
  | .astore _ => 2
  | .bipush _ => 2
  | .sipush _ => 3
  | .ldc _ => 2
  | .ldc_w _ => 3
  | .ldc2_w _ => 3
  | .iinc _ _ => 3
  | .ifCond _ _ => 3
  | .if_icmp _ _ => 3
  | .goto _ => 3
  | .getfield _ => 3
  | .putfield _ => 3
  | .new _ => 3
  | .newarray _ => 2
  | .anewarray _ => 3
  | .multianewarray _ _ => 4
  | .invokevirtual _ => 3
  | .invokespecial _ => 3
  | .invokestatic _ => 3
  | _ => 1
def jsw : Instr → Bool
  | .tableswitch _ _ _ _ => true
  | _ => false
def okB (y : Nat) : Nat → List jE → Nat → Bool
  | pc, [], nx => Nat.beq pc nx
  | pc, e :: r, nx => (match decode (mC y) pc with
    | .ok (i, len) => decide (i = e.2.1) && (jsw e.2.1 || Nat.beq len (jlen e.2.1)) && okI y pc e.2.1 e.2.2 && (match r with
      | [] => jend e.2.1 || Nat.beq (pc + len) nx
      | _ :: _ => okB y (pc + len) r nx)
    | _ => false)
