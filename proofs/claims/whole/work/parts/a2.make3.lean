/-! constructors: Cheapest -/
section MAKE3
variable {h0 h h' : jHp}
def cFa (a : Nat) : Nat := a
def cSh (a : Nat) : Nat × Nat := if a = 0 then (13, 42) else if a = 1 then (13, 14) else if a < 5 then (10, 3) else if a = 5 then (13, 9) else (13, 3)
def cPl (c t : Nat) : Nat := if t < 4 then c else if t < 46 then c + 1 else if t < 60 then c + 2 else if t < 69 then c + 6 else c + 7 + (t - 69) % 3
def cFd (t : Nat) : Nat := if t < 4 then 9 + t else if t < 46 then t - 4 else if t < 60 then t - 46 else if t < 69 then t - 60 else (t - 69) / 3
def BQc (c : Nat) (j : Nat) (h0 h : jHp) : Prop := BQ c 9 cFa cSh (cPl c) cFd rm j h0 h
theorem cPl_b {c : Nat} : ∀ t, c ≤ cPl c t ∧ cPl c t < c + 1 + 9 := fun t => by
  unfold cPl
  repeat' split
  all_goals omega
theorem cPl_i {c t j : Nat} (h : t < j) : ¬ (cPl c t = cPl c j ∧ cFd t = cFd j) := fun z => by
  unfold cPl cFd at z
  by_cases a1 : j < 4
  · rw [if_pos (by omega), if_pos (by omega), if_pos (by omega), if_pos (by omega)] at z
    omega
  · by_cases a2 : t < 4
    · rw [if_pos a2, if_neg a1] at z
      repeat' split at z
      all_goals omega
    · rw [if_neg a1, if_neg a2, if_neg a1, if_neg a2] at z
      by_cases b1 : j < 46
      · rw [if_pos (by omega), if_pos (by omega), if_pos (by omega), if_pos (by omega)] at z
        omega
      · by_cases b2 : t < 46
        · rw [if_pos b2, if_neg b1] at z
          repeat' split at z
          all_goals omega
        · rw [if_neg b1, if_neg b2, if_neg b1, if_neg b2] at z
          by_cases d1 : j < 60
          · rw [if_pos (by omega), if_pos (by omega), if_pos (by omega), if_pos (by omega)] at z
            omega
          · by_cases d2 : t < 60
            · rw [if_pos d2, if_neg d1] at z
              repeat' split at z
              all_goals omega
            · rw [if_neg d1, if_neg d2, if_neg d1, if_neg d2] at z
              by_cases e1 : j < 69
              · rw [if_pos (by omega), if_pos (by omega), if_pos (by omega), if_pos (by omega)] at z
                omega
              · by_cases e2 : t < 69
                · rw [if_pos e2, if_neg e1] at z
                  omega
                · rw [if_neg e1, if_neg e2, if_neg e1, if_neg e2] at z
                  omega
theorem BQc_s {c j p f r : Nat} (I : BQc c j h0 h) (e1 : cPl c j = p) (e2 : cFd j = f) (e3 : rm j = r) : BQc c (j + 1) h0 (sR (mkB h r) p f (jn h + 2)) := by
  refine BQ_s I e1 e2 e3 (by rw [← e1]; exact (cPl_b j).1) (by rw [← e1]; exact (cPl_b j).2) ?_ (fun t ht z => ?_) (fun z a ha y => ?_) (fun t ht => (cPl_b t).2)
  · rw [← e3]
    have := rm_40 (q := j)
    omega
  · rw [← e1, ← e2] at z
    exact cPl_i ht z
  · rw [← e1] at z
    rw [← e2] at y
    unfold cPl at z
    unfold cFd cFa at y
    repeat' split at z
    all_goals (try omega)
    rw [if_pos (by assumption)] at y
    omega
theorem c_Cinit {c : Nat} (ho : isO h0 c 2) (hm : 2 ≤ c) (hj : jn h0 = c - 1) : jRet 34 165 3437 [.ref c] h0 (fun q h' => q = none ∧ BQc c 78 h0 h') := by
  have c0 : cF 0 = 3 := rfl
  have l223 : ∀ (d i : Nat) (h : jHp), i + d = 3 → BQc c (69 + 3 * i) h0 h → J 34 223 (6 * d) (129 * d) [.ref c, .int (iI (i : Int))] [] h (fun q h' => q = none ∧ BQc c 78 h0 h') := by
    intro d
    induction d with
    | zero =>
      intro i h hi I
      obtain rfl : i = 3 := by omega
      refine j_Ch_init_223 ?_
      exact ⟨fun _ => j_Ch_init_279 ⟨rfl, I⟩, fun y => absurd (by decide) y⟩
    | succ d ih =>
      intro i h hi I
      refine j_Ch_init_223 ?_
      rw [iI_le ⟨by omega, by omega⟩ ⟨by omega, by omega⟩]
      refine ⟨fun y => by omega, fun _ => ?_⟩
      have one : ∀ (u : Nat) (h : jHp), u < 3 → BQc c (69 + 3 * i + u) h0 h → BQc c (69 + 3 * i + u + 1) h0 (sR (mkB h (rm (69 + 3 * i + u))) (c + 1 + (6 + u)) i (jn h + 2)) := fun u h hu I => BQc_s (j := 69 + 3 * i + u) I (by unfold cPl; rw [if_neg (by omega), if_neg (by omega), if_neg (by omega), if_neg (by omega)]; omega) (by unfold cFd; rw [if_neg (by omega), if_neg (by omega), if_neg (by omega), if_neg (by omega)]; omega) rfl
      have r0 : rm (69 + 3 * i + 0) = 20 := by
        unfold rm
        rw [if_neg (by omega), if_neg (by omega), if_neg (by omega), if_neg (by omega), if_pos (by omega)]
      have r1 : rm (69 + 3 * i + 1) = 28 := by
        unfold rm
        rw [if_neg (by omega), if_neg (by omega), if_neg (by omega), if_neg (by omega), if_neg (by omega)]
      have r2 : rm (69 + 3 * i + 2) = 28 := by
        unfold rm
        rw [if_neg (by omega), if_neg (by omega), if_neg (by omega), if_neg (by omega), if_neg (by omega)]
      have l258 : ∀ h, BQc c (69 + 3 * i + 2) h0 h → J 34 258 (6 * d + 2) (129 * d + 43) [.ref c, .int (iI (i : Int))] [] h (fun q h' => q = none ∧ BQc c 78 h0 h') := by
        intro h I
        have f : gR h c 8 = c + 1 + 8 := (I.2.2.2.1 8 (by decide)).1
        refine j_Ch_init_258 (kc := 6 * d) (ks := 129 * d) ?_
        rw [f]
        refine ⟨BQ_o I ho, by omega, by omega, by omega, jRet_mono (BQ_big (a := 8) (i := i) (n := 3) (r := 28) I (by decide) rfl (by omega) (by decide) (by decide) (by decide)) ?_⟩
        intro q k w
        obtain ⟨w1, w2, w3⟩ := w
        rw [iI_cl (by omega) (by omega), Int.toNat_natCast, iI_add]
        refine ⟨w1, w2, ?_⟩
        have I2 := one 2 h (by decide) I
        rw [r2] at I2
        rw [w3, show 6 * d + 2 - 1 - 1 = 6 * d by omega, show 129 * d + 43 - cF 0 - 40 = 129 * d by omega]
        exact ih (i + 1) _ (by omega) (by rw [show 69 + 3 * (i + 1) = 69 + 3 * i + 2 + 1 by omega]; exact I2)
      have l243 : ∀ h, BQc c (69 + 3 * i + 1) h0 h → J 34 243 (6 * d + 2 + 2) (129 * d + 43 + 43) [.ref c, .int (iI (i : Int))] [] h (fun q h' => q = none ∧ BQc c 78 h0 h') := by
        intro h I
        have f : gR h c 7 = c + 1 + 7 := (I.2.2.2.1 7 (by decide)).1
        refine j_Ch_init_243 (kc := 6 * d + 2) (ks := 129 * d + 43) ?_
        rw [f]
        refine ⟨BQ_o I ho, by omega, by omega, by omega, jRet_mono (BQ_big (a := 7) (i := i) (n := 3) (r := 28) I (by decide) rfl (by omega) (by decide) (by decide) (by decide)) ?_⟩
        intro q k w
        obtain ⟨w1, w2, w3⟩ := w
        rw [iI_cl (by omega) (by omega), Int.toNat_natCast]
        refine ⟨w1, w2, ?_⟩
        have I2 := one 1 h (by decide) I
        rw [r1] at I2
        rw [w3, show 6 * d + 2 + 2 - 1 - 1 = 6 * d + 2 by omega, show 129 * d + 43 + 43 - cF 0 - 40 = 129 * d + 43 by omega]
        exact l258 _ I2
      have l228 : J 34 228 (6 * d + 4 + 2) (129 * d + 86 + 43) [.ref c, .int (iI (i : Int))] [] h (fun q h' => q = none ∧ BQc c 78 h0 h') := by
        have f : gR h c 6 = c + 1 + 6 := (I.2.2.2.1 6 (by decide)).1
        refine j_Ch_init_228 (kc := 6 * d + 4) (ks := 129 * d + 86) ?_
        rw [f]
        refine ⟨BQ_o I ho, by omega, by omega, by omega, jRet_mono (BQ_big (a := 6) (i := i) (n := 3) (r := 20) I (by decide) rfl (by omega) (by decide) (by decide) (by decide)) ?_⟩
        intro q k w
        obtain ⟨w1, w2, w3⟩ := w
        rw [iI_cl (by omega) (by omega), Int.toNat_natCast]
        refine ⟨w1, w2, ?_⟩
        have I2 := one 0 h (by decide) I
        rw [r0] at I2
        rw [w3, show 6 * d + 4 + 2 - 1 - 1 = 6 * d + 2 + 2 by omega, show 129 * d + 86 + 43 - cF 0 - 40 = 129 * d + 43 + 43 by omega]
        exact l243 _ I2
      rw [show 6 * (d + 1) = 6 * d + 4 + 2 by omega, show 129 * (d + 1) = 129 * d + 86 + 43 by omega]
      exact l228
  have l191 : ∀ (d i : Nat) (h : jHp), i + d = 9 → BQc c (60 + i) h0 h → J 34 191 (2 * d + 18) (43 * d + 387) [.ref c, .int (iI (i : Int))] [] h (fun q h' => q = none ∧ BQc c 78 h0 h') := by
    intro d
    induction d with
    | zero =>
      intro i h hi I
      obtain rfl : i = 9 := by omega
      have f : gR h c 5 = c + 1 + 5 := (I.2.2.2.1 5 (by decide)).1
      have z : jz h (c + 1 + 5) = (13, 9) := (I.2.2.2.1 5 (by decide)).2
      refine j_Ch_init_191 ?_
      rw [f, z]
      exact ⟨BQ_o I ho, by decide, fun _ => j_Ch_init_221 (l223 3 0 _ rfl I), fun y => absurd (by decide) y⟩
    | succ d ih =>
      intro i h hi I
      have f : gR h c 5 = c + 1 + 5 := (I.2.2.2.1 5 (by decide)).1
      have z : jz h (c + 1 + 5) = (13, 9) := (I.2.2.2.1 5 (by decide)).2
      have go : J 34 200 (2 * d + 18 + 2) (43 * d + 387 + 43) [.ref c, .int (iI (i : Int))] [] h (fun q h' => q = none ∧ BQc c 78 h0 h') := by
        refine j_Ch_init_200 (kc := 2 * d + 18) (ks := 43 * d + 387) ?_
        rw [f]
        refine ⟨BQ_o I ho, by omega, by omega, by omega, jRet_mono (BQ_big (a := 5) (i := i) (n := 9) (r := 20) I (by decide) rfl (by omega) (by decide) (by decide) (by decide)) ?_⟩
        intro q k w
        obtain ⟨w1, w2, w3⟩ := w
        rw [iI_cl (by omega) (by omega), Int.toNat_natCast, iI_add]
        refine ⟨w1, w2, ?_⟩
        have rr : rm (60 + i) = 20 := by
          unfold rm
          repeat' split
          all_goals omega
        have I2 : BQc c (60 + i + 1) h0 (sR (mkB h 20) (c + 1 + 5) i (jn h + 2)) := BQc_s (j := 60 + i) I (by unfold cPl; (repeat' split) <;> omega) (by unfold cFd; (repeat' split) <;> omega) rr
        rw [w3, show 2 * d + 18 + 2 - 1 - 1 = 2 * d + 18 by omega, show 43 * d + 387 + 43 - cF 0 - 40 = 43 * d + 387 by omega]
        exact ih (i + 1) _ (by omega) I2
      rw [show 2 * (d + 1) + 18 = 2 * d + 18 + 2 by omega, show 43 * (d + 1) + 387 = 43 * d + 387 + 43 by omega]
      refine j_Ch_init_191 ?_
      rw [f, z]
      refine ⟨BQ_o I ho, by decide, fun y => ?_, fun _ => go⟩
      have e : Int32.ofNat 9 = iI 9 := rfl
      rw [e, iI_le ⟨by omega, by omega⟩ ⟨by omega, by omega⟩] at y
      omega
  have l162 : ∀ (d i : Nat) (h : jHp), i + d = 14 → BQc c (46 + i) h0 h → J 34 162 (2 * d + 36) (43 * d + 774) [.ref c, .int (iI (i : Int))] [] h (fun q h' => q = none ∧ BQc c 78 h0 h') := by
    intro d
    induction d with
    | zero =>
      intro i h hi I
      obtain rfl : i = 14 := by omega
      have f : gR h c 1 = c + 1 + 1 := (I.2.2.2.1 1 (by decide)).1
      have z : jz h (c + 1 + 1) = (13, 14) := (I.2.2.2.1 1 (by decide)).2
      refine j_Ch_init_162 ?_
      exact ⟨fun _ => j_Ch_init_189 (l191 9 0 _ rfl I), fun y => absurd (by decide) y⟩
    | succ d ih =>
      intro i h hi I
      have f : gR h c 1 = c + 1 + 1 := (I.2.2.2.1 1 (by decide)).1
      have z : jz h (c + 1 + 1) = (13, 14) := (I.2.2.2.1 1 (by decide)).2
      have go : J 34 168 (2 * d + 36 + 2) (43 * d + 774 + 43) [.ref c, .int (iI (i : Int))] [] h (fun q h' => q = none ∧ BQc c 78 h0 h') := by
        refine j_Ch_init_168 (kc := 2 * d + 36) (ks := 43 * d + 774) ?_
        rw [f]
        refine ⟨BQ_o I ho, by omega, by omega, by omega, jRet_mono (BQ_big (a := 1) (i := i) (n := 14) (r := 10) I (by decide) rfl (by omega) (by decide) (by decide) (by decide)) ?_⟩
        intro q k w
        obtain ⟨w1, w2, w3⟩ := w
        rw [iI_cl (by omega) (by omega), Int.toNat_natCast, iI_add]
        refine ⟨w1, w2, ?_⟩
        have rr : rm (46 + i) = 10 := by
          unfold rm
          repeat' split
          all_goals omega
        have I2 : BQc c (46 + i + 1) h0 (sR (mkB h 10) (c + 1 + 1) i (jn h + 2)) := BQc_s (j := 46 + i) I (by unfold cPl; (repeat' split) <;> omega) (by unfold cFd; (repeat' split) <;> omega) rr
        rw [w3, show 2 * d + 36 + 2 - 1 - 1 = 2 * d + 36 by omega, show 43 * d + 774 + 43 - cF 0 - 40 = 43 * d + 774 by omega]
        exact ih (i + 1) _ (by omega) I2
      rw [show 2 * (d + 1) + 36 = 2 * d + 36 + 2 by omega, show 43 * (d + 1) + 774 = 43 * d + 774 + 43 by omega]
      refine j_Ch_init_162 ?_
      rw [iI_le ⟨by omega, by omega⟩ ⟨by omega, by omega⟩]
      exact ⟨fun y => by omega, fun _ => go⟩
  have l130 : ∀ (d i : Nat) (h : jHp), i + d = 42 → BQc c (4 + i) h0 h → J 34 130 (2 * d + 64) (43 * d + 1376) [.ref c, .int (iI (i : Int))] [] h (fun q h' => q = none ∧ BQc c 78 h0 h') := by
    intro d
    induction d with
    | zero =>
      intro i h hi I
      obtain rfl : i = 42 := by omega
      have f : gR h c 0 = c + 1 + 0 := (I.2.2.2.1 0 (by decide)).1
      have z : jz h (c + 1 + 0) = (13, 42) := (I.2.2.2.1 0 (by decide)).2
      refine j_Ch_init_130 ?_
      rw [f, z]
      exact ⟨BQ_o I ho, by decide, fun _ => j_Ch_init_160 (l162 14 0 _ rfl I), fun y => absurd (by decide) y⟩
    | succ d ih =>
      intro i h hi I
      have f : gR h c 0 = c + 1 + 0 := (I.2.2.2.1 0 (by decide)).1
      have z : jz h (c + 1 + 0) = (13, 42) := (I.2.2.2.1 0 (by decide)).2
      have go : J 34 139 (2 * d + 64 + 2) (43 * d + 1376 + 43) [.ref c, .int (iI (i : Int))] [] h (fun q h' => q = none ∧ BQc c 78 h0 h') := by
        refine j_Ch_init_139 (kc := 2 * d + 64) (ks := 43 * d + 1376) ?_
        rw [f]
        refine ⟨BQ_o I ho, by omega, by omega, by omega, jRet_mono (BQ_big (a := 0) (i := i) (n := 42) (r := 10) I (by decide) rfl (by omega) (by decide) (by decide) (by decide)) ?_⟩
        intro q k w
        obtain ⟨w1, w2, w3⟩ := w
        rw [iI_cl (by omega) (by omega), Int.toNat_natCast, iI_add]
        refine ⟨w1, w2, ?_⟩
        have rr : rm (4 + i) = 10 := by
          unfold rm
          repeat' split
          all_goals omega
        have I2 : BQc c (4 + i + 1) h0 (sR (mkB h 10) (c + 1 + 0) i (jn h + 2)) := BQc_s (j := 4 + i) I (by unfold cPl; (repeat' split) <;> omega) (by unfold cFd; (repeat' split) <;> omega) rr
        rw [w3, show 2 * d + 64 + 2 - 1 - 1 = 2 * d + 64 by omega, show 43 * d + 1376 + 43 - cF 0 - 40 = 43 * d + 1376 by omega]
        exact ih (i + 1) _ (by omega) I2
      rw [show 2 * (d + 1) + 64 = 2 * d + 64 + 2 by omega, show 43 * (d + 1) + 1376 = 43 * d + 1376 + 43 by omega]
      refine j_Ch_init_130 ?_
      rw [f, z]
      refine ⟨BQ_o I ho, by decide, fun y => ?_, fun _ => go⟩
      have e : Int32.ofNat 42 = iI 42 := rfl
      rw [e, iI_le ⟨by omega, by omega⟩ ⟨by omega, by omega⟩] at y
      omega
  have l115 : ∀ h, BQc c 3 h0 h → J 34 115 150 3225 [.ref c, uu] [] h (fun q h' => q = none ∧ BQc c 78 h0 h') := by
    intro h I
    refine j_Ch_init_115 (kc := 148) (ks := 3182) ⟨by decide, by decide, by omega, jRet_mono (c_Binit (r := 40) (by decide) (by decide)) ?_⟩
    intro q k w
    obtain ⟨w1, w2⟩ := w
    rw [w2]
    exact ⟨w1, BQ_oM I ho, l130 42 0 _ rfl (BQc_s I rfl rfl rfl)⟩
  have l102 : ∀ h, BQc c 2 h0 h → J 34 102 152 3268 [.ref c, uu] [] h (fun q h' => q = none ∧ BQc c 78 h0 h') := by
    intro h I
    refine j_Ch_init_102 (kc := 150) (ks := 3225) ⟨by decide, by decide, by omega, jRet_mono (c_Binit (r := 40) (by decide) (by decide)) ?_⟩
    intro q k w
    obtain ⟨w1, w2⟩ := w
    rw [w2]
    exact ⟨w1, BQ_oM I ho, l115 _ (BQc_s I rfl rfl rfl)⟩
  have l89 : ∀ h, BQc c 1 h0 h → J 34 89 154 3311 [.ref c, uu] [] h (fun q h' => q = none ∧ BQc c 78 h0 h') := by
    intro h I
    refine j_Ch_init_89 (kc := 152) (ks := 3268) ⟨by decide, by decide, by omega, jRet_mono (c_Binit (r := 28) (by decide) (by decide)) ?_⟩
    intro q k w
    obtain ⟨w1, w2⟩ := w
    rw [w2]
    exact ⟨w1, BQ_oM I ho, l102 _ (BQc_s I rfl rfl rfl)⟩
  have l76 : ∀ h, BQc c 0 h0 h → J 34 76 156 3354 [.ref c, uu] [] h (fun q h' => q = none ∧ BQc c 78 h0 h') := by
    intro h I
    refine j_Ch_init_76 (kc := 154) (ks := 3311) ⟨by decide, by decide, by omega, jRet_mono (c_Binit (r := 28) (by decide) (by decide)) ?_⟩
    intro q k w
    obtain ⟨w1, w2⟩ := w
    rw [w2]
    exact ⟨w1, BQ_oM I ho, l89 _ (BQc_s I rfl rfl rfl)⟩
  have l68 : ∀ h, BQ c 8 cFa cSh (cPl c) cFd rm 0 h0 h → J 34 68 157 3357 [.ref c, uu] [] h (fun q h' => q = none ∧ BQc c 78 h0 h') := by
    intro h I
    have e : (iI 3).toNatClampNeg = 3 := by decide
    refine j_Ch_init_68 (kc := 156) (ks := 3354) ?_
    rw [e]
    exact ⟨by decide, by decide, by decide, by decide, BQ_oA I ho, l76 _ (BQ_a I rfl rfl (fun a ha => by unfold cFa; omega))⟩
  have l60 : ∀ h, BQ c 7 cFa cSh (cPl c) cFd rm 0 h0 h → J 34 60 158 3360 [.ref c, uu] [] h (fun q h' => q = none ∧ BQc c 78 h0 h') := by
    intro h I
    have e : (iI 3).toNatClampNeg = 3 := by decide
    refine j_Ch_init_60 (kc := 157) (ks := 3357) ?_
    rw [e]
    exact ⟨by decide, by decide, by decide, by decide, BQ_oA I ho, l68 _ (BQ_a I rfl rfl (fun a ha => by unfold cFa; omega))⟩
  have l52 : ∀ h, BQ c 6 cFa cSh (cPl c) cFd rm 0 h0 h → J 34 52 159 3363 [.ref c, uu] [] h (fun q h' => q = none ∧ BQc c 78 h0 h') := by
    intro h I
    have e : (iI 3).toNatClampNeg = 3 := by decide
    refine j_Ch_init_52 (kc := 158) (ks := 3360) ?_
    rw [e]
    exact ⟨by decide, by decide, by decide, by decide, BQ_oA I ho, l60 _ (BQ_a I rfl rfl (fun a ha => by unfold cFa; omega))⟩
  have l43 : ∀ h, BQ c 5 cFa cSh (cPl c) cFd rm 0 h0 h → J 34 43 160 3372 [.ref c, uu] [] h (fun q h' => q = none ∧ BQc c 78 h0 h') := by
    intro h I
    have e : (iI 9).toNatClampNeg = 9 := by decide
    refine j_Ch_init_43 (kc := 159) (ks := 3363) ?_
    rw [e]
    exact ⟨by decide, by decide, by decide, by decide, BQ_oA I ho, l52 _ (BQ_a I rfl rfl (fun a ha => by unfold cFa; omega))⟩
  have l36 : ∀ h, BQ c 4 cFa cSh (cPl c) cFd rm 0 h0 h → J 34 36 161 3375 [.ref c, uu] [] h (fun q h' => q = none ∧ BQc c 78 h0 h') := by
    intro h I
    have e : (iI 3).toNatClampNeg = 3 := by decide
    refine j_Ch_init_36 (kc := 160) (ks := 3372) ?_
    rw [e]
    exact ⟨by decide, by decide, by decide, by decide, BQ_oA I ho, l43 _ (BQ_a I rfl rfl (fun a ha => by unfold cFa; omega))⟩
  have l29 : ∀ h, BQ c 3 cFa cSh (cPl c) cFd rm 0 h0 h → J 34 29 162 3378 [.ref c, uu] [] h (fun q h' => q = none ∧ BQc c 78 h0 h') := by
    intro h I
    have e : (iI 3).toNatClampNeg = 3 := by decide
    refine j_Ch_init_29 (kc := 161) (ks := 3375) ?_
    rw [e]
    exact ⟨by decide, by decide, by decide, by decide, BQ_oA I ho, l36 _ (BQ_a I rfl rfl (fun a ha => by unfold cFa; omega))⟩
  have l22 : ∀ h, BQ c 2 cFa cSh (cPl c) cFd rm 0 h0 h → J 34 22 163 3381 [.ref c, uu] [] h (fun q h' => q = none ∧ BQc c 78 h0 h') := by
    intro h I
    have e : (iI 3).toNatClampNeg = 3 := by decide
    refine j_Ch_init_22 (kc := 162) (ks := 3378) ?_
    rw [e]
    exact ⟨by decide, by decide, by decide, by decide, BQ_oA I ho, l29 _ (BQ_a I rfl rfl (fun a ha => by unfold cFa; omega))⟩
  have l13 : ∀ h, BQ c 1 cFa cSh (cPl c) cFd rm 0 h0 h → J 34 13 164 3395 [.ref c, uu] [] h (fun q h' => q = none ∧ BQc c 78 h0 h') := by
    intro h I
    have e : (iI 14).toNatClampNeg = 14 := by decide
    refine j_Ch_init_13 (kc := 163) (ks := 3381) ?_
    rw [e]
    exact ⟨by decide, by decide, by decide, by decide, BQ_oA I ho, l22 _ (BQ_a I rfl rfl (fun a ha => by unfold cFa; omega))⟩
  have e : (iI 42).toNatClampNeg = 42 := by decide
  have I0 : BQ c 0 cFa cSh (cPl c) cFd rm 0 h0 h0 := BQ_0 (by omega) hj
  refine jRet_of (by decide) (by decide) (Nat.le_of_ble_eq_true rfl) (j_Ch_init_0 ⟨by omega, j_Ch_init_4 (kc := 164) (ks := 3395) ?_⟩)
  rw [e]
  exact ⟨by decide, by decide, by decide, by decide, BQ_oA I0 ho, l13 _ (BQ_a I0 rfl rfl (fun a ha => absurd ha (Nat.not_lt_zero a)))⟩
end MAKE3
