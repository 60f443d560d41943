/-! 61 LightRoom$Patch begin (III)V -/
theorem k_Pa_begin_0 : okB 61 0 [(0, .aload_n 0, []), (1, .iload_n 3, []), (2, .putfield 9, [5, 0, 0]), (5, .aload_n 0, []), (6, .iload_n 1, []), (7, .putfield 15, [5, 1, 0])] 10 = true := by decide +kernel
theorem j_Pa_begin_0 {Q : jQ} {h : jHp} {kc ks : Nat} {x0 : Nat} {x1 : Int32} {x2 : Int32} {x3 : Int32} (H : isO h x0 5 ∧ isO (sI h x0 0 x3) x0 5 ∧ J 61 10 kc ks [.ref x0, uu, .int x2, uu] [] (sI (sI h x0 0 x3) x0 1 x1) Q) : J 61 0 kc ks [.ref x0, .int x1, .int x2, .int x3] [] h Q := J_run (nm := [1, 0, 1, 0]) k_Pa_begin_0 H
theorem k_Pa_begin_10 : okB 61 10 [(10, .aload_n 0, []), (11, .iload_n 2, []), (12, .putfield 18, [5, 2, 0]), (15, .aload_n 0, []), (16, .iconst 0, []), (17, .putfield 21, [5, 3, 0])] 20 = true := by decide +kernel
theorem j_Pa_begin_10 {Q : jQ} {h : jHp} {kc ks : Nat} {x0 : Nat} {x2 : Int32} (H : isO h x0 5 ∧ isO (sI h x0 2 x2) x0 5 ∧ J 61 20 kc ks [.ref x0, uu, uu, uu] [] (sI (sI h x0 2 x2) x0 3 (iI 0)) Q) : J 61 10 kc ks [.ref x0, uu, .int x2, uu] [] h Q := J_run (nm := [1, 0, 0, 0]) k_Pa_begin_10 H
theorem k_Pa_begin_20 : okB 61 20 [(20, .aload_n 0, []), (21, .iconst 1, []), (22, .putfield 24, [5, 4, 0]), (25, .aload_n 0, []), (26, .iconst 0, []), (27, .putfield 27, [5, 5, 0])] 30 = true := by decide +kernel
theorem j_Pa_begin_20 {Q : jQ} {h : jHp} {kc ks : Nat} {x0 : Nat} (H : isO h x0 5 ∧ isO (sI h x0 4 (iI 1)) x0 5 ∧ J 61 30 kc ks [.ref x0, uu, uu, uu] [] (sI (sI h x0 4 (iI 1)) x0 5 (iI 0)) Q) : J 61 20 kc ks [.ref x0, uu, uu, uu] [] h Q := J_run (nm := []) k_Pa_begin_20 H
theorem k_Pa_begin_30 : okB 61 30 [(30, .aload_n 0, []), (31, .iconst 0, []), (32, .putfield 30, [5, 6, 0]), (35, .aload_n 0, []), (36, .iconst 1, []), (37, .putfield 33, [5, 7, 0])] 40 = true := by decide +kernel
theorem j_Pa_begin_30 {Q : jQ} {h : jHp} {kc ks : Nat} {x0 : Nat} (H : isO h x0 5 ∧ isO (sI h x0 6 (iI 0)) x0 5 ∧ J 61 40 kc ks [.ref x0, uu, uu, uu] [] (sI (sI h x0 6 (iI 0)) x0 7 (iI 1)) Q) : J 61 30 kc ks [.ref x0, uu, uu, uu] [] h Q := J_run (nm := []) k_Pa_begin_30 H
theorem k_Pa_begin_40 : okB 61 40 [(40, .aload_n 0, []), (41, .sipush 10000, []), (44, .putfield 36, [5, 8, 0]), (47, .return_, [])] 0 = true := by decide +kernel
theorem j_Pa_begin_40 {Q : jQ} {h : jHp} {kc ks : Nat} {x0 : Nat} (H : isO h x0 5 ∧ Q none (sI h x0 8 (iI 10000))) : J 61 40 kc ks [.ref x0, uu, uu, uu] [] h Q := J_run (nm := []) k_Pa_begin_40 H

/-! 62 LightRoom$Patch fact (I)I -/
theorem k_Pa_fact_0 : okB 62 0 [(0, .iload_n 1, []), (1, .tableswitch 96 0 8 #[51, 56, 61, 66, 71, 76, 81, 86, 91], [97, 52, 57, 62, 67, 72, 77, 82, 87, 92])] 0 = true := by decide +kernel
theorem j_Pa_fact_0 {Q : jQ} {h : jHp} {kc ks : Nat} {x0 : Nat} {x1 : Int32} (H : ((x1.toInt < 0 ∨ 8 < x1.toInt) → J 62 97 kc ks [.ref x0, .int x1] [] h Q) ∧ ∀ (j t : Nat), [52, 57, 62, 67, 72, 77, 82, 87, 92][j]? = some t → x1.toInt = 0 + j → J 62 t kc ks [.ref x0, .int x1] [] h Q) : J 62 0 kc ks [.ref x0, .int x1] [] h Q := J_run (nm := []) k_Pa_fact_0 H
theorem k_Pa_fact_52 : okB 62 52 [(52, .aload_n 0, []), (53, .getfield 9, [5, 0, 0]), (56, .ireturn, [])] 0 = true := by decide +kernel
theorem j_Pa_fact_52 {Q : jQ} {h : jHp} {kc ks : Nat} {x0 : Nat} (H : isO h x0 5 ∧ Q (some (.int (gI h x0 0))) h) : J 62 52 kc ks [.ref x0, uu] [] h Q := J_run (nm := []) k_Pa_fact_52 H
theorem k_Pa_fact_57 : okB 62 57 [(57, .aload_n 0, []), (58, .getfield 15, [5, 1, 0]), (61, .ireturn, [])] 0 = true := by decide +kernel
theorem j_Pa_fact_57 {Q : jQ} {h : jHp} {kc ks : Nat} {x0 : Nat} (H : isO h x0 5 ∧ Q (some (.int (gI h x0 1))) h) : J 62 57 kc ks [.ref x0, uu] [] h Q := J_run (nm := []) k_Pa_fact_57 H
theorem k_Pa_fact_62 : okB 62 62 [(62, .aload_n 0, []), (63, .getfield 18, [5, 2, 0]), (66, .ireturn, [])] 0 = true := by decide +kernel
theorem j_Pa_fact_62 {Q : jQ} {h : jHp} {kc ks : Nat} {x0 : Nat} (H : isO h x0 5 ∧ Q (some (.int (gI h x0 2))) h) : J 62 62 kc ks [.ref x0, uu] [] h Q := J_run (nm := []) k_Pa_fact_62 H
theorem k_Pa_fact_67 : okB 62 67 [(67, .aload_n 0, []), (68, .getfield 21, [5, 3, 0]), (71, .ireturn, [])] 0 = true := by decide +kernel
theorem j_Pa_fact_67 {Q : jQ} {h : jHp} {kc ks : Nat} {x0 : Nat} (H : isO h x0 5 ∧ Q (some (.int (gI h x0 3))) h) : J 62 67 kc ks [.ref x0, uu] [] h Q := J_run (nm := []) k_Pa_fact_67 H
theorem k_Pa_fact_72 : okB 62 72 [(72, .aload_n 0, []), (73, .getfield 24, [5, 4, 0]), (76, .ireturn, [])] 0 = true := by decide +kernel
theorem j_Pa_fact_72 {Q : jQ} {h : jHp} {kc ks : Nat} {x0 : Nat} (H : isO h x0 5 ∧ Q (some (.int (gI h x0 4))) h) : J 62 72 kc ks [.ref x0, uu] [] h Q := J_run (nm := []) k_Pa_fact_72 H
theorem k_Pa_fact_77 : okB 62 77 [(77, .aload_n 0, []), (78, .getfield 27, [5, 5, 0]), (81, .ireturn, [])] 0 = true := by decide +kernel
theorem j_Pa_fact_77 {Q : jQ} {h : jHp} {kc ks : Nat} {x0 : Nat} (H : isO h x0 5 ∧ Q (some (.int (gI h x0 5))) h) : J 62 77 kc ks [.ref x0, uu] [] h Q := J_run (nm := []) k_Pa_fact_77 H
theorem k_Pa_fact_82 : okB 62 82 [(82, .aload_n 0, []), (83, .getfield 30, [5, 6, 0]), (86, .ireturn, [])] 0 = true := by decide +kernel
theorem j_Pa_fact_82 {Q : jQ} {h : jHp} {kc ks : Nat} {x0 : Nat} (H : isO h x0 5 ∧ Q (some (.int (gI h x0 6))) h) : J 62 82 kc ks [.ref x0, uu] [] h Q := J_run (nm := []) k_Pa_fact_82 H
theorem k_Pa_fact_87 : okB 62 87 [(87, .aload_n 0, []), (88, .getfield 33, [5, 7, 0]), (91, .ireturn, [])] 0 = true := by decide +kernel
theorem j_Pa_fact_87 {Q : jQ} {h : jHp} {kc ks : Nat} {x0 : Nat} (H : isO h x0 5 ∧ Q (some (.int (gI h x0 7))) h) : J 62 87 kc ks [.ref x0, uu] [] h Q := J_run (nm := []) k_Pa_fact_87 H
theorem k_Pa_fact_92 : okB 62 92 [(92, .aload_n 0, []), (93, .getfield 36, [5, 8, 0]), (96, .ireturn, [])] 0 = true := by decide +kernel
theorem j_Pa_fact_92 {Q : jQ} {h : jHp} {kc ks : Nat} {x0 : Nat} (H : isO h x0 5 ∧ Q (some (.int (gI h x0 8))) h) : J 62 92 kc ks [.ref x0, uu] [] h Q := J_run (nm := []) k_Pa_fact_92 H
theorem k_Pa_fact_97 : okB 62 97 [(97, .iconst (-1), []), (98, .ireturn, [])] 0 = true := by decide +kernel
theorem j_Pa_fact_97 {Q : jQ} {h : jHp} {kc ks : Nat} (H : Q (some (.int (iI (-1)))) h) : J 62 97 kc ks [uu, uu] [] h Q := J_run (nm := []) k_Pa_fact_97 H
