section
-- ===== PART A: goes FIRST, ahead of the names: the tables' words, and 'selects' of the private methods out of them =====
/-- a private method of a class that the tables say can be made, by its rows of tables_1 -/
def lw_okq (q : MethodName × Nat) : Prop := (q.1.cls ≠ "java/lang/invoke/MethodHandle" ∧ q.1.cls ≠ "java/lang/invoke/VarHandle") ∧ Cond.instantiable q.1.cls q.2 ∈ tables_1 ∧ Cond.privateMethod q.1 ∈ tables_1 ∧ Cond.instanceMethod q.1 ∈ tables_1
theorem lw_p0 : lw_okq (⟨"LightRoom", "cornerStatus", "(II)I"⟩, 7) := ⟨⟨by decide +kernel, by decide +kernel⟩, List.mem_of_getElem? (i := 14) (by decide +kernel), List.mem_of_getElem? (i := 356) (by decide +kernel), List.mem_of_getElem? (i := 357) (by decide +kernel)⟩
theorem lw_p1 : lw_okq (⟨"LightRoom", "newPatchStatus", "(III)I"⟩, 7) := ⟨⟨by decide +kernel, by decide +kernel⟩, List.mem_of_getElem? (i := 14) (by decide +kernel), List.mem_of_getElem? (i := 375) (by decide +kernel), List.mem_of_getElem? (i := 376) (by decide +kernel)⟩
theorem lw_p2 : lw_okq (⟨"LightRoom$Walls", "meets", "(IIII)Z"⟩, 7) := ⟨⟨by decide +kernel, by decide +kernel⟩, List.mem_of_getElem? (i := 22) (by decide +kernel), List.mem_of_getElem? (i := 387) (by decide +kernel), List.mem_of_getElem? (i := 388) (by decide +kernel)⟩
theorem lw_p3 : lw_okq (⟨"LightRoom$Walls", "crosses", "(IIII)Z"⟩, 7) := ⟨⟨by decide +kernel, by decide +kernel⟩, List.mem_of_getElem? (i := 22) (by decide +kernel), List.mem_of_getElem? (i := 391) (by decide +kernel), List.mem_of_getElem? (i := 392) (by decide +kernel)⟩
theorem lw_p4 : lw_okq (⟨"LightRoom$Walls", "side", "(III)J"⟩, 7) := ⟨⟨by decide +kernel, by decide +kernel⟩, List.mem_of_getElem? (i := 22) (by decide +kernel), List.mem_of_getElem? (i := 395) (by decide +kernel), List.mem_of_getElem? (i := 396) (by decide +kernel)⟩
theorem lw_p5 : lw_okq (⟨"LightRoom$Walls", "isWithin", "(III)Z"⟩, 7) := ⟨⟨by decide +kernel, by decide +kernel⟩, List.mem_of_getElem? (i := 22) (by decide +kernel), List.mem_of_getElem? (i := 399) (by decide +kernel), List.mem_of_getElem? (i := 400) (by decide +kernel)⟩
theorem lw_p6 : lw_okq (⟨"LightRoom", "sharesChanged", "()V"⟩, 7) := ⟨⟨by decide +kernel, by decide +kernel⟩, List.mem_of_getElem? (i := 14) (by decide +kernel), List.mem_of_getElem? (i := 403) (by decide +kernel), List.mem_of_getElem? (i := 404) (by decide +kernel)⟩
theorem lw_p7 : lw_okq (⟨"LightRoom", "onStatus", "(III)I"⟩, 7) := ⟨⟨by decide +kernel, by decide +kernel⟩, List.mem_of_getElem? (i := 14) (by decide +kernel), List.mem_of_getElem? (i := 419) (by decide +kernel), List.mem_of_getElem? (i := 420) (by decide +kernel)⟩
theorem lw_p8 : lw_okq (⟨"LightRoom", "ownStatus", "(II)I"⟩, 7) := ⟨⟨by decide +kernel, by decide +kernel⟩, List.mem_of_getElem? (i := 14) (by decide +kernel), List.mem_of_getElem? (i := 431) (by decide +kernel), List.mem_of_getElem? (i := 432) (by decide +kernel)⟩
theorem lw_p9 : lw_okq (⟨"LightRoom", "numberStatus", "(III)I"⟩, 7) := ⟨⟨by decide +kernel, by decide +kernel⟩, List.mem_of_getElem? (i := 14) (by decide +kernel), List.mem_of_getElem? (i := 435) (by decide +kernel), List.mem_of_getElem? (i := 436) (by decide +kernel)⟩
theorem lw_p10 : lw_okq (⟨"LightRoom", "lampsChanged", "()V"⟩, 7) := ⟨⟨by decide +kernel, by decide +kernel⟩, List.mem_of_getElem? (i := 14) (by decide +kernel), List.mem_of_getElem? (i := 439) (by decide +kernel), List.mem_of_getElem? (i := 440) (by decide +kernel)⟩
theorem lw_p11 : lw_okq (⟨"LightRoom", "pairStatus", "(II)I"⟩, 7) := ⟨⟨by decide +kernel, by decide +kernel⟩, List.mem_of_getElem? (i := 14) (by decide +kernel), List.mem_of_getElem? (i := 455) (by decide +kernel), List.mem_of_getElem? (i := 456) (by decide +kernel)⟩
theorem lw_p12 : lw_okq (⟨"LightRoom$Walls", "isRingFree", "(II)Z"⟩, 7) := ⟨⟨by decide +kernel, by decide +kernel⟩, List.mem_of_getElem? (i := 22) (by decide +kernel), List.mem_of_getElem? (i := 469) (by decide +kernel), List.mem_of_getElem? (i := 470) (by decide +kernel)⟩
theorem lw_p13 : lw_okq (⟨"LightRoom$Walls", "entersRing", "(II)Z"⟩, 7) := ⟨⟨by decide +kernel, by decide +kernel⟩, List.mem_of_getElem? (i := 22) (by decide +kernel), List.mem_of_getElem? (i := 473) (by decide +kernel), List.mem_of_getElem? (i := 474) (by decide +kernel)⟩
theorem lw_p14 : lw_okq (⟨"LightRoom$Walls", "lengthUp", "(III)J"⟩, 7) := ⟨⟨by decide +kernel, by decide +kernel⟩, List.mem_of_getElem? (i := 22) (by decide +kernel), List.mem_of_getElem? (i := 487) (by decide +kernel), List.mem_of_getElem? (i := 488) (by decide +kernel)⟩
theorem lw_p15 : lw_okq (⟨"LightRoom$Walls", "square", "(III)J"⟩, 7) := ⟨⟨by decide +kernel, by decide +kernel⟩, List.mem_of_getElem? (i := 22) (by decide +kernel), List.mem_of_getElem? (i := 491) (by decide +kernel), List.mem_of_getElem? (i := 492) (by decide +kernel)⟩
def lw_privs_1 : List (MethodName × Nat) := [(⟨"LightRoom", "cornerStatus", "(II)I"⟩, 7), (⟨"LightRoom", "newPatchStatus", "(III)I"⟩, 7), (⟨"LightRoom$Walls", "meets", "(IIII)Z"⟩, 7), (⟨"LightRoom$Walls", "crosses", "(IIII)Z"⟩, 7), (⟨"LightRoom$Walls", "side", "(III)J"⟩, 7), (⟨"LightRoom$Walls", "isWithin", "(III)Z"⟩, 7), (⟨"LightRoom", "sharesChanged", "()V"⟩, 7), (⟨"LightRoom", "onStatus", "(III)I"⟩, 7), (⟨"LightRoom", "ownStatus", "(II)I"⟩, 7), (⟨"LightRoom", "numberStatus", "(III)I"⟩, 7), (⟨"LightRoom", "lampsChanged", "()V"⟩, 7), (⟨"LightRoom", "pairStatus", "(II)I"⟩, 7), (⟨"LightRoom$Walls", "isRingFree", "(II)Z"⟩, 7), (⟨"LightRoom$Walls", "entersRing", "(II)Z"⟩, 7), (⟨"LightRoom$Walls", "lengthUp", "(III)J"⟩, 7), (⟨"LightRoom$Walls", "square", "(III)J"⟩, 7)]
theorem lw_r1 : ∀ q ∈ lw_privs_1, lw_okq q := List.forall_mem_cons.mpr ⟨lw_p0, List.forall_mem_cons.mpr ⟨lw_p1, List.forall_mem_cons.mpr ⟨lw_p2, List.forall_mem_cons.mpr ⟨lw_p3, List.forall_mem_cons.mpr ⟨lw_p4, List.forall_mem_cons.mpr ⟨lw_p5, List.forall_mem_cons.mpr ⟨lw_p6, List.forall_mem_cons.mpr ⟨lw_p7, List.forall_mem_cons.mpr ⟨lw_p8, List.forall_mem_cons.mpr ⟨lw_p9, List.forall_mem_cons.mpr ⟨lw_p10, List.forall_mem_cons.mpr ⟨lw_p11, List.forall_mem_cons.mpr ⟨lw_p12, List.forall_mem_cons.mpr ⟨lw_p13, List.forall_mem_cons.mpr ⟨lw_p14, List.forall_mem_cons.mpr ⟨lw_p15, fun _ h => absurd h List.not_mem_nil⟩⟩⟩⟩⟩⟩⟩⟩⟩⟩⟩⟩⟩⟩⟩⟩
theorem lw_p16 : lw_okq (⟨"LightRoom$Walls", "lengthDown", "(III)J"⟩, 7) := ⟨⟨by decide +kernel, by decide +kernel⟩, List.mem_of_getElem? (i := 22) (by decide +kernel), List.mem_of_getElem? (i := 498) (by decide +kernel), List.mem_of_getElem? (i := 499) (by decide +kernel)⟩
theorem lw_p17 : lw_okq (⟨"LightRoom", "shareStatus", "(III)I"⟩, 7) := ⟨⟨by decide +kernel, by decide +kernel⟩, List.mem_of_getElem? (i := 14) (by decide +kernel), List.mem_of_getElem? (i := 507) (by decide +kernel), List.mem_of_getElem? (i := 508) (by decide +kernel)⟩
theorem lw_p18 : lw_okq (⟨"LightRoom$Walls", "crossedUp", "(III)J"⟩, 7) := ⟨⟨by decide +kernel, by decide +kernel⟩, List.mem_of_getElem? (i := 22) (by decide +kernel), List.mem_of_getElem? (i := 515) (by decide +kernel), List.mem_of_getElem? (i := 516) (by decide +kernel)⟩
theorem lw_p19 : lw_okq (⟨"LightRoom$Walls", "uncrossedDown", "(III)J"⟩, 7) := ⟨⟨by decide +kernel, by decide +kernel⟩, List.mem_of_getElem? (i := 22) (by decide +kernel), List.mem_of_getElem? (i := 519) (by decide +kernel), List.mem_of_getElem? (i := 520) (by decide +kernel)⟩
theorem lw_p20 : lw_okq (⟨"LightRoom$Walls", "crossedDown", "(III)J"⟩, 7) := ⟨⟨by decide +kernel, by decide +kernel⟩, List.mem_of_getElem? (i := 22) (by decide +kernel), List.mem_of_getElem? (i := 528) (by decide +kernel), List.mem_of_getElem? (i := 529) (by decide +kernel)⟩
theorem lw_p21 : lw_okq (⟨"LightRoom$Walls", "uncrossedUp", "(III)J"⟩, 7) := ⟨⟨by decide +kernel, by decide +kernel⟩, List.mem_of_getElem? (i := 22) (by decide +kernel), List.mem_of_getElem? (i := 532) (by decide +kernel), List.mem_of_getElem? (i := 533) (by decide +kernel)⟩
theorem lw_p22 : lw_okq (⟨"LightRoom", "tableStatus", "(III)I"⟩, 7) := ⟨⟨by decide +kernel, by decide +kernel⟩, List.mem_of_getElem? (i := 14) (by decide +kernel), List.mem_of_getElem? (i := 560) (by decide +kernel), List.mem_of_getElem? (i := 561) (by decide +kernel)⟩
theorem lw_p23 : lw_okq (⟨"LightRoom", "patchStatus", "(I)I"⟩, 7) := ⟨⟨by decide +kernel, by decide +kernel⟩, List.mem_of_getElem? (i := 14) (by decide +kernel), List.mem_of_getElem? (i := 572) (by decide +kernel), List.mem_of_getElem? (i := 573) (by decide +kernel)⟩
theorem lw_p24 : lw_okq (⟨"LightRoom$Glow", "lay", "(LLightRoom$Walls;LLightRoom$Table;)V"⟩, 6) := ⟨⟨by decide +kernel, by decide +kernel⟩, List.mem_of_getElem? (i := 138) (by decide +kernel), List.mem_of_getElem? (i := 580) (by decide +kernel), List.mem_of_getElem? (i := 581) (by decide +kernel)⟩
theorem lw_p25 : lw_okq (⟨"LightRoom$Glow", "turnAbout", "(II)V"⟩, 6) := ⟨⟨by decide +kernel, by decide +kernel⟩, List.mem_of_getElem? (i := 138) (by decide +kernel), List.mem_of_getElem? (i := 590) (by decide +kernel), List.mem_of_getElem? (i := 591) (by decide +kernel)⟩
theorem lw_p26 : lw_okq (⟨"LightRoom$Big", "addRow", "(JLLightRoom$Big;I)V"⟩, 3) := ⟨⟨by decide +kernel, by decide +kernel⟩, List.mem_of_getElem? (i := 145) (by decide +kernel), List.mem_of_getElem? (i := 601) (by decide +kernel), List.mem_of_getElem? (i := 602) (by decide +kernel)⟩
theorem lw_p27 : lw_okq (⟨"LightRoom$Big", "trim", "()V"⟩, 3) := ⟨⟨by decide +kernel, by decide +kernel⟩, List.mem_of_getElem? (i := 145) (by decide +kernel), List.mem_of_getElem? (i := 605) (by decide +kernel), List.mem_of_getElem? (i := 606) (by decide +kernel)⟩
theorem lw_p28 : lw_okq (⟨"LightRoom$Big", "raise", "(LLightRoom$Big;)V"⟩, 3) := ⟨⟨by decide +kernel, by decide +kernel⟩, List.mem_of_getElem? (i := 145) (by decide +kernel), List.mem_of_getElem? (i := 613) (by decide +kernel), List.mem_of_getElem? (i := 614) (by decide +kernel)⟩
theorem lw_p29 : lw_okq (⟨"LightRoom$Big", "extend", "(J)V"⟩, 3) := ⟨⟨by decide +kernel, by decide +kernel⟩, List.mem_of_getElem? (i := 145) (by decide +kernel), List.mem_of_getElem? (i := 618) (by decide +kernel), List.mem_of_getElem? (i := 619) (by decide +kernel)⟩
theorem lw_p30 : lw_okq (⟨"LightRoom$Big", "lower", "(LLightRoom$Big;)V"⟩, 3) := ⟨⟨by decide +kernel, by decide +kernel⟩, List.mem_of_getElem? (i := 145) (by decide +kernel), List.mem_of_getElem? (i := 626) (by decide +kernel), List.mem_of_getElem? (i := 627) (by decide +kernel)⟩
theorem lw_p31 : lw_okq (⟨"LightRoom$Big", "lowerFrom", "(LLightRoom$Big;)V"⟩, 3) := ⟨⟨by decide +kernel, by decide +kernel⟩, List.mem_of_getElem? (i := 145) (by decide +kernel), List.mem_of_getElem? (i := 630) (by decide +kernel), List.mem_of_getElem? (i := 631) (by decide +kernel)⟩
def lw_privs_2 : List (MethodName × Nat) := [(⟨"LightRoom$Walls", "lengthDown", "(III)J"⟩, 7), (⟨"LightRoom", "shareStatus", "(III)I"⟩, 7), (⟨"LightRoom$Walls", "crossedUp", "(III)J"⟩, 7), (⟨"LightRoom$Walls", "uncrossedDown", "(III)J"⟩, 7), (⟨"LightRoom$Walls", "crossedDown", "(III)J"⟩, 7), (⟨"LightRoom$Walls", "uncrossedUp", "(III)J"⟩, 7), (⟨"LightRoom", "tableStatus", "(III)I"⟩, 7), (⟨"LightRoom", "patchStatus", "(I)I"⟩, 7), (⟨"LightRoom$Glow", "lay", "(LLightRoom$Walls;LLightRoom$Table;)V"⟩, 6), (⟨"LightRoom$Glow", "turnAbout", "(II)V"⟩, 6), (⟨"LightRoom$Big", "addRow", "(JLLightRoom$Big;I)V"⟩, 3), (⟨"LightRoom$Big", "trim", "()V"⟩, 3), (⟨"LightRoom$Big", "raise", "(LLightRoom$Big;)V"⟩, 3), (⟨"LightRoom$Big", "extend", "(J)V"⟩, 3), (⟨"LightRoom$Big", "lower", "(LLightRoom$Big;)V"⟩, 3), (⟨"LightRoom$Big", "lowerFrom", "(LLightRoom$Big;)V"⟩, 3)]
theorem lw_r2 : ∀ q ∈ lw_privs_2, lw_okq q := List.forall_mem_cons.mpr ⟨lw_p16, List.forall_mem_cons.mpr ⟨lw_p17, List.forall_mem_cons.mpr ⟨lw_p18, List.forall_mem_cons.mpr ⟨lw_p19, List.forall_mem_cons.mpr ⟨lw_p20, List.forall_mem_cons.mpr ⟨lw_p21, List.forall_mem_cons.mpr ⟨lw_p22, List.forall_mem_cons.mpr ⟨lw_p23, List.forall_mem_cons.mpr ⟨lw_p24, List.forall_mem_cons.mpr ⟨lw_p25, List.forall_mem_cons.mpr ⟨lw_p26, List.forall_mem_cons.mpr ⟨lw_p27, List.forall_mem_cons.mpr ⟨lw_p28, List.forall_mem_cons.mpr ⟨lw_p29, List.forall_mem_cons.mpr ⟨lw_p30, List.forall_mem_cons.mpr ⟨lw_p31, fun _ h => absurd h List.not_mem_nil⟩⟩⟩⟩⟩⟩⟩⟩⟩⟩⟩⟩⟩⟩⟩⟩
theorem lw_p32 : lw_okq (⟨"LightRoom$Big", "takeAway", "(LLightRoom$Big;I)I"⟩, 3) := ⟨⟨by decide +kernel, by decide +kernel⟩, List.mem_of_getElem? (i := 145) (by decide +kernel), List.mem_of_getElem? (i := 638) (by decide +kernel), List.mem_of_getElem? (i := 639) (by decide +kernel)⟩
theorem lw_p33 : lw_okq (⟨"LightRoom$Big", "limbAt", "(I)I"⟩, 3) := ⟨⟨by decide +kernel, by decide +kernel⟩, List.mem_of_getElem? (i := 145) (by decide +kernel), List.mem_of_getElem? (i := 642) (by decide +kernel), List.mem_of_getElem? (i := 643) (by decide +kernel)⟩
theorem lw_p34 : lw_okq (⟨"LightRoom$Big", "takeTimes", "(LLightRoom$Big;JI)J"⟩, 3) := ⟨⟨by decide +kernel, by decide +kernel⟩, List.mem_of_getElem? (i := 145) (by decide +kernel), List.mem_of_getElem? (i := 646) (by decide +kernel), List.mem_of_getElem? (i := 647) (by decide +kernel)⟩
theorem lw_p35 : lw_okq (⟨"LightRoom$Big", "giveBack", "(LLightRoom$Big;I)I"⟩, 3) := ⟨⟨by decide +kernel, by decide +kernel⟩, List.mem_of_getElem? (i := 145) (by decide +kernel), List.mem_of_getElem? (i := 651) (by decide +kernel), List.mem_of_getElem? (i := 652) (by decide +kernel)⟩
theorem lw_p36 : lw_okq (⟨"LightRoom$Glow", "scaleColumns", "(LLightRoom$Walls;I)V"⟩, 6) := ⟨⟨by decide +kernel, by decide +kernel⟩, List.mem_of_getElem? (i := 138) (by decide +kernel), List.mem_of_getElem? (i := 666) (by decide +kernel), List.mem_of_getElem? (i := 667) (by decide +kernel)⟩
theorem lw_p37 : lw_okq (⟨"LightRoom$Out", "write", "(LLightRoom$Big;)V"⟩, 7) := ⟨⟨by decide +kernel, by decide +kernel⟩, List.mem_of_getElem? (i := 287) (by decide +kernel), List.mem_of_getElem? (i := 693) (by decide +kernel), List.mem_of_getElem? (i := 694) (by decide +kernel)⟩
theorem lw_p38 : lw_okq (⟨"LightRoom$Out", "put", "(I)V"⟩, 7) := ⟨⟨by decide +kernel, by decide +kernel⟩, List.mem_of_getElem? (i := 287) (by decide +kernel), List.mem_of_getElem? (i := 697) (by decide +kernel), List.mem_of_getElem? (i := 698) (by decide +kernel)⟩
theorem lw_p39 : lw_okq (⟨"LightRoom$Out", "writeLimb", "(IZ)Z"⟩, 7) := ⟨⟨by decide +kernel, by decide +kernel⟩, List.mem_of_getElem? (i := 287) (by decide +kernel), List.mem_of_getElem? (i := 701) (by decide +kernel), List.mem_of_getElem? (i := 702) (by decide +kernel)⟩
theorem lw_p40 : lw_okq (⟨"LightRoom$Bounces", "bounceAt", "(ILLightRoom$Walls;LLightRoom$Table;)V"⟩, 8) := ⟨⟨by decide +kernel, by decide +kernel⟩, List.mem_of_getElem? (i := 194) (by decide +kernel), List.mem_of_getElem? (i := 725) (by decide +kernel), List.mem_of_getElem? (i := 726) (by decide +kernel)⟩
theorem lw_p41 : lw_okq (⟨"LightRoom", "bouncesNeeded", "(I)I"⟩, 7) := ⟨⟨by decide +kernel, by decide +kernel⟩, List.mem_of_getElem? (i := 14) (by decide +kernel), List.mem_of_getElem? (i := 738) (by decide +kernel), List.mem_of_getElem? (i := 739) (by decide +kernel)⟩
theorem lw_p42 : lw_okq (⟨"LightRoom", "priceStatus", "(III)I"⟩, 7) := ⟨⟨by decide +kernel, by decide +kernel⟩, List.mem_of_getElem? (i := 14) (by decide +kernel), List.mem_of_getElem? (i := 765) (by decide +kernel), List.mem_of_getElem? (i := 766) (by decide +kernel)⟩
theorem lw_p43 : lw_okq (⟨"LightRoom", "lampStatus", "(I)I"⟩, 7) := ⟨⟨by decide +kernel, by decide +kernel⟩, List.mem_of_getElem? (i := 14) (by decide +kernel), List.mem_of_getElem? (i := 769) (by decide +kernel), List.mem_of_getElem? (i := 770) (by decide +kernel)⟩
theorem lw_p44 : lw_okq (⟨"LightRoom$Cheapest", "nameLamps", "(LLightRoom$Walls;)V"⟩, 15) := ⟨⟨by decide +kernel, by decide +kernel⟩, List.mem_of_getElem? (i := 229) (by decide +kernel), List.mem_of_getElem? (i := 781) (by decide +kernel), List.mem_of_getElem? (i := 782) (by decide +kernel)⟩
theorem lw_p45 : lw_okq (⟨"LightRoom$Cheapest", "layPatchRows", "(LLightRoom$Walls;LLightRoom$Glow;)V"⟩, 15) := ⟨⟨by decide +kernel, by decide +kernel⟩, List.mem_of_getElem? (i := 229) (by decide +kernel), List.mem_of_getElem? (i := 785) (by decide +kernel), List.mem_of_getElem? (i := 786) (by decide +kernel)⟩
theorem lw_p46 : lw_okq (⟨"LightRoom$Cheapest", "layBounds", "(LLightRoom$Walls;)V"⟩, 15) := ⟨⟨by decide +kernel, by decide +kernel⟩, List.mem_of_getElem? (i := 229) (by decide +kernel), List.mem_of_getElem? (i := 793) (by decide +kernel), List.mem_of_getElem? (i := 794) (by decide +kernel)⟩
theorem lw_p47 : lw_okq (⟨"LightRoom$Cheapest", "place", "()V"⟩, 15) := ⟨⟨by decide +kernel, by decide +kernel⟩, List.mem_of_getElem? (i := 229) (by decide +kernel), List.mem_of_getElem? (i := 799) (by decide +kernel), List.mem_of_getElem? (i := 800) (by decide +kernel)⟩
def lw_privs_3 : List (MethodName × Nat) := [(⟨"LightRoom$Big", "takeAway", "(LLightRoom$Big;I)I"⟩, 3), (⟨"LightRoom$Big", "limbAt", "(I)I"⟩, 3), (⟨"LightRoom$Big", "takeTimes", "(LLightRoom$Big;JI)J"⟩, 3), (⟨"LightRoom$Big", "giveBack", "(LLightRoom$Big;I)I"⟩, 3), (⟨"LightRoom$Glow", "scaleColumns", "(LLightRoom$Walls;I)V"⟩, 6), (⟨"LightRoom$Out", "write", "(LLightRoom$Big;)V"⟩, 7), (⟨"LightRoom$Out", "put", "(I)V"⟩, 7), (⟨"LightRoom$Out", "writeLimb", "(IZ)Z"⟩, 7), (⟨"LightRoom$Bounces", "bounceAt", "(ILLightRoom$Walls;LLightRoom$Table;)V"⟩, 8), (⟨"LightRoom", "bouncesNeeded", "(I)I"⟩, 7), (⟨"LightRoom", "priceStatus", "(III)I"⟩, 7), (⟨"LightRoom", "lampStatus", "(I)I"⟩, 7), (⟨"LightRoom$Cheapest", "nameLamps", "(LLightRoom$Walls;)V"⟩, 15), (⟨"LightRoom$Cheapest", "layPatchRows", "(LLightRoom$Walls;LLightRoom$Glow;)V"⟩, 15), (⟨"LightRoom$Cheapest", "layBounds", "(LLightRoom$Walls;)V"⟩, 15), (⟨"LightRoom$Cheapest", "place", "()V"⟩, 15)]
theorem lw_r3 : ∀ q ∈ lw_privs_3, lw_okq q := List.forall_mem_cons.mpr ⟨lw_p32, List.forall_mem_cons.mpr ⟨lw_p33, List.forall_mem_cons.mpr ⟨lw_p34, List.forall_mem_cons.mpr ⟨lw_p35, List.forall_mem_cons.mpr ⟨lw_p36, List.forall_mem_cons.mpr ⟨lw_p37, List.forall_mem_cons.mpr ⟨lw_p38, List.forall_mem_cons.mpr ⟨lw_p39, List.forall_mem_cons.mpr ⟨lw_p40, List.forall_mem_cons.mpr ⟨lw_p41, List.forall_mem_cons.mpr ⟨lw_p42, List.forall_mem_cons.mpr ⟨lw_p43, List.forall_mem_cons.mpr ⟨lw_p44, List.forall_mem_cons.mpr ⟨lw_p45, List.forall_mem_cons.mpr ⟨lw_p46, List.forall_mem_cons.mpr ⟨lw_p47, fun _ h => absurd h List.not_mem_nil⟩⟩⟩⟩⟩⟩⟩⟩⟩⟩⟩⟩⟩⟩⟩⟩
theorem lw_p48 : lw_okq (⟨"LightRoom$Cheapest", "setWay", "(II)V"⟩, 15) := ⟨⟨by decide +kernel, by decide +kernel⟩, List.mem_of_getElem? (i := 229) (by decide +kernel), List.mem_of_getElem? (i := 803) (by decide +kernel), List.mem_of_getElem? (i := 804) (by decide +kernel)⟩
theorem lw_p49 : lw_okq (⟨"LightRoom$Cheapest", "firstBroken", "()I"⟩, 15) := ⟨⟨by decide +kernel, by decide +kernel⟩, List.mem_of_getElem? (i := 229) (by decide +kernel), List.mem_of_getElem? (i := 814) (by decide +kernel), List.mem_of_getElem? (i := 815) (by decide +kernel)⟩
theorem lw_p50 : lw_okq (⟨"LightRoom$Cheapest", "placeToLeave", "(I)I"⟩, 15) := ⟨⟨by decide +kernel, by decide +kernel⟩, List.mem_of_getElem? (i := 229) (by decide +kernel), List.mem_of_getElem? (i := 818) (by decide +kernel), List.mem_of_getElem? (i := 819) (by decide +kernel)⟩
theorem lw_p51 : lw_okq (⟨"LightRoom$Cheapest", "isBefore", "(II)Z"⟩, 15) := ⟨⟨by decide +kernel, by decide +kernel⟩, List.mem_of_getElem? (i := 229) (by decide +kernel), List.mem_of_getElem? (i := 823) (by decide +kernel), List.mem_of_getElem? (i := 824) (by decide +kernel)⟩
theorem lw_p52 : lw_okq (⟨"LightRoom$Cheapest", "compareBy", "(LLightRoom$Big;LLightRoom$Big;II)I"⟩, 15) := ⟨⟨by decide +kernel, by decide +kernel⟩, List.mem_of_getElem? (i := 229) (by decide +kernel), List.mem_of_getElem? (i := 827) (by decide +kernel), List.mem_of_getElem? (i := 828) (by decide +kernel)⟩
theorem lw_p53 : lw_okq (⟨"LightRoom$Cheapest", "addPrices", "()V"⟩, 15) := ⟨⟨by decide +kernel, by decide +kernel⟩, List.mem_of_getElem? (i := 229) (by decide +kernel), List.mem_of_getElem? (i := 831) (by decide +kernel), List.mem_of_getElem? (i := 832) (by decide +kernel)⟩
theorem lw_p54 : lw_okq (⟨"LightRoomModel", "refuse", "(I)I"⟩, 39) := ⟨⟨by decide +kernel, by decide +kernel⟩, List.mem_of_getElem? (i := 843) (by decide +kernel), List.mem_of_getElem? (i := 976) (by decide +kernel), List.mem_of_getElem? (i := 977) (by decide +kernel)⟩
theorem lw_p55 : lw_okq (⟨"LightRoomModel", "isCorner", "(I)Z"⟩, 39) := ⟨⟨by decide +kernel, by decide +kernel⟩, List.mem_of_getElem? (i := 843) (by decide +kernel), List.mem_of_getElem? (i := 984) (by decide +kernel), List.mem_of_getElem? (i := 985) (by decide +kernel)⟩
theorem lw_p56 : lw_okq (⟨"LightRoomModel", "meet", "(IIII)Z"⟩, 39) := ⟨⟨by decide +kernel, by decide +kernel⟩, List.mem_of_getElem? (i := 843) (by decide +kernel), List.mem_of_getElem? (i := 988) (by decide +kernel), List.mem_of_getElem? (i := 989) (by decide +kernel)⟩
theorem lw_p57 : lw_okq (⟨"LightRoomModel", "isWithin", "(III)Z"⟩, 39) := ⟨⟨by decide +kernel, by decide +kernel⟩, List.mem_of_getElem? (i := 843) (by decide +kernel), List.mem_of_getElem? (i := 992) (by decide +kernel), List.mem_of_getElem? (i := 993) (by decide +kernel)⟩
theorem lw_p58 : lw_okq (⟨"LightRoomModel", "side", "(III)J"⟩, 39) := ⟨⟨by decide +kernel, by decide +kernel⟩, List.mem_of_getElem? (i := 843) (by decide +kernel), List.mem_of_getElem? (i := 996) (by decide +kernel), List.mem_of_getElem? (i := 997) (by decide +kernel)⟩
theorem lw_p59 : lw_okq (⟨"LightRoomModel", "isPatch", "(I)Z"⟩, 39) := ⟨⟨by decide +kernel, by decide +kernel⟩, List.mem_of_getElem? (i := 843) (by decide +kernel), List.mem_of_getElem? (i := 1007) (by decide +kernel), List.mem_of_getElem? (i := 1008) (by decide +kernel)⟩
theorem lw_p60 : lw_okq (⟨"LightRoomModel", "is", "(I)Z"⟩, 39) := ⟨⟨by decide +kernel, by decide +kernel⟩, List.mem_of_getElem? (i := 843) (by decide +kernel), List.mem_of_getElem? (i := 1011) (by decide +kernel), List.mem_of_getElem? (i := 1012) (by decide +kernel)⟩
theorem lw_p61 : lw_okq (⟨"LightRoomModel", "sightOf", "(II)I"⟩, 39) := ⟨⟨by decide +kernel, by decide +kernel⟩, List.mem_of_getElem? (i := 843) (by decide +kernel), List.mem_of_getElem? (i := 1027) (by decide +kernel), List.mem_of_getElem? (i := 1028) (by decide +kernel)⟩
theorem lw_p62 : lw_okq (⟨"LightRoomModel", "isInside", "(I)Z"⟩, 39) := ⟨⟨by decide +kernel, by decide +kernel⟩, List.mem_of_getElem? (i := 843) (by decide +kernel), List.mem_of_getElem? (i := 1031) (by decide +kernel), List.mem_of_getElem? (i := 1032) (by decide +kernel)⟩
theorem lw_p63 : lw_okq (⟨"LightRoomModel", "string", "(IIIZ)J"⟩, 39) := ⟨⟨by decide +kernel, by decide +kernel⟩, List.mem_of_getElem? (i := 843) (by decide +kernel), List.mem_of_getElem? (i := 1040) (by decide +kernel), List.mem_of_getElem? (i := 1041) (by decide +kernel)⟩
def lw_privs_4 : List (MethodName × Nat) := [(⟨"LightRoom$Cheapest", "setWay", "(II)V"⟩, 15), (⟨"LightRoom$Cheapest", "firstBroken", "()I"⟩, 15), (⟨"LightRoom$Cheapest", "placeToLeave", "(I)I"⟩, 15), (⟨"LightRoom$Cheapest", "isBefore", "(II)Z"⟩, 15), (⟨"LightRoom$Cheapest", "compareBy", "(LLightRoom$Big;LLightRoom$Big;II)I"⟩, 15), (⟨"LightRoom$Cheapest", "addPrices", "()V"⟩, 15), (⟨"LightRoomModel", "refuse", "(I)I"⟩, 39), (⟨"LightRoomModel", "isCorner", "(I)Z"⟩, 39), (⟨"LightRoomModel", "meet", "(IIII)Z"⟩, 39), (⟨"LightRoomModel", "isWithin", "(III)Z"⟩, 39), (⟨"LightRoomModel", "side", "(III)J"⟩, 39), (⟨"LightRoomModel", "isPatch", "(I)Z"⟩, 39), (⟨"LightRoomModel", "is", "(I)Z"⟩, 39), (⟨"LightRoomModel", "sightOf", "(II)I"⟩, 39), (⟨"LightRoomModel", "isInside", "(I)Z"⟩, 39), (⟨"LightRoomModel", "string", "(IIIZ)J"⟩, 39)]
theorem lw_r4 : ∀ q ∈ lw_privs_4, lw_okq q := List.forall_mem_cons.mpr ⟨lw_p48, List.forall_mem_cons.mpr ⟨lw_p49, List.forall_mem_cons.mpr ⟨lw_p50, List.forall_mem_cons.mpr ⟨lw_p51, List.forall_mem_cons.mpr ⟨lw_p52, List.forall_mem_cons.mpr ⟨lw_p53, List.forall_mem_cons.mpr ⟨lw_p54, List.forall_mem_cons.mpr ⟨lw_p55, List.forall_mem_cons.mpr ⟨lw_p56, List.forall_mem_cons.mpr ⟨lw_p57, List.forall_mem_cons.mpr ⟨lw_p58, List.forall_mem_cons.mpr ⟨lw_p59, List.forall_mem_cons.mpr ⟨lw_p60, List.forall_mem_cons.mpr ⟨lw_p61, List.forall_mem_cons.mpr ⟨lw_p62, List.forall_mem_cons.mpr ⟨lw_p63, fun _ h => absurd h List.not_mem_nil⟩⟩⟩⟩⟩⟩⟩⟩⟩⟩⟩⟩⟩⟩⟩⟩
theorem lw_p64 : lw_okq (⟨"LightRoomModel", "crossedSum", "(IIIZ)J"⟩, 39) := ⟨⟨by decide +kernel, by decide +kernel⟩, List.mem_of_getElem? (i := 843) (by decide +kernel), List.mem_of_getElem? (i := 1053) (by decide +kernel), List.mem_of_getElem? (i := 1054) (by decide +kernel)⟩
theorem lw_p65 : lw_okq (⟨"LightRoomModel", "openSum", "(IIIZ)J"⟩, 39) := ⟨⟨by decide +kernel, by decide +kernel⟩, List.mem_of_getElem? (i := 843) (by decide +kernel), List.mem_of_getElem? (i := 1057) (by decide +kernel), List.mem_of_getElem? (i := 1058) (by decide +kernel)⟩
theorem lw_p66 : lw_okq (⟨"LightRoomModel", "allPulls", "()V"⟩, 39) := ⟨⟨by decide +kernel, by decide +kernel⟩, List.mem_of_getElem? (i := 843) (by decide +kernel), List.mem_of_getElem? (i := 1085) (by decide +kernel), List.mem_of_getElem? (i := 1086) (by decide +kernel)⟩
theorem lw_p67 : lw_okq (⟨"LightRoomModel", "pulls", "(I)V"⟩, 39) := ⟨⟨by decide +kernel, by decide +kernel⟩, List.mem_of_getElem? (i := 843) (by decide +kernel), List.mem_of_getElem? (i := 1089) (by decide +kernel), List.mem_of_getElem? (i := 1090) (by decide +kernel)⟩
theorem lw_p68 : lw_okq (⟨"LightRoomModel", "clean", "()V"⟩, 39) := ⟨⟨by decide +kernel, by decide +kernel⟩, List.mem_of_getElem? (i := 843) (by decide +kernel), List.mem_of_getElem? (i := 1093) (by decide +kernel), List.mem_of_getElem? (i := 1094) (by decide +kernel)⟩
theorem lw_p69 : lw_okq (⟨"LightRoomModel", "whole", "(J)I"⟩, 39) := ⟨⟨by decide +kernel, by decide +kernel⟩, List.mem_of_getElem? (i := 843) (by decide +kernel), List.mem_of_getElem? (i := 1097) (by decide +kernel), List.mem_of_getElem? (i := 1098) (by decide +kernel)⟩
theorem lw_p70 : lw_okq (⟨"LightRoomModel", "room", "(I)I"⟩, 39) := ⟨⟨by decide +kernel, by decide +kernel⟩, List.mem_of_getElem? (i := 843) (by decide +kernel), List.mem_of_getElem? (i := 1101) (by decide +kernel), List.mem_of_getElem? (i := 1102) (by decide +kernel)⟩
theorem lw_p71 : lw_okq (⟨"LightRoomModel", "done", "(IIZ)I"⟩, 39) := ⟨⟨by decide +kernel, by decide +kernel⟩, List.mem_of_getElem? (i := 843) (by decide +kernel), List.mem_of_getElem? (i := 1106) (by decide +kernel), List.mem_of_getElem? (i := 1107) (by decide +kernel)⟩
theorem lw_p72 : lw_okq (⟨"LightRoomModel", "times", "(II)I"⟩, 39) := ⟨⟨by decide +kernel, by decide +kernel⟩, List.mem_of_getElem? (i := 843) (by decide +kernel), List.mem_of_getElem? (i := 1110) (by decide +kernel), List.mem_of_getElem? (i := 1111) (by decide +kernel)⟩
theorem lw_p73 : lw_okq (⟨"LightRoomModel", "sign", "(I)I"⟩, 39) := ⟨⟨by decide +kernel, by decide +kernel⟩, List.mem_of_getElem? (i := 843) (by decide +kernel), List.mem_of_getElem? (i := 1114) (by decide +kernel), List.mem_of_getElem? (i := 1115) (by decide +kernel)⟩
theorem lw_p74 : lw_okq (⟨"LightRoomModel", "size", "(I)I"⟩, 39) := ⟨⟨by decide +kernel, by decide +kernel⟩, List.mem_of_getElem? (i := 843) (by decide +kernel), List.mem_of_getElem? (i := 1118) (by decide +kernel), List.mem_of_getElem? (i := 1119) (by decide +kernel)⟩
theorem lw_p75 : lw_okq (⟨"LightRoomModel", "less", "(II)I"⟩, 39) := ⟨⟨by decide +kernel, by decide +kernel⟩, List.mem_of_getElem? (i := 843) (by decide +kernel), List.mem_of_getElem? (i := 1122) (by decide +kernel), List.mem_of_getElem? (i := 1123) (by decide +kernel)⟩
theorem lw_p76 : lw_okq (⟨"LightRoomModel", "turned", "(I)I"⟩, 39) := ⟨⟨by decide +kernel, by decide +kernel⟩, List.mem_of_getElem? (i := 843) (by decide +kernel), List.mem_of_getElem? (i := 1126) (by decide +kernel), List.mem_of_getElem? (i := 1127) (by decide +kernel)⟩
theorem lw_p77 : lw_okq (⟨"LightRoomModel", "copy", "(I)I"⟩, 39) := ⟨⟨by decide +kernel, by decide +kernel⟩, List.mem_of_getElem? (i := 843) (by decide +kernel), List.mem_of_getElem? (i := 1130) (by decide +kernel), List.mem_of_getElem? (i := 1131) (by decide +kernel)⟩
theorem lw_p78 : lw_okq (⟨"LightRoomModel", "sum", "(II)I"⟩, 39) := ⟨⟨by decide +kernel, by decide +kernel⟩, List.mem_of_getElem? (i := 843) (by decide +kernel), List.mem_of_getElem? (i := 1134) (by decide +kernel), List.mem_of_getElem? (i := 1135) (by decide +kernel)⟩
theorem lw_p79 : lw_okq (⟨"LightRoomModel", "compareSizes", "(II)I"⟩, 39) := ⟨⟨by decide +kernel, by decide +kernel⟩, List.mem_of_getElem? (i := 843) (by decide +kernel), List.mem_of_getElem? (i := 1140) (by decide +kernel), List.mem_of_getElem? (i := 1141) (by decide +kernel)⟩
def lw_privs_5 : List (MethodName × Nat) := [(⟨"LightRoomModel", "crossedSum", "(IIIZ)J"⟩, 39), (⟨"LightRoomModel", "openSum", "(IIIZ)J"⟩, 39), (⟨"LightRoomModel", "allPulls", "()V"⟩, 39), (⟨"LightRoomModel", "pulls", "(I)V"⟩, 39), (⟨"LightRoomModel", "clean", "()V"⟩, 39), (⟨"LightRoomModel", "whole", "(J)I"⟩, 39), (⟨"LightRoomModel", "room", "(I)I"⟩, 39), (⟨"LightRoomModel", "done", "(IIZ)I"⟩, 39), (⟨"LightRoomModel", "times", "(II)I"⟩, 39), (⟨"LightRoomModel", "sign", "(I)I"⟩, 39), (⟨"LightRoomModel", "size", "(I)I"⟩, 39), (⟨"LightRoomModel", "less", "(II)I"⟩, 39), (⟨"LightRoomModel", "turned", "(I)I"⟩, 39), (⟨"LightRoomModel", "copy", "(I)I"⟩, 39), (⟨"LightRoomModel", "sum", "(II)I"⟩, 39), (⟨"LightRoomModel", "compareSizes", "(II)I"⟩, 39)]
theorem lw_r5 : ∀ q ∈ lw_privs_5, lw_okq q := List.forall_mem_cons.mpr ⟨lw_p64, List.forall_mem_cons.mpr ⟨lw_p65, List.forall_mem_cons.mpr ⟨lw_p66, List.forall_mem_cons.mpr ⟨lw_p67, List.forall_mem_cons.mpr ⟨lw_p68, List.forall_mem_cons.mpr ⟨lw_p69, List.forall_mem_cons.mpr ⟨lw_p70, List.forall_mem_cons.mpr ⟨lw_p71, List.forall_mem_cons.mpr ⟨lw_p72, List.forall_mem_cons.mpr ⟨lw_p73, List.forall_mem_cons.mpr ⟨lw_p74, List.forall_mem_cons.mpr ⟨lw_p75, List.forall_mem_cons.mpr ⟨lw_p76, List.forall_mem_cons.mpr ⟨lw_p77, List.forall_mem_cons.mpr ⟨lw_p78, List.forall_mem_cons.mpr ⟨lw_p79, fun _ h => absurd h List.not_mem_nil⟩⟩⟩⟩⟩⟩⟩⟩⟩⟩⟩⟩⟩⟩⟩⟩
theorem lw_p80 : lw_okq (⟨"LightRoomModel", "divided", "(II)I"⟩, 39) := ⟨⟨by decide +kernel, by decide +kernel⟩, List.mem_of_getElem? (i := 843) (by decide +kernel), List.mem_of_getElem? (i := 1144) (by decide +kernel), List.mem_of_getElem? (i := 1145) (by decide +kernel)⟩
theorem lw_p81 : lw_okq (⟨"LightRoomModel", "divide", "(II)V"⟩, 39) := ⟨⟨by decide +kernel, by decide +kernel⟩, List.mem_of_getElem? (i := 843) (by decide +kernel), List.mem_of_getElem? (i := 1148) (by decide +kernel), List.mem_of_getElem? (i := 1149) (by decide +kernel)⟩
theorem lw_p82 : lw_okq (⟨"LightRoomModel", "divideShort", "(I)V"⟩, 39) := ⟨⟨by decide +kernel, by decide +kernel⟩, List.mem_of_getElem? (i := 843) (by decide +kernel), List.mem_of_getElem? (i := 1152) (by decide +kernel), List.mem_of_getElem? (i := 1153) (by decide +kernel)⟩
theorem lw_p83 : lw_okq (⟨"LightRoomModel", "step", "(II)I"⟩, 39) := ⟨⟨by decide +kernel, by decide +kernel⟩, List.mem_of_getElem? (i := 843) (by decide +kernel), List.mem_of_getElem? (i := 1157) (by decide +kernel), List.mem_of_getElem? (i := 1158) (by decide +kernel)⟩
theorem lw_p84 : lw_okq (⟨"LightRoomModel", "keep", "(II)V"⟩, 39) := ⟨⟨by decide +kernel, by decide +kernel⟩, List.mem_of_getElem? (i := 843) (by decide +kernel), List.mem_of_getElem? (i := 1162) (by decide +kernel), List.mem_of_getElem? (i := 1163) (by decide +kernel)⟩
theorem lw_p85 : lw_okq (⟨"LightRoomModel", "lightOf", "(I)I"⟩, 39) := ⟨⟨by decide +kernel, by decide +kernel⟩, List.mem_of_getElem? (i := 843) (by decide +kernel), List.mem_of_getElem? (i := 1166) (by decide +kernel), List.mem_of_getElem? (i := 1167) (by decide +kernel)⟩
theorem lw_p86 : lw_okq (⟨"LightRoomModel", "held", "(I)I"⟩, 39) := ⟨⟨by decide +kernel, by decide +kernel⟩, List.mem_of_getElem? (i := 843) (by decide +kernel), List.mem_of_getElem? (i := 1170) (by decide +kernel), List.mem_of_getElem? (i := 1171) (by decide +kernel)⟩
theorem lw_p87 : lw_okq (⟨"LightRoomModel", "tells", "(II)I"⟩, 39) := ⟨⟨by decide +kernel, by decide +kernel⟩, List.mem_of_getElem? (i := 843) (by decide +kernel), List.mem_of_getElem? (i := 1174) (by decide +kernel), List.mem_of_getElem? (i := 1175) (by decide +kernel)⟩
theorem lw_p88 : lw_okq (⟨"LightRoomModel", "common", "(II)I"⟩, 39) := ⟨⟨by decide +kernel, by decide +kernel⟩, List.mem_of_getElem? (i := 843) (by decide +kernel), List.mem_of_getElem? (i := 1178) (by decide +kernel), List.mem_of_getElem? (i := 1179) (by decide +kernel)⟩
theorem lw_p89 : lw_okq (⟨"LightRoomModel", "put", "(II)V"⟩, 39) := ⟨⟨by decide +kernel, by decide +kernel⟩, List.mem_of_getElem? (i := 843) (by decide +kernel), List.mem_of_getElem? (i := 1182) (by decide +kernel), List.mem_of_getElem? (i := 1183) (by decide +kernel)⟩
theorem lw_p90 : lw_okq (⟨"LightRoomModel", "tellsNumber", "(I)V"⟩, 39) := ⟨⟨by decide +kernel, by decide +kernel⟩, List.mem_of_getElem? (i := 843) (by decide +kernel), List.mem_of_getElem? (i := 1186) (by decide +kernel), List.mem_of_getElem? (i := 1187) (by decide +kernel)⟩
theorem lw_p91 : lw_okq (⟨"LightRoomModel", "tells0", "(I)V"⟩, 39) := ⟨⟨by decide +kernel, by decide +kernel⟩, List.mem_of_getElem? (i := 843) (by decide +kernel), List.mem_of_getElem? (i := 1190) (by decide +kernel), List.mem_of_getElem? (i := 1191) (by decide +kernel)⟩
theorem lw_p92 : lw_okq (⟨"LightRoomModel", "firstBounce", "()V"⟩, 39) := ⟨⟨by decide +kernel, by decide +kernel⟩, List.mem_of_getElem? (i := 843) (by decide +kernel), List.mem_of_getElem? (i := 1199) (by decide +kernel), List.mem_of_getElem? (i := 1200) (by decide +kernel)⟩
theorem lw_p93 : lw_okq (⟨"LightRoomModel", "nextBounce", "()V"⟩, 39) := ⟨⟨by decide +kernel, by decide +kernel⟩, List.mem_of_getElem? (i := 843) (by decide +kernel), List.mem_of_getElem? (i := 1203) (by decide +kernel), List.mem_of_getElem? (i := 1204) (by decide +kernel)⟩
theorem lw_p94 : lw_okq (⟨"LightRoomModel", "finds", "()Z"⟩, 39) := ⟨⟨by decide +kernel, by decide +kernel⟩, List.mem_of_getElem? (i := 843) (by decide +kernel), List.mem_of_getElem? (i := 1228) (by decide +kernel), List.mem_of_getElem? (i := 1229) (by decide +kernel)⟩
theorem lw_p95 : lw_okq (⟨"LightRoomModel", "tellLimits", "()V"⟩, 39) := ⟨⟨by decide +kernel, by decide +kernel⟩, List.mem_of_getElem? (i := 843) (by decide +kernel), List.mem_of_getElem? (i := 1232) (by decide +kernel), List.mem_of_getElem? (i := 1233) (by decide +kernel)⟩
def lw_privs_6 : List (MethodName × Nat) := [(⟨"LightRoomModel", "divided", "(II)I"⟩, 39), (⟨"LightRoomModel", "divide", "(II)V"⟩, 39), (⟨"LightRoomModel", "divideShort", "(I)V"⟩, 39), (⟨"LightRoomModel", "step", "(II)I"⟩, 39), (⟨"LightRoomModel", "keep", "(II)V"⟩, 39), (⟨"LightRoomModel", "lightOf", "(I)I"⟩, 39), (⟨"LightRoomModel", "held", "(I)I"⟩, 39), (⟨"LightRoomModel", "tells", "(II)I"⟩, 39), (⟨"LightRoomModel", "common", "(II)I"⟩, 39), (⟨"LightRoomModel", "put", "(II)V"⟩, 39), (⟨"LightRoomModel", "tellsNumber", "(I)V"⟩, 39), (⟨"LightRoomModel", "tells0", "(I)V"⟩, 39), (⟨"LightRoomModel", "firstBounce", "()V"⟩, 39), (⟨"LightRoomModel", "nextBounce", "()V"⟩, 39), (⟨"LightRoomModel", "finds", "()Z"⟩, 39), (⟨"LightRoomModel", "tellLimits", "()V"⟩, 39)]
theorem lw_r6 : ∀ q ∈ lw_privs_6, lw_okq q := List.forall_mem_cons.mpr ⟨lw_p80, List.forall_mem_cons.mpr ⟨lw_p81, List.forall_mem_cons.mpr ⟨lw_p82, List.forall_mem_cons.mpr ⟨lw_p83, List.forall_mem_cons.mpr ⟨lw_p84, List.forall_mem_cons.mpr ⟨lw_p85, List.forall_mem_cons.mpr ⟨lw_p86, List.forall_mem_cons.mpr ⟨lw_p87, List.forall_mem_cons.mpr ⟨lw_p88, List.forall_mem_cons.mpr ⟨lw_p89, List.forall_mem_cons.mpr ⟨lw_p90, List.forall_mem_cons.mpr ⟨lw_p91, List.forall_mem_cons.mpr ⟨lw_p92, List.forall_mem_cons.mpr ⟨lw_p93, List.forall_mem_cons.mpr ⟨lw_p94, List.forall_mem_cons.mpr ⟨lw_p95, fun _ h => absurd h List.not_mem_nil⟩⟩⟩⟩⟩⟩⟩⟩⟩⟩⟩⟩⟩⟩⟩⟩
theorem lw_p96 : lw_okq (⟨"LightRoomModel", "addLimit", "(IJI)V"⟩, 39) := ⟨⟨by decide +kernel, by decide +kernel⟩, List.mem_of_getElem? (i := 843) (by decide +kernel), List.mem_of_getElem? (i := 1236) (by decide +kernel), List.mem_of_getElem? (i := 1237) (by decide +kernel)⟩
theorem lw_p97 : lw_okq (⟨"LightRoomModel", "meets", "()Z"⟩, 39) := ⟨⟨by decide +kernel, by decide +kernel⟩, List.mem_of_getElem? (i := 843) (by decide +kernel), List.mem_of_getElem? (i := 1240) (by decide +kernel), List.mem_of_getElem? (i := 1241) (by decide +kernel)⟩
theorem lw_p98 : lw_okq (⟨"LightRoomModel", "isGood", "()Z"⟩, 39) := ⟨⟨by decide +kernel, by decide +kernel⟩, List.mem_of_getElem? (i := 843) (by decide +kernel), List.mem_of_getElem? (i := 1244) (by decide +kernel), List.mem_of_getElem? (i := 1245) (by decide +kernel)⟩
theorem lw_p99 : lw_okq (⟨"LightRoomModel", "isBetter", "()Z"⟩, 39) := ⟨⟨by decide +kernel, by decide +kernel⟩, List.mem_of_getElem? (i := 843) (by decide +kernel), List.mem_of_getElem? (i := 1248) (by decide +kernel), List.mem_of_getElem? (i := 1249) (by decide +kernel)⟩
theorem lw_p100 : lw_okq (⟨"LightRoomModel", "pays", "()I"⟩, 39) := ⟨⟨by decide +kernel, by decide +kernel⟩, List.mem_of_getElem? (i := 843) (by decide +kernel), List.mem_of_getElem? (i := 1252) (by decide +kernel), List.mem_of_getElem? (i := 1253) (by decide +kernel)⟩
def lw_privs_7 : List (MethodName × Nat) := [(⟨"LightRoomModel", "addLimit", "(IJI)V"⟩, 39), (⟨"LightRoomModel", "meets", "()Z"⟩, 39), (⟨"LightRoomModel", "isGood", "()Z"⟩, 39), (⟨"LightRoomModel", "isBetter", "()Z"⟩, 39), (⟨"LightRoomModel", "pays", "()I"⟩, 39)]
theorem lw_r7 : ∀ q ∈ lw_privs_7, lw_okq q := List.forall_mem_cons.mpr ⟨lw_p96, List.forall_mem_cons.mpr ⟨lw_p97, List.forall_mem_cons.mpr ⟨lw_p98, List.forall_mem_cons.mpr ⟨lw_p99, List.forall_mem_cons.mpr ⟨lw_p100, fun _ h => absurd h List.not_mem_nil⟩⟩⟩⟩⟩
def lw_privs : List (MethodName × Nat) := lw_privs_1 ++ (lw_privs_2 ++ (lw_privs_3 ++ (lw_privs_4 ++ (lw_privs_5 ++ (lw_privs_6 ++ (lw_privs_7))))))
def lw_tbl : List Cond := k2_sels lw_privs ++ tables_1
theorem lw_privs_ok : ∀ q ∈ lw_privs, lw_okq q := by
  show ∀ q ∈ lw_privs_1 ++ (lw_privs_2 ++ (lw_privs_3 ++ (lw_privs_4 ++ (lw_privs_5 ++ (lw_privs_6 ++ (lw_privs_7)))))), lw_okq q
  exact List.forall_mem_append.mpr ⟨lw_r1, List.forall_mem_append.mpr ⟨lw_r2, List.forall_mem_append.mpr ⟨lw_r3, List.forall_mem_append.mpr ⟨lw_r4, List.forall_mem_append.mpr ⟨lw_r5, List.forall_mem_append.mpr ⟨lw_r6, lw_r7⟩⟩⟩⟩⟩⟩

/-! the classes: names, fields in the order of their slots, types -/
def cN (i : Nat) : String := match i with
  | 0 => "LightRoom$Big"
  | 1 => "LightRoom$Bounces"
  | 2 => "LightRoom$Cheapest"
  | 3 => "LightRoom$Glow"
  | 4 => "LightRoom$Out"
  | 5 => "LightRoom$Patch"
  | 6 => "LightRoom$Table"
  | 7 => "LightRoom$Walls"
  | 8 => "LightRoom"
  | 9 => "LightRoomModel"
  | 10 => "LightRoomLaw"
  | 11 => "java/lang/Math"
  | _ => ""
def TX0 : u_T := fun k => match k with
  | 0 => ("LightRoom$Big", "limbs", "[I", true)
  | 1 => ("LightRoom$Big", "size", "I", false)
  | _ => ("LightRoom$Big", "below", "Z", false)
def tyX0 : Nat → FieldType := fun k => match k with
  | 0 => .array .int
  | 1 => .int
  | _ => .boolean
theorem nmX0 : ∀ a, a < 3 → ∀ b, b < 3 → a ≠ b → (TX0 a).2.1 ≠ (TX0 b).2.1 := by decide +kernel
theorem tyX0_ok : ∀ k, k < 3 → parseFieldDescriptor (TX0 k).2.2.1 = some (tyX0 k) := by decide +kernel
theorem inX0 : ∀ w ∈ u_ws (cN 0) TX0 3, w ∈ lw_tbl := by
  have h : u_ws (cN 0) TX0 3 = [261, 263, 265].filterMap (fun i => lw_tbl[i]?) := by decide +kernel
  intro w hw
  rw [h] at hw
  obtain ⟨i, -, hi⟩ := List.mem_filterMap.mp hw
  exact List.mem_of_getElem? hi
def TX1 : u_T := fun k => match k with
  | 0 => ("LightRoom$Bounces", "now", "[LLightRoom$Big;", false)
  | 1 => ("LightRoom$Bounces", "next", "[LLightRoom$Big;", false)
  | 2 => ("LightRoom$Bounces", "scale", "LLightRoom$Big;", true)
  | 3 => ("LightRoom$Bounces", "step", "LLightRoom$Big;", true)
  | 4 => ("LightRoom$Bounces", "weight", "LLightRoom$Big;", true)
  | 5 => ("LightRoom$Bounces", "sum", "LLightRoom$Big;", true)
  | 6 => ("LightRoom$Bounces", "product", "LLightRoom$Big;", true)
  | _ => ("LightRoom$Bounces", "multiple", "J", false)
def tyX1 : Nat → FieldType := fun k => match k with
  | 0 => .array (.object "LightRoom$Big")
  | 1 => .array (.object "LightRoom$Big")
  | 2 => .object "LightRoom$Big"
  | 3 => .object "LightRoom$Big"
  | 4 => .object "LightRoom$Big"
  | 5 => .object "LightRoom$Big"
  | 6 => .object "LightRoom$Big"
  | _ => .long
theorem nmX1 : ∀ a, a < 8 → ∀ b, b < 8 → a ≠ b → (TX1 a).2.1 ≠ (TX1 b).2.1 := by decide +kernel
theorem tyX1_ok : ∀ k, k < 8 → parseFieldDescriptor (TX1 k).2.2.1 = some (tyX1 k) := by decide +kernel
theorem inX1 : ∀ w ∈ u_ws (cN 1) TX1 8, w ∈ lw_tbl := by
  have h : u_ws (cN 1) TX1 8 = [312, 314, 316, 318, 320, 322, 324, 326].filterMap (fun i => lw_tbl[i]?) := by decide +kernel
  intro w hw
  rw [h] at hw
  obtain ⟨i, -, hi⟩ := List.mem_filterMap.mp hw
  exact List.mem_of_getElem? hi
def TX2 : u_T := fun k => match k with
  | 0 => ("LightRoom$Cheapest", "slopes", "[LLightRoom$Big;", true)
  | 1 => ("LightRoom$Cheapest", "needs", "[LLightRoom$Big;", true)
  | 2 => ("LightRoom$Cheapest", "lampAt", "[I", true)
  | 3 => ("LightRoom$Cheapest", "prices", "[I", true)
  | 4 => ("LightRoom$Cheapest", "held", "[I", true)
  | 5 => ("LightRoom$Cheapest", "ways", "[LLightRoom$Big;", true)
  | 6 => ("LightRoom$Cheapest", "costs", "[LLightRoom$Big;", true)
  | 7 => ("LightRoom$Cheapest", "leans", "[LLightRoom$Big;", true)
  | 8 => ("LightRoom$Cheapest", "owns", "[LLightRoom$Big;", true)
  | 9 => ("LightRoom$Cheapest", "whole", "LLightRoom$Big;", true)
  | 10 => ("LightRoom$Cheapest", "total", "LLightRoom$Big;", true)
  | 11 => ("LightRoom$Cheapest", "sum", "LLightRoom$Big;", true)
  | 12 => ("LightRoom$Cheapest", "product", "LLightRoom$Big;", true)
  | 13 => ("LightRoom$Cheapest", "known", "Z", false)
  | _ => ("LightRoom$Cheapest", "found", "Z", false)
def tyX2 : Nat → FieldType := fun k => match k with
  | 0 => .array (.object "LightRoom$Big")
  | 1 => .array (.object "LightRoom$Big")
  | 2 => .array .int
  | 3 => .array .int
  | 4 => .array .int
  | 5 => .array (.object "LightRoom$Big")
  | 6 => .array (.object "LightRoom$Big")
  | 7 => .array (.object "LightRoom$Big")
  | 8 => .array (.object "LightRoom$Big")
  | 9 => .object "LightRoom$Big"
  | 10 => .object "LightRoom$Big"
  | 11 => .object "LightRoom$Big"
  | 12 => .object "LightRoom$Big"
  | 13 => .boolean
  | _ => .boolean
theorem nmX2 : ∀ a, a < 15 → ∀ b, b < 15 → a ≠ b → (TX2 a).2.1 ≠ (TX2 b).2.1 := by decide +kernel
theorem tyX2_ok : ∀ k, k < 15 → parseFieldDescriptor (TX2 k).2.2.1 = some (tyX2 k) := by decide +kernel
theorem inX2 : ∀ w ∈ u_ws (cN 2) TX2 15, w ∈ lw_tbl := by
  have h : u_ws (cN 2) TX2 15 = [356, 358, 360, 362, 364, 366, 368, 370, 372, 374, 376, 378, 380, 382, 384].filterMap (fun i => lw_tbl[i]?) := by decide +kernel
  intro w hw
  rw [h] at hw
  obtain ⟨i, -, hi⟩ := List.mem_filterMap.mp hw
  exact List.mem_of_getElem? hi
def TX3 : u_T := fun k => match k with
  | 0 => ("LightRoom$Glow", "pulls", "[LLightRoom$Big;", true)
  | 1 => ("LightRoom$Glow", "whole", "LLightRoom$Big;", true)
  | 2 => ("LightRoom$Glow", "sum", "LLightRoom$Big;", true)
  | 3 => ("LightRoom$Glow", "product", "LLightRoom$Big;", true)
  | 4 => ("LightRoom$Glow", "scratch", "LLightRoom$Big;", true)
  | _ => ("LightRoom$Glow", "known", "Z", false)
def tyX3 : Nat → FieldType := fun k => match k with
  | 0 => .array (.object "LightRoom$Big")
  | 1 => .object "LightRoom$Big"
  | 2 => .object "LightRoom$Big"
  | 3 => .object "LightRoom$Big"
  | 4 => .object "LightRoom$Big"
  | _ => .boolean
theorem nmX3 : ∀ a, a < 6 → ∀ b, b < 6 → a ≠ b → (TX3 a).2.1 ≠ (TX3 b).2.1 := by decide +kernel
theorem tyX3_ok : ∀ k, k < 6 → parseFieldDescriptor (TX3 k).2.2.1 = some (tyX3 k) := by decide +kernel
theorem inX3 : ∀ w ∈ u_ws (cN 3) TX3 6, w ∈ lw_tbl := by
  have h : u_ws (cN 3) TX3 6 = [281, 283, 285, 287, 289, 291].filterMap (fun i => lw_tbl[i]?) := by decide +kernel
  intro w hw
  rw [h] at hw
  obtain ⟨i, -, hi⟩ := List.mem_filterMap.mp hw
  exact List.mem_of_getElem? hi
def TX4 : u_T := fun k => match k with
  | 0 => ("LightRoom$Out", "bytes", "[B", true)
  | 1 => ("LightRoom$Out", "size", "I", false)
  | 2 => ("LightRoom$Out", "top", "LLightRoom$Big;", true)
  | 3 => ("LightRoom$Out", "bottom", "LLightRoom$Big;", true)
  | 4 => ("LightRoom$Out", "divided", "LLightRoom$Big;", true)
  | 5 => ("LightRoom$Out", "divisor", "LLightRoom$Big;", true)
  | _ => ("LightRoom$Out", "scratch", "LLightRoom$Big;", true)
def tyX4 : Nat → FieldType := fun k => match k with
  | 0 => .array .byte
  | 1 => .int
  | 2 => .object "LightRoom$Big"
  | 3 => .object "LightRoom$Big"
  | 4 => .object "LightRoom$Big"
  | 5 => .object "LightRoom$Big"
  | _ => .object "LightRoom$Big"
theorem nmX4 : ∀ a, a < 7 → ∀ b, b < 7 → a ≠ b → (TX4 a).2.1 ≠ (TX4 b).2.1 := by decide +kernel
theorem tyX4_ok : ∀ k, k < 7 → parseFieldDescriptor (TX4 k).2.2.1 = some (tyX4 k) := by decide +kernel
theorem inX4 : ∀ w ∈ u_ws (cN 4) TX4 7, w ∈ lw_tbl := by
  have h : u_ws (cN 4) TX4 7 = [402, 404, 406, 408, 410, 412, 414].filterMap (fun i => lw_tbl[i]?) := by decide +kernel
  intro w hw
  rw [h] at hw
  obtain ⟨i, -, hi⟩ := List.mem_filterMap.mp hw
  exact List.mem_of_getElem? hi
def TX5 : u_T := fun k => match k with
  | 0 => ("LightRoom$Patch", "kind", "I", false)
  | 1 => ("LightRoom$Patch", "first", "I", false)
  | 2 => ("LightRoom$Patch", "second", "I", false)
  | 3 => ("LightRoom$Patch", "top", "I", false)
  | 4 => ("LightRoom$Patch", "bottom", "I", false)
  | 5 => ("LightRoom$Patch", "own", "I", false)
  | 6 => ("LightRoom$Patch", "wanted", "I", false)
  | 7 => ("LightRoom$Patch", "price", "I", false)
  | _ => ("LightRoom$Patch", "most", "I", false)
def tyX5 : Nat → FieldType := fun k => match k with
  | 0 => .int
  | 1 => .int
  | 2 => .int
  | 3 => .int
  | 4 => .int
  | 5 => .int
  | 6 => .int
  | 7 => .int
  | _ => .int
theorem nmX5 : ∀ a, a < 9 → ∀ b, b < 9 → a ≠ b → (TX5 a).2.1 ≠ (TX5 b).2.1 := by decide +kernel
theorem tyX5_ok : ∀ k, k < 9 → parseFieldDescriptor (TX5 k).2.2.1 = some (tyX5 k) := by decide +kernel
theorem inX5 : ∀ w ∈ u_ws (cN 5) TX5 9, w ∈ lw_tbl := by
  have h : u_ws (cN 5) TX5 9 = [166, 168, 170, 172, 174, 176, 178, 180, 182].filterMap (fun i => lw_tbl[i]?) := by decide +kernel
  intro w hw
  rw [h] at hw
  obtain ⟨i, -, hi⟩ := List.mem_filterMap.mp hw
  exact List.mem_of_getElem? hi
def TX6 : u_T := fun k => match k with
  | 0 => ("LightRoom$Table", "parts", "I", false)
  | _ => ("LightRoom$Table", "rows", "[[I", true)
def tyX6 : Nat → FieldType := fun k => match k with
  | 0 => .int
  | _ => .array (.array .int)
theorem nmX6 : ∀ a, a < 2 → ∀ b, b < 2 → a ≠ b → (TX6 a).2.1 ≠ (TX6 b).2.1 := by decide +kernel
theorem tyX6_ok : ∀ k, k < 2 → parseFieldDescriptor (TX6 k).2.2.1 = some (tyX6 k) := by decide +kernel
theorem inX6 : ∀ w ∈ u_ws (cN 6) TX6 2, w ∈ lw_tbl := by
  have h : u_ws (cN 6) TX6 2 = [233, 235].filterMap (fun i => lw_tbl[i]?) := by decide +kernel
  intro w hw
  rw [h] at hw
  obtain ⟨i, -, hi⟩ := List.mem_filterMap.mp hw
  exact List.mem_of_getElem? hi
def TX7 : u_T := fun k => match k with
  | 0 => ("LightRoom$Walls", "xs", "[I", true)
  | 1 => ("LightRoom$Walls", "ys", "[I", true)
  | 2 => ("LightRoom$Walls", "corners", "I", false)
  | 3 => ("LightRoom$Walls", "patches", "[LLightRoom$Patch;", true)
  | 4 => ("LightRoom$Walls", "count", "I", false)
  | 5 => ("LightRoom$Walls", "lamps", "I", false)
  | _ => ("LightRoom$Walls", "ring", "[I", true)
def tyX7 : Nat → FieldType := fun k => match k with
  | 0 => .array .int
  | 1 => .array .int
  | 2 => .int
  | 3 => .array (.object "LightRoom$Patch")
  | 4 => .int
  | 5 => .int
  | _ => .array .int
theorem nmX7 : ∀ a, a < 7 → ∀ b, b < 7 → a ≠ b → (TX7 a).2.1 ≠ (TX7 b).2.1 := by decide +kernel
theorem tyX7_ok : ∀ k, k < 7 → parseFieldDescriptor (TX7 k).2.2.1 = some (tyX7 k) := by decide +kernel
theorem inX7 : ∀ w ∈ u_ws (cN 7) TX7 7, w ∈ lw_tbl := by
  have h : u_ws (cN 7) TX7 7 = [203, 205, 207, 209, 211, 213, 215].filterMap (fun i => lw_tbl[i]?) := by decide +kernel
  intro w hw
  rw [h] at hw
  obtain ⟨i, -, hi⟩ := List.mem_filterMap.mp hw
  exact List.mem_of_getElem? hi
def TX8 : u_T := fun k => match k with
  | 0 => ("LightRoom", "walls", "LLightRoom$Walls;", true)
  | 1 => ("LightRoom", "table", "LLightRoom$Table;", true)
  | 2 => ("LightRoom", "glow", "LLightRoom$Glow;", true)
  | 3 => ("LightRoom", "bounces", "LLightRoom$Bounces;", true)
  | 4 => ("LightRoom", "cheapest", "LLightRoom$Cheapest;", true)
  | 5 => ("LightRoom", "out", "LLightRoom$Out;", true)
  | _ => ("LightRoom", "status", "I", false)
def tyX8 : Nat → FieldType := fun k => match k with
  | 0 => .object "LightRoom$Walls"
  | 1 => .object "LightRoom$Table"
  | 2 => .object "LightRoom$Glow"
  | 3 => .object "LightRoom$Bounces"
  | 4 => .object "LightRoom$Cheapest"
  | 5 => .object "LightRoom$Out"
  | _ => .int
theorem nmX8 : ∀ a, a < 7 → ∀ b, b < 7 → a ≠ b → (TX8 a).2.1 ≠ (TX8 b).2.1 := by decide +kernel
theorem tyX8_ok : ∀ k, k < 7 → parseFieldDescriptor (TX8 k).2.2.1 = some (tyX8 k) := by decide +kernel
theorem inX8 : ∀ w ∈ u_ws (cN 8) TX8 7, w ∈ lw_tbl := by
  have h : u_ws (cN 8) TX8 7 = [425, 427, 429, 431, 433, 435, 437].filterMap (fun i => lw_tbl[i]?) := by decide +kernel
  intro w hw
  rw [h] at hw
  obtain ⟨i, -, hi⟩ := List.mem_filterMap.mp hw
  exact List.mem_of_getElem? hi
def TX9 : u_T := fun k => match k with
  | 0 => ("LightRoomModel", "status", "I", false)
  | 1 => ("LightRoomModel", "mem", "[I", true)
  | 2 => ("LightRoomModel", "top", "I", false)
  | 3 => ("LightRoomModel", "left", "[I", true)
  | 4 => ("LightRoomModel", "by", "[I", true)
  | 5 => ("LightRoomModel", "quotient", "[I", true)
  | 6 => ("LightRoomModel", "leftSize", "I", false)
  | 7 => ("LightRoomModel", "quotientSize", "I", false)
  | 8 => ("LightRoomModel", "cornerX", "[I", true)
  | 9 => ("LightRoomModel", "cornerY", "[I", true)
  | 10 => ("LightRoomModel", "from", "[I", true)
  | 11 => ("LightRoomModel", "to", "[I", true)
  | 12 => ("LightRoomModel", "kind", "[I", true)
  | 13 => ("LightRoomModel", "onN", "[I", true)
  | 14 => ("LightRoomModel", "onD", "[I", true)
  | 15 => ("LightRoomModel", "ownLight", "[I", true)
  | 16 => ("LightRoomModel", "wanted", "[I", true)
  | 17 => ("LightRoomModel", "price", "[I", true)
  | 18 => ("LightRoomModel", "most", "[I", true)
  | 19 => ("LightRoomModel", "corners", "I", false)
  | 20 => ("LightRoomModel", "patches", "I", false)
  | 21 => ("LightRoomModel", "parts", "I", false)
  | 22 => ("LightRoomModel", "table", "[I", true)
  | 23 => ("LightRoomModel", "four", "[I", true)
  | 24 => ("LightRoomModel", "kept", "[I", true)
  | 25 => ("LightRoomModel", "row", "[I", true)
  | 26 => ("LightRoomModel", "output", "[I", true)
  | 27 => ("LightRoomModel", "outs", "I", false)
  | 28 => ("LightRoomModel", "now", "[I", true)
  | 29 => ("LightRoomModel", "then", "[I", true)
  | 30 => ("LightRoomModel", "base", "I", false)
  | 31 => ("LightRoomModel", "under", "I", false)
  | 32 => ("LightRoomModel", "lamp", "[I", true)
  | 33 => ("LightRoomModel", "limit", "[I", true)
  | 34 => ("LightRoomModel", "chosen", "[I", true)
  | 35 => ("LightRoomModel", "place", "[I", true)
  | 36 => ("LightRoomModel", "solve", "[I", true)
  | 37 => ("LightRoomModel", "lamps", "I", false)
  | _ => ("LightRoomModel", "limits", "I", false)
def tyX9 : Nat → FieldType := fun k => match k with
  | 0 => .int
  | 1 => .array .int
  | 2 => .int
  | 3 => .array .int
  | 4 => .array .int
  | 5 => .array .int
  | 6 => .int
  | 7 => .int
  | 8 => .array .int
  | 9 => .array .int
  | 10 => .array .int
  | 11 => .array .int
  | 12 => .array .int
  | 13 => .array .int
  | 14 => .array .int
  | 15 => .array .int
  | 16 => .array .int
  | 17 => .array .int
  | 18 => .array .int
  | 19 => .int
  | 20 => .int
  | 21 => .int
  | 22 => .array .int
  | 23 => .array .int
  | 24 => .array .int
  | 25 => .array .int
  | 26 => .array .int
  | 27 => .int
  | 28 => .array .int
  | 29 => .array .int
  | 30 => .int
  | 31 => .int
  | 32 => .array .int
  | 33 => .array .int
  | 34 => .array .int
  | 35 => .array .int
  | 36 => .array .int
  | 37 => .int
  | _ => .int
theorem nmX9 : ∀ a, a < 39 → ∀ b, b < 39 → a ≠ b → (TX9 a).2.1 ≠ (TX9 b).2.1 := by decide +kernel
theorem tyX9_ok : ∀ k, k < 39 → parseFieldDescriptor (TX9 k).2.2.1 = some (tyX9 k) := by decide +kernel
theorem inX9 : ∀ w ∈ u_ws (cN 9) TX9 39, w ∈ lw_tbl := by
  have h : u_ws (cN 9) TX9 39 = [989, 991, 993, 995, 997, 999, 1001, 1003, 1005, 1007, 1009, 1011, 1013, 1015, 1017, 1019, 1021, 1023, 1025, 1027, 1029, 1031, 1033, 1035, 1037, 1039, 1041, 1043, 1045, 1047, 1049, 1051, 1053, 1055, 1057, 1059, 1061, 1063, 1065].filterMap (fun i => lw_tbl[i]?) := by decide +kernel
  intro w hw
  rw [h] at hw
  obtain ⟨i, -, hi⟩ := List.mem_filterMap.mp hw
  exact List.mem_of_getElem? hi
def cT (i : Nat) : u_T := match i with
  | 0 => TX0
  | 1 => TX1
  | 2 => TX2
  | 3 => TX3
  | 4 => TX4
  | 5 => TX5
  | 6 => TX6
  | 7 => TX7
  | 8 => TX8
  | _ => TX9
def cY (i : Nat) : Nat → FieldType := match i with
  | 0 => tyX0
  | 1 => tyX1
  | 2 => tyX2
  | 3 => tyX3
  | 4 => tyX4
  | 5 => tyX5
  | 6 => tyX6
  | 7 => tyX7
  | 8 => tyX8
  | _ => tyX9
def cF (i : Nat) : Nat := match i with
  | 0 => 3
  | 1 => 8
  | 2 => 15
  | 3 => 6
  | 4 => 7
  | 5 => 9
  | 6 => 2
  | 7 => 7
  | 8 => 7
  | 9 => 39
  | _ => 0
def cls : List vw_C := [(cN 0, TX0, 3), (cN 1, TX1, 8), (cN 2, TX2, 15), (cN 3, TX3, 6), (cN 4, TX4, 7), (cN 5, TX5, 9), (cN 6, TX6, 2), (cN 7, TX7, 7), (cN 8, TX8, 7), (cN 9, TX9, 39)]
theorem cls_at : ∀ i, i < 10 → cls[i]? = some (cN i, cT i, cF i) := fun i h => match i, h with
  | 0, _ => rfl
  | 1, _ => rfl
  | 2, _ => rfl
  | 3, _ => rfl
  | 4, _ => rfl
  | 5, _ => rfl
  | 6, _ => rfl
  | 7, _ => rfl
  | 8, _ => rfl
  | 9, _ => rfl
  | k + 10, h => absurd h (by omega)
theorem nm_ok : ∀ i, i < 10 → ∀ a, a < cF i → ∀ b, b < cF i → a ≠ b → (cT i a).2.1 ≠ (cT i b).2.1 := fun i h => match i, h with
  | 0, _ => nmX0
  | 1, _ => nmX1
  | 2, _ => nmX2
  | 3, _ => nmX3
  | 4, _ => nmX4
  | 5, _ => nmX5
  | 6, _ => nmX6
  | 7, _ => nmX7
  | 8, _ => nmX8
  | 9, _ => nmX9
  | k + 10, h => absurd h (by omega)
theorem ty_ok : ∀ i, i < 10 → ∀ k, k < cF i → parseFieldDescriptor (cT i k).2.2.1 = some (cY i k) := fun i h => match i, h with
  | 0, _ => tyX0_ok
  | 1, _ => tyX1_ok
  | 2, _ => tyX2_ok
  | 3, _ => tyX3_ok
  | 4, _ => tyX4_ok
  | 5, _ => tyX5_ok
  | 6, _ => tyX6_ok
  | 7, _ => tyX7_ok
  | 8, _ => tyX8_ok
  | 9, _ => tyX9_ok
  | k + 10, h => absurd h (by omega)
theorem in_ok : ∀ i, i < 10 → ∀ w ∈ u_ws (cN i) (cT i) (cF i), w ∈ lw_tbl := fun i h => match i, h with
  | 0, _ => inX0
  | 1, _ => inX1
  | 2, _ => inX2
  | 3, _ => inX3
  | 4, _ => inX4
  | 5, _ => inX5
  | 6, _ => inX6
  | 7, _ => inX7
  | 8, _ => inX8
  | 9, _ => inX9
  | k + 10, h => absurd h (by omega)
/-! the methods: name, code, locals, answer, own class -/
def mD : MethodName := ⟨"", "", ""⟩
def mNs : List MethodName := [
  ⟨"java/lang/Math", "max", "(II)I"⟩,
  ⟨"java/lang/Math", "max", "(JJ)J"⟩,
  ⟨"java/lang/Math", "min", "(JJ)J"⟩,
  ⟨"java/lang/Math", "abs", "(J)J"⟩,
  ⟨"java/lang/Math", "min", "(II)I"⟩,
  ⟨"LightRoom$Big", "<init>", "(I)V"⟩,
  ⟨"LightRoom$Big", "set", "(J)V"⟩,
  ⟨"LightRoom$Big", "setProduct", "(LLightRoom$Big;LLightRoom$Big;)V"⟩,
  ⟨"LightRoom$Big", "addRow", "(JLLightRoom$Big;I)V"⟩,
  ⟨"LightRoom$Big", "trim", "()V"⟩,
  ⟨"LightRoom$Big", "add", "(LLightRoom$Big;Z)V"⟩,
  ⟨"LightRoom$Big", "raise", "(LLightRoom$Big;)V"⟩,
  ⟨"LightRoom$Big", "extend", "(J)V"⟩,
  ⟨"LightRoom$Big", "compareSizes", "(LLightRoom$Big;)I"⟩,
  ⟨"LightRoom$Big", "lower", "(LLightRoom$Big;)V"⟩,
  ⟨"LightRoom$Big", "lowerFrom", "(LLightRoom$Big;)V"⟩,
  ⟨"LightRoom$Big", "divide", "(LLightRoom$Big;LLightRoom$Big;)V"⟩,
  ⟨"LightRoom$Big", "takeAway", "(LLightRoom$Big;I)I"⟩,
  ⟨"LightRoom$Big", "limbAt", "(I)I"⟩,
  ⟨"LightRoom$Big", "takeTimes", "(LLightRoom$Big;JI)J"⟩,
  ⟨"LightRoom$Big", "giveBack", "(LLightRoom$Big;I)I"⟩,
  ⟨"LightRoom$Big", "negate", "()V"⟩,
  ⟨"LightRoom$Big", "copy", "(LLightRoom$Big;)V"⟩,
  ⟨"LightRoom$Big", "times", "(I)V"⟩,
  ⟨"LightRoom$Big", "plusTimes", "(LLightRoom$Big;I)V"⟩,
  ⟨"LightRoom$Big", "greatestDivisor", "(LLightRoom$Big;LLightRoom$Big;LLightRoom$Big;)LLightRoom$Big;"⟩,
  ⟨"LightRoom$Big", "sign", "()I"⟩,
  ⟨"LightRoom$Big", "plusProduct", "(LLightRoom$Big;LLightRoom$Big;LLightRoom$Big;)V"⟩,
  ⟨"LightRoom$Bounces", "<init>", "()V"⟩,
  ⟨"LightRoom$Bounces", "begin", "(LLightRoom$Walls;I)V"⟩,
  ⟨"LightRoom$Bounces", "commonMultiple", "(JI)J"⟩,
  ⟨"LightRoom$Bounces", "goOn", "(LLightRoom$Walls;LLightRoom$Table;)V"⟩,
  ⟨"LightRoom$Bounces", "bounceAt", "(ILLightRoom$Walls;LLightRoom$Table;)V"⟩,
  ⟨"LightRoom$Bounces", "reaches", "(ILLightRoom$Walls;)Z"⟩,
  ⟨"LightRoom$Cheapest", "<init>", "()V"⟩,
  ⟨"LightRoom$Cheapest", "find", "(LLightRoom$Walls;LLightRoom$Glow;)V"⟩,
  ⟨"LightRoom$Cheapest", "nameLamps", "(LLightRoom$Walls;)V"⟩,
  ⟨"LightRoom$Cheapest", "layPatchRows", "(LLightRoom$Walls;LLightRoom$Glow;)V"⟩,
  ⟨"LightRoom$Cheapest", "layBounds", "(LLightRoom$Walls;)V"⟩,
  ⟨"LightRoom$Cheapest", "place", "()V"⟩,
  ⟨"LightRoom$Cheapest", "setWay", "(II)V"⟩,
  ⟨"LightRoom$Cheapest", "firstBroken", "()I"⟩,
  ⟨"LightRoom$Cheapest", "placeToLeave", "(I)I"⟩,
  ⟨"LightRoom$Cheapest", "isBefore", "(II)Z"⟩,
  ⟨"LightRoom$Cheapest", "compareBy", "(LLightRoom$Big;LLightRoom$Big;II)I"⟩,
  ⟨"LightRoom$Cheapest", "addPrices", "()V"⟩,
  ⟨"LightRoom$Cheapest", "ownOf", "(I)LLightRoom$Big;"⟩,
  ⟨"LightRoom$Glow", "<init>", "()V"⟩,
  ⟨"LightRoom$Glow", "solve", "(LLightRoom$Walls;LLightRoom$Table;)V"⟩,
  ⟨"LightRoom$Glow", "lay", "(LLightRoom$Walls;LLightRoom$Table;)V"⟩,
  ⟨"LightRoom$Glow", "turnAbout", "(II)V"⟩,
  ⟨"LightRoom$Glow", "scaleColumns", "(LLightRoom$Walls;I)V"⟩,
  ⟨"LightRoom$Glow", "gather", "(ILLightRoom$Walls;Z)V"⟩,
  ⟨"LightRoom$Glow", "compareLight", "(ILLightRoom$Walls;)I"⟩,
  ⟨"LightRoom$Out", "<init>", "()V"⟩,
  ⟨"LightRoom$Out", "byteAt", "(I)I"⟩,
  ⟨"LightRoom$Out", "tell", "(LLightRoom$Big;LLightRoom$Big;)I"⟩,
  ⟨"LightRoom$Out", "write", "(LLightRoom$Big;)V"⟩,
  ⟨"LightRoom$Out", "put", "(I)V"⟩,
  ⟨"LightRoom$Out", "writeLimb", "(IZ)Z"⟩,
  ⟨"LightRoom$Patch", "<init>", "()V"⟩,
  ⟨"LightRoom$Patch", "begin", "(III)V"⟩,
  ⟨"LightRoom$Patch", "fact", "(I)I"⟩,
  ⟨"LightRoom$Table", "<init>", "()V"⟩,
  ⟨"LightRoom$Table", "begin", "(I)V"⟩,
  ⟨"LightRoom$Table", "partsLeft", "(II)I"⟩,
  ⟨"LightRoom$Walls", "<init>", "()V"⟩,
  ⟨"LightRoom$Walls", "hasCornerAt", "(II)Z"⟩,
  ⟨"LightRoom$Walls", "addCorner", "(II)I"⟩,
  ⟨"LightRoom$Walls", "hasCorner", "(I)Z"⟩,
  ⟨"LightRoom$Walls", "meetsAny", "(II)Z"⟩,
  ⟨"LightRoom$Walls", "meets", "(IIII)Z"⟩,
  ⟨"LightRoom$Walls", "crosses", "(IIII)Z"⟩,
  ⟨"LightRoom$Walls", "side", "(III)J"⟩,
  ⟨"LightRoom$Walls", "isWithin", "(III)Z"⟩,
  ⟨"LightRoom$Walls", "addPatch", "(III)I"⟩,
  ⟨"LightRoom$Walls", "hasPatch", "(I)Z"⟩,
  ⟨"LightRoom$Walls", "sightOf", "(II)I"⟩,
  ⟨"LightRoom$Walls", "isRingFree", "(II)Z"⟩,
  ⟨"LightRoom$Walls", "entersRing", "(II)Z"⟩,
  ⟨"LightRoom$Walls", "patchLength", "(IIZ)J"⟩,
  ⟨"LightRoom$Walls", "lengthUp", "(III)J"⟩,
  ⟨"LightRoom$Walls", "square", "(III)J"⟩,
  ⟨"LightRoom$Walls", "rootDown", "(J)J"⟩,
  ⟨"LightRoom$Walls", "lengthDown", "(III)J"⟩,
  ⟨"LightRoom$Walls", "highShare", "(III)I"⟩,
  ⟨"LightRoom$Walls", "crossedUp", "(III)J"⟩,
  ⟨"LightRoom$Walls", "uncrossedDown", "(III)J"⟩,
  ⟨"LightRoom$Walls", "lowShare", "(III)I"⟩,
  ⟨"LightRoom$Walls", "crossedDown", "(III)J"⟩,
  ⟨"LightRoom$Walls", "uncrossedUp", "(III)J"⟩,
  ⟨"LightRoom$Walls", "compareStrings", "(II)I"⟩,
  ⟨"LightRoom", "<init>", "()V"⟩,
  ⟨"LightRoom", "status", "()I"⟩,
  ⟨"LightRoom", "out", "(I)I"⟩,
  ⟨"LightRoom", "corner", "(II)I"⟩,
  ⟨"LightRoom", "cornerStatus", "(II)I"⟩,
  ⟨"LightRoom", "isFrom", "(III)Z"⟩,
  ⟨"LightRoom", "patch", "(III)I"⟩,
  ⟨"LightRoom", "newPatchStatus", "(III)I"⟩,
  ⟨"LightRoom", "sharesChanged", "()V"⟩,
  ⟨"LightRoom", "on", "(III)Z"⟩,
  ⟨"LightRoom", "onStatus", "(III)I"⟩,
  ⟨"LightRoom", "own", "(II)Z"⟩,
  ⟨"LightRoom", "ownStatus", "(II)I"⟩,
  ⟨"LightRoom", "numberStatus", "(III)I"⟩,
  ⟨"LightRoom", "lampsChanged", "()V"⟩,
  ⟨"LightRoom", "told", "(II)I"⟩,
  ⟨"LightRoom", "sight", "(II)I"⟩,
  ⟨"LightRoom", "pairStatus", "(II)I"⟩,
  ⟨"LightRoom", "length", "(IIZ)J"⟩,
  ⟨"LightRoom", "share", "(IIIZ)I"⟩,
  ⟨"LightRoom", "shareStatus", "(III)I"⟩,
  ⟨"LightRoom", "crossed", "(II)I"⟩,
  ⟨"LightRoom", "parts", "(I)Z"⟩,
  ⟨"LightRoom", "table", "(III)Z"⟩,
  ⟨"LightRoom", "tableStatus", "(III)I"⟩,
  ⟨"LightRoom", "light", "(I)I"⟩,
  ⟨"LightRoom", "patchStatus", "(I)I"⟩,
  ⟨"LightRoom", "bounce", "(II)I"⟩,
  ⟨"LightRoom", "pull", "(II)I"⟩,
  ⟨"LightRoom", "enough", "(I)I"⟩,
  ⟨"LightRoom", "bouncesNeeded", "(I)I"⟩,
  ⟨"LightRoom", "want", "(II)Z"⟩,
  ⟨"LightRoom", "price", "(III)Z"⟩,
  ⟨"LightRoom", "priceStatus", "(III)I"⟩,
  ⟨"LightRoom", "lampStatus", "(I)I"⟩,
  ⟨"LightRoom", "least", "()I"⟩,
  ⟨"LightRoom", "power", "(I)I"⟩,
  ⟨"LightRoomModel", "<init>", "()V"⟩,
  ⟨"LightRoomModel", "status", "()I"⟩,
  ⟨"LightRoomModel", "corner", "(II)I"⟩,
  ⟨"LightRoomModel", "refuse", "(I)I"⟩,
  ⟨"LightRoomModel", "patch", "(III)I"⟩,
  ⟨"LightRoomModel", "isCorner", "(I)Z"⟩,
  ⟨"LightRoomModel", "meet", "(IIII)Z"⟩,
  ⟨"LightRoomModel", "isWithin", "(III)Z"⟩,
  ⟨"LightRoomModel", "side", "(III)J"⟩,
  ⟨"LightRoomModel", "sign0", "(J)I"⟩,
  ⟨"LightRoomModel", "on", "(III)Z"⟩,
  ⟨"LightRoomModel", "isPatch", "(I)Z"⟩,
  ⟨"LightRoomModel", "is", "(I)Z"⟩,
  ⟨"LightRoomModel", "own", "(II)Z"⟩,
  ⟨"LightRoomModel", "told", "(II)I"⟩,
  ⟨"LightRoomModel", "sight", "(II)I"⟩,
  ⟨"LightRoomModel", "sightOf", "(II)I"⟩,
  ⟨"LightRoomModel", "isInside", "(I)Z"⟩,
  ⟨"LightRoomModel", "length", "(IIZ)J"⟩,
  ⟨"LightRoomModel", "string", "(IIIZ)J"⟩,
  ⟨"LightRoomModel", "root", "(J)J"⟩,
  ⟨"LightRoomModel", "share", "(IIIZ)I"⟩,
  ⟨"LightRoomModel", "crossedSum", "(IIIZ)J"⟩,
  ⟨"LightRoomModel", "openSum", "(IIIZ)J"⟩,
  ⟨"LightRoomModel", "crossed", "(II)I"⟩,
  ⟨"LightRoomModel", "parts", "(I)Z"⟩,
  ⟨"LightRoomModel", "table", "(III)Z"⟩,
  ⟨"LightRoomModel", "out", "(I)I"⟩,
  ⟨"LightRoomModel", "light", "(I)I"⟩,
  ⟨"LightRoomModel", "allPulls", "()V"⟩,
  ⟨"LightRoomModel", "pulls", "(I)V"⟩,
  ⟨"LightRoomModel", "clean", "()V"⟩,
  ⟨"LightRoomModel", "whole", "(J)I"⟩,
  ⟨"LightRoomModel", "room", "(I)I"⟩,
  ⟨"LightRoomModel", "done", "(IIZ)I"⟩,
  ⟨"LightRoomModel", "times", "(II)I"⟩,
  ⟨"LightRoomModel", "sign", "(I)I"⟩,
  ⟨"LightRoomModel", "size", "(I)I"⟩,
  ⟨"LightRoomModel", "less", "(II)I"⟩,
  ⟨"LightRoomModel", "turned", "(I)I"⟩,
  ⟨"LightRoomModel", "copy", "(I)I"⟩,
  ⟨"LightRoomModel", "sum", "(II)I"⟩,
  ⟨"LightRoomModel", "compareSizes", "(II)I"⟩,
  ⟨"LightRoomModel", "divided", "(II)I"⟩,
  ⟨"LightRoomModel", "divide", "(II)V"⟩,
  ⟨"LightRoomModel", "divideShort", "(I)V"⟩,
  ⟨"LightRoomModel", "step", "(II)I"⟩,
  ⟨"LightRoomModel", "keep", "(II)V"⟩,
  ⟨"LightRoomModel", "lightOf", "(I)I"⟩,
  ⟨"LightRoomModel", "held", "(I)I"⟩,
  ⟨"LightRoomModel", "tells", "(II)I"⟩,
  ⟨"LightRoomModel", "common", "(II)I"⟩,
  ⟨"LightRoomModel", "put", "(II)V"⟩,
  ⟨"LightRoomModel", "tellsNumber", "(I)V"⟩,
  ⟨"LightRoomModel", "tells0", "(I)V"⟩,
  ⟨"LightRoomModel", "bounce", "(II)I"⟩,
  ⟨"LightRoomModel", "firstBounce", "()V"⟩,
  ⟨"LightRoomModel", "nextBounce", "()V"⟩,
  ⟨"LightRoomModel", "pull", "(II)I"⟩,
  ⟨"LightRoomModel", "enough", "(I)I"⟩,
  ⟨"LightRoomModel", "want", "(II)Z"⟩,
  ⟨"LightRoomModel", "price", "(III)Z"⟩,
  ⟨"LightRoomModel", "least", "()I"⟩,
  ⟨"LightRoomModel", "finds", "()Z"⟩,
  ⟨"LightRoomModel", "tellLimits", "()V"⟩,
  ⟨"LightRoomModel", "addLimit", "(IJI)V"⟩,
  ⟨"LightRoomModel", "meets", "()Z"⟩,
  ⟨"LightRoomModel", "isGood", "()Z"⟩,
  ⟨"LightRoomModel", "isBetter", "()Z"⟩,
  ⟨"LightRoomModel", "pays", "()I"⟩,
  ⟨"LightRoomModel", "power", "(I)I"⟩,
  ⟨"LightRoomLaw", "law", "([I)Z"⟩]
def mCs : List ByteArray := [
  prog_12_method_65_code,
  prog_12_method_66_code,
  prog_12_method_70_code,
  prog_12_method_61_code,
  prog_12_method_69_code,
  prog_2_method_1_code,
  prog_2_method_2_code,
  prog_2_method_11_code,
  prog_2_method_12_code,
  prog_2_method_7_code,
  prog_2_method_14_code,
  prog_2_method_15_code,
  prog_2_method_9_code,
  prog_2_method_18_code,
  prog_2_method_16_code,
  prog_2_method_17_code,
  prog_2_method_19_code,
  prog_2_method_20_code,
  prog_2_method_6_code,
  prog_2_method_21_code,
  prog_2_method_22_code,
  prog_2_method_5_code,
  prog_2_method_3_code,
  prog_2_method_8_code,
  prog_2_method_10_code,
  prog_2_method_23_code,
  prog_2_method_4_code,
  prog_2_method_13_code,
  prog_3_method_1_code,
  prog_3_method_2_code,
  prog_3_method_3_code,
  prog_3_method_4_code,
  prog_3_method_5_code,
  prog_3_method_6_code,
  prog_4_method_1_code,
  prog_4_method_2_code,
  prog_4_method_4_code,
  prog_4_method_5_code,
  prog_4_method_6_code,
  prog_4_method_7_code,
  prog_4_method_8_code,
  prog_4_method_9_code,
  prog_4_method_10_code,
  prog_4_method_11_code,
  prog_4_method_12_code,
  prog_4_method_13_code,
  prog_4_method_3_code,
  prog_5_method_1_code,
  prog_5_method_2_code,
  prog_5_method_3_code,
  prog_5_method_4_code,
  prog_5_method_5_code,
  prog_5_method_6_code,
  prog_5_method_7_code,
  prog_6_method_1_code,
  prog_6_method_2_code,
  prog_6_method_3_code,
  prog_6_method_5_code,
  prog_6_method_4_code,
  prog_6_method_6_code,
  prog_7_method_1_code,
  prog_7_method_2_code,
  prog_7_method_3_code,
  prog_8_method_1_code,
  prog_8_method_2_code,
  prog_8_method_3_code,
  prog_9_method_1_code,
  prog_9_method_4_code,
  prog_9_method_5_code,
  prog_9_method_2_code,
  prog_9_method_8_code,
  prog_9_method_9_code,
  prog_9_method_10_code,
  prog_9_method_7_code,
  prog_9_method_11_code,
  prog_9_method_6_code,
  prog_9_method_3_code,
  prog_9_method_12_code,
  prog_9_method_13_code,
  prog_9_method_14_code,
  prog_9_method_15_code,
  prog_9_method_18_code,
  prog_9_method_16_code,
  prog_9_method_19_code,
  prog_9_method_17_code,
  prog_9_method_25_code,
  prog_9_method_22_code,
  prog_9_method_21_code,
  prog_9_method_24_code,
  prog_9_method_20_code,
  prog_9_method_23_code,
  prog_9_method_26_code,
  prog_1_method_1_code,
  prog_1_method_2_code,
  prog_1_method_3_code,
  prog_1_method_4_code,
  prog_1_method_24_code,
  prog_1_method_23_code,
  prog_1_method_5_code,
  prog_1_method_25_code,
  prog_1_method_35_code,
  prog_1_method_6_code,
  prog_1_method_29_code,
  prog_1_method_7_code,
  prog_1_method_30_code,
  prog_1_method_28_code,
  prog_1_method_36_code,
  prog_1_method_8_code,
  prog_1_method_9_code,
  prog_1_method_27_code,
  prog_1_method_10_code,
  prog_1_method_11_code,
  prog_1_method_31_code,
  prog_1_method_12_code,
  prog_1_method_13_code,
  prog_1_method_14_code,
  prog_1_method_32_code,
  prog_1_method_15_code,
  prog_1_method_26_code,
  prog_1_method_16_code,
  prog_1_method_17_code,
  prog_1_method_18_code,
  prog_1_method_37_code,
  prog_1_method_19_code,
  prog_1_method_20_code,
  prog_1_method_34_code,
  prog_1_method_33_code,
  prog_1_method_21_code,
  prog_1_method_22_code,
  prog_11_method_1_code,
  prog_11_method_2_code,
  prog_11_method_23_code,
  prog_11_method_4_code,
  prog_11_method_30_code,
  prog_11_method_24_code,
  prog_11_method_29_code,
  prog_11_method_28_code,
  prog_11_method_26_code,
  prog_11_method_27_code,
  prog_11_method_31_code,
  prog_11_method_25_code,
  prog_11_method_3_code,
  prog_11_method_32_code,
  prog_11_method_33_code,
  prog_11_method_36_code,
  prog_11_method_35_code,
  prog_11_method_34_code,
  prog_11_method_41_code,
  prog_11_method_38_code,
  prog_11_method_37_code,
  prog_11_method_42_code,
  prog_11_method_39_code,
  prog_11_method_40_code,
  prog_11_method_43_code,
  prog_11_method_47_code,
  prog_11_method_48_code,
  prog_11_method_51_code,
  prog_11_method_56_code,
  prog_11_method_50_code,
  prog_11_method_49_code,
  prog_11_method_46_code,
  prog_11_method_9_code,
  prog_11_method_7_code,
  prog_11_method_8_code,
  prog_11_method_16_code,
  prog_11_method_6_code,
  prog_11_method_5_code,
  prog_11_method_15_code,
  prog_11_method_11_code,
  prog_11_method_10_code,
  prog_11_method_14_code,
  prog_11_method_12_code,
  prog_11_method_20_code,
  prog_11_method_17_code,
  prog_11_method_18_code,
  prog_11_method_19_code,
  prog_11_method_44_code,
  prog_11_method_55_code,
  prog_11_method_45_code,
  prog_11_method_54_code,
  prog_11_method_21_code,
  prog_11_method_22_code,
  prog_11_method_53_code,
  prog_11_method_52_code,
  prog_11_method_59_code,
  prog_11_method_57_code,
  prog_11_method_58_code,
  prog_11_method_60_code,
  prog_11_method_61_code,
  prog_11_method_62_code,
  prog_11_method_63_code,
  prog_11_method_71_code,
  prog_11_method_70_code,
  prog_11_method_65_code,
  prog_11_method_64_code,
  prog_11_method_66_code,
  prog_11_method_67_code,
  prog_11_method_69_code,
  prog_11_method_68_code,
  prog_11_method_72_code,
  code]
def mLs : List Nat := [2, 4, 4, 2, 2, 2, 6, 4, 10, 2, 4, 5, 6, 3, 5, 6, 6, 13, 2, 10, 6, 1, 2, 7, 8, 7, 1, 4, 2, 4, 10, 4, 6, 3, 2, 6, 4, 6, 4, 3, 8, 3, 5, 5, 5, 2, 3, 2, 4, 7, 7, 5, 5, 3, 1, 2, 4, 4, 2, 6, 1, 4, 2, 1, 4, 5, 2, 4, 3, 2, 4, 6, 5, 8, 5, 4, 2, 15, 4, 18, 6, 8, 8, 7, 4, 8, 4, 4, 8, 4, 4, 5, 1, 1, 2, 3, 3, 3, 4, 4, 1, 4, 4, 3, 4, 4, 1, 3, 3, 3, 4, 5, 5, 3, 2, 4, 4, 2, 2, 4, 3, 4, 3, 3, 4, 4, 2, 1, 2, 1, 1, 4, 2, 6, 2, 5, 6, 4, 2, 4, 2, 2, 3, 3, 3, 12, 19, 4, 13, 6, 9, 5, 5, 5, 3, 6, 2, 2, 2, 9, 1, 6, 3, 5, 12, 2, 2, 3, 3, 5, 11, 5, 5, 7, 7, 16, 4, 4, 6, 6, 10, 5, 8, 2, 4, 4, 5, 3, 3, 3, 4, 1, 10, 5, 6, 8, 4, 4, 3, 3, 4]
def mRs : List (Option FieldType) := [
  some .int,
  some .long,
  some .long,
  some .long,
  some .int,
  none,
  none,
  none,
  none,
  none,
  none,
  none,
  none,
  some .int,
  none,
  none,
  none,
  some .int,
  some .int,
  some .long,
  some .int,
  none,
  none,
  none,
  none,
  some (.object "LightRoom$Big"),
  some .int,
  none,
  none,
  none,
  some .long,
  none,
  none,
  some .boolean,
  none,
  none,
  none,
  none,
  none,
  none,
  none,
  some .int,
  some .int,
  some .boolean,
  some .int,
  none,
  some (.object "LightRoom$Big"),
  none,
  none,
  none,
  none,
  none,
  none,
  some .int,
  none,
  some .int,
  some .int,
  none,
  none,
  some .boolean,
  none,
  none,
  some .int,
  none,
  none,
  some .int,
  none,
  some .boolean,
  some .int,
  some .boolean,
  some .boolean,
  some .boolean,
  some .boolean,
  some .long,
  some .boolean,
  some .int,
  some .boolean,
  some .int,
  some .boolean,
  some .boolean,
  some .long,
  some .long,
  some .long,
  some .long,
  some .long,
  some .int,
  some .long,
  some .long,
  some .int,
  some .long,
  some .long,
  some .int,
  none,
  some .int,
  some .int,
  some .int,
  some .int,
  some .boolean,
  some .int,
  some .int,
  none,
  some .boolean,
  some .int,
  some .boolean,
  some .int,
  some .int,
  none,
  some .int,
  some .int,
  some .int,
  some .long,
  some .int,
  some .int,
  some .int,
  some .boolean,
  some .boolean,
  some .int,
  some .int,
  some .int,
  some .int,
  some .int,
  some .int,
  some .int,
  some .boolean,
  some .boolean,
  some .int,
  some .int,
  some .int,
  some .int,
  none,
  some .int,
  some .int,
  some .int,
  some .int,
  some .boolean,
  some .boolean,
  some .boolean,
  some .long,
  some .int,
  some .boolean,
  some .boolean,
  some .boolean,
  some .boolean,
  some .int,
  some .int,
  some .int,
  some .boolean,
  some .long,
  some .long,
  some .long,
  some .int,
  some .long,
  some .long,
  some .int,
  some .boolean,
  some .boolean,
  some .int,
  some .int,
  none,
  none,
  none,
  some .int,
  some .int,
  some .int,
  some .int,
  some .int,
  some .int,
  some .int,
  some .int,
  some .int,
  some .int,
  some .int,
  some .int,
  none,
  none,
  some .int,
  none,
  some .int,
  some .int,
  some .int,
  some .int,
  none,
  none,
  none,
  some .int,
  none,
  none,
  some .int,
  some .int,
  some .boolean,
  some .boolean,
  some .int,
  some .boolean,
  none,
  none,
  some .boolean,
  some .boolean,
  some .boolean,
  some .int,
  some .int,
  some .boolean]
def mOs : List Nat := [11, 11, 11, 11, 11, 0, 0, 0, 0, 0, 0, 0, 0, 0, 0, 0, 0, 0, 0, 0, 0, 0, 0, 0, 0, 0, 0, 0, 1, 1, 1, 1, 1, 1, 2, 2, 2, 2, 2, 2, 2, 2, 2, 2, 2, 2, 2, 3, 3, 3, 3, 3, 3, 3, 4, 4, 4, 4, 4, 4, 5, 5, 5, 6, 6, 6, 7, 7, 7, 7, 7, 7, 7, 7, 7, 7, 7, 7, 7, 7, 7, 7, 7, 7, 7, 7, 7, 7, 7, 7, 7, 7, 8, 8, 8, 8, 8, 8, 8, 8, 8, 8, 8, 8, 8, 8, 8, 8, 8, 8, 8, 8, 8, 8, 8, 8, 8, 8, 8, 8, 8, 8, 8, 8, 8, 8, 8, 8, 8, 9, 9, 9, 9, 9, 9, 9, 9, 9, 9, 9, 9, 9, 9, 9, 9, 9, 9, 9, 9, 9, 9, 9, 9, 9, 9, 9, 9, 9, 9, 9, 9, 9, 9, 9, 9, 9, 9, 9, 9, 9, 9, 9, 9, 9, 9, 9, 9, 9, 9, 9, 9, 9, 9, 9, 9, 9, 9, 9, 9, 9, 9, 9, 9, 9, 9, 9, 9, 9, 9, 9, 10]
def mN (y : Nat) : MethodName := mNs.getD y mD
def mC (y : Nat) : ByteArray := mCs.getD y ⟨#[]⟩
def mL (y : Nat) : Nat := mLs.getD y 0
def mR (y : Nat) : Option FieldType := mRs.getD y none
def mO (y : Nat) : Nat := mOs.getD y 0
end
section
/-! the rooms of the methods, and the links: tables, and that each row of them is among the words -/
def mFs : List Nat := [0, 0, 0, 0, 0, 1, 1, 1, 0, 0, 2, 1, 0, 0, 0, 1, 2, 1, 0, 0, 0, 0, 1, 1, 1, 3, 0, 3, 2, 2, 0, 3, 2, 2, 2, 6, 0, 3, 2, 4, 3, 4, 5, 4, 3, 3, 0, 2, 4, 2, 3, 2, 2, 3, 2, 0, 4, 2, 0, 1, 1, 0, 0, 1, 0, 0, 2, 0, 0, 0, 3, 2, 1, 0, 1, 1, 0, 3, 2, 1, 2, 1, 0, 0, 1, 3, 2, 2, 3, 2, 2, 3, 3, 0, 1, 2, 1, 0, 5, 4, 0, 2, 1, 3, 2, 1, 0, 2, 4, 1, 3, 5, 4, 4, 1, 2, 1, 5, 1, 5, 5, 5, 4, 2, 3, 2, 1, 7, 7, 1, 0, 1, 0, 3, 0, 2, 1, 0, 0, 1, 0, 0, 1, 1, 3, 2, 1, 2, 1, 0, 3, 2, 2, 3, 1, 1, 0, 6, 5, 4, 0, 1, 0, 0, 2, 0, 0, 3, 2, 1, 2, 1, 3, 2, 0, 1, 1, 3, 1, 4, 3, 1, 1, 0, 5, 4, 4, 6, 6, 1, 1, 7, 6, 4, 2, 4, 4, 4, 3, 7, 8]
def mSs : List Nat := [0, 0, 0, 0, 0, 23, 23, 29, 0, 0, 49, 25, 0, 0, 0, 23, 61, 29, 0, 0, 0, 0, 26, 25, 25, 86, 0, 72, 44, 51, 0, 77, 52, 51, 44, 144, 0, 76, 48, 99, 72, 95, 120, 96, 72, 72, 0, 44, 112, 48, 86, 51, 52, 76, 44, 0, 112, 46, 0, 21, 20, 0, 0, 20, 0, 0, 40, 0, 0, 0, 76, 51, 27, 0, 27, 23, 0, 87, 64, 27, 54, 27, 0, 0, 27, 79, 54, 50, 79, 50, 54, 73, 65, 0, 21, 45, 23, 0, 122, 99, 0, 45, 22, 68, 45, 22, 0, 45, 121, 21, 79, 145, 121, 97, 23, 47, 24, 135, 21, 135, 135, 135, 100, 45, 65, 42, 21, 169, 169, 20, 0, 21, 0, 72, 0, 48, 23, 0, 0, 21, 0, 0, 21, 21, 92, 61, 23, 57, 25, 0, 92, 57, 57, 81, 21, 21, 0, 157, 136, 108, 0, 24, 0, 0, 49, 0, 0, 79, 46, 22, 49, 21, 84, 58, 0, 23, 21, 80, 22, 113, 84, 21, 21, 0, 138, 113, 108, 157, 157, 21, 21, 186, 157, 101, 49, 108, 101, 102, 80, 186, 208]
def mF (y : Nat) : Nat := mFs.getD y 0
def mS (y : Nat) : Nat := mSs.getD y 0
def gw : List Cond := lw_tbl.filter goodWord
theorem gw_of {α : Type} (T : List α) (f : α → Cond) (ps : List Nat) (h : T.map f = ps.filterMap (fun i => lw_tbl[i]?)) (g : T.all (fun x => goodWord (f x)) = true) : ∀ x ∈ T, f x ∈ gw := by
  intro x hx
  have h1 : f x ∈ T.map f := List.mem_map_of_mem hx
  rw [h] at h1
  obtain ⟨i, -, hi⟩ := List.mem_filterMap.mp h1
  exact List.mem_filter.mpr ⟨List.mem_of_getElem? hi, List.all_eq_true.mp g x hx⟩
theorem gw_all : gw.all goodWord = true := List.all_eq_true.mpr fun _ h => (List.mem_filter.mp h).2
def tF : List (List Nat) := [[0, 15, 0, 0], [0, 19, 0, 2], [0, 23, 0, 1], [1, 11, 1, 0], [1, 17, 1, 1], [1, 23, 1, 2], [1, 27, 1, 3], [1, 30, 1, 4], [1, 33, 1, 5], [1, 36, 1, 6], [1, 39, 1, 7], [1, 43, 7, 4], [1, 49, 7, 3], [1, 53, 5, 5], [1, 62, 5, 4], [1, 84, 6, 1], [1, 94, 5, 3], [1, 97, 5, 6], [2, 13, 2, 0], [2, 17, 2, 1], [2, 20, 2, 2], [2, 24, 2, 3], [2, 27, 2, 4], [2, 30, 2, 5], [2, 33, 2, 6], [2, 36, 2, 7], [2, 39, 2, 8], [2, 45, 2, 9], [2, 49, 2, 10], [2, 52, 2, 11], [2, 55, 2, 12], [2, 58, 2, 13], [2, 84, 2, 14], [2, 90, 7, 4], [2, 96, 7, 3], [2, 100, 5, 0], [2, 105, 5, 7], [2, 108, 3, 0], [2, 121, 3, 1], [2, 122, 5, 6], [2, 128, 3, 2], [2, 133, 5, 8], [2, 154, 0, 2], [3, 11, 3, 0], [3, 20, 3, 1], [3, 24, 3, 2], [3, 27, 3, 3], [3, 30, 3, 4], [3, 33, 3, 5], [3, 45, 7, 4], [3, 55, 6, 0], [3, 64, 7, 3], [3, 68, 5, 4], [3, 73, 5, 3], [3, 76, 6, 1], [3, 101, 5, 0], [3, 104, 5, 5], [3, 115, 5, 6], [4, 11, 4, 0], [4, 20, 4, 2], [4, 24, 4, 3], [4, 27, 4, 4], [4, 30, 4, 5], [4, 33, 4, 6], [4, 36, 4, 1], [4, 44, 0, 2], [4, 62, 0, 1], [4, 63, 0, 0], [5, 9, 5, 0], [5, 15, 5, 1], [5, 18, 5, 2], [5, 21, 5, 3], [5, 24, 5, 4], [5, 27, 5, 5], [5, 30, 5, 6], [5, 33, 5, 7], [5, 36, 5, 8], [6, 11, 6, 0], [6, 17, 6, 1], [7, 9, 7, 0], [7, 15, 7, 1], [7, 20, 7, 3], [7, 24, 7, 6], [7, 28, 7, 2], [7, 32, 7, 4], [7, 42, 5, 1], [7, 45, 5, 2], [7, 39, 7, 5], [8, 10, 8, 0], [8, 19, 8, 1], [8, 26, 8, 2], [8, 33, 8, 3], [8, 40, 8, 4], [8, 47, 8, 5], [8, 51, 8, 6], [8, 229, 7, 2], [8, 239, 7, 4], [8, 242, 7, 5], [8, 254, 3, 5], [8, 257, 2, 13], [8, 79, 7, 3], [8, 83, 5, 3], [8, 88, 5, 4], [8, 248, 5, 0], [8, 94, 5, 5], [8, 141, 6, 1], [8, 156, 3, 2], [8, 160, 3, 1], [8, 167, 6, 0], [8, 176, 1, 0], [8, 180, 1, 2], [8, 187, 3, 0], [8, 198, 5, 6], [8, 204, 5, 7], [8, 207, 5, 8], [8, 214, 2, 14], [8, 218, 2, 10], [8, 221, 2, 9], [9, 8, 9, 1], [9, 14, 9, 3], [9, 17, 9, 4], [9, 20, 9, 5], [9, 23, 9, 8], [9, 26, 9, 9], [9, 29, 9, 10], [9, 32, 9, 11], [9, 35, 9, 12], [9, 38, 9, 13], [9, 41, 9, 14], [9, 44, 9, 15], [9, 47, 9, 16], [9, 50, 9, 17], [9, 53, 9, 18], [9, 56, 9, 21], [9, 60, 9, 22], [9, 63, 9, 23], [9, 66, 9, 24], [9, 69, 9, 25], [9, 72, 9, 26], [9, 75, 9, 28], [9, 78, 9, 29], [9, 81, 9, 32], [9, 84, 9, 33], [9, 87, 9, 34], [9, 90, 9, 35], [9, 93, 9, 36], [9, 96, 9, 0], [9, 169, 9, 19], [9, 172, 9, 20], [9, 252, 9, 27], [9, 99, 9, 2], [9, 144, 9, 7], [9, 141, 9, 6], [9, 281, 9, 31], [9, 278, 9, 30], [9, 294, 9, 37], [9, 291, 9, 38]]
def wF (x : List Nat) : Cond := .fieldLink (cN (x.getD 0 0)) (x.getD 1 0) (cT (x.getD 2 0) (x.getD 3 0)).1 (cT (x.getD 2 0) (x.getD 3 0)).2.1 (cT (x.getD 2 0) (x.getD 3 0)).2.2.1
theorem wF_ok : ∀ x ∈ tF, wF x ∈ gw := gw_of tF wF [254, 258, 256, 302, 304, 305, 307, 308, 309, 310, 311, 195, 191, 152, 148, 231, 145, 157, 337, 338, 339, 340, 341, 342, 343, 344, 345, 346, 348, 350, 351, 352, 354, 198, 193, 136, 161, 269, 272, 156, 275, 164, 260, 268, 271, 274, 277, 278, 279, 196, 227, 192, 149, 144, 230, 137, 153, 158, 395, 397, 398, 399, 400, 401, 396, 259, 257, 255, 135, 139, 141, 143, 147, 151, 155, 160, 163, 226, 229, 186, 187, 190, 202, 188, 197, 140, 142, 200, 418, 419, 420, 421, 422, 423, 424, 189, 199, 201, 280, 353, 194, 146, 150, 138, 154, 232, 276, 273, 228, 303, 306, 270, 159, 162, 165, 355, 349, 347, 951, 953, 954, 955, 958, 959, 960, 961, 962, 963, 964, 965, 966, 967, 968, 971, 972, 973, 974, 975, 976, 978, 979, 982, 983, 984, 985, 986, 950, 969, 970, 977, 952, 957, 956, 981, 980, 987, 988] (by decide +kernel) (by decide +kernel)
def tM : List (List Nat) := [[0, 53, 8, 4, 0], [0, 46, 9, 1, 0], [0, 65, 11, 2, 0], [0, 69, 13, 2, 0], [0, 73, 14, 2, 0], [0, 76, 15, 2, 0], [0, 42, 12, 2, 0], [0, 80, 17, 3, 0], [0, 49, 18, 2, 0], [0, 84, 19, 4, 0], [0, 88, 20, 3, 0], [0, 94, 16, 3, 0], [0, 57, 7, 3, 0], [0, 61, 10, 3, 0], [1, 20, 5, 2, 1], [1, 58, 6, 2, 0], [1, 65, 30, 2, 2], [1, 69, 23, 2, 0], [1, 72, 7, 3, 0], [1, 76, 22, 2, 0], [1, 80, 32, 4, 0], [1, 90, 24, 3, 0], [1, 100, 13, 2, 0], [2, 42, 5, 2, 1], [2, 62, 36, 2, 0], [2, 66, 37, 3, 0], [2, 70, 38, 2, 0], [2, 73, 39, 1, 0], [2, 76, 41, 1, 0], [2, 80, 42, 2, 0], [2, 87, 45, 1, 0], [2, 113, 22, 2, 0], [2, 117, 52, 4, 0], [2, 125, 23, 2, 0], [2, 129, 10, 3, 0], [2, 136, 6, 2, 0], [2, 142, 40, 3, 0], [2, 146, 27, 4, 0], [2, 150, 7, 3, 0], [2, 157, 26, 1, 0], [2, 160, 43, 3, 0], [2, 164, 44, 5, 0], [3, 17, 5, 2, 1], [3, 37, 49, 3, 0], [3, 41, 6, 2, 0], [3, 51, 50, 3, 0], [3, 60, 51, 3, 0], [3, 80, 7, 3, 0], [3, 84, 10, 3, 0], [3, 88, 16, 3, 0], [3, 91, 21, 1, 0], [3, 94, 22, 2, 0], [3, 98, 23, 2, 0], [3, 107, 24, 3, 0], [3, 111, 52, 4, 0], [3, 118, 26, 1, 0], [4, 17, 5, 2, 1], [4, 40, 22, 2, 0], [4, 48, 25, 3, 2], [4, 52, 16, 3, 0], [4, 56, 57, 2, 0], [4, 59, 58, 2, 0], [4, 67, 59, 3, 0], [7, 48, 71, 5, 0], [7, 52, 72, 5, 0], [7, 55, 74, 4, 0], [7, 59, 73, 4, 0], [7, 35, 61, 4, 0], [7, 72, 78, 3, 0], [7, 76, 79, 3, 0], [7, 83, 81, 4, 0], [7, 86, 84, 4, 0], [7, 89, 82, 4, 0], [7, 92, 83, 1, 2], [7, 106, 86, 4, 0], [7, 109, 87, 4, 0], [7, 102, 80, 4, 0], [7, 96, 89, 4, 0], [7, 99, 90, 4, 0], [8, 9, 66, 1, 1], [8, 25, 47, 1, 1], [8, 32, 28, 1, 1], [8, 39, 34, 1, 1], [8, 55, 55, 2, 0], [8, 59, 96, 3, 0], [8, 63, 68, 3, 0], [8, 130, 97, 3, 2], [8, 232, 67, 3, 0], [8, 66, 99, 4, 0], [8, 70, 100, 1, 0], [8, 73, 75, 4, 0], [8, 236, 69, 2, 0], [8, 245, 70, 3, 0], [8, 76, 102, 4, 0], [8, 183, 76, 2, 0], [8, 91, 104, 3, 0], [8, 97, 106, 1, 0], [8, 100, 105, 4, 0], [8, 103, 62, 2, 0], [8, 106, 109, 3, 0], [8, 109, 77, 3, 0], [8, 112, 80, 4, 0], [8, 118, 112, 4, 0], [8, 121, 85, 4, 0], [8, 124, 88, 4, 0], [8, 127, 91, 3, 0], [8, 134, 64, 2, 0], [8, 138, 116, 4, 0], [8, 251, 65, 3, 0], [8, 145, 118, 2, 0], [8, 148, 48, 3, 0], [8, 152, 52, 4, 0], [8, 163, 56, 3, 0], [8, 170, 29, 3, 0], [8, 173, 31, 3, 0], [8, 190, 122, 2, 0], [8, 193, 53, 3, 0], [8, 258, 33, 3, 0], [8, 201, 125, 4, 0], [8, 222, 126, 2, 0], [8, 210, 35, 3, 0], [8, 225, 46, 2, 0], [9, 166, 132, 2, 0], [9, 186, 134, 2, 0], [9, 190, 135, 5, 0], [9, 179, 136, 4, 0], [9, 175, 137, 4, 0], [9, 183, 138, 1, 2], [9, 194, 140, 2, 0], [9, 197, 141, 2, 0], [9, 205, 145, 3, 0], [9, 202, 146, 2, 0], [9, 216, 148, 5, 0], [9, 212, 149, 1, 2], [9, 220, 151, 5, 0], [9, 223, 152, 5, 0], [9, 269, 158, 1, 0], [9, 234, 160, 1, 0], [9, 272, 177, 2, 0], [9, 266, 178, 2, 0], [9, 275, 179, 3, 0], [9, 249, 159, 2, 0], [9, 131, 161, 2, 0], [9, 237, 164, 3, 0], [9, 240, 167, 3, 0], [9, 243, 172, 3, 0], [9, 246, 176, 3, 0], [9, 102, 162, 2, 0], [9, 108, 163, 4, 0], [9, 118, 165, 2, 0], [9, 112, 166, 2, 0], [9, 135, 168, 2, 0], [9, 138, 170, 3, 0], [9, 115, 169, 2, 0], [9, 128, 171, 3, 0], [9, 159, 173, 3, 0], [9, 147, 174, 2, 0], [9, 152, 175, 3, 0], [9, 260, 180, 3, 0], [9, 263, 182, 2, 0], [9, 255, 183, 2, 0], [9, 163, 181, 3, 0], [9, 284, 185, 1, 0], [9, 287, 186, 1, 0], [9, 318, 192, 1, 0], [9, 305, 193, 1, 0], [9, 308, 195, 1, 0], [9, 312, 196, 1, 0], [9, 315, 197, 1, 0], [9, 301, 198, 1, 0], [9, 297, 194, 4, 0], [10, 9, 92, 1, 1], [10, 12, 129, 1, 1], [10, 13, 93, 1, 0], [10, 17, 130, 1, 0], [10, 18, 94, 2, 0], [10, 22, 156, 2, 0], [10, 23, 95, 3, 0], [10, 27, 131, 3, 0], [10, 28, 98, 4, 0], [10, 32, 133, 4, 0], [10, 33, 101, 4, 0], [10, 37, 139, 4, 0], [10, 38, 103, 3, 0], [10, 42, 142, 3, 0], [10, 43, 107, 3, 0], [10, 46, 143, 3, 0], [10, 47, 108, 3, 0], [10, 50, 144, 3, 0], [10, 51, 110, 4, 0], [10, 55, 147, 4, 0], [10, 56, 111, 5, 0], [10, 60, 150, 5, 0], [10, 61, 113, 3, 0], [10, 64, 153, 3, 0], [10, 65, 114, 2, 0], [10, 69, 154, 2, 0], [10, 70, 115, 4, 0], [10, 73, 155, 4, 0], [10, 74, 117, 2, 0], [10, 77, 157, 2, 0], [10, 78, 119, 3, 0], [10, 81, 184, 3, 0], [10, 82, 120, 3, 0], [10, 85, 187, 3, 0], [10, 86, 121, 2, 0], [10, 89, 188, 2, 0], [10, 90, 123, 3, 0], [10, 93, 189, 3, 0], [10, 94, 124, 4, 0], [10, 97, 190, 4, 0], [10, 98, 127, 1, 0], [10, 101, 191, 1, 0], [10, 102, 128, 2, 0], [10, 105, 199, 2, 0]]
def wM (x : List Nat) : Cond := .methodLink (cN (x.getD 0 0)) (x.getD 1 0) (mN (x.getD 2 0))
theorem wM_ok : ∀ x ∈ tM, wM x ∈ gw := gw_of tM wM [701, 705, 713, 722, 726, 730, 718, 738, 742, 746, 751, 791, 912, 913, 301, 814, 815, 818, 823, 824, 825, 829, 846, 336, 881, 885, 893, 899, 914, 918, 931, 889, 890, 891, 892, 897, 903, 908, 907, 922, 923, 927, 247, 680, 684, 690, 766, 694, 709, 734, 755, 759, 770, 778, 851, 852, 394, 786, 787, 792, 793, 797, 801, 487, 491, 499, 495, 511, 569, 573, 587, 598, 591, 595, 615, 619, 623, 628, 632, 124, 240, 296, 331, 448, 456, 467, 460, 463, 475, 503, 507, 479, 483, 519, 523, 531, 539, 535, 547, 555, 559, 583, 607, 611, 624, 640, 652, 660, 664, 672, 676, 774, 782, 810, 819, 838, 847, 842, 865, 869, 877, 939, 1076, 1084, 1088, 1092, 1096, 1100, 1107, 1111, 1127, 1131, 1140, 1144, 1153, 1157, 1185, 1193, 1266, 1270, 1274, 1189, 1197, 1210, 1222, 1244, 1262, 1201, 1206, 1214, 1218, 1226, 1234, 1230, 1240, 1248, 1252, 1257, 1278, 1286, 1290, 1282, 1299, 1303, 1328, 1332, 1340, 1344, 1348, 1352, 1336, 116, 945, 440, 1068, 444, 1177, 452, 1072, 471, 1080, 515, 1103, 527, 1115, 543, 1119, 551, 1123, 579, 1136, 603, 1149, 636, 1163, 648, 1169, 656, 1173, 668, 1181, 806, 1295, 830, 1307, 834, 1311, 856, 1315, 861, 1320, 873, 1324, 935, 1356] (by decide +kernel) (by decide +kernel)
def tH : List (List Nat) := [[0, 9, 0], [0, 29, 3], [0, 33, 4], [7, 63, 1], [7, 69, 2], [7, 112, 3], [9, 226, 1], [9, 121, 0], [9, 155, 2]]
def wH (x : List Nat) : Cond := .methodLink (cN (x.getD 0 0)) (x.getD 1 0) (mN (x.getD 2 0))
theorem wH_ok : ∀ x ∈ tH, wH x ∈ gw := gw_of tH wH [251, 689, 698, 563, 566, 644, 1161, 1238, 1261] (by decide +kernel) (by decide +kernel)
def tV : List (List Nat) := [[6], [7], [8], [9], [10], [11], [12], [13], [14], [15], [16], [17], [18], [19], [20], [21], [22], [23], [24], [26], [27], [29], [31], [32], [33], [35], [36], [37], [38], [39], [40], [41], [42], [43], [44], [45], [46], [48], [49], [50], [51], [52], [53], [55], [56], [57], [58], [59], [61], [62], [64], [65], [67], [68], [69], [70], [71], [72], [73], [74], [75], [76], [77], [78], [79], [80], [81], [82], [84], [85], [86], [87], [88], [89], [90], [91], [93], [94], [95], [96], [98], [99], [100], [101], [102], [103], [104], [105], [106], [107], [108], [109], [110], [111], [112], [113], [114], [115], [116], [117], [118], [119], [120], [121], [122], [123], [124], [125], [126], [127], [128], [130], [131], [132], [133], [134], [135], [136], [137], [139], [140], [141], [142], [143], [144], [145], [146], [147], [148], [150], [151], [152], [153], [154], [155], [156], [157], [158], [159], [160], [161], [162], [163], [164], [165], [166], [167], [168], [169], [170], [171], [172], [173], [174], [175], [176], [177], [178], [179], [180], [181], [182], [183], [184], [185], [186], [187], [188], [189], [190], [191], [192], [193], [194], [195], [196], [197], [198], [199]]
def wV (x : List Nat) : Cond := .selects (cN (mO (x.getD 0 0))) (mN (x.getD 0 0)) (mN (x.getD 0 0))
theorem wV_ok : ∀ x ∈ tV, wV x ∈ gw := gw_of tV wV [686, 696, 26, 27, 711, 28, 29, 724, 30, 31, 736, 32, 33, 34, 35, 757, 761, 772, 780, 854, 910, 812, 821, 40, 844, 879, 44, 45, 46, 47, 48, 49, 50, 51, 52, 53, 941, 678, 24, 25, 36, 776, 849, 450, 784, 37, 38, 39, 513, 549, 654, 666, 465, 469, 481, 485, 2, 3, 4, 5, 509, 525, 561, 12, 13, 585, 14, 15, 16, 613, 18, 19, 626, 20, 21, 642, 442, 446, 454, 0, 473, 1, 6, 517, 7, 529, 8, 9, 10, 545, 553, 11, 581, 605, 17, 638, 650, 658, 22, 670, 23, 808, 832, 836, 41, 858, 863, 42, 43, 875, 937, 1070, 1074, 54, 1082, 55, 56, 57, 58, 1105, 59, 60, 1117, 1121, 1125, 61, 62, 1138, 63, 1151, 64, 65, 1165, 1171, 1175, 1179, 1183, 66, 67, 68, 69, 70, 71, 72, 73, 74, 75, 76, 77, 78, 79, 80, 81, 82, 83, 84, 85, 86, 87, 88, 89, 90, 91, 1297, 92, 93, 1309, 1313, 1317, 1322, 1326, 94, 95, 96, 97, 98, 99, 100, 1358] (by decide +kernel) (by decide +kernel)
def tI : List (List Nat) := [[5], [6], [7], [8], [9], [10], [11], [12], [13], [14], [15], [16], [17], [18], [19], [20], [21], [22], [23], [24], [26], [27], [28], [29], [31], [32], [33], [34], [35], [36], [37], [38], [39], [40], [41], [42], [43], [44], [45], [46], [47], [48], [49], [50], [51], [52], [53], [54], [55], [56], [57], [58], [59], [60], [61], [62], [63], [64], [65], [66], [67], [68], [69], [70], [71], [72], [73], [74], [75], [76], [77], [78], [79], [80], [81], [82], [84], [85], [86], [87], [88], [89], [90], [91], [92], [93], [94], [95], [96], [98], [99], [100], [101], [102], [103], [104], [105], [106], [107], [108], [109], [110], [111], [112], [113], [114], [115], [116], [117], [118], [119], [120], [121], [122], [123], [124], [125], [126], [127], [128], [129], [130], [131], [132], [133], [134], [135], [136], [137], [139], [140], [141], [142], [143], [144], [145], [146], [147], [148], [150], [151], [152], [153], [154], [155], [156], [157], [158], [159], [160], [161], [162], [163], [164], [165], [166], [167], [168], [169], [170], [171], [172], [173], [174], [175], [176], [177], [178], [179], [180], [181], [182], [183], [184], [185], [186], [187], [188], [189], [190], [191], [192], [193], [194], [195], [196], [197], [198], [199]]
def wI (x : List Nat) : Cond := .instanceMethod (mN (x.getD 0 0))
theorem wI_ok : ∀ x ∈ tI, wI x ∈ gw := gw_of tI wI [248, 685, 695, 703, 707, 710, 715, 720, 723, 728, 732, 735, 740, 744, 748, 753, 756, 760, 771, 779, 853, 909, 297, 811, 820, 827, 843, 332, 878, 883, 887, 895, 901, 905, 916, 920, 925, 929, 933, 940, 241, 677, 682, 692, 768, 775, 848, 390, 449, 783, 795, 799, 803, 132, 512, 548, 221, 653, 665, 125, 464, 468, 480, 484, 489, 493, 497, 501, 508, 524, 560, 571, 575, 584, 589, 593, 600, 612, 617, 621, 625, 630, 634, 641, 117, 441, 445, 453, 458, 472, 477, 505, 516, 521, 528, 533, 537, 541, 544, 552, 557, 580, 604, 609, 637, 649, 657, 662, 669, 674, 807, 831, 835, 840, 857, 862, 867, 871, 874, 936, 946, 1069, 1073, 1078, 1081, 1086, 1090, 1094, 1098, 1104, 1109, 1113, 1116, 1120, 1124, 1129, 1133, 1137, 1142, 1150, 1155, 1159, 1164, 1170, 1174, 1178, 1182, 1187, 1191, 1195, 1199, 1203, 1208, 1212, 1216, 1220, 1224, 1228, 1232, 1236, 1242, 1246, 1250, 1254, 1259, 1264, 1268, 1272, 1276, 1280, 1284, 1288, 1292, 1296, 1301, 1305, 1308, 1312, 1316, 1321, 1325, 1330, 1334, 1338, 1342, 1346, 1350, 1354, 1357] (by decide +kernel) (by decide +kernel)
def tS : List (List Nat) := [[0], [1], [2], [3], [4], [25], [30], [83], [97], [138], [149]]
def wS (x : List Nat) : Cond := .static (mN (x.getD 0 0))
theorem wS_ok : ∀ x ∈ tS, wS x ∈ gw := gw_of tS wS [252, 564, 567, 645, 699, 788, 816, 596, 461, 1101, 1145] (by decide +kernel) (by decide +kernel)
def tC : List (List Nat) := [[0], [1], [2], [3], [4], [5], [6], [7], [8], [9], [10], [11]]
def wC (x : List Nat) : Cond := .initialized (cN (x.getD 0 0))
theorem wC_ok : ∀ x ∈ tC, wC x ∈ gw := gw_of tC wC [107, 109, 110, 106, 111, 104, 105, 103, 102, 112, 101, 108] (by decide +kernel) (by decide +kernel)
def tN : List (List Nat) := [[1, 9, 0], [2, 11, 0], [3, 9, 0], [4, 15, 0], [7, 18, 5], [8, 7, 7], [8, 16, 6], [8, 23, 3], [8, 30, 1], [8, 37, 2], [8, 44, 4], [10, 7, 8], [10, 10, 9]]
def wN (x : List Nat) : Cond := .classLink (cN (x.getD 0 0)) (x.getD 1 0) (cN (x.getD 2 0))
theorem wN_ok : ∀ x ∈ tN, wN x ∈ gw := gw_of tN wN [300, 335, 244, 393, 128, 122, 218, 238, 294, 329, 387, 114, 943] (by decide +kernel) (by decide +kernel)
def tX : List (List Nat) := [[0], [1], [2], [3], [4], [5], [6], [7], [8], [9]]
def wX (x : List Nat) : Cond := .instantiable (cN (x.getD 0 0)) (cF (x.getD 0 0))
theorem wX_ok : ∀ x ∈ tX, wX x ∈ gw := gw_of tX wX [246, 295, 330, 239, 388, 130, 219, 123, 115, 944] (by decide +kernel) (by decide +kernel)
def tA : List (List Nat) := [[1, 9, 0], [2, 11, 0], [3, 9, 0], [7, 18, 5]]
def wA (x : List Nat) : Cond := .classLink (cN (x.getD 0 0)) (x.getD 1 0) (cN (x.getD 2 0))
theorem wA_ok : ∀ x ∈ tA, wA x ∈ gw := gw_of tA wA [300, 335, 244, 128] (by decide +kernel) (by decide +kernel)
def tK : List (List Nat) := [[0, 79, 0, 1000000], [0, 93, 0, 100000], [4, 71, 0, 100000], [8, 197, 0, 100000], [9, 7, 0, 400000], [9, 127, 0, 1073741823], [9, 151, 0, 536870912], [9, 290, 0, 100000]]
def jc (a v : Nat) : Int := match a with
  | 0 => (v : Int)
  | _ => -(v : Int)
def wK (x : List Nat) : Cond := .constant (cN (x.getD 0 0)) (x.getD 1 0) (Int32.ofInt (jc (x.getD 2 0) (x.getD 3 0)))
theorem wK_ok : ∀ x ∈ tK, wK x ∈ gw := gw_of tK wK [717, 790, 805, 860, 949, 1239, 1256, 1319] (by decide +kernel) (by decide +kernel)
def tJ : List (List Nat) := [[0, 27, 0, 1000000], [0, 91, 0, 999999], [2, 140, 1, 1], [7, 79, 1, 1], [7, 81, 0, 2], [7, 115, 0, 4], [8, 116, 1, 1], [9, 200, 1, 1], [9, 208, 0, 2147483648], [9, 210, 0, 3037000499], [9, 228, 0, 2], [9, 230, 0, 4], [9, 232, 1, 4], [9, 106, 0, 1073741823], [9, 258, 0, 10]]
def wJ (x : List Nat) : Cond := .constantLong (cN (x.getD 0 0)) (x.getD 1 0) (Int64.ofInt (jc (x.getD 2 0) (x.getD 3 0)))
theorem wJ_ok : ∀ x ∈ tJ, wJ x ∈ gw := gw_of tJ wJ [688, 750, 898, 577, 578, 647, 602, 1135, 1147, 1148, 1162, 1167, 1168, 1205, 1294] (by decide +kernel) (by decide +kernel)
def tO : List (List Nat) := [[0, 1], [1, 3], [2, 3], [3, 3], [4, 3], [5, 3], [6, 3], [7, 3], [8, 1], [9, 1]]
def wO (x : List Nat) : Cond := .methodLink (cN (x.getD 0 0)) (x.getD 1 0) Lib.objectInit
theorem wO_ok : ∀ x ∈ tO, wO x ∈ gw := gw_of tO wO [250, 299, 334, 243, 392, 134, 223, 127, 119, 948] (by decide +kernel) (by decide +kernel)
def tZ : List (List Nat) := [[7, 27, 60, 1, 3], [8, 18, 63, 1, 3], [8, 46, 54, 1, 3]]
-- the other words, by name
theorem gw_acl : Cond.methodLink (cN 0) 36 arraycopyName ∈ gw := List.mem_filter.mpr ⟨List.mem_of_getElem? (i := 763) (by decide +kernel), by decide +kernel⟩
theorem gw_acn : Cond.native arraycopyName ∈ gw := List.mem_filter.mpr ⟨List.mem_of_getElem? (i := 765) (by decide +kernel), by decide +kernel⟩
theorem gw_acs : Cond.static arraycopyName ∈ gw := List.mem_filter.mpr ⟨List.mem_of_getElem? (i := 764) (by decide +kernel), by decide +kernel⟩
theorem gw_sys : Cond.initialized "java/lang/System" ∈ gw := List.mem_filter.mpr ⟨List.mem_of_getElem? (i := 113) (by decide +kernel), by decide +kernel⟩
theorem gw_obi : Cond.instanceMethod Lib.objectInit ∈ gw := List.mem_filter.mpr ⟨List.mem_of_getElem? (i := 120) (by decide +kernel), by decide +kernel⟩
theorem gw_ai : Cond.arrayClass .int ∈ gw := List.mem_filter.mpr ⟨List.mem_of_getElem? (i := 185) (by decide +kernel), by decide +kernel⟩
theorem gw_ab : Cond.arrayClass .byte ∈ gw := List.mem_filter.mpr ⟨List.mem_of_getElem? (i := 417) (by decide +kernel), by decide +kernel⟩
theorem gw_obc : Cond.code Lib.objectInit ⟨#[0xb1]⟩ 1 none ∈ gw := List.mem_filter.mpr ⟨List.mem_of_getElem? (i := 121) (by decide +kernel), by decide +kernel⟩
theorem lw_op : Cond.arrayOver (.object (cN 5)) ∈ lw_tbl := List.mem_of_getElem? (i := 129) (by decide +kernel)
theorem lw_ob : Cond.arrayOver (.object (cN 0)) ∈ lw_tbl := List.mem_of_getElem? (i := 245) (by decide +kernel)
theorem lw_oi : Cond.arrayOver (.array .int) ∈ lw_tbl := List.mem_of_getElem? (i := 225) (by decide +kernel)
theorem lw_n0 : Cond.methodLinkNest (cN 7) 27 (mN 60) "LightRoom" ∈ lw_tbl := List.mem_of_getElem? (i := 131) (by decide +kernel)
theorem lw_n1 : Cond.methodLinkNest (cN 8) 18 (mN 63) "LightRoom" ∈ lw_tbl := List.mem_of_getElem? (i := 220) (by decide +kernel)
theorem lw_n2 : Cond.methodLinkNest (cN 8) 46 (mN 54) "LightRoom" ∈ lw_tbl := List.mem_of_getElem? (i := 389) (by decide +kernel)
/-- plain facts of the methods' names -/
def mOk (z : Nat) : Bool := decide ((mN z).cls = cN (mO z)) && decide ((mN z).cls ≠ "java/lang/invoke/MethodHandle") && decide ((mN z).cls ≠ "java/lang/invoke/VarHandle") && (decide (z < 5) || Jvm.plainName (mN z).cls)
theorem mOk_all : (List.range 201).all mOk = true := by decide +kernel
theorem tM_n : (tM ++ tZ).all (fun x => decide ((parseMethodDescriptor (mN (x.getD 2 0)).desc).map (fun d => d.parameters.length) = some (x.getD 3 0 - (if x.getD 4 0 = 2 then 0 else 1)))) = true := by decide +kernel
theorem tM_i : (tM ++ tZ).all (fun x => decide (x.getD 4 0 = 1 ∨ x.getD 4 0 = 3 → (mN (x.getD 2 0)).name = "<init>")) = true := by decide +kernel
theorem tM_z : (tM ++ tZ).all (fun x => decide (x.getD 2 0 < 200) && decide (1 ≤ x.getD 3 0 ∨ x.getD 4 0 = 2)) = true := by decide +kernel
theorem tM_v : (tM ++ tZ).all (fun x => (decide (x.getD 4 0 = 0 → [x.getD 2 0] ∈ tV)) && (decide (x.getD 4 0 = 2 → [x.getD 2 0] ∈ tS)) && (decide (x.getD 4 0 ≠ 2 → [x.getD 2 0] ∈ tI)) && decide ([mO (x.getD 2 0)] ∈ tC)) = true := by decide +kernel
end
section
theorem gc_good (a : MethodName) (b : ByteArray) (c : Nat) (d : Option FieldType) : goodWord (Cond.code a b c d) = true := rfl
set_option maxRecDepth 100000 in
theorem gc_0 : lw_tbl[253]? = some (Cond.code (mN 0) (mC 0) (mL 0) (mR 0)) := rfl
set_option maxRecDepth 100000 in
theorem gc_1 : lw_tbl[565]? = some (Cond.code (mN 1) (mC 1) (mL 1) (mR 1)) := rfl
set_option maxRecDepth 100000 in
theorem gc_2 : lw_tbl[568]? = some (Cond.code (mN 2) (mC 2) (mL 2) (mR 2)) := rfl
set_option maxRecDepth 100000 in
theorem gc_3 : lw_tbl[646]? = some (Cond.code (mN 3) (mC 3) (mL 3) (mR 3)) := rfl
set_option maxRecDepth 100000 in
theorem gc_4 : lw_tbl[700]? = some (Cond.code (mN 4) (mC 4) (mL 4) (mR 4)) := rfl
set_option maxRecDepth 100000 in
theorem gc_5 : lw_tbl[249]? = some (Cond.code (mN 5) (mC 5) (mL 5) (mR 5)) := rfl
set_option maxRecDepth 100000 in
theorem gc_6 : lw_tbl[687]? = some (Cond.code (mN 6) (mC 6) (mL 6) (mR 6)) := rfl
set_option maxRecDepth 100000 in
theorem gc_7 : lw_tbl[697]? = some (Cond.code (mN 7) (mC 7) (mL 7) (mR 7)) := rfl
set_option maxRecDepth 100000 in
theorem gc_8 : lw_tbl[704]? = some (Cond.code (mN 8) (mC 8) (mL 8) (mR 8)) := rfl
set_option maxRecDepth 100000 in
theorem gc_9 : lw_tbl[708]? = some (Cond.code (mN 9) (mC 9) (mL 9) (mR 9)) := rfl
set_option maxRecDepth 100000 in
theorem gc_10 : lw_tbl[712]? = some (Cond.code (mN 10) (mC 10) (mL 10) (mR 10)) := rfl
set_option maxRecDepth 100000 in
theorem gc_11 : lw_tbl[716]? = some (Cond.code (mN 11) (mC 11) (mL 11) (mR 11)) := rfl
set_option maxRecDepth 100000 in
theorem gc_12 : lw_tbl[721]? = some (Cond.code (mN 12) (mC 12) (mL 12) (mR 12)) := rfl
set_option maxRecDepth 100000 in
theorem gc_13 : lw_tbl[725]? = some (Cond.code (mN 13) (mC 13) (mL 13) (mR 13)) := rfl
set_option maxRecDepth 100000 in
theorem gc_14 : lw_tbl[729]? = some (Cond.code (mN 14) (mC 14) (mL 14) (mR 14)) := rfl
set_option maxRecDepth 100000 in
theorem gc_15 : lw_tbl[733]? = some (Cond.code (mN 15) (mC 15) (mL 15) (mR 15)) := rfl
set_option maxRecDepth 100000 in
theorem gc_16 : lw_tbl[737]? = some (Cond.code (mN 16) (mC 16) (mL 16) (mR 16)) := rfl
set_option maxRecDepth 100000 in
theorem gc_17 : lw_tbl[741]? = some (Cond.code (mN 17) (mC 17) (mL 17) (mR 17)) := rfl
set_option maxRecDepth 100000 in
theorem gc_18 : lw_tbl[745]? = some (Cond.code (mN 18) (mC 18) (mL 18) (mR 18)) := rfl
set_option maxRecDepth 100000 in
theorem gc_19 : lw_tbl[749]? = some (Cond.code (mN 19) (mC 19) (mL 19) (mR 19)) := rfl
set_option maxRecDepth 100000 in
theorem gc_20 : lw_tbl[754]? = some (Cond.code (mN 20) (mC 20) (mL 20) (mR 20)) := rfl
set_option maxRecDepth 100000 in
theorem gc_21 : lw_tbl[758]? = some (Cond.code (mN 21) (mC 21) (mL 21) (mR 21)) := rfl
set_option maxRecDepth 100000 in
theorem gc_22 : lw_tbl[762]? = some (Cond.code (mN 22) (mC 22) (mL 22) (mR 22)) := rfl
set_option maxRecDepth 100000 in
theorem gc_23 : lw_tbl[773]? = some (Cond.code (mN 23) (mC 23) (mL 23) (mR 23)) := rfl
set_option maxRecDepth 100000 in
theorem gc_24 : lw_tbl[781]? = some (Cond.code (mN 24) (mC 24) (mL 24) (mR 24)) := rfl
set_option maxRecDepth 100000 in
theorem gc_25 : lw_tbl[789]? = some (Cond.code (mN 25) (mC 25) (mL 25) (mR 25)) := rfl
set_option maxRecDepth 100000 in
theorem gc_26 : lw_tbl[855]? = some (Cond.code (mN 26) (mC 26) (mL 26) (mR 26)) := rfl
set_option maxRecDepth 100000 in
theorem gc_27 : lw_tbl[911]? = some (Cond.code (mN 27) (mC 27) (mL 27) (mR 27)) := rfl
set_option maxRecDepth 100000 in
theorem gc_28 : lw_tbl[298]? = some (Cond.code (mN 28) (mC 28) (mL 28) (mR 28)) := rfl
set_option maxRecDepth 100000 in
theorem gc_29 : lw_tbl[813]? = some (Cond.code (mN 29) (mC 29) (mL 29) (mR 29)) := rfl
set_option maxRecDepth 100000 in
theorem gc_30 : lw_tbl[817]? = some (Cond.code (mN 30) (mC 30) (mL 30) (mR 30)) := rfl
set_option maxRecDepth 100000 in
theorem gc_31 : lw_tbl[822]? = some (Cond.code (mN 31) (mC 31) (mL 31) (mR 31)) := rfl
set_option maxRecDepth 100000 in
theorem gc_32 : lw_tbl[828]? = some (Cond.code (mN 32) (mC 32) (mL 32) (mR 32)) := rfl
set_option maxRecDepth 100000 in
theorem gc_33 : lw_tbl[845]? = some (Cond.code (mN 33) (mC 33) (mL 33) (mR 33)) := rfl
set_option maxRecDepth 100000 in
theorem gc_34 : lw_tbl[333]? = some (Cond.code (mN 34) (mC 34) (mL 34) (mR 34)) := rfl
set_option maxRecDepth 100000 in
theorem gc_35 : lw_tbl[880]? = some (Cond.code (mN 35) (mC 35) (mL 35) (mR 35)) := rfl
set_option maxRecDepth 100000 in
theorem gc_36 : lw_tbl[884]? = some (Cond.code (mN 36) (mC 36) (mL 36) (mR 36)) := rfl
set_option maxRecDepth 100000 in
theorem gc_37 : lw_tbl[888]? = some (Cond.code (mN 37) (mC 37) (mL 37) (mR 37)) := rfl
set_option maxRecDepth 100000 in
theorem gc_38 : lw_tbl[896]? = some (Cond.code (mN 38) (mC 38) (mL 38) (mR 38)) := rfl
set_option maxRecDepth 100000 in
theorem gc_39 : lw_tbl[902]? = some (Cond.code (mN 39) (mC 39) (mL 39) (mR 39)) := rfl
set_option maxRecDepth 100000 in
theorem gc_40 : lw_tbl[906]? = some (Cond.code (mN 40) (mC 40) (mL 40) (mR 40)) := rfl
set_option maxRecDepth 100000 in
theorem gc_41 : lw_tbl[917]? = some (Cond.code (mN 41) (mC 41) (mL 41) (mR 41)) := rfl
set_option maxRecDepth 100000 in
theorem gc_42 : lw_tbl[921]? = some (Cond.code (mN 42) (mC 42) (mL 42) (mR 42)) := rfl
set_option maxRecDepth 100000 in
theorem gc_43 : lw_tbl[926]? = some (Cond.code (mN 43) (mC 43) (mL 43) (mR 43)) := rfl
set_option maxRecDepth 100000 in
theorem gc_44 : lw_tbl[930]? = some (Cond.code (mN 44) (mC 44) (mL 44) (mR 44)) := rfl
set_option maxRecDepth 100000 in
theorem gc_45 : lw_tbl[934]? = some (Cond.code (mN 45) (mC 45) (mL 45) (mR 45)) := rfl
set_option maxRecDepth 100000 in
theorem gc_46 : lw_tbl[942]? = some (Cond.code (mN 46) (mC 46) (mL 46) (mR 46)) := rfl
set_option maxRecDepth 100000 in
theorem gc_47 : lw_tbl[242]? = some (Cond.code (mN 47) (mC 47) (mL 47) (mR 47)) := rfl
set_option maxRecDepth 100000 in
theorem gc_48 : lw_tbl[679]? = some (Cond.code (mN 48) (mC 48) (mL 48) (mR 48)) := rfl
set_option maxRecDepth 100000 in
theorem gc_49 : lw_tbl[683]? = some (Cond.code (mN 49) (mC 49) (mL 49) (mR 49)) := rfl
set_option maxRecDepth 100000 in
theorem gc_50 : lw_tbl[693]? = some (Cond.code (mN 50) (mC 50) (mL 50) (mR 50)) := rfl
set_option maxRecDepth 100000 in
theorem gc_51 : lw_tbl[769]? = some (Cond.code (mN 51) (mC 51) (mL 51) (mR 51)) := rfl
set_option maxRecDepth 100000 in
theorem gc_52 : lw_tbl[777]? = some (Cond.code (mN 52) (mC 52) (mL 52) (mR 52)) := rfl
set_option maxRecDepth 100000 in
theorem gc_53 : lw_tbl[850]? = some (Cond.code (mN 53) (mC 53) (mL 53) (mR 53)) := rfl
set_option maxRecDepth 100000 in
theorem gc_54 : lw_tbl[391]? = some (Cond.code (mN 54) (mC 54) (mL 54) (mR 54)) := rfl
set_option maxRecDepth 100000 in
theorem gc_55 : lw_tbl[451]? = some (Cond.code (mN 55) (mC 55) (mL 55) (mR 55)) := rfl
set_option maxRecDepth 100000 in
theorem gc_56 : lw_tbl[785]? = some (Cond.code (mN 56) (mC 56) (mL 56) (mR 56)) := rfl
set_option maxRecDepth 100000 in
theorem gc_57 : lw_tbl[796]? = some (Cond.code (mN 57) (mC 57) (mL 57) (mR 57)) := rfl
set_option maxRecDepth 100000 in
theorem gc_58 : lw_tbl[800]? = some (Cond.code (mN 58) (mC 58) (mL 58) (mR 58)) := rfl
set_option maxRecDepth 100000 in
theorem gc_59 : lw_tbl[804]? = some (Cond.code (mN 59) (mC 59) (mL 59) (mR 59)) := rfl
set_option maxRecDepth 100000 in
theorem gc_60 : lw_tbl[133]? = some (Cond.code (mN 60) (mC 60) (mL 60) (mR 60)) := rfl
set_option maxRecDepth 100000 in
theorem gc_61 : lw_tbl[514]? = some (Cond.code (mN 61) (mC 61) (mL 61) (mR 61)) := rfl
set_option maxRecDepth 100000 in
theorem gc_62 : lw_tbl[550]? = some (Cond.code (mN 62) (mC 62) (mL 62) (mR 62)) := rfl
set_option maxRecDepth 100000 in
theorem gc_63 : lw_tbl[222]? = some (Cond.code (mN 63) (mC 63) (mL 63) (mR 63)) := rfl
set_option maxRecDepth 100000 in
theorem gc_64 : lw_tbl[655]? = some (Cond.code (mN 64) (mC 64) (mL 64) (mR 64)) := rfl
set_option maxRecDepth 100000 in
theorem gc_65 : lw_tbl[667]? = some (Cond.code (mN 65) (mC 65) (mL 65) (mR 65)) := rfl
set_option maxRecDepth 100000 in
theorem gc_66 : lw_tbl[126]? = some (Cond.code (mN 66) (mC 66) (mL 66) (mR 66)) := rfl
set_option maxRecDepth 100000 in
theorem gc_67 : lw_tbl[466]? = some (Cond.code (mN 67) (mC 67) (mL 67) (mR 67)) := rfl
set_option maxRecDepth 100000 in
theorem gc_68 : lw_tbl[470]? = some (Cond.code (mN 68) (mC 68) (mL 68) (mR 68)) := rfl
set_option maxRecDepth 100000 in
theorem gc_69 : lw_tbl[482]? = some (Cond.code (mN 69) (mC 69) (mL 69) (mR 69)) := rfl
set_option maxRecDepth 100000 in
theorem gc_70 : lw_tbl[486]? = some (Cond.code (mN 70) (mC 70) (mL 70) (mR 70)) := rfl
set_option maxRecDepth 100000 in
theorem gc_71 : lw_tbl[490]? = some (Cond.code (mN 71) (mC 71) (mL 71) (mR 71)) := rfl
set_option maxRecDepth 100000 in
theorem gc_72 : lw_tbl[494]? = some (Cond.code (mN 72) (mC 72) (mL 72) (mR 72)) := rfl
set_option maxRecDepth 100000 in
theorem gc_73 : lw_tbl[498]? = some (Cond.code (mN 73) (mC 73) (mL 73) (mR 73)) := rfl
set_option maxRecDepth 100000 in
theorem gc_74 : lw_tbl[502]? = some (Cond.code (mN 74) (mC 74) (mL 74) (mR 74)) := rfl
set_option maxRecDepth 100000 in
theorem gc_75 : lw_tbl[510]? = some (Cond.code (mN 75) (mC 75) (mL 75) (mR 75)) := rfl
set_option maxRecDepth 100000 in
theorem gc_76 : lw_tbl[526]? = some (Cond.code (mN 76) (mC 76) (mL 76) (mR 76)) := rfl
set_option maxRecDepth 100000 in
theorem gc_77 : lw_tbl[562]? = some (Cond.code (mN 77) (mC 77) (mL 77) (mR 77)) := rfl
set_option maxRecDepth 100000 in
theorem gc_78 : lw_tbl[572]? = some (Cond.code (mN 78) (mC 78) (mL 78) (mR 78)) := rfl
set_option maxRecDepth 100000 in
theorem gc_79 : lw_tbl[576]? = some (Cond.code (mN 79) (mC 79) (mL 79) (mR 79)) := rfl
set_option maxRecDepth 100000 in
theorem gc_80 : lw_tbl[586]? = some (Cond.code (mN 80) (mC 80) (mL 80) (mR 80)) := rfl
set_option maxRecDepth 100000 in
theorem gc_81 : lw_tbl[590]? = some (Cond.code (mN 81) (mC 81) (mL 81) (mR 81)) := rfl
set_option maxRecDepth 100000 in
theorem gc_82 : lw_tbl[594]? = some (Cond.code (mN 82) (mC 82) (mL 82) (mR 82)) := rfl
set_option maxRecDepth 100000 in
theorem gc_83 : lw_tbl[597]? = some (Cond.code (mN 83) (mC 83) (mL 83) (mR 83)) := rfl
set_option maxRecDepth 100000 in
theorem gc_84 : lw_tbl[601]? = some (Cond.code (mN 84) (mC 84) (mL 84) (mR 84)) := rfl
set_option maxRecDepth 100000 in
theorem gc_85 : lw_tbl[614]? = some (Cond.code (mN 85) (mC 85) (mL 85) (mR 85)) := rfl
set_option maxRecDepth 100000 in
theorem gc_86 : lw_tbl[618]? = some (Cond.code (mN 86) (mC 86) (mL 86) (mR 86)) := rfl
set_option maxRecDepth 100000 in
theorem gc_87 : lw_tbl[622]? = some (Cond.code (mN 87) (mC 87) (mL 87) (mR 87)) := rfl
set_option maxRecDepth 100000 in
theorem gc_88 : lw_tbl[627]? = some (Cond.code (mN 88) (mC 88) (mL 88) (mR 88)) := rfl
set_option maxRecDepth 100000 in
theorem gc_89 : lw_tbl[631]? = some (Cond.code (mN 89) (mC 89) (mL 89) (mR 89)) := rfl
set_option maxRecDepth 100000 in
theorem gc_90 : lw_tbl[635]? = some (Cond.code (mN 90) (mC 90) (mL 90) (mR 90)) := rfl
set_option maxRecDepth 100000 in
theorem gc_91 : lw_tbl[643]? = some (Cond.code (mN 91) (mC 91) (mL 91) (mR 91)) := rfl
set_option maxRecDepth 100000 in
theorem gc_92 : lw_tbl[118]? = some (Cond.code (mN 92) (mC 92) (mL 92) (mR 92)) := rfl
set_option maxRecDepth 100000 in
theorem gc_93 : lw_tbl[443]? = some (Cond.code (mN 93) (mC 93) (mL 93) (mR 93)) := rfl
set_option maxRecDepth 100000 in
theorem gc_94 : lw_tbl[447]? = some (Cond.code (mN 94) (mC 94) (mL 94) (mR 94)) := rfl
set_option maxRecDepth 100000 in
theorem gc_95 : lw_tbl[455]? = some (Cond.code (mN 95) (mC 95) (mL 95) (mR 95)) := rfl
set_option maxRecDepth 100000 in
theorem gc_96 : lw_tbl[459]? = some (Cond.code (mN 96) (mC 96) (mL 96) (mR 96)) := rfl
set_option maxRecDepth 100000 in
theorem gc_97 : lw_tbl[462]? = some (Cond.code (mN 97) (mC 97) (mL 97) (mR 97)) := rfl
set_option maxRecDepth 100000 in
theorem gc_98 : lw_tbl[474]? = some (Cond.code (mN 98) (mC 98) (mL 98) (mR 98)) := rfl
set_option maxRecDepth 100000 in
theorem gc_99 : lw_tbl[478]? = some (Cond.code (mN 99) (mC 99) (mL 99) (mR 99)) := rfl
set_option maxRecDepth 100000 in
theorem gc_100 : lw_tbl[506]? = some (Cond.code (mN 100) (mC 100) (mL 100) (mR 100)) := rfl
set_option maxRecDepth 100000 in
theorem gc_101 : lw_tbl[518]? = some (Cond.code (mN 101) (mC 101) (mL 101) (mR 101)) := rfl
set_option maxRecDepth 100000 in
theorem gc_102 : lw_tbl[522]? = some (Cond.code (mN 102) (mC 102) (mL 102) (mR 102)) := rfl
set_option maxRecDepth 100000 in
theorem gc_103 : lw_tbl[530]? = some (Cond.code (mN 103) (mC 103) (mL 103) (mR 103)) := rfl
set_option maxRecDepth 100000 in
theorem gc_104 : lw_tbl[534]? = some (Cond.code (mN 104) (mC 104) (mL 104) (mR 104)) := rfl
set_option maxRecDepth 100000 in
theorem gc_105 : lw_tbl[538]? = some (Cond.code (mN 105) (mC 105) (mL 105) (mR 105)) := rfl
set_option maxRecDepth 100000 in
theorem gc_106 : lw_tbl[542]? = some (Cond.code (mN 106) (mC 106) (mL 106) (mR 106)) := rfl
set_option maxRecDepth 100000 in
theorem gc_107 : lw_tbl[546]? = some (Cond.code (mN 107) (mC 107) (mL 107) (mR 107)) := rfl
set_option maxRecDepth 100000 in
theorem gc_108 : lw_tbl[554]? = some (Cond.code (mN 108) (mC 108) (mL 108) (mR 108)) := rfl
set_option maxRecDepth 100000 in
theorem gc_109 : lw_tbl[558]? = some (Cond.code (mN 109) (mC 109) (mL 109) (mR 109)) := rfl
set_option maxRecDepth 100000 in
theorem gc_110 : lw_tbl[582]? = some (Cond.code (mN 110) (mC 110) (mL 110) (mR 110)) := rfl
set_option maxRecDepth 100000 in
theorem gc_111 : lw_tbl[606]? = some (Cond.code (mN 111) (mC 111) (mL 111) (mR 111)) := rfl
set_option maxRecDepth 100000 in
theorem gc_112 : lw_tbl[610]? = some (Cond.code (mN 112) (mC 112) (mL 112) (mR 112)) := rfl
set_option maxRecDepth 100000 in
theorem gc_113 : lw_tbl[639]? = some (Cond.code (mN 113) (mC 113) (mL 113) (mR 113)) := rfl
set_option maxRecDepth 100000 in
theorem gc_114 : lw_tbl[651]? = some (Cond.code (mN 114) (mC 114) (mL 114) (mR 114)) := rfl
set_option maxRecDepth 100000 in
theorem gc_115 : lw_tbl[659]? = some (Cond.code (mN 115) (mC 115) (mL 115) (mR 115)) := rfl
set_option maxRecDepth 100000 in
theorem gc_116 : lw_tbl[663]? = some (Cond.code (mN 116) (mC 116) (mL 116) (mR 116)) := rfl
set_option maxRecDepth 100000 in
theorem gc_117 : lw_tbl[671]? = some (Cond.code (mN 117) (mC 117) (mL 117) (mR 117)) := rfl
set_option maxRecDepth 100000 in
theorem gc_118 : lw_tbl[675]? = some (Cond.code (mN 118) (mC 118) (mL 118) (mR 118)) := rfl
set_option maxRecDepth 100000 in
theorem gc_119 : lw_tbl[809]? = some (Cond.code (mN 119) (mC 119) (mL 119) (mR 119)) := rfl
set_option maxRecDepth 100000 in
theorem gc_120 : lw_tbl[833]? = some (Cond.code (mN 120) (mC 120) (mL 120) (mR 120)) := rfl
set_option maxRecDepth 100000 in
theorem gc_121 : lw_tbl[837]? = some (Cond.code (mN 121) (mC 121) (mL 121) (mR 121)) := rfl
set_option maxRecDepth 100000 in
theorem gc_122 : lw_tbl[841]? = some (Cond.code (mN 122) (mC 122) (mL 122) (mR 122)) := rfl
set_option maxRecDepth 100000 in
theorem gc_123 : lw_tbl[859]? = some (Cond.code (mN 123) (mC 123) (mL 123) (mR 123)) := rfl
set_option maxRecDepth 100000 in
theorem gc_124 : lw_tbl[864]? = some (Cond.code (mN 124) (mC 124) (mL 124) (mR 124)) := rfl
set_option maxRecDepth 100000 in
theorem gc_125 : lw_tbl[868]? = some (Cond.code (mN 125) (mC 125) (mL 125) (mR 125)) := rfl
set_option maxRecDepth 100000 in
theorem gc_126 : lw_tbl[872]? = some (Cond.code (mN 126) (mC 126) (mL 126) (mR 126)) := rfl
set_option maxRecDepth 100000 in
theorem gc_127 : lw_tbl[876]? = some (Cond.code (mN 127) (mC 127) (mL 127) (mR 127)) := rfl
set_option maxRecDepth 100000 in
theorem gc_128 : lw_tbl[938]? = some (Cond.code (mN 128) (mC 128) (mL 128) (mR 128)) := rfl
set_option maxRecDepth 100000 in
theorem gc_129 : lw_tbl[947]? = some (Cond.code (mN 129) (mC 129) (mL 129) (mR 129)) := rfl
set_option maxRecDepth 100000 in
theorem gc_130 : lw_tbl[1071]? = some (Cond.code (mN 130) (mC 130) (mL 130) (mR 130)) := rfl
set_option maxRecDepth 100000 in
theorem gc_131 : lw_tbl[1075]? = some (Cond.code (mN 131) (mC 131) (mL 131) (mR 131)) := rfl
set_option maxRecDepth 100000 in
theorem gc_132 : lw_tbl[1079]? = some (Cond.code (mN 132) (mC 132) (mL 132) (mR 132)) := rfl
set_option maxRecDepth 100000 in
theorem gc_133 : lw_tbl[1083]? = some (Cond.code (mN 133) (mC 133) (mL 133) (mR 133)) := rfl
set_option maxRecDepth 100000 in
theorem gc_134 : lw_tbl[1087]? = some (Cond.code (mN 134) (mC 134) (mL 134) (mR 134)) := rfl
set_option maxRecDepth 100000 in
theorem gc_135 : lw_tbl[1091]? = some (Cond.code (mN 135) (mC 135) (mL 135) (mR 135)) := rfl
set_option maxRecDepth 100000 in
theorem gc_136 : lw_tbl[1095]? = some (Cond.code (mN 136) (mC 136) (mL 136) (mR 136)) := rfl
set_option maxRecDepth 100000 in
theorem gc_137 : lw_tbl[1099]? = some (Cond.code (mN 137) (mC 137) (mL 137) (mR 137)) := rfl
set_option maxRecDepth 100000 in
theorem gc_138 : lw_tbl[1102]? = some (Cond.code (mN 138) (mC 138) (mL 138) (mR 138)) := rfl
set_option maxRecDepth 100000 in
theorem gc_139 : lw_tbl[1106]? = some (Cond.code (mN 139) (mC 139) (mL 139) (mR 139)) := rfl
set_option maxRecDepth 100000 in
theorem gc_140 : lw_tbl[1110]? = some (Cond.code (mN 140) (mC 140) (mL 140) (mR 140)) := rfl
set_option maxRecDepth 100000 in
theorem gc_141 : lw_tbl[1114]? = some (Cond.code (mN 141) (mC 141) (mL 141) (mR 141)) := rfl
set_option maxRecDepth 100000 in
theorem gc_142 : lw_tbl[1118]? = some (Cond.code (mN 142) (mC 142) (mL 142) (mR 142)) := rfl
set_option maxRecDepth 100000 in
theorem gc_143 : lw_tbl[1122]? = some (Cond.code (mN 143) (mC 143) (mL 143) (mR 143)) := rfl
set_option maxRecDepth 100000 in
theorem gc_144 : lw_tbl[1126]? = some (Cond.code (mN 144) (mC 144) (mL 144) (mR 144)) := rfl
set_option maxRecDepth 100000 in
theorem gc_145 : lw_tbl[1130]? = some (Cond.code (mN 145) (mC 145) (mL 145) (mR 145)) := rfl
set_option maxRecDepth 100000 in
theorem gc_146 : lw_tbl[1134]? = some (Cond.code (mN 146) (mC 146) (mL 146) (mR 146)) := rfl
set_option maxRecDepth 100000 in
theorem gc_147 : lw_tbl[1139]? = some (Cond.code (mN 147) (mC 147) (mL 147) (mR 147)) := rfl
set_option maxRecDepth 100000 in
theorem gc_148 : lw_tbl[1143]? = some (Cond.code (mN 148) (mC 148) (mL 148) (mR 148)) := rfl
set_option maxRecDepth 100000 in
theorem gc_149 : lw_tbl[1146]? = some (Cond.code (mN 149) (mC 149) (mL 149) (mR 149)) := rfl
set_option maxRecDepth 100000 in
theorem gc_150 : lw_tbl[1152]? = some (Cond.code (mN 150) (mC 150) (mL 150) (mR 150)) := rfl
set_option maxRecDepth 100000 in
theorem gc_151 : lw_tbl[1156]? = some (Cond.code (mN 151) (mC 151) (mL 151) (mR 151)) := rfl
set_option maxRecDepth 100000 in
theorem gc_152 : lw_tbl[1160]? = some (Cond.code (mN 152) (mC 152) (mL 152) (mR 152)) := rfl
set_option maxRecDepth 100000 in
theorem gc_153 : lw_tbl[1166]? = some (Cond.code (mN 153) (mC 153) (mL 153) (mR 153)) := rfl
set_option maxRecDepth 100000 in
theorem gc_154 : lw_tbl[1172]? = some (Cond.code (mN 154) (mC 154) (mL 154) (mR 154)) := rfl
set_option maxRecDepth 100000 in
theorem gc_155 : lw_tbl[1176]? = some (Cond.code (mN 155) (mC 155) (mL 155) (mR 155)) := rfl
set_option maxRecDepth 100000 in
theorem gc_156 : lw_tbl[1180]? = some (Cond.code (mN 156) (mC 156) (mL 156) (mR 156)) := rfl
set_option maxRecDepth 100000 in
theorem gc_157 : lw_tbl[1184]? = some (Cond.code (mN 157) (mC 157) (mL 157) (mR 157)) := rfl
set_option maxRecDepth 100000 in
theorem gc_158 : lw_tbl[1188]? = some (Cond.code (mN 158) (mC 158) (mL 158) (mR 158)) := rfl
set_option maxRecDepth 100000 in
theorem gc_159 : lw_tbl[1192]? = some (Cond.code (mN 159) (mC 159) (mL 159) (mR 159)) := rfl
set_option maxRecDepth 100000 in
theorem gc_160 : lw_tbl[1196]? = some (Cond.code (mN 160) (mC 160) (mL 160) (mR 160)) := rfl
set_option maxRecDepth 100000 in
theorem gc_161 : lw_tbl[1200]? = some (Cond.code (mN 161) (mC 161) (mL 161) (mR 161)) := rfl
set_option maxRecDepth 100000 in
theorem gc_162 : lw_tbl[1204]? = some (Cond.code (mN 162) (mC 162) (mL 162) (mR 162)) := rfl
set_option maxRecDepth 100000 in
theorem gc_163 : lw_tbl[1209]? = some (Cond.code (mN 163) (mC 163) (mL 163) (mR 163)) := rfl
set_option maxRecDepth 100000 in
theorem gc_164 : lw_tbl[1213]? = some (Cond.code (mN 164) (mC 164) (mL 164) (mR 164)) := rfl
set_option maxRecDepth 100000 in
theorem gc_165 : lw_tbl[1217]? = some (Cond.code (mN 165) (mC 165) (mL 165) (mR 165)) := rfl
set_option maxRecDepth 100000 in
theorem gc_166 : lw_tbl[1221]? = some (Cond.code (mN 166) (mC 166) (mL 166) (mR 166)) := rfl
set_option maxRecDepth 100000 in
theorem gc_167 : lw_tbl[1225]? = some (Cond.code (mN 167) (mC 167) (mL 167) (mR 167)) := rfl
set_option maxRecDepth 100000 in
theorem gc_168 : lw_tbl[1229]? = some (Cond.code (mN 168) (mC 168) (mL 168) (mR 168)) := rfl
set_option maxRecDepth 100000 in
theorem gc_169 : lw_tbl[1233]? = some (Cond.code (mN 169) (mC 169) (mL 169) (mR 169)) := rfl
set_option maxRecDepth 100000 in
theorem gc_170 : lw_tbl[1237]? = some (Cond.code (mN 170) (mC 170) (mL 170) (mR 170)) := rfl
set_option maxRecDepth 100000 in
theorem gc_171 : lw_tbl[1243]? = some (Cond.code (mN 171) (mC 171) (mL 171) (mR 171)) := rfl
set_option maxRecDepth 100000 in
theorem gc_172 : lw_tbl[1247]? = some (Cond.code (mN 172) (mC 172) (mL 172) (mR 172)) := rfl
set_option maxRecDepth 100000 in
theorem gc_173 : lw_tbl[1251]? = some (Cond.code (mN 173) (mC 173) (mL 173) (mR 173)) := rfl
set_option maxRecDepth 100000 in
theorem gc_174 : lw_tbl[1255]? = some (Cond.code (mN 174) (mC 174) (mL 174) (mR 174)) := rfl
set_option maxRecDepth 100000 in
theorem gc_175 : lw_tbl[1260]? = some (Cond.code (mN 175) (mC 175) (mL 175) (mR 175)) := rfl
set_option maxRecDepth 100000 in
theorem gc_176 : lw_tbl[1265]? = some (Cond.code (mN 176) (mC 176) (mL 176) (mR 176)) := rfl
set_option maxRecDepth 100000 in
theorem gc_177 : lw_tbl[1269]? = some (Cond.code (mN 177) (mC 177) (mL 177) (mR 177)) := rfl
set_option maxRecDepth 100000 in
theorem gc_178 : lw_tbl[1273]? = some (Cond.code (mN 178) (mC 178) (mL 178) (mR 178)) := rfl
set_option maxRecDepth 100000 in
theorem gc_179 : lw_tbl[1277]? = some (Cond.code (mN 179) (mC 179) (mL 179) (mR 179)) := rfl
set_option maxRecDepth 100000 in
theorem gc_180 : lw_tbl[1281]? = some (Cond.code (mN 180) (mC 180) (mL 180) (mR 180)) := rfl
set_option maxRecDepth 100000 in
theorem gc_181 : lw_tbl[1285]? = some (Cond.code (mN 181) (mC 181) (mL 181) (mR 181)) := rfl
set_option maxRecDepth 100000 in
theorem gc_182 : lw_tbl[1289]? = some (Cond.code (mN 182) (mC 182) (mL 182) (mR 182)) := rfl
set_option maxRecDepth 100000 in
theorem gc_183 : lw_tbl[1293]? = some (Cond.code (mN 183) (mC 183) (mL 183) (mR 183)) := rfl
set_option maxRecDepth 100000 in
theorem gc_184 : lw_tbl[1298]? = some (Cond.code (mN 184) (mC 184) (mL 184) (mR 184)) := rfl
set_option maxRecDepth 100000 in
theorem gc_185 : lw_tbl[1302]? = some (Cond.code (mN 185) (mC 185) (mL 185) (mR 185)) := rfl
set_option maxRecDepth 100000 in
theorem gc_186 : lw_tbl[1306]? = some (Cond.code (mN 186) (mC 186) (mL 186) (mR 186)) := rfl
set_option maxRecDepth 100000 in
theorem gc_187 : lw_tbl[1310]? = some (Cond.code (mN 187) (mC 187) (mL 187) (mR 187)) := rfl
set_option maxRecDepth 100000 in
theorem gc_188 : lw_tbl[1314]? = some (Cond.code (mN 188) (mC 188) (mL 188) (mR 188)) := rfl
set_option maxRecDepth 100000 in
theorem gc_189 : lw_tbl[1318]? = some (Cond.code (mN 189) (mC 189) (mL 189) (mR 189)) := rfl
set_option maxRecDepth 100000 in
theorem gc_190 : lw_tbl[1323]? = some (Cond.code (mN 190) (mC 190) (mL 190) (mR 190)) := rfl
set_option maxRecDepth 100000 in
theorem gc_191 : lw_tbl[1327]? = some (Cond.code (mN 191) (mC 191) (mL 191) (mR 191)) := rfl
set_option maxRecDepth 100000 in
theorem gc_192 : lw_tbl[1331]? = some (Cond.code (mN 192) (mC 192) (mL 192) (mR 192)) := rfl
set_option maxRecDepth 100000 in
theorem gc_193 : lw_tbl[1335]? = some (Cond.code (mN 193) (mC 193) (mL 193) (mR 193)) := rfl
set_option maxRecDepth 100000 in
theorem gc_194 : lw_tbl[1339]? = some (Cond.code (mN 194) (mC 194) (mL 194) (mR 194)) := rfl
set_option maxRecDepth 100000 in
theorem gc_195 : lw_tbl[1343]? = some (Cond.code (mN 195) (mC 195) (mL 195) (mR 195)) := rfl
set_option maxRecDepth 100000 in
theorem gc_196 : lw_tbl[1347]? = some (Cond.code (mN 196) (mC 196) (mL 196) (mR 196)) := rfl
set_option maxRecDepth 100000 in
theorem gc_197 : lw_tbl[1351]? = some (Cond.code (mN 197) (mC 197) (mL 197) (mR 197)) := rfl
set_option maxRecDepth 100000 in
theorem gc_198 : lw_tbl[1355]? = some (Cond.code (mN 198) (mC 198) (mL 198) (mR 198)) := rfl
set_option maxRecDepth 100000 in
theorem gc_199 : lw_tbl[1359]? = some (Cond.code (mN 199) (mC 199) (mL 199) (mR 199)) := rfl
theorem gw_code {z : Nat} (h : z < 200) : Cond.code (mN z) (mC z) (mL z) (mR z) ∈ gw := by
  refine List.mem_filter.mpr ⟨?_, gc_good _ _ _ _⟩
  exact match z, h with
  | 0, _ => List.mem_of_getElem? gc_0
  | 1, _ => List.mem_of_getElem? gc_1
  | 2, _ => List.mem_of_getElem? gc_2
  | 3, _ => List.mem_of_getElem? gc_3
  | 4, _ => List.mem_of_getElem? gc_4
  | 5, _ => List.mem_of_getElem? gc_5
  | 6, _ => List.mem_of_getElem? gc_6
  | 7, _ => List.mem_of_getElem? gc_7
  | 8, _ => List.mem_of_getElem? gc_8
  | 9, _ => List.mem_of_getElem? gc_9
  | 10, _ => List.mem_of_getElem? gc_10
  | 11, _ => List.mem_of_getElem? gc_11
  | 12, _ => List.mem_of_getElem? gc_12
  | 13, _ => List.mem_of_getElem? gc_13
  | 14, _ => List.mem_of_getElem? gc_14
  | 15, _ => List.mem_of_getElem? gc_15
  | 16, _ => List.mem_of_getElem? gc_16
  | 17, _ => List.mem_of_getElem? gc_17
  | 18, _ => List.mem_of_getElem? gc_18
  | 19, _ => List.mem_of_getElem? gc_19
  | 20, _ => List.mem_of_getElem? gc_20
  | 21, _ => List.mem_of_getElem? gc_21
  | 22, _ => List.mem_of_getElem? gc_22
  | 23, _ => List.mem_of_getElem? gc_23
  | 24, _ => List.mem_of_getElem? gc_24
  | 25, _ => List.mem_of_getElem? gc_25
  | 26, _ => List.mem_of_getElem? gc_26
  | 27, _ => List.mem_of_getElem? gc_27
  | 28, _ => List.mem_of_getElem? gc_28
  | 29, _ => List.mem_of_getElem? gc_29
  | 30, _ => List.mem_of_getElem? gc_30
  | 31, _ => List.mem_of_getElem? gc_31
  | 32, _ => List.mem_of_getElem? gc_32
  | 33, _ => List.mem_of_getElem? gc_33
  | 34, _ => List.mem_of_getElem? gc_34
  | 35, _ => List.mem_of_getElem? gc_35
  | 36, _ => List.mem_of_getElem? gc_36
  | 37, _ => List.mem_of_getElem? gc_37
  | 38, _ => List.mem_of_getElem? gc_38
  | 39, _ => List.mem_of_getElem? gc_39
  | 40, _ => List.mem_of_getElem? gc_40
  | 41, _ => List.mem_of_getElem? gc_41
  | 42, _ => List.mem_of_getElem? gc_42
  | 43, _ => List.mem_of_getElem? gc_43
  | 44, _ => List.mem_of_getElem? gc_44
  | 45, _ => List.mem_of_getElem? gc_45
  | 46, _ => List.mem_of_getElem? gc_46
  | 47, _ => List.mem_of_getElem? gc_47
  | 48, _ => List.mem_of_getElem? gc_48
  | 49, _ => List.mem_of_getElem? gc_49
  | 50, _ => List.mem_of_getElem? gc_50
  | 51, _ => List.mem_of_getElem? gc_51
  | 52, _ => List.mem_of_getElem? gc_52
  | 53, _ => List.mem_of_getElem? gc_53
  | 54, _ => List.mem_of_getElem? gc_54
  | 55, _ => List.mem_of_getElem? gc_55
  | 56, _ => List.mem_of_getElem? gc_56
  | 57, _ => List.mem_of_getElem? gc_57
  | 58, _ => List.mem_of_getElem? gc_58
  | 59, _ => List.mem_of_getElem? gc_59
  | 60, _ => List.mem_of_getElem? gc_60
  | 61, _ => List.mem_of_getElem? gc_61
  | 62, _ => List.mem_of_getElem? gc_62
  | 63, _ => List.mem_of_getElem? gc_63
  | 64, _ => List.mem_of_getElem? gc_64
  | 65, _ => List.mem_of_getElem? gc_65
  | 66, _ => List.mem_of_getElem? gc_66
  | 67, _ => List.mem_of_getElem? gc_67
  | 68, _ => List.mem_of_getElem? gc_68
  | 69, _ => List.mem_of_getElem? gc_69
  | 70, _ => List.mem_of_getElem? gc_70
  | 71, _ => List.mem_of_getElem? gc_71
  | 72, _ => List.mem_of_getElem? gc_72
  | 73, _ => List.mem_of_getElem? gc_73
  | 74, _ => List.mem_of_getElem? gc_74
  | 75, _ => List.mem_of_getElem? gc_75
  | 76, _ => List.mem_of_getElem? gc_76
  | 77, _ => List.mem_of_getElem? gc_77
  | 78, _ => List.mem_of_getElem? gc_78
  | 79, _ => List.mem_of_getElem? gc_79
  | 80, _ => List.mem_of_getElem? gc_80
  | 81, _ => List.mem_of_getElem? gc_81
  | 82, _ => List.mem_of_getElem? gc_82
  | 83, _ => List.mem_of_getElem? gc_83
  | 84, _ => List.mem_of_getElem? gc_84
  | 85, _ => List.mem_of_getElem? gc_85
  | 86, _ => List.mem_of_getElem? gc_86
  | 87, _ => List.mem_of_getElem? gc_87
  | 88, _ => List.mem_of_getElem? gc_88
  | 89, _ => List.mem_of_getElem? gc_89
  | 90, _ => List.mem_of_getElem? gc_90
  | 91, _ => List.mem_of_getElem? gc_91
  | 92, _ => List.mem_of_getElem? gc_92
  | 93, _ => List.mem_of_getElem? gc_93
  | 94, _ => List.mem_of_getElem? gc_94
  | 95, _ => List.mem_of_getElem? gc_95
  | 96, _ => List.mem_of_getElem? gc_96
  | 97, _ => List.mem_of_getElem? gc_97
  | 98, _ => List.mem_of_getElem? gc_98
  | 99, _ => List.mem_of_getElem? gc_99
  | 100, _ => List.mem_of_getElem? gc_100
  | 101, _ => List.mem_of_getElem? gc_101
  | 102, _ => List.mem_of_getElem? gc_102
  | 103, _ => List.mem_of_getElem? gc_103
  | 104, _ => List.mem_of_getElem? gc_104
  | 105, _ => List.mem_of_getElem? gc_105
  | 106, _ => List.mem_of_getElem? gc_106
  | 107, _ => List.mem_of_getElem? gc_107
  | 108, _ => List.mem_of_getElem? gc_108
  | 109, _ => List.mem_of_getElem? gc_109
  | 110, _ => List.mem_of_getElem? gc_110
  | 111, _ => List.mem_of_getElem? gc_111
  | 112, _ => List.mem_of_getElem? gc_112
  | 113, _ => List.mem_of_getElem? gc_113
  | 114, _ => List.mem_of_getElem? gc_114
  | 115, _ => List.mem_of_getElem? gc_115
  | 116, _ => List.mem_of_getElem? gc_116
  | 117, _ => List.mem_of_getElem? gc_117
  | 118, _ => List.mem_of_getElem? gc_118
  | 119, _ => List.mem_of_getElem? gc_119
  | 120, _ => List.mem_of_getElem? gc_120
  | 121, _ => List.mem_of_getElem? gc_121
  | 122, _ => List.mem_of_getElem? gc_122
  | 123, _ => List.mem_of_getElem? gc_123
  | 124, _ => List.mem_of_getElem? gc_124
  | 125, _ => List.mem_of_getElem? gc_125
  | 126, _ => List.mem_of_getElem? gc_126
  | 127, _ => List.mem_of_getElem? gc_127
  | 128, _ => List.mem_of_getElem? gc_128
  | 129, _ => List.mem_of_getElem? gc_129
  | 130, _ => List.mem_of_getElem? gc_130
  | 131, _ => List.mem_of_getElem? gc_131
  | 132, _ => List.mem_of_getElem? gc_132
  | 133, _ => List.mem_of_getElem? gc_133
  | 134, _ => List.mem_of_getElem? gc_134
  | 135, _ => List.mem_of_getElem? gc_135
  | 136, _ => List.mem_of_getElem? gc_136
  | 137, _ => List.mem_of_getElem? gc_137
  | 138, _ => List.mem_of_getElem? gc_138
  | 139, _ => List.mem_of_getElem? gc_139
  | 140, _ => List.mem_of_getElem? gc_140
  | 141, _ => List.mem_of_getElem? gc_141
  | 142, _ => List.mem_of_getElem? gc_142
  | 143, _ => List.mem_of_getElem? gc_143
  | 144, _ => List.mem_of_getElem? gc_144
  | 145, _ => List.mem_of_getElem? gc_145
  | 146, _ => List.mem_of_getElem? gc_146
  | 147, _ => List.mem_of_getElem? gc_147
  | 148, _ => List.mem_of_getElem? gc_148
  | 149, _ => List.mem_of_getElem? gc_149
  | 150, _ => List.mem_of_getElem? gc_150
  | 151, _ => List.mem_of_getElem? gc_151
  | 152, _ => List.mem_of_getElem? gc_152
  | 153, _ => List.mem_of_getElem? gc_153
  | 154, _ => List.mem_of_getElem? gc_154
  | 155, _ => List.mem_of_getElem? gc_155
  | 156, _ => List.mem_of_getElem? gc_156
  | 157, _ => List.mem_of_getElem? gc_157
  | 158, _ => List.mem_of_getElem? gc_158
  | 159, _ => List.mem_of_getElem? gc_159
  | 160, _ => List.mem_of_getElem? gc_160
  | 161, _ => List.mem_of_getElem? gc_161
  | 162, _ => List.mem_of_getElem? gc_162
  | 163, _ => List.mem_of_getElem? gc_163
  | 164, _ => List.mem_of_getElem? gc_164
  | 165, _ => List.mem_of_getElem? gc_165
  | 166, _ => List.mem_of_getElem? gc_166
  | 167, _ => List.mem_of_getElem? gc_167
  | 168, _ => List.mem_of_getElem? gc_168
  | 169, _ => List.mem_of_getElem? gc_169
  | 170, _ => List.mem_of_getElem? gc_170
  | 171, _ => List.mem_of_getElem? gc_171
  | 172, _ => List.mem_of_getElem? gc_172
  | 173, _ => List.mem_of_getElem? gc_173
  | 174, _ => List.mem_of_getElem? gc_174
  | 175, _ => List.mem_of_getElem? gc_175
  | 176, _ => List.mem_of_getElem? gc_176
  | 177, _ => List.mem_of_getElem? gc_177
  | 178, _ => List.mem_of_getElem? gc_178
  | 179, _ => List.mem_of_getElem? gc_179
  | 180, _ => List.mem_of_getElem? gc_180
  | 181, _ => List.mem_of_getElem? gc_181
  | 182, _ => List.mem_of_getElem? gc_182
  | 183, _ => List.mem_of_getElem? gc_183
  | 184, _ => List.mem_of_getElem? gc_184
  | 185, _ => List.mem_of_getElem? gc_185
  | 186, _ => List.mem_of_getElem? gc_186
  | 187, _ => List.mem_of_getElem? gc_187
  | 188, _ => List.mem_of_getElem? gc_188
  | 189, _ => List.mem_of_getElem? gc_189
  | 190, _ => List.mem_of_getElem? gc_190
  | 191, _ => List.mem_of_getElem? gc_191
  | 192, _ => List.mem_of_getElem? gc_192
  | 193, _ => List.mem_of_getElem? gc_193
  | 194, _ => List.mem_of_getElem? gc_194
  | 195, _ => List.mem_of_getElem? gc_195
  | 196, _ => List.mem_of_getElem? gc_196
  | 197, _ => List.mem_of_getElem? gc_197
  | 198, _ => List.mem_of_getElem? gc_198
  | 199, _ => List.mem_of_getElem? gc_199
  | k + 200, h => absurd h (by omega)
end
section
/-! THE ABSTRACT MACHINE. A heap is a table of places: 0 is null, 1 the script, 2 and on what is made; a place has a shape (code, length) and whole numbers, longs, places as its contents -/
abbrev iI (n : Int) : Int32 := Int32.ofInt n
abbrev lI (n : Int) : Int64 := Int64.ofInt n
abbrev jHp : Type := (Nat × (Nat → Nat × Nat)) × (Nat → Nat → Int32) × (Nat → Nat → Int64) × (Nat → Nat → Nat)
def jn (h : jHp) : Nat := h.1.1
def jz (h : jHp) (p : Nat) : Nat × Nat := h.1.2 p
def gI (h : jHp) (p k : Nat) : Int32 := h.2.1 p k
def gL (h : jHp) (p k : Nat) : Int64 := h.2.2.1 p k
def gR (h : jHp) (p k : Nat) : Nat := h.2.2.2 p k
def sI (h : jHp) (p k : Nat) (v : Int32) : jHp := (h.1, (fun q j => if q = p ∧ j = k then v else h.2.1 q j), h.2.2)
def sL (h : jHp) (p k : Nat) (v : Int64) : jHp := (h.1, h.2.1, (fun q j => if q = p ∧ j = k then v else h.2.2.1 q j), h.2.2.2)
def sR (h : jHp) (p k : Nat) (v : Nat) : jHp := (h.1, h.2.1, h.2.2.1, (fun q j => if q = p ∧ j = k then v else h.2.2.2 q j))
/-- a new place of shape (c, n), all 0 -/
def jA (h : jHp) (c n : Nat) : jHp := ((h.1.1 + 1, fun q => if q = h.1.1 + 2 then (c, n) else h.1.2 q), (fun q j => if q = h.1.1 + 2 then 0 else h.2.1 q j), (fun q j => if q = h.1.1 + 2 then 0 else h.2.2.1 q j), (fun q j => if q = h.1.1 + 2 then 0 else h.2.2.2 q j))
/-- new int[n][k] -/
def jM (h : jHp) (n k : Nat) : jHp := ((h.1.1 + 1 + n, fun q => if q = h.1.1 + 2 then (12, n) else if h.1.1 + 2 < q ∧ q < h.1.1 + 3 + n then (10, k) else h.1.2 q), (fun q j => if h.1.1 + 2 ≤ q ∧ q < h.1.1 + 3 + n then 0 else h.2.1 q j), (fun q j => if h.1.1 + 2 ≤ q ∧ q < h.1.1 + 3 + n then 0 else h.2.2.1 q j), (fun q j => if q = h.1.1 + 2 then (if j < n then h.1.1 + 3 + j else 0) else if h.1.1 + 2 < q ∧ q < h.1.1 + 3 + n then 0 else h.2.2.2 q j))
/-- n ints from (a, sp) to (b, dp) -/
def jY (h : jHp) (a sp b dp n : Nat) : jHp := (h.1, (fun q j => if q = b then va_cpy (h.2.1 a) (h.2.1 b) sp dp n j else h.2.1 q j), h.2.2)
def uu : Value := .float 0
def kl : Value → Value
  | .long _ => uu
  | v => v
def nth : List Value → Nat → Value
  | [], _ => uu
  | a :: _, 0 => a
  | _ :: r, n + 1 => nth r n
/-- a value of one slot into a local -/
def s1 : List Value → Nat → Value → List Value
  | [], _, _ => []
  | _ :: r, 0, v => v :: r
  | a :: r, n + 1, v => (match n with
    | 0 => kl a
    | _ + 1 => a) :: s1 r n v
def s2 : List Value → Nat → Value → List Value
  | [], _, _ => []
  | _ :: r, 0, v => v :: (match r with
    | [] => []
    | _ :: r' => uu :: r')
  | a :: r, n + 1, v => (match n with
    | 0 => kl a
    | _ + 1 => a) :: s2 r n v
/-- the locals that live on: 1 keeps, anything else drops -/
def cln : List Nat → List Value → List Value
  | [], l => l
  | _ :: _, [] => []
  | 1 :: m, a :: r => a :: cln m r
  | _ :: m, _ :: r => uu :: cln m r
def cats : List Value → Nat
  | [] => 0
  | v :: r => v.category + cats r
/-- the locals at a method's start -/
def ent : List Value → Nat → List Value
  | _, 0 => []
  | [], n + 1 => uu :: ent [] n
  | v :: r, n + 1 => v :: (match v.category with
    | 2 => (match n with
      | 0 => []
      | n' + 1 => uu :: ent r n')
    | _ => ent r n)
def isB (v : Int32) : Prop := v = 0 ∨ v = 1
abbrev jE : Type := Nat × Instr × List Nat
abbrev jK : Type := Nat → Nat → List Value → List Value → jHp → Prop
abbrev jQ : Type := Option Value → jHp → Prop
abbrev jT : Type := Nat → Nat → Nat → List Value → jHp → jQ → Prop
def o_i (f : Int32 → Prop) : Value → Prop
  | .int x => f x
  | _ => False
def o_l (f : Int64 → Prop) : Value → Prop
  | .long x => f x
  | _ => False
def o_r (f : Nat → Prop) : Value → Prop
  | .ref x => f x
  | _ => False
def p_i (f : Int32 → List Value → Prop) : List Value → Prop
  | .int x :: r => f x r
  | _ => False
def p_l (f : Int64 → List Value → Prop) : List Value → Prop
  | .long x :: r => f x r
  | _ => False
def p_r (f : Nat → List Value → Prop) : List Value → Prop
  | .ref x :: r => f x r
  | _ => False
def p_n (f : Prop) : List Value → Prop
  | [] => f
  | _ => False
def jcd (c : Jvm.ClassFile.Cond) (x y : Int32) (A B : Prop) : Prop := match c with
  | .eq => (x = y → A) ∧ (¬ x = y → B)
  | .ne => (¬ x = y → A) ∧ (x = y → B)
  | .lt => (x < y → A) ∧ (¬ x < y → B)
  | .ge => (y ≤ x → A) ∧ (¬ y ≤ x → B)
  | .gt => (y < x → A) ∧ (¬ y < x → B)
  | .le => (x ≤ y → A) ∧ (¬ x ≤ y → B)
/-- within an array of code c -/
def ix (h : jHp) (p c : Nat) (i : Int32) : Prop := (jz h p).1 = c ∧ vp_in i (jz h p).2
def ixL (h : jHp) (p : Nat) (i : Int32) : Prop := ((jz h p).1 = 10 ∨ (jz h p).1 = 20) ∧ vp_in i (jz h p).2
def ixR (h : jHp) (p : Nat) (i : Int32) : Prop := ((jz h p).1 = 12 ∨ (jz h p).1 = 13 ∨ (jz h p).1 = 14) ∧ vp_in i (jz h p).2
def isO (h : jHp) (p c : Nat) : Prop := (jz h p).1 = c
def jFld (h : jHp) (p k : Nat) (t : Nat) : Value := match t with
  | 0 => .int (gI h p k)
  | 1 => .long (gL h p k)
  | 2 => .ref (gR h p k)
  | _ => .int (gI h p k)
def jPut (t : Nat) (h : jHp) (p k : Nat) (v : Value) (K : jHp → Prop) : Prop := match t with
  | 0 => o_i (fun x => K (sI h p k x)) v
  | 1 => o_l (fun x => K (sL h p k x)) v
  | 2 => o_r (fun x => K (sR h p k x)) v
  | _ => o_i (fun x => isB x ∧ K (sI h p k x)) v
def jNew (c : Nat) (k : jK) (kc ks : Nat) (ls : List Value) (h : jHp) (n : Int32) (r : List Value) : Prop := ¬ n < 0 ∧ n.toNatClampNeg ≤ 1000000 ∧ 1 ≤ kc ∧ n.toNatClampNeg ≤ ks ∧ k (kc - 1) (ks - n.toNatClampNeg) ls (.ref (jn h + 2) :: r) (jA h c n.toNatClampNeg)
/-- what comes behind a call, by the kind of its answer: 0 none, 1 int, 2 long, 3 a place -/
def jAns (rk : Nat) (K : List Value → jHp → Prop) (r : List Value) : jQ := match rk with
  | 0 => fun v h => v = none ∧ K r h
  | 1 => fun v h => ∃ x, v = some (.int x) ∧ K (.int x :: r) h
  | 2 => fun v h => ∃ x, v = some (.long x) ∧ K (.long x :: r) h
  | _ => fun v h => ∃ x, v = some (.ref x) ∧ K (.ref x :: r) h
def jHd (f : Nat → Prop) : List Value → Prop
  | .ref p :: _ => f p
  | _ => False
def jCal (C : jT) (vt : Nat) (z n rk k1 s1 : Nat) (k : jK) (kc ks : Nat) (ls st : List Value) (h : jHp) : Prop :=
  bif Nat.ble k1 kc && (Nat.ble s1 ks && (Nat.ble (cats (st.drop n)) 8 && Nat.beq (st.take n).length n)) then
    (match vt with
    | 0 => C z k1 s1 (st.take n).reverse h (jAns rk (fun st' h' => k (kc - k1) (ks - s1) ls st' h') (st.drop n))
    | 1 => jHd (fun p => isO h p (mO z) ∧ C z k1 s1 (st.take n).reverse h (jAns rk (fun st' h' => k (kc - k1) (ks - s1) ls st' h') (st.drop n))) (st.take n).reverse
    | _ => jHd (fun p => p ≠ 0 ∧ C z k1 s1 (st.take n).reverse h (jAns rk (fun st' h' => k (kc - k1) (ks - s1) ls st' h') (st.drop n))) (st.take n).reverse)
  else False
/-- one instruction -/
def jS (JJ : Nat → jK) (C : jT) (Q : jQ) (e : jE) (k : jK) : jK := fun kc ks ls st h => match e.2.1 with
  | .iconst n => k kc ks ls (.int (iI n) :: st) h
  | .bipush n => k kc ks ls (.int (iI n) :: st) h
  | .sipush n => k kc ks ls (.int (iI n) :: st) h
  | .lconst n => k kc ks ls (.long (lI (n.val : Int)) :: st) h
  | .ldc _ => k kc ks ls (.int (iI (jc (e.2.2.getD 0 0) (e.2.2.getD 1 0))) :: st) h
  | .ldc_w _ => k kc ks ls (.int (iI (jc (e.2.2.getD 0 0) (e.2.2.getD 1 0))) :: st) h
  | .ldc2_w _ => k kc ks ls (.long (lI (jc (e.2.2.getD 0 0) (e.2.2.getD 1 0))) :: st) h
  | .iload i => o_i (fun x => k kc ks ls (.int x :: st) h) (nth ls i)
  | .iload_n i => o_i (fun x => k kc ks ls (.int x :: st) h) (nth ls i.val)
  | .lload i => o_l (fun x => k kc ks ls (.long x :: st) h) (nth ls i)
  | .lload_n i => o_l (fun x => k kc ks ls (.long x :: st) h) (nth ls i.val)
  | .aload i => o_r (fun x => k kc ks ls (.ref x :: st) h) (nth ls i)
  | .aload_n i => o_r (fun x => k kc ks ls (.ref x :: st) h) (nth ls i.val)
  | .istore i => p_i (fun x r => k kc ks (s1 ls i (.int x)) r h) st
  | .istore_n i => p_i (fun x r => k kc ks (s1 ls i.val (.int x)) r h) st
  | .lstore i => p_l (fun x r => k kc ks (s2 ls i (.long x)) r h) st
  | .lstore_n i => p_l (fun x r => k kc ks (s2 ls i.val (.long x)) r h) st
  | .astore i => p_r (fun x r => k kc ks (s1 ls i (.ref x)) r h) st
  | .astore_n i => p_r (fun x r => k kc ks (s1 ls i.val (.ref x)) r h) st
  | .iinc i n => o_i (fun x => k kc ks (s1 ls i (.int (x + iI n))) st h) (nth ls i)
  | .iadd => p_i (fun y => p_i (fun x r => k kc ks ls (.int (x + y) :: r) h)) st
  | .isub => p_i (fun y => p_i (fun x r => k kc ks ls (.int (x - y) :: r) h)) st
  | .imul => p_i (fun y => p_i (fun x r => k kc ks ls (.int (x * y) :: r) h)) st
  | .idiv => p_i (fun y => p_i (fun x r => ¬ y = 0 ∧ k kc ks ls (.int (x / y) :: r) h)) st
  | .irem => p_i (fun y => p_i (fun x r => ¬ y = 0 ∧ k kc ks ls (.int (x - x / y * y) :: r) h)) st
  | .iand => p_i (fun y => p_i (fun x r => k kc ks ls (.int (x &&& y) :: r) h)) st
  | .ior => p_i (fun y => p_i (fun x r => k kc ks ls (.int (x ||| y) :: r) h)) st
  | .ishl => p_i (fun y => p_i (fun x r => k kc ks ls (.int (x <<< (y &&& 31)) :: r) h)) st
  | .ishr => p_i (fun y => p_i (fun x r => k kc ks ls (.int (x >>> (y &&& 31)) :: r) h)) st
  | .iushr => p_i (fun y => p_i (fun x r => k kc ks ls (.int (x.toUInt32 >>> (y.toUInt32 &&& Int32.toUInt32 31)).toInt32 :: r) h)) st
  | .ineg => p_i (fun x r => k kc ks ls (.int (-x) :: r) h) st
  | .ladd => p_l (fun y => p_l (fun x r => k kc ks ls (.long (x + y) :: r) h)) st
  | .lsub => p_l (fun y => p_l (fun x r => k kc ks ls (.long (x - y) :: r) h)) st
  | .lmul => p_l (fun y => p_l (fun x r => k kc ks ls (.long (x * y) :: r) h)) st
  | .ldiv => p_l (fun y => p_l (fun x r => ¬ y = 0 ∧ k kc ks ls (.long (x / y) :: r) h)) st
  | .lrem => p_l (fun y => p_l (fun x r => ¬ y = 0 ∧ k kc ks ls (.long (x - x / y * y) :: r) h)) st
  | .land => p_l (fun y => p_l (fun x r => k kc ks ls (.long (x &&& y) :: r) h)) st
  | .lor => p_l (fun y => p_l (fun x r => k kc ks ls (.long (x ||| y) :: r) h)) st
  | .lneg => p_l (fun x r => k kc ks ls (.long (-x) :: r) h) st
  | .lshl => p_i (fun y => p_l (fun x r => k kc ks ls (.long (x <<< (y.toInt64 &&& 63)) :: r) h)) st
  | .lshr => p_i (fun y => p_l (fun x r => k kc ks ls (.long (x >>> (y.toInt64 &&& 63)) :: r) h)) st
  | .lushr => p_i (fun y => p_l (fun x r => k kc ks ls (.long (x.toUInt64 >>> (y.toInt64.toUInt64 &&& Int64.toUInt64 63)).toInt64 :: r) h)) st
  | .lcmp => p_l (fun y => p_l (fun x r => k kc ks ls (.int (lg_cmp x y) :: r) h)) st
  | .i2l => p_i (fun x r => k kc ks ls (.long x.toInt64 :: r) h) st
  | .l2i => p_l (fun x r => k kc ks ls (.int x.toInt32 :: r) h) st
  | .i2b => p_i (fun x r => k kc ks ls (.int x.toInt8.toInt32 :: r) h) st
  | .dup => match st with
    | .ref q :: r => k kc ks ls (.ref q :: .ref q :: r) h
    | .int q :: r => k kc ks ls (.int q :: .int q :: r) h
    | _ => False
  | .ifCond c _ => p_i (fun x r => jcd c x 0 (JJ (e.2.2.getD 0 0) kc ks (cln (e.2.2.drop 1) ls) r h) (k kc ks ls r h)) st
  | .if_icmp c _ => p_i (fun y => p_i (fun x r => jcd c x y (JJ (e.2.2.getD 0 0) kc ks (cln (e.2.2.drop 1) ls) r h) (k kc ks ls r h))) st
  | .goto _ => JJ (e.2.2.getD 0 0) kc ks (cln (e.2.2.drop 1) ls) st h
  | .tableswitch _ lo hi _ => p_i (fun x r => ((x.toInt < lo ∨ hi < x.toInt) → JJ (e.2.2.getD 0 0) kc ks ls r h) ∧ ∀ (j t : Nat), (e.2.2.drop 1)[j]? = some t → x.toInt = lo + j → JJ t kc ks ls r h) st
  | .iaload => p_i (fun i => p_r (fun p r => ixL h p i ∧ k kc ks ls (.int (gI h p i.toNatClampNeg) :: r) h)) st
  | .baload => p_i (fun i => p_r (fun p r => ix h p 11 i ∧ k kc ks ls (.int (gI h p i.toNatClampNeg) :: r) h)) st
  | .aaload => p_i (fun i => p_r (fun p r => ixR h p i ∧ k kc ks ls (.ref (gR h p i.toNatClampNeg) :: r) h)) st
  | .iastore => p_i (fun x => p_i (fun i => p_r (fun p r => ix h p 10 i ∧ k kc ks ls r (sI h p i.toNatClampNeg x)))) st
  | .bastore => p_i (fun x => p_i (fun i => p_r (fun p r => ix h p 11 i ∧ k kc ks ls r (sI h p i.toNatClampNeg (vp_nar .byte x))))) st
  | .aastore => p_r (fun q => p_i (fun i => p_r (fun p r => ((ix h p 13 i ∧ isO h q 0) ∨ (ix h p 14 i ∧ isO h q 5)) ∧ k kc ks ls r (sR h p i.toNatClampNeg q)))) st
  | .arraylength => p_r (fun p r => (10 ≤ (jz h p).1 ∧ (jz h p).1 ≤ 14 ∨ (jz h p).1 = 20) ∧ k kc ks ls (.int (Int32.ofNat (jz h p).2) :: r) h) st
  | .newarray _ => p_i (fun n r => jNew (e.2.2.getD 0 0) k kc ks ls h n r) st
  | .anewarray _ => p_i (fun n r => jNew (e.2.2.getD 0 0) k kc ks ls h n r) st
  | .multianewarray _ _ => p_i (fun m => p_i (fun n r => (¬ n < 0 ∧ ¬ m < 0 ∧ n.toNatClampNeg ≤ 1000 ∧ m.toNatClampNeg ≤ 1000 ∧ 1 + n.toNatClampNeg ≤ kc ∧ n.toNatClampNeg + n.toNatClampNeg * m.toNatClampNeg ≤ ks) ∧ k (kc - (1 + n.toNatClampNeg)) (ks - (n.toNatClampNeg + n.toNatClampNeg * m.toNatClampNeg)) ls (.ref (jn h + 2) :: r) (jM h n.toNatClampNeg m.toNatClampNeg))) st
  | .new _ => 1 ≤ kc ∧ cF (e.2.2.getD 0 0) ≤ ks ∧ k (kc - 1) (ks - cF (e.2.2.getD 0 0)) ls (.ref (jn h + 2) :: st) (jA h (e.2.2.getD 0 0) 0)
  | .getfield _ => p_r (fun p r => isO h p (e.2.2.getD 0 0) ∧ k kc ks ls (jFld h p (e.2.2.getD 1 0) (e.2.2.getD 2 0) :: r) h) st
  | .putfield _ => match st with
    | v :: .ref p :: r => isO h p (e.2.2.getD 0 0) ∧ jPut (e.2.2.getD 2 0) h p (e.2.2.getD 1 0) v (fun h' => k kc ks ls r h')
    | _ => False
  | .invokevirtual _ => match e.2.2 with
    | [z, n, rk, k1, s1] => jCal C 1 z n rk k1 s1 k kc ks ls st h
    | _ => False
  | .invokespecial _ => match e.2.2 with
    | [z, n, rk, k1, s1] => jCal C 2 z n rk k1 s1 k kc ks ls st h
    | _ => p_r (fun p r => bif Nat.ble (cats r) 8 then p ≠ 0 ∧ k kc ks ls r h else False) st
  | .invokestatic _ => match e.2.2 with
    | [z, n, rk, k1, s1] => jCal C 0 z n rk k1 s1 k kc ks ls st h
    | [0, _] => p_i (fun y => p_i (fun x r => bif Nat.ble (cats r) 8 then k kc ks ls (.int (if x < y then y else x) :: r) h else False)) st
    | [1, _] => p_l (fun y => p_l (fun x r => bif Nat.ble (cats r) 8 then k kc ks ls (.long (if y < x then x else y) :: r) h else False)) st
    | [2, _] => p_l (fun y => p_l (fun x r => bif Nat.ble (cats r) 8 then k kc ks ls (.long (if y < x then y else x) :: r) h else False)) st
    | [3, _] => p_l (fun x r => bif Nat.ble (cats r) 8 then k kc ks ls (.long (if 0 < x then x else -x) :: r) h else False) st
    | [4, _] => p_i (fun y => p_i (fun x r => bif Nat.ble (cats r) 8 then k kc ks ls (.int (if y < x then y else x) :: r) h else False)) st
    | _ => p_i (fun n => p_i (fun dp => p_r (fun b => p_i (fun sp => p_r (fun a r => bif Nat.ble (cats r) 8 then (jz h a).1 = 10 ∧ (jz h b).1 = 10 ∧ ¬ sp < 0 ∧ ¬ dp < 0 ∧ ¬ n < 0 ∧ sp.toNatClampNeg + n.toNatClampNeg ≤ (jz h a).2 ∧ dp.toNatClampNeg + n.toNatClampNeg ≤ (jz h b).2 ∧ k kc ks ls r (jY h a sp.toNatClampNeg b dp.toNatClampNeg n.toNatClampNeg) else False))))) st
  | .ireturn => p_i (fun v r => p_n (match e.2.2 with
    | [1] => isB v ∧ Q (some (.int v)) h
    | _ => Q (some (.int v)) h) r) st
  | .lreturn => p_l (fun v r => p_n (Q (some (.long v)) h) r) st
  | .areturn => p_r (fun v r => p_n (Q (some (.ref v)) h) r) st
  | .return_ => p_n (Q none h) st
  | _ => False
/-- a block: its instructions, then the label behind it -/
def jB (JJ : Nat → jK) (C : jT) (Q : jQ) (nx : Nat) (nm : List Nat) : List jE → jK
  | [] => fun kc ks ls st h => JJ nx kc ks (cln nm ls) st h
  | e :: r => jS JJ C Q e (jB JJ C Q nx nm r)
/-- what is checked of an instruction of method y, before it is believed -/
def jkf (ty : FieldType) : Nat := match ty with
  | .int => 0
  | .long => 1
  | .boolean => 3
  | _ => 2
def jrk (r : Option FieldType) : Nat := match r with
  | none => 0
  | some .int => 1
  | some .boolean => 1
  | some .long => 2
  | _ => 3
def okI (y pc : Nat) (ins : Instr) (a : List Nat) : Bool := match ins with
  | .bipush n => decide (-128 ≤ n ∧ n ≤ 127)
  | .sipush n => decide (-32768 ≤ n ∧ n ≤ 32767)
  | .ldc i => tK.contains [mO y, i, a.getD 0 0, a.getD 1 0]
  | .ldc_w i => tK.contains [mO y, i, a.getD 0 0, a.getD 1 0]
  | .ldc2_w i => tJ.contains [mO y, i, a.getD 0 0, a.getD 1 0]
  | .istore i => decide (i < mL y)
  | .istore_n i => decide (i.val < mL y)
  | .astore i => decide (i < mL y)
  | .astore_n i => decide (i.val < mL y)
  | .iinc i _ => decide (i < mL y)
  | .lstore i => decide (i + 1 < mL y)
  | .lstore_n i => decide (i.val + 1 < mL y)
  | .ifCond _ o => decide ((pc : Int) + o = ((a.getD 0 0 : Nat) : Int))
  | .if_icmp _ o => decide ((pc : Int) + o = ((a.getD 0 0 : Nat) : Int))
  | .goto o => decide ((pc : Int) + o = ((a.getD 0 0 : Nat) : Int))
  | .tableswitch d lo hi os => decide ((pc : Int) + d = ((a.getD 0 0 : Nat) : Int)) && decide ((a.drop 1).map (fun t => ((t : Nat) : Int)) = os.toList.map (fun o => (pc : Int) + o)) && decide (hi = lo + (os.toList.length : Int) - 1)
  | .getfield i => tF.contains [mO y, i, a.getD 0 0, a.getD 1 0] && decide (a.getD 0 0 < 10) && decide (a.getD 1 0 < cF (a.getD 0 0)) && decide (a.getD 2 0 = jkf (cY (a.getD 0 0) (a.getD 1 0)))
  | .putfield i => tF.contains [mO y, i, a.getD 0 0, a.getD 1 0] && decide (a.getD 0 0 < 10) && decide (a.getD 1 0 < cF (a.getD 0 0)) && decide (a.getD 2 0 = jkf (cY (a.getD 0 0) (a.getD 1 0))) && (!(cT (a.getD 0 0) (a.getD 1 0)).2.2.2 || (decide ((mN y).name = "<init>") && decide ((cT (a.getD 0 0) (a.getD 1 0)).1 = cN (mO y))))
  | .new i => tN.contains [mO y, i, a.getD 0 0] && decide (a.getD 0 0 < 10)
  | .newarray .int => decide (a.getD 0 0 = 10)
  | .newarray .byte => decide (a.getD 0 0 = 11)
  | .newarray _ => false
  | .anewarray i => (tA.contains [mO y, i, 0] && decide (a.getD 0 0 = 13)) || (tA.contains [mO y, i, 5] && decide (a.getD 0 0 = 14))
  | .multianewarray _ _ => false
  | .invokevirtual i => (match a with
    | [z, n, rk, _, _] => tM.contains [mO y, i, z, n, 0] && decide (rk = jrk (mR z)) && decide (mF z + 1 ≤ mF y) && decide (8 + (mL z + 11) + mS z ≤ mS y)
    | _ => false)
  | .invokespecial i => (match a with
    | [z, n, rk, _, _] => (tM.contains [mO y, i, z, n, 1] || tZ.contains [mO y, i, z, n, 3]) && decide (rk = jrk (mR z)) && decide (mF z + 1 ≤ mF y) && decide (8 + (mL z + 11) + mS z ≤ mS y)
    | [] => tO.contains [mO y, i] && decide (1 ≤ mF y) && decide (20 ≤ mS y)
    | _ => false)
  | .invokestatic i => (match a with
    | [z, n, rk, _, _] => tM.contains [mO y, i, z, n, 2] && decide (rk = jrk (mR z)) && decide (mF z + 1 ≤ mF y) && decide (8 + (mL z + 11) + mS z ≤ mS y)
    | [z, _] => decide (z < 5) && tH.contains [mO y, i, z] && decide (1 ≤ mF y) && decide (23 ≤ mS y)
    | [] => decide (mO y = 0) && decide (i = 36) && decide (1 ≤ mF y) && decide (26 ≤ mS y)
    | _ => false)
  | .ireturn => (decide (mR y = some .int) && decide (a = [])) || (decide (mR y = some .boolean) && decide (a = [1]))
  | .lreturn => decide (mR y = some .long)
  | .areturn => decide (mR y = some (.object (cN 0)))
  | .return_ => decide (mR y = none)
  | _ => true
def jend : Instr → Bool
  | .goto _ => true
  | .ireturn => true
  | .lreturn => true
  | .areturn => true
  | .return_ => true
  | .tableswitch _ _ _ _ => true
  | _ => false
def jlen : Instr → Nat
  | .iload _ => 2
  | .lload _ => 2
  | .aload _ => 2
  | .istore _ => 2
  | .lstore _ => 2
  | .astore _ => 2
  | .bipush _ => 2
  | .sipush _ => 3
  | .ldc _ => 2
  | .ldc_w _ => 3
  | .ldc2_w _ => 3
  | .iinc _ _ => 3
  | .ifCond _ _ => 3
  | .if_icmp _ _ => 3
  | .goto _ => 3
  | .getfield _ => 3
  | .putfield _ => 3
  | .new _ => 3
  | .newarray _ => 2
  | .anewarray _ => 3
  | .multianewarray _ _ => 4
  | .invokevirtual _ => 3
  | .invokespecial _ => 3
  | .invokestatic _ => 3
  | _ => 1
def jsw : Instr → Bool
  | .tableswitch _ _ _ _ => true
  | _ => false
def okB (y : Nat) : Nat → List jE → Nat → Bool
  | pc, [], nx => Nat.beq pc nx
  | pc, e :: r, nx => (match decode (mC y) pc with
    | .ok (i, len) => decide (i = e.2.1) && (jsw e.2.1 || Nat.beq len (jlen e.2.1)) && okI y pc e.2.1 e.2.2 && (match r with
      | [] => jend e.2.1 || Nat.beq (pc + len) nx
      | _ :: _ => okB y (pc + len) r nx)
    | _ => false)
end
section
/-! the machine's own worlds: how the abstract heap lies in the machine's heap -/
def ad (base b q : Nat) : Nat := if q = 1 then b else base + (q - 2)
def rfo (base b q : Nat) : Option Nat := if q = 0 then none else some (ad base b q)
def cv (base b : Nat) : Value → Value
  | .ref q => va_rf (rfo base b q)
  | v => v
def fv (base b : Nat) (h : jHp) (p c k : Nat) : Value := match jkf (cY c k) with
  | 1 => .long (gL h p k)
  | 2 => va_rf (rfo base b (gR h p k))
  | _ => .int (gI h p k)
def fl (base b : Nat) (h : jHp) (p c : Nat) : List Value := (List.range (cF c)).map (fv base b h p c)
def ce (base b : Nat) (tc : Nat → ClassId) (h : jHp) (p : Nat) : va_E :=
  if (jz h p).1 < 10 then .inr ((jz h p).1, fl base b h p (jz h p).1)
  else if (jz h p).1 < 12 then .inl (tc (jz h p).1, (jz h p).2, .inl (gI h p))
  else .inl (tc (jz h p).1, (jz h p).2, .inr (.inr (.inr (.inr (fun j => rfo base b (gR h p j))))))
def wl (base b : Nat) (tc : Nat → ClassId) (h : jHp) : va_W := (List.range (jn h)).map (fun j => (base + j, ce base b tc h (j + 2)))
def tyl (tc : Nat → ClassId) : List (ClassId × FieldType) := [(tc 10, .int), (tc 11, .byte), (tc 12, .array .int), (tc 13, .object (cN 0)), (tc 14, .object (cN 5))]
def Hk (L : Nat) (xs : Nat → Int32) (h : jHp) : Prop := jz h 1 = (20, L) ∧ (∀ j, j < L → gI h 1 j = xs j) ∧ (∀ p, (jz h p).1 = 20 → p = 1) ∧ ∀ p, (jz h p).1 < 15 → 2 ≤ p ∧ p < jn h + 2
/-- what the tables say of int[][] -/
def aoI (U : State) : Prop := (Cond.arrayOver (.array .int)).before #[] U = true
def spw (U : State) : Prop := va_AO (cN 5) U ∧ va_AO (cN 0) U ∧ aoI U ∧ ∀ x ∈ tZ, va_Nw (.methodLinkNest (cN (x.getD 0 0)) (x.getD 1 0) (mN (x.getD 2 0)) "LightRoom") U
def okv : Value → Bool
  | .int _ => true
  | .long _ => true
  | .ref _ => true
  | _ => false
def Lr (base b : Nat) (la : Array Slot) (n : Nat) (ls : List Value) : Prop := ls.length = n ∧ la.size = n ∧ lv_wf la ∧ ∀ i, okv (nth ls i) = true → la[i]? = some (.val (cv base b (nth ls i)))
section WL
variable {base b : Nat} {tc : Nat → ClassId} {h h' : jHp} {p : Nat}
theorem wl_len : (wl base b tc h).length = jn h := by simp [wl]
theorem wl_get {j : Nat} (hj : j < jn h) : (wl base b tc h)[j]? = some (base + j, ce base b tc h (j + 2)) := by
  unfold wl
  rw [List.getElem?_map, List.getElem?_range hj]
  rfl
theorem ad_of (h1 : 2 ≤ p) : ad base b p = base + (p - 2) := by
  unfold ad
  rw [if_neg (by omega)]
theorem wl_at (h1 : 2 ≤ p) (h2 : p < jn h + 2) : (wl base b tc h)[p - 2]? = some (ad base b p, ce base b tc h p) := by
  rw [wl_get (by omega), ad_of h1, show p - 2 + 2 = p by omega]
theorem rfo_of (h1 : 2 ≤ p) : rfo base b p = some (ad base b p) := by
  unfold rfo
  rw [if_neg (by omega)]
theorem cv_ref (h1 : p ≠ 0) : cv base b (.ref p) = .ref (ad base b p) := by
  show va_rf (rfo base b p) = _
  unfold rfo
  rw [if_neg h1]
  rfl
theorem wl_D : va_D (fun q => base ≤ q) (wl base b tc h) := by
  have key : ∀ (i : Nat) (x : Nat × va_E), (wl base b tc h)[i]? = some x → x.1 = base + i := by
    intro i x hx
    have hl : i < jn h := by
      have := (List.getElem?_eq_some_iff.mp hx).1
      rwa [wl_len] at this
    rw [wl_get hl] at hx
    cases hx
    rfl
  refine ⟨fun i j x y hi hj hxy => ?_, fun k x hx => ?_⟩
  · have := key i x hi
    have := key j y hj
    omega
  · have := key k x hx
    show base ≤ x.1
    omega
theorem wl_ext (hn : jn h' = jn h) (he : ∀ q, 2 ≤ q → q ≠ p → ce base b tc h' q = ce base b tc h q) (h1 : 2 ≤ p) (h2 : p < jn h + 2) : wl base b tc h' = (wl base b tc h).set (p - 2) (ad base b p, ce base b tc h' p) := by
  apply List.ext_getElem?
  intro j
  by_cases hj : j < jn h
  · rw [wl_get (by omega)]
    by_cases e : j = p - 2
    · subst e
      rw [List.getElem?_set_self (by rw [wl_len]; omega), ad_of h1, show p - 2 + 2 = p by omega]
    · rw [List.getElem?_set_ne (by omega), wl_get hj, he (j + 2) (by omega) (by omega)]
  · rw [List.getElem?_eq_none (by rw [wl_len]; omega), List.getElem?_eq_none (by rw [List.length_set, wl_len]; omega)]
theorem wl_new (hn : jn h' = jn h + 1) (he : ∀ q, 2 ≤ q → q < jn h + 2 → ce base b tc h' q = ce base b tc h q) : wl base b tc h' = wl base b tc h ++ [(base + jn h, ce base b tc h' (jn h + 2))] := by
  apply List.ext_getElem?
  intro j
  by_cases hj : j < jn h
  · rw [wl_get (by omega), List.getElem?_append_left (by rw [wl_len]; exact hj), wl_get hj, he (j + 2) (by omega) (by omega)]
  · by_cases e : j = jn h
    · subst e
      rw [wl_get (by omega), List.getElem?_append_right (by rw [wl_len]; omega), wl_len, Nat.sub_self]
      rfl
    · rw [List.getElem?_eq_none (by rw [wl_len]; omega), List.getElem?_eq_none (by rw [List.length_append, wl_len]; simp; omega)]
end WL
section RW
variable {h : jHp} {p k q j c n : Nat} {v : Int32} {w : Int64} {r : Nat}
theorem jn_sI : jn (sI h p k v) = jn h := rfl
theorem jn_sL : jn (sL h p k w) = jn h := rfl
theorem jn_sR : jn (sR h p k r) = jn h := rfl
theorem jz_sI : jz (sI h p k v) = jz h := rfl
theorem jz_sL : jz (sL h p k w) = jz h := rfl
theorem jz_sR : jz (sR h p k r) = jz h := rfl
theorem gI_sI : gI (sI h p k v) q j = if q = p ∧ j = k then v else gI h q j := rfl
theorem gL_sI : gL (sI h p k v) = gL h := rfl
theorem gR_sI : gR (sI h p k v) = gR h := rfl
theorem gI_sL : gI (sL h p k w) = gI h := rfl
theorem gL_sL : gL (sL h p k w) q j = if q = p ∧ j = k then w else gL h q j := rfl
theorem gR_sL : gR (sL h p k w) = gR h := rfl
theorem gI_sR : gI (sR h p k r) = gI h := rfl
theorem gL_sR : gL (sR h p k r) = gL h := rfl
theorem gR_sR : gR (sR h p k r) q j = if q = p ∧ j = k then r else gR h q j := rfl
theorem jn_jA : jn (jA h c n) = jn h + 1 := rfl
theorem jz_jA : jz (jA h c n) q = if q = jn h + 2 then (c, n) else jz h q := rfl
theorem gI_jA : gI (jA h c n) q j = if q = jn h + 2 then 0 else gI h q j := rfl
theorem gL_jA : gL (jA h c n) q j = if q = jn h + 2 then 0 else gL h q j := rfl
theorem gR_jA : gR (jA h c n) q j = if q = jn h + 2 then 0 else gR h q j := rfl
theorem jn_jY {a sp b dp : Nat} : jn (jY h a sp b dp n) = jn h := rfl
theorem jz_jY {a sp b dp : Nat} : jz (jY h a sp b dp n) = jz h := rfl
theorem gI_jY {a sp b dp : Nat} : gI (jY h a sp b dp n) q j = if q = b then va_cpy (gI h a) (gI h b) sp dp n j else gI h q j := rfl
theorem gL_jY {a sp b dp : Nat} : gL (jY h a sp b dp n) = gL h := rfl
theorem gR_jY {a sp b dp : Nat} : gR (jY h a sp b dp n) = gR h := rfl
end RW
section CE
variable {base b : Nat} {tc : Nat → ClassId} {h h' : jHp} {p : Nat}
/-- a cell depends on its own place alone -/
theorem ce_eq {q : Nat} (hz : jz h' q = jz h q) (hi : gI h' q = gI h q) (hl : gL h' q = gL h q) (hr : gR h' q = gR h q) : ce base b tc h' q = ce base b tc h q := by
  have hf : ∀ c, fl base b h' q c = fl base b h q c := by
    intro c
    unfold fl
    apply List.map_congr_left
    intro k _
    unfold fv
    rw [hi, hl, hr]
  unfold ce
  rw [hz, hi, hr, hf]
theorem ce_obj {c : Nat} (hc : (jz h p).1 = c) (h10 : c < 10) : ce base b tc h p = .inr (c, fl base b h p c) := by
  unfold ce
  rw [hc, if_pos h10]
theorem ce_int {c : Nat} (hc : (jz h p).1 = c) (h10 : 10 ≤ c) (h12 : c < 12) : ce base b tc h p = .inl (tc c, (jz h p).2, .inl (gI h p)) := by
  unfold ce
  rw [hc, if_neg (by omega), if_pos h12]
theorem ce_ref {c : Nat} (hc : (jz h p).1 = c) (h12 : 12 ≤ c) : ce base b tc h p = .inl (tc c, (jz h p).2, .inr (.inr (.inr (.inr (fun j => rfo base b (gR h p j)))))) := by
  unfold ce
  rw [hc, if_neg (by omega), if_neg (by omega)]
theorem fl_get {c k : Nat} (hk : k < cF c) : (fl base b h p c)[k]? = some (fv base b h p c k) := by
  unfold fl
  rw [List.getElem?_map, List.getElem?_range hk]
  rfl
theorem fl_len {c : Nat} : (fl base b h p c).length = cF c := by simp [fl]
theorem fl_set {c k : Nat} {v : Value} (hk : k < cF c) (hv : fv base b h' p c k = v) (ho : ∀ j, j ≠ k → fv base b h' p c j = fv base b h p c j) : fl base b h' p c = (fl base b h p c).set k v := by
  apply List.ext_getElem?
  intro j
  by_cases hj : j < cF c
  · rw [fl_get hj]
    by_cases e : j = k
    · subst e
      rw [List.getElem?_set_self (by rw [fl_len]; exact hj), hv]
    · rw [List.getElem?_set_ne (by omega), fl_get hj, ho j e]
  · rw [List.getElem?_eq_none (by rw [fl_len]; omega), List.getElem?_eq_none (by rw [List.length_set, fl_len]; omega)]
end CE
/-! locals -/
theorem nth_s1 {v : Value} : ∀ {l : List Value} {i j : Nat}, i < l.length → nth (s1 l i v) j = if j = i then v else if j + 1 = i then kl (nth l j) else nth l j
  | [], _, _, h => absurd h (by simp)
  | _ :: r, 0, 0, _ => rfl
  | _ :: r, 0, j + 1, _ => by
    rw [if_neg (by omega), if_neg (by omega)]
    rfl
  | a :: r, 1, 0, _ => rfl
  | a :: r, n + 2, 0, _ => by
    rw [if_neg (by omega), if_neg (by omega)]
    rfl
  | a :: r, n + 1, j + 1, h => by
    show nth (s1 r n v) j = _
    rw [nth_s1 (l := r) (i := n) (j := j) (by simpa using h)]
    simp only [Nat.add_right_cancel_iff]
    rfl
theorem nth_s2 {v : Value} : ∀ {l : List Value} {i j : Nat}, i + 1 < l.length → nth (s2 l i v) j = if j = i then v else if j = i + 1 then uu else if j + 1 = i then kl (nth l j) else nth l j
  | [], _, _, h => absurd h (by simp)
  | [_], 0, _, h => absurd h (by simp)
  | _ :: _ :: r, 0, 0, _ => rfl
  | _ :: _ :: r, 0, 1, _ => rfl
  | _ :: _ :: r, 0, j + 2, _ => by
    rw [if_neg (by omega), if_neg (by omega), if_neg (by omega)]
    rfl
  | a :: r, 1, 0, _ => rfl
  | a :: r, n + 2, 0, _ => by
    rw [if_neg (by omega), if_neg (by omega), if_neg (by omega)]
    rfl
  | a :: r, n + 1, j + 1, h => by
    show nth (s2 r n v) j = _
    rw [nth_s2 (l := r) (i := n) (j := j) (by simpa using h)]
    simp only [Nat.add_right_cancel_iff]
    rfl
theorem len_s1 {v : Value} : ∀ {l : List Value} {i : Nat}, (s1 l i v).length = l.length
  | [], _ => rfl
  | _ :: r, 0 => rfl
  | _ :: r, n + 1 => by
    show (s1 r n v).length + 1 = _
    rw [len_s1]
    rfl
theorem len_s2 {v : Value} : ∀ {l : List Value} {i : Nat}, (s2 l i v).length = l.length
  | [], _ => rfl
  | [_], 0 => rfl
  | _ :: _ :: r, 0 => rfl
  | _ :: r, n + 1 => by
    show (s2 r n v).length + 1 = _
    rw [len_s2]
    rfl
theorem cln_cons (x : Nat) (m : List Nat) (a : Value) (r : List Value) : cln (x :: m) (a :: r) = a :: cln m r ∨ cln (x :: m) (a :: r) = uu :: cln m r := by
  by_cases e : x = 1
  · subst e
    exact Or.inl rfl
  · refine Or.inr ?_
    rw [cln]
    exact fun h => e h
theorem len_cln : ∀ {m : List Nat} {l : List Value}, (cln m l).length = l.length
  | [], _ => by simp [cln]
  | _ :: _, [] => by simp [cln]
  | x :: m, a :: r => by
    rcases cln_cons x m a r with h | h
    · rw [h, List.length_cons, len_cln, List.length_cons]
    · rw [h, List.length_cons, len_cln, List.length_cons]
theorem nth_cln : ∀ {m : List Nat} {l : List Value} {i : Nat}, okv (nth (cln m l) i) = true → nth (cln m l) i = nth l i
  | [], l, i, _ => by simp [cln]
  | _ :: _, [], i, _ => by simp [cln]
  | x :: m, a :: r, i, h => by
    rcases cln_cons x m a r with e | e
    · rw [e] at h ⊢
      cases i with
      | zero => rfl
      | succ i => exact nth_cln (m := m) (l := r) (i := i) h
    · rw [e] at h ⊢
      cases i with
      | zero => exact absurd (show okv uu = true from h) (by decide)
      | succ i => exact nth_cln (m := m) (l := r) (i := i) h
theorem okv_kl {v : Value} (h : okv (kl v) = true) : kl v = v ∧ v.category ≠ 2 := by
  cases v <;> simp_all [kl, okv, uu, Value.category]
theorem cat_cv {base b : Nat} {v : Value} : (cv base b v).category = v.category := by
  cases v <;> simp [cv]
  rename_i q
  unfold rfo
  split <;> simp [va_rf, Value.category]
/-- all that is known of the locals, as the kit has it -/
def lst (base b : Nat) (ls : List Value) : List (Nat × Value) := (List.range ls.length).filterMap (fun i => if okv (nth ls i) = true then some (i, cv base b (nth ls i)) else none)
theorem nth_len : ∀ {l : List Value} {i : Nat}, okv (nth l i) = true → i < l.length
  | [], i, h => absurd h (by simp [nth, okv, uu])
  | _ :: r, 0, _ => by simp
  | _ :: r, i + 1, h => by
    have := nth_len (l := r) (i := i) h
    simp
    omega
theorem mem_lst {base b : Nat} {ls : List Value} {i : Nat} (h : okv (nth ls i) = true) : (i, cv base b (nth ls i)) ∈ lst base b ls := by
  refine List.mem_filterMap.mpr ⟨i, List.mem_range.mpr (nth_len h), ?_⟩
  rw [if_pos h]
theorem Lr.has {base b n : Nat} {la : Array Slot} {ls : List Value} (h : Lr base b la n ls) : lv_has la n (lst base b ls) := by
  obtain ⟨h1, h2, h3, h4⟩ := h
  refine ⟨h2, h3, fun q hq => ?_⟩
  obtain ⟨i, -, hi⟩ := List.mem_filterMap.mp hq
  split at hi
  · rename_i ho
    cases hi
    exact h4 i ho
  · cases hi
theorem Lr.s1 {base b n i : Nat} {la la' : Array Slot} {ls : List Value} {v : Value} (h : Lr base b la n ls) (hi : i < n) (h' : lv_has la' n ((i, cv base b v) :: (lst base b ls).filter (fun q => !(q.1 == i) && !(q.1 + 1 == i && q.2.category == 2)))) : Lr base b la' n (s1 ls i v) := by
  obtain ⟨h1, h2, h3, h4⟩ := h
  refine ⟨len_s1.trans h1, h'.1, h'.2.1, fun j hj => ?_⟩
  rw [nth_s1 (by omega)] at hj ⊢
  by_cases e : j = i
  · rw [if_pos e]
    subst e
    exact h'.2.2 (j, cv base b v) List.mem_cons_self
  · rw [if_neg e] at hj ⊢
    by_cases e2 : j + 1 = i
    · rw [if_pos e2] at hj ⊢
      obtain ⟨k1, k2⟩ := okv_kl hj
      rw [k1] at hj ⊢
      refine h'.2.2 (j, _) (List.mem_cons_of_mem _ (List.mem_filter.mpr ⟨mem_lst hj, ?_⟩))
      have k3 : (cv base b (nth ls j)).category ≠ 2 := by rw [cat_cv]; exact k2
      simp [e]
      exact Or.inr k3
    · rw [if_neg e2] at hj ⊢
      refine h'.2.2 (j, _) (List.mem_cons_of_mem _ (List.mem_filter.mpr ⟨mem_lst hj, ?_⟩))
      simp [e, e2]
theorem Lr.s2 {base b n i : Nat} {la la' : Array Slot} {ls : List Value} {v : Value} (h : Lr base b la n ls) (hi : i + 1 < n) (h' : lv_has la' n ((i, cv base b v) :: (lst base b ls).filter (fun q => !(q.1 == i) && (!(q.1 == i + 1) && !(q.1 + 1 == i && q.2.category == 2))))) : Lr base b la' n (s2 ls i v) := by
  obtain ⟨h1, h2, h3, h4⟩ := h
  refine ⟨len_s2.trans h1, h'.1, h'.2.1, fun j hj => ?_⟩
  rw [nth_s2 (by omega)] at hj ⊢
  by_cases e : j = i
  · rw [if_pos e]
    subst e
    exact h'.2.2 (j, cv base b v) List.mem_cons_self
  · rw [if_neg e] at hj ⊢
    by_cases e1 : j = i + 1
    · rw [if_pos e1] at hj
      exact absurd hj (by decide)
    · rw [if_neg e1] at hj ⊢
      by_cases e2 : j + 1 = i
      · rw [if_pos e2] at hj ⊢
        obtain ⟨k1, k2⟩ := okv_kl hj
        rw [k1] at hj ⊢
        refine h'.2.2 (j, _) (List.mem_cons_of_mem _ (List.mem_filter.mpr ⟨mem_lst hj, ?_⟩))
        have k3 : (cv base b (nth ls j)).category ≠ 2 := by rw [cat_cv]; exact k2
        simp [e, e1]
        exact Or.inr k3
      · rw [if_neg e2] at hj ⊢
        refine h'.2.2 (j, _) (List.mem_cons_of_mem _ (List.mem_filter.mpr ⟨mem_lst hj, ?_⟩))
        simp [e, e1, e2]
theorem Lr.cln {base b n : Nat} {la : Array Slot} {ls : List Value} (m : List Nat) (h : Lr base b la n ls) : Lr base b la n (cln m ls) := by
  obtain ⟨h1, h2, h3, h4⟩ := h
  refine ⟨len_cln.trans h1, h2, h3, fun i hi => ?_⟩
  have e := nth_cln hi
  rw [e] at hi ⊢
  exact h4 i hi
theorem Lr.at {base b n i : Nat} {la : Array Slot} {ls : List Value} {v : Value} (h : Lr base b la n ls) (hv : nth ls i = v) (ho : okv v = true) : la[i]? = some (.val (cv base b v)) := by
  subst hv
  exact h.2.2.2 i ho
end
section
/-! THE JUDGEMENT J: from label pc of method y, with locals ls, stack st and heap h, the method returns with Q; at most kc cells of ks slots come. jRet: a call of method z -/
def Cx (y : Nat) (p : Program) (R : Room) (s : State) (m : MethodId) (args : Array Value) (meth : Method) (c : Code) (base : Nat) (D : va_G) (tc : Nat → ClassId) : Prop :=
  p.tables.exec = Jvm.exec ∧ c.code = mC y ∧ meth.sig.returnType = mR y ∧ c.maxLocals = mL y ∧ s.vm.findClass (cN (mO y)) = some m.cls ∧ meth.locks = false ∧ (∀ w ∈ gw, w.before args s = true) ∧ meth.name = (mN y).name ∧ va_K D cls (tyl tc) s ∧ base ≤ s.heap.size ∧ mF y ≤ R.frames ∧ mS y ≤ R.locals ∧ spw s
def Wo (base b L : Nat) (xs : Nat → Int32) (D : va_G) (tc : Nat → ClassId) (h : jHp) (s : State) (H : Heap) (locs : List Loc) : Prop :=
  va_P D cls (wl base b tc h) H ∧ H.size = base + jn h ∧ va_S (fun q => base ≤ q) s.heap H locs ∧ va_X b L xs s H ∧ b < base ∧ Hk L xs h
def rtO (y pc : Nat) (v : Option Value) : Prop := match v with
  | none => mR y = none ∧ decode (mC y) pc = .ok (.return_, 1)
  | some (.int x) => (mR y = some .int ∨ mR y = some .boolean ∧ isB x) ∧ decode (mC y) pc = .ok (.ireturn, 1)
  | some (.long _) => mR y = some .long ∧ decode (mC y) pc = .ok (.lreturn, 1)
  | some (.ref _) => mR y = some (.object (cN 0)) ∧ decode (mC y) pc = .ok (.areturn, 1)
  | _ => False
def J (y pc kc ks : Nat) (ls st : List Value) (h : jHp) (Q : jQ) : Prop :=
  ∀ (p : Program) (l : Launch) (e : Env) (R : Room) (s : State) (m : MethodId) (args : Array Value) (below : List Frame) (meth : Method) (c : Code) (Z : State → Prop) (base b L : Nat) (xs : Nat → Int32) (D : va_G) (tc : Nat → ClassId),
    Cx y p R s m args meth c base D tc → ∀ (H : Heap) (locs : List Loc) (cells slots : Nat) (la : Array Slot), Wo base b L xs D tc h s H locs → Lr base b la (mL y) ls → cells + kc ≤ R.cells → slots + ks ≤ R.slots →
    (∀ (v : Option Value) (h' : jHp) (H' : Heap) (locs' : List Loc) (cells' slots' pc' : Nat) (la' : Array Slot), Q v h' → Wo base b L xs D tc h' s H' locs' → cells' ≤ R.cells → slots' ≤ R.slots → rtO y pc' v → W p l e R s m args below meth c H' locs' cells' slots' Z (F0 m pc' la' ((v.map (cv base b)).toList))) →
    W p l e R s m args below meth c H locs cells slots Z (F0 m pc la (st.map (cv base b)))
def jWs (z : Nat) : List Cond := Cond.code (mN z) (mC z) (mL z) (mR z) :: gw
def jRm (z k s : Nat) : Room := { frames := mF z, cells := k, slots := s, locals := mS z }
def jWd (base b L : Nat) (xs : Nat → Int32) (D : va_G) (tc : Nat → ClassId) (h : jHp) (U : State) : Prop :=
  va_K D cls (tyl tc) U ∧ va_P D cls (wl base b tc h) U.heap ∧ U.heap.size = base + jn h ∧ va_X b L xs U U.heap ∧ b < base ∧ Hk L xs h ∧ spw U
def jRet (z k s : Nat) (as : List Value) (h : jHp) (Q : jQ) : Prop := ∀ (l : Launch) (base b L : Nat) (xs : Nat → Int32) (D : va_G) (tc : Nat → ClassId),
  Met l (mN z) (jWs z) (jRm z k s) (va_Pc (as.map (cv base b)) (jWd base b L xs D tc h)) (fun _ st o t => (∃ (v : Option Value) (h' : jHp), o = .returned (v.map (cv base b)) ∧ Q v h' ∧ jWd base b L xs D tc h' t) ∧ va_F (fun q => base ≤ q) st t) k s (fun q => base ≤ q)
section JROWS
variable {y pc kc ks : Nat} {ls st : List Value} {h : jHp} {Q : jQ}
/-- an instruction that changes the stack alone -/
theorem J_pu {pc' : Nat} {st' : List Value} (row : ∀ {p : Program} {l : Launch} {e : Env} {R : Room} {s : State} {m : MethodId} {args : Array Value} {below : List Frame} {meth : Method} {c : Code} {Z : State → Prop} {H : Heap} {locs : List Loc} {cells slots : Nat} {la : Array Slot} (base b : Nat), p.tables.exec = Jvm.exec → c.code = mC y → W p l e R s m args below meth c H locs cells slots Z (F0 m pc' la (st'.map (cv base b))) → W p l e R s m args below meth c H locs cells slots Z (F0 m pc la (st.map (cv base b))))
    (k : J y pc' kc ks ls st' h Q) : J y pc kc ks ls st h Q := by
  intro p l e R s m args below meth c Z base b L xs D tc hc H locs cells slots la hw hl h1 h2 hf
  exact row base b hc.1 hc.2.1 (k p l e R s m args below meth c Z base b L xs D tc hc H locs cells slots la hw hl h1 h2 hf)
/-- a load -/
theorem J_ld {pc' i : Nat} {v : Value} (hv : nth ls i = v) (ho : okv v = true) (row : ∀ {p : Program} {l : Launch} {e : Env} {R : Room} {s : State} {m : MethodId} {args : Array Value} {below : List Frame} {meth : Method} {c : Code} {Z : State → Prop} {H : Heap} {locs : List Loc} {cells slots : Nat} {la : Array Slot} (base b : Nat), p.tables.exec = Jvm.exec → c.code = mC y → la[i]? = some (.val (cv base b v)) → W p l e R s m args below meth c H locs cells slots Z (F0 m pc' la ((v :: st).map (cv base b))) → W p l e R s m args below meth c H locs cells slots Z (F0 m pc la (st.map (cv base b))))
    (k : J y pc' kc ks ls (v :: st) h Q) : J y pc kc ks ls st h Q := by
  intro p l e R s m args below meth c Z base b L xs D tc hc H locs cells slots la hw hl h1 h2 hf
  exact row base b hc.1 hc.2.1 (hl.at hv ho) (k p l e R s m args below meth c Z base b L xs D tc hc H locs cells slots la hw hl h1 h2 hf)
theorem J_ild {pc' i : Nat} {x : Int32} (hv : nth ls i = .int x) (hd : (decode (mC y) pc = .ok (.iload i, 2) ∧ pc' = pc + 2) ∨ ∃ k : Fin 4, k.val = i ∧ decode (mC y) pc = .ok (.iload_n k, 1) ∧ pc' = pc + 1) (k : J y pc' kc ks ls (.int x :: st) h Q) : J y pc kc ks ls st h Q := by
  refine J_ld hv rfl (fun base b hx hb hl kk => ?_) k
  rcases hd with ⟨hd, rfl⟩ | ⟨j, e, hd, rfl⟩
  · exact lv_iload hx hb hd hl kk
  · exact lv_iload_n hx hb hd e hl kk
theorem J_lld {pc' i : Nat} {x : Int64} (hv : nth ls i = .long x) (hd : (decode (mC y) pc = .ok (.lload i, 2) ∧ pc' = pc + 2) ∨ ∃ k : Fin 4, k.val = i ∧ decode (mC y) pc = .ok (.lload_n k, 1) ∧ pc' = pc + 1) (k : J y pc' kc ks ls (.long x :: st) h Q) : J y pc kc ks ls st h Q := by
  refine J_ld hv rfl (fun base b hx hb hl kk => ?_) k
  rcases hd with ⟨hd, rfl⟩ | ⟨j, e, hd, rfl⟩
  · exact lv_lload hx hb hd hl kk
  · exact lv_lload_n hx hb hd e hl kk
theorem J_ald {pc' i : Nat} {x : Nat} (hv : nth ls i = .ref x) (hd : (decode (mC y) pc = .ok (.aload i, 2) ∧ pc' = pc + 2) ∨ ∃ k : Fin 4, k.val = i ∧ decode (mC y) pc = .ok (.aload_n k, 1) ∧ pc' = pc + 1) (k : J y pc' kc ks ls (.ref x :: st) h Q) : J y pc kc ks ls st h Q := by
  refine J_ld hv rfl (fun base b hx hb hl kk => ?_) k
  by_cases h0 : x = 0
  · subst h0
    rcases hd with ⟨hd, rfl⟩ | ⟨j, e, hd, rfl⟩
    · exact lv_aloadN hx hb hd hl kk
    · exact lv_aload_nN hx hb hd e hl kk
  · rw [cv_ref h0] at hl
    rw [List.map_cons, cv_ref h0] at kk
    rcases hd with ⟨hd, rfl⟩ | ⟨j, e, hd, rfl⟩
    · exact lv_aload hx hb hd hl kk
    · exact lv_aload_n hx hb hd e hl kk
/-- stores -/
theorem J_ist {pc' i : Nat} {x : Int32} (hi : i < mL y) (hd : (decode (mC y) pc = .ok (.istore i, 2) ∧ pc' = pc + 2) ∨ ∃ k : Fin 4, k.val = i ∧ decode (mC y) pc = .ok (.istore_n k, 1) ∧ pc' = pc + 1) (k : J y pc' kc ks (s1 ls i (.int x)) st h Q) : J y pc kc ks ls (.int x :: st) h Q := by
  intro p l e R s m args below meth c Z base b L xs D tc hc H locs cells slots la hw hl h1 h2 hf
  have kk := fun (la' : Array Slot) (hl' : lv_has la' (mL y) _) => k p l e R s m args below meth c Z base b L xs D tc hc H locs cells slots la' hw (hl.s1 (v := .int x) hi hl') h1 h2 hf
  rcases hd with ⟨hd, rfl⟩ | ⟨j, e, hd, rfl⟩
  · exact lv_istore hc.1 hc.2.1 hd hl.has hi rfl kk
  · exact lv_istore_n hc.1 hc.2.1 hd e hl.has hi rfl kk
theorem J_lst {pc' i : Nat} {x : Int64} (hi : i + 1 < mL y) (hd : (decode (mC y) pc = .ok (.lstore i, 2) ∧ pc' = pc + 2) ∨ ∃ k : Fin 4, k.val = i ∧ decode (mC y) pc = .ok (.lstore_n k, 1) ∧ pc' = pc + 1) (k : J y pc' kc ks (s2 ls i (.long x)) st h Q) : J y pc kc ks ls (.long x :: st) h Q := by
  intro p l e R s m args below meth c Z base b L xs D tc hc H locs cells slots la hw hl h1 h2 hf
  have kk := fun (la' : Array Slot) (hl' : lv_has la' (mL y) _) => k p l e R s m args below meth c Z base b L xs D tc hc H locs cells slots la' hw (hl.s2 (v := .long x) hi hl') h1 h2 hf
  rcases hd with ⟨hd, rfl⟩ | ⟨j, e, hd, rfl⟩
  · exact lv_lstore hc.1 hc.2.1 hd hl.has hi rfl kk
  · exact lv_lstore_n hc.1 hc.2.1 hd e hl.has hi rfl kk
theorem J_ast {pc' i : Nat} {x : Nat} (hi : i < mL y) (hd : (decode (mC y) pc = .ok (.astore i, 2) ∧ pc' = pc + 2) ∨ ∃ k : Fin 4, k.val = i ∧ decode (mC y) pc = .ok (.astore_n k, 1) ∧ pc' = pc + 1) (k : J y pc' kc ks (s1 ls i (.ref x)) st h Q) : J y pc kc ks ls (.ref x :: st) h Q := by
  intro p l e R s m args below meth c Z base b L xs D tc hc H locs cells slots la hw hl h1 h2 hf
  have kk := fun (la' : Array Slot) (hl' : lv_has la' (mL y) _) => k p l e R s m args below meth c Z base b L xs D tc hc H locs cells slots la' hw (hl.s1 (v := .ref x) hi hl') h1 h2 hf
  by_cases h0 : x = 0
  · subst h0
    rcases hd with ⟨hd, rfl⟩ | ⟨j, e, hd, rfl⟩
    · exact lv_astoreN hc.1 hc.2.1 hd hl.has hi rfl kk
    · exact lv_astore_nN hc.1 hc.2.1 hd e hl.has hi rfl kk
  · rw [List.map_cons]
    rw [cv_ref h0] at kk ⊢
    rcases hd with ⟨hd, rfl⟩ | ⟨j, e, hd, rfl⟩
    · exact lv_astore hc.1 hc.2.1 hd hl.has hi rfl kk
    · exact lv_astore_n hc.1 hc.2.1 hd e hl.has hi rfl kk
theorem J_inc {i : Nat} {n : Int} {x : Int32} (hv : nth ls i = .int x) (hi : i < mL y) (hd : decode (mC y) pc = .ok (.iinc i n, 3)) (k : J y (pc + 3) kc ks (s1 ls i (.int (x + iI n))) st h Q) : J y pc kc ks ls st h Q := by
  intro p l e R s m args below meth c Z base b L xs D tc hc H locs cells slots la hw hl h1 h2 hf
  have kk := fun (la' : Array Slot) (hl' : lv_has la' (mL y) _) => k p l e R s m args below meth c Z base b L xs D tc hc H locs cells slots la' hw (hl.s1 (v := .int (x + iI n)) hi hl') h1 h2 hf
  have hm : (i, cv base b (nth ls i)) ∈ lst base b ls := mem_lst (by rw [hv]; rfl)
  rw [hv] at hm
  obtain ⟨q, hq⟩ := List.getElem?_of_mem hm
  exact lv_iinc hc.1 hc.2.1 hd hl.has hq rfl hi rfl kk
/-- jumps -/
theorem J_go {tg : Nat} {o : Int} {mk : List Nat} (hd : decode (mC y) pc = .ok (.goto o, 3)) (ht : (pc : Int) + o = (tg : Int)) (k : J y tg kc ks (cln mk ls) st h Q) : J y pc kc ks ls st h Q := by
  intro p l e R s m args below meth c Z base b L xs D tc hc H locs cells slots la hw hl h1 h2 hf
  exact lv_goto hc.1 hc.2.1 hd ht (k p l e R s m args below meth c Z base b L xs D tc hc H locs cells slots la hw (hl.cln mk) h1 h2 hf)
theorem J_cl {mk : List Nat} (k : J y pc kc ks (cln mk ls) st h Q) : J y pc kc ks ls st h Q := by
  intro p l e R s m args below meth c Z base b L xs D tc hc H locs cells slots la hw hl h1 h2 hf
  exact k p l e R s m args below meth c Z base b L xs D tc hc H locs cells slots la hw (hl.cln mk) h1 h2 hf
/-- a weaker end, more room -/
theorem J_mono {Q' : jQ} (hq : ∀ v h', Q' v h' → Q v h') (k : J y pc kc ks ls st h Q') : J y pc kc ks ls st h Q := by
  intro p l e R s m args below meth c Z base b L xs D tc hc H locs cells slots la hw hl h1 h2 hf
  exact k p l e R s m args below meth c Z base b L xs D tc hc H locs cells slots la hw hl h1 h2 (fun v h' H' locs' cells' slots' pc' la' q => hf v h' H' locs' cells' slots' pc' la' (hq v h' q))
theorem J_br (A B : Prop) {tg : Nat} {st' : List Value} {mk : List Nat} (row : ∀ {p : Program} {l : Launch} {e : Env} {R : Room} {s : State} {m : MethodId} {args : Array Value} {below : List Frame} {meth : Method} {c : Code} {Z : State → Prop} {H : Heap} {locs : List Loc} {cells slots : Nat} {la : Array Slot} (base b : Nat), p.tables.exec = Jvm.exec → c.code = mC y → (A → W p l e R s m args below meth c H locs cells slots Z (F0 m tg la (st'.map (cv base b)))) → (B → W p l e R s m args below meth c H locs cells slots Z (F0 m (pc + 3) la (st'.map (cv base b)))) → W p l e R s m args below meth c H locs cells slots Z (F0 m pc la (st.map (cv base b))))
    (k1 : A → J y tg kc ks (cln mk ls) st' h Q) (k2 : B → J y (pc + 3) kc ks ls st' h Q) : J y pc kc ks ls st h Q := by
  intro p l e R s m args below meth c Z base b L xs D tc hc H locs cells slots la hw hl h1 h2 hf
  exact row base b hc.1 hc.2.1 (fun a => k1 a p l e R s m args below meth c Z base b L xs D tc hc H locs cells slots la hw (hl.cln mk) h1 h2 hf) (fun a => k2 a p l e R s m args below meth c Z base b L xs D tc hc H locs cells slots la hw hl h1 h2 hf)
theorem J_if {cd : Jvm.ClassFile.Cond} {o : Int} {tg : Nat} {mk : List Nat} {x : Int32} (hd : decode (mC y) pc = .ok (.ifCond cd o, 3)) (ht : (pc : Int) + o = (tg : Int)) (k : jcd cd x 0 (J y tg kc ks (cln mk ls) st h Q) (J y (pc + 3) kc ks ls st h Q)) : J y pc kc ks ls (.int x :: st) h Q := by
  cases cd
  · exact J_br _ _ (fun base b hx hb kt kf => lv_if_eq hx hb hd ht kt kf) k.1 k.2
  · exact J_br _ _ (fun base b hx hb kt kf => lv_if_ne hx hb hd ht kt kf) k.1 k.2
  · exact J_br _ _ (fun base b hx hb kt kf => lv_if_lt hx hb hd ht kt kf) k.1 k.2
  · exact J_br _ _ (fun base b hx hb kt kf => lv_if_ge hx hb hd ht kt kf) k.1 k.2
  · exact J_br _ _ (fun base b hx hb kt kf => lv_if_gt hx hb hd ht kt kf) k.1 k.2
  · exact J_br _ _ (fun base b hx hb kt kf => lv_if_le hx hb hd ht kt kf) k.1 k.2
theorem J_ic {cd : Jvm.ClassFile.Cond} {o : Int} {tg : Nat} {mk : List Nat} {x z : Int32} (hd : decode (mC y) pc = .ok (.if_icmp cd o, 3)) (ht : (pc : Int) + o = (tg : Int)) (k : jcd cd x z (J y tg kc ks (cln mk ls) st h Q) (J y (pc + 3) kc ks ls st h Q)) : J y pc kc ks ls (.int z :: .int x :: st) h Q := by
  cases cd
  · exact J_br _ _ (fun base b hx hb kt kf => lv_icmp_eq hx hb hd ht kt kf) k.1 k.2
  · exact J_br _ _ (fun base b hx hb kt kf => lv_icmp_ne hx hb hd ht kt kf) k.1 k.2
  · exact J_br _ _ (fun base b hx hb kt kf => lv_icmp_lt hx hb hd ht kt kf) k.1 k.2
  · exact J_br _ _ (fun base b hx hb kt kf => lv_icmp_ge hx hb hd ht kt kf) k.1 k.2
  · exact J_br _ _ (fun base b hx hb kt kf => lv_icmp_gt hx hb hd ht kt kf) k.1 k.2
  · exact J_br _ _ (fun base b hx hb kt kf => lv_icmp_le hx hb hd ht kt kf) k.1 k.2
theorem J_sw {d lo hi : Int} {os : Array Int} {len : Nat} {a : List Nat} {x : Int32} (hd : decode (mC y) pc = .ok (.tableswitch d lo hi os, len)) (h0 : (pc : Int) + d = ((a.getD 0 0 : Nat) : Int)) (h1 : (a.drop 1).map (fun t => ((t : Nat) : Int)) = os.toList.map (fun o => (pc : Int) + o)) (h2 : hi = lo + (os.toList.length : Int) - 1)
    (k1 : (x.toInt < lo ∨ hi < x.toInt) → J y (a.getD 0 0) kc ks ls st h Q) (k2 : ∀ (j t : Nat), (a.drop 1)[j]? = some t → x.toInt = lo + j → J y t kc ks ls st h Q) : J y pc kc ks ls (.int x :: st) h Q := by
  intro p l e R s m args below meth c Z base b L xs D tc hc H locs cells slots la hw hl g1 g2 hf
  by_cases hx : x.toInt < lo ∨ hi < x.toInt
  · exact lv_tableOut hc.1 hc.2.1 hd hx h0 (k1 hx p l e R s m args below meth c Z base b L xs D tc hc H locs cells slots la hw hl g1 g2 hf)
  · have hj : (x.toInt - lo).toNat < os.toList.length := by omega
    have hlen : (a.drop 1).length = os.toList.length := by
      have := congrArg List.length h1
      simpa using this
    have ho : os[(x.toInt - lo).toNat]? = some (os.toList[(x.toInt - lo).toNat]) := by
      rw [← Array.getElem?_toList]
      exact List.getElem?_eq_getElem hj
    have ht : (a.drop 1)[(x.toInt - lo).toNat]? = some ((a.drop 1)[(x.toInt - lo).toNat]'(by omega)) := List.getElem?_eq_getElem (by omega)
    have he : (pc : Int) + os.toList[(x.toInt - lo).toNat] = (((a.drop 1)[(x.toInt - lo).toNat]'(by omega) : Nat) : Int) := by
      have h3 := congrArg (fun l => l[(x.toInt - lo).toNat]?) h1
      simp only [List.getElem?_map, ht, List.getElem?_eq_getElem hj, Option.map_some, Option.some.injEq] at h3
      exact h3.symm
    exact lv_tableIn hc.1 hc.2.1 hd (by omega) (by omega) ho he (k2 _ _ ht (by omega) p l e R s m args below meth c Z base b L xs D tc hc H locs cells slots la hw hl g1 g2 hf)
end JROWS
end
section
/-! rows of the heap: fields and arrays -/
theorem lay_good (C : String) (T : u_T) (k : Nat) : goodWord (u_lay C T k) = true := by
  unfold u_lay
  split <;> rfl
theorem in_gw {i : Nat} (hi : i < 10) : ∀ w ∈ u_ws (cN i) (cT i) (cF i), w ∈ gw := by
  intro w hw
  refine List.mem_filter.mpr ⟨in_ok i hi w hw, ?_⟩
  obtain ⟨k, -, rfl⟩ := List.mem_map.mp hw
  exact lay_good _ _ _
theorem ty_ref : ∀ ci, ci < 10 → ∀ k, k < cF ci → jkf (cY ci k) = 2 → (cY ci k).isReference = true := by decide +kernel
theorem Hk.lt {L : Nat} {xs : Nat → Int32} {h : jHp} {p : Nat} (hk : Hk L xs h) (hc : (jz h p).1 < 15) : 2 ≤ p ∧ p < jn h + 2 := hk.2.2.2 p hc
section WOU
variable {base b L : Nat} {xs : Nat → Int32} {D : va_G} {tc : Nat → ClassId} {h h' : jHp} {s : State} {H H1 : Heap} {locs locs1 : List Loc} {p : Nat}
theorem Wo.upd (hw : Wo base b L xs D tc h s H locs) (h1 : 2 ≤ p) (h2 : p < jn h + 2) (hn : jn h' = jn h) (hz : jz h' = jz h) (hI : ∀ q, q ≠ p → gI h' q = gI h q) (hL : ∀ q, q ≠ p → gL h' q = gL h q) (hR : ∀ q, q ≠ p → gR h' q = gR h q)
    (e : va_at D cls (ad base b p, ce base b tc h' p) H1) (z : H1.size = H.size) (oq : ∀ q : Nat, q ≠ ad base b p → H1[q]? = H[q]?) (hl : ∀ x ∈ locs1, base ≤ x.base) : Wo base b L xs D tc h' s H1 locs1 := by
  obtain ⟨w1, w2, w3, w4, w5, w6⟩ := hw
  have hb : b ≠ ad base b p := by rw [ad_of h1]; omega
  refine ⟨?_, by rw [z, hn]; exact w2, ⟨by rw [z]; exact w3.1, fun q hq hA => ?_, hl⟩, w4.kept (oq b hb), w5, ?_⟩
  · rw [wl_ext (p := p) hn (fun q _ hq => ce_eq (by rw [hz]) (hI q hq) (hL q hq) (hR q hq)) h1 h2]
    exact w1.set wl_D (wl_at h1 h2) e oq
  · rw [oq q (fun hq => hA (by show base ≤ q; rw [hq, ad_of h1]; omega))]
    exact w3.2.1 q hq hA
  · obtain ⟨k1, k2, k3, k4⟩ := w6
    refine ⟨by rw [hz]; exact k1, fun j hj => ?_, fun q => by rw [hz]; exact k3 q, fun q => by rw [hz, hn]; exact k4 q⟩
    rw [hI 1 (by omega)]
    exact k2 j hj
theorem Wo.put {k : Nat} (hw : Wo base b L xs D tc h s H locs) (h1 : 2 ≤ p) (h2 : p < jn h + 2) (hn : jn h' = jn h) (hz : jz h' = jz h) (hI : ∀ q, q ≠ p → gI h' q = gI h q) (hL : ∀ q, q ≠ p → gL h' q = gL h q) (hR : ∀ q, q ≠ p → gR h' q = gR h q)
    (e : va_at D cls (ad base b p, ce base b tc h' p) H1) (z : H1.size = H.size) (oq : ∀ q : Nat, q ≠ ad base b p → H1[q]? = H[q]?) : Wo base b L xs D tc h' s H1 (locs ++ [⟨ad base b p, k⟩]) := by
  refine hw.upd h1 h2 hn hz hI hL hR e z oq (fun x hx => ?_)
  rcases List.mem_append.mp hx with hx | hx
  · exact hw.2.2.1.2.2 x hx
  · rw [List.mem_singleton.mp hx]
    show base ≤ ad base b p
    rw [ad_of h1]
    omega
end WOU
theorem cv_fld {base b : Nat} {h : jHp} {p c k : Nat} : cv base b (jFld h p k (jkf (cY c k))) = fv base b h p c k := by
  unfold jFld fv
  generalize jkf (cY c k) = t
  match t with
  | 0 => rfl
  | 1 => rfl
  | 2 => rfl
  | n + 3 => rfl
section JH
variable {y pc kc ks : Nat} {ls st : List Value} {h : jHp} {Q : jQ}
theorem J_get {i ci k t p0 : Nat} (hd : decode (mC y) pc = .ok (.getfield i, 3)) (hF : [mO y, i, ci, k] ∈ tF) (hci : ci < 10) (hk : k < cF ci) (ht : t = jkf (cY ci k)) (hO : isO h p0 ci) (kk : J y (pc + 3) kc ks ls (jFld h p0 k t :: st) h Q) : J y pc kc ks ls (.ref p0 :: st) h Q := by
  subst ht
  intro p l e R s m args below meth c Z base b L xs D tc hc H locs cells slots la hw hl g1 g2 hf
  have k1 := kk p l e R s m args below meth c Z base b L xs D tc hc H locs cells slots la hw hl g1 g2 hf
  obtain ⟨hx, hb, hr, hml, hown, hlk, hts, hnm, hK, hbs, hfr, hlo, hsp⟩ := hc
  obtain ⟨a1, a2⟩ := hw.2.2.2.2.2.lt (p := p0) (by rw [hO]; omega)
  have hat := wl_at (base := base) (b := b) (tc := tc) a1 a2
  rw [ce_obj hO hci] at hat
  rw [List.map_cons, cv_fld] at k1
  rw [List.map_cons, cv_ref (by omega)]
  exact va_get (ci := ci) (C := cN ci) (T := cT ci) (N := cF ci) hx hb hts (in_gw hci) hown hK hw.1 (p0 - 2) hat (cls_at ci hci) k hk (hts _ (wF_ok _ hF)) (fun _ h9 => h9) (fl_get hk) hd k1
/-- the cell behind a put -/
theorem J_put0 {i ci k p0 : Nat} {v : Value} {h' : jHp} (hd : decode (mC y) pc = .ok (.putfield i, 3)) (hF : [mO y, i, ci, k] ∈ tF) (hci : ci < 10) (hk : k < cF ci) (hfin : (cT ci k).2.2.2 = false ∨ ((mN y).name = "<init>" ∧ (cT ci k).1 = cN (mO y))) (hO : isO h p0 ci)
    (hn : ∀ base b, narrow (cY ci k) (cv base b v) = cv base b v) (hft : ∀ base b, fits (cY ci k) (cv base b v) = true) (hh : jn h' = jn h ∧ jz h' = jz h ∧ (∀ q, q ≠ p0 → gI h' q = gI h q) ∧ (∀ q, q ≠ p0 → gL h' q = gL h q) ∧ (∀ q, q ≠ p0 → gR h' q = gR h q)) (hv : ∀ base b, fv base b h' p0 ci k = cv base b v) (ho : ∀ base b j, j ≠ k → fv base b h' p0 ci j = fv base b h p0 ci j)
    (kk : J y (pc + 3) kc ks ls st h' Q) : J y pc kc ks ls (v :: .ref p0 :: st) h Q := by
  intro p l e R s m args below meth c Z base b L xs D tc hc H locs cells slots la hw hl g1 g2 hf
  have k1 := fun H1 locs1 hw1 => kk p l e R s m args below meth c Z base b L xs D tc hc H1 locs1 cells slots la hw1 hl g1 g2 hf
  obtain ⟨hx, hb, hr, hml, hown, hlk, hts, hnm, hK, hbs, hfr, hlo, hsp⟩ := hc
  obtain ⟨a1, a2⟩ := hw.2.2.2.2.2.lt (p := p0) (by rw [hO]; omega)
  have hat := wl_at (base := base) (b := b) (tc := tc) a1 a2
  rw [ce_obj hO hci] at hat
  rw [List.map_cons, List.map_cons, cv_ref (p := p0) (by omega)]
  have hap := va_apart (own := cN (mO y)) hts (in_gw hci) (cY ci) (ty_ok ci hci) (nm_ok ci hci) hK (cls_at ci hci)
  obtain ⟨r, h1, cell, q1, q2, q3, q4⟩ := hw.1 (p0 - 2) _ hat
  have hr2 : r = (cN ci, cT ci, cF ci) := Option.some.inj (h1.symm.trans (cls_at ci hci))
  subst hr2
  obtain ⟨hS, hfc, kC, hkC, hkind⟩ := hK.1 ci _ (cls_at ci hci)
  obtain ⟨cf, kf, fi, f, hi, hsl⟩ := hS k hk
  have hlay := hts _ (in_gw hci _ (u_in_lay hk))
  have hst := (u_facts hfc hkC (u_lays hts (in_gw hci) hk) hi).1
  have hlink := hts _ (wF_ok _ hF)
  have fin : ∀ H', H'[ad base b p0]? = some (cell.setSlot f.slot (cv base b v)) → H'.size = H.size → (∀ q, q ≠ ad base b p0 → H'[q]? = H[q]?) → W p l e R s m args below meth c H' (locs ++ [⟨ad base b p0, f.slot⟩]) cells slots Z (F0 m (pc + 3) la (st.map (cv base b))) := by
    intro H' e1 e2 e3
    rw [hsl] at e1 ⊢
    refine k1 H' _ (hw.put a1 a2 hh.1 hh.2.1 hh.2.2.1 hh.2.2.2.1 hh.2.2.2.2 ?_ e2 e3)
    rw [ce_obj (h := h') (by rw [hh.2.1]; exact hO) hci, fl_set hk (hv base b) (ho base b)]
    exact ⟨_, cls_at ci hci, t_OB.to (V := updV (vp_V (fl base b h p0 ci)) k (cv base b v)) ⟨_, e1, q2, q3, t_set q4 hap hk _⟩ (fun j _ => vp_updV_set (by rw [fl_len]; exact hk) _ j)⟩
  by_cases hfn : (cT ci k).2.2.2 = false
  · unfold u_lay at hlay
    rw [if_neg (by rw [hfn]; decide)] at hlay
    exact W.putK hx hb (f := f) ⟨hown, hlink, ⟨_, _, _, hi⟩, hst⟩ (by rw [q2]; exact u_store hfc hkC hkind hlay hi (ty_ok ci hci k hk) (hn base b) (hft base b)) q1 q3 (by rw [hsl]; exact k2_hasslot (q4 k hk)) rfl rfl hd fin
  · obtain ⟨hi2, hdecl⟩ := hfin.resolve_left hfn
    unfold u_lay at hlay
    rw [if_pos (by revert hfn; cases (cT ci k).2.2.2 <;> simp)] at hlay
    have hcf : m.cls = cf := by
      obtain ⟨_, _, c', _, _, _, -, -, hf', -, -, -, hown2, -⟩ := Cond.laysFinal_spec hlay
      have e1 : c' = cf := by have := hi.symm.trans hf'; simp at this; exact this.1.symm
      rw [hdecl] at hown2
      rw [← e1]; exact Option.some.inj (hown.symm.trans hown2)
    exact W.putFinK hx hb hown hlink hi hst hcf (hnm.trans hi2) (by rw [q2]; exact u_fits hfc hkC hkind (Or.inr hlay) hi (ty_ok ci hci k hk) (hn base b) (hft base b)) q1 q3 (by rw [hsl]; exact k2_hasslot (q4 k hk)) rfl rfl hd fin
theorem jkf_0 {ty : FieldType} (h : jkf ty = 0) : ty = .int := by cases ty <;> simp_all [jkf]
theorem jkf_1 {ty : FieldType} (h : jkf ty = 1) : ty = .long := by cases ty <;> simp_all [jkf]
theorem jkf_3 {ty : FieldType} {n : Nat} (h : jkf ty = n + 3) : ty = .boolean := by cases ty <;> simp_all [jkf]
theorem rf_cases (base b q : Nat) : cv base b (.ref q) = .null ∨ ∃ a, cv base b (.ref q) = .ref a := by
  by_cases h : q = 0
  · subst h
    exact Or.inl rfl
  · exact Or.inr ⟨_, cv_ref h⟩
theorem J_put {i ci k t p0 : Nat} {v : Value} (hd : decode (mC y) pc = .ok (.putfield i, 3)) (hF : [mO y, i, ci, k] ∈ tF) (hci : ci < 10) (hk : k < cF ci) (ht : t = jkf (cY ci k)) (hfin : (cT ci k).2.2.2 = false ∨ ((mN y).name = "<init>" ∧ (cT ci k).1 = cN (mO y))) (hO : isO h p0 ci)
    (kk : jPut t h p0 k v (fun h' => J y (pc + 3) kc ks ls st h' Q)) : J y pc kc ks ls (v :: .ref p0 :: st) h Q := by
  match t, ht, kk with
  | 0, ht, kk =>
    cases v <;> try exact kk.elim
    rename_i x
    have hy := jkf_0 ht.symm
    refine J_put0 hd hF hci hk hfin hO (fun _ _ => by rw [hy]; rfl) (fun _ _ => by rw [hy]; rfl) ⟨jn_sI, jz_sI, fun q hq => ?_, fun _ _ => by rw [gL_sI], fun _ _ => by rw [gR_sI]⟩ (fun base b => ?_) (fun base b j hj => ?_) kk
    · funext j
      rw [gI_sI, if_neg (fun z => hq z.1)]
    · unfold fv
      rw [← ht]
      show Value.int (gI _ _ _) = _
      rw [gI_sI, if_pos ⟨rfl, rfl⟩]
      rfl
    · unfold fv
      rw [gL_sI, gR_sI, gI_sI, if_neg (fun z => hj z.2)]
  | 1, ht, kk =>
    cases v <;> try exact kk.elim
    rename_i x
    have hy := jkf_1 ht.symm
    refine J_put0 hd hF hci hk hfin hO (fun _ _ => by rw [hy]; rfl) (fun _ _ => by rw [hy]; rfl) ⟨jn_sL, jz_sL, fun _ _ => by rw [gI_sL], fun q hq => ?_, fun _ _ => by rw [gR_sL]⟩ (fun base b => ?_) (fun base b j hj => ?_) kk
    · funext j
      rw [gL_sL, if_neg (fun z => hq z.1)]
    · unfold fv
      rw [← ht]
      show Value.long (gL _ _ _) = _
      rw [gL_sL, if_pos ⟨rfl, rfl⟩]
      rfl
    · unfold fv
      rw [gI_sL, gR_sL, gL_sL, if_neg (fun z => hj z.2)]
  | 2, ht, kk =>
    cases v <;> try exact kk.elim
    rename_i x kk0
    have hr := ty_ref ci hci k hk ht.symm
    refine J_put0 hd hF hci hk hfin hO (fun base b => ?_) (fun base b => ?_) ⟨jn_sR, jz_sR, fun _ _ => by rw [gI_sR], fun _ _ => by rw [gL_sR], fun q hq => ?_⟩ (fun base b => ?_) (fun base b j hj => ?_) kk
    · rcases rf_cases base b x with e | ⟨a, e⟩ <;> rw [e] <;> cases hy : cY ci k <;> rw [hy] at hr <;> first | rfl | exact absurd hr (by decide)
    · rcases rf_cases base b x with e | ⟨a, e⟩ <;> rw [e] <;> cases hy : cY ci k <;> rw [hy] at hr <;> first | rfl | exact absurd hr (by decide)
    · funext j
      rw [gR_sR, if_neg (fun z => hq z.1)]
    · unfold fv
      rw [← ht]
      show va_rf (rfo _ _ (gR _ _ _)) = _
      rw [gR_sR, if_pos ⟨rfl, rfl⟩]
      rfl
    · unfold fv
      rw [gI_sR, gL_sR, gR_sR, if_neg (fun z => hj z.2)]
  | n + 3, ht, kk =>
    cases v <;> try exact kk.elim
    rename_i x
    have hy := jkf_3 ht.symm
    obtain ⟨hB, kk⟩ := kk
    refine J_put0 hd hF hci hk hfin hO (fun _ _ => ?_) (fun _ _ => ?_) ⟨jn_sI, jz_sI, fun q hq => ?_, fun _ _ => by rw [gL_sI], fun _ _ => by rw [gR_sI]⟩ (fun base b => ?_) (fun base b j hj => ?_) kk
    · rw [hy]
      rcases hB with rfl | rfl <;> rfl
    · rw [hy]
      rcases hB with rfl | rfl <;> rfl
    · funext j
      rw [gI_sI, if_neg (fun z => hq z.1)]
    · unfold fv
      rw [← ht]
      show Value.int (gI _ _ _) = _
      rw [gI_sI, if_pos ⟨rfl, rfl⟩]
      rfl
    · unfold fv
      rw [gL_sI, gR_sI, gI_sI, if_neg (fun z => hj z.2)]
end JH
/-! arrays -/
theorem ty_at {tc : Nat → ClassId} {c : Nat} (h1 : 10 ≤ c) (h2 : c < 15) : ∃ ty, (tyl tc)[c - 10]? = some (tc c, ty) := by
  match c, h1, h2 with
  | 10, _, _ => exact ⟨_, rfl⟩
  | 11, _, _ => exact ⟨_, rfl⟩
  | 12, _, _ => exact ⟨_, rfl⟩
  | 13, _, _ => exact ⟨_, rfl⟩
  | 14, _, _ => exact ⟨_, rfl⟩
  | c + 15, _, h => exact absurd h (by omega)
theorem vp_lt {i : Int32} {n : Nat} (h : vp_in i n) : i.toNatClampNeg < n := Nat.not_le.mp fun q => h (Or.inr q)
section JA
variable {y pc kc ks : Nat} {ls st : List Value} {h : jHp} {Q : jQ}
theorem J_iald {p0 : Nat} {i : Int32} (hd : decode (mC y) pc = .ok (.iaload, 1)) (hx0 : ixL h p0 i) (kk : J y (pc + 1) kc ks ls (.int (gI h p0 i.toNatClampNeg) :: st) h Q) : J y pc kc ks ls (.int i :: .ref p0 :: st) h Q := by
  intro p l e R s m args below meth c Z base b L xs D tc hc H locs cells slots la hw hl g1 g2 hf
  have k1 := kk p l e R s m args below meth c Z base b L xs D tc hc H locs cells slots la hw hl g1 g2 hf
  obtain ⟨hx, hb, hr, hml, hown, hlk, hts, hnm, hK, hbs, hfr, hlo, hsp⟩ := hc
  obtain ⟨hcd, hin⟩ := hx0
  have hlt := vp_lt hin
  rcases hcd with hcd | hcd
  · obtain ⟨a1, a2⟩ := hw.2.2.2.2.2.lt (p := p0) (by rw [hcd]; omega)
    have hat := wl_at (base := base) (b := b) (tc := tc) a1 a2
    rw [ce_int hcd (by omega) (by omega)] at hat
    rw [List.map_cons, List.map_cons, cv_ref (by omega)]
    exact va_iald hx hb hK hw.1 (p0 - 2) 0 hat rfl hin hd k1
  · obtain ⟨z1, z2, z3, z4⟩ := hw.2.2.2.2.2
    have hp1 := z3 p0 hcd
    subst hp1
    rw [z1] at hin hlt
    rw [z2 _ hlt] at k1
    obtain ⟨scr, e1, e2, e3, e4, e5⟩ := hw.2.2.2.1
    rw [List.map_cons, List.map_cons, cv_ref (by omega)]
    exact W.iald (v := .int (xs i.toNatClampNeg)) hx hb (show H[ad base b 1]? = some scr from e1) e2 e3 (by rw [e4]; exact hin) (e5 _ hlt) rfl rfl hd k1
theorem J_bald {p0 : Nat} {i : Int32} (hd : decode (mC y) pc = .ok (.baload, 1)) (hx0 : ix h p0 11 i) (kk : J y (pc + 1) kc ks ls (.int (gI h p0 i.toNatClampNeg) :: st) h Q) : J y pc kc ks ls (.int i :: .ref p0 :: st) h Q := by
  intro p l e R s m args below meth c Z base b L xs D tc hc H locs cells slots la hw hl g1 g2 hf
  have k1 := kk p l e R s m args below meth c Z base b L xs D tc hc H locs cells slots la hw hl g1 g2 hf
  obtain ⟨hx, hb, hr, hml, hown, hlk, hts, hnm, hK, hbs, hfr, hlo, hsp⟩ := hc
  obtain ⟨hcd, hin⟩ := hx0
  obtain ⟨a1, a2⟩ := hw.2.2.2.2.2.lt (p := p0) (by rw [hcd]; omega)
  have hat := wl_at (base := base) (b := b) (tc := tc) a1 a2
  rw [ce_int hcd (by omega) (by omega)] at hat
  rw [List.map_cons, List.map_cons, cv_ref (by omega)]
  exact va_bald hx hb hK hw.1 (p0 - 2) 1 hat rfl hin hd k1
theorem J_aald {p0 : Nat} {i : Int32} (hd : decode (mC y) pc = .ok (.aaload, 1)) (hx0 : ixR h p0 i) (kk : J y (pc + 1) kc ks ls (.ref (gR h p0 i.toNatClampNeg) :: st) h Q) : J y pc kc ks ls (.int i :: .ref p0 :: st) h Q := by
  intro p l e R s m args below meth c Z base b L xs D tc hc H locs cells slots la hw hl g1 g2 hf
  have k1 := kk p l e R s m args below meth c Z base b L xs D tc hc H locs cells slots la hw hl g1 g2 hf
  obtain ⟨hx, hb, hr, hml, hown, hlk, hts, hnm, hK, hbs, hfr, hlo, hsp⟩ := hc
  obtain ⟨hcd, hin⟩ := hx0
  obtain ⟨cd, hcd, h12, h15, ty, hty, hrf⟩ : ∃ cd, (jz h p0).1 = cd ∧ 12 ≤ cd ∧ cd < 15 ∧ ∃ ty, (tyl tc)[cd - 10]? = some (tc cd, ty) ∧ ty.isReference = true := by
    rcases hcd with hcd | hcd | hcd
    · exact ⟨12, hcd, by omega, by omega, _, rfl, rfl⟩
    · exact ⟨13, hcd, by omega, by omega, _, rfl, rfl⟩
    · exact ⟨14, hcd, by omega, by omega, _, rfl, rfl⟩
  obtain ⟨a1, a2⟩ := hw.2.2.2.2.2.lt (p := p0) (by rw [hcd]; omega)
  have hat := wl_at (base := base) (b := b) (tc := tc) a1 a2
  rw [ce_ref hcd h12] at hat
  have hlt := vp_lt hin
  rw [List.map_cons, List.map_cons, cv_ref (by omega)]
  exact W.aald (v := va_rf (rfo base b (gR h p0 i.toNatClampNeg))) (ty := ty) hx hb (hw.1 (p0 - 2) _ hat) ((hK.2 (cd - 10) _ hty).1 (jz h p0).2 (fun j => va_rf (rfo base b (gR h p0 j)))) hrf (fun q => by cases q) (by show ¬ (i < 0 ∨ (arrV _ _ _).slots.size ≤ _); rw [arrV_size]; exact hin) (by show (arrV _ _ _).slots[_]? = _; rw [arrV_read _ _ hlt]) rfl rfl hd k1
theorem sI_hh {p0 k : Nat} {x : Int32} : jn (sI h p0 k x) = jn h ∧ jz (sI h p0 k x) = jz h ∧ (∀ q, q ≠ p0 → gI (sI h p0 k x) q = gI h q) ∧ (∀ q, q ≠ p0 → gL (sI h p0 k x) q = gL h q) ∧ (∀ q, q ≠ p0 → gR (sI h p0 k x) q = gR h q) :=
  ⟨jn_sI, jz_sI, fun q hq => by funext j; rw [gI_sI, if_neg (fun z => hq z.1)], fun _ _ => by rw [gL_sI], fun _ _ => by rw [gR_sI]⟩
theorem sI_upd {p0 k : Nat} {x : Int32} : gI (sI h p0 k x) p0 = upd (gI h p0) k x := by
  funext j
  rw [gI_sI]
  by_cases e : j = k
  · subst e
    rw [if_pos ⟨rfl, rfl⟩, pk_us]
  · rw [if_neg (fun z => e z.2), pk_un e]
theorem J_iast {p0 : Nat} {i x : Int32} (hd : decode (mC y) pc = .ok (.iastore, 1)) (hx0 : ix h p0 10 i) (kk : J y (pc + 1) kc ks ls st (sI h p0 i.toNatClampNeg x) Q) : J y pc kc ks ls (.int x :: .int i :: .ref p0 :: st) h Q := by
  intro p l e R s m args below meth c Z base b L xs D tc hc H locs cells slots la hw hl g1 g2 hf
  have k1 := fun H1 locs1 hw1 => kk p l e R s m args below meth c Z base b L xs D tc hc H1 locs1 cells slots la hw1 hl g1 g2 hf
  obtain ⟨hx, hb, hr, hml, hown, hlk, hts, hnm, hK, hbs, hfr, hlo, hsp⟩ := hc
  obtain ⟨hcd, hin⟩ := hx0
  obtain ⟨a1, a2⟩ := hw.2.2.2.2.2.lt (p := p0) (by rw [hcd]; omega)
  have hat := wl_at (base := base) (b := b) (tc := tc) a1 a2
  rw [ce_int hcd (by omega) (by omega)] at hat
  rw [List.map_cons, List.map_cons, List.map_cons, cv_ref (by omega)]
  refine W.iast hx hb (hw.1 _ _ hat) ((hK.2 0 _ rfl).1 _ (fun j => .int (gI h p0 j))) (fun q => by cases q) (by show ¬ (i < 0 ∨ (arrV _ _ _).slots.size ≤ _); rw [arrV_size]; exact hin) rfl rfl hd fun H1 e z oq => ?_
  obtain ⟨s1, s2, s3, s4, s5⟩ := sI_hh (h := h) (p0 := p0) (k := i.toNatClampNeg) (x := x)
  refine k1 H1 _ (hw.put a1 a2 s1 s2 s3 s4 s5 ?_ z oq)
  rw [ce_int (h := sI h p0 i.toNatClampNeg x) (c := 10) (by rw [jz_sI]; exact hcd) (by omega) (by omega), sI_upd, jz_sI]
  show H1[ad base b p0]? = some (vp_cell _ _)
  rw [e, vp_cell_i, vp_cell_i, arrV_store]
  congr 2
  funext q
  by_cases hq : q = i.toNatClampNeg
  · subst hq
    simp [updV, upd]
  · simp [updV, upd, hq]
theorem J_bast {p0 : Nat} {i x : Int32} (hd : decode (mC y) pc = .ok (.bastore, 1)) (hx0 : ix h p0 11 i) (kk : J y (pc + 1) kc ks ls st (sI h p0 i.toNatClampNeg (vp_nar .byte x)) Q) : J y pc kc ks ls (.int x :: .int i :: .ref p0 :: st) h Q := by
  intro p l e R s m args below meth c Z base b L xs D tc hc H locs cells slots la hw hl g1 g2 hf
  have k1 := fun H1 locs1 hw1 => kk p l e R s m args below meth c Z base b L xs D tc hc H1 locs1 cells slots la hw1 hl g1 g2 hf
  obtain ⟨hx, hb, hr, hml, hown, hlk, hts, hnm, hK, hbs, hfr, hlo, hsp⟩ := hc
  obtain ⟨hcd, hin⟩ := hx0
  obtain ⟨a1, a2⟩ := hw.2.2.2.2.2.lt (p := p0) (by rw [hcd]; omega)
  have hat := wl_at (base := base) (b := b) (tc := tc) a1 a2
  rw [ce_int hcd (by omega) (by omega)] at hat
  rw [List.map_cons, List.map_cons, List.map_cons, cv_ref (by omega)]
  refine W.bast hx hb (hw.1 _ _ hat) ((hK.2 1 _ rfl).1 _ (fun j => .int (gI h p0 j))) (fun q => by cases q) (by show ¬ (i < 0 ∨ (arrV _ _ _).slots.size ≤ _); rw [arrV_size]; exact hin) rfl rfl hd fun H1 e z oq => ?_
  obtain ⟨s1, s2, s3, s4, s5⟩ := sI_hh (h := h) (p0 := p0) (k := i.toNatClampNeg) (x := vp_nar .byte x)
  refine k1 H1 _ (hw.put a1 a2 s1 s2 s3 s4 s5 ?_ z oq)
  rw [ce_int (h := sI h p0 i.toNatClampNeg (vp_nar .byte x)) (c := 11) (by rw [jz_sI]; exact hcd) (by omega) (by omega), sI_upd, jz_sI]
  show H1[ad base b p0]? = some (vp_cell _ _)
  rw [e, vp_cell_i, vp_cell_i, arrV_store]
  congr 2
  funext q
  by_cases hq : q = i.toNatClampNeg
  · subst hq
    simp [updV, upd, vp_nar, narrow]
  · simp [updV, upd, hq]
theorem J_aast {p0 q0 : Nat} {i : Int32} (hd : decode (mC y) pc = .ok (.aastore, 1)) (hx0 : (ix h p0 13 i ∧ isO h q0 0) ∨ (ix h p0 14 i ∧ isO h q0 5)) (kk : J y (pc + 1) kc ks ls st (sR h p0 i.toNatClampNeg q0) Q) : J y pc kc ks ls (.ref q0 :: .int i :: .ref p0 :: st) h Q := by
  intro p l e R s m args below meth c Z base b L xs D tc hc H locs cells slots la hw hl g1 g2 hf
  have k1 := fun H1 locs1 hw1 => kk p l e R s m args below meth c Z base b L xs D tc hc H1 locs1 cells slots la hw1 hl g1 g2 hf
  obtain ⟨hx, hb, hr, hml, hown, hlk, hts, hnm, hK, hbs, hfr, hlo, hsp⟩ := hc
  obtain ⟨cd, ci, t0, hcd, hin, hO, h12, h15, hci, ht⟩ : ∃ cd ci t0, (jz h p0).1 = cd ∧ vp_in i (jz h p0).2 ∧ isO h q0 ci ∧ 12 ≤ cd ∧ cd < 15 ∧ ci < 10 ∧ (tyl tc)[t0]? = some (tc cd, FieldType.object (cN ci)) := by
    rcases hx0 with ⟨⟨u1, u2⟩, u3⟩ | ⟨⟨u1, u2⟩, u3⟩
    · exact ⟨13, 0, 3, u1, u2, u3, by omega, by omega, by omega, rfl⟩
    · exact ⟨14, 5, 4, u1, u2, u3, by omega, by omega, by omega, rfl⟩
  obtain ⟨a1, a2⟩ := hw.2.2.2.2.2.lt (p := p0) (by rw [hcd]; omega)
  obtain ⟨b1, b2⟩ := hw.2.2.2.2.2.lt (p := q0) (by rw [hO]; omega)
  have hat := wl_at (base := base) (b := b) (tc := tc) a1 a2
  rw [ce_ref hcd h12] at hat
  have hav := wl_at (base := base) (b := b) (tc := tc) b1 b2
  rw [ce_obj hO hci] at hav
  rw [List.map_cons, List.map_cons, List.map_cons, cv_ref (p := p0) (by omega), cv_ref (p := q0) (by omega)]
  have hlt := vp_lt hin
  have h0 : ¬ i < 0 := fun q => hin (Or.inl q)
  obtain ⟨r', hr', cellV, u1, u2, u3, -⟩ := hw.1 _ _ hav
  have hcls := (hK.1 ci _ (cls_at ci hci)).2
  obtain ⟨kA, comp, v1, v2, v3, -⟩ := (hK.2 t0 _ ht).2
  have hcomp : comp = D.1 ci := Option.some.inj (v3.symm.trans hcls.1)
  subst hcomp
  obtain ⟨kC, hkC, -⟩ := hcls.2
  refine W.aast hx hb (hw.1 _ _ hat) (fun q h => by cases h) (fun h => by cases h) v1 v2 rfl hkC ⟨h0, by show _ < (arrV _ _ _).slots.size; rw [arrV_size]; exact hlt⟩ u1 (fun q h => by rw [u3] at h; cases h) (by rw [u2]; exact hkC) (by rw [u2]; exact va_assign hcls) rfl rfl hd fun H1 e z oq => ?_
  refine k1 H1 _ (hw.put a1 a2 jn_sR jz_sR (fun _ _ => by rw [gI_sR]) (fun _ _ => by rw [gL_sR]) (fun q hq => by funext j; rw [gR_sR, if_neg (fun z => hq z.1)]) ?_ z oq)
  rw [ce_ref (h := sR h p0 i.toNatClampNeg q0) (c := cd) (by rw [jz_sR]; exact hcd) h12, jz_sR]
  show H1[ad base b p0]? = some (vp_cell _ _)
  rw [e, vp_cell_q, vp_cell_q, arrV_store]
  congr 2
  funext q
  by_cases hq : q = i.toNatClampNeg
  · subst hq
    simp [updV, gR_sR, rfo_of b1, va_rf]
  · simp [updV, gR_sR, hq]
theorem J_alen {p0 : Nat} (hd : decode (mC y) pc = .ok (.arraylength, 1)) (hx0 : 10 ≤ (jz h p0).1 ∧ (jz h p0).1 ≤ 14 ∨ (jz h p0).1 = 20) (kk : J y (pc + 1) kc ks ls (.int (Int32.ofNat (jz h p0).2) :: st) h Q) : J y pc kc ks ls (.ref p0 :: st) h Q := by
  intro p l e R s m args below meth c Z base b L xs D tc hc H locs cells slots la hw hl g1 g2 hf
  have k1 := kk p l e R s m args below meth c Z base b L xs D tc hc H locs cells slots la hw hl g1 g2 hf
  obtain ⟨hx, hb, hr, hml, hown, hlk, hts, hnm, hK, hbs, hfr, hlo, hsp⟩ := hc
  rcases hx0 with ⟨c1, c2⟩ | hcd
  · obtain ⟨a1, a2⟩ := hw.2.2.2.2.2.lt (p := p0) (by omega)
    have hat := wl_at (base := base) (b := b) (tc := tc) a1 a2
    obtain ⟨ty, hty⟩ := ty_at (tc := tc) c1 (by omega)
    rw [List.map_cons, cv_ref (by omega)]
    by_cases c12 : (jz h p0).1 < 12
    · rw [ce_int rfl c1 c12] at hat
      exact va_alen hx hb hK hw.1 (p0 - 2) _ hat hty rfl hd k1
    · rw [ce_ref rfl (by omega)] at hat
      exact va_alen hx hb hK hw.1 (p0 - 2) _ hat hty rfl hd k1
  · obtain ⟨z1, z2, z3, z4⟩ := hw.2.2.2.2.2
    have hp1 := z3 p0 hcd
    subst hp1
    rw [z1] at k1
    obtain ⟨scr, e1, e2, e3, e4, e5⟩ := hw.2.2.2.1
    rw [List.map_cons, cv_ref (by omega)]
    exact W.alen (n := Int32.ofNat L) hx hb (show H[ad base b 1]? = some scr from e1) e2 (by rw [e4] <;> rfl) rfl rfl hd k1
end JA
end
section
/-! the tables' words in another state -/
theorem aoI_spec {s : State} (h : aoI s) : ∃ comp c k, s.vm.findClass (FieldType.array .int).toString = some comp ∧ (s.vm.classes.findIdx? fun (x : Class) => match x.kind with | .array component _ => component == comp | _ => false) = some c ∧ s.vm.classes[c]? = some k ∧ k.kind = .array comp (.array .int) ∧ s.vm.findClass ("[" ++ (FieldType.array .int).toString) = some c := by
  unfold aoI Cond.before at h
  simp only [Cond.holds, Cond.value, beq_iff_eq] at h
  cases hc : s.vm.findClass (FieldType.array .int).toString with
  | none => simp [hc] at h
  | some comp =>
    simp only [hc, Option.bind_some, Option.bind_eq_some_iff, Option.map_eq_some_iff] at h
    obtain ⟨c, hi, k, hk, hb⟩ := h
    obtain ⟨hlt, hp, -⟩ := Array.findIdx?_eq_some_iff_getElem.mp hi
    have hkk : s.vm.classes[c] = k := (Array.getElem?_eq_some_iff.mp hk).2
    rw [hkk] at hp
    cases hkind : k.kind with
    | array component ty =>
      rw [hkind] at hb hp
      simp at hb hp
      exact ⟨comp, c, k, rfl, hi, hk, by rw [hkind, hp, hb.1], hb.2⟩
    | _ => rw [hkind] at hb; simp at hb
theorem aoI.moved {u U : State} (hvm : u.vm.Alike U.vm) (h : aoI u) : aoI U := by
  obtain ⟨comp, c, k, h1, h2, h3, h4, h5⟩ := aoI_spec h
  obtain ⟨k', hk', he⟩ := hvm.2.2 _ _ h3
  have hi : (U.vm.classes.findIdx? fun (x : Class) => match x.kind with | .array component _ => component == comp | _ => false) = some c := by
    have e0 := va_idx_bare U.vm comp
    have e1 := va_idx_bare u.vm comp
    first | rw [hvm.bare_eq] at e0 | rw [hvm.bare_eq] at e1
    exact (e0.symm.trans e1).trans h2
  have hkind : k'.kind = .array comp (.array .int) := by rw [he]; exact h4
  have f1 : U.vm.findClass (FieldType.array .int).toString = some comp := by rw [hvm.findClass]; exact h1
  have f2 : U.vm.findClass ("[" ++ (FieldType.array .int).toString) = some c := by rw [hvm.findClass]; exact h5
  unfold aoI Cond.before Cond.holds
  simp only [Cond.value]
  rw [f1, Option.bind_some]
  refine (congrArg (fun o : Option Nat => (o.bind (fun c => (U.vm.classes[c]?).map fun (k : Class) => match k.kind with | .array _ ty => decide (ty = FieldType.array .int) && decide (U.vm.findClass ("[" ++ (FieldType.array .int).toString) = some c) | _ => false) == some true)) hi).trans ?_
  simp [hk', hkind, f2]
theorem spw.warm {s U : State} (hW : s.WarmedH U.vm) (h : spw s) : spw U := ⟨h.1.moved hW.alike, h.2.1.moved hW.alike, h.2.2.1.moved hW.alike, fun x hx => (h.2.2.2 x hx).warmM hW⟩
theorem spw.calling {U : State} (g : JFrame) (mk : MethodId) (a : Array Value) (h : spw U) : spw (U.calling g mk a) := ⟨h.1.moved (Vm.Alike.refl U.vm), h.2.1.moved (Vm.Alike.refl U.vm), h.2.2.1.moved (Vm.Alike.refl U.vm), fun x hx => (h.2.2.2 x hx).same rfl rfl⟩
theorem good_gw {ws : List Cond} (h : ∀ w ∈ ws, w ∈ gw) : GoodIn gw ws := fun w hw => ⟨h w hw, good_of_word (List.all_eq_true.mp gw_all w (h w hw))⟩
theorem jWs_in {z : Nat} (hz : z < 200) : ∀ w ∈ jWs z, w ∈ gw := by
  intro w hw
  rcases List.mem_cons.mp hw with rfl | hw
  · exact gw_code hz
  · exact hw
theorem mOk_at {z : Nat} (hz : z < 201) : (mN z).cls = cN (mO z) ∧ (mN z).cls ≠ "java/lang/invoke/MethodHandle" ∧ (mN z).cls ≠ "java/lang/invoke/VarHandle" ∧ (5 ≤ z → Jvm.plainName (mN z).cls = true) := by
  have h := List.all_eq_true.mp mOk_all z (List.mem_range.mpr hz)
  simp only [mOk, Bool.and_eq_true, decide_eq_true_eq, Bool.or_eq_true] at h
  exact ⟨h.1.1.1, h.1.1.2, h.1.2, fun h5 => h.2.resolve_left (by omega)⟩
theorem jWd.blind {base b L : Nat} {xs : Nat → Int32} {D : va_G} {tc : Nat → ClassId} {h : jHp} {as : List Value} : FrameBlind (va_Pc as (jWd base b L xs D tc h)) := by
  intro a U g mk q
  obtain ⟨q0, qK, qP, qs, qX, qb, qk, qw⟩ := q
  exact ⟨q0, va_K.moved (u := U) (U := U.calling g mk a) (Vm.Alike.refl U.vm) qK, qP, qs, va_X.moved (u := U) (U := U.calling g mk a) (Vm.Alike.refl U.vm) qX, qb, qk, qw.calling g mk a⟩
theorem cats_eq (base b : Nat) : ∀ (r : List Value), ((r.map (cv base b)).map fun v => v.category).sum = cats r
  | [] => rfl
  | v :: r => by
    simp only [List.map_cons, List.sum_cons, cats_eq base b r, cat_cv, cats]
section CALL
variable {y pc kc ks : Nat} {ls st : List Value} {h : jHp} {Q : jQ}
/-- behind a call -/
theorem J_back {p : Program} {l : Launch} {e : Env} {R : Room} {s : State} {m : MethodId} {args : Array Value} {below : List Frame} {meth : Method} {c : Code} {Z : State → Prop} {base b L : Nat} {xs : Nat → Int32} {D : va_G} {tc : Nat → ClassId} (hc : Cx y p R s m args meth c base D tc) {H : Heap} {locs : List Loc} {cells slots : Nat} {la : Array Slot} (hw : Wo base b L xs D tc h s H locs) (hl : Lr base b la (mL y) ls) (g1 : cells + kc ≤ R.cells) (g2 : slots + ks ≤ R.slots)
    (hf : ∀ (v : Option Value) (h' : jHp) (H' : Heap) (locs' : List Loc) (cells' slots' pc' : Nat) (la' : Array Slot), Q v h' → Wo base b L xs D tc h' s H' locs' → cells' ≤ R.cells → slots' ≤ R.slots → rtO y pc' v → W p l e R s m args below meth c H' locs' cells' slots' Z (F0 m pc' la' ((v.map (cv base b)).toList)))
    {k1 s1 : Nat} (hk1 : k1 ≤ kc) (hs1 : s1 ≤ ks) {st0 rest : List Value} {Q1 : jQ}
    (hr : va_Run p l e R s m args below meth c H locs cells slots k1 s1 (F0 m pc la st0) (rest.map (cv base b)) (fun st o t => (∃ (v : Option Value) (h' : jHp), o = .returned (v.map (cv base b)) ∧ Q1 v h' ∧ jWd base b L xs D tc h' t) ∧ va_F (fun q => base ≤ q) st t) (fun q => base ≤ q))
    (kk : ∀ v h', Q1 v h' → J y (pc + 3) (kc - k1) (ks - s1) ls (v.toList ++ rest) h' Q) : W p l e R s m args below meth c H locs cells slots Z (F0 m pc la st0) := by
  intro T hT X
  obtain ⟨v, st₀, t, T', Lc, h0, X', hL, e1, e2, ⟨⟨v', h', ev, hq, wK, wP, ws, wX, wb, wk, ww⟩, hz, hk⟩, step⟩ := hr T hT X
  have ev : v = v'.map (cv base b) := by simpa using ev
  subst ev
  rw [h0] at hz hk
  have hS := hw.2.2.1
  have hal : s.vm.Alike t.vm := by rw [← e2]; exact X'.warmed.alike
  have hw' : Wo base b L xs D tc h' s T'.heap (locs ++ Lc) := by
    refine ⟨by rw [e1]; exact wP, by rw [e1]; exact ws, ⟨Nat.le_trans hS.1 (by rw [e1]; exact hz), fun q u1 u2 => ?_, fun q hq => ?_⟩, by rw [e1]; exact va_X.moved hal.symm wX, wb, wk⟩
    · rw [e1, hk q (Nat.lt_of_lt_of_le u1 hS.1) u2]
      exact hS.2.1 q u1 u2
    · rcases List.mem_append.mp hq with h | h
      · exact hS.2.2 q h
      · exact hL q h
  obtain ⟨t2, a1, b1⟩ := kk v' h' hq p l e R s m args below meth c Z base b L xs D tc hc T'.heap (locs ++ Lc) (cells + k1) (slots + s1) la hw' hl (by omega) (by omega) hf T' rfl X'
  refine ⟨t2, step t2 ?_, b1⟩
  have ee : (v'.map (cv base b)).toList ++ rest.map (cv base b) = (v'.toList ++ rest).map (cv base b) := by
    cases v' <;> simp
  show Steps p.tables e below (T'.setTop (F0 m (pc + 3) la ((v'.map (cv base b)).toList ++ rest.map (cv base b)))) t2
  rw [ee]
  exact a1
theorem jWd_of {p : Program} {R : Room} {s : State} {m : MethodId} {args : Array Value} {meth : Method} {c : Code} {base b L : Nat} {xs : Nat → Int32} {D : va_G} {tc : Nat → ClassId} (hc : Cx y p R s m args meth c base D tc) {H : Heap} {locs : List Loc} (hw : Wo base b L xs D tc h s H locs) {U : State} (hU : U.heap = H) (hW : s.WarmedH U.vm) : jWd base b L xs D tc h U := by
  obtain ⟨hx, hb, hr, hml, hown, hlk, hts, hnm, hK, hbs, hfr, hlo, hsp⟩ := hc
  exact ⟨va_K.moved hW.alike hK, by rw [hU]; exact hw.1, by rw [hU]; exact hw.2.1, by rw [hU]; exact va_X.moved hW.alike hw.2.2.2.1, hw.2.2.2.2.1, hw.2.2.2.2.2, hsp.warm hW⟩
theorem tM_facts {i z n kd : Nat} (hM : [mO y, i, z, n, kd] ∈ tM ++ tZ) : z < 200 ∧ (parseMethodDescriptor (mN z).desc).map (fun d => d.parameters.length) = some (n - (if kd = 2 then 0 else 1)) ∧ (kd = 1 ∨ kd = 3 → (mN z).name = "<init>") ∧ (kd = 0 → [z] ∈ tV) ∧ (kd = 2 → [z] ∈ tS) ∧ (kd ≠ 2 → [z] ∈ tI) ∧ [mO z] ∈ tC := by
  have h1 := List.all_eq_true.mp tM_n _ hM
  have h2 := List.all_eq_true.mp tM_i _ hM
  have h3 := List.all_eq_true.mp tM_z _ hM
  have h4 := List.all_eq_true.mp tM_v _ hM
  simp only [List.getD_cons_zero, List.getD_cons_succ, Bool.and_eq_true, decide_eq_true_eq] at h1 h2 h3 h4
  exact ⟨h3.1, h1, h2, h4.1.1.1, h4.1.1.2, h4.1.2, h4.2⟩
theorem J_callV {i z n p0 k1 s1 : Nat} {As rest : List Value} {Q1 : jQ} (hd : decode (mC y) pc = .ok (.invokevirtual i, 3)) (hM : [mO y, i, z, n, 0] ∈ tM) (hF1 : mF z + 1 ≤ mF y) (hS1 : 8 + (mL z + 11) + mS z ≤ mS y) (hn : As.length + 1 = n) (hst : st = As.reverse ++ .ref p0 :: rest) (hct : cats rest ≤ 8) (hO : isO h p0 (mO z)) (hk1 : k1 ≤ kc) (hs1 : s1 ≤ ks)
    (hR : jRet z k1 s1 (.ref p0 :: As) h Q1) (kk : ∀ v h', Q1 v h' → J y (pc + 3) (kc - k1) (ks - s1) ls (v.toList ++ rest) h' Q) : J y pc kc ks ls st h Q := by
  intro p l e R s m args below meth c Z base b L xs D tc hc H locs cells slots la hw hl g1 g2 hf
  have hc0 := hc
  obtain ⟨hx, hb, hr, hml, hown, hlk, hts, hnm, hK, hbs, hfr, hlo, hsp⟩ := hc
  obtain ⟨hz, hpd, -, hV, -, hI, hC⟩ := tM_facts (y := y) (List.mem_append_left _ hM)
  obtain ⟨m1, m2, m3, m4⟩ := mOk_at (z := z) (by omega)
  have hmo : mO z < 10 := by
    have := hw.2.2.2.2.2
    have tV10 : tV.all (fun x => decide (mO (x.getD 0 0) < 10)) = true := by decide +kernel
    have h9 := List.all_eq_true.mp tV10 _ (hV rfl)
    simpa using h9
  obtain ⟨a1, a2⟩ := hw.2.2.2.2.2.lt (p := p0) (by rw [hO]; omega)
  have hat := wl_at (base := base) (b := b) (tc := tc) a1 a2
  rw [ce_obj hO hmo] at hat
  have hst' : st.map (cv base b) = (As.map (cv base b)).reverse ++ .ref (ad base b p0) :: rest.map (cv base b) := by
    rw [hst, List.map_append, List.map_reverse, List.map_cons, cv_ref (by omega)]
  rw [hst']
  have hws : ∀ w ∈ wsV (cN (mO y)) i (cN (mO z)) (mN z) (jWs z), w ∈ gw := by
    intro w hw9
    rcases List.mem_append.mp hw9 with h9 | h9
    · simp only [List.mem_cons, List.not_mem_nil, or_false] at h9
      rcases h9 with rfl | rfl | rfl | rfl
      · exact wM_ok _ hM
      · exact wI_ok _ (hI (by omega))
      · exact wV_ok _ (hV rfl)
      · exact wC_ok _ hC
    · exact jWs_in hz w h9
  have run := va_runV (As := As.map (cv base b)) (rest := rest.map (cv base b)) (g := F0 m pc la ((As.map (cv base b)).reverse ++ .ref (ad base b p0) :: rest.map (cv base b))) (locs := locs) (cells := cells) (slots := slots) (e := e) (below := below) (meth := meth) ⟨hx, hb, hml, hown, hts⟩ (hR l base b L xs D tc)
    (cwV (R := R) (C := cN (mO z)) (n - 1) hts (good_gw hws) rfl rfl rfl ⟨m1, m2, m3, hpd⟩ ⟨Nat.le_trans hF1 hfr, Nat.le_trans hS1 hlo⟩)
    ⟨jWd.blind, va_recv hK hw.1 (cls_at (mO z) hmo) hat, fun U hU hW => ⟨by rw [List.map_cons, cv_ref (by omega)], jWd_of hc0 hw hU hW⟩⟩ rfl (by rw [List.length_map]; omega) (hl.2.1) rfl (lv_room (by rw [cats_eq]; exact hct)) hd ⟨by omega, by omega⟩
  exact J_back hc0 hw hl g1 g2 hf hk1 hs1 run kk
theorem J_callS {i z n k1 s1 : Nat} {As rest : List Value} {Q1 : jQ} (hd : decode (mC y) pc = .ok (.invokestatic i, 3)) (hM : [mO y, i, z, n, 2] ∈ tM) (hF1 : mF z + 1 ≤ mF y) (hS1 : 8 + (mL z + 11) + mS z ≤ mS y) (hn : As.length = n) (hst : st = As.reverse ++ rest) (hct : cats rest ≤ 8) (hk1 : k1 ≤ kc) (hs1 : s1 ≤ ks)
    (hR : jRet z k1 s1 As h Q1) (kk : ∀ v h', Q1 v h' → J y (pc + 3) (kc - k1) (ks - s1) ls (v.toList ++ rest) h' Q) : J y pc kc ks ls st h Q := by
  intro p l e R s m args below meth c Z base b L xs D tc hc H locs cells slots la hw hl g1 g2 hf
  have hc0 := hc
  obtain ⟨hx, hb, hr, hml, hown, hlk, hts, hnm, hK, hbs, hfr, hlo, hsp⟩ := hc
  obtain ⟨hz, hpd, -, -, hS9, -, hC⟩ := tM_facts (y := y) (List.mem_append_left _ hM)
  obtain ⟨m1, m2, m3, m4⟩ := mOk_at (z := z) (by omega)
  have hst' : st.map (cv base b) = (As.map (cv base b)).reverse ++ rest.map (cv base b) := by
    rw [hst, List.map_append, List.map_reverse]
  rw [hst']
  have run := va_runS (As := As.map (cv base b)) (rest := rest.map (cv base b)) (g := F0 m pc la ((As.map (cv base b)).reverse ++ rest.map (cv base b))) (locs := locs) (cells := cells) (slots := slots) (e := e) (below := below) (meth := meth) ⟨hx, hb, hml, hown, hts⟩ (hR l base b L xs D tc)
    ⟨callB_of (R := R) n hts (good_gw (jWs_in hz)) rfl rfl rfl (by rw [m1]; exact hts _ (wC_ok _ hC)) (hts _ (wM_ok _ hM)) ⟨m2, m3, hpd⟩ ⟨Nat.le_trans hF1 hfr, Nat.le_trans hS1 hlo⟩, hts _ (wS_ok _ (hS9 rfl))⟩
    ⟨jWd.blind, fun U hU hW => ⟨rfl, jWd_of hc0 hw hU hW⟩⟩ rfl (by rw [List.length_map]; omega) (hl.2.1) rfl (lv_room (by rw [cats_eq]; exact hct)) hd ⟨by omega, by omega⟩
  exact J_back hc0 hw hl g1 g2 hf hk1 hs1 run kk
theorem J_callI {i z n p0 k1 s1 : Nat} {As rest : List Value} {Q1 : jQ} (hd : decode (mC y) pc = .ok (.invokespecial i, 3)) (hM : [mO y, i, z, n, 1] ∈ tM ∨ [mO y, i, z, n, 3] ∈ tZ) (hrt : mR z = none) (hF1 : mF z + 1 ≤ mF y) (hS1 : 8 + (mL z + 11) + mS z ≤ mS y) (hn : As.length + 1 = n) (hst : st = As.reverse ++ .ref p0 :: rest) (hct : cats rest ≤ 8) (hO : p0 ≠ 0) (hk1 : k1 ≤ kc) (hs1 : s1 ≤ ks)
    (hR : jRet z k1 s1 (.ref p0 :: As) h Q1) (kk : ∀ v h', Q1 v h' → J y (pc + 3) (kc - k1) (ks - s1) ls (v.toList ++ rest) h' Q) : J y pc kc ks ls st h Q := by
  intro p l e R s m args below meth c Z base b L xs D tc hc H locs cells slots la hw hl g1 g2 hf
  have hc0 := hc
  obtain ⟨hx, hb, hr, hml, hown, hlk, hts, hnm, hK, hbs, hfr, hlo, hsp⟩ := hc
  have hst' : st.map (cv base b) = (As.map (cv base b)).reverse ++ .ref (ad base b p0) :: rest.map (cv base b) := by
    rw [hst, List.map_append, List.map_reverse, List.map_cons, cv_ref hO]
  rw [hst']
  have hjw : ∀ {z : Nat}, mR z = none → jWs z = Cond.code (mN z) (mC z) (mL z) none :: gw := fun {z} hz => by unfold jWs; rw [hz]
  rcases hM with hM | hM
  · obtain ⟨hz, hpd, hi9, -, -, hI, hC⟩ := tM_facts (y := y) (List.mem_append_left _ hM)
    obtain ⟨m1, m2, m3, m4⟩ := mOk_at (z := z) (by omega)
    have run := va_runI (As := As.map (cv base b)) (rest := rest.map (cv base b)) (g := F0 m pc la ((As.map (cv base b)).reverse ++ .ref (ad base b p0) :: rest.map (cv base b))) (locs := locs) (cells := cells) (slots := slots) (e := e) (below := below) (meth := meth) ⟨hx, hb, hml, hown, hts⟩ (hR l base b L xs D tc)
      (cwI (R := R) (n - 1) hts (good_gw (jWs_in hz)) (hjw hrt) rfl rfl (by rw [m1]; exact hts _ (wC_ok _ hC)) (hts _ (wM_ok _ hM)) (hts _ (wI_ok _ (hI (by omega)))) (hi9 (Or.inl rfl)) ⟨m2, m3, hpd⟩ ⟨Nat.le_trans hF1 hfr, Nat.le_trans hS1 hlo⟩)
      ⟨jWd.blind, fun U hU hW => ⟨by rw [List.map_cons, cv_ref hO], jWd_of hc0 hw hU hW⟩⟩ rfl (by rw [List.length_map]; omega) (hl.2.1) rfl (lv_room (by rw [cats_eq]; exact hct)) hd ⟨by omega, by omega⟩
    exact J_back hc0 hw hl g1 g2 hf hk1 hs1 run kk
  · obtain ⟨hz, hpd, hi9, -, -, hI, hC⟩ := tM_facts (y := y) (List.mem_append_right _ hM)
    obtain ⟨m1, m2, m3, m4⟩ := mOk_at (z := z) (by omega)
    have hnw : va_Nw (.methodLinkNest (cN (mO y)) i (mN z) "LightRoom") s := by
      have h9 := hsp.2.2.2 _ hM
      simp only [List.getD_cons_zero, List.getD_cons_succ] at h9
      exact h9
    have hcn := va_cnB (R := R) (own := cN (mO y)) (host := "LightRoom") (index := i) (y := mN z) (bytes := mC z) (maxL := mL z) (ret := none) (ws := jWs z) (rm := jRm z k1 s1) (mc := k1) (ms := s1) (n - 1) hts (good_gw (jWs_in hz)) (hjw hrt) rfl rfl hnw (by rw [m1]; exact hts _ (wC_ok _ hC)) ⟨m2, m3, hpd⟩ ⟨Nat.le_trans hF1 hfr, Nat.le_trans hS1 hlo⟩
    have run := va_runIN (As := As.map (cv base b)) (rest := rest.map (cv base b)) (g := F0 m pc la ((As.map (cv base b)).reverse ++ .ref (ad base b p0) :: rest.map (cv base b))) (locs := locs) (cells := cells) (slots := slots) (e := e) (below := below) (meth := meth) ⟨hx, hb, hml, hown, hts⟩ (hR l base b L xs D tc)
      ⟨hcn, hi9 (Or.inr rfl), hts _ (wI_ok _ (hI (by omega)))⟩
      ⟨jWd.blind, fun U hU hW => ⟨by rw [List.map_cons, cv_ref hO], jWd_of hc0 hw hU hW⟩⟩ rfl (by rw [List.length_map]; omega) (hl.2.1) rfl (lv_room (by rw [cats_eq]; exact hct)) hd ⟨by omega, by omega⟩
    exact J_back hc0 hw hl g1 g2 hf hk1 hs1 run kk
/-- Object's constructor -/
theorem J_obj {i p0 : Nat} (hd : decode (mC y) pc = .ok (.invokespecial i, 3)) (hO : [mO y, i] ∈ tO) (h1 : 1 ≤ mF y) (h2 : 20 ≤ mS y) (hct : cats st ≤ 8) (hp : p0 ≠ 0) (kk : J y (pc + 3) kc ks ls st h Q) : J y pc kc ks ls (.ref p0 :: st) h Q := by
  intro p l e R s m args below meth c Z base b L xs D tc hc H locs cells slots la hw hl g1 g2 hf
  have k1 := kk p l e R s m args below meth c Z base b L xs D tc hc H locs cells slots la hw hl g1 g2 hf
  obtain ⟨hx, hb, hr, hml, hown, hlk, hts, hnm, hK, hbs, hfr, hlo, hsp⟩ := hc
  rw [List.map_cons, cv_ref hp]
  exact W.objInit hx hb hown (hts _ (wO_ok _ hO)) (hts _ gw_obi) (hts _ gw_obc) rfl (hl.2.1.trans hml.symm) rfl hd (Nat.le_trans h1 hfr) (by show 2 * 0 + _ + 12 ≤ _; rw [cats_eq]; omega) k1
end CALL
end
section
/-! what is made: objects, arrays; copying; Math -/
section WON
variable {base b L : Nat} {xs : Nat → Int32} {D : va_G} {tc : Nat → ClassId} {h h' : jHp} {s : State} {H H1 : Heap} {locs : List Loc}
theorem Wo.new (hw : Wo base b L xs D tc h s H locs) (hn : jn h' = jn h + 1) (he : ∀ q, 2 ≤ q → q < jn h + 2 → ce base b tc h' q = ce base b tc h q) (hk : Hk L xs h') (e : va_at D cls (base + jn h, ce base b tc h' (jn h + 2)) H1) (z : H1.size = H.size + 1) (oq : ∀ q : Nat, q < H.size → H1[q]? = H[q]?) : Wo base b L xs D tc h' s H1 locs := by
  obtain ⟨w1, w2, w3, w4, w5, w6⟩ := hw
  refine ⟨?_, by rw [z, hn, w2]; omega, ⟨by rw [z]; exact Nat.le_succ_of_le w3.1, fun q hq hA => ?_, w3.2.2⟩, w4.kept (oq b (by omega)), w5, hk⟩
  · rw [wl_new hn he]
    refine (w1.kept (fun k x hx => oq x.1 ((w1 k x hx).lt))).app (fun k x hx => ?_)
    have h0 : k < 1 := (List.getElem?_eq_some_iff.mp hx).1
    rw [show k = 0 by omega] at hx
    cases hx
    exact e
  · rw [oq q (Nat.lt_of_lt_of_le hq w3.1)]
    exact w3.2.1 q hq hA
theorem Hk.jA {c n : Nat} (hk : Hk L xs h) (hc : c < 15) : Hk L xs (jA h c n) := by
  obtain ⟨k1, k2, k3, k4⟩ := hk
  refine ⟨by rw [jz_jA, if_neg (by omega)]; exact k1, fun j hj => by rw [gI_jA, if_neg (by omega)]; exact k2 j hj, fun p hp => ?_, fun p hp => ?_⟩
  · rw [jz_jA] at hp
    split at hp
    · simp at hp
      omega
    · exact k3 p hp
  · rw [jz_jA] at hp
    rw [jn_jA]
    split at hp
    · omega
    · have := k4 p hp
      omega
theorem ce_jA {c n q : Nat} (hq : q < jn h + 2) : ce base b tc (jA h c n) q = ce base b tc h q :=
  ce_eq (by rw [jz_jA, if_neg (by omega)]) (by funext j; rw [gI_jA, if_neg (by omega)]) (by funext j; rw [gL_jA, if_neg (by omega)]) (by funext j; rw [gR_jA, if_neg (by omega)])
end WON
theorem fv_new {base b : Nat} {h : jHp} {c n ci k : Nat} (hci : ci < 10) (hk : k < cF ci) : fv base b (jA h c n) (jn h + 2) ci k = defaultValue (cY ci k) := by
  unfold fv
  rw [gI_jA, gL_jA, gR_jA, if_pos rfl, if_pos rfl, if_pos rfl]
  have hr := ty_ref ci hci k hk
  cases hy : cY ci k <;> rw [hy] at hr <;> first | rfl | exact absurd (hr rfl) (by decide)
section JN
variable {y pc kc ks : Nat} {ls st : List Value} {h : jHp} {Q : jQ}
theorem J_new {i ci : Nat} (hd : decode (mC y) pc = .ok (.new i, 3)) (hN : [mO y, i, ci] ∈ tN) (hci : ci < 10) (h1 : 1 ≤ kc) (h2 : cF ci ≤ ks) (kk : J y (pc + 3) (kc - 1) (ks - cF ci) ls (.ref (jn h + 2) :: st) (jA h ci 0) Q) : J y pc kc ks ls st h Q := by
  intro p l e R s m args below meth c Z base b L xs D tc hc H locs cells slots la hw hl g1 g2 hf
  have k1 := fun H1 hw1 => kk p l e R s m args below meth c Z base b L xs D tc hc H1 locs (cells + 1) (slots + cF ci) la hw1 hl (by omega) (by omega) hf
  obtain ⟨hx, hb, hr, hml, hown, hlk, hts, hnm, hK, hbs, hfr, hlo, hsp⟩ := hc
  have hX : [ci] ∈ tX := by
    have h9 : ∀ k, k < 10 → [k] ∈ tX := by decide +kernel
    exact h9 ci hci
  have hC : [ci] ∈ tC := by
    have h9 : ∀ k, k < 10 → [k] ∈ tC := by decide +kernel
    exact h9 ci hci
  have hcl : (Cond.classLink (cN (mO y)) i (cN ci)).before args s = true := hts _ (wN_ok _ hN)
  have hKn := hK.1 ci _ (cls_at ci hci)
  refine W.newcK hx hb hown hcl (hts _ (wX_ok _ hX)) (hts _ (wC_ok _ hC)) rfl hd (by omega) (by show slots + cF ci ≤ R.slots; omega) hKn.2.1 rfl fun H1 kC hkC e1 z1 o1 => ?_
  have k2 := k1 H1 (hw.new jn_jA (fun q _ hq => ce_jA hq) (hw.2.2.2.2.2.jA (by omega)) ?_ z1 o1)
  · rw [List.map_cons, cv_ref (by omega), ad_of (by omega), show jn h + 2 - 2 = jn h by omega, ← hw.2.1] at k2
    exact k2
  · rw [ce_obj (c := ci) (by rw [jz_jA, if_pos rfl]) hci]
    refine ⟨_, cls_at ci hci, ?_⟩
    have e2 : H1[base + jn h]? = some (blank (D.1 ci) kC) := by rw [← hw.2.1]; exact e1
    refine (u_born (cY ci) hts (in_gw hci) hKn hkC e2 (ty_ok ci hci)).to (fun k hk => ?_)
    show defaultValue (cY ci k) = (fl base b (jA h ci 0) (jn h + 2) ci).getD k .null
    rw [List.getD_eq_getElem?_getD, fl_get hk, fv_new hci hk]
    rfl
theorem J_nai {cd : Nat} {at0 : ArrayType} {n : Int32} (hd : decode (mC y) pc = .ok (.newarray at0, 2)) (hcd : (at0 = .int ∧ cd = 10) ∨ (at0 = .byte ∧ cd = 11)) (kk : jNew cd (fun kc ks ls st h => J y (pc + 2) kc ks ls st h Q) kc ks ls h n st) : J y pc kc ks ls (.int n :: st) h Q := by
  obtain ⟨h1, h2, h3, h4, kk⟩ := kk
  intro p l e R s m args below meth c Z base b L xs D tc hc H locs cells slots la hw hl g1 g2 hf
  have k1 := fun H1 hw1 => kk p l e R s m args below meth c Z base b L xs D tc hc H1 locs (cells + 1) (slots + n.toNatClampNeg) la hw1 hl (by omega) (by omega) hf
  obtain ⟨hx, hb, hr, hml, hown, hlk, hts, hnm, hK, hbs, hfr, hlo, hsp⟩ := hc
  obtain ⟨c10, c12, har, t0, ht0, hdv, hby⟩ : 10 ≤ cd ∧ cd < 12 ∧ (Cond.arrayClass (newarray.typeOf at0)).before args s = true ∧ ∃ t0, (tyl tc)[t0]? = some (tc cd, newarray.typeOf at0) ∧ defaultValue (newarray.typeOf at0) = .int 0 ∧ componentBytes (newarray.typeOf at0) ≤ 4 := by
    rcases hcd with ⟨rfl, rfl⟩ | ⟨rfl, rfl⟩
    · exact ⟨by omega, by omega, hts _ gw_ai, 0, rfl, rfl, by decide⟩
    · exact ⟨by omega, by omega, hts _ gw_ab, 1, rfl, rfl, by decide⟩
  have hbb : n.toNatClampNeg * componentBytes (newarray.typeOf at0) ≤ 536870912 := Nat.le_trans (Nat.mul_le_mul h2 hby) (by decide)
  refine va_newaK hx hb har rfl hd rfl h1 rfl hbb (by omega) (by omega) rfl fun H1 cA e1 z1 o1 hAr hNm => ?_
  have hcA : cA = tc cd := by
    have h9 := (hK.2 t0 _ ht0).2
    rcases hcd with ⟨rfl, rfl⟩ | ⟨rfl, rfl⟩
    · exact Option.some.inj (hNm.symm.trans h9)
    · exact Option.some.inj (hNm.symm.trans h9)
  subst hcA
  have k2 := k1 H1 (hw.new jn_jA (fun q _ hq => ce_jA hq) (hw.2.2.2.2.2.jA (by omega)) ?_ z1 o1)
  · rw [List.map_cons, cv_ref (by omega), ad_of (by omega), show jn h + 2 - 2 = jn h by omega, ← hw.2.1] at k2
    exact k2
  · rw [ce_int (c := cd) (by rw [jz_jA, if_pos rfl]) c10 c12]
    show H1[base + jn h]? = some (vp_cell _ _)
    rw [← hw.2.1, e1, vp_cell_i, jz_jA, if_pos rfl, hdv]
    congr 2
    funext j
    rw [gI_jA, if_pos rfl]
theorem J_naq {cd i : Nat} {n : Int32} (hd : decode (mC y) pc = .ok (.anewarray i, 3)) (hcd : ([mO y, i, 0] ∈ tA ∧ cd = 13) ∨ ([mO y, i, 5] ∈ tA ∧ cd = 14)) (kk : jNew cd (fun kc ks ls st h => J y (pc + 3) kc ks ls st h Q) kc ks ls h n st) : J y pc kc ks ls (.int n :: st) h Q := by
  obtain ⟨h1, h2, h3, h4, kk⟩ := kk
  intro p l e R s m args below meth c Z base b L xs D tc hc H locs cells slots la hw hl g1 g2 hf
  have k1 := fun H1 hw1 => kk p l e R s m args below meth c Z base b L xs D tc hc H1 locs (cells + 1) (slots + n.toNatClampNeg) la hw1 hl (by omega) (by omega) hf
  obtain ⟨hx, hb, hr, hml, hown, hlk, hts, hnm, hK, hbs, hfr, hlo, hsp⟩ := hc
  obtain ⟨c12, c15, ci, hli, hao, t0, ht0⟩ : 12 ≤ cd ∧ cd < 15 ∧ ∃ ci, (Cond.classLink (cN (mO y)) i (cN ci)).before args s = true ∧ va_AO (cN ci) s ∧ ∃ t0, (tyl tc)[t0]? = some (tc cd, FieldType.object (cN ci)) := by
    rcases hcd with ⟨u, rfl⟩ | ⟨u, rfl⟩
    · exact ⟨by omega, by omega, 0, hts _ (wA_ok _ u), hsp.2.1, 3, rfl⟩
    · exact ⟨by omega, by omega, 5, hts _ (wA_ok _ u), hsp.1, 4, rfl⟩
  refine W.anew hx hb hown hli (va_AO.use hao) rfl hd rfl h1 (by omega) (by omega) (by omega) fun cA kA comp f1 f2 f3 f4 => ?_
  have hcA : cA = tc cd := by
    obtain ⟨_, _, -, -, -, h9⟩ := (hK.2 t0 _ ht0).2
    exact Option.some.inj (f1.symm.trans h9)
  subst hcA
  have k2 := k1 _ (hw.new jn_jA (fun q _ hq => ce_jA hq) (hw.2.2.2.2.2.jA (by omega)) (H1 := H.push ({ cls := tc cd, slots := Array.replicate n.toNatClampNeg .null, vm := .none } : Cell)) ?_ (by simp) (fun q hq => by rw [Array.getElem?_push, if_neg (Nat.ne_of_lt hq)]))
  · rw [List.map_cons, cv_ref (by omega), ad_of (by omega), show jn h + 2 - 2 = jn h by omega, ← hw.2.1] at k2
    exact k2
  · rw [ce_ref (c := cd) (by rw [jz_jA, if_pos rfl]) c12]
    show _ = some (vp_cell _ _)
    rw [← hw.2.1, Array.getElem?_push_size, vp_cell_q, jz_jA, if_pos rfl, arrV_new]
    congr 2
    funext j
    rw [gR_jA, if_pos rfl]
    rfl
theorem J_mth {i z : Nat} {v : Value} {st' : List Value} (hH : [mO y, i, z] ∈ tH) (h1 : 1 ≤ mF y) (h2 : 23 ≤ mS y) (hct : cats st ≤ 8)
    (row : ∀ {p : Program} {l : Launch} {e : Env} {R : Room} {s : State} {m : MethodId} {args : Array Value} {below : List Frame} {meth : Method} {c : Code} {Z : State → Prop} {H : Heap} {locs : List Loc} {cells slots : Nat} {la : Array Slot} (base b : Nat), p.tables.exec = Jvm.exec → c.code = mC y → c.maxLocals = la.size → s.vm.findClass (cN (mO y)) = some m.cls → (Cond.methodLink (cN (mO y)) i (mN z)).before args s = true → (∀ w ∈ gw, w.before args s = true) → 1 ≤ R.frames → ((st.map (cv base b)).map fun v => v.category).sum + 15 ≤ R.locals → cells ≤ R.cells → slots ≤ R.slots → W p l e R s m args below meth c H locs cells slots Z (F0 m (pc + 3) la ((v :: st).map (cv base b))) → W p l e R s m args below meth c H locs cells slots Z (F0 m pc la (st'.map (cv base b))))
    (kk : J y (pc + 3) kc ks ls (v :: st) h Q) : J y pc kc ks ls st' h Q := by
  intro p l e R s m args below meth c Z base b L xs D tc hc H locs cells slots la hw hl g1 g2 hf
  have k1 := kk p l e R s m args below meth c Z base b L xs D tc hc H locs cells slots la hw hl g1 g2 hf
  obtain ⟨hx, hb, hr, hml, hown, hlk, hts, hnm, hK, hbs, hfr, hlo, hsp⟩ := hc
  have hlink : (Cond.methodLink (cN (mO y)) i (mN z)).before args s = true := hts _ (wH_ok _ hH)
  exact row base b hx hb (hml.trans hl.2.1.symm) hown hlink hts (by omega) (by rw [cats_eq]; omega) (by omega) (by omega) k1
theorem tC_math : (Cond.initialized "java/lang/Math") ∈ gw := wC_ok [11] (by decide +kernel)
theorem J_max {i : Nat} {a x : Int32} (hd : decode (mC y) pc = .ok (.invokestatic i, 3)) (hH : [mO y, i, 0] ∈ tH) (h1 : 1 ≤ mF y) (h2 : 23 ≤ mS y) (hct : cats st ≤ 8) (kk : J y (pc + 3) kc ks ls (.int (if x < a then a else x) :: st) h Q) : J y pc kc ks ls (.int a :: .int x :: st) h Q :=
  J_mth (v := .int (if x < a then a else x)) hH h1 h2 hct (fun base b hx hb hml hown hlink hts f1 f2 f3 f4 k => va_mmax hx hb hml hown hlink (hts _ (wS_ok [0] (by decide +kernel))) (hts _ tC_math) (hts _ (gw_code (z := 0) (by omega))) f1 (by omega) f3 f4 hd k) kk
theorem J_min {i : Nat} {a x : Int32} (hd : decode (mC y) pc = .ok (.invokestatic i, 3)) (hH : [mO y, i, 4] ∈ tH) (h1 : 1 ≤ mF y) (h2 : 23 ≤ mS y) (hct : cats st ≤ 8) (kk : J y (pc + 3) kc ks ls (.int (if a < x then a else x) :: st) h Q) : J y pc kc ks ls (.int a :: .int x :: st) h Q :=
  J_mth (v := .int (if a < x then a else x)) hH h1 h2 hct (fun base b hx hb hml hown hlink hts f1 f2 f3 f4 k => va_mmin hx hb hml hown hlink (hts _ (wS_ok [4] (by decide +kernel))) (hts _ tC_math) (hts _ (gw_code (z := 4) (by omega))) f1 (by omega) f3 f4 hd k) kk
theorem J_maxl {i : Nat} {a x : Int64} (hd : decode (mC y) pc = .ok (.invokestatic i, 3)) (hH : [mO y, i, 1] ∈ tH) (h1 : 1 ≤ mF y) (h2 : 23 ≤ mS y) (hct : cats st ≤ 8) (kk : J y (pc + 3) kc ks ls (.long (if a < x then x else a) :: st) h Q) : J y pc kc ks ls (.long a :: .long x :: st) h Q :=
  J_mth (v := .long (if a < x then x else a)) hH h1 h2 hct (fun base b hx hb hml hown hlink hts f1 f2 f3 f4 k => va_mmax_long hx hb hml hown hlink (hts _ (wS_ok [1] (by decide +kernel))) (hts _ tC_math) (hts _ (gw_code (z := 1) (by omega))) f1 f2 f3 f4 hd k) kk
theorem J_minl {i : Nat} {a x : Int64} (hd : decode (mC y) pc = .ok (.invokestatic i, 3)) (hH : [mO y, i, 2] ∈ tH) (h1 : 1 ≤ mF y) (h2 : 23 ≤ mS y) (hct : cats st ≤ 8) (kk : J y (pc + 3) kc ks ls (.long (if a < x then a else x) :: st) h Q) : J y pc kc ks ls (.long a :: .long x :: st) h Q :=
  J_mth (v := .long (if a < x then a else x)) hH h1 h2 hct (fun base b hx hb hml hown hlink hts f1 f2 f3 f4 k => va_mmin_long hx hb hml hown hlink (hts _ (wS_ok [2] (by decide +kernel))) (hts _ tC_math) (hts _ (gw_code (z := 2) (by omega))) f1 f2 f3 f4 hd k) kk
theorem J_absl {i : Nat} {x : Int64} (hd : decode (mC y) pc = .ok (.invokestatic i, 3)) (hH : [mO y, i, 3] ∈ tH) (h1 : 1 ≤ mF y) (h2 : 23 ≤ mS y) (hct : cats st ≤ 8) (kk : J y (pc + 3) kc ks ls (.long (if 0 < x then x else -x) :: st) h Q) : J y pc kc ks ls (.long x :: st) h Q :=
  J_mth (v := .long (if 0 < x then x else -x)) hH h1 h2 hct (fun base b hx hb hml hown hlink hts f1 f2 f3 f4 k => va_mabs_long hx hb hml hown hlink (hts _ (wS_ok [3] (by decide +kernel))) (hts _ tC_math) (hts _ (gw_code (z := 3) (by omega))) f1 (by omega) f3 f4 hd k) kk
end JN
end
section
/-! a step and a block are sound -/
section JE
variable {y pc kc ks : Nat} {ls st : List Value} {h : jHp} {Q : jQ}
theorem J_ret {v : Option Value} (hv : rtO y pc v) (hq : Q v h) : J y pc kc ks ls v.toList h Q := by
  intro p l e R s m args below meth c Z base b L xs D tc hc H locs cells slots la hw hl g1 g2 hf
  have k := hf v h H locs cells slots pc la hq hw (by omega) (by omega) hv
  cases v with
  | none => exact k
  | some v => exact k
theorem J_cpy {a0 b0 : Nat} {sp dp n : Int32} (hd : decode (mC y) pc = .ok (.invokestatic 36, 3)) (ho : mO y = 0) (h1 : 1 ≤ mF y) (h2 : 26 ≤ mS y) (hct : cats st ≤ 8) (hA : (jz h a0).1 = 10) (hB : (jz h b0).1 = 10) (u1 : ¬ sp < 0) (u2 : ¬ dp < 0) (u3 : ¬ n < 0) (u4 : sp.toNatClampNeg + n.toNatClampNeg ≤ (jz h a0).2) (u5 : dp.toNatClampNeg + n.toNatClampNeg ≤ (jz h b0).2)
    (kk : J y (pc + 3) kc ks ls st (jY h a0 sp.toNatClampNeg b0 dp.toNatClampNeg n.toNatClampNeg) Q) : J y pc kc ks ls (.int n :: .int dp :: .ref b0 :: .int sp :: .ref a0 :: st) h Q := by
  intro p l e R s m args below meth c Z base b L xs D tc hc H locs cells slots la hw hl g1 g2 hf
  have k1 := fun H1 locs1 hw1 => kk p l e R s m args below meth c Z base b L xs D tc hc H1 locs1 cells slots la hw1 hl g1 g2 hf
  obtain ⟨hx, hb, hr, hml, hown, hlk, hts, hnm, hK, hbs, hfr, hlo, hsp⟩ := hc
  obtain ⟨a1, a2⟩ := hw.2.2.2.2.2.lt (p := a0) (by rw [hA]; omega)
  obtain ⟨b1, b2⟩ := hw.2.2.2.2.2.lt (p := b0) (by rw [hB]; omega)
  have hat := wl_at (base := base) (b := b) (tc := tc) a1 a2
  rw [ce_int hA (by omega) (by omega)] at hat
  have hbt := wl_at (base := base) (b := b) (tc := tc) b1 b2
  rw [ce_int hB (by omega) (by omega)] at hbt
  rw [ho] at hown
  simp only [List.map_cons, cv_ref (show a0 ≠ 0 by omega), cv_ref (show b0 ≠ 0 by omega)]
  have nn : ∀ z : Int32, ¬ z < 0 → z.toInt = (z.toNatClampNeg : Int) := by
    intro z hz
    have hz0 : (0 : Int) ≤ z.toInt := by
      have := Int32.not_lt.mp hz
      simpa using Int32.le_iff_toInt_le.mp this
    show z.toInt = ((z.toInt.toNat : Nat) : Int)
    omega
  intro T hT X
  have hc0 : H[ad base b a0]? = some (vp_cell (tc 10) ((jz h a0).2, .inl (gI h a0))) := hw.1 _ _ hat
  have hc1 : H[ad base b b0]? = some (vp_cell (tc 10) ((jz h b0).2, .inl (gI h b0))) := hw.1 _ _ hbt
  obtain ⟨-, k0, hk0, cm0, hkk0⟩ := (hK.2 0 _ rfl).1 (jz h a0).2 (fun j => .int (gI h a0 j))
  obtain ⟨-, k9, hk9, cm9, hkk9⟩ := (hK.2 0 _ rfl).1 (jz h b0).2 (fun j => .int (gI h b0 j))
  have hfw : nativeFrameWords "java/lang/System" "arraycopy" 5 = 7 := by decide +kernel
  obtain ⟨vm', X', step⟩ := X.arraycopy hx hown (hts _ gw_acl) (hts _ gw_acn) (hts _ gw_acs) (hts _ gw_sys) (src := ad base b a0) (dst := ad base b b0) (cs := vp_cell (tc 10) ((jz h a0).2, .inl (gI h a0))) (cd := vp_cell (tc 10) ((jz h b0).2, .inl (gI h b0))) (srcPos := sp) (destPos := dp) (n := n) (by rw [hT]; exact hc0) (by rw [hT]; exact hc1)
    (fun _ h => by cases h) (fun _ h => by cases h) (fun h => by cases h) (fun h => by cases h) hk0 hk9 hkk0 hkk9 (by simp [refKind]) u1 u2 u3
    (by rw [nn sp u1, nn n u3]; show ¬ _ > ((arrV (tc 10) (jz h a0).2 (fun j => .int (gI h a0 j))).slots.size : Int); rw [arrV_size]; omega)
    (by rw [nn dp u2, nn n u3]; show ¬ _ > ((arrV (tc 10) (jz h b0).2 (fun j => .int (gI h b0 j))).slots.size : Int); rw [arrV_size]; omega)
    (fun vm₁ _ i hi => by
      have e : (vp_cell (tc 10) ((jz h a0).2, .inl (gI h a0))).slots.getD (sp.toNatClampNeg + i) .null = .int (gI h a0 (sp.toNatClampNeg + i)) := by
        show (arrV (tc 10) (jz h a0).2 (fun j => .int (gI h a0 j))).slots.getD _ _ = _
        rw [Array.getD_eq_getD_getElem?, arrV_read _ _ (by omega)]
        rfl
      refine ⟨?_, ?_⟩
      · rw [e]
        rfl
      · rw [e]
        exact trivial)
    (g := F0 m pc la (cv base b (.int n) :: cv base b (.int dp) :: .ref (ad base b b0) :: cv base b (.int sp) :: .ref (ad base b a0) :: st.map (cv base b))) rfl (by rw [hml]; exact hl.2.1) (rest := st.map (cv base b)) rfl (by rw [hb]; exact hd) (by omega) (by show 2 * 0 + _ + _ ≤ _; rw [cats_eq, hfw]; omega)
  have e1 : copied (vp_cell (tc 10) ((jz h a0).2, .inl (gI h a0))) (vp_cell (tc 10) ((jz h b0).2, .inl (gI h b0))) sp dp n = vp_cell (tc 10) ((jz h b0).2, .inl (va_cpy (gI h a0) (gI h b0) sp.toNatClampNeg dp.toNatClampNeg n.toNatClampNeg)) := va_copied (fun z => .int z) (tc 10) (tc 10) (gI h a0) (gI h b0) u4
  rw [e1] at X' step
  have hl0 : ad base b b0 < H.size := (Array.getElem?_eq_some_iff.mp hc1).1
  generalize hnc : vp_cell (tc 10) ((jz h b0).2, .inl (va_cpy (gI h a0) (gI h b0) sp.toNatClampNeg dp.toNatClampNeg n.toNatClampNeg)) = nc at X' step
  have hheap : ((T.setVm vm').setCell (ad base b b0) nc).heap = H.setIfInBounds (ad base b b0) nc := by rw [← hT]; rfl
  obtain ⟨t, c1, c2⟩ := k1 (H.setIfInBounds (ad base b b0) nc) _ (hw.upd b1 b2 (h' := jY h a0 sp.toNatClampNeg b0 dp.toNatClampNeg n.toNatClampNeg) jn_jY jz_jY (fun q hq => by funext j; rw [gI_jY, if_neg hq]) (fun _ _ => by rw [gL_jY]) (fun _ _ => by rw [gR_jY]) (by
      rw [ce_int (h := jY h a0 sp.toNatClampNeg b0 dp.toNatClampNeg n.toNatClampNeg) (c := 10) (by rw [jz_jY]; exact hB) (by omega) (by omega), jz_jY]
      show (H.setIfInBounds (ad base b b0) nc)[ad base b b0]? = some (vp_cell _ _)
      rw [Array.getElem?_setIfInBounds, if_pos rfl, if_pos hl0, ← hnc]
      congr 4
      funext j
      rw [gI_jY, if_pos rfl]) (by simp) (fun q hq => by simp [Array.getElem?_setIfInBounds, Ne.symm hq]) (fun x hx9 => by
      rcases List.mem_append.mp hx9 with h9 | h9
      · exact hw.2.2.1.2.2 x h9
      · obtain ⟨z, -, hz⟩ := List.mem_map.mp h9
        rw [← hz]
        show base ≤ ad base b b0
        rw [ad_of b1]
        omega)) _ hheap X'
  exact ⟨t, step t c1, c2⟩
end JE
theorem bipush_v {n : Int} (h : -128 ≤ n ∧ n ≤ 127) : (Int8.ofInt n).toInt32 = iI n := by
  apply Int32.toInt_inj.mp
  rw [Int8.toInt_toInt32, Int8.toInt_ofInt, Int32.toInt_ofInt, show Int8.size = 256 from rfl, show Int32.size = 4294967296 from rfl]
  rw [Int.bmod_eq_of_le (by omega) (by omega), Int.bmod_eq_of_le (by omega) (by omega)]
theorem sipush_v {n : Int} (h : -32768 ≤ n ∧ n ≤ 32767) : (Int16.ofInt n).toInt32 = iI n := by
  apply Int32.toInt_inj.mp
  rw [Int16.toInt_toInt32, Int16.toInt_ofInt, Int32.toInt_ofInt, show Int16.size = 65536 from rfl, show Int32.size = 4294967296 from rfl]
  rw [Int.bmod_eq_of_le (by omega) (by omega), Int.bmod_eq_of_le (by omega) (by omega)]
theorem lconst_v (n : Fin 2) : Int64.ofNat (n : Nat) = lI ((n.val : Nat) : Int) := by
  match n with
  | 0 => rfl
  | 1 => rfl
theorem jAns_of {rk : Nat} {K : List Value → jHp → Prop} {r : List Value} {v : Option Value} {h : jHp} (a : jAns rk K r v h) : K (v.toList ++ r) h := by
  match rk, a with
  | 0, ⟨e, k⟩ => subst e; exact k
  | 1, ⟨x, e, k⟩ => subst e; exact k
  | 2, ⟨x, e, k⟩ => subst e; exact k
  | n + 3, ⟨x, e, k⟩ => subst e; exact k
theorem p_i_of {f : Int32 → List Value → Prop} {st : List Value} (h : p_i f st) : ∃ x r, st = .int x :: r ∧ f x r := by
  unfold p_i at h
  split at h
  · exact ⟨_, _, rfl, h⟩
  · exact h.elim
theorem p_l_of {f : Int64 → List Value → Prop} {st : List Value} (h : p_l f st) : ∃ x r, st = .long x :: r ∧ f x r := by
  unfold p_l at h
  split at h
  · exact ⟨_, _, rfl, h⟩
  · exact h.elim
theorem p_r_of {f : Nat → List Value → Prop} {st : List Value} (h : p_r f st) : ∃ x r, st = .ref x :: r ∧ f x r := by
  unfold p_r at h
  split at h
  · exact ⟨_, _, rfl, h⟩
  · exact h.elim
theorem p_n_of {f : Prop} {st : List Value} (h : p_n f st) : st = [] ∧ f := by
  unfold p_n at h
  split at h
  · exact ⟨rfl, h⟩
  · exact h.elim
theorem o_i_of {f : Int32 → Prop} {v : Value} (h : o_i f v) : ∃ x, v = .int x ∧ f x := by
  cases v <;> first | exact ⟨_, rfl, h⟩ | exact h.elim
theorem o_l_of {f : Int64 → Prop} {v : Value} (h : o_l f v) : ∃ x, v = .long x ∧ f x := by
  cases v <;> first | exact ⟨_, rfl, h⟩ | exact h.elim
theorem o_r_of {f : Nat → Prop} {v : Value} (h : o_r f v) : ∃ x, v = .ref x ∧ f x := by
  cases v <;> first | exact ⟨_, rfl, h⟩ | exact h.elim
theorem jcd_mono {c : Jvm.ClassFile.Cond} {x y : Int32} {A B A' B' : Prop} (h : jcd c x y A B) (ha : A → A') (hb : B → B') : jcd c x y A' B' := by
  cases c <;> exact ⟨fun k => by first | exact ha (h.1 k) | exact hb (h.1 k), fun k => by first | exact hb (h.2 k) | exact ha (h.2 k)⟩
theorem bif_of {b : Bool} {A : Prop} (h : bif b then A else False) : b = true ∧ A := by
  cases b
  · exact h.elim
  · exact ⟨rfl, h⟩
end
section
/-! the cases of an instruction, one by one -/
section STEP
variable {y pc kc ks : Nat} {ls st : List Value} {h : jHp} {Q : jQ} {aux : List Nat} {pc0 len : Nat} {k : jK} {JJ : Nat → jK} {C : jT}
theorem J_cal {vt z n rk k1 s1 : Nat} (hC : ∀ z kc ks as h Q1, C z kc ks as h Q1 → jRet z kc ks as h Q1) (hS : jCal C vt z n rk k1 s1 k kc ks ls st h) : k1 ≤ kc ∧ s1 ≤ ks ∧ cats (st.drop n) ≤ 8 ∧ (st.take n).length = n ∧ (vt = 1 → ∃ p0 As, (st.take n).reverse = .ref p0 :: As ∧ isO h p0 (mO z)) ∧ (vt = 2 → ∃ p0 As, (st.take n).reverse = .ref p0 :: As ∧ p0 ≠ 0) ∧ jRet z k1 s1 (st.take n).reverse h (jAns rk (fun st' h' => k (kc - k1) (ks - s1) ls st' h') (st.drop n)) := by
  obtain ⟨h1, h2⟩ := bif_of hS
  simp only [Bool.and_eq_true, Nat.ble_eq] at h1
  refine ⟨h1.1, h1.2.1, h1.2.2.1, Nat.eq_of_beq_eq_true h1.2.2.2, ?_⟩
  match vt, h2 with
  | 0, h2 => exact ⟨(fun e => by omega), (fun e => by omega), hC _ _ _ _ _ _ h2⟩
  | 1, h2 =>
    have h3 : jHd _ (st.take n).reverse := h2
    generalize hq : (st.take n).reverse = as at h3
    match as, h3 with
    | .ref p0 :: As, h3 => exact ⟨fun _ => ⟨p0, As, rfl, h3.1⟩, (fun e => by omega), hC _ _ _ _ _ _ h3.2⟩
  | v + 2, h2 =>
    have h3 : jHd _ (st.take n).reverse := h2
    generalize hq : (st.take n).reverse = as at h3
    match as, h3 with
    | .ref p0 :: As, h3 => exact ⟨(fun e => by omega), fun _ => ⟨p0, As, rfl, h3.1⟩, hC _ _ _ _ _ _ h3.2⟩
theorem jPut_mono {t : Nat} {p k : Nat} {v : Value} {K K' : jHp → Prop} (hS : jPut t h p k v K) (m : ∀ h', K h' → K' h') : jPut t h p k v K' := by
  match t, hS with
  | 0, hS =>
    obtain ⟨x, rfl, q⟩ := o_i_of (v := v) hS
    exact m _ q
  | 1, hS =>
    obtain ⟨x, rfl, q⟩ := o_l_of (v := v) hS
    exact m _ q
  | 2, hS =>
    obtain ⟨x, rfl, q⟩ := o_r_of (v := v) hS
    exact m _ q
  | n + 3, hS =>
    obtain ⟨x, rfl, q⟩ := o_i_of (v := v) hS
    exact ⟨q.1, m _ q.2⟩
theorem take_rev {n : Nat} {as : List Value} (h : (st.take n).reverse = as) : st = as.reverse ++ st.drop n := by
  rw [← h, List.reverse_reverse, List.take_append_drop]
theorem Q_iconst {n : Int} (hd : decode (mC y) pc = .ok (.iconst n, len)) (hlen : jsw (.iconst n) = true ∨ len = jlen (.iconst n)) (hok : okI y pc (.iconst n) aux = true) (hk : ∀ kc ks ls st h, k kc ks ls st h → J y (pc + len) kc ks ls st h Q) (hJ : ∀ L kc ks ls st h, JJ L kc ks ls st h → J y L kc ks ls st h Q) (hC : ∀ z kc ks as h Q1, C z kc ks as h Q1 → jRet z kc ks as h Q1) (hS : jS JJ C Q (pc0, .iconst n, aux) k kc ks ls st h) : J y pc kc ks ls st h Q := by
  obtain rfl : len = 1 := hlen.resolve_left (by intro h9; cases h9)
  exact J_pu (fun base b hx hb kk => lv_iconst hx hb hd rfl kk) (hk _ _ _ _ _ hS)
theorem Q_bipush {n : Int} (hd : decode (mC y) pc = .ok (.bipush n, len)) (hlen : jsw (.bipush n) = true ∨ len = jlen (.bipush n)) (hok : okI y pc (.bipush n) aux = true) (hk : ∀ kc ks ls st h, k kc ks ls st h → J y (pc + len) kc ks ls st h Q) (hJ : ∀ L kc ks ls st h, JJ L kc ks ls st h → J y L kc ks ls st h Q) (hC : ∀ z kc ks as h Q1, C z kc ks as h Q1 → jRet z kc ks as h Q1) (hS : jS JJ C Q (pc0, .bipush n, aux) k kc ks ls st h) : J y pc kc ks ls st h Q := by
  obtain rfl : len = 2 := hlen.resolve_left (by intro h9; cases h9)
  exact J_pu (fun base b hx hb kk => lv_bipush hx hb hd (bipush_v (of_decide_eq_true hok)) kk) (hk _ _ _ _ _ hS)
theorem Q_sipush {n : Int} (hd : decode (mC y) pc = .ok (.sipush n, len)) (hlen : jsw (.sipush n) = true ∨ len = jlen (.sipush n)) (hok : okI y pc (.sipush n) aux = true) (hk : ∀ kc ks ls st h, k kc ks ls st h → J y (pc + len) kc ks ls st h Q) (hJ : ∀ L kc ks ls st h, JJ L kc ks ls st h → J y L kc ks ls st h Q) (hC : ∀ z kc ks as h Q1, C z kc ks as h Q1 → jRet z kc ks as h Q1) (hS : jS JJ C Q (pc0, .sipush n, aux) k kc ks ls st h) : J y pc kc ks ls st h Q := by
  obtain rfl : len = 3 := hlen.resolve_left (by intro h9; cases h9)
  exact J_pu (fun base b hx hb kk => lv_sipush hx hb hd (sipush_v (of_decide_eq_true hok)) kk) (hk _ _ _ _ _ hS)
theorem Q_lconst {n : Fin 2} (hd : decode (mC y) pc = .ok (.lconst n, len)) (hlen : jsw (.lconst n) = true ∨ len = jlen (.lconst n)) (hok : okI y pc (.lconst n) aux = true) (hk : ∀ kc ks ls st h, k kc ks ls st h → J y (pc + len) kc ks ls st h Q) (hJ : ∀ L kc ks ls st h, JJ L kc ks ls st h → J y L kc ks ls st h Q) (hC : ∀ z kc ks as h Q1, C z kc ks as h Q1 → jRet z kc ks as h Q1) (hS : jS JJ C Q (pc0, .lconst n, aux) k kc ks ls st h) : J y pc kc ks ls st h Q := by
  obtain rfl : len = 1 := hlen.resolve_left (by intro h9; cases h9)
  exact J_pu (fun base b hx hb kk => lv_lconst hx hb hd (lconst_v n) kk) (hk _ _ _ _ _ hS)
theorem Q_ldc {i : Nat} (hd : decode (mC y) pc = .ok (.ldc i, len)) (hlen : jsw (.ldc i) = true ∨ len = jlen (.ldc i)) (hok : okI y pc (.ldc i) aux = true) (hk : ∀ kc ks ls st h, k kc ks ls st h → J y (pc + len) kc ks ls st h Q) (hJ : ∀ L kc ks ls st h, JJ L kc ks ls st h → J y L kc ks ls st h Q) (hC : ∀ z kc ks as h Q1, C z kc ks as h Q1 → jRet z kc ks as h Q1) (hS : jS JJ C Q (pc0, .ldc i, aux) k kc ks ls st h) : J y pc kc ks ls st h Q := by
  obtain rfl : len = 2 := hlen.resolve_left (by intro h9; cases h9)
  have hm : [mO y, i, aux.getD 0 0, aux.getD 1 0] ∈ tK := by simpa [okI] using hok
  intro p l e R s m args below meth c Z base b L xs D tc hc H locs cells slots la hw hl g1 g2 hf
  have k1 := hk _ _ _ _ _ hS p l e R s m args below meth c Z base b L xs D tc hc H locs cells slots la hw hl g1 g2 hf
  obtain ⟨hx, hb, hr, hml, hown, hlk, hts, hnm, hK, hbs, hfr, hlo, hsp⟩ := hc
  exact lv_ldc hx hb hown (hts _ (wK_ok _ hm)) hd k1
theorem Q_ldc_w {i : Nat} (hd : decode (mC y) pc = .ok (.ldc_w i, len)) (hlen : jsw (.ldc_w i) = true ∨ len = jlen (.ldc_w i)) (hok : okI y pc (.ldc_w i) aux = true) (hk : ∀ kc ks ls st h, k kc ks ls st h → J y (pc + len) kc ks ls st h Q) (hJ : ∀ L kc ks ls st h, JJ L kc ks ls st h → J y L kc ks ls st h Q) (hC : ∀ z kc ks as h Q1, C z kc ks as h Q1 → jRet z kc ks as h Q1) (hS : jS JJ C Q (pc0, .ldc_w i, aux) k kc ks ls st h) : J y pc kc ks ls st h Q := by
  obtain rfl : len = 3 := hlen.resolve_left (by intro h9; cases h9)
  have hm : [mO y, i, aux.getD 0 0, aux.getD 1 0] ∈ tK := by simpa [okI] using hok
  intro p l e R s m args below meth c Z base b L xs D tc hc H locs cells slots la hw hl g1 g2 hf
  have k1 := hk _ _ _ _ _ hS p l e R s m args below meth c Z base b L xs D tc hc H locs cells slots la hw hl g1 g2 hf
  obtain ⟨hx, hb, hr, hml, hown, hlk, hts, hnm, hK, hbs, hfr, hlo, hsp⟩ := hc
  exact lv_ldcw hx hb hown (hts _ (wK_ok _ hm)) hd k1
theorem Q_ldc2_w {i : Nat} (hd : decode (mC y) pc = .ok (.ldc2_w i, len)) (hlen : jsw (.ldc2_w i) = true ∨ len = jlen (.ldc2_w i)) (hok : okI y pc (.ldc2_w i) aux = true) (hk : ∀ kc ks ls st h, k kc ks ls st h → J y (pc + len) kc ks ls st h Q) (hJ : ∀ L kc ks ls st h, JJ L kc ks ls st h → J y L kc ks ls st h Q) (hC : ∀ z kc ks as h Q1, C z kc ks as h Q1 → jRet z kc ks as h Q1) (hS : jS JJ C Q (pc0, .ldc2_w i, aux) k kc ks ls st h) : J y pc kc ks ls st h Q := by
  obtain rfl : len = 3 := hlen.resolve_left (by intro h9; cases h9)
  have hm : [mO y, i, aux.getD 0 0, aux.getD 1 0] ∈ tJ := by simpa [okI] using hok
  intro p l e R s m args below meth c Z base b L xs D tc hc H locs cells slots la hw hl g1 g2 hf
  have k1 := hk _ _ _ _ _ hS p l e R s m args below meth c Z base b L xs D tc hc H locs cells slots la hw hl g1 g2 hf
  obtain ⟨hx, hb, hr, hml, hown, hlk, hts, hnm, hK, hbs, hfr, hlo, hsp⟩ := hc
  exact lv_ldc2 hx hb hown (hts _ (wJ_ok _ hm)) hd k1
theorem Q_iload {i : Nat} (hd : decode (mC y) pc = .ok (.iload i, len)) (hlen : jsw (.iload i) = true ∨ len = jlen (.iload i)) (hok : okI y pc (.iload i) aux = true) (hk : ∀ kc ks ls st h, k kc ks ls st h → J y (pc + len) kc ks ls st h Q) (hJ : ∀ L kc ks ls st h, JJ L kc ks ls st h → J y L kc ks ls st h Q) (hC : ∀ z kc ks as h Q1, C z kc ks as h Q1 → jRet z kc ks as h Q1) (hS : jS JJ C Q (pc0, .iload i, aux) k kc ks ls st h) : J y pc kc ks ls st h Q := by
  obtain rfl : len = 2 := hlen.resolve_left (by intro h9; cases h9)
  obtain ⟨x, e, hS⟩ := o_i_of hS
  exact J_ild e (Or.inl ⟨hd, rfl⟩) (hk _ _ _ _ _ hS)
theorem Q_iload_n {i : Fin 4} (hd : decode (mC y) pc = .ok (.iload_n i, len)) (hlen : jsw (.iload_n i) = true ∨ len = jlen (.iload_n i)) (hok : okI y pc (.iload_n i) aux = true) (hk : ∀ kc ks ls st h, k kc ks ls st h → J y (pc + len) kc ks ls st h Q) (hJ : ∀ L kc ks ls st h, JJ L kc ks ls st h → J y L kc ks ls st h Q) (hC : ∀ z kc ks as h Q1, C z kc ks as h Q1 → jRet z kc ks as h Q1) (hS : jS JJ C Q (pc0, .iload_n i, aux) k kc ks ls st h) : J y pc kc ks ls st h Q := by
  obtain rfl : len = 1 := hlen.resolve_left (by intro h9; cases h9)
  obtain ⟨x, e, hS⟩ := o_i_of hS
  exact J_ild e (Or.inr ⟨i, rfl, hd, rfl⟩) (hk _ _ _ _ _ hS)
theorem Q_istore {i : Nat} (hd : decode (mC y) pc = .ok (.istore i, len)) (hlen : jsw (.istore i) = true ∨ len = jlen (.istore i)) (hok : okI y pc (.istore i) aux = true) (hk : ∀ kc ks ls st h, k kc ks ls st h → J y (pc + len) kc ks ls st h Q) (hJ : ∀ L kc ks ls st h, JJ L kc ks ls st h → J y L kc ks ls st h Q) (hC : ∀ z kc ks as h Q1, C z kc ks as h Q1 → jRet z kc ks as h Q1) (hS : jS JJ C Q (pc0, .istore i, aux) k kc ks ls st h) : J y pc kc ks ls st h Q := by
  obtain rfl : len = 2 := hlen.resolve_left (by intro h9; cases h9)
  obtain ⟨x, r, rfl, hS⟩ := p_i_of hS
  exact J_ist (of_decide_eq_true hok) (Or.inl ⟨hd, rfl⟩) (hk _ _ _ _ _ hS)
theorem Q_istore_n {i : Fin 4} (hd : decode (mC y) pc = .ok (.istore_n i, len)) (hlen : jsw (.istore_n i) = true ∨ len = jlen (.istore_n i)) (hok : okI y pc (.istore_n i) aux = true) (hk : ∀ kc ks ls st h, k kc ks ls st h → J y (pc + len) kc ks ls st h Q) (hJ : ∀ L kc ks ls st h, JJ L kc ks ls st h → J y L kc ks ls st h Q) (hC : ∀ z kc ks as h Q1, C z kc ks as h Q1 → jRet z kc ks as h Q1) (hS : jS JJ C Q (pc0, .istore_n i, aux) k kc ks ls st h) : J y pc kc ks ls st h Q := by
  obtain rfl : len = 1 := hlen.resolve_left (by intro h9; cases h9)
  obtain ⟨x, r, rfl, hS⟩ := p_i_of hS
  exact J_ist (of_decide_eq_true hok) (Or.inr ⟨i, rfl, hd, rfl⟩) (hk _ _ _ _ _ hS)
theorem Q_lload {i : Nat} (hd : decode (mC y) pc = .ok (.lload i, len)) (hlen : jsw (.lload i) = true ∨ len = jlen (.lload i)) (hok : okI y pc (.lload i) aux = true) (hk : ∀ kc ks ls st h, k kc ks ls st h → J y (pc + len) kc ks ls st h Q) (hJ : ∀ L kc ks ls st h, JJ L kc ks ls st h → J y L kc ks ls st h Q) (hC : ∀ z kc ks as h Q1, C z kc ks as h Q1 → jRet z kc ks as h Q1) (hS : jS JJ C Q (pc0, .lload i, aux) k kc ks ls st h) : J y pc kc ks ls st h Q := by
  obtain rfl : len = 2 := hlen.resolve_left (by intro h9; cases h9)
  obtain ⟨x, e, hS⟩ := o_l_of hS
  exact J_lld e (Or.inl ⟨hd, rfl⟩) (hk _ _ _ _ _ hS)
theorem Q_lload_n {i : Fin 4} (hd : decode (mC y) pc = .ok (.lload_n i, len)) (hlen : jsw (.lload_n i) = true ∨ len = jlen (.lload_n i)) (hok : okI y pc (.lload_n i) aux = true) (hk : ∀ kc ks ls st h, k kc ks ls st h → J y (pc + len) kc ks ls st h Q) (hJ : ∀ L kc ks ls st h, JJ L kc ks ls st h → J y L kc ks ls st h Q) (hC : ∀ z kc ks as h Q1, C z kc ks as h Q1 → jRet z kc ks as h Q1) (hS : jS JJ C Q (pc0, .lload_n i, aux) k kc ks ls st h) : J y pc kc ks ls st h Q := by
  obtain rfl : len = 1 := hlen.resolve_left (by intro h9; cases h9)
  obtain ⟨x, e, hS⟩ := o_l_of hS
  exact J_lld e (Or.inr ⟨i, rfl, hd, rfl⟩) (hk _ _ _ _ _ hS)
theorem Q_lstore {i : Nat} (hd : decode (mC y) pc = .ok (.lstore i, len)) (hlen : jsw (.lstore i) = true ∨ len = jlen (.lstore i)) (hok : okI y pc (.lstore i) aux = true) (hk : ∀ kc ks ls st h, k kc ks ls st h → J y (pc + len) kc ks ls st h Q) (hJ : ∀ L kc ks ls st h, JJ L kc ks ls st h → J y L kc ks ls st h Q) (hC : ∀ z kc ks as h Q1, C z kc ks as h Q1 → jRet z kc ks as h Q1) (hS : jS JJ C Q (pc0, .lstore i, aux) k kc ks ls st h) : J y pc kc ks ls st h Q := by
  obtain rfl : len = 2 := hlen.resolve_left (by intro h9; cases h9)
  obtain ⟨x, r, rfl, hS⟩ := p_l_of hS
  exact J_lst (of_decide_eq_true hok) (Or.inl ⟨hd, rfl⟩) (hk _ _ _ _ _ hS)
theorem Q_lstore_n {i : Fin 4} (hd : decode (mC y) pc = .ok (.lstore_n i, len)) (hlen : jsw (.lstore_n i) = true ∨ len = jlen (.lstore_n i)) (hok : okI y pc (.lstore_n i) aux = true) (hk : ∀ kc ks ls st h, k kc ks ls st h → J y (pc + len) kc ks ls st h Q) (hJ : ∀ L kc ks ls st h, JJ L kc ks ls st h → J y L kc ks ls st h Q) (hC : ∀ z kc ks as h Q1, C z kc ks as h Q1 → jRet z kc ks as h Q1) (hS : jS JJ C Q (pc0, .lstore_n i, aux) k kc ks ls st h) : J y pc kc ks ls st h Q := by
  obtain rfl : len = 1 := hlen.resolve_left (by intro h9; cases h9)
  obtain ⟨x, r, rfl, hS⟩ := p_l_of hS
  exact J_lst (of_decide_eq_true hok) (Or.inr ⟨i, rfl, hd, rfl⟩) (hk _ _ _ _ _ hS)
theorem Q_aload {i : Nat} (hd : decode (mC y) pc = .ok (.aload i, len)) (hlen : jsw (.aload i) = true ∨ len = jlen (.aload i)) (hok : okI y pc (.aload i) aux = true) (hk : ∀ kc ks ls st h, k kc ks ls st h → J y (pc + len) kc ks ls st h Q) (hJ : ∀ L kc ks ls st h, JJ L kc ks ls st h → J y L kc ks ls st h Q) (hC : ∀ z kc ks as h Q1, C z kc ks as h Q1 → jRet z kc ks as h Q1) (hS : jS JJ C Q (pc0, .aload i, aux) k kc ks ls st h) : J y pc kc ks ls st h Q := by
  obtain rfl : len = 2 := hlen.resolve_left (by intro h9; cases h9)
  obtain ⟨x, e, hS⟩ := o_r_of hS
  exact J_ald e (Or.inl ⟨hd, rfl⟩) (hk _ _ _ _ _ hS)
theorem Q_aload_n {i : Fin 4} (hd : decode (mC y) pc = .ok (.aload_n i, len)) (hlen : jsw (.aload_n i) = true ∨ len = jlen (.aload_n i)) (hok : okI y pc (.aload_n i) aux = true) (hk : ∀ kc ks ls st h, k kc ks ls st h → J y (pc + len) kc ks ls st h Q) (hJ : ∀ L kc ks ls st h, JJ L kc ks ls st h → J y L kc ks ls st h Q) (hC : ∀ z kc ks as h Q1, C z kc ks as h Q1 → jRet z kc ks as h Q1) (hS : jS JJ C Q (pc0, .aload_n i, aux) k kc ks ls st h) : J y pc kc ks ls st h Q := by
  obtain rfl : len = 1 := hlen.resolve_left (by intro h9; cases h9)
  obtain ⟨x, e, hS⟩ := o_r_of hS
  exact J_ald e (Or.inr ⟨i, rfl, hd, rfl⟩) (hk _ _ _ _ _ hS)
theorem Q_astore {i : Nat} (hd : decode (mC y) pc = .ok (.astore i, len)) (hlen : jsw (.astore i) = true ∨ len = jlen (.astore i)) (hok : okI y pc (.astore i) aux = true) (hk : ∀ kc ks ls st h, k kc ks ls st h → J y (pc + len) kc ks ls st h Q) (hJ : ∀ L kc ks ls st h, JJ L kc ks ls st h → J y L kc ks ls st h Q) (hC : ∀ z kc ks as h Q1, C z kc ks as h Q1 → jRet z kc ks as h Q1) (hS : jS JJ C Q (pc0, .astore i, aux) k kc ks ls st h) : J y pc kc ks ls st h Q := by
  obtain rfl : len = 2 := hlen.resolve_left (by intro h9; cases h9)
  obtain ⟨x, r, rfl, hS⟩ := p_r_of hS
  exact J_ast (of_decide_eq_true hok) (Or.inl ⟨hd, rfl⟩) (hk _ _ _ _ _ hS)
theorem Q_astore_n {i : Fin 4} (hd : decode (mC y) pc = .ok (.astore_n i, len)) (hlen : jsw (.astore_n i) = true ∨ len = jlen (.astore_n i)) (hok : okI y pc (.astore_n i) aux = true) (hk : ∀ kc ks ls st h, k kc ks ls st h → J y (pc + len) kc ks ls st h Q) (hJ : ∀ L kc ks ls st h, JJ L kc ks ls st h → J y L kc ks ls st h Q) (hC : ∀ z kc ks as h Q1, C z kc ks as h Q1 → jRet z kc ks as h Q1) (hS : jS JJ C Q (pc0, .astore_n i, aux) k kc ks ls st h) : J y pc kc ks ls st h Q := by
  obtain rfl : len = 1 := hlen.resolve_left (by intro h9; cases h9)
  obtain ⟨x, r, rfl, hS⟩ := p_r_of hS
  exact J_ast (of_decide_eq_true hok) (Or.inr ⟨i, rfl, hd, rfl⟩) (hk _ _ _ _ _ hS)
theorem Q_iinc {i : Nat} {n : Int} (hd : decode (mC y) pc = .ok (.iinc i n, len)) (hlen : jsw (.iinc i n) = true ∨ len = jlen (.iinc i n)) (hok : okI y pc (.iinc i n) aux = true) (hk : ∀ kc ks ls st h, k kc ks ls st h → J y (pc + len) kc ks ls st h Q) (hJ : ∀ L kc ks ls st h, JJ L kc ks ls st h → J y L kc ks ls st h Q) (hC : ∀ z kc ks as h Q1, C z kc ks as h Q1 → jRet z kc ks as h Q1) (hS : jS JJ C Q (pc0, .iinc i n, aux) k kc ks ls st h) : J y pc kc ks ls st h Q := by
  obtain rfl : len = 3 := hlen.resolve_left (by intro h9; cases h9)
  obtain ⟨x, e, hS⟩ := o_i_of hS
  exact J_inc e (of_decide_eq_true hok) hd (hk _ _ _ _ _ hS)
theorem Q_iadd (hd : decode (mC y) pc = .ok (.iadd, len)) (hlen : jsw (.iadd) = true ∨ len = jlen (.iadd)) (hok : okI y pc (.iadd) aux = true) (hk : ∀ kc ks ls st h, k kc ks ls st h → J y (pc + len) kc ks ls st h Q) (hJ : ∀ L kc ks ls st h, JJ L kc ks ls st h → J y L kc ks ls st h Q) (hC : ∀ z kc ks as h Q1, C z kc ks as h Q1 → jRet z kc ks as h Q1) (hS : jS JJ C Q (pc0, .iadd, aux) k kc ks ls st h) : J y pc kc ks ls st h Q := by
  obtain rfl : len = 1 := hlen.resolve_left (by intro h9; cases h9)
  obtain ⟨b1, r1, rfl, hS⟩ := p_i_of hS
  obtain ⟨a1, r, rfl, hS⟩ := p_i_of hS
  exact J_pu (fun base b hx hb kk => lv_iadd hx hb hd kk) (hk _ _ _ _ _ hS)
theorem Q_isub (hd : decode (mC y) pc = .ok (.isub, len)) (hlen : jsw (.isub) = true ∨ len = jlen (.isub)) (hok : okI y pc (.isub) aux = true) (hk : ∀ kc ks ls st h, k kc ks ls st h → J y (pc + len) kc ks ls st h Q) (hJ : ∀ L kc ks ls st h, JJ L kc ks ls st h → J y L kc ks ls st h Q) (hC : ∀ z kc ks as h Q1, C z kc ks as h Q1 → jRet z kc ks as h Q1) (hS : jS JJ C Q (pc0, .isub, aux) k kc ks ls st h) : J y pc kc ks ls st h Q := by
  obtain rfl : len = 1 := hlen.resolve_left (by intro h9; cases h9)
  obtain ⟨b1, r1, rfl, hS⟩ := p_i_of hS
  obtain ⟨a1, r, rfl, hS⟩ := p_i_of hS
  exact J_pu (fun base b hx hb kk => lv_isub hx hb hd kk) (hk _ _ _ _ _ hS)
theorem Q_imul (hd : decode (mC y) pc = .ok (.imul, len)) (hlen : jsw (.imul) = true ∨ len = jlen (.imul)) (hok : okI y pc (.imul) aux = true) (hk : ∀ kc ks ls st h, k kc ks ls st h → J y (pc + len) kc ks ls st h Q) (hJ : ∀ L kc ks ls st h, JJ L kc ks ls st h → J y L kc ks ls st h Q) (hC : ∀ z kc ks as h Q1, C z kc ks as h Q1 → jRet z kc ks as h Q1) (hS : jS JJ C Q (pc0, .imul, aux) k kc ks ls st h) : J y pc kc ks ls st h Q := by
  obtain rfl : len = 1 := hlen.resolve_left (by intro h9; cases h9)
  obtain ⟨b1, r1, rfl, hS⟩ := p_i_of hS
  obtain ⟨a1, r, rfl, hS⟩ := p_i_of hS
  exact J_pu (fun base b hx hb kk => lv_imul hx hb hd kk) (hk _ _ _ _ _ hS)
theorem Q_iand (hd : decode (mC y) pc = .ok (.iand, len)) (hlen : jsw (.iand) = true ∨ len = jlen (.iand)) (hok : okI y pc (.iand) aux = true) (hk : ∀ kc ks ls st h, k kc ks ls st h → J y (pc + len) kc ks ls st h Q) (hJ : ∀ L kc ks ls st h, JJ L kc ks ls st h → J y L kc ks ls st h Q) (hC : ∀ z kc ks as h Q1, C z kc ks as h Q1 → jRet z kc ks as h Q1) (hS : jS JJ C Q (pc0, .iand, aux) k kc ks ls st h) : J y pc kc ks ls st h Q := by
  obtain rfl : len = 1 := hlen.resolve_left (by intro h9; cases h9)
  obtain ⟨b1, r1, rfl, hS⟩ := p_i_of hS
  obtain ⟨a1, r, rfl, hS⟩ := p_i_of hS
  exact J_pu (fun base b hx hb kk => lv_iand hx hb hd kk) (hk _ _ _ _ _ hS)
theorem Q_ior (hd : decode (mC y) pc = .ok (.ior, len)) (hlen : jsw (.ior) = true ∨ len = jlen (.ior)) (hok : okI y pc (.ior) aux = true) (hk : ∀ kc ks ls st h, k kc ks ls st h → J y (pc + len) kc ks ls st h Q) (hJ : ∀ L kc ks ls st h, JJ L kc ks ls st h → J y L kc ks ls st h Q) (hC : ∀ z kc ks as h Q1, C z kc ks as h Q1 → jRet z kc ks as h Q1) (hS : jS JJ C Q (pc0, .ior, aux) k kc ks ls st h) : J y pc kc ks ls st h Q := by
  obtain rfl : len = 1 := hlen.resolve_left (by intro h9; cases h9)
  obtain ⟨b1, r1, rfl, hS⟩ := p_i_of hS
  obtain ⟨a1, r, rfl, hS⟩ := p_i_of hS
  exact J_pu (fun base b hx hb kk => lv_ior hx hb hd kk) (hk _ _ _ _ _ hS)
theorem Q_ishl (hd : decode (mC y) pc = .ok (.ishl, len)) (hlen : jsw (.ishl) = true ∨ len = jlen (.ishl)) (hok : okI y pc (.ishl) aux = true) (hk : ∀ kc ks ls st h, k kc ks ls st h → J y (pc + len) kc ks ls st h Q) (hJ : ∀ L kc ks ls st h, JJ L kc ks ls st h → J y L kc ks ls st h Q) (hC : ∀ z kc ks as h Q1, C z kc ks as h Q1 → jRet z kc ks as h Q1) (hS : jS JJ C Q (pc0, .ishl, aux) k kc ks ls st h) : J y pc kc ks ls st h Q := by
  obtain rfl : len = 1 := hlen.resolve_left (by intro h9; cases h9)
  obtain ⟨b1, r1, rfl, hS⟩ := p_i_of hS
  obtain ⟨a1, r, rfl, hS⟩ := p_i_of hS
  exact J_pu (fun base b hx hb kk => lv_ishl hx hb hd kk) (hk _ _ _ _ _ hS)
theorem Q_ishr (hd : decode (mC y) pc = .ok (.ishr, len)) (hlen : jsw (.ishr) = true ∨ len = jlen (.ishr)) (hok : okI y pc (.ishr) aux = true) (hk : ∀ kc ks ls st h, k kc ks ls st h → J y (pc + len) kc ks ls st h Q) (hJ : ∀ L kc ks ls st h, JJ L kc ks ls st h → J y L kc ks ls st h Q) (hC : ∀ z kc ks as h Q1, C z kc ks as h Q1 → jRet z kc ks as h Q1) (hS : jS JJ C Q (pc0, .ishr, aux) k kc ks ls st h) : J y pc kc ks ls st h Q := by
  obtain rfl : len = 1 := hlen.resolve_left (by intro h9; cases h9)
  obtain ⟨b1, r1, rfl, hS⟩ := p_i_of hS
  obtain ⟨a1, r, rfl, hS⟩ := p_i_of hS
  exact J_pu (fun base b hx hb kk => lv_ishr hx hb hd kk) (hk _ _ _ _ _ hS)
theorem Q_ladd (hd : decode (mC y) pc = .ok (.ladd, len)) (hlen : jsw (.ladd) = true ∨ len = jlen (.ladd)) (hok : okI y pc (.ladd) aux = true) (hk : ∀ kc ks ls st h, k kc ks ls st h → J y (pc + len) kc ks ls st h Q) (hJ : ∀ L kc ks ls st h, JJ L kc ks ls st h → J y L kc ks ls st h Q) (hC : ∀ z kc ks as h Q1, C z kc ks as h Q1 → jRet z kc ks as h Q1) (hS : jS JJ C Q (pc0, .ladd, aux) k kc ks ls st h) : J y pc kc ks ls st h Q := by
  obtain rfl : len = 1 := hlen.resolve_left (by intro h9; cases h9)
  obtain ⟨b1, r1, rfl, hS⟩ := p_l_of hS
  obtain ⟨a1, r, rfl, hS⟩ := p_l_of hS
  exact J_pu (fun base b hx hb kk => lv_ladd hx hb hd kk) (hk _ _ _ _ _ hS)
theorem Q_lsub (hd : decode (mC y) pc = .ok (.lsub, len)) (hlen : jsw (.lsub) = true ∨ len = jlen (.lsub)) (hok : okI y pc (.lsub) aux = true) (hk : ∀ kc ks ls st h, k kc ks ls st h → J y (pc + len) kc ks ls st h Q) (hJ : ∀ L kc ks ls st h, JJ L kc ks ls st h → J y L kc ks ls st h Q) (hC : ∀ z kc ks as h Q1, C z kc ks as h Q1 → jRet z kc ks as h Q1) (hS : jS JJ C Q (pc0, .lsub, aux) k kc ks ls st h) : J y pc kc ks ls st h Q := by
  obtain rfl : len = 1 := hlen.resolve_left (by intro h9; cases h9)
  obtain ⟨b1, r1, rfl, hS⟩ := p_l_of hS
  obtain ⟨a1, r, rfl, hS⟩ := p_l_of hS
  exact J_pu (fun base b hx hb kk => lv_lsub hx hb hd kk) (hk _ _ _ _ _ hS)
theorem Q_lmul (hd : decode (mC y) pc = .ok (.lmul, len)) (hlen : jsw (.lmul) = true ∨ len = jlen (.lmul)) (hok : okI y pc (.lmul) aux = true) (hk : ∀ kc ks ls st h, k kc ks ls st h → J y (pc + len) kc ks ls st h Q) (hJ : ∀ L kc ks ls st h, JJ L kc ks ls st h → J y L kc ks ls st h Q) (hC : ∀ z kc ks as h Q1, C z kc ks as h Q1 → jRet z kc ks as h Q1) (hS : jS JJ C Q (pc0, .lmul, aux) k kc ks ls st h) : J y pc kc ks ls st h Q := by
  obtain rfl : len = 1 := hlen.resolve_left (by intro h9; cases h9)
  obtain ⟨b1, r1, rfl, hS⟩ := p_l_of hS
  obtain ⟨a1, r, rfl, hS⟩ := p_l_of hS
  exact J_pu (fun base b hx hb kk => lv_lmul hx hb hd kk) (hk _ _ _ _ _ hS)
theorem Q_land (hd : decode (mC y) pc = .ok (.land, len)) (hlen : jsw (.land) = true ∨ len = jlen (.land)) (hok : okI y pc (.land) aux = true) (hk : ∀ kc ks ls st h, k kc ks ls st h → J y (pc + len) kc ks ls st h Q) (hJ : ∀ L kc ks ls st h, JJ L kc ks ls st h → J y L kc ks ls st h Q) (hC : ∀ z kc ks as h Q1, C z kc ks as h Q1 → jRet z kc ks as h Q1) (hS : jS JJ C Q (pc0, .land, aux) k kc ks ls st h) : J y pc kc ks ls st h Q := by
  obtain rfl : len = 1 := hlen.resolve_left (by intro h9; cases h9)
  obtain ⟨b1, r1, rfl, hS⟩ := p_l_of hS
  obtain ⟨a1, r, rfl, hS⟩ := p_l_of hS
  exact J_pu (fun base b hx hb kk => lv_land hx hb hd kk) (hk _ _ _ _ _ hS)
theorem Q_lor (hd : decode (mC y) pc = .ok (.lor, len)) (hlen : jsw (.lor) = true ∨ len = jlen (.lor)) (hok : okI y pc (.lor) aux = true) (hk : ∀ kc ks ls st h, k kc ks ls st h → J y (pc + len) kc ks ls st h Q) (hJ : ∀ L kc ks ls st h, JJ L kc ks ls st h → J y L kc ks ls st h Q) (hC : ∀ z kc ks as h Q1, C z kc ks as h Q1 → jRet z kc ks as h Q1) (hS : jS JJ C Q (pc0, .lor, aux) k kc ks ls st h) : J y pc kc ks ls st h Q := by
  obtain rfl : len = 1 := hlen.resolve_left (by intro h9; cases h9)
  obtain ⟨b1, r1, rfl, hS⟩ := p_l_of hS
  obtain ⟨a1, r, rfl, hS⟩ := p_l_of hS
  exact J_pu (fun base b hx hb kk => lv_lor hx hb hd kk) (hk _ _ _ _ _ hS)
theorem Q_idiv (hd : decode (mC y) pc = .ok (.idiv, len)) (hlen : jsw (.idiv) = true ∨ len = jlen (.idiv)) (hok : okI y pc (.idiv) aux = true) (hk : ∀ kc ks ls st h, k kc ks ls st h → J y (pc + len) kc ks ls st h Q) (hJ : ∀ L kc ks ls st h, JJ L kc ks ls st h → J y L kc ks ls st h Q) (hC : ∀ z kc ks as h Q1, C z kc ks as h Q1 → jRet z kc ks as h Q1) (hS : jS JJ C Q (pc0, .idiv, aux) k kc ks ls st h) : J y pc kc ks ls st h Q := by
  obtain rfl : len = 1 := hlen.resolve_left (by intro h9; cases h9)
  obtain ⟨b1, r1, rfl, hS⟩ := p_i_of hS
  obtain ⟨a1, r, rfl, h0, hS⟩ := p_i_of hS
  exact J_pu (fun base b hx hb kk => lv_idiv hx hb hd h0 kk) (hk _ _ _ _ _ hS)
theorem Q_irem (hd : decode (mC y) pc = .ok (.irem, len)) (hlen : jsw (.irem) = true ∨ len = jlen (.irem)) (hok : okI y pc (.irem) aux = true) (hk : ∀ kc ks ls st h, k kc ks ls st h → J y (pc + len) kc ks ls st h Q) (hJ : ∀ L kc ks ls st h, JJ L kc ks ls st h → J y L kc ks ls st h Q) (hC : ∀ z kc ks as h Q1, C z kc ks as h Q1 → jRet z kc ks as h Q1) (hS : jS JJ C Q (pc0, .irem, aux) k kc ks ls st h) : J y pc kc ks ls st h Q := by
  obtain rfl : len = 1 := hlen.resolve_left (by intro h9; cases h9)
  obtain ⟨b1, r1, rfl, hS⟩ := p_i_of hS
  obtain ⟨a1, r, rfl, h0, hS⟩ := p_i_of hS
  exact J_pu (fun base b hx hb kk => lv_irem hx hb hd h0 kk) (hk _ _ _ _ _ hS)
theorem Q_ldiv (hd : decode (mC y) pc = .ok (.ldiv, len)) (hlen : jsw (.ldiv) = true ∨ len = jlen (.ldiv)) (hok : okI y pc (.ldiv) aux = true) (hk : ∀ kc ks ls st h, k kc ks ls st h → J y (pc + len) kc ks ls st h Q) (hJ : ∀ L kc ks ls st h, JJ L kc ks ls st h → J y L kc ks ls st h Q) (hC : ∀ z kc ks as h Q1, C z kc ks as h Q1 → jRet z kc ks as h Q1) (hS : jS JJ C Q (pc0, .ldiv, aux) k kc ks ls st h) : J y pc kc ks ls st h Q := by
  obtain rfl : len = 1 := hlen.resolve_left (by intro h9; cases h9)
  obtain ⟨b1, r1, rfl, hS⟩ := p_l_of hS
  obtain ⟨a1, r, rfl, h0, hS⟩ := p_l_of hS
  exact J_pu (fun base b hx hb kk => lv_ldiv hx hb hd h0 kk) (hk _ _ _ _ _ hS)
theorem Q_lrem (hd : decode (mC y) pc = .ok (.lrem, len)) (hlen : jsw (.lrem) = true ∨ len = jlen (.lrem)) (hok : okI y pc (.lrem) aux = true) (hk : ∀ kc ks ls st h, k kc ks ls st h → J y (pc + len) kc ks ls st h Q) (hJ : ∀ L kc ks ls st h, JJ L kc ks ls st h → J y L kc ks ls st h Q) (hC : ∀ z kc ks as h Q1, C z kc ks as h Q1 → jRet z kc ks as h Q1) (hS : jS JJ C Q (pc0, .lrem, aux) k kc ks ls st h) : J y pc kc ks ls st h Q := by
  obtain rfl : len = 1 := hlen.resolve_left (by intro h9; cases h9)
  obtain ⟨b1, r1, rfl, hS⟩ := p_l_of hS
  obtain ⟨a1, r, rfl, h0, hS⟩ := p_l_of hS
  exact J_pu (fun base b hx hb kk => lv_lrem hx hb hd h0 kk) (hk _ _ _ _ _ hS)
theorem Q_iushr (hd : decode (mC y) pc = .ok (.iushr, len)) (hlen : jsw (.iushr) = true ∨ len = jlen (.iushr)) (hok : okI y pc (.iushr) aux = true) (hk : ∀ kc ks ls st h, k kc ks ls st h → J y (pc + len) kc ks ls st h Q) (hJ : ∀ L kc ks ls st h, JJ L kc ks ls st h → J y L kc ks ls st h Q) (hC : ∀ z kc ks as h Q1, C z kc ks as h Q1 → jRet z kc ks as h Q1) (hS : jS JJ C Q (pc0, .iushr, aux) k kc ks ls st h) : J y pc kc ks ls st h Q := by
  obtain rfl : len = 1 := hlen.resolve_left (by intro h9; cases h9)
  obtain ⟨b1, r1, rfl, hS⟩ := p_i_of hS
  obtain ⟨a1, r, rfl, hS⟩ := p_i_of hS
  exact J_pu (fun base b hx hb kk => lv_iushr hx hb hd rfl kk) (hk _ _ _ _ _ hS)
theorem Q_lshl (hd : decode (mC y) pc = .ok (.lshl, len)) (hlen : jsw (.lshl) = true ∨ len = jlen (.lshl)) (hok : okI y pc (.lshl) aux = true) (hk : ∀ kc ks ls st h, k kc ks ls st h → J y (pc + len) kc ks ls st h Q) (hJ : ∀ L kc ks ls st h, JJ L kc ks ls st h → J y L kc ks ls st h Q) (hC : ∀ z kc ks as h Q1, C z kc ks as h Q1 → jRet z kc ks as h Q1) (hS : jS JJ C Q (pc0, .lshl, aux) k kc ks ls st h) : J y pc kc ks ls st h Q := by
  obtain rfl : len = 1 := hlen.resolve_left (by intro h9; cases h9)
  obtain ⟨b1, r1, rfl, hS⟩ := p_i_of hS
  obtain ⟨a1, r, rfl, hS⟩ := p_l_of hS
  exact J_pu (fun base b hx hb kk => lv_lshl hx hb hd rfl kk) (hk _ _ _ _ _ hS)
theorem Q_lshr (hd : decode (mC y) pc = .ok (.lshr, len)) (hlen : jsw (.lshr) = true ∨ len = jlen (.lshr)) (hok : okI y pc (.lshr) aux = true) (hk : ∀ kc ks ls st h, k kc ks ls st h → J y (pc + len) kc ks ls st h Q) (hJ : ∀ L kc ks ls st h, JJ L kc ks ls st h → J y L kc ks ls st h Q) (hC : ∀ z kc ks as h Q1, C z kc ks as h Q1 → jRet z kc ks as h Q1) (hS : jS JJ C Q (pc0, .lshr, aux) k kc ks ls st h) : J y pc kc ks ls st h Q := by
  obtain rfl : len = 1 := hlen.resolve_left (by intro h9; cases h9)
  obtain ⟨b1, r1, rfl, hS⟩ := p_i_of hS
  obtain ⟨a1, r, rfl, hS⟩ := p_l_of hS
  exact J_pu (fun base b hx hb kk => lv_lshr hx hb hd rfl kk) (hk _ _ _ _ _ hS)
theorem Q_lushr (hd : decode (mC y) pc = .ok (.lushr, len)) (hlen : jsw (.lushr) = true ∨ len = jlen (.lushr)) (hok : okI y pc (.lushr) aux = true) (hk : ∀ kc ks ls st h, k kc ks ls st h → J y (pc + len) kc ks ls st h Q) (hJ : ∀ L kc ks ls st h, JJ L kc ks ls st h → J y L kc ks ls st h Q) (hC : ∀ z kc ks as h Q1, C z kc ks as h Q1 → jRet z kc ks as h Q1) (hS : jS JJ C Q (pc0, .lushr, aux) k kc ks ls st h) : J y pc kc ks ls st h Q := by
  obtain rfl : len = 1 := hlen.resolve_left (by intro h9; cases h9)
  obtain ⟨b1, r1, rfl, hS⟩ := p_i_of hS
  obtain ⟨a1, r, rfl, hS⟩ := p_l_of hS
  exact J_pu (fun base b hx hb kk => lv_lushr hx hb hd rfl kk) (hk _ _ _ _ _ hS)
theorem Q_lcmp (hd : decode (mC y) pc = .ok (.lcmp, len)) (hlen : jsw (.lcmp) = true ∨ len = jlen (.lcmp)) (hok : okI y pc (.lcmp) aux = true) (hk : ∀ kc ks ls st h, k kc ks ls st h → J y (pc + len) kc ks ls st h Q) (hJ : ∀ L kc ks ls st h, JJ L kc ks ls st h → J y L kc ks ls st h Q) (hC : ∀ z kc ks as h Q1, C z kc ks as h Q1 → jRet z kc ks as h Q1) (hS : jS JJ C Q (pc0, .lcmp, aux) k kc ks ls st h) : J y pc kc ks ls st h Q := by
  obtain rfl : len = 1 := hlen.resolve_left (by intro h9; cases h9)
  obtain ⟨b1, r1, rfl, hS⟩ := p_l_of hS
  obtain ⟨a1, r, rfl, hS⟩ := p_l_of hS
  exact J_pu (fun base b hx hb kk => W.lcmp hx hb hd kk) (hk _ _ _ _ _ hS)
theorem Q_ineg (hd : decode (mC y) pc = .ok (.ineg, len)) (hlen : jsw (.ineg) = true ∨ len = jlen (.ineg)) (hok : okI y pc (.ineg) aux = true) (hk : ∀ kc ks ls st h, k kc ks ls st h → J y (pc + len) kc ks ls st h Q) (hJ : ∀ L kc ks ls st h, JJ L kc ks ls st h → J y L kc ks ls st h Q) (hC : ∀ z kc ks as h Q1, C z kc ks as h Q1 → jRet z kc ks as h Q1) (hS : jS JJ C Q (pc0, .ineg, aux) k kc ks ls st h) : J y pc kc ks ls st h Q := by
  obtain rfl : len = 1 := hlen.resolve_left (by intro h9; cases h9)
  obtain ⟨a1, r, rfl, hS⟩ := p_i_of hS
  exact J_pu (fun base b hx hb kk => lv_ineg hx hb hd kk) (hk _ _ _ _ _ hS)
theorem Q_lneg (hd : decode (mC y) pc = .ok (.lneg, len)) (hlen : jsw (.lneg) = true ∨ len = jlen (.lneg)) (hok : okI y pc (.lneg) aux = true) (hk : ∀ kc ks ls st h, k kc ks ls st h → J y (pc + len) kc ks ls st h Q) (hJ : ∀ L kc ks ls st h, JJ L kc ks ls st h → J y L kc ks ls st h Q) (hC : ∀ z kc ks as h Q1, C z kc ks as h Q1 → jRet z kc ks as h Q1) (hS : jS JJ C Q (pc0, .lneg, aux) k kc ks ls st h) : J y pc kc ks ls st h Q := by
  obtain rfl : len = 1 := hlen.resolve_left (by intro h9; cases h9)
  obtain ⟨a1, r, rfl, hS⟩ := p_l_of hS
  exact J_pu (fun base b hx hb kk => lv_lneg hx hb hd kk) (hk _ _ _ _ _ hS)
theorem Q_i2l (hd : decode (mC y) pc = .ok (.i2l, len)) (hlen : jsw (.i2l) = true ∨ len = jlen (.i2l)) (hok : okI y pc (.i2l) aux = true) (hk : ∀ kc ks ls st h, k kc ks ls st h → J y (pc + len) kc ks ls st h Q) (hJ : ∀ L kc ks ls st h, JJ L kc ks ls st h → J y L kc ks ls st h Q) (hC : ∀ z kc ks as h Q1, C z kc ks as h Q1 → jRet z kc ks as h Q1) (hS : jS JJ C Q (pc0, .i2l, aux) k kc ks ls st h) : J y pc kc ks ls st h Q := by
  obtain rfl : len = 1 := hlen.resolve_left (by intro h9; cases h9)
  obtain ⟨a1, r, rfl, hS⟩ := p_i_of hS
  exact J_pu (fun base b hx hb kk => lv_i2l hx hb hd rfl kk) (hk _ _ _ _ _ hS)
theorem Q_l2i (hd : decode (mC y) pc = .ok (.l2i, len)) (hlen : jsw (.l2i) = true ∨ len = jlen (.l2i)) (hok : okI y pc (.l2i) aux = true) (hk : ∀ kc ks ls st h, k kc ks ls st h → J y (pc + len) kc ks ls st h Q) (hJ : ∀ L kc ks ls st h, JJ L kc ks ls st h → J y L kc ks ls st h Q) (hC : ∀ z kc ks as h Q1, C z kc ks as h Q1 → jRet z kc ks as h Q1) (hS : jS JJ C Q (pc0, .l2i, aux) k kc ks ls st h) : J y pc kc ks ls st h Q := by
  obtain rfl : len = 1 := hlen.resolve_left (by intro h9; cases h9)
  obtain ⟨a1, r, rfl, hS⟩ := p_l_of hS
  exact J_pu (fun base b hx hb kk => lv_l2i hx hb hd rfl kk) (hk _ _ _ _ _ hS)
theorem Q_i2b (hd : decode (mC y) pc = .ok (.i2b, len)) (hlen : jsw (.i2b) = true ∨ len = jlen (.i2b)) (hok : okI y pc (.i2b) aux = true) (hk : ∀ kc ks ls st h, k kc ks ls st h → J y (pc + len) kc ks ls st h Q) (hJ : ∀ L kc ks ls st h, JJ L kc ks ls st h → J y L kc ks ls st h Q) (hC : ∀ z kc ks as h Q1, C z kc ks as h Q1 → jRet z kc ks as h Q1) (hS : jS JJ C Q (pc0, .i2b, aux) k kc ks ls st h) : J y pc kc ks ls st h Q := by
  obtain rfl : len = 1 := hlen.resolve_left (by intro h9; cases h9)
  obtain ⟨a1, r, rfl, hS⟩ := p_i_of hS
  exact J_pu (fun base b hx hb kk => lv_i2b hx hb hd rfl kk) (hk _ _ _ _ _ hS)
theorem Q_dup (hd : decode (mC y) pc = .ok (.dup, len)) (hlen : jsw (.dup) = true ∨ len = jlen (.dup)) (hok : okI y pc (.dup) aux = true) (hk : ∀ kc ks ls st h, k kc ks ls st h → J y (pc + len) kc ks ls st h Q) (hJ : ∀ L kc ks ls st h, JJ L kc ks ls st h → J y L kc ks ls st h Q) (hC : ∀ z kc ks as h Q1, C z kc ks as h Q1 → jRet z kc ks as h Q1) (hS : jS JJ C Q (pc0, .dup, aux) k kc ks ls st h) : J y pc kc ks ls st h Q := by
  obtain rfl : len = 1 := hlen.resolve_left (by intro h9; cases h9)
  match st, hS with
  | .ref q :: r, hS => exact J_pu (fun base b hx hb kk => lv_dup hx hb hd (by rw [cat_cv]; rfl) kk) (hk _ _ _ _ _ hS)
  | .int q :: r, hS => exact J_pu (fun base b hx hb kk => lv_dup hx hb hd rfl kk) (hk _ _ _ _ _ hS)
theorem Q_ifCond {cd : Jvm.ClassFile.Cond} {o : Int} (hd : decode (mC y) pc = .ok (.ifCond cd o, len)) (hlen : jsw (.ifCond cd o) = true ∨ len = jlen (.ifCond cd o)) (hok : okI y pc (.ifCond cd o) aux = true) (hk : ∀ kc ks ls st h, k kc ks ls st h → J y (pc + len) kc ks ls st h Q) (hJ : ∀ L kc ks ls st h, JJ L kc ks ls st h → J y L kc ks ls st h Q) (hC : ∀ z kc ks as h Q1, C z kc ks as h Q1 → jRet z kc ks as h Q1) (hS : jS JJ C Q (pc0, .ifCond cd o, aux) k kc ks ls st h) : J y pc kc ks ls st h Q := by
  obtain rfl : len = 3 := hlen.resolve_left (by intro h9; cases h9)
  obtain ⟨a1, r, rfl, hS⟩ := p_i_of hS
  exact J_if hd (of_decide_eq_true hok) (jcd_mono hS (hJ _ _ _ _ _ _) (hk _ _ _ _ _))
theorem Q_if_icmp {cd : Jvm.ClassFile.Cond} {o : Int} (hd : decode (mC y) pc = .ok (.if_icmp cd o, len)) (hlen : jsw (.if_icmp cd o) = true ∨ len = jlen (.if_icmp cd o)) (hok : okI y pc (.if_icmp cd o) aux = true) (hk : ∀ kc ks ls st h, k kc ks ls st h → J y (pc + len) kc ks ls st h Q) (hJ : ∀ L kc ks ls st h, JJ L kc ks ls st h → J y L kc ks ls st h Q) (hC : ∀ z kc ks as h Q1, C z kc ks as h Q1 → jRet z kc ks as h Q1) (hS : jS JJ C Q (pc0, .if_icmp cd o, aux) k kc ks ls st h) : J y pc kc ks ls st h Q := by
  obtain rfl : len = 3 := hlen.resolve_left (by intro h9; cases h9)
  obtain ⟨b1, r1, rfl, hS⟩ := p_i_of hS
  obtain ⟨a1, r, rfl, hS⟩ := p_i_of hS
  exact J_ic hd (of_decide_eq_true hok) (jcd_mono hS (hJ _ _ _ _ _ _) (hk _ _ _ _ _))
theorem Q_goto {o : Int} (hd : decode (mC y) pc = .ok (.goto o, len)) (hlen : jsw (.goto o) = true ∨ len = jlen (.goto o)) (hok : okI y pc (.goto o) aux = true) (hk : ∀ kc ks ls st h, k kc ks ls st h → J y (pc + len) kc ks ls st h Q) (hJ : ∀ L kc ks ls st h, JJ L kc ks ls st h → J y L kc ks ls st h Q) (hC : ∀ z kc ks as h Q1, C z kc ks as h Q1 → jRet z kc ks as h Q1) (hS : jS JJ C Q (pc0, .goto o, aux) k kc ks ls st h) : J y pc kc ks ls st h Q := by
  obtain rfl : len = 3 := hlen.resolve_left (by intro h9; cases h9)
  exact J_go hd (of_decide_eq_true hok) (hJ _ _ _ _ _ _ hS)
theorem Q_tableswitch {d lo hi : Int} {os : Array Int} (hd : decode (mC y) pc = .ok (.tableswitch d lo hi os, len)) (hlen : jsw (.tableswitch d lo hi os) = true ∨ len = jlen (.tableswitch d lo hi os)) (hok : okI y pc (.tableswitch d lo hi os) aux = true) (hk : ∀ kc ks ls st h, k kc ks ls st h → J y (pc + len) kc ks ls st h Q) (hJ : ∀ L kc ks ls st h, JJ L kc ks ls st h → J y L kc ks ls st h Q) (hC : ∀ z kc ks as h Q1, C z kc ks as h Q1 → jRet z kc ks as h Q1) (hS : jS JJ C Q (pc0, .tableswitch d lo hi os, aux) k kc ks ls st h) : J y pc kc ks ls st h Q := by
  obtain ⟨a1, r, rfl, hS⟩ := p_i_of hS
  simp only [okI, Bool.and_eq_true, decide_eq_true_eq] at hok
  exact J_sw hd hok.1.1 hok.1.2 hok.2 (fun q => hJ _ _ _ _ _ _ (hS.1 q)) (fun j t q1 q2 => hJ _ _ _ _ _ _ (hS.2 j t q1 q2))
theorem Q_iaload (hd : decode (mC y) pc = .ok (.iaload, len)) (hlen : jsw (.iaload) = true ∨ len = jlen (.iaload)) (hok : okI y pc (.iaload) aux = true) (hk : ∀ kc ks ls st h, k kc ks ls st h → J y (pc + len) kc ks ls st h Q) (hJ : ∀ L kc ks ls st h, JJ L kc ks ls st h → J y L kc ks ls st h Q) (hC : ∀ z kc ks as h Q1, C z kc ks as h Q1 → jRet z kc ks as h Q1) (hS : jS JJ C Q (pc0, .iaload, aux) k kc ks ls st h) : J y pc kc ks ls st h Q := by
  obtain rfl : len = 1 := hlen.resolve_left (by intro h9; cases h9)
  obtain ⟨b1, r1, rfl, hS⟩ := p_i_of hS
  obtain ⟨a1, r, rfl, h0, hS⟩ := p_r_of hS
  exact J_iald hd h0 (hk _ _ _ _ _ hS)
theorem Q_baload (hd : decode (mC y) pc = .ok (.baload, len)) (hlen : jsw (.baload) = true ∨ len = jlen (.baload)) (hok : okI y pc (.baload) aux = true) (hk : ∀ kc ks ls st h, k kc ks ls st h → J y (pc + len) kc ks ls st h Q) (hJ : ∀ L kc ks ls st h, JJ L kc ks ls st h → J y L kc ks ls st h Q) (hC : ∀ z kc ks as h Q1, C z kc ks as h Q1 → jRet z kc ks as h Q1) (hS : jS JJ C Q (pc0, .baload, aux) k kc ks ls st h) : J y pc kc ks ls st h Q := by
  obtain rfl : len = 1 := hlen.resolve_left (by intro h9; cases h9)
  obtain ⟨b1, r1, rfl, hS⟩ := p_i_of hS
  obtain ⟨a1, r, rfl, h0, hS⟩ := p_r_of hS
  exact J_bald hd h0 (hk _ _ _ _ _ hS)
theorem Q_aaload (hd : decode (mC y) pc = .ok (.aaload, len)) (hlen : jsw (.aaload) = true ∨ len = jlen (.aaload)) (hok : okI y pc (.aaload) aux = true) (hk : ∀ kc ks ls st h, k kc ks ls st h → J y (pc + len) kc ks ls st h Q) (hJ : ∀ L kc ks ls st h, JJ L kc ks ls st h → J y L kc ks ls st h Q) (hC : ∀ z kc ks as h Q1, C z kc ks as h Q1 → jRet z kc ks as h Q1) (hS : jS JJ C Q (pc0, .aaload, aux) k kc ks ls st h) : J y pc kc ks ls st h Q := by
  obtain rfl : len = 1 := hlen.resolve_left (by intro h9; cases h9)
  obtain ⟨b1, r1, rfl, hS⟩ := p_i_of hS
  obtain ⟨a1, r, rfl, h0, hS⟩ := p_r_of hS
  exact J_aald hd h0 (hk _ _ _ _ _ hS)
theorem Q_iastore (hd : decode (mC y) pc = .ok (.iastore, len)) (hlen : jsw (.iastore) = true ∨ len = jlen (.iastore)) (hok : okI y pc (.iastore) aux = true) (hk : ∀ kc ks ls st h, k kc ks ls st h → J y (pc + len) kc ks ls st h Q) (hJ : ∀ L kc ks ls st h, JJ L kc ks ls st h → J y L kc ks ls st h Q) (hC : ∀ z kc ks as h Q1, C z kc ks as h Q1 → jRet z kc ks as h Q1) (hS : jS JJ C Q (pc0, .iastore, aux) k kc ks ls st h) : J y pc kc ks ls st h Q := by
  obtain rfl : len = 1 := hlen.resolve_left (by intro h9; cases h9)
  obtain ⟨c1, r2, rfl, hS⟩ := p_i_of hS
  obtain ⟨b1, r1, rfl, hS⟩ := p_i_of hS
  obtain ⟨a1, r, rfl, h0, hS⟩ := p_r_of hS
  exact J_iast hd h0 (hk _ _ _ _ _ hS)
theorem Q_bastore (hd : decode (mC y) pc = .ok (.bastore, len)) (hlen : jsw (.bastore) = true ∨ len = jlen (.bastore)) (hok : okI y pc (.bastore) aux = true) (hk : ∀ kc ks ls st h, k kc ks ls st h → J y (pc + len) kc ks ls st h Q) (hJ : ∀ L kc ks ls st h, JJ L kc ks ls st h → J y L kc ks ls st h Q) (hC : ∀ z kc ks as h Q1, C z kc ks as h Q1 → jRet z kc ks as h Q1) (hS : jS JJ C Q (pc0, .bastore, aux) k kc ks ls st h) : J y pc kc ks ls st h Q := by
  obtain rfl : len = 1 := hlen.resolve_left (by intro h9; cases h9)
  obtain ⟨c1, r2, rfl, hS⟩ := p_i_of hS
  obtain ⟨b1, r1, rfl, hS⟩ := p_i_of hS
  obtain ⟨a1, r, rfl, h0, hS⟩ := p_r_of hS
  exact J_bast hd h0 (hk _ _ _ _ _ hS)
theorem Q_aastore (hd : decode (mC y) pc = .ok (.aastore, len)) (hlen : jsw (.aastore) = true ∨ len = jlen (.aastore)) (hok : okI y pc (.aastore) aux = true) (hk : ∀ kc ks ls st h, k kc ks ls st h → J y (pc + len) kc ks ls st h Q) (hJ : ∀ L kc ks ls st h, JJ L kc ks ls st h → J y L kc ks ls st h Q) (hC : ∀ z kc ks as h Q1, C z kc ks as h Q1 → jRet z kc ks as h Q1) (hS : jS JJ C Q (pc0, .aastore, aux) k kc ks ls st h) : J y pc kc ks ls st h Q := by
  obtain rfl : len = 1 := hlen.resolve_left (by intro h9; cases h9)
  obtain ⟨c1, r2, rfl, hS⟩ := p_r_of hS
  obtain ⟨b1, r1, rfl, hS⟩ := p_i_of hS
  obtain ⟨a1, r, rfl, h0, hS⟩ := p_r_of hS
  exact J_aast hd h0 (hk _ _ _ _ _ hS)
theorem Q_arraylength (hd : decode (mC y) pc = .ok (.arraylength, len)) (hlen : jsw (.arraylength) = true ∨ len = jlen (.arraylength)) (hok : okI y pc (.arraylength) aux = true) (hk : ∀ kc ks ls st h, k kc ks ls st h → J y (pc + len) kc ks ls st h Q) (hJ : ∀ L kc ks ls st h, JJ L kc ks ls st h → J y L kc ks ls st h Q) (hC : ∀ z kc ks as h Q1, C z kc ks as h Q1 → jRet z kc ks as h Q1) (hS : jS JJ C Q (pc0, .arraylength, aux) k kc ks ls st h) : J y pc kc ks ls st h Q := by
  obtain rfl : len = 1 := hlen.resolve_left (by intro h9; cases h9)
  obtain ⟨a1, r, rfl, h0, hS⟩ := p_r_of hS
  exact J_alen hd h0 (hk _ _ _ _ _ hS)
theorem Q_newarray {t : ArrayType} (hd : decode (mC y) pc = .ok (.newarray t, len)) (hlen : jsw (.newarray t) = true ∨ len = jlen (.newarray t)) (hok : okI y pc (.newarray t) aux = true) (hk : ∀ kc ks ls st h, k kc ks ls st h → J y (pc + len) kc ks ls st h Q) (hJ : ∀ L kc ks ls st h, JJ L kc ks ls st h → J y L kc ks ls st h Q) (hC : ∀ z kc ks as h Q1, C z kc ks as h Q1 → jRet z kc ks as h Q1) (hS : jS JJ C Q (pc0, .newarray t, aux) k kc ks ls st h) : J y pc kc ks ls st h Q := by
  obtain rfl : len = 2 := hlen.resolve_left (by intro h9; cases h9)
  obtain ⟨a1, r, rfl, u1, u2, u3, u4, hS⟩ := p_i_of hS
  refine J_nai (cd := aux.getD 0 0) hd ?_ ⟨u1, u2, u3, u4, hk _ _ _ _ _ hS⟩
  cases t <;> first | exact Or.inl ⟨rfl, of_decide_eq_true hok⟩ | exact Or.inr ⟨rfl, of_decide_eq_true hok⟩ | exact absurd hok (by intro h9; cases h9)
theorem Q_anewarray {i : Nat} (hd : decode (mC y) pc = .ok (.anewarray i, len)) (hlen : jsw (.anewarray i) = true ∨ len = jlen (.anewarray i)) (hok : okI y pc (.anewarray i) aux = true) (hk : ∀ kc ks ls st h, k kc ks ls st h → J y (pc + len) kc ks ls st h Q) (hJ : ∀ L kc ks ls st h, JJ L kc ks ls st h → J y L kc ks ls st h Q) (hC : ∀ z kc ks as h Q1, C z kc ks as h Q1 → jRet z kc ks as h Q1) (hS : jS JJ C Q (pc0, .anewarray i, aux) k kc ks ls st h) : J y pc kc ks ls st h Q := by
  obtain rfl : len = 3 := hlen.resolve_left (by intro h9; cases h9)
  obtain ⟨a1, r, rfl, u1, u2, u3, u4, hS⟩ := p_i_of hS
  refine J_naq (cd := aux.getD 0 0) hd ?_ ⟨u1, u2, u3, u4, hk _ _ _ _ _ hS⟩
  simpa [okI] using hok
theorem Q_new {i : Nat} (hd : decode (mC y) pc = .ok (.new i, len)) (hlen : jsw (.new i) = true ∨ len = jlen (.new i)) (hok : okI y pc (.new i) aux = true) (hk : ∀ kc ks ls st h, k kc ks ls st h → J y (pc + len) kc ks ls st h Q) (hJ : ∀ L kc ks ls st h, JJ L kc ks ls st h → J y L kc ks ls st h Q) (hC : ∀ z kc ks as h Q1, C z kc ks as h Q1 → jRet z kc ks as h Q1) (hS : jS JJ C Q (pc0, .new i, aux) k kc ks ls st h) : J y pc kc ks ls st h Q := by
  obtain rfl : len = 3 := hlen.resolve_left (by intro h9; cases h9)
  obtain ⟨u1, u2, hS⟩ := hS
  simp only [okI, Bool.and_eq_true, decide_eq_true_eq, List.contains_iff_mem] at hok
  exact J_new hd hok.1 hok.2 u1 u2 (hk _ _ _ _ _ hS)
theorem Q_getfield {i : Nat} (hd : decode (mC y) pc = .ok (.getfield i, len)) (hlen : jsw (.getfield i) = true ∨ len = jlen (.getfield i)) (hok : okI y pc (.getfield i) aux = true) (hk : ∀ kc ks ls st h, k kc ks ls st h → J y (pc + len) kc ks ls st h Q) (hJ : ∀ L kc ks ls st h, JJ L kc ks ls st h → J y L kc ks ls st h Q) (hC : ∀ z kc ks as h Q1, C z kc ks as h Q1 → jRet z kc ks as h Q1) (hS : jS JJ C Q (pc0, .getfield i, aux) k kc ks ls st h) : J y pc kc ks ls st h Q := by
  obtain rfl : len = 3 := hlen.resolve_left (by intro h9; cases h9)
  obtain ⟨a1, r, rfl, u1, hS⟩ := p_r_of hS
  simp only [okI, Bool.and_eq_true, decide_eq_true_eq, List.contains_iff_mem] at hok
  exact J_get hd hok.1.1.1 hok.1.1.2 hok.1.2 hok.2 u1 (hk _ _ _ _ _ hS)
theorem Q_putfield {i : Nat} (hd : decode (mC y) pc = .ok (.putfield i, len)) (hlen : jsw (.putfield i) = true ∨ len = jlen (.putfield i)) (hok : okI y pc (.putfield i) aux = true) (hk : ∀ kc ks ls st h, k kc ks ls st h → J y (pc + len) kc ks ls st h Q) (hJ : ∀ L kc ks ls st h, JJ L kc ks ls st h → J y L kc ks ls st h Q) (hC : ∀ z kc ks as h Q1, C z kc ks as h Q1 → jRet z kc ks as h Q1) (hS : jS JJ C Q (pc0, .putfield i, aux) k kc ks ls st h) : J y pc kc ks ls st h Q := by
  obtain rfl : len = 3 := hlen.resolve_left (by intro h9; cases h9)
  simp only [okI, Bool.and_eq_true, decide_eq_true_eq, List.contains_iff_mem, Bool.or_eq_true, Bool.not_eq_true'] at hok
  match st, hS with
  | v :: .ref p0 :: r, hS =>
    refine J_put hd hok.1.1.1.1 hok.1.1.1.2 hok.1.1.2 hok.1.2 hok.2 hS.1 ?_
    exact jPut_mono hS.2 (fun h' q => hk _ _ _ _ _ q)
theorem Q_invokevirtual {i : Nat} (hd : decode (mC y) pc = .ok (.invokevirtual i, len)) (hlen : jsw (.invokevirtual i) = true ∨ len = jlen (.invokevirtual i)) (hok : okI y pc (.invokevirtual i) aux = true) (hk : ∀ kc ks ls st h, k kc ks ls st h → J y (pc + len) kc ks ls st h Q) (hJ : ∀ L kc ks ls st h, JJ L kc ks ls st h → J y L kc ks ls st h Q) (hC : ∀ z kc ks as h Q1, C z kc ks as h Q1 → jRet z kc ks as h Q1) (hS : jS JJ C Q (pc0, .invokevirtual i, aux) k kc ks ls st h) : J y pc kc ks ls st h Q := by
  obtain rfl : len = 3 := hlen.resolve_left (by intro h9; cases h9)
  match aux, hok, hS with
  | [z, n, rk, k1, s1], hok, hS =>
    simp only [okI, Bool.and_eq_true, decide_eq_true_eq, List.contains_iff_mem] at hok
    have hS9 : jCal C 1 z n rk k1 s1 k kc ks ls st h := hS
    obtain ⟨u1, u2, u3, ul, u4, u9, u5⟩ := J_cal hC hS9
    obtain ⟨p0, As, u6, u7⟩ := u4 rfl
    rw [u6] at u5
    have hn : As.length + 1 = n := by
      have := congrArg List.length u6
      rw [List.length_reverse, ul, List.length_cons] at this
      omega
    exact J_callV (As := As) (rest := st.drop n) hd hok.1.1.1 hok.1.2 hok.2 hn ((take_rev u6).trans (by simp)) u3 u7 u1 u2 u5 (fun v h' q => hk _ _ _ _ _ (jAns_of q))
theorem Q_invokestatic {i : Nat} (hd : decode (mC y) pc = .ok (.invokestatic i, len)) (hlen : jsw (.invokestatic i) = true ∨ len = jlen (.invokestatic i)) (hok : okI y pc (.invokestatic i) aux = true) (hk : ∀ kc ks ls st h, k kc ks ls st h → J y (pc + len) kc ks ls st h Q) (hJ : ∀ L kc ks ls st h, JJ L kc ks ls st h → J y L kc ks ls st h Q) (hC : ∀ z kc ks as h Q1, C z kc ks as h Q1 → jRet z kc ks as h Q1) (hS : jS JJ C Q (pc0, .invokestatic i, aux) k kc ks ls st h) : J y pc kc ks ls st h Q := by
  obtain rfl : len = 3 := hlen.resolve_left (by intro h9; cases h9)
  match aux, hok, hS with
  | [z, n, rk, k1, s1], hok, hS =>
    simp only [okI, Bool.and_eq_true, decide_eq_true_eq, List.contains_iff_mem] at hok
    have hS9 : jCal C 0 z n rk k1 s1 k kc ks ls st h := hS
    obtain ⟨u1, u2, u3, ul, u4, u9, u5⟩ := J_cal hC hS9
    exact J_callS (As := (st.take n).reverse) (rest := st.drop n) hd hok.1.1.1 hok.1.2 hok.2 (by rw [List.length_reverse, ul]) (take_rev rfl) u3 u1 u2 u5 (fun v h' q => hk _ _ _ _ _ (jAns_of q))
  | [0, q], hok, hS =>
    simp only [okI, Bool.and_eq_true, decide_eq_true_eq, List.contains_iff_mem] at hok
    obtain ⟨b1, r1, rfl, hS⟩ := p_i_of hS
    obtain ⟨a1, r, rfl, hS⟩ := p_i_of hS
    obtain ⟨hb, hS⟩ := bif_of hS
    exact J_max hd hok.1.1.2 hok.1.2 hok.2 (Nat.le_of_ble_eq_true hb) (hk _ _ _ _ _ hS)
  | [1, q], hok, hS =>
    simp only [okI, Bool.and_eq_true, decide_eq_true_eq, List.contains_iff_mem] at hok
    obtain ⟨b1, r1, rfl, hS⟩ := p_l_of hS
    obtain ⟨a1, r, rfl, hS⟩ := p_l_of hS
    obtain ⟨hb, hS⟩ := bif_of hS
    exact J_maxl hd hok.1.1.2 hok.1.2 hok.2 (Nat.le_of_ble_eq_true hb) (hk _ _ _ _ _ hS)
  | [2, q], hok, hS =>
    simp only [okI, Bool.and_eq_true, decide_eq_true_eq, List.contains_iff_mem] at hok
    obtain ⟨b1, r1, rfl, hS⟩ := p_l_of hS
    obtain ⟨a1, r, rfl, hS⟩ := p_l_of hS
    obtain ⟨hb, hS⟩ := bif_of hS
    exact J_minl hd hok.1.1.2 hok.1.2 hok.2 (Nat.le_of_ble_eq_true hb) (hk _ _ _ _ _ hS)
  | [3, q], hok, hS =>
    simp only [okI, Bool.and_eq_true, decide_eq_true_eq, List.contains_iff_mem] at hok
    obtain ⟨a1, r, rfl, hS⟩ := p_l_of hS
    obtain ⟨hb, hS⟩ := bif_of hS
    exact J_absl hd hok.1.1.2 hok.1.2 hok.2 (Nat.le_of_ble_eq_true hb) (hk _ _ _ _ _ hS)
  | [4, q], hok, hS =>
    simp only [okI, Bool.and_eq_true, decide_eq_true_eq, List.contains_iff_mem] at hok
    obtain ⟨b1, r1, rfl, hS⟩ := p_i_of hS
    obtain ⟨a1, r, rfl, hS⟩ := p_i_of hS
    obtain ⟨hb, hS⟩ := bif_of hS
    exact J_min hd hok.1.1.2 hok.1.2 hok.2 (Nat.le_of_ble_eq_true hb) (hk _ _ _ _ _ hS)
  | [n + 5, q], hok, hS =>
    simp only [okI, Bool.and_eq_true, decide_eq_true_eq, List.contains_iff_mem] at hok
    omega
  | [], hok, hS =>
    simp only [okI, Bool.and_eq_true, decide_eq_true_eq, List.contains_iff_mem] at hok
    obtain ⟨n, r1, rfl, hS⟩ := p_i_of hS
    obtain ⟨dp, r1, rfl, hS⟩ := p_i_of hS
    obtain ⟨b0, r1, rfl, hS⟩ := p_r_of hS
    obtain ⟨sp, r1, rfl, hS⟩ := p_i_of hS
    obtain ⟨a0, r1, rfl, hS⟩ := p_r_of hS
    obtain ⟨hb, v1, v2, v3, v4, v5, v6, v7, hS9⟩ := bif_of hS
    obtain ⟨⟨⟨w1, w2⟩, w3⟩, w4⟩ := hok
    subst w2
    exact J_cpy hd w1 w3 w4 (Nat.le_of_ble_eq_true hb) v1 v2 v3 v4 v5 v6 v7 (hk _ _ _ _ _ hS9)
theorem Q_invokespecial {i : Nat} (hd : decode (mC y) pc = .ok (.invokespecial i, len)) (hlen : jsw (.invokespecial i) = true ∨ len = jlen (.invokespecial i)) (hok : okI y pc (.invokespecial i) aux = true) (hk : ∀ kc ks ls st h, k kc ks ls st h → J y (pc + len) kc ks ls st h Q) (hJ : ∀ L kc ks ls st h, JJ L kc ks ls st h → J y L kc ks ls st h Q) (hC : ∀ z kc ks as h Q1, C z kc ks as h Q1 → jRet z kc ks as h Q1) (hS : jS JJ C Q (pc0, .invokespecial i, aux) k kc ks ls st h) : J y pc kc ks ls st h Q := by
  obtain rfl : len = 3 := hlen.resolve_left (by intro h9; cases h9)
  match aux, hok, hS with
  | [z, n, rk, k1, s1], hok, hS =>
    simp only [okI, Bool.and_eq_true, decide_eq_true_eq, List.contains_iff_mem, Bool.or_eq_true] at hok
    have hS9 : jCal C 2 z n rk k1 s1 k kc ks ls st h := hS
    obtain ⟨u1, u2, u3, ul, u4, u9, u5⟩ := J_cal hC hS9
    obtain ⟨hz, hrt, hl1, hp0⟩ : z < 200 ∧ mR z = none ∧ 1 ≤ n ∧ True := by
      have e0 : (tM ++ tZ).all (fun x => decide (x.getD 4 0 = 1 ∨ x.getD 4 0 = 3 → x.getD 2 0 < 200 ∧ mR (x.getD 2 0) = none ∧ 1 ≤ x.getD 3 0)) = true := by decide +kernel
      rcases hok.1.1.1 with hM | hM
      · have h9 := List.all_eq_true.mp e0 _ (List.mem_append_left _ hM)
        simp only [List.getD_cons_zero, List.getD_cons_succ, decide_eq_true_eq] at h9
        obtain ⟨q1, q2, q3⟩ := h9 (by simp)
        exact ⟨q1, q2, q3, trivial⟩
      · have h9 := List.all_eq_true.mp e0 _ (List.mem_append_right _ hM)
        simp only [List.getD_cons_zero, List.getD_cons_succ, decide_eq_true_eq] at h9
        obtain ⟨q1, q2, q3⟩ := h9 (by simp)
        exact ⟨q1, q2, q3, trivial⟩
    obtain ⟨p0, As, u6, u7⟩ := u9 rfl
    rw [u6] at u5
    have hn : As.length + 1 = n := by
      have := congrArg List.length u6
      rw [List.length_reverse, ul, List.length_cons] at this
      omega
    exact J_callI (As := As) (rest := st.drop n) hd hok.1.1.1 hrt hok.1.2 hok.2 hn ((take_rev u6).trans (by simp)) u3 u7 u1 u2 u5 (fun v h' q => hk _ _ _ _ _ (jAns_of q))
  | [], hok, hS =>
    simp only [okI, Bool.and_eq_true, decide_eq_true_eq, List.contains_iff_mem] at hok
    obtain ⟨p0, r, rfl, hS⟩ := p_r_of hS
    obtain ⟨hb, hp, hS⟩ := bif_of hS
    exact J_obj hd hok.1.1 hok.1.2 hok.2 (Nat.le_of_ble_eq_true hb) hp (hk _ _ _ _ _ hS)
theorem Q_ireturn (hd : decode (mC y) pc = .ok (.ireturn, len)) (hlen : jsw (.ireturn) = true ∨ len = jlen (.ireturn)) (hok : okI y pc (.ireturn) aux = true) (hk : ∀ kc ks ls st h, k kc ks ls st h → J y (pc + len) kc ks ls st h Q) (hJ : ∀ L kc ks ls st h, JJ L kc ks ls st h → J y L kc ks ls st h Q) (hC : ∀ z kc ks as h Q1, C z kc ks as h Q1 → jRet z kc ks as h Q1) (hS : jS JJ C Q (pc0, .ireturn, aux) k kc ks ls st h) : J y pc kc ks ls st h Q := by
  obtain rfl : len = 1 := hlen.resolve_left (by intro h9; cases h9)
  obtain ⟨v, r, rfl, hS⟩ := p_i_of hS
  obtain ⟨rfl, hS⟩ := p_n_of hS
  simp only [okI, Bool.and_eq_true, decide_eq_true_eq, Bool.or_eq_true] at hok
  rcases hok with ⟨e1, e2⟩ | ⟨e1, e2⟩
  · subst e2
    exact J_ret (v := some (.int v)) ⟨Or.inl e1, hd⟩ hS
  · subst e2
    exact J_ret (v := some (.int v)) ⟨Or.inr ⟨e1, hS.1⟩, hd⟩ hS.2
theorem Q_lreturn (hd : decode (mC y) pc = .ok (.lreturn, len)) (hlen : jsw (.lreturn) = true ∨ len = jlen (.lreturn)) (hok : okI y pc (.lreturn) aux = true) (hk : ∀ kc ks ls st h, k kc ks ls st h → J y (pc + len) kc ks ls st h Q) (hJ : ∀ L kc ks ls st h, JJ L kc ks ls st h → J y L kc ks ls st h Q) (hC : ∀ z kc ks as h Q1, C z kc ks as h Q1 → jRet z kc ks as h Q1) (hS : jS JJ C Q (pc0, .lreturn, aux) k kc ks ls st h) : J y pc kc ks ls st h Q := by
  obtain rfl : len = 1 := hlen.resolve_left (by intro h9; cases h9)
  obtain ⟨v, r, rfl, hS⟩ := p_l_of hS
  obtain ⟨rfl, hS⟩ := p_n_of hS
  exact J_ret (v := some (.long v)) ⟨of_decide_eq_true hok, hd⟩ hS
theorem Q_areturn (hd : decode (mC y) pc = .ok (.areturn, len)) (hlen : jsw (.areturn) = true ∨ len = jlen (.areturn)) (hok : okI y pc (.areturn) aux = true) (hk : ∀ kc ks ls st h, k kc ks ls st h → J y (pc + len) kc ks ls st h Q) (hJ : ∀ L kc ks ls st h, JJ L kc ks ls st h → J y L kc ks ls st h Q) (hC : ∀ z kc ks as h Q1, C z kc ks as h Q1 → jRet z kc ks as h Q1) (hS : jS JJ C Q (pc0, .areturn, aux) k kc ks ls st h) : J y pc kc ks ls st h Q := by
  obtain rfl : len = 1 := hlen.resolve_left (by intro h9; cases h9)
  obtain ⟨v, r, rfl, hS⟩ := p_r_of hS
  obtain ⟨rfl, hS⟩ := p_n_of hS
  exact J_ret (v := some (.ref v)) ⟨of_decide_eq_true hok, hd⟩ hS
theorem Q_return (hd : decode (mC y) pc = .ok (.return_, len)) (hlen : jsw (.return_) = true ∨ len = jlen (.return_)) (hok : okI y pc (.return_) aux = true) (hk : ∀ kc ks ls st h, k kc ks ls st h → J y (pc + len) kc ks ls st h Q) (hJ : ∀ L kc ks ls st h, JJ L kc ks ls st h → J y L kc ks ls st h Q) (hC : ∀ z kc ks as h Q1, C z kc ks as h Q1 → jRet z kc ks as h Q1) (hS : jS JJ C Q (pc0, .return_, aux) k kc ks ls st h) : J y pc kc ks ls st h Q := by
  obtain rfl : len = 1 := hlen.resolve_left (by intro h9; cases h9)
  obtain ⟨rfl, hS⟩ := p_n_of hS
  exact J_ret (v := none) ⟨of_decide_eq_true hok, hd⟩ hS
end STEP
end
section
/-! a block is sound; a method's contract out of its walk -/
section BLOCK
variable {y : Nat} {Q : jQ} {C : jT} {JJ : Nat → jK}
theorem J_stp {pc len kc ks pc0 : Nat} {ls st : List Value} {h : jHp} {k : jK} {ins : Instr} {aux : List Nat} (hd : decode (mC y) pc = .ok (ins, len)) (hlen : jsw ins = true ∨ len = jlen ins) (hok : okI y pc ins aux = true) (hk : ∀ kc ks ls st h, k kc ks ls st h → J y (pc + len) kc ks ls st h Q) (hJ : ∀ L kc ks ls st h, JJ L kc ks ls st h → J y L kc ks ls st h Q) (hC : ∀ z kc ks as h Q1, C z kc ks as h Q1 → jRet z kc ks as h Q1) (hS : jS JJ C Q (pc0, ins, aux) k kc ks ls st h) : J y pc kc ks ls st h Q := by
  cases ins
  case iconst n => exact Q_iconst hd hlen hok hk hJ hC hS
  case bipush n => exact Q_bipush hd hlen hok hk hJ hC hS
  case sipush n => exact Q_sipush hd hlen hok hk hJ hC hS
  case lconst n => exact Q_lconst hd hlen hok hk hJ hC hS
  case ldc i => exact Q_ldc hd hlen hok hk hJ hC hS
  case ldc_w i => exact Q_ldc_w hd hlen hok hk hJ hC hS
  case ldc2_w i => exact Q_ldc2_w hd hlen hok hk hJ hC hS
  case iload i => exact Q_iload hd hlen hok hk hJ hC hS
  case iload_n i => exact Q_iload_n hd hlen hok hk hJ hC hS
  case lload i => exact Q_lload hd hlen hok hk hJ hC hS
  case lload_n i => exact Q_lload_n hd hlen hok hk hJ hC hS
  case aload i => exact Q_aload hd hlen hok hk hJ hC hS
  case aload_n i => exact Q_aload_n hd hlen hok hk hJ hC hS
  case istore i => exact Q_istore hd hlen hok hk hJ hC hS
  case istore_n i => exact Q_istore_n hd hlen hok hk hJ hC hS
  case lstore i => exact Q_lstore hd hlen hok hk hJ hC hS
  case lstore_n i => exact Q_lstore_n hd hlen hok hk hJ hC hS
  case astore i => exact Q_astore hd hlen hok hk hJ hC hS
  case astore_n i => exact Q_astore_n hd hlen hok hk hJ hC hS
  case iinc i n => exact Q_iinc hd hlen hok hk hJ hC hS
  case iadd => exact Q_iadd hd hlen hok hk hJ hC hS
  case isub => exact Q_isub hd hlen hok hk hJ hC hS
  case imul => exact Q_imul hd hlen hok hk hJ hC hS
  case idiv => exact Q_idiv hd hlen hok hk hJ hC hS
  case irem => exact Q_irem hd hlen hok hk hJ hC hS
  case iand => exact Q_iand hd hlen hok hk hJ hC hS
  case ior => exact Q_ior hd hlen hok hk hJ hC hS
  case ishl => exact Q_ishl hd hlen hok hk hJ hC hS
  case ishr => exact Q_ishr hd hlen hok hk hJ hC hS
  case iushr => exact Q_iushr hd hlen hok hk hJ hC hS
  case ineg => exact Q_ineg hd hlen hok hk hJ hC hS
  case ladd => exact Q_ladd hd hlen hok hk hJ hC hS
  case lsub => exact Q_lsub hd hlen hok hk hJ hC hS
  case lmul => exact Q_lmul hd hlen hok hk hJ hC hS
  case ldiv => exact Q_ldiv hd hlen hok hk hJ hC hS
  case lrem => exact Q_lrem hd hlen hok hk hJ hC hS
  case land => exact Q_land hd hlen hok hk hJ hC hS
  case lor => exact Q_lor hd hlen hok hk hJ hC hS
  case lneg => exact Q_lneg hd hlen hok hk hJ hC hS
  case lshl => exact Q_lshl hd hlen hok hk hJ hC hS
  case lshr => exact Q_lshr hd hlen hok hk hJ hC hS
  case lushr => exact Q_lushr hd hlen hok hk hJ hC hS
  case lcmp => exact Q_lcmp hd hlen hok hk hJ hC hS
  case i2l => exact Q_i2l hd hlen hok hk hJ hC hS
  case l2i => exact Q_l2i hd hlen hok hk hJ hC hS
  case i2b => exact Q_i2b hd hlen hok hk hJ hC hS
  case dup => exact Q_dup hd hlen hok hk hJ hC hS
  case ifCond c o => exact Q_ifCond hd hlen hok hk hJ hC hS
  case if_icmp c o => exact Q_if_icmp hd hlen hok hk hJ hC hS
  case goto o => exact Q_goto hd hlen hok hk hJ hC hS
  case tableswitch d lo hi os => exact Q_tableswitch hd hlen hok hk hJ hC hS
  case iaload => exact Q_iaload hd hlen hok hk hJ hC hS
  case baload => exact Q_baload hd hlen hok hk hJ hC hS
  case aaload => exact Q_aaload hd hlen hok hk hJ hC hS
  case iastore => exact Q_iastore hd hlen hok hk hJ hC hS
  case bastore => exact Q_bastore hd hlen hok hk hJ hC hS
  case aastore => exact Q_aastore hd hlen hok hk hJ hC hS
  case arraylength => exact Q_arraylength hd hlen hok hk hJ hC hS
  case newarray t => exact Q_newarray hd hlen hok hk hJ hC hS
  case anewarray i => exact Q_anewarray hd hlen hok hk hJ hC hS
  case new i => exact Q_new hd hlen hok hk hJ hC hS
  case getfield i => exact Q_getfield hd hlen hok hk hJ hC hS
  case putfield i => exact Q_putfield hd hlen hok hk hJ hC hS
  case invokevirtual i => exact Q_invokevirtual hd hlen hok hk hJ hC hS
  case invokespecial i => exact Q_invokespecial hd hlen hok hk hJ hC hS
  case invokestatic i => exact Q_invokestatic hd hlen hok hk hJ hC hS
  case ireturn => exact Q_ireturn hd hlen hok hk hJ hC hS
  case lreturn => exact Q_lreturn hd hlen hok hk hJ hC hS
  case areturn => exact Q_areturn hd hlen hok hk hJ hC hS
  case return_ => exact Q_return hd hlen hok hk hJ hC hS
  case multianewarray => exact absurd hok (by intro h9; cases h9)
  all_goals exact hS.elim
theorem jend_k {pc len kc ks pc0 : Nat} {ls st : List Value} {h : jHp} {k k' : jK} {ins : Instr} {aux : List Nat} (he : jend ins = true) (hS : jS JJ C Q (pc0, ins, aux) k kc ks ls st h) : jS JJ C Q (pc0, ins, aux) k' kc ks ls st h := by
  cases ins <;> first | exact hS | exact absurd he (by intro h9; cases h9)
theorem J_blk {nx : Nat} {nm : List Nat} (hJ : ∀ L kc ks ls st h, JJ L kc ks ls st h → J y L kc ks ls st h Q) (hC : ∀ z kc ks as h Q1, C z kc ks as h Q1 → jRet z kc ks as h Q1) : ∀ (es : List jE) (pc : Nat), okB y pc es nx = true → ∀ kc ks ls st h, jB JJ C Q nx nm es kc ks ls st h → J y pc kc ks ls st h Q
  | [], pc, hok, kc, ks, ls, st, h, hS => by
    have e : pc = nx := Nat.eq_of_beq_eq_true hok
    subst e
    exact J_cl (mk := nm) (hJ _ _ _ _ _ _ hS)
  | e :: r, pc, hok, kc, ks, ls, st, h, hS => by
    obtain ⟨pc0, ins, aux⟩ := e
    unfold okB at hok
    split at hok
    · rename_i i len hd
      simp only [Bool.and_eq_true, Bool.or_eq_true, decide_eq_true_eq] at hok
      obtain ⟨⟨⟨e1, e2⟩, e3⟩, e4⟩ := hok
      subst e1
      have e2' : jsw i = true ∨ len = jlen i := e2.imp id (fun q => Nat.eq_of_beq_eq_true q)
      match r, e4, hS with
      | [], e4, hS =>
        simp only [Bool.or_eq_true] at e4
        rcases e4 with e4 | e4
        · exact J_stp (k := fun _ _ _ _ _ => False) hd e2' e3 (fun _ _ _ _ _ q => q.elim) hJ hC (jend_k (pc := 0) (len := 0) e4 hS)
        · have e5 : pc + len = nx := Nat.eq_of_beq_eq_true e4
          exact J_stp hd e2' e3 (fun kc ks ls st h q => J_blk hJ hC [] (pc + len) (by rw [e5]; exact Nat.beq_refl nx) kc ks ls st h q) hJ hC hS
      | e' :: r', e4, hS =>
        exact J_stp hd e2' e3 (fun kc ks ls st h q => J_blk hJ hC (e' :: r') (pc + len) e4 kc ks ls st h q) hJ hC hS
    · cases hok
/-- the form in which blocks are used -/
theorem J_run {nx : Nat} {nm : List Nat} {es : List jE} {pc kc ks : Nat} {ls st : List Value} {h : jHp} (hok : okB y pc es nx = true) (hS : jB (fun L kc ks ls st h => J y L kc ks ls st h Q) jRet Q nx nm es kc ks ls st h) : J y pc kc ks ls st h Q := J_blk (fun _ _ _ _ _ _ q => q) (fun _ _ _ _ _ _ q => q) es pc hok kc ks ls st h hS
end BLOCK
theorem jRet_mono {z k s : Nat} {as : List Value} {h : jHp} {Q Q' : jQ} (hR : jRet z k s as h Q) (m : ∀ v h', Q v h' → Q' v h') : jRet z k s as h Q' := by
  intro l base b L xs D tc p e ha hc hk s0 m0 args below hf hap hP hK
  obtain ⟨n, o, a1, a2, a3, ⟨⟨v, h', e1, e2, e3⟩, a4⟩, a5⟩ := hR l base b L xs D tc p e ha hc hk s0 m0 args below hf hap hP hK
  exact ⟨n, o, a1, a2, a3, ⟨⟨v, h', e1, m v h' e2, e3⟩, a4⟩, a5⟩
theorem ent_1 {v : Value} {r : List Value} {n : Nat} (h : v.category = 1) : ent (v :: r) (n + 1) = v :: ent r n := by
  cases n <;> simp [ent, h]
theorem ent_20 {v : Value} {r : List Value} (h : v.category = 2) : ent (v :: r) 1 = [v] := by
  simp [ent, h]
theorem ent_2 {v : Value} {r : List Value} {n : Nat} (h : v.category = 2) : ent (v :: r) (n + 2) = v :: uu :: ent r n := by
  simp [ent, h]
theorem len_ent : ∀ (n : Nat) (as : List Value), (ent as n).length = n
  | 0, _ => by simp [ent]
  | n + 1, [] => by simp [ent, len_ent n []]
  | 1, v :: r => by
    rcases lv_cat v with h | h
    · rw [ent_1 h, List.length_cons, len_ent 0]
    · rw [ent_20 h]
      rfl
  | n + 2, v :: r => by
    rcases lv_cat v with h | h
    · rw [ent_1 h, List.length_cons, len_ent (n + 1)]
    · rw [ent_2 h, List.length_cons, List.length_cons, len_ent n]
theorem nth_ent : ∀ (n : Nat) (as : List Value) (i j : Nat), okv (nth (ent as n) i) = true → (j + i, nth (ent as n) i) ∈ lv_args j as
  | 0, _, i, j, h => by simp [ent, nth, okv, uu] at h
  | n + 1, [], 0, j, h => by simp [ent, nth, okv, uu] at h
  | n + 1, [], i + 1, j, h => by
    have h2 : okv (nth (ent [] n) i) = true := by simpa [ent, nth] using h
    have := nth_ent n [] i (j + 1) h2
    simp [lv_args] at this
  | n + 1, v :: r, 0, j, h => by
    have e : nth (ent (v :: r) (n + 1)) 0 = v := by cases n <;> simp [ent, nth]
    rw [e]
    exact List.mem_cons_self
  | 1, v :: r, i + 1, j, h => by
    rcases lv_cat v with hc | hc
    · rw [ent_1 hc] at h
      simp [ent, nth, okv, uu] at h
    · rw [ent_20 hc] at h
      simp [nth, okv, uu] at h
  | n + 2, v :: r, i + 1, j, h => by
    unfold lv_args
    rcases lv_cat v with hc | hc
    · rw [ent_1 hc] at h ⊢
      have := nth_ent (n + 1) r i (j + 1) h
      rw [if_neg (by omega), show j + (i + 1) = j + 1 + i by omega]
      exact List.mem_cons_of_mem _ this
    · rw [ent_2 hc] at h ⊢
      cases i with
      | zero => exact absurd (show okv uu = true from h) (by decide)
      | succ i =>
        have := nth_ent n r i (j + 2) h
        rw [if_pos hc, show j + (i + 1 + 1) = j + 2 + i by omega]
        exact List.mem_cons_of_mem _ this
theorem ent_map {base b : Nat} : ∀ (n : Nat) (as : List Value) (i : Nat), okv (nth (ent as n) i) = true → (i, cv base b (nth (ent as n) i)) ∈ lv_args 0 (as.map (cv base b)) := by
  intro n as i h
  have key : ∀ (as : List Value) (j : Nat) (x : Nat × Value), x ∈ lv_args j as → (x.1, cv base b x.2) ∈ lv_args j (as.map (cv base b)) := by
    intro as
    induction as with
    | nil => intro j x hx; simp [lv_args] at hx
    | cons v r ih =>
      intro j x hx
      unfold lv_args at hx
      rw [List.map_cons]
      unfold lv_args
      rcases List.mem_cons.mp hx with rfl | hx
      · exact List.mem_cons_self
      · refine List.mem_cons_of_mem _ ?_
        rw [cat_cv]
        exact ih _ _ hx
  have := key as 0 _ (nth_ent n as i 0 h)
  simpa using this
/-- as many words as the arguments take -/
theorem sl_len {base b : Nat} : ∀ (as : List Value), (lg_sl (as.map (cv base b))).length = cats as
  | [] => rfl
  | v :: r => by
    have ih := sl_len (base := base) (b := b) r
    unfold lg_sl at ih ⊢
    rw [List.map_cons, List.flatMap_cons, List.length_append, ih]
    show _ = v.category + cats r
    rw [cat_cv]
    rcases lv_cat v with h | h
    · rw [if_neg (by omega), h]
      rfl
    · rw [if_pos h, h]
      rfl
/-- THE CONTRACT of a method out of its walk from its start -/
theorem jRet_of {z k s : Nat} {as : List Value} {h : jHp} {Q : jQ} (hz5 : 5 ≤ z) (hz : z < 200) (ha : cats as ≤ mL z) (kk : J z 0 k s (ent as (mL z)) [] h Q) : jRet z k s as h Q := by
  intro l base b L xs D tc
  obtain ⟨m1, m2, m3, m4⟩ := mOk_at (z := z) (by omega)
  refine Met.ofW (cc := mC z) (maxL := mL z) (ret := mR z) (m4 hz5) rfl ?_
  intro p e s0 m args below meth c s₁ B hml hv
  obtain ⟨rfl, hK, hP, hsz, hX, hbb, hHk, hsp⟩ := hv
  have hts0 := atoms_spec (ws := jWs z) B.pre
  have hts : ∀ w ∈ gw, w.before (as.map (cv base b)).toArray s0 = true := fun w hw => hts0 w (List.mem_cons_of_mem _ hw)
  have hown : s0.vm.findClass (cN (mO z)) = some m.cls := by rw [← m1]; exact findClass_of_methodNamed B.named
  have hl := lv_entry (as.map (cv base b)) (n := mL z) (by rw [sl_len]; exact ha)
  rw [lg_entry_eq]
  generalize (lg_sl (as.map (cv base b)) ++ List.replicate (mL z - (lg_sl (as.map (cv base b))).length) Slot.unset).toArray = la at hl ⊢
  have hcx : Cx z p (jRm z k s) s0 m (as.map (cv base b)).toArray meth c base D tc := ⟨B.exec, B.bytes, B.returns, hml, hown, B.notSynchronized, hts, (name_of_methodNamed B.named B.method).1, hK, by omega, Nat.le_refl _, Nat.le_refl _, hsp⟩
  refine kk p l e (jRm z k s) s0 m (as.map (cv base b)).toArray below meth c _ base b L xs D tc hcx s0.heap [] 0 0 la ⟨hP, hsz, va_S.rf, hX, hbb, hHk⟩ ⟨len_ent _ _, hl.1, hl.2.1, fun i hi => hl.2.2 _ (ent_map _ _ i hi)⟩ (by show 0 + k ≤ k; omega) (by show 0 + s ≤ s; omega) ?_
  intro v h' H' locs' cells' slots' pc' la' hq hw hc1 hc2 hrt
  refine W.widen (k := k) (n := s) hc1 hc2 ?_
  have hqq : ∀ t : State, t.heap = H' → s0.WarmedH t.vm → (∃ (v9 : Option Value) (h9 : jHp), Outcome.returned (v.map (cv base b)) = .returned (v9.map (cv base b)) ∧ Q v9 h9 ∧ jWd base b L xs D tc h9 t) ∧ va_F (fun q => base ≤ q) s0 t := by
    intro t ht hW
    refine ⟨⟨v, h', rfl, hq, va_K.moved hW.alike hK, by rw [ht]; exact hw.1, by rw [ht]; exact hw.2.1, by rw [ht]; exact va_X.moved hW.alike hw.2.2.2.1, hw.2.2.2.2.1, hw.2.2.2.2.2, hsp.warm hW⟩, hw.2.2.1.F ht⟩
  have hlk := B.notSynchronized
  match v, hrt, hqq with
  | none, hrt, hqq => exact W.vret B.exec B.bytes (B.returns.trans hrt.1) (fun t ht hW => hqq t ht hW) hw.2.2.1.2.2 hrt.2
  | some (.int x), hrt, hqq =>
    rcases hrt.1 with hr | ⟨hr, hB⟩
    · exact W.iret B.exec B.bytes (B.returns.trans hr) (fun t ht hW => hqq t ht hW) hw.2.2.1.2.2 hrt.2
    · exact W.zret B.exec B.bytes (B.returns.trans hr) (by rcases hB with rfl | rfl <;> rfl) (fun t ht hW => hqq t ht hW) hw.2.2.1.2.2 hrt.2
  | some (.long x), hrt, hqq => exact W.lret B.exec B.bytes (B.returns.trans hrt.1) (fun t ht hW => hqq t ht hW) hw.2.2.1.2.2 hrt.2
  | some (.ref x), hrt, hqq => exact W.aret B.exec B.bytes (B.returns.trans hrt.1) (Or.inl ⟨_, rfl⟩) (rf_cases base b x) (fun t ht hW => hqq t ht hW) hw.2.2.1.2.2 hrt.2
end
