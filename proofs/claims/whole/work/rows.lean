section
-- ===== PART A: goes FIRST, ahead of the names: the tables' words, and 'selects' of the private methods out of them =====
/-- a private method of a class that the tables say can be made, by its rows of tables_1 -/
def lw_okq (q : MethodName × Nat) : Prop := (q.1.cls ≠ "java/lang/invoke/MethodHandle" ∧ q.1.cls ≠ "java/lang/invoke/VarHandle") ∧ Cond.instantiable q.1.cls q.2 ∈ tables_1 ∧ Cond.privateMethod q.1 ∈ tables_1 ∧ Cond.instanceMethod q.1 ∈ tables_1
theorem lw_p0 : lw_okq (⟨"LightRoom", "cornerStatus", "(II)I"⟩, 7) := ⟨⟨by decide +kernel, by decide +kernel⟩, List.mem_of_getElem? (i := 14) (by decide +kernel), List.mem_of_getElem? (i := 356) (by decide +kernel), List.mem_of_getElem? (i := 357) (by decide +kernel)⟩
theorem lw_p1 : lw_okq (⟨"LightRoom", "newPatchStatus", "(III)I"⟩, 7) := ⟨⟨by decide +kernel, by decide +kernel⟩, List.mem_of_getElem? (i := 14) (by decide +kernel), List.mem_of_getElem? (i := 375) (by decide +kernel), List.mem_of_getElem? (i := 376) (by decide +kernel)⟩
theorem lw_p2 : lw_okq (⟨"LightRoom$Walls", "meets", "(IIII)Z"⟩, 7) := ⟨⟨by decide +kernel, by decide +kernel⟩, List.mem_of_getElem? (i := 22) (by decide +kernel), List.mem_of_getElem? (i := 387) (by decide +kernel), List.mem_of_getElem? (i := 388) (by decide +kernel)⟩
theorem lw_p3 : lw_okq (⟨"LightRoom$Walls", "crosses", "(IIII)Z"⟩, 7) := ⟨⟨by decide +kernel, by decide +kernel⟩, List.mem_of_getElem? (i := 22) (by decide +kernel), List.mem_of_getElem? (i := 391) (by decide +kernel), List.mem_of_getElem? (i := 392) (by decide +kernel)⟩
theorem lw_p4 : lw_okq (⟨"LightRoom$Walls", "side", "(III)J"⟩, 7) := ⟨⟨by decide +kernel, by decide +kernel⟩, List.mem_of_getElem? (i := 22) (by decide +kernel), List.mem_of_getElem? (i := 395) (by decide +kernel), List.mem_of_getElem? (i := 396) (by decide +kernel)⟩
theorem lw_p5 : lw_okq (⟨"LightRoom$Walls", "isWithin", "(III)Z"⟩, 7) := ⟨⟨by decide +kernel, by decide +kernel⟩, List.mem_of_getElem? (i := 22) (by decide +kernel), List.mem_of_getElem? (i := 399) (by decide +kernel), List.mem_of_getElem? (i := 400) (by decide +kernel)⟩
theorem lw_p6 : lw_okq (⟨"LightRoom", "sharesChanged", "()V"⟩, 7) := ⟨⟨by decide +kernel, by decide +kernel⟩, List.mem_of_getElem? (i := 14) (by decide +kernel), List.mem_of_getElem? (i := 403) (by decide +kernel), List.mem_of_getElem? (i := 404) (by decide +kernel)⟩
theorem lw_p7 : lw_okq (⟨"LightRoom", "onStatus", "(III)I"⟩, 7) := ⟨⟨by decide +kernel, by decide +kernel⟩, List.mem_of_getElem? (i := 14) (by decide +kernel), List.mem_of_getElem? (i := 419) (by decide +kernel), List.mem_of_getElem? (i := 420) (by decide +kernel)⟩
theorem lw_p8 : lw_okq (⟨"LightRoom", "ownStatus", "(II)I"⟩, 7) := ⟨⟨by decide +kernel, by decide +kernel⟩, List.mem_of_getElem? (i := 14) (by decide +kernel), List.mem_of_getElem? (i := 431) (by decide +kernel), List.mem_of_getElem? (i := 432) (by decide +kernel)⟩
theorem lw_p9 : lw_okq (⟨"LightRoom", "numberStatus", "(III)I"⟩, 7) := ⟨⟨by decide +kernel, by decide +kernel⟩, List.mem_of_getElem? (i := 14) (by decide +kernel), List.mem_of_getElem? (i := 435) (by decide +kernel), List.mem_of_getElem? (i := 436) (by decide +kernel)⟩
theorem lw_p10 : lw_okq (⟨"LightRoom", "lampsChanged", "()V"⟩, 7) := ⟨⟨by decide +kernel, by decide +kernel⟩, List.mem_of_getElem? (i := 14) (by decide +kernel), List.mem_of_getElem? (i := 439) (by decide +kernel), List.mem_of_getElem? (i := 440) (by decide +kernel)⟩
theorem lw_p11 : lw_okq (⟨"LightRoom", "pairStatus", "(II)I"⟩, 7) := ⟨⟨by decide +kernel, by decide +kernel⟩, List.mem_of_getElem? (i := 14) (by decide +kernel), List.mem_of_getElem? (i := 455) (by decide +kernel), List.mem_of_getElem? (i := 456) (by decide +kernel)⟩
theorem lw_p12 : lw_okq (⟨"LightRoom$Walls", "isRingFree", "(II)Z"⟩, 7) := ⟨⟨by decide +kernel, by decide +kernel⟩, List.mem_of_getElem? (i := 22) (by decide +kernel), List.mem_of_getElem? (i := 469) (by decide +kernel), List.mem_of_getElem? (i := 470) (by decide +kernel)⟩
theorem lw_p13 : lw_okq (⟨"LightRoom$Walls", "entersRing", "(II)Z"⟩, 7) := ⟨⟨by decide +kernel, by decide +kernel⟩, List.mem_of_getElem? (i := 22) (by decide +kernel), List.mem_of_getElem? (i := 473) (by decide +kernel), List.mem_of_getElem? (i := 474) (by decide +kernel)⟩
theorem lw_p14 : lw_okq (⟨"LightRoom$Walls", "lengthUp", "(III)J"⟩, 7) := ⟨⟨by decide +kernel, by decide +kernel⟩, List.mem_of_getElem? (i := 22) (by decide +kernel), List.mem_of_getElem? (i := 487) (by decide +kernel), List.mem_of_getElem? (i := 488) (by decide +kernel)⟩
theorem lw_p15 : lw_okq (⟨"LightRoom$Walls", "square", "(III)J"⟩, 7) := ⟨⟨by decide +kernel, by decide +kernel⟩, List.mem_of_getElem? (i := 22) (by decide +kernel), List.mem_of_getElem? (i := 491) (by decide +kernel), List.mem_of_getElem? (i := 492) (by decide +kernel)⟩
def lw_privs_1 : List (MethodName × Nat) := [(⟨"LightRoom", "cornerStatus", "(II)I"⟩, 7), (⟨"LightRoom", "newPatchStatus", "(III)I"⟩, 7), (⟨"LightRoom$Walls", "meets", "(IIII)Z"⟩, 7), (⟨"LightRoom$Walls", "crosses", "(IIII)Z"⟩, 7), (⟨"LightRoom$Walls", "side", "(III)J"⟩, 7), (⟨"LightRoom$Walls", "isWithin", "(III)Z"⟩, 7), (⟨"LightRoom", "sharesChanged", "()V"⟩, 7), (⟨"LightRoom", "onStatus", "(III)I"⟩, 7), (⟨"LightRoom", "ownStatus", "(II)I"⟩, 7), (⟨"LightRoom", "numberStatus", "(III)I"⟩, 7), (⟨"LightRoom", "lampsChanged", "()V"⟩, 7), (⟨"LightRoom", "pairStatus", "(II)I"⟩, 7), (⟨"LightRoom$Walls", "isRingFree", "(II)Z"⟩, 7), (⟨"LightRoom$Walls", "entersRing", "(II)Z"⟩, 7), (⟨"LightRoom$Walls", "lengthUp", "(III)J"⟩, 7), (⟨"LightRoom$Walls", "square", "(III)J"⟩, 7)]
theorem lw_r1 : ∀ q ∈ lw_privs_1, lw_okq q := List.forall_mem_cons.mpr ⟨lw_p0, List.forall_mem_cons.mpr ⟨lw_p1, List.forall_mem_cons.mpr ⟨lw_p2, List.forall_mem_cons.mpr ⟨lw_p3, List.forall_mem_cons.mpr ⟨lw_p4, List.forall_mem_cons.mpr ⟨lw_p5, List.forall_mem_cons.mpr ⟨lw_p6, List.forall_mem_cons.mpr ⟨lw_p7, List.forall_mem_cons.mpr ⟨lw_p8, List.forall_mem_cons.mpr ⟨lw_p9, List.forall_mem_cons.mpr ⟨lw_p10, List.forall_mem_cons.mpr ⟨lw_p11, List.forall_mem_cons.mpr ⟨lw_p12, List.forall_mem_cons.mpr ⟨lw_p13, List.forall_mem_cons.mpr ⟨lw_p14, List.forall_mem_cons.mpr ⟨lw_p15, fun _ h => absurd h List.not_mem_nil⟩⟩⟩⟩⟩⟩⟩⟩⟩⟩⟩⟩⟩⟩⟩⟩
theorem lw_p16 : lw_okq (⟨"LightRoom$Walls", "lengthDown", "(III)J"⟩, 7) := ⟨⟨by decide +kernel, by decide +kernel⟩, List.mem_of_getElem? (i := 22) (by decide +kernel), List.mem_of_getElem? (i := 498) (by decide +kernel), List.mem_of_getElem? (i := 499) (by decide +kernel)⟩
theorem lw_p17 : lw_okq (⟨"LightRoom", "shareStatus", "(III)I"⟩, 7) := ⟨⟨by decide +kernel, by decide +kernel⟩, List.mem_of_getElem? (i := 14) (by decide +kernel), List.mem_of_getElem? (i := 507) (by decide +kernel), List.mem_of_getElem? (i := 508) (by decide +kernel)⟩
theorem lw_p18 : lw_okq (⟨"LightRoom$Walls", "crossedUp", "(III)J"⟩, 7) := ⟨⟨by decide +kernel, by decide +kernel⟩, List.mem_of_getElem? (i := 22) (by decide +kernel), List.mem_of_getElem? (i := 515) (by decide +kernel), List.mem_of_getElem? (i := 516) (by decide +kernel)⟩
theorem lw_p19 : lw_okq (⟨"LightRoom$Walls", "uncrossedDown", "(III)J"⟩, 7) := ⟨⟨by decide +kernel, by decide +kernel⟩, List.mem_of_getElem? (i := 22) (by decide +kernel), List.mem_of_getElem? (i := 519) (by decide +kernel), List.mem_of_getElem? (i := 520) (by decide +kernel)⟩
theorem lw_p20 : lw_okq (⟨"LightRoom$Walls", "crossedDown", "(III)J"⟩, 7) := ⟨⟨by decide +kernel, by decide +kernel⟩, List.mem_of_getElem? (i := 22) (by decide +kernel), List.mem_of_getElem? (i := 528) (by decide +kernel), List.mem_of_getElem? (i := 529) (by decide +kernel)⟩
theorem lw_p21 : lw_okq (⟨"LightRoom$Walls", "uncrossedUp", "(III)J"⟩, 7) := ⟨⟨by decide +kernel, by decide +kernel⟩, List.mem_of_getElem? (i := 22) (by decide +kernel), List.mem_of_getElem? (i := 532) (by decide +kernel), List.mem_of_getElem? (i := 533) (by decide +kernel)⟩
theorem lw_p22 : lw_okq (⟨"LightRoom", "tableStatus", "(III)I"⟩, 7) := ⟨⟨by decide +kernel, by decide +kernel⟩, List.mem_of_getElem? (i := 14) (by decide +kernel), List.mem_of_getElem? (i := 560) (by decide +kernel), List.mem_of_getElem? (i := 561) (by decide +kernel)⟩
theorem lw_p23 : lw_okq (⟨"LightRoom", "patchStatus", "(I)I"⟩, 7) := ⟨⟨by decide +kernel, by decide +kernel⟩, List.mem_of_getElem? (i := 14) (by decide +kernel), List.mem_of_getElem? (i := 572) (by decide +kernel), List.mem_of_getElem? (i := 573) (by decide +kernel)⟩
theorem lw_p24 : lw_okq (⟨"LightRoom$Glow", "lay", "(LLightRoom$Walls;LLightRoom$Table;)V"⟩, 6) := ⟨⟨by decide +kernel, by decide +kernel⟩, List.mem_of_getElem? (i := 138) (by decide +kernel), List.mem_of_getElem? (i := 580) (by decide +kernel), List.mem_of_getElem? (i := 581) (by decide +kernel)⟩
theorem lw_p25 : lw_okq (⟨"LightRoom$Glow", "turnAbout", "(II)V"⟩, 6) := ⟨⟨by decide +kernel, by decide +kernel⟩, List.mem_of_getElem? (i := 138) (by decide +kernel), List.mem_of_getElem? (i := 590) (by decide +kernel), List.mem_of_getElem? (i := 591) (by decide +kernel)⟩
theorem lw_p26 : lw_okq (⟨"LightRoom$Big", "addRow", "(JLLightRoom$Big;I)V"⟩, 3) := ⟨⟨by decide +kernel, by decide +kernel⟩, List.mem_of_getElem? (i := 145) (by decide +kernel), List.mem_of_getElem? (i := 601) (by decide +kernel), List.mem_of_getElem? (i := 602) (by decide +kernel)⟩
theorem lw_p27 : lw_okq (⟨"LightRoom$Big", "trim", "()V"⟩, 3) := ⟨⟨by decide +kernel, by decide +kernel⟩, List.mem_of_getElem? (i := 145) (by decide +kernel), List.mem_of_getElem? (i := 605) (by decide +kernel), List.mem_of_getElem? (i := 606) (by decide +kernel)⟩
theorem lw_p28 : lw_okq (⟨"LightRoom$Big", "raise", "(LLightRoom$Big;)V"⟩, 3) := ⟨⟨by decide +kernel, by decide +kernel⟩, List.mem_of_getElem? (i := 145) (by decide +kernel), List.mem_of_getElem? (i := 613) (by decide +kernel), List.mem_of_getElem? (i := 614) (by decide +kernel)⟩
theorem lw_p29 : lw_okq (⟨"LightRoom$Big", "extend", "(J)V"⟩, 3) := ⟨⟨by decide +kernel, by decide +kernel⟩, List.mem_of_getElem? (i := 145) (by decide +kernel), List.mem_of_getElem? (i := 618) (by decide +kernel), List.mem_of_getElem? (i := 619) (by decide +kernel)⟩
theorem lw_p30 : lw_okq (⟨"LightRoom$Big", "lower", "(LLightRoom$Big;)V"⟩, 3) := ⟨⟨by decide +kernel, by decide +kernel⟩, List.mem_of_getElem? (i := 145) (by decide +kernel), List.mem_of_getElem? (i := 626) (by decide +kernel), List.mem_of_getElem? (i := 627) (by decide +kernel)⟩
theorem lw_p31 : lw_okq (⟨"LightRoom$Big", "lowerFrom", "(LLightRoom$Big;)V"⟩, 3) := ⟨⟨by decide +kernel, by decide +kernel⟩, List.mem_of_getElem? (i := 145) (by decide +kernel), List.mem_of_getElem? (i := 630) (by decide +kernel), List.mem_of_getElem? (i := 631) (by decide +kernel)⟩
def lw_privs_2 : List (MethodName × Nat) := [(⟨"LightRoom$Walls", "lengthDown", "(III)J"⟩, 7), (⟨"LightRoom", "shareStatus", "(III)I"⟩, 7), (⟨"LightRoom$Walls", "crossedUp", "(III)J"⟩, 7), (⟨"LightRoom$Walls", "uncrossedDown", "(III)J"⟩, 7), (⟨"LightRoom$Walls", "crossedDown", "(III)J"⟩, 7), (⟨"LightRoom$Walls", "uncrossedUp", "(III)J"⟩, 7), (⟨"LightRoom", "tableStatus", "(III)I"⟩, 7), (⟨"LightRoom", "patchStatus", "(I)I"⟩, 7), (⟨"LightRoom$Glow", "lay", "(LLightRoom$Walls;LLightRoom$Table;)V"⟩, 6), (⟨"LightRoom$Glow", "turnAbout", "(II)V"⟩, 6), (⟨"LightRoom$Big", "addRow", "(JLLightRoom$Big;I)V"⟩, 3), (⟨"LightRoom$Big", "trim", "()V"⟩, 3), (⟨"LightRoom$Big", "raise", "(LLightRoom$Big;)V"⟩, 3), (⟨"LightRoom$Big", "extend", "(J)V"⟩, 3), (⟨"LightRoom$Big", "lower", "(LLightRoom$Big;)V"⟩, 3), (⟨"LightRoom$Big", "lowerFrom", "(LLightRoom$Big;)V"⟩, 3)]
theorem lw_r2 : ∀ q ∈ lw_privs_2, lw_okq q := List.forall_mem_cons.mpr ⟨lw_p16, List.forall_mem_cons.mpr ⟨lw_p17, List.forall_mem_cons.mpr ⟨lw_p18, List.forall_mem_cons.mpr ⟨lw_p19, List.forall_mem_cons.mpr ⟨lw_p20, List.forall_mem_cons.mpr ⟨lw_p21, List.forall_mem_cons.mpr ⟨lw_p22, List.forall_mem_cons.mpr ⟨lw_p23, List.forall_mem_cons.mpr ⟨lw_p24, List.forall_mem_cons.mpr ⟨lw_p25, List.forall_mem_cons.mpr ⟨lw_p26, List.forall_mem_cons.mpr ⟨lw_p27, List.forall_mem_cons.mpr ⟨lw_p28, List.forall_mem_cons.mpr ⟨lw_p29, List.forall_mem_cons.mpr ⟨lw_p30, List.forall_mem_cons.mpr ⟨lw_p31, fun _ h => absurd h List.not_mem_nil⟩⟩⟩⟩⟩⟩⟩⟩⟩⟩⟩⟩⟩⟩⟩⟩
theorem lw_p32 : lw_okq (⟨"LightRoom$Big", "takeAway", "(LLightRoom$Big;I)I"⟩, 3) := ⟨⟨by decide +kernel, by decide +kernel⟩, List.mem_of_getElem? (i := 145) (by decide +kernel), List.mem_of_getElem? (i := 638) (by decide +kernel), List.mem_of_getElem? (i := 639) (by decide +kernel)⟩
theorem lw_p33 : lw_okq (⟨"LightRoom$Big", "limbAt", "(I)I"⟩, 3) := ⟨⟨by decide +kernel, by decide +kernel⟩, List.mem_of_getElem? (i := 145) (by decide +kernel), List.mem_of_getElem? (i := 642) (by decide +kernel), List.mem_of_getElem? (i := 643) (by decide +kernel)⟩
theorem lw_p34 : lw_okq (⟨"LightRoom$Big", "takeTimes", "(LLightRoom$Big;JI)J"⟩, 3) := ⟨⟨by decide +kernel, by decide +kernel⟩, List.mem_of_getElem? (i := 145) (by decide +kernel), List.mem_of_getElem? (i := 646) (by decide +kernel), List.mem_of_getElem? (i := 647) (by decide +kernel)⟩
theorem lw_p35 : lw_okq (⟨"LightRoom$Big", "giveBack", "(LLightRoom$Big;I)I"⟩, 3) := ⟨⟨by decide +kernel, by decide +kernel⟩, List.mem_of_getElem? (i := 145) (by decide +kernel), List.mem_of_getElem? (i := 651) (by decide +kernel), List.mem_of_getElem? (i := 652) (by decide +kernel)⟩
theorem lw_p36 : lw_okq (⟨"LightRoom$Glow", "scaleColumns", "(LLightRoom$Walls;I)V"⟩, 6) := ⟨⟨by decide +kernel, by decide +kernel⟩, List.mem_of_getElem? (i := 138) (by decide +kernel), List.mem_of_getElem? (i := 666) (by decide +kernel), List.mem_of_getElem? (i := 667) (by decide +kernel)⟩
theorem lw_p37 : lw_okq (⟨"LightRoom$Out", "write", "(LLightRoom$Big;)V"⟩, 7) := ⟨⟨by decide +kernel, by decide +kernel⟩, List.mem_of_getElem? (i := 287) (by decide +kernel), List.mem_of_getElem? (i := 693) (by decide +kernel), List.mem_of_getElem? (i := 694) (by decide +kernel)⟩
theorem lw_p38 : lw_okq (⟨"LightRoom$Out", "put", "(I)V"⟩, 7) := ⟨⟨by decide +kernel, by decide +kernel⟩, List.mem_of_getElem? (i := 287) (by decide +kernel), List.mem_of_getElem? (i := 697) (by decide +kernel), List.mem_of_getElem? (i := 698) (by decide +kernel)⟩
theorem lw_p39 : lw_okq (⟨"LightRoom$Out", "writeLimb", "(IZ)Z"⟩, 7) := ⟨⟨by decide +kernel, by decide +kernel⟩, List.mem_of_getElem? (i := 287) (by decide +kernel), List.mem_of_getElem? (i := 701) (by decide +kernel), List.mem_of_getElem? (i := 702) (by decide +kernel)⟩
theorem lw_p40 : lw_okq (⟨"LightRoom$Bounces", "bounceAt", "(ILLightRoom$Walls;LLightRoom$Table;)V"⟩, 8) := ⟨⟨by decide +kernel, by decide +kernel⟩, List.mem_of_getElem? (i := 194) (by decide +kernel), List.mem_of_getElem? (i := 725) (by decide +kernel), List.mem_of_getElem? (i := 726) (by decide +kernel)⟩
theorem lw_p41 : lw_okq (⟨"LightRoom", "bouncesNeeded", "(I)I"⟩, 7) := ⟨⟨by decide +kernel, by decide +kernel⟩, List.mem_of_getElem? (i := 14) (by decide +kernel), List.mem_of_getElem? (i := 738) (by decide +kernel), List.mem_of_getElem? (i := 739) (by decide +kernel)⟩
theorem lw_p42 : lw_okq (⟨"LightRoom", "priceStatus", "(III)I"⟩, 7) := ⟨⟨by decide +kernel, by decide +kernel⟩, List.mem_of_getElem? (i := 14) (by decide +kernel), List.mem_of_getElem? (i := 765) (by decide +kernel), List.mem_of_getElem? (i := 766) (by decide +kernel)⟩
theorem lw_p43 : lw_okq (⟨"LightRoom", "lampStatus", "(I)I"⟩, 7) := ⟨⟨by decide +kernel, by decide +kernel⟩, List.mem_of_getElem? (i := 14) (by decide +kernel), List.mem_of_getElem? (i := 769) (by decide +kernel), List.mem_of_getElem? (i := 770) (by decide +kernel)⟩
theorem lw_p44 : lw_okq (⟨"LightRoom$Cheapest", "nameLamps", "(LLightRoom$Walls;)V"⟩, 15) := ⟨⟨by decide +kernel, by decide +kernel⟩, List.mem_of_getElem? (i := 229) (by decide +kernel), List.mem_of_getElem? (i := 781) (by decide +kernel), List.mem_of_getElem? (i := 782) (by decide +kernel)⟩
theorem lw_p45 : lw_okq (⟨"LightRoom$Cheapest", "layPatchRows", "(LLightRoom$Walls;LLightRoom$Glow;)V"⟩, 15) := ⟨⟨by decide +kernel, by decide +kernel⟩, List.mem_of_getElem? (i := 229) (by decide +kernel), List.mem_of_getElem? (i := 785) (by decide +kernel), List.mem_of_getElem? (i := 786) (by decide +kernel)⟩
theorem lw_p46 : lw_okq (⟨"LightRoom$Cheapest", "layBounds", "(LLightRoom$Walls;)V"⟩, 15) := ⟨⟨by decide +kernel, by decide +kernel⟩, List.mem_of_getElem? (i := 229) (by decide +kernel), List.mem_of_getElem? (i := 793) (by decide +kernel), List.mem_of_getElem? (i := 794) (by decide +kernel)⟩
theorem lw_p47 : lw_okq (⟨"LightRoom$Cheapest", "place", "()V"⟩, 15) := ⟨⟨by decide +kernel, by decide +kernel⟩, List.mem_of_getElem? (i := 229) (by decide +kernel), List.mem_of_getElem? (i := 799) (by decide +kernel), List.mem_of_getElem? (i := 800) (by decide +kernel)⟩
def lw_privs_3 : List (MethodName × Nat) := [(⟨"LightRoom$Big", "takeAway", "(LLightRoom$Big;I)I"⟩, 3), (⟨"LightRoom$Big", "limbAt", "(I)I"⟩, 3), (⟨"LightRoom$Big", "takeTimes", "(LLightRoom$Big;JI)J"⟩, 3), (⟨"LightRoom$Big", "giveBack", "(LLightRoom$Big;I)I"⟩, 3), (⟨"LightRoom$Glow", "scaleColumns", "(LLightRoom$Walls;I)V"⟩, 6), (⟨"LightRoom$Out", "write", "(LLightRoom$Big;)V"⟩, 7), (⟨"LightRoom$Out", "put", "(I)V"⟩, 7), (⟨"LightRoom$Out", "writeLimb", "(IZ)Z"⟩, 7), (⟨"LightRoom$Bounces", "bounceAt", "(ILLightRoom$Walls;LLightRoom$Table;)V"⟩, 8), (⟨"LightRoom", "bouncesNeeded", "(I)I"⟩, 7), (⟨"LightRoom", "priceStatus", "(III)I"⟩, 7), (⟨"LightRoom", "lampStatus", "(I)I"⟩, 7), (⟨"LightRoom$Cheapest", "nameLamps", "(LLightRoom$Walls;)V"⟩, 15), (⟨"LightRoom$Cheapest", "layPatchRows", "(LLightRoom$Walls;LLightRoom$Glow;)V"⟩, 15), (⟨"LightRoom$Cheapest", "layBounds", "(LLightRoom$Walls;)V"⟩, 15), (⟨"LightRoom$Cheapest", "place", "()V"⟩, 15)]
theorem lw_r3 : ∀ q ∈ lw_privs_3, lw_okq q := List.forall_mem_cons.mpr ⟨lw_p32, List.forall_mem_cons.mpr ⟨lw_p33, List.forall_mem_cons.mpr ⟨lw_p34, List.forall_mem_cons.mpr ⟨lw_p35, List.forall_mem_cons.mpr ⟨lw_p36, List.forall_mem_cons.mpr ⟨lw_p37, List.forall_mem_cons.mpr ⟨lw_p38, List.forall_mem_cons.mpr ⟨lw_p39, List.forall_mem_cons.mpr ⟨lw_p40, List.forall_mem_cons.mpr ⟨lw_p41, List.forall_mem_cons.mpr ⟨lw_p42, List.forall_mem_cons.mpr ⟨lw_p43, List.forall_mem_cons.mpr ⟨lw_p44, List.forall_mem_cons.mpr ⟨lw_p45, List.forall_mem_cons.mpr ⟨lw_p46, List.forall_mem_cons.mpr ⟨lw_p47, fun _ h => absurd h List.not_mem_nil⟩⟩⟩⟩⟩⟩⟩⟩⟩⟩⟩⟩⟩⟩⟩⟩
theorem lw_p48 : lw_okq (⟨"LightRoom$Cheapest", "setWay", "(II)V"⟩, 15) := ⟨⟨by decide +kernel, by decide +kernel⟩, List.mem_of_getElem? (i := 229) (by decide +kernel), List.mem_of_getElem? (i := 803) (by decide +kernel), List.mem_of_getElem? (i := 804) (by decide +kernel)⟩
theorem lw_p49 : lw_okq (⟨"LightRoom$Cheapest", "firstBroken", "()I"⟩, 15) := ⟨⟨by decide +kernel, by decide +kernel⟩, List.mem_of_getElem? (i := 229) (by decide +kernel), List.mem_of_getElem? (i := 814) (by decide +kernel), List.mem_of_getElem? (i := 815) (by decide +kernel)⟩
theorem lw_p50 : lw_okq (⟨"LightRoom$Cheapest", "placeToLeave", "(I)I"⟩, 15) := ⟨⟨by decide +kernel, by decide +kernel⟩, List.mem_of_getElem? (i := 229) (by decide +kernel), List.mem_of_getElem? (i := 818) (by decide +kernel), List.mem_of_getElem? (i := 819) (by decide +kernel)⟩
theorem lw_p51 : lw_okq (⟨"LightRoom$Cheapest", "isBefore", "(II)Z"⟩, 15) := ⟨⟨by decide +kernel, by decide +kernel⟩, List.mem_of_getElem? (i := 229) (by decide +kernel), List.mem_of_getElem? (i := 823) (by decide +kernel), List.mem_of_getElem? (i := 824) (by decide +kernel)⟩
theorem lw_p52 : lw_okq (⟨"LightRoom$Cheapest", "compareBy", "(LLightRoom$Big;LLightRoom$Big;II)I"⟩, 15) := ⟨⟨by decide +kernel, by decide +kernel⟩, List.mem_of_getElem? (i := 229) (by decide +kernel), List.mem_of_getElem? (i := 827) (by decide +kernel), List.mem_of_getElem? (i := 828) (by decide +kernel)⟩
theorem lw_p53 : lw_okq (⟨"LightRoom$Cheapest", "addPrices", "()V"⟩, 15) := ⟨⟨by decide +kernel, by decide +kernel⟩, List.mem_of_getElem? (i := 229) (by decide +kernel), List.mem_of_getElem? (i := 831) (by decide +kernel), List.mem_of_getElem? (i := 832) (by decide +kernel)⟩
theorem lw_p54 : lw_okq (⟨"LightRoomModel", "refuse", "(I)I"⟩, 39) := ⟨⟨by decide +kernel, by decide +kernel⟩, List.mem_of_getElem? (i := 843) (by decide +kernel), List.mem_of_getElem? (i := 976) (by decide +kernel), List.mem_of_getElem? (i := 977) (by decide +kernel)⟩
theorem lw_p55 : lw_okq (⟨"LightRoomModel", "isCorner", "(I)Z"⟩, 39) := ⟨⟨by decide +kernel, by decide +kernel⟩, List.mem_of_getElem? (i := 843) (by decide +kernel), List.mem_of_getElem? (i := 984) (by decide +kernel), List.mem_of_getElem? (i := 985) (by decide +kernel)⟩
theorem lw_p56 : lw_okq (⟨"LightRoomModel", "meet", "(IIII)Z"⟩, 39) := ⟨⟨by decide +kernel, by decide +kernel⟩, List.mem_of_getElem? (i := 843) (by decide +kernel), List.mem_of_getElem? (i := 988) (by decide +kernel), List.mem_of_getElem? (i := 989) (by decide +kernel)⟩
theorem lw_p57 : lw_okq (⟨"LightRoomModel", "isWithin", "(III)Z"⟩, 39) := ⟨⟨by decide +kernel, by decide +kernel⟩, List.mem_of_getElem? (i := 843) (by decide +kernel), List.mem_of_getElem? (i := 992) (by decide +kernel), List.mem_of_getElem? (i := 993) (by decide +kernel)⟩
theorem lw_p58 : lw_okq (⟨"LightRoomModel", "side", "(III)J"⟩, 39) := ⟨⟨by decide +kernel, by decide +kernel⟩, List.mem_of_getElem? (i := 843) (by decide +kernel), List.mem_of_getElem? (i := 996) (by decide +kernel), List.mem_of_getElem? (i := 997) (by decide +kernel)⟩
theorem lw_p59 : lw_okq (⟨"LightRoomModel", "isPatch", "(I)Z"⟩, 39) := ⟨⟨by decide +kernel, by decide +kernel⟩, List.mem_of_getElem? (i := 843) (by decide +kernel), List.mem_of_getElem? (i := 1007) (by decide +kernel), List.mem_of_getElem? (i := 1008) (by decide +kernel)⟩
theorem lw_p60 : lw_okq (⟨"LightRoomModel", "is", "(I)Z"⟩, 39) := ⟨⟨by decide +kernel, by decide +kernel⟩, List.mem_of_getElem? (i := 843) (by decide +kernel), List.mem_of_getElem? (i := 1011) (by decide +kernel), List.mem_of_getElem? (i := 1012) (by decide +kernel)⟩
theorem lw_p61 : lw_okq (⟨"LightRoomModel", "sightOf", "(II)I"⟩, 39) := ⟨⟨by decide +kernel, by decide +kernel⟩, List.mem_of_getElem? (i := 843) (by decide +kernel), List.mem_of_getElem? (i := 1027) (by decide +kernel), List.mem_of_getElem? (i := 1028) (by decide +kernel)⟩
theorem lw_p62 : lw_okq (⟨"LightRoomModel", "isInside", "(I)Z"⟩, 39) := ⟨⟨by decide +kernel, by decide +kernel⟩, List.mem_of_getElem? (i := 843) (by decide +kernel), List.mem_of_getElem? (i := 1031) (by decide +kernel), List.mem_of_getElem? (i := 1032) (by decide +kernel)⟩
theorem lw_p63 : lw_okq (⟨"LightRoomModel", "string", "(IIIZ)J"⟩, 39) := ⟨⟨by decide +kernel, by decide +kernel⟩, List.mem_of_getElem? (i := 843) (by decide +kernel), List.mem_of_getElem? (i := 1040) (by decide +kernel), List.mem_of_getElem? (i := 1041) (by decide +kernel)⟩
def lw_privs_4 : List (MethodName × Nat) := [(⟨"LightRoom$Cheapest", "setWay", "(II)V"⟩, 15), (⟨"LightRoom$Cheapest", "firstBroken", "()I"⟩, 15), (⟨"LightRoom$Cheapest", "placeToLeave", "(I)I"⟩, 15), (⟨"LightRoom$Cheapest", "isBefore", "(II)Z"⟩, 15), (⟨"LightRoom$Cheapest", "compareBy", "(LLightRoom$Big;LLightRoom$Big;II)I"⟩, 15), (⟨"LightRoom$Cheapest", "addPrices", "()V"⟩, 15), (⟨"LightRoomModel", "refuse", "(I)I"⟩, 39), (⟨"LightRoomModel", "isCorner", "(I)Z"⟩, 39), (⟨"LightRoomModel", "meet", "(IIII)Z"⟩, 39), (⟨"LightRoomModel", "isWithin", "(III)Z"⟩, 39), (⟨"LightRoomModel", "side", "(III)J"⟩, 39), (⟨"LightRoomModel", "isPatch", "(I)Z"⟩, 39), (⟨"LightRoomModel", "is", "(I)Z"⟩, 39), (⟨"LightRoomModel", "sightOf", "(II)I"⟩, 39), (⟨"LightRoomModel", "isInside", "(I)Z"⟩, 39), (⟨"LightRoomModel", "string", "(IIIZ)J"⟩, 39)]
theorem lw_r4 : ∀ q ∈ lw_privs_4, lw_okq q := List.forall_mem_cons.mpr ⟨lw_p48, List.forall_mem_cons.mpr ⟨lw_p49, List.forall_mem_cons.mpr ⟨lw_p50, List.forall_mem_cons.mpr ⟨lw_p51, List.forall_mem_cons.mpr ⟨lw_p52, List.forall_mem_cons.mpr ⟨lw_p53, List.forall_mem_cons.mpr ⟨lw_p54, List.forall_mem_cons.mpr ⟨lw_p55, List.forall_mem_cons.mpr ⟨lw_p56, List.forall_mem_cons.mpr ⟨lw_p57, List.forall_mem_cons.mpr ⟨lw_p58, List.forall_mem_cons.mpr ⟨lw_p59, List.forall_mem_cons.mpr ⟨lw_p60, List.forall_mem_cons.mpr ⟨lw_p61, List.forall_mem_cons.mpr ⟨lw_p62, List.forall_mem_cons.mpr ⟨lw_p63, fun _ h => absurd h List.not_mem_nil⟩⟩⟩⟩⟩⟩⟩⟩⟩⟩⟩⟩⟩⟩⟩⟩
theorem lw_p64 : lw_okq (⟨"LightRoomModel", "crossedSum", "(IIIZ)J"⟩, 39) := ⟨⟨by decide +kernel, by decide +kernel⟩, List.mem_of_getElem? (i := 843) (by decide +kernel), List.mem_of_getElem? (i := 1053) (by decide +kernel), List.mem_of_getElem? (i := 1054) (by decide +kernel)⟩
theorem lw_p65 : lw_okq (⟨"LightRoomModel", "openSum", "(IIIZ)J"⟩, 39) := ⟨⟨by decide +kernel, by decide +kernel⟩, List.mem_of_getElem? (i := 843) (by decide +kernel), List.mem_of_getElem? (i := 1057) (by decide +kernel), List.mem_of_getElem? (i := 1058) (by decide +kernel)⟩
theorem lw_p66 : lw_okq (⟨"LightRoomModel", "allPulls", "()V"⟩, 39) := ⟨⟨by decide +kernel, by decide +kernel⟩, List.mem_of_getElem? (i := 843) (by decide +kernel), List.mem_of_getElem? (i := 1085) (by decide +kernel), List.mem_of_getElem? (i := 1086) (by decide +kernel)⟩
theorem lw_p67 : lw_okq (⟨"LightRoomModel", "pulls", "(I)V"⟩, 39) := ⟨⟨by decide +kernel, by decide +kernel⟩, List.mem_of_getElem? (i := 843) (by decide +kernel), List.mem_of_getElem? (i := 1089) (by decide +kernel), List.mem_of_getElem? (i := 1090) (by decide +kernel)⟩
theorem lw_p68 : lw_okq (⟨"LightRoomModel", "clean", "()V"⟩, 39) := ⟨⟨by decide +kernel, by decide +kernel⟩, List.mem_of_getElem? (i := 843) (by decide +kernel), List.mem_of_getElem? (i := 1093) (by decide +kernel), List.mem_of_getElem? (i := 1094) (by decide +kernel)⟩
theorem lw_p69 : lw_okq (⟨"LightRoomModel", "whole", "(J)I"⟩, 39) := ⟨⟨by decide +kernel, by decide +kernel⟩, List.mem_of_getElem? (i := 843) (by decide +kernel), List.mem_of_getElem? (i := 1097) (by decide +kernel), List.mem_of_getElem? (i := 1098) (by decide +kernel)⟩
theorem lw_p70 : lw_okq (⟨"LightRoomModel", "room", "(I)I"⟩, 39) := ⟨⟨by decide +kernel, by decide +kernel⟩, List.mem_of_getElem? (i := 843) (by decide +kernel), List.mem_of_getElem? (i := 1101) (by decide +kernel), List.mem_of_getElem? (i := 1102) (by decide +kernel)⟩
theorem lw_p71 : lw_okq (⟨"LightRoomModel", "done", "(IIZ)I"⟩, 39) := ⟨⟨by decide +kernel, by decide +kernel⟩, List.mem_of_getElem? (i := 843) (by decide +kernel), List.mem_of_getElem? (i := 1106) (by decide +kernel), List.mem_of_getElem? (i := 1107) (by decide +kernel)⟩
theorem lw_p72 : lw_okq (⟨"LightRoomModel", "times", "(II)I"⟩, 39) := ⟨⟨by decide +kernel, by decide +kernel⟩, List.mem_of_getElem? (i := 843) (by decide +kernel), List.mem_of_getElem? (i := 1110) (by decide +kernel), List.mem_of_getElem? (i := 1111) (by decide +kernel)⟩
theorem lw_p73 : lw_okq (⟨"LightRoomModel", "sign", "(I)I"⟩, 39) := ⟨⟨by decide +kernel, by decide +kernel⟩, List.mem_of_getElem? (i := 843) (by decide +kernel), List.mem_of_getElem? (i := 1114) (by decide +kernel), List.mem_of_getElem? (i := 1115) (by decide +kernel)⟩
theorem lw_p74 : lw_okq (⟨"LightRoomModel", "size", "(I)I"⟩, 39) := ⟨⟨by decide +kernel, by decide +kernel⟩, List.mem_of_getElem? (i := 843) (by decide +kernel), List.mem_of_getElem? (i := 1118) (by decide +kernel), List.mem_of_getElem? (i := 1119) (by decide +kernel)⟩
theorem lw_p75 : lw_okq (⟨"LightRoomModel", "less", "(II)I"⟩, 39) := ⟨⟨by decide +kernel, by decide +kernel⟩, List.mem_of_getElem? (i := 843) (by decide +kernel), List.mem_of_getElem? (i := 1122) (by decide +kernel), List.mem_of_getElem? (i := 1123) (by decide +kernel)⟩
theorem lw_p76 : lw_okq (⟨"LightRoomModel", "turned", "(I)I"⟩, 39) := ⟨⟨by decide +kernel, by decide +kernel⟩, List.mem_of_getElem? (i := 843) (by decide +kernel), List.mem_of_getElem? (i := 1126) (by decide +kernel), List.mem_of_getElem? (i := 1127) (by decide +kernel)⟩
theorem lw_p77 : lw_okq (⟨"LightRoomModel", "copy", "(I)I"⟩, 39) := ⟨⟨by decide +kernel, by decide +kernel⟩, List.mem_of_getElem? (i := 843) (by decide +kernel), List.mem_of_getElem? (i := 1130) (by decide +kernel), List.mem_of_getElem? (i := 1131) (by decide +kernel)⟩
theorem lw_p78 : lw_okq (⟨"LightRoomModel", "sum", "(II)I"⟩, 39) := ⟨⟨by decide +kernel, by decide +kernel⟩, List.mem_of_getElem? (i := 843) (by decide +kernel), List.mem_of_getElem? (i := 1134) (by decide +kernel), List.mem_of_getElem? (i := 1135) (by decide +kernel)⟩
theorem lw_p79 : lw_okq (⟨"LightRoomModel", "compareSizes", "(II)I"⟩, 39) := ⟨⟨by decide +kernel, by decide +kernel⟩, List.mem_of_getElem? (i := 843) (by decide +kernel), List.mem_of_getElem? (i := 1140) (by decide +kernel), List.mem_of_getElem? (i := 1141) (by decide +kernel)⟩
def lw_privs_5 : List (MethodName × Nat) := [(⟨"LightRoomModel", "crossedSum", "(IIIZ)J"⟩, 39), (⟨"LightRoomModel", "openSum", "(IIIZ)J"⟩, 39), (⟨"LightRoomModel", "allPulls", "()V"⟩, 39), (⟨"LightRoomModel", "pulls", "(I)V"⟩, 39), (⟨"LightRoomModel", "clean", "()V"⟩, 39), (⟨"LightRoomModel", "whole", "(J)I"⟩, 39), (⟨"LightRoomModel", "room", "(I)I"⟩, 39), (⟨"LightRoomModel", "done", "(IIZ)I"⟩, 39), (⟨"LightRoomModel", "times", "(II)I"⟩, 39), (⟨"LightRoomModel", "sign", "(I)I"⟩, 39), (⟨"LightRoomModel", "size", "(I)I"⟩, 39), (⟨"LightRoomModel", "less", "(II)I"⟩, 39), (⟨"LightRoomModel", "turned", "(I)I"⟩, 39), (⟨"LightRoomModel", "copy", "(I)I"⟩, 39), (⟨"LightRoomModel", "sum", "(II)I"⟩, 39), (⟨"LightRoomModel", "compareSizes", "(II)I"⟩, 39)]
theorem lw_r5 : ∀ q ∈ lw_privs_5, lw_okq q := List.forall_mem_cons.mpr ⟨lw_p64, List.forall_mem_cons.mpr ⟨lw_p65, List.forall_mem_cons.mpr ⟨lw_p66, List.forall_mem_cons.mpr ⟨lw_p67, List.forall_mem_cons.mpr ⟨lw_p68, List.forall_mem_cons.mpr ⟨lw_p69, List.forall_mem_cons.mpr ⟨lw_p70, List.forall_mem_cons.mpr ⟨lw_p71, List.forall_mem_cons.mpr ⟨lw_p72, List.forall_mem_cons.mpr ⟨lw_p73, List.forall_mem_cons.mpr ⟨lw_p74, List.forall_mem_cons.mpr ⟨lw_p75, List.forall_mem_cons.mpr ⟨lw_p76, List.forall_mem_cons.mpr ⟨lw_p77, List.forall_mem_cons.mpr ⟨lw_p78, List.forall_mem_cons.mpr ⟨lw_p79, fun _ h => absurd h List.not_mem_nil⟩⟩⟩⟩⟩⟩⟩⟩⟩⟩⟩⟩⟩⟩⟩⟩
theorem lw_p80 : lw_okq (⟨"LightRoomModel", "divided", "(II)I"⟩, 39) := ⟨⟨by decide +kernel, by decide +kernel⟩, List.mem_of_getElem? (i := 843) (by decide +kernel), List.mem_of_getElem? (i := 1144) (by decide +kernel), List.mem_of_getElem? (i := 1145) (by decide +kernel)⟩
theorem lw_p81 : lw_okq (⟨"LightRoomModel", "divide", "(II)V"⟩, 39) := ⟨⟨by decide +kernel, by decide +kernel⟩, List.mem_of_getElem? (i := 843) (by decide +kernel), List.mem_of_getElem? (i := 1148) (by decide +kernel), List.mem_of_getElem? (i := 1149) (by decide +kernel)⟩
theorem lw_p82 : lw_okq (⟨"LightRoomModel", "divideShort", "(I)V"⟩, 39) := ⟨⟨by decide +kernel, by decide +kernel⟩, List.mem_of_getElem? (i := 843) (by decide +kernel), List.mem_of_getElem? (i := 1152) (by decide +kernel), List.mem_of_getElem? (i := 1153) (by decide +kernel)⟩
theorem lw_p83 : lw_okq (⟨"LightRoomModel", "step", "(II)I"⟩, 39) := ⟨⟨by decide +kernel, by decide +kernel⟩, List.mem_of_getElem? (i := 843) (by decide +kernel), List.mem_of_getElem? (i := 1157) (by decide +kernel), List.mem_of_getElem? (i := 1158) (by decide +kernel)⟩
theorem lw_p84 : lw_okq (⟨"LightRoomModel", "keep", "(II)V"⟩, 39) := ⟨⟨by decide +kernel, by decide +kernel⟩, List.mem_of_getElem? (i := 843) (by decide +kernel), List.mem_of_getElem? (i := 1162) (by decide +kernel), List.mem_of_getElem? (i := 1163) (by decide +kernel)⟩
theorem lw_p85 : lw_okq (⟨"LightRoomModel", "lightOf", "(I)I"⟩, 39) := ⟨⟨by decide +kernel, by decide +kernel⟩, List.mem_of_getElem? (i := 843) (by decide +kernel), List.mem_of_getElem? (i := 1166) (by decide +kernel), List.mem_of_getElem? (i := 1167) (by decide +kernel)⟩
theorem lw_p86 : lw_okq (⟨"LightRoomModel", "held", "(I)I"⟩, 39) := ⟨⟨by decide +kernel, by decide +kernel⟩, List.mem_of_getElem? (i := 843) (by decide +kernel), List.mem_of_getElem? (i := 1170) (by decide +kernel), List.mem_of_getElem? (i := 1171) (by decide +kernel)⟩
theorem lw_p87 : lw_okq (⟨"LightRoomModel", "tells", "(II)I"⟩, 39) := ⟨⟨by decide +kernel, by decide +kernel⟩, List.mem_of_getElem? (i := 843) (by decide +kernel), List.mem_of_getElem? (i := 1174) (by decide +kernel), List.mem_of_getElem? (i := 1175) (by decide +kernel)⟩
theorem lw_p88 : lw_okq (⟨"LightRoomModel", "common", "(II)I"⟩, 39) := ⟨⟨by decide +kernel, by decide +kernel⟩, List.mem_of_getElem? (i := 843) (by decide +kernel), List.mem_of_getElem? (i := 1178) (by decide +kernel), List.mem_of_getElem? (i := 1179) (by decide +kernel)⟩
theorem lw_p89 : lw_okq (⟨"LightRoomModel", "put", "(II)V"⟩, 39) := ⟨⟨by decide +kernel, by decide +kernel⟩, List.mem_of_getElem? (i := 843) (by decide +kernel), List.mem_of_getElem? (i := 1182) (by decide +kernel), List.mem_of_getElem? (i := 1183) (by decide +kernel)⟩
theorem lw_p90 : lw_okq (⟨"LightRoomModel", "tellsNumber", "(I)V"⟩, 39) := ⟨⟨by decide +kernel, by decide +kernel⟩, List.mem_of_getElem? (i := 843) (by decide +kernel), List.mem_of_getElem? (i := 1186) (by decide +kernel), List.mem_of_getElem? (i := 1187) (by decide +kernel)⟩
theorem lw_p91 : lw_okq (⟨"LightRoomModel", "tells0", "(I)V"⟩, 39) := ⟨⟨by decide +kernel, by decide +kernel⟩, List.mem_of_getElem? (i := 843) (by decide +kernel), List.mem_of_getElem? (i := 1190) (by decide +kernel), List.mem_of_getElem? (i := 1191) (by decide +kernel)⟩
theorem lw_p92 : lw_okq (⟨"LightRoomModel", "firstBounce", "()V"⟩, 39) := ⟨⟨by decide +kernel, by decide +kernel⟩, List.mem_of_getElem? (i := 843) (by decide +kernel), List.mem_of_getElem? (i := 1199) (by decide +kernel), List.mem_of_getElem? (i := 1200) (by decide +kernel)⟩
theorem lw_p93 : lw_okq (⟨"LightRoomModel", "nextBounce", "()V"⟩, 39) := ⟨⟨by decide +kernel, by decide +kernel⟩, List.mem_of_getElem? (i := 843) (by decide +kernel), List.mem_of_getElem? (i := 1203) (by decide +kernel), List.mem_of_getElem? (i := 1204) (by decide +kernel)⟩
theorem lw_p94 : lw_okq (⟨"LightRoomModel", "finds", "()Z"⟩, 39) := ⟨⟨by decide +kernel, by decide +kernel⟩, List.mem_of_getElem? (i := 843) (by decide +kernel), List.mem_of_getElem? (i := 1228) (by decide +kernel), List.mem_of_getElem? (i := 1229) (by decide +kernel)⟩
theorem lw_p95 : lw_okq (⟨"LightRoomModel", "tellLimits", "()V"⟩, 39) := ⟨⟨by decide +kernel, by decide +kernel⟩, List.mem_of_getElem? (i := 843) (by decide +kernel), List.mem_of_getElem? (i := 1232) (by decide +kernel), List.mem_of_getElem? (i := 1233) (by decide +kernel)⟩
def lw_privs_6 : List (MethodName × Nat) := [(⟨"LightRoomModel", "divided", "(II)I"⟩, 39), (⟨"LightRoomModel", "divide", "(II)V"⟩, 39), (⟨"LightRoomModel", "divideShort", "(I)V"⟩, 39), (⟨"LightRoomModel", "step", "(II)I"⟩, 39), (⟨"LightRoomModel", "keep", "(II)V"⟩, 39), (⟨"LightRoomModel", "lightOf", "(I)I"⟩, 39), (⟨"LightRoomModel", "held", "(I)I"⟩, 39), (⟨"LightRoomModel", "tells", "(II)I"⟩, 39), (⟨"LightRoomModel", "common", "(II)I"⟩, 39), (⟨"LightRoomModel", "put", "(II)V"⟩, 39), (⟨"LightRoomModel", "tellsNumber", "(I)V"⟩, 39), (⟨"LightRoomModel", "tells0", "(I)V"⟩, 39), (⟨"LightRoomModel", "firstBounce", "()V"⟩, 39), (⟨"LightRoomModel", "nextBounce", "()V"⟩, 39), (⟨"LightRoomModel", "finds", "()Z"⟩, 39), (⟨"LightRoomModel", "tellLimits", "()V"⟩, 39)]
theorem lw_r6 : ∀ q ∈ lw_privs_6, lw_okq q := List.forall_mem_cons.mpr ⟨lw_p80, List.forall_mem_cons.mpr ⟨lw_p81, List.forall_mem_cons.mpr ⟨lw_p82, List.forall_mem_cons.mpr ⟨lw_p83, List.forall_mem_cons.mpr ⟨lw_p84, List.forall_mem_cons.mpr ⟨lw_p85, List.forall_mem_cons.mpr ⟨lw_p86, List.forall_mem_cons.mpr ⟨lw_p87, List.forall_mem_cons.mpr ⟨lw_p88, List.forall_mem_cons.mpr ⟨lw_p89, List.forall_mem_cons.mpr ⟨lw_p90, List.forall_mem_cons.mpr ⟨lw_p91, List.forall_mem_cons.mpr ⟨lw_p92, List.forall_mem_cons.mpr ⟨lw_p93, List.forall_mem_cons.mpr ⟨lw_p94, List.forall_mem_cons.mpr ⟨lw_p95, fun _ h => absurd h List.not_mem_nil⟩⟩⟩⟩⟩⟩⟩⟩⟩⟩⟩⟩⟩⟩⟩⟩
theorem lw_p96 : lw_okq (⟨"LightRoomModel", "addLimit", "(IJI)V"⟩, 39) := ⟨⟨by decide +kernel, by decide +kernel⟩, List.mem_of_getElem? (i := 843) (by decide +kernel), List.mem_of_getElem? (i := 1236) (by decide +kernel), List.mem_of_getElem? (i := 1237) (by decide +kernel)⟩
theorem lw_p97 : lw_okq (⟨"LightRoomModel", "meets", "()Z"⟩, 39) := ⟨⟨by decide +kernel, by decide +kernel⟩, List.mem_of_getElem? (i := 843) (by decide +kernel), List.mem_of_getElem? (i := 1240) (by decide +kernel), List.mem_of_getElem? (i := 1241) (by decide +kernel)⟩
theorem lw_p98 : lw_okq (⟨"LightRoomModel", "isGood", "()Z"⟩, 39) := ⟨⟨by decide +kernel, by decide +kernel⟩, List.mem_of_getElem? (i := 843) (by decide +kernel), List.mem_of_getElem? (i := 1244) (by decide +kernel), List.mem_of_getElem? (i := 1245) (by decide +kernel)⟩
theorem lw_p99 : lw_okq (⟨"LightRoomModel", "isBetter", "()Z"⟩, 39) := ⟨⟨by decide +kernel, by decide +kernel⟩, List.mem_of_getElem? (i := 843) (by decide +kernel), List.mem_of_getElem? (i := 1248) (by decide +kernel), List.mem_of_getElem? (i := 1249) (by decide +kernel)⟩
theorem lw_p100 : lw_okq (⟨"LightRoomModel", "pays", "()I"⟩, 39) := ⟨⟨by decide +kernel, by decide +kernel⟩, List.mem_of_getElem? (i := 843) (by decide +kernel), List.mem_of_getElem? (i := 1252) (by decide +kernel), List.mem_of_getElem? (i := 1253) (by decide +kernel)⟩
def lw_privs_7 : List (MethodName × Nat) := [(⟨"LightRoomModel", "addLimit", "(IJI)V"⟩, 39), (⟨"LightRoomModel", "meets", "()Z"⟩, 39), (⟨"LightRoomModel", "isGood", "()Z"⟩, 39), (⟨"LightRoomModel", "isBetter", "()Z"⟩, 39), (⟨"LightRoomModel", "pays", "()I"⟩, 39)]
theorem lw_r7 : ∀ q ∈ lw_privs_7, lw_okq q := List.forall_mem_cons.mpr ⟨lw_p96, List.forall_mem_cons.mpr ⟨lw_p97, List.forall_mem_cons.mpr ⟨lw_p98, List.forall_mem_cons.mpr ⟨lw_p99, List.forall_mem_cons.mpr ⟨lw_p100, fun _ h => absurd h List.not_mem_nil⟩⟩⟩⟩⟩
def lw_privs : List (MethodName × Nat) := lw_privs_1 ++ (lw_privs_2 ++ (lw_privs_3 ++ (lw_privs_4 ++ (lw_privs_5 ++ (lw_privs_6 ++ (lw_privs_7))))))
def lw_tbl : List Cond := k2_sels lw_privs ++ tables_1
theorem lw_privs_ok : ∀ q ∈ lw_privs, lw_okq q := by
  show ∀ q ∈ lw_privs_1 ++ (lw_privs_2 ++ (lw_privs_3 ++ (lw_privs_4 ++ (lw_privs_5 ++ (lw_privs_6 ++ (lw_privs_7)))))), lw_okq q
  exact List.forall_mem_append.mpr ⟨lw_r1, List.forall_mem_append.mpr ⟨lw_r2, List.forall_mem_append.mpr ⟨lw_r3, List.forall_mem_append.mpr ⟨lw_r4, List.forall_mem_append.mpr ⟨lw_r5, List.forall_mem_append.mpr ⟨lw_r6, lw_r7⟩⟩⟩⟩⟩⟩

/-! the classes: names, fields in the order of their slots, types -/
def cN (i : Nat) : String := match i with
  | 0 => "LightRoom$Big"
  | 1 => "LightRoom$Bounces"
  | 2 => "LightRoom$Cheapest"
  | 3 => "LightRoom$Glow"
  | 4 => "LightRoom$Out"
  | 5 => "LightRoom$Patch"
  | 6 => "LightRoom$Table"
  | 7 => "LightRoom$Walls"
  | 8 => "LightRoom"
  | 9 => "LightRoomModel"
  | 10 => "LightRoomLaw"
  | 11 => "java/lang/Math"
  | _ => ""
def TX0 : u_T := fun k => match k with
  | 0 => ("LightRoom$Big", "limbs", "[I", true)
  | 1 => ("LightRoom$Big", "size", "I", false)
  | _ => ("LightRoom$Big", "below", "Z", false)
def tyX0 : Nat → FieldType := fun k => match k with
  | 0 => .array .int
  | 1 => .int
  | _ => .boolean
theorem nmX0 : ∀ a, a < 3 → ∀ b, b < 3 → a ≠ b → (TX0 a).2.1 ≠ (TX0 b).2.1 := by decide +kernel
theorem tyX0_ok : ∀ k, k < 3 → parseFieldDescriptor (TX0 k).2.2.1 = some (tyX0 k) := by decide +kernel
theorem inX0 : ∀ w ∈ u_ws (cN 0) TX0 3, w ∈ lw_tbl := by
  have h : u_ws (cN 0) TX0 3 = [261, 263, 265].filterMap (fun i => lw_tbl[i]?) := by decide +kernel
  intro w hw
  rw [h] at hw
  obtain ⟨i, -, hi⟩ := List.mem_filterMap.mp hw
  exact List.mem_of_getElem? hi
def TX1 : u_T := fun k => match k with
  | 0 => ("LightRoom$Bounces", "now", "[LLightRoom$Big;", false)
  | 1 => ("LightRoom$Bounces", "next", "[LLightRoom$Big;", false)
  | 2 => ("LightRoom$Bounces", "scale", "LLightRoom$Big;", true)
  | 3 => ("LightRoom$Bounces", "step", "LLightRoom$Big;", true)
  | 4 => ("LightRoom$Bounces", "weight", "LLightRoom$Big;", true)
  | 5 => ("LightRoom$Bounces", "sum", "LLightRoom$Big;", true)
  | 6 => ("LightRoom$Bounces", "product", "LLightRoom$Big;", true)
  | _ => ("LightRoom$Bounces", "multiple", "J", false)
def tyX1 : Nat → FieldType := fun k => match k with
  | 0 => .array (.object "LightRoom$Big")
  | 1 => .array (.object "LightRoom$Big")
  | 2 => .object "LightRoom$Big"
  | 3 => .object "LightRoom$Big"
  | 4 => .object "LightRoom$Big"
  | 5 => .object "LightRoom$Big"
  | 6 => .object "LightRoom$Big"
  | _ => .long
theorem nmX1 : ∀ a, a < 8 → ∀ b, b < 8 → a ≠ b → (TX1 a).2.1 ≠ (TX1 b).2.1 := by decide +kernel
theorem tyX1_ok : ∀ k, k < 8 → parseFieldDescriptor (TX1 k).2.2.1 = some (tyX1 k) := by decide +kernel
theorem inX1 : ∀ w ∈ u_ws (cN 1) TX1 8, w ∈ lw_tbl := by
  have h : u_ws (cN 1) TX1 8 = [312, 314, 316, 318, 320, 322, 324, 326].filterMap (fun i => lw_tbl[i]?) := by decide +kernel
  intro w hw
  rw [h] at hw
  obtain ⟨i, -, hi⟩ := List.mem_filterMap.mp hw
  exact List.mem_of_getElem? hi
def TX2 : u_T := fun k => match k with
  | 0 => ("LightRoom$Cheapest", "slopes", "[LLightRoom$Big;", true)
  | 1 => ("LightRoom$Cheapest", "needs", "[LLightRoom$Big;", true)
  | 2 => ("LightRoom$Cheapest", "lampAt", "[I", true)
  | 3 => ("LightRoom$Cheapest", "prices", "[I", true)
  | 4 => ("LightRoom$Cheapest", "held", "[I", true)
  | 5 => ("LightRoom$Cheapest", "ways", "[LLightRoom$Big;", true)
  | 6 => ("LightRoom$Cheapest", "costs", "[LLightRoom$Big;", true)
  | 7 => ("LightRoom$Cheapest", "leans", "[LLightRoom$Big;", true)
  | 8 => ("LightRoom$Cheapest", "owns", "[LLightRoom$Big;", true)
  | 9 => ("LightRoom$Cheapest", "whole", "LLightRoom$Big;", true)
  | 10 => ("LightRoom$Cheapest", "total", "LLightRoom$Big;", true)
  | 11 => ("LightRoom$Cheapest", "sum", "LLightRoom$Big;", true)
  | 12 => ("LightRoom$Cheapest", "product", "LLightRoom$Big;", true)
  | 13 => ("LightRoom$Cheapest", "known", "Z", false)
  | _ => ("LightRoom$Cheapest", "found", "Z", false)
def tyX2 : Nat → FieldType := fun k => match k with
  | 0 => .array (.object "LightRoom$Big")
  | 1 => .array (.object "LightRoom$Big")
  | 2 => .array .int
  | 3 => .array .int
  | 4 => .array .int
  | 5 => .array (.object "LightRoom$Big")
  | 6 => .array (.object "LightRoom$Big")
  | 7 => .array (.object "LightRoom$Big")
  | 8 => .array (.object "LightRoom$Big")
  | 9 => .object "LightRoom$Big"
  | 10 => .object "LightRoom$Big"
  | 11 => .object "LightRoom$Big"
  | 12 => .object "LightRoom$Big"
  | 13 => .boolean
  | _ => .boolean
theorem nmX2 : ∀ a, a < 15 → ∀ b, b < 15 → a ≠ b → (TX2 a).2.1 ≠ (TX2 b).2.1 := by decide +kernel
theorem tyX2_ok : ∀ k, k < 15 → parseFieldDescriptor (TX2 k).2.2.1 = some (tyX2 k) := by decide +kernel
theorem inX2 : ∀ w ∈ u_ws (cN 2) TX2 15, w ∈ lw_tbl := by
  have h : u_ws (cN 2) TX2 15 = [356, 358, 360, 362, 364, 366, 368, 370, 372, 374, 376, 378, 380, 382, 384].filterMap (fun i => lw_tbl[i]?) := by decide +kernel
  intro w hw
  rw [h] at hw
  obtain ⟨i, -, hi⟩ := List.mem_filterMap.mp hw
  exact List.mem_of_getElem? hi
def TX3 : u_T := fun k => match k with
  | 0 => ("LightRoom$Glow", "pulls", "[LLightRoom$Big;", true)
  | 1 => ("LightRoom$Glow", "whole", "LLightRoom$Big;", true)
  | 2 => ("LightRoom$Glow", "sum", "LLightRoom$Big;", true)
  | 3 => ("LightRoom$Glow", "product", "LLightRoom$Big;", true)
  | 4 => ("LightRoom$Glow", "scratch", "LLightRoom$Big;", true)
  | _ => ("LightRoom$Glow", "known", "Z", false)
def tyX3 : Nat → FieldType := fun k => match k with
  | 0 => .array (.object "LightRoom$Big")
  | 1 => .object "LightRoom$Big"
  | 2 => .object "LightRoom$Big"
  | 3 => .object "LightRoom$Big"
  | 4 => .object "LightRoom$Big"
  | _ => .boolean
theorem nmX3 : ∀ a, a < 6 → ∀ b, b < 6 → a ≠ b → (TX3 a).2.1 ≠ (TX3 b).2.1 := by decide +kernel
theorem tyX3_ok : ∀ k, k < 6 → parseFieldDescriptor (TX3 k).2.2.1 = some (tyX3 k) := by decide +kernel
theorem inX3 : ∀ w ∈ u_ws (cN 3) TX3 6, w ∈ lw_tbl := by
  have h : u_ws (cN 3) TX3 6 = [281, 283, 285, 287, 289, 291].filterMap (fun i => lw_tbl[i]?) := by decide +kernel
  intro w hw
  rw [h] at hw
  obtain ⟨i, -, hi⟩ := List.mem_filterMap.mp hw
  exact List.mem_of_getElem? hi
def TX4 : u_T := fun k => match k with
  | 0 => ("LightRoom$Out", "bytes", "[B", true)
  | 1 => ("LightRoom$Out", "size", "I", false)
  | 2 => ("LightRoom$Out", "top", "LLightRoom$Big;", true)
  | 3 => ("LightRoom$Out", "bottom", "LLightRoom$Big;", true)
  | 4 => ("LightRoom$Out", "divided", "LLightRoom$Big;", true)
  | 5 => ("LightRoom$Out", "divisor", "LLightRoom$Big;", true)
  | _ => ("LightRoom$Out", "scratch", "LLightRoom$Big;", true)
def tyX4 : Nat → FieldType := fun k => match k with
  | 0 => .array .byte
  | 1 => .int
  | 2 => .object "LightRoom$Big"
  | 3 => .object "LightRoom$Big"
  | 4 => .object "LightRoom$Big"
  | 5 => .object "LightRoom$Big"
  | _ => .object "LightRoom$Big"
theorem nmX4 : ∀ a, a < 7 → ∀ b, b < 7 → a ≠ b → (TX4 a).2.1 ≠ (TX4 b).2.1 := by decide +kernel
theorem tyX4_ok : ∀ k, k < 7 → parseFieldDescriptor (TX4 k).2.2.1 = some (tyX4 k) := by decide +kernel
theorem inX4 : ∀ w ∈ u_ws (cN 4) TX4 7, w ∈ lw_tbl := by
  have h : u_ws (cN 4) TX4 7 = [402, 404, 406, 408, 410, 412, 414].filterMap (fun i => lw_tbl[i]?) := by decide +kernel
  intro w hw
  rw [h] at hw
  obtain ⟨i, -, hi⟩ := List.mem_filterMap.mp hw
  exact List.mem_of_getElem? hi
def TX5 : u_T := fun k => match k with
  | 0 => ("LightRoom$Patch", "kind", "I", false)
  | 1 => ("LightRoom$Patch", "first", "I", false)
  | 2 => ("LightRoom$Patch", "second", "I", false)
  | 3 => ("LightRoom$Patch", "top", "I", false)
  | 4 => ("LightRoom$Patch", "bottom", "I", false)
  | 5 => ("LightRoom$Patch", "own", "I", false)
  | 6 => ("LightRoom$Patch", "wanted", "I", false)
  | 7 => ("LightRoom$Patch", "price", "I", false)
  | _ => ("LightRoom$Patch", "most", "I", false)
def tyX5 : Nat → FieldType := fun k => match k with
  | 0 => .int
  | 1 => .int
  | 2 => .int
  | 3 => .int
  | 4 => .int
  | 5 => .int
  | 6 => .int
  | 7 => .int
  | _ => .int
theorem nmX5 : ∀ a, a < 9 → ∀ b, b < 9 → a ≠ b → (TX5 a).2.1 ≠ (TX5 b).2.1 := by decide +kernel
theorem tyX5_ok : ∀ k, k < 9 → parseFieldDescriptor (TX5 k).2.2.1 = some (tyX5 k) := by decide +kernel
theorem inX5 : ∀ w ∈ u_ws (cN 5) TX5 9, w ∈ lw_tbl := by
  have h : u_ws (cN 5) TX5 9 = [166, 168, 170, 172, 174, 176, 178, 180, 182].filterMap (fun i => lw_tbl[i]?) := by decide +kernel
  intro w hw
  rw [h] at hw
  obtain ⟨i, -, hi⟩ := List.mem_filterMap.mp hw
  exact List.mem_of_getElem? hi
def TX6 : u_T := fun k => match k with
  | 0 => ("LightRoom$Table", "parts", "I", false)
  | _ => ("LightRoom$Table", "rows", "[[I", true)
def tyX6 : Nat → FieldType := fun k => match k with
  | 0 => .int
  | _ => .array (.array .int)
theorem nmX6 : ∀ a, a < 2 → ∀ b, b < 2 → a ≠ b → (TX6 a).2.1 ≠ (TX6 b).2.1 := by decide +kernel
theorem tyX6_ok : ∀ k, k < 2 → parseFieldDescriptor (TX6 k).2.2.1 = some (tyX6 k) := by decide +kernel
theorem inX6 : ∀ w ∈ u_ws (cN 6) TX6 2, w ∈ lw_tbl := by
  have h : u_ws (cN 6) TX6 2 = [233, 235].filterMap (fun i => lw_tbl[i]?) := by decide +kernel
  intro w hw
  rw [h] at hw
  obtain ⟨i, -, hi⟩ := List.mem_filterMap.mp hw
  exact List.mem_of_getElem? hi
def TX7 : u_T := fun k => match k with
  | 0 => ("LightRoom$Walls", "xs", "[I", true)
  | 1 => ("LightRoom$Walls", "ys", "[I", true)
  | 2 => ("LightRoom$Walls", "corners", "I", false)
  | 3 => ("LightRoom$Walls", "patches", "[LLightRoom$Patch;", true)
  | 4 => ("LightRoom$Walls", "count", "I", false)
  | 5 => ("LightRoom$Walls", "lamps", "I", false)
  | _ => ("LightRoom$Walls", "ring", "[I", true)
def tyX7 : Nat → FieldType := fun k => match k with
  | 0 => .array .int
  | 1 => .array .int
  | 2 => .int
  | 3 => .array (.object "LightRoom$Patch")
  | 4 => .int
  | 5 => .int
  | _ => .array .int
theorem nmX7 : ∀ a, a < 7 → ∀ b, b < 7 → a ≠ b → (TX7 a).2.1 ≠ (TX7 b).2.1 := by decide +kernel
theorem tyX7_ok : ∀ k, k < 7 → parseFieldDescriptor (TX7 k).2.2.1 = some (tyX7 k) := by decide +kernel
theorem inX7 : ∀ w ∈ u_ws (cN 7) TX7 7, w ∈ lw_tbl := by
  have h : u_ws (cN 7) TX7 7 = [203, 205, 207, 209, 211, 213, 215].filterMap (fun i => lw_tbl[i]?) := by decide +kernel
  intro w hw
  rw [h] at hw
  obtain ⟨i, -, hi⟩ := List.mem_filterMap.mp hw
  exact List.mem_of_getElem? hi
def TX8 : u_T := fun k => match k with
  | 0 => ("LightRoom", "walls", "LLightRoom$Walls;", true)
  | 1 => ("LightRoom", "table", "LLightRoom$Table;", true)
  | 2 => ("LightRoom", "glow", "LLightRoom$Glow;", true)
  | 3 => ("LightRoom", "bounces", "LLightRoom$Bounces;", true)
  | 4 => ("LightRoom", "cheapest", "LLightRoom$Cheapest;", true)
  | 5 => ("LightRoom", "out", "LLightRoom$Out;", true)
  | _ => ("LightRoom", "status", "I", false)
def tyX8 : Nat → FieldType := fun k => match k with
  | 0 => .object "LightRoom$Walls"
  | 1 => .object "LightRoom$Table"
  | 2 => .object "LightRoom$Glow"
  | 3 => .object "LightRoom$Bounces"
  | 4 => .object "LightRoom$Cheapest"
  | 5 => .object "LightRoom$Out"
  | _ => .int
theorem nmX8 : ∀ a, a < 7 → ∀ b, b < 7 → a ≠ b → (TX8 a).2.1 ≠ (TX8 b).2.1 := by decide +kernel
theorem tyX8_ok : ∀ k, k < 7 → parseFieldDescriptor (TX8 k).2.2.1 = some (tyX8 k) := by decide +kernel
theorem inX8 : ∀ w ∈ u_ws (cN 8) TX8 7, w ∈ lw_tbl := by
  have h : u_ws (cN 8) TX8 7 = [425, 427, 429, 431, 433, 435, 437].filterMap (fun i => lw_tbl[i]?) := by decide +kernel
  intro w hw
  rw [h] at hw
  obtain ⟨i, -, hi⟩ := List.mem_filterMap.mp hw
  exact List.mem_of_getElem? hi
def TX9 : u_T := fun k => match k with
  | 0 => ("LightRoomModel", "status", "I", false)
  | 1 => ("LightRoomModel", "mem", "[I", true)
  | 2 => ("LightRoomModel", "top", "I", false)
  | 3 => ("LightRoomModel", "left", "[I", true)
  | 4 => ("LightRoomModel", "by", "[I", true)
  | 5 => ("LightRoomModel", "quotient", "[I", true)
  | 6 => ("LightRoomModel", "leftSize", "I", false)
  | 7 => ("LightRoomModel", "quotientSize", "I", false)
  | 8 => ("LightRoomModel", "cornerX", "[I", true)
  | 9 => ("LightRoomModel", "cornerY", "[I", true)
  | 10 => ("LightRoomModel", "from", "[I", true)
  | 11 => ("LightRoomModel", "to", "[I", true)
  | 12 => ("LightRoomModel", "kind", "[I", true)
  | 13 => ("LightRoomModel", "onN", "[I", true)
  | 14 => ("LightRoomModel", "onD", "[I", true)
  | 15 => ("LightRoomModel", "ownLight", "[I", true)
  | 16 => ("LightRoomModel", "wanted", "[I", true)
  | 17 => ("LightRoomModel", "price", "[I", true)
  | 18 => ("LightRoomModel", "most", "[I", true)
  | 19 => ("LightRoomModel", "corners", "I", false)
  | 20 => ("LightRoomModel", "patches", "I", false)
  | 21 => ("LightRoomModel", "parts", "I", false)
  | 22 => ("LightRoomModel", "table", "[I", true)
  | 23 => ("LightRoomModel", "four", "[I", true)
  | 24 => ("LightRoomModel", "kept", "[I", true)
  | 25 => ("LightRoomModel", "row", "[I", true)
  | 26 => ("LightRoomModel", "output", "[I", true)
  | 27 => ("LightRoomModel", "outs", "I", false)
  | 28 => ("LightRoomModel", "now", "[I", true)
  | 29 => ("LightRoomModel", "then", "[I", true)
  | 30 => ("LightRoomModel", "base", "I", false)
  | 31 => ("LightRoomModel", "under", "I", false)
  | 32 => ("LightRoomModel", "lamp", "[I", true)
  | 33 => ("LightRoomModel", "limit", "[I", true)
  | 34 => ("LightRoomModel", "chosen", "[I", true)
  | 35 => ("LightRoomModel", "place", "[I", true)
  | 36 => ("LightRoomModel", "solve", "[I", true)
  | 37 => ("LightRoomModel", "lamps", "I", false)
  | _ => ("LightRoomModel", "limits", "I", false)
def tyX9 : Nat → FieldType := fun k => match k with
  | 0 => .int
  | 1 => .array .int
  | 2 => .int
  | 3 => .array .int
  | 4 => .array .int
  | 5 => .array .int
  | 6 => .int
  | 7 => .int
  | 8 => .array .int
  | 9 => .array .int
  | 10 => .array .int
  | 11 => .array .int
  | 12 => .array .int
  | 13 => .array .int
  | 14 => .array .int
  | 15 => .array .int
  | 16 => .array .int
  | 17 => .array .int
  | 18 => .array .int
  | 19 => .int
  | 20 => .int
  | 21 => .int
  | 22 => .array .int
  | 23 => .array .int
  | 24 => .array .int
  | 25 => .array .int
  | 26 => .array .int
  | 27 => .int
  | 28 => .array .int
  | 29 => .array .int
  | 30 => .int
  | 31 => .int
  | 32 => .array .int
  | 33 => .array .int
  | 34 => .array .int
  | 35 => .array .int
  | 36 => .array .int
  | 37 => .int
  | _ => .int
theorem nmX9 : ∀ a, a < 39 → ∀ b, b < 39 → a ≠ b → (TX9 a).2.1 ≠ (TX9 b).2.1 := by decide +kernel
theorem tyX9_ok : ∀ k, k < 39 → parseFieldDescriptor (TX9 k).2.2.1 = some (tyX9 k) := by decide +kernel
theorem inX9 : ∀ w ∈ u_ws (cN 9) TX9 39, w ∈ lw_tbl := by
  have h : u_ws (cN 9) TX9 39 = [989, 991, 993, 995, 997, 999, 1001, 1003, 1005, 1007, 1009, 1011, 1013, 1015, 1017, 1019, 1021, 1023, 1025, 1027, 1029, 1031, 1033, 1035, 1037, 1039, 1041, 1043, 1045, 1047, 1049, 1051, 1053, 1055, 1057, 1059, 1061, 1063, 1065].filterMap (fun i => lw_tbl[i]?) := by decide +kernel
  intro w hw
  rw [h] at hw
  obtain ⟨i, -, hi⟩ := List.mem_filterMap.mp hw
  exact List.mem_of_getElem? hi
def cT (i : Nat) : u_T := match i with
  | 0 => TX0
  | 1 => TX1
  | 2 => TX2
  | 3 => TX3
  | 4 => TX4
  | 5 => TX5
  | 6 => TX6
  | 7 => TX7
  | 8 => TX8
  | _ => TX9
def cY (i : Nat) : Nat → FieldType := match i with
  | 0 => tyX0
  | 1 => tyX1
  | 2 => tyX2
  | 3 => tyX3
  | 4 => tyX4
  | 5 => tyX5
  | 6 => tyX6
  | 7 => tyX7
  | 8 => tyX8
  | _ => tyX9
def cF (i : Nat) : Nat := match i with
  | 0 => 3
  | 1 => 8
  | 2 => 15
  | 3 => 6
  | 4 => 7
  | 5 => 9
  | 6 => 2
  | 7 => 7
  | 8 => 7
  | 9 => 39
  | _ => 0
def cls : List vw_C := [(cN 0, TX0, 3), (cN 1, TX1, 8), (cN 2, TX2, 15), (cN 3, TX3, 6), (cN 4, TX4, 7), (cN 5, TX5, 9), (cN 6, TX6, 2), (cN 7, TX7, 7), (cN 8, TX8, 7), (cN 9, TX9, 39)]
theorem cls_at : ∀ i, i < 10 → cls[i]? = some (cN i, cT i, cF i) := fun i h => match i, h with
  | 0, _ => rfl
  | 1, _ => rfl
  | 2, _ => rfl
  | 3, _ => rfl
  | 4, _ => rfl
  | 5, _ => rfl
  | 6, _ => rfl
  | 7, _ => rfl
  | 8, _ => rfl
  | 9, _ => rfl
  | k + 10, h => absurd h (by omega)
theorem nm_ok : ∀ i, i < 10 → ∀ a, a < cF i → ∀ b, b < cF i → a ≠ b → (cT i a).2.1 ≠ (cT i b).2.1 := fun i h => match i, h with
  | 0, _ => nmX0
  | 1, _ => nmX1
  | 2, _ => nmX2
  | 3, _ => nmX3
  | 4, _ => nmX4
  | 5, _ => nmX5
  | 6, _ => nmX6
  | 7, _ => nmX7
  | 8, _ => nmX8
  | 9, _ => nmX9
  | k + 10, h => absurd h (by omega)
theorem ty_ok : ∀ i, i < 10 → ∀ k, k < cF i → parseFieldDescriptor (cT i k).2.2.1 = some (cY i k) := fun i h => match i, h with
  | 0, _ => tyX0_ok
  | 1, _ => tyX1_ok
  | 2, _ => tyX2_ok
  | 3, _ => tyX3_ok
  | 4, _ => tyX4_ok
  | 5, _ => tyX5_ok
  | 6, _ => tyX6_ok
  | 7, _ => tyX7_ok
  | 8, _ => tyX8_ok
  | 9, _ => tyX9_ok
  | k + 10, h => absurd h (by omega)
theorem in_ok : ∀ i, i < 10 → ∀ w ∈ u_ws (cN i) (cT i) (cF i), w ∈ lw_tbl := fun i h => match i, h with
  | 0, _ => inX0
  | 1, _ => inX1
  | 2, _ => inX2
  | 3, _ => inX3
  | 4, _ => inX4
  | 5, _ => inX5
  | 6, _ => inX6
  | 7, _ => inX7
  | 8, _ => inX8
  | 9, _ => inX9
  | k + 10, h => absurd h (by omega)
/-! the methods: name, code, locals, answer, own class -/
def mD : MethodName := ⟨"", "", ""⟩
def mNs : List MethodName := [
  ⟨"java/lang/Math", "max", "(II)I"⟩,
  ⟨"java/lang/Math", "max", "(JJ)J"⟩,
  ⟨"java/lang/Math", "min", "(JJ)J"⟩,
  ⟨"java/lang/Math", "abs", "(J)J"⟩,
  ⟨"java/lang/Math", "min", "(II)I"⟩,
  ⟨"LightRoom$Big", "<init>", "(I)V"⟩,
  ⟨"LightRoom$Big", "set", "(J)V"⟩,
  ⟨"LightRoom$Big", "setProduct", "(LLightRoom$Big;LLightRoom$Big;)V"⟩,
  ⟨"LightRoom$Big", "addRow", "(JLLightRoom$Big;I)V"⟩,
  ⟨"LightRoom$Big", "trim", "()V"⟩,
  ⟨"LightRoom$Big", "add", "(LLightRoom$Big;Z)V"⟩,
  ⟨"LightRoom$Big", "raise", "(LLightRoom$Big;)V"⟩,
  ⟨"LightRoom$Big", "extend", "(J)V"⟩,
  ⟨"LightRoom$Big", "compareSizes", "(LLightRoom$Big;)I"⟩,
  ⟨"LightRoom$Big", "lower", "(LLightRoom$Big;)V"⟩,
  ⟨"LightRoom$Big", "lowerFrom", "(LLightRoom$Big;)V"⟩,
  ⟨"LightRoom$Big", "divide", "(LLightRoom$Big;LLightRoom$Big;)V"⟩,
  ⟨"LightRoom$Big", "takeAway", "(LLightRoom$Big;I)I"⟩,
  ⟨"LightRoom$Big", "limbAt", "(I)I"⟩,
  ⟨"LightRoom$Big", "takeTimes", "(LLightRoom$Big;JI)J"⟩,
  ⟨"LightRoom$Big", "giveBack", "(LLightRoom$Big;I)I"⟩,
  ⟨"LightRoom$Big", "negate", "()V"⟩,
  ⟨"LightRoom$Big", "copy", "(LLightRoom$Big;)V"⟩,
  ⟨"LightRoom$Big", "times", "(I)V"⟩,
  ⟨"LightRoom$Big", "plusTimes", "(LLightRoom$Big;I)V"⟩,
  ⟨"LightRoom$Big", "greatestDivisor", "(LLightRoom$Big;LLightRoom$Big;LLightRoom$Big;)LLightRoom$Big;"⟩,
  ⟨"LightRoom$Big", "sign", "()I"⟩,
  ⟨"LightRoom$Big", "plusProduct", "(LLightRoom$Big;LLightRoom$Big;LLightRoom$Big;)V"⟩,
  ⟨"LightRoom$Bounces", "<init>", "()V"⟩,
  ⟨"LightRoom$Bounces", "begin", "(LLightRoom$Walls;I)V"⟩,
  ⟨"LightRoom$Bounces", "commonMultiple", "(JI)J"⟩,
  ⟨"LightRoom$Bounces", "goOn", "(LLightRoom$Walls;LLightRoom$Table;)V"⟩,
  ⟨"LightRoom$Bounces", "bounceAt", "(ILLightRoom$Walls;LLightRoom$Table;)V"⟩,
  ⟨"LightRoom$Bounces", "reaches", "(ILLightRoom$Walls;)Z"⟩,
  ⟨"LightRoom$Cheapest", "<init>", "()V"⟩,
  ⟨"LightRoom$Cheapest", "find", "(LLightRoom$Walls;LLightRoom$Glow;)V"⟩,
  ⟨"LightRoom$Cheapest", "nameLamps", "(LLightRoom$Walls;)V"⟩,
  ⟨"LightRoom$Cheapest", "layPatchRows", "(LLightRoom$Walls;LLightRoom$Glow;)V"⟩,
  ⟨"LightRoom$Cheapest", "layBounds", "(LLightRoom$Walls;)V"⟩,
  ⟨"LightRoom$Cheapest", "place", "()V"⟩,
  ⟨"LightRoom$Cheapest", "setWay", "(II)V"⟩,
  ⟨"LightRoom$Cheapest", "firstBroken", "()I"⟩,
  ⟨"LightRoom$Cheapest", "placeToLeave", "(I)I"⟩,
  ⟨"LightRoom$Cheapest", "isBefore", "(II)Z"⟩,
  ⟨"LightRoom$Cheapest", "compareBy", "(LLightRoom$Big;LLightRoom$Big;II)I"⟩,
  ⟨"LightRoom$Cheapest", "addPrices", "()V"⟩,
  ⟨"LightRoom$Cheapest", "ownOf", "(I)LLightRoom$Big;"⟩,
  ⟨"LightRoom$Glow", "<init>", "()V"⟩,
  ⟨"LightRoom$Glow", "solve", "(LLightRoom$Walls;LLightRoom$Table;)V"⟩,
  ⟨"LightRoom$Glow", "lay", "(LLightRoom$Walls;LLightRoom$Table;)V"⟩,
  ⟨"LightRoom$Glow", "turnAbout", "(II)V"⟩,
  ⟨"LightRoom$Glow", "scaleColumns", "(LLightRoom$Walls;I)V"⟩,
  ⟨"LightRoom$Glow", "gather", "(ILLightRoom$Walls;Z)V"⟩,
  ⟨"LightRoom$Glow", "compareLight", "(ILLightRoom$Walls;)I"⟩,
  ⟨"LightRoom$Out", "<init>", "()V"⟩,
  ⟨"LightRoom$Out", "byteAt", "(I)I"⟩,
  ⟨"LightRoom$Out", "tell", "(LLightRoom$Big;LLightRoom$Big;)I"⟩,
  ⟨"LightRoom$Out", "write", "(LLightRoom$Big;)V"⟩,
  ⟨"LightRoom$Out", "put", "(I)V"⟩,
  ⟨"LightRoom$Out", "writeLimb", "(IZ)Z"⟩,
  ⟨"LightRoom$Patch", "<init>", "()V"⟩,
  ⟨"LightRoom$Patch", "begin", "(III)V"⟩,
  ⟨"LightRoom$Patch", "fact", "(I)I"⟩,
  ⟨"LightRoom$Table", "<init>", "()V"⟩,
  ⟨"LightRoom$Table", "begin", "(I)V"⟩,
  ⟨"LightRoom$Table", "partsLeft", "(II)I"⟩,
  ⟨"LightRoom$Walls", "<init>", "()V"⟩,
  ⟨"LightRoom$Walls", "hasCornerAt", "(II)Z"⟩,
  ⟨"LightRoom$Walls", "addCorner", "(II)I"⟩,
  ⟨"LightRoom$Walls", "hasCorner", "(I)Z"⟩,
  ⟨"LightRoom$Walls", "meetsAny", "(II)Z"⟩,
  ⟨"LightRoom$Walls", "meets", "(IIII)Z"⟩,
  ⟨"LightRoom$Walls", "crosses", "(IIII)Z"⟩,
  ⟨"LightRoom$Walls", "side", "(III)J"⟩,
  ⟨"LightRoom$Walls", "isWithin", "(III)Z"⟩,
  ⟨"LightRoom$Walls", "addPatch", "(III)I"⟩,
  ⟨"LightRoom$Walls", "hasPatch", "(I)Z"⟩,
  ⟨"LightRoom$Walls", "sightOf", "(II)I"⟩,
  ⟨"LightRoom$Walls", "isRingFree", "(II)Z"⟩,
  ⟨"LightRoom$Walls", "entersRing", "(II)Z"⟩,
  ⟨"LightRoom$Walls", "patchLength", "(IIZ)J"⟩,
  ⟨"LightRoom$Walls", "lengthUp", "(III)J"⟩,
  ⟨"LightRoom$Walls", "square", "(III)J"⟩,
  ⟨"LightRoom$Walls", "rootDown", "(J)J"⟩,
  ⟨"LightRoom$Walls", "lengthDown", "(III)J"⟩,
  ⟨"LightRoom$Walls", "highShare", "(III)I"⟩,
  ⟨"LightRoom$Walls", "crossedUp", "(III)J"⟩,
  ⟨"LightRoom$Walls", "uncrossedDown", "(III)J"⟩,
  ⟨"LightRoom$Walls", "lowShare", "(III)I"⟩,
  ⟨"LightRoom$Walls", "crossedDown", "(III)J"⟩,
  ⟨"LightRoom$Walls", "uncrossedUp", "(III)J"⟩,
  ⟨"LightRoom$Walls", "compareStrings", "(II)I"⟩,
  ⟨"LightRoom", "<init>", "()V"⟩,
  ⟨"LightRoom", "status", "()I"⟩,
  ⟨"LightRoom", "out", "(I)I"⟩,
  ⟨"LightRoom", "corner", "(II)I"⟩,
  ⟨"LightRoom", "cornerStatus", "(II)I"⟩,
  ⟨"LightRoom", "isFrom", "(III)Z"⟩,
  ⟨"LightRoom", "patch", "(III)I"⟩,
  ⟨"LightRoom", "newPatchStatus", "(III)I"⟩,
  ⟨"LightRoom", "sharesChanged", "()V"⟩,
  ⟨"LightRoom", "on", "(III)Z"⟩,
  ⟨"LightRoom", "onStatus", "(III)I"⟩,
  ⟨"LightRoom", "own", "(II)Z"⟩,
  ⟨"LightRoom", "ownStatus", "(II)I"⟩,
  ⟨"LightRoom", "numberStatus", "(III)I"⟩,
  ⟨"LightRoom", "lampsChanged", "()V"⟩,
  ⟨"LightRoom", "told", "(II)I"⟩,
  ⟨"LightRoom", "sight", "(II)I"⟩,
  ⟨"LightRoom", "pairStatus", "(II)I"⟩,
  ⟨"LightRoom", "length", "(IIZ)J"⟩,
  ⟨"LightRoom", "share", "(IIIZ)I"⟩,
  ⟨"LightRoom", "shareStatus", "(III)I"⟩,
  ⟨"LightRoom", "crossed", "(II)I"⟩,
  ⟨"LightRoom", "parts", "(I)Z"⟩,
  ⟨"LightRoom", "table", "(III)Z"⟩,
  ⟨"LightRoom", "tableStatus", "(III)I"⟩,
  ⟨"LightRoom", "light", "(I)I"⟩,
  ⟨"LightRoom", "patchStatus", "(I)I"⟩,
  ⟨"LightRoom", "bounce", "(II)I"⟩,
  ⟨"LightRoom", "pull", "(II)I"⟩,
  ⟨"LightRoom", "enough", "(I)I"⟩,
  ⟨"LightRoom", "bouncesNeeded", "(I)I"⟩,
  ⟨"LightRoom", "want", "(II)Z"⟩,
  ⟨"LightRoom", "price", "(III)Z"⟩,
  ⟨"LightRoom", "priceStatus", "(III)I"⟩,
  ⟨"LightRoom", "lampStatus", "(I)I"⟩,
  ⟨"LightRoom", "least", "()I"⟩,
  ⟨"LightRoom", "power", "(I)I"⟩,
  ⟨"LightRoomModel", "<init>", "()V"⟩,
  ⟨"LightRoomModel", "status", "()I"⟩,
  ⟨"LightRoomModel", "corner", "(II)I"⟩,
  ⟨"LightRoomModel", "refuse", "(I)I"⟩,
  ⟨"LightRoomModel", "patch", "(III)I"⟩,
  ⟨"LightRoomModel", "isCorner", "(I)Z"⟩,
  ⟨"LightRoomModel", "meet", "(IIII)Z"⟩,
  ⟨"LightRoomModel", "isWithin", "(III)Z"⟩,
  ⟨"LightRoomModel", "side", "(III)J"⟩,
  ⟨"LightRoomModel", "sign0", "(J)I"⟩,
  ⟨"LightRoomModel", "on", "(III)Z"⟩,
  ⟨"LightRoomModel", "isPatch", "(I)Z"⟩,
  ⟨"LightRoomModel", "is", "(I)Z"⟩,
  ⟨"LightRoomModel", "own", "(II)Z"⟩,
  ⟨"LightRoomModel", "told", "(II)I"⟩,
  ⟨"LightRoomModel", "sight", "(II)I"⟩,
  ⟨"LightRoomModel", "sightOf", "(II)I"⟩,
  ⟨"LightRoomModel", "isInside", "(I)Z"⟩,
  ⟨"LightRoomModel", "length", "(IIZ)J"⟩,
  ⟨"LightRoomModel", "string", "(IIIZ)J"⟩,
  ⟨"LightRoomModel", "root", "(J)J"⟩,
  ⟨"LightRoomModel", "share", "(IIIZ)I"⟩,
  ⟨"LightRoomModel", "crossedSum", "(IIIZ)J"⟩,
  ⟨"LightRoomModel", "openSum", "(IIIZ)J"⟩,
  ⟨"LightRoomModel", "crossed", "(II)I"⟩,
  ⟨"LightRoomModel", "parts", "(I)Z"⟩,
  ⟨"LightRoomModel", "table", "(III)Z"⟩,
  ⟨"LightRoomModel", "out", "(I)I"⟩,
  ⟨"LightRoomModel", "light", "(I)I"⟩,
  ⟨"LightRoomModel", "allPulls", "()V"⟩,
  ⟨"LightRoomModel", "pulls", "(I)V"⟩,
  ⟨"LightRoomModel", "clean", "()V"⟩,
  ⟨"LightRoomModel", "whole", "(J)I"⟩,
  ⟨"LightRoomModel", "room", "(I)I"⟩,
  ⟨"LightRoomModel", "done", "(IIZ)I"⟩,
  ⟨"LightRoomModel", "times", "(II)I"⟩,
  ⟨"LightRoomModel", "sign", "(I)I"⟩,
  ⟨"LightRoomModel", "size", "(I)I"⟩,
  ⟨"LightRoomModel", "less", "(II)I"⟩,
  ⟨"LightRoomModel", "turned", "(I)I"⟩,
  ⟨"LightRoomModel", "copy", "(I)I"⟩,
  ⟨"LightRoomModel", "sum", "(II)I"⟩,
  ⟨"LightRoomModel", "compareSizes", "(II)I"⟩,
  ⟨"LightRoomModel", "divided", "(II)I"⟩,
  ⟨"LightRoomModel", "divide", "(II)V"⟩,
  ⟨"LightRoomModel", "divideShort", "(I)V"⟩,
  ⟨"LightRoomModel", "step", "(II)I"⟩,
  ⟨"LightRoomModel", "keep", "(II)V"⟩,
  ⟨"LightRoomModel", "lightOf", "(I)I"⟩,
  ⟨"LightRoomModel", "held", "(I)I"⟩,
  ⟨"LightRoomModel", "tells", "(II)I"⟩,
  ⟨"LightRoomModel", "common", "(II)I"⟩,
  ⟨"LightRoomModel", "put", "(II)V"⟩,
  ⟨"LightRoomModel", "tellsNumber", "(I)V"⟩,
  ⟨"LightRoomModel", "tells0", "(I)V"⟩,
  ⟨"LightRoomModel", "bounce", "(II)I"⟩,
  ⟨"LightRoomModel", "firstBounce", "()V"⟩,
  ⟨"LightRoomModel", "nextBounce", "()V"⟩,
  ⟨"LightRoomModel", "pull", "(II)I"⟩,
  ⟨"LightRoomModel", "enough", "(I)I"⟩,
  ⟨"LightRoomModel", "want", "(II)Z"⟩,
  ⟨"LightRoomModel", "price", "(III)Z"⟩,
  ⟨"LightRoomModel", "least", "()I"⟩,
  ⟨"LightRoomModel", "finds", "()Z"⟩,
  ⟨"LightRoomModel", "tellLimits", "()V"⟩,
  ⟨"LightRoomModel", "addLimit", "(IJI)V"⟩,
  ⟨"LightRoomModel", "meets", "()Z"⟩,
  ⟨"LightRoomModel", "isGood", "()Z"⟩,
  ⟨"LightRoomModel", "isBetter", "()Z"⟩,
  ⟨"LightRoomModel", "pays", "()I"⟩,
  ⟨"LightRoomModel", "power", "(I)I"⟩,
  ⟨"LightRoomLaw", "law", "([I)Z"⟩]
def mCs : List ByteArray := [
  prog_12_method_65_code,
  prog_12_method_66_code,
  prog_12_method_70_code,
  prog_12_method_61_code,
  prog_12_method_69_code,
  prog_2_method_1_code,
  prog_2_method_2_code,
  prog_2_method_11_code,
  prog_2_method_12_code,
  prog_2_method_7_code,
  prog_2_method_14_code,
  prog_2_method_15_code,
  prog_2_method_9_code,
  prog_2_method_18_code,
  prog_2_method_16_code,
  prog_2_method_17_code,
  prog_2_method_19_code,
  prog_2_method_20_code,
  prog_2_method_6_code,
  prog_2_method_21_code,
  prog_2_method_22_code,
  prog_2_method_5_code,
  prog_2_method_3_code,
  prog_2_method_8_code,
  prog_2_method_10_code,
  prog_2_method_23_code,
  prog_2_method_4_code,
  prog_2_method_13_code,
  prog_3_method_1_code,
  prog_3_method_2_code,
  prog_3_method_3_code,
  prog_3_method_4_code,
  prog_3_method_5_code,
  prog_3_method_6_code,
  prog_4_method_1_code,
  prog_4_method_2_code,
  prog_4_method_4_code,
  prog_4_method_5_code,
  prog_4_method_6_code,
  prog_4_method_7_code,
  prog_4_method_8_code,
  prog_4_method_9_code,
  prog_4_method_10_code,
  prog_4_method_11_code,
  prog_4_method_12_code,
  prog_4_method_13_code,
  prog_4_method_3_code,
  prog_5_method_1_code,
  prog_5_method_2_code,
  prog_5_method_3_code,
  prog_5_method_4_code,
  prog_5_method_5_code,
  prog_5_method_6_code,
  prog_5_method_7_code,
  prog_6_method_1_code,
  prog_6_method_2_code,
  prog_6_method_3_code,
  prog_6_method_5_code,
  prog_6_method_4_code,
  prog_6_method_6_code,
  prog_7_method_1_code,
  prog_7_method_2_code,
  prog_7_method_3_code,
  prog_8_method_1_code,
  prog_8_method_2_code,
  prog_8_method_3_code,
  prog_9_method_1_code,
  prog_9_method_4_code,
  prog_9_method_5_code,
  prog_9_method_2_code,
  prog_9_method_8_code,
  prog_9_method_9_code,
  prog_9_method_10_code,
  prog_9_method_7_code,
  prog_9_method_11_code,
  prog_9_method_6_code,
  prog_9_method_3_code,
  prog_9_method_12_code,
  prog_9_method_13_code,
  prog_9_method_14_code,
  prog_9_method_15_code,
  prog_9_method_18_code,
  prog_9_method_16_code,
  prog_9_method_19_code,
  prog_9_method_17_code,
  prog_9_method_25_code,
  prog_9_method_22_code,
  prog_9_method_21_code,
  prog_9_method_24_code,
  prog_9_method_20_code,
  prog_9_method_23_code,
  prog_9_method_26_code,
  prog_1_method_1_code,
  prog_1_method_2_code,
  prog_1_method_3_code,
  prog_1_method_4_code,
  prog_1_method_24_code,
  prog_1_method_23_code,
  prog_1_method_5_code,
  prog_1_method_25_code,
  prog_1_method_35_code,
  prog_1_method_6_code,
  prog_1_method_29_code,
  prog_1_method_7_code,
  prog_1_method_30_code,
  prog_1_method_28_code,
  prog_1_method_36_code,
  prog_1_method_8_code,
  prog_1_method_9_code,
  prog_1_method_27_code,
  prog_1_method_10_code,
  prog_1_method_11_code,
  prog_1_method_31_code,
  prog_1_method_12_code,
  prog_1_method_13_code,
  prog_1_method_14_code,
  prog_1_method_32_code,
  prog_1_method_15_code,
  prog_1_method_26_code,
  prog_1_method_16_code,
  prog_1_method_17_code,
  prog_1_method_18_code,
  prog_1_method_37_code,
  prog_1_method_19_code,
  prog_1_method_20_code,
  prog_1_method_34_code,
  prog_1_method_33_code,
  prog_1_method_21_code,
  prog_1_method_22_code,
  prog_11_method_1_code,
  prog_11_method_2_code,
  prog_11_method_23_code,
  prog_11_method_4_code,
  prog_11_method_30_code,
  prog_11_method_24_code,
  prog_11_method_29_code,
  prog_11_method_28_code,
  prog_11_method_26_code,
  prog_11_method_27_code,
  prog_11_method_31_code,
  prog_11_method_25_code,
  prog_11_method_3_code,
  prog_11_method_32_code,
  prog_11_method_33_code,
  prog_11_method_36_code,
  prog_11_method_35_code,
  prog_11_method_34_code,
  prog_11_method_41_code,
  prog_11_method_38_code,
  prog_11_method_37_code,
  prog_11_method_42_code,
  prog_11_method_39_code,
  prog_11_method_40_code,
  prog_11_method_43_code,
  prog_11_method_47_code,
  prog_11_method_48_code,
  prog_11_method_51_code,
  prog_11_method_56_code,
  prog_11_method_50_code,
  prog_11_method_49_code,
  prog_11_method_46_code,
  prog_11_method_9_code,
  prog_11_method_7_code,
  prog_11_method_8_code,
  prog_11_method_16_code,
  prog_11_method_6_code,
  prog_11_method_5_code,
  prog_11_method_15_code,
  prog_11_method_11_code,
  prog_11_method_10_code,
  prog_11_method_14_code,
  prog_11_method_12_code,
  prog_11_method_20_code,
  prog_11_method_17_code,
  prog_11_method_18_code,
  prog_11_method_19_code,
  prog_11_method_44_code,
  prog_11_method_55_code,
  prog_11_method_45_code,
  prog_11_method_54_code,
  prog_11_method_21_code,
  prog_11_method_22_code,
  prog_11_method_53_code,
  prog_11_method_52_code,
  prog_11_method_59_code,
  prog_11_method_57_code,
  prog_11_method_58_code,
  prog_11_method_60_code,
  prog_11_method_61_code,
  prog_11_method_62_code,
  prog_11_method_63_code,
  prog_11_method_71_code,
  prog_11_method_70_code,
  prog_11_method_65_code,
  prog_11_method_64_code,
  prog_11_method_66_code,
  prog_11_method_67_code,
  prog_11_method_69_code,
  prog_11_method_68_code,
  prog_11_method_72_code,
  code]
def mLs : List Nat := [2, 4, 4, 2, 2, 2, 6, 4, 10, 2, 4, 5, 6, 3, 5, 6, 6, 13, 2, 10, 6, 1, 2, 7, 8, 7, 1, 4, 2, 4, 10, 4, 6, 3, 2, 6, 4, 6, 4, 3, 8, 3, 5, 5, 5, 2, 3, 2, 4, 7, 7, 5, 5, 3, 1, 2, 4, 4, 2, 6, 1, 4, 2, 1, 4, 5, 2, 4, 3, 2, 4, 6, 5, 8, 5, 4, 2, 15, 4, 18, 6, 8, 8, 7, 4, 8, 4, 4, 8, 4, 4, 5, 1, 1, 2, 3, 3, 3, 4, 4, 1, 4, 4, 3, 4, 4, 1, 3, 3, 3, 4, 5, 5, 3, 2, 4, 4, 2, 2, 4, 3, 4, 3, 3, 4, 4, 2, 1, 2, 1, 1, 4, 2, 6, 2, 5, 6, 4, 2, 4, 2, 2, 3, 3, 3, 12, 19, 4, 13, 6, 9, 5, 5, 5, 3, 6, 2, 2, 2, 9, 1, 6, 3, 5, 12, 2, 2, 3, 3, 5, 11, 5, 5, 7, 7, 16, 4, 4, 6, 6, 10, 5, 8, 2, 4, 4, 5, 3, 3, 3, 4, 1, 10, 5, 6, 8, 4, 4, 3, 3, 4]
def mRs : List (Option FieldType) := [
  some .int,
  some .long,
  some .long,
  some .long,
  some .int,
  none,
  none,
  none,
  none,
  none,
  none,
  none,
  none,
  some .int,
  none,
  none,
  none,
  some .int,
  some .int,
  some .long,
  some .int,
  none,
  none,
  none,
  none,
  some (.object "LightRoom$Big"),
  some .int,
  none,
  none,
  none,
  some .long,
  none,
  none,
  some .boolean,
  none,
  none,
  none,
  none,
  none,
  none,
  none,
  some .int,
  some .int,
  some .boolean,
  some .int,
  none,
  some (.object "LightRoom$Big"),
  none,
  none,
  none,
  none,
  none,
  none,
  some .int,
  none,
  some .int,
  some .int,
  none,
  none,
  some .boolean,
  none,
  none,
  some .int,
  none,
  none,
  some .int,
  none,
  some .boolean,
  some .int,
  some .boolean,
  some .boolean,
  some .boolean,
  some .boolean,
  some .long,
  some .boolean,
  some .int,
  some .boolean,
  some .int,
  some .boolean,
  some .boolean,
  some .long,
  some .long,
  some .long,
  some .long,
  some .long,
  some .int,
  some .long,
  some .long,
  some .int,
  some .long,
  some .long,
  some .int,
  none,
  some .int,
  some .int,
  some .int,
  some .int,
  some .boolean,
  some .int,
  some .int,
  none,
  some .boolean,
  some .int,
  some .boolean,
  some .int,
  some .int,
  none,
  some .int,
  some .int,
  some .int,
  some .long,
  some .int,
  some .int,
  some .int,
  some .boolean,
  some .boolean,
  some .int,
  some .int,
  some .int,
  some .int,
  some .int,
  some .int,
  some .int,
  some .boolean,
  some .boolean,
  some .int,
  some .int,
  some .int,
  some .int,
  none,
  some .int,
  some .int,
  some .int,
  some .int,
  some .boolean,
  some .boolean,
  some .boolean,
  some .long,
  some .int,
  some .boolean,
  some .boolean,
  some .boolean,
  some .boolean,
  some .int,
  some .int,
  some .int,
  some .boolean,
  some .long,
  some .long,
  some .long,
  some .int,
  some .long,
  some .long,
  some .int,
  some .boolean,
  some .boolean,
  some .int,
  some .int,
  none,
  none,
  none,
  some .int,
  some .int,
  some .int,
  some .int,
  some .int,
  some .int,
  some .int,
  some .int,
  some .int,
  some .int,
  some .int,
  some .int,
  none,
  none,
  some .int,
  none,
  some .int,
  some .int,
  some .int,
  some .int,
  none,
  none,
  none,
  some .int,
  none,
  none,
  some .int,
  some .int,
  some .boolean,
  some .boolean,
  some .int,
  some .boolean,
  none,
  none,
  some .boolean,
  some .boolean,
  some .boolean,
  some .int,
  some .int,
  some .boolean]
def mOs : List Nat := [11, 11, 11, 11, 11, 0, 0, 0, 0, 0, 0, 0, 0, 0, 0, 0, 0, 0, 0, 0, 0, 0, 0, 0, 0, 0, 0, 0, 1, 1, 1, 1, 1, 1, 2, 2, 2, 2, 2, 2, 2, 2, 2, 2, 2, 2, 2, 3, 3, 3, 3, 3, 3, 3, 4, 4, 4, 4, 4, 4, 5, 5, 5, 6, 6, 6, 7, 7, 7, 7, 7, 7, 7, 7, 7, 7, 7, 7, 7, 7, 7, 7, 7, 7, 7, 7, 7, 7, 7, 7, 7, 7, 8, 8, 8, 8, 8, 8, 8, 8, 8, 8, 8, 8, 8, 8, 8, 8, 8, 8, 8, 8, 8, 8, 8, 8, 8, 8, 8, 8, 8, 8, 8, 8, 8, 8, 8, 8, 8, 9, 9, 9, 9, 9, 9, 9, 9, 9, 9, 9, 9, 9, 9, 9, 9, 9, 9, 9, 9, 9, 9, 9, 9, 9, 9, 9, 9, 9, 9, 9, 9, 9, 9, 9, 9, 9, 9, 9, 9, 9, 9, 9, 9, 9, 9, 9, 9, 9, 9, 9, 9, 9, 9, 9, 9, 9, 9, 9, 9, 9, 9, 9, 9, 9, 9, 9, 9, 9, 9, 9, 10]
def mN (y : Nat) : MethodName := mNs.getD y mD
def mC (y : Nat) : ByteArray := mCs.getD y ⟨#[]⟩
def mL (y : Nat) : Nat := mLs.getD y 0
def mR (y : Nat) : Option FieldType := mRs.getD y none
def mO (y : Nat) : Nat := mOs.getD y 0
end
