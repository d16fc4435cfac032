section
-- ===== PART A: goes FIRST, ahead of the names: the tables' words, and 'selects' of the private methods out of them =====
/-- a private method of a class that the tables say can be made, by its rows of tables_1 -/
def lw_okq (q : MethodName × Nat) : Prop := (q.1.cls ≠ "java/lang/invoke/MethodHandle" ∧ q.1.cls ≠ "java/lang/invoke/VarHandle") ∧ Cond.instantiable q.1.cls q.2 ∈ tables_1 ∧ Cond.privateMethod q.1 ∈ tables_1 ∧ Cond.instanceMethod q.1 ∈ tables_1
theorem lw_p0 : lw_okq (⟨"MagnetRing$Text", "skipBlanks", "()V"⟩, 6) := ⟨⟨by decide +kernel, by decide +kernel⟩, List.mem_of_getElem? (i := 31) (by decide +kernel), List.mem_of_getElem? (i := 351) (by decide +kernel), List.mem_of_getElem? (i := 352) (by decide +kernel)⟩
theorem lw_p1 : lw_okq (⟨"MagnetRing$Text", "signAt", "(I)I"⟩, 6) := ⟨⟨by decide +kernel, by decide +kernel⟩, List.mem_of_getElem? (i := 31) (by decide +kernel), List.mem_of_getElem? (i := 355) (by decide +kernel), List.mem_of_getElem? (i := 356) (by decide +kernel)⟩
theorem lw_p2 : lw_okq (⟨"MagnetRing$Text", "takeName", "()V"⟩, 6) := ⟨⟨by decide +kernel, by decide +kernel⟩, List.mem_of_getElem? (i := 31) (by decide +kernel), List.mem_of_getElem? (i := 365) (by decide +kernel), List.mem_of_getElem? (i := 366) (by decide +kernel)⟩
theorem lw_p3 : lw_okq (⟨"MagnetRing$Text", "takeNumber", "()V"⟩, 6) := ⟨⟨by decide +kernel, by decide +kernel⟩, List.mem_of_getElem? (i := 31) (by decide +kernel), List.mem_of_getElem? (i := 376) (by decide +kernel), List.mem_of_getElem? (i := 377) (by decide +kernel)⟩
theorem lw_p4 : lw_okq (⟨"MagnetRing$Reader", "take", "()I"⟩, 12) := ⟨⟨by decide +kernel, by decide +kernel⟩, List.mem_of_getElem? (i := 25) (by decide +kernel), List.mem_of_getElem? (i := 384) (by decide +kernel), List.mem_of_getElem? (i := 385) (by decide +kernel)⟩
theorem lw_p5 : lw_okq (⟨"MagnetRing$Reader", "endPart", "(III)I"⟩, 12) := ⟨⟨by decide +kernel, by decide +kernel⟩, List.mem_of_getElem? (i := 25) (by decide +kernel), List.mem_of_getElem? (i := 388) (by decide +kernel), List.mem_of_getElem? (i := 389) (by decide +kernel)⟩
theorem lw_p6 : lw_okq (⟨"MagnetRing$Reader", "takeLineName", "()I"⟩, 12) := ⟨⟨by decide +kernel, by decide +kernel⟩, List.mem_of_getElem? (i := 25) (by decide +kernel), List.mem_of_getElem? (i := 429) (by decide +kernel), List.mem_of_getElem? (i := 430) (by decide +kernel)⟩
theorem lw_p7 : lw_okq (⟨"MagnetRing$Reader", "lineOf", "(J)LMagnetRing$Line;"⟩, 12) := ⟨⟨by decide +kernel, by decide +kernel⟩, List.mem_of_getElem? (i := 25) (by decide +kernel), List.mem_of_getElem? (i := 441) (by decide +kernel), List.mem_of_getElem? (i := 442) (by decide +kernel)⟩
theorem lw_p8 : lw_okq (⟨"MagnetRing$Reader", "takeAlone", "(II)I"⟩, 12) := ⟨⟨by decide +kernel, by decide +kernel⟩, List.mem_of_getElem? (i := 25) (by decide +kernel), List.mem_of_getElem? (i := 449) (by decide +kernel), List.mem_of_getElem? (i := 450) (by decide +kernel)⟩
theorem lw_p9 : lw_okq (⟨"MagnetRing$Reader", "takeItem", "()I"⟩, 12) := ⟨⟨by decide +kernel, by decide +kernel⟩, List.mem_of_getElem? (i := 25) (by decide +kernel), List.mem_of_getElem? (i := 453) (by decide +kernel), List.mem_of_getElem? (i := 454) (by decide +kernel)⟩
theorem lw_p10 : lw_okq (⟨"MagnetRing$Reader", "takeTimes", "()I"⟩, 12) := ⟨⟨by decide +kernel, by decide +kernel⟩, List.mem_of_getElem? (i := 25) (by decide +kernel), List.mem_of_getElem? (i := 457) (by decide +kernel), List.mem_of_getElem? (i := 458) (by decide +kernel)⟩
theorem lw_p11 : lw_okq (⟨"MagnetRing$Reader", "beginPart", "(I)I"⟩, 12) := ⟨⟨by decide +kernel, by decide +kernel⟩, List.mem_of_getElem? (i := 25) (by decide +kernel), List.mem_of_getElem? (i := 463) (by decide +kernel), List.mem_of_getElem? (i := 464) (by decide +kernel)⟩
theorem lw_p12 : lw_okq (⟨"MagnetRing$Reader", "takeToldName", "()I"⟩, 12) := ⟨⟨by decide +kernel, by decide +kernel⟩, List.mem_of_getElem? (i := 25) (by decide +kernel), List.mem_of_getElem? (i := 467) (by decide +kernel), List.mem_of_getElem? (i := 468) (by decide +kernel)⟩
theorem lw_p13 : lw_okq (⟨"MagnetRing$Reader", "closes", "()Z"⟩, 12) := ⟨⟨by decide +kernel, by decide +kernel⟩, List.mem_of_getElem? (i := 25) (by decide +kernel), List.mem_of_getElem? (i := 476) (by decide +kernel), List.mem_of_getElem? (i := 477) (by decide +kernel)⟩
theorem lw_p14 : lw_okq (⟨"MagnetRing$Reader", "takeClose", "()I"⟩, 12) := ⟨⟨by decide +kernel, by decide +kernel⟩, List.mem_of_getElem? (i := 25) (by decide +kernel), List.mem_of_getElem? (i := 480) (by decide +kernel), List.mem_of_getElem? (i := 481) (by decide +kernel)⟩
theorem lw_p15 : lw_okq (⟨"MagnetRing$Reader", "takeMinusOrNumber", "()I"⟩, 12) := ⟨⟨by decide +kernel, by decide +kernel⟩, List.mem_of_getElem? (i := 25) (by decide +kernel), List.mem_of_getElem? (i := 509) (by decide +kernel), List.mem_of_getElem? (i := 510) (by decide +kernel)⟩
def lw_privs_1 : List (MethodName × Nat) := [(⟨"MagnetRing$Text", "skipBlanks", "()V"⟩, 6), (⟨"MagnetRing$Text", "signAt", "(I)I"⟩, 6), (⟨"MagnetRing$Text", "takeName", "()V"⟩, 6), (⟨"MagnetRing$Text", "takeNumber", "()V"⟩, 6), (⟨"MagnetRing$Reader", "take", "()I"⟩, 12), (⟨"MagnetRing$Reader", "endPart", "(III)I"⟩, 12), (⟨"MagnetRing$Reader", "takeLineName", "()I"⟩, 12), (⟨"MagnetRing$Reader", "lineOf", "(J)LMagnetRing$Line;"⟩, 12), (⟨"MagnetRing$Reader", "takeAlone", "(II)I"⟩, 12), (⟨"MagnetRing$Reader", "takeItem", "()I"⟩, 12), (⟨"MagnetRing$Reader", "takeTimes", "()I"⟩, 12), (⟨"MagnetRing$Reader", "beginPart", "(I)I"⟩, 12), (⟨"MagnetRing$Reader", "takeToldName", "()I"⟩, 12), (⟨"MagnetRing$Reader", "closes", "()Z"⟩, 12), (⟨"MagnetRing$Reader", "takeClose", "()I"⟩, 12), (⟨"MagnetRing$Reader", "takeMinusOrNumber", "()I"⟩, 12)]
theorem lw_r1 : ∀ q ∈ lw_privs_1, lw_okq q := List.forall_mem_cons.mpr ⟨lw_p0, List.forall_mem_cons.mpr ⟨lw_p1, List.forall_mem_cons.mpr ⟨lw_p2, List.forall_mem_cons.mpr ⟨lw_p3, List.forall_mem_cons.mpr ⟨lw_p4, List.forall_mem_cons.mpr ⟨lw_p5, List.forall_mem_cons.mpr ⟨lw_p6, List.forall_mem_cons.mpr ⟨lw_p7, List.forall_mem_cons.mpr ⟨lw_p8, List.forall_mem_cons.mpr ⟨lw_p9, List.forall_mem_cons.mpr ⟨lw_p10, List.forall_mem_cons.mpr ⟨lw_p11, List.forall_mem_cons.mpr ⟨lw_p12, List.forall_mem_cons.mpr ⟨lw_p13, List.forall_mem_cons.mpr ⟨lw_p14, List.forall_mem_cons.mpr ⟨lw_p15, fun _ h => absurd h List.not_mem_nil⟩⟩⟩⟩⟩⟩⟩⟩⟩⟩⟩⟩⟩⟩⟩⟩
theorem lw_p16 : lw_okq (⟨"MagnetRing$Reader", "takeAbove", "()I"⟩, 12) := ⟨⟨by decide +kernel, by decide +kernel⟩, List.mem_of_getElem? (i := 25) (by decide +kernel), List.mem_of_getElem? (i := 513) (by decide +kernel), List.mem_of_getElem? (i := 514) (by decide +kernel)⟩
theorem lw_p17 : lw_okq (⟨"MagnetRing$Reader", "takeBelow", "()I"⟩, 12) := ⟨⟨by decide +kernel, by decide +kernel⟩, List.mem_of_getElem? (i := 25) (by decide +kernel), List.mem_of_getElem? (i := 517) (by decide +kernel), List.mem_of_getElem? (i := 518) (by decide +kernel)⟩
theorem lw_p18 : lw_okq (⟨"MagnetRing$Reader", "takeOpen", "()I"⟩, 12) := ⟨⟨by decide +kernel, by decide +kernel⟩, List.mem_of_getElem? (i := 25) (by decide +kernel), List.mem_of_getElem? (i := 521) (by decide +kernel), List.mem_of_getElem? (i := 522) (by decide +kernel)⟩
theorem lw_p19 : lw_okq (⟨"MagnetRing$Optics", "beginTable", "()V"⟩, 14) := ⟨⟨by decide +kernel, by decide +kernel⟩, List.mem_of_getElem? (i := 188) (by decide +kernel), List.mem_of_getElem? (i := 583) (by decide +kernel), List.mem_of_getElem? (i := 584) (by decide +kernel)⟩
theorem lw_p20 : lw_okq (⟨"MagnetRing$Optics", "lead", "(LMagnetRing$Mote;LMagnetRing$Part;)V"⟩, 14) := ⟨⟨by decide +kernel, by decide +kernel⟩, List.mem_of_getElem? (i := 188) (by decide +kernel), List.mem_of_getElem? (i := 596) (by decide +kernel), List.mem_of_getElem? (i := 597) (by decide +kernel)⟩
theorem lw_p21 : lw_okq (⟨"MagnetRing$Reckoner", "settle", "(LMagnetRing$Fraction;JJ)V"⟩, 2) := ⟨⟨by decide +kernel, by decide +kernel⟩, List.mem_of_getElem? (i := 194) (by decide +kernel), List.mem_of_getElem? (i := 612) (by decide +kernel), List.mem_of_getElem? (i := 613) (by decide +kernel)⟩
theorem lw_p22 : lw_okq (⟨"MagnetRing$Optics", "tell", "(LMagnetRing$Fraction;)V"⟩, 14) := ⟨⟨by decide +kernel, by decide +kernel⟩, List.mem_of_getElem? (i := 188) (by decide +kernel), List.mem_of_getElem? (i := 639) (by decide +kernel), List.mem_of_getElem? (i := 640) (by decide +kernel)⟩
theorem lw_p23 : lw_okq (⟨"MagnetRing$Optics", "giveKick", "(LMagnetRing$Mote;LMagnetRing$Ring;I[LMagnetRing$Fraction;)V"⟩, 14) := ⟨⟨by decide +kernel, by decide +kernel⟩, List.mem_of_getElem? (i := 188) (by decide +kernel), List.mem_of_getElem? (i := 698) (by decide +kernel), List.mem_of_getElem? (i := 699) (by decide +kernel)⟩
theorem lw_p24 : lw_okq (⟨"MagnetRing$Optics", "solveClosed", "()V"⟩, 14) := ⟨⟨by decide +kernel, by decide +kernel⟩, List.mem_of_getElem? (i := 188) (by decide +kernel), List.mem_of_getElem? (i := 706) (by decide +kernel), List.mem_of_getElem? (i := 707) (by decide +kernel)⟩
theorem lw_p25 : lw_okq (⟨"MagnetRing$Lattice", "follow", "(LMagnetRing$Ring;II)I"⟩, 9) := ⟨⟨by decide +kernel, by decide +kernel⟩, List.mem_of_getElem? (i := 274) (by decide +kernel), List.mem_of_getElem? (i := 782) (by decide +kernel), List.mem_of_getElem? (i := 783) (by decide +kernel)⟩
theorem lw_p26 : lw_okq (⟨"MagnetRing$Lattice", "noteCycle", "(II)V"⟩, 9) := ⟨⟨by decide +kernel, by decide +kernel⟩, List.mem_of_getElem? (i := 274) (by decide +kernel), List.mem_of_getElem? (i := 790) (by decide +kernel), List.mem_of_getElem? (i := 791) (by decide +kernel)⟩
theorem lw_p27 : lw_okq (⟨"MagnetRingModel", "next", "()V"⟩, 50) := ⟨⟨by decide +kernel, by decide +kernel⟩, List.mem_of_getElem? (i := 811) (by decide +kernel), List.mem_of_getElem? (i := 982) (by decide +kernel), List.mem_of_getElem? (i := 983) (by decide +kernel)⟩
theorem lw_p28 : lw_okq (⟨"MagnetRingModel", "fails", "(I)Z"⟩, 50) := ⟨⟨by decide +kernel, by decide +kernel⟩, List.mem_of_getElem? (i := 811) (by decide +kernel), List.mem_of_getElem? (i := 996) (by decide +kernel), List.mem_of_getElem? (i := 997) (by decide +kernel)⟩
theorem lw_p29 : lw_okq (⟨"MagnetRingModel", "line", "()Z"⟩, 50) := ⟨⟨by decide +kernel, by decide +kernel⟩, List.mem_of_getElem? (i := 811) (by decide +kernel), List.mem_of_getElem? (i := 1000) (by decide +kernel), List.mem_of_getElem? (i := 1001) (by decide +kernel)⟩
theorem lw_p30 : lw_okq (⟨"MagnetRingModel", "named", "(J)I"⟩, 50) := ⟨⟨by decide +kernel, by decide +kernel⟩, List.mem_of_getElem? (i := 811) (by decide +kernel), List.mem_of_getElem? (i := 1012) (by decide +kernel), List.mem_of_getElem? (i := 1013) (by decide +kernel)⟩
theorem lw_p31 : lw_okq (⟨"MagnetRingModel", "isSign", "(I)Z"⟩, 50) := ⟨⟨by decide +kernel, by decide +kernel⟩, List.mem_of_getElem? (i := 811) (by decide +kernel), List.mem_of_getElem? (i := 1016) (by decide +kernel), List.mem_of_getElem? (i := 1017) (by decide +kernel)⟩
def lw_privs_2 : List (MethodName × Nat) := [(⟨"MagnetRing$Reader", "takeAbove", "()I"⟩, 12), (⟨"MagnetRing$Reader", "takeBelow", "()I"⟩, 12), (⟨"MagnetRing$Reader", "takeOpen", "()I"⟩, 12), (⟨"MagnetRing$Optics", "beginTable", "()V"⟩, 14), (⟨"MagnetRing$Optics", "lead", "(LMagnetRing$Mote;LMagnetRing$Part;)V"⟩, 14), (⟨"MagnetRing$Reckoner", "settle", "(LMagnetRing$Fraction;JJ)V"⟩, 2), (⟨"MagnetRing$Optics", "tell", "(LMagnetRing$Fraction;)V"⟩, 14), (⟨"MagnetRing$Optics", "giveKick", "(LMagnetRing$Mote;LMagnetRing$Ring;I[LMagnetRing$Fraction;)V"⟩, 14), (⟨"MagnetRing$Optics", "solveClosed", "()V"⟩, 14), (⟨"MagnetRing$Lattice", "follow", "(LMagnetRing$Ring;II)I"⟩, 9), (⟨"MagnetRing$Lattice", "noteCycle", "(II)V"⟩, 9), (⟨"MagnetRingModel", "next", "()V"⟩, 50), (⟨"MagnetRingModel", "fails", "(I)Z"⟩, 50), (⟨"MagnetRingModel", "line", "()Z"⟩, 50), (⟨"MagnetRingModel", "named", "(J)I"⟩, 50), (⟨"MagnetRingModel", "isSign", "(I)Z"⟩, 50)]
theorem lw_r2 : ∀ q ∈ lw_privs_2, lw_okq q := List.forall_mem_cons.mpr ⟨lw_p16, List.forall_mem_cons.mpr ⟨lw_p17, List.forall_mem_cons.mpr ⟨lw_p18, List.forall_mem_cons.mpr ⟨lw_p19, List.forall_mem_cons.mpr ⟨lw_p20, List.forall_mem_cons.mpr ⟨lw_p21, List.forall_mem_cons.mpr ⟨lw_p22, List.forall_mem_cons.mpr ⟨lw_p23, List.forall_mem_cons.mpr ⟨lw_p24, List.forall_mem_cons.mpr ⟨lw_p25, List.forall_mem_cons.mpr ⟨lw_p26, List.forall_mem_cons.mpr ⟨lw_p27, List.forall_mem_cons.mpr ⟨lw_p28, List.forall_mem_cons.mpr ⟨lw_p29, List.forall_mem_cons.mpr ⟨lw_p30, List.forall_mem_cons.mpr ⟨lw_p31, fun _ h => absurd h List.not_mem_nil⟩⟩⟩⟩⟩⟩⟩⟩⟩⟩⟩⟩⟩⟩⟩⟩
theorem lw_p32 : lw_okq (⟨"MagnetRingModel", "closes", "()Z"⟩, 50) := ⟨⟨by decide +kernel, by decide +kernel⟩, List.mem_of_getElem? (i := 811) (by decide +kernel), List.mem_of_getElem? (i := 1020) (by decide +kernel), List.mem_of_getElem? (i := 1021) (by decide +kernel)⟩
theorem lw_p33 : lw_okq (⟨"MagnetRingModel", "adds", "(IJJ)V"⟩, 50) := ⟨⟨by decide +kernel, by decide +kernel⟩, List.mem_of_getElem? (i := 811) (by decide +kernel), List.mem_of_getElem? (i := 1024) (by decide +kernel), List.mem_of_getElem? (i := 1025) (by decide +kernel)⟩
theorem lw_p34 : lw_okq (⟨"MagnetRingModel", "item", "()Z"⟩, 50) := ⟨⟨by decide +kernel, by decide +kernel⟩, List.mem_of_getElem? (i := 811) (by decide +kernel), List.mem_of_getElem? (i := 1031) (by decide +kernel), List.mem_of_getElem? (i := 1032) (by decide +kernel)⟩
theorem lw_p35 : lw_okq (⟨"MagnetRingModel", "figure", "(Z)Z"⟩, 50) := ⟨⟨by decide +kernel, by decide +kernel⟩, List.mem_of_getElem? (i := 811) (by decide +kernel), List.mem_of_getElem? (i := 1036) (by decide +kernel), List.mem_of_getElem? (i := 1037) (by decide +kernel)⟩
theorem lw_p36 : lw_okq (⟨"MagnetRingModel", "isPart", "(I)Z"⟩, 50) := ⟨⟨by decide +kernel, by decide +kernel⟩, List.mem_of_getElem? (i := 811) (by decide +kernel), List.mem_of_getElem? (i := 1049) (by decide +kernel), List.mem_of_getElem? (i := 1050) (by decide +kernel)⟩
theorem lw_p37 : lw_okq (⟨"MagnetRingModel", "ahead", "(II)I"⟩, 50) := ⟨⟨by decide +kernel, by decide +kernel⟩, List.mem_of_getElem? (i := 811) (by decide +kernel), List.mem_of_getElem? (i := 1054) (by decide +kernel), List.mem_of_getElem? (i := 1055) (by decide +kernel)⟩
theorem lw_p38 : lw_okq (⟨"MagnetRingModel", "goes", "(II)V"⟩, 50) := ⟨⟨by decide +kernel, by decide +kernel⟩, List.mem_of_getElem? (i := 811) (by decide +kernel), List.mem_of_getElem? (i := 1069) (by decide +kernel), List.mem_of_getElem? (i := 1070) (by decide +kernel)⟩
theorem lw_p39 : lw_okq (⟨"MagnetRingModel", "starts", "()V"⟩, 50) := ⟨⟨by decide +kernel, by decide +kernel⟩, List.mem_of_getElem? (i := 811) (by decide +kernel), List.mem_of_getElem? (i := 1073) (by decide +kernel), List.mem_of_getElem? (i := 1074) (by decide +kernel)⟩
theorem lw_p40 : lw_okq (⟨"MagnetRingModel", "lays", "(IJJ)V"⟩, 50) := ⟨⟨by decide +kernel, by decide +kernel⟩, List.mem_of_getElem? (i := 811) (by decide +kernel), List.mem_of_getElem? (i := 1077) (by decide +kernel), List.mem_of_getElem? (i := 1078) (by decide +kernel)⟩
theorem lw_p41 : lw_okq (⟨"MagnetRingModel", "leadsTable", "(I)V"⟩, 50) := ⟨⟨by decide +kernel, by decide +kernel⟩, List.mem_of_getElem? (i := 811) (by decide +kernel), List.mem_of_getElem? (i := 1081) (by decide +kernel), List.mem_of_getElem? (i := 1082) (by decide +kernel)⟩
theorem lw_p42 : lw_okq (⟨"MagnetRingModel", "leads", "(IJJI)V"⟩, 50) := ⟨⟨by decide +kernel, by decide +kernel⟩, List.mem_of_getElem? (i := 811) (by decide +kernel), List.mem_of_getElem? (i := 1085) (by decide +kernel), List.mem_of_getElem? (i := 1086) (by decide +kernel)⟩
theorem lw_p43 : lw_okq (⟨"MagnetRingModel", "product", "(JJJJ)V"⟩, 50) := ⟨⟨by decide +kernel, by decide +kernel⟩, List.mem_of_getElem? (i := 811) (by decide +kernel), List.mem_of_getElem? (i := 1089) (by decide +kernel), List.mem_of_getElem? (i := 1090) (by decide +kernel)⟩
theorem lw_p44 : lw_okq (⟨"MagnetRingModel", "holds", "(JJ)V"⟩, 50) := ⟨⟨by decide +kernel, by decide +kernel⟩, List.mem_of_getElem? (i := 811) (by decide +kernel), List.mem_of_getElem? (i := 1093) (by decide +kernel), List.mem_of_getElem? (i := 1094) (by decide +kernel)⟩
theorem lw_p45 : lw_okq (⟨"MagnetRingModel", "sum", "(JJJJ)V"⟩, 50) := ⟨⟨by decide +kernel, by decide +kernel⟩, List.mem_of_getElem? (i := 811) (by decide +kernel), List.mem_of_getElem? (i := 1099) (by decide +kernel), List.mem_of_getElem? (i := 1100) (by decide +kernel)⟩
theorem lw_p46 : lw_okq (⟨"MagnetRingModel", "tables", "()I"⟩, 50) := ⟨⟨by decide +kernel, by decide +kernel⟩, List.mem_of_getElem? (i := 811) (by decide +kernel), List.mem_of_getElem? (i := 1103) (by decide +kernel), List.mem_of_getElem? (i := 1104) (by decide +kernel)⟩
theorem lw_p47 : lw_okq (⟨"MagnetRingModel", "tells", "(IJJ)V"⟩, 50) := ⟨⟨by decide +kernel, by decide +kernel⟩, List.mem_of_getElem? (i := 811) (by decide +kernel), List.mem_of_getElem? (i := 1107) (by decide +kernel), List.mem_of_getElem? (i := 1108) (by decide +kernel)⟩
def lw_privs_3 : List (MethodName × Nat) := [(⟨"MagnetRingModel", "closes", "()Z"⟩, 50), (⟨"MagnetRingModel", "adds", "(IJJ)V"⟩, 50), (⟨"MagnetRingModel", "item", "()Z"⟩, 50), (⟨"MagnetRingModel", "figure", "(Z)Z"⟩, 50), (⟨"MagnetRingModel", "isPart", "(I)Z"⟩, 50), (⟨"MagnetRingModel", "ahead", "(II)I"⟩, 50), (⟨"MagnetRingModel", "goes", "(II)V"⟩, 50), (⟨"MagnetRingModel", "starts", "()V"⟩, 50), (⟨"MagnetRingModel", "lays", "(IJJ)V"⟩, 50), (⟨"MagnetRingModel", "leadsTable", "(I)V"⟩, 50), (⟨"MagnetRingModel", "leads", "(IJJI)V"⟩, 50), (⟨"MagnetRingModel", "product", "(JJJJ)V"⟩, 50), (⟨"MagnetRingModel", "holds", "(JJ)V"⟩, 50), (⟨"MagnetRingModel", "sum", "(JJJJ)V"⟩, 50), (⟨"MagnetRingModel", "tables", "()I"⟩, 50), (⟨"MagnetRingModel", "tells", "(IJJ)V"⟩, 50)]
theorem lw_r3 : ∀ q ∈ lw_privs_3, lw_okq q := List.forall_mem_cons.mpr ⟨lw_p32, List.forall_mem_cons.mpr ⟨lw_p33, List.forall_mem_cons.mpr ⟨lw_p34, List.forall_mem_cons.mpr ⟨lw_p35, List.forall_mem_cons.mpr ⟨lw_p36, List.forall_mem_cons.mpr ⟨lw_p37, List.forall_mem_cons.mpr ⟨lw_p38, List.forall_mem_cons.mpr ⟨lw_p39, List.forall_mem_cons.mpr ⟨lw_p40, List.forall_mem_cons.mpr ⟨lw_p41, List.forall_mem_cons.mpr ⟨lw_p42, List.forall_mem_cons.mpr ⟨lw_p43, List.forall_mem_cons.mpr ⟨lw_p44, List.forall_mem_cons.mpr ⟨lw_p45, List.forall_mem_cons.mpr ⟨lw_p46, List.forall_mem_cons.mpr ⟨lw_p47, fun _ h => absurd h List.not_mem_nil⟩⟩⟩⟩⟩⟩⟩⟩⟩⟩⟩⟩⟩⟩⟩⟩
theorem lw_p48 : lw_okq (⟨"MagnetRingModel", "kept", "()I"⟩, 50) := ⟨⟨by decide +kernel, by decide +kernel⟩, List.mem_of_getElem? (i := 811) (by decide +kernel), List.mem_of_getElem? (i := 1115) (by decide +kernel), List.mem_of_getElem? (i := 1116) (by decide +kernel)⟩
theorem lw_p49 : lw_okq (⟨"MagnetRingModel", "closed", "(II)I"⟩, 50) := ⟨⟨by decide +kernel, by decide +kernel⟩, List.mem_of_getElem? (i := 811) (by decide +kernel), List.mem_of_getElem? (i := 1131) (by decide +kernel), List.mem_of_getElem? (i := 1132) (by decide +kernel)⟩
theorem lw_p50 : lw_okq (⟨"MagnetRingModel", "leadsMote", "(III)V"⟩, 50) := ⟨⟨by decide +kernel, by decide +kernel⟩, List.mem_of_getElem? (i := 811) (by decide +kernel), List.mem_of_getElem? (i := 1135) (by decide +kernel), List.mem_of_getElem? (i := 1136) (by decide +kernel)⟩
theorem lw_p51 : lw_okq (⟨"MagnetRingModel", "divided", "(JJJJ)V"⟩, 50) := ⟨⟨by decide +kernel, by decide +kernel⟩, List.mem_of_getElem? (i := 811) (by decide +kernel), List.mem_of_getElem? (i := 1139) (by decide +kernel), List.mem_of_getElem? (i := 1140) (by decide +kernel)⟩
theorem lw_p52 : lw_okq (⟨"MagnetRingModel", "partOf", "(II)I"⟩, 50) := ⟨⟨by decide +kernel, by decide +kernel⟩, List.mem_of_getElem? (i := 811) (by decide +kernel), List.mem_of_getElem? (i := 1147) (by decide +kernel), List.mem_of_getElem? (i := 1148) (by decide +kernel)⟩
theorem lw_p53 : lw_okq (⟨"MagnetRingModel", "weighs", "(I)Z"⟩, 50) := ⟨⟨by decide +kernel, by decide +kernel⟩, List.mem_of_getElem? (i := 811) (by decide +kernel), List.mem_of_getElem? (i := 1168) (by decide +kernel), List.mem_of_getElem? (i := 1169) (by decide +kernel)⟩
theorem lw_p54 : lw_okq (⟨"MagnetRingModel", "rounds", "(II)I"⟩, 50) := ⟨⟨by decide +kernel, by decide +kernel⟩, List.mem_of_getElem? (i := 811) (by decide +kernel), List.mem_of_getElem? (i := 1175) (by decide +kernel), List.mem_of_getElem? (i := 1176) (by decide +kernel)⟩
def lw_privs_4 : List (MethodName × Nat) := [(⟨"MagnetRingModel", "kept", "()I"⟩, 50), (⟨"MagnetRingModel", "closed", "(II)I"⟩, 50), (⟨"MagnetRingModel", "leadsMote", "(III)V"⟩, 50), (⟨"MagnetRingModel", "divided", "(JJJJ)V"⟩, 50), (⟨"MagnetRingModel", "partOf", "(II)I"⟩, 50), (⟨"MagnetRingModel", "weighs", "(I)Z"⟩, 50), (⟨"MagnetRingModel", "rounds", "(II)I"⟩, 50)]
theorem lw_r4 : ∀ q ∈ lw_privs_4, lw_okq q := List.forall_mem_cons.mpr ⟨lw_p48, List.forall_mem_cons.mpr ⟨lw_p49, List.forall_mem_cons.mpr ⟨lw_p50, List.forall_mem_cons.mpr ⟨lw_p51, List.forall_mem_cons.mpr ⟨lw_p52, List.forall_mem_cons.mpr ⟨lw_p53, List.forall_mem_cons.mpr ⟨lw_p54, fun _ h => absurd h List.not_mem_nil⟩⟩⟩⟩⟩⟩⟩
def lw_privs : List (MethodName × Nat) := lw_privs_1 ++ (lw_privs_2 ++ (lw_privs_3 ++ (lw_privs_4)))
def lw_tbl : List Cond := k2_sels lw_privs ++ tables_1
theorem lw_privs_ok : ∀ q ∈ lw_privs, lw_okq q := by
  show ∀ q ∈ lw_privs_1 ++ (lw_privs_2 ++ (lw_privs_3 ++ (lw_privs_4))), lw_okq q
  exact List.forall_mem_append.mpr ⟨lw_r1, List.forall_mem_append.mpr ⟨lw_r2, List.forall_mem_append.mpr ⟨lw_r3, lw_r4⟩⟩⟩
end
section
def RX0 : String := "MagnetRing$Fraction"
def TX0 : u_T := fun k => match k with
  | 0 => ("MagnetRing$Fraction", "above", "J", false)
  | _ => ("MagnetRing$Fraction", "below", "J", false)
def tyX0 : Nat → FieldType := fun k => match k with
  | 0 => .long
  | _ => .long
abbrev wsX00 : List Cond := u_ws RX0 TX0 2
theorem nmX0 : ∀ a, a < 2 → ∀ b, b < 2 → a ≠ b → (TX0 a).2.1 ≠ (TX0 b).2.1 := by decide +kernel
theorem tyX0_ok : ∀ k, k < 2 → parseFieldDescriptor (TX0 k).2.2.1 = some (tyX0 k) := by decide +kernel
abbrev cX0_init : ByteArray := prog_2_method_1_code
def yX0_init : MethodName := ⟨RX0, "<init>", "()V"⟩
abbrev cX0_put : ByteArray := prog_2_method_2_code
def yX0_put : MethodName := ⟨RX0, "put", "(JJ)V"⟩
abbrev cX0_copy : ByteArray := prog_2_method_3_code
def yX0_copy : MethodName := ⟨RX0, "copy", "(LMagnetRing$Fraction;)V"⟩
abbrev cX0_negate : ByteArray := prog_2_method_4_code
def yX0_negate : MethodName := ⟨RX0, "negate", "()V"⟩
abbrev cX0_isZero : ByteArray := prog_2_method_5_code
def yX0_isZero : MethodName := ⟨RX0, "isZero", "()Z"⟩
abbrev cX0_compareToWhole : ByteArray := prog_2_method_6_code
def yX0_compareToWhole : MethodName := ⟨RX0, "compareToWhole", "(J)I"⟩
abbrev cX0_side : ByteArray := prog_2_method_7_code
def yX0_side : MethodName := ⟨RX0, "side", "(I)I"⟩
def RX1 : String := "MagnetRing$Lattice"
def TX1 : u_T := fun k => match k with
  | 0 => ("MagnetRing$Lattice", "prime", "I", false)
  | 1 => ("MagnetRing$Lattice", "strengths", "[I", true)
  | 2 => ("MagnetRing$Lattice", "seen", "[Z", true)
  | 3 => ("MagnetRing$Lattice", "told", "Z", false)
  | 4 => ("MagnetRing$Lattice", "toldPrime", "I", false)
  | 5 => ("MagnetRing$Lattice", "resting", "I", false)
  | 6 => ("MagnetRing$Lattice", "cycles", "I", false)
  | 7 => ("MagnetRing$Lattice", "longest", "I", false)
  | _ => ("MagnetRing$Lattice", "leader", "I", false)
def tyX1 : Nat → FieldType := fun k => match k with
  | 0 => .int
  | 1 => .array .int
  | 2 => .array .boolean
  | 3 => .boolean
  | 4 => .int
  | 5 => .int
  | 6 => .int
  | 7 => .int
  | _ => .int
abbrev wsX10 : List Cond := u_ws RX1 TX1 9
theorem nmX1 : ∀ a, a < 9 → ∀ b, b < 9 → a ≠ b → (TX1 a).2.1 ≠ (TX1 b).2.1 := by decide +kernel
theorem tyX1_ok : ∀ k, k < 9 → parseFieldDescriptor (TX1 k).2.2.1 = some (tyX1 k) := by decide +kernel
abbrev cX1_init : ByteArray := prog_3_method_1_code
def yX1_init : MethodName := ⟨RX1, "<init>", "()V"⟩
abbrev cX1_forget : ByteArray := prog_3_method_2_code
def yX1_forget : MethodName := ⟨RX1, "forget", "()V"⟩
abbrev cX1_prepare : ByteArray := prog_3_method_3_code
def yX1_prepare : MethodName := ⟨RX1, "prepare", "(LMagnetRing$Ring;I)Z"⟩
abbrev cX1_inverse : ByteArray := prog_3_method_4_code
def yX1_inverse : MethodName := ⟨RX1, "inverse", "(II)I"⟩
abbrev cX1_next : ByteArray := prog_3_method_5_code
def yX1_next : MethodName := ⟨RX1, "next", "(LMagnetRing$Ring;I)I"⟩
abbrev cX1_followAll : ByteArray := prog_3_method_6_code
def yX1_followAll : MethodName := ⟨RX1, "followAll", "(LMagnetRing$Ring;)V"⟩
abbrev cX1_follow : ByteArray := prog_3_method_7_code
def yX1_follow : MethodName := ⟨RX1, "follow", "(LMagnetRing$Ring;II)I"⟩
abbrev cX1_noteCycle : ByteArray := prog_3_method_8_code
def yX1_noteCycle : MethodName := ⟨RX1, "noteCycle", "(II)V"⟩
abbrev cX1_fact : ByteArray := prog_3_method_9_code
def yX1_fact : MethodName := ⟨RX1, "fact", "(I)I"⟩
def RX2 : String := "MagnetRing$Line"
def TX2 : u_T := fun k => match k with
  | 0 => ("MagnetRing$Line", "name", "J", true)
  | 1 => ("MagnetRing$Line", "parts", "[LMagnetRing$Part;", true)
  | _ => ("MagnetRing$Line", "ahead", "LMagnetRing$Line;", true)
def tyX2 : Nat → FieldType := fun k => match k with
  | 0 => .long
  | 1 => .array (.object "MagnetRing$Part")
  | _ => .object "MagnetRing$Line"
abbrev wsX20 : List Cond := u_ws RX2 TX2 3
theorem nmX2 : ∀ a, a < 3 → ∀ b, b < 3 → a ≠ b → (TX2 a).2.1 ≠ (TX2 b).2.1 := by decide +kernel
theorem tyX2_ok : ∀ k, k < 3 → parseFieldDescriptor (TX2 k).2.2.1 = some (tyX2 k) := by decide +kernel
abbrev cX2_init : ByteArray := prog_4_method_1_code
def yX2_init : MethodName := ⟨RX2, "<init>", "(JLMagnetRing$Row;LMagnetRing$Line;)V"⟩
def RX3 : String := "MagnetRing$Mote"
def TX3 : u_T := fun k => match k with
  | 0 => ("MagnetRing$Mote", "x", "LMagnetRing$Fraction;", true)
  | _ => ("MagnetRing$Mote", "y", "LMagnetRing$Fraction;", true)
def tyX3 : Nat → FieldType := fun k => match k with
  | 0 => .object "MagnetRing$Fraction"
  | _ => .object "MagnetRing$Fraction"
abbrev wsX30 : List Cond := u_ws RX3 TX3 2
theorem nmX3 : ∀ a, a < 2 → ∀ b, b < 2 → a ≠ b → (TX3 a).2.1 ≠ (TX3 b).2.1 := by decide +kernel
theorem tyX3_ok : ∀ k, k < 2 → parseFieldDescriptor (TX3 k).2.2.1 = some (tyX3 k) := by decide +kernel
abbrev cX3_init : ByteArray := prog_5_method_1_code
def yX3_init : MethodName := ⟨RX3, "<init>", "()V"⟩
abbrev cX3_put : ByteArray := prog_5_method_2_code
def yX3_put : MethodName := ⟨RX3, "put", "(JJ)V"⟩
def RX4 : String := "MagnetRing$Optics"
def TX4 : u_T := fun k => match k with
  | 0 => ("MagnetRing$Optics", "reckoner", "LMagnetRing$Reckoner;", true)
  | 1 => ("MagnetRing$Optics", "columnAC", "LMagnetRing$Mote;", true)
  | 2 => ("MagnetRing$Optics", "columnBD", "LMagnetRing$Mote;", true)
  | 3 => ("MagnetRing$Optics", "kicked", "LMagnetRing$Mote;", true)
  | 4 => ("MagnetRing$Optics", "closed", "LMagnetRing$Mote;", true)
  | 5 => ("MagnetRing$Optics", "trace", "LMagnetRing$Fraction;", true)
  | 6 => ("MagnetRing$Optics", "gap", "LMagnetRing$Fraction;", true)
  | 7 => ("MagnetRing$Optics", "rest", "LMagnetRing$Fraction;", true)
  | 8 => ("MagnetRing$Optics", "middleWidth", "LMagnetRing$Fraction;", true)
  | 9 => ("MagnetRing$Optics", "bumpMiddle", "LMagnetRing$Fraction;", true)
  | 10 => ("MagnetRing$Optics", "bumpEnd", "LMagnetRing$Fraction;", true)
  | 11 => ("MagnetRing$Optics", "trialKicks", "[LMagnetRing$Fraction;", true)
  | 12 => ("MagnetRing$Optics", "told", "[LMagnetRing$Fraction;", true)
  | _ => ("MagnetRing$Optics", "toldAmount", "I", false)
def tyX4 : Nat → FieldType := fun k => match k with
  | 0 => .object "MagnetRing$Reckoner"
  | 1 => .object "MagnetRing$Mote"
  | 2 => .object "MagnetRing$Mote"
  | 3 => .object "MagnetRing$Mote"
  | 4 => .object "MagnetRing$Mote"
  | 5 => .object "MagnetRing$Fraction"
  | 6 => .object "MagnetRing$Fraction"
  | 7 => .object "MagnetRing$Fraction"
  | 8 => .object "MagnetRing$Fraction"
  | 9 => .object "MagnetRing$Fraction"
  | 10 => .object "MagnetRing$Fraction"
  | 11 => .array (.object "MagnetRing$Fraction")
  | 12 => .array (.object "MagnetRing$Fraction")
  | _ => .int
abbrev wsX40 : List Cond := u_ws RX4 TX4 14
theorem nmX4 : ∀ a, a < 14 → ∀ b, b < 14 → a ≠ b → (TX4 a).2.1 ≠ (TX4 b).2.1 := by decide +kernel
theorem tyX4_ok : ∀ k, k < 14 → parseFieldDescriptor (TX4 k).2.2.1 = some (tyX4 k) := by decide +kernel
abbrev cX4_init : ByteArray := prog_6_method_1_code
def yX4_init : MethodName := ⟨RX4, "<init>", "()V"⟩
abbrev cX4_isBig : ByteArray := prog_6_method_2_code
def yX4_isBig : MethodName := ⟨RX4, "isBig", "()Z"⟩
abbrev cX4_onlyKick : ByteArray := prog_6_method_3_code
def yX4_onlyKick : MethodName := ⟨RX4, "onlyKick", "(I)[LMagnetRing$Fraction;"⟩
abbrev cX4_lead : ByteArray := prog_6_method_4_code
def yX4_lead : MethodName := ⟨RX4, "lead", "(LMagnetRing$Mote;LMagnetRing$Part;)V"⟩
abbrev cX4_giveKick : ByteArray := prog_6_method_5_code
def yX4_giveKick : MethodName := ⟨RX4, "giveKick", "(LMagnetRing$Mote;LMagnetRing$Ring;I[LMagnetRing$Fraction;)V"⟩
abbrev cX4_beginTable : ByteArray := prog_6_method_6_code
def yX4_beginTable : MethodName := ⟨RX4, "beginTable", "()V"⟩
abbrev cX4_reckonTable : ByteArray := prog_6_method_7_code
def yX4_reckonTable : MethodName := ⟨RX4, "reckonTable", "(LMagnetRing$Ring;II)V"⟩
abbrev cX4_stability : ByteArray := prog_6_method_8_code
def yX4_stability : MethodName := ⟨RX4, "stability", "()I"⟩
abbrev cX4_roundsUntilBack : ByteArray := prog_6_method_9_code
def yX4_roundsUntilBack : MethodName := ⟨RX4, "roundsUntilBack", "()I"⟩
abbrev cX4_reckonMiddleWidth : ByteArray := prog_6_method_10_code
def yX4_reckonMiddleWidth : MethodName := ⟨RX4, "reckonMiddleWidth", "()V"⟩
abbrev cX4_closeWay : ByteArray := prog_6_method_11_code
def yX4_closeWay : MethodName := ⟨RX4, "closeWay", "(LMagnetRing$Ring;[LMagnetRing$Fraction;I)I"⟩
abbrev cX4_solveClosed : ByteArray := prog_6_method_12_code
def yX4_solveClosed : MethodName := ⟨RX4, "solveClosed", "()V"⟩
abbrev cX4_closeBump : ByteArray := prog_6_method_13_code
def yX4_closeBump : MethodName := ⟨RX4, "closeBump", "(LMagnetRing$Ring;III)I"⟩
abbrev cX4_hasTold : ByteArray := prog_6_method_14_code
def yX4_hasTold : MethodName := ⟨RX4, "hasTold", "(I)Z"⟩
abbrev cX4_tell : ByteArray := prog_6_method_15_code
def yX4_tell : MethodName := ⟨RX4, "tell", "(LMagnetRing$Fraction;)V"⟩
abbrev cX4_tellTable : ByteArray := prog_6_method_16_code
def yX4_tellTable : MethodName := ⟨RX4, "tellTable", "()I"⟩
abbrev cX4_tellWidths : ByteArray := prog_6_method_17_code
def yX4_tellWidths : MethodName := ⟨RX4, "tellWidths", "()I"⟩
abbrev cX4_tellWay : ByteArray := prog_6_method_18_code
def yX4_tellWay : MethodName := ⟨RX4, "tellWay", "()I"⟩
abbrev cX4_tellWayX : ByteArray := prog_6_method_19_code
def yX4_tellWayX : MethodName := ⟨RX4, "tellWayX", "()I"⟩
abbrev cX4_tellBump : ByteArray := prog_6_method_20_code
def yX4_tellBump : MethodName := ⟨RX4, "tellBump", "()I"⟩
def RX5 : String := "MagnetRing$Part"
def TX5 : u_T := fun k => match k with
  | 0 => ("MagnetRing$Part", "kind", "I", true)
  | _ => ("MagnetRing$Part", "strength", "LMagnetRing$Fraction;", true)
def tyX5 : Nat → FieldType := fun k => match k with
  | 0 => .int
  | _ => .object "MagnetRing$Fraction"
abbrev wsX50 : List Cond := u_ws RX5 TX5 2
theorem nmX5 : ∀ a, a < 2 → ∀ b, b < 2 → a ≠ b → (TX5 a).2.1 ≠ (TX5 b).2.1 := by decide +kernel
theorem tyX5_ok : ∀ k, k < 2 → parseFieldDescriptor (TX5 k).2.2.1 = some (tyX5 k) := by decide +kernel
abbrev cX5_init : ByteArray := prog_7_method_1_code
def yX5_init : MethodName := ⟨RX5, "<init>", "(ILMagnetRing$Fraction;)V"⟩
def RX6 : String := "MagnetRing$Reader"
def TX6 : u_T := fun k => match k with
  | 0 => ("MagnetRing$Reader", "text", "LMagnetRing$Text;", true)
  | 1 => ("MagnetRing$Reader", "row", "LMagnetRing$Row;", true)
  | 2 => ("MagnetRing$Reader", "openFrom", "[I", true)
  | 3 => ("MagnetRing$Reader", "openTimes", "[I", true)
  | 4 => ("MagnetRing$Reader", "open", "I", false)
  | 5 => ("MagnetRing$Reader", "latest", "LMagnetRing$Line;", false)
  | 6 => ("MagnetRing$Reader", "expected", "I", false)
  | 7 => ("MagnetRing$Reader", "lineName", "J", false)
  | 8 => ("MagnetRing$Reader", "kind", "I", false)
  | 9 => ("MagnetRing$Reader", "sign", "I", false)
  | 10 => ("MagnetRing$Reader", "above", "I", false)
  | _ => ("MagnetRing$Reader", "times", "I", false)
def tyX6 : Nat → FieldType := fun k => match k with
  | 0 => .object "MagnetRing$Text"
  | 1 => .object "MagnetRing$Row"
  | 2 => .array .int
  | 3 => .array .int
  | 4 => .int
  | 5 => .object "MagnetRing$Line"
  | 6 => .int
  | 7 => .long
  | 8 => .int
  | 9 => .int
  | 10 => .int
  | _ => .int
abbrev wsX60 : List Cond := u_ws RX6 TX6 12
theorem nmX6 : ∀ a, a < 12 → ∀ b, b < 12 → a ≠ b → (TX6 a).2.1 ≠ (TX6 b).2.1 := by decide +kernel
theorem tyX6_ok : ∀ k, k < 12 → parseFieldDescriptor (TX6 k).2.2.1 = some (tyX6 k) := by decide +kernel
abbrev cX6_init : ByteArray := prog_8_method_1_code
def yX6_init : MethodName := ⟨RX6, "<init>", "()V"⟩
abbrev cX6_findFault : ByteArray := prog_8_method_2_code
def yX6_findFault : MethodName := ⟨RX6, "findFault", "()I"⟩
abbrev cX6_faultPlace : ByteArray := prog_8_method_3_code
def yX6_faultPlace : MethodName := ⟨RX6, "faultPlace", "()I"⟩
abbrev cX6_lastLine : ByteArray := prog_8_method_4_code
def yX6_lastLine : MethodName := ⟨RX6, "lastLine", "()LMagnetRing$Line;"⟩
abbrev cX6_take : ByteArray := prog_8_method_5_code
def yX6_take : MethodName := ⟨RX6, "take", "()I"⟩
abbrev cX6_takeAlone : ByteArray := prog_8_method_6_code
def yX6_takeAlone : MethodName := ⟨RX6, "takeAlone", "(II)I"⟩
abbrev cX6_takeLineName : ByteArray := prog_8_method_7_code
def yX6_takeLineName : MethodName := ⟨RX6, "takeLineName", "()I"⟩
abbrev cX6_lineOf : ByteArray := prog_8_method_8_code
def yX6_lineOf : MethodName := ⟨RX6, "lineOf", "(J)LMagnetRing$Line;"⟩
abbrev cX6_takeItem : ByteArray := prog_8_method_9_code
def yX6_takeItem : MethodName := ⟨RX6, "takeItem", "()I"⟩
abbrev cX6_takeTimes : ByteArray := prog_8_method_10_code
def yX6_takeTimes : MethodName := ⟨RX6, "takeTimes", "()I"⟩
abbrev cX6_takeToldName : ByteArray := prog_8_method_11_code
def yX6_takeToldName : MethodName := ⟨RX6, "takeToldName", "()I"⟩
abbrev cX6_beginPart : ByteArray := prog_8_method_12_code
def yX6_beginPart : MethodName := ⟨RX6, "beginPart", "(I)I"⟩
abbrev cX6_endPart : ByteArray := prog_8_method_13_code
def yX6_endPart : MethodName := ⟨RX6, "endPart", "(III)I"⟩
abbrev cX6_takeMinusOrNumber : ByteArray := prog_8_method_14_code
def yX6_takeMinusOrNumber : MethodName := ⟨RX6, "takeMinusOrNumber", "()I"⟩
abbrev cX6_takeAbove : ByteArray := prog_8_method_15_code
def yX6_takeAbove : MethodName := ⟨RX6, "takeAbove", "()I"⟩
abbrev cX6_takeBelow : ByteArray := prog_8_method_16_code
def yX6_takeBelow : MethodName := ⟨RX6, "takeBelow", "()I"⟩
abbrev cX6_takeOpen : ByteArray := prog_8_method_17_code
def yX6_takeOpen : MethodName := ⟨RX6, "takeOpen", "()I"⟩
abbrev cX6_closes : ByteArray := prog_8_method_18_code
def yX6_closes : MethodName := ⟨RX6, "closes", "()Z"⟩
abbrev cX6_takeClose : ByteArray := prog_8_method_19_code
def yX6_takeClose : MethodName := ⟨RX6, "takeClose", "()I"⟩
def RX7 : String := "MagnetRing$Reckoner"
def TX7 : u_T := fun k => match k with
  | 0 => ("MagnetRing$Reckoner", "big", "Z", false)
  | _ => ("MagnetRing$Reckoner", "product", "LMagnetRing$Fraction;", true)
def tyX7 : Nat → FieldType := fun k => match k with
  | 0 => .boolean
  | _ => .object "MagnetRing$Fraction"
abbrev wsX70 : List Cond := u_ws RX7 TX7 2
theorem nmX7 : ∀ a, a < 2 → ∀ b, b < 2 → a ≠ b → (TX7 a).2.1 ≠ (TX7 b).2.1 := by decide +kernel
theorem tyX7_ok : ∀ k, k < 2 → parseFieldDescriptor (TX7 k).2.2.1 = some (tyX7 k) := by decide +kernel
abbrev cX7_init : ByteArray := prog_9_method_1_code
def yX7_init : MethodName := ⟨RX7, "<init>", "()V"⟩
abbrev cX7_begin : ByteArray := prog_9_method_2_code
def yX7_begin : MethodName := ⟨RX7, "begin", "()V"⟩
abbrev cX7_plus : ByteArray := prog_9_method_3_code
def yX7_plus : MethodName := ⟨RX7, "plus", "(LMagnetRing$Fraction;LMagnetRing$Fraction;)V"⟩
abbrev cX7_minus : ByteArray := prog_9_method_4_code
def yX7_minus : MethodName := ⟨RX7, "minus", "(LMagnetRing$Fraction;LMagnetRing$Fraction;)V"⟩
abbrev cX7_times : ByteArray := prog_9_method_5_code
def yX7_times : MethodName := ⟨RX7, "times", "(LMagnetRing$Fraction;LMagnetRing$Fraction;)V"⟩
abbrev cX7_over : ByteArray := prog_9_method_6_code
def yX7_over : MethodName := ⟨RX7, "over", "(LMagnetRing$Fraction;LMagnetRing$Fraction;)V"⟩
abbrev cX7_plusProduct : ByteArray := prog_9_method_7_code
def yX7_plusProduct : MethodName := ⟨RX7, "plusProduct", "(LMagnetRing$Fraction;LMagnetRing$Fraction;LMagnetRing$Fraction;)V"⟩
abbrev cX7_minusProduct : ByteArray := prog_9_method_8_code
def yX7_minusProduct : MethodName := ⟨RX7, "minusProduct", "(LMagnetRing$Fraction;LMagnetRing$Fraction;LMagnetRing$Fraction;)V"⟩
abbrev cX7_settle : ByteArray := prog_9_method_9_code
def yX7_settle : MethodName := ⟨RX7, "settle", "(LMagnetRing$Fraction;JJ)V"⟩
def RX8 : String := "MagnetRing$Ring"
def TX8 : u_T := fun k => match k with
  | 0 => ("MagnetRing$Ring", "parts", "[LMagnetRing$Part;", false)
  | 1 => ("MagnetRing$Ring", "size", "I", false)
  | 2 => ("MagnetRing$Ring", "kicks", "[LMagnetRing$Fraction;", true)
  | 3 => ("MagnetRing$Ring", "kickAt", "[I", true)
  | 4 => ("MagnetRing$Ring", "lookAt", "[I", true)
  | 5 => ("MagnetRing$Ring", "kickOf", "[I", true)
  | 6 => ("MagnetRing$Ring", "kickAmount", "I", false)
  | _ => ("MagnetRing$Ring", "lookAmount", "I", false)
def tyX8 : Nat → FieldType := fun k => match k with
  | 0 => .array (.object "MagnetRing$Part")
  | 1 => .int
  | 2 => .array (.object "MagnetRing$Fraction")
  | 3 => .array .int
  | 4 => .array .int
  | 5 => .array .int
  | 6 => .int
  | _ => .int
abbrev wsX80 : List Cond := u_ws RX8 TX8 8
theorem nmX8 : ∀ a, a < 8 → ∀ b, b < 8 → a ≠ b → (TX8 a).2.1 ≠ (TX8 b).2.1 := by decide +kernel
theorem tyX8_ok : ∀ k, k < 8 → parseFieldDescriptor (TX8 k).2.2.1 = some (tyX8 k) := by decide +kernel
abbrev cX8_init : ByteArray := prog_10_method_1_code
def yX8_init : MethodName := ⟨RX8, "<init>", "()V"⟩
abbrev cX8_hasPart : ByteArray := prog_10_method_2_code
def yX8_hasPart : MethodName := ⟨RX8, "hasPart", "(I)Z"⟩
abbrev cX8_hasKick : ByteArray := prog_10_method_3_code
def yX8_hasKick : MethodName := ⟨RX8, "hasKick", "(I)Z"⟩
abbrev cX8_hasLook : ByteArray := prog_10_method_4_code
def yX8_hasLook : MethodName := ⟨RX8, "hasLook", "(I)Z"⟩
abbrev cX8_strengthAt : ByteArray := prog_10_method_5_code
def yX8_strengthAt : MethodName := ⟨RX8, "strengthAt", "(I)LMagnetRing$Fraction;"⟩
abbrev cX8_become : ByteArray := prog_10_method_6_code
def yX8_become : MethodName := ⟨RX8, "become", "(LMagnetRing$Line;)V"⟩
def RX9 : String := "MagnetRing$Row"
def TX9 : u_T := fun k => match k with
  | 0 => ("MagnetRing$Row", "parts", "[LMagnetRing$Part;", true)
  | 1 => ("MagnetRing$Row", "size", "I", false)
  | 2 => ("MagnetRing$Row", "kicks", "I", false)
  | 3 => ("MagnetRing$Row", "looks", "I", false)
  | _ => ("MagnetRing$Row", "many", "Z", false)
def tyX9 : Nat → FieldType := fun k => match k with
  | 0 => .array (.object "MagnetRing$Part")
  | 1 => .int
  | 2 => .int
  | 3 => .int
  | _ => .boolean
abbrev wsX90 : List Cond := u_ws RX9 TX9 5
theorem nmX9 : ∀ a, a < 5 → ∀ b, b < 5 → a ≠ b → (TX9 a).2.1 ≠ (TX9 b).2.1 := by decide +kernel
theorem tyX9_ok : ∀ k, k < 5 → parseFieldDescriptor (TX9 k).2.2.1 = some (tyX9 k) := by decide +kernel
abbrev cX9_init : ByteArray := prog_11_method_1_code
def yX9_init : MethodName := ⟨RX9, "<init>", "()V"⟩
abbrev cX9_clear : ByteArray := prog_11_method_2_code
def yX9_clear : MethodName := ⟨RX9, "clear", "()V"⟩
abbrev cX9_add : ByteArray := prog_11_method_3_code
def yX9_add : MethodName := ⟨RX9, "add", "(LMagnetRing$Part;)V"⟩
abbrev cX9_addLine : ByteArray := prog_11_method_4_code
def yX9_addLine : MethodName := ⟨RX9, "addLine", "(LMagnetRing$Line;)V"⟩
abbrev cX9_repeat : ByteArray := prog_11_method_5_code
def yX9_repeat : MethodName := ⟨RX9, "repeat", "(II)V"⟩
def RX10 : String := "MagnetRing$Text"
def TX10 : u_T := fun k => match k with
  | 0 => ("MagnetRing$Text", "signs", "[B", true)
  | 1 => ("MagnetRing$Text", "length", "I", false)
  | 2 => ("MagnetRing$Text", "kind", "I", false)
  | 3 => ("MagnetRing$Text", "start", "I", false)
  | 4 => ("MagnetRing$Text", "next", "I", false)
  | _ => ("MagnetRing$Text", "worth", "J", false)
def tyX10 : Nat → FieldType := fun k => match k with
  | 0 => .array .byte
  | 1 => .int
  | 2 => .int
  | 3 => .int
  | 4 => .int
  | _ => .long
abbrev wsX100 : List Cond := u_ws RX10 TX10 6
theorem nmX10 : ∀ a, a < 6 → ∀ b, b < 6 → a ≠ b → (TX10 a).2.1 ≠ (TX10 b).2.1 := by decide +kernel
theorem tyX10_ok : ∀ k, k < 6 → parseFieldDescriptor (TX10 k).2.2.1 = some (tyX10 k) := by decide +kernel
abbrev cX10_init : ByteArray := prog_12_method_1_code
def yX10_init : MethodName := ⟨RX10, "<init>", "()V"⟩
abbrev cX10_append : ByteArray := prog_12_method_2_code
def yX10_append : MethodName := ⟨RX10, "append", "(I)V"⟩
abbrev cX10_empty : ByteArray := prog_12_method_3_code
def yX10_empty : MethodName := ⟨RX10, "empty", "()V"⟩
abbrev cX10_rewind : ByteArray := prog_12_method_4_code
def yX10_rewind : MethodName := ⟨RX10, "rewind", "()V"⟩
abbrev cX10_advance : ByteArray := prog_12_method_5_code
def yX10_advance : MethodName := ⟨RX10, "advance", "()V"⟩
abbrev cX10_signAt : ByteArray := prog_12_method_6_code
def yX10_signAt : MethodName := ⟨RX10, "signAt", "(I)I"⟩
abbrev cX10_skipBlanks : ByteArray := prog_12_method_7_code
def yX10_skipBlanks : MethodName := ⟨RX10, "skipBlanks", "()V"⟩
abbrev cX10_takeName : ByteArray := prog_12_method_8_code
def yX10_takeName : MethodName := ⟨RX10, "takeName", "()V"⟩
abbrev cX10_takeNumber : ByteArray := prog_12_method_9_code
def yX10_takeNumber : MethodName := ⟨RX10, "takeNumber", "()V"⟩
abbrev cX10_isName : ByteArray := prog_12_method_10_code
def yX10_isName : MethodName := ⟨RX10, "isName", "(I)Z"⟩
abbrev cX10_isKindLetter : ByteArray := prog_12_method_11_code
def yX10_isKindLetter : MethodName := ⟨RX10, "isKindLetter", "()Z"⟩
abbrev cX10_letterWorth : ByteArray := prog_12_method_12_code
def yX10_letterWorth : MethodName := ⟨RX10, "letterWorth", "(I)I"⟩
abbrev cX10_isBlank : ByteArray := prog_12_method_13_code
def yX10_isBlank : MethodName := ⟨RX10, "isBlank", "(I)Z"⟩
abbrev cX10_isLetter : ByteArray := prog_12_method_14_code
def yX10_isLetter : MethodName := ⟨RX10, "isLetter", "(I)Z"⟩
abbrev cX10_isFigure : ByteArray := prog_12_method_15_code
def yX10_isFigure : MethodName := ⟨RX10, "isFigure", "(I)Z"⟩
abbrev cX10_standsAlone : ByteArray := prog_12_method_16_code
def yX10_standsAlone : MethodName := ⟨RX10, "standsAlone", "(I)Z"⟩
def RX11 : String := "MagnetRing"
def TX11 : u_T := fun k => match k with
  | 0 => ("MagnetRing", "reader", "LMagnetRing$Reader;", true)
  | 1 => ("MagnetRing", "ring", "LMagnetRing$Ring;", true)
  | 2 => ("MagnetRing", "optics", "LMagnetRing$Optics;", true)
  | 3 => ("MagnetRing", "lattice", "LMagnetRing$Lattice;", true)
  | _ => ("MagnetRing", "faultPlace", "I", false)
def tyX11 : Nat → FieldType := fun k => match k with
  | 0 => .object "MagnetRing$Reader"
  | 1 => .object "MagnetRing$Ring"
  | 2 => .object "MagnetRing$Optics"
  | 3 => .object "MagnetRing$Lattice"
  | _ => .int
abbrev wsX110 : List Cond := u_ws RX11 TX11 5
theorem nmX11 : ∀ a, a < 5 → ∀ b, b < 5 → a ≠ b → (TX11 a).2.1 ≠ (TX11 b).2.1 := by decide +kernel
theorem tyX11_ok : ∀ k, k < 5 → parseFieldDescriptor (TX11 k).2.2.1 = some (tyX11 k) := by decide +kernel
abbrev cX11_init : ByteArray := prog_1_method_1_code
def yX11_init : MethodName := ⟨RX11, "<init>", "()V"⟩
abbrev cX11_feed : ByteArray := prog_1_method_2_code
def yX11_feed : MethodName := ⟨RX11, "feed", "(IJ)I"⟩
abbrev cX11_read : ByteArray := prog_1_method_3_code
def yX11_read : MethodName := ⟨RX11, "read", "()I"⟩
abbrev cX11_place : ByteArray := prog_1_method_4_code
def yX11_place : MethodName := ⟨RX11, "place", "()I"⟩
abbrev cX11_part : ByteArray := prog_1_method_5_code
def yX11_part : MethodName := ⟨RX11, "part", "(II)I"⟩
abbrev cX11_kick : ByteArray := prog_1_method_6_code
def yX11_kick : MethodName := ⟨RX11, "kick", "(III)I"⟩
abbrev cX11_table : ByteArray := prog_1_method_7_code
def yX11_table : MethodName := ⟨RX11, "table", "(II)I"⟩
abbrev cX11_round : ByteArray := prog_1_method_8_code
def yX11_round : MethodName := ⟨RX11, "round", "(I)I"⟩
abbrev cX11_widths : ByteArray := prog_1_method_9_code
def yX11_widths : MethodName := ⟨RX11, "widths", "(I)I"⟩
abbrev cX11_turns : ByteArray := prog_1_method_10_code
def yX11_turns : MethodName := ⟨RX11, "turns", "()I"⟩
abbrev cX11_way : ByteArray := prog_1_method_11_code
def yX11_way : MethodName := ⟨RX11, "way", "(I)I"⟩
abbrev cX11_answer : ByteArray := prog_1_method_12_code
def yX11_answer : MethodName := ⟨RX11, "answer", "(II)I"⟩
abbrev cX11_bump : ByteArray := prog_1_method_13_code
def yX11_bump : MethodName := ⟨RX11, "bump", "(III)I"⟩
abbrev cX11_number : ByteArray := prog_1_method_14_code
def yX11_number : MethodName := ⟨RX11, "number", "(II)I"⟩
abbrev cX11_grid : ByteArray := prog_1_method_15_code
def yX11_grid : MethodName := ⟨RX11, "grid", "(I)I"⟩
abbrev cX11_rows : ByteArray := prog_1_method_16_code
def yX11_rows : MethodName := ⟨RX11, "rows", "(I)I"⟩
abbrev cX11_after : ByteArray := prog_1_method_17_code
def yX11_after : MethodName := ⟨RX11, "after", "(IIII)I"⟩
abbrev cX11_count : ByteArray := prog_1_method_18_code
def yX11_count : MethodName := ⟨RX11, "count", "(I)I"⟩
abbrev cX11_isPrime : ByteArray := prog_1_method_19_code
def yX11_isPrime : MethodName := ⟨RX11, "isPrime", "(I)Z"⟩
abbrev cX11_commonDivisor : ByteArray := prog_1_method_20_code
def yX11_commonDivisor : MethodName := ⟨RX11, "commonDivisor", "(JJ)J"⟩
def RX12 : String := "MagnetRingModel"
def TX12 : u_T := fun k => match k with
  | 0 => ("MagnetRingModel", "text", "[I", true)
  | 1 => ("MagnetRingModel", "size", "I", false)
  | 2 => ("MagnetRingModel", "at", "I", false)
  | 3 => ("MagnetRingModel", "from", "I", false)
  | 4 => ("MagnetRingModel", "sort", "I", false)
  | 5 => ("MagnetRingModel", "value", "J", false)
  | 6 => ("MagnetRingModel", "fault", "I", false)
  | 7 => ("MagnetRingModel", "place", "I", false)
  | 8 => ("MagnetRingModel", "names", "I", false)
  | 9 => ("MagnetRingModel", "name", "[J", true)
  | 10 => ("MagnetRingModel", "begins", "[I", true)
  | 11 => ("MagnetRingModel", "lengths", "[I", true)
  | 12 => ("MagnetRingModel", "pooled", "I", false)
  | 13 => ("MagnetRingModel", "poolKind", "[I", true)
  | 14 => ("MagnetRingModel", "poolUp", "[J", true)
  | 15 => ("MagnetRingModel", "poolDown", "[J", true)
  | 16 => ("MagnetRingModel", "isOver", "Z", false)
  | 17 => ("MagnetRingModel", "parts", "I", false)
  | 18 => ("MagnetRingModel", "kicks", "I", false)
  | 19 => ("MagnetRingModel", "looks", "I", false)
  | 20 => ("MagnetRingModel", "kind", "[I", true)
  | 21 => ("MagnetRingModel", "up", "[J", true)
  | 22 => ("MagnetRingModel", "down", "[J", true)
  | 23 => ("MagnetRingModel", "open", "I", false)
  | 24 => ("MagnetRingModel", "often", "[I", true)
  | 25 => ("MagnetRingModel", "since", "[I", true)
  | 26 => ("MagnetRingModel", "some", "[Z", true)
  | 27 => ("MagnetRingModel", "readUp", "J", false)
  | 28 => ("MagnetRingModel", "readDown", "J", false)
  | 29 => ("MagnetRingModel", "ring", "I", false)
  | 30 => ("MagnetRingModel", "ringKicks", "I", false)
  | 31 => ("MagnetRingModel", "ringLooks", "I", false)
  | 32 => ("MagnetRingModel", "ringKind", "[I", true)
  | 33 => ("MagnetRingModel", "ringUp", "[J", true)
  | 34 => ("MagnetRingModel", "ringDown", "[J", true)
  | 35 => ("MagnetRingModel", "kickUp", "[J", true)
  | 36 => ("MagnetRingModel", "kickDown", "[J", true)
  | 37 => ("MagnetRingModel", "atUp", "J", false)
  | 38 => ("MagnetRingModel", "atDown", "J", false)
  | 39 => ("MagnetRingModel", "isBig", "Z", false)
  | 40 => ("MagnetRingModel", "tu", "[J", true)
  | 41 => ("MagnetRingModel", "td", "[J", true)
  | 42 => ("MagnetRingModel", "told", "I", false)
  | 43 => ("MagnetRingModel", "number", "[J", true)
  | 44 => ("MagnetRingModel", "gridP", "I", false)
  | 45 => ("MagnetRingModel", "gridRows", "I", false)
  | 46 => ("MagnetRingModel", "gridLongest", "I", false)
  | 47 => ("MagnetRingModel", "gridLeast", "I", false)
  | 48 => ("MagnetRingModel", "worth", "[I", true)
  | _ => ("MagnetRingModel", "met", "[Z", true)
def tyX12 : Nat → FieldType := fun k => match k with
  | 0 => .array .int
  | 1 => .int
  | 2 => .int
  | 3 => .int
  | 4 => .int
  | 5 => .long
  | 6 => .int
  | 7 => .int
  | 8 => .int
  | 9 => .array .long
  | 10 => .array .int
  | 11 => .array .int
  | 12 => .int
  | 13 => .array .int
  | 14 => .array .long
  | 15 => .array .long
  | 16 => .boolean
  | 17 => .int
  | 18 => .int
  | 19 => .int
  | 20 => .array .int
  | 21 => .array .long
  | 22 => .array .long
  | 23 => .int
  | 24 => .array .int
  | 25 => .array .int
  | 26 => .array .boolean
  | 27 => .long
  | 28 => .long
  | 29 => .int
  | 30 => .int
  | 31 => .int
  | 32 => .array .int
  | 33 => .array .long
  | 34 => .array .long
  | 35 => .array .long
  | 36 => .array .long
  | 37 => .long
  | 38 => .long
  | 39 => .boolean
  | 40 => .array .long
  | 41 => .array .long
  | 42 => .int
  | 43 => .array .long
  | 44 => .int
  | 45 => .int
  | 46 => .int
  | 47 => .int
  | 48 => .array .int
  | _ => .array .boolean
abbrev wsX120 : List Cond := u_ws RX12 TX12 50
theorem nmX12 : ∀ a, a < 50 → ∀ b, b < 50 → a ≠ b → (TX12 a).2.1 ≠ (TX12 b).2.1 := by decide +kernel
theorem tyX12_ok : ∀ k, k < 50 → parseFieldDescriptor (TX12 k).2.2.1 = some (tyX12 k) := by decide +kernel
abbrev cX12_init : ByteArray := prog_14_method_1_code
def yX12_init : MethodName := ⟨RX12, "<init>", "()V"⟩
abbrev cX12_in : ByteArray := prog_14_method_2_code
def yX12_in : MethodName := ⟨RX12, "in", "(JJJ)Z"⟩
abbrev cX12_feed : ByteArray := prog_14_method_3_code
def yX12_feed : MethodName := ⟨RX12, "feed", "(IJ)I"⟩
abbrev cX12_isLetter : ByteArray := prog_14_method_4_code
def yX12_isLetter : MethodName := ⟨RX12, "isLetter", "(I)Z"⟩
abbrev cX12_isFigure : ByteArray := prog_14_method_5_code
def yX12_isFigure : MethodName := ⟨RX12, "isFigure", "(I)Z"⟩
abbrev cX12_next : ByteArray := prog_14_method_6_code
def yX12_next : MethodName := ⟨RX12, "next", "()V"⟩
abbrev cX12_isSign : ByteArray := prog_14_method_7_code
def yX12_isSign : MethodName := ⟨RX12, "isSign", "(I)Z"⟩
abbrev cX12_fails : ByteArray := prog_14_method_8_code
def yX12_fails : MethodName := ⟨RX12, "fails", "(I)Z"⟩
abbrev cX12_adds : ByteArray := prog_14_method_9_code
def yX12_adds : MethodName := ⟨RX12, "adds", "(IJJ)V"⟩
abbrev cX12_named : ByteArray := prog_14_method_10_code
def yX12_named : MethodName := ⟨RX12, "named", "(J)I"⟩
abbrev cX12_isOwn : ByteArray := prog_14_method_11_code
def yX12_isOwn : MethodName := ⟨RX12, "isOwn", "(J)Z"⟩
abbrev cX12_figure : ByteArray := prog_14_method_12_code
def yX12_figure : MethodName := ⟨RX12, "figure", "(Z)Z"⟩
abbrev cX12_item : ByteArray := prog_14_method_13_code
def yX12_item : MethodName := ⟨RX12, "item", "()Z"⟩
abbrev cX12_closes : ByteArray := prog_14_method_14_code
def yX12_closes : MethodName := ⟨RX12, "closes", "()Z"⟩
abbrev cX12_line : ByteArray := prog_14_method_15_code
def yX12_line : MethodName := ⟨RX12, "line", "()Z"⟩
abbrev cX12_read : ByteArray := prog_14_method_16_code
def yX12_read : MethodName := ⟨RX12, "read", "()I"⟩
abbrev cX12_place : ByteArray := prog_14_method_17_code
def yX12_place : MethodName := ⟨RX12, "place", "()I"⟩
abbrev cX12_isPart : ByteArray := prog_14_method_18_code
def yX12_isPart : MethodName := ⟨RX12, "isPart", "(I)Z"⟩
abbrev cX12_ahead : ByteArray := prog_14_method_19_code
def yX12_ahead : MethodName := ⟨RX12, "ahead", "(II)I"⟩
abbrev cX12_partOf : ByteArray := prog_14_method_20_code
def yX12_partOf : MethodName := ⟨RX12, "partOf", "(II)I"⟩
abbrev cX12_part : ByteArray := prog_14_method_21_code
def yX12_part : MethodName := ⟨RX12, "part", "(II)I"⟩
abbrev cX12_kick : ByteArray := prog_14_method_22_code
def yX12_kick : MethodName := ⟨RX12, "kick", "(III)I"⟩
abbrev cX12_common : ByteArray := prog_14_method_23_code
def yX12_common : MethodName := ⟨RX12, "common", "(JJ)J"⟩
abbrev cX12_holds : ByteArray := prog_14_method_24_code
def yX12_holds : MethodName := ⟨RX12, "holds", "(JJ)V"⟩
abbrev cX12_product : ByteArray := prog_14_method_25_code
def yX12_product : MethodName := ⟨RX12, "product", "(JJJJ)V"⟩
abbrev cX12_sum : ByteArray := prog_14_method_26_code
def yX12_sum : MethodName := ⟨RX12, "sum", "(JJJJ)V"⟩
abbrev cX12_divided : ByteArray := prog_14_method_27_code
def yX12_divided : MethodName := ⟨RX12, "divided", "(JJJJ)V"⟩
abbrev cX12_lays : ByteArray := prog_14_method_28_code
def yX12_lays : MethodName := ⟨RX12, "lays", "(IJJ)V"⟩
abbrev cX12_leads : ByteArray := prog_14_method_29_code
def yX12_leads : MethodName := ⟨RX12, "leads", "(IJJI)V"⟩
abbrev cX12_leadsTable : ByteArray := prog_14_method_30_code
def yX12_leadsTable : MethodName := ⟨RX12, "leadsTable", "(I)V"⟩
abbrev cX12_leadsMote : ByteArray := prog_14_method_31_code
def yX12_leadsMote : MethodName := ⟨RX12, "leadsMote", "(III)V"⟩
abbrev cX12_starts : ByteArray := prog_14_method_32_code
def yX12_starts : MethodName := ⟨RX12, "starts", "()V"⟩
abbrev cX12_goes : ByteArray := prog_14_method_33_code
def yX12_goes : MethodName := ⟨RX12, "goes", "(II)V"⟩
abbrev cX12_tells : ByteArray := prog_14_method_34_code
def yX12_tells : MethodName := ⟨RX12, "tells", "(IJJ)V"⟩
abbrev cX12_table : ByteArray := prog_14_method_35_code
def yX12_table : MethodName := ⟨RX12, "table", "(II)I"⟩
abbrev cX12_tables : ByteArray := prog_14_method_36_code
def yX12_tables : MethodName := ⟨RX12, "tables", "()I"⟩
abbrev cX12_kept : ByteArray := prog_14_method_37_code
def yX12_kept : MethodName := ⟨RX12, "kept", "()I"⟩
abbrev cX12_round : ByteArray := prog_14_method_38_code
def yX12_round : MethodName := ⟨RX12, "round", "(I)I"⟩
abbrev cX12_widths : ByteArray := prog_14_method_39_code
def yX12_widths : MethodName := ⟨RX12, "widths", "(I)I"⟩
abbrev cX12_turns : ByteArray := prog_14_method_40_code
def yX12_turns : MethodName := ⟨RX12, "turns", "()I"⟩
abbrev cX12_closed : ByteArray := prog_14_method_41_code
def yX12_closed : MethodName := ⟨RX12, "closed", "(II)I"⟩
abbrev cX12_way : ByteArray := prog_14_method_42_code
def yX12_way : MethodName := ⟨RX12, "way", "(I)I"⟩
abbrev cX12_answer : ByteArray := prog_14_method_43_code
def yX12_answer : MethodName := ⟨RX12, "answer", "(II)I"⟩
abbrev cX12_bump : ByteArray := prog_14_method_44_code
def yX12_bump : MethodName := ⟨RX12, "bump", "(III)I"⟩
abbrev cX12_number : ByteArray := prog_14_method_45_code
def yX12_number : MethodName := ⟨RX12, "number", "(II)I"⟩
abbrev cX12_isPrime : ByteArray := prog_14_method_46_code
def yX12_isPrime : MethodName := ⟨RX12, "isPrime", "(I)Z"⟩
abbrev cX12_by : ByteArray := prog_14_method_47_code
def yX12_by : MethodName := ⟨RX12, "by", "(JI)I"⟩
abbrev cX12_weighs : ByteArray := prog_14_method_48_code
def yX12_weighs : MethodName := ⟨RX12, "weighs", "(I)Z"⟩
abbrev cX12_rounds : ByteArray := prog_14_method_49_code
def yX12_rounds : MethodName := ⟨RX12, "rounds", "(II)I"⟩
abbrev cX12_grid : ByteArray := prog_14_method_50_code
def yX12_grid : MethodName := ⟨RX12, "grid", "(I)I"⟩
abbrev cX12_rows : ByteArray := prog_14_method_51_code
def yX12_rows : MethodName := ⟨RX12, "rows", "(I)I"⟩
abbrev cX12_after : ByteArray := prog_14_method_52_code
def yX12_after : MethodName := ⟨RX12, "after", "(IIII)I"⟩
abbrev cX12_count : ByteArray := prog_14_method_53_code
def yX12_count : MethodName := ⟨RX12, "count", "(I)I"⟩
def RJ13 : String := "java/lang/Long"
def TJ13 : u_T := fun k => match k with
  | _ => ("", "", "", false)
def tyJ13 : Nat → FieldType := fun k => match k with
  | _ => .int
abbrev wsJ130 : List Cond := u_ws RJ13 TJ13 0
theorem nmJ13 : ∀ a, a < 0 → ∀ b, b < 0 → a ≠ b → (TJ13 a).2.1 ≠ (TJ13 b).2.1 := by decide +kernel
theorem tyJ13_ok : ∀ k, k < 0 → parseFieldDescriptor (TJ13 k).2.2.1 = some (tyJ13 k) := by decide +kernel
abbrev cJ13_compare_74951 : ByteArray := prog_15_method_42_code
def yJ13_compare_74951 : MethodName := ⟨RJ13, "compare", "(JJ)I"⟩
def RJ9 : String := "java/lang/Math"
def TJ9 : u_T := fun k => match k with
  | _ => ("", "", "", false)
def tyJ9 : Nat → FieldType := fun k => match k with
  | _ => .int
abbrev wsJ90 : List Cond := u_ws RJ9 TJ9 0
theorem nmJ9 : ∀ a, a < 0 → ∀ b, b < 0 → a ≠ b → (TJ9 a).2.1 ≠ (TJ9 b).2.1 := by decide +kernel
theorem tyJ9_ok : ∀ k, k < 0 → parseFieldDescriptor (TJ9 k).2.2.1 = some (tyJ9 k) := by decide +kernel
abbrev cJ9_floorMod_7cf53 : ByteArray := prog_16_method_50_code
def yJ9_floorMod_7cf53 : MethodName := ⟨RJ9, "floorMod", "(II)I"⟩
abbrev cJ9_abs_067f4 : ByteArray := prog_16_method_61_code
def yJ9_abs_067f4 : MethodName := ⟨RJ9, "abs", "(J)J"⟩
abbrev cJ9_min_7cf53 : ByteArray := prog_16_method_69_code
def yJ9_min_7cf53 : MethodName := ⟨RJ9, "min", "(II)I"⟩
def RL : String := "MagnetRingLaw"
abbrev cL_law : ByteArray := code
def yL_law : MethodName := ⟨RL, "law", "([I)Z"⟩
theorem mem_ps {big ws : List Cond} (ps : List Nat) (h : ws = ps.filterMap (fun i => big[i]?)) : ∀ w ∈ ws, w ∈ big := by
  intro w hw
  rw [h] at hw
  obtain ⟨i, -, hi⟩ := List.mem_filterMap.mp hw
  exact List.mem_of_getElem? hi
theorem inX0 : ∀ w ∈ wsX00, w ∈ lw_tbl := mem_ps [200, 202] (by decide +kernel)
theorem inX1 : ∀ w ∈ wsX10, w ∈ lw_tbl := mem_ps [345, 347, 349, 351, 353, 355, 357, 359, 361] (by decide +kernel)
theorem inX2 : ∀ w ∈ wsX20, w ∈ lw_tbl := mem_ps [556, 558, 560] (by decide +kernel)
theorem inX3 : ∀ w ∈ wsX30, w ∈ lw_tbl := mem_ps [276, 278] (by decide +kernel)
theorem inX4 : ∀ w ∈ wsX40, w ∈ lw_tbl := mem_ps [299, 301, 303, 305, 307, 309, 311, 313, 315, 317, 319, 321, 323, 325] (by decide +kernel)
theorem inX5 : ∀ w ∈ wsX50, w ∈ lw_tbl := mem_ps [474, 476] (by decide +kernel)
theorem inX6 : ∀ w ∈ wsX60, w ∈ lw_tbl := mem_ps [156, 158, 160, 162, 164, 166, 168, 170, 172, 174, 176, 178] (by decide +kernel)
theorem inX7 : ∀ w ∈ wsX70, w ∈ lw_tbl := mem_ps [259, 261] (by decide +kernel)
theorem inX8 : ∀ w ∈ wsX80, w ∈ lw_tbl := mem_ps [225, 227, 229, 231, 233, 235, 237, 239] (by decide +kernel)
theorem inX9 : ∀ w ∈ wsX90, w ∈ lw_tbl := mem_ps [132, 134, 136, 138, 140] (by decide +kernel)
theorem inX10 : ∀ w ∈ wsX100, w ∈ lw_tbl := mem_ps [101, 103, 105, 107, 109, 111] (by decide +kernel)
theorem inX11 : ∀ w ∈ wsX110, w ∈ lw_tbl := mem_ps [370, 372, 374, 376, 378] (by decide +kernel)
theorem inX12 : ∀ w ∈ wsX120, w ∈ lw_tbl := mem_ps [921, 923, 925, 927, 929, 931, 933, 935, 937, 939, 941, 943, 945, 947, 949, 951, 953, 955, 957, 959, 961, 963, 965, 967, 969, 971, 973, 975, 977, 979, 981, 983, 985, 987, 989, 991, 993, 995, 997, 999, 1001, 1003, 1005, 1007, 1009, 1011, 1013, 1015, 1017, 1019] (by decide +kernel)
abbrev vwCl : List vw_C := [(RX0, TX0, 2), (RX1, TX1, 9), (RX2, TX2, 3), (RX3, TX3, 2), (RX4, TX4, 14), (RX5, TX5, 2), (RX6, TX6, 12), (RX7, TX7, 2), (RX8, TX8, 8), (RX9, TX9, 5), (RX10, TX10, 6), (RX11, TX11, 5), (RX12, TX12, 50)]
end
section
/-! ===== the abstract machine: typed heap by serial numbers, predicate transformer of the bytecode ===== -/
abbrev AV : Type := Unit ⊕ (Int32 ⊕ (Int64 ⊕ (Nat × Nat)))
abbrev aZ : AV := .inl ()
abbrev aI (x : Int32) : AV := .inr (.inl x)
abbrev aJ (x : Int64) : AV := .inr (.inr (.inl x))
abbrev aO (t j : Nat) : AV := .inr (.inr (.inr (t, j)))
/-- next serial, slots used, tags, lengths, ints, longs, references -/
abbrev St : Type := Nat × Nat × (Nat → Nat) × (Nat → Nat) × (Nat → Nat → Int32) × (Nat → Nat → Int64) × (Nat → Nat → Nat)
def sN (σ : St) : Nat := σ.1
def sS (σ : St) : Nat := σ.2.1
def gT (σ : St) (j : Nat) : Nat := σ.2.2.1 j
def gN (σ : St) (j : Nat) : Nat := σ.2.2.2.1 j
def gI (σ : St) (j k : Nat) : Int32 := σ.2.2.2.2.1 j k
def gL (σ : St) (j k : Nat) : Int64 := σ.2.2.2.2.2.1 j k
def gR (σ : St) (j k : Nat) : Nat := σ.2.2.2.2.2.2 j k
def up2 {α : Type} (f : Nat → Nat → α) (j k : Nat) (v : α) : Nat → Nat → α := fun a b => if a = j ∧ b = k then v else f a b
def pI (σ : St) (j k : Nat) (v : Int32) : St := (σ.1, σ.2.1, σ.2.2.1, σ.2.2.2.1, up2 σ.2.2.2.2.1 j k v, σ.2.2.2.2.2.1, σ.2.2.2.2.2.2)
def pL (σ : St) (j k : Nat) (v : Int64) : St := (σ.1, σ.2.1, σ.2.2.1, σ.2.2.2.1, σ.2.2.2.2.1, up2 σ.2.2.2.2.2.1 j k v, σ.2.2.2.2.2.2)
def pR (σ : St) (j k : Nat) (v : Nat) : St := (σ.1, σ.2.1, σ.2.2.1, σ.2.2.2.1, σ.2.2.2.2.1, σ.2.2.2.2.2.1, up2 σ.2.2.2.2.2.2 j k v)
/-- a new cell of tag t with n slots, all 0 -/
def nw (σ : St) (t n : Nat) : St := (σ.1 + 1, σ.2.1 + n, (fun a => if a = σ.1 then t else σ.2.2.1 a), (fun a => if a = σ.1 then n else σ.2.2.2.1 a), (fun a b => if a = σ.1 then 0 else σ.2.2.2.2.1 a b), (fun a b => if a = σ.1 then 0 else σ.2.2.2.2.2.1 a b), (fun a b => if a = σ.1 then 0 else σ.2.2.2.2.2.2 a b))
/-- instruction, next pc, three operands, constants, switch table, places of the words in lw_tbl -/
abbrev En : Type := Instr × Nat × (Nat × Nat × Nat) × Int32 × Int64 × List (Int32 × Nat) × List Nat
def lk : List (Nat × En) → Nat → Option En
  | [], _ => none
  | q :: r, pc => bif Nat.beq q.1 pc then some q.2 else lk r pc
theorem lk_mem : ∀ {l : List (Nat × En)} {pc : Nat} {e : En}, lk l pc = some e → (pc, e) ∈ l
  | [], _, _, h => by cases h
  | q :: r, pc, e, h => by
    unfold lk at h
    cases hb : Nat.beq q.1 pc with
    | true =>
      rw [hb] at h
      have h1 : q.1 = pc := Nat.eq_of_beq_eq_true hb
      have h2 : q.2 = e := Option.some.inj h
      exact List.mem_cons.mpr (Or.inl (by rw [← h1, ← h2]))
    | false =>
      rw [hb] at h
      exact List.mem_cons.mpr (Or.inr (lk_mem h))
def nthA : List AV → Nat → AV
  | [], _ => aZ
  | v :: _, 0 => v
  | _ :: r, n + 1 => nthA r n
def nthN : List Nat → Nat → Nat
  | [], _ => 0
  | v :: _, 0 => v
  | _ :: r, n + 1 => nthN r n
def nthL : List (List Nat) → Nat → List Nat
  | [], _ => []
  | v :: _, 0 => v
  | _ :: r, n + 1 => nthL r n
/-- the place ahead of a store loses a long -/
def unJ (v : AV) : AV := match v with
  | .inr (.inr (.inl _)) => aZ
  | v => v
def sto : List AV → Nat → AV → List AV
  | [], _, _ => []
  | _ :: r, 0, v => v :: r
  | x :: r, n + 1, v => (bif Nat.beq n 0 then unJ x else x) :: sto r n v
/-- a long takes two places -/
def sto2 (ls : List AV) (i : Nat) (v : AV) : List AV := (sto ls i v).set (i + 1) aZ
def nn (j : Nat) (X : Prop) : Prop := match j with
  | 0 => False
  | _ + 1 => X
theorem nn_of {j : Nat} {X : Prop} (h : j ≠ 0) (hx : X) : nn j X := by
  cases j with
  | zero => exact absurd rfl h
  | succ n => exact hx
theorem nn_to {j : Nat} {X : Prop} (h : nn j X) : j ≠ 0 ∧ X := by
  cases j with
  | zero => exact absurd h id
  | succ n => exact ⟨Nat.succ_ne_zero n, h⟩
theorem nn_mono {j : Nat} {X Y : Prop} (h : X → Y) (hx : nn j X) : nn j Y := nn_of (nn_to hx).1 (h (nn_to hx).2)
def inb (i : Int32) (n : Nat) : Prop := 0 ≤ i.toInt ∧ i.toInt < n
def ix (i : Int32) : Nat := i.toNatClampNeg
/-- a reference field as it is loaded: what the layout says first -/
def ldR (lay : Nat → Nat → Nat) (σ : St) (j k : Nat) : Nat := match lay j k with
  | 0 => gR σ j k
  | m + 1 => m + 1
def layC (lay : Nat → Nat → Nat) (j k v : Nat) : Prop := lay j k = 0 ∨ lay j k = v
abbrev S4 : Type := Nat × List AV × List AV × St
abbrev Act : Type := S4 ⊕ ((Nat × S4) ⊕ ((Nat × Prop × S4) ⊕ ((Prop × S4 × S4) ⊕ ((Int32 × List (Int32 × Nat) × Nat × List AV × List AV) ⊕ ((Nat × Nat × List AV × List AV) ⊕ (Option AV ⊕ (Prop × Option AV)))))))
abbrev a0 (s : S4) : Option Act := some (.inl s)
abbrev a1 (j : Nat) (s : S4) : Option Act := some (.inr (.inl (j, s)))
abbrev a2 (j : Nat) (ob : Prop) (s : S4) : Option Act := some (.inr (.inr (.inl (j, ob, s))))
abbrev a3 (c : Prop) (s t : S4) : Option Act := some (.inr (.inr (.inr (.inl (c, s, t)))))
abbrev a4 (x : Int32) (tb : List (Int32 × Nat)) (d : Nat) (ls st : List AV) : Option Act := some (.inr (.inr (.inr (.inr (.inl (x, tb, d, ls, st))))))
abbrev a5 (j mid : Nat) (args rest : List AV) : Option Act := some (.inr (.inr (.inr (.inr (.inr (.inl (j, mid, args, rest)))))))
abbrev a6 (v : Option AV) : Option Act := some (.inr (.inr (.inr (.inr (.inr (.inr (.inl v)))))))
abbrev a7 (ob : Prop) (v : Option AV) : Option Act := some (.inr (.inr (.inr (.inr (.inr (.inr (.inr (ob, v))))))))
def qI (st : List AV) (f : Int32 → List AV → Option Act) : Option Act := match st with
  | .inr (.inl x) :: r => f x r
  | _ => none
def qJ (st : List AV) (f : Int64 → List AV → Option Act) : Option Act := match st with
  | .inr (.inr (.inl x)) :: r => f x r
  | _ => none
def qO (t : Nat) (st : List AV) (f : Nat → List AV → Option Act) : Option Act := match st with
  | .inr (.inr (.inr (t', j))) :: r => bif Nat.beq t' t then f j r else none
  | _ => none
/-- a reference of any tag -/
def qR (st : List AV) (f : Nat → Nat → List AV → Option Act) : Option Act := match st with
  | .inr (.inr (.inr (t, j))) :: r => f t j r
  | _ => none
def cat (v : AV) : Nat := match v with
  | .inr (.inr (.inl _)) => 2
  | _ => 1
def catS : List AV → Nat
  | [] => 0
  | v :: r => cat v + catS r
/-- the first n of a stack, turned round; and the rest -/
def pops : Nat → List AV → List AV → (List AV → List AV → Option Act) → Option Act
  | 0, acc, st, f => f acc st
  | _ + 1, _, [], _ => none
  | n + 1, acc, v :: st, f => pops n (v :: acc) st f
def ftyL : List (List Nat) := [[3, 3], [0, 20, 21, 1, 0, 0, 0, 0, 0], [3, 24, 6], [4, 4], [11, 7, 7, 7, 7, 4, 4, 4, 4, 4, 4, 25, 25, 0], [0, 4], [14, 13, 20, 20, 0, 6, 0, 3, 0, 0, 0, 0], [1, 4], [24, 0, 25, 20, 20, 20, 0, 0], [24, 0, 0, 0, 1], [22, 0, 0, 0, 0, 3], [10, 12, 8, 5, 0], [20, 0, 0, 0, 0, 3, 0, 0, 0, 23, 20, 20, 0, 20, 23, 23, 1, 0, 0, 0, 20, 23, 23, 0, 20, 20, 21, 3, 3, 0, 0, 0, 20, 23, 23, 23, 23, 3, 3, 1, 23, 23, 0, 23, 0, 0, 0, 0, 20, 21]]
def fty (ci k : Nat) : Nat := nthN (nthL ftyL ci) k
def nF (ci : Nat) : Nat := (nthL ftyL ci).length
/-- what a slot of type ty holds -/
def ldV (lay : Nat → Nat → Nat) (σ : St) (ty j k : Nat) : AV := match ty with
  | 0 => aI (gI σ j k)
  | 1 => aI (gI σ j k)
  | 2 => aI (gI σ j k)
  | 3 => aJ (gL σ j k)
  | t + 4 => aO t (ldR lay σ j k)
def elT (t : Nat) : Nat := match t with
  | 20 => 5
  | 21 => 0
  | _ => 99
def two31 : Int := 2147483648
/-- the parameters' tags of a method: int-like 0, long 3, reference of tag t: t + 4 -/
def okA (ps : List Nat) (args : List AV) : Bool := match ps, args with
  | [], [] => true
  | p :: ps, v :: vs => (match p, v with
    | 0, .inr (.inl _) => true
    | 3, .inr (.inr (.inl _)) => true
    | t + 4, .inr (.inr (.inr (t', _))) => Nat.beq t t'
    | _, _ => false) && okA ps vs
  | _, _ => false
def act (lay : Nat → Nat → Nat) (rt : Nat) (e : En) (ls st : List AV) (σ : St) : Option Act :=
  let nx := e.2.1
  let a := e.2.2.1.1
  let b := e.2.2.1.2.1
  let cc := e.2.2.1.2.2
  let w := e.2.2.2.1
  let z := e.2.2.2.2.1
  match e.1 with
  | .iconst _ => a0 (nx, ls, aI w :: st, σ)
  | .bipush _ => a0 (nx, ls, aI w :: st, σ)
  | .sipush _ => a0 (nx, ls, aI w :: st, σ)
  | .lconst _ => a0 (nx, ls, aJ z :: st, σ)
  | .ldc2_w _ => a0 (nx, ls, aJ z :: st, σ)
  | .aconst_null => a0 (nx, ls, aO a 0 :: st, σ)
  | .iload_n _ => qI [nthA ls a] fun x _ => a0 (nx, ls, aI x :: st, σ)
  | .iload _ => qI [nthA ls a] fun x _ => a0 (nx, ls, aI x :: st, σ)
  | .lload_n _ => qJ [nthA ls a] fun x _ => a0 (nx, ls, aJ x :: st, σ)
  | .lload _ => qJ [nthA ls a] fun x _ => a0 (nx, ls, aJ x :: st, σ)
  | .aload_n _ => qR [nthA ls a] fun t j _ => a0 (nx, ls, aO t j :: st, σ)
  | .aload _ => qR [nthA ls a] fun t j _ => a0 (nx, ls, aO t j :: st, σ)
  | .istore_n _ => qI st fun x st => a0 (nx, sto ls a (aI x), st, σ)
  | .istore _ => qI st fun x st => a0 (nx, sto ls a (aI x), st, σ)
  | .lstore_n _ => qJ st fun x st => a0 (nx, sto2 ls a (aJ x), st, σ)
  | .lstore _ => qJ st fun x st => a0 (nx, sto2 ls a (aJ x), st, σ)
  | .astore_n _ => qR st fun t j st => a0 (nx, sto ls a (aO t j), st, σ)
  | .astore _ => qR st fun t j st => a0 (nx, sto ls a (aO t j), st, σ)
  | .iinc _ _ => qI [nthA ls a] fun x _ => a0 (nx, sto ls a (aI (x + w)), st, σ)
  | .iadd => qI st fun y st => qI st fun x st => a0 (nx, ls, aI (x + y) :: st, σ)
  | .isub => qI st fun y st => qI st fun x st => a0 (nx, ls, aI (x - y) :: st, σ)
  | .imul => qI st fun y st => qI st fun x st => a0 (nx, ls, aI (x * y) :: st, σ)
  | .iand => qI st fun y st => qI st fun x st => a0 (nx, ls, aI (x &&& y) :: st, σ)
  | .ixor => qI st fun y st => qI st fun x st => a0 (nx, ls, aI (x ^^^ y) :: st, σ)
  | .idiv => qI st fun y st => qI st fun x st => a2 1 (¬ y = 0) (nx, ls, aI (x / y) :: st, σ)
  | .irem => qI st fun y st => qI st fun x st => a2 1 (¬ y = 0) (nx, ls, aI (x - x / y * y) :: st, σ)
  | .ladd => qJ st fun y st => qJ st fun x st => a0 (nx, ls, aJ (x + y) :: st, σ)
  | .lsub => qJ st fun y st => qJ st fun x st => a0 (nx, ls, aJ (x - y) :: st, σ)
  | .lmul => qJ st fun y st => qJ st fun x st => a0 (nx, ls, aJ (x * y) :: st, σ)
  | .land => qJ st fun y st => qJ st fun x st => a0 (nx, ls, aJ (x &&& y) :: st, σ)
  | .lor => qJ st fun y st => qJ st fun x st => a0 (nx, ls, aJ (x ||| y) :: st, σ)
  | .ldiv => qJ st fun y st => qJ st fun x st => a2 1 (¬ y = 0) (nx, ls, aJ (x / y) :: st, σ)
  | .lrem => qJ st fun y st => qJ st fun x st => a2 1 (¬ y = 0) (nx, ls, aJ (x - x / y * y) :: st, σ)
  | .lneg => qJ st fun x st => a0 (nx, ls, aJ (-x) :: st, σ)
  | .lshl => qI st fun y st => qJ st fun x st => a0 (nx, ls, aJ (x <<< (y.toInt64 &&& 63)) :: st, σ)
  | .lshr => qI st fun y st => qJ st fun x st => a0 (nx, ls, aJ (x >>> (y.toInt64 &&& 63)) :: st, σ)
  | .lushr => qI st fun y st => qJ st fun x st => a0 (nx, ls, aJ ((x.toUInt64 >>> (y.toInt64.toUInt64 &&& Int64.toUInt64 63)).toInt64) :: st, σ)
  | .i2l => qI st fun x st => a0 (nx, ls, aJ x.toInt64 :: st, σ)
  | .l2i => qJ st fun x st => a0 (nx, ls, aI x.toInt32 :: st, σ)
  | .i2b => qI st fun x st => a0 (nx, ls, aI x.toInt8.toInt32 :: st, σ)
  | .lcmp => qJ st fun y st => qJ st fun x st => a0 (nx, ls, aI (lg_cmp x y) :: st, σ)
  | .dup => (match st with
    | v :: r => bif Nat.beq (cat v) 1 then a0 (nx, ls, v :: v :: r, σ) else none
    | _ => none)
  | .pop => (match st with
    | v :: r => bif Nat.beq (cat v) 1 then a0 (nx, ls, r, σ) else none
    | _ => none)
  | .goto _ => a0 (a, ls, st, σ)
  | .ifCond .eq _ => qI st fun x st => a3 (x = 0) (a, ls, st, σ) (nx, ls, st, σ)
  | .ifCond .ne _ => qI st fun x st => a3 (x = 0) (nx, ls, st, σ) (a, ls, st, σ)
  | .ifCond .lt _ => qI st fun x st => a3 (x < 0) (a, ls, st, σ) (nx, ls, st, σ)
  | .ifCond .ge _ => qI st fun x st => a3 (0 ≤ x) (a, ls, st, σ) (nx, ls, st, σ)
  | .ifCond .gt _ => qI st fun x st => a3 (0 < x) (a, ls, st, σ) (nx, ls, st, σ)
  | .ifCond .le _ => qI st fun x st => a3 (x ≤ 0) (a, ls, st, σ) (nx, ls, st, σ)
  | .if_icmp .eq _ => qI st fun y st => qI st fun x st => a3 (x = y) (a, ls, st, σ) (nx, ls, st, σ)
  | .if_icmp .ne _ => qI st fun y st => qI st fun x st => a3 (x = y) (nx, ls, st, σ) (a, ls, st, σ)
  | .if_icmp .lt _ => qI st fun y st => qI st fun x st => a3 (x < y) (a, ls, st, σ) (nx, ls, st, σ)
  | .if_icmp .ge _ => qI st fun y st => qI st fun x st => a3 (y ≤ x) (a, ls, st, σ) (nx, ls, st, σ)
  | .if_icmp .gt _ => qI st fun y st => qI st fun x st => a3 (y < x) (a, ls, st, σ) (nx, ls, st, σ)
  | .if_icmp .le _ => qI st fun y st => qI st fun x st => a3 (x ≤ y) (a, ls, st, σ) (nx, ls, st, σ)
  | .ifnull _ => qR st fun _ j st => a3 (j = 0) (a, ls, st, σ) (nx, ls, st, σ)
  | .ifnonnull _ => qR st fun _ j st => a3 (j = 0) (nx, ls, st, σ) (a, ls, st, σ)
  | .tableswitch _ _ _ _ => qI st fun x st => a4 x e.2.2.2.2.2.1 a ls st
  | .getfield _ => qO a st fun j st => a1 j (nx, ls, ldV lay σ (fty a b) j b :: st, σ)
  | .putfield _ => (match fty a b with
    | 0 => qI st fun x st => qO a st fun j st => a1 j (nx, ls, st, pI σ j b x)
    | 1 => qI st fun x st => qO a st fun j st => a2 j (x = 0 ∨ x = 1) (nx, ls, st, pI σ j b x)
    | 2 => none
    | 3 => qJ st fun x st => qO a st fun j st => a1 j (nx, ls, st, pL σ j b x)
    | t + 4 => qO t st fun v st => qO a st fun j st => a2 j (layC lay j b v) (nx, ls, st, pR σ j b v))
  | .getstatic _ => a0 (nx, ls, aO 22 2 :: st, σ)
  | .iaload => qI st fun i st => qR st fun t j st => (match t with
    | 16 => a2 j (inb i (gN σ j)) (nx, ls, aI (gI σ j (ix i)) :: st, σ)
    | 22 => a2 j (inb i (gN σ j)) (nx, ls, aI (gI σ j (ix i)) :: st, σ)
    | _ => none)
  | .laload => qI st fun i st => qO 19 st fun j st => a2 j (inb i (gN σ j)) (nx, ls, aJ (gL σ j (ix i)) :: st, σ)
  | .baload => qI st fun i st => qR st fun t j st => (match t with
    | 17 => a2 j (inb i (gN σ j)) (nx, ls, aI (gI σ j (ix i)) :: st, σ)
    | 18 => a2 j (inb i (gN σ j)) (nx, ls, aI (gI σ j (ix i)) :: st, σ)
    | _ => none)
  | .aaload => qI st fun i st => qR st fun t j st => (match t with
    | 20 => a2 j (inb i (gN σ j)) (nx, ls, aO 5 (gR σ j (ix i)) :: st, σ)
    | 21 => a2 j (inb i (gN σ j)) (nx, ls, aO 0 (gR σ j (ix i)) :: st, σ)
    | _ => none)
  | .iastore => qI st fun x st => qI st fun i st => qO 16 st fun j st => a2 j (inb i (gN σ j)) (nx, ls, st, pI σ j (ix i) x)
  | .lastore => qJ st fun x st => qI st fun i st => qO 19 st fun j st => a2 j (inb i (gN σ j)) (nx, ls, st, pL σ j (ix i) x)
  | .bastore => qI st fun x st => qI st fun i st => qR st fun t j st => (match t with
    | 17 => a2 j (inb i (gN σ j)) (nx, ls, st, pI σ j (ix i) (vp_nar .boolean x))
    | 18 => a2 j (inb i (gN σ j)) (nx, ls, st, pI σ j (ix i) (vp_nar .byte x))
    | _ => none)
  | .aastore => qR st fun tv v st => qI st fun i st => qR st fun t j st => bif Nat.beq (elT t) tv then a2 j (inb i (gN σ j) ∧ layC lay j (ix i) v) (nx, ls, st, pR σ j (ix i) v) else none
  | .arraylength => qR st fun t j st => bif Nat.ble 16 t then a1 j (nx, ls, aI (Int32.ofNat (gN σ j)) :: st, σ) else none
  | .newarray _ => qI st fun n st => a2 1 (0 ≤ n.toInt ∧ n.toInt ≤ 40000) (nx, ls, aO a (sN σ) :: st, nw σ a (ix n))
  | .anewarray _ => qI st fun n st => a2 1 (0 ≤ n.toInt ∧ n.toInt ≤ 40000) (nx, ls, aO a (sN σ) :: st, nw σ a (ix n))
  | .new _ => a0 (nx, ls, aO a (sN σ) :: st, nw σ a (nF a))
  | .invokevirtual _ => pops b [] st fun args st => (match args with
    | .inr (.inr (.inr (_, j))) :: _ => bif Nat.ble (catS st) 8 then a5 j a args st else none
    | _ => none)
  | .invokestatic _ => pops b [] st fun args st => bif Nat.ble (catS st) 8 then a5 1 a args st else none
  | .invokespecial _ => (match cc with
    | 6 => qR st fun _ j st => bif Nat.ble (catS st) 8 then a1 j (nx, ls, st, σ) else none
    | _ => pops b [] st fun args st => (match args with
      | .inr (.inr (.inr (_, j))) :: _ => bif Nat.ble (catS st) 8 then a5 j a args st else none
      | _ => none))
  | .ireturn => qI st fun x _ => (match rt with
    | 1 => a6 (some (aI x))
    | 2 => a7 (x = 0 ∨ x = 1) (some (aI x))
    | _ => none)
  | .lreturn => qJ st fun x _ => (match rt with
    | 3 => a6 (some (aJ x))
    | _ => none)
  | .areturn => qR st fun t j _ => (match rt with
    | 0 => none
    | 1 => none
    | 2 => none
    | 3 => none
    | t' + 4 => bif Nat.beq t' t then a6 (some (aO t j)) else none)
  | .return_ => (match rt with
    | 0 => a6 none
    | _ => none)
  | _ => none
def rV (K : St → Prop) (v : Option AV) (σ : St) : Prop := match v with
  | none => K σ
  | _ => False
def rI (K : Int32 → St → Prop) (v : Option AV) (σ : St) : Prop := match v with
  | some (.inr (.inl r)) => K r σ
  | _ => False
def rJ (K : Int64 → St → Prop) (v : Option AV) (σ : St) : Prop := match v with
  | some (.inr (.inr (.inl r))) => K r σ
  | _ => False
def rO (t : Nat) (K : Nat → St → Prop) (v : Option AV) (σ : St) : Prop := match v with
  | some (.inr (.inr (.inr (t', j)))) => t' = t ∧ K j σ
  | _ => False
def ctn (rt nx : Nat) (ls rest : List AV) (K : S4 → Prop) : Option AV → St → Prop := match rt with
  | 0 => rV fun σ => K (nx, ls, rest, σ)
  | 1 => rI fun r σ => K (nx, ls, aI r :: rest, σ)
  | 2 => rI fun r σ => K (nx, ls, aI r :: rest, σ)
  | 3 => rJ fun r σ => K (nx, ls, aJ r :: rest, σ)
  | t + 4 => rO t fun j σ => K (nx, ls, aO t j :: rest, σ)
def swt (K : Nat → Prop) (x : Int32) (d : Nat) : List (Int32 × Nat) → Prop
  | [] => K d
  | q :: r => (x = q.1 → K q.2) ∧ (¬ x = q.1 → swt K x d r)
abbrev CLT : Type := Nat → List AV → St → (Option AV → St → Prop) → Prop
def stepP (rtm : Nat → Nat) (cl : CLT) (Q : Option AV → St → Prop) (K : S4 → Prop) (nx : Nat) (ls : List AV) (σ : St) (A : Act) : Prop := match A with
  | .inl s => K s
  | .inr (.inl (j, s)) => nn j (K s)
  | .inr (.inr (.inl (j, ob, s))) => nn j (ob ∧ K s)
  | .inr (.inr (.inr (.inl (c, s, t)))) => (c → K s) ∧ (¬ c → K t)
  | .inr (.inr (.inr (.inr (.inl (x, tb, d, ls, st))))) => swt (fun pc => K (pc, ls, st, σ)) x d tb
  | .inr (.inr (.inr (.inr (.inr (.inl (j, mid, args, rest)))))) => nn j (cl mid args σ (ctn (rtm mid) nx ls rest K))
  | .inr (.inr (.inr (.inr (.inr (.inr (.inl v)))))) => Q v σ
  | .inr (.inr (.inr (.inr (.inr (.inr (.inr (ob, v))))))) => ob ∧ Q v σ
def stepS (lay : Nat → Nat → Nat) (rtm : Nat → Nat) (cl : CLT) (cd : List (Nat × En)) (rt : Nat) (Q : Option AV → St → Prop) (K : S4 → Prop) (s : S4) : Prop := match lk cd s.1 with
  | none => False
  | some e => match act lay rt e s.2.1 s.2.2.1 s.2.2.2 with
    | none => False
    | some A => stepP rtm cl Q K e.2.1 s.2.1 s.2.2.2 A
/-- the least predicate that is closed: the machine from s comes to a return with Q -/
def Wp (lay : Nat → Nat → Nat) (rtm : Nat → Nat) (cl : CLT) (cd : List (Nat × En)) (rt : Nat) (Q : Option AV → St → Prop) (s : S4) : Prop :=
  ∀ P : S4 → Prop, (∀ s, stepS lay rtm cl cd rt Q P s → P s) → P s
def mem (a : Nat) : List Nat → Bool
  | [] => false
  | b :: r => bif Nat.beq a b then true else mem a r
def run (lay : Nat → Nat → Nat) (rtm : Nat → Nat) (cl : CLT) (cd : List (Nat × En)) (rt : Nat) (Q : Option AV → St → Prop) (stops : List Nat) (P : S4 → Prop) : Nat → S4 → Prop
  | 0, s => P s
  | k + 1, s => stepS lay rtm cl cd rt Q (fun s' => bif mem s'.1 stops then P s' else run lay rtm cl cd rt Q stops P k s') s
def Mono (cl : CLT) : Prop := ∀ (mid : Nat) (args : List AV) (σ : St) (Q Q' : Option AV → St → Prop), (∀ v τ, Q v τ → Q' v τ) → cl mid args σ Q → cl mid args σ Q'
theorem swt_mono {K K' : Nat → Prop} (h : ∀ p, K p → K' p) {x : Int32} {d : Nat} : ∀ {tb : List (Int32 × Nat)}, swt K x d tb → swt K' x d tb
  | [], hk => h _ hk
  | _ :: _, hk => ⟨fun e => h _ (hk.1 e), fun e => swt_mono h (hk.2 e)⟩
theorem ctn_mono {rt nx : Nat} {ls rest : List AV} {K K' : S4 → Prop} (h : ∀ s, K s → K' s) (v : Option AV) (τ : St) (hk : ctn rt nx ls rest K v τ) : ctn rt nx ls rest K' v τ := by
  match rt, hk with
  | 0, hk => match v, hk with
    | none, hk => exact h _ hk
  | 1, hk => match v, hk with
    | some (.inr (.inl r)), hk => exact h _ hk
  | 2, hk => match v, hk with
    | some (.inr (.inl r)), hk => exact h _ hk
  | 3, hk => match v, hk with
    | some (.inr (.inr (.inl r))), hk => exact h _ hk
  | t + 4, hk => match v, hk with
    | some (.inr (.inr (.inr (t', j)))), hk => exact ⟨hk.1, h _ hk.2⟩
theorem stepP_mono {rtm : Nat → Nat} {cl : CLT} (hm : Mono cl) {Q Q' : Option AV → St → Prop} {K K' : S4 → Prop} (hQ : ∀ v τ, Q v τ → Q' v τ) (h : ∀ s, K s → K' s) {nx : Nat} {ls : List AV} {σ : St} {A : Act} (hk : stepP rtm cl Q K nx ls σ A) : stepP rtm cl Q' K' nx ls σ A := by
  match A, hk with
  | .inl s, hk => exact h _ hk
  | .inr (.inl (j, s)), hk => exact nn_mono (h _) hk
  | .inr (.inr (.inl (j, ob, s))), hk => exact nn_mono (fun q => ⟨q.1, h _ q.2⟩) hk
  | .inr (.inr (.inr (.inl (c, s, t)))), hk => exact ⟨fun q => h _ (hk.1 q), fun q => h _ (hk.2 q)⟩
  | .inr (.inr (.inr (.inr (.inl (x, tb, d, ls, st))))), hk => exact swt_mono (fun p => h _) hk
  | .inr (.inr (.inr (.inr (.inr (.inl (j, mid, args, rest)))))), hk => exact nn_mono (hm _ _ _ _ _ (fun v τ => ctn_mono h v τ)) hk
  | .inr (.inr (.inr (.inr (.inr (.inr (.inl v)))))), hk => exact hQ _ _ hk
  | .inr (.inr (.inr (.inr (.inr (.inr (.inr (ob, v))))))), hk => exact ⟨hk.1, hQ _ _ hk.2⟩
theorem stepS_mono {lay : Nat → Nat → Nat} {rtm : Nat → Nat} {cl : CLT} (hm : Mono cl) {cd : List (Nat × En)} {rt : Nat} {Q Q' : Option AV → St → Prop} {K K' : S4 → Prop} (hQ : ∀ v τ, Q v τ → Q' v τ) (h : ∀ s, K s → K' s) {s : S4} (hk : stepS lay rtm cl cd rt Q K s) : stepS lay rtm cl cd rt Q' K' s := by
  unfold stepS at hk ⊢
  cases h1 : lk cd s.1 with
  | none => rw [h1] at hk; exact hk
  | some e =>
    rw [h1] at hk
    dsimp only at hk ⊢
    cases h2 : act lay rt e s.2.1 s.2.2.1 s.2.2.2 with
    | none => rw [h2] at hk; exact hk
    | some A => rw [h2] at hk; exact stepP_mono hm hQ h hk
theorem Wp.fold {lay : Nat → Nat → Nat} {rtm : Nat → Nat} {cl : CLT} (hm : Mono cl) {cd : List (Nat × En)} {rt : Nat} {Q : Option AV → St → Prop} {s : S4} (h : stepS lay rtm cl cd rt Q (Wp lay rtm cl cd rt Q) s) : Wp lay rtm cl cd rt Q s := by
  intro P hP
  exact hP s (stepS_mono hm (fun _ _ q => q) (fun s' h' => h' P hP) h)
theorem Wp.mono {lay : Nat → Nat → Nat} {rtm : Nat → Nat} {cl : CLT} (hm : Mono cl) {cd : List (Nat × En)} {rt : Nat} {Q Q' : Option AV → St → Prop} (hQ : ∀ v τ, Q v τ → Q' v τ) {s : S4} (h : Wp lay rtm cl cd rt Q s) : Wp lay rtm cl cd rt Q' s := by
  intro P hP
  exact h P (fun s' h' => hP s' (stepS_mono hm hQ (fun _ q => q) h'))
theorem run_to {lay : Nat → Nat → Nat} {rtm : Nat → Nat} {cl : CLT} (hm : Mono cl) {cd : List (Nat × En)} {rt : Nat} {Q : Option AV → St → Prop} {stops : List Nat} {P : S4 → Prop} (hP : ∀ s, stepS lay rtm cl cd rt Q P s → P s) : ∀ (k : Nat) (s : S4), run lay rtm cl cd rt Q stops P k s → P s
  | 0, _, h => h
  | k + 1, s, h => hP s (stepS_mono hm (fun _ _ q => q) (fun s' h' => by
      cases hb : mem s'.1 stops with
      | true => rw [hb] at h'; exact h'
      | false => rw [hb] at h'; exact run_to hm hP k s' h') h)
theorem run_intro {lay : Nat → Nat → Nat} {rtm : Nat → Nat} {cl : CLT} (hm : Mono cl) {cd : List (Nat × En)} {rt : Nat} {Q : Option AV → St → Prop} (stops : List Nat) (k : Nat) {s : S4} (h : run lay rtm cl cd rt Q stops (Wp lay rtm cl cd rt Q) k s) : Wp lay rtm cl cd rt Q s := run_to hm (fun _ q => Wp.fold hm q) k s h
/-- the locals with which a method begins -/
def ent0 : Nat → List AV → List AV
  | n, [] => List.replicate n aZ
  | n, v :: vs => bif Nat.beq (cat v) 2 then v :: aZ :: ent0 (n - 2) vs else v :: ent0 (n - 1) vs
end
