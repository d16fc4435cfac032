section
-- ===== PART A: goes FIRST, ahead of the names: the tables' words, and 'selects' of the private methods out of them =====
/-- a private method of a class that the tables say can be made, by its rows of tables_1 -/
def lw_okq (q : MethodName × Nat) : Prop := (q.1.cls ≠ "java/lang/invoke/MethodHandle" ∧ q.1.cls ≠ "java/lang/invoke/VarHandle") ∧ Cond.instantiable q.1.cls q.2 ∈ tables_1 ∧ Cond.privateMethod q.1 ∈ tables_1 ∧ Cond.instanceMethod q.1 ∈ tables_1
theorem lw_p0 : lw_okq (⟨"MagnetRing$Text", "skipBlanks", "()V"⟩, 6) := ⟨⟨by decide +kernel, by decide +kernel⟩, List.mem_of_getElem? (i := 31) (by decide +kernel), List.mem_of_getElem? (i := 351) (by decide +kernel), List.mem_of_getElem? (i := 352) (by decide +kernel)⟩
theorem lw_p1 : lw_okq (⟨"MagnetRing$Text", "signAt", "(I)I"⟩, 6) := ⟨⟨by decide +kernel, by decide +kernel⟩, List.mem_of_getElem? (i := 31) (by decide +kernel), List.mem_of_getElem? (i := 355) (by decide +kernel), List.mem_of_getElem? (i := 356) (by decide +kernel)⟩
theorem lw_p2 : lw_okq (⟨"MagnetRing$Text", "takeName", "()V"⟩, 6) := ⟨⟨by decide +kernel, by decide +kernel⟩, List.mem_of_getElem? (i := 31) (by decide +kernel), List.mem_of_getElem? (i := 365) (by decide +kernel), List.mem_of_getElem? (i := 366) (by decide +kernel)⟩
theorem lw_p3 : lw_okq (⟨"MagnetRing$Text", "takeNumber", "()V"⟩, 6) := ⟨⟨by decide +kernel, by decide +kernel⟩, List.mem_of_getElem? (i := 31) (by decide +kernel), List.mem_of_getElem? (i := 376) (by decide +kernel), List.mem_of_getElem? (i := 377) (by decide +kernel)⟩
theorem lw_p4 : lw_okq (⟨"MagnetRing$Reader", "take", "()I"⟩, 12) := ⟨⟨by decide +kernel, by decide +kernel⟩, List.mem_of_getElem? (i := 25) (by decide +kernel), List.mem_of_getElem? (i := 384) (by decide +kernel), List.mem_of_getElem? (i := 385) (by decide +kernel)⟩
theorem lw_p5 : lw_okq (⟨"MagnetRing$Reader", "endPart", "(III)I"⟩, 12) := ⟨⟨by decide +kernel, by decide +kernel⟩, List.mem_of_getElem? (i := 25) (by decide +kernel), List.mem_of_getElem? (i := 388) (by decide +kernel), List.mem_of_getElem? (i := 389) (by decide +kernel)⟩
theorem lw_p6 : lw_okq (⟨"MagnetRing$Reader", "takeLineName", "()I"⟩, 12) := ⟨⟨by decide +kernel, by decide +kernel⟩, List.mem_of_getElem? (i := 25) (by decide +kernel), List.mem_of_getElem? (i := 429) (by decide +kernel), List.mem_of_getElem? (i := 430) (by decide +kernel)⟩
theorem lw_p7 : lw_okq (⟨"MagnetRing$Reader", "lineOf", "(J)LMagnetRing$Line;"⟩, 12) := ⟨⟨by decide +kernel, by decide +kernel⟩, List.mem_of_getElem? (i := 25) (by decide +kernel), List.mem_of_getElem? (i := 441) (by decide +kernel), List.mem_of_getElem? (i := 442) (by decide +kernel)⟩
theorem lw_p8 : lw_okq (⟨"MagnetRing$Reader", "takeAlone", "(II)I"⟩, 12) := ⟨⟨by decide +kernel, by decide +kernel⟩, List.mem_of_getElem? (i := 25) (by decide +kernel), List.mem_of_getElem? (i := 449) (by decide +kernel), List.mem_of_getElem? (i := 450) (by decide +kernel)⟩
theorem lw_p9 : lw_okq (⟨"MagnetRing$Reader", "takeItem", "()I"⟩, 12) := ⟨⟨by decide +kernel, by decide +kernel⟩, List.mem_of_getElem? (i := 25) (by decide +kernel), List.mem_of_getElem? (i := 453) (by decide +kernel), List.mem_of_getElem? (i := 454) (by decide +kernel)⟩
theorem lw_p10 : lw_okq (⟨"MagnetRing$Reader", "takeTimes", "()I"⟩, 12) := ⟨⟨by decide +kernel, by decide +kernel⟩, List.mem_of_getElem? (i := 25) (by decide +kernel), List.mem_of_getElem? (i := 457) (by decide +kernel), List.mem_of_getElem? (i := 458) (by decide +kernel)⟩
theorem lw_p11 : lw_okq (⟨"MagnetRing$Reader", "beginPart", "(I)I"⟩, 12) := ⟨⟨by decide +kernel, by decide +kernel⟩, List.mem_of_getElem? (i := 25) (by decide +kernel), List.mem_of_getElem? (i := 463) (by decide +kernel), List.mem_of_getElem? (i := 464) (by decide +kernel)⟩
theorem lw_p12 : lw_okq (⟨"MagnetRing$Reader", "takeToldName", "()I"⟩, 12) := ⟨⟨by decide +kernel, by decide +kernel⟩, List.mem_of_getElem? (i := 25) (by decide +kernel), List.mem_of_getElem? (i := 467) (by decide +kernel), List.mem_of_getElem? (i := 468) (by decide +kernel)⟩
theorem lw_p13 : lw_okq (⟨"MagnetRing$Reader", "closes", "()Z"⟩, 12) := ⟨⟨by decide +kernel, by decide +kernel⟩, List.mem_of_getElem? (i := 25) (by decide +kernel), List.mem_of_getElem? (i := 476) (by decide +kernel), List.mem_of_getElem? (i := 477) (by decide +kernel)⟩
theorem lw_p14 : lw_okq (⟨"MagnetRing$Reader", "takeClose", "()I"⟩, 12) := ⟨⟨by decide +kernel, by decide +kernel⟩, List.mem_of_getElem? (i := 25) (by decide +kernel), List.mem_of_getElem? (i := 480) (by decide +kernel), List.mem_of_getElem? (i := 481) (by decide +kernel)⟩
theorem lw_p15 : lw_okq (⟨"MagnetRing$Reader", "takeMinusOrNumber", "()I"⟩, 12) := ⟨⟨by decide +kernel, by decide +kernel⟩, List.mem_of_getElem? (i := 25) (by decide +kernel), List.mem_of_getElem? (i := 509) (by decide +kernel), List.mem_of_getElem? (i := 510) (by decide +kernel)⟩
def lw_privs_1 : List (MethodName × Nat) := [(⟨"MagnetRing$Text", "skipBlanks", "()V"⟩, 6), (⟨"MagnetRing$Text", "signAt", "(I)I"⟩, 6), (⟨"MagnetRing$Text", "takeName", "()V"⟩, 6), (⟨"MagnetRing$Text", "takeNumber", "()V"⟩, 6), (⟨"MagnetRing$Reader", "take", "()I"⟩, 12), (⟨"MagnetRing$Reader", "endPart", "(III)I"⟩, 12), (⟨"MagnetRing$Reader", "takeLineName", "()I"⟩, 12), (⟨"MagnetRing$Reader", "lineOf", "(J)LMagnetRing$Line;"⟩, 12), (⟨"MagnetRing$Reader", "takeAlone", "(II)I"⟩, 12), (⟨"MagnetRing$Reader", "takeItem", "()I"⟩, 12), (⟨"MagnetRing$Reader", "takeTimes", "()I"⟩, 12), (⟨"MagnetRing$Reader", "beginPart", "(I)I"⟩, 12), (⟨"MagnetRing$Reader", "takeToldName", "()I"⟩, 12), (⟨"MagnetRing$Reader", "closes", "()Z"⟩, 12), (⟨"MagnetRing$Reader", "takeClose", "()I"⟩, 12), (⟨"MagnetRing$Reader", "takeMinusOrNumber", "()I"⟩, 12)]
theorem lw_r1 : ∀ q ∈ lw_privs_1, lw_okq q := List.forall_mem_cons.mpr ⟨lw_p0, List.forall_mem_cons.mpr ⟨lw_p1, List.forall_mem_cons.mpr ⟨lw_p2, List.forall_mem_cons.mpr ⟨lw_p3, List.forall_mem_cons.mpr ⟨lw_p4, List.forall_mem_cons.mpr ⟨lw_p5, List.forall_mem_cons.mpr ⟨lw_p6, List.forall_mem_cons.mpr ⟨lw_p7, List.forall_mem_cons.mpr ⟨lw_p8, List.forall_mem_cons.mpr ⟨lw_p9, List.forall_mem_cons.mpr ⟨lw_p10, List.forall_mem_cons.mpr ⟨lw_p11, List.forall_mem_cons.mpr ⟨lw_p12, List.forall_mem_cons.mpr ⟨lw_p13, List.forall_mem_cons.mpr ⟨lw_p14, List.forall_mem_cons.mpr ⟨lw_p15, fun _ h => absurd h List.not_mem_nil⟩⟩⟩⟩⟩⟩⟩⟩⟩⟩⟩⟩⟩⟩⟩⟩
theorem lw_p16 : lw_okq (⟨"MagnetRing$Reader", "takeAbove", "()I"⟩, 12) := ⟨⟨by decide +kernel, by decide +kernel⟩, List.mem_of_getElem? (i := 25) (by decide +kernel), List.mem_of_getElem? (i := 513) (by decide +kernel), List.mem_of_getElem? (i := 514) (by decide +kernel)⟩
theorem lw_p17 : lw_okq (⟨"MagnetRing$Reader", "takeBelow", "()I"⟩, 12) := ⟨⟨by decide +kernel, by decide +kernel⟩, List.mem_of_getElem? (i := 25) (by decide +kernel), List.mem_of_getElem? (i := 517) (by decide +kernel), List.mem_of_getElem? (i := 518) (by decide +kernel)⟩
theorem lw_p18 : lw_okq (⟨"MagnetRing$Reader", "takeOpen", "()I"⟩, 12) := ⟨⟨by decide +kernel, by decide +kernel⟩, List.mem_of_getElem? (i := 25) (by decide +kernel), List.mem_of_getElem? (i := 521) (by decide +kernel), List.mem_of_getElem? (i := 522) (by decide +kernel)⟩
theorem lw_p19 : lw_okq (⟨"MagnetRing$Optics", "beginTable", "()V"⟩, 14) := ⟨⟨by decide +kernel, by decide +kernel⟩, List.mem_of_getElem? (i := 188) (by decide +kernel), List.mem_of_getElem? (i := 583) (by decide +kernel), List.mem_of_getElem? (i := 584) (by decide +kernel)⟩
theorem lw_p20 : lw_okq (⟨"MagnetRing$Optics", "lead", "(LMagnetRing$Mote;LMagnetRing$Part;)V"⟩, 14) := ⟨⟨by decide +kernel, by decide +kernel⟩, List.mem_of_getElem? (i := 188) (by decide +kernel), List.mem_of_getElem? (i := 596) (by decide +kernel), List.mem_of_getElem? (i := 597) (by decide +kernel)⟩
theorem lw_p21 : lw_okq (⟨"MagnetRing$Reckoner", "settle", "(LMagnetRing$Fraction;JJ)V"⟩, 2) := ⟨⟨by decide +kernel, by decide +kernel⟩, List.mem_of_getElem? (i := 194) (by decide +kernel), List.mem_of_getElem? (i := 612) (by decide +kernel), List.mem_of_getElem? (i := 613) (by decide +kernel)⟩
theorem lw_p22 : lw_okq (⟨"MagnetRing$Optics", "tell", "(LMagnetRing$Fraction;)V"⟩, 14) := ⟨⟨by decide +kernel, by decide +kernel⟩, List.mem_of_getElem? (i := 188) (by decide +kernel), List.mem_of_getElem? (i := 639) (by decide +kernel), List.mem_of_getElem? (i := 640) (by decide +kernel)⟩
theorem lw_p23 : lw_okq (⟨"MagnetRing$Optics", "giveKick", "(LMagnetRing$Mote;LMagnetRing$Ring;I[LMagnetRing$Fraction;)V"⟩, 14) := ⟨⟨by decide +kernel, by decide +kernel⟩, List.mem_of_getElem? (i := 188) (by decide +kernel), List.mem_of_getElem? (i := 698) (by decide +kernel), List.mem_of_getElem? (i := 699) (by decide +kernel)⟩
theorem lw_p24 : lw_okq (⟨"MagnetRing$Optics", "solveClosed", "()V"⟩, 14) := ⟨⟨by decide +kernel, by decide +kernel⟩, List.mem_of_getElem? (i := 188) (by decide +kernel), List.mem_of_getElem? (i := 706) (by decide +kernel), List.mem_of_getElem? (i := 707) (by decide +kernel)⟩
theorem lw_p25 : lw_okq (⟨"MagnetRing$Lattice", "follow", "(LMagnetRing$Ring;II)I"⟩, 9) := ⟨⟨by decide +kernel, by decide +kernel⟩, List.mem_of_getElem? (i := 274) (by decide +kernel), List.mem_of_getElem? (i := 782) (by decide +kernel), List.mem_of_getElem? (i := 783) (by decide +kernel)⟩
theorem lw_p26 : lw_okq (⟨"MagnetRing$Lattice", "noteCycle", "(II)V"⟩, 9) := ⟨⟨by decide +kernel, by decide +kernel⟩, List.mem_of_getElem? (i := 274) (by decide +kernel), List.mem_of_getElem? (i := 790) (by decide +kernel), List.mem_of_getElem? (i := 791) (by decide +kernel)⟩
theorem lw_p27 : lw_okq (⟨"MagnetRingModel", "next", "()V"⟩, 50) := ⟨⟨by decide +kernel, by decide +kernel⟩, List.mem_of_getElem? (i := 811) (by decide +kernel), List.mem_of_getElem? (i := 982) (by decide +kernel), List.mem_of_getElem? (i := 983) (by decide +kernel)⟩
theorem lw_p28 : lw_okq (⟨"MagnetRingModel", "fails", "(I)Z"⟩, 50) := ⟨⟨by decide +kernel, by decide +kernel⟩, List.mem_of_getElem? (i := 811) (by decide +kernel), List.mem_of_getElem? (i := 996) (by decide +kernel), List.mem_of_getElem? (i := 997) (by decide +kernel)⟩
theorem lw_p29 : lw_okq (⟨"MagnetRingModel", "line", "()Z"⟩, 50) := ⟨⟨by decide +kernel, by decide +kernel⟩, List.mem_of_getElem? (i := 811) (by decide +kernel), List.mem_of_getElem? (i := 1000) (by decide +kernel), List.mem_of_getElem? (i := 1001) (by decide +kernel)⟩
theorem lw_p30 : lw_okq (⟨"MagnetRingModel", "named", "(J)I"⟩, 50) := ⟨⟨by decide +kernel, by decide +kernel⟩, List.mem_of_getElem? (i := 811) (by decide +kernel), List.mem_of_getElem? (i := 1012) (by decide +kernel), List.mem_of_getElem? (i := 1013) (by decide +kernel)⟩
theorem lw_p31 : lw_okq (⟨"MagnetRingModel", "isSign", "(I)Z"⟩, 50) := ⟨⟨by decide +kernel, by decide +kernel⟩, List.mem_of_getElem? (i := 811) (by decide +kernel), List.mem_of_getElem? (i := 1016) (by decide +kernel), List.mem_of_getElem? (i := 1017) (by decide +kernel)⟩
def lw_privs_2 : List (MethodName × Nat) := [(⟨"MagnetRing$Reader", "takeAbove", "()I"⟩, 12), (⟨"MagnetRing$Reader", "takeBelow", "()I"⟩, 12), (⟨"MagnetRing$Reader", "takeOpen", "()I"⟩, 12), (⟨"MagnetRing$Optics", "beginTable", "()V"⟩, 14), (⟨"MagnetRing$Optics", "lead", "(LMagnetRing$Mote;LMagnetRing$Part;)V"⟩, 14), (⟨"MagnetRing$Reckoner", "settle", "(LMagnetRing$Fraction;JJ)V"⟩, 2), (⟨"MagnetRing$Optics", "tell", "(LMagnetRing$Fraction;)V"⟩, 14), (⟨"MagnetRing$Optics", "giveKick", "(LMagnetRing$Mote;LMagnetRing$Ring;I[LMagnetRing$Fraction;)V"⟩, 14), (⟨"MagnetRing$Optics", "solveClosed", "()V"⟩, 14), (⟨"MagnetRing$Lattice", "follow", "(LMagnetRing$Ring;II)I"⟩, 9), (⟨"MagnetRing$Lattice", "noteCycle", "(II)V"⟩, 9), (⟨"MagnetRingModel", "next", "()V"⟩, 50), (⟨"MagnetRingModel", "fails", "(I)Z"⟩, 50), (⟨"MagnetRingModel", "line", "()Z"⟩, 50), (⟨"MagnetRingModel", "named", "(J)I"⟩, 50), (⟨"MagnetRingModel", "isSign", "(I)Z"⟩, 50)]
theorem lw_r2 : ∀ q ∈ lw_privs_2, lw_okq q := List.forall_mem_cons.mpr ⟨lw_p16, List.forall_mem_cons.mpr ⟨lw_p17, List.forall_mem_cons.mpr ⟨lw_p18, List.forall_mem_cons.mpr ⟨lw_p19, List.forall_mem_cons.mpr ⟨lw_p20, List.forall_mem_cons.mpr ⟨lw_p21, List.forall_mem_cons.mpr ⟨lw_p22, List.forall_mem_cons.mpr ⟨lw_p23, List.forall_mem_cons.mpr ⟨lw_p24, List.forall_mem_cons.mpr ⟨lw_p25, List.forall_mem_cons.mpr ⟨lw_p26, List.forall_mem_cons.mpr ⟨lw_p27, List.forall_mem_cons.mpr ⟨lw_p28, List.forall_mem_cons.mpr ⟨lw_p29, List.forall_mem_cons.mpr ⟨lw_p30, List.forall_mem_cons.mpr ⟨lw_p31, fun _ h => absurd h List.not_mem_nil⟩⟩⟩⟩⟩⟩⟩⟩⟩⟩⟩⟩⟩⟩⟩⟩
theorem lw_p32 : lw_okq (⟨"MagnetRingModel", "closes", "()Z"⟩, 50) := ⟨⟨by decide +kernel, by decide +kernel⟩, List.mem_of_getElem? (i := 811) (by decide +kernel), List.mem_of_getElem? (i := 1020) (by decide +kernel), List.mem_of_getElem? (i := 1021) (by decide +kernel)⟩
theorem lw_p33 : lw_okq (⟨"MagnetRingModel", "adds", "(IJJ)V"⟩, 50) := ⟨⟨by decide +kernel, by decide +kernel⟩, List.mem_of_getElem? (i := 811) (by decide +kernel), List.mem_of_getElem? (i := 1024) (by decide +kernel), List.mem_of_getElem? (i := 1025) (by decide +kernel)⟩
theorem lw_p34 : lw_okq (⟨"MagnetRingModel", "item", "()Z"⟩, 50) := ⟨⟨by decide +kernel, by decide +kernel⟩, List.mem_of_getElem? (i := 811) (by decide +kernel), List.mem_of_getElem? (i := 1031) (by decide +kernel), List.mem_of_getElem? (i := 1032) (by decide +kernel)⟩
theorem lw_p35 : lw_okq (⟨"MagnetRingModel", "figure", "(Z)Z"⟩, 50) := ⟨⟨by decide +kernel, by decide +kernel⟩, List.mem_of_getElem? (i := 811) (by decide +kernel), List.mem_of_getElem? (i := 1036) (by decide +kernel), List.mem_of_getElem? (i := 1037) (by decide +kernel)⟩
theorem lw_p36 : lw_okq (⟨"MagnetRingModel", "isPart", "(I)Z"⟩, 50) := ⟨⟨by decide +kernel, by decide +kernel⟩, List.mem_of_getElem? (i := 811) (by decide +kernel), List.mem_of_getElem? (i := 1049) (by decide +kernel), List.mem_of_getElem? (i := 1050) (by decide +kernel)⟩
theorem lw_p37 : lw_okq (⟨"MagnetRingModel", "ahead", "(II)I"⟩, 50) := ⟨⟨by decide +kernel, by decide +kernel⟩, List.mem_of_getElem? (i := 811) (by decide +kernel), List.mem_of_getElem? (i := 1054) (by decide +kernel), List.mem_of_getElem? (i := 1055) (by decide +kernel)⟩
theorem lw_p38 : lw_okq (⟨"MagnetRingModel", "goes", "(II)V"⟩, 50) := ⟨⟨by decide +kernel, by decide +kernel⟩, List.mem_of_getElem? (i := 811) (by decide +kernel), List.mem_of_getElem? (i := 1069) (by decide +kernel), List.mem_of_getElem? (i := 1070) (by decide +kernel)⟩
theorem lw_p39 : lw_okq (⟨"MagnetRingModel", "starts", "()V"⟩, 50) := ⟨⟨by decide +kernel, by decide +kernel⟩, List.mem_of_getElem? (i := 811) (by decide +kernel), List.mem_of_getElem? (i := 1073) (by decide +kernel), List.mem_of_getElem? (i := 1074) (by decide +kernel)⟩
theorem lw_p40 : lw_okq (⟨"MagnetRingModel", "lays", "(IJJ)V"⟩, 50) := ⟨⟨by decide +kernel, by decide +kernel⟩, List.mem_of_getElem? (i := 811) (by decide +kernel), List.mem_of_getElem? (i := 1077) (by decide +kernel), List.mem_of_getElem? (i := 1078) (by decide +kernel)⟩
theorem lw_p41 : lw_okq (⟨"MagnetRingModel", "leadsTable", "(I)V"⟩, 50) := ⟨⟨by decide +kernel, by decide +kernel⟩, List.mem_of_getElem? (i := 811) (by decide +kernel), List.mem_of_getElem? (i := 1081) (by decide +kernel), List.mem_of_getElem? (i := 1082) (by decide +kernel)⟩
theorem lw_p42 : lw_okq (⟨"MagnetRingModel", "leads", "(IJJI)V"⟩, 50) := ⟨⟨by decide +kernel, by decide +kernel⟩, List.mem_of_getElem? (i := 811) (by decide +kernel), List.mem_of_getElem? (i := 1085) (by decide +kernel), List.mem_of_getElem? (i := 1086) (by decide +kernel)⟩
theorem lw_p43 : lw_okq (⟨"MagnetRingModel", "product", "(JJJJ)V"⟩, 50) := ⟨⟨by decide +kernel, by decide +kernel⟩, List.mem_of_getElem? (i := 811) (by decide +kernel), List.mem_of_getElem? (i := 1089) (by decide +kernel), List.mem_of_getElem? (i := 1090) (by decide +kernel)⟩
theorem lw_p44 : lw_okq (⟨"MagnetRingModel", "holds", "(JJ)V"⟩, 50) := ⟨⟨by decide +kernel, by decide +kernel⟩, List.mem_of_getElem? (i := 811) (by decide +kernel), List.mem_of_getElem? (i := 1093) (by decide +kernel), List.mem_of_getElem? (i := 1094) (by decide +kernel)⟩
theorem lw_p45 : lw_okq (⟨"MagnetRingModel", "sum", "(JJJJ)V"⟩, 50) := ⟨⟨by decide +kernel, by decide +kernel⟩, List.mem_of_getElem? (i := 811) (by decide +kernel), List.mem_of_getElem? (i := 1099) (by decide +kernel), List.mem_of_getElem? (i := 1100) (by decide +kernel)⟩
theorem lw_p46 : lw_okq (⟨"MagnetRingModel", "tables", "()I"⟩, 50) := ⟨⟨by decide +kernel, by decide +kernel⟩, List.mem_of_getElem? (i := 811) (by decide +kernel), List.mem_of_getElem? (i := 1103) (by decide +kernel), List.mem_of_getElem? (i := 1104) (by decide +kernel)⟩
theorem lw_p47 : lw_okq (⟨"MagnetRingModel", "tells", "(IJJ)V"⟩, 50) := ⟨⟨by decide +kernel, by decide +kernel⟩, List.mem_of_getElem? (i := 811) (by decide +kernel), List.mem_of_getElem? (i := 1107) (by decide +kernel), List.mem_of_getElem? (i := 1108) (by decide +kernel)⟩
def lw_privs_3 : List (MethodName × Nat) := [(⟨"MagnetRingModel", "closes", "()Z"⟩, 50), (⟨"MagnetRingModel", "adds", "(IJJ)V"⟩, 50), (⟨"MagnetRingModel", "item", "()Z"⟩, 50), (⟨"MagnetRingModel", "figure", "(Z)Z"⟩, 50), (⟨"MagnetRingModel", "isPart", "(I)Z"⟩, 50), (⟨"MagnetRingModel", "ahead", "(II)I"⟩, 50), (⟨"MagnetRingModel", "goes", "(II)V"⟩, 50), (⟨"MagnetRingModel", "starts", "()V"⟩, 50), (⟨"MagnetRingModel", "lays", "(IJJ)V"⟩, 50), (⟨"MagnetRingModel", "leadsTable", "(I)V"⟩, 50), (⟨"MagnetRingModel", "leads", "(IJJI)V"⟩, 50), (⟨"MagnetRingModel", "product", "(JJJJ)V"⟩, 50), (⟨"MagnetRingModel", "holds", "(JJ)V"⟩, 50), (⟨"MagnetRingModel", "sum", "(JJJJ)V"⟩, 50), (⟨"MagnetRingModel", "tables", "()I"⟩, 50), (⟨"MagnetRingModel", "tells", "(IJJ)V"⟩, 50)]
theorem lw_r3 : ∀ q ∈ lw_privs_3, lw_okq q := List.forall_mem_cons.mpr ⟨lw_p32, List.forall_mem_cons.mpr ⟨lw_p33, List.forall_mem_cons.mpr ⟨lw_p34, List.forall_mem_cons.mpr ⟨lw_p35, List.forall_mem_cons.mpr ⟨lw_p36, List.forall_mem_cons.mpr ⟨lw_p37, List.forall_mem_cons.mpr ⟨lw_p38, List.forall_mem_cons.mpr ⟨lw_p39, List.forall_mem_cons.mpr ⟨lw_p40, List.forall_mem_cons.mpr ⟨lw_p41, List.forall_mem_cons.mpr ⟨lw_p42, List.forall_mem_cons.mpr ⟨lw_p43, List.forall_mem_cons.mpr ⟨lw_p44, List.forall_mem_cons.mpr ⟨lw_p45, List.forall_mem_cons.mpr ⟨lw_p46, List.forall_mem_cons.mpr ⟨lw_p47, fun _ h => absurd h List.not_mem_nil⟩⟩⟩⟩⟩⟩⟩⟩⟩⟩⟩⟩⟩⟩⟩⟩
theorem lw_p48 : lw_okq (⟨"MagnetRingModel", "kept", "()I"⟩, 50) := ⟨⟨by decide +kernel, by decide +kernel⟩, List.mem_of_getElem? (i := 811) (by decide +kernel), List.mem_of_getElem? (i := 1115) (by decide +kernel), List.mem_of_getElem? (i := 1116) (by decide +kernel)⟩
theorem lw_p49 : lw_okq (⟨"MagnetRingModel", "closed", "(II)I"⟩, 50) := ⟨⟨by decide +kernel, by decide +kernel⟩, List.mem_of_getElem? (i := 811) (by decide +kernel), List.mem_of_getElem? (i := 1131) (by decide +kernel), List.mem_of_getElem? (i := 1132) (by decide +kernel)⟩
theorem lw_p50 : lw_okq (⟨"MagnetRingModel", "leadsMote", "(III)V"⟩, 50) := ⟨⟨by decide +kernel, by decide +kernel⟩, List.mem_of_getElem? (i := 811) (by decide +kernel), List.mem_of_getElem? (i := 1135) (by decide +kernel), List.mem_of_getElem? (i := 1136) (by decide +kernel)⟩
theorem lw_p51 : lw_okq (⟨"MagnetRingModel", "divided", "(JJJJ)V"⟩, 50) := ⟨⟨by decide +kernel, by decide +kernel⟩, List.mem_of_getElem? (i := 811) (by decide +kernel), List.mem_of_getElem? (i := 1139) (by decide +kernel), List.mem_of_getElem? (i := 1140) (by decide +kernel)⟩
theorem lw_p52 : lw_okq (⟨"MagnetRingModel", "partOf", "(II)I"⟩, 50) := ⟨⟨by decide +kernel, by decide +kernel⟩, List.mem_of_getElem? (i := 811) (by decide +kernel), List.mem_of_getElem? (i := 1147) (by decide +kernel), List.mem_of_getElem? (i := 1148) (by decide +kernel)⟩
theorem lw_p53 : lw_okq (⟨"MagnetRingModel", "weighs", "(I)Z"⟩, 50) := ⟨⟨by decide +kernel, by decide +kernel⟩, List.mem_of_getElem? (i := 811) (by decide +kernel), List.mem_of_getElem? (i := 1168) (by decide +kernel), List.mem_of_getElem? (i := 1169) (by decide +kernel)⟩
theorem lw_p54 : lw_okq (⟨"MagnetRingModel", "rounds", "(II)I"⟩, 50) := ⟨⟨by decide +kernel, by decide +kernel⟩, List.mem_of_getElem? (i := 811) (by decide +kernel), List.mem_of_getElem? (i := 1175) (by decide +kernel), List.mem_of_getElem? (i := 1176) (by decide +kernel)⟩
def lw_privs_4 : List (MethodName × Nat) := [(⟨"MagnetRingModel", "kept", "()I"⟩, 50), (⟨"MagnetRingModel", "closed", "(II)I"⟩, 50), (⟨"MagnetRingModel", "leadsMote", "(III)V"⟩, 50), (⟨"MagnetRingModel", "divided", "(JJJJ)V"⟩, 50), (⟨"MagnetRingModel", "partOf", "(II)I"⟩, 50), (⟨"MagnetRingModel", "weighs", "(I)Z"⟩, 50), (⟨"MagnetRingModel", "rounds", "(II)I"⟩, 50)]
theorem lw_r4 : ∀ q ∈ lw_privs_4, lw_okq q := List.forall_mem_cons.mpr ⟨lw_p48, List.forall_mem_cons.mpr ⟨lw_p49, List.forall_mem_cons.mpr ⟨lw_p50, List.forall_mem_cons.mpr ⟨lw_p51, List.forall_mem_cons.mpr ⟨lw_p52, List.forall_mem_cons.mpr ⟨lw_p53, List.forall_mem_cons.mpr ⟨lw_p54, fun _ h => absurd h List.not_mem_nil⟩⟩⟩⟩⟩⟩⟩
def lw_privs : List (MethodName × Nat) := lw_privs_1 ++ (lw_privs_2 ++ (lw_privs_3 ++ (lw_privs_4)))
def lw_tbl : List Cond := k2_sels lw_privs ++ tables_1
theorem lw_privs_ok : ∀ q ∈ lw_privs, lw_okq q := by
  show ∀ q ∈ lw_privs_1 ++ (lw_privs_2 ++ (lw_privs_3 ++ (lw_privs_4))), lw_okq q
  exact List.forall_mem_append.mpr ⟨lw_r1, List.forall_mem_append.mpr ⟨lw_r2, List.forall_mem_append.mpr ⟨lw_r3, lw_r4⟩⟩⟩
end
section
def RX0 : String := "MagnetRing$Fraction"
def TX0 : u_T := fun k => match k with
  | 0 => ("MagnetRing$Fraction", "above", "J", false)
  | _ => ("MagnetRing$Fraction", "below", "J", false)
def tyX0 : Nat → FieldType := fun k => match k with
  | 0 => .long
  | _ => .long
abbrev wsX00 : List Cond := u_ws RX0 TX0 2
theorem nmX0 : ∀ a, a < 2 → ∀ b, b < 2 → a ≠ b → (TX0 a).2.1 ≠ (TX0 b).2.1 := by decide +kernel
theorem tyX0_ok : ∀ k, k < 2 → parseFieldDescriptor (TX0 k).2.2.1 = some (tyX0 k) := by decide +kernel
abbrev cX0_init : ByteArray := prog_2_method_1_code
def yX0_init : MethodName := ⟨RX0, "<init>", "()V"⟩
abbrev cX0_put : ByteArray := prog_2_method_2_code
def yX0_put : MethodName := ⟨RX0, "put", "(JJ)V"⟩
abbrev cX0_copy : ByteArray := prog_2_method_3_code
def yX0_copy : MethodName := ⟨RX0, "copy", "(LMagnetRing$Fraction;)V"⟩
abbrev cX0_negate : ByteArray := prog_2_method_4_code
def yX0_negate : MethodName := ⟨RX0, "negate", "()V"⟩
abbrev cX0_isZero : ByteArray := prog_2_method_5_code
def yX0_isZero : MethodName := ⟨RX0, "isZero", "()Z"⟩
abbrev cX0_compareToWhole : ByteArray := prog_2_method_6_code
def yX0_compareToWhole : MethodName := ⟨RX0, "compareToWhole", "(J)I"⟩
abbrev cX0_side : ByteArray := prog_2_method_7_code
def yX0_side : MethodName := ⟨RX0, "side", "(I)I"⟩
def RX1 : String := "MagnetRing$Lattice"
def TX1 : u_T := fun k => match k with
  | 0 => ("MagnetRing$Lattice", "prime", "I", false)
  | 1 => ("MagnetRing$Lattice", "strengths", "[I", true)
  | 2 => ("MagnetRing$Lattice", "seen", "[Z", true)
  | 3 => ("MagnetRing$Lattice", "told", "Z", false)
  | 4 => ("MagnetRing$Lattice", "toldPrime", "I", false)
  | 5 => ("MagnetRing$Lattice", "resting", "I", false)
  | 6 => ("MagnetRing$Lattice", "cycles", "I", false)
  | 7 => ("MagnetRing$Lattice", "longest", "I", false)
  | _ => ("MagnetRing$Lattice", "leader", "I", false)
def tyX1 : Nat → FieldType := fun k => match k with
  | 0 => .int
  | 1 => .array .int
  | 2 => .array .boolean
  | 3 => .boolean
  | 4 => .int
  | 5 => .int
  | 6 => .int
  | 7 => .int
  | _ => .int
abbrev wsX10 : List Cond := u_ws RX1 TX1 9
theorem nmX1 : ∀ a, a < 9 → ∀ b, b < 9 → a ≠ b → (TX1 a).2.1 ≠ (TX1 b).2.1 := by decide +kernel
theorem tyX1_ok : ∀ k, k < 9 → parseFieldDescriptor (TX1 k).2.2.1 = some (tyX1 k) := by decide +kernel
abbrev cX1_init : ByteArray := prog_3_method_1_code
def yX1_init : MethodName := ⟨RX1, "<init>", "()V"⟩
abbrev cX1_forget : ByteArray := prog_3_method_2_code
def yX1_forget : MethodName := ⟨RX1, "forget", "()V"⟩
abbrev cX1_prepare : ByteArray := prog_3_method_3_code
def yX1_prepare : MethodName := ⟨RX1, "prepare", "(LMagnetRing$Ring;I)Z"⟩
abbrev cX1_inverse : ByteArray := prog_3_method_4_code
def yX1_inverse : MethodName := ⟨RX1, "inverse", "(II)I"⟩
abbrev cX1_next : ByteArray := prog_3_method_5_code
def yX1_next : MethodName := ⟨RX1, "next", "(LMagnetRing$Ring;I)I"⟩
abbrev cX1_followAll : ByteArray := prog_3_method_6_code
def yX1_followAll : MethodName := ⟨RX1, "followAll", "(LMagnetRing$Ring;)V"⟩
abbrev cX1_follow : ByteArray := prog_3_method_7_code
def yX1_follow : MethodName := ⟨RX1, "follow", "(LMagnetRing$Ring;II)I"⟩
abbrev cX1_noteCycle : ByteArray := prog_3_method_8_code
def yX1_noteCycle : MethodName := ⟨RX1, "noteCycle", "(II)V"⟩
abbrev cX1_fact : ByteArray := prog_3_method_9_code
def yX1_fact : MethodName := ⟨RX1, "fact", "(I)I"⟩
def RX2 : String := "MagnetRing$Line"
def TX2 : u_T := fun k => match k with
  | 0 => ("MagnetRing$Line", "name", "J", true)
  | 1 => ("MagnetRing$Line", "parts", "[LMagnetRing$Part;", true)
  | _ => ("MagnetRing$Line", "ahead", "LMagnetRing$Line;", true)
def tyX2 : Nat → FieldType := fun k => match k with
  | 0 => .long
  | 1 => .array (.object "MagnetRing$Part")
  | _ => .object "MagnetRing$Line"
abbrev wsX20 : List Cond := u_ws RX2 TX2 3
theorem nmX2 : ∀ a, a < 3 → ∀ b, b < 3 → a ≠ b → (TX2 a).2.1 ≠ (TX2 b).2.1 := by decide +kernel
theorem tyX2_ok : ∀ k, k < 3 → parseFieldDescriptor (TX2 k).2.2.1 = some (tyX2 k) := by decide +kernel
abbrev cX2_init : ByteArray := prog_4_method_1_code
def yX2_init : MethodName := ⟨RX2, "<init>", "(JLMagnetRing$Row;LMagnetRing$Line;)V"⟩
def RX3 : String := "MagnetRing$Mote"
def TX3 : u_T := fun k => match k with
  | 0 => ("MagnetRing$Mote", "x", "LMagnetRing$Fraction;", true)
  | _ => ("MagnetRing$Mote", "y", "LMagnetRing$Fraction;", true)
def tyX3 : Nat → FieldType := fun k => match k with
  | 0 => .object "MagnetRing$Fraction"
  | _ => .object "MagnetRing$Fraction"
abbrev wsX30 : List Cond := u_ws RX3 TX3 2
theorem nmX3 : ∀ a, a < 2 → ∀ b, b < 2 → a ≠ b → (TX3 a).2.1 ≠ (TX3 b).2.1 := by decide +kernel
theorem tyX3_ok : ∀ k, k < 2 → parseFieldDescriptor (TX3 k).2.2.1 = some (tyX3 k) := by decide +kernel
abbrev cX3_init : ByteArray := prog_5_method_1_code
def yX3_init : MethodName := ⟨RX3, "<init>", "()V"⟩
abbrev cX3_put : ByteArray := prog_5_method_2_code
def yX3_put : MethodName := ⟨RX3, "put", "(JJ)V"⟩
def RX4 : String := "MagnetRing$Optics"
def TX4 : u_T := fun k => match k with
  | 0 => ("MagnetRing$Optics", "reckoner", "LMagnetRing$Reckoner;", true)
  | 1 => ("MagnetRing$Optics", "columnAC", "LMagnetRing$Mote;", true)
  | 2 => ("MagnetRing$Optics", "columnBD", "LMagnetRing$Mote;", true)
  | 3 => ("MagnetRing$Optics", "kicked", "LMagnetRing$Mote;", true)
  | 4 => ("MagnetRing$Optics", "closed", "LMagnetRing$Mote;", true)
  | 5 => ("MagnetRing$Optics", "trace", "LMagnetRing$Fraction;", true)
  | 6 => ("MagnetRing$Optics", "gap", "LMagnetRing$Fraction;", true)
  | 7 => ("MagnetRing$Optics", "rest", "LMagnetRing$Fraction;", true)
  | 8 => ("MagnetRing$Optics", "middleWidth", "LMagnetRing$Fraction;", true)
  | 9 => ("MagnetRing$Optics", "bumpMiddle", "LMagnetRing$Fraction;", true)
  | 10 => ("MagnetRing$Optics", "bumpEnd", "LMagnetRing$Fraction;", true)
  | 11 => ("MagnetRing$Optics", "trialKicks", "[LMagnetRing$Fraction;", true)
  | 12 => ("MagnetRing$Optics", "told", "[LMagnetRing$Fraction;", true)
  | _ => ("MagnetRing$Optics", "toldAmount", "I", false)
def tyX4 : Nat → FieldType := fun k => match k with
  | 0 => .object "MagnetRing$Reckoner"
  | 1 => .object "MagnetRing$Mote"
  | 2 => .object "MagnetRing$Mote"
  | 3 => .object "MagnetRing$Mote"
  | 4 => .object "MagnetRing$Mote"
  | 5 => .object "MagnetRing$Fraction"
  | 6 => .object "MagnetRing$Fraction"
  | 7 => .object "MagnetRing$Fraction"
  | 8 => .object "MagnetRing$Fraction"
  | 9 => .object "MagnetRing$Fraction"
  | 10 => .object "MagnetRing$Fraction"
  | 11 => .array (.object "MagnetRing$Fraction")
  | 12 => .array (.object "MagnetRing$Fraction")
  | _ => .int
abbrev wsX40 : List Cond := u_ws RX4 TX4 14
theorem nmX4 : ∀ a, a < 14 → ∀ b, b < 14 → a ≠ b → (TX4 a).2.1 ≠ (TX4 b).2.1 := by decide +kernel
theorem tyX4_ok : ∀ k, k < 14 → parseFieldDescriptor (TX4 k).2.2.1 = some (tyX4 k) := by decide +kernel
abbrev cX4_init : ByteArray := prog_6_method_1_code
def yX4_init : MethodName := ⟨RX4, "<init>", "()V"⟩
abbrev cX4_isBig : ByteArray := prog_6_method_2_code
def yX4_isBig : MethodName := ⟨RX4, "isBig", "()Z"⟩
abbrev cX4_onlyKick : ByteArray := prog_6_method_3_code
def yX4_onlyKick : MethodName := ⟨RX4, "onlyKick", "(I)[LMagnetRing$Fraction;"⟩
abbrev cX4_lead : ByteArray := prog_6_method_4_code
def yX4_lead : MethodName := ⟨RX4, "lead", "(LMagnetRing$Mote;LMagnetRing$Part;)V"⟩
abbrev cX4_giveKick : ByteArray := prog_6_method_5_code
def yX4_giveKick : MethodName := ⟨RX4, "giveKick", "(LMagnetRing$Mote;LMagnetRing$Ring;I[LMagnetRing$Fraction;)V"⟩
abbrev cX4_beginTable : ByteArray := prog_6_method_6_code
def yX4_beginTable : MethodName := ⟨RX4, "beginTable", "()V"⟩
abbrev cX4_reckonTable : ByteArray := prog_6_method_7_code
def yX4_reckonTable : MethodName := ⟨RX4, "reckonTable", "(LMagnetRing$Ring;II)V"⟩
abbrev cX4_stability : ByteArray := prog_6_method_8_code
def yX4_stability : MethodName := ⟨RX4, "stability", "()I"⟩
abbrev cX4_roundsUntilBack : ByteArray := prog_6_method_9_code
def yX4_roundsUntilBack : MethodName := ⟨RX4, "roundsUntilBack", "()I"⟩
abbrev cX4_reckonMiddleWidth : ByteArray := prog_6_method_10_code
def yX4_reckonMiddleWidth : MethodName := ⟨RX4, "reckonMiddleWidth", "()V"⟩
abbrev cX4_closeWay : ByteArray := prog_6_method_11_code
def yX4_closeWay : MethodName := ⟨RX4, "closeWay", "(LMagnetRing$Ring;[LMagnetRing$Fraction;I)I"⟩
abbrev cX4_solveClosed : ByteArray := prog_6_method_12_code
def yX4_solveClosed : MethodName := ⟨RX4, "solveClosed", "()V"⟩
abbrev cX4_closeBump : ByteArray := prog_6_method_13_code
def yX4_closeBump : MethodName := ⟨RX4, "closeBump", "(LMagnetRing$Ring;III)I"⟩
abbrev cX4_hasTold : ByteArray := prog_6_method_14_code
def yX4_hasTold : MethodName := ⟨RX4, "hasTold", "(I)Z"⟩
abbrev cX4_tell : ByteArray := prog_6_method_15_code
def yX4_tell : MethodName := ⟨RX4, "tell", "(LMagnetRing$Fraction;)V"⟩
abbrev cX4_tellTable : ByteArray := prog_6_method_16_code
def yX4_tellTable : MethodName := ⟨RX4, "tellTable", "()I"⟩
abbrev cX4_tellWidths : ByteArray := prog_6_method_17_code
def yX4_tellWidths : MethodName := ⟨RX4, "tellWidths", "()I"⟩
abbrev cX4_tellWay : ByteArray := prog_6_method_18_code
def yX4_tellWay : MethodName := ⟨RX4, "tellWay", "()I"⟩
abbrev cX4_tellWayX : ByteArray := prog_6_method_19_code
def yX4_tellWayX : MethodName := ⟨RX4, "tellWayX", "()I"⟩
abbrev cX4_tellBump : ByteArray := prog_6_method_20_code
def yX4_tellBump : MethodName := ⟨RX4, "tellBump", "()I"⟩
def RX5 : String := "MagnetRing$Part"
def TX5 : u_T := fun k => match k with
  | 0 => ("MagnetRing$Part", "kind", "I", true)
  | _ => ("MagnetRing$Part", "strength", "LMagnetRing$Fraction;", true)
def tyX5 : Nat → FieldType := fun k => match k with
  | 0 => .int
  | _ => .object "MagnetRing$Fraction"
abbrev wsX50 : List Cond := u_ws RX5 TX5 2
theorem nmX5 : ∀ a, a < 2 → ∀ b, b < 2 → a ≠ b → (TX5 a).2.1 ≠ (TX5 b).2.1 := by decide +kernel
theorem tyX5_ok : ∀ k, k < 2 → parseFieldDescriptor (TX5 k).2.2.1 = some (tyX5 k) := by decide +kernel
abbrev cX5_init : ByteArray := prog_7_method_1_code
def yX5_init : MethodName := ⟨RX5, "<init>", "(ILMagnetRing$Fraction;)V"⟩
def RX6 : String := "MagnetRing$Reader"
def TX6 : u_T := fun k => match k with
  | 0 => ("MagnetRing$Reader", "text", "LMagnetRing$Text;", true)
  | 1 => ("MagnetRing$Reader", "row", "LMagnetRing$Row;", true)
  | 2 => ("MagnetRing$Reader", "openFrom", "[I", true)
  | 3 => ("MagnetRing$Reader", "openTimes", "[I", true)
  | 4 => ("MagnetRing$Reader", "open", "I", false)
  | 5 => ("MagnetRing$Reader", "latest", "LMagnetRing$Line;", false)
  | 6 => ("MagnetRing$Reader", "expected", "I", false)
  | 7 => ("MagnetRing$Reader", "lineName", "J", false)
  | 8 => ("MagnetRing$Reader", "kind", "I", false)
  | 9 => ("MagnetRing$Reader", "sign", "I", false)
  | 10 => ("MagnetRing$Reader", "above", "I", false)
  | _ => ("MagnetRing$Reader", "times", "I", false)
def tyX6 : Nat → FieldType := fun k => match k with
  | 0 => .object "MagnetRing$Text"
  | 1 => .object "MagnetRing$Row"
  | 2 => .array .int
  | 3 => .array .int
  | 4 => .int
  | 5 => .object "MagnetRing$Line"
  | 6 => .int
  | 7 => .long
  | 8 => .int
  | 9 => .int
  | 10 => .int
  | _ => .int
abbrev wsX60 : List Cond := u_ws RX6 TX6 12
theorem nmX6 : ∀ a, a < 12 → ∀ b, b < 12 → a ≠ b → (TX6 a).2.1 ≠ (TX6 b).2.1 := by decide +kernel
theorem tyX6_ok : ∀ k, k < 12 → parseFieldDescriptor (TX6 k).2.2.1 = some (tyX6 k) := by decide +kernel
abbrev cX6_init : ByteArray := prog_8_method_1_code
def yX6_init : MethodName := ⟨RX6, "<init>", "()V"⟩
abbrev cX6_findFault : ByteArray := prog_8_method_2_code
def yX6_findFault : MethodName := ⟨RX6, "findFault", "()I"⟩
abbrev cX6_faultPlace : ByteArray := prog_8_method_3_code
def yX6_faultPlace : MethodName := ⟨RX6, "faultPlace", "()I"⟩
abbrev cX6_lastLine : ByteArray := prog_8_method_4_code
def yX6_lastLine : MethodName := ⟨RX6, "lastLine", "()LMagnetRing$Line;"⟩
abbrev cX6_take : ByteArray := prog_8_method_5_code
def yX6_take : MethodName := ⟨RX6, "take", "()I"⟩
abbrev cX6_takeAlone : ByteArray := prog_8_method_6_code
def yX6_takeAlone : MethodName := ⟨RX6, "takeAlone", "(II)I"⟩
abbrev cX6_takeLineName : ByteArray := prog_8_method_7_code
def yX6_takeLineName : MethodName := ⟨RX6, "takeLineName", "()I"⟩
abbrev cX6_lineOf : ByteArray := prog_8_method_8_code
def yX6_lineOf : MethodName := ⟨RX6, "lineOf", "(J)LMagnetRing$Line;"⟩
abbrev cX6_takeItem : ByteArray := prog_8_method_9_code
def yX6_takeItem : MethodName := ⟨RX6, "takeItem", "()I"⟩
abbrev cX6_takeTimes : ByteArray := prog_8_method_10_code
def yX6_takeTimes : MethodName := ⟨RX6, "takeTimes", "()I"⟩
abbrev cX6_takeToldName : ByteArray := prog_8_method_11_code
def yX6_takeToldName : MethodName := ⟨RX6, "takeToldName", "()I"⟩
abbrev cX6_beginPart : ByteArray := prog_8_method_12_code
def yX6_beginPart : MethodName := ⟨RX6, "beginPart", "(I)I"⟩
abbrev cX6_endPart : ByteArray := prog_8_method_13_code
def yX6_endPart : MethodName := ⟨RX6, "endPart", "(III)I"⟩
abbrev cX6_takeMinusOrNumber : ByteArray := prog_8_method_14_code
def yX6_takeMinusOrNumber : MethodName := ⟨RX6, "takeMinusOrNumber", "()I"⟩
abbrev cX6_takeAbove : ByteArray := prog_8_method_15_code
def yX6_takeAbove : MethodName := ⟨RX6, "takeAbove", "()I"⟩
abbrev cX6_takeBelow : ByteArray := prog_8_method_16_code
def yX6_takeBelow : MethodName := ⟨RX6, "takeBelow", "()I"⟩
abbrev cX6_takeOpen : ByteArray := prog_8_method_17_code
def yX6_takeOpen : MethodName := ⟨RX6, "takeOpen", "()I"⟩
abbrev cX6_closes : ByteArray := prog_8_method_18_code
def yX6_closes : MethodName := ⟨RX6, "closes", "()Z"⟩
abbrev cX6_takeClose : ByteArray := prog_8_method_19_code
def yX6_takeClose : MethodName := ⟨RX6, "takeClose", "()I"⟩
def RX7 : String := "MagnetRing$Reckoner"
def TX7 : u_T := fun k => match k with
  | 0 => ("MagnetRing$Reckoner", "big", "Z", false)
  | _ => ("MagnetRing$Reckoner", "product", "LMagnetRing$Fraction;", true)
def tyX7 : Nat → FieldType := fun k => match k with
  | 0 => .boolean
  | _ => .object "MagnetRing$Fraction"
abbrev wsX70 : List Cond := u_ws RX7 TX7 2
theorem nmX7 : ∀ a, a < 2 → ∀ b, b < 2 → a ≠ b → (TX7 a).2.1 ≠ (TX7 b).2.1 := by decide +kernel
theorem tyX7_ok : ∀ k, k < 2 → parseFieldDescriptor (TX7 k).2.2.1 = some (tyX7 k) := by decide +kernel
abbrev cX7_init : ByteArray := prog_9_method_1_code
def yX7_init : MethodName := ⟨RX7, "<init>", "()V"⟩
abbrev cX7_begin : ByteArray := prog_9_method_2_code
def yX7_begin : MethodName := ⟨RX7, "begin", "()V"⟩
abbrev cX7_plus : ByteArray := prog_9_method_3_code
def yX7_plus : MethodName := ⟨RX7, "plus", "(LMagnetRing$Fraction;LMagnetRing$Fraction;)V"⟩
abbrev cX7_minus : ByteArray := prog_9_method_4_code
def yX7_minus : MethodName := ⟨RX7, "minus", "(LMagnetRing$Fraction;LMagnetRing$Fraction;)V"⟩
abbrev cX7_times : ByteArray := prog_9_method_5_code
def yX7_times : MethodName := ⟨RX7, "times", "(LMagnetRing$Fraction;LMagnetRing$Fraction;)V"⟩
abbrev cX7_over : ByteArray := prog_9_method_6_code
def yX7_over : MethodName := ⟨RX7, "over", "(LMagnetRing$Fraction;LMagnetRing$Fraction;)V"⟩
abbrev cX7_plusProduct : ByteArray := prog_9_method_7_code
def yX7_plusProduct : MethodName := ⟨RX7, "plusProduct", "(LMagnetRing$Fraction;LMagnetRing$Fraction;LMagnetRing$Fraction;)V"⟩
abbrev cX7_minusProduct : ByteArray := prog_9_method_8_code
def yX7_minusProduct : MethodName := ⟨RX7, "minusProduct", "(LMagnetRing$Fraction;LMagnetRing$Fraction;LMagnetRing$Fraction;)V"⟩
abbrev cX7_settle : ByteArray := prog_9_method_9_code
def yX7_settle : MethodName := ⟨RX7, "settle", "(LMagnetRing$Fraction;JJ)V"⟩
def RX8 : String := "MagnetRing$Ring"
def TX8 : u_T := fun k => match k with
  | 0 => ("MagnetRing$Ring", "parts", "[LMagnetRing$Part;", false)
  | 1 => ("MagnetRing$Ring", "size", "I", false)
  | 2 => ("MagnetRing$Ring", "kicks", "[LMagnetRing$Fraction;", true)
  | 3 => ("MagnetRing$Ring", "kickAt", "[I", true)
  | 4 => ("MagnetRing$Ring", "lookAt", "[I", true)
  | 5 => ("MagnetRing$Ring", "kickOf", "[I", true)
  | 6 => ("MagnetRing$Ring", "kickAmount", "I", false)
  | _ => ("MagnetRing$Ring", "lookAmount", "I", false)
def tyX8 : Nat → FieldType := fun k => match k with
  | 0 => .array (.object "MagnetRing$Part")
  | 1 => .int
  | 2 => .array (.object "MagnetRing$Fraction")
  | 3 => .array .int
  | 4 => .array .int
  | 5 => .array .int
  | 6 => .int
  | _ => .int
abbrev wsX80 : List Cond := u_ws RX8 TX8 8
theorem nmX8 : ∀ a, a < 8 → ∀ b, b < 8 → a ≠ b → (TX8 a).2.1 ≠ (TX8 b).2.1 := by decide +kernel
theorem tyX8_ok : ∀ k, k < 8 → parseFieldDescriptor (TX8 k).2.2.1 = some (tyX8 k) := by decide +kernel
abbrev cX8_init : ByteArray := prog_10_method_1_code
def yX8_init : MethodName := ⟨RX8, "<init>", "()V"⟩
abbrev cX8_hasPart : ByteArray := prog_10_method_2_code
def yX8_hasPart : MethodName := ⟨RX8, "hasPart", "(I)Z"⟩
abbrev cX8_hasKick : ByteArray := prog_10_method_3_code
def yX8_hasKick : MethodName := ⟨RX8, "hasKick", "(I)Z"⟩
abbrev cX8_hasLook : ByteArray := prog_10_method_4_code
def yX8_hasLook : MethodName := ⟨RX8, "hasLook", "(I)Z"⟩
abbrev cX8_strengthAt : ByteArray := prog_10_method_5_code
def yX8_strengthAt : MethodName := ⟨RX8, "strengthAt", "(I)LMagnetRing$Fraction;"⟩
abbrev cX8_become : ByteArray := prog_10_method_6_code
def yX8_become : MethodName := ⟨RX8, "become", "(LMagnetRing$Line;)V"⟩
def RX9 : String := "MagnetRing$Row"
def TX9 : u_T := fun k => match k with
  | 0 => ("MagnetRing$Row", "parts", "[LMagnetRing$Part;", true)
  | 1 => ("MagnetRing$Row", "size", "I", false)
  | 2 => ("MagnetRing$Row", "kicks", "I", false)
  | 3 => ("MagnetRing$Row", "looks", "I", false)
  | _ => ("MagnetRing$Row", "many", "Z", false)
def tyX9 : Nat → FieldType := fun k => match k with
  | 0 => .array (.object "MagnetRing$Part")
  | 1 => .int
  | 2 => .int
  | 3 => .int
  | _ => .boolean
abbrev wsX90 : List Cond := u_ws RX9 TX9 5
theorem nmX9 : ∀ a, a < 5 → ∀ b, b < 5 → a ≠ b → (TX9 a).2.1 ≠ (TX9 b).2.1 := by decide +kernel
theorem tyX9_ok : ∀ k, k < 5 → parseFieldDescriptor (TX9 k).2.2.1 = some (tyX9 k) := by decide +kernel
abbrev cX9_init : ByteArray := prog_11_method_1_code
def yX9_init : MethodName := ⟨RX9, "<init>", "()V"⟩
abbrev cX9_clear : ByteArray := prog_11_method_2_code
def yX9_clear : MethodName := ⟨RX9, "clear", "()V"⟩
abbrev cX9_add : ByteArray := prog_11_method_3_code
def yX9_add : MethodName := ⟨RX9, "add", "(LMagnetRing$Part;)V"⟩
abbrev cX9_addLine : ByteArray := prog_11_method_4_code
def yX9_addLine : MethodName := ⟨RX9, "addLine", "(LMagnetRing$Line;)V"⟩
abbrev cX9_repeat : ByteArray := prog_11_method_5_code
def yX9_repeat : MethodName := ⟨RX9, "repeat", "(II)V"⟩
def RX10 : String := "MagnetRing$Text"
def TX10 : u_T := fun k => match k with
  | 0 => ("MagnetRing$Text", "signs", "[B", true)
  | 1 => ("MagnetRing$Text", "length", "I", false)
  | 2 => ("MagnetRing$Text", "kind", "I", false)
  | 3 => ("MagnetRing$Text", "start", "I", false)
  | 4 => ("MagnetRing$Text", "next", "I", false)
  | _ => ("MagnetRing$Text", "worth", "J", false)
def tyX10 : Nat → FieldType := fun k => match k with
  | 0 => .array .byte
  | 1 => .int
  | 2 => .int
  | 3 => .int
  | 4 => .int
  | _ => .long
abbrev wsX100 : List Cond := u_ws RX10 TX10 6
theorem nmX10 : ∀ a, a < 6 → ∀ b, b < 6 → a ≠ b → (TX10 a).2.1 ≠ (TX10 b).2.1 := by decide +kernel
theorem tyX10_ok : ∀ k, k < 6 → parseFieldDescriptor (TX10 k).2.2.1 = some (tyX10 k) := by decide +kernel
abbrev cX10_init : ByteArray := prog_12_method_1_code
def yX10_init : MethodName := ⟨RX10, "<init>", "()V"⟩
abbrev cX10_append : ByteArray := prog_12_method_2_code
def yX10_append : MethodName := ⟨RX10, "append", "(I)V"⟩
abbrev cX10_empty : ByteArray := prog_12_method_3_code
def yX10_empty : MethodName := ⟨RX10, "empty", "()V"⟩
abbrev cX10_rewind : ByteArray := prog_12_method_4_code
def yX10_rewind : MethodName := ⟨RX10, "rewind", "()V"⟩
abbrev cX10_advance : ByteArray := prog_12_method_5_code
def yX10_advance : MethodName := ⟨RX10, "advance", "()V"⟩
abbrev cX10_signAt : ByteArray := prog_12_method_6_code
def yX10_signAt : MethodName := ⟨RX10, "signAt", "(I)I"⟩
abbrev cX10_skipBlanks : ByteArray := prog_12_method_7_code
def yX10_skipBlanks : MethodName := ⟨RX10, "skipBlanks", "()V"⟩
abbrev cX10_takeName : ByteArray := prog_12_method_8_code
def yX10_takeName : MethodName := ⟨RX10, "takeName", "()V"⟩
abbrev cX10_takeNumber : ByteArray := prog_12_method_9_code
def yX10_takeNumber : MethodName := ⟨RX10, "takeNumber", "()V"⟩
abbrev cX10_isName : ByteArray := prog_12_method_10_code
def yX10_isName : MethodName := ⟨RX10, "isName", "(I)Z"⟩
abbrev cX10_isKindLetter : ByteArray := prog_12_method_11_code
def yX10_isKindLetter : MethodName := ⟨RX10, "isKindLetter", "()Z"⟩
abbrev cX10_letterWorth : ByteArray := prog_12_method_12_code
def yX10_letterWorth : MethodName := ⟨RX10, "letterWorth", "(I)I"⟩
abbrev cX10_isBlank : ByteArray := prog_12_method_13_code
def yX10_isBlank : MethodName := ⟨RX10, "isBlank", "(I)Z"⟩
abbrev cX10_isLetter : ByteArray := prog_12_method_14_code
def yX10_isLetter : MethodName := ⟨RX10, "isLetter", "(I)Z"⟩
abbrev cX10_isFigure : ByteArray := prog_12_method_15_code
def yX10_isFigure : MethodName := ⟨RX10, "isFigure", "(I)Z"⟩
abbrev cX10_standsAlone : ByteArray := prog_12_method_16_code
def yX10_standsAlone : MethodName := ⟨RX10, "standsAlone", "(I)Z"⟩
def RX11 : String := "MagnetRing"
def TX11 : u_T := fun k => match k with
  | 0 => ("MagnetRing", "reader", "LMagnetRing$Reader;", true)
  | 1 => ("MagnetRing", "ring", "LMagnetRing$Ring;", true)
  | 2 => ("MagnetRing", "optics", "LMagnetRing$Optics;", true)
  | 3 => ("MagnetRing", "lattice", "LMagnetRing$Lattice;", true)
  | _ => ("MagnetRing", "faultPlace", "I", false)
def tyX11 : Nat → FieldType := fun k => match k with
  | 0 => .object "MagnetRing$Reader"
  | 1 => .object "MagnetRing$Ring"
  | 2 => .object "MagnetRing$Optics"
  | 3 => .object "MagnetRing$Lattice"
  | _ => .int
abbrev wsX110 : List Cond := u_ws RX11 TX11 5
theorem nmX11 : ∀ a, a < 5 → ∀ b, b < 5 → a ≠ b → (TX11 a).2.1 ≠ (TX11 b).2.1 := by decide +kernel
theorem tyX11_ok : ∀ k, k < 5 → parseFieldDescriptor (TX11 k).2.2.1 = some (tyX11 k) := by decide +kernel
abbrev cX11_init : ByteArray := prog_1_method_1_code
def yX11_init : MethodName := ⟨RX11, "<init>", "()V"⟩
abbrev cX11_feed : ByteArray := prog_1_method_2_code
def yX11_feed : MethodName := ⟨RX11, "feed", "(IJ)I"⟩
abbrev cX11_read : ByteArray := prog_1_method_3_code
def yX11_read : MethodName := ⟨RX11, "read", "()I"⟩
abbrev cX11_place : ByteArray := prog_1_method_4_code
def yX11_place : MethodName := ⟨RX11, "place", "()I"⟩
abbrev cX11_part : ByteArray := prog_1_method_5_code
def yX11_part : MethodName := ⟨RX11, "part", "(II)I"⟩
abbrev cX11_kick : ByteArray := prog_1_method_6_code
def yX11_kick : MethodName := ⟨RX11, "kick", "(III)I"⟩
abbrev cX11_table : ByteArray := prog_1_method_7_code
def yX11_table : MethodName := ⟨RX11, "table", "(II)I"⟩
abbrev cX11_round : ByteArray := prog_1_method_8_code
def yX11_round : MethodName := ⟨RX11, "round", "(I)I"⟩
abbrev cX11_widths : ByteArray := prog_1_method_9_code
def yX11_widths : MethodName := ⟨RX11, "widths", "(I)I"⟩
abbrev cX11_turns : ByteArray := prog_1_method_10_code
def yX11_turns : MethodName := ⟨RX11, "turns", "()I"⟩
abbrev cX11_way : ByteArray := prog_1_method_11_code
def yX11_way : MethodName := ⟨RX11, "way", "(I)I"⟩
abbrev cX11_answer : ByteArray := prog_1_method_12_code
def yX11_answer : MethodName := ⟨RX11, "answer", "(II)I"⟩
abbrev cX11_bump : ByteArray := prog_1_method_13_code
def yX11_bump : MethodName := ⟨RX11, "bump", "(III)I"⟩
abbrev cX11_number : ByteArray := prog_1_method_14_code
def yX11_number : MethodName := ⟨RX11, "number", "(II)I"⟩
abbrev cX11_grid : ByteArray := prog_1_method_15_code
def yX11_grid : MethodName := ⟨RX11, "grid", "(I)I"⟩
abbrev cX11_rows : ByteArray := prog_1_method_16_code
def yX11_rows : MethodName := ⟨RX11, "rows", "(I)I"⟩
abbrev cX11_after : ByteArray := prog_1_method_17_code
def yX11_after : MethodName := ⟨RX11, "after", "(IIII)I"⟩
abbrev cX11_count : ByteArray := prog_1_method_18_code
def yX11_count : MethodName := ⟨RX11, "count", "(I)I"⟩
abbrev cX11_isPrime : ByteArray := prog_1_method_19_code
def yX11_isPrime : MethodName := ⟨RX11, "isPrime", "(I)Z"⟩
abbrev cX11_commonDivisor : ByteArray := prog_1_method_20_code
def yX11_commonDivisor : MethodName := ⟨RX11, "commonDivisor", "(JJ)J"⟩
def RX12 : String := "MagnetRingModel"
def TX12 : u_T := fun k => match k with
  | 0 => ("MagnetRingModel", "text", "[I", true)
  | 1 => ("MagnetRingModel", "size", "I", false)
  | 2 => ("MagnetRingModel", "at", "I", false)
  | 3 => ("MagnetRingModel", "from", "I", false)
  | 4 => ("MagnetRingModel", "sort", "I", false)
  | 5 => ("MagnetRingModel", "value", "J", false)
  | 6 => ("MagnetRingModel", "fault", "I", false)
  | 7 => ("MagnetRingModel", "place", "I", false)
  | 8 => ("MagnetRingModel", "names", "I", false)
  | 9 => ("MagnetRingModel", "name", "[J", true)
  | 10 => ("MagnetRingModel", "begins", "[I", true)
  | 11 => ("MagnetRingModel", "lengths", "[I", true)
  | 12 => ("MagnetRingModel", "pooled", "I", false)
  | 13 => ("MagnetRingModel", "poolKind", "[I", true)
  | 14 => ("MagnetRingModel", "poolUp", "[J", true)
  | 15 => ("MagnetRingModel", "poolDown", "[J", true)
  | 16 => ("MagnetRingModel", "isOver", "Z", false)
  | 17 => ("MagnetRingModel", "parts", "I", false)
  | 18 => ("MagnetRingModel", "kicks", "I", false)
  | 19 => ("MagnetRingModel", "looks", "I", false)
  | 20 => ("MagnetRingModel", "kind", "[I", true)
  | 21 => ("MagnetRingModel", "up", "[J", true)
  | 22 => ("MagnetRingModel", "down", "[J", true)
  | 23 => ("MagnetRingModel", "open", "I", false)
  | 24 => ("MagnetRingModel", "often", "[I", true)
  | 25 => ("MagnetRingModel", "since", "[I", true)
  | 26 => ("MagnetRingModel", "some", "[Z", true)
  | 27 => ("MagnetRingModel", "readUp", "J", false)
  | 28 => ("MagnetRingModel", "readDown", "J", false)
  | 29 => ("MagnetRingModel", "ring", "I", false)
  | 30 => ("MagnetRingModel", "ringKicks", "I", false)
  | 31 => ("MagnetRingModel", "ringLooks", "I", false)
  | 32 => ("MagnetRingModel", "ringKind", "[I", true)
  | 33 => ("MagnetRingModel", "ringUp", "[J", true)
  | 34 => ("MagnetRingModel", "ringDown", "[J", true)
  | 35 => ("MagnetRingModel", "kickUp", "[J", true)
  | 36 => ("MagnetRingModel", "kickDown", "[J", true)
  | 37 => ("MagnetRingModel", "atUp", "J", false)
  | 38 => ("MagnetRingModel", "atDown", "J", false)
  | 39 => ("MagnetRingModel", "isBig", "Z", false)
  | 40 => ("MagnetRingModel", "tu", "[J", true)
  | 41 => ("MagnetRingModel", "td", "[J", true)
  | 42 => ("MagnetRingModel", "told", "I", false)
  | 43 => ("MagnetRingModel", "number", "[J", true)
  | 44 => ("MagnetRingModel", "gridP", "I", false)
  | 45 => ("MagnetRingModel", "gridRows", "I", false)
  | 46 => ("MagnetRingModel", "gridLongest", "I", false)
  | 47 => ("MagnetRingModel", "gridLeast", "I", false)
  | 48 => ("MagnetRingModel", "worth", "[I", true)
  | _ => ("MagnetRingModel", "met", "[Z", true)
def tyX12 : Nat → FieldType := fun k => match k with
  | 0 => .array .int
  | 1 => .int
  | 2 => .int
  | 3 => .int
  | 4 => .int
  | 5 => .long
  | 6 => .int
  | 7 => .int
  | 8 => .int
  | 9 => .array .long
  | 10 => .array .int
  | 11 => .array .int
  | 12 => .int
  | 13 => .array .int
  | 14 => .array .long
  | 15 => .array .long
  | 16 => .boolean
  | 17 => .int
  | 18 => .int
  | 19 => .int
  | 20 => .array .int
  | 21 => .array .long
  | 22 => .array .long
  | 23 => .int
  | 24 => .array .int
  | 25 => .array .int
  | 26 => .array .boolean
  | 27 => .long
  | 28 => .long
  | 29 => .int
  | 30 => .int
  | 31 => .int
  | 32 => .array .int
  | 33 => .array .long
  | 34 => .array .long
  | 35 => .array .long
  | 36 => .array .long
  | 37 => .long
  | 38 => .long
  | 39 => .boolean
  | 40 => .array .long
  | 41 => .array .long
  | 42 => .int
  | 43 => .array .long
  | 44 => .int
  | 45 => .int
  | 46 => .int
  | 47 => .int
  | 48 => .array .int
  | _ => .array .boolean
abbrev wsX120 : List Cond := u_ws RX12 TX12 50
theorem nmX12 : ∀ a, a < 50 → ∀ b, b < 50 → a ≠ b → (TX12 a).2.1 ≠ (TX12 b).2.1 := by decide +kernel
theorem tyX12_ok : ∀ k, k < 50 → parseFieldDescriptor (TX12 k).2.2.1 = some (tyX12 k) := by decide +kernel
abbrev cX12_init : ByteArray := prog_14_method_1_code
def yX12_init : MethodName := ⟨RX12, "<init>", "()V"⟩
abbrev cX12_in : ByteArray := prog_14_method_2_code
def yX12_in : MethodName := ⟨RX12, "in", "(JJJ)Z"⟩
abbrev cX12_feed : ByteArray := prog_14_method_3_code
def yX12_feed : MethodName := ⟨RX12, "feed", "(IJ)I"⟩
abbrev cX12_isLetter : ByteArray := prog_14_method_4_code
def yX12_isLetter : MethodName := ⟨RX12, "isLetter", "(I)Z"⟩
abbrev cX12_isFigure : ByteArray := prog_14_method_5_code
def yX12_isFigure : MethodName := ⟨RX12, "isFigure", "(I)Z"⟩
abbrev cX12_next : ByteArray := prog_14_method_6_code
def yX12_next : MethodName := ⟨RX12, "next", "()V"⟩
abbrev cX12_isSign : ByteArray := prog_14_method_7_code
def yX12_isSign : MethodName := ⟨RX12, "isSign", "(I)Z"⟩
abbrev cX12_fails : ByteArray := prog_14_method_8_code
def yX12_fails : MethodName := ⟨RX12, "fails", "(I)Z"⟩
abbrev cX12_adds : ByteArray := prog_14_method_9_code
def yX12_adds : MethodName := ⟨RX12, "adds", "(IJJ)V"⟩
abbrev cX12_named : ByteArray := prog_14_method_10_code
def yX12_named : MethodName := ⟨RX12, "named", "(J)I"⟩
abbrev cX12_isOwn : ByteArray := prog_14_method_11_code
def yX12_isOwn : MethodName := ⟨RX12, "isOwn", "(J)Z"⟩
abbrev cX12_figure : ByteArray := prog_14_method_12_code
def yX12_figure : MethodName := ⟨RX12, "figure", "(Z)Z"⟩
abbrev cX12_item : ByteArray := prog_14_method_13_code
def yX12_item : MethodName := ⟨RX12, "item", "()Z"⟩
abbrev cX12_closes : ByteArray := prog_14_method_14_code
def yX12_closes : MethodName := ⟨RX12, "closes", "()Z"⟩
abbrev cX12_line : ByteArray := prog_14_method_15_code
def yX12_line : MethodName := ⟨RX12, "line", "()Z"⟩
abbrev cX12_read : ByteArray := prog_14_method_16_code
def yX12_read : MethodName := ⟨RX12, "read", "()I"⟩
abbrev cX12_place : ByteArray := prog_14_method_17_code
def yX12_place : MethodName := ⟨RX12, "place", "()I"⟩
abbrev cX12_isPart : ByteArray := prog_14_method_18_code
def yX12_isPart : MethodName := ⟨RX12, "isPart", "(I)Z"⟩
abbrev cX12_ahead : ByteArray := prog_14_method_19_code
def yX12_ahead : MethodName := ⟨RX12, "ahead", "(II)I"⟩
abbrev cX12_partOf : ByteArray := prog_14_method_20_code
def yX12_partOf : MethodName := ⟨RX12, "partOf", "(II)I"⟩
abbrev cX12_part : ByteArray := prog_14_method_21_code
def yX12_part : MethodName := ⟨RX12, "part", "(II)I"⟩
abbrev cX12_kick : ByteArray := prog_14_method_22_code
def yX12_kick : MethodName := ⟨RX12, "kick", "(III)I"⟩
abbrev cX12_common : ByteArray := prog_14_method_23_code
def yX12_common : MethodName := ⟨RX12, "common", "(JJ)J"⟩
abbrev cX12_holds : ByteArray := prog_14_method_24_code
def yX12_holds : MethodName := ⟨RX12, "holds", "(JJ)V"⟩
abbrev cX12_product : ByteArray := prog_14_method_25_code
def yX12_product : MethodName := ⟨RX12, "product", "(JJJJ)V"⟩
abbrev cX12_sum : ByteArray := prog_14_method_26_code
def yX12_sum : MethodName := ⟨RX12, "sum", "(JJJJ)V"⟩
abbrev cX12_divided : ByteArray := prog_14_method_27_code
def yX12_divided : MethodName := ⟨RX12, "divided", "(JJJJ)V"⟩
abbrev cX12_lays : ByteArray := prog_14_method_28_code
def yX12_lays : MethodName := ⟨RX12, "lays", "(IJJ)V"⟩
abbrev cX12_leads : ByteArray := prog_14_method_29_code
def yX12_leads : MethodName := ⟨RX12, "leads", "(IJJI)V"⟩
abbrev cX12_leadsTable : ByteArray := prog_14_method_30_code
def yX12_leadsTable : MethodName := ⟨RX12, "leadsTable", "(I)V"⟩
abbrev cX12_leadsMote : ByteArray := prog_14_method_31_code
def yX12_leadsMote : MethodName := ⟨RX12, "leadsMote", "(III)V"⟩
abbrev cX12_starts : ByteArray := prog_14_method_32_code
def yX12_starts : MethodName := ⟨RX12, "starts", "()V"⟩
abbrev cX12_goes : ByteArray := prog_14_method_33_code
def yX12_goes : MethodName := ⟨RX12, "goes", "(II)V"⟩
abbrev cX12_tells : ByteArray := prog_14_method_34_code
def yX12_tells : MethodName := ⟨RX12, "tells", "(IJJ)V"⟩
abbrev cX12_table : ByteArray := prog_14_method_35_code
def yX12_table : MethodName := ⟨RX12, "table", "(II)I"⟩
abbrev cX12_tables : ByteArray := prog_14_method_36_code
def yX12_tables : MethodName := ⟨RX12, "tables", "()I"⟩
abbrev cX12_kept : ByteArray := prog_14_method_37_code
def yX12_kept : MethodName := ⟨RX12, "kept", "()I"⟩
abbrev cX12_round : ByteArray := prog_14_method_38_code
def yX12_round : MethodName := ⟨RX12, "round", "(I)I"⟩
abbrev cX12_widths : ByteArray := prog_14_method_39_code
def yX12_widths : MethodName := ⟨RX12, "widths", "(I)I"⟩
abbrev cX12_turns : ByteArray := prog_14_method_40_code
def yX12_turns : MethodName := ⟨RX12, "turns", "()I"⟩
abbrev cX12_closed : ByteArray := prog_14_method_41_code
def yX12_closed : MethodName := ⟨RX12, "closed", "(II)I"⟩
abbrev cX12_way : ByteArray := prog_14_method_42_code
def yX12_way : MethodName := ⟨RX12, "way", "(I)I"⟩
abbrev cX12_answer : ByteArray := prog_14_method_43_code
def yX12_answer : MethodName := ⟨RX12, "answer", "(II)I"⟩
abbrev cX12_bump : ByteArray := prog_14_method_44_code
def yX12_bump : MethodName := ⟨RX12, "bump", "(III)I"⟩
abbrev cX12_number : ByteArray := prog_14_method_45_code
def yX12_number : MethodName := ⟨RX12, "number", "(II)I"⟩
abbrev cX12_isPrime : ByteArray := prog_14_method_46_code
def yX12_isPrime : MethodName := ⟨RX12, "isPrime", "(I)Z"⟩
abbrev cX12_by : ByteArray := prog_14_method_47_code
def yX12_by : MethodName := ⟨RX12, "by", "(JI)I"⟩
abbrev cX12_weighs : ByteArray := prog_14_method_48_code
def yX12_weighs : MethodName := ⟨RX12, "weighs", "(I)Z"⟩
abbrev cX12_rounds : ByteArray := prog_14_method_49_code
def yX12_rounds : MethodName := ⟨RX12, "rounds", "(II)I"⟩
abbrev cX12_grid : ByteArray := prog_14_method_50_code
def yX12_grid : MethodName := ⟨RX12, "grid", "(I)I"⟩
abbrev cX12_rows : ByteArray := prog_14_method_51_code
def yX12_rows : MethodName := ⟨RX12, "rows", "(I)I"⟩
abbrev cX12_after : ByteArray := prog_14_method_52_code
def yX12_after : MethodName := ⟨RX12, "after", "(IIII)I"⟩
abbrev cX12_count : ByteArray := prog_14_method_53_code
def yX12_count : MethodName := ⟨RX12, "count", "(I)I"⟩
def RJ13 : String := "java/lang/Long"
def TJ13 : u_T := fun k => match k with
  | _ => ("", "", "", false)
def tyJ13 : Nat → FieldType := fun k => match k with
  | _ => .int
abbrev wsJ130 : List Cond := u_ws RJ13 TJ13 0
theorem nmJ13 : ∀ a, a < 0 → ∀ b, b < 0 → a ≠ b → (TJ13 a).2.1 ≠ (TJ13 b).2.1 := by decide +kernel
theorem tyJ13_ok : ∀ k, k < 0 → parseFieldDescriptor (TJ13 k).2.2.1 = some (tyJ13 k) := by decide +kernel
abbrev cJ13_compare_74951 : ByteArray := prog_15_method_42_code
def yJ13_compare_74951 : MethodName := ⟨RJ13, "compare", "(JJ)I"⟩
def RJ9 : String := "java/lang/Math"
def TJ9 : u_T := fun k => match k with
  | _ => ("", "", "", false)
def tyJ9 : Nat → FieldType := fun k => match k with
  | _ => .int
abbrev wsJ90 : List Cond := u_ws RJ9 TJ9 0
theorem nmJ9 : ∀ a, a < 0 → ∀ b, b < 0 → a ≠ b → (TJ9 a).2.1 ≠ (TJ9 b).2.1 := by decide +kernel
theorem tyJ9_ok : ∀ k, k < 0 → parseFieldDescriptor (TJ9 k).2.2.1 = some (tyJ9 k) := by decide +kernel
abbrev cJ9_floorMod_7cf53 : ByteArray := prog_16_method_50_code
def yJ9_floorMod_7cf53 : MethodName := ⟨RJ9, "floorMod", "(II)I"⟩
abbrev cJ9_abs_067f4 : ByteArray := prog_16_method_61_code
def yJ9_abs_067f4 : MethodName := ⟨RJ9, "abs", "(J)J"⟩
abbrev cJ9_min_7cf53 : ByteArray := prog_16_method_69_code
def yJ9_min_7cf53 : MethodName := ⟨RJ9, "min", "(II)I"⟩
def RL : String := "MagnetRingLaw"
abbrev cL_law : ByteArray := code
def yL_law : MethodName := ⟨RL, "law", "([I)Z"⟩
theorem mem_ps {big ws : List Cond} (ps : List Nat) (h : ws = ps.filterMap (fun i => big[i]?)) : ∀ w ∈ ws, w ∈ big := by
  intro w hw
  rw [h] at hw
  obtain ⟨i, -, hi⟩ := List.mem_filterMap.mp hw
  exact List.mem_of_getElem? hi
theorem inX0 : ∀ w ∈ wsX00, w ∈ lw_tbl := mem_ps [200, 202] (by decide +kernel)
theorem inX1 : ∀ w ∈ wsX10, w ∈ lw_tbl := mem_ps [345, 347, 349, 351, 353, 355, 357, 359, 361] (by decide +kernel)
theorem inX2 : ∀ w ∈ wsX20, w ∈ lw_tbl := mem_ps [556, 558, 560] (by decide +kernel)
theorem inX3 : ∀ w ∈ wsX30, w ∈ lw_tbl := mem_ps [276, 278] (by decide +kernel)
theorem inX4 : ∀ w ∈ wsX40, w ∈ lw_tbl := mem_ps [299, 301, 303, 305, 307, 309, 311, 313, 315, 317, 319, 321, 323, 325] (by decide +kernel)
theorem inX5 : ∀ w ∈ wsX50, w ∈ lw_tbl := mem_ps [474, 476] (by decide +kernel)
theorem inX6 : ∀ w ∈ wsX60, w ∈ lw_tbl := mem_ps [156, 158, 160, 162, 164, 166, 168, 170, 172, 174, 176, 178] (by decide +kernel)
theorem inX7 : ∀ w ∈ wsX70, w ∈ lw_tbl := mem_ps [259, 261] (by decide +kernel)
theorem inX8 : ∀ w ∈ wsX80, w ∈ lw_tbl := mem_ps [225, 227, 229, 231, 233, 235, 237, 239] (by decide +kernel)
theorem inX9 : ∀ w ∈ wsX90, w ∈ lw_tbl := mem_ps [132, 134, 136, 138, 140] (by decide +kernel)
theorem inX10 : ∀ w ∈ wsX100, w ∈ lw_tbl := mem_ps [101, 103, 105, 107, 109, 111] (by decide +kernel)
theorem inX11 : ∀ w ∈ wsX110, w ∈ lw_tbl := mem_ps [370, 372, 374, 376, 378] (by decide +kernel)
theorem inX12 : ∀ w ∈ wsX120, w ∈ lw_tbl := mem_ps [921, 923, 925, 927, 929, 931, 933, 935, 937, 939, 941, 943, 945, 947, 949, 951, 953, 955, 957, 959, 961, 963, 965, 967, 969, 971, 973, 975, 977, 979, 981, 983, 985, 987, 989, 991, 993, 995, 997, 999, 1001, 1003, 1005, 1007, 1009, 1011, 1013, 1015, 1017, 1019] (by decide +kernel)
abbrev vwCl : List vw_C := [(RX0, TX0, 2), (RX1, TX1, 9), (RX2, TX2, 3), (RX3, TX3, 2), (RX4, TX4, 14), (RX5, TX5, 2), (RX6, TX6, 12), (RX7, TX7, 2), (RX8, TX8, 8), (RX9, TX9, 5), (RX10, TX10, 6), (RX11, TX11, 5), (RX12, TX12, 50)]
end
section
/-! ===== the abstract machine: typed heap by serial numbers, predicate transformer of the bytecode ===== -/
abbrev AV : Type := Unit ⊕ (Int32 ⊕ (Int64 ⊕ (Nat × Nat)))
abbrev aZ : AV := .inl ()
abbrev aI (x : Int32) : AV := .inr (.inl x)
abbrev aJ (x : Int64) : AV := .inr (.inr (.inl x))
abbrev aO (t j : Nat) : AV := .inr (.inr (.inr (t, j)))
/-- next serial, slots used, tags, lengths, ints, longs, references -/
abbrev St : Type := Nat × Nat × (Nat → Nat) × (Nat → Nat) × (Nat → Nat → Int32) × (Nat → Nat → Int64) × (Nat → Nat → Nat)
def sN (σ : St) : Nat := σ.1
def sS (σ : St) : Nat := σ.2.1
def gT (σ : St) (j : Nat) : Nat := σ.2.2.1 j
def gN (σ : St) (j : Nat) : Nat := σ.2.2.2.1 j
def gI (σ : St) (j k : Nat) : Int32 := σ.2.2.2.2.1 j k
def gL (σ : St) (j k : Nat) : Int64 := σ.2.2.2.2.2.1 j k
def gR (σ : St) (j k : Nat) : Nat := σ.2.2.2.2.2.2 j k
def up2 {α : Type} (f : Nat → Nat → α) (j k : Nat) (v : α) : Nat → Nat → α := fun a b => if a = j ∧ b = k then v else f a b
def pI (σ : St) (j k : Nat) (v : Int32) : St := (σ.1, σ.2.1, σ.2.2.1, σ.2.2.2.1, up2 σ.2.2.2.2.1 j k v, σ.2.2.2.2.2.1, σ.2.2.2.2.2.2)
def pL (σ : St) (j k : Nat) (v : Int64) : St := (σ.1, σ.2.1, σ.2.2.1, σ.2.2.2.1, σ.2.2.2.2.1, up2 σ.2.2.2.2.2.1 j k v, σ.2.2.2.2.2.2)
def pR (σ : St) (j k : Nat) (v : Nat) : St := (σ.1, σ.2.1, σ.2.2.1, σ.2.2.2.1, σ.2.2.2.2.1, σ.2.2.2.2.2.1, up2 σ.2.2.2.2.2.2 j k v)
/-- a new cell of tag t with n slots, all 0 -/
def nw (σ : St) (t n : Nat) : St := (σ.1 + 1, σ.2.1 + n, (fun a => if a = σ.1 then t else σ.2.2.1 a), (fun a => if a = σ.1 then n else σ.2.2.2.1 a), (fun a b => if a = σ.1 then 0 else σ.2.2.2.2.1 a b), (fun a b => if a = σ.1 then 0 else σ.2.2.2.2.2.1 a b), (fun a b => if a = σ.1 then 0 else σ.2.2.2.2.2.2 a b))
/-- instruction, next pc, four operands, constants, switch table, places of the words in lw_tbl -/
abbrev En : Type := Instr × Nat × (Nat × Nat × Nat × Nat) × Int32 × Int64 × List (Int32 × Nat) × List Nat
def lk : List (Nat × En) → Nat → Option En
  | [], _ => none
  | q :: r, pc => bif Nat.beq q.1 pc then some q.2 else lk r pc
theorem lk_mem : ∀ {l : List (Nat × En)} {pc : Nat} {e : En}, lk l pc = some e → (pc, e) ∈ l
  | [], _, _, h => by cases h
  | q :: r, pc, e, h => by
    unfold lk at h
    cases hb : Nat.beq q.1 pc with
    | true =>
      rw [hb] at h
      have h1 : q.1 = pc := Nat.eq_of_beq_eq_true hb
      have h2 : q.2 = e := Option.some.inj h
      exact List.mem_cons.mpr (Or.inl (by rw [← h1, ← h2]))
    | false =>
      rw [hb] at h
      exact List.mem_cons.mpr (Or.inr (lk_mem h))
def nthA : List AV → Nat → AV
  | [], _ => aZ
  | v :: _, 0 => v
  | _ :: r, n + 1 => nthA r n
def nthN : List Nat → Nat → Nat
  | [], _ => 0
  | v :: _, 0 => v
  | _ :: r, n + 1 => nthN r n
def nthL : List (List Nat) → Nat → List Nat
  | [], _ => []
  | v :: _, 0 => v
  | _ :: r, n + 1 => nthL r n
/-- the place ahead of a store loses a long -/
def unJ (v : AV) : AV := match v with
  | .inr (.inr (.inl _)) => aZ
  | v => v
def sto : List AV → Nat → AV → List AV
  | [], _, _ => []
  | _ :: r, 0, v => v :: r
  | x :: r, n + 1, v => (bif Nat.beq n 0 then unJ x else x) :: sto r n v
/-- a long takes two places -/
def sto2 (ls : List AV) (i : Nat) (v : AV) : List AV := (sto ls i v).set (i + 1) aZ
def nn (j : Nat) (X : Prop) : Prop := match j with
  | 0 => False
  | _ + 1 => X
theorem nn_of {j : Nat} {X : Prop} (h : j ≠ 0) (hx : X) : nn j X := by
  cases j with
  | zero => exact absurd rfl h
  | succ n => exact hx
theorem nn_to {j : Nat} {X : Prop} (h : nn j X) : j ≠ 0 ∧ X := by
  cases j with
  | zero => exact absurd h id
  | succ n => exact ⟨Nat.succ_ne_zero n, h⟩
theorem nn_mono {j : Nat} {X Y : Prop} (h : X → Y) (hx : nn j X) : nn j Y := nn_of (nn_to hx).1 (h (nn_to hx).2)
def inb (i : Int32) (n : Nat) : Prop := 0 ≤ i.toInt ∧ i.toInt < n
def ix (i : Int32) : Nat := i.toNatClampNeg
/-- a reference field as it is loaded: what the layout says first -/
def ldR (lay : Nat → Nat → Nat) (σ : St) (j k : Nat) : Nat := match lay j k with
  | 0 => gR σ j k
  | m + 1 => m + 1
def layC (lay : Nat → Nat → Nat) (j k v : Nat) : Prop := lay j k = 0 ∨ lay j k = v
abbrev S4 : Type := Nat × List AV × List AV × St
abbrev Act : Type := S4 ⊕ ((Nat × S4) ⊕ ((Nat × Prop × S4) ⊕ ((Prop × S4 × S4) ⊕ ((Int32 × List (Int32 × Nat) × Nat × List AV × List AV) ⊕ ((Nat × Nat × List AV × List AV) ⊕ (Option AV ⊕ (Prop × Option AV)))))))
abbrev a0 (s : S4) : Option Act := some (.inl s)
abbrev a1 (j : Nat) (s : S4) : Option Act := some (.inr (.inl (j, s)))
abbrev a2 (j : Nat) (ob : Prop) (s : S4) : Option Act := some (.inr (.inr (.inl (j, ob, s))))
abbrev a3 (c : Prop) (s t : S4) : Option Act := some (.inr (.inr (.inr (.inl (c, s, t)))))
abbrev a4 (x : Int32) (tb : List (Int32 × Nat)) (d : Nat) (ls st : List AV) : Option Act := some (.inr (.inr (.inr (.inr (.inl (x, tb, d, ls, st))))))
abbrev a5 (j mid : Nat) (args rest : List AV) : Option Act := some (.inr (.inr (.inr (.inr (.inr (.inl (j, mid, args, rest)))))))
abbrev a6 (v : Option AV) : Option Act := some (.inr (.inr (.inr (.inr (.inr (.inr (.inl v)))))))
abbrev a7 (ob : Prop) (v : Option AV) : Option Act := some (.inr (.inr (.inr (.inr (.inr (.inr (.inr (ob, v))))))))
def qI (st : List AV) (f : Int32 → List AV → Option Act) : Option Act := match st with
  | .inr (.inl x) :: r => f x r
  | _ => none
def qJ (st : List AV) (f : Int64 → List AV → Option Act) : Option Act := match st with
  | .inr (.inr (.inl x)) :: r => f x r
  | _ => none
def qO (t : Nat) (st : List AV) (f : Nat → List AV → Option Act) : Option Act := match st with
  | .inr (.inr (.inr (t', j))) :: r => bif Nat.beq t' t then f j r else none
  | _ => none
/-- a reference of any tag -/
def qR (st : List AV) (f : Nat → Nat → List AV → Option Act) : Option Act := match st with
  | .inr (.inr (.inr (t, j))) :: r => f t j r
  | _ => none
/-- nothing else on the stack -/
def endS (r : List AV) (A : Option Act) : Option Act := match r with
  | [] => A
  | _ :: _ => none
def cat (v : AV) : Nat := match v with
  | .inr (.inr (.inl _)) => 2
  | _ => 1
def catS : List AV → Nat
  | [] => 0
  | v :: r => cat v + catS r
/-- the first n of a stack, turned round; and the rest -/
def pops : Nat → List AV → List AV → (List AV → List AV → Option Act) → Option Act
  | 0, acc, st, f => f acc st
  | _ + 1, _, [], _ => none
  | n + 1, acc, v :: st, f => pops n (v :: acc) st f
def ftyL : List (List Nat) := [[3, 3], [0, 20, 21, 1, 0, 0, 0, 0, 0], [3, 24, 6], [4, 4], [11, 7, 7, 7, 7, 4, 4, 4, 4, 4, 4, 25, 25, 0], [0, 4], [14, 13, 20, 20, 0, 6, 0, 3, 0, 0, 0, 0], [1, 4], [24, 0, 25, 20, 20, 20, 0, 0], [24, 0, 0, 0, 1], [22, 0, 0, 0, 0, 3], [10, 12, 8, 5, 0], [20, 0, 0, 0, 0, 3, 0, 0, 0, 23, 20, 20, 0, 20, 23, 23, 1, 0, 0, 0, 20, 23, 23, 0, 20, 20, 21, 3, 3, 0, 0, 0, 20, 23, 23, 23, 23, 3, 3, 1, 23, 23, 0, 23, 0, 0, 0, 0, 20, 21]]
def fty (ci k : Nat) : Nat := nthN (nthL ftyL ci) k
def nF (ci : Nat) : Nat := (nthL ftyL ci).length
/-- what a slot of type ty holds -/
def ldV (lay : Nat → Nat → Nat) (σ : St) (ty j k : Nat) : AV := match ty with
  | 0 => aI (gI σ j k)
  | 1 => aI (gI σ j k)
  | 2 => aI (gI σ j k)
  | 3 => aJ (gL σ j k)
  | t + 4 => aO t (ldR lay σ j k)
def elT (t : Nat) : Nat := match t with
  | 20 => 5
  | 21 => 0
  | _ => 99
def two31 : Int := 2147483648
/-- the parameters' tags of a method: int-like 0, long 3, reference of tag t: t + 4 -/
def okA (ps : List Nat) (args : List AV) : Bool := match ps, args with
  | [], [] => true
  | p :: ps, v :: vs => (match p, v with
    | 0, .inr (.inl _) => true
    | 3, .inr (.inr (.inl _)) => true
    | t + 4, .inr (.inr (.inr (t', _))) => Nat.beq t t'
    | _, _ => false) && okA ps vs
  | _, _ => false
def act (lay : Nat → Nat → Nat) (rt : Nat) (e : En) (ls st : List AV) (σ : St) : Option Act :=
  let nx := e.2.1
  let a := e.2.2.1.1
  let b := e.2.2.1.2.1
  let cc := e.2.2.1.2.2.1
  let dd := e.2.2.1.2.2.2
  let w := e.2.2.2.1
  let z := e.2.2.2.2.1
  match e.1 with
  | .iconst _ => a0 (nx, ls, aI w :: st, σ)
  | .bipush _ => a0 (nx, ls, aI w :: st, σ)
  | .sipush _ => a0 (nx, ls, aI w :: st, σ)
  | .lconst _ => a0 (nx, ls, aJ z :: st, σ)
  | .ldc2_w _ => a0 (nx, ls, aJ z :: st, σ)
  | .aconst_null => a0 (nx, ls, aO a 0 :: st, σ)
  | .iload_n _ => qI [nthA ls a] fun x _ => a0 (nx, ls, aI x :: st, σ)
  | .iload _ => qI [nthA ls a] fun x _ => a0 (nx, ls, aI x :: st, σ)
  | .lload_n _ => qJ [nthA ls a] fun x _ => a0 (nx, ls, aJ x :: st, σ)
  | .lload _ => qJ [nthA ls a] fun x _ => a0 (nx, ls, aJ x :: st, σ)
  | .aload_n _ => qR [nthA ls a] fun t j _ => a0 (nx, ls, aO t j :: st, σ)
  | .aload _ => qR [nthA ls a] fun t j _ => a0 (nx, ls, aO t j :: st, σ)
  | .istore_n _ => qI st fun x st => a0 (nx, sto ls a (aI x), st, σ)
  | .istore _ => qI st fun x st => a0 (nx, sto ls a (aI x), st, σ)
  | .lstore_n _ => qJ st fun x st => a0 (nx, sto2 ls a (aJ x), st, σ)
  | .lstore _ => qJ st fun x st => a0 (nx, sto2 ls a (aJ x), st, σ)
  | .astore_n _ => qR st fun t j st => a0 (nx, sto ls a (aO t j), st, σ)
  | .astore _ => qR st fun t j st => a0 (nx, sto ls a (aO t j), st, σ)
  | .iinc _ _ => qI [nthA ls a] fun x _ => a0 (nx, sto ls a (aI (x + w)), st, σ)
  | .iadd => qI st fun y st => qI st fun x st => a0 (nx, ls, aI (x + y) :: st, σ)
  | .isub => qI st fun y st => qI st fun x st => a0 (nx, ls, aI (x - y) :: st, σ)
  | .imul => qI st fun y st => qI st fun x st => a0 (nx, ls, aI (x * y) :: st, σ)
  | .iand => qI st fun y st => qI st fun x st => a0 (nx, ls, aI (x &&& y) :: st, σ)
  | .ixor => qI st fun y st => qI st fun x st => a0 (nx, ls, aI (x ^^^ y) :: st, σ)
  | .idiv => qI st fun y st => qI st fun x st => a2 1 (¬ y = 0) (nx, ls, aI (x / y) :: st, σ)
  | .irem => qI st fun y st => qI st fun x st => a2 1 (¬ y = 0) (nx, ls, aI (x - x / y * y) :: st, σ)
  | .ladd => qJ st fun y st => qJ st fun x st => a0 (nx, ls, aJ (x + y) :: st, σ)
  | .lsub => qJ st fun y st => qJ st fun x st => a0 (nx, ls, aJ (x - y) :: st, σ)
  | .lmul => qJ st fun y st => qJ st fun x st => a0 (nx, ls, aJ (x * y) :: st, σ)
  | .land => qJ st fun y st => qJ st fun x st => a0 (nx, ls, aJ (x &&& y) :: st, σ)
  | .lor => qJ st fun y st => qJ st fun x st => a0 (nx, ls, aJ (x ||| y) :: st, σ)
  | .ldiv => qJ st fun y st => qJ st fun x st => a2 1 (¬ y = 0) (nx, ls, aJ (x / y) :: st, σ)
  | .lrem => qJ st fun y st => qJ st fun x st => a2 1 (¬ y = 0) (nx, ls, aJ (x - x / y * y) :: st, σ)
  | .lneg => qJ st fun x st => a0 (nx, ls, aJ (-x) :: st, σ)
  | .lshl => qI st fun y st => qJ st fun x st => a0 (nx, ls, aJ (x <<< (y.toInt64 &&& 63)) :: st, σ)
  | .lshr => qI st fun y st => qJ st fun x st => a0 (nx, ls, aJ (x >>> (y.toInt64 &&& 63)) :: st, σ)
  | .lushr => qI st fun y st => qJ st fun x st => a0 (nx, ls, aJ ((x.toUInt64 >>> (y.toInt64.toUInt64 &&& Int64.toUInt64 63)).toInt64) :: st, σ)
  | .i2l => qI st fun x st => a0 (nx, ls, aJ x.toInt64 :: st, σ)
  | .l2i => qJ st fun x st => a0 (nx, ls, aI x.toInt32 :: st, σ)
  | .i2b => qI st fun x st => a0 (nx, ls, aI x.toInt8.toInt32 :: st, σ)
  | .lcmp => qJ st fun y st => qJ st fun x st => a0 (nx, ls, aI (lg_cmp x y) :: st, σ)
  | .dup => (match st with
    | v :: r => bif Nat.beq (cat v) 1 then a0 (nx, ls, v :: v :: r, σ) else none
    | _ => none)
  | .pop => (match st with
    | v :: r => bif Nat.beq (cat v) 1 then a0 (nx, ls, r, σ) else none
    | _ => none)
  | .goto _ => a0 (a, ls, st, σ)
  | .ifCond .eq _ => qI st fun x st => a3 (x = 0) (a, ls, st, σ) (nx, ls, st, σ)
  | .ifCond .ne _ => qI st fun x st => a3 (x = 0) (nx, ls, st, σ) (a, ls, st, σ)
  | .ifCond .lt _ => qI st fun x st => a3 (x < 0) (a, ls, st, σ) (nx, ls, st, σ)
  | .ifCond .ge _ => qI st fun x st => a3 (0 ≤ x) (a, ls, st, σ) (nx, ls, st, σ)
  | .ifCond .gt _ => qI st fun x st => a3 (0 < x) (a, ls, st, σ) (nx, ls, st, σ)
  | .ifCond .le _ => qI st fun x st => a3 (x ≤ 0) (a, ls, st, σ) (nx, ls, st, σ)
  | .if_icmp .eq _ => qI st fun y st => qI st fun x st => a3 (x = y) (a, ls, st, σ) (nx, ls, st, σ)
  | .if_icmp .ne _ => qI st fun y st => qI st fun x st => a3 (x = y) (nx, ls, st, σ) (a, ls, st, σ)
  | .if_icmp .lt _ => qI st fun y st => qI st fun x st => a3 (x < y) (a, ls, st, σ) (nx, ls, st, σ)
  | .if_icmp .ge _ => qI st fun y st => qI st fun x st => a3 (y ≤ x) (a, ls, st, σ) (nx, ls, st, σ)
  | .if_icmp .gt _ => qI st fun y st => qI st fun x st => a3 (y < x) (a, ls, st, σ) (nx, ls, st, σ)
  | .if_icmp .le _ => qI st fun y st => qI st fun x st => a3 (x ≤ y) (a, ls, st, σ) (nx, ls, st, σ)
  | .ifnull _ => qR st fun _ j st => a3 (j = 0) (a, ls, st, σ) (nx, ls, st, σ)
  | .ifnonnull _ => qR st fun _ j st => a3 (j = 0) (nx, ls, st, σ) (a, ls, st, σ)
  | .tableswitch _ _ _ _ => qI st fun x st => a4 x e.2.2.2.2.2.1 a ls st
  | .getfield _ => qO a st fun j st => a1 j (nx, ls, ldV lay σ (fty a b) j b :: st, σ)
  | .putfield _ => (match fty a b with
    | 0 => qI st fun x st => qO a st fun j st => a1 j (nx, ls, st, pI σ j b x)
    | 1 => qI st fun x st => qO a st fun j st => a2 j (x = 0 ∨ x = 1) (nx, ls, st, pI σ j b x)
    | 2 => none
    | 3 => qJ st fun x st => qO a st fun j st => a1 j (nx, ls, st, pL σ j b x)
    | t + 4 => qO t st fun v st => qO a st fun j st => a2 j (layC lay j b v) (nx, ls, st, pR σ j b v))
  | .getstatic _ => a0 (nx, ls, aO 22 2 :: st, σ)
  | .iaload => qI st fun i st => qR st fun t j st => (match t with
    | 16 => a2 j (inb i (gN σ j)) (nx, ls, aI (gI σ j (ix i)) :: st, σ)
    | 22 => a2 j (inb i (gN σ j)) (nx, ls, aI (gI σ j (ix i)) :: st, σ)
    | _ => none)
  | .laload => qI st fun i st => qO 19 st fun j st => a2 j (inb i (gN σ j)) (nx, ls, aJ (gL σ j (ix i)) :: st, σ)
  | .baload => qI st fun i st => qR st fun t j st => (match t with
    | 17 => a2 j (inb i (gN σ j)) (nx, ls, aI (gI σ j (ix i)) :: st, σ)
    | 18 => a2 j (inb i (gN σ j)) (nx, ls, aI (gI σ j (ix i)) :: st, σ)
    | _ => none)
  | .aaload => qI st fun i st => qR st fun t j st => (match t with
    | 20 => a2 j (inb i (gN σ j)) (nx, ls, aO 5 (gR σ j (ix i)) :: st, σ)
    | 21 => a2 j (inb i (gN σ j)) (nx, ls, aO 0 (gR σ j (ix i)) :: st, σ)
    | _ => none)
  | .iastore => qI st fun x st => qI st fun i st => qO 16 st fun j st => a2 j (inb i (gN σ j)) (nx, ls, st, pI σ j (ix i) x)
  | .lastore => qJ st fun x st => qI st fun i st => qO 19 st fun j st => a2 j (inb i (gN σ j)) (nx, ls, st, pL σ j (ix i) x)
  | .bastore => qI st fun x st => qI st fun i st => qR st fun t j st => (match t with
    | 17 => a2 j (inb i (gN σ j)) (nx, ls, st, pI σ j (ix i) (vp_nar .boolean x))
    | 18 => a2 j (inb i (gN σ j)) (nx, ls, st, pI σ j (ix i) (vp_nar .byte x))
    | _ => none)
  | .aastore => qR st fun tv v st => qI st fun i st => qR st fun t j st => bif Nat.ble 20 t && Nat.ble t 21 && Nat.beq (elT t) tv then a2 j (inb i (gN σ j) ∧ layC lay j (ix i) v) (nx, ls, st, pR σ j (ix i) v) else none
  | .arraylength => qR st fun t j st => bif Nat.ble 16 t then a1 j (nx, ls, aI (Int32.ofNat (gN σ j)) :: st, σ) else none
  | .newarray _ => qI st fun n st => a2 1 (0 ≤ n.toInt ∧ n.toInt ≤ 40000) (nx, ls, aO a (sN σ) :: st, nw σ a (ix n))
  | .anewarray _ => qI st fun n st => a2 1 (0 ≤ n.toInt ∧ n.toInt ≤ 40000) (nx, ls, aO a (sN σ) :: st, nw σ a (ix n))
  | .new _ => a0 (nx, ls, aO a (sN σ) :: st, nw σ a (nF a))
  | .invokevirtual _ => pops b [] st fun args st => (match args with
    | .inr (.inr (.inr (t, j))) :: _ => bif Nat.beq t dd && Nat.ble (catS st) 8 then a5 j a args st else none
    | _ => none)
  | .invokestatic _ => pops b [] st fun args st => bif Nat.ble (catS st) 8 then a5 1 a args st else none
  | .invokespecial _ => (match cc with
    | 6 => qR st fun _ j st => bif Nat.ble (catS st) 8 then a1 j (nx, ls, st, σ) else none
    | _ => pops b [] st fun args st => (match args with
      | .inr (.inr (.inr (t, j))) :: _ => bif Nat.beq t dd && Nat.ble (catS st) 8 then a5 j a args st else none
      | _ => none))
  | .ireturn => qI st fun x r => endS r (match rt with
    | 1 => a6 (some (aI x))
    | 2 => a7 (x = 0 ∨ x = 1) (some (aI x))
    | _ => none)
  | .lreturn => qJ st fun x r => endS r (match rt with
    | 3 => a6 (some (aJ x))
    | _ => none)
  | .areturn => qR st fun t j r => endS r (match rt with
    | 0 => none
    | 1 => none
    | 2 => none
    | 3 => none
    | t' + 4 => bif Nat.beq t' t then a6 (some (aO t j)) else none)
  | .return_ => endS st (match rt with
    | 0 => a6 none
    | _ => none)
  | _ => none
def rV (K : St → Prop) (v : Option AV) (σ : St) : Prop := match v with
  | none => K σ
  | _ => False
def rI (K : Int32 → St → Prop) (v : Option AV) (σ : St) : Prop := match v with
  | some (.inr (.inl r)) => K r σ
  | _ => False
def rJ (K : Int64 → St → Prop) (v : Option AV) (σ : St) : Prop := match v with
  | some (.inr (.inr (.inl r))) => K r σ
  | _ => False
def rO (t : Nat) (K : Nat → St → Prop) (v : Option AV) (σ : St) : Prop := match v with
  | some (.inr (.inr (.inr (t', j)))) => t' = t ∧ K j σ
  | _ => False
def ctn (rt nx : Nat) (ls rest : List AV) (K : S4 → Prop) : Option AV → St → Prop := match rt with
  | 0 => rV fun σ => K (nx, ls, rest, σ)
  | 1 => rI fun r σ => K (nx, ls, aI r :: rest, σ)
  | 2 => rI fun r σ => K (nx, ls, aI r :: rest, σ)
  | 3 => rJ fun r σ => K (nx, ls, aJ r :: rest, σ)
  | t + 4 => rO t fun j σ => K (nx, ls, aO t j :: rest, σ)
def swt (K : Nat → Prop) (x : Int32) (d : Nat) : List (Int32 × Nat) → Prop
  | [] => K d
  | q :: r => (x = q.1 → K q.2) ∧ (¬ x = q.1 → swt K x d r)
abbrev CLT : Type := Nat → List AV → St → (Option AV → St → Prop) → Prop
def stepP (rtm : Nat → Nat) (cl : CLT) (Q : Option AV → St → Prop) (K : S4 → Prop) (nx : Nat) (ls : List AV) (σ : St) (A : Act) : Prop := match A with
  | .inl s => K s
  | .inr (.inl (j, s)) => nn j (K s)
  | .inr (.inr (.inl (j, ob, s))) => nn j (ob ∧ K s)
  | .inr (.inr (.inr (.inl (c, s, t)))) => (c → K s) ∧ (¬ c → K t)
  | .inr (.inr (.inr (.inr (.inl (x, tb, d, ls, st))))) => swt (fun pc => K (pc, ls, st, σ)) x d tb
  | .inr (.inr (.inr (.inr (.inr (.inl (j, mid, args, rest)))))) => nn j (cl mid args σ (ctn (rtm mid) nx ls rest K))
  | .inr (.inr (.inr (.inr (.inr (.inr (.inl v)))))) => Q v σ
  | .inr (.inr (.inr (.inr (.inr (.inr (.inr (ob, v))))))) => ob ∧ Q v σ
def stepS (lay : Nat → Nat → Nat) (rtm : Nat → Nat) (cl : CLT) (cd : List (Nat × En)) (rt : Nat) (Q : Option AV → St → Prop) (K : S4 → Prop) (s : S4) : Prop := match lk cd s.1 with
  | none => False
  | some e => match act lay rt e s.2.1 s.2.2.1 s.2.2.2 with
    | none => False
    | some A => stepP rtm cl Q K e.2.1 s.2.1 s.2.2.2 A
/-- the least predicate that is closed: the machine from s comes to a return with Q -/
def Wp (lay : Nat → Nat → Nat) (rtm : Nat → Nat) (cl : CLT) (cd : List (Nat × En)) (rt : Nat) (Q : Option AV → St → Prop) (s : S4) : Prop :=
  ∀ P : S4 → Prop, (∀ s, stepS lay rtm cl cd rt Q P s → P s) → P s
def mem (a : Nat) : List Nat → Bool
  | [] => false
  | b :: r => bif Nat.beq a b then true else mem a r
def run (lay : Nat → Nat → Nat) (rtm : Nat → Nat) (cl : CLT) (cd : List (Nat × En)) (rt : Nat) (Q : Option AV → St → Prop) (stops : List Nat) (P : S4 → Prop) : Nat → S4 → Prop
  | 0, s => P s
  | k + 1, s => stepS lay rtm cl cd rt Q (fun s' => bif mem s'.1 stops then P s' else run lay rtm cl cd rt Q stops P k s') s
def Mono (cl : CLT) : Prop := ∀ (mid : Nat) (args : List AV) (σ : St) (Q Q' : Option AV → St → Prop), (∀ v τ, Q v τ → Q' v τ) → cl mid args σ Q → cl mid args σ Q'
theorem swt_mono {K K' : Nat → Prop} (h : ∀ p, K p → K' p) {x : Int32} {d : Nat} : ∀ {tb : List (Int32 × Nat)}, swt K x d tb → swt K' x d tb
  | [], hk => h _ hk
  | _ :: _, hk => ⟨fun e => h _ (hk.1 e), fun e => swt_mono h (hk.2 e)⟩
theorem ctn_mono {rt nx : Nat} {ls rest : List AV} {K K' : S4 → Prop} (h : ∀ s, K s → K' s) (v : Option AV) (τ : St) (hk : ctn rt nx ls rest K v τ) : ctn rt nx ls rest K' v τ := by
  match rt, hk with
  | 0, hk => match v, hk with
    | none, hk => exact h _ hk
  | 1, hk => match v, hk with
    | some (.inr (.inl r)), hk => exact h _ hk
  | 2, hk => match v, hk with
    | some (.inr (.inl r)), hk => exact h _ hk
  | 3, hk => match v, hk with
    | some (.inr (.inr (.inl r))), hk => exact h _ hk
  | t + 4, hk => match v, hk with
    | some (.inr (.inr (.inr (t', j)))), hk => exact ⟨hk.1, h _ hk.2⟩
theorem stepP_mono {rtm : Nat → Nat} {cl : CLT} (hm : Mono cl) {Q Q' : Option AV → St → Prop} {K K' : S4 → Prop} (hQ : ∀ v τ, Q v τ → Q' v τ) (h : ∀ s, K s → K' s) {nx : Nat} {ls : List AV} {σ : St} {A : Act} (hk : stepP rtm cl Q K nx ls σ A) : stepP rtm cl Q' K' nx ls σ A := by
  match A, hk with
  | .inl s, hk => exact h _ hk
  | .inr (.inl (j, s)), hk => exact nn_mono (h _) hk
  | .inr (.inr (.inl (j, ob, s))), hk => exact nn_mono (fun q => ⟨q.1, h _ q.2⟩) hk
  | .inr (.inr (.inr (.inl (c, s, t)))), hk => exact ⟨fun q => h _ (hk.1 q), fun q => h _ (hk.2 q)⟩
  | .inr (.inr (.inr (.inr (.inl (x, tb, d, ls, st))))), hk => exact swt_mono (fun p => h _) hk
  | .inr (.inr (.inr (.inr (.inr (.inl (j, mid, args, rest)))))), hk => exact nn_mono (hm _ _ _ _ _ (fun v τ => ctn_mono h v τ)) hk
  | .inr (.inr (.inr (.inr (.inr (.inr (.inl v)))))), hk => exact hQ _ _ hk
  | .inr (.inr (.inr (.inr (.inr (.inr (.inr (ob, v))))))), hk => exact ⟨hk.1, hQ _ _ hk.2⟩
theorem stepS_mono {lay : Nat → Nat → Nat} {rtm : Nat → Nat} {cl : CLT} (hm : Mono cl) {cd : List (Nat × En)} {rt : Nat} {Q Q' : Option AV → St → Prop} {K K' : S4 → Prop} (hQ : ∀ v τ, Q v τ → Q' v τ) (h : ∀ s, K s → K' s) {s : S4} (hk : stepS lay rtm cl cd rt Q K s) : stepS lay rtm cl cd rt Q' K' s := by
  unfold stepS at hk ⊢
  cases h1 : lk cd s.1 with
  | none => rw [h1] at hk; exact hk
  | some e =>
    rw [h1] at hk
    dsimp only at hk ⊢
    cases h2 : act lay rt e s.2.1 s.2.2.1 s.2.2.2 with
    | none => rw [h2] at hk; exact hk
    | some A => rw [h2] at hk; exact stepP_mono hm hQ h hk
theorem Wp.fold {lay : Nat → Nat → Nat} {rtm : Nat → Nat} {cl : CLT} (hm : Mono cl) {cd : List (Nat × En)} {rt : Nat} {Q : Option AV → St → Prop} {s : S4} (h : stepS lay rtm cl cd rt Q (Wp lay rtm cl cd rt Q) s) : Wp lay rtm cl cd rt Q s := by
  intro P hP
  exact hP s (stepS_mono hm (fun _ _ q => q) (fun s' h' => h' P hP) h)
theorem Wp.mono {lay : Nat → Nat → Nat} {rtm : Nat → Nat} {cl : CLT} (hm : Mono cl) {cd : List (Nat × En)} {rt : Nat} {Q Q' : Option AV → St → Prop} (hQ : ∀ v τ, Q v τ → Q' v τ) {s : S4} (h : Wp lay rtm cl cd rt Q s) : Wp lay rtm cl cd rt Q' s := by
  intro P hP
  exact h P (fun s' h' => hP s' (stepS_mono hm hQ (fun _ q => q) h'))
theorem run_to {lay : Nat → Nat → Nat} {rtm : Nat → Nat} {cl : CLT} (hm : Mono cl) {cd : List (Nat × En)} {rt : Nat} {Q : Option AV → St → Prop} {stops : List Nat} {P : S4 → Prop} (hP : ∀ s, stepS lay rtm cl cd rt Q P s → P s) : ∀ (k : Nat) (s : S4), run lay rtm cl cd rt Q stops P k s → P s
  | 0, _, h => h
  | k + 1, s, h => hP s (stepS_mono hm (fun _ _ q => q) (fun s' h' => by
      cases hb : mem s'.1 stops with
      | true => rw [hb] at h'; exact h'
      | false => rw [hb] at h'; exact run_to hm hP k s' h') h)
theorem run_intro {lay : Nat → Nat → Nat} {rtm : Nat → Nat} {cl : CLT} (hm : Mono cl) {cd : List (Nat × En)} {rt : Nat} {Q : Option AV → St → Prop} (stops : List Nat) (k : Nat) {s : S4} (h : run lay rtm cl cd rt Q stops (Wp lay rtm cl cd rt Q) k s) : Wp lay rtm cl cd rt Q s := run_to hm (fun _ q => Wp.fold hm q) k s h
/-- the locals with which a method begins -/
def ent0 : Nat → List AV → List AV
  | n, [] => List.replicate n aZ
  | n, v :: vs => bif Nat.beq (cat v) 2 then v :: aZ :: ent0 (n - 2) vs else v :: ent0 (n - 1) vs
end
section
abbrev e0 (i : Instr) (nx : Nat) : En := (i, nx, (0, 0, 0, 0), 0, 0, [], [])
abbrev eA (i : Instr) (nx a b c d : Nat) (ps : List Nat) : En := (i, nx, (a, b, c, d), 0, 0, [], ps)
abbrev eC (i : Instr) (nx : Nat) (w : Int32) : En := (i, nx, (0, 0, 0, 0), w, 0, [], [])
abbrev eZ (i : Instr) (nx : Nat) (z : Int64) (ps : List Nat) : En := (i, nx, (0, 0, 0, 0), 0, z, [], ps)
abbrev eI (i : Instr) (nx a : Nat) (w : Int32) : En := (i, nx, (a, 0, 0, 0), w, 0, [], [])
abbrev eS (i : Instr) (nx a : Nat) (tb : List (Int32 × Nat)) : En := (i, nx, (a, 0, 0, 0), 0, 0, tb, [])
abbrev M_Fr_init : Nat := 0
abbrev M_Fr_put : Nat := 1
abbrev M_Fr_copy : Nat := 2
abbrev M_Fr_negate : Nat := 3
abbrev M_Fr_isZero : Nat := 4
abbrev M_Fr_compareToWhole : Nat := 5
abbrev M_Fr_side : Nat := 6
abbrev M_La_init : Nat := 7
abbrev M_La_forget : Nat := 8
abbrev M_La_prepare : Nat := 9
abbrev M_La_inverse : Nat := 10
abbrev M_La_next : Nat := 11
abbrev M_La_followAll : Nat := 12
abbrev M_La_follow : Nat := 13
abbrev M_La_noteCycle : Nat := 14
abbrev M_La_fact : Nat := 15
abbrev M_Li_init : Nat := 16
abbrev M_Mo_init : Nat := 17
abbrev M_Mo_put : Nat := 18
abbrev M_Op_init : Nat := 19
abbrev M_Op_isBig : Nat := 20
abbrev M_Op_onlyKick : Nat := 21
abbrev M_Op_lead : Nat := 22
abbrev M_Op_giveKick : Nat := 23
abbrev M_Op_beginTable : Nat := 24
abbrev M_Op_reckonTable : Nat := 25
abbrev M_Op_stability : Nat := 26
abbrev M_Op_roundsUntilBack : Nat := 27
abbrev M_Op_reckonMiddleWidth : Nat := 28
abbrev M_Op_closeWay : Nat := 29
abbrev M_Op_solveClosed : Nat := 30
abbrev M_Op_closeBump : Nat := 31
abbrev M_Op_hasTold : Nat := 32
abbrev M_Op_tell : Nat := 33
abbrev M_Op_tellTable : Nat := 34
abbrev M_Op_tellWidths : Nat := 35
abbrev M_Op_tellWay : Nat := 36
abbrev M_Op_tellWayX : Nat := 37
abbrev M_Op_tellBump : Nat := 38
abbrev M_Pa_init : Nat := 39
abbrev M_Re_init : Nat := 40
abbrev M_Re_findFault : Nat := 41
abbrev M_Re_faultPlace : Nat := 42
abbrev M_Re_lastLine : Nat := 43
abbrev M_Re_take : Nat := 44
abbrev M_Re_takeAlone : Nat := 45
abbrev M_Re_takeLineName : Nat := 46
abbrev M_Re_lineOf : Nat := 47
abbrev M_Re_takeItem : Nat := 48
abbrev M_Re_takeTimes : Nat := 49
abbrev M_Re_takeToldName : Nat := 50
abbrev M_Re_beginPart : Nat := 51
abbrev M_Re_endPart : Nat := 52
abbrev M_Re_takeMinusOrNumber : Nat := 53
abbrev M_Re_takeAbove : Nat := 54
abbrev M_Re_takeBelow : Nat := 55
abbrev M_Re_takeOpen : Nat := 56
abbrev M_Re_closes : Nat := 57
abbrev M_Re_takeClose : Nat := 58
abbrev M_Rk_init : Nat := 59
abbrev M_Rk_begin : Nat := 60
abbrev M_Rk_plus : Nat := 61
abbrev M_Rk_minus : Nat := 62
abbrev M_Rk_times : Nat := 63
abbrev M_Rk_over : Nat := 64
abbrev M_Rk_plusProduct : Nat := 65
abbrev M_Rk_minusProduct : Nat := 66
abbrev M_Rk_settle : Nat := 67
abbrev M_Ri_init : Nat := 68
abbrev M_Ri_hasPart : Nat := 69
abbrev M_Ri_hasKick : Nat := 70
abbrev M_Ri_hasLook : Nat := 71
abbrev M_Ri_strengthAt : Nat := 72
abbrev M_Ri_become : Nat := 73
abbrev M_Ro_init : Nat := 74
abbrev M_Ro_clear : Nat := 75
abbrev M_Ro_add : Nat := 76
abbrev M_Ro_addLine : Nat := 77
abbrev M_Ro_repeat : Nat := 78
abbrev M_Te_init : Nat := 79
abbrev M_Te_append : Nat := 80
abbrev M_Te_empty : Nat := 81
abbrev M_Te_rewind : Nat := 82
abbrev M_Te_advance : Nat := 83
abbrev M_Te_signAt : Nat := 84
abbrev M_Te_skipBlanks : Nat := 85
abbrev M_Te_takeName : Nat := 86
abbrev M_Te_takeNumber : Nat := 87
abbrev M_Te_isName : Nat := 88
abbrev M_Te_isKindLetter : Nat := 89
abbrev M_Te_letterWorth : Nat := 90
abbrev M_Te_isBlank : Nat := 91
abbrev M_Te_isLetter : Nat := 92
abbrev M_Te_isFigure : Nat := 93
abbrev M_Te_standsAlone : Nat := 94
abbrev M_C_init : Nat := 95
abbrev M_C_feed : Nat := 96
abbrev M_C_read : Nat := 97
abbrev M_C_place : Nat := 98
abbrev M_C_part : Nat := 99
abbrev M_C_kick : Nat := 100
abbrev M_C_table : Nat := 101
abbrev M_C_round : Nat := 102
abbrev M_C_widths : Nat := 103
abbrev M_C_turns : Nat := 104
abbrev M_C_way : Nat := 105
abbrev M_C_answer : Nat := 106
abbrev M_C_bump : Nat := 107
abbrev M_C_number : Nat := 108
abbrev M_C_grid : Nat := 109
abbrev M_C_rows : Nat := 110
abbrev M_C_after : Nat := 111
abbrev M_C_count : Nat := 112
abbrev M_C_isPrime : Nat := 113
abbrev M_C_commonDivisor : Nat := 114
abbrev M_R_init : Nat := 115
abbrev M_R_in : Nat := 116
abbrev M_R_feed : Nat := 117
abbrev M_R_isLetter : Nat := 118
abbrev M_R_isFigure : Nat := 119
abbrev M_R_next : Nat := 120
abbrev M_R_isSign : Nat := 121
abbrev M_R_fails : Nat := 122
abbrev M_R_adds : Nat := 123
abbrev M_R_named : Nat := 124
abbrev M_R_isOwn : Nat := 125
abbrev M_R_figure : Nat := 126
abbrev M_R_item : Nat := 127
abbrev M_R_closes : Nat := 128
abbrev M_R_line : Nat := 129
abbrev M_R_read : Nat := 130
abbrev M_R_place : Nat := 131
abbrev M_R_isPart : Nat := 132
abbrev M_R_ahead : Nat := 133
abbrev M_R_partOf : Nat := 134
abbrev M_R_part : Nat := 135
abbrev M_R_kick : Nat := 136
abbrev M_R_common : Nat := 137
abbrev M_R_holds : Nat := 138
abbrev M_R_product : Nat := 139
abbrev M_R_sum : Nat := 140
abbrev M_R_divided : Nat := 141
abbrev M_R_lays : Nat := 142
abbrev M_R_leads : Nat := 143
abbrev M_R_leadsTable : Nat := 144
abbrev M_R_leadsMote : Nat := 145
abbrev M_R_starts : Nat := 146
abbrev M_R_goes : Nat := 147
abbrev M_R_tells : Nat := 148
abbrev M_R_table : Nat := 149
abbrev M_R_tables : Nat := 150
abbrev M_R_kept : Nat := 151
abbrev M_R_round : Nat := 152
abbrev M_R_widths : Nat := 153
abbrev M_R_turns : Nat := 154
abbrev M_R_closed : Nat := 155
abbrev M_R_way : Nat := 156
abbrev M_R_answer : Nat := 157
abbrev M_R_bump : Nat := 158
abbrev M_R_number : Nat := 159
abbrev M_R_isPrime : Nat := 160
abbrev M_R_by : Nat := 161
abbrev M_R_weighs : Nat := 162
abbrev M_R_rounds : Nat := 163
abbrev M_R_grid : Nat := 164
abbrev M_R_rows : Nat := 165
abbrev M_R_after : Nat := 166
abbrev M_R_count : Nat := 167
abbrev M_Jl_compare : Nat := 168
abbrev M_Jm_floorMod : Nat := 169
abbrev M_Jm_abs : Nat := 170
abbrev M_Jm_min : Nat := 171
abbrev M_Law_law : Nat := 172
def k_Fr_init : List (Nat × En) := [(0, eA (.aload_n 0) 1 0 0 0 0 []), (1, eA (.invokespecial 1) 4 0 1 6 0 [195, 77, 78]), (4, eA (.aload_n 0) 5 0 0 0 0 []), (5, eZ (.lconst 1) 6 1 []), (6, eA (.putfield 7) 9 0 1 0 0 [198]), (9, e0 .return_ 10)]
def k_Fr_put : List (Nat × En) := [(0, eA (.lload_n 1) 1 1 0 0 0 []), (1, eA (.invokestatic 13) 4 170 1 0 0 [452, 453]), (4, eA (.lload_n 3) 5 3 0 0 0 []), (5, eA (.invokestatic 19) 8 114 2 1 0 [455, 456]), (8, eA (.lstore 5) 10 5 0 0 0 []), (10, eA (.lload 5) 12 5 0 0 0 []), (12, eZ (.lconst 0) 13 0 []), (13, e0 .lcmp 14), (14, eA (.ifCond .le 19) 17 33 0 0 0 []), (17, eA (.aload_n 0) 18 0 0 0 0 []), (18, eA (.lload_n 1) 19 1 0 0 0 []), (19, eA (.lload 5) 21 5 0 0 0 []), (21, e0 .ldiv 22), (22, eA (.putfield 25) 25 0 0 0 0 [196]), (25, eA (.aload_n 0) 26 0 0 0 0 []), (26, eA (.lload_n 3) 27 3 0 0 0 []), (27, eA (.lload 5) 29 5 0 0 0 []), (29, e0 .ldiv 30), (30, eA (.putfield 7) 33 0 1 0 0 [198]), (33, e0 .return_ 34)]
def k_Fr_copy : List (Nat × En) := [(0, eA (.aload_n 0) 1 0 0 0 0 []), (1, eA (.aload_n 1) 2 1 0 0 0 []), (2, eA (.getfield 25) 5 0 0 0 0 [196]), (5, eA (.putfield 25) 8 0 0 0 0 [196]), (8, eA (.aload_n 0) 9 0 0 0 0 []), (9, eA (.aload_n 1) 10 1 0 0 0 []), (10, eA (.getfield 7) 13 0 1 0 0 [198]), (13, eA (.putfield 7) 16 0 1 0 0 [198]), (16, e0 .return_ 17)]
def k_Fr_negate : List (Nat × En) := [(0, eA (.aload_n 0) 1 0 0 0 0 []), (1, eA (.aload_n 0) 2 0 0 0 0 []), (2, eA (.getfield 25) 5 0 0 0 0 [196]), (5, e0 .lneg 6), (6, eA (.putfield 25) 9 0 0 0 0 [196]), (9, e0 .return_ 10)]
def k_Fr_isZero : List (Nat × En) := [(0, eA (.aload_n 0) 1 0 0 0 0 []), (1, eA (.getfield 25) 4 0 0 0 0 [196]), (4, eZ (.lconst 0) 5 0 []), (5, e0 .lcmp 6), (6, eA (.ifCond .ne 7) 9 13 0 0 0 []), (9, eC (.iconst 1) 10 1), (10, eA (.goto 4) 13 14 0 0 0 []), (13, eC (.iconst 0) 14 0), (14, e0 .ireturn 15)]
def k_Fr_compareToWhole : List (Nat × En) := [(0, eA (.aload_n 0) 1 0 0 0 0 []), (1, eA (.getfield 25) 4 0 0 0 0 [196]), (4, eA (.lload_n 1) 5 1 0 0 0 []), (5, eA (.aload_n 0) 6 0 0 0 0 []), (6, eA (.getfield 7) 9 0 1 0 0 [198]), (9, e0 .lmul 10), (10, eA (.invokestatic 28) 13 168 2 0 0 [712, 713]), (13, e0 .ireturn 14)]
def k_Fr_side : List (Nat × En) := [(0, eA (.iload_n 1) 1 1 0 0 0 []), (1, eA (.ifCond .ne 10) 4 11 0 0 0 []), (4, eA (.aload_n 0) 5 0 0 0 0 []), (5, eA (.getfield 25) 8 0 0 0 0 [196]), (8, eA (.goto 7) 11 15 0 0 0 []), (11, eA (.aload_n 0) 12 0 0 0 0 []), (12, eA (.getfield 7) 15 0 1 0 0 [198]), (15, e0 .l2i 16), (16, e0 .ireturn 17)]
def k_La_init : List (Nat × En) := [(0, eA (.aload_n 0) 1 0 0 0 0 []), (1, eA (.invokespecial 3) 4 0 1 6 0 [333, 77, 78]), (4, eA (.aload_n 0) 5 0 0 0 0 []), (5, eC (.iconst 3) 6 3), (6, eA (.putfield 9) 9 1 0 0 0 [334]), (9, eA (.aload_n 0) 10 0 0 0 0 []), (10, eC (.bipush 80) 12 80), (12, eA (.newarray .int) 14 16 0 0 0 [181]), (14, eA (.putfield 15) 17 1 1 2 0 [335]), (17, eA (.aload_n 0) 18 0 0 0 0 []), (18, eC (.sipush 961) 21 961), (21, eA (.newarray .boolean) 23 17 0 0 0 [364]), (23, eA (.putfield 19) 26 1 2 2 0 [336]), (26, e0 .return_ 27)]
def k_La_forget : List (Nat × En) := [(0, eA (.aload_n 0) 1 0 0 0 0 []), (1, eC (.iconst 0) 2 0), (2, eA (.putfield 23) 5 1 3 0 0 [337]), (5, e0 .return_ 6)]
def k_La_prepare : List (Nat × En) := [(0, eA (.iload_n 2) 1 2 0 0 0 []), (1, eC (.iconst 2) 2 2), (2, eA (.if_icmp .ge 5) 5 7 0 0 0 []), (5, eC (.iconst 0) 6 0), (6, e0 .ireturn 7), (7, eA (.aload_n 0) 8 0 0 0 0 []), (8, eA (.iload_n 2) 9 2 0 0 0 []), (9, eA (.putfield 9) 12 1 0 0 0 [334]), (12, eC (.iconst 0) 13 0), (13, eA (.istore_n 3) 14 3 0 0 0 []), (14, eA (.iload_n 3) 15 3 0 0 0 []), (15, eA (.aload_n 1) 16 1 0 0 0 []), (16, eA (.getfield 27) 19 8 1 1 0 [210]), (19, eA (.if_icmp .ge 62) 22 81 0 0 0 []), (22, eA (.aload_n 1) 23 1 0 0 0 []), (23, eA (.getfield 32) 26 8 0 1 0 [206]), (26, eA (.iload_n 3) 27 3 0 0 0 []), (27, e0 .aaload 28), (28, eA (.getfield 36) 31 5 1 1 0 [471]), (31, eA (.astore 4) 33 4 0 0 0 []), (33, eA (.aload 4) 35 4 0 0 0 []), (35, eC (.iconst 1) 36 1), (36, eA (.invokevirtual 42) 39 6 2 0 0 [822, 617, 618]), (39, eA (.iload_n 2) 40 2 0 0 0 []), (40, e0 .irem 41), (41, eA (.iload_n 2) 42 2 0 0 0 []), (42, eA (.invokestatic 48) 45 10 2 0 0 [823, 824]), (45, eA (.istore 5) 47 5 0 0 0 []), (47, eA (.iload 5) 49 5 0 0 0 []), (49, eA (.ifCond .ne 5) 52 54 0 0 0 []), (52, eC (.iconst 0) 53 0), (53, e0 .ireturn 54), (54, eA (.aload_n 0) 55 0 0 0 0 []), (55, eA (.getfield 15) 58 1 1 0 0 [335]), (58, eA (.iload_n 3) 59 3 0 0 0 []), (59, eA (.aload 4) 61 4 0 0 0 []), (61, eC (.iconst 0) 62 0), (62, eA (.invokevirtual 42) 65 6 2 0 0 [822, 617, 618]), (65, eA (.iload_n 2) 66 2 0 0 0 []), (66, eA (.invokestatic 52) 69 169 2 0 0 [826, 827]), (69, eA (.iload 5) 71 5 0 0 0 []), (71, e0 .imul 72), (72, eA (.iload_n 2) 73 2 0 0 0 []), (73, e0 .irem 74), (74, e0 .iastore 75), (75, eI (.iinc 3 1) 78 3 1), (78, eA (.goto (-64)) 81 14 0 0 0 []), (81, eC (.iconst 1) 82 1), (82, e0 .ireturn 83)]
def k_La_inverse : List (Nat × En) := [(0, eC (.iconst 1) 1 1), (1, eA (.istore_n 2) 2 2 0 0 0 []), (2, eA (.iload_n 2) 3 2 0 0 0 []), (3, eA (.iload_n 1) 4 1 0 0 0 []), (4, eA (.if_icmp .ge 20) 7 24 0 0 0 []), (7, eA (.iload_n 0) 8 0 0 0 0 []), (8, eA (.iload_n 2) 9 2 0 0 0 []), (9, e0 .imul 10), (10, eA (.iload_n 1) 11 1 0 0 0 []), (11, e0 .irem 12), (12, eC (.iconst 1) 13 1), (13, eA (.if_icmp .ne 5) 16 18 0 0 0 []), (16, eA (.iload_n 2) 17 2 0 0 0 []), (17, e0 .ireturn 18), (18, eI (.iinc 2 1) 21 2 1), (21, eA (.goto (-19)) 24 2 0 0 0 []), (24, eC (.iconst 0) 25 0), (25, e0 .ireturn 26)]
def k_La_next : List (Nat × En) := [(0, eA (.iload_n 2) 1 2 0 0 0 []), (1, eA (.aload_n 0) 2 0 0 0 0 []), (2, eA (.getfield 9) 5 1 0 0 0 [334]), (5, e0 .idiv 6), (6, eA (.istore_n 3) 7 3 0 0 0 []), (7, eA (.iload_n 2) 8 2 0 0 0 []), (8, eA (.aload_n 0) 9 0 0 0 0 []), (9, eA (.getfield 9) 12 1 0 0 0 [334]), (12, e0 .irem 13), (13, eA (.istore 4) 15 4 0 0 0 []), (15, eC (.iconst 0) 16 0), (16, eA (.istore 5) 18 5 0 0 0 []), (18, eA (.iload 5) 20 5 0 0 0 []), (20, eA (.aload_n 1) 21 1 0 0 0 []), (21, eA (.getfield 27) 24 8 1 1 0 [210]), (24, eA (.if_icmp .ge 117) 27 141 0 0 0 []), (27, eA (.aload_n 1) 28 1 0 0 0 []), (28, eA (.getfield 32) 31 8 0 1 0 [206]), (31, eA (.iload 5) 33 5 0 0 0 []), (33, e0 .aaload 34), (34, eA (.getfield 57) 37 5 0 1 0 [468]), (37, eS (.tableswitch 98 0 2 #[27, 48, 72]) 64 135 [(0, 64), (1, 85), (2, 109)]), (64, eA (.iload_n 3) 65 3 0 0 0 []), (65, eA (.aload_n 0) 66 0 0 0 0 []), (66, eA (.getfield 15) 69 1 1 0 0 [335]), (69, eA (.iload 5) 71 5 0 0 0 []), (71, e0 .iaload 72), (72, eA (.iload 4) 74 4 0 0 0 []), (74, e0 .imul 75), (75, e0 .iadd 76), (76, eA (.aload_n 0) 77 0 0 0 0 []), (77, eA (.getfield 9) 80 1 0 0 0 [334]), (80, e0 .irem 81), (81, eA (.istore_n 3) 82 3 0 0 0 []), (82, eA (.goto 53) 85 135 0 0 0 []), (85, eA (.iload 4) 87 4 0 0 0 []), (87, eA (.aload_n 0) 88 0 0 0 0 []), (88, eA (.getfield 15) 91 1 1 0 0 [335]), (91, eA (.iload 5) 93 5 0 0 0 []), (93, e0 .iaload 94), (94, eA (.iload_n 3) 95 3 0 0 0 []), (95, e0 .imul 96), (96, e0 .isub 97), (97, eA (.aload_n 0) 98 0 0 0 0 []), (98, eA (.getfield 9) 101 1 0 0 0 [334]), (101, eA (.invokestatic 52) 104 169 2 0 0 [826, 827]), (104, eA (.istore 4) 106 4 0 0 0 []), (106, eA (.goto 29) 109 135 0 0 0 []), (109, eA (.iload 4) 111 4 0 0 0 []), (111, eA (.aload_n 0) 112 0 0 0 0 []), (112, eA (.getfield 15) 115 1 1 0 0 [335]), (115, eA (.iload 5) 117 5 0 0 0 []), (117, e0 .iaload 118), (118, eA (.iload_n 3) 119 3 0 0 0 []), (119, e0 .imul 120), (120, eA (.iload_n 3) 121 3 0 0 0 []), (121, e0 .imul 122), (122, e0 .isub 123), (123, eA (.aload_n 0) 124 0 0 0 0 []), (124, eA (.getfield 9) 127 1 0 0 0 [334]), (127, eA (.invokestatic 52) 130 169 2 0 0 [826, 827]), (130, eA (.istore 4) 132 4 0 0 0 []), (132, eA (.goto 3) 135 135 0 0 0 []), (135, eI (.iinc 5 1) 138 5 1), (138, eA (.goto (-120)) 141 18 0 0 0 []), (141, eA (.iload_n 3) 142 3 0 0 0 []), (142, eA (.aload_n 0) 143 0 0 0 0 []), (143, eA (.getfield 9) 146 1 0 0 0 [334]), (146, e0 .imul 147), (147, eA (.iload 4) 149 4 0 0 0 []), (149, e0 .iadd 150), (150, e0 .ireturn 151)]
def k_La_followAll : List (Nat × En) := [(0, eA (.aload_n 0) 1 0 0 0 0 []), (1, eA (.getfield 9) 4 1 0 0 0 [334]), (4, eA (.aload_n 0) 5 0 0 0 0 []), (5, eA (.getfield 9) 8 1 0 0 0 [334]), (8, e0 .imul 9), (9, eC (.sipush 961) 12 961), (12, eA (.invokestatic 60) 15 171 2 0 0 [833, 834]), (15, eA (.istore_n 2) 16 2 0 0 0 []), (16, eC (.iconst 0) 17 0), (17, eA (.istore_n 3) 18 3 0 0 0 []), (18, eA (.iload_n 3) 19 3 0 0 0 []), (19, eA (.iload_n 2) 20 2 0 0 0 []), (20, eA (.if_icmp .ge 16) 23 36 0 0 0 []), (23, eA (.aload_n 0) 24 0 0 0 0 []), (24, eA (.getfield 19) 27 1 2 0 0 [336]), (27, eA (.iload_n 3) 28 3 0 0 0 []), (28, eC (.iconst 0) 29 0), (29, e0 .bastore 30), (30, eI (.iinc 3 1) 33 3 1), (33, eA (.goto (-15)) 36 18 0 0 0 []), (36, eA (.aload_n 0) 37 0 0 0 0 []), (37, eC (.iconst 1) 38 1), (38, eA (.putfield 23) 41 1 3 0 0 [337]), (41, eA (.aload_n 0) 42 0 0 0 0 []), (42, eA (.aload_n 0) 43 0 0 0 0 []), (43, eA (.getfield 9) 46 1 0 0 0 [334]), (46, eA (.putfield 63) 49 1 4 0 0 [339]), (49, eA (.aload_n 0) 50 0 0 0 0 []), (50, eC (.iconst 0) 51 0), (51, eA (.putfield 66) 54 1 5 0 0 [340]), (54, eA (.aload_n 0) 55 0 0 0 0 []), (55, eC (.iconst 0) 56 0), (56, eA (.putfield 69) 59 1 6 0 0 [342]), (59, eA (.aload_n 0) 60 0 0 0 0 []), (60, eC (.iconst 0) 61 0), (61, eA (.putfield 72) 64 1 7 0 0 [343]), (64, eA (.aload_n 0) 65 0 0 0 0 []), (65, eC (.iconst 0) 66 0), (66, eA (.putfield 75) 69 1 8 0 0 [344]), (69, eC (.iconst 0) 70 0), (70, eA (.istore_n 3) 71 3 0 0 0 []), (71, eA (.iload_n 3) 72 3 0 0 0 []), (72, eA (.iload_n 2) 73 2 0 0 0 []), (73, eA (.if_icmp .ge 30) 76 103 0 0 0 []), (76, eA (.aload_n 0) 77 0 0 0 0 []), (77, eA (.getfield 19) 80 1 2 0 0 [336]), (80, eA (.iload_n 3) 81 3 0 0 0 []), (81, e0 .baload 82), (82, eA (.ifCond .ne 15) 85 97 0 0 0 []), (85, eA (.aload_n 0) 86 0 0 0 0 []), (86, eA (.iload_n 3) 87 3 0 0 0 []), (87, eA (.aload_n 0) 88 0 0 0 0 []), (88, eA (.aload_n 1) 89 1 0 0 0 []), (89, eA (.iload_n 3) 90 3 0 0 0 []), (90, eA (.iload_n 2) 91 2 0 0 0 []), (91, eA (.invokevirtual 78) 94 13 4 0 1 [836, 838, 25]), (94, eA (.invokevirtual 82) 97 14 3 0 1 [844, 846, 26]), (97, eI (.iinc 3 1) 100 3 1), (100, eA (.goto (-29)) 103 71 0 0 0 []), (103, e0 .return_ 104)]
def k_La_follow : List (Nat × En) := [(0, eC (.iconst 0) 1 0), (1, eA (.istore 4) 3 4 0 0 0 []), (3, eA (.iload_n 2) 4 2 0 0 0 []), (4, eA (.istore 5) 6 5 0 0 0 []), (6, eA (.iload 4) 8 4 0 0 0 []), (8, eA (.iload_n 3) 9 3 0 0 0 []), (9, eA (.if_icmp .ge 36) 12 45 0 0 0 []), (12, eA (.aload_n 0) 13 0 0 0 0 []), (13, eA (.getfield 19) 16 1 2 0 0 [336]), (16, eA (.iload 5) 18 5 0 0 0 []), (18, e0 .baload 19), (19, eA (.ifCond .ne 26) 22 45 0 0 0 []), (22, eA (.aload_n 0) 23 0 0 0 0 []), (23, eA (.getfield 19) 26 1 2 0 0 [336]), (26, eA (.iload 5) 28 5 0 0 0 []), (28, eC (.iconst 1) 29 1), (29, e0 .bastore 30), (30, eA (.aload_n 0) 31 0 0 0 0 []), (31, eA (.aload_n 1) 32 1 0 0 0 []), (32, eA (.iload 5) 34 5 0 0 0 []), (34, eA (.invokevirtual 86) 37 11 3 0 1 [840, 841, 842]), (37, eA (.istore 5) 39 5 0 0 0 []), (39, eI (.iinc 4 1) 42 4 1), (42, eA (.goto (-36)) 45 6 0 0 0 []), (45, eA (.iload 4) 47 4 0 0 0 []), (47, e0 .ireturn 48)]
def k_La_noteCycle : List (Nat × En) := [(0, eA (.aload_n 0) 1 0 0 0 0 []), (1, e0 .dup 2), (2, eA (.getfield 69) 5 1 6 0 0 [342]), (5, eC (.iconst 1) 6 1), (6, e0 .iadd 7), (7, eA (.putfield 69) 10 1 6 0 0 [342]), (10, eA (.iload_n 2) 11 2 0 0 0 []), (11, eC (.iconst 1) 12 1), (12, eA (.if_icmp .ne 13) 15 25 0 0 0 []), (15, eA (.aload_n 0) 16 0 0 0 0 []), (16, e0 .dup 17), (17, eA (.getfield 66) 20 1 5 0 0 [340]), (20, eC (.iconst 1) 21 1), (21, e0 .iadd 22), (22, eA (.putfield 66) 25 1 5 0 0 [340]), (25, eA (.iload_n 2) 26 2 0 0 0 []), (26, eA (.aload_n 0) 27 0 0 0 0 []), (27, eA (.getfield 72) 30 1 7 0 0 [343]), (30, eA (.if_icmp .le 13) 33 43 0 0 0 []), (33, eA (.aload_n 0) 34 0 0 0 0 []), (34, eA (.iload_n 2) 35 2 0 0 0 []), (35, eA (.putfield 72) 38 1 7 0 0 [343]), (38, eA (.aload_n 0) 39 0 0 0 0 []), (39, eA (.iload_n 1) 40 1 0 0 0 []), (40, eA (.putfield 75) 43 1 8 0 0 [344]), (43, e0 .return_ 44)]
def k_La_fact : List (Nat × En) := [(0, eA (.iload_n 1) 1 1 0 0 0 []), (1, eS (.tableswitch 42 0 2 #[27, 32, 37]) 28 43 [(0, 28), (1, 33), (2, 38)]), (28, eA (.aload_n 0) 29 0 0 0 0 []), (29, eA (.getfield 63) 32 1 4 0 0 [339]), (32, e0 .ireturn 33), (33, eA (.aload_n 0) 34 0 0 0 0 []), (34, eA (.getfield 69) 37 1 6 0 0 [342]), (37, e0 .ireturn 38), (38, eA (.aload_n 0) 39 0 0 0 0 []), (39, eA (.getfield 72) 42 1 7 0 0 [343]), (42, e0 .ireturn 43), (43, eA (.aload_n 0) 44 0 0 0 0 []), (44, eA (.getfield 75) 47 1 8 0 0 [344]), (47, e0 .ireturn 48)]
def k_Li_init : List (Nat × En) := [(0, eA (.aload_n 0) 1 0 0 0 0 []), (1, eA (.invokespecial 1) 4 0 1 6 0 [547, 77, 78]), (4, eA (.aload_n 0) 5 0 0 0 0 []), (5, eA (.lload_n 1) 6 1 0 0 0 []), (6, eA (.putfield 7) 9 2 0 2 0 [549]), (9, eA (.aload_n 0) 10 0 0 0 0 []), (10, eA (.aload 4) 12 4 0 0 0 []), (12, eA (.putfield 13) 15 2 2 2 0 [554]), (15, eA (.aload_n 0) 16 0 0 0 0 []), (16, eA (.aload_n 3) 17 3 0 0 0 []), (17, eA (.getfield 17) 20 9 1 1 0 [125]), (20, eA (.anewarray 23) 23 20 0 0 0 [548, 122]), (23, eA (.putfield 25) 26 2 1 2 0 [551]), (26, eC (.iconst 0) 27 0), (27, eA (.istore 5) 29 5 0 0 0 []), (29, eA (.iload 5) 31 5 0 0 0 []), (31, eA (.aload_n 3) 32 3 0 0 0 []), (32, eA (.getfield 17) 35 9 1 1 0 [125]), (35, eA (.if_icmp .ge 23) 38 58 0 0 0 []), (38, eA (.aload_n 0) 39 0 0 0 0 []), (39, eA (.getfield 25) 42 2 1 0 0 [551]), (42, eA (.iload 5) 44 5 0 0 0 []), (44, eA (.aload_n 3) 45 3 0 0 0 []), (45, eA (.getfield 29) 48 9 0 1 0 [124]), (48, eA (.iload 5) 50 5 0 0 0 []), (50, e0 .aaload 51), (51, e0 .aastore 52), (52, eI (.iinc 5 1) 55 5 1), (55, eA (.goto (-26)) 58 29 0 0 0 []), (58, e0 .return_ 59)]
def k_Mo_init : List (Nat × En) := [(0, eA (.aload_n 0) 1 0 0 0 0 []), (1, eA (.invokespecial 1) 4 0 1 6 0 [269, 77, 78]), (4, eA (.aload_n 0) 5 0 0 0 0 []), (5, eA (.new 7) 8 0 0 0 0 [270, 191, 61]), (8, e0 .dup 9), (9, eA (.invokespecial 9) 12 0 1 1 0 [271, 193]), (12, eA (.putfield 10) 15 3 0 2 0 [272]), (15, eA (.aload_n 0) 16 0 0 0 0 []), (16, eA (.new 7) 19 0 0 0 0 [270, 191, 61]), (19, e0 .dup 20), (20, eA (.invokespecial 9) 23 0 1 1 0 [271, 193]), (23, eA (.putfield 16) 26 3 1 2 0 [274]), (26, e0 .return_ 27)]
def k_Mo_put : List (Nat × En) := [(0, eA (.aload_n 0) 1 0 0 0 0 []), (1, eA (.getfield 10) 4 3 0 0 0 [272]), (4, eA (.lload_n 1) 5 1 0 0 0 []), (5, eZ (.lconst 1) 6 1 []), (6, eA (.invokevirtual 19) 9 1 3 0 0 [649, 449, 450]), (9, eA (.aload_n 0) 10 0 0 0 0 []), (10, eA (.getfield 16) 13 3 1 0 0 [274]), (13, eA (.lload_n 3) 14 3 0 0 0 []), (14, eZ (.lconst 1) 15 1 []), (15, eA (.invokevirtual 19) 18 1 3 0 0 [649, 449, 450]), (18, e0 .return_ 19)]
def k_Op_init : List (Nat × En) := [(0, eA (.aload_n 0) 1 0 0 0 0 []), (1, eA (.invokespecial 3) 4 0 1 6 0 [247, 77, 78]), (4, eA (.aload_n 0) 5 0 0 0 0 []), (5, eA (.new 9) 8 7 0 0 0 [248, 249, 63]), (8, e0 .dup 9), (9, eA (.invokespecial 11) 12 59 1 1 7 [250, 251]), (12, eA (.putfield 12) 15 4 0 2 0 [283]), (15, eA (.aload_n 0) 16 0 0 0 0 []), (16, eA (.new 18) 19 3 0 0 0 [264, 265, 64]), (19, e0 .dup 20), (20, eA (.invokespecial 20) 23 17 1 1 3 [266, 267]), (23, eA (.putfield 21) 26 4 1 2 0 [284]), (26, eA (.aload_n 0) 27 0 0 0 0 []), (27, eA (.new 18) 30 3 0 0 0 [264, 265, 64]), (30, e0 .dup 31), (31, eA (.invokespecial 20) 34 17 1 1 3 [266, 267]), (34, eA (.putfield 25) 37 4 2 2 0 [285]), (37, eA (.aload_n 0) 38 0 0 0 0 []), (38, eA (.new 18) 41 3 0 0 0 [264, 265, 64]), (41, e0 .dup 42), (42, eA (.invokespecial 20) 45 17 1 1 3 [266, 267]), (45, eA (.putfield 28) 48 4 3 2 0 [286]), (48, eA (.aload_n 0) 49 0 0 0 0 []), (49, eA (.new 18) 52 3 0 0 0 [264, 265, 64]), (52, e0 .dup 53), (53, eA (.invokespecial 20) 56 17 1 1 3 [266, 267]), (56, eA (.putfield 31) 59 4 4 2 0 [287]), (59, eA (.aload_n 0) 60 0 0 0 0 []), (60, eA (.new 34) 63 0 0 0 0 [281, 191, 61]), (63, e0 .dup 64), (64, eA (.invokespecial 36) 67 0 1 1 0 [282, 193]), (67, eA (.putfield 37) 70 4 5 2 0 [288]), (70, eA (.aload_n 0) 71 0 0 0 0 []), (71, eA (.new 34) 74 0 0 0 0 [281, 191, 61]), (74, e0 .dup 75), (75, eA (.invokespecial 36) 78 0 1 1 0 [282, 193]), (78, eA (.putfield 41) 81 4 6 2 0 [289]), (81, eA (.aload_n 0) 82 0 0 0 0 []), (82, eA (.new 34) 85 0 0 0 0 [281, 191, 61]), (85, e0 .dup 86), (86, eA (.invokespecial 36) 89 0 1 1 0 [282, 193]), (89, eA (.putfield 44) 92 4 7 2 0 [290]), (92, eA (.aload_n 0) 93 0 0 0 0 []), (93, eA (.new 34) 96 0 0 0 0 [281, 191, 61]), (96, e0 .dup 97), (97, eA (.invokespecial 36) 100 0 1 1 0 [282, 193]), (100, eA (.putfield 47) 103 4 8 2 0 [291]), (103, eA (.aload_n 0) 104 0 0 0 0 []), (104, eA (.new 34) 107 0 0 0 0 [281, 191, 61]), (107, e0 .dup 108), (108, eA (.invokespecial 36) 111 0 1 1 0 [282, 193]), (111, eA (.putfield 50) 114 4 9 2 0 [292]), (114, eA (.aload_n 0) 115 0 0 0 0 []), (115, eA (.new 34) 118 0 0 0 0 [281, 191, 61]), (118, e0 .dup 119), (119, eA (.invokespecial 36) 122 0 1 1 0 [282, 193]), (122, eA (.putfield 53) 125 4 10 2 0 [293]), (125, eA (.aload_n 0) 126 0 0 0 0 []), (126, eC (.bipush 12) 128 12), (128, eA (.anewarray 34) 131 21 0 0 0 [281, 190]), (131, eA (.putfield 56) 134 4 11 2 0 [294]), (134, eA (.aload_n 0) 135 0 0 0 0 []), (135, eC (.iconst 4) 136 4), (136, eA (.anewarray 34) 139 21 0 0 0 [281, 190]), (139, eA (.putfield 60) 142 4 12 2 0 [295]), (142, eC (.iconst 0) 143 0), (143, eA (.istore_n 1) 144 1 0 0 0 []), (144, eA (.iload_n 1) 145 1 0 0 0 []), (145, eC (.bipush 12) 147 12), (147, eA (.if_icmp .ge 22) 150 169 0 0 0 []), (150, eA (.aload_n 0) 151 0 0 0 0 []), (151, eA (.getfield 56) 154 4 11 0 0 [294]), (154, eA (.iload_n 1) 155 1 0 0 0 []), (155, eA (.new 34) 158 0 0 0 0 [281, 191, 61]), (158, e0 .dup 159), (159, eA (.invokespecial 36) 162 0 1 1 0 [282, 193]), (162, e0 .aastore 163), (163, eI (.iinc 1 1) 166 1 1), (166, eA (.goto (-22)) 169 144 0 0 0 []), (169, eC (.iconst 0) 170 0), (170, eA (.istore_n 1) 171 1 0 0 0 []), (171, eA (.iload_n 1) 172 1 0 0 0 []), (172, eC (.iconst 4) 173 4), (173, eA (.if_icmp .ge 22) 176 195 0 0 0 []), (176, eA (.aload_n 0) 177 0 0 0 0 []), (177, eA (.getfield 60) 180 4 12 0 0 [295]), (180, eA (.iload_n 1) 181 1 0 0 0 []), (181, eA (.new 34) 184 0 0 0 0 [281, 191, 61]), (184, e0 .dup 185), (185, eA (.invokespecial 36) 188 0 1 1 0 [282, 193]), (188, e0 .aastore 189), (189, eI (.iinc 1 1) 192 1 1), (192, eA (.goto (-21)) 195 171 0 0 0 []), (195, e0 .return_ 196)]
def k_Op_isBig : List (Nat × En) := [(0, eA (.aload_n 0) 1 0 0 0 0 []), (1, eA (.getfield 12) 4 4 0 0 0 [283]), (4, eA (.getfield 63) 7 7 0 1 0 [257]), (7, e0 .ireturn 8)]
def k_Op_onlyKick : List (Nat × En) := [(0, eC (.iconst 0) 1 0), (1, eA (.istore_n 2) 2 2 0 0 0 []), (2, eA (.iload_n 2) 3 2 0 0 0 []), (3, eC (.bipush 12) 5 12), (5, eA (.if_icmp .ge 29) 8 34 0 0 0 []), (8, eA (.aload_n 0) 9 0 0 0 0 []), (9, eA (.getfield 56) 12 4 11 0 0 [294]), (12, eA (.iload_n 2) 13 2 0 0 0 []), (13, e0 .aaload 14), (14, eA (.iload_n 2) 15 2 0 0 0 []), (15, eA (.iload_n 1) 16 1 0 0 0 []), (16, eA (.if_icmp .ne 7) 19 23 0 0 0 []), (19, eZ (.lconst 1) 20 1 []), (20, eA (.goto 4) 23 24 0 0 0 []), (23, eZ (.lconst 0) 24 0 []), (24, eZ (.lconst 1) 25 1 []), (25, eA (.invokevirtual 67) 28 1 3 0 0 [725, 449, 450]), (28, eI (.iinc 2 1) 31 2 1), (31, eA (.goto (-29)) 34 2 0 0 0 []), (34, eA (.aload_n 0) 35 0 0 0 0 []), (35, eA (.getfield 56) 38 4 11 0 0 [294]), (38, e0 .areturn 39)]
def k_Op_lead : List (Nat × En) := [(0, eA (.aload_n 2) 1 2 0 0 0 []), (1, eA (.getfield 71) 4 5 0 1 0 [466]), (4, eA (.ifCond .ne 25) 7 29 0 0 0 []), (7, eA (.aload_n 0) 8 0 0 0 0 []), (8, eA (.getfield 12) 11 4 0 0 0 [283]), (11, eA (.aload_n 1) 12 1 0 0 0 []), (12, eA (.getfield 77) 15 3 0 1 0 [273]), (15, eA (.aload_n 2) 16 2 0 0 0 []), (16, eA (.getfield 80) 19 5 1 1 0 [472]), (19, eA (.aload_n 1) 20 1 0 0 0 []), (20, eA (.getfield 83) 23 3 1 1 0 [275]), (23, eA (.invokevirtual 86) 26 65 4 0 7 [654, 655, 656]), (26, eA (.goto 30) 29 56 0 0 0 []), (29, eA (.aload_n 2) 30 2 0 0 0 []), (30, eA (.getfield 71) 33 5 0 1 0 [466]), (33, eC (.iconst 1) 34 1), (34, eA (.if_icmp .ne 22) 37 56 0 0 0 []), (37, eA (.aload_n 0) 38 0 0 0 0 []), (38, eA (.getfield 12) 41 4 0 0 0 [283]), (41, eA (.aload_n 1) 42 1 0 0 0 []), (42, eA (.getfield 83) 45 3 1 1 0 [275]), (45, eA (.aload_n 2) 46 2 0 0 0 []), (46, eA (.getfield 80) 49 5 1 1 0 [472]), (49, eA (.aload_n 1) 50 1 0 0 0 []), (50, eA (.getfield 77) 53 3 0 1 0 [273]), (53, eA (.invokevirtual 90) 56 66 4 0 7 [677, 678, 679]), (56, e0 .return_ 57)]
def k_Op_giveKick : List (Nat × En) := [(0, eA (.aload_n 2) 1 2 0 0 0 []), (1, eA (.getfield 93) 4 8 0 1 0 [207]), (4, eA (.iload_n 3) 5 3 0 0 0 []), (5, e0 .aaload 6), (6, eA (.getfield 71) 9 5 0 1 0 [466]), (9, eC (.iconst 3) 10 3), (10, eA (.if_icmp .ne 23) 13 33 0 0 0 []), (13, eA (.aload_n 0) 14 0 0 0 0 []), (14, eA (.getfield 12) 17 4 0 0 0 [283]), (17, eA (.aload_n 1) 18 1 0 0 0 []), (18, eA (.getfield 83) 21 3 1 1 0 [275]), (21, eA (.aload 4) 23 4 0 0 0 []), (23, eA (.aload_n 2) 24 2 0 0 0 []), (24, eA (.getfield 99) 27 8 5 1 0 [220]), (27, eA (.iload_n 3) 28 3 0 0 0 []), (28, e0 .iaload 29), (29, e0 .aaload 30), (30, eA (.invokevirtual 103) 33 61 3 0 7 [706, 674, 675]), (33, e0 .return_ 34)]
def k_Op_beginTable : List (Nat × En) := [(0, eA (.aload_n 0) 1 0 0 0 0 []), (1, eA (.getfield 12) 4 4 0 0 0 [283]), (4, eA (.invokevirtual 107) 7 60 1 0 7 [641, 642, 643]), (7, eA (.aload_n 0) 8 0 0 0 0 []), (8, eA (.getfield 21) 11 4 1 0 0 [284]), (11, eZ (.lconst 1) 12 1 []), (12, eZ (.lconst 0) 13 0 []), (13, eA (.invokevirtual 110) 16 18 3 0 3 [645, 646, 647]), (16, eA (.aload_n 0) 17 0 0 0 0 []), (17, eA (.getfield 25) 20 4 2 0 0 [285]), (20, eZ (.lconst 0) 21 0 []), (21, eZ (.lconst 1) 22 1 []), (22, eA (.invokevirtual 110) 25 18 3 0 3 [645, 646, 647]), (25, e0 .return_ 26)]
def k_Op_reckonTable : List (Nat × En) := [(0, eA (.aload_n 0) 1 0 0 0 0 []), (1, eA (.invokevirtual 111) 4 24 1 0 4 [637, 639, 19]), (4, eA (.iload_n 2) 5 2 0 0 0 []), (5, eA (.istore 4) 7 4 0 0 0 []), (7, eC (.iconst 0) 8 0), (8, eA (.istore 5) 10 5 0 0 0 []), (10, eA (.iload 5) 12 5 0 0 0 []), (12, eA (.iload_n 3) 13 3 0 0 0 []), (13, eA (.if_icmp .ge 70) 16 83 0 0 0 []), (16, eA (.aload_n 0) 17 0 0 0 0 []), (17, eA (.getfield 12) 20 4 0 0 0 [283]), (20, eA (.getfield 63) 23 7 0 1 0 [257]), (23, eA (.ifCond .ne 60) 26 83 0 0 0 []), (26, eA (.aload_n 0) 27 0 0 0 0 []), (27, eA (.aload_n 0) 28 0 0 0 0 []), (28, eA (.getfield 21) 31 4 1 0 0 [284]), (31, eA (.aload_n 1) 32 1 0 0 0 []), (32, eA (.getfield 93) 35 8 0 1 0 [207]), (35, eA (.iload 4) 37 4 0 0 0 []), (37, e0 .aaload 38), (38, eA (.invokevirtual 114) 41 22 3 0 4 [650, 652, 20]), (41, eA (.aload_n 0) 42 0 0 0 0 []), (42, eA (.aload_n 0) 43 0 0 0 0 []), (43, eA (.getfield 25) 46 4 2 0 0 [285]), (46, eA (.aload_n 1) 47 1 0 0 0 []), (47, eA (.getfield 93) 50 8 0 1 0 [207]), (50, eA (.iload 4) 52 4 0 0 0 []), (52, e0 .aaload 53), (53, eA (.invokevirtual 114) 56 22 3 0 4 [650, 652, 20]), (56, eA (.iload 4) 58 4 0 0 0 []), (58, eC (.iconst 1) 59 1), (59, e0 .iadd 60), (60, eA (.aload_n 1) 61 1 0 0 0 []), (61, eA (.getfield 118) 64 8 1 1 0 [212]), (64, eA (.if_icmp .ge 10) 67 74 0 0 0 []), (67, eA (.iload 4) 69 4 0 0 0 []), (69, eC (.iconst 1) 70 1), (70, e0 .iadd 71), (71, eA (.goto 4) 74 75 0 0 0 []), (74, eC (.iconst 0) 75 0), (75, eA (.istore 4) 77 4 0 0 0 []), (77, eI (.iinc 5 1) 80 5 1), (80, eA (.goto (-70)) 83 10 0 0 0 []), (83, e0 .return_ 84)]
def k_Op_stability : List (Nat × En) := [(0, eA (.aload_n 0) 1 0 0 0 0 []), (1, eA (.getfield 37) 4 4 5 0 0 [288]), (4, eA (.aload_n 0) 5 0 0 0 0 []), (5, eA (.getfield 21) 8 4 1 0 0 [284]), (8, eA (.getfield 77) 11 3 0 1 0 [273]), (11, eA (.invokevirtual 121) 14 2 2 0 0 [697, 659, 660]), (14, eA (.aload_n 0) 15 0 0 0 0 []), (15, eA (.getfield 12) 18 4 0 0 0 [283]), (18, eA (.aload_n 0) 19 0 0 0 0 []), (19, eA (.getfield 37) 22 4 5 0 0 [288]), (22, eA (.aload_n 0) 23 0 0 0 0 []), (23, eA (.getfield 25) 26 4 2 0 0 [285]), (26, eA (.getfield 83) 29 3 1 1 0 [275]), (29, eA (.invokevirtual 103) 32 61 3 0 7 [706, 674, 675]), (32, eA (.aload_n 0) 33 0 0 0 0 []), (33, eA (.getfield 12) 36 4 0 0 0 [283]), (36, eA (.getfield 63) 39 7 0 1 0 [257]), (39, eA (.ifCond .eq 6) 42 45 0 0 0 []), (42, eC (.bipush (-5)) 44 (-5)), (44, e0 .ireturn 45), (45, eA (.aload_n 0) 46 0 0 0 0 []), (46, eA (.getfield 37) 49 4 5 0 0 [288]), (49, eZ (.ldc2_w 125) 52 (-2) [707]), (52, eA (.invokevirtual 127) 55 5 2 0 0 [708, 709, 710]), (55, eA (.istore_n 1) 56 1 0 0 0 []), (56, eA (.aload_n 0) 57 0 0 0 0 []), (57, eA (.getfield 37) 60 4 5 0 0 [288]), (60, eZ (.ldc2_w 131) 63 2 [715]), (63, eA (.invokevirtual 127) 66 5 2 0 0 [708, 709, 710]), (66, eA (.istore_n 2) 67 2 0 0 0 []), (67, eA (.iload_n 1) 68 1 0 0 0 []), (68, eA (.ifCond .eq 7) 71 75 0 0 0 []), (71, eA (.iload_n 2) 72 2 0 0 0 []), (72, eA (.ifCond .ne 5) 75 77 0 0 0 []), (75, eC (.iconst 1) 76 1), (76, e0 .ireturn 77), (77, eA (.iload_n 1) 78 1 0 0 0 []), (78, eA (.ifCond .le 11) 81 89 0 0 0 []), (81, eA (.iload_n 2) 82 2 0 0 0 []), (82, eA (.ifCond .ge 7) 85 89 0 0 0 []), (85, eC (.iconst 2) 86 2), (86, eA (.goto 4) 89 90 0 0 0 []), (89, eC (.iconst 0) 90 0), (90, e0 .ireturn 91)]
def k_Op_roundsUntilBack : List (Nat × En) := [(0, eA (.aload_n 0) 1 0 0 0 0 []), (1, eA (.getfield 37) 4 4 5 0 0 [288]), (4, eZ (.ldc2_w 133) 7 (-1) [743]), (7, eA (.invokevirtual 127) 10 5 2 0 0 [708, 709, 710]), (10, eA (.ifCond .ne 5) 13 15 0 0 0 []), (13, eC (.iconst 3) 14 3), (14, e0 .ireturn 15), (15, eA (.aload_n 0) 16 0 0 0 0 []), (16, eA (.getfield 37) 19 4 5 0 0 [288]), (19, eZ (.lconst 0) 20 0 []), (20, eA (.invokevirtual 127) 23 5 2 0 0 [708, 709, 710]), (23, eA (.ifCond .ne 5) 26 28 0 0 0 []), (26, eC (.iconst 4) 27 4), (27, e0 .ireturn 28), (28, eA (.aload_n 0) 29 0 0 0 0 []), (29, eA (.getfield 37) 32 4 5 0 0 [288]), (32, eZ (.lconst 1) 33 1 []), (33, eA (.invokevirtual 127) 36 5 2 0 0 [708, 709, 710]), (36, eA (.ifCond .ne 8) 39 44 0 0 0 []), (39, eC (.bipush 6) 41 6), (41, eA (.goto 4) 44 45 0 0 0 []), (44, eC (.iconst 0) 45 0), (45, e0 .ireturn 46)]
def k_Op_reckonMiddleWidth : List (Nat × En) := [(0, eA (.aload_n 0) 1 0 0 0 0 []), (1, eA (.getfield 47) 4 4 8 0 0 [291]), (4, eA (.aload_n 0) 5 0 0 0 0 []), (5, eA (.getfield 21) 8 4 1 0 0 [284]), (8, eA (.getfield 77) 11 3 0 1 0 [273]), (11, eA (.invokevirtual 121) 14 2 2 0 0 [697, 659, 660]), (14, eA (.aload_n 0) 15 0 0 0 0 []), (15, eA (.getfield 12) 18 4 0 0 0 [283]), (18, eA (.aload_n 0) 19 0 0 0 0 []), (19, eA (.getfield 47) 22 4 8 0 0 [291]), (22, eA (.aload_n 0) 23 0 0 0 0 []), (23, eA (.getfield 25) 26 4 2 0 0 [285]), (26, eA (.getfield 83) 29 3 1 1 0 [275]), (29, eA (.invokevirtual 135) 32 62 3 0 7 [724, 682, 683]), (32, eA (.aload_n 0) 33 0 0 0 0 []), (33, eA (.getfield 44) 36 4 7 0 0 [290]), (36, eZ (.lconst 1) 37 1 []), (37, eZ (.ldc2_w 131) 40 2 [715]), (40, eA (.invokevirtual 67) 43 1 3 0 0 [725, 449, 450]), (43, eA (.aload_n 0) 44 0 0 0 0 []), (44, eA (.getfield 12) 47 4 0 0 0 [283]), (47, eA (.aload_n 0) 48 0 0 0 0 []), (48, eA (.getfield 47) 51 4 8 0 0 [291]), (51, eA (.aload_n 0) 52 0 0 0 0 []), (52, eA (.getfield 44) 55 4 7 0 0 [290]), (55, eA (.invokevirtual 138) 58 63 3 0 7 [726, 663, 664]), (58, e0 .return_ 59)]
def k_Op_closeWay : List (Nat × En) := [(0, eA (.aload_n 0) 1 0 0 0 0 []), (1, eA (.invokevirtual 111) 4 24 1 0 4 [637, 639, 19]), (4, eA (.aload_n 0) 5 0 0 0 0 []), (5, eA (.getfield 28) 8 4 3 0 0 [286]), (8, eZ (.lconst 0) 9 0 []), (9, eZ (.lconst 0) 10 0 []), (10, eA (.invokevirtual 110) 13 18 3 0 3 [645, 646, 647]), (13, eC (.iconst 0) 14 0), (14, eA (.istore 4) 16 4 0 0 0 []), (16, eA (.iload 4) 18 4 0 0 0 []), (18, eA (.aload_n 1) 19 1 0 0 0 []), (19, eA (.getfield 118) 22 8 1 1 0 [212]), (22, eA (.if_icmp .ge 76) 25 98 0 0 0 []), (25, eA (.aload_n 0) 26 0 0 0 0 []), (26, eA (.getfield 12) 29 4 0 0 0 [283]), (29, eA (.getfield 63) 32 7 0 1 0 [257]), (32, eA (.ifCond .ne 66) 35 98 0 0 0 []), (35, eA (.aload_n 0) 36 0 0 0 0 []), (36, eA (.aload_n 0) 37 0 0 0 0 []), (37, eA (.getfield 21) 40 4 1 0 0 [284]), (40, eA (.aload_n 1) 41 1 0 0 0 []), (41, eA (.getfield 93) 44 8 0 1 0 [207]), (44, eA (.iload 4) 46 4 0 0 0 []), (46, e0 .aaload 47), (47, eA (.invokevirtual 114) 50 22 3 0 4 [650, 652, 20]), (50, eA (.aload_n 0) 51 0 0 0 0 []), (51, eA (.aload_n 0) 52 0 0 0 0 []), (52, eA (.getfield 25) 55 4 2 0 0 [285]), (55, eA (.aload_n 1) 56 1 0 0 0 []), (56, eA (.getfield 93) 59 8 0 1 0 [207]), (59, eA (.iload 4) 61 4 0 0 0 []), (61, e0 .aaload 62), (62, eA (.invokevirtual 114) 65 22 3 0 4 [650, 652, 20]), (65, eA (.aload_n 0) 66 0 0 0 0 []), (66, eA (.aload_n 0) 67 0 0 0 0 []), (67, eA (.getfield 28) 70 4 3 0 0 [286]), (70, eA (.aload_n 1) 71 1 0 0 0 []), (71, eA (.getfield 93) 74 8 0 1 0 [207]), (74, eA (.iload 4) 76 4 0 0 0 []), (76, e0 .aaload 77), (77, eA (.invokevirtual 114) 80 22 3 0 4 [650, 652, 20]), (80, eA (.aload_n 0) 81 0 0 0 0 []), (81, eA (.aload_n 0) 82 0 0 0 0 []), (82, eA (.getfield 28) 85 4 3 0 0 [286]), (85, eA (.aload_n 1) 86 1 0 0 0 []), (86, eA (.iload 4) 88 4 0 0 0 []), (88, eA (.aload_n 2) 89 2 0 0 0 []), (89, eA (.invokevirtual 141) 92 23 5 0 4 [752, 754, 23]), (92, eI (.iinc 4 1) 95 4 1), (95, eA (.goto (-79)) 98 16 0 0 0 []), (98, eA (.aload_n 0) 99 0 0 0 0 []), (99, eA (.getfield 41) 102 4 6 0 0 [289]), (102, eZ (.ldc2_w 131) 105 2 [715]), (105, eZ (.lconst 1) 106 1 []), (106, eA (.invokevirtual 67) 109 1 3 0 0 [725, 449, 450]), (109, eA (.aload_n 0) 110 0 0 0 0 []), (110, eA (.getfield 12) 113 4 0 0 0 [283]), (113, eA (.aload_n 0) 114 0 0 0 0 []), (114, eA (.getfield 41) 117 4 6 0 0 [289]), (117, eA (.aload_n 0) 118 0 0 0 0 []), (118, eA (.getfield 21) 121 4 1 0 0 [284]), (121, eA (.getfield 77) 124 3 0 1 0 [273]), (124, eA (.invokevirtual 135) 127 62 3 0 7 [724, 682, 683]), (127, eA (.aload_n 0) 128 0 0 0 0 []), (128, eA (.getfield 12) 131 4 0 0 0 [283]), (131, eA (.aload_n 0) 132 0 0 0 0 []), (132, eA (.getfield 41) 135 4 6 0 0 [289]), (135, eA (.aload_n 0) 136 0 0 0 0 []), (136, eA (.getfield 25) 139 4 2 0 0 [285]), (139, eA (.getfield 83) 142 3 1 1 0 [275]), (142, eA (.invokevirtual 135) 145 62 3 0 7 [724, 682, 683]), (145, eA (.aload_n 0) 146 0 0 0 0 []), (146, eA (.getfield 12) 149 4 0 0 0 [283]), (149, eA (.getfield 63) 152 7 0 1 0 [257]), (152, eA (.ifCond .eq 6) 155 158 0 0 0 []), (155, eC (.bipush (-5)) 157 (-5)), (157, e0 .ireturn 158), (158, eA (.aload_n 0) 159 0 0 0 0 []), (159, eA (.getfield 41) 162 4 6 0 0 [289]), (162, eA (.invokevirtual 145) 165 4 1 0 0 [756, 757, 758]), (165, eA (.ifCond .eq 6) 168 171 0 0 0 []), (168, eC (.bipush (-2)) 170 (-2)), (170, e0 .ireturn 171), (171, eA (.aload_n 0) 172 0 0 0 0 []), (172, eA (.invokevirtual 149) 175 30 1 0 4 [760, 762, 24]), (175, eC (.iconst 0) 176 0), (176, eA (.istore 4) 178 4 0 0 0 []), (178, eA (.iload 4) 180 4 0 0 0 []), (180, eA (.iload_n 3) 181 3 0 0 0 []), (181, eA (.if_icmp .ge 55) 184 236 0 0 0 []), (184, eA (.iload 4) 186 4 0 0 0 []), (186, eA (.aload_n 1) 187 1 0 0 0 []), (187, eA (.getfield 118) 190 8 1 1 0 [212]), (190, eA (.if_icmp .ge 46) 193 236 0 0 0 []), (193, eA (.aload_n 0) 194 0 0 0 0 []), (194, eA (.getfield 12) 197 4 0 0 0 [283]), (197, eA (.getfield 63) 200 7 0 1 0 [257]), (200, eA (.ifCond .ne 36) 203 236 0 0 0 []), (203, eA (.aload_n 0) 204 0 0 0 0 []), (204, eA (.aload_n 0) 205 0 0 0 0 []), (205, eA (.getfield 31) 208 4 4 0 0 [287]), (208, eA (.aload_n 1) 209 1 0 0 0 []), (209, eA (.getfield 93) 212 8 0 1 0 [207]), (212, eA (.iload 4) 214 4 0 0 0 []), (214, e0 .aaload 215), (215, eA (.invokevirtual 114) 218 22 3 0 4 [650, 652, 20]), (218, eA (.aload_n 0) 219 0 0 0 0 []), (219, eA (.aload_n 0) 220 0 0 0 0 []), (220, eA (.getfield 31) 223 4 4 0 0 [287]), (223, eA (.aload_n 1) 224 1 0 0 0 []), (224, eA (.iload 4) 226 4 0 0 0 []), (226, eA (.aload_n 2) 227 2 0 0 0 []), (227, eA (.invokevirtual 141) 230 23 5 0 4 [752, 754, 23]), (230, eI (.iinc 4 1) 233 4 1), (233, eA (.goto (-55)) 236 178 0 0 0 []), (236, eA (.aload_n 0) 237 0 0 0 0 []), (237, eA (.getfield 12) 240 4 0 0 0 [283]), (240, eA (.getfield 63) 243 7 0 1 0 [257]), (243, eA (.ifCond .eq 8) 246 251 0 0 0 []), (246, eC (.bipush (-5)) 248 (-5)), (248, eA (.goto 4) 251 252 0 0 0 []), (251, eC (.iconst 0) 252 0), (252, e0 .ireturn 253)]
def k_Op_solveClosed : List (Nat × En) := [(0, eA (.aload_n 0) 1 0 0 0 0 []), (1, eA (.getfield 31) 4 4 4 0 0 [287]), (4, eA (.getfield 77) 7 3 0 1 0 [273]), (7, eZ (.lconst 1) 8 1 []), (8, eZ (.lconst 1) 9 1 []), (9, eA (.invokevirtual 67) 12 1 3 0 0 [725, 449, 450]), (12, eA (.aload_n 0) 13 0 0 0 0 []), (13, eA (.getfield 12) 16 4 0 0 0 [283]), (16, eA (.aload_n 0) 17 0 0 0 0 []), (17, eA (.getfield 31) 20 4 4 0 0 [287]), (20, eA (.getfield 77) 23 3 0 1 0 [273]), (23, eA (.aload_n 0) 24 0 0 0 0 []), (24, eA (.getfield 25) 27 4 2 0 0 [285]), (27, eA (.getfield 83) 30 3 1 1 0 [275]), (30, eA (.invokevirtual 135) 33 62 3 0 7 [724, 682, 683]), (33, eA (.aload_n 0) 34 0 0 0 0 []), (34, eA (.getfield 12) 37 4 0 0 0 [283]), (37, eA (.aload_n 0) 38 0 0 0 0 []), (38, eA (.getfield 31) 41 4 4 0 0 [287]), (41, eA (.getfield 77) 44 3 0 1 0 [273]), (44, eA (.aload_n 0) 45 0 0 0 0 []), (45, eA (.getfield 28) 48 4 3 0 0 [286]), (48, eA (.getfield 77) 51 3 0 1 0 [273]), (51, eA (.invokevirtual 138) 54 63 3 0 7 [726, 663, 664]), (54, eA (.aload_n 0) 55 0 0 0 0 []), (55, eA (.getfield 12) 58 4 0 0 0 [283]), (58, eA (.aload_n 0) 59 0 0 0 0 []), (59, eA (.getfield 31) 62 4 4 0 0 [287]), (62, eA (.getfield 77) 65 3 0 1 0 [273]), (65, eA (.aload_n 0) 66 0 0 0 0 []), (66, eA (.getfield 25) 69 4 2 0 0 [285]), (69, eA (.getfield 77) 72 3 0 1 0 [273]), (72, eA (.aload_n 0) 73 0 0 0 0 []), (73, eA (.getfield 28) 76 4 3 0 0 [286]), (76, eA (.getfield 83) 79 3 1 1 0 [275]), (79, eA (.invokevirtual 86) 82 65 4 0 7 [654, 655, 656]), (82, eA (.aload_n 0) 83 0 0 0 0 []), (83, eA (.getfield 12) 86 4 0 0 0 [283]), (86, eA (.aload_n 0) 87 0 0 0 0 []), (87, eA (.getfield 31) 90 4 4 0 0 [287]), (90, eA (.getfield 77) 93 3 0 1 0 [273]), (93, eA (.aload_n 0) 94 0 0 0 0 []), (94, eA (.getfield 41) 97 4 6 0 0 [289]), (97, eA (.invokevirtual 152) 100 64 3 0 7 [764, 765, 766]), (100, eA (.aload_n 0) 101 0 0 0 0 []), (101, eA (.getfield 44) 104 4 7 0 0 [290]), (104, eZ (.lconst 1) 105 1 []), (105, eZ (.lconst 1) 106 1 []), (106, eA (.invokevirtual 67) 109 1 3 0 0 [725, 449, 450]), (109, eA (.aload_n 0) 110 0 0 0 0 []), (110, eA (.getfield 12) 113 4 0 0 0 [283]), (113, eA (.aload_n 0) 114 0 0 0 0 []), (114, eA (.getfield 44) 117 4 7 0 0 [290]), (117, eA (.aload_n 0) 118 0 0 0 0 []), (118, eA (.getfield 21) 121 4 1 0 0 [284]), (121, eA (.getfield 77) 124 3 0 1 0 [273]), (124, eA (.invokevirtual 135) 127 62 3 0 7 [724, 682, 683]), (127, eA (.aload_n 0) 128 0 0 0 0 []), (128, eA (.getfield 31) 131 4 4 0 0 [287]), (131, eA (.getfield 83) 134 3 1 1 0 [275]), (134, eA (.aload_n 0) 135 0 0 0 0 []), (135, eA (.getfield 21) 138 4 1 0 0 [284]), (138, eA (.getfield 83) 141 3 1 1 0 [275]), (141, eA (.invokevirtual 121) 144 2 2 0 0 [697, 659, 660]), (144, eA (.aload_n 0) 145 0 0 0 0 []), (145, eA (.getfield 12) 148 4 0 0 0 [283]), (148, eA (.aload_n 0) 149 0 0 0 0 []), (149, eA (.getfield 31) 152 4 4 0 0 [287]), (152, eA (.getfield 83) 155 3 1 1 0 [275]), (155, eA (.aload_n 0) 156 0 0 0 0 []), (156, eA (.getfield 28) 159 4 3 0 0 [286]), (159, eA (.getfield 77) 162 3 0 1 0 [273]), (162, eA (.invokevirtual 138) 165 63 3 0 7 [726, 663, 664]), (165, eA (.aload_n 0) 166 0 0 0 0 []), (166, eA (.getfield 12) 169 4 0 0 0 [283]), (169, eA (.aload_n 0) 170 0 0 0 0 []), (170, eA (.getfield 31) 173 4 4 0 0 [287]), (173, eA (.getfield 83) 176 3 1 1 0 [275]), (176, eA (.aload_n 0) 177 0 0 0 0 []), (177, eA (.getfield 44) 180 4 7 0 0 [290]), (180, eA (.aload_n 0) 181 0 0 0 0 []), (181, eA (.getfield 28) 184 4 3 0 0 [286]), (184, eA (.getfield 83) 187 3 1 1 0 [275]), (187, eA (.invokevirtual 86) 190 65 4 0 7 [654, 655, 656]), (190, eA (.aload_n 0) 191 0 0 0 0 []), (191, eA (.getfield 12) 194 4 0 0 0 [283]), (194, eA (.aload_n 0) 195 0 0 0 0 []), (195, eA (.getfield 31) 198 4 4 0 0 [287]), (198, eA (.getfield 83) 201 3 1 1 0 [275]), (201, eA (.aload_n 0) 202 0 0 0 0 []), (202, eA (.getfield 41) 205 4 6 0 0 [289]), (205, eA (.invokevirtual 152) 208 64 3 0 7 [764, 765, 766]), (208, e0 .return_ 209)]
def k_Op_closeBump : List (Nat × En) := [(0, eA (.aload_n 0) 1 0 0 0 0 []), (1, eA (.aload_n 1) 2 1 0 0 0 []), (2, eA (.iload_n 2) 3 2 0 0 0 []), (3, eA (.iload 4) 5 4 0 0 0 []), (5, eA (.iload_n 2) 6 2 0 0 0 []), (6, e0 .isub 7), (7, eA (.invokevirtual 155) 10 25 4 0 4 [796, 634, 635]), (10, eA (.aload_n 0) 11 0 0 0 0 []), (11, eA (.getfield 12) 14 4 0 0 0 [283]), (14, eA (.getfield 63) 17 7 0 1 0 [257]), (17, eA (.ifCond .eq 6) 20 23 0 0 0 []), (20, eC (.bipush (-5)) 22 (-5)), (22, e0 .ireturn 23), (23, eA (.aload_n 0) 24 0 0 0 0 []), (24, eA (.getfield 50) 27 4 9 0 0 [292]), (27, eA (.aload_n 0) 28 0 0 0 0 []), (28, eA (.getfield 25) 31 4 2 0 0 [285]), (31, eA (.getfield 77) 34 3 0 1 0 [273]), (34, eA (.invokevirtual 121) 37 2 2 0 0 [697, 659, 660]), (37, eA (.aload_n 0) 38 0 0 0 0 []), (38, eA (.getfield 53) 41 4 10 0 0 [293]), (41, eA (.aload_n 0) 42 0 0 0 0 []), (42, eA (.getfield 25) 45 4 2 0 0 [285]), (45, eA (.getfield 83) 48 3 1 1 0 [275]), (48, eA (.invokevirtual 121) 51 2 2 0 0 [697, 659, 660]), (51, eA (.aload_n 0) 52 0 0 0 0 []), (52, eA (.aload_n 1) 53 1 0 0 0 []), (53, eA (.iload_n 3) 54 3 0 0 0 []), (54, eA (.iload 4) 56 4 0 0 0 []), (56, eA (.iload_n 3) 57 3 0 0 0 []), (57, e0 .isub 58), (58, eA (.invokevirtual 155) 61 25 4 0 4 [796, 634, 635]), (61, eA (.aload_n 0) 62 0 0 0 0 []), (62, eA (.getfield 12) 65 4 0 0 0 [283]), (65, eA (.getfield 63) 68 7 0 1 0 [257]), (68, eA (.ifCond .eq 6) 71 74 0 0 0 []), (71, eC (.bipush (-5)) 73 (-5)), (73, e0 .ireturn 74), (74, eA (.aload_n 0) 75 0 0 0 0 []), (75, eA (.getfield 25) 78 4 2 0 0 [285]), (78, eA (.getfield 77) 81 3 0 1 0 [273]), (81, eA (.invokevirtual 145) 84 4 1 0 0 [756, 757, 758]), (84, eA (.ifCond .eq 6) 87 90 0 0 0 []), (87, eC (.bipush (-2)) 89 (-2)), (89, e0 .ireturn 90), (90, eA (.aload_n 0) 91 0 0 0 0 []), (91, eA (.getfield 50) 94 4 9 0 0 [292]), (94, eA (.invokevirtual 159) 97 3 1 0 0 [731, 732, 733]), (97, eA (.aload_n 0) 98 0 0 0 0 []), (98, eA (.getfield 12) 101 4 0 0 0 [283]), (101, eA (.aload_n 0) 102 0 0 0 0 []), (102, eA (.getfield 50) 105 4 9 0 0 [292]), (105, eA (.aload_n 0) 106 0 0 0 0 []), (106, eA (.getfield 25) 109 4 2 0 0 [285]), (109, eA (.getfield 77) 112 3 0 1 0 [273]), (112, eA (.invokevirtual 152) 115 64 3 0 7 [764, 765, 766]), (115, eA (.aload_n 0) 116 0 0 0 0 []), (116, eA (.getfield 53) 119 4 10 0 0 [293]), (119, eA (.invokevirtual 159) 122 3 1 0 0 [731, 732, 733]), (122, eA (.aload_n 0) 123 0 0 0 0 []), (123, eA (.getfield 12) 126 4 0 0 0 [283]), (126, eA (.aload_n 0) 127 0 0 0 0 []), (127, eA (.getfield 53) 130 4 10 0 0 [293]), (130, eA (.aload_n 0) 131 0 0 0 0 []), (131, eA (.getfield 50) 134 4 9 0 0 [292]), (134, eA (.aload_n 0) 135 0 0 0 0 []), (135, eA (.getfield 25) 138 4 2 0 0 [285]), (138, eA (.getfield 83) 141 3 1 1 0 [275]), (141, eA (.invokevirtual 90) 144 66 4 0 7 [677, 678, 679]), (144, eA (.aload_n 0) 145 0 0 0 0 []), (145, eA (.getfield 12) 148 4 0 0 0 [283]), (148, eA (.getfield 63) 151 7 0 1 0 [257]), (151, eA (.ifCond .eq 8) 154 159 0 0 0 []), (154, eC (.bipush (-5)) 156 (-5)), (156, eA (.goto 4) 159 160 0 0 0 []), (159, eC (.iconst 0) 160 0), (160, e0 .ireturn 161)]
def k_Op_hasTold : List (Nat × En) := [(0, eA (.iload_n 1) 1 1 0 0 0 []), (1, eA (.ifCond .lt 15) 4 16 0 0 0 []), (4, eA (.iload_n 1) 5 1 0 0 0 []), (5, eA (.aload_n 0) 6 0 0 0 0 []), (6, eA (.getfield 162) 9 4 13 0 0 [297]), (9, eA (.if_icmp .ge 7) 12 16 0 0 0 []), (12, eC (.iconst 1) 13 1), (13, eA (.goto 4) 16 17 0 0 0 []), (16, eC (.iconst 0) 17 0), (17, e0 .ireturn 18)]
def k_Op_tell : List (Nat × En) := [(0, eA (.aload_n 0) 1 0 0 0 0 []), (1, eA (.getfield 162) 4 4 13 0 0 [297]), (4, eC (.iconst 4) 5 4), (5, eA (.if_icmp .ge 26) 8 31 0 0 0 []), (8, eA (.aload_n 0) 9 0 0 0 0 []), (9, eA (.getfield 60) 12 4 12 0 0 [295]), (12, eA (.aload_n 0) 13 0 0 0 0 []), (13, eA (.getfield 162) 16 4 13 0 0 [297]), (16, e0 .aaload 17), (17, eA (.aload_n 1) 18 1 0 0 0 []), (18, eA (.invokevirtual 121) 21 2 2 0 0 [697, 659, 660]), (21, eA (.aload_n 0) 22 0 0 0 0 []), (22, e0 .dup 23), (23, eA (.getfield 162) 26 4 13 0 0 [297]), (26, eC (.iconst 1) 27 1), (27, e0 .iadd 28), (28, eA (.putfield 162) 31 4 13 0 0 [297]), (31, e0 .return_ 32)]
def k_Op_tellTable : List (Nat × En) := [(0, eA (.aload_n 0) 1 0 0 0 0 []), (1, eC (.iconst 0) 2 0), (2, eA (.putfield 162) 5 4 13 0 0 [297]), (5, eA (.aload_n 0) 6 0 0 0 0 []), (6, eA (.aload_n 0) 7 0 0 0 0 []), (7, eA (.getfield 21) 10 4 1 0 0 [284]), (10, eA (.getfield 77) 13 3 0 1 0 [273]), (13, eA (.invokevirtual 165) 16 33 2 0 4 [693, 695, 22]), (16, eA (.aload_n 0) 17 0 0 0 0 []), (17, eA (.aload_n 0) 18 0 0 0 0 []), (18, eA (.getfield 25) 21 4 2 0 0 [285]), (21, eA (.getfield 77) 24 3 0 1 0 [273]), (24, eA (.invokevirtual 165) 27 33 2 0 4 [693, 695, 22]), (27, eA (.aload_n 0) 28 0 0 0 0 []), (28, eA (.aload_n 0) 29 0 0 0 0 []), (29, eA (.getfield 21) 32 4 1 0 0 [284]), (32, eA (.getfield 83) 35 3 1 1 0 [275]), (35, eA (.invokevirtual 165) 38 33 2 0 4 [693, 695, 22]), (38, eA (.aload_n 0) 39 0 0 0 0 []), (39, eA (.aload_n 0) 40 0 0 0 0 []), (40, eA (.getfield 25) 43 4 2 0 0 [285]), (43, eA (.getfield 83) 46 3 1 1 0 [275]), (46, eA (.invokevirtual 165) 49 33 2 0 4 [693, 695, 22]), (49, eA (.aload_n 0) 50 0 0 0 0 []), (50, eA (.getfield 162) 53 4 13 0 0 [297]), (53, e0 .ireturn 54)]
def k_Op_tellWidths : List (Nat × En) := [(0, eA (.aload_n 0) 1 0 0 0 0 []), (1, eA (.getfield 21) 4 4 1 0 0 [284]), (4, eA (.getfield 83) 7 3 1 1 0 [275]), (7, eA (.invokevirtual 159) 10 3 1 0 0 [731, 732, 733]), (10, eA (.aload_n 0) 11 0 0 0 0 []), (11, eC (.iconst 0) 12 0), (12, eA (.putfield 162) 15 4 13 0 0 [297]), (15, eA (.aload_n 0) 16 0 0 0 0 []), (16, eA (.aload_n 0) 17 0 0 0 0 []), (17, eA (.getfield 25) 20 4 2 0 0 [285]), (20, eA (.getfield 77) 23 3 0 1 0 [273]), (23, eA (.invokevirtual 165) 26 33 2 0 4 [693, 695, 22]), (26, eA (.aload_n 0) 27 0 0 0 0 []), (27, eA (.aload_n 0) 28 0 0 0 0 []), (28, eA (.getfield 47) 31 4 8 0 0 [291]), (31, eA (.invokevirtual 165) 34 33 2 0 4 [693, 695, 22]), (34, eA (.aload_n 0) 35 0 0 0 0 []), (35, eA (.aload_n 0) 36 0 0 0 0 []), (36, eA (.getfield 21) 39 4 1 0 0 [284]), (39, eA (.getfield 83) 42 3 1 1 0 [275]), (42, eA (.invokevirtual 165) 45 33 2 0 4 [693, 695, 22]), (45, eA (.aload_n 0) 46 0 0 0 0 []), (46, eA (.getfield 162) 49 4 13 0 0 [297]), (49, e0 .ireturn 50)]
def k_Op_tellWay : List (Nat × En) := [(0, eA (.aload_n 0) 1 0 0 0 0 []), (1, eC (.iconst 0) 2 0), (2, eA (.putfield 162) 5 4 13 0 0 [297]), (5, eA (.aload_n 0) 6 0 0 0 0 []), (6, eA (.aload_n 0) 7 0 0 0 0 []), (7, eA (.getfield 31) 10 4 4 0 0 [287]), (10, eA (.getfield 77) 13 3 0 1 0 [273]), (13, eA (.invokevirtual 165) 16 33 2 0 4 [693, 695, 22]), (16, eA (.aload_n 0) 17 0 0 0 0 []), (17, eA (.aload_n 0) 18 0 0 0 0 []), (18, eA (.getfield 31) 21 4 4 0 0 [287]), (21, eA (.getfield 83) 24 3 1 1 0 [275]), (24, eA (.invokevirtual 165) 27 33 2 0 4 [693, 695, 22]), (27, eA (.aload_n 0) 28 0 0 0 0 []), (28, eA (.getfield 162) 31 4 13 0 0 [297]), (31, e0 .ireturn 32)]
def k_Op_tellWayX : List (Nat × En) := [(0, eA (.aload_n 0) 1 0 0 0 0 []), (1, eC (.iconst 0) 2 0), (2, eA (.putfield 162) 5 4 13 0 0 [297]), (5, eA (.aload_n 0) 6 0 0 0 0 []), (6, eA (.aload_n 0) 7 0 0 0 0 []), (7, eA (.getfield 31) 10 4 4 0 0 [287]), (10, eA (.getfield 77) 13 3 0 1 0 [273]), (13, eA (.invokevirtual 165) 16 33 2 0 4 [693, 695, 22]), (16, eA (.aload_n 0) 17 0 0 0 0 []), (17, eA (.getfield 162) 20 4 13 0 0 [297]), (20, e0 .ireturn 21)]
def k_Op_tellBump : List (Nat × En) := [(0, eA (.aload_n 0) 1 0 0 0 0 []), (1, eC (.iconst 0) 2 0), (2, eA (.putfield 162) 5 4 13 0 0 [297]), (5, eA (.aload_n 0) 6 0 0 0 0 []), (6, eA (.aload_n 0) 7 0 0 0 0 []), (7, eA (.getfield 50) 10 4 9 0 0 [292]), (10, eA (.invokevirtual 165) 13 33 2 0 4 [693, 695, 22]), (13, eA (.aload_n 0) 14 0 0 0 0 []), (14, eA (.aload_n 0) 15 0 0 0 0 []), (15, eA (.getfield 53) 18 4 10 0 0 [293]), (18, eA (.invokevirtual 165) 21 33 2 0 4 [693, 695, 22]), (21, eA (.aload_n 0) 22 0 0 0 0 []), (22, eA (.getfield 162) 25 4 13 0 0 [297]), (25, e0 .ireturn 26)]
def k_Pa_init : List (Nat × En) := [(0, eA (.aload_n 0) 1 0 0 0 0 []), (1, eA (.invokespecial 1) 4 0 1 6 0 [463, 77, 78]), (4, eA (.aload_n 0) 5 0 0 0 0 []), (5, eA (.iload_n 1) 6 1 0 0 0 []), (6, eA (.putfield 7) 9 5 0 2 0 [464]), (9, eA (.aload_n 0) 10 0 0 0 0 []), (10, eA (.aload_n 2) 11 2 0 0 0 []), (11, eA (.putfield 13) 14 5 1 2 0 [470]), (14, e0 .return_ 15)]
def k_Re_init : List (Nat × En) := [(0, eA (.aload_n 0) 1 0 0 0 0 []), (1, eA (.invokespecial 3) 4 0 1 6 0 [84, 77, 78]), (4, eA (.aload_n 0) 5 0 0 0 0 []), (5, eA (.new 9) 8 10 0 0 0 [85, 86, 58]), (8, e0 .dup 9), (9, eA (.invokespecial 11) 12 79 1 1 10 [87, 88]), (12, eA (.putfield 12) 15 6 0 2 0 [143]), (15, eA (.aload_n 0) 16 0 0 0 0 []), (16, eA (.new 18) 19 9 0 0 0 [115, 116, 59]), (19, e0 .dup 20), (20, eA (.invokespecial 20) 23 74 1 1 9 [117, 118]), (23, eA (.putfield 21) 26 6 1 2 0 [145]), (26, eA (.aload_n 0) 27 0 0 0 0 []), (27, eC (.bipush 6) 29 6), (29, eA (.newarray .int) 31 16 0 0 0 [181]), (31, eA (.putfield 25) 34 6 2 2 0 [146]), (34, eA (.aload_n 0) 35 0 0 0 0 []), (35, eC (.bipush 6) 37 6), (37, eA (.newarray .int) 39 16 0 0 0 [181]), (39, eA (.putfield 29) 42 6 3 2 0 [147]), (42, e0 .return_ 43)]
def k_Re_findFault : List (Nat × En) := [(0, eA (.aload_n 0) 1 0 0 0 0 []), (1, eA (.getfield 12) 4 6 0 0 0 [143]), (4, eA (.invokevirtual 32) 7 82 1 0 10 [397, 398, 399]), (7, eA (.aload_n 0) 8 0 0 0 0 []), (8, eA .aconst_null 9 2 0 0 0 []), (9, eA (.putfield 35) 12 6 5 0 0 [149]), (12, eA (.aload_n 0) 13 0 0 0 0 []), (13, eC (.iconst 0) 14 0), (14, eA (.putfield 39) 17 6 6 0 0 [150]), (17, eC (.iconst 0) 18 0), (18, eA (.istore_n 1) 19 1 0 0 0 []), (19, eA (.iload_n 1) 20 1 0 0 0 []), (20, eC (.sipush 1500) 23 1500), (23, eA (.if_icmp .gt 38) 26 61 0 0 0 []), (26, eA (.aload_n 0) 27 0 0 0 0 []), (27, eA (.getfield 12) 30 6 0 0 0 [143]), (30, eA (.invokevirtual 43) 33 83 1 0 10 [401, 402, 403]), (33, eA (.aload_n 0) 34 0 0 0 0 []), (34, eA (.invokevirtual 46) 37 44 1 0 6 [438, 440, 4]), (37, eA (.istore_n 2) 38 2 0 0 0 []), (38, eA (.iload_n 2) 39 2 0 0 0 []), (39, eA (.ifCond .ne 14) 42 53 0 0 0 []), (42, eA (.aload_n 0) 43 0 0 0 0 []), (43, eA (.getfield 12) 46 6 0 0 0 [143]), (46, eA (.getfield 50) 49 10 2 1 0 [94]), (49, eC (.iconst (-1)) 50 (-1)), (50, eA (.if_icmp .ne 5) 53 55 0 0 0 []), (53, eA (.iload_n 2) 54 2 0 0 0 []), (54, e0 .ireturn 55), (55, eI (.iinc 1 1) 58 1 1), (58, eA (.goto (-39)) 61 19 0 0 0 []), (61, eC (.iconst 2) 62 2), (62, e0 .ireturn 63)]
def k_Re_faultPlace : List (Nat × En) := [(0, eA (.aload_n 0) 1 0 0 0 0 []), (1, eA (.getfield 12) 4 6 0 0 0 [143]), (4, eA (.getfield 53) 7 10 3 1 0 [96]), (7, e0 .ireturn 8)]
def k_Re_lastLine : List (Nat × En) := [(0, eA (.aload_n 0) 1 0 0 0 0 []), (1, eA (.getfield 35) 4 6 5 0 0 [149]), (4, e0 .areturn 5)]
def k_Re_take : List (Nat × En) := [(0, eA (.aload_n 0) 1 0 0 0 0 []), (1, eA (.getfield 12) 4 6 0 0 0 [143]), (4, eA (.getfield 50) 7 10 2 1 0 [94]), (7, eC (.bipush (-2)) 9 (-2)), (9, eA (.if_icmp .ne 5) 12 14 0 0 0 []), (12, eC (.iconst 1) 13 1), (13, e0 .ireturn 14), (14, eA (.aload_n 0) 15 0 0 0 0 []), (15, eA (.getfield 39) 18 6 6 0 0 [150]), (18, eC (.bipush 6) 20 6), (20, eA (.if_icmp .ne 29) 23 49 0 0 0 []), (23, eA (.aload_n 0) 24 0 0 0 0 []), (24, eA (.getfield 12) 27 6 0 0 0 [143]), (27, eA (.getfield 50) 30 10 2 1 0 [94]), (30, eC (.bipush 47) 32 47), (32, eA (.if_icmp .eq 17) 35 49 0 0 0 []), (35, eA (.aload_n 0) 36 0 0 0 0 []), (36, eA (.aload_n 0) 37 0 0 0 0 []), (37, eA (.getfield 56) 40 6 8 0 0 [152]), (40, eA (.aload_n 0) 41 0 0 0 0 []), (41, eA (.getfield 57) 44 6 10 0 0 [154]), (44, eC (.iconst 1) 45 1), (45, eA (.invokevirtual 60) 48 52 4 0 6 [442, 444, 5]), (48, e0 .pop 49), (49, eA (.aload_n 0) 50 0 0 0 0 []), (50, eA (.getfield 39) 53 6 6 0 0 [150]), (53, eS (.tableswitch 121 0 8 #[51, 56, 64, 69, 88, 93, 98, 107, 112]) 104 174 [(0, 104), (1, 109), (2, 117), (3, 122), (4, 141), (5, 146), (6, 151), (7, 160), (8, 165)]), (104, eA (.aload_n 0) 105 0 0 0 0 []), (105, eA (.invokevirtual 64) 108 46 1 0 6 [483, 485, 6]), (108, e0 .ireturn 109), (109, eA (.aload_n 0) 110 0 0 0 0 []), (110, eC (.bipush 61) 112 61), (112, eC (.iconst 2) 113 2), (113, eA (.invokevirtual 67) 116 45 3 0 6 [503, 505, 8]), (116, e0 .ireturn 117), (117, eA (.aload_n 0) 118 0 0 0 0 []), (118, eA (.invokevirtual 71) 121 48 1 0 6 [507, 509, 9]), (121, e0 .ireturn 122), (122, eA (.aload_n 0) 123 0 0 0 0 []), (123, eA (.invokevirtual 74) 126 57 1 0 6 [530, 532, 13]), (126, eA (.ifCond .eq 10) 129 136 0 0 0 []), (129, eA (.aload_n 0) 130 0 0 0 0 []), (130, eA (.invokevirtual 78) 133 58 1 0 6 [534, 536, 14]), (133, eA (.goto 7) 136 140 0 0 0 []), (136, eA (.aload_n 0) 137 0 0 0 0 []), (137, eA (.invokevirtual 71) 140 48 1 0 6 [507, 509, 9]), (140, e0 .ireturn 141), (141, eA (.aload_n 0) 142 0 0 0 0 []), (142, eA (.invokevirtual 81) 145 53 1 0 6 [563, 565, 15]), (145, e0 .ireturn 146), (146, eA (.aload_n 0) 147 0 0 0 0 []), (147, eA (.invokevirtual 84) 150 54 1 0 6 [567, 569, 16]), (150, e0 .ireturn 151), (151, eA (.aload_n 0) 152 0 0 0 0 []), (152, eC (.bipush 47) 154 47), (154, eC (.bipush 7) 156 7), (156, eA (.invokevirtual 67) 159 45 3 0 6 [503, 505, 8]), (159, e0 .ireturn 160), (160, eA (.aload_n 0) 161 0 0 0 0 []), (161, eA (.invokevirtual 87) 164 55 1 0 6 [571, 573, 17]), (164, e0 .ireturn 165), (165, eA (.aload_n 0) 166 0 0 0 0 []), (166, eC (.bipush 42) 168 42), (168, eC (.bipush 9) 170 9), (170, eA (.invokevirtual 67) 173 45 3 0 6 [503, 505, 8]), (173, e0 .ireturn 174), (174, eA (.aload_n 0) 175 0 0 0 0 []), (175, eA (.invokevirtual 90) 178 56 1 0 6 [575, 577, 18]), (178, e0 .ireturn 179)]
def k_Re_takeAlone : List (Nat × En) := [(0, eA (.aload_n 0) 1 0 0 0 0 []), (1, eA (.getfield 12) 4 6 0 0 0 [143]), (4, eA (.getfield 50) 7 10 2 1 0 [94]), (7, eA (.iload_n 1) 8 1 0 0 0 []), (8, eA (.if_icmp .eq 5) 11 13 0 0 0 []), (11, eC (.iconst 2) 12 2), (12, e0 .ireturn 13), (13, eA (.aload_n 0) 14 0 0 0 0 []), (14, eA (.iload_n 2) 15 2 0 0 0 []), (15, eA (.putfield 39) 18 6 6 0 0 [150]), (18, eC (.iconst 0) 19 0), (19, e0 .ireturn 20)]
def k_Re_takeLineName : List (Nat × En) := [(0, eA (.aload_n 0) 1 0 0 0 0 []), (1, eA (.getfield 12) 4 6 0 0 0 [143]), (4, eA (.getfield 50) 7 10 2 1 0 [94]), (7, eC (.iconst (-1)) 8 (-1)), (8, eA (.if_icmp .ne 16) 11 24 0 0 0 []), (11, eA (.aload_n 0) 12 0 0 0 0 []), (12, eA (.getfield 35) 15 6 5 0 0 [149]), (15, eA (.ifnonnull 7) 18 22 0 0 0 []), (18, eC (.iconst 2) 19 2), (19, eA (.goto 4) 22 23 0 0 0 []), (22, eC (.iconst 0) 23 0), (23, e0 .ireturn 24), (24, eA (.aload_n 0) 25 0 0 0 0 []), (25, eA (.getfield 12) 28 6 0 0 0 [143]), (28, eA (.getfield 50) 31 10 2 1 0 [94]), (31, eC (.bipush (-3)) 33 (-3)), (33, eA (.if_icmp .ne 27) 36 60 0 0 0 []), (36, eA (.aload_n 0) 37 0 0 0 0 []), (37, eA (.getfield 12) 40 6 0 0 0 [143]), (40, eA (.invokevirtual 93) 43 89 1 0 10 [487, 488, 489]), (43, eA (.ifCond .ne 17) 46 60 0 0 0 []), (46, eA (.aload_n 0) 47 0 0 0 0 []), (47, eA (.aload_n 0) 48 0 0 0 0 []), (48, eA (.getfield 12) 51 6 0 0 0 [143]), (51, eA (.getfield 96) 54 10 5 1 0 [99]), (54, eA (.invokevirtual 100) 57 47 2 0 6 [495, 497, 7]), (57, eA (.ifnull 5) 60 62 0 0 0 []), (60, eC (.iconst 2) 61 2), (61, e0 .ireturn 62), (62, eA (.aload_n 0) 63 0 0 0 0 []), (63, eA (.aload_n 0) 64 0 0 0 0 []), (64, eA (.getfield 12) 67 6 0 0 0 [143]), (67, eA (.getfield 96) 70 10 5 1 0 [99]), (70, eA (.putfield 104) 73 6 7 0 0 [151]), (73, eA (.aload_n 0) 74 0 0 0 0 []), (74, eA (.getfield 21) 77 6 1 0 0 [145]), (77, eA (.invokevirtual 107) 80 75 1 0 9 [499, 500, 501]), (80, eA (.aload_n 0) 81 0 0 0 0 []), (81, eC (.iconst 0) 82 0), (82, eA (.putfield 110) 85 6 4 0 0 [148]), (85, eA (.aload_n 0) 86 0 0 0 0 []), (86, eC (.iconst 1) 87 1), (87, eA (.putfield 39) 90 6 6 0 0 [150]), (90, eC (.iconst 0) 91 0), (91, e0 .ireturn 92)]
def k_Re_lineOf : List (Nat × En) := [(0, eA (.aload_n 0) 1 0 0 0 0 []), (1, eA (.getfield 35) 4 6 5 0 0 [149]), (4, eA (.astore_n 3) 5 3 0 0 0 []), (5, eA (.aload_n 3) 6 3 0 0 0 []), (6, eA (.ifnull 22) 9 28 0 0 0 []), (9, eA (.aload_n 3) 10 3 0 0 0 []), (10, eA (.getfield 113) 13 2 0 1 0 [550]), (13, eA (.lload_n 1) 14 1 0 0 0 []), (14, e0 .lcmp 15), (15, eA (.ifCond .ne 5) 18 20 0 0 0 []), (18, eA (.aload_n 3) 19 3 0 0 0 []), (19, e0 .areturn 20), (20, eA (.aload_n 3) 21 3 0 0 0 []), (21, eA (.getfield 118) 24 2 2 1 0 [555]), (24, eA (.astore_n 3) 25 3 0 0 0 []), (25, eA (.goto (-20)) 28 5 0 0 0 []), (28, eA .aconst_null 29 2 0 0 0 []), (29, e0 .areturn 30)]
def k_Re_takeItem : List (Nat × En) := [(0, eA (.aload_n 0) 1 0 0 0 0 []), (1, eA (.getfield 12) 4 6 0 0 0 [143]), (4, eA (.getfield 50) 7 10 2 1 0 [94]), (7, eC (.bipush (-4)) 9 (-4)), (9, eA (.if_icmp .ne 8) 12 17 0 0 0 []), (12, eA (.aload_n 0) 13 0 0 0 0 []), (13, eA (.invokevirtual 121) 16 49 1 0 6 [511, 513, 10]), (16, e0 .ireturn 17), (17, eA (.aload_n 0) 18 0 0 0 0 []), (18, eA (.getfield 12) 21 6 0 0 0 [143]), (21, eA (.getfield 50) 24 10 2 1 0 [94]), (24, eC (.bipush (-3)) 26 (-3)), (26, eA (.if_icmp .eq 5) 29 31 0 0 0 []), (29, eC (.iconst 2) 30 2), (30, e0 .ireturn 31), (31, eA (.aload_n 0) 32 0 0 0 0 []), (32, eA (.getfield 12) 35 6 0 0 0 [143]), (35, eC (.bipush 100) 37 100), (37, eA (.invokevirtual 124) 40 88 2 0 10 [516, 492, 493]), (40, eA (.ifCond .eq 9) 43 49 0 0 0 []), (43, eA (.aload_n 0) 44 0 0 0 0 []), (44, eC (.iconst 0) 45 0), (45, eA (.invokevirtual 128) 48 51 2 0 6 [517, 519, 11]), (48, e0 .ireturn 49), (49, eA (.aload_n 0) 50 0 0 0 0 []), (50, eA (.getfield 12) 53 6 0 0 0 [143]), (53, eC (.bipush 113) 55 113), (55, eA (.invokevirtual 124) 58 88 2 0 10 [516, 492, 493]), (58, eA (.ifCond .eq 9) 61 67 0 0 0 []), (61, eA (.aload_n 0) 62 0 0 0 0 []), (62, eC (.iconst 1) 63 1), (63, eA (.invokevirtual 128) 66 51 2 0 6 [517, 519, 11]), (66, e0 .ireturn 67), (67, eA (.aload_n 0) 68 0 0 0 0 []), (68, eA (.getfield 12) 71 6 0 0 0 [143]), (71, eC (.bipush 115) 73 115), (73, eA (.invokevirtual 124) 76 88 2 0 10 [516, 492, 493]), (76, eA (.ifCond .eq 9) 79 85 0 0 0 []), (79, eA (.aload_n 0) 80 0 0 0 0 []), (80, eC (.iconst 2) 81 2), (81, eA (.invokevirtual 128) 84 51 2 0 6 [517, 519, 11]), (84, e0 .ireturn 85), (85, eA (.aload_n 0) 86 0 0 0 0 []), (86, eA (.getfield 12) 89 6 0 0 0 [143]), (89, eC (.bipush 107) 91 107), (91, eA (.invokevirtual 124) 94 88 2 0 10 [516, 492, 493]), (94, eA (.ifCond .eq 11) 97 105 0 0 0 []), (97, eA (.aload_n 0) 98 0 0 0 0 []), (98, eC (.iconst 3) 99 3), (99, eC (.iconst 0) 100 0), (100, eC (.iconst 1) 101 1), (101, eA (.invokevirtual 60) 104 52 4 0 6 [442, 444, 5]), (104, e0 .ireturn 105), (105, eA (.aload_n 0) 106 0 0 0 0 []), (106, eA (.getfield 12) 109 6 0 0 0 [143]), (109, eC (.bipush 109) 111 109), (111, eA (.invokevirtual 124) 114 88 2 0 10 [516, 492, 493]), (114, eA (.ifCond .eq 11) 117 125 0 0 0 []), (117, eA (.aload_n 0) 118 0 0 0 0 []), (118, eC (.iconst 4) 119 4), (119, eC (.iconst 0) 120 0), (120, eC (.iconst 1) 121 1), (121, eA (.invokevirtual 60) 124 52 4 0 6 [442, 444, 5]), (124, e0 .ireturn 125), (125, eA (.aload_n 0) 126 0 0 0 0 []), (126, eA (.invokevirtual 132) 129 50 1 0 6 [521, 523, 12]), (129, e0 .ireturn 130)]
def k_Re_takeTimes : List (Nat × En) := [(0, eA (.aload_n 0) 1 0 0 0 0 []), (1, eA (.getfield 12) 4 6 0 0 0 [143]), (4, eA (.getfield 96) 7 10 5 1 0 [99]), (7, eZ (.lconst 1) 8 1 []), (8, e0 .lcmp 9), (9, eA (.ifCond .lt 17) 12 26 0 0 0 []), (12, eA (.aload_n 0) 13 0 0 0 0 []), (13, eA (.getfield 12) 16 6 0 0 0 [143]), (16, eA (.getfield 96) 19 10 5 1 0 [99]), (19, eZ (.ldc2_w 135) 22 40 [515]), (22, e0 .lcmp 23), (23, eA (.ifCond .le 5) 26 28 0 0 0 []), (26, eC (.iconst 2) 27 2), (27, e0 .ireturn 28), (28, eA (.aload_n 0) 29 0 0 0 0 []), (29, eA (.aload_n 0) 30 0 0 0 0 []), (30, eA (.getfield 12) 33 6 0 0 0 [143]), (33, eA (.getfield 96) 36 10 5 1 0 [99]), (36, e0 .l2i 37), (37, eA (.putfield 137) 40 6 11 0 0 [155]), (40, eA (.aload_n 0) 41 0 0 0 0 []), (41, eC (.bipush 8) 43 8), (43, eA (.putfield 39) 46 6 6 0 0 [150]), (46, eC (.iconst 0) 47 0), (47, e0 .ireturn 48)]
def k_Re_takeToldName : List (Nat × En) := [(0, eA (.aload_n 0) 1 0 0 0 0 []), (1, eA (.aload_n 0) 2 0 0 0 0 []), (2, eA (.getfield 12) 5 6 0 0 0 [143]), (5, eA (.getfield 96) 8 10 5 1 0 [99]), (8, eA (.invokevirtual 100) 11 47 2 0 6 [495, 497, 7]), (11, eA (.astore_n 1) 12 1 0 0 0 []), (12, eA (.aload_n 1) 13 1 0 0 0 []), (13, eA (.ifnonnull 5) 16 18 0 0 0 []), (16, eC (.iconst 2) 17 2), (17, e0 .ireturn 18), (18, eA (.aload_n 0) 19 0 0 0 0 []), (19, eA (.getfield 21) 22 6 1 0 0 [145]), (22, eA (.aload_n 1) 23 1 0 0 0 []), (23, eA (.invokevirtual 140) 26 77 2 0 9 [525, 526, 527]), (26, eA (.aload_n 0) 27 0 0 0 0 []), (27, eC (.iconst 3) 28 3), (28, eA (.putfield 39) 31 6 6 0 0 [150]), (31, eC (.iconst 0) 32 0), (32, e0 .ireturn 33)]
def k_Re_beginPart : List (Nat × En) := [(0, eA (.aload_n 0) 1 0 0 0 0 []), (1, eA (.iload_n 1) 2 1 0 0 0 []), (2, eA (.putfield 56) 5 6 8 0 0 [152]), (5, eA (.aload_n 0) 6 0 0 0 0 []), (6, eC (.iconst 1) 7 1), (7, eA (.putfield 144) 10 6 9 0 0 [153]), (10, eA (.aload_n 0) 11 0 0 0 0 []), (11, eC (.iconst 4) 12 4), (12, eA (.putfield 39) 15 6 6 0 0 [150]), (15, eC (.iconst 0) 16 0), (16, e0 .ireturn 17)]
def k_Re_endPart : List (Nat × En) := [(0, eA (.new 147) 3 0 0 0 0 [446, 191, 61]), (3, e0 .dup 4), (4, eA (.invokespecial 149) 7 0 1 1 0 [447, 193]), (7, eA (.astore 4) 9 4 0 0 0 []), (9, eA (.aload 4) 11 4 0 0 0 []), (11, eA (.iload_n 2) 12 2 0 0 0 []), (12, e0 .i2l 13), (13, eA (.iload_n 3) 14 3 0 0 0 []), (14, e0 .i2l 15), (15, eA (.invokevirtual 150) 18 1 3 0 0 [448, 449, 450]), (18, eA (.aload_n 0) 19 0 0 0 0 []), (19, eA (.getfield 21) 22 6 1 0 0 [145]), (22, eA (.new 154) 25 5 0 0 0 [458, 459, 68]), (25, e0 .dup 26), (26, eA (.iload_n 1) 27 1 0 0 0 []), (27, eA (.aload 4) 29 4 0 0 0 []), (29, eA (.invokespecial 156) 32 39 3 0 5 [460, 461]), (32, eA (.invokevirtual 159) 35 76 2 0 9 [479, 480, 481]), (35, eA (.aload_n 0) 36 0 0 0 0 []), (36, eC (.iconst 3) 37 3), (37, eA (.putfield 39) 40 6 6 0 0 [150]), (40, eC (.iconst 0) 41 0), (41, e0 .ireturn 42)]
def k_Re_takeMinusOrNumber : List (Nat × En) := [(0, eA (.aload_n 0) 1 0 0 0 0 []), (1, eA (.getfield 12) 4 6 0 0 0 [143]), (4, eA (.getfield 50) 7 10 2 1 0 [94]), (7, eC (.bipush 45) 9 45), (9, eA (.if_icmp .ne 15) 12 24 0 0 0 []), (12, eA (.aload_n 0) 13 0 0 0 0 []), (13, eC (.iconst (-1)) 14 (-1)), (14, eA (.putfield 144) 17 6 9 0 0 [153]), (17, eA (.aload_n 0) 18 0 0 0 0 []), (18, eC (.iconst 5) 19 5), (19, eA (.putfield 39) 22 6 6 0 0 [150]), (22, eC (.iconst 0) 23 0), (23, e0 .ireturn 24), (24, eA (.aload_n 0) 25 0 0 0 0 []), (25, eA (.invokevirtual 84) 28 54 1 0 6 [567, 569, 16]), (28, e0 .ireturn 29)]
def k_Re_takeAbove : List (Nat × En) := [(0, eA (.aload_n 0) 1 0 0 0 0 []), (1, eA (.getfield 12) 4 6 0 0 0 [143]), (4, eA (.getfield 50) 7 10 2 1 0 [94]), (7, eC (.bipush (-4)) 9 (-4)), (9, eA (.if_icmp .eq 5) 12 14 0 0 0 []), (12, eC (.iconst 2) 13 2), (13, e0 .ireturn 14), (14, eA (.aload_n 0) 15 0 0 0 0 []), (15, eA (.aload_n 0) 16 0 0 0 0 []), (16, eA (.getfield 144) 19 6 9 0 0 [153]), (19, eA (.aload_n 0) 20 0 0 0 0 []), (20, eA (.getfield 12) 23 6 0 0 0 [143]), (23, eA (.getfield 96) 26 10 5 1 0 [99]), (26, e0 .l2i 27), (27, e0 .imul 28), (28, eA (.putfield 57) 31 6 10 0 0 [154]), (31, eA (.aload_n 0) 32 0 0 0 0 []), (32, eA (.getfield 56) 35 6 8 0 0 [152]), (35, eC (.iconst 2) 36 2), (36, eA (.if_icmp .ne 14) 39 50 0 0 0 []), (39, eA (.aload_n 0) 40 0 0 0 0 []), (40, eC (.iconst 2) 41 2), (41, eA (.aload_n 0) 42 0 0 0 0 []), (42, eA (.getfield 57) 45 6 10 0 0 [154]), (45, eC (.iconst 1) 46 1), (46, eA (.invokevirtual 60) 49 52 4 0 6 [442, 444, 5]), (49, e0 .ireturn 50), (50, eA (.aload_n 0) 51 0 0 0 0 []), (51, eC (.bipush 6) 53 6), (53, eA (.putfield 39) 56 6 6 0 0 [150]), (56, eC (.iconst 0) 57 0), (57, e0 .ireturn 58)]
def k_Re_takeBelow : List (Nat × En) := [(0, eA (.aload_n 0) 1 0 0 0 0 []), (1, eA (.getfield 12) 4 6 0 0 0 [143]), (4, eA (.getfield 50) 7 10 2 1 0 [94]), (7, eC (.bipush (-4)) 9 (-4)), (9, eA (.if_icmp .ne 15) 12 24 0 0 0 []), (12, eA (.aload_n 0) 13 0 0 0 0 []), (13, eA (.getfield 12) 16 6 0 0 0 [143]), (16, eA (.getfield 96) 19 10 5 1 0 [99]), (19, eZ (.lconst 0) 20 0 []), (20, e0 .lcmp 21), (21, eA (.ifCond .ne 5) 24 26 0 0 0 []), (24, eC (.iconst 2) 25 2), (25, e0 .ireturn 26), (26, eA (.aload_n 0) 27 0 0 0 0 []), (27, eA (.aload_n 0) 28 0 0 0 0 []), (28, eA (.getfield 56) 31 6 8 0 0 [152]), (31, eA (.aload_n 0) 32 0 0 0 0 []), (32, eA (.getfield 57) 35 6 10 0 0 [154]), (35, eA (.aload_n 0) 36 0 0 0 0 []), (36, eA (.getfield 12) 39 6 0 0 0 [143]), (39, eA (.getfield 96) 42 10 5 1 0 [99]), (42, e0 .l2i 43), (43, eA (.invokevirtual 60) 46 52 4 0 6 [442, 444, 5]), (46, e0 .ireturn 47)]
def k_Re_takeOpen : List (Nat × En) := [(0, eA (.aload_n 0) 1 0 0 0 0 []), (1, eA (.getfield 12) 4 6 0 0 0 [143]), (4, eA (.getfield 50) 7 10 2 1 0 [94]), (7, eC (.bipush 40) 9 40), (9, eA (.if_icmp .eq 5) 12 14 0 0 0 []), (12, eC (.iconst 2) 13 2), (13, e0 .ireturn 14), (14, eA (.aload_n 0) 15 0 0 0 0 []), (15, eA (.getfield 110) 18 6 4 0 0 [148]), (18, eC (.bipush 6) 20 6), (20, eA (.if_icmp .lt 5) 23 25 0 0 0 []), (23, eC (.iconst 3) 24 3), (24, e0 .ireturn 25), (25, eA (.aload_n 0) 26 0 0 0 0 []), (26, eA (.getfield 25) 29 6 2 0 0 [146]), (29, eA (.aload_n 0) 30 0 0 0 0 []), (30, eA (.getfield 110) 33 6 4 0 0 [148]), (33, eA (.aload_n 0) 34 0 0 0 0 []), (34, eA (.getfield 21) 37 6 1 0 0 [145]), (37, eA (.getfield 163) 40 9 1 1 0 [127]), (40, e0 .iastore 41), (41, eA (.aload_n 0) 42 0 0 0 0 []), (42, eA (.getfield 29) 45 6 3 0 0 [147]), (45, eA (.aload_n 0) 46 0 0 0 0 []), (46, eA (.getfield 110) 49 6 4 0 0 [148]), (49, eA (.aload_n 0) 50 0 0 0 0 []), (50, eA (.getfield 137) 53 6 11 0 0 [155]), (53, e0 .iastore 54), (54, eA (.aload_n 0) 55 0 0 0 0 []), (55, e0 .dup 56), (56, eA (.getfield 110) 59 6 4 0 0 [148]), (59, eC (.iconst 1) 60 1), (60, e0 .iadd 61), (61, eA (.putfield 110) 64 6 4 0 0 [148]), (64, eA (.aload_n 0) 65 0 0 0 0 []), (65, eC (.iconst 2) 66 2), (66, eA (.putfield 39) 69 6 6 0 0 [150]), (69, eC (.iconst 0) 70 0), (70, e0 .ireturn 71)]
def k_Re_closes : List (Nat × En) := [(0, eA (.aload_n 0) 1 0 0 0 0 []), (1, eA (.getfield 110) 4 6 4 0 0 [148]), (4, eA (.ifCond .le 23) 7 27 0 0 0 []), (7, eA (.aload_n 0) 8 0 0 0 0 []), (8, eA (.getfield 12) 11 6 0 0 0 [143]), (11, eA (.getfield 50) 14 10 2 1 0 [94]), (14, eC (.bipush 41) 16 41), (16, eA (.if_icmp .ne 7) 19 23 0 0 0 []), (19, eC (.iconst 1) 20 1), (20, eA (.goto 24) 23 44 0 0 0 []), (23, eC (.iconst 0) 24 0), (24, eA (.goto 20) 27 44 0 0 0 []), (27, eA (.aload_n 0) 28 0 0 0 0 []), (28, eA (.getfield 12) 31 6 0 0 0 [143]), (31, eA (.getfield 50) 34 10 2 1 0 [94]), (34, eC (.bipush 59) 36 59), (36, eA (.if_icmp .ne 7) 39 43 0 0 0 []), (39, eC (.iconst 1) 40 1), (40, eA (.goto 4) 43 44 0 0 0 []), (43, eC (.iconst 0) 44 0), (44, e0 .ireturn 45)]
def k_Re_takeClose : List (Nat × En) := [(0, eA (.aload_n 0) 1 0 0 0 0 []), (1, eA (.getfield 110) 4 6 4 0 0 [148]), (4, eA (.ifCond .le 40) 7 44 0 0 0 []), (7, eA (.aload_n 0) 8 0 0 0 0 []), (8, e0 .dup 9), (9, eA (.getfield 110) 12 6 4 0 0 [148]), (12, eC (.iconst 1) 13 1), (13, e0 .isub 14), (14, eA (.putfield 110) 17 6 4 0 0 [148]), (17, eA (.aload_n 0) 18 0 0 0 0 []), (18, eA (.getfield 21) 21 6 1 0 0 [145]), (21, eA (.aload_n 0) 22 0 0 0 0 []), (22, eA (.getfield 25) 25 6 2 0 0 [146]), (25, eA (.aload_n 0) 26 0 0 0 0 []), (26, eA (.getfield 110) 29 6 4 0 0 [148]), (29, e0 .iaload 30), (30, eA (.aload_n 0) 31 0 0 0 0 []), (31, eA (.getfield 29) 34 6 3 0 0 [147]), (34, eA (.aload_n 0) 35 0 0 0 0 []), (35, eA (.getfield 110) 38 6 4 0 0 [148]), (38, e0 .iaload 39), (39, eA (.invokevirtual 166) 42 78 3 0 9 [538, 539, 540]), (42, eC (.iconst 0) 43 0), (43, e0 .ireturn 44), (44, eA (.aload_n 0) 45 0 0 0 0 []), (45, eA (.getfield 21) 48 6 1 0 0 [145]), (48, eA (.getfield 170) 51 9 4 1 0 [131]), (51, eA (.ifCond .eq 5) 54 56 0 0 0 []), (54, eC (.iconst 4) 55 4), (55, e0 .ireturn 56), (56, eA (.aload_n 0) 57 0 0 0 0 []), (57, eA (.new 114) 60 2 0 0 0 [542, 543, 69]), (60, e0 .dup 61), (61, eA (.aload_n 0) 62 0 0 0 0 []), (62, eA (.getfield 104) 65 6 7 0 0 [151]), (65, eA (.aload_n 0) 66 0 0 0 0 []), (66, eA (.getfield 21) 69 6 1 0 0 [145]), (69, eA (.aload_n 0) 70 0 0 0 0 []), (70, eA (.getfield 35) 73 6 5 0 0 [149]), (73, eA (.invokespecial 174) 76 16 4 0 2 [544, 545]), (76, eA (.putfield 35) 79 6 5 0 0 [149]), (79, eA (.aload_n 0) 80 0 0 0 0 []), (80, eC (.iconst 0) 81 0), (81, eA (.putfield 39) 84 6 6 0 0 [150]), (84, eC (.iconst 0) 85 0), (85, e0 .ireturn 86)]
def k_Rk_init : List (Nat × En) := [(0, eA (.aload_n 0) 1 0 0 0 0 []), (1, eA (.invokespecial 3) 4 0 1 6 0 [253, 77, 78]), (4, eA (.aload_n 0) 5 0 0 0 0 []), (5, eA (.new 9) 8 0 0 0 0 [254, 191, 61]), (8, e0 .dup 9), (9, eA (.invokespecial 11) 12 0 1 1 0 [255, 193]), (12, eA (.putfield 12) 15 7 1 2 0 [258]), (15, e0 .return_ 16)]
def k_Rk_begin : List (Nat × En) := [(0, eA (.aload_n 0) 1 0 0 0 0 []), (1, eC (.iconst 0) 2 0), (2, eA (.putfield 18) 5 7 0 0 0 [256]), (5, e0 .return_ 6)]
def k_Rk_plus : List (Nat × En) := [(0, eA (.aload_n 0) 1 0 0 0 0 []), (1, eA (.aload_n 1) 2 1 0 0 0 []), (2, eA (.aload_n 1) 3 1 0 0 0 []), (3, eA (.getfield 22) 6 0 0 1 0 [197]), (6, eA (.aload_n 2) 7 2 0 0 0 []), (7, eA (.getfield 26) 10 0 1 1 0 [199]), (10, e0 .lmul 11), (11, eA (.aload_n 2) 12 2 0 0 0 []), (12, eA (.getfield 22) 15 0 0 1 0 [197]), (15, eA (.aload_n 1) 16 1 0 0 0 []), (16, eA (.getfield 26) 19 0 1 1 0 [199]), (19, e0 .lmul 20), (20, e0 .ladd 21), (21, eA (.aload_n 1) 22 1 0 0 0 []), (22, eA (.getfield 26) 25 0 1 1 0 [199]), (25, eA (.aload_n 2) 26 2 0 0 0 []), (26, eA (.getfield 26) 29 0 1 1 0 [199]), (29, e0 .lmul 30), (30, eA (.invokevirtual 29) 33 67 4 0 7 [666, 668, 21]), (33, e0 .return_ 34)]
def k_Rk_minus : List (Nat × En) := [(0, eA (.aload_n 0) 1 0 0 0 0 []), (1, eA (.aload_n 1) 2 1 0 0 0 []), (2, eA (.aload_n 1) 3 1 0 0 0 []), (3, eA (.getfield 22) 6 0 0 1 0 [197]), (6, eA (.aload_n 2) 7 2 0 0 0 []), (7, eA (.getfield 26) 10 0 1 1 0 [199]), (10, e0 .lmul 11), (11, eA (.aload_n 2) 12 2 0 0 0 []), (12, eA (.getfield 22) 15 0 0 1 0 [197]), (15, eA (.aload_n 1) 16 1 0 0 0 []), (16, eA (.getfield 26) 19 0 1 1 0 [199]), (19, e0 .lmul 20), (20, e0 .lsub 21), (21, eA (.aload_n 1) 22 1 0 0 0 []), (22, eA (.getfield 26) 25 0 1 1 0 [199]), (25, eA (.aload_n 2) 26 2 0 0 0 []), (26, eA (.getfield 26) 29 0 1 1 0 [199]), (29, e0 .lmul 30), (30, eA (.invokevirtual 29) 33 67 4 0 7 [666, 668, 21]), (33, e0 .return_ 34)]
def k_Rk_times : List (Nat × En) := [(0, eA (.aload_n 0) 1 0 0 0 0 []), (1, eA (.aload_n 1) 2 1 0 0 0 []), (2, eA (.aload_n 1) 3 1 0 0 0 []), (3, eA (.getfield 22) 6 0 0 1 0 [197]), (6, eA (.aload_n 2) 7 2 0 0 0 []), (7, eA (.getfield 22) 10 0 0 1 0 [197]), (10, e0 .lmul 11), (11, eA (.aload_n 1) 12 1 0 0 0 []), (12, eA (.getfield 26) 15 0 1 1 0 [199]), (15, eA (.aload_n 2) 16 2 0 0 0 []), (16, eA (.getfield 26) 19 0 1 1 0 [199]), (19, e0 .lmul 20), (20, eA (.invokevirtual 29) 23 67 4 0 7 [666, 668, 21]), (23, e0 .return_ 24)]
def k_Rk_over : List (Nat × En) := [(0, eA (.aload_n 2) 1 2 0 0 0 []), (1, eA (.getfield 22) 4 0 0 1 0 [197]), (4, eZ (.lconst 0) 5 0 []), (5, e0 .lcmp 6), (6, eA (.ifCond .le 29) 9 35 0 0 0 []), (9, eA (.aload_n 0) 10 0 0 0 0 []), (10, eA (.aload_n 1) 11 1 0 0 0 []), (11, eA (.aload_n 1) 12 1 0 0 0 []), (12, eA (.getfield 22) 15 0 0 1 0 [197]), (15, eA (.aload_n 2) 16 2 0 0 0 []), (16, eA (.getfield 26) 19 0 1 1 0 [199]), (19, e0 .lmul 20), (20, eA (.aload_n 1) 21 1 0 0 0 []), (21, eA (.getfield 26) 24 0 1 1 0 [199]), (24, eA (.aload_n 2) 25 2 0 0 0 []), (25, eA (.getfield 22) 28 0 0 1 0 [197]), (28, e0 .lmul 29), (29, eA (.invokevirtual 29) 32 67 4 0 7 [666, 668, 21]), (32, eA (.goto 37) 35 69 0 0 0 []), (35, eA (.aload_n 2) 36 2 0 0 0 []), (36, eA (.getfield 22) 39 0 0 1 0 [197]), (39, eZ (.lconst 0) 40 0 []), (40, e0 .lcmp 41), (41, eA (.ifCond .ge 28) 44 69 0 0 0 []), (44, eA (.aload_n 0) 45 0 0 0 0 []), (45, eA (.aload_n 1) 46 1 0 0 0 []), (46, eA (.aload_n 1) 47 1 0 0 0 []), (47, eA (.getfield 22) 50 0 0 1 0 [197]), (50, e0 .lneg 51), (51, eA (.aload_n 2) 52 2 0 0 0 []), (52, eA (.getfield 26) 55 0 1 1 0 [199]), (55, e0 .lmul 56), (56, eA (.aload_n 1) 57 1 0 0 0 []), (57, eA (.getfield 26) 60 0 1 1 0 [199]), (60, e0 .lneg 61), (61, eA (.aload_n 2) 62 2 0 0 0 []), (62, eA (.getfield 22) 65 0 0 1 0 [197]), (65, e0 .lmul 66), (66, eA (.invokevirtual 29) 69 67 4 0 7 [666, 668, 21]), (69, e0 .return_ 70)]
def k_Rk_plusProduct : List (Nat × En) := [(0, eA (.aload_n 0) 1 0 0 0 0 []), (1, eA (.getfield 12) 4 7 1 0 0 [258]), (4, eA (.aload_n 2) 5 2 0 0 0 []), (5, eA (.invokevirtual 33) 8 2 2 0 0 [658, 659, 660]), (8, eA (.aload_n 0) 9 0 0 0 0 []), (9, eA (.aload_n 0) 10 0 0 0 0 []), (10, eA (.getfield 12) 13 7 1 0 0 [258]), (13, eA (.aload_n 3) 14 3 0 0 0 []), (14, eA (.invokevirtual 37) 17 63 3 0 7 [662, 663, 664]), (17, eA (.aload_n 0) 18 0 0 0 0 []), (18, eA (.aload_n 1) 19 1 0 0 0 []), (19, eA (.aload_n 0) 20 0 0 0 0 []), (20, eA (.getfield 12) 23 7 1 0 0 [258]), (23, eA (.invokevirtual 41) 26 61 3 0 7 [673, 674, 675]), (26, e0 .return_ 27)]
def k_Rk_minusProduct : List (Nat × En) := [(0, eA (.aload_n 0) 1 0 0 0 0 []), (1, eA (.getfield 12) 4 7 1 0 0 [258]), (4, eA (.aload_n 2) 5 2 0 0 0 []), (5, eA (.invokevirtual 33) 8 2 2 0 0 [658, 659, 660]), (8, eA (.aload_n 0) 9 0 0 0 0 []), (9, eA (.aload_n 0) 10 0 0 0 0 []), (10, eA (.getfield 12) 13 7 1 0 0 [258]), (13, eA (.aload_n 3) 14 3 0 0 0 []), (14, eA (.invokevirtual 37) 17 63 3 0 7 [662, 663, 664]), (17, eA (.aload_n 0) 18 0 0 0 0 []), (18, eA (.aload_n 1) 19 1 0 0 0 []), (19, eA (.aload_n 0) 20 0 0 0 0 []), (20, eA (.getfield 12) 23 7 1 0 0 [258]), (23, eA (.invokevirtual 44) 26 62 3 0 7 [681, 682, 683]), (26, e0 .return_ 27)]
def k_Rk_settle : List (Nat × En) := [(0, eA (.lload_n 2) 1 2 0 0 0 []), (1, eA (.invokestatic 47) 4 170 1 0 0 [670, 453]), (4, eA (.lload 4) 6 4 0 0 0 []), (6, eA (.invokestatic 53) 9 114 2 1 0 [671, 456]), (9, eA (.lstore 6) 11 6 0 0 0 []), (11, eA (.lload 6) 13 6 0 0 0 []), (13, eZ (.lconst 0) 14 0 []), (14, e0 .lcmp 15), (15, eA (.ifCond .gt 4) 18 19 0 0 0 []), (18, e0 .return_ 19), (19, eA (.lload_n 2) 20 2 0 0 0 []), (20, eA (.lload 6) 22 6 0 0 0 []), (22, e0 .ldiv 23), (23, eA (.invokestatic 47) 26 170 1 0 0 [670, 453]), (26, eZ (.ldc2_w 57) 29 1000000000 [672]), (29, e0 .lcmp 30), (30, eA (.ifCond .gt 15) 33 45 0 0 0 []), (33, eA (.lload 4) 35 4 0 0 0 []), (35, eA (.lload 6) 37 6 0 0 0 []), (37, e0 .ldiv 38), (38, eZ (.ldc2_w 57) 41 1000000000 [672]), (41, e0 .lcmp 42), (42, eA (.ifCond .le 9) 45 51 0 0 0 []), (45, eA (.aload_n 0) 46 0 0 0 0 []), (46, eC (.iconst 1) 47 1), (47, eA (.putfield 18) 50 7 0 0 0 [256]), (50, e0 .return_ 51), (51, eA (.aload_n 1) 52 1 0 0 0 []), (52, eA (.lload_n 2) 53 2 0 0 0 []), (53, eA (.lload 6) 55 6 0 0 0 []), (55, e0 .ldiv 56), (56, eA (.putfield 22) 59 0 0 1 0 [197]), (59, eA (.aload_n 1) 60 1 0 0 0 []), (60, eA (.lload 4) 62 4 0 0 0 []), (62, eA (.lload 6) 64 6 0 0 0 []), (64, e0 .ldiv 65), (65, eA (.putfield 26) 68 0 1 1 0 [199]), (68, e0 .return_ 69)]
def k_Ri_init : List (Nat × En) := [(0, eA (.aload_n 0) 1 0 0 0 0 []), (1, eA (.invokespecial 3) 4 0 1 6 0 [187, 77, 78]), (4, eA (.aload_n 0) 5 0 0 0 0 []), (5, eC (.iconst 0) 6 0), (6, eA (.anewarray 9) 9 20 0 0 0 [188, 122]), (9, eA (.putfield 11) 12 8 0 0 0 [205]), (12, eA (.aload_n 0) 13 0 0 0 0 []), (13, eC (.bipush 12) 15 12), (15, eA (.anewarray 17) 18 21 0 0 0 [189, 190]), (18, eA (.putfield 19) 21 8 2 2 0 [213]), (21, eC (.iconst 0) 22 0), (22, eA (.istore_n 1) 23 1 0 0 0 []), (23, eA (.iload_n 1) 24 1 0 0 0 []), (24, eC (.bipush 12) 26 12), (26, eA (.if_icmp .ge 22) 29 48 0 0 0 []), (29, eA (.aload_n 0) 30 0 0 0 0 []), (30, eA (.getfield 19) 33 8 2 0 0 [213]), (33, eA (.iload_n 1) 34 1 0 0 0 []), (34, eA (.new 17) 37 0 0 0 0 [189, 191, 61]), (37, e0 .dup 38), (38, eA (.invokespecial 23) 41 0 1 1 0 [192, 193]), (41, e0 .aastore 42), (42, eI (.iinc 1 1) 45 1 1), (45, eA (.goto (-22)) 48 23 0 0 0 []), (48, eA (.aload_n 0) 49 0 0 0 0 []), (49, eC (.bipush 12) 51 12), (51, eA (.newarray .int) 53 16 0 0 0 [181]), (53, eA (.putfield 24) 56 8 3 2 0 [215]), (56, eA (.aload_n 0) 57 0 0 0 0 []), (57, eC (.bipush 12) 59 12), (59, eA (.newarray .int) 61 16 0 0 0 [181]), (61, eA (.putfield 28) 64 8 4 2 0 [217]), (64, eA (.aload_n 0) 65 0 0 0 0 []), (65, eC (.bipush 80) 67 80), (67, eA (.newarray .int) 69 16 0 0 0 [181]), (69, eA (.putfield 31) 72 8 5 2 0 [219]), (72, e0 .return_ 73)]
def k_Ri_hasPart : List (Nat × En) := [(0, eA (.iload_n 1) 1 1 0 0 0 []), (1, eA (.ifCond .lt 15) 4 16 0 0 0 []), (4, eA (.iload_n 1) 5 1 0 0 0 []), (5, eA (.aload_n 0) 6 0 0 0 0 []), (6, eA (.getfield 34) 9 8 1 0 0 [209]), (9, eA (.if_icmp .ge 7) 12 16 0 0 0 []), (12, eC (.iconst 1) 13 1), (13, eA (.goto 4) 16 17 0 0 0 []), (16, eC (.iconst 0) 17 0), (17, e0 .ireturn 18)]
def k_Ri_hasKick : List (Nat × En) := [(0, eA (.iload_n 1) 1 1 0 0 0 []), (1, eA (.ifCond .lt 15) 4 16 0 0 0 []), (4, eA (.iload_n 1) 5 1 0 0 0 []), (5, eA (.aload_n 0) 6 0 0 0 0 []), (6, eA (.getfield 38) 9 8 6 0 0 [221]), (9, eA (.if_icmp .ge 7) 12 16 0 0 0 []), (12, eC (.iconst 1) 13 1), (13, eA (.goto 4) 16 17 0 0 0 []), (16, eC (.iconst 0) 17 0), (17, e0 .ireturn 18)]
def k_Ri_hasLook : List (Nat × En) := [(0, eA (.iload_n 1) 1 1 0 0 0 []), (1, eA (.ifCond .lt 15) 4 16 0 0 0 []), (4, eA (.iload_n 1) 5 1 0 0 0 []), (5, eA (.aload_n 0) 6 0 0 0 0 []), (6, eA (.getfield 41) 9 8 7 0 0 [223]), (9, eA (.if_icmp .ge 7) 12 16 0 0 0 []), (12, eC (.iconst 1) 13 1), (13, eA (.goto 4) 16 17 0 0 0 []), (16, eC (.iconst 0) 17 0), (17, e0 .ireturn 18)]
def k_Ri_strengthAt : List (Nat × En) := [(0, eA (.aload_n 0) 1 0 0 0 0 []), (1, eA (.getfield 11) 4 8 0 0 0 [205]), (4, eA (.iload_n 1) 5 1 0 0 0 []), (5, e0 .aaload 6), (6, eA (.getfield 44) 9 5 0 1 0 [467]), (9, eC (.iconst 3) 10 3), (10, eA (.if_icmp .ne 17) 13 27 0 0 0 []), (13, eA (.aload_n 0) 14 0 0 0 0 []), (14, eA (.getfield 19) 17 8 2 0 0 [213]), (17, eA (.aload_n 0) 18 0 0 0 0 []), (18, eA (.getfield 31) 21 8 5 0 0 [219]), (21, eA (.iload_n 1) 22 1 0 0 0 []), (22, e0 .iaload 23), (23, e0 .aaload 24), (24, eA (.goto 12) 27 36 0 0 0 []), (27, eA (.aload_n 0) 28 0 0 0 0 []), (28, eA (.getfield 11) 31 8 0 0 0 [205]), (31, eA (.iload_n 1) 32 1 0 0 0 []), (32, e0 .aaload 33), (33, eA (.getfield 47) 36 5 1 1 0 [473]), (36, e0 .areturn 37)]
def k_Ri_become : List (Nat × En) := [(0, eA (.aload_n 1) 1 1 0 0 0 []), (1, eA (.ifnonnull 4) 4 5 0 0 0 []), (4, e0 .return_ 5), (5, eA (.aload_n 0) 6 0 0 0 0 []), (6, eA (.aload_n 1) 7 1 0 0 0 []), (7, eA (.getfield 51) 10 2 1 1 0 [553]), (10, eA (.putfield 11) 13 8 0 0 0 [205]), (13, eA (.aload_n 0) 14 0 0 0 0 []), (14, eA (.aload_n 1) 15 1 0 0 0 []), (15, eA (.getfield 51) 18 2 1 1 0 [553]), (18, e0 .arraylength 19), (19, eA (.putfield 34) 22 8 1 0 0 [209]), (22, eA (.aload_n 0) 23 0 0 0 0 []), (23, eC (.iconst 0) 24 0), (24, eA (.putfield 38) 27 8 6 0 0 [221]), (27, eA (.aload_n 0) 28 0 0 0 0 []), (28, eC (.iconst 0) 29 0), (29, eA (.putfield 41) 32 8 7 0 0 [223]), (32, eC (.iconst 0) 33 0), (33, eA (.istore_n 2) 34 2 0 0 0 []), (34, eA (.iload_n 2) 35 2 0 0 0 []), (35, eA (.aload_n 0) 36 0 0 0 0 []), (36, eA (.getfield 34) 39 8 1 0 0 [209]), (39, eA (.if_icmp .ge 117) 42 156 0 0 0 []), (42, eA (.aload_n 0) 43 0 0 0 0 []), (43, eA (.getfield 11) 46 8 0 0 0 [205]), (46, eA (.iload_n 2) 47 2 0 0 0 []), (47, e0 .aaload 48), (48, eA (.getfield 44) 51 5 0 1 0 [467]), (51, eC (.iconst 3) 52 3), (52, eA (.if_icmp .ne 56) 55 108 0 0 0 []), (55, eA (.aload_n 0) 56 0 0 0 0 []), (56, eA (.getfield 38) 59 8 6 0 0 [221]), (59, eC (.bipush 12) 61 12), (61, eA (.if_icmp .ge 47) 64 108 0 0 0 []), (64, eA (.aload_n 0) 65 0 0 0 0 []), (65, eA (.getfield 31) 68 8 5 0 0 [219]), (68, eA (.iload_n 2) 69 2 0 0 0 []), (69, eA (.aload_n 0) 70 0 0 0 0 []), (70, eA (.getfield 38) 73 8 6 0 0 [221]), (73, e0 .iastore 74), (74, eA (.aload_n 0) 75 0 0 0 0 []), (75, eA (.getfield 24) 78 8 3 0 0 [215]), (78, eA (.aload_n 0) 79 0 0 0 0 []), (79, eA (.getfield 38) 82 8 6 0 0 [221]), (82, eA (.iload_n 2) 83 2 0 0 0 []), (83, e0 .iastore 84), (84, eA (.aload_n 0) 85 0 0 0 0 []), (85, eA (.getfield 19) 88 8 2 0 0 [213]), (88, eA (.aload_n 0) 89 0 0 0 0 []), (89, eA (.getfield 38) 92 8 6 0 0 [221]), (92, e0 .aaload 93), (93, eZ (.lconst 0) 94 0 []), (94, eZ (.lconst 1) 95 1 []), (95, eA (.invokevirtual 54) 98 1 3 0 0 [595, 449, 450]), (98, eA (.aload_n 0) 99 0 0 0 0 []), (99, e0 .dup 100), (100, eA (.getfield 38) 103 8 6 0 0 [221]), (103, eC (.iconst 1) 104 1), (104, e0 .iadd 105), (105, eA (.putfield 38) 108 8 6 0 0 [221]), (108, eA (.aload_n 0) 109 0 0 0 0 []), (109, eA (.getfield 11) 112 8 0 0 0 [205]), (112, eA (.iload_n 2) 113 2 0 0 0 []), (113, e0 .aaload 114), (114, eA (.getfield 44) 117 5 0 1 0 [467]), (117, eC (.iconst 4) 118 4), (118, eA (.if_icmp .ne 32) 121 150 0 0 0 []), (121, eA (.aload_n 0) 122 0 0 0 0 []), (122, eA (.getfield 41) 125 8 7 0 0 [223]), (125, eC (.bipush 12) 127 12), (127, eA (.if_icmp .ge 23) 130 150 0 0 0 []), (130, eA (.aload_n 0) 131 0 0 0 0 []), (131, eA (.getfield 28) 134 8 4 0 0 [217]), (134, eA (.aload_n 0) 135 0 0 0 0 []), (135, eA (.getfield 41) 138 8 7 0 0 [223]), (138, eA (.iload_n 2) 139 2 0 0 0 []), (139, e0 .iastore 140), (140, eA (.aload_n 0) 141 0 0 0 0 []), (141, e0 .dup 142), (142, eA (.getfield 41) 145 8 7 0 0 [223]), (145, eC (.iconst 1) 146 1), (146, e0 .iadd 147), (147, eA (.putfield 41) 150 8 7 0 0 [223]), (150, eI (.iinc 2 1) 153 2 1), (153, eA (.goto (-119)) 156 34 0 0 0 []), (156, e0 .return_ 157)]
def k_Ro_init : List (Nat × En) := [(0, eA (.aload_n 0) 1 0 0 0 0 []), (1, eA (.invokespecial 3) 4 0 1 6 0 [120, 77, 78]), (4, eA (.aload_n 0) 5 0 0 0 0 []), (5, eC (.bipush 80) 7 80), (7, eA (.anewarray 9) 10 20 0 0 0 [121, 122]), (10, eA (.putfield 11) 13 9 0 2 0 [123]), (13, e0 .return_ 14)]
def k_Ro_clear : List (Nat × En) := [(0, eA (.aload_n 0) 1 0 0 0 0 []), (1, eC (.iconst 0) 2 0), (2, eA (.putfield 17) 5 9 1 0 0 [126]), (5, eA (.aload_n 0) 6 0 0 0 0 []), (6, eC (.iconst 0) 7 0), (7, eA (.putfield 21) 10 9 2 0 0 [128]), (10, eA (.aload_n 0) 11 0 0 0 0 []), (11, eC (.iconst 0) 12 0), (12, eA (.putfield 24) 15 9 3 0 0 [129]), (15, eA (.aload_n 0) 16 0 0 0 0 []), (16, eC (.iconst 0) 17 0), (17, eA (.putfield 27) 20 9 4 0 0 [130]), (20, e0 .return_ 21)]
def k_Ro_add : List (Nat × En) := [(0, eA (.aload_n 0) 1 0 0 0 0 []), (1, eA (.getfield 27) 4 9 4 0 0 [130]), (4, eA (.ifCond .eq 4) 7 8 0 0 0 []), (7, e0 .return_ 8), (8, eA (.aload_n 1) 9 1 0 0 0 []), (9, eA (.getfield 31) 12 5 0 1 0 [465]), (12, eC (.iconst 3) 13 3), (13, eA (.if_icmp .ne 13) 16 26 0 0 0 []), (16, eA (.aload_n 0) 17 0 0 0 0 []), (17, e0 .dup 18), (18, eA (.getfield 21) 21 9 2 0 0 [128]), (21, eC (.iconst 1) 22 1), (22, e0 .iadd 23), (23, eA (.putfield 21) 26 9 2 0 0 [128]), (26, eA (.aload_n 1) 27 1 0 0 0 []), (27, eA (.getfield 31) 30 5 0 1 0 [465]), (30, eC (.iconst 4) 31 4), (31, eA (.if_icmp .ne 13) 34 44 0 0 0 []), (34, eA (.aload_n 0) 35 0 0 0 0 []), (35, e0 .dup 36), (36, eA (.getfield 24) 39 9 3 0 0 [129]), (39, eC (.iconst 1) 40 1), (40, e0 .iadd 41), (41, eA (.putfield 24) 44 9 3 0 0 [129]), (44, eA (.aload_n 0) 45 0 0 0 0 []), (45, eA (.getfield 17) 48 9 1 0 0 [126]), (48, eC (.bipush 80) 50 80), (50, eA (.if_icmp .ge 21) 53 71 0 0 0 []), (53, eA (.aload_n 0) 54 0 0 0 0 []), (54, eA (.getfield 21) 57 9 2 0 0 [128]), (57, eC (.bipush 12) 59 12), (59, eA (.if_icmp .gt 12) 62 71 0 0 0 []), (62, eA (.aload_n 0) 63 0 0 0 0 []), (63, eA (.getfield 24) 66 9 3 0 0 [129]), (66, eC (.bipush 12) 68 12), (68, eA (.if_icmp .le 9) 71 77 0 0 0 []), (71, eA (.aload_n 0) 72 0 0 0 0 []), (72, eC (.iconst 1) 73 1), (73, eA (.putfield 27) 76 9 4 0 0 [130]), (76, e0 .return_ 77), (77, eA (.aload_n 0) 78 0 0 0 0 []), (78, eA (.getfield 11) 81 9 0 0 0 [123]), (81, eA (.aload_n 0) 82 0 0 0 0 []), (82, eA (.getfield 17) 85 9 1 0 0 [126]), (85, eA (.aload_n 1) 86 1 0 0 0 []), (86, e0 .aastore 87), (87, eA (.aload_n 0) 88 0 0 0 0 []), (88, e0 .dup 89), (89, eA (.getfield 17) 92 9 1 0 0 [126]), (92, eC (.iconst 1) 93 1), (93, e0 .iadd 94), (94, eA (.putfield 17) 97 9 1 0 0 [126]), (97, e0 .return_ 98)]
def k_Ro_addLine : List (Nat × En) := [(0, eC (.iconst 0) 1 0), (1, eA (.istore_n 2) 2 2 0 0 0 []), (2, eA (.iload_n 2) 3 2 0 0 0 []), (3, eA (.aload_n 1) 4 1 0 0 0 []), (4, eA (.getfield 34) 7 2 1 1 0 [552]), (7, e0 .arraylength 8), (8, eA (.if_icmp .ge 19) 11 27 0 0 0 []), (11, eA (.aload_n 0) 12 0 0 0 0 []), (12, eA (.aload_n 1) 13 1 0 0 0 []), (13, eA (.getfield 34) 16 2 1 1 0 [552]), (16, eA (.iload_n 2) 17 2 0 0 0 []), (17, e0 .aaload 18), (18, eA (.invokevirtual 37) 21 76 2 0 9 [529, 480, 481]), (21, eI (.iinc 2 1) 24 2 1), (24, eA (.goto (-22)) 27 2 0 0 0 []), (27, e0 .return_ 28)]
def k_Ro_repeat : List (Nat × En) := [(0, eA (.aload_n 0) 1 0 0 0 0 []), (1, eA (.getfield 17) 4 9 1 0 0 [126]), (4, eA (.istore_n 3) 5 3 0 0 0 []), (5, eC (.iconst 1) 6 1), (6, eA (.istore 4) 8 4 0 0 0 []), (8, eA (.iload 4) 10 4 0 0 0 []), (10, eA (.iload_n 2) 11 2 0 0 0 []), (11, eA (.if_icmp .ge 42) 14 53 0 0 0 []), (14, eA (.aload_n 0) 15 0 0 0 0 []), (15, eA (.getfield 27) 18 9 4 0 0 [130]), (18, eA (.ifCond .ne 35) 21 53 0 0 0 []), (21, eA (.iload_n 1) 22 1 0 0 0 []), (22, eA (.istore 5) 24 5 0 0 0 []), (24, eA (.iload 5) 26 5 0 0 0 []), (26, eA (.iload_n 3) 27 3 0 0 0 []), (27, eA (.if_icmp .ge 20) 30 47 0 0 0 []), (30, eA (.aload_n 0) 31 0 0 0 0 []), (31, eA (.aload_n 0) 32 0 0 0 0 []), (32, eA (.getfield 11) 35 9 0 0 0 [123]), (35, eA (.iload 5) 37 5 0 0 0 []), (37, e0 .aaload 38), (38, eA (.invokevirtual 37) 41 76 2 0 9 [529, 480, 481]), (41, eI (.iinc 5 1) 44 5 1), (44, eA (.goto (-20)) 47 24 0 0 0 []), (47, eI (.iinc 4 1) 50 4 1), (50, eA (.goto (-42)) 53 8 0 0 0 []), (53, e0 .return_ 54)]
def k_Te_init : List (Nat × En) := [(0, eA (.aload_n 0) 1 0 0 0 0 []), (1, eA (.invokespecial 3) 4 0 1 6 0 [90, 77, 78]), (4, eA (.aload_n 0) 5 0 0 0 0 []), (5, eC (.sipush 1500) 8 1500), (8, eA (.newarray .byte) 10 18 0 0 0 [114]), (10, eA (.putfield 9) 13 10 0 2 0 [91]), (13, e0 .return_ 14)]
def k_Te_append : List (Nat × En) := [(0, eA (.aload_n 0) 1 0 0 0 0 []), (1, eA (.getfield 15) 4 10 1 0 0 [92]), (4, eC (.sipush 1500) 7 1500), (7, eA (.if_icmp .ge 24) 10 31 0 0 0 []), (10, eA (.aload_n 0) 11 0 0 0 0 []), (11, eA (.getfield 9) 14 10 0 0 0 [91]), (14, eA (.aload_n 0) 15 0 0 0 0 []), (15, eA (.getfield 15) 18 10 1 0 0 [92]), (18, eA (.iload_n 1) 19 1 0 0 0 []), (19, e0 .i2b 20), (20, e0 .bastore 21), (21, eA (.aload_n 0) 22 0 0 0 0 []), (22, e0 .dup 23), (23, eA (.getfield 15) 26 10 1 0 0 [92]), (26, eC (.iconst 1) 27 1), (27, e0 .iadd 28), (28, eA (.putfield 15) 31 10 1 0 0 [92]), (31, e0 .return_ 32)]
def k_Te_empty : List (Nat × En) := [(0, eA (.aload_n 0) 1 0 0 0 0 []), (1, eC (.iconst 0) 2 0), (2, eA (.putfield 15) 5 10 1 0 0 [92]), (5, e0 .return_ 6)]
def k_Te_rewind : List (Nat × En) := [(0, eA (.aload_n 0) 1 0 0 0 0 []), (1, eC (.iconst 0) 2 0), (2, eA (.putfield 19) 5 10 4 0 0 [98]), (5, e0 .return_ 6)]
def k_Te_advance : List (Nat × En) := [(0, eA (.aload_n 0) 1 0 0 0 0 []), (1, eA (.invokevirtual 22) 4 85 1 0 10 [405, 407, 0]), (4, eA (.aload_n 0) 5 0 0 0 0 []), (5, eA (.aload_n 0) 6 0 0 0 0 []), (6, eA (.getfield 19) 9 10 4 0 0 [98]), (9, eA (.putfield 25) 12 10 3 0 0 [97]), (12, eA (.aload_n 0) 13 0 0 0 0 []), (13, eA (.aload_n 0) 14 0 0 0 0 []), (14, eA (.getfield 19) 17 10 4 0 0 [98]), (17, eA (.invokevirtual 28) 20 84 2 0 10 [409, 411, 1]), (20, eA (.istore_n 1) 21 1 0 0 0 []), (21, eA (.iload_n 1) 22 1 0 0 0 []), (22, eC (.iconst (-1)) 23 (-1)), (23, eA (.if_icmp .ne 11) 26 34 0 0 0 []), (26, eA (.aload_n 0) 27 0 0 0 0 []), (27, eC (.iconst (-1)) 28 (-1)), (28, eA (.putfield 32) 31 10 2 0 0 [95]), (31, eA (.goto 58) 34 89 0 0 0 []), (34, eA (.iload_n 1) 35 1 0 0 0 []), (35, eA (.invokestatic 35) 38 92 1 0 0 [416, 417]), (38, eA (.ifCond .eq 10) 41 48 0 0 0 []), (41, eA (.aload_n 0) 42 0 0 0 0 []), (42, eA (.invokevirtual 39) 45 86 1 0 10 [419, 421, 2]), (45, eA (.goto 44) 48 89 0 0 0 []), (48, eA (.iload_n 1) 49 1 0 0 0 []), (49, eA (.invokestatic 42) 52 93 1 0 0 [427, 428]), (52, eA (.ifCond .eq 10) 55 62 0 0 0 []), (55, eA (.aload_n 0) 56 0 0 0 0 []), (56, eA (.invokevirtual 45) 59 87 1 0 10 [430, 432, 3]), (59, eA (.goto 30) 62 89 0 0 0 []), (62, eA (.aload_n 0) 63 0 0 0 0 []), (63, eA (.iload_n 1) 64 1 0 0 0 []), (64, eA (.invokestatic 48) 67 94 1 0 0 [435, 436]), (67, eA (.ifCond .eq 7) 70 74 0 0 0 []), (70, eA (.iload_n 1) 71 1 0 0 0 []), (71, eA (.goto 5) 74 76 0 0 0 []), (74, eC (.bipush (-2)) 76 (-2)), (76, eA (.putfield 32) 79 10 2 0 0 [95]), (79, eA (.aload_n 0) 80 0 0 0 0 []), (80, e0 .dup 81), (81, eA (.getfield 19) 84 10 4 0 0 [98]), (84, eC (.iconst 1) 85 1), (85, e0 .iadd 86), (86, eA (.putfield 19) 89 10 4 0 0 [98]), (89, e0 .return_ 90)]
def k_Te_signAt : List (Nat × En) := [(0, eA (.iload_n 1) 1 1 0 0 0 []), (1, eA (.ifCond .lt 18) 4 19 0 0 0 []), (4, eA (.iload_n 1) 5 1 0 0 0 []), (5, eA (.aload_n 0) 6 0 0 0 0 []), (6, eA (.getfield 15) 9 10 1 0 0 [92]), (9, eA (.if_icmp .ge 10) 12 19 0 0 0 []), (12, eA (.iload_n 1) 13 1 0 0 0 []), (13, eC (.sipush 1500) 16 1500), (16, eA (.if_icmp .lt 5) 19 21 0 0 0 []), (19, eC (.iconst (-1)) 20 (-1)), (20, e0 .ireturn 21), (21, eA (.aload_n 0) 22 0 0 0 0 []), (22, eA (.getfield 9) 25 10 0 0 0 [91]), (25, eA (.iload_n 1) 26 1 0 0 0 []), (26, e0 .baload 27), (27, eC (.sipush 255) 30 255), (30, e0 .iand 31), (31, e0 .ireturn 32)]
def k_Te_skipBlanks : List (Nat × En) := [(0, eA (.aload_n 0) 1 0 0 0 0 []), (1, eA (.getfield 19) 4 10 4 0 0 [98]), (4, eA (.aload_n 0) 5 0 0 0 0 []), (5, eA (.getfield 15) 8 10 1 0 0 [92]), (8, eA (.if_icmp .ge 30) 11 38 0 0 0 []), (11, eA (.aload_n 0) 12 0 0 0 0 []), (12, eA (.aload_n 0) 13 0 0 0 0 []), (13, eA (.getfield 19) 16 10 4 0 0 [98]), (16, eA (.invokevirtual 28) 19 84 2 0 10 [409, 411, 1]), (19, eA (.invokestatic 51) 22 91 1 0 0 [413, 414]), (22, eA (.ifCond .eq 16) 25 38 0 0 0 []), (25, eA (.aload_n 0) 26 0 0 0 0 []), (26, e0 .dup 27), (27, eA (.getfield 19) 30 10 4 0 0 [98]), (30, eC (.iconst 1) 31 1), (31, e0 .iadd 32), (32, eA (.putfield 19) 35 10 4 0 0 [98]), (35, eA (.goto (-35)) 38 0 0 0 0 []), (38, e0 .return_ 39)]
def k_Te_takeName : List (Nat × En) := [(0, eA (.aload_n 0) 1 0 0 0 0 []), (1, eZ (.lconst 0) 2 0 []), (2, eA (.putfield 54) 5 10 5 0 0 [100]), (5, eA (.aload_n 0) 6 0 0 0 0 []), (6, eA (.getfield 19) 9 10 4 0 0 [98]), (9, eA (.aload_n 0) 10 0 0 0 0 []), (10, eA (.getfield 15) 13 10 1 0 0 [92]), (13, eA (.if_icmp .ge 55) 16 68 0 0 0 []), (16, eA (.aload_n 0) 17 0 0 0 0 []), (17, eA (.aload_n 0) 18 0 0 0 0 []), (18, eA (.getfield 19) 21 10 4 0 0 [98]), (21, eA (.invokevirtual 28) 24 84 2 0 10 [409, 411, 1]), (24, eA (.invokestatic 35) 27 92 1 0 0 [416, 417]), (27, eA (.ifCond .eq 41) 30 68 0 0 0 []), (30, eA (.aload_n 0) 31 0 0 0 0 []), (31, eA (.aload_n 0) 32 0 0 0 0 []), (32, eA (.getfield 54) 35 10 5 0 0 [100]), (35, eZ (.ldc2_w 58) 38 32 [423]), (38, e0 .lmul 39), (39, eA (.aload_n 0) 40 0 0 0 0 []), (40, eA (.aload_n 0) 41 0 0 0 0 []), (41, eA (.getfield 19) 44 10 4 0 0 [98]), (44, eA (.invokevirtual 28) 47 84 2 0 10 [409, 411, 1]), (47, eA (.invokestatic 60) 50 90 1 0 0 [424, 425]), (50, e0 .i2l 51), (51, e0 .ladd 52), (52, eA (.putfield 54) 55 10 5 0 0 [100]), (55, eA (.aload_n 0) 56 0 0 0 0 []), (56, e0 .dup 57), (57, eA (.getfield 19) 60 10 4 0 0 [98]), (60, eC (.iconst 1) 61 1), (61, e0 .iadd 62), (62, eA (.putfield 19) 65 10 4 0 0 [98]), (65, eA (.goto (-60)) 68 5 0 0 0 []), (68, eA (.aload_n 0) 69 0 0 0 0 []), (69, eA (.aload_n 0) 70 0 0 0 0 []), (70, eA (.getfield 19) 73 10 4 0 0 [98]), (73, eA (.aload_n 0) 74 0 0 0 0 []), (74, eA (.getfield 25) 77 10 3 0 0 [97]), (77, e0 .isub 78), (78, eC (.bipush 8) 80 8), (80, eA (.if_icmp .gt 8) 83 88 0 0 0 []), (83, eC (.bipush (-3)) 85 (-3)), (85, eA (.goto 5) 88 90 0 0 0 []), (88, eC (.bipush (-2)) 90 (-2)), (90, eA (.putfield 32) 93 10 2 0 0 [95]), (93, e0 .return_ 94)]
def k_Te_takeNumber : List (Nat × En) := [(0, eA (.aload_n 0) 1 0 0 0 0 []), (1, eZ (.lconst 0) 2 0 []), (2, eA (.putfield 54) 5 10 5 0 0 [100]), (5, eA (.aload_n 0) 6 0 0 0 0 []), (6, eA (.getfield 19) 9 10 4 0 0 [98]), (9, eA (.aload_n 0) 10 0 0 0 0 []), (10, eA (.getfield 15) 13 10 1 0 0 [92]), (13, eA (.if_icmp .ge 55) 16 68 0 0 0 []), (16, eA (.aload_n 0) 17 0 0 0 0 []), (17, eA (.aload_n 0) 18 0 0 0 0 []), (18, eA (.getfield 19) 21 10 4 0 0 [98]), (21, eA (.invokevirtual 28) 24 84 2 0 10 [409, 411, 1]), (24, eA (.invokestatic 42) 27 93 1 0 0 [427, 428]), (27, eA (.ifCond .eq 41) 30 68 0 0 0 []), (30, eA (.aload_n 0) 31 0 0 0 0 []), (31, eA (.aload_n 0) 32 0 0 0 0 []), (32, eA (.getfield 54) 35 10 5 0 0 [100]), (35, eZ (.ldc2_w 63) 38 10 [434]), (38, e0 .lmul 39), (39, eA (.aload_n 0) 40 0 0 0 0 []), (40, eA (.aload_n 0) 41 0 0 0 0 []), (41, eA (.getfield 19) 44 10 4 0 0 [98]), (44, eA (.invokevirtual 28) 47 84 2 0 10 [409, 411, 1]), (47, eC (.bipush 48) 49 48), (49, e0 .isub 50), (50, e0 .i2l 51), (51, e0 .ladd 52), (52, eA (.putfield 54) 55 10 5 0 0 [100]), (55, eA (.aload_n 0) 56 0 0 0 0 []), (56, e0 .dup 57), (57, eA (.getfield 19) 60 10 4 0 0 [98]), (60, eC (.iconst 1) 61 1), (61, e0 .iadd 62), (62, eA (.putfield 19) 65 10 4 0 0 [98]), (65, eA (.goto (-60)) 68 5 0 0 0 []), (68, eA (.aload_n 0) 69 0 0 0 0 []), (69, eA (.aload_n 0) 70 0 0 0 0 []), (70, eA (.getfield 19) 73 10 4 0 0 [98]), (73, eA (.aload_n 0) 74 0 0 0 0 []), (74, eA (.getfield 25) 77 10 3 0 0 [97]), (77, e0 .isub 78), (78, eC (.iconst 4) 79 4), (79, eA (.if_icmp .gt 8) 82 87 0 0 0 []), (82, eC (.bipush (-4)) 84 (-4)), (84, eA (.goto 5) 87 89 0 0 0 []), (87, eC (.bipush (-2)) 89 (-2)), (89, eA (.putfield 32) 92 10 2 0 0 [95]), (92, e0 .return_ 93)]
def k_Te_isName : List (Nat × En) := [(0, eA (.aload_n 0) 1 0 0 0 0 []), (1, eA (.getfield 32) 4 10 2 0 0 [95]), (4, eC (.bipush (-3)) 6 (-3)), (6, eA (.if_icmp .ne 20) 9 26 0 0 0 []), (9, eA (.aload_n 0) 10 0 0 0 0 []), (10, eA (.getfield 54) 13 10 5 0 0 [100]), (13, eA (.iload_n 1) 14 1 0 0 0 []), (14, eA (.invokestatic 60) 17 90 1 0 0 [424, 425]), (17, e0 .i2l 18), (18, e0 .lcmp 19), (19, eA (.ifCond .ne 7) 22 26 0 0 0 []), (22, eC (.iconst 1) 23 1), (23, eA (.goto 4) 26 27 0 0 0 []), (26, eC (.iconst 0) 27 0), (27, e0 .ireturn 28)]
def k_Te_isKindLetter : List (Nat × En) := [(0, eA (.aload_n 0) 1 0 0 0 0 []), (1, eC (.bipush 100) 3 100), (3, eA (.invokevirtual 65) 6 88 2 0 10 [491, 492, 493]), (6, eA (.ifCond .ne 39) 9 45 0 0 0 []), (9, eA (.aload_n 0) 10 0 0 0 0 []), (10, eC (.bipush 113) 12 113), (12, eA (.invokevirtual 65) 15 88 2 0 10 [491, 492, 493]), (15, eA (.ifCond .ne 30) 18 45 0 0 0 []), (18, eA (.aload_n 0) 19 0 0 0 0 []), (19, eC (.bipush 115) 21 115), (21, eA (.invokevirtual 65) 24 88 2 0 10 [491, 492, 493]), (24, eA (.ifCond .ne 21) 27 45 0 0 0 []), (27, eA (.aload_n 0) 28 0 0 0 0 []), (28, eC (.bipush 107) 30 107), (30, eA (.invokevirtual 65) 33 88 2 0 10 [491, 492, 493]), (33, eA (.ifCond .ne 12) 36 45 0 0 0 []), (36, eA (.aload_n 0) 37 0 0 0 0 []), (37, eC (.bipush 109) 39 109), (39, eA (.invokevirtual 65) 42 88 2 0 10 [491, 492, 493]), (42, eA (.ifCond .eq 7) 45 49 0 0 0 []), (45, eC (.iconst 1) 46 1), (46, eA (.goto 4) 49 50 0 0 0 []), (49, eC (.iconst 0) 50 0), (50, e0 .ireturn 51)]
def k_Te_letterWorth : List (Nat × En) := [(0, eA (.iload_n 0) 1 0 0 0 0 []), (1, eC (.bipush 97) 3 97), (3, e0 .isub 4), (4, eC (.iconst 1) 5 1), (5, e0 .iadd 6), (6, e0 .ireturn 7)]
def k_Te_isBlank : List (Nat × En) := [(0, eA (.iload_n 0) 1 0 0 0 0 []), (1, eC (.bipush 32) 3 32), (3, eA (.if_icmp .eq 9) 6 12 0 0 0 []), (6, eA (.iload_n 0) 7 0 0 0 0 []), (7, eC (.bipush 10) 9 10), (9, eA (.if_icmp .ne 7) 12 16 0 0 0 []), (12, eC (.iconst 1) 13 1), (13, eA (.goto 4) 16 17 0 0 0 []), (16, eC (.iconst 0) 17 0), (17, e0 .ireturn 18)]
def k_Te_isLetter : List (Nat × En) := [(0, eA (.iload_n 0) 1 0 0 0 0 []), (1, eC (.bipush 97) 3 97), (3, eA (.if_icmp .lt 13) 6 16 0 0 0 []), (6, eA (.iload_n 0) 7 0 0 0 0 []), (7, eC (.bipush 122) 9 122), (9, eA (.if_icmp .gt 7) 12 16 0 0 0 []), (12, eC (.iconst 1) 13 1), (13, eA (.goto 4) 16 17 0 0 0 []), (16, eC (.iconst 0) 17 0), (17, e0 .ireturn 18)]
def k_Te_isFigure : List (Nat × En) := [(0, eA (.iload_n 0) 1 0 0 0 0 []), (1, eC (.bipush 48) 3 48), (3, eA (.if_icmp .lt 13) 6 16 0 0 0 []), (6, eA (.iload_n 0) 7 0 0 0 0 []), (7, eC (.bipush 57) 9 57), (9, eA (.if_icmp .gt 7) 12 16 0 0 0 []), (12, eC (.iconst 1) 13 1), (13, eA (.goto 4) 16 17 0 0 0 []), (16, eC (.iconst 0) 17 0), (17, e0 .ireturn 18)]
def k_Te_standsAlone : List (Nat × En) := [(0, eA (.iload_n 0) 1 0 0 0 0 []), (1, eS (.tableswitch 105 40 61 #[103, 103, 103, 105, 105, 103, 105, 103, 105, 105, 105, 105, 105, 105, 105, 105, 105, 105, 105, 103, 105, 103]) 104 106 [(40, 104), (41, 104), (42, 104), (43, 106), (44, 106), (45, 104), (46, 106), (47, 104), (48, 106), (49, 106), (50, 106), (51, 106), (52, 106), (53, 106), (54, 106), (55, 106), (56, 106), (57, 106), (58, 106), (59, 104), (60, 106), (61, 104)]), (104, eC (.iconst 1) 105 1), (105, e0 .ireturn 106), (106, eC (.iconst 0) 107 0), (107, e0 .ireturn 108)]
def k_C_init : List (Nat × En) := [(0, eA (.aload_n 0) 1 0 0 0 0 []), (1, eA (.invokespecial 1) 4 0 1 6 0 [76, 77, 78]), (4, eA (.aload_n 0) 5 0 0 0 0 []), (5, eA (.new 7) 8 6 0 0 0 [79, 80, 57]), (8, e0 .dup 9), (9, eA (.invokespecial 9) 12 40 1 1 6 [81, 82]), (12, eA (.putfield 10) 15 11 0 2 0 [365]), (15, eA (.aload_n 0) 16 0 0 0 0 []), (16, eA (.new 16) 19 8 0 0 0 [182, 183, 60]), (19, e0 .dup 20), (20, eA (.invokespecial 18) 23 68 1 0 8 [184, 185]), (23, eA (.putfield 19) 26 11 1 2 0 [366]), (26, eA (.aload_n 0) 27 0 0 0 0 []), (27, eA (.new 23) 30 4 0 0 0 [242, 243, 62]), (30, e0 .dup 31), (31, eA (.invokespecial 25) 34 19 1 0 4 [244, 245]), (34, eA (.putfield 26) 37 11 2 2 0 [367]), (37, eA (.aload_n 0) 38 0 0 0 0 []), (38, eA (.new 30) 41 1 0 0 0 [328, 329, 65]), (41, e0 .dup 42), (42, eA (.invokespecial 32) 45 7 1 1 1 [330, 331]), (45, eA (.putfield 33) 48 11 3 2 0 [368]), (48, eA (.aload_n 0) 49 0 0 0 0 []), (49, eC (.bipush (-4)) 51 (-4)), (51, eA (.putfield 37) 54 11 4 0 0 [369]), (54, e0 .return_ 55)]
def k_C_feed : List (Nat × En) := [(0, eA (.iload_n 1) 1 1 0 0 0 []), (1, eC (.iconst 1) 2 1), (2, eA (.if_icmp .lt 9) 5 11 0 0 0 []), (5, eA (.iload_n 1) 6 1 0 0 0 []), (6, eC (.bipush 8) 8 8), (8, eA (.if_icmp .le 5) 11 13 0 0 0 []), (11, eC (.iconst (-1)) 12 (-1)), (12, e0 .ireturn 13), (13, eA (.iload_n 1) 14 1 0 0 0 []), (14, eC (.sipush 1500) 17 1500), (17, eA (.aload_n 0) 18 0 0 0 0 []), (18, eA (.getfield 10) 21 11 0 0 0 [365]), (21, eA (.getfield 41) 24 6 0 1 0 [144]), (24, eA (.getfield 45) 27 10 1 1 0 [93]), (27, e0 .isub 28), (28, eA (.if_icmp .le 6) 31 34 0 0 0 []), (31, eC (.bipush (-3)) 33 (-3)), (33, e0 .ireturn 34), (34, eA (.iload_n 1) 35 1 0 0 0 []), (35, eC (.iconst 1) 36 1), (36, e0 .isub 37), (37, eA (.istore 4) 39 4 0 0 0 []), (39, eA (.iload 4) 41 4 0 0 0 []), (41, eA (.ifCond .lt 31) 44 72 0 0 0 []), (44, eA (.aload_n 0) 45 0 0 0 0 []), (45, eA (.getfield 10) 48 11 0 0 0 [365]), (48, eA (.getfield 41) 51 6 0 1 0 [144]), (51, eA (.lload_n 2) 52 2 0 0 0 []), (52, eC (.bipush 8) 54 8), (54, eA (.iload 4) 56 4 0 0 0 []), (56, e0 .imul 57), (57, e0 .lushr 58), (58, e0 .l2i 59), (59, eC (.sipush 255) 62 255), (62, e0 .iand 63), (63, eA (.invokevirtual 50) 66 80 2 0 10 [385, 386, 387]), (66, eI (.iinc 4 (-1)) 69 4 (-1)), (69, eA (.goto (-30)) 72 39 0 0 0 []), (72, eA (.aload_n 0) 73 0 0 0 0 []), (73, eA (.getfield 10) 76 11 0 0 0 [365]), (76, eA (.getfield 41) 79 6 0 1 0 [144]), (79, eA (.getfield 45) 82 10 1 1 0 [93]), (82, e0 .ireturn 83)]
def k_C_read : List (Nat × En) := [(0, eA (.aload_n 0) 1 0 0 0 0 []), (1, eA (.getfield 10) 4 11 0 0 0 [365]), (4, eA (.invokevirtual 54) 7 41 1 0 6 [393, 394, 395]), (7, eA (.istore_n 1) 8 1 0 0 0 []), (8, eA (.aload_n 0) 9 0 0 0 0 []), (9, eA (.getfield 10) 12 11 0 0 0 [365]), (12, eA (.getfield 41) 15 6 0 1 0 [144]), (15, eA (.invokevirtual 58) 18 81 1 0 10 [579, 580, 581]), (18, eA (.iload_n 1) 19 1 0 0 0 []), (19, eA (.ifCond .eq 19) 22 38 0 0 0 []), (22, eA (.aload_n 0) 23 0 0 0 0 []), (23, eA (.aload_n 0) 24 0 0 0 0 []), (24, eA (.getfield 10) 27 11 0 0 0 [365]), (27, eA (.invokevirtual 61) 30 42 1 0 6 [583, 584, 585]), (30, eA (.putfield 37) 33 11 4 0 0 [369]), (33, eC (.bipush (-10)) 35 (-10)), (35, eA (.iload_n 1) 36 1 0 0 0 []), (36, e0 .isub 37), (37, e0 .ireturn 38), (38, eA (.aload_n 0) 39 0 0 0 0 []), (39, eC (.bipush (-4)) 41 (-4)), (41, eA (.putfield 37) 44 11 4 0 0 [369]), (44, eA (.aload_n 0) 45 0 0 0 0 []), (45, eA (.getfield 19) 48 11 1 0 0 [366]), (48, eA (.aload_n 0) 49 0 0 0 0 []), (49, eA (.getfield 10) 52 11 0 0 0 [365]), (52, eA (.invokevirtual 63) 55 43 1 0 6 [587, 588, 589]), (55, eA (.invokevirtual 67) 58 73 2 0 8 [591, 592, 593]), (58, eA (.aload_n 0) 59 0 0 0 0 []), (59, eA (.getfield 33) 62 11 3 0 0 [368]), (62, eA (.invokevirtual 71) 65 8 1 0 1 [596, 597, 598]), (65, eA (.aload_n 0) 66 0 0 0 0 []), (66, eA (.getfield 19) 69 11 1 0 0 [366]), (69, eA (.getfield 74) 72 8 1 1 0 [211]), (72, e0 .ireturn 73)]
def k_C_place : List (Nat × En) := [(0, eA (.aload_n 0) 1 0 0 0 0 []), (1, eA (.getfield 37) 4 11 4 0 0 [369]), (4, e0 .ireturn 5)]
def k_C_part : List (Nat × En) := [(0, eA (.aload_n 0) 1 0 0 0 0 []), (1, eA (.getfield 19) 4 11 1 0 0 [366]), (4, eA (.iload_n 1) 5 1 0 0 0 []), (5, eA (.invokevirtual 77) 8 69 2 0 8 [608, 609, 610]), (8, eA (.ifCond .eq 12) 11 20 0 0 0 []), (11, eA (.iload_n 2) 12 2 0 0 0 []), (12, eA (.ifCond .lt 8) 15 20 0 0 0 []), (15, eA (.iload_n 2) 16 2 0 0 0 []), (16, eC (.iconst 2) 17 2), (17, eA (.if_icmp .le 5) 20 22 0 0 0 []), (20, eC (.iconst (-1)) 21 (-1)), (21, e0 .ireturn 22), (22, eA (.iload_n 2) 23 2 0 0 0 []), (23, eA (.ifCond .ne 16) 26 39 0 0 0 []), (26, eA (.aload_n 0) 27 0 0 0 0 []), (27, eA (.getfield 19) 30 11 1 0 0 [366]), (30, eA (.getfield 81) 33 8 0 1 0 [208]), (33, eA (.iload_n 1) 34 1 0 0 0 []), (34, e0 .aaload 35), (35, eA (.getfield 85) 38 5 0 1 0 [469]), (38, e0 .ireturn 39), (39, eA (.aload_n 0) 40 0 0 0 0 []), (40, eA (.getfield 19) 43 11 1 0 0 [366]), (43, eA (.iload_n 1) 44 1 0 0 0 []), (44, eA (.invokevirtual 90) 47 72 2 0 8 [612, 613, 614]), (47, eA (.iload_n 2) 48 2 0 0 0 []), (48, eC (.iconst 1) 49 1), (49, e0 .isub 50), (50, eA (.invokevirtual 94) 53 6 2 0 0 [616, 617, 618]), (53, e0 .ireturn 54)]
def k_C_kick : List (Nat × En) := [(0, eA (.aload_n 0) 1 0 0 0 0 []), (1, eA (.getfield 19) 4 11 1 0 0 [366]), (4, eA (.iload_n 1) 5 1 0 0 0 []), (5, eA (.invokevirtual 100) 8 70 2 0 8 [624, 625, 626]), (8, eA (.ifCond .eq 29) 11 37 0 0 0 []), (11, eA (.iload_n 2) 12 2 0 0 0 []), (12, eC (.sipush (-10000)) 15 (-10000)), (15, eA (.if_icmp .lt 22) 18 37 0 0 0 []), (18, eA (.iload_n 2) 19 2 0 0 0 []), (19, eC (.sipush 10000) 22 10000), (22, eA (.if_icmp .gt 15) 25 37 0 0 0 []), (25, eA (.iload_n 3) 26 3 0 0 0 []), (26, eC (.iconst 1) 27 1), (27, eA (.if_icmp .lt 10) 30 37 0 0 0 []), (30, eA (.iload_n 3) 31 3 0 0 0 []), (31, eC (.sipush 10000) 34 10000), (34, eA (.if_icmp .le 5) 37 39 0 0 0 []), (37, eC (.iconst (-1)) 38 (-1)), (38, e0 .ireturn 39), (39, eA (.aload_n 0) 40 0 0 0 0 []), (40, eA (.getfield 19) 43 11 1 0 0 [366]), (43, eA (.getfield 103) 46 8 2 1 0 [214]), (46, eA (.iload_n 1) 47 1 0 0 0 []), (47, e0 .aaload 48), (48, eA (.iload_n 2) 49 2 0 0 0 []), (49, e0 .i2l 50), (50, eA (.iload_n 3) 51 3 0 0 0 []), (51, e0 .i2l 52), (52, eA (.invokevirtual 107) 55 1 3 0 0 [628, 449, 450]), (55, eC (.iconst 0) 56 0), (56, e0 .ireturn 57)]
def k_C_table : List (Nat × En) := [(0, eA (.aload_n 0) 1 0 0 0 0 []), (1, eA (.getfield 19) 4 11 1 0 0 [366]), (4, eA (.iload_n 1) 5 1 0 0 0 []), (5, eA (.invokevirtual 77) 8 69 2 0 8 [608, 609, 610]), (8, eA (.ifCond .eq 14) 11 22 0 0 0 []), (11, eA (.iload_n 2) 12 2 0 0 0 []), (12, eA (.ifCond .lt 10) 15 22 0 0 0 []), (15, eA (.iload_n 2) 16 2 0 0 0 []), (16, eC (.sipush 200) 19 200), (19, eA (.if_icmp .le 5) 22 24 0 0 0 []), (22, eC (.iconst (-1)) 23 (-1)), (23, e0 .ireturn 24), (24, eA (.aload_n 0) 25 0 0 0 0 []), (25, eA (.getfield 26) 28 11 2 0 0 [367]), (28, eA (.aload_n 0) 29 0 0 0 0 []), (29, eA (.getfield 19) 32 11 1 0 0 [366]), (32, eA (.iload_n 1) 33 1 0 0 0 []), (33, eA (.iload_n 2) 34 2 0 0 0 []), (34, eA (.invokevirtual 111) 37 25 4 0 4 [633, 634, 635]), (37, eA (.aload_n 0) 38 0 0 0 0 []), (38, eA (.getfield 26) 41 11 2 0 0 [367]), (41, eA (.invokevirtual 115) 44 20 1 0 4 [685, 686, 687]), (44, eA (.ifCond .eq 6) 47 50 0 0 0 []), (47, eC (.bipush (-5)) 49 (-5)), (49, e0 .ireturn 50), (50, eA (.aload_n 0) 51 0 0 0 0 []), (51, eA (.getfield 26) 54 11 2 0 0 [367]), (54, eA (.invokevirtual 119) 57 34 1 0 4 [689, 690, 691]), (57, e0 .ireturn 58)]
def k_C_round : List (Nat × En) := [(0, eA (.aload_n 0) 1 0 0 0 0 []), (1, eA (.getfield 19) 4 11 1 0 0 [366]), (4, eA (.iload_n 1) 5 1 0 0 0 []), (5, eA (.invokevirtual 77) 8 69 2 0 8 [608, 609, 610]), (8, eA (.ifCond .ne 5) 11 13 0 0 0 []), (11, eC (.iconst (-1)) 12 (-1)), (12, e0 .ireturn 13), (13, eA (.aload_n 0) 14 0 0 0 0 []), (14, eA (.getfield 26) 17 11 2 0 0 [367]), (17, eA (.aload_n 0) 18 0 0 0 0 []), (18, eA (.getfield 19) 21 11 1 0 0 [366]), (21, eA (.iload_n 1) 22 1 0 0 0 []), (22, eA (.aload_n 0) 23 0 0 0 0 []), (23, eA (.getfield 19) 26 11 1 0 0 [366]), (26, eA (.getfield 74) 29 8 1 1 0 [211]), (29, eA (.invokevirtual 111) 32 25 4 0 4 [633, 634, 635]), (32, eA (.aload_n 0) 33 0 0 0 0 []), (33, eA (.getfield 26) 36 11 2 0 0 [367]), (36, eA (.invokevirtual 122) 39 26 1 0 4 [702, 703, 704]), (39, eA (.istore_n 2) 40 2 0 0 0 []), (40, eA (.iload_n 2) 41 2 0 0 0 []), (41, eC (.bipush (-5)) 43 (-5)), (43, eA (.if_icmp .eq 11) 46 54 0 0 0 []), (46, eA (.aload_n 0) 47 0 0 0 0 []), (47, eA (.getfield 26) 50 11 2 0 0 [367]), (50, eA (.invokevirtual 119) 53 34 1 0 4 [689, 690, 691]), (53, e0 .pop 54), (54, eA (.iload_n 2) 55 2 0 0 0 []), (55, e0 .ireturn 56)]
def k_C_widths : List (Nat × En) := [(0, eA (.aload_n 0) 1 0 0 0 0 []), (1, eA (.getfield 19) 4 11 1 0 0 [366]), (4, eA (.iload_n 1) 5 1 0 0 0 []), (5, eA (.invokevirtual 77) 8 69 2 0 8 [608, 609, 610]), (8, eA (.ifCond .ne 5) 11 13 0 0 0 []), (11, eC (.iconst (-1)) 12 (-1)), (12, e0 .ireturn 13), (13, eA (.aload_n 0) 14 0 0 0 0 []), (14, eA (.getfield 26) 17 11 2 0 0 [367]), (17, eA (.aload_n 0) 18 0 0 0 0 []), (18, eA (.getfield 19) 21 11 1 0 0 [366]), (21, eA (.iload_n 1) 22 1 0 0 0 []), (22, eA (.aload_n 0) 23 0 0 0 0 []), (23, eA (.getfield 19) 26 11 1 0 0 [366]), (26, eA (.getfield 74) 29 8 1 1 0 [211]), (29, eA (.invokevirtual 111) 32 25 4 0 4 [633, 634, 635]), (32, eA (.aload_n 0) 33 0 0 0 0 []), (33, eA (.getfield 26) 36 11 2 0 0 [367]), (36, eA (.invokevirtual 122) 39 26 1 0 4 [702, 703, 704]), (39, eA (.istore_n 2) 40 2 0 0 0 []), (40, eA (.iload_n 2) 41 2 0 0 0 []), (41, eC (.bipush (-5)) 43 (-5)), (43, eA (.if_icmp .ne 6) 46 49 0 0 0 []), (46, eC (.bipush (-5)) 48 (-5)), (48, e0 .ireturn 49), (49, eA (.iload_n 2) 50 2 0 0 0 []), (50, eC (.iconst 2) 51 2), (51, eA (.if_icmp .eq 6) 54 57 0 0 0 []), (54, eC (.bipush (-2)) 56 (-2)), (56, e0 .ireturn 57), (57, eA (.aload_n 0) 58 0 0 0 0 []), (58, eA (.getfield 26) 61 11 2 0 0 [367]), (61, eA (.invokevirtual 125) 64 28 1 0 4 [720, 721, 722]), (64, eA (.aload_n 0) 65 0 0 0 0 []), (65, eA (.getfield 26) 68 11 2 0 0 [367]), (68, eA (.invokevirtual 115) 71 20 1 0 4 [685, 686, 687]), (71, eA (.ifCond .eq 6) 74 77 0 0 0 []), (74, eC (.bipush (-5)) 76 (-5)), (76, e0 .ireturn 77), (77, eA (.aload_n 0) 78 0 0 0 0 []), (78, eA (.getfield 26) 81 11 2 0 0 [367]), (81, eA (.invokevirtual 128) 84 35 1 0 4 [727, 728, 729]), (84, e0 .ireturn 85)]
def k_C_turns : List (Nat × En) := [(0, eA (.aload_n 0) 1 0 0 0 0 []), (1, eA (.getfield 19) 4 11 1 0 0 [366]), (4, eC (.iconst 0) 5 0), (5, eA (.invokevirtual 77) 8 69 2 0 8 [608, 609, 610]), (8, eA (.ifCond .ne 5) 11 13 0 0 0 []), (11, eC (.iconst (-1)) 12 (-1)), (12, e0 .ireturn 13), (13, eA (.aload_n 0) 14 0 0 0 0 []), (14, eA (.getfield 26) 17 11 2 0 0 [367]), (17, eA (.aload_n 0) 18 0 0 0 0 []), (18, eA (.getfield 19) 21 11 1 0 0 [366]), (21, eC (.iconst 0) 22 0), (22, eA (.aload_n 0) 23 0 0 0 0 []), (23, eA (.getfield 19) 26 11 1 0 0 [366]), (26, eA (.getfield 74) 29 8 1 1 0 [211]), (29, eA (.invokevirtual 111) 32 25 4 0 4 [633, 634, 635]), (32, eA (.aload_n 0) 33 0 0 0 0 []), (33, eA (.getfield 26) 36 11 2 0 0 [367]), (36, eA (.invokevirtual 122) 39 26 1 0 4 [702, 703, 704]), (39, eA (.istore_n 1) 40 1 0 0 0 []), (40, eA (.iload_n 1) 41 1 0 0 0 []), (41, eC (.bipush (-5)) 43 (-5)), (43, eA (.if_icmp .ne 6) 46 49 0 0 0 []), (46, eC (.bipush (-5)) 48 (-5)), (48, e0 .ireturn 49), (49, eA (.iload_n 1) 50 1 0 0 0 []), (50, eC (.iconst 2) 51 2), (51, eA (.if_icmp .ne 13) 54 64 0 0 0 []), (54, eA (.aload_n 0) 55 0 0 0 0 []), (55, eA (.getfield 26) 58 11 2 0 0 [367]), (58, eA (.invokevirtual 131) 61 27 1 0 4 [739, 740, 741]), (61, eA (.goto 5) 64 66 0 0 0 []), (64, eC (.bipush (-2)) 66 (-2)), (66, e0 .ireturn 67)]
def k_C_way : List (Nat × En) := [(0, eA (.aload_n 0) 1 0 0 0 0 []), (1, eA (.getfield 19) 4 11 1 0 0 [366]), (4, eA (.iload_n 1) 5 1 0 0 0 []), (5, eA (.invokevirtual 77) 8 69 2 0 8 [608, 609, 610]), (8, eA (.ifCond .ne 5) 11 13 0 0 0 []), (11, eC (.iconst (-1)) 12 (-1)), (12, e0 .ireturn 13), (13, eA (.aload_n 0) 14 0 0 0 0 []), (14, eA (.getfield 26) 17 11 2 0 0 [367]), (17, eA (.aload_n 0) 18 0 0 0 0 []), (18, eA (.getfield 19) 21 11 1 0 0 [366]), (21, eA (.aload_n 0) 22 0 0 0 0 []), (22, eA (.getfield 19) 25 11 1 0 0 [366]), (25, eA (.getfield 103) 28 8 2 1 0 [214]), (28, eA (.iload_n 1) 29 1 0 0 0 []), (29, eA (.invokevirtual 134) 32 29 4 0 4 [748, 749, 750]), (32, eA (.istore_n 2) 33 2 0 0 0 []), (33, eA (.iload_n 2) 34 2 0 0 0 []), (34, eA (.ifCond .eq 5) 37 39 0 0 0 []), (37, eA (.iload_n 2) 38 2 0 0 0 []), (38, e0 .ireturn 39), (39, eA (.aload_n 0) 40 0 0 0 0 []), (40, eA (.getfield 26) 43 11 2 0 0 [367]), (43, eA (.invokevirtual 138) 46 36 1 0 4 [768, 769, 770]), (46, e0 .ireturn 47)]
def k_C_answer : List (Nat × En) := [(0, eA (.aload_n 0) 1 0 0 0 0 []), (1, eA (.getfield 19) 4 11 1 0 0 [366]), (4, eA (.iload_n 1) 5 1 0 0 0 []), (5, eA (.invokevirtual 141) 8 71 2 0 8 [776, 777, 778]), (8, eA (.ifCond .eq 14) 11 22 0 0 0 []), (11, eA (.aload_n 0) 12 0 0 0 0 []), (12, eA (.getfield 19) 15 11 1 0 0 [366]), (15, eA (.iload_n 2) 16 2 0 0 0 []), (16, eA (.invokevirtual 100) 19 70 2 0 8 [624, 625, 626]), (19, eA (.ifCond .ne 5) 22 24 0 0 0 []), (22, eC (.iconst (-1)) 23 (-1)), (23, e0 .ireturn 24), (24, eA (.aload_n 0) 25 0 0 0 0 []), (25, eA (.getfield 26) 28 11 2 0 0 [367]), (28, eA (.aload_n 0) 29 0 0 0 0 []), (29, eA (.getfield 19) 32 11 1 0 0 [366]), (32, eA (.aload_n 0) 33 0 0 0 0 []), (33, eA (.getfield 26) 36 11 2 0 0 [367]), (36, eA (.iload_n 2) 37 2 0 0 0 []), (37, eA (.invokevirtual 144) 40 21 2 0 4 [780, 781, 782]), (40, eA (.aload_n 0) 41 0 0 0 0 []), (41, eA (.getfield 19) 44 11 1 0 0 [366]), (44, eA (.getfield 148) 47 8 4 1 0 [218]), (47, eA (.iload_n 1) 48 1 0 0 0 []), (48, e0 .iaload 49), (49, eA (.invokevirtual 134) 52 29 4 0 4 [748, 749, 750]), (52, eA (.istore_n 3) 53 3 0 0 0 []), (53, eA (.iload_n 3) 54 3 0 0 0 []), (54, eA (.ifCond .eq 5) 57 59 0 0 0 []), (57, eA (.iload_n 3) 58 3 0 0 0 []), (58, e0 .ireturn 59), (59, eA (.aload_n 0) 60 0 0 0 0 []), (60, eA (.getfield 26) 63 11 2 0 0 [367]), (63, eA (.invokevirtual 152) 66 37 1 0 4 [784, 785, 786]), (66, e0 .ireturn 67)]
def k_C_bump : List (Nat × En) := [(0, eA (.aload_n 0) 1 0 0 0 0 []), (1, eA (.getfield 19) 4 11 1 0 0 [366]), (4, eA (.iload_n 1) 5 1 0 0 0 []), (5, eA (.invokevirtual 100) 8 70 2 0 8 [624, 625, 626]), (8, eA (.ifCond .eq 24) 11 32 0 0 0 []), (11, eA (.aload_n 0) 12 0 0 0 0 []), (12, eA (.getfield 19) 15 11 1 0 0 [366]), (15, eA (.iload_n 3) 16 3 0 0 0 []), (16, eA (.invokevirtual 100) 19 70 2 0 8 [624, 625, 626]), (19, eA (.ifCond .eq 13) 22 32 0 0 0 []), (22, eA (.iload_n 1) 23 1 0 0 0 []), (23, eA (.iload_n 2) 24 2 0 0 0 []), (24, eA (.if_icmp .ge 8) 27 32 0 0 0 []), (27, eA (.iload_n 2) 28 2 0 0 0 []), (28, eA (.iload_n 3) 29 3 0 0 0 []), (29, eA (.if_icmp .lt 5) 32 34 0 0 0 []), (32, eC (.iconst (-1)) 33 (-1)), (33, e0 .ireturn 34), (34, eA (.aload_n 0) 35 0 0 0 0 []), (35, eA (.getfield 26) 38 11 2 0 0 [367]), (38, eA (.aload_n 0) 39 0 0 0 0 []), (39, eA (.getfield 19) 42 11 1 0 0 [366]), (42, eA (.aload_n 0) 43 0 0 0 0 []), (43, eA (.getfield 19) 46 11 1 0 0 [366]), (46, eA (.getfield 155) 49 8 3 1 0 [216]), (49, eA (.iload_n 1) 50 1 0 0 0 []), (50, e0 .iaload 51), (51, eA (.aload_n 0) 52 0 0 0 0 []), (52, eA (.getfield 19) 55 11 1 0 0 [366]), (55, eA (.getfield 155) 58 8 3 1 0 [216]), (58, eA (.iload_n 2) 59 2 0 0 0 []), (59, e0 .iaload 60), (60, eA (.aload_n 0) 61 0 0 0 0 []), (61, eA (.getfield 19) 64 11 1 0 0 [366]), (64, eA (.getfield 155) 67 8 3 1 0 [216]), (67, eA (.iload_n 3) 68 3 0 0 0 []), (68, e0 .iaload 69), (69, eA (.invokevirtual 158) 72 31 5 0 4 [792, 793, 794]), (72, eA (.istore 4) 74 4 0 0 0 []), (74, eA (.iload 4) 76 4 0 0 0 []), (76, eA (.ifCond .eq 6) 79 82 0 0 0 []), (79, eA (.iload 4) 81 4 0 0 0 []), (81, e0 .ireturn 82), (82, eA (.aload_n 0) 83 0 0 0 0 []), (83, eA (.getfield 26) 86 11 2 0 0 [367]), (86, eA (.invokevirtual 162) 89 38 1 0 4 [797, 798, 799]), (89, e0 .ireturn 90)]
def k_C_number : List (Nat × En) := [(0, eA (.iload_n 1) 1 1 0 0 0 []), (1, eA (.ifCond .lt 12) 4 13 0 0 0 []), (4, eA (.iload_n 2) 5 2 0 0 0 []), (5, eA (.ifCond .lt 8) 8 13 0 0 0 []), (8, eA (.iload_n 2) 9 2 0 0 0 []), (9, eC (.iconst 1) 10 1), (10, eA (.if_icmp .le 5) 13 15 0 0 0 []), (13, eC (.iconst (-1)) 14 (-1)), (14, e0 .ireturn 15), (15, eA (.aload_n 0) 16 0 0 0 0 []), (16, eA (.getfield 26) 19 11 2 0 0 [367]), (19, eA (.iload_n 1) 20 1 0 0 0 []), (20, eA (.invokevirtual 165) 23 32 2 0 4 [805, 806, 807]), (23, eA (.ifCond .eq 19) 26 42 0 0 0 []), (26, eA (.aload_n 0) 27 0 0 0 0 []), (27, eA (.getfield 26) 30 11 2 0 0 [367]), (30, eA (.getfield 168) 33 4 12 1 0 [296]), (33, eA (.iload_n 1) 34 1 0 0 0 []), (34, e0 .aaload 35), (35, eA (.iload_n 2) 36 2 0 0 0 []), (36, eA (.invokevirtual 94) 39 6 2 0 0 [616, 617, 618]), (39, eA (.goto 5) 42 44 0 0 0 []), (42, eC (.bipush (-4)) 44 (-4)), (44, e0 .ireturn 45)]
def k_C_grid : List (Nat × En) := [(0, eA (.iload_n 1) 1 1 0 0 0 []), (1, eA (.invokestatic 171) 4 113 1 0 0 [813, 814]), (4, eA (.ifCond .eq 14) 7 18 0 0 0 []), (7, eA (.aload_n 0) 8 0 0 0 0 []), (8, eA (.getfield 19) 11 11 1 0 0 [366]), (11, eC (.iconst 0) 12 0), (12, eA (.invokevirtual 77) 15 69 2 0 8 [608, 609, 610]), (15, eA (.ifCond .ne 5) 18 20 0 0 0 []), (18, eC (.iconst (-1)) 19 (-1)), (19, e0 .ireturn 20), (20, eA (.aload_n 0) 21 0 0 0 0 []), (21, eA (.getfield 33) 24 11 3 0 0 [368]), (24, eA (.aload_n 0) 25 0 0 0 0 []), (25, eA (.getfield 19) 28 11 1 0 0 [366]), (28, eA (.iload_n 1) 29 1 0 0 0 []), (29, eA (.invokevirtual 174) 32 9 3 0 1 [818, 819, 820]), (32, eA (.ifCond .ne 6) 35 38 0 0 0 []), (35, eC (.bipush (-2)) 37 (-2)), (37, e0 .ireturn 38), (38, eA (.aload_n 0) 39 0 0 0 0 []), (39, eA (.getfield 33) 42 11 3 0 0 [368]), (42, eA (.aload_n 0) 43 0 0 0 0 []), (43, eA (.getfield 19) 46 11 1 0 0 [366]), (46, eA (.invokevirtual 178) 49 12 2 0 1 [829, 830, 831]), (49, eA (.aload_n 0) 50 0 0 0 0 []), (50, eA (.getfield 33) 53 11 3 0 0 [368]), (53, eA (.getfield 182) 56 1 5 1 0 [341]), (56, e0 .ireturn 57)]
def k_C_rows : List (Nat × En) := [(0, eA (.iload_n 1) 1 1 0 0 0 []), (1, eA (.ifCond .lt 8) 4 9 0 0 0 []), (4, eA (.iload_n 1) 5 1 0 0 0 []), (5, eC (.iconst 3) 6 3), (6, eA (.if_icmp .le 5) 9 11 0 0 0 []), (9, eC (.iconst (-1)) 10 (-1)), (10, e0 .ireturn 11), (11, eA (.aload_n 0) 12 0 0 0 0 []), (12, eA (.getfield 33) 15 11 3 0 0 [368]), (15, eA (.getfield 185) 18 1 3 1 0 [338]), (18, eA (.ifCond .eq 14) 21 32 0 0 0 []), (21, eA (.aload_n 0) 22 0 0 0 0 []), (22, eA (.getfield 33) 25 11 3 0 0 [368]), (25, eA (.iload_n 1) 26 1 0 0 0 []), (26, eA (.invokevirtual 188) 29 15 2 0 1 [852, 853, 854]), (29, eA (.goto 5) 32 34 0 0 0 []), (32, eC (.bipush (-4)) 34 (-4)), (34, e0 .ireturn 35)]
def k_C_after : List (Nat × En) := [(0, eA (.iload_n 1) 1 1 0 0 0 []), (1, eA (.invokestatic 171) 4 113 1 0 0 [813, 814]), (4, eA (.ifCond .eq 14) 7 18 0 0 0 []), (7, eA (.aload_n 0) 8 0 0 0 0 []), (8, eA (.getfield 19) 11 11 1 0 0 [366]), (11, eC (.iconst 0) 12 0), (12, eA (.invokevirtual 77) 15 69 2 0 8 [608, 609, 610]), (15, eA (.ifCond .ne 5) 18 20 0 0 0 []), (18, eC (.iconst (-1)) 19 (-1)), (19, e0 .ireturn 20), (20, eA (.iload_n 2) 21 2 0 0 0 []), (21, eA (.ifCond .lt 30) 24 51 0 0 0 []), (24, eA (.iload_n 2) 25 2 0 0 0 []), (25, eA (.iload_n 1) 26 1 0 0 0 []), (26, eA (.if_icmp .ge 25) 29 51 0 0 0 []), (29, eA (.iload_n 3) 30 3 0 0 0 []), (30, eA (.ifCond .lt 21) 33 51 0 0 0 []), (33, eA (.iload_n 3) 34 3 0 0 0 []), (34, eA (.iload_n 1) 35 1 0 0 0 []), (35, eA (.if_icmp .ge 16) 38 51 0 0 0 []), (38, eA (.iload 4) 40 4 0 0 0 []), (40, eA (.ifCond .lt 11) 43 51 0 0 0 []), (43, eA (.iload 4) 45 4 0 0 0 []), (45, eC (.sipush 1000) 48 1000), (48, eA (.if_icmp .le 5) 51 53 0 0 0 []), (51, eC (.iconst (-1)) 52 (-1)), (52, e0 .ireturn 53), (53, eA (.aload_n 0) 54 0 0 0 0 []), (54, eA (.getfield 33) 57 11 3 0 0 [368]), (57, eA (.aload_n 0) 58 0 0 0 0 []), (58, eA (.getfield 19) 61 11 1 0 0 [366]), (61, eA (.iload_n 1) 62 1 0 0 0 []), (62, eA (.invokevirtual 174) 65 9 3 0 1 [818, 819, 820]), (65, eA (.ifCond .ne 6) 68 71 0 0 0 []), (68, eC (.bipush (-2)) 70 (-2)), (70, e0 .ireturn 71), (71, eA (.iload_n 2) 72 2 0 0 0 []), (72, eA (.iload_n 1) 73 1 0 0 0 []), (73, e0 .imul 74), (74, eA (.iload_n 3) 75 3 0 0 0 []), (75, e0 .iadd 76), (76, eA (.istore 5) 78 5 0 0 0 []), (78, eC (.iconst 0) 79 0), (79, eA (.istore 6) 81 6 0 0 0 []), (81, eA (.iload 6) 83 6 0 0 0 []), (83, eA (.iload 4) 85 4 0 0 0 []), (85, eA (.if_icmp .ge 24) 88 109 0 0 0 []), (88, eA (.aload_n 0) 89 0 0 0 0 []), (89, eA (.getfield 33) 92 11 3 0 0 [368]), (92, eA (.aload_n 0) 93 0 0 0 0 []), (93, eA (.getfield 19) 96 11 1 0 0 [366]), (96, eA (.iload 5) 98 5 0 0 0 []), (98, eA (.invokevirtual 191) 101 11 3 0 1 [860, 841, 842]), (101, eA (.istore 5) 103 5 0 0 0 []), (103, eI (.iinc 6 1) 106 6 1), (106, eA (.goto (-25)) 109 81 0 0 0 []), (109, eA (.iload 5) 111 5 0 0 0 []), (111, e0 .ireturn 112)]
def k_C_count : List (Nat × En) := [(0, eA (.iload_n 1) 1 1 0 0 0 []), (1, eS (.tableswitch 78 0 4 #[35, 46, 54, 62, 70]) 36 79 [(0, 36), (1, 47), (2, 55), (3, 63), (4, 71)]), (36, eA (.aload_n 0) 37 0 0 0 0 []), (37, eA (.getfield 10) 40 11 0 0 0 [365]), (40, eA (.getfield 41) 43 6 0 1 0 [144]), (43, eA (.getfield 45) 46 10 1 1 0 [93]), (46, e0 .ireturn 47), (47, eA (.aload_n 0) 48 0 0 0 0 []), (48, eA (.getfield 19) 51 11 1 0 0 [366]), (51, eA (.getfield 74) 54 8 1 1 0 [211]), (54, e0 .ireturn 55), (55, eA (.aload_n 0) 56 0 0 0 0 []), (56, eA (.getfield 19) 59 11 1 0 0 [366]), (59, eA (.getfield 195) 62 8 6 1 0 [222]), (62, e0 .ireturn 63), (63, eA (.aload_n 0) 64 0 0 0 0 []), (64, eA (.getfield 19) 67 11 1 0 0 [366]), (67, eA (.getfield 198) 70 8 7 1 0 [224]), (70, e0 .ireturn 71), (71, eA (.aload_n 0) 72 0 0 0 0 []), (72, eA (.getfield 26) 75 11 2 0 0 [367]), (75, eA (.getfield 201) 78 4 13 1 0 [298]), (78, e0 .ireturn 79), (79, eC (.iconst (-1)) 80 (-1)), (80, e0 .ireturn 81)]
def k_C_isPrime : List (Nat × En) := [(0, eC (.iconst 0) 1 0), (1, eA (.istore_n 1) 2 1 0 0 0 []), (2, eA (.iload_n 1) 3 1 0 0 0 []), (3, eA (.getstatic 204) 6 0 0 0 0 [816]), (6, e0 .arraylength 7), (7, eA (.if_icmp .ge 20) 10 27 0 0 0 []), (10, eA (.getstatic 204) 13 0 0 0 0 [816]), (13, eA (.iload_n 1) 14 1 0 0 0 []), (14, e0 .iaload 15), (15, eA (.iload_n 0) 16 0 0 0 0 []), (16, eA (.if_icmp .ne 5) 19 21 0 0 0 []), (19, eC (.iconst 1) 20 1), (20, e0 .ireturn 21), (21, eI (.iinc 1 1) 24 1 1), (24, eA (.goto (-22)) 27 2 0 0 0 []), (27, eC (.iconst 0) 28 0), (28, e0 .ireturn 29)]
def k_C_commonDivisor : List (Nat × En) := [(0, eA (.lload_n 0) 1 0 0 0 0 []), (1, eA (.lstore 4) 3 4 0 0 0 []), (3, eA (.lload_n 2) 4 2 0 0 0 []), (4, eA (.lstore 6) 6 6 0 0 0 []), (6, eC (.iconst 0) 7 0), (7, eA (.istore 8) 9 8 0 0 0 []), (9, eA (.iload 8) 11 8 0 0 0 []), (11, eC (.sipush 200) 14 200), (14, eA (.if_icmp .ge 31) 17 45 0 0 0 []), (17, eA (.lload 6) 19 6 0 0 0 []), (19, eZ (.lconst 0) 20 0 []), (20, e0 .lcmp 21), (21, eA (.ifCond .eq 24) 24 45 0 0 0 []), (24, eA (.lload 4) 26 4 0 0 0 []), (26, eA (.lload 6) 28 6 0 0 0 []), (28, e0 .lrem 29), (29, eA (.lstore 9) 31 9 0 0 0 []), (31, eA (.lload 6) 33 6 0 0 0 []), (33, eA (.lstore 4) 35 4 0 0 0 []), (35, eA (.lload 9) 37 9 0 0 0 []), (37, eA (.lstore 6) 39 6 0 0 0 []), (39, eI (.iinc 8 1) 42 8 1), (42, eA (.goto (-33)) 45 9 0 0 0 []), (45, eA (.lload 4) 47 4 0 0 0 []), (47, e0 .lreturn 48)]
def k_R_init : List (Nat × En) := [(0, eA (.aload_n 0) 1 0 0 0 0 []), (1, eA (.invokespecial 1) 4 0 1 6 0 [870, 77, 78]), (4, eA (.aload_n 0) 5 0 0 0 0 []), (5, eC (.sipush 1500) 8 1500), (8, eA (.newarray .int) 10 16 0 0 0 [181]), (10, eA (.putfield 7) 13 12 0 2 0 [871]), (13, eA (.aload_n 0) 14 0 0 0 0 []), (14, eC (.sipush 400) 17 400), (17, eA (.newarray .long) 19 19 0 0 0 [1022]), (19, eA (.putfield 13) 22 12 9 2 0 [880]), (22, eA (.aload_n 0) 23 0 0 0 0 []), (23, eC (.sipush 400) 26 400), (26, eA (.newarray .int) 28 16 0 0 0 [181]), (28, eA (.putfield 17) 31 12 10 2 0 [881]), (31, eA (.aload_n 0) 32 0 0 0 0 []), (32, eC (.sipush 400) 35 400), (35, eA (.newarray .int) 37 16 0 0 0 [181]), (37, eA (.putfield 20) 40 12 11 2 0 [882]), (40, eA (.aload_n 0) 41 0 0 0 0 []), (41, eC (.sipush 32000) 44 32000), (44, eA (.newarray .int) 46 16 0 0 0 [181]), (46, eA (.putfield 23) 49 12 13 2 0 [884]), (49, eA (.aload_n 0) 50 0 0 0 0 []), (50, eC (.sipush 32000) 53 32000), (53, eA (.newarray .long) 55 19 0 0 0 [1022]), (55, eA (.putfield 26) 58 12 14 2 0 [885]), (58, eA (.aload_n 0) 59 0 0 0 0 []), (59, eC (.sipush 32000) 62 32000), (62, eA (.newarray .long) 64 19 0 0 0 [1022]), (64, eA (.putfield 29) 67 12 15 2 0 [886]), (67, eA (.aload_n 0) 68 0 0 0 0 []), (68, eC (.bipush 82) 70 82), (70, eA (.newarray .int) 72 16 0 0 0 [181]), (72, eA (.putfield 32) 75 12 20 2 0 [891]), (75, eA (.aload_n 0) 76 0 0 0 0 []), (76, eC (.bipush 82) 78 82), (78, eA (.newarray .long) 80 19 0 0 0 [1022]), (80, eA (.putfield 35) 83 12 21 2 0 [892]), (83, eA (.aload_n 0) 84 0 0 0 0 []), (84, eC (.bipush 82) 86 82), (86, eA (.newarray .long) 88 19 0 0 0 [1022]), (88, eA (.putfield 38) 91 12 22 2 0 [893]), (91, eA (.aload_n 0) 92 0 0 0 0 []), (92, eC (.bipush 8) 94 8), (94, eA (.newarray .int) 96 16 0 0 0 [181]), (96, eA (.putfield 41) 99 12 24 2 0 [895]), (99, eA (.aload_n 0) 100 0 0 0 0 []), (100, eC (.bipush 8) 102 8), (102, eA (.newarray .int) 104 16 0 0 0 [181]), (104, eA (.putfield 44) 107 12 25 2 0 [896]), (107, eA (.aload_n 0) 108 0 0 0 0 []), (108, eC (.bipush 8) 110 8), (110, eA (.newarray .boolean) 112 17 0 0 0 [364]), (112, eA (.putfield 47) 115 12 26 2 0 [897]), (115, eA (.aload_n 0) 116 0 0 0 0 []), (116, eC (.bipush 80) 118 80), (118, eA (.newarray .int) 120 16 0 0 0 [181]), (120, eA (.putfield 51) 123 12 32 2 0 [903]), (123, eA (.aload_n 0) 124 0 0 0 0 []), (124, eC (.bipush 80) 126 80), (126, eA (.newarray .long) 128 19 0 0 0 [1022]), (128, eA (.putfield 54) 131 12 33 2 0 [904]), (131, eA (.aload_n 0) 132 0 0 0 0 []), (132, eC (.bipush 80) 134 80), (134, eA (.newarray .long) 136 19 0 0 0 [1022]), (136, eA (.putfield 57) 139 12 34 2 0 [905]), (139, eA (.aload_n 0) 140 0 0 0 0 []), (140, eC (.bipush 12) 142 12), (142, eA (.newarray .long) 144 19 0 0 0 [1022]), (144, eA (.putfield 60) 147 12 35 2 0 [906]), (147, eA (.aload_n 0) 148 0 0 0 0 []), (148, eC (.bipush 12) 150 12), (150, eA (.newarray .long) 152 19 0 0 0 [1022]), (152, eA (.putfield 63) 155 12 36 2 0 [907]), (155, eA (.aload_n 0) 156 0 0 0 0 []), (156, eC (.bipush 8) 158 8), (158, eA (.newarray .long) 160 19 0 0 0 [1022]), (160, eA (.putfield 66) 163 12 40 2 0 [911]), (163, eA (.aload_n 0) 164 0 0 0 0 []), (164, eC (.bipush 8) 166 8), (166, eA (.newarray .long) 168 19 0 0 0 [1022]), (168, eA (.putfield 69) 171 12 41 2 0 [912]), (171, eA (.aload_n 0) 172 0 0 0 0 []), (172, eC (.bipush 8) 174 8), (174, eA (.newarray .long) 176 19 0 0 0 [1022]), (176, eA (.putfield 72) 179 12 43 2 0 [914]), (179, eA (.aload_n 0) 180 0 0 0 0 []), (180, eC (.bipush 80) 182 80), (182, eA (.newarray .int) 184 16 0 0 0 [181]), (184, eA (.putfield 75) 187 12 48 2 0 [919]), (187, eA (.aload_n 0) 188 0 0 0 0 []), (188, eC (.sipush 961) 191 961), (191, eA (.newarray .boolean) 193 17 0 0 0 [364]), (193, eA (.putfield 78) 196 12 49 2 0 [920]), (196, eA (.aload_n 0) 197 0 0 0 0 []), (197, eC (.bipush (-4)) 199 (-4)), (199, eA (.putfield 81) 202 12 7 0 0 [878]), (202, e0 .return_ 203)]
def k_R_in : List (Nat × En) := [(0, eA (.lload_n 0) 1 0 0 0 0 []), (1, eA (.lload_n 2) 2 2 0 0 0 []), (2, e0 .lcmp 3), (3, eA (.ifCond .lt 14) 6 17 0 0 0 []), (6, eA (.lload_n 0) 7 0 0 0 0 []), (7, eA (.lload 4) 9 4 0 0 0 []), (9, e0 .lcmp 10), (10, eA (.ifCond .gt 7) 13 17 0 0 0 []), (13, eC (.iconst 1) 14 1), (14, eA (.goto 4) 17 18 0 0 0 []), (17, eC (.iconst 0) 18 0), (18, e0 .ireturn 19)]
def k_R_feed : List (Nat × En) := [(0, eA (.iload_n 1) 1 1 0 0 0 []), (1, e0 .i2l 2), (2, eZ (.lconst 1) 3 1 []), (3, eZ (.ldc2_w 85) 6 8 [1027]), (6, eA (.invokestatic 87) 9 116 3 0 0 [1028, 1029]), (9, eA (.ifCond .ne 5) 12 14 0 0 0 []), (12, eC (.iconst (-1)) 13 (-1)), (13, e0 .ireturn 14), (14, eA (.aload_n 0) 15 0 0 0 0 []), (15, eA (.getfield 91) 18 12 1 0 0 [872]), (18, eA (.iload_n 1) 19 1 0 0 0 []), (19, e0 .iadd 20), (20, eC (.sipush 1500) 23 1500), (23, eA (.if_icmp .le 6) 26 29 0 0 0 []), (26, eC (.bipush (-3)) 28 (-3)), (28, e0 .ireturn 29), (29, eA (.iload_n 1) 30 1 0 0 0 []), (30, eC (.iconst 1) 31 1), (31, e0 .isub 32), (32, eA (.istore 4) 34 4 0 0 0 []), (34, eA (.iload 4) 36 4 0 0 0 []), (36, eA (.ifCond .lt 40) 39 76 0 0 0 []), (39, eA (.aload_n 0) 40 0 0 0 0 []), (40, eA (.getfield 7) 43 12 0 0 0 [871]), (43, eA (.aload_n 0) 44 0 0 0 0 []), (44, eA (.getfield 91) 47 12 1 0 0 [872]), (47, eA (.lload_n 2) 48 2 0 0 0 []), (48, eC (.bipush 8) 50 8), (50, eA (.iload 4) 52 4 0 0 0 []), (52, e0 .imul 53), (53, e0 .lshr 54), (54, eZ (.ldc2_w 94) 57 255 [1031]), (57, e0 .land 58), (58, e0 .l2i 59), (59, e0 .iastore 60), (60, eA (.aload_n 0) 61 0 0 0 0 []), (61, e0 .dup 62), (62, eA (.getfield 91) 65 12 1 0 0 [872]), (65, eC (.iconst 1) 66 1), (66, e0 .iadd 67), (67, eA (.putfield 91) 70 12 1 0 0 [872]), (70, eI (.iinc 4 (-1)) 73 4 (-1)), (73, eA (.goto (-39)) 76 34 0 0 0 []), (76, eA (.aload_n 0) 77 0 0 0 0 []), (77, eA (.getfield 91) 80 12 1 0 0 [872]), (80, e0 .ireturn 81)]
def k_R_isLetter : List (Nat × En) := [(0, eA (.iload_n 0) 1 0 0 0 0 []), (1, eC (.bipush 97) 3 97), (3, eA (.if_icmp .lt 13) 6 16 0 0 0 []), (6, eA (.iload_n 0) 7 0 0 0 0 []), (7, eC (.bipush 122) 9 122), (9, eA (.if_icmp .gt 7) 12 16 0 0 0 []), (12, eC (.iconst 1) 13 1), (13, eA (.goto 4) 16 17 0 0 0 []), (16, eC (.iconst 0) 17 0), (17, e0 .ireturn 18)]
def k_R_isFigure : List (Nat × En) := [(0, eA (.iload_n 0) 1 0 0 0 0 []), (1, eC (.bipush 48) 3 48), (3, eA (.if_icmp .lt 13) 6 16 0 0 0 []), (6, eA (.iload_n 0) 7 0 0 0 0 []), (7, eC (.bipush 57) 9 57), (9, eA (.if_icmp .gt 7) 12 16 0 0 0 []), (12, eC (.iconst 1) 13 1), (13, eA (.goto 4) 16 17 0 0 0 []), (16, eC (.iconst 0) 17 0), (17, e0 .ireturn 18)]
def k_R_next : List (Nat × En) := [(0, eA (.aload_n 0) 1 0 0 0 0 []), (1, eA (.getfield 96) 4 12 2 0 0 [873]), (4, eA (.aload_n 0) 5 0 0 0 0 []), (5, eA (.getfield 91) 8 12 1 0 0 [872]), (8, eA (.if_icmp .ge 44) 11 52 0 0 0 []), (11, eA (.aload_n 0) 12 0 0 0 0 []), (12, eA (.getfield 7) 15 12 0 0 0 [871]), (15, eA (.aload_n 0) 16 0 0 0 0 []), (16, eA (.getfield 96) 19 12 2 0 0 [873]), (19, e0 .iaload 20), (20, eC (.bipush 32) 22 32), (22, eA (.if_icmp .eq 17) 25 39 0 0 0 []), (25, eA (.aload_n 0) 26 0 0 0 0 []), (26, eA (.getfield 7) 29 12 0 0 0 [871]), (29, eA (.aload_n 0) 30 0 0 0 0 []), (30, eA (.getfield 96) 33 12 2 0 0 [873]), (33, e0 .iaload 34), (34, eC (.bipush 10) 36 10), (36, eA (.if_icmp .ne 16) 39 52 0 0 0 []), (39, eA (.aload_n 0) 40 0 0 0 0 []), (40, e0 .dup 41), (41, eA (.getfield 96) 44 12 2 0 0 [873]), (44, eC (.iconst 1) 45 1), (45, e0 .iadd 46), (46, eA (.putfield 96) 49 12 2 0 0 [873]), (49, eA (.goto (-49)) 52 0 0 0 0 []), (52, eA (.aload_n 0) 53 0 0 0 0 []), (53, eA (.aload_n 0) 54 0 0 0 0 []), (54, eA (.getfield 96) 57 12 2 0 0 [873]), (57, eA (.putfield 99) 60 12 3 0 0 [874]), (60, eA (.aload_n 0) 61 0 0 0 0 []), (61, eZ (.lconst 0) 62 0 []), (62, eA (.putfield 102) 65 12 5 0 0 [876]), (65, eA (.aload_n 0) 66 0 0 0 0 []), (66, eA (.getfield 96) 69 12 2 0 0 [873]), (69, eA (.aload_n 0) 70 0 0 0 0 []), (70, eA (.getfield 91) 73 12 1 0 0 [872]), (73, eA (.if_icmp .ne 9) 76 82 0 0 0 []), (76, eA (.aload_n 0) 77 0 0 0 0 []), (77, eC (.iconst 0) 78 0), (78, eA (.putfield 106) 81 12 4 0 0 [875]), (81, e0 .return_ 82), (82, eA (.aload_n 0) 83 0 0 0 0 []), (83, eA (.getfield 7) 86 12 0 0 0 [871]), (86, eA (.aload_n 0) 87 0 0 0 0 []), (87, eA (.getfield 96) 90 12 2 0 0 [873]), (90, e0 .iaload 91), (91, eA (.istore_n 1) 92 1 0 0 0 []), (92, eA (.iload_n 1) 93 1 0 0 0 []), (93, eA (.invokestatic 109) 96 118 1 0 0 [1040, 1041]), (96, eA (.ifCond .eq 116) 99 212 0 0 0 []), (99, eA (.aload_n 0) 100 0 0 0 0 []), (100, eA (.getfield 96) 103 12 2 0 0 [873]), (103, eA (.aload_n 0) 104 0 0 0 0 []), (104, eA (.getfield 91) 107 12 1 0 0 [872]), (107, eA (.if_icmp .ge 79) 110 186 0 0 0 []), (110, eA (.aload_n 0) 111 0 0 0 0 []), (111, eA (.getfield 7) 114 12 0 0 0 [871]), (114, eA (.aload_n 0) 115 0 0 0 0 []), (115, eA (.getfield 96) 118 12 2 0 0 [873]), (118, e0 .iaload 119), (119, eA (.invokestatic 109) 122 118 1 0 0 [1040, 1041]), (122, eA (.ifCond .eq 64) 125 186 0 0 0 []), (125, eA (.aload_n 0) 126 0 0 0 0 []), (126, eA (.aload_n 0) 127 0 0 0 0 []), (127, eA (.getfield 96) 130 12 2 0 0 [873]), (130, eA (.aload_n 0) 131 0 0 0 0 []), (131, eA (.getfield 99) 134 12 3 0 0 [874]), (134, e0 .isub 135), (135, eC (.bipush 8) 137 8), (137, eA (.if_icmp .le 10) 140 147 0 0 0 []), (140, eA (.aload_n 0) 141 0 0 0 0 []), (141, eA (.getfield 102) 144 12 5 0 0 [876]), (144, eA (.goto 26) 147 170 0 0 0 []), (147, eA (.aload_n 0) 148 0 0 0 0 []), (148, eA (.getfield 102) 151 12 5 0 0 [876]), (151, eZ (.ldc2_w 113) 154 27 [1043]), (154, e0 .lmul 155), (155, eA (.aload_n 0) 156 0 0 0 0 []), (156, eA (.getfield 7) 159 12 0 0 0 [871]), (159, eA (.aload_n 0) 160 0 0 0 0 []), (160, eA (.getfield 96) 163 12 2 0 0 [873]), (163, e0 .iaload 164), (164, e0 .i2l 165), (165, e0 .ladd 166), (166, eZ (.ldc2_w 115) 169 96 [1044]), (169, e0 .lsub 170), (170, eA (.putfield 102) 173 12 5 0 0 [876]), (173, eA (.aload_n 0) 174 0 0 0 0 []), (174, e0 .dup 175), (175, eA (.getfield 96) 178 12 2 0 0 [873]), (178, eC (.iconst 1) 179 1), (179, e0 .iadd 180), (180, eA (.putfield 96) 183 12 2 0 0 [873]), (183, eA (.goto (-84)) 186 99 0 0 0 []), (186, eA (.aload_n 0) 187 0 0 0 0 []), (187, eA (.aload_n 0) 188 0 0 0 0 []), (188, eA (.getfield 96) 191 12 2 0 0 [873]), (191, eA (.aload_n 0) 192 0 0 0 0 []), (192, eA (.getfield 99) 195 12 3 0 0 [874]), (195, e0 .isub 196), (196, eC (.bipush 8) 198 8), (198, eA (.if_icmp .le 7) 201 205 0 0 0 []), (201, eC (.iconst 4) 202 4), (202, eA (.goto 4) 205 206 0 0 0 []), (205, eC (.iconst 1) 206 1), (206, eA (.putfield 106) 209 12 4 0 0 [875]), (209, eA (.goto 198) 212 407 0 0 0 []), (212, eA (.iload_n 1) 213 1 0 0 0 []), (213, eA (.invokestatic 117) 216 119 1 0 0 [1045, 1046]), (216, eA (.ifCond .eq 114) 219 330 0 0 0 []), (219, eA (.aload_n 0) 220 0 0 0 0 []), (220, eA (.getfield 96) 223 12 2 0 0 [873]), (223, eA (.aload_n 0) 224 0 0 0 0 []), (224, eA (.getfield 91) 227 12 1 0 0 [872]), (227, eA (.if_icmp .ge 78) 230 305 0 0 0 []), (230, eA (.aload_n 0) 231 0 0 0 0 []), (231, eA (.getfield 7) 234 12 0 0 0 [871]), (234, eA (.aload_n 0) 235 0 0 0 0 []), (235, eA (.getfield 96) 238 12 2 0 0 [873]), (238, e0 .iaload 239), (239, eA (.invokestatic 117) 242 119 1 0 0 [1045, 1046]), (242, eA (.ifCond .eq 63) 245 305 0 0 0 []), (245, eA (.aload_n 0) 246 0 0 0 0 []), (246, eA (.aload_n 0) 247 0 0 0 0 []), (247, eA (.getfield 96) 250 12 2 0 0 [873]), (250, eA (.aload_n 0) 251 0 0 0 0 []), (251, eA (.getfield 99) 254 12 3 0 0 [874]), (254, e0 .isub 255), (255, eC (.iconst 4) 256 4), (256, eA (.if_icmp .le 10) 259 266 0 0 0 []), (259, eA (.aload_n 0) 260 0 0 0 0 []), (260, eA (.getfield 102) 263 12 5 0 0 [876]), (263, eA (.goto 26) 266 289 0 0 0 []), (266, eA (.aload_n 0) 267 0 0 0 0 []), (267, eA (.getfield 102) 270 12 5 0 0 [876]), (270, eZ (.ldc2_w 120) 273 10 [1048]), (273, e0 .lmul 274), (274, eA (.aload_n 0) 275 0 0 0 0 []), (275, eA (.getfield 7) 278 12 0 0 0 [871]), (278, eA (.aload_n 0) 279 0 0 0 0 []), (279, eA (.getfield 96) 282 12 2 0 0 [873]), (282, e0 .iaload 283), (283, e0 .i2l 284), (284, e0 .ladd 285), (285, eZ (.ldc2_w 122) 288 48 [1049]), (288, e0 .lsub 289), (289, eA (.putfield 102) 292 12 5 0 0 [876]), (292, eA (.aload_n 0) 293 0 0 0 0 []), (293, e0 .dup 294), (294, eA (.getfield 96) 297 12 2 0 0 [873]), (297, eC (.iconst 1) 298 1), (298, e0 .iadd 299), (299, eA (.putfield 96) 302 12 2 0 0 [873]), (302, eA (.goto (-83)) 305 219 0 0 0 []), (305, eA (.aload_n 0) 306 0 0 0 0 []), (306, eA (.aload_n 0) 307 0 0 0 0 []), (307, eA (.getfield 96) 310 12 2 0 0 [873]), (310, eA (.aload_n 0) 311 0 0 0 0 []), (311, eA (.getfield 99) 314 12 3 0 0 [874]), (314, e0 .isub 315), (315, eC (.iconst 4) 316 4), (316, eA (.if_icmp .le 7) 319 323 0 0 0 []), (319, eC (.iconst 4) 320 4), (320, eA (.goto 4) 323 324 0 0 0 []), (323, eC (.iconst 2) 324 2), (324, eA (.putfield 106) 327 12 4 0 0 [875]), (327, eA (.goto 80) 330 407 0 0 0 []), (330, eA (.aload_n 0) 331 0 0 0 0 []), (331, e0 .dup 332), (332, eA (.getfield 96) 335 12 2 0 0 [873]), (335, eC (.iconst 1) 336 1), (336, e0 .iadd 337), (337, eA (.putfield 96) 340 12 2 0 0 [873]), (340, eA (.aload_n 0) 341 0 0 0 0 []), (341, eA (.iload_n 1) 342 1 0 0 0 []), (342, e0 .i2l 343), (343, eA (.putfield 102) 346 12 5 0 0 [876]), (346, eA (.iload_n 1) 347 1 0 0 0 []), (347, eC (.bipush 61) 349 61), (349, eA (.if_icmp .eq 39) 352 388 0 0 0 []), (352, eA (.iload_n 1) 353 1 0 0 0 []), (353, eC (.bipush 59) 355 59), (355, eA (.if_icmp .eq 33) 358 388 0 0 0 []), (358, eA (.iload_n 1) 359 1 0 0 0 []), (359, eC (.bipush 40) 361 40), (361, eA (.if_icmp .eq 27) 364 388 0 0 0 []), (364, eA (.iload_n 1) 365 1 0 0 0 []), (365, eC (.bipush 41) 367 41), (367, eA (.if_icmp .eq 21) 370 388 0 0 0 []), (370, eA (.iload_n 1) 371 1 0 0 0 []), (371, eC (.bipush 42) 373 42), (373, eA (.if_icmp .eq 15) 376 388 0 0 0 []), (376, eA (.iload_n 1) 377 1 0 0 0 []), (377, eC (.bipush 47) 379 47), (379, eA (.if_icmp .eq 9) 382 388 0 0 0 []), (382, eA (.iload_n 1) 383 1 0 0 0 []), (383, eC (.bipush 45) 385 45), (385, eA (.if_icmp .ne 7) 388 392 0 0 0 []), (388, eC (.iconst 1) 389 1), (389, eA (.goto 4) 392 393 0 0 0 []), (392, eC (.iconst 0) 393 0), (393, eA (.istore_n 2) 394 2 0 0 0 []), (394, eA (.aload_n 0) 395 0 0 0 0 []), (395, eA (.iload_n 2) 396 2 0 0 0 []), (396, eA (.ifCond .eq 7) 399 403 0 0 0 []), (399, eC (.iconst 3) 400 3), (400, eA (.goto 4) 403 404 0 0 0 []), (403, eC (.iconst 4) 404 4), (404, eA (.putfield 106) 407 12 4 0 0 [875]), (407, e0 .return_ 408)]
def k_R_isSign : List (Nat × En) := [(0, eA (.aload_n 0) 1 0 0 0 0 []), (1, eA (.getfield 106) 4 12 4 0 0 [875]), (4, eC (.iconst 3) 5 3), (5, eA (.if_icmp .ne 17) 8 22 0 0 0 []), (8, eA (.aload_n 0) 9 0 0 0 0 []), (9, eA (.getfield 102) 12 12 5 0 0 [876]), (12, eA (.iload_n 1) 13 1 0 0 0 []), (13, e0 .i2l 14), (14, e0 .lcmp 15), (15, eA (.ifCond .ne 7) 18 22 0 0 0 []), (18, eC (.iconst 1) 19 1), (19, eA (.goto 4) 22 23 0 0 0 []), (22, eC (.iconst 0) 23 0), (23, e0 .ireturn 24)]
def k_R_fails : List (Nat × En) := [(0, eA (.aload_n 0) 1 0 0 0 0 []), (1, eA (.getfield 124) 4 12 6 0 0 [877]), (4, eA (.ifCond .ne 28) 7 32 0 0 0 []), (7, eA (.aload_n 0) 8 0 0 0 0 []), (8, eA (.aload_n 0) 9 0 0 0 0 []), (9, eA (.getfield 106) 12 12 4 0 0 [875]), (12, eC (.iconst 4) 13 4), (13, eA (.if_icmp .ne 7) 16 20 0 0 0 []), (16, eC (.iconst 1) 17 1), (17, eA (.goto 4) 20 21 0 0 0 []), (20, eA (.iload_n 1) 21 1 0 0 0 []), (21, eA (.putfield 124) 24 12 6 0 0 [877]), (24, eA (.aload_n 0) 25 0 0 0 0 []), (25, eA (.aload_n 0) 26 0 0 0 0 []), (26, eA (.getfield 99) 29 12 3 0 0 [874]), (29, eA (.putfield 81) 32 12 7 0 0 [878]), (32, eC (.iconst 0) 33 0), (33, e0 .ireturn 34)]
def k_R_adds : List (Nat × En) := [(0, eA (.aload_n 0) 1 0 0 0 0 []), (1, eA (.getfield 127) 4 12 17 0 0 [888]), (4, eC (.bipush 80) 6 80), (6, eA (.if_icmp .eq 31) 9 37 0 0 0 []), (9, eA (.iload_n 1) 10 1 0 0 0 []), (10, eC (.iconst 3) 11 3), (11, eA (.if_icmp .ne 12) 14 23 0 0 0 []), (14, eA (.aload_n 0) 15 0 0 0 0 []), (15, eA (.getfield 130) 18 12 18 0 0 [889]), (18, eC (.bipush 12) 20 12), (20, eA (.if_icmp .eq 17) 23 37 0 0 0 []), (23, eA (.iload_n 1) 24 1 0 0 0 []), (24, eC (.iconst 4) 25 4), (25, eA (.if_icmp .ne 17) 28 42 0 0 0 []), (28, eA (.aload_n 0) 29 0 0 0 0 []), (29, eA (.getfield 133) 32 12 19 0 0 [890]), (32, eC (.bipush 12) 34 12), (34, eA (.if_icmp .ne 8) 37 42 0 0 0 []), (37, eA (.aload_n 0) 38 0 0 0 0 []), (38, eC (.iconst 1) 39 1), (39, eA (.putfield 136) 42 12 16 0 0 [887]), (42, eA (.aload_n 0) 43 0 0 0 0 []), (43, eA (.getfield 136) 46 12 16 0 0 [887]), (46, eA (.ifCond .eq 4) 49 50 0 0 0 []), (49, e0 .return_ 50), (50, eA (.lload_n 2) 51 2 0 0 0 []), (51, eA (.lload 4) 53 4 0 0 0 []), (53, eA (.invokestatic 140) 56 137 2 0 0 [1082, 1083]), (56, eA (.lstore 6) 58 6 0 0 0 []), (58, eA (.aload_n 0) 59 0 0 0 0 []), (59, eA (.getfield 32) 62 12 20 0 0 [891]), (62, eA (.aload_n 0) 63 0 0 0 0 []), (63, eA (.getfield 127) 66 12 17 0 0 [888]), (66, eA (.iload_n 1) 67 1 0 0 0 []), (67, e0 .iastore 68), (68, eA (.aload_n 0) 69 0 0 0 0 []), (69, eA (.getfield 35) 72 12 21 0 0 [892]), (72, eA (.aload_n 0) 73 0 0 0 0 []), (73, eA (.getfield 127) 76 12 17 0 0 [888]), (76, eA (.lload_n 2) 77 2 0 0 0 []), (77, eA (.lload 6) 79 6 0 0 0 []), (79, e0 .ldiv 80), (80, e0 .lastore 81), (81, eA (.aload_n 0) 82 0 0 0 0 []), (82, eA (.getfield 38) 85 12 22 0 0 [893]), (85, eA (.aload_n 0) 86 0 0 0 0 []), (86, eA (.getfield 127) 89 12 17 0 0 [888]), (89, eA (.lload 4) 91 4 0 0 0 []), (91, eA (.lload 6) 93 6 0 0 0 []), (93, e0 .ldiv 94), (94, e0 .lastore 95), (95, eA (.aload_n 0) 96 0 0 0 0 []), (96, e0 .dup 97), (97, eA (.getfield 127) 100 12 17 0 0 [888]), (100, eC (.iconst 1) 101 1), (101, e0 .iadd 102), (102, eA (.putfield 127) 105 12 17 0 0 [888]), (105, eA (.aload_n 0) 106 0 0 0 0 []), (106, e0 .dup 107), (107, eA (.getfield 130) 110 12 18 0 0 [889]), (110, eA (.iload_n 1) 111 1 0 0 0 []), (111, eC (.iconst 3) 112 3), (112, eA (.if_icmp .ne 7) 115 119 0 0 0 []), (115, eC (.iconst 1) 116 1), (116, eA (.goto 4) 119 120 0 0 0 []), (119, eC (.iconst 0) 120 0), (120, e0 .iadd 121), (121, eA (.putfield 130) 124 12 18 0 0 [889]), (124, eA (.aload_n 0) 125 0 0 0 0 []), (125, e0 .dup 126), (126, eA (.getfield 133) 129 12 19 0 0 [890]), (129, eA (.iload_n 1) 130 1 0 0 0 []), (130, eC (.iconst 4) 131 4), (131, eA (.if_icmp .ne 7) 134 138 0 0 0 []), (134, eC (.iconst 1) 135 1), (135, eA (.goto 4) 138 139 0 0 0 []), (138, eC (.iconst 0) 139 0), (139, e0 .iadd 140), (140, eA (.putfield 133) 143 12 19 0 0 [890]), (143, e0 .return_ 144)]
def k_R_named : List (Nat × En) := [(0, eC (.iconst 0) 1 0), (1, eA (.istore_n 3) 2 3 0 0 0 []), (2, eA (.iload_n 3) 3 3 0 0 0 []), (3, eA (.aload_n 0) 4 0 0 0 0 []), (4, eA (.getfield 144) 7 12 8 0 0 [879]), (7, eA (.if_icmp .ge 22) 10 29 0 0 0 []), (10, eA (.aload_n 0) 11 0 0 0 0 []), (11, eA (.getfield 13) 14 12 9 0 0 [880]), (14, eA (.iload_n 3) 15 3 0 0 0 []), (15, e0 .laload 16), (16, eA (.lload_n 1) 17 1 0 0 0 []), (17, e0 .lcmp 18), (18, eA (.ifCond .ne 5) 21 23 0 0 0 []), (21, eA (.iload_n 3) 22 3 0 0 0 []), (22, e0 .ireturn 23), (23, eI (.iinc 3 1) 26 3 1), (26, eA (.goto (-24)) 29 2 0 0 0 []), (29, eC (.iconst (-1)) 30 (-1)), (30, e0 .ireturn 31)]
def k_R_isOwn : List (Nat × En) := [(0, eA (.lload_n 0) 1 0 0 0 0 []), (1, eZ (.ldc2_w 147) 4 4 [1061]), (4, e0 .lcmp 5), (5, eA (.ifCond .eq 35) 8 40 0 0 0 []), (8, eA (.lload_n 0) 9 0 0 0 0 []), (9, eZ (.ldc2_w 149) 12 17 [1062]), (12, e0 .lcmp 13), (13, eA (.ifCond .eq 27) 16 40 0 0 0 []), (16, eA (.lload_n 0) 17 0 0 0 0 []), (17, eZ (.ldc2_w 151) 20 19 [1063]), (20, e0 .lcmp 21), (21, eA (.ifCond .eq 19) 24 40 0 0 0 []), (24, eA (.lload_n 0) 25 0 0 0 0 []), (25, eZ (.ldc2_w 153) 28 11 [1064]), (28, e0 .lcmp 29), (29, eA (.ifCond .eq 11) 32 40 0 0 0 []), (32, eA (.lload_n 0) 33 0 0 0 0 []), (33, eZ (.ldc2_w 155) 36 13 [1065]), (36, e0 .lcmp 37), (37, eA (.ifCond .ne 7) 40 44 0 0 0 []), (40, eC (.iconst 1) 41 1), (41, eA (.goto 4) 44 45 0 0 0 []), (44, eC (.iconst 0) 45 0), (45, e0 .ireturn 46)]
def k_R_figure : List (Nat × En) := [(0, eA (.aload_n 0) 1 0 0 0 0 []), (1, eA (.invokevirtual 157) 4 120 1 0 12 [1036, 1038, 27]), (4, eZ (.lconst 1) 5 1 []), (5, eA (.lstore_n 2) 6 2 0 0 0 []), (6, eA (.aload_n 0) 7 0 0 0 0 []), (7, eC (.bipush 45) 9 45), (9, eA (.invokevirtual 160) 12 121 2 0 12 [1070, 1072, 31]), (12, eA (.ifCond .eq 11) 15 23 0 0 0 []), (15, eZ (.ldc2_w 163) 18 (-1) [1094]), (18, eA (.lstore_n 2) 19 2 0 0 0 []), (19, eA (.aload_n 0) 20 0 0 0 0 []), (20, eA (.invokevirtual 157) 23 120 1 0 12 [1036, 1038, 27]), (23, eA (.aload_n 0) 24 0 0 0 0 []), (24, eA (.getfield 106) 27 12 4 0 0 [875]), (27, eC (.iconst 2) 28 2), (28, eA (.if_icmp .eq 9) 31 37 0 0 0 []), (31, eA (.aload_n 0) 32 0 0 0 0 []), (32, eC (.iconst 2) 33 2), (33, eA (.invokevirtual 165) 36 122 2 0 12 [1050, 1052, 28]), (36, e0 .ireturn 37), (37, eA (.aload_n 0) 38 0 0 0 0 []), (38, eA (.lload_n 2) 39 2 0 0 0 []), (39, eA (.aload_n 0) 40 0 0 0 0 []), (40, eA (.getfield 102) 43 12 5 0 0 [876]), (43, e0 .lmul 44), (44, eA (.putfield 168) 47 12 27 0 0 [898]), (47, eA (.aload_n 0) 48 0 0 0 0 []), (48, eZ (.lconst 1) 49 1 []), (49, eA (.putfield 171) 52 12 28 0 0 [899]), (52, eA (.aload_n 0) 53 0 0 0 0 []), (53, eA (.invokevirtual 157) 56 120 1 0 12 [1036, 1038, 27]), (56, eA (.iload_n 1) 57 1 0 0 0 []), (57, eA (.ifCond .eq 51) 60 108 0 0 0 []), (60, eA (.aload_n 0) 61 0 0 0 0 []), (61, eC (.bipush 47) 63 47), (63, eA (.invokevirtual 160) 66 121 2 0 12 [1070, 1072, 31]), (66, eA (.ifCond .eq 42) 69 108 0 0 0 []), (69, eA (.aload_n 0) 70 0 0 0 0 []), (70, eA (.invokevirtual 157) 73 120 1 0 12 [1036, 1038, 27]), (73, eA (.aload_n 0) 74 0 0 0 0 []), (74, eA (.getfield 106) 77 12 4 0 0 [875]), (77, eC (.iconst 2) 78 2), (78, eA (.if_icmp .ne 12) 81 90 0 0 0 []), (81, eA (.aload_n 0) 82 0 0 0 0 []), (82, eA (.getfield 102) 85 12 5 0 0 [876]), (85, eZ (.lconst 0) 86 0 []), (86, e0 .lcmp 87), (87, eA (.ifCond .ne 9) 90 96 0 0 0 []), (90, eA (.aload_n 0) 91 0 0 0 0 []), (91, eC (.iconst 2) 92 2), (92, eA (.invokevirtual 165) 95 122 2 0 12 [1050, 1052, 28]), (95, e0 .ireturn 96), (96, eA (.aload_n 0) 97 0 0 0 0 []), (97, eA (.aload_n 0) 98 0 0 0 0 []), (98, eA (.getfield 102) 101 12 5 0 0 [876]), (101, eA (.putfield 171) 104 12 28 0 0 [899]), (104, eA (.aload_n 0) 105 0 0 0 0 []), (105, eA (.invokevirtual 157) 108 120 1 0 12 [1036, 1038, 27]), (108, eC (.iconst 1) 109 1), (109, e0 .ireturn 110)]
def k_R_item : List (Nat × En) := [(0, eA (.aload_n 0) 1 0 0 0 0 []), (1, eA (.getfield 106) 4 12 4 0 0 [875]), (4, eC (.iconst 2) 5 2), (5, eA (.if_icmp .ne 128) 8 133 0 0 0 []), (8, eA (.aload_n 0) 9 0 0 0 0 []), (9, eA (.getfield 102) 12 12 5 0 0 [876]), (12, eA (.lstore_n 1) 13 1 0 0 0 []), (13, eA (.lload_n 1) 14 1 0 0 0 []), (14, eZ (.lconst 1) 15 1 []), (15, eZ (.ldc2_w 174) 18 40 [1089]), (18, eA (.invokestatic 87) 21 116 3 0 0 [1028, 1029]), (21, eA (.ifCond .ne 9) 24 30 0 0 0 []), (24, eA (.aload_n 0) 25 0 0 0 0 []), (25, eC (.iconst 2) 26 2), (26, eA (.invokevirtual 165) 29 122 2 0 12 [1050, 1052, 28]), (29, e0 .ireturn 30), (30, eA (.aload_n 0) 31 0 0 0 0 []), (31, eA (.invokevirtual 157) 34 120 1 0 12 [1036, 1038, 27]), (34, eA (.aload_n 0) 35 0 0 0 0 []), (35, eC (.bipush 42) 37 42), (37, eA (.invokevirtual 160) 40 121 2 0 12 [1070, 1072, 31]), (40, eA (.ifCond .ne 9) 43 49 0 0 0 []), (43, eA (.aload_n 0) 44 0 0 0 0 []), (44, eC (.iconst 2) 45 2), (45, eA (.invokevirtual 165) 48 122 2 0 12 [1050, 1052, 28]), (48, e0 .ireturn 49), (49, eA (.aload_n 0) 50 0 0 0 0 []), (50, eA (.invokevirtual 157) 53 120 1 0 12 [1036, 1038, 27]), (53, eA (.aload_n 0) 54 0 0 0 0 []), (54, eC (.bipush 40) 56 40), (56, eA (.invokevirtual 160) 59 121 2 0 12 [1070, 1072, 31]), (59, eA (.ifCond .ne 9) 62 68 0 0 0 []), (62, eA (.aload_n 0) 63 0 0 0 0 []), (63, eC (.iconst 2) 64 2), (64, eA (.invokevirtual 165) 67 122 2 0 12 [1050, 1052, 28]), (67, e0 .ireturn 68), (68, eA (.aload_n 0) 69 0 0 0 0 []), (69, eA (.getfield 176) 72 12 23 0 0 [894]), (72, eC (.bipush 6) 74 6), (74, eA (.if_icmp .ne 9) 77 83 0 0 0 []), (77, eA (.aload_n 0) 78 0 0 0 0 []), (78, eC (.iconst 3) 79 3), (79, eA (.invokevirtual 165) 82 122 2 0 12 [1050, 1052, 28]), (82, e0 .ireturn 83), (83, eA (.aload_n 0) 84 0 0 0 0 []), (84, e0 .dup 85), (85, eA (.getfield 176) 88 12 23 0 0 [894]), (88, eC (.iconst 1) 89 1), (89, e0 .iadd 90), (90, eA (.putfield 176) 93 12 23 0 0 [894]), (93, eA (.aload_n 0) 94 0 0 0 0 []), (94, eA (.getfield 41) 97 12 24 0 0 [895]), (97, eA (.aload_n 0) 98 0 0 0 0 []), (98, eA (.getfield 176) 101 12 23 0 0 [894]), (101, eA (.lload_n 1) 102 1 0 0 0 []), (102, e0 .l2i 103), (103, e0 .iastore 104), (104, eA (.aload_n 0) 105 0 0 0 0 []), (105, eA (.getfield 44) 108 12 25 0 0 [896]), (108, eA (.aload_n 0) 109 0 0 0 0 []), (109, eA (.getfield 176) 112 12 23 0 0 [894]), (112, eA (.aload_n 0) 113 0 0 0 0 []), (113, eA (.getfield 127) 116 12 17 0 0 [888]), (116, e0 .iastore 117), (117, eA (.aload_n 0) 118 0 0 0 0 []), (118, eA (.getfield 47) 121 12 26 0 0 [897]), (121, eA (.aload_n 0) 122 0 0 0 0 []), (122, eA (.getfield 176) 125 12 23 0 0 [894]), (125, eC (.iconst 0) 126 0), (126, e0 .bastore 127), (127, eA (.aload_n 0) 128 0 0 0 0 []), (128, eA (.invokevirtual 157) 131 120 1 0 12 [1036, 1038, 27]), (131, eC (.iconst 1) 132 1), (132, e0 .ireturn 133), (133, eA (.aload_n 0) 134 0 0 0 0 []), (134, eA (.getfield 106) 137 12 4 0 0 [875]), (137, eC (.iconst 1) 138 1), (138, eA (.if_icmp .eq 9) 141 147 0 0 0 []), (141, eA (.aload_n 0) 142 0 0 0 0 []), (142, eC (.iconst 2) 143 2), (143, eA (.invokevirtual 165) 146 122 2 0 12 [1050, 1052, 28]), (146, e0 .ireturn 147), (147, eA (.aload_n 0) 148 0 0 0 0 []), (148, eA (.getfield 47) 151 12 26 0 0 [897]), (151, eA (.aload_n 0) 152 0 0 0 0 []), (152, eA (.getfield 176) 155 12 23 0 0 [894]), (155, eC (.iconst 1) 156 1), (156, e0 .bastore 157), (157, eA (.aload_n 0) 158 0 0 0 0 []), (158, eA (.getfield 102) 161 12 5 0 0 [876]), (161, eZ (.ldc2_w 147) 164 4 [1061]), (164, e0 .lcmp 165), (165, eA (.ifCond .eq 14) 168 179 0 0 0 []), (168, eA (.aload_n 0) 169 0 0 0 0 []), (169, eA (.getfield 102) 172 12 5 0 0 [876]), (172, eZ (.ldc2_w 149) 175 17 [1062]), (175, e0 .lcmp 176), (176, eA (.ifCond .ne 45) 179 221 0 0 0 []), (179, eA (.aload_n 0) 180 0 0 0 0 []), (180, eA (.getfield 102) 183 12 5 0 0 [876]), (183, eZ (.ldc2_w 147) 186 4 [1061]), (186, e0 .lcmp 187), (187, eA (.ifCond .ne 7) 190 194 0 0 0 []), (190, eC (.iconst 0) 191 0), (191, eA (.goto 4) 194 195 0 0 0 []), (194, eC (.iconst 1) 195 1), (195, eA (.istore_n 1) 196 1 0 0 0 []), (196, eA (.aload_n 0) 197 0 0 0 0 []), (197, eC (.iconst 1) 198 1), (198, eA (.invokevirtual 179) 201 126 2 0 12 [1090, 1092, 35]), (201, eA (.istore_n 2) 202 2 0 0 0 []), (202, eA (.iload_n 2) 203 2 0 0 0 []), (203, eA (.ifCond .eq 16) 206 219 0 0 0 []), (206, eA (.aload_n 0) 207 0 0 0 0 []), (207, eA (.iload_n 1) 208 1 0 0 0 []), (208, eA (.aload_n 0) 209 0 0 0 0 []), (209, eA (.getfield 168) 212 12 27 0 0 [898]), (212, eA (.aload_n 0) 213 0 0 0 0 []), (213, eA (.getfield 171) 216 12 28 0 0 [899]), (216, eA (.invokevirtual 183) 219 123 4 0 12 [1078, 1080, 33]), (219, eA (.iload_n 2) 220 2 0 0 0 []), (220, e0 .ireturn 221), (221, eA (.aload_n 0) 222 0 0 0 0 []), (222, eA (.getfield 102) 225 12 5 0 0 [876]), (225, eZ (.ldc2_w 151) 228 19 [1063]), (228, e0 .lcmp 229), (229, eA (.ifCond .ne 25) 232 254 0 0 0 []), (232, eA (.aload_n 0) 233 0 0 0 0 []), (233, eC (.iconst 0) 234 0), (234, eA (.invokevirtual 179) 237 126 2 0 12 [1090, 1092, 35]), (237, eA (.istore_n 1) 238 1 0 0 0 []), (238, eA (.iload_n 1) 239 1 0 0 0 []), (239, eA (.ifCond .eq 13) 242 252 0 0 0 []), (242, eA (.aload_n 0) 243 0 0 0 0 []), (243, eC (.iconst 2) 244 2), (244, eA (.aload_n 0) 245 0 0 0 0 []), (245, eA (.getfield 168) 248 12 27 0 0 [898]), (248, eZ (.lconst 1) 249 1 []), (249, eA (.invokevirtual 183) 252 123 4 0 12 [1078, 1080, 33]), (252, eA (.iload_n 1) 253 1 0 0 0 []), (253, e0 .ireturn 254), (254, eA (.aload_n 0) 255 0 0 0 0 []), (255, eA (.getfield 102) 258 12 5 0 0 [876]), (258, eZ (.ldc2_w 153) 261 11 [1064]), (261, e0 .lcmp 262), (262, eA (.ifCond .eq 14) 265 276 0 0 0 []), (265, eA (.aload_n 0) 266 0 0 0 0 []), (266, eA (.getfield 102) 269 12 5 0 0 [876]), (269, eZ (.ldc2_w 155) 272 13 [1065]), (272, e0 .lcmp 273), (273, eA (.ifCond .ne 28) 276 301 0 0 0 []), (276, eA (.aload_n 0) 277 0 0 0 0 []), (277, eA (.aload_n 0) 278 0 0 0 0 []), (278, eA (.getfield 102) 281 12 5 0 0 [876]), (281, eZ (.ldc2_w 153) 284 11 [1064]), (284, e0 .lcmp 285), (285, eA (.ifCond .ne 7) 288 292 0 0 0 []), (288, eC (.iconst 3) 289 3), (289, eA (.goto 4) 292 293 0 0 0 []), (292, eC (.iconst 4) 293 4), (293, eZ (.lconst 0) 294 0 []), (294, eZ (.lconst 1) 295 1 []), (295, eA (.invokevirtual 183) 298 123 4 0 12 [1078, 1080, 33]), (298, eA (.goto 83) 301 381 0 0 0 []), (301, eA (.aload_n 0) 302 0 0 0 0 []), (302, eA (.aload_n 0) 303 0 0 0 0 []), (303, eA (.getfield 102) 306 12 5 0 0 [876]), (306, eA (.invokevirtual 187) 309 124 2 0 12 [1066, 1068, 30]), (309, eA (.istore_n 1) 310 1 0 0 0 []), (310, eA (.iload_n 1) 311 1 0 0 0 []), (311, eA (.ifCond .ge 9) 314 320 0 0 0 []), (314, eA (.aload_n 0) 315 0 0 0 0 []), (315, eC (.iconst 2) 316 2), (316, eA (.invokevirtual 165) 319 122 2 0 12 [1050, 1052, 28]), (319, e0 .ireturn 320), (320, eC (.iconst 0) 321 0), (321, eA (.istore_n 2) 322 2 0 0 0 []), (322, eA (.iload_n 2) 323 2 0 0 0 []), (323, eA (.aload_n 0) 324 0 0 0 0 []), (324, eA (.getfield 20) 327 12 11 0 0 [882]), (327, eA (.iload_n 1) 328 1 0 0 0 []), (328, e0 .iaload 329), (329, eA (.if_icmp .ge 52) 332 381 0 0 0 []), (332, eA (.aload_n 0) 333 0 0 0 0 []), (333, eA (.aload_n 0) 334 0 0 0 0 []), (334, eA (.getfield 23) 337 12 13 0 0 [884]), (337, eA (.aload_n 0) 338 0 0 0 0 []), (338, eA (.getfield 17) 341 12 10 0 0 [881]), (341, eA (.iload_n 1) 342 1 0 0 0 []), (342, e0 .iaload 343), (343, eA (.iload_n 2) 344 2 0 0 0 []), (344, e0 .iadd 345), (345, e0 .iaload 346), (346, eA (.aload_n 0) 347 0 0 0 0 []), (347, eA (.getfield 26) 350 12 14 0 0 [885]), (350, eA (.aload_n 0) 351 0 0 0 0 []), (351, eA (.getfield 17) 354 12 10 0 0 [881]), (354, eA (.iload_n 1) 355 1 0 0 0 []), (355, e0 .iaload 356), (356, eA (.iload_n 2) 357 2 0 0 0 []), (357, e0 .iadd 358), (358, e0 .laload 359), (359, eA (.aload_n 0) 360 0 0 0 0 []), (360, eA (.getfield 29) 363 12 15 0 0 [886]), (363, eA (.aload_n 0) 364 0 0 0 0 []), (364, eA (.getfield 17) 367 12 10 0 0 [881]), (367, eA (.iload_n 1) 368 1 0 0 0 []), (368, e0 .iaload 369), (369, eA (.iload_n 2) 370 2 0 0 0 []), (370, e0 .iadd 371), (371, e0 .laload 372), (372, eA (.invokevirtual 183) 375 123 4 0 12 [1078, 1080, 33]), (375, eI (.iinc 2 1) 378 2 1), (378, eA (.goto (-56)) 381 322 0 0 0 []), (381, eA (.aload_n 0) 382 0 0 0 0 []), (382, eA (.invokevirtual 157) 385 120 1 0 12 [1036, 1038, 27]), (385, eC (.iconst 1) 386 1), (386, e0 .ireturn 387)]
def k_R_closes : List (Nat × En) := [(0, eA (.aload_n 0) 1 0 0 0 0 []), (1, eA (.getfield 176) 4 12 23 0 0 [894]), (4, eA (.ifCond .eq 15) 7 19 0 0 0 []), (7, eA (.aload_n 0) 8 0 0 0 0 []), (8, eA (.getfield 47) 11 12 26 0 0 [897]), (11, eA (.aload_n 0) 12 0 0 0 0 []), (12, eA (.getfield 176) 15 12 23 0 0 [894]), (15, e0 .baload 16), (16, eA (.ifCond .ne 9) 19 25 0 0 0 []), (19, eA (.aload_n 0) 20 0 0 0 0 []), (20, eC (.iconst 2) 21 2), (21, eA (.invokevirtual 165) 24 122 2 0 12 [1050, 1052, 28]), (24, e0 .ireturn 25), (25, eA (.aload_n 0) 26 0 0 0 0 []), (26, eA (.getfield 44) 29 12 25 0 0 [896]), (29, eA (.aload_n 0) 30 0 0 0 0 []), (30, eA (.getfield 176) 33 12 23 0 0 [894]), (33, e0 .iaload 34), (34, eA (.istore_n 1) 35 1 0 0 0 []), (35, eA (.aload_n 0) 36 0 0 0 0 []), (36, eA (.getfield 127) 39 12 17 0 0 [888]), (39, eA (.istore_n 2) 40 2 0 0 0 []), (40, eC (.iconst 1) 41 1), (41, eA (.istore_n 3) 42 3 0 0 0 []), (42, eA (.iload_n 3) 43 3 0 0 0 []), (43, eA (.aload_n 0) 44 0 0 0 0 []), (44, eA (.getfield 41) 47 12 24 0 0 [895]), (47, eA (.aload_n 0) 48 0 0 0 0 []), (48, eA (.getfield 176) 51 12 23 0 0 [894]), (51, e0 .iaload 52), (52, eA (.if_icmp .ge 56) 55 108 0 0 0 []), (55, eA (.iload_n 1) 56 1 0 0 0 []), (56, eA (.istore 4) 58 4 0 0 0 []), (58, eA (.iload 4) 60 4 0 0 0 []), (60, eA (.iload_n 2) 61 2 0 0 0 []), (61, eA (.if_icmp .ge 41) 64 102 0 0 0 []), (64, eA (.aload_n 0) 65 0 0 0 0 []), (65, eA (.getfield 136) 68 12 16 0 0 [887]), (68, eA (.ifCond .ne 34) 71 102 0 0 0 []), (71, eA (.aload_n 0) 72 0 0 0 0 []), (72, eA (.aload_n 0) 73 0 0 0 0 []), (73, eA (.getfield 32) 76 12 20 0 0 [891]), (76, eA (.iload 4) 78 4 0 0 0 []), (78, e0 .iaload 79), (79, eA (.aload_n 0) 80 0 0 0 0 []), (80, eA (.getfield 35) 83 12 21 0 0 [892]), (83, eA (.iload 4) 85 4 0 0 0 []), (85, e0 .laload 86), (86, eA (.aload_n 0) 87 0 0 0 0 []), (87, eA (.getfield 38) 90 12 22 0 0 [893]), (90, eA (.iload 4) 92 4 0 0 0 []), (92, e0 .laload 93), (93, eA (.invokevirtual 183) 96 123 4 0 12 [1078, 1080, 33]), (96, eI (.iinc 4 1) 99 4 1), (99, eA (.goto (-41)) 102 58 0 0 0 []), (102, eI (.iinc 3 1) 105 3 1), (105, eA (.goto (-63)) 108 42 0 0 0 []), (108, eA (.aload_n 0) 109 0 0 0 0 []), (109, e0 .dup 110), (110, eA (.getfield 176) 113 12 23 0 0 [894]), (113, eC (.iconst 1) 114 1), (114, e0 .isub 115), (115, eA (.putfield 176) 118 12 23 0 0 [894]), (118, eA (.aload_n 0) 119 0 0 0 0 []), (119, eA (.getfield 47) 122 12 26 0 0 [897]), (122, eA (.aload_n 0) 123 0 0 0 0 []), (123, eA (.getfield 176) 126 12 23 0 0 [894]), (126, eC (.iconst 1) 127 1), (127, e0 .bastore 128), (128, eA (.aload_n 0) 129 0 0 0 0 []), (129, eA (.invokevirtual 157) 132 120 1 0 12 [1036, 1038, 27]), (132, eC (.iconst 1) 133 1), (133, e0 .ireturn 134)]
def k_R_line : List (Nat × En) := [(0, eA (.aload_n 0) 1 0 0 0 0 []), (1, eA (.getfield 106) 4 12 4 0 0 [875]), (4, eC (.iconst 1) 5 1), (5, eA (.if_icmp .ne 24) 8 29 0 0 0 []), (8, eA (.aload_n 0) 9 0 0 0 0 []), (9, eA (.getfield 102) 12 12 5 0 0 [876]), (12, eA (.invokestatic 191) 15 125 1 0 0 [1058, 1059]), (15, eA (.ifCond .ne 14) 18 29 0 0 0 []), (18, eA (.aload_n 0) 19 0 0 0 0 []), (19, eA (.aload_n 0) 20 0 0 0 0 []), (20, eA (.getfield 102) 23 12 5 0 0 [876]), (23, eA (.invokevirtual 187) 26 124 2 0 12 [1066, 1068, 30]), (26, eA (.ifCond .lt 9) 29 35 0 0 0 []), (29, eA (.aload_n 0) 30 0 0 0 0 []), (30, eC (.iconst 2) 31 2), (31, eA (.invokevirtual 165) 34 122 2 0 12 [1050, 1052, 28]), (34, e0 .ireturn 35), (35, eA (.aload_n 0) 36 0 0 0 0 []), (36, eA (.getfield 102) 39 12 5 0 0 [876]), (39, eA (.lstore_n 1) 40 1 0 0 0 []), (40, eA (.aload_n 0) 41 0 0 0 0 []), (41, eA (.invokevirtual 157) 44 120 1 0 12 [1036, 1038, 27]), (44, eA (.aload_n 0) 45 0 0 0 0 []), (45, eC (.bipush 61) 47 61), (47, eA (.invokevirtual 160) 50 121 2 0 12 [1070, 1072, 31]), (50, eA (.ifCond .ne 9) 53 59 0 0 0 []), (53, eA (.aload_n 0) 54 0 0 0 0 []), (54, eC (.iconst 2) 55 2), (55, eA (.invokevirtual 165) 58 122 2 0 12 [1050, 1052, 28]), (58, e0 .ireturn 59), (59, eA (.aload_n 0) 60 0 0 0 0 []), (60, eC (.iconst 0) 61 0), (61, eA (.putfield 136) 64 12 16 0 0 [887]), (64, eA (.aload_n 0) 65 0 0 0 0 []), (65, eC (.iconst 0) 66 0), (66, eA (.putfield 127) 69 12 17 0 0 [888]), (69, eA (.aload_n 0) 70 0 0 0 0 []), (70, eC (.iconst 0) 71 0), (71, eA (.putfield 130) 74 12 18 0 0 [889]), (74, eA (.aload_n 0) 75 0 0 0 0 []), (75, eC (.iconst 0) 76 0), (76, eA (.putfield 133) 79 12 19 0 0 [890]), (79, eA (.aload_n 0) 80 0 0 0 0 []), (80, eC (.iconst 0) 81 0), (81, eA (.putfield 176) 84 12 23 0 0 [894]), (84, eA (.aload_n 0) 85 0 0 0 0 []), (85, eA (.getfield 47) 88 12 26 0 0 [897]), (88, eC (.iconst 0) 89 0), (89, eC (.iconst 0) 90 0), (90, e0 .bastore 91), (91, eA (.aload_n 0) 92 0 0 0 0 []), (92, eA (.invokevirtual 157) 95 120 1 0 12 [1036, 1038, 27]), (95, eC (.iconst 1) 96 1), (96, eA (.istore_n 3) 97 3 0 0 0 []), (97, eA (.iload_n 3) 98 3 0 0 0 []), (98, eA (.ifCond .eq 52) 101 150 0 0 0 []), (101, eA (.aload_n 0) 102 0 0 0 0 []), (102, eC (.bipush 59) 104 59), (104, eA (.invokevirtual 160) 107 121 2 0 12 [1070, 1072, 31]), (107, eA (.ifCond .eq 19) 110 126 0 0 0 []), (110, eA (.aload_n 0) 111 0 0 0 0 []), (111, eA (.getfield 176) 114 12 23 0 0 [894]), (114, eA (.ifCond .ne 12) 117 126 0 0 0 []), (117, eA (.aload_n 0) 118 0 0 0 0 []), (118, eA (.getfield 47) 121 12 26 0 0 [897]), (121, eC (.iconst 0) 122 0), (122, e0 .baload 123), (123, eA (.ifCond .ne 27) 126 150 0 0 0 []), (126, eA (.aload_n 0) 127 0 0 0 0 []), (127, eC (.bipush 41) 129 41), (129, eA (.invokevirtual 160) 132 121 2 0 12 [1070, 1072, 31]), (132, eA (.ifCond .eq 10) 135 142 0 0 0 []), (135, eA (.aload_n 0) 136 0 0 0 0 []), (136, eA (.invokevirtual 195) 139 128 1 0 12 [1074, 1076, 32]), (139, eA (.goto 7) 142 146 0 0 0 []), (142, eA (.aload_n 0) 143 0 0 0 0 []), (143, eA (.invokevirtual 199) 146 127 1 0 12 [1085, 1087, 34]), (146, eA (.istore_n 3) 147 3 0 0 0 []), (147, eA (.goto (-50)) 150 97 0 0 0 []), (150, eA (.iload_n 3) 151 3 0 0 0 []), (151, eA (.ifCond .ne 5) 154 156 0 0 0 []), (154, eC (.iconst 0) 155 0), (155, e0 .ireturn 156), (156, eA (.aload_n 0) 157 0 0 0 0 []), (157, eA (.getfield 136) 160 12 16 0 0 [887]), (160, eA (.ifCond .eq 9) 163 169 0 0 0 []), (163, eA (.aload_n 0) 164 0 0 0 0 []), (164, eC (.iconst 4) 165 4), (165, eA (.invokevirtual 165) 168 122 2 0 12 [1050, 1052, 28]), (168, e0 .ireturn 169), (169, eA (.aload_n 0) 170 0 0 0 0 []), (170, eA (.getfield 13) 173 12 9 0 0 [880]), (173, eA (.aload_n 0) 174 0 0 0 0 []), (174, eA (.getfield 144) 177 12 8 0 0 [879]), (177, eA (.lload_n 1) 178 1 0 0 0 []), (178, e0 .lastore 179), (179, eA (.aload_n 0) 180 0 0 0 0 []), (180, eA (.getfield 17) 183 12 10 0 0 [881]), (183, eA (.aload_n 0) 184 0 0 0 0 []), (184, eA (.getfield 144) 187 12 8 0 0 [879]), (187, eA (.aload_n 0) 188 0 0 0 0 []), (188, eA (.getfield 202) 191 12 12 0 0 [883]), (191, e0 .iastore 192), (192, eA (.aload_n 0) 193 0 0 0 0 []), (193, eA (.getfield 20) 196 12 11 0 0 [882]), (196, eA (.aload_n 0) 197 0 0 0 0 []), (197, eA (.getfield 144) 200 12 8 0 0 [879]), (200, eA (.aload_n 0) 201 0 0 0 0 []), (201, eA (.getfield 127) 204 12 17 0 0 [888]), (204, e0 .iastore 205), (205, eC (.iconst 0) 206 0), (206, eA (.istore 4) 208 4 0 0 0 []), (208, eA (.iload 4) 210 4 0 0 0 []), (210, eA (.aload_n 0) 211 0 0 0 0 []), (211, eA (.getfield 127) 214 12 17 0 0 [888]), (214, eA (.if_icmp .ge 67) 217 281 0 0 0 []), (217, eA (.aload_n 0) 218 0 0 0 0 []), (218, eA (.getfield 23) 221 12 13 0 0 [884]), (221, eA (.aload_n 0) 222 0 0 0 0 []), (222, eA (.getfield 202) 225 12 12 0 0 [883]), (225, eA (.aload_n 0) 226 0 0 0 0 []), (226, eA (.getfield 32) 229 12 20 0 0 [891]), (229, eA (.iload 4) 231 4 0 0 0 []), (231, e0 .iaload 232), (232, e0 .iastore 233), (233, eA (.aload_n 0) 234 0 0 0 0 []), (234, eA (.getfield 26) 237 12 14 0 0 [885]), (237, eA (.aload_n 0) 238 0 0 0 0 []), (238, eA (.getfield 202) 241 12 12 0 0 [883]), (241, eA (.aload_n 0) 242 0 0 0 0 []), (242, eA (.getfield 35) 245 12 21 0 0 [892]), (245, eA (.iload 4) 247 4 0 0 0 []), (247, e0 .laload 248), (248, e0 .lastore 249), (249, eA (.aload_n 0) 250 0 0 0 0 []), (250, eA (.getfield 29) 253 12 15 0 0 [886]), (253, eA (.aload_n 0) 254 0 0 0 0 []), (254, eA (.getfield 202) 257 12 12 0 0 [883]), (257, eA (.aload_n 0) 258 0 0 0 0 []), (258, eA (.getfield 38) 261 12 22 0 0 [893]), (261, eA (.iload 4) 263 4 0 0 0 []), (263, e0 .laload 264), (264, e0 .lastore 265), (265, eA (.aload_n 0) 266 0 0 0 0 []), (266, e0 .dup 267), (267, eA (.getfield 202) 270 12 12 0 0 [883]), (270, eC (.iconst 1) 271 1), (271, e0 .iadd 272), (272, eA (.putfield 202) 275 12 12 0 0 [883]), (275, eI (.iinc 4 1) 278 4 1), (278, eA (.goto (-70)) 281 208 0 0 0 []), (281, eA (.aload_n 0) 282 0 0 0 0 []), (282, e0 .dup 283), (283, eA (.getfield 144) 286 12 8 0 0 [879]), (286, eC (.iconst 1) 287 1), (287, e0 .iadd 288), (288, eA (.putfield 144) 291 12 8 0 0 [879]), (291, eA (.aload_n 0) 292 0 0 0 0 []), (292, eA (.invokevirtual 157) 295 120 1 0 12 [1036, 1038, 27]), (295, eC (.iconst 1) 296 1), (296, e0 .ireturn 297)]
def k_R_read : List (Nat × En) := [(0, eA (.aload_n 0) 1 0 0 0 0 []), (1, eC (.iconst 0) 2 0), (2, eA (.putfield 96) 5 12 2 0 0 [873]), (5, eA (.aload_n 0) 6 0 0 0 0 []), (6, eC (.iconst 0) 7 0), (7, eA (.putfield 124) 10 12 6 0 0 [877]), (10, eA (.aload_n 0) 11 0 0 0 0 []), (11, eC (.bipush (-4)) 13 (-4)), (13, eA (.putfield 81) 16 12 7 0 0 [878]), (16, eA (.aload_n 0) 17 0 0 0 0 []), (17, eC (.iconst 0) 18 0), (18, eA (.putfield 144) 21 12 8 0 0 [879]), (21, eA (.aload_n 0) 22 0 0 0 0 []), (22, eC (.iconst 0) 23 0), (23, eA (.putfield 202) 26 12 12 0 0 [883]), (26, eA (.aload_n 0) 27 0 0 0 0 []), (27, eA (.invokevirtual 157) 30 120 1 0 12 [1036, 1038, 27]), (30, eA (.aload_n 0) 31 0 0 0 0 []), (31, eA (.getfield 106) 34 12 4 0 0 [875]), (34, eA (.ifCond .ne 9) 37 43 0 0 0 []), (37, eA (.aload_n 0) 38 0 0 0 0 []), (38, eC (.iconst 2) 39 2), (39, eA (.invokevirtual 165) 42 122 2 0 12 [1050, 1052, 28]), (42, eA (.istore_n 1) 43 1 0 0 0 []), (43, eA (.aload_n 0) 44 0 0 0 0 []), (44, eA (.getfield 124) 47 12 6 0 0 [877]), (47, eA (.ifCond .ne 18) 50 65 0 0 0 []), (50, eA (.aload_n 0) 51 0 0 0 0 []), (51, eA (.getfield 106) 54 12 4 0 0 [875]), (54, eA (.ifCond .eq 11) 57 65 0 0 0 []), (57, eA (.aload_n 0) 58 0 0 0 0 []), (58, eA (.invokevirtual 205) 61 129 1 0 12 [1054, 1056, 29]), (61, eA (.istore_n 1) 62 1 0 0 0 []), (62, eA (.goto (-19)) 65 43 0 0 0 []), (65, eA (.aload_n 0) 66 0 0 0 0 []), (66, eC (.iconst 0) 67 0), (67, eA (.putfield 91) 70 12 1 0 0 [872]), (70, eA (.aload_n 0) 71 0 0 0 0 []), (71, eA (.getfield 124) 74 12 6 0 0 [877]), (74, eA (.ifCond .le 11) 77 85 0 0 0 []), (77, eC (.bipush (-10)) 79 (-10)), (79, eA (.aload_n 0) 80 0 0 0 0 []), (80, eA (.getfield 124) 83 12 6 0 0 [877]), (83, e0 .isub 84), (84, e0 .ireturn 85), (85, eA (.aload_n 0) 86 0 0 0 0 []), (86, eA (.aload_n 0) 87 0 0 0 0 []), (87, eA (.getfield 127) 90 12 17 0 0 [888]), (90, eA (.putfield 208) 93 12 29 0 0 [900]), (93, eA (.aload_n 0) 94 0 0 0 0 []), (94, eA (.aload_n 0) 95 0 0 0 0 []), (95, eA (.getfield 130) 98 12 18 0 0 [889]), (98, eA (.putfield 211) 101 12 30 0 0 [901]), (101, eA (.aload_n 0) 102 0 0 0 0 []), (102, eA (.aload_n 0) 103 0 0 0 0 []), (103, eA (.getfield 133) 106 12 19 0 0 [890]), (106, eA (.putfield 214) 109 12 31 0 0 [902]), (109, eC (.iconst 0) 110 0), (110, eA (.istore_n 1) 111 1 0 0 0 []), (111, eA (.iload_n 1) 112 1 0 0 0 []), (112, eA (.aload_n 0) 113 0 0 0 0 []), (113, eA (.getfield 127) 116 12 17 0 0 [888]), (116, eA (.if_icmp .ge 45) 119 161 0 0 0 []), (119, eA (.aload_n 0) 120 0 0 0 0 []), (120, eA (.getfield 51) 123 12 32 0 0 [903]), (123, eA (.iload_n 1) 124 1 0 0 0 []), (124, eA (.aload_n 0) 125 0 0 0 0 []), (125, eA (.getfield 32) 128 12 20 0 0 [891]), (128, eA (.iload_n 1) 129 1 0 0 0 []), (129, e0 .iaload 130), (130, e0 .iastore 131), (131, eA (.aload_n 0) 132 0 0 0 0 []), (132, eA (.getfield 54) 135 12 33 0 0 [904]), (135, eA (.iload_n 1) 136 1 0 0 0 []), (136, eA (.aload_n 0) 137 0 0 0 0 []), (137, eA (.getfield 35) 140 12 21 0 0 [892]), (140, eA (.iload_n 1) 141 1 0 0 0 []), (141, e0 .laload 142), (142, e0 .lastore 143), (143, eA (.aload_n 0) 144 0 0 0 0 []), (144, eA (.getfield 57) 147 12 34 0 0 [905]), (147, eA (.iload_n 1) 148 1 0 0 0 []), (148, eA (.aload_n 0) 149 0 0 0 0 []), (149, eA (.getfield 38) 152 12 22 0 0 [893]), (152, eA (.iload_n 1) 153 1 0 0 0 []), (153, e0 .laload 154), (154, e0 .lastore 155), (155, eI (.iinc 1 1) 158 1 1), (158, eA (.goto (-47)) 161 111 0 0 0 []), (161, eC (.iconst 0) 162 0), (162, eA (.istore_n 1) 163 1 0 0 0 []), (163, eA (.iload_n 1) 164 1 0 0 0 []), (164, eC (.bipush 12) 166 12), (166, eA (.if_icmp .ge 23) 169 189 0 0 0 []), (169, eA (.aload_n 0) 170 0 0 0 0 []), (170, eA (.getfield 60) 173 12 35 0 0 [906]), (173, eA (.iload_n 1) 174 1 0 0 0 []), (174, eZ (.lconst 0) 175 0 []), (175, e0 .lastore 176), (176, eA (.aload_n 0) 177 0 0 0 0 []), (177, eA (.getfield 63) 180 12 36 0 0 [907]), (180, eA (.iload_n 1) 181 1 0 0 0 []), (181, eZ (.lconst 1) 182 1 []), (182, e0 .lastore 183), (183, eI (.iinc 1 1) 186 1 1), (186, eA (.goto (-23)) 189 163 0 0 0 []), (189, eA (.aload_n 0) 190 0 0 0 0 []), (190, eC (.iconst 0) 191 0), (191, eA (.putfield 217) 194 12 44 0 0 [915]), (194, eA (.aload_n 0) 195 0 0 0 0 []), (195, eA (.getfield 208) 198 12 29 0 0 [900]), (198, e0 .ireturn 199)]
def k_R_place : List (Nat × En) := [(0, eA (.aload_n 0) 1 0 0 0 0 []), (1, eA (.getfield 81) 4 12 7 0 0 [878]), (4, e0 .ireturn 5)]
def k_R_isPart : List (Nat × En) := [(0, eA (.iload_n 1) 1 1 0 0 0 []), (1, e0 .i2l 2), (2, eZ (.lconst 0) 3 0 []), (3, eA (.aload_n 0) 4 0 0 0 0 []), (4, eA (.getfield 208) 7 12 29 0 0 [900]), (7, eC (.iconst 1) 8 1), (8, e0 .isub 9), (9, e0 .i2l 10), (10, eA (.invokestatic 87) 13 116 3 0 0 [1028, 1029]), (13, e0 .ireturn 14)]
def k_R_ahead : List (Nat × En) := [(0, eC (.iconst 0) 1 0), (1, eA (.istore_n 3) 2 3 0 0 0 []), (2, eC (.iconst 0) 3 0), (3, eA (.istore 4) 5 4 0 0 0 []), (5, eA (.iload 4) 7 4 0 0 0 []), (7, eA (.iload_n 2) 8 2 0 0 0 []), (8, eA (.if_icmp .ge 28) 11 36 0 0 0 []), (11, eA (.iload_n 3) 12 3 0 0 0 []), (12, eA (.aload_n 0) 13 0 0 0 0 []), (13, eA (.getfield 51) 16 12 32 0 0 [903]), (16, eA (.iload 4) 18 4 0 0 0 []), (18, e0 .iaload 19), (19, eA (.iload_n 1) 20 1 0 0 0 []), (20, eA (.if_icmp .ne 7) 23 27 0 0 0 []), (23, eC (.iconst 1) 24 1), (24, eA (.goto 4) 27 28 0 0 0 []), (27, eC (.iconst 0) 28 0), (28, e0 .iadd 29), (29, eA (.istore_n 3) 30 3 0 0 0 []), (30, eI (.iinc 4 1) 33 4 1), (33, eA (.goto (-28)) 36 5 0 0 0 []), (36, eA (.iload_n 3) 37 3 0 0 0 []), (37, e0 .ireturn 38)]
def k_R_partOf : List (Nat × En) := [(0, eC (.iconst 0) 1 0), (1, eA (.istore_n 3) 2 3 0 0 0 []), (2, eA (.iload_n 2) 3 2 0 0 0 []), (3, eA (.istore 4) 5 4 0 0 0 []), (5, eA (.aload_n 0) 6 0 0 0 0 []), (6, eA (.getfield 51) 9 12 32 0 0 [903]), (9, eA (.iload_n 3) 10 3 0 0 0 []), (10, e0 .iaload 11), (11, eA (.iload_n 1) 12 1 0 0 0 []), (12, eA (.if_icmp .ne 8) 15 20 0 0 0 []), (15, eA (.iload 4) 17 4 0 0 0 []), (17, eA (.ifCond .le 29) 20 46 0 0 0 []), (20, eA (.iload 4) 22 4 0 0 0 []), (22, eA (.aload_n 0) 23 0 0 0 0 []), (23, eA (.getfield 51) 26 12 32 0 0 [903]), (26, eA (.iload_n 3) 27 3 0 0 0 []), (27, e0 .iaload 28), (28, eA (.iload_n 1) 29 1 0 0 0 []), (29, eA (.if_icmp .ne 7) 32 36 0 0 0 []), (32, eC (.iconst 1) 33 1), (33, eA (.goto 4) 36 37 0 0 0 []), (36, eC (.iconst 0) 37 0), (37, e0 .isub 38), (38, eA (.istore 4) 40 4 0 0 0 []), (40, eI (.iinc 3 1) 43 3 1), (43, eA (.goto (-38)) 46 5 0 0 0 []), (46, eA (.iload_n 3) 47 3 0 0 0 []), (47, e0 .ireturn 48)]
def k_R_part : List (Nat × En) := [(0, eA (.aload_n 0) 1 0 0 0 0 []), (1, eA (.iload_n 1) 2 1 0 0 0 []), (2, eA (.invokevirtual 220) 5 132 2 0 12 [1103, 1105, 36]), (5, eA (.ifCond .eq 15) 8 20 0 0 0 []), (8, eA (.iload_n 2) 9 2 0 0 0 []), (9, e0 .i2l 10), (10, eZ (.lconst 0) 11 0 []), (11, eZ (.ldc2_w 223) 14 2 [1107]), (14, eA (.invokestatic 87) 17 116 3 0 0 [1028, 1029]), (17, eA (.ifCond .ne 5) 20 22 0 0 0 []), (20, eC (.iconst (-1)) 21 (-1)), (21, e0 .ireturn 22), (22, eA (.iload_n 2) 23 2 0 0 0 []), (23, eA (.ifCond .ne 10) 26 33 0 0 0 []), (26, eA (.aload_n 0) 27 0 0 0 0 []), (27, eA (.getfield 51) 30 12 32 0 0 [903]), (30, eA (.iload_n 1) 31 1 0 0 0 []), (31, e0 .iaload 32), (32, e0 .ireturn 33), (33, eA (.aload_n 0) 34 0 0 0 0 []), (34, eA (.getfield 51) 37 12 32 0 0 [903]), (37, eA (.iload_n 1) 38 1 0 0 0 []), (38, e0 .iaload 39), (39, eC (.iconst 3) 40 3), (40, eA (.if_icmp .ne 35) 43 75 0 0 0 []), (43, eA (.iload_n 2) 44 2 0 0 0 []), (44, eC (.iconst 1) 45 1), (45, eA (.if_icmp .ne 17) 48 62 0 0 0 []), (48, eA (.aload_n 0) 49 0 0 0 0 []), (49, eA (.getfield 60) 52 12 35 0 0 [906]), (52, eA (.aload_n 0) 53 0 0 0 0 []), (53, eC (.iconst 3) 54 3), (54, eA (.iload_n 1) 55 1 0 0 0 []), (55, eA (.invokevirtual 225) 58 133 3 0 12 [1108, 1110, 37]), (58, e0 .laload 59), (59, eA (.goto 14) 62 73 0 0 0 []), (62, eA (.aload_n 0) 63 0 0 0 0 []), (63, eA (.getfield 63) 66 12 36 0 0 [907]), (66, eA (.aload_n 0) 67 0 0 0 0 []), (67, eC (.iconst 3) 68 3), (68, eA (.iload_n 1) 69 1 0 0 0 []), (69, eA (.invokevirtual 225) 72 133 3 0 12 [1108, 1110, 37]), (72, e0 .laload 73), (73, e0 .l2i 74), (74, e0 .ireturn 75), (75, eA (.iload_n 2) 76 2 0 0 0 []), (76, eC (.iconst 1) 77 1), (77, eA (.if_icmp .ne 12) 80 89 0 0 0 []), (80, eA (.aload_n 0) 81 0 0 0 0 []), (81, eA (.getfield 54) 84 12 33 0 0 [904]), (84, eA (.iload_n 1) 85 1 0 0 0 []), (85, e0 .laload 86), (86, eA (.goto 9) 89 95 0 0 0 []), (89, eA (.aload_n 0) 90 0 0 0 0 []), (90, eA (.getfield 57) 93 12 34 0 0 [905]), (93, eA (.iload_n 1) 94 1 0 0 0 []), (94, e0 .laload 95), (95, e0 .l2i 96), (96, e0 .ireturn 97)]
def k_R_kick : List (Nat × En) := [(0, eA (.iload_n 1) 1 1 0 0 0 []), (1, e0 .i2l 2), (2, eZ (.lconst 0) 3 0 []), (3, eA (.aload_n 0) 4 0 0 0 0 []), (4, eA (.getfield 211) 7 12 30 0 0 [901]), (7, eC (.iconst 1) 8 1), (8, e0 .isub 9), (9, e0 .i2l 10), (10, eA (.invokestatic 87) 13 116 3 0 0 [1028, 1029]), (13, eA (.ifCond .eq 29) 16 42 0 0 0 []), (16, eA (.iload_n 2) 17 2 0 0 0 []), (17, e0 .i2l 18), (18, eZ (.ldc2_w 229) 21 (-10000) [1116]), (21, eZ (.ldc2_w 231) 24 10000 [1117]), (24, eA (.invokestatic 87) 27 116 3 0 0 [1028, 1029]), (27, eA (.ifCond .eq 15) 30 42 0 0 0 []), (30, eA (.iload_n 3) 31 3 0 0 0 []), (31, e0 .i2l 32), (32, eZ (.lconst 1) 33 1 []), (33, eZ (.ldc2_w 231) 36 10000 [1117]), (36, eA (.invokestatic 87) 39 116 3 0 0 [1028, 1029]), (39, eA (.ifCond .ne 5) 42 44 0 0 0 []), (42, eC (.iconst (-1)) 43 (-1)), (43, e0 .ireturn 44), (44, eA (.iload_n 2) 45 2 0 0 0 []), (45, e0 .i2l 46), (46, eA (.iload_n 3) 47 3 0 0 0 []), (47, e0 .i2l 48), (48, eA (.invokestatic 140) 51 137 2 0 0 [1082, 1083]), (51, eA (.lstore 4) 53 4 0 0 0 []), (53, eA (.aload_n 0) 54 0 0 0 0 []), (54, eA (.getfield 60) 57 12 35 0 0 [906]), (57, eA (.iload_n 1) 58 1 0 0 0 []), (58, eA (.iload_n 2) 59 2 0 0 0 []), (59, e0 .i2l 60), (60, eA (.lload 4) 62 4 0 0 0 []), (62, e0 .ldiv 63), (63, e0 .lastore 64), (64, eA (.aload_n 0) 65 0 0 0 0 []), (65, eA (.getfield 63) 68 12 36 0 0 [907]), (68, eA (.iload_n 1) 69 1 0 0 0 []), (69, eA (.iload_n 3) 70 3 0 0 0 []), (70, e0 .i2l 71), (71, eA (.lload 4) 73 4 0 0 0 []), (73, e0 .ldiv 74), (74, e0 .lastore 75), (75, eC (.iconst 0) 76 0), (76, e0 .ireturn 77)]
def k_R_common : List (Nat × En) := [(0, eA (.lload_n 0) 1 0 0 0 0 []), (1, eZ (.lconst 0) 2 0 []), (2, e0 .lcmp 3), (3, eA (.ifCond .ge 8) 6 11 0 0 0 []), (6, eA (.lload_n 0) 7 0 0 0 0 []), (7, e0 .lneg 8), (8, eA (.goto 4) 11 12 0 0 0 []), (11, eA (.lload_n 0) 12 0 0 0 0 []), (12, eA (.lstore 4) 14 4 0 0 0 []), (14, eA (.lload_n 2) 15 2 0 0 0 []), (15, eA (.lstore 6) 17 6 0 0 0 []), (17, eA (.lload 6) 19 6 0 0 0 []), (19, eZ (.lconst 0) 20 0 []), (20, e0 .lcmp 21), (21, eA (.ifCond .eq 21) 24 42 0 0 0 []), (24, eA (.lload 4) 26 4 0 0 0 []), (26, eA (.lload 6) 28 6 0 0 0 []), (28, e0 .lrem 29), (29, eA (.lstore 8) 31 8 0 0 0 []), (31, eA (.lload 6) 33 6 0 0 0 []), (33, eA (.lstore 4) 35 4 0 0 0 []), (35, eA (.lload 8) 37 8 0 0 0 []), (37, eA (.lstore 6) 39 6 0 0 0 []), (39, eA (.goto (-22)) 42 17 0 0 0 []), (42, eA (.lload 4) 44 4 0 0 0 []), (44, e0 .lreturn 45)]
def k_R_holds : List (Nat × En) := [(0, eA (.lload_n 1) 1 1 0 0 0 []), (1, eA (.lload_n 3) 2 3 0 0 0 []), (2, eA (.invokestatic 140) 5 137 2 0 0 [1082, 1083]), (5, eA (.lstore 5) 7 5 0 0 0 []), (7, eA (.aload_n 0) 8 0 0 0 0 []), (8, eA (.lload_n 1) 9 1 0 0 0 []), (9, eA (.lload 5) 11 5 0 0 0 []), (11, e0 .ldiv 12), (12, eA (.putfield 233) 15 12 37 0 0 [908]), (15, eA (.aload_n 0) 16 0 0 0 0 []), (16, eA (.lload_n 3) 17 3 0 0 0 []), (17, eA (.lload 5) 19 5 0 0 0 []), (19, e0 .ldiv 20), (20, eA (.putfield 236) 23 12 38 0 0 [909]), (23, eA (.aload_n 0) 24 0 0 0 0 []), (24, eA (.getfield 233) 27 12 37 0 0 [908]), (27, eZ (.ldc2_w 239) 30 (-1000000000) [1151]), (30, eZ (.ldc2_w 241) 33 1000000000 [1152]), (33, eA (.invokestatic 87) 36 116 3 0 0 [1028, 1029]), (36, eA (.ifCond .eq 14) 39 50 0 0 0 []), (39, eA (.aload_n 0) 40 0 0 0 0 []), (40, eA (.getfield 236) 43 12 38 0 0 [909]), (43, eZ (.ldc2_w 241) 46 1000000000 [1152]), (46, e0 .lcmp 47), (47, eA (.ifCond .le 18) 50 65 0 0 0 []), (50, eA (.aload_n 0) 51 0 0 0 0 []), (51, eC (.iconst 1) 52 1), (52, eA (.putfield 243) 55 12 39 0 0 [910]), (55, eA (.aload_n 0) 56 0 0 0 0 []), (56, eZ (.lconst 0) 57 0 []), (57, eA (.putfield 233) 60 12 37 0 0 [908]), (60, eA (.aload_n 0) 61 0 0 0 0 []), (61, eZ (.lconst 1) 62 1 []), (62, eA (.putfield 236) 65 12 38 0 0 [909]), (65, e0 .return_ 66)]
def k_R_product : List (Nat × En) := [(0, eA (.aload_n 0) 1 0 0 0 0 []), (1, eA (.lload_n 1) 2 1 0 0 0 []), (2, eA (.lload 5) 4 5 0 0 0 []), (4, e0 .lmul 5), (5, eA (.lload_n 3) 6 3 0 0 0 []), (6, eA (.lload 7) 8 7 0 0 0 []), (8, e0 .lmul 9), (9, eA (.invokevirtual 246) 12 138 3 0 12 [1147, 1149, 44]), (12, e0 .return_ 13)]
def k_R_sum : List (Nat × En) := [(0, eA (.aload_n 0) 1 0 0 0 0 []), (1, eA (.lload_n 1) 2 1 0 0 0 []), (2, eA (.lload 7) 4 7 0 0 0 []), (4, e0 .lmul 5), (5, eA (.lload 5) 7 5 0 0 0 []), (7, eA (.lload_n 3) 8 3 0 0 0 []), (8, e0 .lmul 9), (9, e0 .ladd 10), (10, eA (.lload_n 3) 11 3 0 0 0 []), (11, eA (.lload 7) 13 7 0 0 0 []), (13, e0 .lmul 14), (14, eA (.invokevirtual 246) 17 138 3 0 12 [1147, 1149, 44]), (17, e0 .return_ 18)]
def k_R_divided : List (Nat × En) := [(0, eA (.lload 5) 2 5 0 0 0 []), (2, eZ (.lconst 0) 3 0 []), (3, e0 .lcmp 4), (4, eA (.ifCond .ge 18) 7 22 0 0 0 []), (7, eA (.aload_n 0) 8 0 0 0 0 []), (8, eA (.lload_n 1) 9 1 0 0 0 []), (9, eA (.lload_n 3) 10 3 0 0 0 []), (10, eA (.lload 7) 12 7 0 0 0 []), (12, e0 .lneg 13), (13, eA (.lload 5) 15 5 0 0 0 []), (15, e0 .lneg 16), (16, eA (.invokevirtual 250) 19 139 5 0 12 [1143, 1145, 43]), (19, eA (.goto 13) 22 32 0 0 0 []), (22, eA (.aload_n 0) 23 0 0 0 0 []), (23, eA (.lload_n 1) 24 1 0 0 0 []), (24, eA (.lload_n 3) 25 3 0 0 0 []), (25, eA (.lload 7) 27 7 0 0 0 []), (27, eA (.lload 5) 29 5 0 0 0 []), (29, eA (.invokevirtual 250) 32 139 5 0 12 [1143, 1145, 43]), (32, e0 .return_ 33)]
def k_R_lays : List (Nat × En) := [(0, eA (.aload_n 0) 1 0 0 0 0 []), (1, eA (.getfield 66) 4 12 40 0 0 [911]), (4, eA (.iload_n 1) 5 1 0 0 0 []), (5, eA (.lload_n 2) 6 2 0 0 0 []), (6, e0 .lastore 7), (7, eA (.aload_n 0) 8 0 0 0 0 []), (8, eA (.getfield 69) 11 12 41 0 0 [912]), (11, eA (.iload_n 1) 12 1 0 0 0 []), (12, eA (.lload 4) 14 4 0 0 0 []), (14, e0 .lastore 15), (15, e0 .return_ 16)]
def k_R_leads : List (Nat × En) := [(0, eA (.aload_n 0) 1 0 0 0 0 []), (1, eA (.lload_n 2) 2 2 0 0 0 []), (2, eA (.lload 4) 4 4 0 0 0 []), (4, eA (.aload_n 0) 5 0 0 0 0 []), (5, eA (.getfield 66) 8 12 40 0 0 [911]), (8, eA (.iload 6) 10 6 0 0 0 []), (10, e0 .laload 11), (11, eA (.aload_n 0) 12 0 0 0 0 []), (12, eA (.getfield 69) 15 12 41 0 0 [912]), (15, eA (.iload 6) 17 6 0 0 0 []), (17, e0 .laload 18), (18, eA (.invokevirtual 250) 21 139 5 0 12 [1143, 1145, 43]), (21, eA (.aload_n 0) 22 0 0 0 0 []), (22, eA (.aload_n 0) 23 0 0 0 0 []), (23, eA (.getfield 66) 26 12 40 0 0 [911]), (26, eA (.iload_n 1) 27 1 0 0 0 []), (27, e0 .laload 28), (28, eA (.aload_n 0) 29 0 0 0 0 []), (29, eA (.getfield 69) 32 12 41 0 0 [912]), (32, eA (.iload_n 1) 33 1 0 0 0 []), (33, e0 .laload 34), (34, eA (.aload_n 0) 35 0 0 0 0 []), (35, eA (.getfield 233) 38 12 37 0 0 [908]), (38, eA (.aload_n 0) 39 0 0 0 0 []), (39, eA (.getfield 236) 42 12 38 0 0 [909]), (42, eA (.invokevirtual 254) 45 140 5 0 12 [1153, 1155, 45]), (45, eA (.aload_n 0) 46 0 0 0 0 []), (46, eA (.iload_n 1) 47 1 0 0 0 []), (47, eA (.aload_n 0) 48 0 0 0 0 []), (48, eA (.getfield 233) 51 12 37 0 0 [908]), (51, eA (.aload_n 0) 52 0 0 0 0 []), (52, eA (.getfield 236) 55 12 38 0 0 [909]), (55, eA (.invokevirtual 257) 58 142 4 0 12 [1131, 1133, 40]), (58, e0 .return_ 59)]
def k_R_leadsTable : List (Nat × En) := [(0, eA (.aload_n 0) 1 0 0 0 0 []), (1, eA (.getfield 51) 4 12 32 0 0 [903]), (4, eA (.iload_n 1) 5 1 0 0 0 []), (5, e0 .iaload 6), (6, eA (.ifCond .ne 42) 9 48 0 0 0 []), (9, eA (.aload_n 0) 10 0 0 0 0 []), (10, eC (.iconst 0) 11 0), (11, eA (.aload_n 0) 12 0 0 0 0 []), (12, eA (.getfield 54) 15 12 33 0 0 [904]), (15, eA (.iload_n 1) 16 1 0 0 0 []), (16, e0 .laload 17), (17, eA (.aload_n 0) 18 0 0 0 0 []), (18, eA (.getfield 57) 21 12 34 0 0 [905]), (21, eA (.iload_n 1) 22 1 0 0 0 []), (22, e0 .laload 23), (23, eC (.iconst 2) 24 2), (24, eA (.invokevirtual 260) 27 143 5 0 12 [1139, 1141, 42]), (27, eA (.aload_n 0) 28 0 0 0 0 []), (28, eC (.iconst 1) 29 1), (29, eA (.aload_n 0) 30 0 0 0 0 []), (30, eA (.getfield 54) 33 12 33 0 0 [904]), (33, eA (.iload_n 1) 34 1 0 0 0 []), (34, e0 .laload 35), (35, eA (.aload_n 0) 36 0 0 0 0 []), (36, eA (.getfield 57) 39 12 34 0 0 [905]), (39, eA (.iload_n 1) 40 1 0 0 0 []), (40, e0 .laload 41), (41, eC (.iconst 3) 42 3), (42, eA (.invokevirtual 260) 45 143 5 0 12 [1139, 1141, 42]), (45, eA (.goto 51) 48 96 0 0 0 []), (48, eA (.aload_n 0) 49 0 0 0 0 []), (49, eA (.getfield 51) 52 12 32 0 0 [903]), (52, eA (.iload_n 1) 53 1 0 0 0 []), (53, e0 .iaload 54), (54, eC (.iconst 1) 55 1), (55, eA (.if_icmp .ne 41) 58 96 0 0 0 []), (58, eA (.aload_n 0) 59 0 0 0 0 []), (59, eC (.iconst 2) 60 2), (60, eA (.aload_n 0) 61 0 0 0 0 []), (61, eA (.getfield 54) 64 12 33 0 0 [904]), (64, eA (.iload_n 1) 65 1 0 0 0 []), (65, e0 .laload 66), (66, e0 .lneg 67), (67, eA (.aload_n 0) 68 0 0 0 0 []), (68, eA (.getfield 57) 71 12 34 0 0 [905]), (71, eA (.iload_n 1) 72 1 0 0 0 []), (72, e0 .laload 73), (73, eC (.iconst 0) 74 0), (74, eA (.invokevirtual 260) 77 143 5 0 12 [1139, 1141, 42]), (77, eA (.aload_n 0) 78 0 0 0 0 []), (78, eC (.iconst 3) 79 3), (79, eA (.aload_n 0) 80 0 0 0 0 []), (80, eA (.getfield 54) 83 12 33 0 0 [904]), (83, eA (.iload_n 1) 84 1 0 0 0 []), (84, e0 .laload 85), (85, e0 .lneg 86), (86, eA (.aload_n 0) 87 0 0 0 0 []), (87, eA (.getfield 57) 90 12 34 0 0 [905]), (90, eA (.iload_n 1) 91 1 0 0 0 []), (91, e0 .laload 92), (92, eC (.iconst 1) 93 1), (93, eA (.invokevirtual 260) 96 143 5 0 12 [1139, 1141, 42]), (96, e0 .return_ 97)]
def k_R_leadsMote : List (Nat × En) := [(0, eA (.aload_n 0) 1 0 0 0 0 []), (1, eA (.getfield 51) 4 12 32 0 0 [903]), (4, eA (.iload_n 1) 5 1 0 0 0 []), (5, e0 .iaload 6), (6, eA (.ifCond .ne 26) 9 32 0 0 0 []), (9, eA (.aload_n 0) 10 0 0 0 0 []), (10, eA (.iload_n 2) 11 2 0 0 0 []), (11, eA (.aload_n 0) 12 0 0 0 0 []), (12, eA (.getfield 54) 15 12 33 0 0 [904]), (15, eA (.iload_n 1) 16 1 0 0 0 []), (16, e0 .laload 17), (17, eA (.aload_n 0) 18 0 0 0 0 []), (18, eA (.getfield 57) 21 12 34 0 0 [905]), (21, eA (.iload_n 1) 22 1 0 0 0 []), (22, e0 .laload 23), (23, eA (.iload_n 2) 24 2 0 0 0 []), (24, eC (.iconst 1) 25 1), (25, e0 .iadd 26), (26, eA (.invokevirtual 260) 29 143 5 0 12 [1139, 1141, 42]), (29, eA (.goto 138) 32 167 0 0 0 []), (32, eA (.aload_n 0) 33 0 0 0 0 []), (33, eA (.getfield 51) 36 12 32 0 0 [903]), (36, eA (.iload_n 1) 37 1 0 0 0 []), (37, e0 .iaload 38), (38, eC (.iconst 1) 39 1), (39, eA (.if_icmp .ne 27) 42 66 0 0 0 []), (42, eA (.aload_n 0) 43 0 0 0 0 []), (43, eA (.iload_n 2) 44 2 0 0 0 []), (44, eC (.iconst 1) 45 1), (45, e0 .iadd 46), (46, eA (.aload_n 0) 47 0 0 0 0 []), (47, eA (.getfield 54) 50 12 33 0 0 [904]), (50, eA (.iload_n 1) 51 1 0 0 0 []), (51, e0 .laload 52), (52, e0 .lneg 53), (53, eA (.aload_n 0) 54 0 0 0 0 []), (54, eA (.getfield 57) 57 12 34 0 0 [905]), (57, eA (.iload_n 1) 58 1 0 0 0 []), (58, e0 .laload 59), (59, eA (.iload_n 2) 60 2 0 0 0 []), (60, eA (.invokevirtual 260) 63 143 5 0 12 [1139, 1141, 42]), (63, eA (.goto 104) 66 167 0 0 0 []), (66, eA (.aload_n 0) 67 0 0 0 0 []), (67, eA (.getfield 51) 70 12 32 0 0 [903]), (70, eA (.iload_n 1) 71 1 0 0 0 []), (71, e0 .iaload 72), (72, eC (.iconst 3) 73 3), (73, eA (.if_icmp .ne 94) 76 167 0 0 0 []), (76, eA (.aload_n 0) 77 0 0 0 0 []), (77, eC (.iconst 3) 78 3), (78, eA (.iload_n 1) 79 1 0 0 0 []), (79, eA (.invokevirtual 225) 82 133 3 0 12 [1108, 1110, 37]), (82, eA (.istore 4) 84 4 0 0 0 []), (84, eA (.iload_n 3) 85 3 0 0 0 []), (85, eA (.ifCond .ge 13) 88 98 0 0 0 []), (88, eA (.aload_n 0) 89 0 0 0 0 []), (89, eA (.getfield 60) 92 12 35 0 0 [906]), (92, eA (.iload 4) 94 4 0 0 0 []), (94, e0 .laload 95), (95, eA (.goto 14) 98 109 0 0 0 []), (98, eA (.iload_n 3) 99 3 0 0 0 []), (99, eA (.iload 4) 101 4 0 0 0 []), (101, eA (.if_icmp .ne 7) 104 108 0 0 0 []), (104, eZ (.lconst 1) 105 1 []), (105, eA (.goto 4) 108 109 0 0 0 []), (108, eZ (.lconst 0) 109 0 []), (109, eA (.lstore 5) 111 5 0 0 0 []), (111, eA (.iload_n 3) 112 3 0 0 0 []), (112, eA (.ifCond .ge 13) 115 125 0 0 0 []), (115, eA (.aload_n 0) 116 0 0 0 0 []), (116, eA (.getfield 63) 119 12 36 0 0 [907]), (119, eA (.iload 4) 121 4 0 0 0 []), (121, e0 .laload 122), (122, eA (.goto 4) 125 126 0 0 0 []), (125, eZ (.lconst 1) 126 1 []), (126, eA (.lstore 7) 128 7 0 0 0 []), (128, eA (.aload_n 0) 129 0 0 0 0 []), (129, eA (.aload_n 0) 130 0 0 0 0 []), (130, eA (.getfield 66) 133 12 40 0 0 [911]), (133, eA (.iload_n 2) 134 2 0 0 0 []), (134, eC (.iconst 1) 135 1), (135, e0 .iadd 136), (136, e0 .laload 137), (137, eA (.aload_n 0) 138 0 0 0 0 []), (138, eA (.getfield 69) 141 12 41 0 0 [912]), (141, eA (.iload_n 2) 142 2 0 0 0 []), (142, eC (.iconst 1) 143 1), (143, e0 .iadd 144), (144, e0 .laload 145), (145, eA (.lload 5) 147 5 0 0 0 []), (147, eA (.lload 7) 149 7 0 0 0 []), (149, eA (.invokevirtual 254) 152 140 5 0 12 [1153, 1155, 45]), (152, eA (.aload_n 0) 153 0 0 0 0 []), (153, eA (.iload_n 2) 154 2 0 0 0 []), (154, eC (.iconst 1) 155 1), (155, e0 .iadd 156), (156, eA (.aload_n 0) 157 0 0 0 0 []), (157, eA (.getfield 233) 160 12 37 0 0 [908]), (160, eA (.aload_n 0) 161 0 0 0 0 []), (161, eA (.getfield 236) 164 12 38 0 0 [909]), (164, eA (.invokevirtual 257) 167 142 4 0 12 [1131, 1133, 40]), (167, e0 .return_ 168)]
def k_R_starts : List (Nat × En) := [(0, eA (.aload_n 0) 1 0 0 0 0 []), (1, eC (.iconst 0) 2 0), (2, eA (.putfield 243) 5 12 39 0 0 [910]), (5, eC (.iconst 0) 6 0), (6, eA (.istore_n 1) 7 1 0 0 0 []), (7, eA (.iload_n 1) 8 1 0 0 0 []), (8, eC (.bipush 8) 10 8), (10, eA (.if_icmp .ge 29) 13 39 0 0 0 []), (13, eA (.aload_n 0) 14 0 0 0 0 []), (14, eA (.iload_n 1) 15 1 0 0 0 []), (15, eA (.iload_n 1) 16 1 0 0 0 []), (16, eA (.ifCond .eq 8) 19 24 0 0 0 []), (19, eA (.iload_n 1) 20 1 0 0 0 []), (20, eC (.iconst 3) 21 3), (21, eA (.if_icmp .ne 7) 24 28 0 0 0 []), (24, eZ (.lconst 1) 25 1 []), (25, eA (.goto 4) 28 29 0 0 0 []), (28, eZ (.lconst 0) 29 0 []), (29, eZ (.lconst 1) 30 1 []), (30, eA (.invokevirtual 257) 33 142 4 0 12 [1131, 1133, 40]), (33, eI (.iinc 1 1) 36 1 1), (36, eA (.goto (-29)) 39 7 0 0 0 []), (39, e0 .return_ 40)]
def k_R_goes : List (Nat × En) := [(0, eA (.aload_n 0) 1 0 0 0 0 []), (1, eA (.invokevirtual 264) 4 146 1 0 12 [1127, 1129, 39]), (4, eC (.iconst 0) 5 0), (5, eA (.istore_n 3) 6 3 0 0 0 []), (6, eA (.iload_n 3) 7 3 0 0 0 []), (7, eA (.iload_n 2) 8 2 0 0 0 []), (8, eA (.if_icmp .ge 28) 11 36 0 0 0 []), (11, eA (.aload_n 0) 12 0 0 0 0 []), (12, eA (.getfield 243) 15 12 39 0 0 [910]), (15, eA (.ifCond .ne 21) 18 36 0 0 0 []), (18, eA (.aload_n 0) 19 0 0 0 0 []), (19, eA (.iload_n 1) 20 1 0 0 0 []), (20, eA (.iload_n 3) 21 3 0 0 0 []), (21, e0 .iadd 22), (22, eA (.aload_n 0) 23 0 0 0 0 []), (23, eA (.getfield 208) 26 12 29 0 0 [900]), (26, e0 .irem 27), (27, eA (.invokevirtual 267) 30 144 2 0 12 [1135, 1137, 41]), (30, eI (.iinc 3 1) 33 3 1), (33, eA (.goto (-27)) 36 6 0 0 0 []), (36, e0 .return_ 37)]
def k_R_tells : List (Nat × En) := [(0, eA (.aload_n 0) 1 0 0 0 0 []), (1, eA (.getfield 72) 4 12 43 0 0 [914]), (4, eC (.iconst 2) 5 2), (5, eA (.iload_n 1) 6 1 0 0 0 []), (6, e0 .imul 7), (7, eA (.lload_n 2) 8 2 0 0 0 []), (8, e0 .lastore 9), (9, eA (.aload_n 0) 10 0 0 0 0 []), (10, eA (.getfield 72) 13 12 43 0 0 [914]), (13, eC (.iconst 2) 14 2), (14, eA (.iload_n 1) 15 1 0 0 0 []), (15, e0 .imul 16), (16, eC (.iconst 1) 17 1), (17, e0 .iadd 18), (18, eA (.lload 4) 20 4 0 0 0 []), (20, e0 .lastore 21), (21, e0 .return_ 22)]
def k_R_table : List (Nat × En) := [(0, eA (.aload_n 0) 1 0 0 0 0 []), (1, eA (.iload_n 1) 2 1 0 0 0 []), (2, eA (.invokevirtual 220) 5 132 2 0 12 [1103, 1105, 36]), (5, eA (.ifCond .eq 15) 8 20 0 0 0 []), (8, eA (.iload_n 2) 9 2 0 0 0 []), (9, e0 .i2l 10), (10, eZ (.lconst 0) 11 0 []), (11, eZ (.ldc2_w 271) 14 200 [1122]), (14, eA (.invokestatic 87) 17 116 3 0 0 [1028, 1029]), (17, eA (.ifCond .ne 5) 20 22 0 0 0 []), (20, eC (.iconst (-1)) 21 (-1)), (21, e0 .ireturn 22), (22, eA (.aload_n 0) 23 0 0 0 0 []), (23, eA (.iload_n 1) 24 1 0 0 0 []), (24, eA (.iload_n 2) 25 2 0 0 0 []), (25, eA (.invokevirtual 273) 28 147 3 0 12 [1123, 1125, 38]), (28, eA (.aload_n 0) 29 0 0 0 0 []), (29, eA (.getfield 243) 32 12 39 0 0 [910]), (32, eA (.ifCond .eq 8) 35 40 0 0 0 []), (35, eC (.bipush (-5)) 37 (-5)), (37, eA (.goto 7) 40 44 0 0 0 []), (40, eA (.aload_n 0) 41 0 0 0 0 []), (41, eA (.invokevirtual 277) 44 150 1 0 12 [1157, 1159, 46]), (44, e0 .ireturn 45)]
def k_R_tables : List (Nat × En) := [(0, eC (.iconst 0) 1 0), (1, eA (.istore_n 1) 2 1 0 0 0 []), (2, eA (.iload_n 1) 3 1 0 0 0 []), (3, eC (.iconst 4) 4 4), (4, eA (.if_icmp .ge 26) 7 30 0 0 0 []), (7, eA (.aload_n 0) 8 0 0 0 0 []), (8, eA (.iload_n 1) 9 1 0 0 0 []), (9, eA (.aload_n 0) 10 0 0 0 0 []), (10, eA (.getfield 66) 13 12 40 0 0 [911]), (13, eA (.iload_n 1) 14 1 0 0 0 []), (14, e0 .laload 15), (15, eA (.aload_n 0) 16 0 0 0 0 []), (16, eA (.getfield 69) 19 12 41 0 0 [912]), (19, eA (.iload_n 1) 20 1 0 0 0 []), (20, e0 .laload 21), (21, eA (.invokevirtual 281) 24 148 4 0 12 [1161, 1163, 47]), (24, eI (.iinc 1 1) 27 1 1), (27, eA (.goto (-25)) 30 2 0 0 0 []), (30, eA (.aload_n 0) 31 0 0 0 0 []), (31, eC (.iconst 4) 32 4), (32, eA (.putfield 284) 35 12 42 0 0 [913]), (35, eC (.iconst 4) 36 4), (36, e0 .ireturn 37)]
def k_R_kept : List (Nat × En) := [(0, eZ (.ldc2_w 223) 3 2 [1107]), (3, eA (.aload_n 0) 4 0 0 0 0 []), (4, eA (.getfield 236) 7 12 38 0 0 [909]), (7, e0 .lmul 8), (8, eA (.lstore_n 1) 9 1 0 0 0 []), (9, eA (.aload_n 0) 10 0 0 0 0 []), (10, eA (.getfield 233) 13 12 37 0 0 [908]), (13, eZ (.lconst 0) 14 0 []), (14, e0 .lcmp 15), (15, eA (.ifCond .ge 11) 18 26 0 0 0 []), (18, eA (.aload_n 0) 19 0 0 0 0 []), (19, eA (.getfield 233) 22 12 37 0 0 [908]), (22, e0 .lneg 23), (23, eA (.goto 7) 26 30 0 0 0 []), (26, eA (.aload_n 0) 27 0 0 0 0 []), (27, eA (.getfield 233) 30 12 37 0 0 [908]), (30, eA (.lstore_n 3) 31 3 0 0 0 []), (31, eA (.lload_n 3) 32 3 0 0 0 []), (32, eA (.lload_n 1) 33 1 0 0 0 []), (33, e0 .lcmp 34), (34, eA (.ifCond .ge 7) 37 41 0 0 0 []), (37, eC (.iconst 2) 38 2), (38, eA (.goto 14) 41 52 0 0 0 []), (41, eA (.lload_n 3) 42 3 0 0 0 []), (42, eA (.lload_n 1) 43 1 0 0 0 []), (43, e0 .lcmp 44), (44, eA (.ifCond .ne 7) 47 51 0 0 0 []), (47, eC (.iconst 1) 48 1), (48, eA (.goto 4) 51 52 0 0 0 []), (51, eC (.iconst 0) 52 0), (52, e0 .ireturn 53)]
def k_R_round : List (Nat × En) := [(0, eA (.aload_n 0) 1 0 0 0 0 []), (1, eA (.iload_n 1) 2 1 0 0 0 []), (2, eA (.invokevirtual 220) 5 132 2 0 12 [1103, 1105, 36]), (5, eA (.ifCond .ne 5) 8 10 0 0 0 []), (8, eC (.iconst (-1)) 9 (-1)), (9, e0 .ireturn 10), (10, eA (.aload_n 0) 11 0 0 0 0 []), (11, eA (.iload_n 1) 12 1 0 0 0 []), (12, eA (.aload_n 0) 13 0 0 0 0 []), (13, eA (.getfield 208) 16 12 29 0 0 [900]), (16, eA (.invokevirtual 273) 19 147 3 0 12 [1123, 1125, 38]), (19, eA (.aload_n 0) 20 0 0 0 0 []), (20, eA (.getfield 243) 23 12 39 0 0 [910]), (23, eA (.ifCond .ne 31) 26 54 0 0 0 []), (26, eA (.aload_n 0) 27 0 0 0 0 []), (27, eA (.aload_n 0) 28 0 0 0 0 []), (28, eA (.getfield 66) 31 12 40 0 0 [911]), (31, eC (.iconst 0) 32 0), (32, e0 .laload 33), (33, eA (.aload_n 0) 34 0 0 0 0 []), (34, eA (.getfield 69) 37 12 41 0 0 [912]), (37, eC (.iconst 0) 38 0), (38, e0 .laload 39), (39, eA (.aload_n 0) 40 0 0 0 0 []), (40, eA (.getfield 66) 43 12 40 0 0 [911]), (43, eC (.iconst 3) 44 3), (44, e0 .laload 45), (45, eA (.aload_n 0) 46 0 0 0 0 []), (46, eA (.getfield 69) 49 12 41 0 0 [912]), (49, eC (.iconst 3) 50 3), (50, e0 .laload 51), (51, eA (.invokevirtual 254) 54 140 5 0 12 [1153, 1155, 45]), (54, eA (.aload_n 0) 55 0 0 0 0 []), (55, eA (.getfield 243) 58 12 39 0 0 [910]), (58, eA (.ifCond .eq 6) 61 64 0 0 0 []), (61, eC (.bipush (-5)) 63 (-5)), (63, e0 .ireturn 64), (64, eA (.aload_n 0) 65 0 0 0 0 []), (65, eA (.invokevirtual 287) 68 151 1 0 12 [1169, 1171, 48]), (68, eA (.istore_n 2) 69 2 0 0 0 []), (69, eA (.aload_n 0) 70 0 0 0 0 []), (70, eA (.invokevirtual 277) 73 150 1 0 12 [1157, 1159, 46]), (73, eA (.istore_n 3) 74 3 0 0 0 []), (74, eA (.iload_n 2) 75 2 0 0 0 []), (75, e0 .ireturn 76)]
def k_R_widths : List (Nat × En) := [(0, eA (.aload_n 0) 1 0 0 0 0 []), (1, eA (.iload_n 1) 2 1 0 0 0 []), (2, eA (.invokevirtual 220) 5 132 2 0 12 [1103, 1105, 36]), (5, eA (.ifCond .ne 5) 8 10 0 0 0 []), (8, eC (.iconst (-1)) 9 (-1)), (9, e0 .ireturn 10), (10, eA (.aload_n 0) 11 0 0 0 0 []), (11, eA (.iload_n 1) 12 1 0 0 0 []), (12, eA (.aload_n 0) 13 0 0 0 0 []), (13, eA (.getfield 208) 16 12 29 0 0 [900]), (16, eA (.invokevirtual 273) 19 147 3 0 12 [1123, 1125, 38]), (19, eA (.aload_n 0) 20 0 0 0 0 []), (20, eA (.getfield 243) 23 12 39 0 0 [910]), (23, eA (.ifCond .ne 31) 26 54 0 0 0 []), (26, eA (.aload_n 0) 27 0 0 0 0 []), (27, eA (.aload_n 0) 28 0 0 0 0 []), (28, eA (.getfield 66) 31 12 40 0 0 [911]), (31, eC (.iconst 0) 32 0), (32, e0 .laload 33), (33, eA (.aload_n 0) 34 0 0 0 0 []), (34, eA (.getfield 69) 37 12 41 0 0 [912]), (37, eC (.iconst 0) 38 0), (38, e0 .laload 39), (39, eA (.aload_n 0) 40 0 0 0 0 []), (40, eA (.getfield 66) 43 12 40 0 0 [911]), (43, eC (.iconst 3) 44 3), (44, e0 .laload 45), (45, eA (.aload_n 0) 46 0 0 0 0 []), (46, eA (.getfield 69) 49 12 41 0 0 [912]), (49, eC (.iconst 3) 50 3), (50, e0 .laload 51), (51, eA (.invokevirtual 254) 54 140 5 0 12 [1153, 1155, 45]), (54, eA (.aload_n 0) 55 0 0 0 0 []), (55, eA (.getfield 243) 58 12 39 0 0 [910]), (58, eA (.ifCond .eq 6) 61 64 0 0 0 []), (61, eC (.bipush (-5)) 63 (-5)), (63, e0 .ireturn 64), (64, eA (.aload_n 0) 65 0 0 0 0 []), (65, eA (.invokevirtual 287) 68 151 1 0 12 [1169, 1171, 48]), (68, eC (.iconst 2) 69 2), (69, eA (.if_icmp .ge 6) 72 75 0 0 0 []), (72, eC (.bipush (-2)) 74 (-2)), (74, e0 .ireturn 75), (75, eA (.aload_n 0) 76 0 0 0 0 []), (76, eA (.aload_n 0) 77 0 0 0 0 []), (77, eA (.getfield 66) 80 12 40 0 0 [911]), (80, eC (.iconst 0) 81 0), (81, e0 .laload 82), (82, eA (.aload_n 0) 83 0 0 0 0 []), (83, eA (.getfield 69) 86 12 41 0 0 [912]), (86, eC (.iconst 0) 87 0), (87, e0 .laload 88), (88, eA (.aload_n 0) 89 0 0 0 0 []), (89, eA (.getfield 66) 92 12 40 0 0 [911]), (92, eC (.iconst 3) 93 3), (93, e0 .laload 94), (94, e0 .lneg 95), (95, eA (.aload_n 0) 96 0 0 0 0 []), (96, eA (.getfield 69) 99 12 41 0 0 [912]), (99, eC (.iconst 3) 100 3), (100, e0 .laload 101), (101, eA (.invokevirtual 254) 104 140 5 0 12 [1153, 1155, 45]), (104, eA (.aload_n 0) 105 0 0 0 0 []), (105, eA (.aload_n 0) 106 0 0 0 0 []), (106, eA (.getfield 233) 109 12 37 0 0 [908]), (109, eA (.aload_n 0) 110 0 0 0 0 []), (110, eA (.getfield 236) 113 12 38 0 0 [909]), (113, eZ (.lconst 1) 114 1 []), (114, eZ (.ldc2_w 223) 117 2 [1107]), (117, eA (.invokevirtual 250) 120 139 5 0 12 [1143, 1145, 43]), (120, eA (.aload_n 0) 121 0 0 0 0 []), (121, eA (.getfield 243) 124 12 39 0 0 [910]), (124, eA (.ifCond .eq 6) 127 130 0 0 0 []), (127, eC (.bipush (-5)) 129 (-5)), (129, e0 .ireturn 130), (130, eA (.aload_n 0) 131 0 0 0 0 []), (131, eC (.iconst 0) 132 0), (132, eA (.aload_n 0) 133 0 0 0 0 []), (133, eA (.getfield 66) 136 12 40 0 0 [911]), (136, eC (.iconst 1) 137 1), (137, e0 .laload 138), (138, eA (.aload_n 0) 139 0 0 0 0 []), (139, eA (.getfield 69) 142 12 41 0 0 [912]), (142, eC (.iconst 1) 143 1), (143, e0 .laload 144), (144, eA (.invokevirtual 281) 147 148 4 0 12 [1161, 1163, 47]), (147, eA (.aload_n 0) 148 0 0 0 0 []), (148, eC (.iconst 1) 149 1), (149, eA (.aload_n 0) 150 0 0 0 0 []), (150, eA (.getfield 233) 153 12 37 0 0 [908]), (153, eA (.aload_n 0) 154 0 0 0 0 []), (154, eA (.getfield 236) 157 12 38 0 0 [909]), (157, eA (.invokevirtual 281) 160 148 4 0 12 [1161, 1163, 47]), (160, eA (.aload_n 0) 161 0 0 0 0 []), (161, eC (.iconst 2) 162 2), (162, eA (.aload_n 0) 163 0 0 0 0 []), (163, eA (.getfield 66) 166 12 40 0 0 [911]), (166, eC (.iconst 2) 167 2), (167, e0 .laload 168), (168, e0 .lneg 169), (169, eA (.aload_n 0) 170 0 0 0 0 []), (170, eA (.getfield 69) 173 12 41 0 0 [912]), (173, eC (.iconst 2) 174 2), (174, e0 .laload 175), (175, eA (.invokevirtual 281) 178 148 4 0 12 [1161, 1163, 47]), (178, eA (.aload_n 0) 179 0 0 0 0 []), (179, eC (.iconst 3) 180 3), (180, eA (.putfield 284) 183 12 42 0 0 [913]), (183, eC (.iconst 3) 184 3), (184, e0 .ireturn 185)]
def k_R_turns : List (Nat × En) := [(0, eA (.aload_n 0) 1 0 0 0 0 []), (1, eA (.getfield 208) 4 12 29 0 0 [900]), (4, eA (.ifCond .ne 5) 7 9 0 0 0 []), (7, eC (.iconst (-1)) 8 (-1)), (8, e0 .ireturn 9), (9, eA (.aload_n 0) 10 0 0 0 0 []), (10, eC (.iconst 0) 11 0), (11, eA (.aload_n 0) 12 0 0 0 0 []), (12, eA (.getfield 208) 15 12 29 0 0 [900]), (15, eA (.invokevirtual 273) 18 147 3 0 12 [1123, 1125, 38]), (18, eA (.aload_n 0) 19 0 0 0 0 []), (19, eA (.getfield 243) 22 12 39 0 0 [910]), (22, eA (.ifCond .ne 31) 25 53 0 0 0 []), (25, eA (.aload_n 0) 26 0 0 0 0 []), (26, eA (.aload_n 0) 27 0 0 0 0 []), (27, eA (.getfield 66) 30 12 40 0 0 [911]), (30, eC (.iconst 0) 31 0), (31, e0 .laload 32), (32, eA (.aload_n 0) 33 0 0 0 0 []), (33, eA (.getfield 69) 36 12 41 0 0 [912]), (36, eC (.iconst 0) 37 0), (37, e0 .laload 38), (38, eA (.aload_n 0) 39 0 0 0 0 []), (39, eA (.getfield 66) 42 12 40 0 0 [911]), (42, eC (.iconst 3) 43 3), (43, e0 .laload 44), (44, eA (.aload_n 0) 45 0 0 0 0 []), (45, eA (.getfield 69) 48 12 41 0 0 [912]), (48, eC (.iconst 3) 49 3), (49, e0 .laload 50), (50, eA (.invokevirtual 254) 53 140 5 0 12 [1153, 1155, 45]), (53, eA (.aload_n 0) 54 0 0 0 0 []), (54, eA (.getfield 243) 57 12 39 0 0 [910]), (57, eA (.ifCond .eq 6) 60 63 0 0 0 []), (60, eC (.bipush (-5)) 62 (-5)), (62, e0 .ireturn 63), (63, eA (.aload_n 0) 64 0 0 0 0 []), (64, eA (.invokevirtual 287) 67 151 1 0 12 [1169, 1171, 48]), (67, eC (.iconst 2) 68 2), (68, eA (.if_icmp .ge 6) 71 74 0 0 0 []), (71, eC (.bipush (-2)) 73 (-2)), (73, e0 .ireturn 74), (74, eA (.aload_n 0) 75 0 0 0 0 []), (75, eA (.getfield 236) 78 12 38 0 0 [909]), (78, eZ (.lconst 1) 79 1 []), (79, e0 .lcmp 80), (80, eA (.ifCond .le 7) 83 87 0 0 0 []), (83, eC (.iconst 0) 84 0), (84, eA (.goto 33) 87 117 0 0 0 []), (87, eA (.aload_n 0) 88 0 0 0 0 []), (88, eA (.getfield 233) 91 12 37 0 0 [908]), (91, eZ (.ldc2_w 163) 94 (-1) [1094]), (94, e0 .lcmp 95), (95, eA (.ifCond .ne 7) 98 102 0 0 0 []), (98, eC (.iconst 3) 99 3), (99, eA (.goto 18) 102 117 0 0 0 []), (102, eA (.aload_n 0) 103 0 0 0 0 []), (103, eA (.getfield 233) 106 12 37 0 0 [908]), (106, eZ (.lconst 0) 107 0 []), (107, e0 .lcmp 108), (108, eA (.ifCond .ne 7) 111 115 0 0 0 []), (111, eC (.iconst 4) 112 4), (112, eA (.goto 5) 115 117 0 0 0 []), (115, eC (.bipush 6) 117 6), (117, e0 .ireturn 118)]
def k_R_closed : List (Nat × En) := [(0, eA (.aload_n 0) 1 0 0 0 0 []), (1, eA (.invokevirtual 264) 4 146 1 0 12 [1127, 1129, 39]), (4, eC (.iconst 0) 5 0), (5, eA (.istore_n 3) 6 3 0 0 0 []), (6, eA (.iload_n 3) 7 3 0 0 0 []), (7, eA (.aload_n 0) 8 0 0 0 0 []), (8, eA (.getfield 208) 11 12 29 0 0 [900]), (11, eA (.if_icmp .ge 28) 14 39 0 0 0 []), (14, eA (.aload_n 0) 15 0 0 0 0 []), (15, eA (.getfield 243) 18 12 39 0 0 [910]), (18, eA (.ifCond .ne 21) 21 39 0 0 0 []), (21, eA (.aload_n 0) 22 0 0 0 0 []), (22, eA (.iload_n 3) 23 3 0 0 0 []), (23, eA (.invokevirtual 267) 26 144 2 0 12 [1135, 1137, 41]), (26, eA (.aload_n 0) 27 0 0 0 0 []), (27, eA (.iload_n 3) 28 3 0 0 0 []), (28, eC (.iconst 4) 29 4), (29, eA (.iload_n 2) 30 2 0 0 0 []), (30, eA (.invokevirtual 290) 33 145 4 0 12 [1189, 1191, 50]), (33, eI (.iinc 3 1) 36 3 1), (36, eA (.goto (-30)) 39 6 0 0 0 []), (39, eA (.aload_n 0) 40 0 0 0 0 []), (40, eA (.getfield 243) 43 12 39 0 0 [910]), (43, eA (.ifCond .eq 6) 46 49 0 0 0 []), (46, eC (.bipush (-5)) 48 (-5)), (48, e0 .ireturn 49), (49, eA (.aload_n 0) 50 0 0 0 0 []), (50, eZ (.ldc2_w 223) 53 2 [1107]), (53, eZ (.lconst 1) 54 1 []), (54, eA (.aload_n 0) 55 0 0 0 0 []), (55, eA (.getfield 66) 58 12 40 0 0 [911]), (58, eC (.iconst 0) 59 0), (59, e0 .laload 60), (60, e0 .lneg 61), (61, eA (.aload_n 0) 62 0 0 0 0 []), (62, eA (.getfield 69) 65 12 41 0 0 [912]), (65, eC (.iconst 0) 66 0), (66, e0 .laload 67), (67, eA (.invokevirtual 254) 70 140 5 0 12 [1153, 1155, 45]), (70, eA (.aload_n 0) 71 0 0 0 0 []), (71, eA (.aload_n 0) 72 0 0 0 0 []), (72, eA (.getfield 233) 75 12 37 0 0 [908]), (75, eA (.aload_n 0) 76 0 0 0 0 []), (76, eA (.getfield 236) 79 12 38 0 0 [909]), (79, eA (.aload_n 0) 80 0 0 0 0 []), (80, eA (.getfield 66) 83 12 40 0 0 [911]), (83, eC (.iconst 3) 84 3), (84, e0 .laload 85), (85, e0 .lneg 86), (86, eA (.aload_n 0) 87 0 0 0 0 []), (87, eA (.getfield 69) 90 12 41 0 0 [912]), (90, eC (.iconst 3) 91 3), (91, e0 .laload 92), (92, eA (.invokevirtual 254) 95 140 5 0 12 [1153, 1155, 45]), (95, eA (.aload_n 0) 96 0 0 0 0 []), (96, eA (.getfield 243) 99 12 39 0 0 [910]), (99, eA (.ifCond .eq 6) 102 105 0 0 0 []), (102, eC (.bipush (-5)) 104 (-5)), (104, e0 .ireturn 105), (105, eA (.aload_n 0) 106 0 0 0 0 []), (106, eA (.getfield 233) 109 12 37 0 0 [908]), (109, eZ (.lconst 0) 110 0 []), (110, e0 .lcmp 111), (111, eA (.ifCond .ne 6) 114 117 0 0 0 []), (114, eC (.bipush (-2)) 116 (-2)), (116, e0 .ireturn 117), (117, eA (.aload_n 0) 118 0 0 0 0 []), (118, eA (.getfield 233) 121 12 37 0 0 [908]), (121, eA (.lstore_n 3) 122 3 0 0 0 []), (122, eA (.aload_n 0) 123 0 0 0 0 []), (123, eA (.getfield 236) 126 12 38 0 0 [909]), (126, eA (.lstore 5) 128 5 0 0 0 []), (128, eA (.aload_n 0) 129 0 0 0 0 []), (129, eZ (.lconst 1) 130 1 []), (130, eZ (.lconst 1) 131 1 []), (131, eA (.aload_n 0) 132 0 0 0 0 []), (132, eA (.getfield 66) 135 12 40 0 0 [911]), (135, eC (.iconst 3) 136 3), (136, e0 .laload 137), (137, e0 .lneg 138), (138, eA (.aload_n 0) 139 0 0 0 0 []), (139, eA (.getfield 69) 142 12 41 0 0 [912]), (142, eC (.iconst 3) 143 3), (143, e0 .laload 144), (144, eA (.invokevirtual 254) 147 140 5 0 12 [1153, 1155, 45]), (147, eA (.aload_n 0) 148 0 0 0 0 []), (148, eA (.aload_n 0) 149 0 0 0 0 []), (149, eA (.getfield 233) 152 12 37 0 0 [908]), (152, eA (.aload_n 0) 153 0 0 0 0 []), (153, eA (.getfield 236) 156 12 38 0 0 [909]), (156, eA (.aload_n 0) 157 0 0 0 0 []), (157, eA (.getfield 66) 160 12 40 0 0 [911]), (160, eC (.iconst 4) 161 4), (161, e0 .laload 162), (162, eA (.aload_n 0) 163 0 0 0 0 []), (163, eA (.getfield 69) 166 12 41 0 0 [912]), (166, eC (.iconst 4) 167 4), (167, e0 .laload 168), (168, eA (.invokevirtual 250) 171 139 5 0 12 [1143, 1145, 43]), (171, eA (.aload_n 0) 172 0 0 0 0 []), (172, eA (.getfield 233) 175 12 37 0 0 [908]), (175, eA (.lstore 7) 177 7 0 0 0 []), (177, eA (.aload_n 0) 178 0 0 0 0 []), (178, eA (.getfield 236) 181 12 38 0 0 [909]), (181, eA (.lstore 9) 183 9 0 0 0 []), (183, eA (.aload_n 0) 184 0 0 0 0 []), (184, eA (.aload_n 0) 185 0 0 0 0 []), (185, eA (.getfield 66) 188 12 40 0 0 [911]), (188, eC (.iconst 1) 189 1), (189, e0 .laload 190), (190, eA (.aload_n 0) 191 0 0 0 0 []), (191, eA (.getfield 69) 194 12 41 0 0 [912]), (194, eC (.iconst 1) 195 1), (195, e0 .laload 196), (196, eA (.aload_n 0) 197 0 0 0 0 []), (197, eA (.getfield 66) 200 12 40 0 0 [911]), (200, eC (.iconst 5) 201 5), (201, e0 .laload 202), (202, eA (.aload_n 0) 203 0 0 0 0 []), (203, eA (.getfield 69) 206 12 41 0 0 [912]), (206, eC (.iconst 5) 207 5), (207, e0 .laload 208), (208, eA (.invokevirtual 250) 211 139 5 0 12 [1143, 1145, 43]), (211, eA (.aload_n 0) 212 0 0 0 0 []), (212, eA (.lload 7) 214 7 0 0 0 []), (214, eA (.lload 9) 216 9 0 0 0 []), (216, eA (.aload_n 0) 217 0 0 0 0 []), (217, eA (.getfield 233) 220 12 37 0 0 [908]), (220, eA (.aload_n 0) 221 0 0 0 0 []), (221, eA (.getfield 236) 224 12 38 0 0 [909]), (224, eA (.invokevirtual 254) 227 140 5 0 12 [1153, 1155, 45]), (227, eA (.aload_n 0) 228 0 0 0 0 []), (228, eA (.aload_n 0) 229 0 0 0 0 []), (229, eA (.getfield 233) 232 12 37 0 0 [908]), (232, eA (.aload_n 0) 233 0 0 0 0 []), (233, eA (.getfield 236) 236 12 38 0 0 [909]), (236, eA (.lload_n 3) 237 3 0 0 0 []), (237, eA (.lload 5) 239 5 0 0 0 []), (239, eA (.invokevirtual 294) 242 141 5 0 12 [1193, 1195, 51]), (242, eA (.aload_n 0) 243 0 0 0 0 []), (243, eC (.bipush 6) 245 6), (245, eA (.aload_n 0) 246 0 0 0 0 []), (246, eA (.getfield 233) 249 12 37 0 0 [908]), (249, eA (.aload_n 0) 250 0 0 0 0 []), (250, eA (.getfield 236) 253 12 38 0 0 [909]), (253, eA (.invokevirtual 257) 256 142 4 0 12 [1131, 1133, 40]), (256, eA (.aload_n 0) 257 0 0 0 0 []), (257, eA (.aload_n 0) 258 0 0 0 0 []), (258, eA (.getfield 66) 261 12 40 0 0 [911]), (261, eC (.iconst 2) 262 2), (262, e0 .laload 263), (263, eA (.aload_n 0) 264 0 0 0 0 []), (264, eA (.getfield 69) 267 12 41 0 0 [912]), (267, eC (.iconst 2) 268 2), (268, e0 .laload 269), (269, eA (.aload_n 0) 270 0 0 0 0 []), (270, eA (.getfield 66) 273 12 40 0 0 [911]), (273, eC (.iconst 4) 274 4), (274, e0 .laload 275), (275, eA (.aload_n 0) 276 0 0 0 0 []), (276, eA (.getfield 69) 279 12 41 0 0 [912]), (279, eC (.iconst 4) 280 4), (280, e0 .laload 281), (281, eA (.invokevirtual 250) 284 139 5 0 12 [1143, 1145, 43]), (284, eA (.aload_n 0) 285 0 0 0 0 []), (285, eA (.getfield 233) 288 12 37 0 0 [908]), (288, eA (.lstore 7) 290 7 0 0 0 []), (290, eA (.aload_n 0) 291 0 0 0 0 []), (291, eA (.getfield 236) 294 12 38 0 0 [909]), (294, eA (.lstore 9) 296 9 0 0 0 []), (296, eA (.aload_n 0) 297 0 0 0 0 []), (297, eZ (.lconst 1) 298 1 []), (298, eZ (.lconst 1) 299 1 []), (299, eA (.aload_n 0) 300 0 0 0 0 []), (300, eA (.getfield 66) 303 12 40 0 0 [911]), (303, eC (.iconst 0) 304 0), (304, e0 .laload 305), (305, e0 .lneg 306), (306, eA (.aload_n 0) 307 0 0 0 0 []), (307, eA (.getfield 69) 310 12 41 0 0 [912]), (310, eC (.iconst 0) 311 0), (311, e0 .laload 312), (312, eA (.invokevirtual 254) 315 140 5 0 12 [1153, 1155, 45]), (315, eA (.aload_n 0) 316 0 0 0 0 []), (316, eA (.aload_n 0) 317 0 0 0 0 []), (317, eA (.getfield 233) 320 12 37 0 0 [908]), (320, eA (.aload_n 0) 321 0 0 0 0 []), (321, eA (.getfield 236) 324 12 38 0 0 [909]), (324, eA (.aload_n 0) 325 0 0 0 0 []), (325, eA (.getfield 66) 328 12 40 0 0 [911]), (328, eC (.iconst 5) 329 5), (329, e0 .laload 330), (330, eA (.aload_n 0) 331 0 0 0 0 []), (331, eA (.getfield 69) 334 12 41 0 0 [912]), (334, eC (.iconst 5) 335 5), (335, e0 .laload 336), (336, eA (.invokevirtual 250) 339 139 5 0 12 [1143, 1145, 43]), (339, eA (.aload_n 0) 340 0 0 0 0 []), (340, eA (.lload 7) 342 7 0 0 0 []), (342, eA (.lload 9) 344 9 0 0 0 []), (344, eA (.aload_n 0) 345 0 0 0 0 []), (345, eA (.getfield 233) 348 12 37 0 0 [908]), (348, eA (.aload_n 0) 349 0 0 0 0 []), (349, eA (.getfield 236) 352 12 38 0 0 [909]), (352, eA (.invokevirtual 254) 355 140 5 0 12 [1153, 1155, 45]), (355, eA (.aload_n 0) 356 0 0 0 0 []), (356, eA (.aload_n 0) 357 0 0 0 0 []), (357, eA (.getfield 233) 360 12 37 0 0 [908]), (360, eA (.aload_n 0) 361 0 0 0 0 []), (361, eA (.getfield 236) 364 12 38 0 0 [909]), (364, eA (.lload_n 3) 365 3 0 0 0 []), (365, eA (.lload 5) 367 5 0 0 0 []), (367, eA (.invokevirtual 294) 370 141 5 0 12 [1193, 1195, 51]), (370, eA (.aload_n 0) 371 0 0 0 0 []), (371, eC (.bipush 7) 373 7), (373, eA (.aload_n 0) 374 0 0 0 0 []), (374, eA (.getfield 233) 377 12 37 0 0 [908]), (377, eA (.aload_n 0) 378 0 0 0 0 []), (378, eA (.getfield 236) 381 12 38 0 0 [909]), (381, eA (.invokevirtual 257) 384 142 4 0 12 [1131, 1133, 40]), (384, eC (.iconst 0) 385 0), (385, eA (.istore 11) 387 11 0 0 0 []), (387, eA (.iload 11) 389 11 0 0 0 []), (389, eA (.iload_n 1) 390 1 0 0 0 []), (390, eA (.if_icmp .ge 25) 393 415 0 0 0 []), (393, eA (.aload_n 0) 394 0 0 0 0 []), (394, eA (.getfield 243) 397 12 39 0 0 [910]), (397, eA (.ifCond .ne 18) 400 415 0 0 0 []), (400, eA (.aload_n 0) 401 0 0 0 0 []), (401, eA (.iload 11) 403 11 0 0 0 []), (403, eC (.bipush 6) 405 6), (405, eA (.iload_n 2) 406 2 0 0 0 []), (406, eA (.invokevirtual 290) 409 145 4 0 12 [1189, 1191, 50]), (409, eI (.iinc 11 1) 412 11 1), (412, eA (.goto (-25)) 415 387 0 0 0 []), (415, eA (.aload_n 0) 416 0 0 0 0 []), (416, eA (.getfield 243) 419 12 39 0 0 [910]), (419, eA (.ifCond .eq 8) 422 427 0 0 0 []), (422, eC (.bipush (-5)) 424 (-5)), (424, eA (.goto 4) 427 428 0 0 0 []), (427, eC (.iconst 0) 428 0), (428, e0 .ireturn 429)]
def k_R_way : List (Nat × En) := [(0, eA (.aload_n 0) 1 0 0 0 0 []), (1, eA (.iload_n 1) 2 1 0 0 0 []), (2, eA (.invokevirtual 220) 5 132 2 0 12 [1103, 1105, 36]), (5, eA (.ifCond .ne 5) 8 10 0 0 0 []), (8, eC (.iconst (-1)) 9 (-1)), (9, e0 .ireturn 10), (10, eA (.aload_n 0) 11 0 0 0 0 []), (11, eA (.iload_n 1) 12 1 0 0 0 []), (12, eC (.iconst (-1)) 13 (-1)), (13, eA (.invokevirtual 297) 16 155 3 0 12 [1185, 1187, 49]), (16, eA (.istore_n 2) 17 2 0 0 0 []), (17, eA (.iload_n 2) 18 2 0 0 0 []), (18, eA (.ifCond .ge 5) 21 23 0 0 0 []), (21, eA (.iload_n 2) 22 2 0 0 0 []), (22, e0 .ireturn 23), (23, eA (.aload_n 0) 24 0 0 0 0 []), (24, eC (.iconst 0) 25 0), (25, eA (.aload_n 0) 26 0 0 0 0 []), (26, eA (.getfield 66) 29 12 40 0 0 [911]), (29, eC (.bipush 6) 31 6), (31, e0 .laload 32), (32, eA (.aload_n 0) 33 0 0 0 0 []), (33, eA (.getfield 69) 36 12 41 0 0 [912]), (36, eC (.bipush 6) 38 6), (38, e0 .laload 39), (39, eA (.invokevirtual 281) 42 148 4 0 12 [1161, 1163, 47]), (42, eA (.aload_n 0) 43 0 0 0 0 []), (43, eC (.iconst 1) 44 1), (44, eA (.aload_n 0) 45 0 0 0 0 []), (45, eA (.getfield 66) 48 12 40 0 0 [911]), (48, eC (.bipush 7) 50 7), (50, e0 .laload 51), (51, eA (.aload_n 0) 52 0 0 0 0 []), (52, eA (.getfield 69) 55 12 41 0 0 [912]), (55, eC (.bipush 7) 57 7), (57, e0 .laload 58), (58, eA (.invokevirtual 281) 61 148 4 0 12 [1161, 1163, 47]), (61, eA (.aload_n 0) 62 0 0 0 0 []), (62, eC (.iconst 2) 63 2), (63, eA (.putfield 284) 66 12 42 0 0 [913]), (66, eC (.iconst 2) 67 2), (67, e0 .ireturn 68)]
def k_R_answer : List (Nat × En) := [(0, eA (.iload_n 1) 1 1 0 0 0 []), (1, e0 .i2l 2), (2, eZ (.lconst 0) 3 0 []), (3, eA (.aload_n 0) 4 0 0 0 0 []), (4, eA (.getfield 214) 7 12 31 0 0 [902]), (7, eC (.iconst 1) 8 1), (8, e0 .isub 9), (9, e0 .i2l 10), (10, eA (.invokestatic 87) 13 116 3 0 0 [1028, 1029]), (13, eA (.ifCond .eq 19) 16 32 0 0 0 []), (16, eA (.iload_n 2) 17 2 0 0 0 []), (17, e0 .i2l 18), (18, eZ (.lconst 0) 19 0 []), (19, eA (.aload_n 0) 20 0 0 0 0 []), (20, eA (.getfield 211) 23 12 30 0 0 [901]), (23, eC (.iconst 1) 24 1), (24, e0 .isub 25), (25, e0 .i2l 26), (26, eA (.invokestatic 87) 29 116 3 0 0 [1028, 1029]), (29, eA (.ifCond .ne 5) 32 34 0 0 0 []), (32, eC (.iconst (-1)) 33 (-1)), (33, e0 .ireturn 34), (34, eA (.aload_n 0) 35 0 0 0 0 []), (35, eA (.aload_n 0) 36 0 0 0 0 []), (36, eC (.iconst 4) 37 4), (37, eA (.iload_n 1) 38 1 0 0 0 []), (38, eA (.invokevirtual 300) 41 134 3 0 12 [1201, 1203, 52]), (41, eA (.iload_n 2) 42 2 0 0 0 []), (42, eA (.invokevirtual 297) 45 155 3 0 12 [1185, 1187, 49]), (45, eA (.istore_n 3) 46 3 0 0 0 []), (46, eA (.iload_n 3) 47 3 0 0 0 []), (47, eA (.ifCond .ge 5) 50 52 0 0 0 []), (50, eA (.iload_n 3) 51 3 0 0 0 []), (51, e0 .ireturn 52), (52, eA (.aload_n 0) 53 0 0 0 0 []), (53, eC (.iconst 0) 54 0), (54, eA (.aload_n 0) 55 0 0 0 0 []), (55, eA (.getfield 66) 58 12 40 0 0 [911]), (58, eC (.bipush 6) 60 6), (60, e0 .laload 61), (61, eA (.aload_n 0) 62 0 0 0 0 []), (62, eA (.getfield 69) 65 12 41 0 0 [912]), (65, eC (.bipush 6) 67 6), (67, e0 .laload 68), (68, eA (.invokevirtual 281) 71 148 4 0 12 [1161, 1163, 47]), (71, eA (.aload_n 0) 72 0 0 0 0 []), (72, eC (.iconst 1) 73 1), (73, eA (.putfield 284) 76 12 42 0 0 [913]), (76, eC (.iconst 1) 77 1), (77, e0 .ireturn 78)]
def k_R_bump : List (Nat × En) := [(0, eA (.iload_n 1) 1 1 0 0 0 []), (1, e0 .i2l 2), (2, eZ (.lconst 0) 3 0 []), (3, eA (.aload_n 0) 4 0 0 0 0 []), (4, eA (.getfield 211) 7 12 30 0 0 [901]), (7, eC (.iconst 1) 8 1), (8, e0 .isub 9), (9, e0 .i2l 10), (10, eA (.invokestatic 87) 13 116 3 0 0 [1028, 1029]), (13, eA (.ifCond .eq 41) 16 54 0 0 0 []), (16, eA (.iload_n 2) 17 2 0 0 0 []), (17, e0 .i2l 18), (18, eA (.iload_n 1) 19 1 0 0 0 []), (19, eC (.iconst 1) 20 1), (20, e0 .iadd 21), (21, e0 .i2l 22), (22, eA (.aload_n 0) 23 0 0 0 0 []), (23, eA (.getfield 211) 26 12 30 0 0 [901]), (26, eC (.iconst 1) 27 1), (27, e0 .isub 28), (28, e0 .i2l 29), (29, eA (.invokestatic 87) 32 116 3 0 0 [1028, 1029]), (32, eA (.ifCond .eq 22) 35 54 0 0 0 []), (35, eA (.iload_n 3) 36 3 0 0 0 []), (36, e0 .i2l 37), (37, eA (.iload_n 2) 38 2 0 0 0 []), (38, eC (.iconst 1) 39 1), (39, e0 .iadd 40), (40, e0 .i2l 41), (41, eA (.aload_n 0) 42 0 0 0 0 []), (42, eA (.getfield 211) 45 12 30 0 0 [901]), (45, eC (.iconst 1) 46 1), (46, e0 .isub 47), (47, e0 .i2l 48), (48, eA (.invokestatic 87) 51 116 3 0 0 [1028, 1029]), (51, eA (.ifCond .ne 5) 54 56 0 0 0 []), (54, eC (.iconst (-1)) 55 (-1)), (55, e0 .ireturn 56), (56, eA (.aload_n 0) 57 0 0 0 0 []), (57, eC (.iconst 3) 58 3), (58, eA (.iload_n 3) 59 3 0 0 0 []), (59, eA (.invokevirtual 300) 62 134 3 0 12 [1201, 1203, 52]), (62, eA (.istore 4) 64 4 0 0 0 []), (64, eA (.aload_n 0) 65 0 0 0 0 []), (65, eA (.aload_n 0) 66 0 0 0 0 []), (66, eC (.iconst 3) 67 3), (67, eA (.iload_n 1) 68 1 0 0 0 []), (68, eA (.invokevirtual 300) 71 134 3 0 12 [1201, 1203, 52]), (71, eA (.iload 4) 73 4 0 0 0 []), (73, eA (.aload_n 0) 74 0 0 0 0 []), (74, eC (.iconst 3) 75 3), (75, eA (.iload_n 1) 76 1 0 0 0 []), (76, eA (.invokevirtual 300) 79 134 3 0 12 [1201, 1203, 52]), (79, e0 .isub 80), (80, eA (.invokevirtual 273) 83 147 3 0 12 [1123, 1125, 38]), (83, eA (.aload_n 0) 84 0 0 0 0 []), (84, eA (.getfield 243) 87 12 39 0 0 [910]), (87, eA (.ifCond .eq 6) 90 93 0 0 0 []), (90, eC (.bipush (-5)) 92 (-5)), (92, e0 .ireturn 93), (93, eA (.aload_n 0) 94 0 0 0 0 []), (94, eA (.getfield 66) 97 12 40 0 0 [911]), (97, eC (.iconst 1) 98 1), (98, e0 .laload 99), (99, eA (.lstore 5) 101 5 0 0 0 []), (101, eA (.aload_n 0) 102 0 0 0 0 []), (102, eA (.getfield 69) 105 12 41 0 0 [912]), (105, eC (.iconst 1) 106 1), (106, e0 .laload 107), (107, eA (.lstore 7) 109 7 0 0 0 []), (109, eA (.aload_n 0) 110 0 0 0 0 []), (110, eA (.getfield 66) 113 12 40 0 0 [911]), (113, eC (.iconst 3) 114 3), (114, e0 .laload 115), (115, eA (.lstore 9) 117 9 0 0 0 []), (117, eA (.aload_n 0) 118 0 0 0 0 []), (118, eA (.getfield 69) 121 12 41 0 0 [912]), (121, eC (.iconst 3) 122 3), (122, e0 .laload 123), (123, eA (.lstore 11) 125 11 0 0 0 []), (125, eA (.aload_n 0) 126 0 0 0 0 []), (126, eA (.aload_n 0) 127 0 0 0 0 []), (127, eC (.iconst 3) 128 3), (128, eA (.iload_n 2) 129 2 0 0 0 []), (129, eA (.invokevirtual 300) 132 134 3 0 12 [1201, 1203, 52]), (132, eA (.iload 4) 134 4 0 0 0 []), (134, eA (.aload_n 0) 135 0 0 0 0 []), (135, eC (.iconst 3) 136 3), (136, eA (.iload_n 2) 137 2 0 0 0 []), (137, eA (.invokevirtual 300) 140 134 3 0 12 [1201, 1203, 52]), (140, e0 .isub 141), (141, eA (.invokevirtual 273) 144 147 3 0 12 [1123, 1125, 38]), (144, eA (.aload_n 0) 145 0 0 0 0 []), (145, eA (.getfield 243) 148 12 39 0 0 [910]), (148, eA (.ifCond .eq 6) 151 154 0 0 0 []), (151, eC (.bipush (-5)) 153 (-5)), (153, e0 .ireturn 154), (154, eA (.aload_n 0) 155 0 0 0 0 []), (155, eA (.getfield 66) 158 12 40 0 0 [911]), (158, eC (.iconst 1) 159 1), (159, e0 .laload 160), (160, eZ (.lconst 0) 161 0 []), (161, e0 .lcmp 162), (162, eA (.ifCond .ne 6) 165 168 0 0 0 []), (165, eC (.bipush (-2)) 167 (-2)), (167, e0 .ireturn 168), (168, eA (.aload_n 0) 169 0 0 0 0 []), (169, eA (.lload 5) 171 5 0 0 0 []), (171, e0 .lneg 172), (172, eA (.lload 7) 174 7 0 0 0 []), (174, eA (.aload_n 0) 175 0 0 0 0 []), (175, eA (.getfield 66) 178 12 40 0 0 [911]), (178, eC (.iconst 1) 179 1), (179, e0 .laload 180), (180, eA (.aload_n 0) 181 0 0 0 0 []), (181, eA (.getfield 69) 184 12 41 0 0 [912]), (184, eC (.iconst 1) 185 1), (185, e0 .laload 186), (186, eA (.invokevirtual 294) 189 141 5 0 12 [1193, 1195, 51]), (189, eA (.aload_n 0) 190 0 0 0 0 []), (190, eA (.getfield 233) 193 12 37 0 0 [908]), (193, eA (.lstore 13) 195 13 0 0 0 []), (195, eA (.aload_n 0) 196 0 0 0 0 []), (196, eA (.getfield 236) 199 12 38 0 0 [909]), (199, eA (.lstore 15) 201 15 0 0 0 []), (201, eA (.aload_n 0) 202 0 0 0 0 []), (202, eA (.lload 13) 204 13 0 0 0 []), (204, eA (.lload 15) 206 15 0 0 0 []), (206, eA (.aload_n 0) 207 0 0 0 0 []), (207, eA (.getfield 66) 210 12 40 0 0 [911]), (210, eC (.iconst 3) 211 3), (211, e0 .laload 212), (212, eA (.aload_n 0) 213 0 0 0 0 []), (213, eA (.getfield 69) 216 12 41 0 0 [912]), (216, eC (.iconst 3) 217 3), (217, e0 .laload 218), (218, eA (.invokevirtual 250) 221 139 5 0 12 [1143, 1145, 43]), (221, eA (.aload_n 0) 222 0 0 0 0 []), (222, eA (.lload 9) 224 9 0 0 0 []), (224, e0 .lneg 225), (225, eA (.lload 11) 227 11 0 0 0 []), (227, eA (.aload_n 0) 228 0 0 0 0 []), (228, eA (.getfield 233) 231 12 37 0 0 [908]), (231, e0 .lneg 232), (232, eA (.aload_n 0) 233 0 0 0 0 []), (233, eA (.getfield 236) 236 12 38 0 0 [909]), (236, eA (.invokevirtual 254) 239 140 5 0 12 [1153, 1155, 45]), (239, eA (.aload_n 0) 240 0 0 0 0 []), (240, eA (.getfield 243) 243 12 39 0 0 [910]), (243, eA (.ifCond .eq 6) 246 249 0 0 0 []), (246, eC (.bipush (-5)) 248 (-5)), (248, e0 .ireturn 249), (249, eA (.aload_n 0) 250 0 0 0 0 []), (250, eC (.iconst 0) 251 0), (251, eA (.lload 13) 253 13 0 0 0 []), (253, eA (.lload 15) 255 15 0 0 0 []), (255, eA (.invokevirtual 281) 258 148 4 0 12 [1161, 1163, 47]), (258, eA (.aload_n 0) 259 0 0 0 0 []), (259, eC (.iconst 1) 260 1), (260, eA (.aload_n 0) 261 0 0 0 0 []), (261, eA (.getfield 233) 264 12 37 0 0 [908]), (264, eA (.aload_n 0) 265 0 0 0 0 []), (265, eA (.getfield 236) 268 12 38 0 0 [909]), (268, eA (.invokevirtual 281) 271 148 4 0 12 [1161, 1163, 47]), (271, eA (.aload_n 0) 272 0 0 0 0 []), (272, eC (.iconst 2) 273 2), (273, eA (.putfield 284) 276 12 42 0 0 [913]), (276, eC (.iconst 2) 277 2), (277, e0 .ireturn 278)]
def k_R_number : List (Nat × En) := [(0, eA (.iload_n 1) 1 1 0 0 0 []), (1, eA (.ifCond .lt 13) 4 14 0 0 0 []), (4, eA (.iload_n 2) 5 2 0 0 0 []), (5, e0 .i2l 6), (6, eZ (.lconst 0) 7 0 []), (7, eZ (.lconst 1) 8 1 []), (8, eA (.invokestatic 87) 11 116 3 0 0 [1028, 1029]), (11, eA (.ifCond .ne 5) 14 16 0 0 0 []), (14, eC (.iconst (-1)) 15 (-1)), (15, e0 .ireturn 16), (16, eA (.iload_n 1) 17 1 0 0 0 []), (17, eA (.aload_n 0) 18 0 0 0 0 []), (18, eA (.getfield 284) 21 12 42 0 0 [913]), (21, eA (.if_icmp .ge 17) 24 38 0 0 0 []), (24, eA (.aload_n 0) 25 0 0 0 0 []), (25, eA (.getfield 72) 28 12 43 0 0 [914]), (28, eC (.iconst 2) 29 2), (29, eA (.iload_n 1) 30 1 0 0 0 []), (30, e0 .imul 31), (31, eA (.iload_n 2) 32 2 0 0 0 []), (32, e0 .iadd 33), (33, e0 .laload 34), (34, e0 .l2i 35), (35, eA (.goto 5) 38 40 0 0 0 []), (38, eC (.bipush (-4)) 40 (-4)), (40, e0 .ireturn 41)]
def k_R_isPrime : List (Nat × En) := [(0, eA (.iload_n 0) 1 0 0 0 0 []), (1, e0 .i2l 2), (2, eZ (.ldc2_w 303) 5 3 [1220]), (5, eZ (.ldc2_w 305) 8 31 [1221]), (8, eA (.invokestatic 87) 11 116 3 0 0 [1028, 1029]), (11, eA (.istore_n 1) 12 1 0 0 0 []), (12, eC (.iconst 2) 13 2), (13, eA (.istore_n 2) 14 2 0 0 0 []), (14, eA (.iload_n 1) 15 1 0 0 0 []), (15, eA (.ifCond .eq 28) 18 43 0 0 0 []), (18, eA (.iload_n 2) 19 2 0 0 0 []), (19, eA (.iload_n 2) 20 2 0 0 0 []), (20, e0 .imul 21), (21, eA (.iload_n 0) 22 0 0 0 0 []), (22, eA (.if_icmp .gt 21) 25 43 0 0 0 []), (25, eA (.iload_n 0) 26 0 0 0 0 []), (26, eA (.iload_n 2) 27 2 0 0 0 []), (27, e0 .irem 28), (28, eA (.ifCond .eq 7) 31 35 0 0 0 []), (31, eC (.iconst 1) 32 1), (32, eA (.goto 4) 35 36 0 0 0 []), (35, eC (.iconst 0) 36 0), (36, eA (.istore_n 1) 37 1 0 0 0 []), (37, eI (.iinc 2 1) 40 2 1), (40, eA (.goto (-26)) 43 14 0 0 0 []), (43, eA (.iload_n 1) 44 1 0 0 0 []), (44, e0 .ireturn 45)]
def k_R_by : List (Nat × En) := [(0, eA (.lload_n 0) 1 0 0 0 0 []), (1, eA (.iload_n 2) 2 2 0 0 0 []), (2, e0 .i2l 3), (3, e0 .lrem 4), (4, eZ (.lconst 0) 5 0 []), (5, e0 .lcmp 6), (6, eA (.ifCond .ge 13) 9 19 0 0 0 []), (9, eA (.lload_n 0) 10 0 0 0 0 []), (10, eA (.iload_n 2) 11 2 0 0 0 []), (11, e0 .i2l 12), (12, e0 .lrem 13), (13, eA (.iload_n 2) 14 2 0 0 0 []), (14, e0 .i2l 15), (15, e0 .ladd 16), (16, eA (.goto 7) 19 23 0 0 0 []), (19, eA (.lload_n 0) 20 0 0 0 0 []), (20, eA (.iload_n 2) 21 2 0 0 0 []), (21, e0 .i2l 22), (22, e0 .lrem 23), (23, e0 .l2i 24), (24, e0 .ireturn 25)]
def k_R_weighs : List (Nat × En) := [(0, eC (.iconst 0) 1 0), (1, eA (.istore_n 2) 2 2 0 0 0 []), (2, eA (.iload_n 2) 3 2 0 0 0 []), (3, eA (.aload_n 0) 4 0 0 0 0 []), (4, eA (.getfield 208) 7 12 29 0 0 [900]), (7, eA (.if_icmp .ge 66) 10 73 0 0 0 []), (10, eA (.aload_n 0) 11 0 0 0 0 []), (11, eA (.getfield 57) 14 12 34 0 0 [905]), (14, eA (.iload_n 2) 15 2 0 0 0 []), (15, e0 .laload 16), (16, eA (.iload_n 1) 17 1 0 0 0 []), (17, eA (.invokestatic 307) 20 161 2 0 0 [1226, 1227]), (20, eA (.istore_n 3) 21 3 0 0 0 []), (21, eA (.iload_n 3) 22 3 0 0 0 []), (22, eA (.ifCond .ne 5) 25 27 0 0 0 []), (25, eC (.iconst 0) 26 0), (26, e0 .ireturn 27), (27, eC (.iconst 1) 28 1), (28, eA (.istore 4) 30 4 0 0 0 []), (30, eA (.iload 4) 32 4 0 0 0 []), (32, eA (.iload_n 3) 33 3 0 0 0 []), (33, e0 .imul 34), (34, eA (.iload_n 1) 35 1 0 0 0 []), (35, e0 .irem 36), (36, eC (.iconst 1) 37 1), (37, eA (.if_icmp .eq 9) 40 46 0 0 0 []), (40, eI (.iinc 4 1) 43 4 1), (43, eA (.goto (-13)) 46 30 0 0 0 []), (46, eA (.aload_n 0) 47 0 0 0 0 []), (47, eA (.getfield 75) 50 12 48 0 0 [919]), (50, eA (.iload_n 2) 51 2 0 0 0 []), (51, eA (.aload_n 0) 52 0 0 0 0 []), (52, eA (.getfield 54) 55 12 33 0 0 [904]), (55, eA (.iload_n 2) 56 2 0 0 0 []), (56, e0 .laload 57), (57, eA (.iload_n 1) 58 1 0 0 0 []), (58, eA (.invokestatic 307) 61 161 2 0 0 [1226, 1227]), (61, eA (.iload 4) 63 4 0 0 0 []), (63, e0 .imul 64), (64, eA (.iload_n 1) 65 1 0 0 0 []), (65, e0 .irem 66), (66, e0 .iastore 67), (67, eI (.iinc 2 1) 70 2 1), (70, eA (.goto (-68)) 73 2 0 0 0 []), (73, eC (.iconst 1) 74 1), (74, e0 .ireturn 75)]
def k_R_rounds : List (Nat × En) := [(0, eA (.iload_n 2) 1 2 0 0 0 []), (1, eA (.iload_n 1) 2 1 0 0 0 []), (2, e0 .idiv 3), (3, eA (.istore_n 3) 4 3 0 0 0 []), (4, eA (.iload_n 2) 5 2 0 0 0 []), (5, eA (.iload_n 1) 6 1 0 0 0 []), (6, e0 .irem 7), (7, eA (.istore 4) 9 4 0 0 0 []), (9, eC (.iconst 0) 10 0), (10, eA (.istore 5) 12 5 0 0 0 []), (12, eA (.iload 5) 14 5 0 0 0 []), (14, eA (.aload_n 0) 15 0 0 0 0 []), (15, eA (.getfield 208) 18 12 29 0 0 [900]), (18, eA (.if_icmp .ge 104) 21 122 0 0 0 []), (21, eA (.aload_n 0) 22 0 0 0 0 []), (22, eA (.getfield 51) 25 12 32 0 0 [903]), (25, eA (.iload 5) 27 5 0 0 0 []), (27, e0 .iaload 28), (28, eA (.ifCond .ne 21) 31 49 0 0 0 []), (31, eA (.iload_n 3) 32 3 0 0 0 []), (32, eA (.aload_n 0) 33 0 0 0 0 []), (33, eA (.getfield 75) 36 12 48 0 0 [919]), (36, eA (.iload 5) 38 5 0 0 0 []), (38, e0 .iaload 39), (39, eA (.iload 4) 41 4 0 0 0 []), (41, e0 .imul 42), (42, e0 .iadd 43), (43, eA (.iload_n 1) 44 1 0 0 0 []), (44, e0 .irem 45), (45, eA (.istore_n 3) 46 3 0 0 0 []), (46, eA (.goto 70) 49 116 0 0 0 []), (49, eA (.aload_n 0) 50 0 0 0 0 []), (50, eA (.getfield 51) 53 12 32 0 0 [903]), (53, eA (.iload 5) 55 5 0 0 0 []), (55, e0 .iaload 56), (56, eC (.iconst 1) 57 1), (57, eA (.if_icmp .ne 25) 60 82 0 0 0 []), (60, eA (.iload 4) 62 4 0 0 0 []), (62, eA (.aload_n 0) 63 0 0 0 0 []), (63, eA (.getfield 75) 66 12 48 0 0 [919]), (66, eA (.iload 5) 68 5 0 0 0 []), (68, e0 .iaload 69), (69, eA (.iload_n 3) 70 3 0 0 0 []), (70, e0 .imul 71), (71, e0 .isub 72), (72, e0 .i2l 73), (73, eA (.iload_n 1) 74 1 0 0 0 []), (74, eA (.invokestatic 307) 77 161 2 0 0 [1226, 1227]), (77, eA (.istore 4) 79 4 0 0 0 []), (79, eA (.goto 37) 82 116 0 0 0 []), (82, eA (.aload_n 0) 83 0 0 0 0 []), (83, eA (.getfield 51) 86 12 32 0 0 [903]), (86, eA (.iload 5) 88 5 0 0 0 []), (88, e0 .iaload 89), (89, eC (.iconst 2) 90 2), (90, eA (.if_icmp .ne 26) 93 116 0 0 0 []), (93, eA (.iload 4) 95 4 0 0 0 []), (95, eA (.aload_n 0) 96 0 0 0 0 []), (96, eA (.getfield 75) 99 12 48 0 0 [919]), (99, eA (.iload 5) 101 5 0 0 0 []), (101, e0 .iaload 102), (102, eA (.iload_n 3) 103 3 0 0 0 []), (103, eA (.iload_n 3) 104 3 0 0 0 []), (104, e0 .imul 105), (105, eA (.iload_n 1) 106 1 0 0 0 []), (106, e0 .irem 107), (107, e0 .imul 108), (108, e0 .isub 109), (109, e0 .i2l 110), (110, eA (.iload_n 1) 111 1 0 0 0 []), (111, eA (.invokestatic 307) 114 161 2 0 0 [1226, 1227]), (114, eA (.istore 4) 116 4 0 0 0 []), (116, eI (.iinc 5 1) 119 5 1), (119, eA (.goto (-107)) 122 12 0 0 0 []), (122, eA (.iload_n 3) 123 3 0 0 0 []), (123, eA (.iload_n 1) 124 1 0 0 0 []), (124, e0 .imul 125), (125, eA (.iload 4) 127 4 0 0 0 []), (127, e0 .iadd 128), (128, e0 .ireturn 129)]
def k_R_grid : List (Nat × En) := [(0, eA (.iload_n 1) 1 1 0 0 0 []), (1, eA (.invokestatic 311) 4 160 1 0 0 [1217, 1218]), (4, eA (.ifCond .eq 10) 7 14 0 0 0 []), (7, eA (.aload_n 0) 8 0 0 0 0 []), (8, eA (.getfield 208) 11 12 29 0 0 [900]), (11, eA (.ifCond .ne 5) 14 16 0 0 0 []), (14, eC (.iconst (-1)) 15 (-1)), (15, e0 .ireturn 16), (16, eA (.aload_n 0) 17 0 0 0 0 []), (17, eA (.iload_n 1) 18 1 0 0 0 []), (18, eA (.invokevirtual 314) 21 162 2 0 12 [1222, 1224, 53]), (21, eA (.ifCond .ne 6) 24 27 0 0 0 []), (24, eC (.bipush (-2)) 26 (-2)), (26, e0 .ireturn 27), (27, eA (.aload_n 0) 28 0 0 0 0 []), (28, eA (.iload_n 1) 29 1 0 0 0 []), (29, eA (.putfield 217) 32 12 44 0 0 [915]), (32, eA (.aload_n 0) 33 0 0 0 0 []), (33, eC (.iconst 0) 34 0), (34, eA (.putfield 317) 37 12 45 0 0 [916]), (37, eA (.aload_n 0) 38 0 0 0 0 []), (38, eC (.iconst 0) 39 0), (39, eA (.putfield 320) 42 12 46 0 0 [917]), (42, eC (.iconst 0) 43 0), (43, eA (.istore_n 2) 44 2 0 0 0 []), (44, eA (.iload_n 2) 45 2 0 0 0 []), (45, eA (.iload_n 1) 46 1 0 0 0 []), (46, eA (.iload_n 1) 47 1 0 0 0 []), (47, e0 .imul 48), (48, eA (.if_icmp .ge 16) 51 64 0 0 0 []), (51, eA (.aload_n 0) 52 0 0 0 0 []), (52, eA (.getfield 78) 55 12 49 0 0 [920]), (55, eA (.iload_n 2) 56 2 0 0 0 []), (56, eC (.iconst 0) 57 0), (57, e0 .bastore 58), (58, eI (.iinc 2 1) 61 2 1), (61, eA (.goto (-17)) 64 44 0 0 0 []), (64, eC (.iconst 0) 65 0), (65, eA (.istore_n 2) 66 2 0 0 0 []), (66, eC (.iconst 0) 67 0), (67, eA (.istore_n 3) 68 3 0 0 0 []), (68, eA (.iload_n 3) 69 3 0 0 0 []), (69, eA (.iload_n 1) 70 1 0 0 0 []), (70, eA (.iload_n 1) 71 1 0 0 0 []), (71, e0 .imul 72), (72, eA (.if_icmp .ge 101) 75 173 0 0 0 []), (75, eA (.aload_n 0) 76 0 0 0 0 []), (76, eA (.getfield 78) 79 12 49 0 0 [920]), (79, eA (.iload_n 3) 80 3 0 0 0 []), (80, e0 .baload 81), (81, eA (.ifCond .ne 86) 84 167 0 0 0 []), (84, eC (.iconst 0) 85 0), (85, eA (.istore 4) 87 4 0 0 0 []), (87, eA (.iload_n 3) 88 3 0 0 0 []), (88, eA (.istore 5) 90 5 0 0 0 []), (90, eA (.aload_n 0) 91 0 0 0 0 []), (91, eA (.getfield 78) 94 12 49 0 0 [920]), (94, eA (.iload 5) 96 5 0 0 0 []), (96, e0 .baload 97), (97, eA (.ifCond .ne 26) 100 123 0 0 0 []), (100, eA (.aload_n 0) 101 0 0 0 0 []), (101, eA (.getfield 78) 104 12 49 0 0 [920]), (104, eA (.iload 5) 106 5 0 0 0 []), (106, eC (.iconst 1) 107 1), (107, e0 .bastore 108), (108, eI (.iinc 4 1) 111 4 1), (111, eA (.aload_n 0) 112 0 0 0 0 []), (112, eA (.iload_n 1) 113 1 0 0 0 []), (113, eA (.iload 5) 115 5 0 0 0 []), (115, eA (.invokevirtual 323) 118 163 3 0 12 [1229, 1231, 54]), (118, eA (.istore 5) 120 5 0 0 0 []), (120, eA (.goto (-30)) 123 90 0 0 0 []), (123, eA (.aload_n 0) 124 0 0 0 0 []), (124, e0 .dup 125), (125, eA (.getfield 317) 128 12 45 0 0 [916]), (128, eC (.iconst 1) 129 1), (129, e0 .iadd 130), (130, eA (.putfield 317) 133 12 45 0 0 [916]), (133, eA (.iload_n 2) 134 2 0 0 0 []), (134, eA (.iload 4) 136 4 0 0 0 []), (136, eC (.iconst 1) 137 1), (137, eA (.if_icmp .ne 7) 140 144 0 0 0 []), (140, eC (.iconst 1) 141 1), (141, eA (.goto 4) 144 145 0 0 0 []), (144, eC (.iconst 0) 145 0), (145, e0 .iadd 146), (146, eA (.istore_n 2) 147 2 0 0 0 []), (147, eA (.iload 4) 149 4 0 0 0 []), (149, eA (.aload_n 0) 150 0 0 0 0 []), (150, eA (.getfield 320) 153 12 46 0 0 [917]), (153, eA (.if_icmp .le 14) 156 167 0 0 0 []), (156, eA (.aload_n 0) 157 0 0 0 0 []), (157, eA (.iload 4) 159 4 0 0 0 []), (159, eA (.putfield 320) 162 12 46 0 0 [917]), (162, eA (.aload_n 0) 163 0 0 0 0 []), (163, eA (.iload_n 3) 164 3 0 0 0 []), (164, eA (.putfield 326) 167 12 47 0 0 [918]), (167, eI (.iinc 3 1) 170 3 1), (170, eA (.goto (-102)) 173 68 0 0 0 []), (173, eA (.iload_n 2) 174 2 0 0 0 []), (174, e0 .ireturn 175)]
def k_R_rows : List (Nat × En) := [(0, eA (.iload_n 1) 1 1 0 0 0 []), (1, e0 .i2l 2), (2, eZ (.lconst 0) 3 0 []), (3, eZ (.ldc2_w 303) 6 3 [1220]), (6, eA (.invokestatic 87) 9 116 3 0 0 [1028, 1029]), (9, eA (.ifCond .ne 5) 12 14 0 0 0 []), (12, eC (.iconst (-1)) 13 (-1)), (13, e0 .ireturn 14), (14, eA (.aload_n 0) 15 0 0 0 0 []), (15, eA (.getfield 217) 18 12 44 0 0 [915]), (18, eA (.ifCond .ne 6) 21 24 0 0 0 []), (21, eC (.bipush (-4)) 23 (-4)), (23, e0 .ireturn 24), (24, eA (.iload_n 1) 25 1 0 0 0 []), (25, eA (.ifCond .ne 10) 28 35 0 0 0 []), (28, eA (.aload_n 0) 29 0 0 0 0 []), (29, eA (.getfield 217) 32 12 44 0 0 [915]), (32, eA (.goto 31) 35 63 0 0 0 []), (35, eA (.iload_n 1) 36 1 0 0 0 []), (36, eC (.iconst 1) 37 1), (37, eA (.if_icmp .ne 10) 40 47 0 0 0 []), (40, eA (.aload_n 0) 41 0 0 0 0 []), (41, eA (.getfield 317) 44 12 45 0 0 [916]), (44, eA (.goto 19) 47 63 0 0 0 []), (47, eA (.iload_n 1) 48 1 0 0 0 []), (48, eC (.iconst 2) 49 2), (49, eA (.if_icmp .ne 10) 52 59 0 0 0 []), (52, eA (.aload_n 0) 53 0 0 0 0 []), (53, eA (.getfield 320) 56 12 46 0 0 [917]), (56, eA (.goto 7) 59 63 0 0 0 []), (59, eA (.aload_n 0) 60 0 0 0 0 []), (60, eA (.getfield 326) 63 12 47 0 0 [918]), (63, e0 .ireturn 64)]
def k_R_after : List (Nat × En) := [(0, eA (.iload_n 1) 1 1 0 0 0 []), (1, eA (.invokestatic 311) 4 160 1 0 0 [1217, 1218]), (4, eA (.ifCond .eq 49) 7 53 0 0 0 []), (7, eA (.aload_n 0) 8 0 0 0 0 []), (8, eA (.getfield 208) 11 12 29 0 0 [900]), (11, eA (.ifCond .eq 42) 14 53 0 0 0 []), (14, eA (.iload_n 2) 15 2 0 0 0 []), (15, e0 .i2l 16), (16, eZ (.lconst 0) 17 0 []), (17, eA (.iload_n 1) 18 1 0 0 0 []), (18, eC (.iconst 1) 19 1), (19, e0 .isub 20), (20, e0 .i2l 21), (21, eA (.invokestatic 87) 24 116 3 0 0 [1028, 1029]), (24, eA (.ifCond .eq 29) 27 53 0 0 0 []), (27, eA (.iload_n 3) 28 3 0 0 0 []), (28, e0 .i2l 29), (29, eZ (.lconst 0) 30 0 []), (30, eA (.iload_n 1) 31 1 0 0 0 []), (31, eC (.iconst 1) 32 1), (32, e0 .isub 33), (33, e0 .i2l 34), (34, eA (.invokestatic 87) 37 116 3 0 0 [1028, 1029]), (37, eA (.ifCond .eq 16) 40 53 0 0 0 []), (40, eA (.iload 4) 42 4 0 0 0 []), (42, e0 .i2l 43), (43, eZ (.lconst 0) 44 0 []), (44, eZ (.ldc2_w 329) 47 1000 [1241]), (47, eA (.invokestatic 87) 50 116 3 0 0 [1028, 1029]), (50, eA (.ifCond .ne 5) 53 55 0 0 0 []), (53, eC (.iconst (-1)) 54 (-1)), (54, e0 .ireturn 55), (55, eA (.aload_n 0) 56 0 0 0 0 []), (56, eA (.iload_n 1) 57 1 0 0 0 []), (57, eA (.invokevirtual 314) 60 162 2 0 12 [1222, 1224, 53]), (60, eA (.ifCond .ne 6) 63 66 0 0 0 []), (63, eC (.bipush (-2)) 65 (-2)), (65, e0 .ireturn 66), (66, eA (.iload_n 2) 67 2 0 0 0 []), (67, eA (.iload_n 1) 68 1 0 0 0 []), (68, e0 .imul 69), (69, eA (.iload_n 3) 70 3 0 0 0 []), (70, e0 .iadd 71), (71, eA (.istore 5) 73 5 0 0 0 []), (73, eC (.iconst 0) 74 0), (74, eA (.istore 6) 76 6 0 0 0 []), (76, eA (.iload 6) 78 6 0 0 0 []), (78, eA (.iload 4) 80 4 0 0 0 []), (80, eA (.if_icmp .ge 18) 83 98 0 0 0 []), (83, eA (.aload_n 0) 84 0 0 0 0 []), (84, eA (.iload_n 1) 85 1 0 0 0 []), (85, eA (.iload 5) 87 5 0 0 0 []), (87, eA (.invokevirtual 323) 90 163 3 0 12 [1229, 1231, 54]), (90, eA (.istore 5) 92 5 0 0 0 []), (92, eI (.iinc 6 1) 95 6 1), (95, eA (.goto (-19)) 98 76 0 0 0 []), (98, eA (.iload 5) 100 5 0 0 0 []), (100, e0 .ireturn 101)]
def k_R_count : List (Nat × En) := [(0, eA (.iload_n 1) 1 1 0 0 0 []), (1, eS (.tableswitch 60 0 4 #[35, 40, 45, 50, 55]) 36 61 [(0, 36), (1, 41), (2, 46), (3, 51), (4, 56)]), (36, eA (.aload_n 0) 37 0 0 0 0 []), (37, eA (.getfield 91) 40 12 1 0 0 [872]), (40, e0 .ireturn 41), (41, eA (.aload_n 0) 42 0 0 0 0 []), (42, eA (.getfield 208) 45 12 29 0 0 [900]), (45, e0 .ireturn 46), (46, eA (.aload_n 0) 47 0 0 0 0 []), (47, eA (.getfield 211) 50 12 30 0 0 [901]), (50, e0 .ireturn 51), (51, eA (.aload_n 0) 52 0 0 0 0 []), (52, eA (.getfield 214) 55 12 31 0 0 [902]), (55, e0 .ireturn 56), (56, eA (.aload_n 0) 57 0 0 0 0 []), (57, eA (.getfield 284) 60 12 42 0 0 [913]), (60, e0 .ireturn 61), (61, eC (.iconst (-1)) 62 (-1)), (62, e0 .ireturn 63)]
def k_Jl_compare : List (Nat × En) := [(0, eA (.lload_n 0) 1 0 0 0 0 []), (1, eA (.lload_n 2) 2 2 0 0 0 []), (2, e0 .lcmp 3), (3, eA (.ifCond .ge 7) 6 10 0 0 0 []), (6, eC (.iconst (-1)) 7 (-1)), (7, eA (.goto 14) 10 21 0 0 0 []), (10, eA (.lload_n 0) 11 0 0 0 0 []), (11, eA (.lload_n 2) 12 2 0 0 0 []), (12, e0 .lcmp 13), (13, eA (.ifCond .ne 7) 16 20 0 0 0 []), (16, eC (.iconst 0) 17 0), (17, eA (.goto 4) 20 21 0 0 0 []), (20, eC (.iconst 1) 21 1), (21, e0 .ireturn 22)]
def k_Jm_floorMod : List (Nat × En) := [(0, eA (.iload_n 0) 1 0 0 0 0 []), (1, eA (.iload_n 1) 2 1 0 0 0 []), (2, e0 .irem 3), (3, eA (.istore_n 2) 4 2 0 0 0 []), (4, eA (.iload_n 0) 5 0 0 0 0 []), (5, eA (.iload_n 1) 6 1 0 0 0 []), (6, e0 .ixor 7), (7, eA (.ifCond .ge 11) 10 18 0 0 0 []), (10, eA (.iload_n 2) 11 2 0 0 0 []), (11, eA (.ifCond .eq 7) 14 18 0 0 0 []), (14, eA (.iload_n 2) 15 2 0 0 0 []), (15, eA (.iload_n 1) 16 1 0 0 0 []), (16, e0 .iadd 17), (17, e0 .ireturn 18), (18, eA (.iload_n 2) 19 2 0 0 0 []), (19, e0 .ireturn 20)]
def k_Jm_abs : List (Nat × En) := [(0, eA (.lload_n 0) 1 0 0 0 0 []), (1, eZ (.lconst 0) 2 0 []), (2, e0 .lcmp 3), (3, eA (.ifCond .ge 8) 6 11 0 0 0 []), (6, eA (.lload_n 0) 7 0 0 0 0 []), (7, e0 .lneg 8), (8, eA (.goto 4) 11 12 0 0 0 []), (11, eA (.lload_n 0) 12 0 0 0 0 []), (12, e0 .lreturn 13)]
def k_Jm_min : List (Nat × En) := [(0, eA (.iload_n 0) 1 0 0 0 0 []), (1, eA (.iload_n 1) 2 1 0 0 0 []), (2, eA (.if_icmp .gt 7) 5 9 0 0 0 []), (5, eA (.iload_n 0) 6 0 0 0 0 []), (6, eA (.goto 4) 9 10 0 0 0 []), (9, eA (.iload_n 1) 10 1 0 0 0 []), (10, e0 .ireturn 11)]
def k_Law_law : List (Nat × En) := [(0, eA (.new 7) 3 11 0 0 0 [71, 72, 56]), (3, e0 .dup 4), (4, eA (.invokespecial 9) 7 95 1 0 11 [73, 74]), (7, eA (.astore_n 1) 8 1 0 0 0 []), (8, eA (.new 10) 11 12 0 0 0 [865, 866, 66]), (11, e0 .dup 12), (12, eA (.invokespecial 12) 15 115 1 0 12 [867, 868]), (15, eA (.astore_n 2) 16 2 0 0 0 []), (16, eC (.iconst 0) 17 0), (17, eA (.istore_n 3) 18 3 0 0 0 []), (18, eA (.iload_n 3) 19 3 0 0 0 []), (19, eA (.aload_n 0) 20 0 0 0 0 []), (20, e0 .arraylength 21), (21, eC (.iconst 5) 22 5), (22, e0 .isub 23), (23, eA (.if_icmp .gt 610) 26 633 0 0 0 []), (26, eA (.aload_n 0) 27 0 0 0 0 []), (27, eA (.iload_n 3) 28 3 0 0 0 []), (28, e0 .iaload 29), (29, eC (.bipush 31) 31 31), (31, e0 .iand 32), (32, eS (.tableswitch 595 0 16 #[84, 147, 160, 173, 206, 249, 282, 305, 328, 341, 364, 397, 440, 473, 496, 519, 572]) 116 627 [(0, 116), (1, 179), (2, 192), (3, 205), (4, 238), (5, 281), (6, 314), (7, 337), (8, 360), (9, 373), (10, 396), (11, 429), (12, 472), (13, 505), (14, 528), (15, 551), (16, 604)]), (116, eA (.aload_n 1) 117 1 0 0 0 []), (117, eA (.aload_n 0) 118 0 0 0 0 []), (118, eA (.iload_n 3) 119 3 0 0 0 []), (119, eC (.iconst 1) 120 1), (120, e0 .iadd 121), (121, e0 .iaload 122), (122, eA (.aload_n 0) 123 0 0 0 0 []), (123, eA (.iload_n 3) 124 3 0 0 0 []), (124, eC (.iconst 2) 125 2), (125, e0 .iadd 126), (126, e0 .iaload 127), (127, e0 .i2l 128), (128, eC (.bipush 32) 130 32), (130, e0 .lshl 131), (131, eA (.aload_n 0) 132 0 0 0 0 []), (132, eA (.iload_n 3) 133 3 0 0 0 []), (133, eC (.iconst 3) 134 3), (134, e0 .iadd 135), (135, e0 .iaload 136), (136, e0 .i2l 137), (137, eZ (.ldc2_w 13) 140 4294967295 [1246]), (140, e0 .land 141), (141, e0 .lor 142), (142, eA (.invokevirtual 15) 145 96 3 0 11 [381, 382, 383]), (145, eA (.aload_n 2) 146 2 0 0 0 []), (146, eA (.aload_n 0) 147 0 0 0 0 []), (147, eA (.iload_n 3) 148 3 0 0 0 []), (148, eC (.iconst 1) 149 1), (149, e0 .iadd 150), (150, e0 .iaload 151), (151, eA (.aload_n 0) 152 0 0 0 0 []), (152, eA (.iload_n 3) 153 3 0 0 0 []), (153, eC (.iconst 2) 154 2), (154, e0 .iadd 155), (155, e0 .iaload 156), (156, e0 .i2l 157), (157, eC (.bipush 32) 159 32), (159, e0 .lshl 160), (160, eA (.aload_n 0) 161 0 0 0 0 []), (161, eA (.iload_n 3) 162 3 0 0 0 []), (162, eC (.iconst 3) 163 3), (163, e0 .iadd 164), (164, e0 .iaload 165), (165, e0 .i2l 166), (166, eZ (.ldc2_w 13) 169 4294967295 [1246]), (169, e0 .land 170), (170, e0 .lor 171), (171, eA (.invokevirtual 19) 174 117 3 0 12 [1023, 1024, 1025]), (174, eA (.if_icmp .eq 453) 177 627 0 0 0 []), (177, eC (.iconst 0) 178 0), (178, e0 .ireturn 179), (179, eA (.aload_n 1) 180 1 0 0 0 []), (180, eA (.invokevirtual 20) 183 97 1 0 11 [389, 390, 391]), (183, eA (.aload_n 2) 184 2 0 0 0 []), (184, eA (.invokevirtual 24) 187 130 1 0 12 [1032, 1033, 1034]), (187, eA (.if_icmp .eq 440) 190 627 0 0 0 []), (190, eC (.iconst 0) 191 0), (191, e0 .ireturn 192), (192, eA (.aload_n 1) 193 1 0 0 0 []), (193, eA (.invokevirtual 25) 196 98 1 0 11 [600, 601, 602]), (196, eA (.aload_n 2) 197 2 0 0 0 []), (197, eA (.invokevirtual 28) 200 131 1 0 12 [1095, 1096, 1097]), (200, eA (.if_icmp .eq 427) 203 627 0 0 0 []), (203, eC (.iconst 0) 204 0), (204, e0 .ireturn 205), (205, eA (.aload_n 1) 206 1 0 0 0 []), (206, eA (.aload_n 0) 207 0 0 0 0 []), (207, eA (.iload_n 3) 208 3 0 0 0 []), (208, eC (.iconst 1) 209 1), (209, e0 .iadd 210), (210, e0 .iaload 211), (211, eA (.aload_n 0) 212 0 0 0 0 []), (212, eA (.iload_n 3) 213 3 0 0 0 []), (213, eC (.iconst 2) 214 2), (214, e0 .iadd 215), (215, e0 .iaload 216), (216, eA (.invokevirtual 29) 219 99 3 0 11 [604, 605, 606]), (219, eA (.aload_n 2) 220 2 0 0 0 []), (220, eA (.aload_n 0) 221 0 0 0 0 []), (221, eA (.iload_n 3) 222 3 0 0 0 []), (222, eC (.iconst 1) 223 1), (223, e0 .iadd 224), (224, e0 .iaload 225), (225, eA (.aload_n 0) 226 0 0 0 0 []), (226, eA (.iload_n 3) 227 3 0 0 0 []), (227, eC (.iconst 2) 228 2), (228, e0 .iadd 229), (229, e0 .iaload 230), (230, eA (.invokevirtual 33) 233 135 3 0 12 [1099, 1100, 1101]), (233, eA (.if_icmp .eq 394) 236 627 0 0 0 []), (236, eC (.iconst 0) 237 0), (237, e0 .ireturn 238), (238, eA (.aload_n 1) 239 1 0 0 0 []), (239, eA (.aload_n 0) 240 0 0 0 0 []), (240, eA (.iload_n 3) 241 3 0 0 0 []), (241, eC (.iconst 1) 242 1), (242, e0 .iadd 243), (243, e0 .iaload 244), (244, eA (.aload_n 0) 245 0 0 0 0 []), (245, eA (.iload_n 3) 246 3 0 0 0 []), (246, eC (.iconst 2) 247 2), (247, e0 .iadd 248), (248, e0 .iaload 249), (249, eA (.aload_n 0) 250 0 0 0 0 []), (250, eA (.iload_n 3) 251 3 0 0 0 []), (251, eC (.iconst 3) 252 3), (252, e0 .iadd 253), (253, e0 .iaload 254), (254, eA (.invokevirtual 34) 257 100 4 0 11 [620, 621, 622]), (257, eA (.aload_n 2) 258 2 0 0 0 []), (258, eA (.aload_n 0) 259 0 0 0 0 []), (259, eA (.iload_n 3) 260 3 0 0 0 []), (260, eC (.iconst 1) 261 1), (261, e0 .iadd 262), (262, e0 .iaload 263), (263, eA (.aload_n 0) 264 0 0 0 0 []), (264, eA (.iload_n 3) 265 3 0 0 0 []), (265, eC (.iconst 2) 266 2), (266, e0 .iadd 267), (267, e0 .iaload 268), (268, eA (.aload_n 0) 269 0 0 0 0 []), (269, eA (.iload_n 3) 270 3 0 0 0 []), (270, eC (.iconst 3) 271 3), (271, e0 .iadd 272), (272, e0 .iaload 273), (273, eA (.invokevirtual 38) 276 136 4 0 12 [1112, 1113, 1114]), (276, eA (.if_icmp .eq 351) 279 627 0 0 0 []), (279, eC (.iconst 0) 280 0), (280, e0 .ireturn 281), (281, eA (.aload_n 1) 282 1 0 0 0 []), (282, eA (.aload_n 0) 283 0 0 0 0 []), (283, eA (.iload_n 3) 284 3 0 0 0 []), (284, eC (.iconst 1) 285 1), (285, e0 .iadd 286), (286, e0 .iaload 287), (287, eA (.aload_n 0) 288 0 0 0 0 []), (288, eA (.iload_n 3) 289 3 0 0 0 []), (289, eC (.iconst 2) 290 2), (290, e0 .iadd 291), (291, e0 .iaload 292), (292, eA (.invokevirtual 39) 295 101 3 0 11 [629, 630, 631]), (295, eA (.aload_n 2) 296 2 0 0 0 []), (296, eA (.aload_n 0) 297 0 0 0 0 []), (297, eA (.iload_n 3) 298 3 0 0 0 []), (298, eC (.iconst 1) 299 1), (299, e0 .iadd 300), (300, e0 .iaload 301), (301, eA (.aload_n 0) 302 0 0 0 0 []), (302, eA (.iload_n 3) 303 3 0 0 0 []), (303, eC (.iconst 2) 304 2), (304, e0 .iadd 305), (305, e0 .iaload 306), (306, eA (.invokevirtual 42) 309 149 3 0 12 [1118, 1119, 1120]), (309, eA (.if_icmp .eq 318) 312 627 0 0 0 []), (312, eC (.iconst 0) 313 0), (313, e0 .ireturn 314), (314, eA (.aload_n 1) 315 1 0 0 0 []), (315, eA (.aload_n 0) 316 0 0 0 0 []), (316, eA (.iload_n 3) 317 3 0 0 0 []), (317, eC (.iconst 1) 318 1), (318, e0 .iadd 319), (319, e0 .iaload 320), (320, eA (.invokevirtual 43) 323 102 2 0 11 [698, 699, 700]), (323, eA (.aload_n 2) 324 2 0 0 0 []), (324, eA (.aload_n 0) 325 0 0 0 0 []), (325, eA (.iload_n 3) 326 3 0 0 0 []), (326, eC (.iconst 1) 327 1), (327, e0 .iadd 328), (328, e0 .iaload 329), (329, eA (.invokevirtual 47) 332 152 2 0 12 [1165, 1166, 1167]), (332, eA (.if_icmp .eq 295) 335 627 0 0 0 []), (335, eC (.iconst 0) 336 0), (336, e0 .ireturn 337), (337, eA (.aload_n 1) 338 1 0 0 0 []), (338, eA (.aload_n 0) 339 0 0 0 0 []), (339, eA (.iload_n 3) 340 3 0 0 0 []), (340, eC (.iconst 1) 341 1), (341, e0 .iadd 342), (342, e0 .iaload 343), (343, eA (.invokevirtual 48) 346 103 2 0 11 [716, 717, 718]), (346, eA (.aload_n 2) 347 2 0 0 0 []), (347, eA (.aload_n 0) 348 0 0 0 0 []), (348, eA (.iload_n 3) 349 3 0 0 0 []), (349, eC (.iconst 1) 350 1), (350, e0 .iadd 351), (351, e0 .iaload 352), (352, eA (.invokevirtual 51) 355 153 2 0 12 [1173, 1174, 1175]), (355, eA (.if_icmp .eq 272) 358 627 0 0 0 []), (358, eC (.iconst 0) 359 0), (359, e0 .ireturn 360), (360, eA (.aload_n 1) 361 1 0 0 0 []), (361, eA (.invokevirtual 52) 364 104 1 0 11 [735, 736, 737]), (364, eA (.aload_n 2) 365 2 0 0 0 []), (365, eA (.invokevirtual 55) 368 154 1 0 12 [1177, 1178, 1179]), (368, eA (.if_icmp .eq 259) 371 627 0 0 0 []), (371, eC (.iconst 0) 372 0), (372, e0 .ireturn 373), (373, eA (.aload_n 1) 374 1 0 0 0 []), (374, eA (.aload_n 0) 375 0 0 0 0 []), (375, eA (.iload_n 3) 376 3 0 0 0 []), (376, eC (.iconst 1) 377 1), (377, e0 .iadd 378), (378, e0 .iaload 379), (379, eA (.invokevirtual 56) 382 105 2 0 11 [744, 745, 746]), (382, eA (.aload_n 2) 383 2 0 0 0 []), (383, eA (.aload_n 0) 384 0 0 0 0 []), (384, eA (.iload_n 3) 385 3 0 0 0 []), (385, eC (.iconst 1) 386 1), (386, e0 .iadd 387), (387, e0 .iaload 388), (388, eA (.invokevirtual 59) 391 156 2 0 12 [1181, 1182, 1183]), (391, eA (.if_icmp .eq 236) 394 627 0 0 0 []), (394, eC (.iconst 0) 395 0), (395, e0 .ireturn 396), (396, eA (.aload_n 1) 397 1 0 0 0 []), (397, eA (.aload_n 0) 398 0 0 0 0 []), (398, eA (.iload_n 3) 399 3 0 0 0 []), (399, eC (.iconst 1) 400 1), (400, e0 .iadd 401), (401, e0 .iaload 402), (402, eA (.aload_n 0) 403 0 0 0 0 []), (403, eA (.iload_n 3) 404 3 0 0 0 []), (404, eC (.iconst 2) 405 2), (405, e0 .iadd 406), (406, e0 .iaload 407), (407, eA (.invokevirtual 60) 410 106 3 0 11 [772, 773, 774]), (410, eA (.aload_n 2) 411 2 0 0 0 []), (411, eA (.aload_n 0) 412 0 0 0 0 []), (412, eA (.iload_n 3) 413 3 0 0 0 []), (413, eC (.iconst 1) 414 1), (414, e0 .iadd 415), (415, e0 .iaload 416), (416, eA (.aload_n 0) 417 0 0 0 0 []), (417, eA (.iload_n 3) 418 3 0 0 0 []), (418, eC (.iconst 2) 419 2), (419, e0 .iadd 420), (420, e0 .iaload 421), (421, eA (.invokevirtual 63) 424 157 3 0 12 [1197, 1198, 1199]), (424, eA (.if_icmp .eq 203) 427 627 0 0 0 []), (427, eC (.iconst 0) 428 0), (428, e0 .ireturn 429), (429, eA (.aload_n 1) 430 1 0 0 0 []), (430, eA (.aload_n 0) 431 0 0 0 0 []), (431, eA (.iload_n 3) 432 3 0 0 0 []), (432, eC (.iconst 1) 433 1), (433, e0 .iadd 434), (434, e0 .iaload 435), (435, eA (.aload_n 0) 436 0 0 0 0 []), (436, eA (.iload_n 3) 437 3 0 0 0 []), (437, eC (.iconst 2) 438 2), (438, e0 .iadd 439), (439, e0 .iaload 440), (440, eA (.aload_n 0) 441 0 0 0 0 []), (441, eA (.iload_n 3) 442 3 0 0 0 []), (442, eC (.iconst 3) 443 3), (443, e0 .iadd 444), (444, e0 .iaload 445), (445, eA (.invokevirtual 64) 448 107 4 0 11 [788, 789, 790]), (448, eA (.aload_n 2) 449 2 0 0 0 []), (449, eA (.aload_n 0) 450 0 0 0 0 []), (450, eA (.iload_n 3) 451 3 0 0 0 []), (451, eC (.iconst 1) 452 1), (452, e0 .iadd 453), (453, e0 .iaload 454), (454, eA (.aload_n 0) 455 0 0 0 0 []), (455, eA (.iload_n 3) 456 3 0 0 0 []), (456, eC (.iconst 2) 457 2), (457, e0 .iadd 458), (458, e0 .iaload 459), (459, eA (.aload_n 0) 460 0 0 0 0 []), (460, eA (.iload_n 3) 461 3 0 0 0 []), (461, eC (.iconst 3) 462 3), (462, e0 .iadd 463), (463, e0 .iaload 464), (464, eA (.invokevirtual 67) 467 158 4 0 12 [1205, 1206, 1207]), (467, eA (.if_icmp .eq 160) 470 627 0 0 0 []), (470, eC (.iconst 0) 471 0), (471, e0 .ireturn 472), (472, eA (.aload_n 1) 473 1 0 0 0 []), (473, eA (.aload_n 0) 474 0 0 0 0 []), (474, eA (.iload_n 3) 475 3 0 0 0 []), (475, eC (.iconst 1) 476 1), (476, e0 .iadd 477), (477, e0 .iaload 478), (478, eA (.aload_n 0) 479 0 0 0 0 []), (479, eA (.iload_n 3) 480 3 0 0 0 []), (480, eC (.iconst 2) 481 2), (481, e0 .iadd 482), (482, e0 .iaload 483), (483, eA (.invokevirtual 68) 486 108 3 0 11 [801, 802, 803]), (486, eA (.aload_n 2) 487 2 0 0 0 []), (487, eA (.aload_n 0) 488 0 0 0 0 []), (488, eA (.iload_n 3) 489 3 0 0 0 []), (489, eC (.iconst 1) 490 1), (490, e0 .iadd 491), (491, e0 .iaload 492), (492, eA (.aload_n 0) 493 0 0 0 0 []), (493, eA (.iload_n 3) 494 3 0 0 0 []), (494, eC (.iconst 2) 495 2), (495, e0 .iadd 496), (496, e0 .iaload 497), (497, eA (.invokevirtual 71) 500 159 3 0 12 [1209, 1210, 1211]), (500, eA (.if_icmp .eq 127) 503 627 0 0 0 []), (503, eC (.iconst 0) 504 0), (504, e0 .ireturn 505), (505, eA (.aload_n 1) 506 1 0 0 0 []), (506, eA (.aload_n 0) 507 0 0 0 0 []), (507, eA (.iload_n 3) 508 3 0 0 0 []), (508, eC (.iconst 1) 509 1), (509, e0 .iadd 510), (510, e0 .iaload 511), (511, eA (.invokevirtual 72) 514 109 2 0 11 [809, 810, 811]), (514, eA (.aload_n 2) 515 2 0 0 0 []), (515, eA (.aload_n 0) 516 0 0 0 0 []), (516, eA (.iload_n 3) 517 3 0 0 0 []), (517, eC (.iconst 1) 518 1), (518, e0 .iadd 519), (519, e0 .iaload 520), (520, eA (.invokevirtual 75) 523 164 2 0 12 [1213, 1214, 1215]), (523, eA (.if_icmp .eq 104) 526 627 0 0 0 []), (526, eC (.iconst 0) 527 0), (527, e0 .ireturn 528), (528, eA (.aload_n 1) 529 1 0 0 0 []), (529, eA (.aload_n 0) 530 0 0 0 0 []), (530, eA (.iload_n 3) 531 3 0 0 0 []), (531, eC (.iconst 1) 532 1), (532, e0 .iadd 533), (533, e0 .iaload 534), (534, eA (.invokevirtual 76) 537 110 2 0 11 [848, 849, 850]), (537, eA (.aload_n 2) 538 2 0 0 0 []), (538, eA (.aload_n 0) 539 0 0 0 0 []), (539, eA (.iload_n 3) 540 3 0 0 0 []), (540, eC (.iconst 1) 541 1), (541, e0 .iadd 542), (542, e0 .iaload 543), (543, eA (.invokevirtual 79) 546 165 2 0 12 [1233, 1234, 1235]), (546, eA (.if_icmp .eq 81) 549 627 0 0 0 []), (549, eC (.iconst 0) 550 0), (550, e0 .ireturn 551), (551, eA (.aload_n 1) 552 1 0 0 0 []), (552, eA (.aload_n 0) 553 0 0 0 0 []), (553, eA (.iload_n 3) 554 3 0 0 0 []), (554, eC (.iconst 1) 555 1), (555, e0 .iadd 556), (556, e0 .iaload 557), (557, eA (.aload_n 0) 558 0 0 0 0 []), (558, eA (.iload_n 3) 559 3 0 0 0 []), (559, eC (.iconst 2) 560 2), (560, e0 .iadd 561), (561, e0 .iaload 562), (562, eA (.aload_n 0) 563 0 0 0 0 []), (563, eA (.iload_n 3) 564 3 0 0 0 []), (564, eC (.iconst 3) 565 3), (565, e0 .iadd 566), (566, e0 .iaload 567), (567, eA (.aload_n 0) 568 0 0 0 0 []), (568, eA (.iload_n 3) 569 3 0 0 0 []), (569, eC (.iconst 4) 570 4), (570, e0 .iadd 571), (571, e0 .iaload 572), (572, eA (.invokevirtual 80) 575 111 5 0 11 [856, 857, 858]), (575, eA (.aload_n 2) 576 2 0 0 0 []), (576, eA (.aload_n 0) 577 0 0 0 0 []), (577, eA (.iload_n 3) 578 3 0 0 0 []), (578, eC (.iconst 1) 579 1), (579, e0 .iadd 580), (580, e0 .iaload 581), (581, eA (.aload_n 0) 582 0 0 0 0 []), (582, eA (.iload_n 3) 583 3 0 0 0 []), (583, eC (.iconst 2) 584 2), (584, e0 .iadd 585), (585, e0 .iaload 586), (586, eA (.aload_n 0) 587 0 0 0 0 []), (587, eA (.iload_n 3) 588 3 0 0 0 []), (588, eC (.iconst 3) 589 3), (589, e0 .iadd 590), (590, e0 .iaload 591), (591, eA (.aload_n 0) 592 0 0 0 0 []), (592, eA (.iload_n 3) 593 3 0 0 0 []), (593, eC (.iconst 4) 594 4), (594, e0 .iadd 595), (595, e0 .iaload 596), (596, eA (.invokevirtual 84) 599 166 5 0 12 [1237, 1238, 1239]), (599, eA (.if_icmp .eq 28) 602 627 0 0 0 []), (602, eC (.iconst 0) 603 0), (603, e0 .ireturn 604), (604, eA (.aload_n 1) 605 1 0 0 0 []), (605, eA (.aload_n 0) 606 0 0 0 0 []), (606, eA (.iload_n 3) 607 3 0 0 0 []), (607, eC (.iconst 1) 608 1), (608, e0 .iadd 609), (609, e0 .iaload 610), (610, eA (.invokevirtual 85) 613 112 2 0 11 [861, 862, 863]), (613, eA (.aload_n 2) 614 2 0 0 0 []), (614, eA (.aload_n 0) 615 0 0 0 0 []), (615, eA (.iload_n 3) 616 3 0 0 0 []), (616, eC (.iconst 1) 617 1), (617, e0 .iadd 618), (618, e0 .iaload 619), (619, eA (.invokevirtual 88) 622 167 2 0 12 [1242, 1243, 1244]), (622, eA (.if_icmp .eq 5) 625 627 0 0 0 []), (625, eC (.iconst 0) 626 0), (626, e0 .ireturn 627), (627, eI (.iinc 3 5) 630 3 5), (630, eA (.goto (-612)) 633 18 0 0 0 []), (633, eC (.iconst 1) 634 1), (634, e0 .ireturn 635)]
def cdL : List (List (Nat × En)) := [k_Fr_init, k_Fr_put, k_Fr_copy, k_Fr_negate, k_Fr_isZero, k_Fr_compareToWhole, k_Fr_side, k_La_init, k_La_forget, k_La_prepare, k_La_inverse, k_La_next, k_La_followAll, k_La_follow, k_La_noteCycle, k_La_fact, k_Li_init, k_Mo_init, k_Mo_put, k_Op_init, k_Op_isBig, k_Op_onlyKick, k_Op_lead, k_Op_giveKick, k_Op_beginTable, k_Op_reckonTable, k_Op_stability, k_Op_roundsUntilBack, k_Op_reckonMiddleWidth, k_Op_closeWay, k_Op_solveClosed, k_Op_closeBump, k_Op_hasTold, k_Op_tell, k_Op_tellTable, k_Op_tellWidths, k_Op_tellWay, k_Op_tellWayX, k_Op_tellBump, k_Pa_init, k_Re_init, k_Re_findFault, k_Re_faultPlace, k_Re_lastLine, k_Re_take, k_Re_takeAlone, k_Re_takeLineName, k_Re_lineOf, k_Re_takeItem, k_Re_takeTimes, k_Re_takeToldName, k_Re_beginPart, k_Re_endPart, k_Re_takeMinusOrNumber, k_Re_takeAbove, k_Re_takeBelow, k_Re_takeOpen, k_Re_closes, k_Re_takeClose, k_Rk_init, k_Rk_begin, k_Rk_plus, k_Rk_minus, k_Rk_times, k_Rk_over, k_Rk_plusProduct, k_Rk_minusProduct, k_Rk_settle, k_Ri_init, k_Ri_hasPart, k_Ri_hasKick, k_Ri_hasLook, k_Ri_strengthAt, k_Ri_become, k_Ro_init, k_Ro_clear, k_Ro_add, k_Ro_addLine, k_Ro_repeat, k_Te_init, k_Te_append, k_Te_empty, k_Te_rewind, k_Te_advance, k_Te_signAt, k_Te_skipBlanks, k_Te_takeName, k_Te_takeNumber, k_Te_isName, k_Te_isKindLetter, k_Te_letterWorth, k_Te_isBlank, k_Te_isLetter, k_Te_isFigure, k_Te_standsAlone, k_C_init, k_C_feed, k_C_read, k_C_place, k_C_part, k_C_kick, k_C_table, k_C_round, k_C_widths, k_C_turns, k_C_way, k_C_answer, k_C_bump, k_C_number, k_C_grid, k_C_rows, k_C_after, k_C_count, k_C_isPrime, k_C_commonDivisor, k_R_init, k_R_in, k_R_feed, k_R_isLetter, k_R_isFigure, k_R_next, k_R_isSign, k_R_fails, k_R_adds, k_R_named, k_R_isOwn, k_R_figure, k_R_item, k_R_closes, k_R_line, k_R_read, k_R_place, k_R_isPart, k_R_ahead, k_R_partOf, k_R_part, k_R_kick, k_R_common, k_R_holds, k_R_product, k_R_sum, k_R_divided, k_R_lays, k_R_leads, k_R_leadsTable, k_R_leadsMote, k_R_starts, k_R_goes, k_R_tells, k_R_table, k_R_tables, k_R_kept, k_R_round, k_R_widths, k_R_turns, k_R_closed, k_R_way, k_R_answer, k_R_bump, k_R_number, k_R_isPrime, k_R_by, k_R_weighs, k_R_rounds, k_R_grid, k_R_rows, k_R_after, k_R_count, k_Jl_compare, k_Jm_floorMod, k_Jm_abs, k_Jm_min, k_Law_law]
def rtL : List Nat := [0, 0, 0, 0, 2, 1, 1, 0, 0, 2, 1, 1, 0, 1, 0, 1, 0, 0, 0, 0, 2, 25, 0, 0, 0, 0, 1, 1, 0, 1, 0, 1, 2, 0, 1, 1, 1, 1, 1, 0, 0, 1, 1, 6, 1, 1, 1, 6, 1, 1, 1, 1, 1, 1, 1, 1, 1, 2, 1, 0, 0, 0, 0, 0, 0, 0, 0, 0, 0, 2, 2, 2, 4, 0, 0, 0, 0, 0, 0, 0, 0, 0, 0, 0, 1, 0, 0, 0, 2, 2, 1, 2, 2, 2, 2, 0, 1, 1, 1, 1, 1, 1, 1, 1, 1, 1, 1, 1, 1, 1, 1, 1, 1, 2, 3, 0, 2, 1, 2, 2, 0, 2, 2, 0, 1, 2, 2, 2, 2, 2, 1, 1, 2, 1, 1, 1, 1, 3, 0, 0, 0, 0, 0, 0, 0, 0, 0, 0, 0, 1, 1, 1, 1, 1, 1, 1, 1, 1, 1, 1, 2, 1, 2, 1, 1, 1, 1, 1, 1, 1, 3, 1, 2]
def mlL : List Nat := [1, 7, 2, 1, 1, 3, 2, 1, 1, 6, 3, 6, 4, 6, 3, 2, 6, 1, 5, 2, 1, 3, 3, 5, 1, 6, 3, 1, 1, 5, 1, 5, 2, 2, 1, 1, 1, 1, 1, 3, 1, 3, 1, 1, 1, 3, 1, 4, 1, 1, 2, 2, 5, 1, 1, 1, 1, 1, 1, 1, 1, 3, 3, 3, 3, 4, 4, 8, 2, 2, 2, 2, 2, 3, 1, 1, 2, 3, 6, 1, 2, 1, 1, 2, 2, 1, 1, 1, 2, 1, 1, 1, 1, 1, 1, 1, 5, 2, 1, 3, 4, 3, 3, 3, 2, 3, 4, 5, 3, 2, 2, 7, 2, 2, 11, 1, 6, 5, 1, 1, 3, 2, 2, 8, 4, 2, 4, 3, 5, 5, 2, 1, 2, 5, 5, 3, 6, 10, 7, 9, 9, 9, 6, 7, 2, 9, 2, 4, 6, 3, 2, 5, 4, 2, 1, 12, 3, 4, 17, 3, 3, 3, 5, 6, 6, 2, 7, 2, 4, 3, 2, 2, 4]
def nthC : List (List (Nat × En)) → Nat → List (Nat × En)
  | [], _ => []
  | v :: _, 0 => v
  | _ :: r, n + 1 => nthC r n
def cdOf (mid : Nat) : List (Nat × En) := nthC cdL mid
def rtOf (mid : Nat) : Nat := nthN rtL mid
def mlOf (mid : Nat) : Nat := nthN mlL mid
/-- a call of method mid, at most d calls deep within it -/
def Cl (lay : Nat → Nat → Nat) : Nat → CLT
  | 0 => fun _ _ _ _ => False
  | d + 1 => fun mid args σ Q => match Nat.ble (catS args) (mlOf mid) with
    | true => Wp lay rtOf (Cl lay d) (cdOf mid) (rtOf mid) Q (0, ent0 (mlOf mid) args, [], σ)
    | false => False
theorem Cl_mono (lay : Nat → Nat → Nat) : ∀ d : Nat, Mono (Cl lay d)
  | 0 => fun _ _ _ _ _ _ h => absurd h id
  | d + 1 => fun mid args σ Q Q' hQ h => by
    unfold Cl at h ⊢
    cases hb : Nat.ble (catS args) (mlOf mid) with
    | true => rw [hb] at h; exact Wp.mono (Cl_mono lay d) hQ h
    | false => rw [hb] at h; exact h
end
section
def yL : List MethodName := [yX0_init, yX0_put, yX0_copy, yX0_negate, yX0_isZero, yX0_compareToWhole, yX0_side, yX1_init, yX1_forget, yX1_prepare, yX1_inverse, yX1_next, yX1_followAll, yX1_follow, yX1_noteCycle, yX1_fact, yX2_init, yX3_init, yX3_put, yX4_init, yX4_isBig, yX4_onlyKick, yX4_lead, yX4_giveKick, yX4_beginTable, yX4_reckonTable, yX4_stability, yX4_roundsUntilBack, yX4_reckonMiddleWidth, yX4_closeWay, yX4_solveClosed, yX4_closeBump, yX4_hasTold, yX4_tell, yX4_tellTable, yX4_tellWidths, yX4_tellWay, yX4_tellWayX, yX4_tellBump, yX5_init, yX6_init, yX6_findFault, yX6_faultPlace, yX6_lastLine, yX6_take, yX6_takeAlone, yX6_takeLineName, yX6_lineOf, yX6_takeItem, yX6_takeTimes, yX6_takeToldName, yX6_beginPart, yX6_endPart, yX6_takeMinusOrNumber, yX6_takeAbove, yX6_takeBelow, yX6_takeOpen, yX6_closes, yX6_takeClose, yX7_init, yX7_begin, yX7_plus, yX7_minus, yX7_times, yX7_over, yX7_plusProduct, yX7_minusProduct, yX7_settle, yX8_init, yX8_hasPart, yX8_hasKick, yX8_hasLook, yX8_strengthAt, yX8_become, yX9_init, yX9_clear, yX9_add, yX9_addLine, yX9_repeat, yX10_init, yX10_append, yX10_empty, yX10_rewind, yX10_advance, yX10_signAt, yX10_skipBlanks, yX10_takeName, yX10_takeNumber, yX10_isName, yX10_isKindLetter, yX10_letterWorth, yX10_isBlank, yX10_isLetter, yX10_isFigure, yX10_standsAlone, yX11_init, yX11_feed, yX11_read, yX11_place, yX11_part, yX11_kick, yX11_table, yX11_round, yX11_widths, yX11_turns, yX11_way, yX11_answer, yX11_bump, yX11_number, yX11_grid, yX11_rows, yX11_after, yX11_count, yX11_isPrime, yX11_commonDivisor, yX12_init, yX12_in, yX12_feed, yX12_isLetter, yX12_isFigure, yX12_next, yX12_isSign, yX12_fails, yX12_adds, yX12_named, yX12_isOwn, yX12_figure, yX12_item, yX12_closes, yX12_line, yX12_read, yX12_place, yX12_isPart, yX12_ahead, yX12_partOf, yX12_part, yX12_kick, yX12_common, yX12_holds, yX12_product, yX12_sum, yX12_divided, yX12_lays, yX12_leads, yX12_leadsTable, yX12_leadsMote, yX12_starts, yX12_goes, yX12_tells, yX12_table, yX12_tables, yX12_kept, yX12_round, yX12_widths, yX12_turns, yX12_closed, yX12_way, yX12_answer, yX12_bump, yX12_number, yX12_isPrime, yX12_by, yX12_weighs, yX12_rounds, yX12_grid, yX12_rows, yX12_after, yX12_count, yJ13_compare_74951, yJ9_floorMod_7cf53, yJ9_abs_067f4, yJ9_min_7cf53, yL_law]
def byL : List ByteArray := [cX0_init, cX0_put, cX0_copy, cX0_negate, cX0_isZero, cX0_compareToWhole, cX0_side, cX1_init, cX1_forget, cX1_prepare, cX1_inverse, cX1_next, cX1_followAll, cX1_follow, cX1_noteCycle, cX1_fact, cX2_init, cX3_init, cX3_put, cX4_init, cX4_isBig, cX4_onlyKick, cX4_lead, cX4_giveKick, cX4_beginTable, cX4_reckonTable, cX4_stability, cX4_roundsUntilBack, cX4_reckonMiddleWidth, cX4_closeWay, cX4_solveClosed, cX4_closeBump, cX4_hasTold, cX4_tell, cX4_tellTable, cX4_tellWidths, cX4_tellWay, cX4_tellWayX, cX4_tellBump, cX5_init, cX6_init, cX6_findFault, cX6_faultPlace, cX6_lastLine, cX6_take, cX6_takeAlone, cX6_takeLineName, cX6_lineOf, cX6_takeItem, cX6_takeTimes, cX6_takeToldName, cX6_beginPart, cX6_endPart, cX6_takeMinusOrNumber, cX6_takeAbove, cX6_takeBelow, cX6_takeOpen, cX6_closes, cX6_takeClose, cX7_init, cX7_begin, cX7_plus, cX7_minus, cX7_times, cX7_over, cX7_plusProduct, cX7_minusProduct, cX7_settle, cX8_init, cX8_hasPart, cX8_hasKick, cX8_hasLook, cX8_strengthAt, cX8_become, cX9_init, cX9_clear, cX9_add, cX9_addLine, cX9_repeat, cX10_init, cX10_append, cX10_empty, cX10_rewind, cX10_advance, cX10_signAt, cX10_skipBlanks, cX10_takeName, cX10_takeNumber, cX10_isName, cX10_isKindLetter, cX10_letterWorth, cX10_isBlank, cX10_isLetter, cX10_isFigure, cX10_standsAlone, cX11_init, cX11_feed, cX11_read, cX11_place, cX11_part, cX11_kick, cX11_table, cX11_round, cX11_widths, cX11_turns, cX11_way, cX11_answer, cX11_bump, cX11_number, cX11_grid, cX11_rows, cX11_after, cX11_count, cX11_isPrime, cX11_commonDivisor, cX12_init, cX12_in, cX12_feed, cX12_isLetter, cX12_isFigure, cX12_next, cX12_isSign, cX12_fails, cX12_adds, cX12_named, cX12_isOwn, cX12_figure, cX12_item, cX12_closes, cX12_line, cX12_read, cX12_place, cX12_isPart, cX12_ahead, cX12_partOf, cX12_part, cX12_kick, cX12_common, cX12_holds, cX12_product, cX12_sum, cX12_divided, cX12_lays, cX12_leads, cX12_leadsTable, cX12_leadsMote, cX12_starts, cX12_goes, cX12_tells, cX12_table, cX12_tables, cX12_kept, cX12_round, cX12_widths, cX12_turns, cX12_closed, cX12_way, cX12_answer, cX12_bump, cX12_number, cX12_isPrime, cX12_by, cX12_weighs, cX12_rounds, cX12_grid, cX12_rows, cX12_after, cX12_count, cJ13_compare_74951, cJ9_floorMod_7cf53, cJ9_abs_067f4, cJ9_min_7cf53, cL_law]
def retL : List (Option FieldType) := [none, none, none, none, (some .boolean), (some .int), (some .int), none, none, (some .boolean), (some .int), (some .int), none, (some .int), none, (some .int), none, none, none, none, (some .boolean), (some (.array (.object "MagnetRing$Fraction"))), none, none, none, none, (some .int), (some .int), none, (some .int), none, (some .int), (some .boolean), none, (some .int), (some .int), (some .int), (some .int), (some .int), none, none, (some .int), (some .int), (some (.object "MagnetRing$Line")), (some .int), (some .int), (some .int), (some (.object "MagnetRing$Line")), (some .int), (some .int), (some .int), (some .int), (some .int), (some .int), (some .int), (some .int), (some .int), (some .boolean), (some .int), none, none, none, none, none, none, none, none, none, none, (some .boolean), (some .boolean), (some .boolean), (some (.object "MagnetRing$Fraction")), none, none, none, none, none, none, none, none, none, none, none, (some .int), none, none, none, (some .boolean), (some .boolean), (some .int), (some .boolean), (some .boolean), (some .boolean), (some .boolean), none, (some .int), (some .int), (some .int), (some .int), (some .int), (some .int), (some .int), (some .int), (some .int), (some .int), (some .int), (some .int), (some .int), (some .int), (some .int), (some .int), (some .int), (some .boolean), (some .long), none, (some .boolean), (some .int), (some .boolean), (some .boolean), none, (some .boolean), (some .boolean), none, (some .int), (some .boolean), (some .boolean), (some .boolean), (some .boolean), (some .boolean), (some .int), (some .int), (some .boolean), (some .int), (some .int), (some .int), (some .int), (some .long), none, none, none, none, none, none, none, none, none, none, none, (some .int), (some .int), (some .int), (some .int), (some .int), (some .int), (some .int), (some .int), (some .int), (some .int), (some .int), (some .boolean), (some .int), (some .boolean), (some .int), (some .int), (some .int), (some .int), (some .int), (some .int), (some .int), (some .long), (some .int), (some .boolean)]
def nthY : List MethodName → Nat → MethodName
  | [], _ => ⟨"", "", ""⟩
  | v :: _, 0 => v
  | _ :: r, n + 1 => nthY r n
def nthB : List ByteArray → Nat → ByteArray
  | [], _ => ⟨#[]⟩
  | v :: _, 0 => v
  | _ :: r, n + 1 => nthB r n
def nthT : List (Option FieldType) → Nat → Option FieldType
  | [], _ => none
  | v :: _, 0 => v
  | _ :: r, n + 1 => nthT r n
def npL : List Nat := [0, 2, 1, 0, 0, 1, 1, 0, 0, 2, 2, 2, 1, 3, 2, 1, 3, 0, 2, 0, 0, 1, 2, 4, 0, 3, 0, 0, 0, 3, 0, 4, 1, 1, 0, 0, 0, 0, 0, 2, 0, 0, 0, 0, 0, 2, 0, 1, 0, 0, 0, 1, 3, 0, 0, 0, 0, 0, 0, 0, 0, 2, 2, 2, 2, 3, 3, 3, 0, 1, 1, 1, 1, 1, 0, 0, 1, 1, 2, 0, 1, 0, 0, 0, 1, 0, 0, 0, 1, 0, 1, 1, 1, 1, 1, 0, 2, 0, 0, 2, 3, 2, 1, 1, 0, 1, 2, 3, 2, 1, 1, 4, 1, 1, 2, 0, 3, 2, 1, 1, 0, 1, 1, 3, 1, 1, 1, 0, 0, 0, 0, 0, 1, 2, 2, 2, 3, 2, 2, 4, 4, 4, 3, 4, 1, 3, 0, 2, 3, 2, 0, 0, 1, 1, 0, 2, 1, 2, 3, 2, 1, 2, 1, 2, 1, 1, 4, 1, 2, 2, 1, 2, 1]
def yOf (mid : Nat) : MethodName := nthY yL mid
def byOf (mid : Nat) : ByteArray := nthB byL mid
def retOf (mid : Nat) : Option FieldType := nthT retL mid
def tC (ci k : Nat) : String × String × String × Bool := match vwCl[ci]? with
  | some q => q.2.1 k
  | none => ("", "", "", false)
def nmC (ci : Nat) : String := match vwCl[ci]? with
  | some q => q.1
  | none => ""
/-- array tags: what they hold -/
def aTy (t : Nat) : FieldType := match t with
  | 16 => .int
  | 17 => .boolean
  | 18 => .byte
  | 19 => .long
  | 20 => .object RX5
  | _ => .object RX0
def gw (p : Nat) (w : Cond) : Bool := decide (lw_tbl[p]? = some w)
def lenI (i : Instr) (d : Nat) : Nat := match i with
  | .bipush _ => 2
  | .sipush _ => 3
  | .ldc2_w _ => 3
  | .iload _ => 2
  | .lload _ => 2
  | .aload _ => 2
  | .istore _ => 2
  | .lstore _ => 2
  | .astore _ => 2
  | .iinc _ _ => 3
  | .goto _ => 3
  | .ifCond _ _ => 3
  | .if_icmp _ _ => 3
  | .ifnull _ => 3
  | .ifnonnull _ => 3
  | .tableswitch _ _ _ _ => d
  | .getfield _ => 3
  | .putfield _ => 3
  | .getstatic _ => 3
  | .newarray _ => 2
  | .anewarray _ => 3
  | .new _ => 3
  | .invokevirtual _ => 3
  | .invokestatic _ => 3
  | .invokespecial _ => 3
  | _ => 1
def jmp (pc : Nat) (off : Int) (a : Nat) : Bool := decide ((pc : Int) + off = (a : Int))
def nPar (y : MethodName) (n : Nat) : Bool := decide ((parseMethodDescriptor y.desc).map (fun d => d.parameters.length) = some n)
def goodI (own : String) (ini : Bool) (pc : Nat) (e : En) : Bool :=
  let a := e.2.2.1.1
  let b := e.2.2.1.2.1
  let cc := e.2.2.1.2.2.1
  let dd := e.2.2.1.2.2.2
  let w := e.2.2.2.1
  let z := e.2.2.2.2.1
  let ps := e.2.2.2.2.2.2
  match e.1 with
  | .iconst n => decide (Int32.ofInt n = w)
  | .bipush n => decide ((Int8.ofInt n).toInt32 = w)
  | .sipush n => decide ((Int16.ofInt n).toInt32 = w)
  | .lconst n => decide (Int64.ofNat (n : Nat) = z)
  | .ldc2_w i => gw (nthN ps 0) (.constantLong own i z)
  | .iload_n k => decide ((k : Nat) = a)
  | .lload_n k => decide ((k : Nat) = a)
  | .aload_n k => decide ((k : Nat) = a)
  | .istore_n k => decide ((k : Nat) = a)
  | .lstore_n k => decide ((k : Nat) = a)
  | .astore_n k => decide ((k : Nat) = a)
  | .iload k => decide (k = a)
  | .lload k => decide (k = a)
  | .aload k => decide (k = a)
  | .istore k => decide (k = a)
  | .lstore k => decide (k = a)
  | .astore k => decide (k = a)
  | .iinc k n => decide (k = a) && decide (Int32.ofInt n = w)
  | .goto o => jmp pc o a
  | .ifCond _ o => jmp pc o a
  | .if_icmp _ o => jmp pc o a
  | .ifnull o => jmp pc o a
  | .ifnonnull o => jmp pc o a
  | .tableswitch d lo hi offs => jmp pc d a && (decide (0 ≤ lo ∧ lo ≤ hi ∧ hi < 1000) && decide (e.2.2.2.2.2.1.length = offs.size ∧ (offs.size : Int) = hi - lo + 1) && ((List.range offs.size).all fun i => decide ((e.2.2.2.2.2.1.map (fun q => q.1))[i]? = some (Int32.ofInt (lo + i))) && decide (((e.2.2.2.2.2.1.map (fun q => q.2))[i]?).map (fun t => (t : Int)) = (offs[i]?).map (fun o => (pc : Int) + o))))
  | .getfield i => Nat.ble (b + 1) (nF a) && Nat.ble (a + 1) 13 && (match cc with
    | 0 => gw (nthN ps 0) (.fieldLink own i (tC a b).1 (tC a b).2.1 (tC a b).2.2.1)
    | _ => gw (nthN ps 0) (.fieldLinkNest own i (tC a b).1 (tC a b).2.1 (tC a b).2.2.1 "MagnetRing"))
  | .putfield i => Nat.ble (b + 1) (nF a) && Nat.ble (a + 1) 13 && (match cc with
    | 0 => gw (nthN ps 0) (.fieldLink own i (tC a b).1 (tC a b).2.1 (tC a b).2.2.1) && !(tC a b).2.2.2
    | 1 => gw (nthN ps 0) (.fieldLinkNest own i (tC a b).1 (tC a b).2.1 (tC a b).2.2.1 "MagnetRing") && !(tC a b).2.2.2
    | _ => gw (nthN ps 0) (.fieldLink own i (tC a b).1 (tC a b).2.1 (tC a b).2.2.1) && (tC a b).2.2.2 && ini && decide ((tC a b).1 = own))
  | .getstatic i => (match cc with
    | 0 => gw (nthN ps 0) (.fieldLink own i RX11 "PRIMES" "[I")
    | _ => gw (nthN ps 0) (.fieldLinkNest own i RX11 "PRIMES" "[I" "MagnetRing"))
  | .newarray t => decide (newarray.typeOf t = aTy a) && (Nat.ble 16 a && Nat.ble a 19) && gw (nthN ps 0) (.arrayClass (newarray.typeOf t))
  | .anewarray i => (match a with
    | 20 => gw (nthN ps 0) (.classLink own i RX5) && gw (nthN ps 1) (.arrayOver (.object RX5))
    | 21 => gw (nthN ps 0) (.classLink own i RX0) && gw (nthN ps 1) (.arrayOver (.object RX0))
    | _ => false)
  | .new i => Nat.ble (a + 1) 13 && gw (nthN ps 0) (.classLink own i (nmC a)) && gw (nthN ps 1) (.instantiable (nmC a) (nF a)) && gw (nthN ps 2) (.initialized (nmC a))
  | .invokevirtual i => Nat.ble (a + 1) 173 && Nat.ble (dd + 1) 13 && decide (nmC dd = (yOf a).cls) && Nat.beq (nthN npL a + 1) b && gw (nthN ps 1) (.instanceMethod (yOf a)) && gw (nthN ps 2) (.selects (yOf a).cls (yOf a) (yOf a)) && (match cc with
    | 0 => gw (nthN ps 0) (.methodLink own i (yOf a))
    | _ => gw (nthN ps 0) (.methodLinkNest own i (yOf a) "MagnetRing"))
  | .invokestatic i => Nat.ble (a + 1) 173 && Nat.beq (nthN npL a) b && gw (nthN ps 1) (.static (yOf a)) && (match cc with
    | 0 => gw (nthN ps 0) (.methodLink own i (yOf a))
    | _ => gw (nthN ps 0) (.methodLinkNest own i (yOf a) "MagnetRing"))
  | .invokespecial i => (match cc with
    | 6 => gw (nthN ps 0) (.methodLink own i objectInit) && gw (nthN ps 1) (.instanceMethod objectInit) && gw (nthN ps 2) (.code objectInit ⟨#[0xb1]⟩ 1 none)
    | 0 => Nat.ble (a + 1) 173 && Nat.beq (nthN npL a + 1) b && decide ((yOf a).name = "<init>") && gw (nthN ps 1) (.instanceMethod (yOf a)) && gw (nthN ps 0) (.methodLink own i (yOf a)) && Nat.beq (rtOf a) 0
    | _ => Nat.ble (a + 1) 173 && Nat.beq (nthN npL a + 1) b && decide ((yOf a).name = "<init>") && gw (nthN ps 1) (.instanceMethod (yOf a)) && gw (nthN ps 0) (.methodLinkNest own i (yOf a) "MagnetRing") && Nat.beq (rtOf a) 0)
  | _ => true
def goodB (own : String) (ini : Bool) (cb : ByteArray) (pc : Nat) (e : En) : Bool :=
  decide (decode cb pc = .ok (e.1, lenI e.1 (e.2.1 - pc))) && (decide (e.2.1 = pc + lenI e.1 (e.2.1 - pc)) && goodI own ini pc e)
theorem gk_end {f : (Nat × En) → Bool} (l : List (Nat × En)) (n : Nat) (h : l.length ≤ n) : ∀ q ∈ l.drop n, f q = true := by
  rw [List.drop_eq_nil_of_le h]
  intro q hq
  cases hq
theorem gk_step {f : (Nat × En) → Bool} (l : List (Nat × En)) (i n : Nat) (h : ((l.drop i).take n).all f = true) (h2 : ∀ q ∈ l.drop (i + n), f q = true) : ∀ q ∈ l.drop i, f q = true := by
  intro q hq
  rw [← List.take_append_drop n (l.drop i)] at hq
  rcases List.mem_append.mp hq with h1 | h1
  · exact List.all_eq_true.mp h q h1
  · rw [List.drop_drop] at h1
    exact h2 q h1
theorem gk_Fr_init_0 : ((k_Fr_init.drop 0).take 40).all (fun q => goodB RX0 true cX0_init q.1 q.2) = true := by decide +kernel
theorem gk_Fr_init : ∀ q ∈ k_Fr_init, goodB RX0 true cX0_init q.1 q.2 = true := List.all_eq_true.mp gk_Fr_init_0
theorem gk_Fr_put_0 : ((k_Fr_put.drop 0).take 40).all (fun q => goodB RX0 false cX0_put q.1 q.2) = true := by decide +kernel
theorem gk_Fr_put : ∀ q ∈ k_Fr_put, goodB RX0 false cX0_put q.1 q.2 = true := List.all_eq_true.mp gk_Fr_put_0
theorem gk_Fr_copy_0 : ((k_Fr_copy.drop 0).take 40).all (fun q => goodB RX0 false cX0_copy q.1 q.2) = true := by decide +kernel
theorem gk_Fr_copy : ∀ q ∈ k_Fr_copy, goodB RX0 false cX0_copy q.1 q.2 = true := List.all_eq_true.mp gk_Fr_copy_0
theorem gk_Fr_negate_0 : ((k_Fr_negate.drop 0).take 40).all (fun q => goodB RX0 false cX0_negate q.1 q.2) = true := by decide +kernel
theorem gk_Fr_negate : ∀ q ∈ k_Fr_negate, goodB RX0 false cX0_negate q.1 q.2 = true := List.all_eq_true.mp gk_Fr_negate_0
theorem gk_Fr_isZero_0 : ((k_Fr_isZero.drop 0).take 40).all (fun q => goodB RX0 false cX0_isZero q.1 q.2) = true := by decide +kernel
theorem gk_Fr_isZero : ∀ q ∈ k_Fr_isZero, goodB RX0 false cX0_isZero q.1 q.2 = true := List.all_eq_true.mp gk_Fr_isZero_0
theorem gk_Fr_compareToWhole_0 : ((k_Fr_compareToWhole.drop 0).take 40).all (fun q => goodB RX0 false cX0_compareToWhole q.1 q.2) = true := by decide +kernel
theorem gk_Fr_compareToWhole : ∀ q ∈ k_Fr_compareToWhole, goodB RX0 false cX0_compareToWhole q.1 q.2 = true := List.all_eq_true.mp gk_Fr_compareToWhole_0
theorem gk_Fr_side_0 : ((k_Fr_side.drop 0).take 40).all (fun q => goodB RX0 false cX0_side q.1 q.2) = true := by decide +kernel
theorem gk_Fr_side : ∀ q ∈ k_Fr_side, goodB RX0 false cX0_side q.1 q.2 = true := List.all_eq_true.mp gk_Fr_side_0
theorem gk_La_init_0 : ((k_La_init.drop 0).take 40).all (fun q => goodB RX1 true cX1_init q.1 q.2) = true := by decide +kernel
theorem gk_La_init : ∀ q ∈ k_La_init, goodB RX1 true cX1_init q.1 q.2 = true := List.all_eq_true.mp gk_La_init_0
theorem gk_La_forget_0 : ((k_La_forget.drop 0).take 40).all (fun q => goodB RX1 false cX1_forget q.1 q.2) = true := by decide +kernel
theorem gk_La_forget : ∀ q ∈ k_La_forget, goodB RX1 false cX1_forget q.1 q.2 = true := List.all_eq_true.mp gk_La_forget_0
theorem gk_La_prepare_0 : ((k_La_prepare.drop 0).take 40).all (fun q => goodB RX1 false cX1_prepare q.1 q.2) = true := by decide +kernel
theorem gk_La_prepare_1 : ((k_La_prepare.drop 40).take 40).all (fun q => goodB RX1 false cX1_prepare q.1 q.2) = true := by decide +kernel
theorem gk_La_prepare : ∀ q ∈ k_La_prepare, goodB RX1 false cX1_prepare q.1 q.2 = true := fun q hq => (gk_step k_La_prepare 0 40 gk_La_prepare_0 (gk_step k_La_prepare 40 40 gk_La_prepare_1 (gk_end k_La_prepare 80 (by decide +kernel)))) q hq
theorem gk_La_inverse_0 : ((k_La_inverse.drop 0).take 40).all (fun q => goodB RX1 false cX1_inverse q.1 q.2) = true := by decide +kernel
theorem gk_La_inverse : ∀ q ∈ k_La_inverse, goodB RX1 false cX1_inverse q.1 q.2 = true := List.all_eq_true.mp gk_La_inverse_0
theorem gk_La_next_0 : ((k_La_next.drop 0).take 40).all (fun q => goodB RX1 false cX1_next q.1 q.2) = true := by decide +kernel
theorem gk_La_next_1 : ((k_La_next.drop 40).take 40).all (fun q => goodB RX1 false cX1_next q.1 q.2) = true := by decide +kernel
theorem gk_La_next : ∀ q ∈ k_La_next, goodB RX1 false cX1_next q.1 q.2 = true := fun q hq => (gk_step k_La_next 0 40 gk_La_next_0 (gk_step k_La_next 40 40 gk_La_next_1 (gk_end k_La_next 80 (by decide +kernel)))) q hq
theorem gk_La_followAll_0 : ((k_La_followAll.drop 0).take 40).all (fun q => goodB RX1 false cX1_followAll q.1 q.2) = true := by decide +kernel
theorem gk_La_followAll_1 : ((k_La_followAll.drop 40).take 40).all (fun q => goodB RX1 false cX1_followAll q.1 q.2) = true := by decide +kernel
theorem gk_La_followAll : ∀ q ∈ k_La_followAll, goodB RX1 false cX1_followAll q.1 q.2 = true := fun q hq => (gk_step k_La_followAll 0 40 gk_La_followAll_0 (gk_step k_La_followAll 40 40 gk_La_followAll_1 (gk_end k_La_followAll 80 (by decide +kernel)))) q hq
theorem gk_La_follow_0 : ((k_La_follow.drop 0).take 40).all (fun q => goodB RX1 false cX1_follow q.1 q.2) = true := by decide +kernel
theorem gk_La_follow : ∀ q ∈ k_La_follow, goodB RX1 false cX1_follow q.1 q.2 = true := List.all_eq_true.mp gk_La_follow_0
theorem gk_La_noteCycle_0 : ((k_La_noteCycle.drop 0).take 40).all (fun q => goodB RX1 false cX1_noteCycle q.1 q.2) = true := by decide +kernel
theorem gk_La_noteCycle : ∀ q ∈ k_La_noteCycle, goodB RX1 false cX1_noteCycle q.1 q.2 = true := List.all_eq_true.mp gk_La_noteCycle_0
theorem gk_La_fact_0 : ((k_La_fact.drop 0).take 40).all (fun q => goodB RX1 false cX1_fact q.1 q.2) = true := by decide +kernel
theorem gk_La_fact : ∀ q ∈ k_La_fact, goodB RX1 false cX1_fact q.1 q.2 = true := List.all_eq_true.mp gk_La_fact_0
theorem gk_Li_init_0 : ((k_Li_init.drop 0).take 40).all (fun q => goodB RX2 true cX2_init q.1 q.2) = true := by decide +kernel
theorem gk_Li_init : ∀ q ∈ k_Li_init, goodB RX2 true cX2_init q.1 q.2 = true := List.all_eq_true.mp gk_Li_init_0
theorem gk_Mo_init_0 : ((k_Mo_init.drop 0).take 40).all (fun q => goodB RX3 true cX3_init q.1 q.2) = true := by decide +kernel
theorem gk_Mo_init : ∀ q ∈ k_Mo_init, goodB RX3 true cX3_init q.1 q.2 = true := List.all_eq_true.mp gk_Mo_init_0
theorem gk_Mo_put_0 : ((k_Mo_put.drop 0).take 40).all (fun q => goodB RX3 false cX3_put q.1 q.2) = true := by decide +kernel
theorem gk_Mo_put : ∀ q ∈ k_Mo_put, goodB RX3 false cX3_put q.1 q.2 = true := List.all_eq_true.mp gk_Mo_put_0
theorem gk_Op_init_0 : ((k_Op_init.drop 0).take 40).all (fun q => goodB RX4 true cX4_init q.1 q.2) = true := by decide +kernel
theorem gk_Op_init_1 : ((k_Op_init.drop 40).take 40).all (fun q => goodB RX4 true cX4_init q.1 q.2) = true := by decide +kernel
theorem gk_Op_init_2 : ((k_Op_init.drop 80).take 40).all (fun q => goodB RX4 true cX4_init q.1 q.2) = true := by decide +kernel
theorem gk_Op_init : ∀ q ∈ k_Op_init, goodB RX4 true cX4_init q.1 q.2 = true := fun q hq => (gk_step k_Op_init 0 40 gk_Op_init_0 (gk_step k_Op_init 40 40 gk_Op_init_1 (gk_step k_Op_init 80 40 gk_Op_init_2 (gk_end k_Op_init 120 (by decide +kernel))))) q hq
theorem gk_Op_isBig_0 : ((k_Op_isBig.drop 0).take 40).all (fun q => goodB RX4 false cX4_isBig q.1 q.2) = true := by decide +kernel
theorem gk_Op_isBig : ∀ q ∈ k_Op_isBig, goodB RX4 false cX4_isBig q.1 q.2 = true := List.all_eq_true.mp gk_Op_isBig_0
theorem gk_Op_onlyKick_0 : ((k_Op_onlyKick.drop 0).take 40).all (fun q => goodB RX4 false cX4_onlyKick q.1 q.2) = true := by decide +kernel
theorem gk_Op_onlyKick : ∀ q ∈ k_Op_onlyKick, goodB RX4 false cX4_onlyKick q.1 q.2 = true := List.all_eq_true.mp gk_Op_onlyKick_0
theorem gk_Op_lead_0 : ((k_Op_lead.drop 0).take 40).all (fun q => goodB RX4 false cX4_lead q.1 q.2) = true := by decide +kernel
theorem gk_Op_lead : ∀ q ∈ k_Op_lead, goodB RX4 false cX4_lead q.1 q.2 = true := List.all_eq_true.mp gk_Op_lead_0
theorem gk_Op_giveKick_0 : ((k_Op_giveKick.drop 0).take 40).all (fun q => goodB RX4 false cX4_giveKick q.1 q.2) = true := by decide +kernel
theorem gk_Op_giveKick : ∀ q ∈ k_Op_giveKick, goodB RX4 false cX4_giveKick q.1 q.2 = true := List.all_eq_true.mp gk_Op_giveKick_0
theorem gk_Op_beginTable_0 : ((k_Op_beginTable.drop 0).take 40).all (fun q => goodB RX4 false cX4_beginTable q.1 q.2) = true := by decide +kernel
theorem gk_Op_beginTable : ∀ q ∈ k_Op_beginTable, goodB RX4 false cX4_beginTable q.1 q.2 = true := List.all_eq_true.mp gk_Op_beginTable_0
theorem gk_Op_reckonTable_0 : ((k_Op_reckonTable.drop 0).take 40).all (fun q => goodB RX4 false cX4_reckonTable q.1 q.2) = true := by decide +kernel
theorem gk_Op_reckonTable_1 : ((k_Op_reckonTable.drop 40).take 40).all (fun q => goodB RX4 false cX4_reckonTable q.1 q.2) = true := by decide +kernel
theorem gk_Op_reckonTable : ∀ q ∈ k_Op_reckonTable, goodB RX4 false cX4_reckonTable q.1 q.2 = true := fun q hq => (gk_step k_Op_reckonTable 0 40 gk_Op_reckonTable_0 (gk_step k_Op_reckonTable 40 40 gk_Op_reckonTable_1 (gk_end k_Op_reckonTable 80 (by decide +kernel)))) q hq
theorem gk_Op_stability_0 : ((k_Op_stability.drop 0).take 40).all (fun q => goodB RX4 false cX4_stability q.1 q.2) = true := by decide +kernel
theorem gk_Op_stability_1 : ((k_Op_stability.drop 40).take 40).all (fun q => goodB RX4 false cX4_stability q.1 q.2) = true := by decide +kernel
theorem gk_Op_stability : ∀ q ∈ k_Op_stability, goodB RX4 false cX4_stability q.1 q.2 = true := fun q hq => (gk_step k_Op_stability 0 40 gk_Op_stability_0 (gk_step k_Op_stability 40 40 gk_Op_stability_1 (gk_end k_Op_stability 80 (by decide +kernel)))) q hq
theorem gk_Op_roundsUntilBack_0 : ((k_Op_roundsUntilBack.drop 0).take 40).all (fun q => goodB RX4 false cX4_roundsUntilBack q.1 q.2) = true := by decide +kernel
theorem gk_Op_roundsUntilBack : ∀ q ∈ k_Op_roundsUntilBack, goodB RX4 false cX4_roundsUntilBack q.1 q.2 = true := List.all_eq_true.mp gk_Op_roundsUntilBack_0
theorem gk_Op_reckonMiddleWidth_0 : ((k_Op_reckonMiddleWidth.drop 0).take 40).all (fun q => goodB RX4 false cX4_reckonMiddleWidth q.1 q.2) = true := by decide +kernel
theorem gk_Op_reckonMiddleWidth : ∀ q ∈ k_Op_reckonMiddleWidth, goodB RX4 false cX4_reckonMiddleWidth q.1 q.2 = true := List.all_eq_true.mp gk_Op_reckonMiddleWidth_0
theorem gk_Op_closeWay_0 : ((k_Op_closeWay.drop 0).take 40).all (fun q => goodB RX4 false cX4_closeWay q.1 q.2) = true := by decide +kernel
theorem gk_Op_closeWay_1 : ((k_Op_closeWay.drop 40).take 40).all (fun q => goodB RX4 false cX4_closeWay q.1 q.2) = true := by decide +kernel
theorem gk_Op_closeWay_2 : ((k_Op_closeWay.drop 80).take 40).all (fun q => goodB RX4 false cX4_closeWay q.1 q.2) = true := by decide +kernel
theorem gk_Op_closeWay_3 : ((k_Op_closeWay.drop 120).take 40).all (fun q => goodB RX4 false cX4_closeWay q.1 q.2) = true := by decide +kernel
theorem gk_Op_closeWay : ∀ q ∈ k_Op_closeWay, goodB RX4 false cX4_closeWay q.1 q.2 = true := fun q hq => (gk_step k_Op_closeWay 0 40 gk_Op_closeWay_0 (gk_step k_Op_closeWay 40 40 gk_Op_closeWay_1 (gk_step k_Op_closeWay 80 40 gk_Op_closeWay_2 (gk_step k_Op_closeWay 120 40 gk_Op_closeWay_3 (gk_end k_Op_closeWay 160 (by decide +kernel)))))) q hq
theorem gk_Op_solveClosed_0 : ((k_Op_solveClosed.drop 0).take 40).all (fun q => goodB RX4 false cX4_solveClosed q.1 q.2) = true := by decide +kernel
theorem gk_Op_solveClosed_1 : ((k_Op_solveClosed.drop 40).take 40).all (fun q => goodB RX4 false cX4_solveClosed q.1 q.2) = true := by decide +kernel
theorem gk_Op_solveClosed_2 : ((k_Op_solveClosed.drop 80).take 40).all (fun q => goodB RX4 false cX4_solveClosed q.1 q.2) = true := by decide +kernel
theorem gk_Op_solveClosed : ∀ q ∈ k_Op_solveClosed, goodB RX4 false cX4_solveClosed q.1 q.2 = true := fun q hq => (gk_step k_Op_solveClosed 0 40 gk_Op_solveClosed_0 (gk_step k_Op_solveClosed 40 40 gk_Op_solveClosed_1 (gk_step k_Op_solveClosed 80 40 gk_Op_solveClosed_2 (gk_end k_Op_solveClosed 120 (by decide +kernel))))) q hq
theorem gk_Op_closeBump_0 : ((k_Op_closeBump.drop 0).take 40).all (fun q => goodB RX4 false cX4_closeBump q.1 q.2) = true := by decide +kernel
theorem gk_Op_closeBump_1 : ((k_Op_closeBump.drop 40).take 40).all (fun q => goodB RX4 false cX4_closeBump q.1 q.2) = true := by decide +kernel
theorem gk_Op_closeBump : ∀ q ∈ k_Op_closeBump, goodB RX4 false cX4_closeBump q.1 q.2 = true := fun q hq => (gk_step k_Op_closeBump 0 40 gk_Op_closeBump_0 (gk_step k_Op_closeBump 40 40 gk_Op_closeBump_1 (gk_end k_Op_closeBump 80 (by decide +kernel)))) q hq
theorem gk_Op_hasTold_0 : ((k_Op_hasTold.drop 0).take 40).all (fun q => goodB RX4 false cX4_hasTold q.1 q.2) = true := by decide +kernel
theorem gk_Op_hasTold : ∀ q ∈ k_Op_hasTold, goodB RX4 false cX4_hasTold q.1 q.2 = true := List.all_eq_true.mp gk_Op_hasTold_0
theorem gk_Op_tell_0 : ((k_Op_tell.drop 0).take 40).all (fun q => goodB RX4 false cX4_tell q.1 q.2) = true := by decide +kernel
theorem gk_Op_tell : ∀ q ∈ k_Op_tell, goodB RX4 false cX4_tell q.1 q.2 = true := List.all_eq_true.mp gk_Op_tell_0
theorem gk_Op_tellTable_0 : ((k_Op_tellTable.drop 0).take 40).all (fun q => goodB RX4 false cX4_tellTable q.1 q.2) = true := by decide +kernel
theorem gk_Op_tellTable : ∀ q ∈ k_Op_tellTable, goodB RX4 false cX4_tellTable q.1 q.2 = true := List.all_eq_true.mp gk_Op_tellTable_0
theorem gk_Op_tellWidths_0 : ((k_Op_tellWidths.drop 0).take 40).all (fun q => goodB RX4 false cX4_tellWidths q.1 q.2) = true := by decide +kernel
theorem gk_Op_tellWidths : ∀ q ∈ k_Op_tellWidths, goodB RX4 false cX4_tellWidths q.1 q.2 = true := List.all_eq_true.mp gk_Op_tellWidths_0
theorem gk_Op_tellWay_0 : ((k_Op_tellWay.drop 0).take 40).all (fun q => goodB RX4 false cX4_tellWay q.1 q.2) = true := by decide +kernel
theorem gk_Op_tellWay : ∀ q ∈ k_Op_tellWay, goodB RX4 false cX4_tellWay q.1 q.2 = true := List.all_eq_true.mp gk_Op_tellWay_0
theorem gk_Op_tellWayX_0 : ((k_Op_tellWayX.drop 0).take 40).all (fun q => goodB RX4 false cX4_tellWayX q.1 q.2) = true := by decide +kernel
theorem gk_Op_tellWayX : ∀ q ∈ k_Op_tellWayX, goodB RX4 false cX4_tellWayX q.1 q.2 = true := List.all_eq_true.mp gk_Op_tellWayX_0
theorem gk_Op_tellBump_0 : ((k_Op_tellBump.drop 0).take 40).all (fun q => goodB RX4 false cX4_tellBump q.1 q.2) = true := by decide +kernel
theorem gk_Op_tellBump : ∀ q ∈ k_Op_tellBump, goodB RX4 false cX4_tellBump q.1 q.2 = true := List.all_eq_true.mp gk_Op_tellBump_0
theorem gk_Pa_init_0 : ((k_Pa_init.drop 0).take 40).all (fun q => goodB RX5 true cX5_init q.1 q.2) = true := by decide +kernel
theorem gk_Pa_init : ∀ q ∈ k_Pa_init, goodB RX5 true cX5_init q.1 q.2 = true := List.all_eq_true.mp gk_Pa_init_0
theorem gk_Re_init_0 : ((k_Re_init.drop 0).take 40).all (fun q => goodB RX6 true cX6_init q.1 q.2) = true := by decide +kernel
theorem gk_Re_init : ∀ q ∈ k_Re_init, goodB RX6 true cX6_init q.1 q.2 = true := List.all_eq_true.mp gk_Re_init_0
theorem gk_Re_findFault_0 : ((k_Re_findFault.drop 0).take 40).all (fun q => goodB RX6 false cX6_findFault q.1 q.2) = true := by decide +kernel
theorem gk_Re_findFault : ∀ q ∈ k_Re_findFault, goodB RX6 false cX6_findFault q.1 q.2 = true := List.all_eq_true.mp gk_Re_findFault_0
theorem gk_Re_faultPlace_0 : ((k_Re_faultPlace.drop 0).take 40).all (fun q => goodB RX6 false cX6_faultPlace q.1 q.2) = true := by decide +kernel
theorem gk_Re_faultPlace : ∀ q ∈ k_Re_faultPlace, goodB RX6 false cX6_faultPlace q.1 q.2 = true := List.all_eq_true.mp gk_Re_faultPlace_0
theorem gk_Re_lastLine_0 : ((k_Re_lastLine.drop 0).take 40).all (fun q => goodB RX6 false cX6_lastLine q.1 q.2) = true := by decide +kernel
theorem gk_Re_lastLine : ∀ q ∈ k_Re_lastLine, goodB RX6 false cX6_lastLine q.1 q.2 = true := List.all_eq_true.mp gk_Re_lastLine_0
theorem gk_Re_take_0 : ((k_Re_take.drop 0).take 40).all (fun q => goodB RX6 false cX6_take q.1 q.2) = true := by decide +kernel
theorem gk_Re_take_1 : ((k_Re_take.drop 40).take 40).all (fun q => goodB RX6 false cX6_take q.1 q.2) = true := by decide +kernel
theorem gk_Re_take : ∀ q ∈ k_Re_take, goodB RX6 false cX6_take q.1 q.2 = true := fun q hq => (gk_step k_Re_take 0 40 gk_Re_take_0 (gk_step k_Re_take 40 40 gk_Re_take_1 (gk_end k_Re_take 80 (by decide +kernel)))) q hq
theorem gk_Re_takeAlone_0 : ((k_Re_takeAlone.drop 0).take 40).all (fun q => goodB RX6 false cX6_takeAlone q.1 q.2) = true := by decide +kernel
theorem gk_Re_takeAlone : ∀ q ∈ k_Re_takeAlone, goodB RX6 false cX6_takeAlone q.1 q.2 = true := List.all_eq_true.mp gk_Re_takeAlone_0
theorem gk_Re_takeLineName_0 : ((k_Re_takeLineName.drop 0).take 40).all (fun q => goodB RX6 false cX6_takeLineName q.1 q.2) = true := by decide +kernel
theorem gk_Re_takeLineName_1 : ((k_Re_takeLineName.drop 40).take 40).all (fun q => goodB RX6 false cX6_takeLineName q.1 q.2) = true := by decide +kernel
theorem gk_Re_takeLineName : ∀ q ∈ k_Re_takeLineName, goodB RX6 false cX6_takeLineName q.1 q.2 = true := fun q hq => (gk_step k_Re_takeLineName 0 40 gk_Re_takeLineName_0 (gk_step k_Re_takeLineName 40 40 gk_Re_takeLineName_1 (gk_end k_Re_takeLineName 80 (by decide +kernel)))) q hq
theorem gk_Re_lineOf_0 : ((k_Re_lineOf.drop 0).take 40).all (fun q => goodB RX6 false cX6_lineOf q.1 q.2) = true := by decide +kernel
theorem gk_Re_lineOf : ∀ q ∈ k_Re_lineOf, goodB RX6 false cX6_lineOf q.1 q.2 = true := List.all_eq_true.mp gk_Re_lineOf_0
theorem gk_Re_takeItem_0 : ((k_Re_takeItem.drop 0).take 40).all (fun q => goodB RX6 false cX6_takeItem q.1 q.2) = true := by decide +kernel
theorem gk_Re_takeItem_1 : ((k_Re_takeItem.drop 40).take 40).all (fun q => goodB RX6 false cX6_takeItem q.1 q.2) = true := by decide +kernel
theorem gk_Re_takeItem : ∀ q ∈ k_Re_takeItem, goodB RX6 false cX6_takeItem q.1 q.2 = true := fun q hq => (gk_step k_Re_takeItem 0 40 gk_Re_takeItem_0 (gk_step k_Re_takeItem 40 40 gk_Re_takeItem_1 (gk_end k_Re_takeItem 80 (by decide +kernel)))) q hq
theorem gk_Re_takeTimes_0 : ((k_Re_takeTimes.drop 0).take 40).all (fun q => goodB RX6 false cX6_takeTimes q.1 q.2) = true := by decide +kernel
theorem gk_Re_takeTimes : ∀ q ∈ k_Re_takeTimes, goodB RX6 false cX6_takeTimes q.1 q.2 = true := List.all_eq_true.mp gk_Re_takeTimes_0
theorem gk_Re_takeToldName_0 : ((k_Re_takeToldName.drop 0).take 40).all (fun q => goodB RX6 false cX6_takeToldName q.1 q.2) = true := by decide +kernel
theorem gk_Re_takeToldName : ∀ q ∈ k_Re_takeToldName, goodB RX6 false cX6_takeToldName q.1 q.2 = true := List.all_eq_true.mp gk_Re_takeToldName_0
theorem gk_Re_beginPart_0 : ((k_Re_beginPart.drop 0).take 40).all (fun q => goodB RX6 false cX6_beginPart q.1 q.2) = true := by decide +kernel
theorem gk_Re_beginPart : ∀ q ∈ k_Re_beginPart, goodB RX6 false cX6_beginPart q.1 q.2 = true := List.all_eq_true.mp gk_Re_beginPart_0
theorem gk_Re_endPart_0 : ((k_Re_endPart.drop 0).take 40).all (fun q => goodB RX6 false cX6_endPart q.1 q.2) = true := by decide +kernel
theorem gk_Re_endPart : ∀ q ∈ k_Re_endPart, goodB RX6 false cX6_endPart q.1 q.2 = true := List.all_eq_true.mp gk_Re_endPart_0
theorem gk_Re_takeMinusOrNumber_0 : ((k_Re_takeMinusOrNumber.drop 0).take 40).all (fun q => goodB RX6 false cX6_takeMinusOrNumber q.1 q.2) = true := by decide +kernel
theorem gk_Re_takeMinusOrNumber : ∀ q ∈ k_Re_takeMinusOrNumber, goodB RX6 false cX6_takeMinusOrNumber q.1 q.2 = true := List.all_eq_true.mp gk_Re_takeMinusOrNumber_0
theorem gk_Re_takeAbove_0 : ((k_Re_takeAbove.drop 0).take 40).all (fun q => goodB RX6 false cX6_takeAbove q.1 q.2) = true := by decide +kernel
theorem gk_Re_takeAbove : ∀ q ∈ k_Re_takeAbove, goodB RX6 false cX6_takeAbove q.1 q.2 = true := List.all_eq_true.mp gk_Re_takeAbove_0
theorem gk_Re_takeBelow_0 : ((k_Re_takeBelow.drop 0).take 40).all (fun q => goodB RX6 false cX6_takeBelow q.1 q.2) = true := by decide +kernel
theorem gk_Re_takeBelow : ∀ q ∈ k_Re_takeBelow, goodB RX6 false cX6_takeBelow q.1 q.2 = true := List.all_eq_true.mp gk_Re_takeBelow_0
theorem gk_Re_takeOpen_0 : ((k_Re_takeOpen.drop 0).take 40).all (fun q => goodB RX6 false cX6_takeOpen q.1 q.2) = true := by decide +kernel
theorem gk_Re_takeOpen : ∀ q ∈ k_Re_takeOpen, goodB RX6 false cX6_takeOpen q.1 q.2 = true := List.all_eq_true.mp gk_Re_takeOpen_0
theorem gk_Re_closes_0 : ((k_Re_closes.drop 0).take 40).all (fun q => goodB RX6 false cX6_closes q.1 q.2) = true := by decide +kernel
theorem gk_Re_closes : ∀ q ∈ k_Re_closes, goodB RX6 false cX6_closes q.1 q.2 = true := List.all_eq_true.mp gk_Re_closes_0
theorem gk_Re_takeClose_0 : ((k_Re_takeClose.drop 0).take 40).all (fun q => goodB RX6 false cX6_takeClose q.1 q.2) = true := by decide +kernel
theorem gk_Re_takeClose_1 : ((k_Re_takeClose.drop 40).take 40).all (fun q => goodB RX6 false cX6_takeClose q.1 q.2) = true := by decide +kernel
theorem gk_Re_takeClose : ∀ q ∈ k_Re_takeClose, goodB RX6 false cX6_takeClose q.1 q.2 = true := fun q hq => (gk_step k_Re_takeClose 0 40 gk_Re_takeClose_0 (gk_step k_Re_takeClose 40 40 gk_Re_takeClose_1 (gk_end k_Re_takeClose 80 (by decide +kernel)))) q hq
theorem gk_Rk_init_0 : ((k_Rk_init.drop 0).take 40).all (fun q => goodB RX7 true cX7_init q.1 q.2) = true := by decide +kernel
theorem gk_Rk_init : ∀ q ∈ k_Rk_init, goodB RX7 true cX7_init q.1 q.2 = true := List.all_eq_true.mp gk_Rk_init_0
theorem gk_Rk_begin_0 : ((k_Rk_begin.drop 0).take 40).all (fun q => goodB RX7 false cX7_begin q.1 q.2) = true := by decide +kernel
theorem gk_Rk_begin : ∀ q ∈ k_Rk_begin, goodB RX7 false cX7_begin q.1 q.2 = true := List.all_eq_true.mp gk_Rk_begin_0
theorem gk_Rk_plus_0 : ((k_Rk_plus.drop 0).take 40).all (fun q => goodB RX7 false cX7_plus q.1 q.2) = true := by decide +kernel
theorem gk_Rk_plus : ∀ q ∈ k_Rk_plus, goodB RX7 false cX7_plus q.1 q.2 = true := List.all_eq_true.mp gk_Rk_plus_0
theorem gk_Rk_minus_0 : ((k_Rk_minus.drop 0).take 40).all (fun q => goodB RX7 false cX7_minus q.1 q.2) = true := by decide +kernel
theorem gk_Rk_minus : ∀ q ∈ k_Rk_minus, goodB RX7 false cX7_minus q.1 q.2 = true := List.all_eq_true.mp gk_Rk_minus_0
theorem gk_Rk_times_0 : ((k_Rk_times.drop 0).take 40).all (fun q => goodB RX7 false cX7_times q.1 q.2) = true := by decide +kernel
theorem gk_Rk_times : ∀ q ∈ k_Rk_times, goodB RX7 false cX7_times q.1 q.2 = true := List.all_eq_true.mp gk_Rk_times_0
theorem gk_Rk_over_0 : ((k_Rk_over.drop 0).take 40).all (fun q => goodB RX7 false cX7_over q.1 q.2) = true := by decide +kernel
theorem gk_Rk_over : ∀ q ∈ k_Rk_over, goodB RX7 false cX7_over q.1 q.2 = true := List.all_eq_true.mp gk_Rk_over_0
theorem gk_Rk_plusProduct_0 : ((k_Rk_plusProduct.drop 0).take 40).all (fun q => goodB RX7 false cX7_plusProduct q.1 q.2) = true := by decide +kernel
theorem gk_Rk_plusProduct : ∀ q ∈ k_Rk_plusProduct, goodB RX7 false cX7_plusProduct q.1 q.2 = true := List.all_eq_true.mp gk_Rk_plusProduct_0
theorem gk_Rk_minusProduct_0 : ((k_Rk_minusProduct.drop 0).take 40).all (fun q => goodB RX7 false cX7_minusProduct q.1 q.2) = true := by decide +kernel
theorem gk_Rk_minusProduct : ∀ q ∈ k_Rk_minusProduct, goodB RX7 false cX7_minusProduct q.1 q.2 = true := List.all_eq_true.mp gk_Rk_minusProduct_0
theorem gk_Rk_settle_0 : ((k_Rk_settle.drop 0).take 40).all (fun q => goodB RX7 false cX7_settle q.1 q.2) = true := by decide +kernel
theorem gk_Rk_settle : ∀ q ∈ k_Rk_settle, goodB RX7 false cX7_settle q.1 q.2 = true := List.all_eq_true.mp gk_Rk_settle_0
theorem gk_Ri_init_0 : ((k_Ri_init.drop 0).take 40).all (fun q => goodB RX8 true cX8_init q.1 q.2) = true := by decide +kernel
theorem gk_Ri_init : ∀ q ∈ k_Ri_init, goodB RX8 true cX8_init q.1 q.2 = true := List.all_eq_true.mp gk_Ri_init_0
theorem gk_Ri_hasPart_0 : ((k_Ri_hasPart.drop 0).take 40).all (fun q => goodB RX8 false cX8_hasPart q.1 q.2) = true := by decide +kernel
theorem gk_Ri_hasPart : ∀ q ∈ k_Ri_hasPart, goodB RX8 false cX8_hasPart q.1 q.2 = true := List.all_eq_true.mp gk_Ri_hasPart_0
theorem gk_Ri_hasKick_0 : ((k_Ri_hasKick.drop 0).take 40).all (fun q => goodB RX8 false cX8_hasKick q.1 q.2) = true := by decide +kernel
theorem gk_Ri_hasKick : ∀ q ∈ k_Ri_hasKick, goodB RX8 false cX8_hasKick q.1 q.2 = true := List.all_eq_true.mp gk_Ri_hasKick_0
theorem gk_Ri_hasLook_0 : ((k_Ri_hasLook.drop 0).take 40).all (fun q => goodB RX8 false cX8_hasLook q.1 q.2) = true := by decide +kernel
theorem gk_Ri_hasLook : ∀ q ∈ k_Ri_hasLook, goodB RX8 false cX8_hasLook q.1 q.2 = true := List.all_eq_true.mp gk_Ri_hasLook_0
theorem gk_Ri_strengthAt_0 : ((k_Ri_strengthAt.drop 0).take 40).all (fun q => goodB RX8 false cX8_strengthAt q.1 q.2) = true := by decide +kernel
theorem gk_Ri_strengthAt : ∀ q ∈ k_Ri_strengthAt, goodB RX8 false cX8_strengthAt q.1 q.2 = true := List.all_eq_true.mp gk_Ri_strengthAt_0
theorem gk_Ri_become_0 : ((k_Ri_become.drop 0).take 40).all (fun q => goodB RX8 false cX8_become q.1 q.2) = true := by decide +kernel
theorem gk_Ri_become_1 : ((k_Ri_become.drop 40).take 40).all (fun q => goodB RX8 false cX8_become q.1 q.2) = true := by decide +kernel
theorem gk_Ri_become_2 : ((k_Ri_become.drop 80).take 40).all (fun q => goodB RX8 false cX8_become q.1 q.2) = true := by decide +kernel
theorem gk_Ri_become : ∀ q ∈ k_Ri_become, goodB RX8 false cX8_become q.1 q.2 = true := fun q hq => (gk_step k_Ri_become 0 40 gk_Ri_become_0 (gk_step k_Ri_become 40 40 gk_Ri_become_1 (gk_step k_Ri_become 80 40 gk_Ri_become_2 (gk_end k_Ri_become 120 (by decide +kernel))))) q hq
theorem gk_Ro_init_0 : ((k_Ro_init.drop 0).take 40).all (fun q => goodB RX9 true cX9_init q.1 q.2) = true := by decide +kernel
theorem gk_Ro_init : ∀ q ∈ k_Ro_init, goodB RX9 true cX9_init q.1 q.2 = true := List.all_eq_true.mp gk_Ro_init_0
theorem gk_Ro_clear_0 : ((k_Ro_clear.drop 0).take 40).all (fun q => goodB RX9 false cX9_clear q.1 q.2) = true := by decide +kernel
theorem gk_Ro_clear : ∀ q ∈ k_Ro_clear, goodB RX9 false cX9_clear q.1 q.2 = true := List.all_eq_true.mp gk_Ro_clear_0
theorem gk_Ro_add_0 : ((k_Ro_add.drop 0).take 40).all (fun q => goodB RX9 false cX9_add q.1 q.2) = true := by decide +kernel
theorem gk_Ro_add_1 : ((k_Ro_add.drop 40).take 40).all (fun q => goodB RX9 false cX9_add q.1 q.2) = true := by decide +kernel
theorem gk_Ro_add : ∀ q ∈ k_Ro_add, goodB RX9 false cX9_add q.1 q.2 = true := fun q hq => (gk_step k_Ro_add 0 40 gk_Ro_add_0 (gk_step k_Ro_add 40 40 gk_Ro_add_1 (gk_end k_Ro_add 80 (by decide +kernel)))) q hq
theorem gk_Ro_addLine_0 : ((k_Ro_addLine.drop 0).take 40).all (fun q => goodB RX9 false cX9_addLine q.1 q.2) = true := by decide +kernel
theorem gk_Ro_addLine : ∀ q ∈ k_Ro_addLine, goodB RX9 false cX9_addLine q.1 q.2 = true := List.all_eq_true.mp gk_Ro_addLine_0
theorem gk_Ro_repeat_0 : ((k_Ro_repeat.drop 0).take 40).all (fun q => goodB RX9 false cX9_repeat q.1 q.2) = true := by decide +kernel
theorem gk_Ro_repeat : ∀ q ∈ k_Ro_repeat, goodB RX9 false cX9_repeat q.1 q.2 = true := List.all_eq_true.mp gk_Ro_repeat_0
theorem gk_Te_init_0 : ((k_Te_init.drop 0).take 40).all (fun q => goodB RX10 true cX10_init q.1 q.2) = true := by decide +kernel
theorem gk_Te_init : ∀ q ∈ k_Te_init, goodB RX10 true cX10_init q.1 q.2 = true := List.all_eq_true.mp gk_Te_init_0
theorem gk_Te_append_0 : ((k_Te_append.drop 0).take 40).all (fun q => goodB RX10 false cX10_append q.1 q.2) = true := by decide +kernel
theorem gk_Te_append : ∀ q ∈ k_Te_append, goodB RX10 false cX10_append q.1 q.2 = true := List.all_eq_true.mp gk_Te_append_0
theorem gk_Te_empty_0 : ((k_Te_empty.drop 0).take 40).all (fun q => goodB RX10 false cX10_empty q.1 q.2) = true := by decide +kernel
theorem gk_Te_empty : ∀ q ∈ k_Te_empty, goodB RX10 false cX10_empty q.1 q.2 = true := List.all_eq_true.mp gk_Te_empty_0
theorem gk_Te_rewind_0 : ((k_Te_rewind.drop 0).take 40).all (fun q => goodB RX10 false cX10_rewind q.1 q.2) = true := by decide +kernel
theorem gk_Te_rewind : ∀ q ∈ k_Te_rewind, goodB RX10 false cX10_rewind q.1 q.2 = true := List.all_eq_true.mp gk_Te_rewind_0
theorem gk_Te_advance_0 : ((k_Te_advance.drop 0).take 40).all (fun q => goodB RX10 false cX10_advance q.1 q.2) = true := by decide +kernel
theorem gk_Te_advance_1 : ((k_Te_advance.drop 40).take 40).all (fun q => goodB RX10 false cX10_advance q.1 q.2) = true := by decide +kernel
theorem gk_Te_advance : ∀ q ∈ k_Te_advance, goodB RX10 false cX10_advance q.1 q.2 = true := fun q hq => (gk_step k_Te_advance 0 40 gk_Te_advance_0 (gk_step k_Te_advance 40 40 gk_Te_advance_1 (gk_end k_Te_advance 80 (by decide +kernel)))) q hq
theorem gk_Te_signAt_0 : ((k_Te_signAt.drop 0).take 40).all (fun q => goodB RX10 false cX10_signAt q.1 q.2) = true := by decide +kernel
theorem gk_Te_signAt : ∀ q ∈ k_Te_signAt, goodB RX10 false cX10_signAt q.1 q.2 = true := List.all_eq_true.mp gk_Te_signAt_0
theorem gk_Te_skipBlanks_0 : ((k_Te_skipBlanks.drop 0).take 40).all (fun q => goodB RX10 false cX10_skipBlanks q.1 q.2) = true := by decide +kernel
theorem gk_Te_skipBlanks : ∀ q ∈ k_Te_skipBlanks, goodB RX10 false cX10_skipBlanks q.1 q.2 = true := List.all_eq_true.mp gk_Te_skipBlanks_0
theorem gk_Te_takeName_0 : ((k_Te_takeName.drop 0).take 40).all (fun q => goodB RX10 false cX10_takeName q.1 q.2) = true := by decide +kernel
theorem gk_Te_takeName_1 : ((k_Te_takeName.drop 40).take 40).all (fun q => goodB RX10 false cX10_takeName q.1 q.2) = true := by decide +kernel
theorem gk_Te_takeName : ∀ q ∈ k_Te_takeName, goodB RX10 false cX10_takeName q.1 q.2 = true := fun q hq => (gk_step k_Te_takeName 0 40 gk_Te_takeName_0 (gk_step k_Te_takeName 40 40 gk_Te_takeName_1 (gk_end k_Te_takeName 80 (by decide +kernel)))) q hq
theorem gk_Te_takeNumber_0 : ((k_Te_takeNumber.drop 0).take 40).all (fun q => goodB RX10 false cX10_takeNumber q.1 q.2) = true := by decide +kernel
theorem gk_Te_takeNumber_1 : ((k_Te_takeNumber.drop 40).take 40).all (fun q => goodB RX10 false cX10_takeNumber q.1 q.2) = true := by decide +kernel
theorem gk_Te_takeNumber : ∀ q ∈ k_Te_takeNumber, goodB RX10 false cX10_takeNumber q.1 q.2 = true := fun q hq => (gk_step k_Te_takeNumber 0 40 gk_Te_takeNumber_0 (gk_step k_Te_takeNumber 40 40 gk_Te_takeNumber_1 (gk_end k_Te_takeNumber 80 (by decide +kernel)))) q hq
theorem gk_Te_isName_0 : ((k_Te_isName.drop 0).take 40).all (fun q => goodB RX10 false cX10_isName q.1 q.2) = true := by decide +kernel
theorem gk_Te_isName : ∀ q ∈ k_Te_isName, goodB RX10 false cX10_isName q.1 q.2 = true := List.all_eq_true.mp gk_Te_isName_0
theorem gk_Te_isKindLetter_0 : ((k_Te_isKindLetter.drop 0).take 40).all (fun q => goodB RX10 false cX10_isKindLetter q.1 q.2) = true := by decide +kernel
theorem gk_Te_isKindLetter : ∀ q ∈ k_Te_isKindLetter, goodB RX10 false cX10_isKindLetter q.1 q.2 = true := List.all_eq_true.mp gk_Te_isKindLetter_0
theorem gk_Te_letterWorth_0 : ((k_Te_letterWorth.drop 0).take 40).all (fun q => goodB RX10 false cX10_letterWorth q.1 q.2) = true := by decide +kernel
theorem gk_Te_letterWorth : ∀ q ∈ k_Te_letterWorth, goodB RX10 false cX10_letterWorth q.1 q.2 = true := List.all_eq_true.mp gk_Te_letterWorth_0
theorem gk_Te_isBlank_0 : ((k_Te_isBlank.drop 0).take 40).all (fun q => goodB RX10 false cX10_isBlank q.1 q.2) = true := by decide +kernel
theorem gk_Te_isBlank : ∀ q ∈ k_Te_isBlank, goodB RX10 false cX10_isBlank q.1 q.2 = true := List.all_eq_true.mp gk_Te_isBlank_0
theorem gk_Te_isLetter_0 : ((k_Te_isLetter.drop 0).take 40).all (fun q => goodB RX10 false cX10_isLetter q.1 q.2) = true := by decide +kernel
theorem gk_Te_isLetter : ∀ q ∈ k_Te_isLetter, goodB RX10 false cX10_isLetter q.1 q.2 = true := List.all_eq_true.mp gk_Te_isLetter_0
theorem gk_Te_isFigure_0 : ((k_Te_isFigure.drop 0).take 40).all (fun q => goodB RX10 false cX10_isFigure q.1 q.2) = true := by decide +kernel
theorem gk_Te_isFigure : ∀ q ∈ k_Te_isFigure, goodB RX10 false cX10_isFigure q.1 q.2 = true := List.all_eq_true.mp gk_Te_isFigure_0
theorem gk_Te_standsAlone_0 : ((k_Te_standsAlone.drop 0).take 40).all (fun q => goodB RX10 false cX10_standsAlone q.1 q.2) = true := by decide +kernel
theorem gk_Te_standsAlone : ∀ q ∈ k_Te_standsAlone, goodB RX10 false cX10_standsAlone q.1 q.2 = true := List.all_eq_true.mp gk_Te_standsAlone_0
theorem gk_C_init_0 : ((k_C_init.drop 0).take 40).all (fun q => goodB RX11 true cX11_init q.1 q.2) = true := by decide +kernel
theorem gk_C_init : ∀ q ∈ k_C_init, goodB RX11 true cX11_init q.1 q.2 = true := List.all_eq_true.mp gk_C_init_0
theorem gk_C_feed_0 : ((k_C_feed.drop 0).take 40).all (fun q => goodB RX11 false cX11_feed q.1 q.2) = true := by decide +kernel
theorem gk_C_feed_1 : ((k_C_feed.drop 40).take 40).all (fun q => goodB RX11 false cX11_feed q.1 q.2) = true := by decide +kernel
theorem gk_C_feed : ∀ q ∈ k_C_feed, goodB RX11 false cX11_feed q.1 q.2 = true := fun q hq => (gk_step k_C_feed 0 40 gk_C_feed_0 (gk_step k_C_feed 40 40 gk_C_feed_1 (gk_end k_C_feed 80 (by decide +kernel)))) q hq
theorem gk_C_read_0 : ((k_C_read.drop 0).take 40).all (fun q => goodB RX11 false cX11_read q.1 q.2) = true := by decide +kernel
theorem gk_C_read : ∀ q ∈ k_C_read, goodB RX11 false cX11_read q.1 q.2 = true := List.all_eq_true.mp gk_C_read_0
theorem gk_C_place_0 : ((k_C_place.drop 0).take 40).all (fun q => goodB RX11 false cX11_place q.1 q.2) = true := by decide +kernel
theorem gk_C_place : ∀ q ∈ k_C_place, goodB RX11 false cX11_place q.1 q.2 = true := List.all_eq_true.mp gk_C_place_0
theorem gk_C_part_0 : ((k_C_part.drop 0).take 40).all (fun q => goodB RX11 false cX11_part q.1 q.2) = true := by decide +kernel
theorem gk_C_part : ∀ q ∈ k_C_part, goodB RX11 false cX11_part q.1 q.2 = true := List.all_eq_true.mp gk_C_part_0
theorem gk_C_kick_0 : ((k_C_kick.drop 0).take 40).all (fun q => goodB RX11 false cX11_kick q.1 q.2) = true := by decide +kernel
theorem gk_C_kick : ∀ q ∈ k_C_kick, goodB RX11 false cX11_kick q.1 q.2 = true := List.all_eq_true.mp gk_C_kick_0
theorem gk_C_table_0 : ((k_C_table.drop 0).take 40).all (fun q => goodB RX11 false cX11_table q.1 q.2) = true := by decide +kernel
theorem gk_C_table : ∀ q ∈ k_C_table, goodB RX11 false cX11_table q.1 q.2 = true := List.all_eq_true.mp gk_C_table_0
theorem gk_C_round_0 : ((k_C_round.drop 0).take 40).all (fun q => goodB RX11 false cX11_round q.1 q.2) = true := by decide +kernel
theorem gk_C_round : ∀ q ∈ k_C_round, goodB RX11 false cX11_round q.1 q.2 = true := List.all_eq_true.mp gk_C_round_0
theorem gk_C_widths_0 : ((k_C_widths.drop 0).take 40).all (fun q => goodB RX11 false cX11_widths q.1 q.2) = true := by decide +kernel
theorem gk_C_widths_1 : ((k_C_widths.drop 40).take 40).all (fun q => goodB RX11 false cX11_widths q.1 q.2) = true := by decide +kernel
theorem gk_C_widths : ∀ q ∈ k_C_widths, goodB RX11 false cX11_widths q.1 q.2 = true := fun q hq => (gk_step k_C_widths 0 40 gk_C_widths_0 (gk_step k_C_widths 40 40 gk_C_widths_1 (gk_end k_C_widths 80 (by decide +kernel)))) q hq
theorem gk_C_turns_0 : ((k_C_turns.drop 0).take 40).all (fun q => goodB RX11 false cX11_turns q.1 q.2) = true := by decide +kernel
theorem gk_C_turns : ∀ q ∈ k_C_turns, goodB RX11 false cX11_turns q.1 q.2 = true := List.all_eq_true.mp gk_C_turns_0
theorem gk_C_way_0 : ((k_C_way.drop 0).take 40).all (fun q => goodB RX11 false cX11_way q.1 q.2) = true := by decide +kernel
theorem gk_C_way : ∀ q ∈ k_C_way, goodB RX11 false cX11_way q.1 q.2 = true := List.all_eq_true.mp gk_C_way_0
theorem gk_C_answer_0 : ((k_C_answer.drop 0).take 40).all (fun q => goodB RX11 false cX11_answer q.1 q.2) = true := by decide +kernel
theorem gk_C_answer : ∀ q ∈ k_C_answer, goodB RX11 false cX11_answer q.1 q.2 = true := List.all_eq_true.mp gk_C_answer_0
theorem gk_C_bump_0 : ((k_C_bump.drop 0).take 40).all (fun q => goodB RX11 false cX11_bump q.1 q.2) = true := by decide +kernel
theorem gk_C_bump_1 : ((k_C_bump.drop 40).take 40).all (fun q => goodB RX11 false cX11_bump q.1 q.2) = true := by decide +kernel
theorem gk_C_bump : ∀ q ∈ k_C_bump, goodB RX11 false cX11_bump q.1 q.2 = true := fun q hq => (gk_step k_C_bump 0 40 gk_C_bump_0 (gk_step k_C_bump 40 40 gk_C_bump_1 (gk_end k_C_bump 80 (by decide +kernel)))) q hq
theorem gk_C_number_0 : ((k_C_number.drop 0).take 40).all (fun q => goodB RX11 false cX11_number q.1 q.2) = true := by decide +kernel
theorem gk_C_number : ∀ q ∈ k_C_number, goodB RX11 false cX11_number q.1 q.2 = true := List.all_eq_true.mp gk_C_number_0
theorem gk_C_grid_0 : ((k_C_grid.drop 0).take 40).all (fun q => goodB RX11 false cX11_grid q.1 q.2) = true := by decide +kernel
theorem gk_C_grid : ∀ q ∈ k_C_grid, goodB RX11 false cX11_grid q.1 q.2 = true := List.all_eq_true.mp gk_C_grid_0
theorem gk_C_rows_0 : ((k_C_rows.drop 0).take 40).all (fun q => goodB RX11 false cX11_rows q.1 q.2) = true := by decide +kernel
theorem gk_C_rows : ∀ q ∈ k_C_rows, goodB RX11 false cX11_rows q.1 q.2 = true := List.all_eq_true.mp gk_C_rows_0
theorem gk_C_after_0 : ((k_C_after.drop 0).take 40).all (fun q => goodB RX11 false cX11_after q.1 q.2) = true := by decide +kernel
theorem gk_C_after_1 : ((k_C_after.drop 40).take 40).all (fun q => goodB RX11 false cX11_after q.1 q.2) = true := by decide +kernel
theorem gk_C_after : ∀ q ∈ k_C_after, goodB RX11 false cX11_after q.1 q.2 = true := fun q hq => (gk_step k_C_after 0 40 gk_C_after_0 (gk_step k_C_after 40 40 gk_C_after_1 (gk_end k_C_after 80 (by decide +kernel)))) q hq
theorem gk_C_count_0 : ((k_C_count.drop 0).take 40).all (fun q => goodB RX11 false cX11_count q.1 q.2) = true := by decide +kernel
theorem gk_C_count : ∀ q ∈ k_C_count, goodB RX11 false cX11_count q.1 q.2 = true := List.all_eq_true.mp gk_C_count_0
theorem gk_C_isPrime_0 : ((k_C_isPrime.drop 0).take 40).all (fun q => goodB RX11 false cX11_isPrime q.1 q.2) = true := by decide +kernel
theorem gk_C_isPrime : ∀ q ∈ k_C_isPrime, goodB RX11 false cX11_isPrime q.1 q.2 = true := List.all_eq_true.mp gk_C_isPrime_0
theorem gk_C_commonDivisor_0 : ((k_C_commonDivisor.drop 0).take 40).all (fun q => goodB RX11 false cX11_commonDivisor q.1 q.2) = true := by decide +kernel
theorem gk_C_commonDivisor : ∀ q ∈ k_C_commonDivisor, goodB RX11 false cX11_commonDivisor q.1 q.2 = true := List.all_eq_true.mp gk_C_commonDivisor_0
theorem gk_R_init_0 : ((k_R_init.drop 0).take 40).all (fun q => goodB RX12 true cX12_init q.1 q.2) = true := by decide +kernel
theorem gk_R_init_1 : ((k_R_init.drop 40).take 40).all (fun q => goodB RX12 true cX12_init q.1 q.2) = true := by decide +kernel
theorem gk_R_init_2 : ((k_R_init.drop 80).take 40).all (fun q => goodB RX12 true cX12_init q.1 q.2) = true := by decide +kernel
theorem gk_R_init : ∀ q ∈ k_R_init, goodB RX12 true cX12_init q.1 q.2 = true := fun q hq => (gk_step k_R_init 0 40 gk_R_init_0 (gk_step k_R_init 40 40 gk_R_init_1 (gk_step k_R_init 80 40 gk_R_init_2 (gk_end k_R_init 120 (by decide +kernel))))) q hq
theorem gk_R_in_0 : ((k_R_in.drop 0).take 40).all (fun q => goodB RX12 false cX12_in q.1 q.2) = true := by decide +kernel
theorem gk_R_in : ∀ q ∈ k_R_in, goodB RX12 false cX12_in q.1 q.2 = true := List.all_eq_true.mp gk_R_in_0
theorem gk_R_feed_0 : ((k_R_feed.drop 0).take 40).all (fun q => goodB RX12 false cX12_feed q.1 q.2) = true := by decide +kernel
theorem gk_R_feed_1 : ((k_R_feed.drop 40).take 40).all (fun q => goodB RX12 false cX12_feed q.1 q.2) = true := by decide +kernel
theorem gk_R_feed : ∀ q ∈ k_R_feed, goodB RX12 false cX12_feed q.1 q.2 = true := fun q hq => (gk_step k_R_feed 0 40 gk_R_feed_0 (gk_step k_R_feed 40 40 gk_R_feed_1 (gk_end k_R_feed 80 (by decide +kernel)))) q hq
theorem gk_R_isLetter_0 : ((k_R_isLetter.drop 0).take 40).all (fun q => goodB RX12 false cX12_isLetter q.1 q.2) = true := by decide +kernel
theorem gk_R_isLetter : ∀ q ∈ k_R_isLetter, goodB RX12 false cX12_isLetter q.1 q.2 = true := List.all_eq_true.mp gk_R_isLetter_0
theorem gk_R_isFigure_0 : ((k_R_isFigure.drop 0).take 40).all (fun q => goodB RX12 false cX12_isFigure q.1 q.2) = true := by decide +kernel
theorem gk_R_isFigure : ∀ q ∈ k_R_isFigure, goodB RX12 false cX12_isFigure q.1 q.2 = true := List.all_eq_true.mp gk_R_isFigure_0
theorem gk_R_next_0 : ((k_R_next.drop 0).take 40).all (fun q => goodB RX12 false cX12_next q.1 q.2) = true := by decide +kernel
theorem gk_R_next_1 : ((k_R_next.drop 40).take 40).all (fun q => goodB RX12 false cX12_next q.1 q.2) = true := by decide +kernel
theorem gk_R_next_2 : ((k_R_next.drop 80).take 40).all (fun q => goodB RX12 false cX12_next q.1 q.2) = true := by decide +kernel
theorem gk_R_next_3 : ((k_R_next.drop 120).take 40).all (fun q => goodB RX12 false cX12_next q.1 q.2) = true := by decide +kernel
theorem gk_R_next_4 : ((k_R_next.drop 160).take 40).all (fun q => goodB RX12 false cX12_next q.1 q.2) = true := by decide +kernel
theorem gk_R_next_5 : ((k_R_next.drop 200).take 40).all (fun q => goodB RX12 false cX12_next q.1 q.2) = true := by decide +kernel
theorem gk_R_next : ∀ q ∈ k_R_next, goodB RX12 false cX12_next q.1 q.2 = true := fun q hq => (gk_step k_R_next 0 40 gk_R_next_0 (gk_step k_R_next 40 40 gk_R_next_1 (gk_step k_R_next 80 40 gk_R_next_2 (gk_step k_R_next 120 40 gk_R_next_3 (gk_step k_R_next 160 40 gk_R_next_4 (gk_step k_R_next 200 40 gk_R_next_5 (gk_end k_R_next 240 (by decide +kernel)))))))) q hq
theorem gk_R_isSign_0 : ((k_R_isSign.drop 0).take 40).all (fun q => goodB RX12 false cX12_isSign q.1 q.2) = true := by decide +kernel
theorem gk_R_isSign : ∀ q ∈ k_R_isSign, goodB RX12 false cX12_isSign q.1 q.2 = true := List.all_eq_true.mp gk_R_isSign_0
theorem gk_R_fails_0 : ((k_R_fails.drop 0).take 40).all (fun q => goodB RX12 false cX12_fails q.1 q.2) = true := by decide +kernel
theorem gk_R_fails : ∀ q ∈ k_R_fails, goodB RX12 false cX12_fails q.1 q.2 = true := List.all_eq_true.mp gk_R_fails_0
theorem gk_R_adds_0 : ((k_R_adds.drop 0).take 40).all (fun q => goodB RX12 false cX12_adds q.1 q.2) = true := by decide +kernel
theorem gk_R_adds_1 : ((k_R_adds.drop 40).take 40).all (fun q => goodB RX12 false cX12_adds q.1 q.2) = true := by decide +kernel
theorem gk_R_adds : ∀ q ∈ k_R_adds, goodB RX12 false cX12_adds q.1 q.2 = true := fun q hq => (gk_step k_R_adds 0 40 gk_R_adds_0 (gk_step k_R_adds 40 40 gk_R_adds_1 (gk_end k_R_adds 80 (by decide +kernel)))) q hq
theorem gk_R_named_0 : ((k_R_named.drop 0).take 40).all (fun q => goodB RX12 false cX12_named q.1 q.2) = true := by decide +kernel
theorem gk_R_named : ∀ q ∈ k_R_named, goodB RX12 false cX12_named q.1 q.2 = true := List.all_eq_true.mp gk_R_named_0
theorem gk_R_isOwn_0 : ((k_R_isOwn.drop 0).take 40).all (fun q => goodB RX12 false cX12_isOwn q.1 q.2) = true := by decide +kernel
theorem gk_R_isOwn : ∀ q ∈ k_R_isOwn, goodB RX12 false cX12_isOwn q.1 q.2 = true := List.all_eq_true.mp gk_R_isOwn_0
theorem gk_R_figure_0 : ((k_R_figure.drop 0).take 40).all (fun q => goodB RX12 false cX12_figure q.1 q.2) = true := by decide +kernel
theorem gk_R_figure_1 : ((k_R_figure.drop 40).take 40).all (fun q => goodB RX12 false cX12_figure q.1 q.2) = true := by decide +kernel
theorem gk_R_figure : ∀ q ∈ k_R_figure, goodB RX12 false cX12_figure q.1 q.2 = true := fun q hq => (gk_step k_R_figure 0 40 gk_R_figure_0 (gk_step k_R_figure 40 40 gk_R_figure_1 (gk_end k_R_figure 80 (by decide +kernel)))) q hq
theorem gk_R_item_0 : ((k_R_item.drop 0).take 40).all (fun q => goodB RX12 false cX12_item q.1 q.2) = true := by decide +kernel
theorem gk_R_item_1 : ((k_R_item.drop 40).take 40).all (fun q => goodB RX12 false cX12_item q.1 q.2) = true := by decide +kernel
theorem gk_R_item_2 : ((k_R_item.drop 80).take 40).all (fun q => goodB RX12 false cX12_item q.1 q.2) = true := by decide +kernel
theorem gk_R_item_3 : ((k_R_item.drop 120).take 40).all (fun q => goodB RX12 false cX12_item q.1 q.2) = true := by decide +kernel
theorem gk_R_item_4 : ((k_R_item.drop 160).take 40).all (fun q => goodB RX12 false cX12_item q.1 q.2) = true := by decide +kernel
theorem gk_R_item_5 : ((k_R_item.drop 200).take 40).all (fun q => goodB RX12 false cX12_item q.1 q.2) = true := by decide +kernel
theorem gk_R_item : ∀ q ∈ k_R_item, goodB RX12 false cX12_item q.1 q.2 = true := fun q hq => (gk_step k_R_item 0 40 gk_R_item_0 (gk_step k_R_item 40 40 gk_R_item_1 (gk_step k_R_item 80 40 gk_R_item_2 (gk_step k_R_item 120 40 gk_R_item_3 (gk_step k_R_item 160 40 gk_R_item_4 (gk_step k_R_item 200 40 gk_R_item_5 (gk_end k_R_item 240 (by decide +kernel)))))))) q hq
theorem gk_R_closes_0 : ((k_R_closes.drop 0).take 40).all (fun q => goodB RX12 false cX12_closes q.1 q.2) = true := by decide +kernel
theorem gk_R_closes_1 : ((k_R_closes.drop 40).take 40).all (fun q => goodB RX12 false cX12_closes q.1 q.2) = true := by decide +kernel
theorem gk_R_closes : ∀ q ∈ k_R_closes, goodB RX12 false cX12_closes q.1 q.2 = true := fun q hq => (gk_step k_R_closes 0 40 gk_R_closes_0 (gk_step k_R_closes 40 40 gk_R_closes_1 (gk_end k_R_closes 80 (by decide +kernel)))) q hq
theorem gk_R_line_0 : ((k_R_line.drop 0).take 40).all (fun q => goodB RX12 false cX12_line q.1 q.2) = true := by decide +kernel
theorem gk_R_line_1 : ((k_R_line.drop 40).take 40).all (fun q => goodB RX12 false cX12_line q.1 q.2) = true := by decide +kernel
theorem gk_R_line_2 : ((k_R_line.drop 80).take 40).all (fun q => goodB RX12 false cX12_line q.1 q.2) = true := by decide +kernel
theorem gk_R_line_3 : ((k_R_line.drop 120).take 40).all (fun q => goodB RX12 false cX12_line q.1 q.2) = true := by decide +kernel
theorem gk_R_line_4 : ((k_R_line.drop 160).take 40).all (fun q => goodB RX12 false cX12_line q.1 q.2) = true := by decide +kernel
theorem gk_R_line : ∀ q ∈ k_R_line, goodB RX12 false cX12_line q.1 q.2 = true := fun q hq => (gk_step k_R_line 0 40 gk_R_line_0 (gk_step k_R_line 40 40 gk_R_line_1 (gk_step k_R_line 80 40 gk_R_line_2 (gk_step k_R_line 120 40 gk_R_line_3 (gk_step k_R_line 160 40 gk_R_line_4 (gk_end k_R_line 200 (by decide +kernel))))))) q hq
theorem gk_R_read_0 : ((k_R_read.drop 0).take 40).all (fun q => goodB RX12 false cX12_read q.1 q.2) = true := by decide +kernel
theorem gk_R_read_1 : ((k_R_read.drop 40).take 40).all (fun q => goodB RX12 false cX12_read q.1 q.2) = true := by decide +kernel
theorem gk_R_read_2 : ((k_R_read.drop 80).take 40).all (fun q => goodB RX12 false cX12_read q.1 q.2) = true := by decide +kernel
theorem gk_R_read : ∀ q ∈ k_R_read, goodB RX12 false cX12_read q.1 q.2 = true := fun q hq => (gk_step k_R_read 0 40 gk_R_read_0 (gk_step k_R_read 40 40 gk_R_read_1 (gk_step k_R_read 80 40 gk_R_read_2 (gk_end k_R_read 120 (by decide +kernel))))) q hq
theorem gk_R_place_0 : ((k_R_place.drop 0).take 40).all (fun q => goodB RX12 false cX12_place q.1 q.2) = true := by decide +kernel
theorem gk_R_place : ∀ q ∈ k_R_place, goodB RX12 false cX12_place q.1 q.2 = true := List.all_eq_true.mp gk_R_place_0
theorem gk_R_isPart_0 : ((k_R_isPart.drop 0).take 40).all (fun q => goodB RX12 false cX12_isPart q.1 q.2) = true := by decide +kernel
theorem gk_R_isPart : ∀ q ∈ k_R_isPart, goodB RX12 false cX12_isPart q.1 q.2 = true := List.all_eq_true.mp gk_R_isPart_0
theorem gk_R_ahead_0 : ((k_R_ahead.drop 0).take 40).all (fun q => goodB RX12 false cX12_ahead q.1 q.2) = true := by decide +kernel
theorem gk_R_ahead : ∀ q ∈ k_R_ahead, goodB RX12 false cX12_ahead q.1 q.2 = true := List.all_eq_true.mp gk_R_ahead_0
theorem gk_R_partOf_0 : ((k_R_partOf.drop 0).take 40).all (fun q => goodB RX12 false cX12_partOf q.1 q.2) = true := by decide +kernel
theorem gk_R_partOf : ∀ q ∈ k_R_partOf, goodB RX12 false cX12_partOf q.1 q.2 = true := List.all_eq_true.mp gk_R_partOf_0
theorem gk_R_part_0 : ((k_R_part.drop 0).take 40).all (fun q => goodB RX12 false cX12_part q.1 q.2) = true := by decide +kernel
theorem gk_R_part_1 : ((k_R_part.drop 40).take 40).all (fun q => goodB RX12 false cX12_part q.1 q.2) = true := by decide +kernel
theorem gk_R_part : ∀ q ∈ k_R_part, goodB RX12 false cX12_part q.1 q.2 = true := fun q hq => (gk_step k_R_part 0 40 gk_R_part_0 (gk_step k_R_part 40 40 gk_R_part_1 (gk_end k_R_part 80 (by decide +kernel)))) q hq
theorem gk_R_kick_0 : ((k_R_kick.drop 0).take 40).all (fun q => goodB RX12 false cX12_kick q.1 q.2) = true := by decide +kernel
theorem gk_R_kick_1 : ((k_R_kick.drop 40).take 40).all (fun q => goodB RX12 false cX12_kick q.1 q.2) = true := by decide +kernel
theorem gk_R_kick : ∀ q ∈ k_R_kick, goodB RX12 false cX12_kick q.1 q.2 = true := fun q hq => (gk_step k_R_kick 0 40 gk_R_kick_0 (gk_step k_R_kick 40 40 gk_R_kick_1 (gk_end k_R_kick 80 (by decide +kernel)))) q hq
theorem gk_R_common_0 : ((k_R_common.drop 0).take 40).all (fun q => goodB RX12 false cX12_common q.1 q.2) = true := by decide +kernel
theorem gk_R_common : ∀ q ∈ k_R_common, goodB RX12 false cX12_common q.1 q.2 = true := List.all_eq_true.mp gk_R_common_0
theorem gk_R_holds_0 : ((k_R_holds.drop 0).take 40).all (fun q => goodB RX12 false cX12_holds q.1 q.2) = true := by decide +kernel
theorem gk_R_holds : ∀ q ∈ k_R_holds, goodB RX12 false cX12_holds q.1 q.2 = true := List.all_eq_true.mp gk_R_holds_0
theorem gk_R_product_0 : ((k_R_product.drop 0).take 40).all (fun q => goodB RX12 false cX12_product q.1 q.2) = true := by decide +kernel
theorem gk_R_product : ∀ q ∈ k_R_product, goodB RX12 false cX12_product q.1 q.2 = true := List.all_eq_true.mp gk_R_product_0
theorem gk_R_sum_0 : ((k_R_sum.drop 0).take 40).all (fun q => goodB RX12 false cX12_sum q.1 q.2) = true := by decide +kernel
theorem gk_R_sum : ∀ q ∈ k_R_sum, goodB RX12 false cX12_sum q.1 q.2 = true := List.all_eq_true.mp gk_R_sum_0
theorem gk_R_divided_0 : ((k_R_divided.drop 0).take 40).all (fun q => goodB RX12 false cX12_divided q.1 q.2) = true := by decide +kernel
theorem gk_R_divided : ∀ q ∈ k_R_divided, goodB RX12 false cX12_divided q.1 q.2 = true := List.all_eq_true.mp gk_R_divided_0
theorem gk_R_lays_0 : ((k_R_lays.drop 0).take 40).all (fun q => goodB RX12 false cX12_lays q.1 q.2) = true := by decide +kernel
theorem gk_R_lays : ∀ q ∈ k_R_lays, goodB RX12 false cX12_lays q.1 q.2 = true := List.all_eq_true.mp gk_R_lays_0
theorem gk_R_leads_0 : ((k_R_leads.drop 0).take 40).all (fun q => goodB RX12 false cX12_leads q.1 q.2) = true := by decide +kernel
theorem gk_R_leads : ∀ q ∈ k_R_leads, goodB RX12 false cX12_leads q.1 q.2 = true := List.all_eq_true.mp gk_R_leads_0
theorem gk_R_leadsTable_0 : ((k_R_leadsTable.drop 0).take 40).all (fun q => goodB RX12 false cX12_leadsTable q.1 q.2) = true := by decide +kernel
theorem gk_R_leadsTable_1 : ((k_R_leadsTable.drop 40).take 40).all (fun q => goodB RX12 false cX12_leadsTable q.1 q.2) = true := by decide +kernel
theorem gk_R_leadsTable : ∀ q ∈ k_R_leadsTable, goodB RX12 false cX12_leadsTable q.1 q.2 = true := fun q hq => (gk_step k_R_leadsTable 0 40 gk_R_leadsTable_0 (gk_step k_R_leadsTable 40 40 gk_R_leadsTable_1 (gk_end k_R_leadsTable 80 (by decide +kernel)))) q hq
theorem gk_R_leadsMote_0 : ((k_R_leadsMote.drop 0).take 40).all (fun q => goodB RX12 false cX12_leadsMote q.1 q.2) = true := by decide +kernel
theorem gk_R_leadsMote_1 : ((k_R_leadsMote.drop 40).take 40).all (fun q => goodB RX12 false cX12_leadsMote q.1 q.2) = true := by decide +kernel
theorem gk_R_leadsMote_2 : ((k_R_leadsMote.drop 80).take 40).all (fun q => goodB RX12 false cX12_leadsMote q.1 q.2) = true := by decide +kernel
theorem gk_R_leadsMote : ∀ q ∈ k_R_leadsMote, goodB RX12 false cX12_leadsMote q.1 q.2 = true := fun q hq => (gk_step k_R_leadsMote 0 40 gk_R_leadsMote_0 (gk_step k_R_leadsMote 40 40 gk_R_leadsMote_1 (gk_step k_R_leadsMote 80 40 gk_R_leadsMote_2 (gk_end k_R_leadsMote 120 (by decide +kernel))))) q hq
theorem gk_R_starts_0 : ((k_R_starts.drop 0).take 40).all (fun q => goodB RX12 false cX12_starts q.1 q.2) = true := by decide +kernel
theorem gk_R_starts : ∀ q ∈ k_R_starts, goodB RX12 false cX12_starts q.1 q.2 = true := List.all_eq_true.mp gk_R_starts_0
theorem gk_R_goes_0 : ((k_R_goes.drop 0).take 40).all (fun q => goodB RX12 false cX12_goes q.1 q.2) = true := by decide +kernel
theorem gk_R_goes : ∀ q ∈ k_R_goes, goodB RX12 false cX12_goes q.1 q.2 = true := List.all_eq_true.mp gk_R_goes_0
theorem gk_R_tells_0 : ((k_R_tells.drop 0).take 40).all (fun q => goodB RX12 false cX12_tells q.1 q.2) = true := by decide +kernel
theorem gk_R_tells : ∀ q ∈ k_R_tells, goodB RX12 false cX12_tells q.1 q.2 = true := List.all_eq_true.mp gk_R_tells_0
theorem gk_R_table_0 : ((k_R_table.drop 0).take 40).all (fun q => goodB RX12 false cX12_table q.1 q.2) = true := by decide +kernel
theorem gk_R_table : ∀ q ∈ k_R_table, goodB RX12 false cX12_table q.1 q.2 = true := List.all_eq_true.mp gk_R_table_0
theorem gk_R_tables_0 : ((k_R_tables.drop 0).take 40).all (fun q => goodB RX12 false cX12_tables q.1 q.2) = true := by decide +kernel
theorem gk_R_tables : ∀ q ∈ k_R_tables, goodB RX12 false cX12_tables q.1 q.2 = true := List.all_eq_true.mp gk_R_tables_0
theorem gk_R_kept_0 : ((k_R_kept.drop 0).take 40).all (fun q => goodB RX12 false cX12_kept q.1 q.2) = true := by decide +kernel
theorem gk_R_kept : ∀ q ∈ k_R_kept, goodB RX12 false cX12_kept q.1 q.2 = true := List.all_eq_true.mp gk_R_kept_0
theorem gk_R_round_0 : ((k_R_round.drop 0).take 40).all (fun q => goodB RX12 false cX12_round q.1 q.2) = true := by decide +kernel
theorem gk_R_round_1 : ((k_R_round.drop 40).take 40).all (fun q => goodB RX12 false cX12_round q.1 q.2) = true := by decide +kernel
theorem gk_R_round : ∀ q ∈ k_R_round, goodB RX12 false cX12_round q.1 q.2 = true := fun q hq => (gk_step k_R_round 0 40 gk_R_round_0 (gk_step k_R_round 40 40 gk_R_round_1 (gk_end k_R_round 80 (by decide +kernel)))) q hq
theorem gk_R_widths_0 : ((k_R_widths.drop 0).take 40).all (fun q => goodB RX12 false cX12_widths q.1 q.2) = true := by decide +kernel
theorem gk_R_widths_1 : ((k_R_widths.drop 40).take 40).all (fun q => goodB RX12 false cX12_widths q.1 q.2) = true := by decide +kernel
theorem gk_R_widths_2 : ((k_R_widths.drop 80).take 40).all (fun q => goodB RX12 false cX12_widths q.1 q.2) = true := by decide +kernel
theorem gk_R_widths : ∀ q ∈ k_R_widths, goodB RX12 false cX12_widths q.1 q.2 = true := fun q hq => (gk_step k_R_widths 0 40 gk_R_widths_0 (gk_step k_R_widths 40 40 gk_R_widths_1 (gk_step k_R_widths 80 40 gk_R_widths_2 (gk_end k_R_widths 120 (by decide +kernel))))) q hq
theorem gk_R_turns_0 : ((k_R_turns.drop 0).take 40).all (fun q => goodB RX12 false cX12_turns q.1 q.2) = true := by decide +kernel
theorem gk_R_turns_1 : ((k_R_turns.drop 40).take 40).all (fun q => goodB RX12 false cX12_turns q.1 q.2) = true := by decide +kernel
theorem gk_R_turns : ∀ q ∈ k_R_turns, goodB RX12 false cX12_turns q.1 q.2 = true := fun q hq => (gk_step k_R_turns 0 40 gk_R_turns_0 (gk_step k_R_turns 40 40 gk_R_turns_1 (gk_end k_R_turns 80 (by decide +kernel)))) q hq
theorem gk_R_closed_0 : ((k_R_closed.drop 0).take 40).all (fun q => goodB RX12 false cX12_closed q.1 q.2) = true := by decide +kernel
theorem gk_R_closed_1 : ((k_R_closed.drop 40).take 40).all (fun q => goodB RX12 false cX12_closed q.1 q.2) = true := by decide +kernel
theorem gk_R_closed_2 : ((k_R_closed.drop 80).take 40).all (fun q => goodB RX12 false cX12_closed q.1 q.2) = true := by decide +kernel
theorem gk_R_closed_3 : ((k_R_closed.drop 120).take 40).all (fun q => goodB RX12 false cX12_closed q.1 q.2) = true := by decide +kernel
theorem gk_R_closed_4 : ((k_R_closed.drop 160).take 40).all (fun q => goodB RX12 false cX12_closed q.1 q.2) = true := by decide +kernel
theorem gk_R_closed_5 : ((k_R_closed.drop 200).take 40).all (fun q => goodB RX12 false cX12_closed q.1 q.2) = true := by decide +kernel
theorem gk_R_closed_6 : ((k_R_closed.drop 240).take 40).all (fun q => goodB RX12 false cX12_closed q.1 q.2) = true := by decide +kernel
theorem gk_R_closed : ∀ q ∈ k_R_closed, goodB RX12 false cX12_closed q.1 q.2 = true := fun q hq => (gk_step k_R_closed 0 40 gk_R_closed_0 (gk_step k_R_closed 40 40 gk_R_closed_1 (gk_step k_R_closed 80 40 gk_R_closed_2 (gk_step k_R_closed 120 40 gk_R_closed_3 (gk_step k_R_closed 160 40 gk_R_closed_4 (gk_step k_R_closed 200 40 gk_R_closed_5 (gk_step k_R_closed 240 40 gk_R_closed_6 (gk_end k_R_closed 280 (by decide +kernel))))))))) q hq
theorem gk_R_way_0 : ((k_R_way.drop 0).take 40).all (fun q => goodB RX12 false cX12_way q.1 q.2) = true := by decide +kernel
theorem gk_R_way_1 : ((k_R_way.drop 40).take 40).all (fun q => goodB RX12 false cX12_way q.1 q.2) = true := by decide +kernel
theorem gk_R_way : ∀ q ∈ k_R_way, goodB RX12 false cX12_way q.1 q.2 = true := fun q hq => (gk_step k_R_way 0 40 gk_R_way_0 (gk_step k_R_way 40 40 gk_R_way_1 (gk_end k_R_way 80 (by decide +kernel)))) q hq
theorem gk_R_answer_0 : ((k_R_answer.drop 0).take 40).all (fun q => goodB RX12 false cX12_answer q.1 q.2) = true := by decide +kernel
theorem gk_R_answer_1 : ((k_R_answer.drop 40).take 40).all (fun q => goodB RX12 false cX12_answer q.1 q.2) = true := by decide +kernel
theorem gk_R_answer : ∀ q ∈ k_R_answer, goodB RX12 false cX12_answer q.1 q.2 = true := fun q hq => (gk_step k_R_answer 0 40 gk_R_answer_0 (gk_step k_R_answer 40 40 gk_R_answer_1 (gk_end k_R_answer 80 (by decide +kernel)))) q hq
theorem gk_R_bump_0 : ((k_R_bump.drop 0).take 40).all (fun q => goodB RX12 false cX12_bump q.1 q.2) = true := by decide +kernel
theorem gk_R_bump_1 : ((k_R_bump.drop 40).take 40).all (fun q => goodB RX12 false cX12_bump q.1 q.2) = true := by decide +kernel
theorem gk_R_bump_2 : ((k_R_bump.drop 80).take 40).all (fun q => goodB RX12 false cX12_bump q.1 q.2) = true := by decide +kernel
theorem gk_R_bump_3 : ((k_R_bump.drop 120).take 40).all (fun q => goodB RX12 false cX12_bump q.1 q.2) = true := by decide +kernel
theorem gk_R_bump_4 : ((k_R_bump.drop 160).take 40).all (fun q => goodB RX12 false cX12_bump q.1 q.2) = true := by decide +kernel
theorem gk_R_bump : ∀ q ∈ k_R_bump, goodB RX12 false cX12_bump q.1 q.2 = true := fun q hq => (gk_step k_R_bump 0 40 gk_R_bump_0 (gk_step k_R_bump 40 40 gk_R_bump_1 (gk_step k_R_bump 80 40 gk_R_bump_2 (gk_step k_R_bump 120 40 gk_R_bump_3 (gk_step k_R_bump 160 40 gk_R_bump_4 (gk_end k_R_bump 200 (by decide +kernel))))))) q hq
theorem gk_R_number_0 : ((k_R_number.drop 0).take 40).all (fun q => goodB RX12 false cX12_number q.1 q.2) = true := by decide +kernel
theorem gk_R_number : ∀ q ∈ k_R_number, goodB RX12 false cX12_number q.1 q.2 = true := List.all_eq_true.mp gk_R_number_0
theorem gk_R_isPrime_0 : ((k_R_isPrime.drop 0).take 40).all (fun q => goodB RX12 false cX12_isPrime q.1 q.2) = true := by decide +kernel
theorem gk_R_isPrime : ∀ q ∈ k_R_isPrime, goodB RX12 false cX12_isPrime q.1 q.2 = true := List.all_eq_true.mp gk_R_isPrime_0
theorem gk_R_by_0 : ((k_R_by.drop 0).take 40).all (fun q => goodB RX12 false cX12_by q.1 q.2) = true := by decide +kernel
theorem gk_R_by : ∀ q ∈ k_R_by, goodB RX12 false cX12_by q.1 q.2 = true := List.all_eq_true.mp gk_R_by_0
theorem gk_R_weighs_0 : ((k_R_weighs.drop 0).take 40).all (fun q => goodB RX12 false cX12_weighs q.1 q.2) = true := by decide +kernel
theorem gk_R_weighs_1 : ((k_R_weighs.drop 40).take 40).all (fun q => goodB RX12 false cX12_weighs q.1 q.2) = true := by decide +kernel
theorem gk_R_weighs : ∀ q ∈ k_R_weighs, goodB RX12 false cX12_weighs q.1 q.2 = true := fun q hq => (gk_step k_R_weighs 0 40 gk_R_weighs_0 (gk_step k_R_weighs 40 40 gk_R_weighs_1 (gk_end k_R_weighs 80 (by decide +kernel)))) q hq
theorem gk_R_rounds_0 : ((k_R_rounds.drop 0).take 40).all (fun q => goodB RX12 false cX12_rounds q.1 q.2) = true := by decide +kernel
theorem gk_R_rounds_1 : ((k_R_rounds.drop 40).take 40).all (fun q => goodB RX12 false cX12_rounds q.1 q.2) = true := by decide +kernel
theorem gk_R_rounds : ∀ q ∈ k_R_rounds, goodB RX12 false cX12_rounds q.1 q.2 = true := fun q hq => (gk_step k_R_rounds 0 40 gk_R_rounds_0 (gk_step k_R_rounds 40 40 gk_R_rounds_1 (gk_end k_R_rounds 80 (by decide +kernel)))) q hq
theorem gk_R_grid_0 : ((k_R_grid.drop 0).take 40).all (fun q => goodB RX12 false cX12_grid q.1 q.2) = true := by decide +kernel
theorem gk_R_grid_1 : ((k_R_grid.drop 40).take 40).all (fun q => goodB RX12 false cX12_grid q.1 q.2) = true := by decide +kernel
theorem gk_R_grid_2 : ((k_R_grid.drop 80).take 40).all (fun q => goodB RX12 false cX12_grid q.1 q.2) = true := by decide +kernel
theorem gk_R_grid : ∀ q ∈ k_R_grid, goodB RX12 false cX12_grid q.1 q.2 = true := fun q hq => (gk_step k_R_grid 0 40 gk_R_grid_0 (gk_step k_R_grid 40 40 gk_R_grid_1 (gk_step k_R_grid 80 40 gk_R_grid_2 (gk_end k_R_grid 120 (by decide +kernel))))) q hq
theorem gk_R_rows_0 : ((k_R_rows.drop 0).take 40).all (fun q => goodB RX12 false cX12_rows q.1 q.2) = true := by decide +kernel
theorem gk_R_rows : ∀ q ∈ k_R_rows, goodB RX12 false cX12_rows q.1 q.2 = true := List.all_eq_true.mp gk_R_rows_0
theorem gk_R_after_0 : ((k_R_after.drop 0).take 40).all (fun q => goodB RX12 false cX12_after q.1 q.2) = true := by decide +kernel
theorem gk_R_after_1 : ((k_R_after.drop 40).take 40).all (fun q => goodB RX12 false cX12_after q.1 q.2) = true := by decide +kernel
theorem gk_R_after : ∀ q ∈ k_R_after, goodB RX12 false cX12_after q.1 q.2 = true := fun q hq => (gk_step k_R_after 0 40 gk_R_after_0 (gk_step k_R_after 40 40 gk_R_after_1 (gk_end k_R_after 80 (by decide +kernel)))) q hq
theorem gk_R_count_0 : ((k_R_count.drop 0).take 40).all (fun q => goodB RX12 false cX12_count q.1 q.2) = true := by decide +kernel
theorem gk_R_count : ∀ q ∈ k_R_count, goodB RX12 false cX12_count q.1 q.2 = true := List.all_eq_true.mp gk_R_count_0
theorem gk_Jl_compare_0 : ((k_Jl_compare.drop 0).take 40).all (fun q => goodB RJ13 false cJ13_compare_74951 q.1 q.2) = true := by decide +kernel
theorem gk_Jl_compare : ∀ q ∈ k_Jl_compare, goodB RJ13 false cJ13_compare_74951 q.1 q.2 = true := List.all_eq_true.mp gk_Jl_compare_0
theorem gk_Jm_floorMod_0 : ((k_Jm_floorMod.drop 0).take 40).all (fun q => goodB RJ9 false cJ9_floorMod_7cf53 q.1 q.2) = true := by decide +kernel
theorem gk_Jm_floorMod : ∀ q ∈ k_Jm_floorMod, goodB RJ9 false cJ9_floorMod_7cf53 q.1 q.2 = true := List.all_eq_true.mp gk_Jm_floorMod_0
theorem gk_Jm_abs_0 : ((k_Jm_abs.drop 0).take 40).all (fun q => goodB RJ9 false cJ9_abs_067f4 q.1 q.2) = true := by decide +kernel
theorem gk_Jm_abs : ∀ q ∈ k_Jm_abs, goodB RJ9 false cJ9_abs_067f4 q.1 q.2 = true := List.all_eq_true.mp gk_Jm_abs_0
theorem gk_Jm_min_0 : ((k_Jm_min.drop 0).take 40).all (fun q => goodB RJ9 false cJ9_min_7cf53 q.1 q.2) = true := by decide +kernel
theorem gk_Jm_min : ∀ q ∈ k_Jm_min, goodB RJ9 false cJ9_min_7cf53 q.1 q.2 = true := List.all_eq_true.mp gk_Jm_min_0
theorem gk_Law_law_0 : ((k_Law_law.drop 0).take 40).all (fun q => goodB RL false cL_law q.1 q.2) = true := by decide +kernel
theorem gk_Law_law_1 : ((k_Law_law.drop 40).take 40).all (fun q => goodB RL false cL_law q.1 q.2) = true := by decide +kernel
theorem gk_Law_law_2 : ((k_Law_law.drop 80).take 40).all (fun q => goodB RL false cL_law q.1 q.2) = true := by decide +kernel
theorem gk_Law_law_3 : ((k_Law_law.drop 120).take 40).all (fun q => goodB RL false cL_law q.1 q.2) = true := by decide +kernel
theorem gk_Law_law_4 : ((k_Law_law.drop 160).take 40).all (fun q => goodB RL false cL_law q.1 q.2) = true := by decide +kernel
theorem gk_Law_law_5 : ((k_Law_law.drop 200).take 40).all (fun q => goodB RL false cL_law q.1 q.2) = true := by decide +kernel
theorem gk_Law_law_6 : ((k_Law_law.drop 240).take 40).all (fun q => goodB RL false cL_law q.1 q.2) = true := by decide +kernel
theorem gk_Law_law_7 : ((k_Law_law.drop 280).take 40).all (fun q => goodB RL false cL_law q.1 q.2) = true := by decide +kernel
theorem gk_Law_law_8 : ((k_Law_law.drop 320).take 40).all (fun q => goodB RL false cL_law q.1 q.2) = true := by decide +kernel
theorem gk_Law_law_9 : ((k_Law_law.drop 360).take 40).all (fun q => goodB RL false cL_law q.1 q.2) = true := by decide +kernel
theorem gk_Law_law_10 : ((k_Law_law.drop 400).take 40).all (fun q => goodB RL false cL_law q.1 q.2) = true := by decide +kernel
theorem gk_Law_law : ∀ q ∈ k_Law_law, goodB RL false cL_law q.1 q.2 = true := fun q hq => (gk_step k_Law_law 0 40 gk_Law_law_0 (gk_step k_Law_law 40 40 gk_Law_law_1 (gk_step k_Law_law 80 40 gk_Law_law_2 (gk_step k_Law_law 120 40 gk_Law_law_3 (gk_step k_Law_law 160 40 gk_Law_law_4 (gk_step k_Law_law 200 40 gk_Law_law_5 (gk_step k_Law_law 240 40 gk_Law_law_6 (gk_step k_Law_law 280 40 gk_Law_law_7 (gk_step k_Law_law 320 40 gk_Law_law_8 (gk_step k_Law_law 360 40 gk_Law_law_9 (gk_step k_Law_law 400 40 gk_Law_law_10 (gk_end k_Law_law 440 (by decide +kernel))))))))))))) q hq
end
section
/-! ===== the machine is one-valued; cells and slots only grow ===== -/
def Ext (σ τ : St) : Prop := sN σ ≤ sN τ ∧ sS σ ≤ sS τ ∧ ∀ j, j < sN σ → gT τ j = gT σ j
theorem Ext.rf (σ : St) : Ext σ σ := ⟨Nat.le_refl _, Nat.le_refl _, fun _ _ => rfl⟩
theorem Ext.trans {σ τ υ : St} (h : Ext σ τ) (k : Ext τ υ) : Ext σ υ := ⟨Nat.le_trans h.1 k.1, Nat.le_trans h.2.1 k.2.1, fun j hj => (k.2.2 j (Nat.lt_of_lt_of_le hj h.1)).trans (h.2.2 j hj)⟩
theorem Ext_pI (σ : St) (j k : Nat) (v : Int32) : Ext σ (pI σ j k v) := Ext.rf σ
theorem Ext_pL (σ : St) (j k : Nat) (v : Int64) : Ext σ (pL σ j k v) := Ext.rf σ
theorem Ext_pR (σ : St) (j k : Nat) (v : Nat) : Ext σ (pR σ j k v) := Ext.rf σ
theorem Ext_nw (σ : St) (t n : Nat) : Ext σ (nw σ t n) := ⟨Nat.le_succ _, Nat.le_add_right _ _, fun j hj => by
  show (if j = σ.1 then t else σ.2.2.1 j) = σ.2.2.1 j
  rw [if_neg (show ¬ j = σ.1 from Nat.ne_of_lt hj)]⟩
/-- all successors extend -/
def AE (σ : St) (A : Option Act) : Prop := match A with
  | none => True
  | some (.inl s) => Ext σ s.2.2.2
  | some (.inr (.inl (_, s))) => Ext σ s.2.2.2
  | some (.inr (.inr (.inl (_, _, s)))) => Ext σ s.2.2.2
  | some (.inr (.inr (.inr (.inl (_, s, t))))) => Ext σ s.2.2.2 ∧ Ext σ t.2.2.2
  | some (.inr (.inr (.inr (.inr _)))) => True
theorem AE_qI {σ : St} {st : List AV} {f : Int32 → List AV → Option Act} (h : ∀ x r, AE σ (f x r)) : AE σ (qI st f) := by
  unfold qI
  split
  · exact h _ _
  · trivial
theorem AE_qJ {σ : St} {st : List AV} {f : Int64 → List AV → Option Act} (h : ∀ x r, AE σ (f x r)) : AE σ (qJ st f) := by
  unfold qJ
  split
  · exact h _ _
  · trivial
theorem AE_qR {σ : St} {st : List AV} {f : Nat → Nat → List AV → Option Act} (h : ∀ t j r, AE σ (f t j r)) : AE σ (qR st f) := by
  unfold qR
  split
  · exact h _ _ _
  · trivial
theorem AE_bif {σ : St} {b : Bool} {A : Option Act} (h : AE σ A) : AE σ (bif b then A else none) := by
  cases b
  · trivial
  · exact h
theorem AE_endS {σ : St} {r : List AV} {A : Option Act} (h : AE σ A) : AE σ (endS r A) := by
  cases r
  · exact h
  · trivial
theorem AE_qO {σ : St} {t : Nat} {st : List AV} {f : Nat → List AV → Option Act} (h : ∀ j r, AE σ (f j r)) : AE σ (qO t st f) := by
  unfold qO
  split
  · exact AE_bif (h _ _)
  · trivial
theorem AE_pops {σ : St} {f : List AV → List AV → Option Act} (h : ∀ a r, AE σ (f a r)) : ∀ (n : Nat) (acc st : List AV), AE σ (pops n acc st f)
  | 0, acc, st => h acc st
  | _ + 1, _, [] => trivial
  | n + 1, acc, v :: st => AE_pops h n (v :: acc) st
set_option maxHeartbeats 4000000 in
theorem actAE (lay : Nat → Nat → Nat) (rt : Nat) (e : En) (ls st : List AV) (σ : St) : AE σ (act lay rt e ls st σ) := by
  unfold act
  dsimp only
  split <;> first
    | exact Ext.rf σ
    | exact Ext_nw σ _ _
    | trivial
    | (refine AE_qI fun _ _ => ?_; first | exact Ext.rf σ | exact Ext_nw σ _ _ | exact ⟨Ext.rf σ, Ext.rf σ⟩ | trivial | (refine AE_qI fun _ _ => ?_; first | exact Ext.rf σ | exact ⟨Ext.rf σ, Ext.rf σ⟩ | (refine AE_qO fun _ _ => ?_; exact Ext.rf σ) | (refine AE_qR fun _ _ _ => ?_; split <;> first | exact Ext.rf σ | trivial)) | (refine AE_qJ fun _ _ => ?_; exact Ext.rf σ) | (refine AE_qO fun _ _ => ?_; exact Ext.rf σ) | (refine AE_qR fun _ _ _ => ?_; split <;> first | exact Ext.rf σ | trivial) | (refine AE_endS ?_; split <;> trivial))
    | (refine AE_qJ fun _ _ => ?_; first | exact Ext.rf σ | (refine AE_qJ fun _ _ => ?_; exact Ext.rf σ) | (refine AE_qI fun _ _ => ?_; refine AE_qO fun _ _ => ?_; exact Ext.rf σ) | (refine AE_endS ?_; split <;> trivial))
    | (refine AE_qR fun _ _ _ => ?_; first | exact Ext.rf σ | exact ⟨Ext.rf σ, Ext.rf σ⟩ | (refine AE_bif ?_; exact Ext.rf σ) | (refine AE_qI fun _ _ => ?_; refine AE_qR fun _ _ _ => ?_; refine AE_bif ?_; exact Ext.rf σ) | (refine AE_endS ?_; split <;> first | trivial | exact AE_bif trivial))
    | (refine AE_endS ?_; split <;> trivial)
    | (refine AE_qO fun _ _ => ?_; exact Ext.rf σ)
    | (refine AE_pops (fun _ _ => ?_) _ _ _; first | exact AE_bif trivial | (split <;> first | trivial | exact AE_bif trivial))
    | (split <;> first
        | trivial
        | exact AE_bif (Ext.rf σ)
        | (refine AE_qI fun _ _ => ?_; refine AE_qO fun _ _ => ?_; exact Ext.rf σ)
        | (refine AE_qJ fun _ _ => ?_; refine AE_qO fun _ _ => ?_; exact Ext.rf σ)
        | (refine AE_qO fun _ _ => ?_; refine AE_qO fun _ _ => ?_; exact Ext.rf σ)
        | (refine AE_qR fun _ _ _ => ?_; refine AE_bif ?_; exact Ext.rf σ)
        | (refine AE_pops (fun _ _ => ?_) _ _ _; split <;> first | trivial | exact AE_bif trivial))
def eqQ (v : Option AV) (τ : St) (w : Option AV) (υ : St) : Prop := w = v ∧ υ = τ
def DetCl (cl : CLT) : Prop := ∀ (mid : Nat) (args : List AV) (σ : St) (Q : Option AV → St → Prop), cl mid args σ Q → ∃ (v : Option AV) (τ : St), Q v τ ∧ Ext σ τ ∧ cl mid args σ (eqQ v τ)
theorem swt_det {K : Nat → Prop} {x : Int32} {d : Nat} : ∀ {tb : List (Int32 × Nat)}, swt K x d tb → ∃ p, K p ∧ ∀ K' : Nat → Prop, K' p → swt K' x d tb
  | [], h => ⟨d, h, fun _ h' => h'⟩
  | q :: r, h => by
    by_cases e : x = q.1
    · exact ⟨q.2, h.1 e, fun K' h' => ⟨fun _ => h', fun z => absurd e z⟩⟩
    · obtain ⟨p, h1, h2⟩ := swt_det (h.2 e)
      exact ⟨p, h1, fun K' h' => ⟨fun z => absurd z e, fun _ => h2 K' h'⟩⟩
theorem ctn_det {rt nx : Nat} {ls rest : List AV} {K : S4 → Prop} {v : Option AV} {τ : St} (h : ctn rt nx ls rest K v τ) : ∃ st', K (nx, ls, st', τ) ∧ (∀ K' : S4 → Prop, K' (nx, ls, st', τ) → ctn rt nx ls rest K' v τ) ∧ st' = v.toList ++ rest := by
  match rt, h with
  | 0, h => match v, h with
    | none, h => exact ⟨_, h, fun _ h' => h', rfl⟩
  | 1, h => match v, h with
    | some (.inr (.inl r)), h => exact ⟨_, h, fun _ h' => h', rfl⟩
  | 2, h => match v, h with
    | some (.inr (.inl r)), h => exact ⟨_, h, fun _ h' => h', rfl⟩
  | 3, h => match v, h with
    | some (.inr (.inr (.inl r))), h => exact ⟨_, h, fun _ h' => h', rfl⟩
  | t + 4, h => match v, h with
    | some (.inr (.inr (.inr (t', j)))), h =>
      obtain ⟨rfl, h⟩ := h
      exact ⟨_, h, fun _ h' => ⟨rfl, h'⟩, rfl⟩
theorem Wp.det {lay : Nat → Nat → Nat} {rtm : Nat → Nat} {cl : CLT} (hm : Mono cl) (hd : DetCl cl) {cd : List (Nat × En)} {rt : Nat} {Q : Option AV → St → Prop} {s : S4} (h : Wp lay rtm cl cd rt Q s) : ∃ (v : Option AV) (τ : St), Q v τ ∧ Ext s.2.2.2 τ ∧ Wp lay rtm cl cd rt (eqQ v τ) s := by
  refine h (fun s => ∃ (v : Option AV) (τ : St), Q v τ ∧ Ext s.2.2.2 τ ∧ Wp lay rtm cl cd rt (eqQ v τ) s) (fun s hs => ?_)
  have fold : ∀ (v : Option AV) (τ : St), stepS lay rtm cl cd rt (eqQ v τ) (Wp lay rtm cl cd rt (eqQ v τ)) s → Wp lay rtm cl cd rt (eqQ v τ) s := fun _ _ q => Wp.fold hm q
  unfold stepS at hs fold
  cases h1 : lk cd s.1 with
  | none => rw [h1] at hs; exact absurd hs id
  | some e =>
    rw [h1] at hs fold
    dsimp only at hs fold
    have hae := actAE lay rt e s.2.1 s.2.2.1 s.2.2.2
    cases h2 : act lay rt e s.2.1 s.2.2.1 s.2.2.2 with
    | none => rw [h2] at hs; exact absurd hs id
    | some A =>
      rw [h2] at hs fold hae
      dsimp only at hs fold
      match A, hs, fold, hae with
      | .inl s', hs, fold, hae =>
        obtain ⟨v, τ, q, x, w⟩ := hs
        exact ⟨v, τ, q, Ext.trans hae x, fold _ _ w⟩
      | .inr (.inl (j, s')), hs, fold, hae =>
        obtain ⟨hj, v, τ, q, x, w⟩ := nn_to hs
        exact ⟨v, τ, q, Ext.trans hae x, fold _ _ (nn_of hj w)⟩
      | .inr (.inr (.inl (j, ob, s'))), hs, fold, hae =>
        obtain ⟨hj, ho, v, τ, q, x, w⟩ := nn_to hs
        exact ⟨v, τ, q, Ext.trans hae x, fold _ _ (nn_of hj ⟨ho, w⟩)⟩
      | .inr (.inr (.inr (.inl (c, s', t')))), hs, fold, hae =>
        by_cases hc : c
        · obtain ⟨v, τ, q, x, w⟩ := hs.1 hc
          exact ⟨v, τ, q, Ext.trans hae.1 x, fold _ _ ⟨fun _ => w, fun z => absurd hc z⟩⟩
        · obtain ⟨v, τ, q, x, w⟩ := hs.2 hc
          exact ⟨v, τ, q, Ext.trans hae.2 x, fold _ _ ⟨fun z => absurd z hc, fun _ => w⟩⟩
      | .inr (.inr (.inr (.inr (.inl (x, tb, d, ls, st))))), hs, fold, hae =>
        obtain ⟨p, ⟨v, τ, q, x, w⟩, h3⟩ := swt_det hs
        exact ⟨v, τ, q, x, fold _ _ (h3 _ w)⟩
      | .inr (.inr (.inr (.inr (.inr (.inl (j, mid, args, rest)))))), hs, fold, hae =>
        obtain ⟨hj, hc⟩ := nn_to hs
        obtain ⟨v1, τ1, hk, hx1, hc1⟩ := hd _ _ _ _ hc
        obtain ⟨st', ⟨v, τ, q, x, w⟩, hk2, -⟩ := ctn_det hk
        refine ⟨v, τ, q, Ext.trans hx1 x, fold _ _ (nn_of hj (hm _ _ _ _ _ (fun w' υ e => ?_) hc1))⟩
        obtain ⟨rfl, rfl⟩ := e
        exact hk2 _ w
      | .inr (.inr (.inr (.inr (.inr (.inr (.inl v)))))), hs, fold, hae =>
        exact ⟨v, _, hs, Ext.rf _, fold _ _ ⟨rfl, rfl⟩⟩
      | .inr (.inr (.inr (.inr (.inr (.inr (.inr (ob, v))))))), hs, fold, hae =>
        exact ⟨v, _, hs.2, Ext.rf _, fold _ _ ⟨hs.1, rfl, rfl⟩⟩
theorem Cl_det (lay : Nat → Nat → Nat) : ∀ d : Nat, DetCl (Cl lay d)
  | 0 => fun _ _ _ _ h => absurd h id
  | d + 1 => fun mid args σ Q h => by
    unfold Cl at h
    cases hb : Nat.ble (catS args) (mlOf mid) with
    | false => rw [hb] at h; exact absurd h id
    | true =>
      rw [hb] at h
      obtain ⟨v, τ, h1, h2, h3⟩ := Wp.det (Cl_mono lay d) (Cl_det lay d) h
      refine ⟨v, τ, h1, h2, ?_⟩
      unfold Cl
      rw [hb]
      exact h3
end
section
/-! ===== what the tables say of every method ===== -/
def cpL : List Nat := [194, 451, 661, 734, 759, 711, 619, 332, 599, 821, 825, 843, 832, 839, 847, 855, 546, 268, 648, 246, 688, 783, 653, 755, 640, 636, 705, 742, 723, 751, 763, 795, 808, 696, 692, 730, 771, 787, 800, 462, 83, 396, 586, 590, 441, 506, 486, 498, 510, 514, 524, 520, 445, 566, 570, 574, 578, 533, 537, 252, 644, 676, 684, 665, 767, 657, 680, 669, 186, 611, 627, 779, 615, 594, 119, 502, 482, 528, 541, 89, 388, 582, 400, 404, 412, 408, 422, 433, 494, 490, 426, 415, 418, 429, 437, 75, 384, 392, 603, 607, 623, 632, 701, 719, 738, 747, 775, 791, 804, 812, 851, 859, 864, 815, 457, 869, 1030, 1026, 1042, 1047, 1039, 1073, 1053, 1081, 1069, 1060, 1093, 1088, 1077, 1057, 1035, 1098, 1106, 1111, 1204, 1102, 1115, 1084, 1150, 1146, 1156, 1196, 1134, 1142, 1138, 1192, 1130, 1126, 1164, 1121, 1160, 1172, 1168, 1176, 1180, 1188, 1184, 1200, 1208, 1212, 1219, 1228, 1225, 1232, 1216, 1236, 1240, 1245, 714, 828, 454, 835, 0]
def ipL : List Nat := [61, 61, 61, 61, 61, 61, 61, 65, 65, 65, 65, 65, 65, 65, 65, 65, 69, 64, 64, 62, 62, 62, 62, 62, 62, 62, 62, 62, 62, 62, 62, 62, 62, 62, 62, 62, 62, 62, 62, 68, 57, 57, 57, 57, 57, 57, 57, 57, 57, 57, 57, 57, 57, 57, 57, 57, 57, 57, 57, 63, 63, 63, 63, 63, 63, 63, 63, 63, 60, 60, 60, 60, 60, 60, 59, 59, 59, 59, 59, 58, 58, 58, 58, 58, 58, 58, 58, 58, 58, 58, 58, 58, 58, 58, 58, 56, 56, 56, 56, 56, 56, 56, 56, 56, 56, 56, 56, 56, 56, 56, 56, 56, 56, 56, 56, 66, 66, 66, 66, 66, 66, 66, 66, 66, 66, 66, 66, 66, 66, 66, 66, 66, 66, 66, 66, 66, 66, 66, 66, 66, 66, 66, 66, 66, 66, 66, 66, 66, 66, 66, 66, 66, 66, 66, 66, 66, 66, 66, 66, 66, 66, 66, 66, 66, 66, 66, 66, 66, 70, 67, 67, 67, 55]
def retOK (rt : Nat) (r : Option FieldType) : Bool := match rt with
  | 0 => decide (r = none)
  | 1 => decide (r = some .int)
  | 2 => decide (r = some .boolean)
  | 3 => decide (r = some .long)
  | _ => (match r with
    | some (.object _) => true
    | some (.array _) => true
    | _ => false)
def mChk (mid : Nat) : Bool := decide ((yOf mid).cls ≠ "java/lang/invoke/MethodHandle" ∧ (yOf mid).cls ≠ "java/lang/invoke/VarHandle") && (nPar (yOf mid) (nthN npL mid) && (gw (nthN ipL mid) (.initialized (yOf mid).cls) && (retOK (rtOf mid) (retOf mid) && Nat.ble (mlOf mid) 20)))
def stOK (n : Nat) (e : En) : Bool := match e.1 with
  | .istore_n _ => Nat.ble (e.2.2.1.1 + 1) n
  | .istore _ => Nat.ble (e.2.2.1.1 + 1) n
  | .astore_n _ => Nat.ble (e.2.2.1.1 + 1) n
  | .astore _ => Nat.ble (e.2.2.1.1 + 1) n
  | .iinc _ _ => Nat.ble (e.2.2.1.1 + 1) n
  | .lstore_n _ => Nat.ble (e.2.2.1.1 + 2) n
  | .lstore _ => Nat.ble (e.2.2.1.1 + 2) n
  | _ => true
theorem mChk_0 : ((List.range 20).map (· + 0)).all (fun m => !(Nat.ble (m + 1) 172) || mChk m) = true := by decide +kernel
theorem mChk_20 : ((List.range 20).map (· + 20)).all (fun m => !(Nat.ble (m + 1) 172) || mChk m) = true := by decide +kernel
theorem mChk_40 : ((List.range 20).map (· + 40)).all (fun m => !(Nat.ble (m + 1) 172) || mChk m) = true := by decide +kernel
theorem mChk_60 : ((List.range 20).map (· + 60)).all (fun m => !(Nat.ble (m + 1) 172) || mChk m) = true := by decide +kernel
theorem mChk_80 : ((List.range 20).map (· + 80)).all (fun m => !(Nat.ble (m + 1) 172) || mChk m) = true := by decide +kernel
theorem mChk_100 : ((List.range 20).map (· + 100)).all (fun m => !(Nat.ble (m + 1) 172) || mChk m) = true := by decide +kernel
theorem mChk_120 : ((List.range 20).map (· + 120)).all (fun m => !(Nat.ble (m + 1) 172) || mChk m) = true := by decide +kernel
theorem mChk_140 : ((List.range 20).map (· + 140)).all (fun m => !(Nat.ble (m + 1) 172) || mChk m) = true := by decide +kernel
theorem mChk_160 : ((List.range 20).map (· + 160)).all (fun m => !(Nat.ble (m + 1) 172) || mChk m) = true := by decide +kernel
theorem mChk_ok : ∀ m, m < 172 → mChk m = true := by
  intro m hm
  have key : ∀ a, ((List.range 20).map (· + a)).all (fun m => !(Nat.ble (m + 1) 172) || mChk m) = true → a ≤ m → m < a + 20 → mChk m = true := by
    intro a h h1 h2
    have h3 := List.all_eq_true.mp h m (List.mem_map.mpr ⟨m - a, List.mem_range.mpr (by omega), by omega⟩)
    have h4 : Nat.ble (m + 1) 172 = true := Nat.ble_eq.mpr hm
    rw [h4] at h3
    simpa using h3
  by_cases c0 : m < 20
  · exact key 0 mChk_0 (by omega) (by omega)
  by_cases c20 : m < 40
  · exact key 20 mChk_20 (by omega) (by omega)
  by_cases c40 : m < 60
  · exact key 40 mChk_40 (by omega) (by omega)
  by_cases c60 : m < 80
  · exact key 60 mChk_60 (by omega) (by omega)
  by_cases c80 : m < 100
  · exact key 80 mChk_80 (by omega) (by omega)
  by_cases c100 : m < 120
  · exact key 100 mChk_100 (by omega) (by omega)
  by_cases c120 : m < 140
  · exact key 120 mChk_120 (by omega) (by omega)
  by_cases c140 : m < 160
  · exact key 140 mChk_140 (by omega) (by omega)
  exact key 160 mChk_160 (by omega) (by omega)
theorem stOK_ok : (List.range 173).all (fun m => (cdOf m).all (fun q => stOK (mlOf m) q.2)) = true := by decide +kernel
def iniOf (mid : Nat) : Bool := decide ((yOf mid).name = "<init>")
theorem gm_Fr_init : ∀ q ∈ cdOf 0, goodB (yOf 0).cls (iniOf 0) (byOf 0) q.1 q.2 = true := gk_Fr_init
theorem gm_Fr_put : ∀ q ∈ cdOf 1, goodB (yOf 1).cls (iniOf 1) (byOf 1) q.1 q.2 = true := gk_Fr_put
theorem gm_Fr_copy : ∀ q ∈ cdOf 2, goodB (yOf 2).cls (iniOf 2) (byOf 2) q.1 q.2 = true := gk_Fr_copy
theorem gm_Fr_negate : ∀ q ∈ cdOf 3, goodB (yOf 3).cls (iniOf 3) (byOf 3) q.1 q.2 = true := gk_Fr_negate
theorem gm_Fr_isZero : ∀ q ∈ cdOf 4, goodB (yOf 4).cls (iniOf 4) (byOf 4) q.1 q.2 = true := gk_Fr_isZero
theorem gm_Fr_compareToWhole : ∀ q ∈ cdOf 5, goodB (yOf 5).cls (iniOf 5) (byOf 5) q.1 q.2 = true := gk_Fr_compareToWhole
theorem gm_Fr_side : ∀ q ∈ cdOf 6, goodB (yOf 6).cls (iniOf 6) (byOf 6) q.1 q.2 = true := gk_Fr_side
theorem gm_La_init : ∀ q ∈ cdOf 7, goodB (yOf 7).cls (iniOf 7) (byOf 7) q.1 q.2 = true := gk_La_init
theorem gm_La_forget : ∀ q ∈ cdOf 8, goodB (yOf 8).cls (iniOf 8) (byOf 8) q.1 q.2 = true := gk_La_forget
theorem gm_La_prepare : ∀ q ∈ cdOf 9, goodB (yOf 9).cls (iniOf 9) (byOf 9) q.1 q.2 = true := gk_La_prepare
theorem gm_La_inverse : ∀ q ∈ cdOf 10, goodB (yOf 10).cls (iniOf 10) (byOf 10) q.1 q.2 = true := gk_La_inverse
theorem gm_La_next : ∀ q ∈ cdOf 11, goodB (yOf 11).cls (iniOf 11) (byOf 11) q.1 q.2 = true := gk_La_next
theorem gm_La_followAll : ∀ q ∈ cdOf 12, goodB (yOf 12).cls (iniOf 12) (byOf 12) q.1 q.2 = true := gk_La_followAll
theorem gm_La_follow : ∀ q ∈ cdOf 13, goodB (yOf 13).cls (iniOf 13) (byOf 13) q.1 q.2 = true := gk_La_follow
theorem gm_La_noteCycle : ∀ q ∈ cdOf 14, goodB (yOf 14).cls (iniOf 14) (byOf 14) q.1 q.2 = true := gk_La_noteCycle
theorem gm_La_fact : ∀ q ∈ cdOf 15, goodB (yOf 15).cls (iniOf 15) (byOf 15) q.1 q.2 = true := gk_La_fact
theorem gm_Li_init : ∀ q ∈ cdOf 16, goodB (yOf 16).cls (iniOf 16) (byOf 16) q.1 q.2 = true := gk_Li_init
theorem gm_Mo_init : ∀ q ∈ cdOf 17, goodB (yOf 17).cls (iniOf 17) (byOf 17) q.1 q.2 = true := gk_Mo_init
theorem gm_Mo_put : ∀ q ∈ cdOf 18, goodB (yOf 18).cls (iniOf 18) (byOf 18) q.1 q.2 = true := gk_Mo_put
theorem gm_Op_init : ∀ q ∈ cdOf 19, goodB (yOf 19).cls (iniOf 19) (byOf 19) q.1 q.2 = true := gk_Op_init
theorem gm_Op_isBig : ∀ q ∈ cdOf 20, goodB (yOf 20).cls (iniOf 20) (byOf 20) q.1 q.2 = true := gk_Op_isBig
theorem gm_Op_onlyKick : ∀ q ∈ cdOf 21, goodB (yOf 21).cls (iniOf 21) (byOf 21) q.1 q.2 = true := gk_Op_onlyKick
theorem gm_Op_lead : ∀ q ∈ cdOf 22, goodB (yOf 22).cls (iniOf 22) (byOf 22) q.1 q.2 = true := gk_Op_lead
theorem gm_Op_giveKick : ∀ q ∈ cdOf 23, goodB (yOf 23).cls (iniOf 23) (byOf 23) q.1 q.2 = true := gk_Op_giveKick
theorem gm_Op_beginTable : ∀ q ∈ cdOf 24, goodB (yOf 24).cls (iniOf 24) (byOf 24) q.1 q.2 = true := gk_Op_beginTable
theorem gm_Op_reckonTable : ∀ q ∈ cdOf 25, goodB (yOf 25).cls (iniOf 25) (byOf 25) q.1 q.2 = true := gk_Op_reckonTable
theorem gm_Op_stability : ∀ q ∈ cdOf 26, goodB (yOf 26).cls (iniOf 26) (byOf 26) q.1 q.2 = true := gk_Op_stability
theorem gm_Op_roundsUntilBack : ∀ q ∈ cdOf 27, goodB (yOf 27).cls (iniOf 27) (byOf 27) q.1 q.2 = true := gk_Op_roundsUntilBack
theorem gm_Op_reckonMiddleWidth : ∀ q ∈ cdOf 28, goodB (yOf 28).cls (iniOf 28) (byOf 28) q.1 q.2 = true := gk_Op_reckonMiddleWidth
theorem gm_Op_closeWay : ∀ q ∈ cdOf 29, goodB (yOf 29).cls (iniOf 29) (byOf 29) q.1 q.2 = true := gk_Op_closeWay
theorem gm_Op_solveClosed : ∀ q ∈ cdOf 30, goodB (yOf 30).cls (iniOf 30) (byOf 30) q.1 q.2 = true := gk_Op_solveClosed
theorem gm_Op_closeBump : ∀ q ∈ cdOf 31, goodB (yOf 31).cls (iniOf 31) (byOf 31) q.1 q.2 = true := gk_Op_closeBump
theorem gm_Op_hasTold : ∀ q ∈ cdOf 32, goodB (yOf 32).cls (iniOf 32) (byOf 32) q.1 q.2 = true := gk_Op_hasTold
theorem gm_Op_tell : ∀ q ∈ cdOf 33, goodB (yOf 33).cls (iniOf 33) (byOf 33) q.1 q.2 = true := gk_Op_tell
theorem gm_Op_tellTable : ∀ q ∈ cdOf 34, goodB (yOf 34).cls (iniOf 34) (byOf 34) q.1 q.2 = true := gk_Op_tellTable
theorem gm_Op_tellWidths : ∀ q ∈ cdOf 35, goodB (yOf 35).cls (iniOf 35) (byOf 35) q.1 q.2 = true := gk_Op_tellWidths
theorem gm_Op_tellWay : ∀ q ∈ cdOf 36, goodB (yOf 36).cls (iniOf 36) (byOf 36) q.1 q.2 = true := gk_Op_tellWay
theorem gm_Op_tellWayX : ∀ q ∈ cdOf 37, goodB (yOf 37).cls (iniOf 37) (byOf 37) q.1 q.2 = true := gk_Op_tellWayX
theorem gm_Op_tellBump : ∀ q ∈ cdOf 38, goodB (yOf 38).cls (iniOf 38) (byOf 38) q.1 q.2 = true := gk_Op_tellBump
theorem gm_Pa_init : ∀ q ∈ cdOf 39, goodB (yOf 39).cls (iniOf 39) (byOf 39) q.1 q.2 = true := gk_Pa_init
theorem gm_Re_init : ∀ q ∈ cdOf 40, goodB (yOf 40).cls (iniOf 40) (byOf 40) q.1 q.2 = true := gk_Re_init
theorem gm_Re_findFault : ∀ q ∈ cdOf 41, goodB (yOf 41).cls (iniOf 41) (byOf 41) q.1 q.2 = true := gk_Re_findFault
theorem gm_Re_faultPlace : ∀ q ∈ cdOf 42, goodB (yOf 42).cls (iniOf 42) (byOf 42) q.1 q.2 = true := gk_Re_faultPlace
theorem gm_Re_lastLine : ∀ q ∈ cdOf 43, goodB (yOf 43).cls (iniOf 43) (byOf 43) q.1 q.2 = true := gk_Re_lastLine
theorem gm_Re_take : ∀ q ∈ cdOf 44, goodB (yOf 44).cls (iniOf 44) (byOf 44) q.1 q.2 = true := gk_Re_take
theorem gm_Re_takeAlone : ∀ q ∈ cdOf 45, goodB (yOf 45).cls (iniOf 45) (byOf 45) q.1 q.2 = true := gk_Re_takeAlone
theorem gm_Re_takeLineName : ∀ q ∈ cdOf 46, goodB (yOf 46).cls (iniOf 46) (byOf 46) q.1 q.2 = true := gk_Re_takeLineName
theorem gm_Re_lineOf : ∀ q ∈ cdOf 47, goodB (yOf 47).cls (iniOf 47) (byOf 47) q.1 q.2 = true := gk_Re_lineOf
theorem gm_Re_takeItem : ∀ q ∈ cdOf 48, goodB (yOf 48).cls (iniOf 48) (byOf 48) q.1 q.2 = true := gk_Re_takeItem
theorem gm_Re_takeTimes : ∀ q ∈ cdOf 49, goodB (yOf 49).cls (iniOf 49) (byOf 49) q.1 q.2 = true := gk_Re_takeTimes
theorem gm_Re_takeToldName : ∀ q ∈ cdOf 50, goodB (yOf 50).cls (iniOf 50) (byOf 50) q.1 q.2 = true := gk_Re_takeToldName
theorem gm_Re_beginPart : ∀ q ∈ cdOf 51, goodB (yOf 51).cls (iniOf 51) (byOf 51) q.1 q.2 = true := gk_Re_beginPart
theorem gm_Re_endPart : ∀ q ∈ cdOf 52, goodB (yOf 52).cls (iniOf 52) (byOf 52) q.1 q.2 = true := gk_Re_endPart
theorem gm_Re_takeMinusOrNumber : ∀ q ∈ cdOf 53, goodB (yOf 53).cls (iniOf 53) (byOf 53) q.1 q.2 = true := gk_Re_takeMinusOrNumber
theorem gm_Re_takeAbove : ∀ q ∈ cdOf 54, goodB (yOf 54).cls (iniOf 54) (byOf 54) q.1 q.2 = true := gk_Re_takeAbove
theorem gm_Re_takeBelow : ∀ q ∈ cdOf 55, goodB (yOf 55).cls (iniOf 55) (byOf 55) q.1 q.2 = true := gk_Re_takeBelow
theorem gm_Re_takeOpen : ∀ q ∈ cdOf 56, goodB (yOf 56).cls (iniOf 56) (byOf 56) q.1 q.2 = true := gk_Re_takeOpen
theorem gm_Re_closes : ∀ q ∈ cdOf 57, goodB (yOf 57).cls (iniOf 57) (byOf 57) q.1 q.2 = true := gk_Re_closes
theorem gm_Re_takeClose : ∀ q ∈ cdOf 58, goodB (yOf 58).cls (iniOf 58) (byOf 58) q.1 q.2 = true := gk_Re_takeClose
theorem gm_Rk_init : ∀ q ∈ cdOf 59, goodB (yOf 59).cls (iniOf 59) (byOf 59) q.1 q.2 = true := gk_Rk_init
theorem gm_Rk_begin : ∀ q ∈ cdOf 60, goodB (yOf 60).cls (iniOf 60) (byOf 60) q.1 q.2 = true := gk_Rk_begin
theorem gm_Rk_plus : ∀ q ∈ cdOf 61, goodB (yOf 61).cls (iniOf 61) (byOf 61) q.1 q.2 = true := gk_Rk_plus
theorem gm_Rk_minus : ∀ q ∈ cdOf 62, goodB (yOf 62).cls (iniOf 62) (byOf 62) q.1 q.2 = true := gk_Rk_minus
theorem gm_Rk_times : ∀ q ∈ cdOf 63, goodB (yOf 63).cls (iniOf 63) (byOf 63) q.1 q.2 = true := gk_Rk_times
theorem gm_Rk_over : ∀ q ∈ cdOf 64, goodB (yOf 64).cls (iniOf 64) (byOf 64) q.1 q.2 = true := gk_Rk_over
theorem gm_Rk_plusProduct : ∀ q ∈ cdOf 65, goodB (yOf 65).cls (iniOf 65) (byOf 65) q.1 q.2 = true := gk_Rk_plusProduct
theorem gm_Rk_minusProduct : ∀ q ∈ cdOf 66, goodB (yOf 66).cls (iniOf 66) (byOf 66) q.1 q.2 = true := gk_Rk_minusProduct
theorem gm_Rk_settle : ∀ q ∈ cdOf 67, goodB (yOf 67).cls (iniOf 67) (byOf 67) q.1 q.2 = true := gk_Rk_settle
theorem gm_Ri_init : ∀ q ∈ cdOf 68, goodB (yOf 68).cls (iniOf 68) (byOf 68) q.1 q.2 = true := gk_Ri_init
theorem gm_Ri_hasPart : ∀ q ∈ cdOf 69, goodB (yOf 69).cls (iniOf 69) (byOf 69) q.1 q.2 = true := gk_Ri_hasPart
theorem gm_Ri_hasKick : ∀ q ∈ cdOf 70, goodB (yOf 70).cls (iniOf 70) (byOf 70) q.1 q.2 = true := gk_Ri_hasKick
theorem gm_Ri_hasLook : ∀ q ∈ cdOf 71, goodB (yOf 71).cls (iniOf 71) (byOf 71) q.1 q.2 = true := gk_Ri_hasLook
theorem gm_Ri_strengthAt : ∀ q ∈ cdOf 72, goodB (yOf 72).cls (iniOf 72) (byOf 72) q.1 q.2 = true := gk_Ri_strengthAt
theorem gm_Ri_become : ∀ q ∈ cdOf 73, goodB (yOf 73).cls (iniOf 73) (byOf 73) q.1 q.2 = true := gk_Ri_become
theorem gm_Ro_init : ∀ q ∈ cdOf 74, goodB (yOf 74).cls (iniOf 74) (byOf 74) q.1 q.2 = true := gk_Ro_init
theorem gm_Ro_clear : ∀ q ∈ cdOf 75, goodB (yOf 75).cls (iniOf 75) (byOf 75) q.1 q.2 = true := gk_Ro_clear
theorem gm_Ro_add : ∀ q ∈ cdOf 76, goodB (yOf 76).cls (iniOf 76) (byOf 76) q.1 q.2 = true := gk_Ro_add
theorem gm_Ro_addLine : ∀ q ∈ cdOf 77, goodB (yOf 77).cls (iniOf 77) (byOf 77) q.1 q.2 = true := gk_Ro_addLine
theorem gm_Ro_repeat : ∀ q ∈ cdOf 78, goodB (yOf 78).cls (iniOf 78) (byOf 78) q.1 q.2 = true := gk_Ro_repeat
theorem gm_Te_init : ∀ q ∈ cdOf 79, goodB (yOf 79).cls (iniOf 79) (byOf 79) q.1 q.2 = true := gk_Te_init
theorem gm_Te_append : ∀ q ∈ cdOf 80, goodB (yOf 80).cls (iniOf 80) (byOf 80) q.1 q.2 = true := gk_Te_append
theorem gm_Te_empty : ∀ q ∈ cdOf 81, goodB (yOf 81).cls (iniOf 81) (byOf 81) q.1 q.2 = true := gk_Te_empty
theorem gm_Te_rewind : ∀ q ∈ cdOf 82, goodB (yOf 82).cls (iniOf 82) (byOf 82) q.1 q.2 = true := gk_Te_rewind
theorem gm_Te_advance : ∀ q ∈ cdOf 83, goodB (yOf 83).cls (iniOf 83) (byOf 83) q.1 q.2 = true := gk_Te_advance
theorem gm_Te_signAt : ∀ q ∈ cdOf 84, goodB (yOf 84).cls (iniOf 84) (byOf 84) q.1 q.2 = true := gk_Te_signAt
theorem gm_Te_skipBlanks : ∀ q ∈ cdOf 85, goodB (yOf 85).cls (iniOf 85) (byOf 85) q.1 q.2 = true := gk_Te_skipBlanks
theorem gm_Te_takeName : ∀ q ∈ cdOf 86, goodB (yOf 86).cls (iniOf 86) (byOf 86) q.1 q.2 = true := gk_Te_takeName
theorem gm_Te_takeNumber : ∀ q ∈ cdOf 87, goodB (yOf 87).cls (iniOf 87) (byOf 87) q.1 q.2 = true := gk_Te_takeNumber
theorem gm_Te_isName : ∀ q ∈ cdOf 88, goodB (yOf 88).cls (iniOf 88) (byOf 88) q.1 q.2 = true := gk_Te_isName
theorem gm_Te_isKindLetter : ∀ q ∈ cdOf 89, goodB (yOf 89).cls (iniOf 89) (byOf 89) q.1 q.2 = true := gk_Te_isKindLetter
theorem gm_Te_letterWorth : ∀ q ∈ cdOf 90, goodB (yOf 90).cls (iniOf 90) (byOf 90) q.1 q.2 = true := gk_Te_letterWorth
theorem gm_Te_isBlank : ∀ q ∈ cdOf 91, goodB (yOf 91).cls (iniOf 91) (byOf 91) q.1 q.2 = true := gk_Te_isBlank
theorem gm_Te_isLetter : ∀ q ∈ cdOf 92, goodB (yOf 92).cls (iniOf 92) (byOf 92) q.1 q.2 = true := gk_Te_isLetter
theorem gm_Te_isFigure : ∀ q ∈ cdOf 93, goodB (yOf 93).cls (iniOf 93) (byOf 93) q.1 q.2 = true := gk_Te_isFigure
theorem gm_Te_standsAlone : ∀ q ∈ cdOf 94, goodB (yOf 94).cls (iniOf 94) (byOf 94) q.1 q.2 = true := gk_Te_standsAlone
theorem gm_C_init : ∀ q ∈ cdOf 95, goodB (yOf 95).cls (iniOf 95) (byOf 95) q.1 q.2 = true := gk_C_init
theorem gm_C_feed : ∀ q ∈ cdOf 96, goodB (yOf 96).cls (iniOf 96) (byOf 96) q.1 q.2 = true := gk_C_feed
theorem gm_C_read : ∀ q ∈ cdOf 97, goodB (yOf 97).cls (iniOf 97) (byOf 97) q.1 q.2 = true := gk_C_read
theorem gm_C_place : ∀ q ∈ cdOf 98, goodB (yOf 98).cls (iniOf 98) (byOf 98) q.1 q.2 = true := gk_C_place
theorem gm_C_part : ∀ q ∈ cdOf 99, goodB (yOf 99).cls (iniOf 99) (byOf 99) q.1 q.2 = true := gk_C_part
theorem gm_C_kick : ∀ q ∈ cdOf 100, goodB (yOf 100).cls (iniOf 100) (byOf 100) q.1 q.2 = true := gk_C_kick
theorem gm_C_table : ∀ q ∈ cdOf 101, goodB (yOf 101).cls (iniOf 101) (byOf 101) q.1 q.2 = true := gk_C_table
theorem gm_C_round : ∀ q ∈ cdOf 102, goodB (yOf 102).cls (iniOf 102) (byOf 102) q.1 q.2 = true := gk_C_round
theorem gm_C_widths : ∀ q ∈ cdOf 103, goodB (yOf 103).cls (iniOf 103) (byOf 103) q.1 q.2 = true := gk_C_widths
theorem gm_C_turns : ∀ q ∈ cdOf 104, goodB (yOf 104).cls (iniOf 104) (byOf 104) q.1 q.2 = true := gk_C_turns
theorem gm_C_way : ∀ q ∈ cdOf 105, goodB (yOf 105).cls (iniOf 105) (byOf 105) q.1 q.2 = true := gk_C_way
theorem gm_C_answer : ∀ q ∈ cdOf 106, goodB (yOf 106).cls (iniOf 106) (byOf 106) q.1 q.2 = true := gk_C_answer
theorem gm_C_bump : ∀ q ∈ cdOf 107, goodB (yOf 107).cls (iniOf 107) (byOf 107) q.1 q.2 = true := gk_C_bump
theorem gm_C_number : ∀ q ∈ cdOf 108, goodB (yOf 108).cls (iniOf 108) (byOf 108) q.1 q.2 = true := gk_C_number
theorem gm_C_grid : ∀ q ∈ cdOf 109, goodB (yOf 109).cls (iniOf 109) (byOf 109) q.1 q.2 = true := gk_C_grid
theorem gm_C_rows : ∀ q ∈ cdOf 110, goodB (yOf 110).cls (iniOf 110) (byOf 110) q.1 q.2 = true := gk_C_rows
theorem gm_C_after : ∀ q ∈ cdOf 111, goodB (yOf 111).cls (iniOf 111) (byOf 111) q.1 q.2 = true := gk_C_after
theorem gm_C_count : ∀ q ∈ cdOf 112, goodB (yOf 112).cls (iniOf 112) (byOf 112) q.1 q.2 = true := gk_C_count
theorem gm_C_isPrime : ∀ q ∈ cdOf 113, goodB (yOf 113).cls (iniOf 113) (byOf 113) q.1 q.2 = true := gk_C_isPrime
theorem gm_C_commonDivisor : ∀ q ∈ cdOf 114, goodB (yOf 114).cls (iniOf 114) (byOf 114) q.1 q.2 = true := gk_C_commonDivisor
theorem gm_R_init : ∀ q ∈ cdOf 115, goodB (yOf 115).cls (iniOf 115) (byOf 115) q.1 q.2 = true := gk_R_init
theorem gm_R_in : ∀ q ∈ cdOf 116, goodB (yOf 116).cls (iniOf 116) (byOf 116) q.1 q.2 = true := gk_R_in
theorem gm_R_feed : ∀ q ∈ cdOf 117, goodB (yOf 117).cls (iniOf 117) (byOf 117) q.1 q.2 = true := gk_R_feed
theorem gm_R_isLetter : ∀ q ∈ cdOf 118, goodB (yOf 118).cls (iniOf 118) (byOf 118) q.1 q.2 = true := gk_R_isLetter
theorem gm_R_isFigure : ∀ q ∈ cdOf 119, goodB (yOf 119).cls (iniOf 119) (byOf 119) q.1 q.2 = true := gk_R_isFigure
theorem gm_R_next : ∀ q ∈ cdOf 120, goodB (yOf 120).cls (iniOf 120) (byOf 120) q.1 q.2 = true := gk_R_next
theorem gm_R_isSign : ∀ q ∈ cdOf 121, goodB (yOf 121).cls (iniOf 121) (byOf 121) q.1 q.2 = true := gk_R_isSign
theorem gm_R_fails : ∀ q ∈ cdOf 122, goodB (yOf 122).cls (iniOf 122) (byOf 122) q.1 q.2 = true := gk_R_fails
theorem gm_R_adds : ∀ q ∈ cdOf 123, goodB (yOf 123).cls (iniOf 123) (byOf 123) q.1 q.2 = true := gk_R_adds
theorem gm_R_named : ∀ q ∈ cdOf 124, goodB (yOf 124).cls (iniOf 124) (byOf 124) q.1 q.2 = true := gk_R_named
theorem gm_R_isOwn : ∀ q ∈ cdOf 125, goodB (yOf 125).cls (iniOf 125) (byOf 125) q.1 q.2 = true := gk_R_isOwn
theorem gm_R_figure : ∀ q ∈ cdOf 126, goodB (yOf 126).cls (iniOf 126) (byOf 126) q.1 q.2 = true := gk_R_figure
theorem gm_R_item : ∀ q ∈ cdOf 127, goodB (yOf 127).cls (iniOf 127) (byOf 127) q.1 q.2 = true := gk_R_item
theorem gm_R_closes : ∀ q ∈ cdOf 128, goodB (yOf 128).cls (iniOf 128) (byOf 128) q.1 q.2 = true := gk_R_closes
theorem gm_R_line : ∀ q ∈ cdOf 129, goodB (yOf 129).cls (iniOf 129) (byOf 129) q.1 q.2 = true := gk_R_line
theorem gm_R_read : ∀ q ∈ cdOf 130, goodB (yOf 130).cls (iniOf 130) (byOf 130) q.1 q.2 = true := gk_R_read
theorem gm_R_place : ∀ q ∈ cdOf 131, goodB (yOf 131).cls (iniOf 131) (byOf 131) q.1 q.2 = true := gk_R_place
theorem gm_R_isPart : ∀ q ∈ cdOf 132, goodB (yOf 132).cls (iniOf 132) (byOf 132) q.1 q.2 = true := gk_R_isPart
theorem gm_R_ahead : ∀ q ∈ cdOf 133, goodB (yOf 133).cls (iniOf 133) (byOf 133) q.1 q.2 = true := gk_R_ahead
theorem gm_R_partOf : ∀ q ∈ cdOf 134, goodB (yOf 134).cls (iniOf 134) (byOf 134) q.1 q.2 = true := gk_R_partOf
theorem gm_R_part : ∀ q ∈ cdOf 135, goodB (yOf 135).cls (iniOf 135) (byOf 135) q.1 q.2 = true := gk_R_part
theorem gm_R_kick : ∀ q ∈ cdOf 136, goodB (yOf 136).cls (iniOf 136) (byOf 136) q.1 q.2 = true := gk_R_kick
theorem gm_R_common : ∀ q ∈ cdOf 137, goodB (yOf 137).cls (iniOf 137) (byOf 137) q.1 q.2 = true := gk_R_common
theorem gm_R_holds : ∀ q ∈ cdOf 138, goodB (yOf 138).cls (iniOf 138) (byOf 138) q.1 q.2 = true := gk_R_holds
theorem gm_R_product : ∀ q ∈ cdOf 139, goodB (yOf 139).cls (iniOf 139) (byOf 139) q.1 q.2 = true := gk_R_product
theorem gm_R_sum : ∀ q ∈ cdOf 140, goodB (yOf 140).cls (iniOf 140) (byOf 140) q.1 q.2 = true := gk_R_sum
theorem gm_R_divided : ∀ q ∈ cdOf 141, goodB (yOf 141).cls (iniOf 141) (byOf 141) q.1 q.2 = true := gk_R_divided
theorem gm_R_lays : ∀ q ∈ cdOf 142, goodB (yOf 142).cls (iniOf 142) (byOf 142) q.1 q.2 = true := gk_R_lays
theorem gm_R_leads : ∀ q ∈ cdOf 143, goodB (yOf 143).cls (iniOf 143) (byOf 143) q.1 q.2 = true := gk_R_leads
theorem gm_R_leadsTable : ∀ q ∈ cdOf 144, goodB (yOf 144).cls (iniOf 144) (byOf 144) q.1 q.2 = true := gk_R_leadsTable
theorem gm_R_leadsMote : ∀ q ∈ cdOf 145, goodB (yOf 145).cls (iniOf 145) (byOf 145) q.1 q.2 = true := gk_R_leadsMote
theorem gm_R_starts : ∀ q ∈ cdOf 146, goodB (yOf 146).cls (iniOf 146) (byOf 146) q.1 q.2 = true := gk_R_starts
theorem gm_R_goes : ∀ q ∈ cdOf 147, goodB (yOf 147).cls (iniOf 147) (byOf 147) q.1 q.2 = true := gk_R_goes
theorem gm_R_tells : ∀ q ∈ cdOf 148, goodB (yOf 148).cls (iniOf 148) (byOf 148) q.1 q.2 = true := gk_R_tells
theorem gm_R_table : ∀ q ∈ cdOf 149, goodB (yOf 149).cls (iniOf 149) (byOf 149) q.1 q.2 = true := gk_R_table
theorem gm_R_tables : ∀ q ∈ cdOf 150, goodB (yOf 150).cls (iniOf 150) (byOf 150) q.1 q.2 = true := gk_R_tables
theorem gm_R_kept : ∀ q ∈ cdOf 151, goodB (yOf 151).cls (iniOf 151) (byOf 151) q.1 q.2 = true := gk_R_kept
theorem gm_R_round : ∀ q ∈ cdOf 152, goodB (yOf 152).cls (iniOf 152) (byOf 152) q.1 q.2 = true := gk_R_round
theorem gm_R_widths : ∀ q ∈ cdOf 153, goodB (yOf 153).cls (iniOf 153) (byOf 153) q.1 q.2 = true := gk_R_widths
theorem gm_R_turns : ∀ q ∈ cdOf 154, goodB (yOf 154).cls (iniOf 154) (byOf 154) q.1 q.2 = true := gk_R_turns
theorem gm_R_closed : ∀ q ∈ cdOf 155, goodB (yOf 155).cls (iniOf 155) (byOf 155) q.1 q.2 = true := gk_R_closed
theorem gm_R_way : ∀ q ∈ cdOf 156, goodB (yOf 156).cls (iniOf 156) (byOf 156) q.1 q.2 = true := gk_R_way
theorem gm_R_answer : ∀ q ∈ cdOf 157, goodB (yOf 157).cls (iniOf 157) (byOf 157) q.1 q.2 = true := gk_R_answer
theorem gm_R_bump : ∀ q ∈ cdOf 158, goodB (yOf 158).cls (iniOf 158) (byOf 158) q.1 q.2 = true := gk_R_bump
theorem gm_R_number : ∀ q ∈ cdOf 159, goodB (yOf 159).cls (iniOf 159) (byOf 159) q.1 q.2 = true := gk_R_number
theorem gm_R_isPrime : ∀ q ∈ cdOf 160, goodB (yOf 160).cls (iniOf 160) (byOf 160) q.1 q.2 = true := gk_R_isPrime
theorem gm_R_by : ∀ q ∈ cdOf 161, goodB (yOf 161).cls (iniOf 161) (byOf 161) q.1 q.2 = true := gk_R_by
theorem gm_R_weighs : ∀ q ∈ cdOf 162, goodB (yOf 162).cls (iniOf 162) (byOf 162) q.1 q.2 = true := gk_R_weighs
theorem gm_R_rounds : ∀ q ∈ cdOf 163, goodB (yOf 163).cls (iniOf 163) (byOf 163) q.1 q.2 = true := gk_R_rounds
theorem gm_R_grid : ∀ q ∈ cdOf 164, goodB (yOf 164).cls (iniOf 164) (byOf 164) q.1 q.2 = true := gk_R_grid
theorem gm_R_rows : ∀ q ∈ cdOf 165, goodB (yOf 165).cls (iniOf 165) (byOf 165) q.1 q.2 = true := gk_R_rows
theorem gm_R_after : ∀ q ∈ cdOf 166, goodB (yOf 166).cls (iniOf 166) (byOf 166) q.1 q.2 = true := gk_R_after
theorem gm_R_count : ∀ q ∈ cdOf 167, goodB (yOf 167).cls (iniOf 167) (byOf 167) q.1 q.2 = true := gk_R_count
theorem gm_Jl_compare : ∀ q ∈ cdOf 168, goodB (yOf 168).cls (iniOf 168) (byOf 168) q.1 q.2 = true := gk_Jl_compare
theorem gm_Jm_floorMod : ∀ q ∈ cdOf 169, goodB (yOf 169).cls (iniOf 169) (byOf 169) q.1 q.2 = true := gk_Jm_floorMod
theorem gm_Jm_abs : ∀ q ∈ cdOf 170, goodB (yOf 170).cls (iniOf 170) (byOf 170) q.1 q.2 = true := gk_Jm_abs
theorem gm_Jm_min : ∀ q ∈ cdOf 171, goodB (yOf 171).cls (iniOf 171) (byOf 171) q.1 q.2 = true := gk_Jm_min
theorem gm_Law_law : ∀ q ∈ cdOf 172, goodB (yOf 172).cls (iniOf 172) (byOf 172) q.1 q.2 = true := gk_Law_law
theorem gm_all : ∀ mid, mid < 173 → ∀ q ∈ cdOf mid, goodB (yOf mid).cls (iniOf mid) (byOf mid) q.1 q.2 = true := by
  intro mid h
  match mid, h with
  | 0, _ => exact gm_Fr_init
  | 1, _ => exact gm_Fr_put
  | 2, _ => exact gm_Fr_copy
  | 3, _ => exact gm_Fr_negate
  | 4, _ => exact gm_Fr_isZero
  | 5, _ => exact gm_Fr_compareToWhole
  | 6, _ => exact gm_Fr_side
  | 7, _ => exact gm_La_init
  | 8, _ => exact gm_La_forget
  | 9, _ => exact gm_La_prepare
  | 10, _ => exact gm_La_inverse
  | 11, _ => exact gm_La_next
  | 12, _ => exact gm_La_followAll
  | 13, _ => exact gm_La_follow
  | 14, _ => exact gm_La_noteCycle
  | 15, _ => exact gm_La_fact
  | 16, _ => exact gm_Li_init
  | 17, _ => exact gm_Mo_init
  | 18, _ => exact gm_Mo_put
  | 19, _ => exact gm_Op_init
  | 20, _ => exact gm_Op_isBig
  | 21, _ => exact gm_Op_onlyKick
  | 22, _ => exact gm_Op_lead
  | 23, _ => exact gm_Op_giveKick
  | 24, _ => exact gm_Op_beginTable
  | 25, _ => exact gm_Op_reckonTable
  | 26, _ => exact gm_Op_stability
  | 27, _ => exact gm_Op_roundsUntilBack
  | 28, _ => exact gm_Op_reckonMiddleWidth
  | 29, _ => exact gm_Op_closeWay
  | 30, _ => exact gm_Op_solveClosed
  | 31, _ => exact gm_Op_closeBump
  | 32, _ => exact gm_Op_hasTold
  | 33, _ => exact gm_Op_tell
  | 34, _ => exact gm_Op_tellTable
  | 35, _ => exact gm_Op_tellWidths
  | 36, _ => exact gm_Op_tellWay
  | 37, _ => exact gm_Op_tellWayX
  | 38, _ => exact gm_Op_tellBump
  | 39, _ => exact gm_Pa_init
  | 40, _ => exact gm_Re_init
  | 41, _ => exact gm_Re_findFault
  | 42, _ => exact gm_Re_faultPlace
  | 43, _ => exact gm_Re_lastLine
  | 44, _ => exact gm_Re_take
  | 45, _ => exact gm_Re_takeAlone
  | 46, _ => exact gm_Re_takeLineName
  | 47, _ => exact gm_Re_lineOf
  | 48, _ => exact gm_Re_takeItem
  | 49, _ => exact gm_Re_takeTimes
  | 50, _ => exact gm_Re_takeToldName
  | 51, _ => exact gm_Re_beginPart
  | 52, _ => exact gm_Re_endPart
  | 53, _ => exact gm_Re_takeMinusOrNumber
  | 54, _ => exact gm_Re_takeAbove
  | 55, _ => exact gm_Re_takeBelow
  | 56, _ => exact gm_Re_takeOpen
  | 57, _ => exact gm_Re_closes
  | 58, _ => exact gm_Re_takeClose
  | 59, _ => exact gm_Rk_init
  | 60, _ => exact gm_Rk_begin
  | 61, _ => exact gm_Rk_plus
  | 62, _ => exact gm_Rk_minus
  | 63, _ => exact gm_Rk_times
  | 64, _ => exact gm_Rk_over
  | 65, _ => exact gm_Rk_plusProduct
  | 66, _ => exact gm_Rk_minusProduct
  | 67, _ => exact gm_Rk_settle
  | 68, _ => exact gm_Ri_init
  | 69, _ => exact gm_Ri_hasPart
  | 70, _ => exact gm_Ri_hasKick
  | 71, _ => exact gm_Ri_hasLook
  | 72, _ => exact gm_Ri_strengthAt
  | 73, _ => exact gm_Ri_become
  | 74, _ => exact gm_Ro_init
  | 75, _ => exact gm_Ro_clear
  | 76, _ => exact gm_Ro_add
  | 77, _ => exact gm_Ro_addLine
  | 78, _ => exact gm_Ro_repeat
  | 79, _ => exact gm_Te_init
  | 80, _ => exact gm_Te_append
  | 81, _ => exact gm_Te_empty
  | 82, _ => exact gm_Te_rewind
  | 83, _ => exact gm_Te_advance
  | 84, _ => exact gm_Te_signAt
  | 85, _ => exact gm_Te_skipBlanks
  | 86, _ => exact gm_Te_takeName
  | 87, _ => exact gm_Te_takeNumber
  | 88, _ => exact gm_Te_isName
  | 89, _ => exact gm_Te_isKindLetter
  | 90, _ => exact gm_Te_letterWorth
  | 91, _ => exact gm_Te_isBlank
  | 92, _ => exact gm_Te_isLetter
  | 93, _ => exact gm_Te_isFigure
  | 94, _ => exact gm_Te_standsAlone
  | 95, _ => exact gm_C_init
  | 96, _ => exact gm_C_feed
  | 97, _ => exact gm_C_read
  | 98, _ => exact gm_C_place
  | 99, _ => exact gm_C_part
  | 100, _ => exact gm_C_kick
  | 101, _ => exact gm_C_table
  | 102, _ => exact gm_C_round
  | 103, _ => exact gm_C_widths
  | 104, _ => exact gm_C_turns
  | 105, _ => exact gm_C_way
  | 106, _ => exact gm_C_answer
  | 107, _ => exact gm_C_bump
  | 108, _ => exact gm_C_number
  | 109, _ => exact gm_C_grid
  | 110, _ => exact gm_C_rows
  | 111, _ => exact gm_C_after
  | 112, _ => exact gm_C_count
  | 113, _ => exact gm_C_isPrime
  | 114, _ => exact gm_C_commonDivisor
  | 115, _ => exact gm_R_init
  | 116, _ => exact gm_R_in
  | 117, _ => exact gm_R_feed
  | 118, _ => exact gm_R_isLetter
  | 119, _ => exact gm_R_isFigure
  | 120, _ => exact gm_R_next
  | 121, _ => exact gm_R_isSign
  | 122, _ => exact gm_R_fails
  | 123, _ => exact gm_R_adds
  | 124, _ => exact gm_R_named
  | 125, _ => exact gm_R_isOwn
  | 126, _ => exact gm_R_figure
  | 127, _ => exact gm_R_item
  | 128, _ => exact gm_R_closes
  | 129, _ => exact gm_R_line
  | 130, _ => exact gm_R_read
  | 131, _ => exact gm_R_place
  | 132, _ => exact gm_R_isPart
  | 133, _ => exact gm_R_ahead
  | 134, _ => exact gm_R_partOf
  | 135, _ => exact gm_R_part
  | 136, _ => exact gm_R_kick
  | 137, _ => exact gm_R_common
  | 138, _ => exact gm_R_holds
  | 139, _ => exact gm_R_product
  | 140, _ => exact gm_R_sum
  | 141, _ => exact gm_R_divided
  | 142, _ => exact gm_R_lays
  | 143, _ => exact gm_R_leads
  | 144, _ => exact gm_R_leadsTable
  | 145, _ => exact gm_R_leadsMote
  | 146, _ => exact gm_R_starts
  | 147, _ => exact gm_R_goes
  | 148, _ => exact gm_R_tells
  | 149, _ => exact gm_R_table
  | 150, _ => exact gm_R_tables
  | 151, _ => exact gm_R_kept
  | 152, _ => exact gm_R_round
  | 153, _ => exact gm_R_widths
  | 154, _ => exact gm_R_turns
  | 155, _ => exact gm_R_closed
  | 156, _ => exact gm_R_way
  | 157, _ => exact gm_R_answer
  | 158, _ => exact gm_R_bump
  | 159, _ => exact gm_R_number
  | 160, _ => exact gm_R_isPrime
  | 161, _ => exact gm_R_by
  | 162, _ => exact gm_R_weighs
  | 163, _ => exact gm_R_rounds
  | 164, _ => exact gm_R_grid
  | 165, _ => exact gm_R_rows
  | 166, _ => exact gm_R_after
  | 167, _ => exact gm_R_count
  | 168, _ => exact gm_Jl_compare
  | 169, _ => exact gm_Jm_floorMod
  | 170, _ => exact gm_Jm_abs
  | 171, _ => exact gm_Jm_min
  | 172, _ => exact gm_Law_law
  | n + 173, h => exact absurd h (by omega)
set_option maxRecDepth 20000 in
theorem mc_Fr_init : lw_tbl[194]? = some (.code yX0_init cX0_init 1 none) := by rfl
set_option maxRecDepth 20000 in
theorem mc_Fr_put : lw_tbl[451]? = some (.code yX0_put cX0_put 7 none) := by rfl
set_option maxRecDepth 20000 in
theorem mc_Fr_copy : lw_tbl[661]? = some (.code yX0_copy cX0_copy 2 none) := by rfl
set_option maxRecDepth 20000 in
theorem mc_Fr_negate : lw_tbl[734]? = some (.code yX0_negate cX0_negate 1 none) := by rfl
set_option maxRecDepth 20000 in
theorem mc_Fr_isZero : lw_tbl[759]? = some (.code yX0_isZero cX0_isZero 1 (some .boolean)) := by rfl
set_option maxRecDepth 20000 in
theorem mc_Fr_compareToWhole : lw_tbl[711]? = some (.code yX0_compareToWhole cX0_compareToWhole 3 (some .int)) := by rfl
set_option maxRecDepth 20000 in
theorem mc_Fr_side : lw_tbl[619]? = some (.code yX0_side cX0_side 2 (some .int)) := by rfl
set_option maxRecDepth 20000 in
theorem mc_La_init : lw_tbl[332]? = some (.code yX1_init cX1_init 1 none) := by rfl
set_option maxRecDepth 20000 in
theorem mc_La_forget : lw_tbl[599]? = some (.code yX1_forget cX1_forget 1 none) := by rfl
set_option maxRecDepth 20000 in
theorem mc_La_prepare : lw_tbl[821]? = some (.code yX1_prepare cX1_prepare 6 (some .boolean)) := by rfl
set_option maxRecDepth 20000 in
theorem mc_La_inverse : lw_tbl[825]? = some (.code yX1_inverse cX1_inverse 3 (some .int)) := by rfl
set_option maxRecDepth 20000 in
theorem mc_La_next : lw_tbl[843]? = some (.code yX1_next cX1_next 6 (some .int)) := by rfl
set_option maxRecDepth 20000 in
theorem mc_La_followAll : lw_tbl[832]? = some (.code yX1_followAll cX1_followAll 4 none) := by rfl
set_option maxRecDepth 20000 in
theorem mc_La_follow : lw_tbl[839]? = some (.code yX1_follow cX1_follow 6 (some .int)) := by rfl
set_option maxRecDepth 20000 in
theorem mc_La_noteCycle : lw_tbl[847]? = some (.code yX1_noteCycle cX1_noteCycle 3 none) := by rfl
set_option maxRecDepth 20000 in
theorem mc_La_fact : lw_tbl[855]? = some (.code yX1_fact cX1_fact 2 (some .int)) := by rfl
set_option maxRecDepth 20000 in
theorem mc_Li_init : lw_tbl[546]? = some (.code yX2_init cX2_init 6 none) := by rfl
set_option maxRecDepth 20000 in
theorem mc_Mo_init : lw_tbl[268]? = some (.code yX3_init cX3_init 1 none) := by rfl
set_option maxRecDepth 20000 in
theorem mc_Mo_put : lw_tbl[648]? = some (.code yX3_put cX3_put 5 none) := by rfl
set_option maxRecDepth 20000 in
theorem mc_Op_init : lw_tbl[246]? = some (.code yX4_init cX4_init 2 none) := by rfl
set_option maxRecDepth 20000 in
theorem mc_Op_isBig : lw_tbl[688]? = some (.code yX4_isBig cX4_isBig 1 (some .boolean)) := by rfl
set_option maxRecDepth 20000 in
theorem mc_Op_onlyKick : lw_tbl[783]? = some (.code yX4_onlyKick cX4_onlyKick 3 (some (.array (.object "MagnetRing$Fraction")))) := by rfl
set_option maxRecDepth 20000 in
theorem mc_Op_lead : lw_tbl[653]? = some (.code yX4_lead cX4_lead 3 none) := by rfl
set_option maxRecDepth 20000 in
theorem mc_Op_giveKick : lw_tbl[755]? = some (.code yX4_giveKick cX4_giveKick 5 none) := by rfl
set_option maxRecDepth 20000 in
theorem mc_Op_beginTable : lw_tbl[640]? = some (.code yX4_beginTable cX4_beginTable 1 none) := by rfl
set_option maxRecDepth 20000 in
theorem mc_Op_reckonTable : lw_tbl[636]? = some (.code yX4_reckonTable cX4_reckonTable 6 none) := by rfl
set_option maxRecDepth 20000 in
theorem mc_Op_stability : lw_tbl[705]? = some (.code yX4_stability cX4_stability 3 (some .int)) := by rfl
set_option maxRecDepth 20000 in
theorem mc_Op_roundsUntilBack : lw_tbl[742]? = some (.code yX4_roundsUntilBack cX4_roundsUntilBack 1 (some .int)) := by rfl
set_option maxRecDepth 20000 in
theorem mc_Op_reckonMiddleWidth : lw_tbl[723]? = some (.code yX4_reckonMiddleWidth cX4_reckonMiddleWidth 1 none) := by rfl
set_option maxRecDepth 20000 in
theorem mc_Op_closeWay : lw_tbl[751]? = some (.code yX4_closeWay cX4_closeWay 5 (some .int)) := by rfl
set_option maxRecDepth 20000 in
theorem mc_Op_solveClosed : lw_tbl[763]? = some (.code yX4_solveClosed cX4_solveClosed 1 none) := by rfl
set_option maxRecDepth 20000 in
theorem mc_Op_closeBump : lw_tbl[795]? = some (.code yX4_closeBump cX4_closeBump 5 (some .int)) := by rfl
set_option maxRecDepth 20000 in
theorem mc_Op_hasTold : lw_tbl[808]? = some (.code yX4_hasTold cX4_hasTold 2 (some .boolean)) := by rfl
set_option maxRecDepth 20000 in
theorem mc_Op_tell : lw_tbl[696]? = some (.code yX4_tell cX4_tell 2 none) := by rfl
set_option maxRecDepth 20000 in
theorem mc_Op_tellTable : lw_tbl[692]? = some (.code yX4_tellTable cX4_tellTable 1 (some .int)) := by rfl
set_option maxRecDepth 20000 in
theorem mc_Op_tellWidths : lw_tbl[730]? = some (.code yX4_tellWidths cX4_tellWidths 1 (some .int)) := by rfl
set_option maxRecDepth 20000 in
theorem mc_Op_tellWay : lw_tbl[771]? = some (.code yX4_tellWay cX4_tellWay 1 (some .int)) := by rfl
set_option maxRecDepth 20000 in
theorem mc_Op_tellWayX : lw_tbl[787]? = some (.code yX4_tellWayX cX4_tellWayX 1 (some .int)) := by rfl
set_option maxRecDepth 20000 in
theorem mc_Op_tellBump : lw_tbl[800]? = some (.code yX4_tellBump cX4_tellBump 1 (some .int)) := by rfl
set_option maxRecDepth 20000 in
theorem mc_Pa_init : lw_tbl[462]? = some (.code yX5_init cX5_init 3 none) := by rfl
set_option maxRecDepth 20000 in
theorem mc_Re_init : lw_tbl[83]? = some (.code yX6_init cX6_init 1 none) := by rfl
set_option maxRecDepth 20000 in
theorem mc_Re_findFault : lw_tbl[396]? = some (.code yX6_findFault cX6_findFault 3 (some .int)) := by rfl
set_option maxRecDepth 20000 in
theorem mc_Re_faultPlace : lw_tbl[586]? = some (.code yX6_faultPlace cX6_faultPlace 1 (some .int)) := by rfl
set_option maxRecDepth 20000 in
theorem mc_Re_lastLine : lw_tbl[590]? = some (.code yX6_lastLine cX6_lastLine 1 (some (.object "MagnetRing$Line"))) := by rfl
set_option maxRecDepth 20000 in
theorem mc_Re_take : lw_tbl[441]? = some (.code yX6_take cX6_take 1 (some .int)) := by rfl
set_option maxRecDepth 20000 in
theorem mc_Re_takeAlone : lw_tbl[506]? = some (.code yX6_takeAlone cX6_takeAlone 3 (some .int)) := by rfl
set_option maxRecDepth 20000 in
theorem mc_Re_takeLineName : lw_tbl[486]? = some (.code yX6_takeLineName cX6_takeLineName 1 (some .int)) := by rfl
set_option maxRecDepth 20000 in
theorem mc_Re_lineOf : lw_tbl[498]? = some (.code yX6_lineOf cX6_lineOf 4 (some (.object "MagnetRing$Line"))) := by rfl
set_option maxRecDepth 20000 in
theorem mc_Re_takeItem : lw_tbl[510]? = some (.code yX6_takeItem cX6_takeItem 1 (some .int)) := by rfl
set_option maxRecDepth 20000 in
theorem mc_Re_takeTimes : lw_tbl[514]? = some (.code yX6_takeTimes cX6_takeTimes 1 (some .int)) := by rfl
set_option maxRecDepth 20000 in
theorem mc_Re_takeToldName : lw_tbl[524]? = some (.code yX6_takeToldName cX6_takeToldName 2 (some .int)) := by rfl
set_option maxRecDepth 20000 in
theorem mc_Re_beginPart : lw_tbl[520]? = some (.code yX6_beginPart cX6_beginPart 2 (some .int)) := by rfl
set_option maxRecDepth 20000 in
theorem mc_Re_endPart : lw_tbl[445]? = some (.code yX6_endPart cX6_endPart 5 (some .int)) := by rfl
set_option maxRecDepth 20000 in
theorem mc_Re_takeMinusOrNumber : lw_tbl[566]? = some (.code yX6_takeMinusOrNumber cX6_takeMinusOrNumber 1 (some .int)) := by rfl
set_option maxRecDepth 20000 in
theorem mc_Re_takeAbove : lw_tbl[570]? = some (.code yX6_takeAbove cX6_takeAbove 1 (some .int)) := by rfl
set_option maxRecDepth 20000 in
theorem mc_Re_takeBelow : lw_tbl[574]? = some (.code yX6_takeBelow cX6_takeBelow 1 (some .int)) := by rfl
set_option maxRecDepth 20000 in
theorem mc_Re_takeOpen : lw_tbl[578]? = some (.code yX6_takeOpen cX6_takeOpen 1 (some .int)) := by rfl
set_option maxRecDepth 20000 in
theorem mc_Re_closes : lw_tbl[533]? = some (.code yX6_closes cX6_closes 1 (some .boolean)) := by rfl
set_option maxRecDepth 20000 in
theorem mc_Re_takeClose : lw_tbl[537]? = some (.code yX6_takeClose cX6_takeClose 1 (some .int)) := by rfl
set_option maxRecDepth 20000 in
theorem mc_Rk_init : lw_tbl[252]? = some (.code yX7_init cX7_init 1 none) := by rfl
set_option maxRecDepth 20000 in
theorem mc_Rk_begin : lw_tbl[644]? = some (.code yX7_begin cX7_begin 1 none) := by rfl
set_option maxRecDepth 20000 in
theorem mc_Rk_plus : lw_tbl[676]? = some (.code yX7_plus cX7_plus 3 none) := by rfl
set_option maxRecDepth 20000 in
theorem mc_Rk_minus : lw_tbl[684]? = some (.code yX7_minus cX7_minus 3 none) := by rfl
set_option maxRecDepth 20000 in
theorem mc_Rk_times : lw_tbl[665]? = some (.code yX7_times cX7_times 3 none) := by rfl
set_option maxRecDepth 20000 in
theorem mc_Rk_over : lw_tbl[767]? = some (.code yX7_over cX7_over 3 none) := by rfl
set_option maxRecDepth 20000 in
theorem mc_Rk_plusProduct : lw_tbl[657]? = some (.code yX7_plusProduct cX7_plusProduct 4 none) := by rfl
set_option maxRecDepth 20000 in
theorem mc_Rk_minusProduct : lw_tbl[680]? = some (.code yX7_minusProduct cX7_minusProduct 4 none) := by rfl
set_option maxRecDepth 20000 in
theorem mc_Rk_settle : lw_tbl[669]? = some (.code yX7_settle cX7_settle 8 none) := by rfl
set_option maxRecDepth 20000 in
theorem mc_Ri_init : lw_tbl[186]? = some (.code yX8_init cX8_init 2 none) := by rfl
set_option maxRecDepth 20000 in
theorem mc_Ri_hasPart : lw_tbl[611]? = some (.code yX8_hasPart cX8_hasPart 2 (some .boolean)) := by rfl
set_option maxRecDepth 20000 in
theorem mc_Ri_hasKick : lw_tbl[627]? = some (.code yX8_hasKick cX8_hasKick 2 (some .boolean)) := by rfl
set_option maxRecDepth 20000 in
theorem mc_Ri_hasLook : lw_tbl[779]? = some (.code yX8_hasLook cX8_hasLook 2 (some .boolean)) := by rfl
set_option maxRecDepth 20000 in
theorem mc_Ri_strengthAt : lw_tbl[615]? = some (.code yX8_strengthAt cX8_strengthAt 2 (some (.object "MagnetRing$Fraction"))) := by rfl
set_option maxRecDepth 20000 in
theorem mc_Ri_become : lw_tbl[594]? = some (.code yX8_become cX8_become 3 none) := by rfl
set_option maxRecDepth 20000 in
theorem mc_Ro_init : lw_tbl[119]? = some (.code yX9_init cX9_init 1 none) := by rfl
set_option maxRecDepth 20000 in
theorem mc_Ro_clear : lw_tbl[502]? = some (.code yX9_clear cX9_clear 1 none) := by rfl
set_option maxRecDepth 20000 in
theorem mc_Ro_add : lw_tbl[482]? = some (.code yX9_add cX9_add 2 none) := by rfl
set_option maxRecDepth 20000 in
theorem mc_Ro_addLine : lw_tbl[528]? = some (.code yX9_addLine cX9_addLine 3 none) := by rfl
set_option maxRecDepth 20000 in
theorem mc_Ro_repeat : lw_tbl[541]? = some (.code yX9_repeat cX9_repeat 6 none) := by rfl
set_option maxRecDepth 20000 in
theorem mc_Te_init : lw_tbl[89]? = some (.code yX10_init cX10_init 1 none) := by rfl
set_option maxRecDepth 20000 in
theorem mc_Te_append : lw_tbl[388]? = some (.code yX10_append cX10_append 2 none) := by rfl
set_option maxRecDepth 20000 in
theorem mc_Te_empty : lw_tbl[582]? = some (.code yX10_empty cX10_empty 1 none) := by rfl
set_option maxRecDepth 20000 in
theorem mc_Te_rewind : lw_tbl[400]? = some (.code yX10_rewind cX10_rewind 1 none) := by rfl
set_option maxRecDepth 20000 in
theorem mc_Te_advance : lw_tbl[404]? = some (.code yX10_advance cX10_advance 2 none) := by rfl
set_option maxRecDepth 20000 in
theorem mc_Te_signAt : lw_tbl[412]? = some (.code yX10_signAt cX10_signAt 2 (some .int)) := by rfl
set_option maxRecDepth 20000 in
theorem mc_Te_skipBlanks : lw_tbl[408]? = some (.code yX10_skipBlanks cX10_skipBlanks 1 none) := by rfl
set_option maxRecDepth 20000 in
theorem mc_Te_takeName : lw_tbl[422]? = some (.code yX10_takeName cX10_takeName 1 none) := by rfl
set_option maxRecDepth 20000 in
theorem mc_Te_takeNumber : lw_tbl[433]? = some (.code yX10_takeNumber cX10_takeNumber 1 none) := by rfl
set_option maxRecDepth 20000 in
theorem mc_Te_isName : lw_tbl[494]? = some (.code yX10_isName cX10_isName 2 (some .boolean)) := by rfl
set_option maxRecDepth 20000 in
theorem mc_Te_isKindLetter : lw_tbl[490]? = some (.code yX10_isKindLetter cX10_isKindLetter 1 (some .boolean)) := by rfl
set_option maxRecDepth 20000 in
theorem mc_Te_letterWorth : lw_tbl[426]? = some (.code yX10_letterWorth cX10_letterWorth 1 (some .int)) := by rfl
set_option maxRecDepth 20000 in
theorem mc_Te_isBlank : lw_tbl[415]? = some (.code yX10_isBlank cX10_isBlank 1 (some .boolean)) := by rfl
set_option maxRecDepth 20000 in
theorem mc_Te_isLetter : lw_tbl[418]? = some (.code yX10_isLetter cX10_isLetter 1 (some .boolean)) := by rfl
set_option maxRecDepth 20000 in
theorem mc_Te_isFigure : lw_tbl[429]? = some (.code yX10_isFigure cX10_isFigure 1 (some .boolean)) := by rfl
set_option maxRecDepth 20000 in
theorem mc_Te_standsAlone : lw_tbl[437]? = some (.code yX10_standsAlone cX10_standsAlone 1 (some .boolean)) := by rfl
set_option maxRecDepth 20000 in
theorem mc_C_init : lw_tbl[75]? = some (.code yX11_init cX11_init 1 none) := by rfl
set_option maxRecDepth 20000 in
theorem mc_C_feed : lw_tbl[384]? = some (.code yX11_feed cX11_feed 5 (some .int)) := by rfl
set_option maxRecDepth 20000 in
theorem mc_C_read : lw_tbl[392]? = some (.code yX11_read cX11_read 2 (some .int)) := by rfl
set_option maxRecDepth 20000 in
theorem mc_C_place : lw_tbl[603]? = some (.code yX11_place cX11_place 1 (some .int)) := by rfl
set_option maxRecDepth 20000 in
theorem mc_C_part : lw_tbl[607]? = some (.code yX11_part cX11_part 3 (some .int)) := by rfl
set_option maxRecDepth 20000 in
theorem mc_C_kick : lw_tbl[623]? = some (.code yX11_kick cX11_kick 4 (some .int)) := by rfl
set_option maxRecDepth 20000 in
theorem mc_C_table : lw_tbl[632]? = some (.code yX11_table cX11_table 3 (some .int)) := by rfl
set_option maxRecDepth 20000 in
theorem mc_C_round : lw_tbl[701]? = some (.code yX11_round cX11_round 3 (some .int)) := by rfl
set_option maxRecDepth 20000 in
theorem mc_C_widths : lw_tbl[719]? = some (.code yX11_widths cX11_widths 3 (some .int)) := by rfl
set_option maxRecDepth 20000 in
theorem mc_C_turns : lw_tbl[738]? = some (.code yX11_turns cX11_turns 2 (some .int)) := by rfl
set_option maxRecDepth 20000 in
theorem mc_C_way : lw_tbl[747]? = some (.code yX11_way cX11_way 3 (some .int)) := by rfl
set_option maxRecDepth 20000 in
theorem mc_C_answer : lw_tbl[775]? = some (.code yX11_answer cX11_answer 4 (some .int)) := by rfl
set_option maxRecDepth 20000 in
theorem mc_C_bump : lw_tbl[791]? = some (.code yX11_bump cX11_bump 5 (some .int)) := by rfl
set_option maxRecDepth 20000 in
theorem mc_C_number : lw_tbl[804]? = some (.code yX11_number cX11_number 3 (some .int)) := by rfl
set_option maxRecDepth 20000 in
theorem mc_C_grid : lw_tbl[812]? = some (.code yX11_grid cX11_grid 2 (some .int)) := by rfl
set_option maxRecDepth 20000 in
theorem mc_C_rows : lw_tbl[851]? = some (.code yX11_rows cX11_rows 2 (some .int)) := by rfl
set_option maxRecDepth 20000 in
theorem mc_C_after : lw_tbl[859]? = some (.code yX11_after cX11_after 7 (some .int)) := by rfl
set_option maxRecDepth 20000 in
theorem mc_C_count : lw_tbl[864]? = some (.code yX11_count cX11_count 2 (some .int)) := by rfl
set_option maxRecDepth 20000 in
theorem mc_C_isPrime : lw_tbl[815]? = some (.code yX11_isPrime cX11_isPrime 2 (some .boolean)) := by rfl
set_option maxRecDepth 20000 in
theorem mc_C_commonDivisor : lw_tbl[457]? = some (.code yX11_commonDivisor cX11_commonDivisor 11 (some .long)) := by rfl
set_option maxRecDepth 20000 in
theorem mc_R_init : lw_tbl[869]? = some (.code yX12_init cX12_init 1 none) := by rfl
set_option maxRecDepth 20000 in
theorem mc_R_in : lw_tbl[1030]? = some (.code yX12_in cX12_in 6 (some .boolean)) := by rfl
set_option maxRecDepth 20000 in
theorem mc_R_feed : lw_tbl[1026]? = some (.code yX12_feed cX12_feed 5 (some .int)) := by rfl
set_option maxRecDepth 20000 in
theorem mc_R_isLetter : lw_tbl[1042]? = some (.code yX12_isLetter cX12_isLetter 1 (some .boolean)) := by rfl
set_option maxRecDepth 20000 in
theorem mc_R_isFigure : lw_tbl[1047]? = some (.code yX12_isFigure cX12_isFigure 1 (some .boolean)) := by rfl
set_option maxRecDepth 20000 in
theorem mc_R_next : lw_tbl[1039]? = some (.code yX12_next cX12_next 3 none) := by rfl
set_option maxRecDepth 20000 in
theorem mc_R_isSign : lw_tbl[1073]? = some (.code yX12_isSign cX12_isSign 2 (some .boolean)) := by rfl
set_option maxRecDepth 20000 in
theorem mc_R_fails : lw_tbl[1053]? = some (.code yX12_fails cX12_fails 2 (some .boolean)) := by rfl
set_option maxRecDepth 20000 in
theorem mc_R_adds : lw_tbl[1081]? = some (.code yX12_adds cX12_adds 8 none) := by rfl
set_option maxRecDepth 20000 in
theorem mc_R_named : lw_tbl[1069]? = some (.code yX12_named cX12_named 4 (some .int)) := by rfl
set_option maxRecDepth 20000 in
theorem mc_R_isOwn : lw_tbl[1060]? = some (.code yX12_isOwn cX12_isOwn 2 (some .boolean)) := by rfl
set_option maxRecDepth 20000 in
theorem mc_R_figure : lw_tbl[1093]? = some (.code yX12_figure cX12_figure 4 (some .boolean)) := by rfl
set_option maxRecDepth 20000 in
theorem mc_R_item : lw_tbl[1088]? = some (.code yX12_item cX12_item 3 (some .boolean)) := by rfl
set_option maxRecDepth 20000 in
theorem mc_R_closes : lw_tbl[1077]? = some (.code yX12_closes cX12_closes 5 (some .boolean)) := by rfl
set_option maxRecDepth 20000 in
theorem mc_R_line : lw_tbl[1057]? = some (.code yX12_line cX12_line 5 (some .boolean)) := by rfl
set_option maxRecDepth 20000 in
theorem mc_R_read : lw_tbl[1035]? = some (.code yX12_read cX12_read 2 (some .int)) := by rfl
set_option maxRecDepth 20000 in
theorem mc_R_place : lw_tbl[1098]? = some (.code yX12_place cX12_place 1 (some .int)) := by rfl
set_option maxRecDepth 20000 in
theorem mc_R_isPart : lw_tbl[1106]? = some (.code yX12_isPart cX12_isPart 2 (some .boolean)) := by rfl
set_option maxRecDepth 20000 in
theorem mc_R_ahead : lw_tbl[1111]? = some (.code yX12_ahead cX12_ahead 5 (some .int)) := by rfl
set_option maxRecDepth 20000 in
theorem mc_R_partOf : lw_tbl[1204]? = some (.code yX12_partOf cX12_partOf 5 (some .int)) := by rfl
set_option maxRecDepth 20000 in
theorem mc_R_part : lw_tbl[1102]? = some (.code yX12_part cX12_part 3 (some .int)) := by rfl
set_option maxRecDepth 20000 in
theorem mc_R_kick : lw_tbl[1115]? = some (.code yX12_kick cX12_kick 6 (some .int)) := by rfl
set_option maxRecDepth 20000 in
theorem mc_R_common : lw_tbl[1084]? = some (.code yX12_common cX12_common 10 (some .long)) := by rfl
set_option maxRecDepth 20000 in
theorem mc_R_holds : lw_tbl[1150]? = some (.code yX12_holds cX12_holds 7 none) := by rfl
set_option maxRecDepth 20000 in
theorem mc_R_product : lw_tbl[1146]? = some (.code yX12_product cX12_product 9 none) := by rfl
set_option maxRecDepth 20000 in
theorem mc_R_sum : lw_tbl[1156]? = some (.code yX12_sum cX12_sum 9 none) := by rfl
set_option maxRecDepth 20000 in
theorem mc_R_divided : lw_tbl[1196]? = some (.code yX12_divided cX12_divided 9 none) := by rfl
set_option maxRecDepth 20000 in
theorem mc_R_lays : lw_tbl[1134]? = some (.code yX12_lays cX12_lays 6 none) := by rfl
set_option maxRecDepth 20000 in
theorem mc_R_leads : lw_tbl[1142]? = some (.code yX12_leads cX12_leads 7 none) := by rfl
set_option maxRecDepth 20000 in
theorem mc_R_leadsTable : lw_tbl[1138]? = some (.code yX12_leadsTable cX12_leadsTable 2 none) := by rfl
set_option maxRecDepth 20000 in
theorem mc_R_leadsMote : lw_tbl[1192]? = some (.code yX12_leadsMote cX12_leadsMote 9 none) := by rfl
set_option maxRecDepth 20000 in
theorem mc_R_starts : lw_tbl[1130]? = some (.code yX12_starts cX12_starts 2 none) := by rfl
set_option maxRecDepth 20000 in
theorem mc_R_goes : lw_tbl[1126]? = some (.code yX12_goes cX12_goes 4 none) := by rfl
set_option maxRecDepth 20000 in
theorem mc_R_tells : lw_tbl[1164]? = some (.code yX12_tells cX12_tells 6 none) := by rfl
set_option maxRecDepth 20000 in
theorem mc_R_table : lw_tbl[1121]? = some (.code yX12_table cX12_table 3 (some .int)) := by rfl
set_option maxRecDepth 20000 in
theorem mc_R_tables : lw_tbl[1160]? = some (.code yX12_tables cX12_tables 2 (some .int)) := by rfl
set_option maxRecDepth 20000 in
theorem mc_R_kept : lw_tbl[1172]? = some (.code yX12_kept cX12_kept 5 (some .int)) := by rfl
set_option maxRecDepth 20000 in
theorem mc_R_round : lw_tbl[1168]? = some (.code yX12_round cX12_round 4 (some .int)) := by rfl
set_option maxRecDepth 20000 in
theorem mc_R_widths : lw_tbl[1176]? = some (.code yX12_widths cX12_widths 2 (some .int)) := by rfl
set_option maxRecDepth 20000 in
theorem mc_R_turns : lw_tbl[1180]? = some (.code yX12_turns cX12_turns 1 (some .int)) := by rfl
set_option maxRecDepth 20000 in
theorem mc_R_closed : lw_tbl[1188]? = some (.code yX12_closed cX12_closed 12 (some .int)) := by rfl
set_option maxRecDepth 20000 in
theorem mc_R_way : lw_tbl[1184]? = some (.code yX12_way cX12_way 3 (some .int)) := by rfl
set_option maxRecDepth 20000 in
theorem mc_R_answer : lw_tbl[1200]? = some (.code yX12_answer cX12_answer 4 (some .int)) := by rfl
set_option maxRecDepth 20000 in
theorem mc_R_bump : lw_tbl[1208]? = some (.code yX12_bump cX12_bump 17 (some .int)) := by rfl
set_option maxRecDepth 20000 in
theorem mc_R_number : lw_tbl[1212]? = some (.code yX12_number cX12_number 3 (some .int)) := by rfl
set_option maxRecDepth 20000 in
theorem mc_R_isPrime : lw_tbl[1219]? = some (.code yX12_isPrime cX12_isPrime 3 (some .boolean)) := by rfl
set_option maxRecDepth 20000 in
theorem mc_R_by : lw_tbl[1228]? = some (.code yX12_by cX12_by 3 (some .int)) := by rfl
set_option maxRecDepth 20000 in
theorem mc_R_weighs : lw_tbl[1225]? = some (.code yX12_weighs cX12_weighs 5 (some .boolean)) := by rfl
set_option maxRecDepth 20000 in
theorem mc_R_rounds : lw_tbl[1232]? = some (.code yX12_rounds cX12_rounds 6 (some .int)) := by rfl
set_option maxRecDepth 20000 in
theorem mc_R_grid : lw_tbl[1216]? = some (.code yX12_grid cX12_grid 6 (some .int)) := by rfl
set_option maxRecDepth 20000 in
theorem mc_R_rows : lw_tbl[1236]? = some (.code yX12_rows cX12_rows 2 (some .int)) := by rfl
set_option maxRecDepth 20000 in
theorem mc_R_after : lw_tbl[1240]? = some (.code yX12_after cX12_after 7 (some .int)) := by rfl
set_option maxRecDepth 20000 in
theorem mc_R_count : lw_tbl[1245]? = some (.code yX12_count cX12_count 2 (some .int)) := by rfl
set_option maxRecDepth 20000 in
theorem mc_Jl_compare : lw_tbl[714]? = some (.code yJ13_compare_74951 cJ13_compare_74951 4 (some .int)) := by rfl
set_option maxRecDepth 20000 in
theorem mc_Jm_floorMod : lw_tbl[828]? = some (.code yJ9_floorMod_7cf53 cJ9_floorMod_7cf53 3 (some .int)) := by rfl
set_option maxRecDepth 20000 in
theorem mc_Jm_abs : lw_tbl[454]? = some (.code yJ9_abs_067f4 cJ9_abs_067f4 2 (some .long)) := by rfl
set_option maxRecDepth 20000 in
theorem mc_Jm_min : lw_tbl[835]? = some (.code yJ9_min_7cf53 cJ9_min_7cf53 2 (some .int)) := by rfl
theorem mc_all : ∀ mid, mid < 172 → lw_tbl[nthN cpL mid]? = some (.code (yOf mid) (byOf mid) (mlOf mid) (retOf mid)) := by
  intro mid h
  match mid, h with
  | 0, _ => exact mc_Fr_init
  | 1, _ => exact mc_Fr_put
  | 2, _ => exact mc_Fr_copy
  | 3, _ => exact mc_Fr_negate
  | 4, _ => exact mc_Fr_isZero
  | 5, _ => exact mc_Fr_compareToWhole
  | 6, _ => exact mc_Fr_side
  | 7, _ => exact mc_La_init
  | 8, _ => exact mc_La_forget
  | 9, _ => exact mc_La_prepare
  | 10, _ => exact mc_La_inverse
  | 11, _ => exact mc_La_next
  | 12, _ => exact mc_La_followAll
  | 13, _ => exact mc_La_follow
  | 14, _ => exact mc_La_noteCycle
  | 15, _ => exact mc_La_fact
  | 16, _ => exact mc_Li_init
  | 17, _ => exact mc_Mo_init
  | 18, _ => exact mc_Mo_put
  | 19, _ => exact mc_Op_init
  | 20, _ => exact mc_Op_isBig
  | 21, _ => exact mc_Op_onlyKick
  | 22, _ => exact mc_Op_lead
  | 23, _ => exact mc_Op_giveKick
  | 24, _ => exact mc_Op_beginTable
  | 25, _ => exact mc_Op_reckonTable
  | 26, _ => exact mc_Op_stability
  | 27, _ => exact mc_Op_roundsUntilBack
  | 28, _ => exact mc_Op_reckonMiddleWidth
  | 29, _ => exact mc_Op_closeWay
  | 30, _ => exact mc_Op_solveClosed
  | 31, _ => exact mc_Op_closeBump
  | 32, _ => exact mc_Op_hasTold
  | 33, _ => exact mc_Op_tell
  | 34, _ => exact mc_Op_tellTable
  | 35, _ => exact mc_Op_tellWidths
  | 36, _ => exact mc_Op_tellWay
  | 37, _ => exact mc_Op_tellWayX
  | 38, _ => exact mc_Op_tellBump
  | 39, _ => exact mc_Pa_init
  | 40, _ => exact mc_Re_init
  | 41, _ => exact mc_Re_findFault
  | 42, _ => exact mc_Re_faultPlace
  | 43, _ => exact mc_Re_lastLine
  | 44, _ => exact mc_Re_take
  | 45, _ => exact mc_Re_takeAlone
  | 46, _ => exact mc_Re_takeLineName
  | 47, _ => exact mc_Re_lineOf
  | 48, _ => exact mc_Re_takeItem
  | 49, _ => exact mc_Re_takeTimes
  | 50, _ => exact mc_Re_takeToldName
  | 51, _ => exact mc_Re_beginPart
  | 52, _ => exact mc_Re_endPart
  | 53, _ => exact mc_Re_takeMinusOrNumber
  | 54, _ => exact mc_Re_takeAbove
  | 55, _ => exact mc_Re_takeBelow
  | 56, _ => exact mc_Re_takeOpen
  | 57, _ => exact mc_Re_closes
  | 58, _ => exact mc_Re_takeClose
  | 59, _ => exact mc_Rk_init
  | 60, _ => exact mc_Rk_begin
  | 61, _ => exact mc_Rk_plus
  | 62, _ => exact mc_Rk_minus
  | 63, _ => exact mc_Rk_times
  | 64, _ => exact mc_Rk_over
  | 65, _ => exact mc_Rk_plusProduct
  | 66, _ => exact mc_Rk_minusProduct
  | 67, _ => exact mc_Rk_settle
  | 68, _ => exact mc_Ri_init
  | 69, _ => exact mc_Ri_hasPart
  | 70, _ => exact mc_Ri_hasKick
  | 71, _ => exact mc_Ri_hasLook
  | 72, _ => exact mc_Ri_strengthAt
  | 73, _ => exact mc_Ri_become
  | 74, _ => exact mc_Ro_init
  | 75, _ => exact mc_Ro_clear
  | 76, _ => exact mc_Ro_add
  | 77, _ => exact mc_Ro_addLine
  | 78, _ => exact mc_Ro_repeat
  | 79, _ => exact mc_Te_init
  | 80, _ => exact mc_Te_append
  | 81, _ => exact mc_Te_empty
  | 82, _ => exact mc_Te_rewind
  | 83, _ => exact mc_Te_advance
  | 84, _ => exact mc_Te_signAt
  | 85, _ => exact mc_Te_skipBlanks
  | 86, _ => exact mc_Te_takeName
  | 87, _ => exact mc_Te_takeNumber
  | 88, _ => exact mc_Te_isName
  | 89, _ => exact mc_Te_isKindLetter
  | 90, _ => exact mc_Te_letterWorth
  | 91, _ => exact mc_Te_isBlank
  | 92, _ => exact mc_Te_isLetter
  | 93, _ => exact mc_Te_isFigure
  | 94, _ => exact mc_Te_standsAlone
  | 95, _ => exact mc_C_init
  | 96, _ => exact mc_C_feed
  | 97, _ => exact mc_C_read
  | 98, _ => exact mc_C_place
  | 99, _ => exact mc_C_part
  | 100, _ => exact mc_C_kick
  | 101, _ => exact mc_C_table
  | 102, _ => exact mc_C_round
  | 103, _ => exact mc_C_widths
  | 104, _ => exact mc_C_turns
  | 105, _ => exact mc_C_way
  | 106, _ => exact mc_C_answer
  | 107, _ => exact mc_C_bump
  | 108, _ => exact mc_C_number
  | 109, _ => exact mc_C_grid
  | 110, _ => exact mc_C_rows
  | 111, _ => exact mc_C_after
  | 112, _ => exact mc_C_count
  | 113, _ => exact mc_C_isPrime
  | 114, _ => exact mc_C_commonDivisor
  | 115, _ => exact mc_R_init
  | 116, _ => exact mc_R_in
  | 117, _ => exact mc_R_feed
  | 118, _ => exact mc_R_isLetter
  | 119, _ => exact mc_R_isFigure
  | 120, _ => exact mc_R_next
  | 121, _ => exact mc_R_isSign
  | 122, _ => exact mc_R_fails
  | 123, _ => exact mc_R_adds
  | 124, _ => exact mc_R_named
  | 125, _ => exact mc_R_isOwn
  | 126, _ => exact mc_R_figure
  | 127, _ => exact mc_R_item
  | 128, _ => exact mc_R_closes
  | 129, _ => exact mc_R_line
  | 130, _ => exact mc_R_read
  | 131, _ => exact mc_R_place
  | 132, _ => exact mc_R_isPart
  | 133, _ => exact mc_R_ahead
  | 134, _ => exact mc_R_partOf
  | 135, _ => exact mc_R_part
  | 136, _ => exact mc_R_kick
  | 137, _ => exact mc_R_common
  | 138, _ => exact mc_R_holds
  | 139, _ => exact mc_R_product
  | 140, _ => exact mc_R_sum
  | 141, _ => exact mc_R_divided
  | 142, _ => exact mc_R_lays
  | 143, _ => exact mc_R_leads
  | 144, _ => exact mc_R_leadsTable
  | 145, _ => exact mc_R_leadsMote
  | 146, _ => exact mc_R_starts
  | 147, _ => exact mc_R_goes
  | 148, _ => exact mc_R_tells
  | 149, _ => exact mc_R_table
  | 150, _ => exact mc_R_tables
  | 151, _ => exact mc_R_kept
  | 152, _ => exact mc_R_round
  | 153, _ => exact mc_R_widths
  | 154, _ => exact mc_R_turns
  | 155, _ => exact mc_R_closed
  | 156, _ => exact mc_R_way
  | 157, _ => exact mc_R_answer
  | 158, _ => exact mc_R_bump
  | 159, _ => exact mc_R_number
  | 160, _ => exact mc_R_isPrime
  | 161, _ => exact mc_R_by
  | 162, _ => exact mc_R_weighs
  | 163, _ => exact mc_R_rounds
  | 164, _ => exact mc_R_grid
  | 165, _ => exact mc_R_rows
  | 166, _ => exact mc_R_after
  | 167, _ => exact mc_R_count
  | 168, _ => exact mc_Jl_compare
  | 169, _ => exact mc_Jm_floorMod
  | 170, _ => exact mc_Jm_abs
  | 171, _ => exact mc_Jm_min
  | n + 172, h => exact absurd h (by omega)
theorem pn_C : plainName "MagnetRing" = true := by decide +kernel
theorem pn_Fr : plainName "MagnetRing$Fraction" = true := by decide +kernel
theorem pn_La : plainName "MagnetRing$Lattice" = true := by decide +kernel
theorem pn_Li : plainName "MagnetRing$Line" = true := by decide +kernel
theorem pn_Mo : plainName "MagnetRing$Mote" = true := by decide +kernel
theorem pn_Op : plainName "MagnetRing$Optics" = true := by decide +kernel
theorem pn_Pa : plainName "MagnetRing$Part" = true := by decide +kernel
theorem pn_Re : plainName "MagnetRing$Reader" = true := by decide +kernel
theorem pn_Rk : plainName "MagnetRing$Reckoner" = true := by decide +kernel
theorem pn_Ri : plainName "MagnetRing$Ring" = true := by decide +kernel
theorem pn_Ro : plainName "MagnetRing$Row" = true := by decide +kernel
theorem pn_Te : plainName "MagnetRing$Text" = true := by decide +kernel
theorem pn_R : plainName "MagnetRingModel" = true := by decide +kernel
theorem pf_Jl_compare : plainFor yJ13_compare_74951 = true := by decide +kernel
theorem pf_Jm_floorMod : plainFor yJ9_floorMod_7cf53 = true := by decide +kernel
theorem pf_Jm_abs : plainFor yJ9_abs_067f4 = true := by decide +kernel
theorem pf_Jm_min : plainFor yJ9_min_7cf53 = true := by decide +kernel
theorem pf_all : ∀ mid, mid < 172 → plainFor (yOf mid) = true := by
  intro mid h
  match mid, h with
  | 0, _ => exact plainFor_of_name pn_Fr
  | 1, _ => exact plainFor_of_name pn_Fr
  | 2, _ => exact plainFor_of_name pn_Fr
  | 3, _ => exact plainFor_of_name pn_Fr
  | 4, _ => exact plainFor_of_name pn_Fr
  | 5, _ => exact plainFor_of_name pn_Fr
  | 6, _ => exact plainFor_of_name pn_Fr
  | 7, _ => exact plainFor_of_name pn_La
  | 8, _ => exact plainFor_of_name pn_La
  | 9, _ => exact plainFor_of_name pn_La
  | 10, _ => exact plainFor_of_name pn_La
  | 11, _ => exact plainFor_of_name pn_La
  | 12, _ => exact plainFor_of_name pn_La
  | 13, _ => exact plainFor_of_name pn_La
  | 14, _ => exact plainFor_of_name pn_La
  | 15, _ => exact plainFor_of_name pn_La
  | 16, _ => exact plainFor_of_name pn_Li
  | 17, _ => exact plainFor_of_name pn_Mo
  | 18, _ => exact plainFor_of_name pn_Mo
  | 19, _ => exact plainFor_of_name pn_Op
  | 20, _ => exact plainFor_of_name pn_Op
  | 21, _ => exact plainFor_of_name pn_Op
  | 22, _ => exact plainFor_of_name pn_Op
  | 23, _ => exact plainFor_of_name pn_Op
  | 24, _ => exact plainFor_of_name pn_Op
  | 25, _ => exact plainFor_of_name pn_Op
  | 26, _ => exact plainFor_of_name pn_Op
  | 27, _ => exact plainFor_of_name pn_Op
  | 28, _ => exact plainFor_of_name pn_Op
  | 29, _ => exact plainFor_of_name pn_Op
  | 30, _ => exact plainFor_of_name pn_Op
  | 31, _ => exact plainFor_of_name pn_Op
  | 32, _ => exact plainFor_of_name pn_Op
  | 33, _ => exact plainFor_of_name pn_Op
  | 34, _ => exact plainFor_of_name pn_Op
  | 35, _ => exact plainFor_of_name pn_Op
  | 36, _ => exact plainFor_of_name pn_Op
  | 37, _ => exact plainFor_of_name pn_Op
  | 38, _ => exact plainFor_of_name pn_Op
  | 39, _ => exact plainFor_of_name pn_Pa
  | 40, _ => exact plainFor_of_name pn_Re
  | 41, _ => exact plainFor_of_name pn_Re
  | 42, _ => exact plainFor_of_name pn_Re
  | 43, _ => exact plainFor_of_name pn_Re
  | 44, _ => exact plainFor_of_name pn_Re
  | 45, _ => exact plainFor_of_name pn_Re
  | 46, _ => exact plainFor_of_name pn_Re
  | 47, _ => exact plainFor_of_name pn_Re
  | 48, _ => exact plainFor_of_name pn_Re
  | 49, _ => exact plainFor_of_name pn_Re
  | 50, _ => exact plainFor_of_name pn_Re
  | 51, _ => exact plainFor_of_name pn_Re
  | 52, _ => exact plainFor_of_name pn_Re
  | 53, _ => exact plainFor_of_name pn_Re
  | 54, _ => exact plainFor_of_name pn_Re
  | 55, _ => exact plainFor_of_name pn_Re
  | 56, _ => exact plainFor_of_name pn_Re
  | 57, _ => exact plainFor_of_name pn_Re
  | 58, _ => exact plainFor_of_name pn_Re
  | 59, _ => exact plainFor_of_name pn_Rk
  | 60, _ => exact plainFor_of_name pn_Rk
  | 61, _ => exact plainFor_of_name pn_Rk
  | 62, _ => exact plainFor_of_name pn_Rk
  | 63, _ => exact plainFor_of_name pn_Rk
  | 64, _ => exact plainFor_of_name pn_Rk
  | 65, _ => exact plainFor_of_name pn_Rk
  | 66, _ => exact plainFor_of_name pn_Rk
  | 67, _ => exact plainFor_of_name pn_Rk
  | 68, _ => exact plainFor_of_name pn_Ri
  | 69, _ => exact plainFor_of_name pn_Ri
  | 70, _ => exact plainFor_of_name pn_Ri
  | 71, _ => exact plainFor_of_name pn_Ri
  | 72, _ => exact plainFor_of_name pn_Ri
  | 73, _ => exact plainFor_of_name pn_Ri
  | 74, _ => exact plainFor_of_name pn_Ro
  | 75, _ => exact plainFor_of_name pn_Ro
  | 76, _ => exact plainFor_of_name pn_Ro
  | 77, _ => exact plainFor_of_name pn_Ro
  | 78, _ => exact plainFor_of_name pn_Ro
  | 79, _ => exact plainFor_of_name pn_Te
  | 80, _ => exact plainFor_of_name pn_Te
  | 81, _ => exact plainFor_of_name pn_Te
  | 82, _ => exact plainFor_of_name pn_Te
  | 83, _ => exact plainFor_of_name pn_Te
  | 84, _ => exact plainFor_of_name pn_Te
  | 85, _ => exact plainFor_of_name pn_Te
  | 86, _ => exact plainFor_of_name pn_Te
  | 87, _ => exact plainFor_of_name pn_Te
  | 88, _ => exact plainFor_of_name pn_Te
  | 89, _ => exact plainFor_of_name pn_Te
  | 90, _ => exact plainFor_of_name pn_Te
  | 91, _ => exact plainFor_of_name pn_Te
  | 92, _ => exact plainFor_of_name pn_Te
  | 93, _ => exact plainFor_of_name pn_Te
  | 94, _ => exact plainFor_of_name pn_Te
  | 95, _ => exact plainFor_of_name pn_C
  | 96, _ => exact plainFor_of_name pn_C
  | 97, _ => exact plainFor_of_name pn_C
  | 98, _ => exact plainFor_of_name pn_C
  | 99, _ => exact plainFor_of_name pn_C
  | 100, _ => exact plainFor_of_name pn_C
  | 101, _ => exact plainFor_of_name pn_C
  | 102, _ => exact plainFor_of_name pn_C
  | 103, _ => exact plainFor_of_name pn_C
  | 104, _ => exact plainFor_of_name pn_C
  | 105, _ => exact plainFor_of_name pn_C
  | 106, _ => exact plainFor_of_name pn_C
  | 107, _ => exact plainFor_of_name pn_C
  | 108, _ => exact plainFor_of_name pn_C
  | 109, _ => exact plainFor_of_name pn_C
  | 110, _ => exact plainFor_of_name pn_C
  | 111, _ => exact plainFor_of_name pn_C
  | 112, _ => exact plainFor_of_name pn_C
  | 113, _ => exact plainFor_of_name pn_C
  | 114, _ => exact plainFor_of_name pn_C
  | 115, _ => exact plainFor_of_name pn_R
  | 116, _ => exact plainFor_of_name pn_R
  | 117, _ => exact plainFor_of_name pn_R
  | 118, _ => exact plainFor_of_name pn_R
  | 119, _ => exact plainFor_of_name pn_R
  | 120, _ => exact plainFor_of_name pn_R
  | 121, _ => exact plainFor_of_name pn_R
  | 122, _ => exact plainFor_of_name pn_R
  | 123, _ => exact plainFor_of_name pn_R
  | 124, _ => exact plainFor_of_name pn_R
  | 125, _ => exact plainFor_of_name pn_R
  | 126, _ => exact plainFor_of_name pn_R
  | 127, _ => exact plainFor_of_name pn_R
  | 128, _ => exact plainFor_of_name pn_R
  | 129, _ => exact plainFor_of_name pn_R
  | 130, _ => exact plainFor_of_name pn_R
  | 131, _ => exact plainFor_of_name pn_R
  | 132, _ => exact plainFor_of_name pn_R
  | 133, _ => exact plainFor_of_name pn_R
  | 134, _ => exact plainFor_of_name pn_R
  | 135, _ => exact plainFor_of_name pn_R
  | 136, _ => exact plainFor_of_name pn_R
  | 137, _ => exact plainFor_of_name pn_R
  | 138, _ => exact plainFor_of_name pn_R
  | 139, _ => exact plainFor_of_name pn_R
  | 140, _ => exact plainFor_of_name pn_R
  | 141, _ => exact plainFor_of_name pn_R
  | 142, _ => exact plainFor_of_name pn_R
  | 143, _ => exact plainFor_of_name pn_R
  | 144, _ => exact plainFor_of_name pn_R
  | 145, _ => exact plainFor_of_name pn_R
  | 146, _ => exact plainFor_of_name pn_R
  | 147, _ => exact plainFor_of_name pn_R
  | 148, _ => exact plainFor_of_name pn_R
  | 149, _ => exact plainFor_of_name pn_R
  | 150, _ => exact plainFor_of_name pn_R
  | 151, _ => exact plainFor_of_name pn_R
  | 152, _ => exact plainFor_of_name pn_R
  | 153, _ => exact plainFor_of_name pn_R
  | 154, _ => exact plainFor_of_name pn_R
  | 155, _ => exact plainFor_of_name pn_R
  | 156, _ => exact plainFor_of_name pn_R
  | 157, _ => exact plainFor_of_name pn_R
  | 158, _ => exact plainFor_of_name pn_R
  | 159, _ => exact plainFor_of_name pn_R
  | 160, _ => exact plainFor_of_name pn_R
  | 161, _ => exact plainFor_of_name pn_R
  | 162, _ => exact plainFor_of_name pn_R
  | 163, _ => exact plainFor_of_name pn_R
  | 164, _ => exact plainFor_of_name pn_R
  | 165, _ => exact plainFor_of_name pn_R
  | 166, _ => exact plainFor_of_name pn_R
  | 167, _ => exact plainFor_of_name pn_R
  | 168, _ => exact pf_Jl_compare
  | 169, _ => exact pf_Jm_floorMod
  | 170, _ => exact pf_Jm_abs
  | 171, _ => exact pf_Jm_min
  | n + 172, h => exact absurd h (by omega)
end
section
/-! ===== the words, at every state of the run ===== -/
def wOK (w : Cond) : Bool := goodWord w || (match w with
  | .fieldLinkNest _ _ _ _ _ _ => true
  | .methodLinkNest _ _ _ _ => true
  | .arrayOver (.object _) => true
  | _ => false)
def KW (s : State) : Prop := ∀ w ∈ lw_tbl, wOK w = true → ∀ A : Array Value, w.before A s = true
theorem kw_at {s U : State} {w : Cond} (h1 : wOK w = true) {A : Array Value} (h : w.before A s = true) (hW : s.WarmedH U.vm) (a' : Array Value) : w.before a' U = true := by
  unfold wOK at h1
  rcases Bool.or_eq_true_iff.mp h1 with h2 | h2
  · exact word_at hW (good_of_word h2) h
  · split at h2
    · exact va_Nw.use rfl (va_Nw.warmF hW (va_Nw.of rfl h))
    · exact va_Nw.use rfl (va_Nw.warmM hW (va_Nw.of rfl h))
    · exact va_AO.use (va_AO.moved hW.alike (va_AO.of h))
    · cases h2
theorem KW.of {s : State} {A : Array Value} (h : ∀ w ∈ lw_tbl, w.before A s = true) : KW s := fun w hw hk a' => kw_at hk (h w hw) (State.WarmedH.refl s) a'
theorem KW.warm {s U : State} (h : KW s) (hW : s.WarmedH U.vm) : KW U := fun w hw hk a' => kw_at hk (h w hw hk #[]) hW a'
theorem KW.get {s : State} (h : KW s) {p : Nat} {w : Cond} (hw : gw p w = true) (hk : wOK w = true) (A : Array Value) : w.before A s = true := h w (List.mem_of_getElem? (of_decide_eq_true hw)) hk A
theorem gw_mem {p : Nat} {w : Cond} (h : gw p w = true) : w ∈ lw_tbl := List.mem_of_getElem? (of_decide_eq_true h)
/-! ===== the heap that an abstract state stands for ===== -/
/-- base of our cells, the script's cell, the primes' cell, the classes' numbers, the array classes' numbers -/
abbrev Cx : Type := Nat × Nat × Nat × va_G × (Nat → ClassId)
def cvt (X : Cx) (j : Nat) : Value := if j = 0 then .null else if j = 1 then .ref X.2.1 else if j = 2 then .ref X.2.2.1 else .ref (X.1 + (j - 3))
def cvV (X : Cx) (v : AV) : Value := match v with
  | .inl _ => .null
  | .inr (.inl x) => .int x
  | .inr (.inr (.inl x)) => .long x
  | .inr (.inr (.inr (_, j))) => cvt X j
def rfO (X : Cx) (r : Nat) : Option Nat := if r = 0 then none else some (X.1 + (r - 3))
def slV (X : Cx) (σ : St) (ty j k : Nat) : Value := match ty with
  | 0 => .int (gI σ j k)
  | 1 => .int (gI σ j k)
  | 2 => .int (gI σ j k)
  | 3 => .long (gL σ j k)
  | _ + 4 => va_rf (rfO X (gR σ j k))
def entA (X : Cx) (σ : St) (t j : Nat) : vp_A := (gN σ j, if t < 19 then .inl (fun k => gI σ j k) else if t = 19 then .inr (.inl (fun k => gL σ j k)) else .inr (.inr (.inr (.inr (fun k => rfO X (gR σ j k))))))
def entO (X : Cx) (σ : St) (j : Nat) : va_E := if gT σ j < 13 then .inr (gT σ j, (List.range (nF (gT σ j))).map (fun k => slV X σ (fty (gT σ j) k) j k)) else .inl (X.2.2.2.2 (gT σ j), entA X σ (gT σ j) j)
def conc (X : Cx) (σ : St) : va_W := (List.range (sN σ - 3)).map (fun i => (X.1 + i, entO X σ (i + 3)))
theorem conc_get {X : Cx} {σ : St} {j : Nat} (h3 : 3 ≤ j) (hn : j < sN σ) : (conc X σ)[j - 3]? = some (X.1 + (j - 3), entO X σ j) := by
  have h : j - 3 < sN σ - 3 := by omega
  simp [conc, h, show j - 3 + 3 = j by omega]
theorem conc_len (X : Cx) (σ : St) : (conc X σ).length = sN σ - 3 := by simp [conc]
theorem conc_set {X : Cx} {σ τ : St} {j : Nat} (h3 : 3 ≤ j) (hs : sN τ = sN σ) (ho : ∀ i, i ≠ j → entO X τ i = entO X σ i) : (conc X σ).set (j - 3) (X.1 + (j - 3), entO X τ j) = conc X τ := by
  apply List.ext_getElem?
  intro i
  by_cases hi : i < sN σ - 3
  · by_cases e : j - 3 = i
    · subst e
      rw [List.getElem?_set_self (by rw [conc_len]; exact hi), conc_get h3 (by rw [hs]; omega)]
    · rw [List.getElem?_set_ne e]
      have hj : i + 3 ≠ j := by omega
      have e1 := conc_get (X := X) (σ := σ) (j := i + 3) (by omega) (by omega)
      have e2 := conc_get (X := X) (σ := τ) (j := i + 3) (by omega) (by rw [hs]; omega)
      rw [show i + 3 - 3 = i by omega] at e1 e2
      rw [e1, e2, ho _ hj]
  · rw [List.getElem?_eq_none (by rw [List.length_set, conc_len]; omega), List.getElem?_eq_none (by rw [conc_len, hs]; omega)]
theorem conc_push {X : Cx} {σ τ : St} (h3 : 3 ≤ sN σ) (hs : sN τ = sN σ + 1) (ho : ∀ i, i < sN σ → entO X τ i = entO X σ i) : conc X σ ++ [(X.1 + (sN σ - 3), entO X τ (sN σ))] = conc X τ := by
  apply List.ext_getElem?
  intro i
  by_cases hi : i < sN σ - 3
  · rw [List.getElem?_append_left (by rw [conc_len]; exact hi)]
    have e1 := conc_get (X := X) (σ := σ) (j := i + 3) (by omega) (by omega)
    have e2 := conc_get (X := X) (σ := τ) (j := i + 3) (by omega) (by omega)
    rw [show i + 3 - 3 = i by omega] at e1 e2
    rw [e1, e2, ho _ (by omega)]
  · by_cases e : i = sN σ - 3
    · subst e
      rw [List.getElem?_append_right (by rw [conc_len]; exact Nat.le_refl _), conc_len, Nat.sub_self, conc_get h3 (by omega)]
      rfl
    · rw [List.getElem?_eq_none (by rw [List.length_append, conc_len]; simp; omega), List.getElem?_eq_none (by rw [conc_len, hs]; omega)]
theorem conc_D (X : Cx) (σ : St) : va_D (fun q => X.1 ≤ q) (conc X σ) := by
  have key : ∀ (i : Nat) (p : Nat × va_E), (conc X σ)[i]? = some p → p.1 = X.1 + i := by
    intro i p h
    have hl : i < sN σ - 3 := by
      have := (List.getElem?_eq_some_iff.mp h).1
      rwa [conc_len] at this
    have e1 := conc_get (X := X) (σ := σ) (j := i + 3) (by omega) (by omega)
    rw [show i + 3 - 3 = i by omega, h] at e1
    rw [Option.some.inj e1]
  refine ⟨fun i j p q hi hj hpq => ?_, fun k q hk => ?_⟩
  · have := key i p hi
    have := key j q hj
    omega
  · have := key k q hk
    show X.1 ≤ q.1
    omega
theorem map_set_range {α : Type} (f g : Nat → α) (n k : Nat) (hk : k < n) (ho : ∀ i, i ≠ k → g i = f i) : ((List.range n).map f).set k (g k) = (List.range n).map g := by
  apply List.ext_getElem?
  intro i
  by_cases e : k = i
  · subst e
    rw [List.getElem?_set_self (by simpa using hk)]
    simp [hk]
  · rw [List.getElem?_set_ne e]
    by_cases hi : i < n
    · simp [hi, ho i (Ne.symm e)]
    · simp [hi]
/-- the type of a slot, by the tag of its cell -/
def sty (t k : Nat) : Nat := if t < 13 then fty t k else if t = 19 then 3 else if t = 20 then 9 else if t = 21 then 4 else 0
def rOK (σ : St) (t r : Nat) : Prop := r = 0 ∨ (3 ≤ r ∧ r < sN σ ∧ gT σ r = t)
def vOK (σ : St) (v : AV) : Prop := match v with
  | .inr (.inr (.inr (t, j))) => j = 0 ∨ (t = 22 ∧ (j = 1 ∨ j = 2)) ∨ (t ≠ 22 ∧ 3 ≤ j ∧ j < sN σ ∧ gT σ j = t)
  | _ => True
def wt (σ : St) : Prop := (∀ j, 3 ≤ j → j < sN σ → gT σ j < 13 ∨ (16 ≤ gT σ j ∧ gT σ j ≤ 21)) ∧ ∀ j k t, 3 ≤ j → j < sN σ → sty (gT σ j) k = t + 4 → rOK σ t (gR σ j k)
def tysL (X : Cx) : List (ClassId × FieldType) := [(X.2.2.2.2 16, .int), (X.2.2.2.2 17, .boolean), (X.2.2.2.2 18, .byte), (X.2.2.2.2 19, .long), (X.2.2.2.2 20, .object RX5), (X.2.2.2.2 21, .object RX0)]
theorem rOK.ext {σ τ : St} (h : Ext σ τ) {t r : Nat} (hr : rOK σ t r) : rOK τ t r := by
  rcases hr with h0 | ⟨h1, h2, h3⟩
  · exact Or.inl h0
  · exact Or.inr ⟨h1, Nat.lt_of_lt_of_le h2 h.1, (h.2.2 r h2).trans h3⟩
theorem vOK.ext {σ τ : St} (h : Ext σ τ) {v : AV} (hv : vOK σ v) : vOK τ v := by
  match v, hv with
  | .inl _, _ => trivial
  | .inr (.inl _), _ => trivial
  | .inr (.inr (.inl _)), _ => trivial
  | .inr (.inr (.inr (t, j))), hv =>
    rcases hv with h0 | h0 | ⟨h0, h1, h2, h3⟩
    · exact Or.inl h0
    · exact Or.inr (Or.inl h0)
    · exact Or.inr (Or.inr ⟨h0, h1, Nat.lt_of_lt_of_le h2 h.1, (h.2.2 j h2).trans h3⟩)
/-- tables' part of the world -/
def TW (X : Cx) (U : State) : Prop := va_K X.2.2.2.1 vwCl (tysL X) U ∧ KW U
/-- heap's part -/
def HW (lay : Nat → Nat → Nat) (L0 : Nat) (X : Cx) (σ : St) (U : State) (H : Heap) : Prop :=
  va_P X.2.2.2.1 vwCl (conc X σ) H ∧ H.size = X.1 + (sN σ - 3) ∧ 3 ≤ sN σ ∧ wt σ ∧ (L0 ≤ sN σ ∧ ∀ j k, lay j k ≠ 0 → gR σ j k = lay j k) ∧ (X.2.1 < X.1 ∧ X.2.2.1 < X.1) ∧ va_X X.2.1 (gN σ 1) (gI σ 1) U H ∧ va_T .int X.2.2.1 (gN σ 2) (fun k => .int (gI σ 2 k)) (fun q => X.1 ≤ q) U H ∧ va_Z RX11 "PRIMES" "[I" (.ref X.2.2.1) (fun q => X.1 ≤ q) U H
theorem TW.warm {X : Cx} {s U : State} (h : TW X s) (hW : s.WarmedH U.vm) : TW X U := ⟨va_K.moved hW.alike h.1, h.2.warm hW⟩
theorem HW.alike {lay : Nat → Nat → Nat} {L0 : Nat} {X : Cx} {σ : St} {u U : State} {H : Heap} (hvm : u.vm.Alike U.vm) (h : HW lay L0 X σ u H) : HW lay L0 X σ U H := by
  obtain ⟨h1, h2, h3, h4, h5, h6, h7, h8, h9⟩ := h
  exact ⟨h1, h2, h3, h4, h5, h6, h7.moved hvm, h8.moved hvm, h9.moved hvm⟩
end
section
/-! ===== every instruction of the machine keeps to the abstract one ===== -/
theorem qI_some {st : List AV} {f : Int32 → List AV → Option Act} {A : Act} (h : qI st f = some A) : ∃ x r, st = aI x :: r ∧ f x r = some A := by
  unfold qI at h
  split at h
  · exact ⟨_, _, rfl, h⟩
  · cases h
theorem qJ_some {st : List AV} {f : Int64 → List AV → Option Act} {A : Act} (h : qJ st f = some A) : ∃ x r, st = aJ x :: r ∧ f x r = some A := by
  unfold qJ at h
  split at h
  · exact ⟨_, _, rfl, h⟩
  · cases h
theorem qR_some {st : List AV} {f : Nat → Nat → List AV → Option Act} {A : Act} (h : qR st f = some A) : ∃ t j r, st = aO t j :: r ∧ f t j r = some A := by
  unfold qR at h
  split at h
  · exact ⟨_, _, _, rfl, h⟩
  · cases h
theorem bif_some {b : Bool} {x : Option Act} {A : Act} (h : (bif b then x else none) = some A) : b = true ∧ x = some A := by
  cases b
  · cases h
  · exact ⟨rfl, h⟩
theorem qO_some {t : Nat} {st : List AV} {f : Nat → List AV → Option Act} {A : Act} (h : qO t st f = some A) : ∃ j r, st = aO t j :: r ∧ f j r = some A := by
  unfold qO at h
  split at h
  · obtain ⟨h1, h2⟩ := bif_some h
    cases Nat.eq_of_beq_eq_true h1
    exact ⟨_, _, rfl, h2⟩
  · cases h
theorem pops_some {f : List AV → List AV → Option Act} {A : Act} : ∀ (n : Nat) (acc st : List AV), pops n acc st f = some A → ∃ as r, st = as ++ r ∧ as.length = n ∧ f (as.reverse ++ acc) r = some A
  | 0, acc, st, h => ⟨[], st, rfl, rfl, h⟩
  | _ + 1, _, [], h => by cases h
  | n + 1, acc, v :: st, h => by
    obtain ⟨as, r, h1, h2, h3⟩ := pops_some n (v :: acc) st h
    exact ⟨v :: as, r, by rw [h1]; rfl, by rw [← h2]; rfl, by simpa using h3⟩
theorem catS_eq (X : Cx) : ∀ st : List AV, ((st.map (cvV X)).map fun v => v.category).sum = catS st
  | [] => rfl
  | v :: r => by
    have h := catS_eq X r
    have hv : (cvV X v).category = cat v := by
      match v with
      | .inl _ => rfl
      | .inr (.inl _) => rfl
      | .inr (.inr (.inl _)) => rfl
      | .inr (.inr (.inr (t, j))) =>
        show (cvt X j).category = 1
        unfold cvt
        split
        · rfl
        · split
          · rfl
          · split <;> rfl
    simp only [List.map_cons, List.sum_cons, h, hv, catS]
theorem cat_cv (X : Cx) (v : AV) : (cvV X v).category = cat v := by
  have := catS_eq X [v]
  simpa [catS] using this
/-- locals -/
def Lc (X : Cx) (n : Nat) (ls : List AV) (L : Array Slot) : Prop := L.size = n ∧ lv_wf L ∧ ls.length = n ∧ ∀ i, nthA ls i ≠ aZ → L[i]? = some (.val (cvV X (nthA ls i)))
def lp (X : Cx) (n : Nat) (ls : List AV) : List (Nat × Value) := (List.range n).filterMap (fun i => match nthA ls i with
  | .inl _ => none
  | v => some (i, cvV X v))
theorem nthA_ge : ∀ {ls : List AV} {i : Nat}, ls.length ≤ i → nthA ls i = aZ
  | [], _, _ => rfl
  | _ :: _, 0, h => absurd h (by simp)
  | _ :: r, n + 1, h => nthA_ge (ls := r) (Nat.le_of_succ_le_succ h)
theorem aZ_of {v : AV} (h : ∀ u, v ≠ .inl u) : v ≠ aZ := h ()
theorem lp_mem {X : Cx} {n : Nat} {ls : List AV} {q : Nat × Value} : q ∈ lp X n ls ↔ q.1 < n ∧ nthA ls q.1 ≠ aZ ∧ q.2 = cvV X (nthA ls q.1) := by
  unfold lp
  rw [List.mem_filterMap]
  constructor
  · rintro ⟨i, hi, h⟩
    split at h
    · cases h
    · next hz =>
      cases h
      exact ⟨List.mem_range.mp hi, fun z => hz () z, rfl⟩
  · rintro ⟨h1, h2, h3⟩
    refine ⟨q.1, List.mem_range.mpr h1, ?_⟩
    split
    · next u e => exact absurd e h2
    · rw [← h3]
theorem Lc.has {X : Cx} {n : Nat} {ls : List AV} {L : Array Slot} (h : Lc X n ls L) : lv_has L n (lp X n ls) := by
  refine ⟨h.1, h.2.1, fun q hq => ?_⟩
  obtain ⟨h1, h2, h3⟩ := lp_mem.mp hq
  rw [h.2.2.2 q.1 h2, h3]
theorem nthA_sto : ∀ (ls : List AV) (i : Nat) (v : AV) (k : Nat), i < ls.length → nthA (sto ls i v) k = if k = i then v else if k + 1 = i then unJ (nthA ls k) else nthA ls k
  | [], _, _, _, h => absurd h (by simp)
  | x :: r, 0, v, k, _ => by
    cases k with
    | zero => rfl
    | succ k => simp [sto, nthA]
  | x :: r, n + 1, v, k, h => by
    have h' : n < r.length := Nat.lt_of_succ_lt_succ h
    cases k with
    | zero =>
      show (bif Nat.beq n 0 then unJ x else x) = _
      cases n with
      | zero => simp [nthA]
      | succ n =>
        show x = _
        simp [nthA]
    | succ k =>
      show nthA (sto r n v) k = _
      rw [nthA_sto r n v k h']
      simp [nthA]
theorem sto_len : ∀ (ls : List AV) (i : Nat) (v : AV), (sto ls i v).length = ls.length
  | [], _, _ => rfl
  | _ :: _, 0, _ => rfl
  | _ :: r, n + 1, v => by simp [sto, sto_len r n v]
theorem sto_mem {P : AV → Prop} (hz : P aZ) : ∀ (ls : List AV) (i : Nat) (v : AV), P v → (∀ x ∈ ls, P x) → ∀ x ∈ sto ls i v, P x
  | [], _, _, _, _, x, hx => by cases hx
  | y :: r, 0, v, hv, h, x, hx => by
    rcases List.mem_cons.mp hx with rfl | hx
    · exact hv
    · exact h x (List.mem_cons_of_mem _ hx)
  | y :: r, n + 1, v, hv, h, x, hx => by
    rcases List.mem_cons.mp hx with rfl | hx
    · cases Nat.beq n 0
      · exact h y List.mem_cons_self
      · show P (unJ y)
        match y, h y List.mem_cons_self with
        | .inl _, h => exact h
        | .inr (.inl _), h => exact h
        | .inr (.inr (.inl _)), _ => exact hz
        | .inr (.inr (.inr _)), h => exact h
    · exact sto_mem hz r n v hv (fun x hx => h x (List.mem_cons_of_mem _ hx)) x hx
theorem nthA_set : ∀ (ls : List AV) (i k : Nat) (v : AV), nthA (ls.set i v) k = if k = i ∧ i < ls.length then v else nthA ls k
  | [], _, _, _ => by simp [nthA]
  | _ :: _, 0, 0, _ => by simp [nthA]
  | _ :: _, 0, k + 1, _ => by simp [nthA]
  | _ :: _, _ + 1, 0, _ => by simp [nthA]
  | _ :: r, i + 1, k + 1, v => by
    simp only [List.set_cons_succ, nthA]
    rw [nthA_set r i k v]
    simp
theorem unJ_cat {v : AV} (h : unJ v ≠ aZ) : unJ v = v ∧ cat v ≠ 2 := by
  match v, h with
  | .inl _, _ => exact ⟨rfl, by simp [cat]⟩
  | .inr (.inl _), _ => exact ⟨rfl, by simp [cat]⟩
  | .inr (.inr (.inl _)), h => exact absurd rfl h
  | .inr (.inr (.inr _)), _ => exact ⟨rfl, by simp [cat]⟩
/-- behind a store of one place -/
theorem Lc_sto1 {X : Cx} {n i : Nat} {ls : List AV} {L L' : Array Slot} {v : AV} (h : Lc X n ls L) (hi : i < n) (hv : v ≠ aZ) (hl : lv_has L' n ((i, cvV X v) :: (lp X n ls).filter (fun q => !(q.1 == i) && !(q.1 + 1 == i && q.2.category == 2)))) : Lc X n (sto ls i v) L' := by
  refine ⟨hl.1, hl.2.1, by rw [sto_len]; exact h.2.2.1, fun k hk => ?_⟩
  have hil : i < ls.length := by rw [h.2.2.1]; exact hi
  rw [nthA_sto ls i v k hil] at hk ⊢
  by_cases e : k = i
  · rw [if_pos e]
    subst e
    exact hl.2.2 (k, cvV X v) List.mem_cons_self
  · rw [if_neg e] at hk ⊢
    by_cases e2 : k + 1 = i
    · rw [if_pos e2] at hk ⊢
      obtain ⟨h1, h2⟩ := unJ_cat hk
      rw [h1] at hk ⊢
      refine hl.2.2 (k, cvV X (nthA ls k)) (List.mem_cons_of_mem _ (List.mem_filter.mpr ⟨lp_mem.mpr ⟨by show k < n; omega, hk, rfl⟩, ?_⟩))
      have : ¬ (cvV X (nthA ls k)).category = 2 := by rw [cat_cv]; exact h2
      simp [e, this]
    · rw [if_neg e2] at hk ⊢
      have hkn : k < n := by
        rcases Nat.lt_or_ge k n with q | q
        · exact q
        · exact absurd (nthA_ge (by rw [h.2.2.1]; exact q)) hk
      refine hl.2.2 (k, cvV X (nthA ls k)) (List.mem_cons_of_mem _ (List.mem_filter.mpr ⟨lp_mem.mpr ⟨hkn, hk, rfl⟩, ?_⟩))
      simp [e, e2]
theorem Lc_sto2 {X : Cx} {n i : Nat} {ls : List AV} {L L' : Array Slot} {v : AV} (h : Lc X n ls L) (hi : i + 1 < n) (hv : v ≠ aZ) (hl : lv_has L' n ((i, cvV X v) :: (lp X n ls).filter (fun q => !(q.1 == i) && (!(q.1 == i + 1) && !(q.1 + 1 == i && q.2.category == 2))))) : Lc X n (sto2 ls i v) L' := by
  refine ⟨hl.1, hl.2.1, by unfold sto2; rw [List.length_set, sto_len]; exact h.2.2.1, fun k hk => ?_⟩
  have hil : i < ls.length := by rw [h.2.2.1]; omega
  unfold sto2 at hk ⊢
  rw [nthA_set] at hk ⊢
  by_cases e0 : k = i + 1
  · rw [if_pos ⟨e0, by rw [sto_len, h.2.2.1]; exact hi⟩] at hk
    exact absurd rfl hk
  · rw [if_neg (fun q => e0 q.1)] at hk ⊢
    rw [nthA_sto ls i v k hil] at hk ⊢
    by_cases e : k = i
    · rw [if_pos e]
      subst e
      exact hl.2.2 (k, cvV X v) List.mem_cons_self
    · rw [if_neg e] at hk ⊢
      by_cases e2 : k + 1 = i
      · rw [if_pos e2] at hk ⊢
        obtain ⟨h1, h2⟩ := unJ_cat hk
        rw [h1] at hk ⊢
        refine hl.2.2 (k, cvV X (nthA ls k)) (List.mem_cons_of_mem _ (List.mem_filter.mpr ⟨lp_mem.mpr ⟨by show k < n; omega, hk, rfl⟩, ?_⟩))
        have : ¬ (cvV X (nthA ls k)).category = 2 := by rw [cat_cv]; exact h2
        simp [e, e0, this]
      · rw [if_neg e2] at hk ⊢
        have hkn : k < n := by
          rcases Nat.lt_or_ge k n with q | q
          · exact q
          · exact absurd (nthA_ge (by rw [h.2.2.1]; exact q)) hk
        refine hl.2.2 (k, cvV X (nthA ls k)) (List.mem_cons_of_mem _ (List.mem_filter.mpr ⟨lp_mem.mpr ⟨hkn, hk, rfl⟩, ?_⟩))
        simp [e, e0, e2]
theorem nthA_mem {P : AV → Prop} (hz : P aZ) : ∀ {ls : List AV} (_ : ∀ x ∈ ls, P x) (i : Nat), P (nthA ls i)
  | [], _, _ => hz
  | v :: _, h, 0 => h v List.mem_cons_self
  | _ :: r, h, n + 1 => nthA_mem hz (ls := r) (fun x hx => h x (List.mem_cons_of_mem _ hx)) n
theorem cvt_rf {X : Cx} {σ : St} {t r : Nat} (h : rOK σ t r) : cvt X r = va_rf (rfO X r) := by
  rcases h with rfl | ⟨h1, -⟩
  · rfl
  · unfold cvt rfO
    rw [if_neg (by omega), if_neg (by omega), if_neg (by omega), if_neg (by omega)]
    rfl
end
section
/-! ===== the rows of heap instructions over the whole world ===== -/
def tyMB (ty : Nat) (r : Option FieldType) : Bool := match ty with
  | 0 => decide (r = some .int)
  | 1 => decide (r = some .boolean)
  | 3 => decide (r = some .long)
  | _ + 4 => (match r with
    | some (.object _) => true
    | some (.array _) => true
    | _ => false)
  | _ => false
theorem tyM_ok : ∀ ci, ci < 13 → ∀ k, k < nF ci → tyMB (fty ci k) (parseFieldDescriptor (tC ci k).2.2.1) = true := by decide +kernel
/-- what the tables say of class ci -/
theorem cls_ok : ∀ ci, ci < 13 → ∃ (T : u_T) (ty : Nat → FieldType), vwCl[ci]? = some (nmC ci, T, nF ci) ∧ (∀ k, T k = tC ci k) ∧ (∀ w ∈ u_ws (nmC ci) T (nF ci), w ∈ lw_tbl) ∧ (∀ k, k < nF ci → parseFieldDescriptor (T k).2.2.1 = some (ty k)) ∧ (∀ a, a < nF ci → ∀ b, b < nF ci → a ≠ b → (T a).2.1 ≠ (T b).2.1) := by
  intro ci h
  match ci, h with
  | 0, _ => exact ⟨TX0, tyX0, rfl, fun _ => rfl, inX0, tyX0_ok, nmX0⟩
  | 1, _ => exact ⟨TX1, tyX1, rfl, fun _ => rfl, inX1, tyX1_ok, nmX1⟩
  | 2, _ => exact ⟨TX2, tyX2, rfl, fun _ => rfl, inX2, tyX2_ok, nmX2⟩
  | 3, _ => exact ⟨TX3, tyX3, rfl, fun _ => rfl, inX3, tyX3_ok, nmX3⟩
  | 4, _ => exact ⟨TX4, tyX4, rfl, fun _ => rfl, inX4, tyX4_ok, nmX4⟩
  | 5, _ => exact ⟨TX5, tyX5, rfl, fun _ => rfl, inX5, tyX5_ok, nmX5⟩
  | 6, _ => exact ⟨TX6, tyX6, rfl, fun _ => rfl, inX6, tyX6_ok, nmX6⟩
  | 7, _ => exact ⟨TX7, tyX7, rfl, fun _ => rfl, inX7, tyX7_ok, nmX7⟩
  | 8, _ => exact ⟨TX8, tyX8, rfl, fun _ => rfl, inX8, tyX8_ok, nmX8⟩
  | 9, _ => exact ⟨TX9, tyX9, rfl, fun _ => rfl, inX9, tyX9_ok, nmX9⟩
  | 10, _ => exact ⟨TX10, tyX10, rfl, fun _ => rfl, inX10, tyX10_ok, nmX10⟩
  | 11, _ => exact ⟨TX11, tyX11, rfl, fun _ => rfl, inX11, tyX11_ok, nmX11⟩
  | 12, _ => exact ⟨TX12, tyX12, rfl, fun _ => rfl, inX12, tyX12_ok, nmX12⟩
  | n + 13, h => exact absurd h (by omega)
/-- the words of the fields' layout are of those that last -/
theorem lay_wOK {C : String} {T : u_T} {N : Nat} : ∀ w ∈ u_ws C T N, wOK w = true := by
  intro w hw
  obtain ⟨k, -, rfl⟩ := List.mem_map.mp hw
  unfold u_lay
  split <;> rfl
theorem inb_in {i : Int32} {n : Nat} (h : inb i n) : vp_in i n := vp_in_iff.mpr h
theorem ref_of {σ : St} {t j : Nat} (hv : vOK σ (aO t j)) (hj : j ≠ 0) (ht : t ≠ 22) : 3 ≤ j ∧ j < sN σ ∧ gT σ j = t := by
  rcases hv with h | ⟨h, -⟩ | ⟨-, h⟩
  · exact absurd h hj
  · exact absurd h ht
  · exact h
theorem cvt_ge {X : Cx} {j : Nat} (h : 3 ≤ j) : cvt X j = .ref (X.1 + (j - 3)) := by
  unfold cvt
  rw [if_neg (by omega), if_neg (by omega), if_neg (by omega)]
theorem entO_obj {X : Cx} {σ : St} {j ci : Nat} (h : gT σ j = ci) (hc : ci < 13) : entO X σ j = .inr (ci, (List.range (nF ci)).map (fun k => slV X σ (fty ci k) j k)) := by
  unfold entO
  rw [h, if_pos hc]
theorem entO_arr {X : Cx} {σ : St} {j t : Nat} (h : gT σ j = t) (hc : 16 ≤ t) : entO X σ j = .inl (X.2.2.2.2 t, entA X σ t j) := by
  unfold entO
  rw [h, if_neg (by omega)]
section HROWS
variable {p : Program} {l : Launch} {e : Env} {R : Room} {s : State} {m : MethodId} {args : Array Value} {below : List Frame} {meth : Method} {c : Code} {H : Heap} {locs : List Loc} {cells slots : Nat} {Q : State → Prop}
variable {cc : ByteArray} {pc : Nat} {L : Array Slot} {rest : List Value} {X : Cx} {lay : Nat → Nat → Nat} {L0 : Nat} {σ : St} {own : String}
theorem h_get (hx : p.tables.exec = Jvm.exec) (hb : c.code = cc) (hT : TW X s) (hown : s.vm.findClass own = some m.cls) (hH : HW lay L0 X σ s H) {ci k j i q : Nat} {nest : Bool} (hci : ci < 13) (hk : k < nF ci) (h3 : 3 ≤ j) (hn : j < sN σ) (ht : gT σ j = ci)
    (hl : gw q (bif nest then .fieldLinkNest own i (tC ci k).1 (tC ci k).2.1 (tC ci k).2.2.1 "MagnetRing" else .fieldLink own i (tC ci k).1 (tC ci k).2.1 (tC ci k).2.2.1) = true) (hdg : decode cc pc = .ok (.getfield i, 3))
    (kk : W p l e R s m args below meth c H locs cells slots Q (F0 m (pc + 3) L (slV X σ (fty ci k) j k :: rest))) : W p l e R s m args below meth c H locs cells slots Q (F0 m pc L (.ref (X.1 + (j - 3)) :: rest)) := by
  obtain ⟨T, ty, hvw, hTk, hin, hty, hnm⟩ := cls_ok ci hci
  have hts : ∀ w ∈ u_ws (nmC ci) T (nF ci), w.before args s = true := fun w hw => hT.2 w (hin w hw) (lay_wOK w hw) args
  have he := conc_get (X := X) h3 hn
  rw [entO_obj ht hci] at he
  cases nest with
  | false =>
    refine va_get (D := X.2.2.2.1) (cl := vwCl) (ci := ci) (C := nmC ci) (T := T) (N := nF ci) (ref := (tC ci k).1) hx hb (Ts := u_ws (nmC ci) T (nF ci)) hts (fun _ h => h) hown hT.1 hH.1 (j - 3) he hvw k hk (by rw [hTk]; exact hT.2.get hl rfl args) (fun x h => by rw [hTk] at h ⊢; exact h) (v := slV X σ (fty ci k) j k) (by simp [hk]) hdg kk
  | true =>
    refine va_getN (D := X.2.2.2.1) (cl := vwCl) (ci := ci) (C := nmC ci) (T := T) (N := nF ci) (ref := (tC ci k).1) (host := "MagnetRing") hx hb (Ts := u_ws (nmC ci) T (nF ci)) hts (fun _ h => h) hown hT.1 hH.1 (j - 3) he hvw k hk (by rw [hTk]; exact hT.2.get hl rfl args) (fun x h => by rw [hTk] at h ⊢; exact h) (v := slV X σ (fty ci k) j k) (by simp [hk]) hdg kk
/-- the world behind a write to cell j, of which slot k changes -/
theorem HW.put {τ : St} {H1 : Heap} {locs1 : List Loc} (hH : HW lay L0 X σ s H) (hS : va_S (fun q => X.1 ≤ q) s.heap H1 locs1) (hS0 : va_S (fun q => X.1 ≤ q) s.heap H locs) (hz : H1.size = H.size) (hP : va_P X.2.2.2.1 vwCl (conc X τ) H1) (hn : sN τ = sN σ) (hw : wt τ) (hl : ∀ j k, lay j k ≠ 0 → gR τ j k = lay j k) (h1 : gN τ 1 = gN σ 1 ∧ gI τ 1 = gI σ 1) (h2 : gN τ 2 = gN σ 2 ∧ gI τ 2 = gI σ 2) (hsz : X.1 ≤ s.heap.size) : HW lay L0 X τ s H1 := by
  obtain ⟨-, g2, g3, -, g5, g6, g7, g8, g9⟩ := hH
  have low : ∀ q, q < X.1 → H1[q]? = H[q]? := fun q hq => by
    rw [hS.2.1 q (Nat.lt_of_lt_of_le hq hsz) (Nat.not_le.mpr hq), hS0.2.1 q (Nat.lt_of_lt_of_le hq hsz) (Nat.not_le.mpr hq)]
  refine ⟨hP, by rw [hz, hn]; exact g2, by rw [hn]; exact g3, hw, ⟨by rw [hn]; exact g5.1, hl⟩, g6, ?_, ?_, ?_⟩
  · rw [h1.1, h1.2]; exact g7.kept (low _ g6.1)
  · rw [h2.1, h2.2]; exact g8.kept (fun a _ ha => low a (Nat.not_le.mp ha))
  · exact g9.kept (fun a _ ha => low a (Nat.not_le.mp ha))
end HROWS
end
section
/-! ===== reading behind a write ===== -/
theorem gI_pI (σ : St) (j k : Nat) (v : Int32) (a b : Nat) : gI (pI σ j k v) a b = if a = j ∧ b = k then v else gI σ a b := rfl
theorem gL_pL (σ : St) (j k : Nat) (v : Int64) (a b : Nat) : gL (pL σ j k v) a b = if a = j ∧ b = k then v else gL σ a b := rfl
theorem gR_pR (σ : St) (j k : Nat) (v : Nat) (a b : Nat) : gR (pR σ j k v) a b = if a = j ∧ b = k then v else gR σ a b := rfl
theorem slV_pI {X : Cx} {σ : St} {j k : Nat} {v : Int32} (ty i b : Nat) (h : ¬ (i = j ∧ b = k)) : slV X (pI σ j k v) ty i b = slV X σ ty i b := by
  match ty with
  | 0 => show Value.int (gI (pI σ j k v) i b) = _; rw [gI_pI, if_neg h]; rfl
  | 1 => show Value.int (gI (pI σ j k v) i b) = _; rw [gI_pI, if_neg h]; rfl
  | 2 => show Value.int (gI (pI σ j k v) i b) = _; rw [gI_pI, if_neg h]; rfl
  | 3 => rfl
  | _ + 4 => rfl
theorem slV_pL {X : Cx} {σ : St} {j k : Nat} {v : Int64} (ty i b : Nat) (h : ¬ (i = j ∧ b = k)) : slV X (pL σ j k v) ty i b = slV X σ ty i b := by
  match ty with
  | 0 => rfl
  | 1 => rfl
  | 2 => rfl
  | 3 => show Value.long (gL (pL σ j k v) i b) = _; rw [gL_pL, if_neg h]; rfl
  | _ + 4 => rfl
theorem slV_pR {X : Cx} {σ : St} {j k : Nat} {v : Nat} (ty i b : Nat) (h : ¬ (i = j ∧ b = k)) : slV X (pR σ j k v) ty i b = slV X σ ty i b := by
  match ty with
  | 0 => rfl
  | 1 => rfl
  | 2 => rfl
  | 3 => rfl
  | _ + 4 => show va_rf (rfO X (gR (pR σ j k v) i b)) = _; rw [gR_pR, if_neg h]; rfl
theorem entO_pI {X : Cx} {σ : St} {j k : Nat} {v : Int32} (i : Nat) (h : i ≠ j) : entO X (pI σ j k v) i = entO X σ i := by
  unfold entO entA
  have e1 : (fun b => gI (pI σ j k v) i b) = fun b => gI σ i b := funext fun b => by rw [gI_pI, if_neg (fun q => h q.1)]
  have e2 : (fun b => slV X (pI σ j k v) (fty (gT σ i) b) i b) = fun b => slV X σ (fty (gT σ i) b) i b := funext fun b => slV_pI _ _ _ (fun q => h q.1)
  rw [e1]
  show (if gT σ i < 13 then _ else _) = _
  rw [show (fun k_1 => slV X (pI σ j k v) (fty (gT (pI σ j k v) i) k_1) i k_1) = fun b => slV X σ (fty (gT σ i) b) i b from e2]
  rfl
theorem entO_pL {X : Cx} {σ : St} {j k : Nat} {v : Int64} (i : Nat) (h : i ≠ j) : entO X (pL σ j k v) i = entO X σ i := by
  unfold entO entA
  have e1 : (fun b => gL (pL σ j k v) i b) = fun b => gL σ i b := funext fun b => by rw [gL_pL, if_neg (fun q => h q.1)]
  have e2 : (fun b => slV X (pL σ j k v) (fty (gT σ i) b) i b) = fun b => slV X σ (fty (gT σ i) b) i b := funext fun b => slV_pL _ _ _ (fun q => h q.1)
  rw [e1]
  show (if gT σ i < 13 then _ else _) = _
  rw [show (fun k_1 => slV X (pL σ j k v) (fty (gT (pL σ j k v) i) k_1) i k_1) = fun b => slV X σ (fty (gT σ i) b) i b from e2]
  rfl
theorem entO_pR {X : Cx} {σ : St} {j k : Nat} {v : Nat} (i : Nat) (h : i ≠ j) : entO X (pR σ j k v) i = entO X σ i := by
  unfold entO entA
  have e1 : (fun b => rfO X (gR (pR σ j k v) i b)) = fun b => rfO X (gR σ i b) := funext fun b => by rw [gR_pR, if_neg (fun q => h q.1)]
  have e2 : (fun b => slV X (pR σ j k v) (fty (gT σ i) b) i b) = fun b => slV X σ (fty (gT σ i) b) i b := funext fun b => slV_pR _ _ _ (fun q => h q.1)
  rw [e1]
  show (if gT σ i < 13 then _ else _) = _
  rw [show (fun k_1 => slV X (pR σ j k v) (fty (gT (pR σ j k v) i) k_1) i k_1) = fun b => slV X σ (fty (gT σ i) b) i b from e2]
  rfl
/-- what a write to cell j leaves -/
def UpdAt (lay : Nat → Nat → Nat) (X : Cx) (σ τ : St) (j : Nat) : Prop := sN τ = sN σ ∧ (∀ i, i ≠ j → entO X τ i = entO X σ i) ∧ wt τ ∧ (∀ a k, lay a k ≠ 0 → gR τ a k = lay a k) ∧ (gN τ 1 = gN σ 1 ∧ gI τ 1 = gI σ 1) ∧ (gN τ 2 = gN σ 2 ∧ gI τ 2 = gI σ 2)
theorem UpdAt_pI {lay : Nat → Nat → Nat} {X : Cx} {σ : St} {j k : Nat} {v : Int32} (h3 : 3 ≤ j) (hw : wt σ) (hl : ∀ a k, lay a k ≠ 0 → gR σ a k = lay a k) : UpdAt lay X σ (pI σ j k v) j :=
  ⟨rfl, entO_pI, hw, hl, ⟨rfl, funext fun b => by rw [gI_pI, if_neg (fun q => by omega)]⟩, ⟨rfl, funext fun b => by rw [gI_pI, if_neg (fun q => by omega)]⟩⟩
theorem UpdAt_pL {lay : Nat → Nat → Nat} {X : Cx} {σ : St} {j k : Nat} {v : Int64} (hw : wt σ) (hl : ∀ a k, lay a k ≠ 0 → gR σ a k = lay a k) : UpdAt lay X σ (pL σ j k v) j :=
  ⟨rfl, entO_pL, hw, hl, ⟨rfl, rfl⟩, ⟨rfl, rfl⟩⟩
theorem UpdAt_pR {lay : Nat → Nat → Nat} {X : Cx} {σ : St} {j k v : Nat} (hw : wt σ) (hl : ∀ a k, lay a k ≠ 0 → gR σ a k = lay a k) (hlc : layC lay j k v) (hv : ∀ t, sty (gT σ j) k = t + 4 → rOK σ t v) : UpdAt lay X σ (pR σ j k v) j := by
  refine ⟨rfl, entO_pR, ⟨hw.1, fun a b t h1 h2 h4 => ?_⟩, fun a b h => ?_, ⟨rfl, rfl⟩, ⟨rfl, rfl⟩⟩
  · rw [gR_pR]
    by_cases e : a = j ∧ b = k
    · rw [if_pos e]
      obtain ⟨rfl, rfl⟩ := e
      exact hv t h4
    · rw [if_neg e]
      exact hw.2 a b t h1 h2 h4
  · rw [gR_pR]
    by_cases e : a = j ∧ b = k
    · rw [if_pos e]
      obtain ⟨rfl, rfl⟩ := e
      rcases hlc with q | q
      · exact absurd q h
      · exact q.symm
    · rw [if_neg e]
      exact hl a b h
/-- the link word of a putfield, by its kind -/
def putL (q i ci k kind : Nat) (own : String) (ini : Bool) : Bool := match kind with
  | 0 => gw q (.fieldLink own i (tC ci k).1 (tC ci k).2.1 (tC ci k).2.2.1) && !(tC ci k).2.2.2
  | 1 => gw q (.fieldLinkNest own i (tC ci k).1 (tC ci k).2.1 (tC ci k).2.2.1 "MagnetRing") && !(tC ci k).2.2.2
  | _ => gw q (.fieldLink own i (tC ci k).1 (tC ci k).2.1 (tC ci k).2.2.1) && (tC ci k).2.2.2 && ini && decide ((tC ci k).1 = own)
section HR2
variable {p : Program} {l : Launch} {e : Env} {R : Room} {s : State} {m : MethodId} {args : Array Value} {below : List Frame} {meth : Method} {c : Code} {H : Heap} {locs : List Loc} {cells slots : Nat} {Q : State → Prop}
variable {cc : ByteArray} {pc : Nat} {L : Array Slot} {rest : List Value} {X : Cx} {lay : Nat → Nat → Nat} {L0 : Nat} {σ τ : St} {own : String}
theorem HW.store (hH : HW lay L0 X σ s H) (hS : va_S (fun q => X.1 ≤ q) s.heap H locs) (hsz : X.1 ≤ s.heap.size) {j : Nat} (h3 : 3 ≤ j) (hn : j < sN σ) (hu : UpdAt lay X σ τ j) {H1 : Heap} (hat : va_at X.2.2.2.1 vwCl (X.1 + (j - 3), entO X τ j) H1) (hz : H1.size = H.size) (oq : ∀ q, q ≠ X.1 + (j - 3) → H1[q]? = H[q]?) (k : Nat) : HW lay L0 X τ s H1 ∧ va_S (fun q => X.1 ≤ q) s.heap H1 (locs ++ [⟨X.1 + (j - 3), k⟩]) := by
  obtain ⟨u1, u2, u3, u4, u5, u6⟩ := hu
  have hS1 : va_S (fun q => X.1 ≤ q) s.heap H1 (locs ++ [⟨X.1 + (j - 3), k⟩]) := hS.put hz oq (Nat.le_add_right _ _)
  refine ⟨HW.put hH hS1 hS hz ?_ u1 u3 u4 u5 u6 hsz, hS1⟩
  rw [← conc_set h3 u1 u2]
  exact hH.1.set (conc_D X σ) (conc_get h3 hn) hat oq
/-- a field is written -/
theorem h_put (hx : p.tables.exec = Jvm.exec) (hb : c.code = cc) (hT : TW X s) (hown : s.vm.findClass own = some m.cls) (hH : HW lay L0 X σ s H) (hS : va_S (fun q => X.1 ≤ q) s.heap H locs) (hsz : X.1 ≤ s.heap.size) {ci k j i q kind : Nat} (hci : ci < 13) (hk : k < nF ci) (h3 : 3 ≤ j) (hn : j < sN σ) (ht : gT σ j = ci)
    (hl : putL q i ci k kind own (decide (meth.name = "<init>")) = true)
    {v : Value} {ty : FieldType} (hd : parseFieldDescriptor (tC ci k).2.2.1 = some ty) (hnar : narrow ty v = v) (hfit : fits ty v = true) (hu : UpdAt lay X σ τ j) (hτ : gT τ j = ci) (hsl : slV X τ (fty ci k) j k = v) (hso : ∀ b, b ≠ k → slV X τ (fty ci b) j b = slV X σ (fty ci b) j b) (hdg : decode cc pc = .ok (.putfield i, 3))
    (kk : ∀ (H1 : Heap) (locs1 : List Loc), HW lay L0 X τ s H1 → va_S (fun q => X.1 ≤ q) s.heap H1 locs1 → W p l e R s m args below meth c H1 locs1 cells slots Q (F0 m (pc + 3) L rest)) : W p l e R s m args below meth c H locs cells slots Q (F0 m pc L (v :: .ref (X.1 + (j - 3)) :: rest)) := by
  obtain ⟨T, ty0, hvw, hTk, hin, hty, hnm⟩ := cls_ok ci hci
  have hts : ∀ w ∈ u_ws (nmC ci) T (nF ci), w.before args s = true := fun w hw => hT.2 w (hin w hw) (lay_wOK w hw) args
  have he := conc_get (X := X) h3 hn
  rw [entO_obj ht hci] at he
  have hap := va_apart (own := own) hts (fun _ h => h) ty0 hty hnm hT.1 hvw
  obtain ⟨r, h1, cell, q1, q2, q3, q4⟩ := hH.1 (j - 3) _ he
  have hr : r = (nmC ci, T, nF ci) := Option.some.inj (h1.symm.trans hvw)
  subst hr
  obtain ⟨hSl, hfc, kC, hkC, hkind⟩ := hT.1.1 ci _ hvw
  obtain ⟨cf, kf, fi, f, hi, hsl2⟩ := hSl k hk
  have hlay := hts _ (u_in_lay hk)
  have hst := (u_facts hfc hkC (u_lays hts (fun _ h => h) hk) hi).1
  have hlen : k < ((List.range (nF ci)).map (fun k => slV X σ (fty ci k) j k)).length := by simpa using hk
  have fin : ∀ (H' : Heap), H'[X.1 + (j - 3)]? = some (cell.setSlot f.slot v) → H'.size = H.size → (∀ q, q ≠ X.1 + (j - 3) → H'[q]? = H[q]?) → W p l e R s m args below meth c H' (locs ++ [⟨X.1 + (j - 3), f.slot⟩]) cells slots Q (F0 m (pc + 3) L rest) := by
    intro H' e1 e2 e3
    rw [hsl2] at e1 ⊢
    have hat : va_at X.2.2.2.1 vwCl (X.1 + (j - 3), entO X τ j) H' := by
      rw [entO_obj hτ hci, ← map_set_range (fun k => slV X σ (fty ci k) j k) (fun k => slV X τ (fty ci k) j k) (nF ci) k hk hso, hsl]
      exact ⟨_, hvw, t_OB.to (V := updV (vp_V ((List.range (nF ci)).map (fun k => slV X σ (fty ci k) j k))) k v) ⟨_, e1, q2, q3, t_set q4 hap hk v⟩ (fun b _ => vp_updV_set hlen v b)⟩
    obtain ⟨a1, a2⟩ := HW.store hH hS hsz h3 hn hu hat e2 e3 (X.2.2.2.1.2 ci k)
    exact kk H' _ a1 a2
  unfold u_lay at hlay
  dsimp only at hi
  rw [hTk] at hi hlay
  match kind, hl with
  | 0, hl =>
    obtain ⟨l1, l2⟩ := Bool.and_eq_true_iff.mp hl
    have hfin : (tC ci k).2.2.2 = false := by simpa using l2
    rw [if_neg (by rw [hfin]; decide)] at hlay
    have h6 := u_store hfc hkC hkind hlay hi hd hnar hfit
    exact W.putK hx hb (f := f) ⟨hown, hT.2.get l1 rfl args, ⟨_, _, _, hi⟩, hst⟩ (by rw [q2]; exact h6) q1 q3 (by rw [hsl2]; exact k2_hasslot (q4 k hk)) rfl rfl hdg fin
  | 1, hl =>
    obtain ⟨l1, l2⟩ := Bool.and_eq_true_iff.mp hl
    have hfin : (tC ci k).2.2.2 = false := by simpa using l2
    rw [if_neg (by rw [hfin]; decide)] at hlay
    have h6 := u_store hfc hkC hkind hlay hi hd hnar hfit
    exact va_WputK hx hb (f := f) hown (hT.2.get l1 rfl args) hi hst (by rw [q2]; exact h6) q1 q3 (by rw [hsl2]; exact k2_hasslot (q4 k hk)) rfl rfl hdg fin
  | n + 2, hl =>
    obtain ⟨l123, l4⟩ := Bool.and_eq_true_iff.mp hl
    obtain ⟨l12, l3⟩ := Bool.and_eq_true_iff.mp l123
    obtain ⟨l1, l2⟩ := Bool.and_eq_true_iff.mp l12
    rw [if_pos l2] at hlay
    have hdecl : (tC ci k).1 = own := of_decide_eq_true l4
    have hcf : m.cls = cf := by
      obtain ⟨_, _, c', _, _, _, -, -, hf', -, -, -, hown2, -⟩ := Cond.laysFinal_spec hlay
      have e1 : c' = cf := by have := hi.symm.trans hf'; simp at this; exact this.1.symm
      rw [hdecl] at hown2
      rw [← e1]; exact Option.some.inj (hown.symm.trans hown2)
    have h6 := u_fits hfc hkC hkind (Or.inr hlay) hi hd hnar hfit
    exact W.putFinK hx hb hown (hT.2.get l1 rfl args) hi hst hcf (of_decide_eq_true l3) (by rw [q2]; exact h6) q1 q3 (by rw [hsl2]; exact k2_hasslot (q4 k hk)) rfl rfl hdg fin
end HR2
end
section
/-! ===== arrays and new cells over the whole world ===== -/
theorem entA_i {X : Cx} {σ : St} {t j : Nat} (h : t < 19) : entA X σ t j = (gN σ j, .inl (fun k => gI σ j k)) := by
  unfold entA
  rw [if_pos h]
theorem entA_l {X : Cx} {σ : St} {j : Nat} : entA X σ 19 j = (gN σ j, .inr (.inl (fun k => gL σ j k))) := rfl
theorem entA_q {X : Cx} {σ : St} {t j : Nat} (h : 20 ≤ t) : entA X σ t j = (gN σ j, .inr (.inr (.inr (.inr (fun k => rfO X (gR σ j k)))))) := by
  unfold entA
  rw [if_neg (by omega), if_neg (by omega)]
section HR3
variable {p : Program} {l : Launch} {e : Env} {R : Room} {s : State} {m : MethodId} {args : Array Value} {below : List Frame} {meth : Method} {c : Code} {H : Heap} {locs : List Loc} {cells slots : Nat} {Q : State → Prop}
variable {cc : ByteArray} {pc : Nat} {L : Array Slot} {rest : List Value} {X : Cx} {lay : Nat → Nat → Nat} {L0 : Nat} {σ τ : St} {own : String}
theorem h_iald (hx : p.tables.exec = Jvm.exec) (hb : c.code = cc) (hT : TW X s) (hH : HW lay L0 X σ s H) {j : Nat} {i : Int32} (h3 : 3 ≤ j) (hn : j < sN σ) (ht : gT σ j = 16) (hi : inb i (gN σ j)) (hdg : decode cc pc = .ok (.iaload, 1))
    (kk : W p l e R s m args below meth c H locs cells slots Q (F0 m (pc + 1) L (.int (gI σ j (ix i)) :: rest))) : W p l e R s m args below meth c H locs cells slots Q (F0 m pc L (.int i :: .ref (X.1 + (j - 3)) :: rest)) := by
  have he := conc_get (X := X) h3 hn
  rw [entO_arr ht (by omega), entA_i (by omega)] at he
  exact va_iald hx hb hT.1 hH.1 (j - 3) 0 he rfl (inb_in hi) hdg kk
theorem h_zald (hx : p.tables.exec = Jvm.exec) (hb : c.code = cc) (hT : TW X s) (hH : HW lay L0 X σ s H) {j : Nat} {i : Int32} (h3 : 3 ≤ j) (hn : j < sN σ) (ht : gT σ j = 17) (hi : inb i (gN σ j)) (hdg : decode cc pc = .ok (.baload, 1))
    (kk : W p l e R s m args below meth c H locs cells slots Q (F0 m (pc + 1) L (.int (gI σ j (ix i)) :: rest))) : W p l e R s m args below meth c H locs cells slots Q (F0 m pc L (.int i :: .ref (X.1 + (j - 3)) :: rest)) := by
  have he := conc_get (X := X) h3 hn
  rw [entO_arr ht (by omega), entA_i (by omega)] at he
  exact va_zald hx hb hT.1 hH.1 (j - 3) 1 he rfl (inb_in hi) hdg kk
theorem h_bald (hx : p.tables.exec = Jvm.exec) (hb : c.code = cc) (hT : TW X s) (hH : HW lay L0 X σ s H) {j : Nat} {i : Int32} (h3 : 3 ≤ j) (hn : j < sN σ) (ht : gT σ j = 18) (hi : inb i (gN σ j)) (hdg : decode cc pc = .ok (.baload, 1))
    (kk : W p l e R s m args below meth c H locs cells slots Q (F0 m (pc + 1) L (.int (gI σ j (ix i)) :: rest))) : W p l e R s m args below meth c H locs cells slots Q (F0 m pc L (.int i :: .ref (X.1 + (j - 3)) :: rest)) := by
  have he := conc_get (X := X) h3 hn
  rw [entO_arr ht (by omega), entA_i (by omega)] at he
  exact va_bald hx hb hT.1 hH.1 (j - 3) 2 he rfl (inb_in hi) hdg kk
theorem h_lald (hx : p.tables.exec = Jvm.exec) (hb : c.code = cc) (hT : TW X s) (hH : HW lay L0 X σ s H) {j : Nat} {i : Int32} (h3 : 3 ≤ j) (hn : j < sN σ) (ht : gT σ j = 19) (hi : inb i (gN σ j)) (hdg : decode cc pc = .ok (.laload, 1))
    (kk : W p l e R s m args below meth c H locs cells slots Q (F0 m (pc + 1) L (.long (gL σ j (ix i)) :: rest))) : W p l e R s m args below meth c H locs cells slots Q (F0 m pc L (.int i :: .ref (X.1 + (j - 3)) :: rest)) := by
  have he := conc_get (X := X) h3 hn
  rw [entO_arr ht (by omega), entA_l] at he
  exact va_lald hx hb hT.1 hH.1 (j - 3) 3 he rfl (inb_in hi) hdg kk
theorem h_aald (hx : p.tables.exec = Jvm.exec) (hb : c.code = cc) (hT : TW X s) (hH : HW lay L0 X σ s H) {j t : Nat} {i : Int32} (h3 : 3 ≤ j) (hn : j < sN σ) (ht : gT σ j = t) (h20 : t = 20 ∨ t = 21) (hi : inb i (gN σ j)) (hdg : decode cc pc = .ok (.aaload, 1))
    (kk : W p l e R s m args below meth c H locs cells slots Q (F0 m (pc + 1) L (va_rf (rfO X (gR σ j (ix i))) :: rest))) : W p l e R s m args below meth c H locs cells slots Q (F0 m pc L (.int i :: .ref (X.1 + (j - 3)) :: rest)) := by
  have he := conc_get (X := X) h3 hn
  rw [entO_arr ht (by omega), entA_q (by omega)] at he
  rcases h20 with rfl | rfl
  · exact va_aldq hx hb hT.1 hH.1 (j - 3) 4 he rfl (inb_in hi) hdg kk
  · exact va_aldq hx hb hT.1 hH.1 (j - 3) 5 he rfl (inb_in hi) hdg kk
theorem h_alen (hx : p.tables.exec = Jvm.exec) (hb : c.code = cc) (hT : TW X s) (hH : HW lay L0 X σ s H) {j t : Nat} (h3 : 3 ≤ j) (hn : j < sN σ) (ht : gT σ j = t) (h16 : 16 ≤ t ∧ t ≤ 21) (hdg : decode cc pc = .ok (.arraylength, 1))
    (kk : W p l e R s m args below meth c H locs cells slots Q (F0 m (pc + 1) L (.int (Int32.ofNat (gN σ j)) :: rest))) : W p l e R s m args below meth c H locs cells slots Q (F0 m pc L (.ref (X.1 + (j - 3)) :: rest)) := by
  have he := conc_get (X := X) h3 hn
  rw [entO_arr ht h16.1] at he
  have htt : (tysL X)[t - 16]? = some (X.2.2.2.2 t, aTy t) := by
    rcases (show t = 16 ∨ t = 17 ∨ t = 18 ∨ t = 19 ∨ t = 20 ∨ t = 21 by omega) with rfl | rfl | rfl | rfl | rfl | rfl <;> rfl
  exact va_alen hx hb hT.1 hH.1 (j - 3) (t - 16) he htt rfl hdg kk
/-- the script and the primes -/
theorem h_xald (hx : p.tables.exec = Jvm.exec) (hb : c.code = cc) {b N : Nat} {f : Nat → Int32} (hX : va_X b N f s H) {i : Int32} (hi : inb i N) (hdg : decode cc pc = .ok (.iaload, 1))
    (kk : W p l e R s m args below meth c H locs cells slots Q (F0 m (pc + 1) L (.int (f (ix i)) :: rest))) : W p l e R s m args below meth c H locs cells slots Q (F0 m pc L (.int i :: .ref b :: rest)) := by
  obtain ⟨scr, h1, h2, h3, h4, h5⟩ := hX
  have hin := inb_in hi
  have hlt : i.toNatClampNeg < N := Nat.not_le.mp fun q => hin (Or.inr q)
  exact W.iald (v := .int (f i.toNatClampNeg)) hx hb h1 h2 h3 (by rw [h4]; exact hin) (h5 _ hlt) rfl rfl hdg kk
theorem h_xlen (hx : p.tables.exec = Jvm.exec) (hb : c.code = cc) {b N : Nat} {f : Nat → Int32} (hX : va_X b N f s H) (hdg : decode cc pc = .ok (.arraylength, 1))
    (kk : W p l e R s m args below meth c H locs cells slots Q (F0 m (pc + 1) L (.int (Int32.ofNat N) :: rest))) : W p l e R s m args below meth c H locs cells slots Q (F0 m pc L (.ref b :: rest)) := by
  obtain ⟨scr, h1, h2, h3, h4, h5⟩ := hX
  exact W.alen (n := Int32.ofNat N) hx hb h1 h2 (by rw [h4] <;> rfl) rfl rfl hdg kk
theorem h_tald (hx : p.tables.exec = Jvm.exec) (hb : c.code = cc) {b N : Nat} {f : Nat → Int32} {B : Nat → Prop} (hX : va_T .int b N (fun k => .int (f k)) B s H) {i : Int32} (hi : inb i N) (hdg : decode cc pc = .ok (.iaload, 1))
    (kk : W p l e R s m args below meth c H locs cells slots Q (F0 m (pc + 1) L (.int (f (ix i)) :: rest))) : W p l e R s m args below meth c H locs cells slots Q (F0 m pc L (.int i :: .ref b :: rest)) := by
  obtain ⟨scr, h1, h2, h3, h4, -, h5, -⟩ := hX
  have hin := inb_in hi
  have hlt : i.toNatClampNeg < N := Nat.not_le.mp fun q => hin (Or.inr q)
  exact W.iald (v := .int (f i.toNatClampNeg)) hx hb h1 h2 h3 (fun q => q.elim (fun z => hin (Or.inl z)) (fun z => by omega)) (h5 _ hlt) rfl rfl hdg kk
theorem h_tlen (hx : p.tables.exec = Jvm.exec) (hb : c.code = cc) {b N : Nat} {f : Nat → Value} {B : Nat → Prop} (hX : va_T .int b N f B s H) (hdg : decode cc pc = .ok (.arraylength, 1))
    (kk : W p l e R s m args below meth c H locs cells slots Q (F0 m (pc + 1) L (.int (Int32.ofNat N) :: rest))) : W p l e R s m args below meth c H locs cells slots Q (F0 m pc L (.ref b :: rest)) := by
  obtain ⟨scr, h1, h2, h3, h4, h5, -⟩ := hX
  exact W.alen (n := Int32.ofNat N) hx hb h1 h2 h5 rfl rfl hdg kk
theorem at_i {t j : Nat} {H1 : Heap} {i : Int32} {x : Int32} (ht : gT σ j = t) (h16 : 16 ≤ t) (h19 : t < 19) (e : H1[X.1 + (j - 3)]? = some ((vp_cell (X.2.2.2.2 t) (gN σ j, .inl (fun k => gI σ j k))).setSlot i.toNatClampNeg (.int x))) : va_at X.2.2.2.1 vwCl (X.1 + (j - 3), entO X (pI σ j (ix i) x) j) H1 := by
  rw [entO_arr (X := X) (σ := pI σ j (ix i) x) (t := t) ht h16, entA_i h19]
  show H1[X.1 + (j - 3)]? = some (vp_cell _ _)
  rw [e, vp_cell_i, vp_cell_i, arrV_store]
  show some (arrV _ (gN σ j) _) = some (arrV _ (gN σ j) _)
  congr 2
  funext q
  rw [gI_pI]
  unfold updV ix
  by_cases hq : q = i.toNatClampNeg
  · rw [if_pos hq, if_pos ⟨rfl, hq⟩]
  · rw [if_neg hq, if_neg (fun z => hq z.2)]
theorem h_iast (hx : p.tables.exec = Jvm.exec) (hb : c.code = cc) (hT : TW X s) (hH : HW lay L0 X σ s H) (hS : va_S (fun q => X.1 ≤ q) s.heap H locs) (hsz : X.1 ≤ s.heap.size) {j : Nat} {i x : Int32} (h3 : 3 ≤ j) (hn : j < sN σ) (ht : gT σ j = 16) (hi : inb i (gN σ j)) (hdg : decode cc pc = .ok (.iastore, 1))
    (kk : ∀ (H1 : Heap) (locs1 : List Loc), HW lay L0 X (pI σ j (ix i) x) s H1 → va_S (fun q => X.1 ≤ q) s.heap H1 locs1 → W p l e R s m args below meth c H1 locs1 cells slots Q (F0 m (pc + 1) L rest)) : W p l e R s m args below meth c H locs cells slots Q (F0 m pc L (.int x :: .int i :: .ref (X.1 + (j - 3)) :: rest)) := by
  have he := conc_get (X := X) h3 hn
  rw [entO_arr ht (by omega), entA_i (by omega)] at he
  have hin := inb_in hi
  refine W.iast hx hb (hH.1 _ _ he) ((hT.1.2 0 _ rfl).1 (gN σ j) (fun k => .int (gI σ j k))) (fun q => by cases q) (by show ¬ (i < 0 ∨ (arrV _ _ _).slots.size ≤ _); rw [arrV_size]; exact hin) rfl rfl hdg fun H1 e z oq => ?_
  obtain ⟨a1, a2⟩ := HW.store hH hS hsz h3 hn (UpdAt_pI h3 hH.2.2.2.1 hH.2.2.2.2.1.2) (at_i ht (by omega) (by omega) e) z oq i.toNatClampNeg
  exact kk H1 _ a1 a2
theorem h_zast (hx : p.tables.exec = Jvm.exec) (hb : c.code = cc) (hT : TW X s) (hH : HW lay L0 X σ s H) (hS : va_S (fun q => X.1 ≤ q) s.heap H locs) (hsz : X.1 ≤ s.heap.size) {j : Nat} {i x : Int32} (h3 : 3 ≤ j) (hn : j < sN σ) (ht : gT σ j = 17) (hi : inb i (gN σ j)) (hdg : decode cc pc = .ok (.bastore, 1))
    (kk : ∀ (H1 : Heap) (locs1 : List Loc), HW lay L0 X (pI σ j (ix i) (vp_nar .boolean x)) s H1 → va_S (fun q => X.1 ≤ q) s.heap H1 locs1 → W p l e R s m args below meth c H1 locs1 cells slots Q (F0 m (pc + 1) L rest)) : W p l e R s m args below meth c H locs cells slots Q (F0 m pc L (.int x :: .int i :: .ref (X.1 + (j - 3)) :: rest)) := by
  have he := conc_get (X := X) h3 hn
  rw [entO_arr ht (by omega), entA_i (by omega)] at he
  have hin := inb_in hi
  refine W.zast hx hb (hH.1 _ _ he) ((hT.1.2 1 _ rfl).1 (gN σ j) (fun k => .int (gI σ j k))) (fun q => by cases q) (by show ¬ (i < 0 ∨ (arrV _ _ _).slots.size ≤ _); rw [arrV_size]; exact hin) rfl rfl hdg fun H1 e z oq => ?_
  obtain ⟨a1, a2⟩ := HW.store hH hS hsz h3 hn (UpdAt_pI h3 hH.2.2.2.1 hH.2.2.2.2.1.2) (at_i (x := vp_nar .boolean x) ht (by omega) (by omega) e) z oq i.toNatClampNeg
  exact kk H1 _ a1 a2
theorem h_bast (hx : p.tables.exec = Jvm.exec) (hb : c.code = cc) (hT : TW X s) (hH : HW lay L0 X σ s H) (hS : va_S (fun q => X.1 ≤ q) s.heap H locs) (hsz : X.1 ≤ s.heap.size) {j : Nat} {i x : Int32} (h3 : 3 ≤ j) (hn : j < sN σ) (ht : gT σ j = 18) (hi : inb i (gN σ j)) (hdg : decode cc pc = .ok (.bastore, 1))
    (kk : ∀ (H1 : Heap) (locs1 : List Loc), HW lay L0 X (pI σ j (ix i) (vp_nar .byte x)) s H1 → va_S (fun q => X.1 ≤ q) s.heap H1 locs1 → W p l e R s m args below meth c H1 locs1 cells slots Q (F0 m (pc + 1) L rest)) : W p l e R s m args below meth c H locs cells slots Q (F0 m pc L (.int x :: .int i :: .ref (X.1 + (j - 3)) :: rest)) := by
  have he := conc_get (X := X) h3 hn
  rw [entO_arr ht (by omega), entA_i (by omega)] at he
  have hin := inb_in hi
  refine W.bast hx hb (hH.1 _ _ he) ((hT.1.2 2 _ rfl).1 (gN σ j) (fun k => .int (gI σ j k))) (fun q => by cases q) (by show ¬ (i < 0 ∨ (arrV _ _ _).slots.size ≤ _); rw [arrV_size]; exact hin) rfl rfl hdg fun H1 e z oq => ?_
  obtain ⟨a1, a2⟩ := HW.store hH hS hsz h3 hn (UpdAt_pI h3 hH.2.2.2.1 hH.2.2.2.2.1.2) (at_i (x := vp_nar .byte x) ht (by omega) (by omega) e) z oq i.toNatClampNeg
  exact kk H1 _ a1 a2
theorem h_last (hx : p.tables.exec = Jvm.exec) (hb : c.code = cc) (hT : TW X s) (hH : HW lay L0 X σ s H) (hS : va_S (fun q => X.1 ≤ q) s.heap H locs) (hsz : X.1 ≤ s.heap.size) {j : Nat} {i : Int32} {x : Int64} (h3 : 3 ≤ j) (hn : j < sN σ) (ht : gT σ j = 19) (hi : inb i (gN σ j)) (hdg : decode cc pc = .ok (.lastore, 1))
    (kk : ∀ (H1 : Heap) (locs1 : List Loc), HW lay L0 X (pL σ j (ix i) x) s H1 → va_S (fun q => X.1 ≤ q) s.heap H1 locs1 → W p l e R s m args below meth c H1 locs1 cells slots Q (F0 m (pc + 1) L rest)) : W p l e R s m args below meth c H locs cells slots Q (F0 m pc L (.long x :: .int i :: .ref (X.1 + (j - 3)) :: rest)) := by
  have he := conc_get (X := X) h3 hn
  rw [entO_arr ht (by omega), entA_l] at he
  have hin := inb_in hi
  refine W.last hx hb (hH.1 _ _ he) ((hT.1.2 3 _ rfl).1 (gN σ j) (fun k => .long (gL σ j k))) (fun q => by cases q) (by show ¬ (i < 0 ∨ (arrV _ _ _).slots.size ≤ _); rw [arrV_size]; exact hin) rfl rfl hdg fun H1 e z oq => ?_
  have hat : va_at X.2.2.2.1 vwCl (X.1 + (j - 3), entO X (pL σ j (ix i) x) j) H1 := by
    rw [entO_arr (X := X) (σ := pL σ j (ix i) x) (t := 19) ht (by omega), entA_l]
    show H1[X.1 + (j - 3)]? = some (vp_cell _ _)
    rw [e, vp_cell_l, vp_cell_l, arrV_store]
    show some (arrV _ (gN σ j) _) = some (arrV _ (gN σ j) _)
    congr 2
    funext q
    rw [gL_pL]
    unfold updV ix
    by_cases hq : q = i.toNatClampNeg
    · rw [if_pos hq, if_pos ⟨rfl, hq⟩]
    · rw [if_neg hq, if_neg (fun z => hq z.2)]
  obtain ⟨a1, a2⟩ := HW.store hH hS hsz h3 hn (UpdAt_pL hH.2.2.2.1 hH.2.2.2.2.1.2) hat z oq i.toNatClampNeg
  exact kk H1 _ a1 a2
theorem at_q {t j v : Nat} {H1 : Heap} {i : Int32} (ht : gT σ j = t) (h20 : 20 ≤ t) (e : H1[X.1 + (j - 3)]? = some ((vp_cell (X.2.2.2.2 t) (gN σ j, .inr (.inr (.inr (.inr (fun k => rfO X (gR σ j k))))))).setSlot i.toNatClampNeg (va_rf (rfO X v)))) : va_at X.2.2.2.1 vwCl (X.1 + (j - 3), entO X (pR σ j (ix i) v) j) H1 := by
  rw [entO_arr (X := X) (σ := pR σ j (ix i) v) (t := t) ht (by omega), entA_q h20]
  show H1[X.1 + (j - 3)]? = some (vp_cell _ _)
  rw [e, vp_cell_q, vp_cell_q, arrV_store]
  show some (arrV _ (gN σ j) _) = some (arrV _ (gN σ j) _)
  congr 2
  funext q
  rw [gR_pR]
  unfold updV ix
  by_cases hq : q = i.toNatClampNeg
  · rw [if_pos hq, if_pos ⟨rfl, hq⟩]
  · rw [if_neg hq, if_neg (fun z => hq z.2)]
theorem h_aast (hx : p.tables.exec = Jvm.exec) (hb : c.code = cc) (hT : TW X s) (hH : HW lay L0 X σ s H) (hS : va_S (fun q => X.1 ≤ q) s.heap H locs) (hsz : X.1 ≤ s.heap.size) {j t v : Nat} {i : Int32} (h3 : 3 ≤ j) (hn : j < sN σ) (ht : gT σ j = t) (h20 : t = 20 ∨ t = 21) (hv : rOK σ (elT t) v) (hlc : layC lay j (ix i) v) (hi : inb i (gN σ j)) (hdg : decode cc pc = .ok (.aastore, 1))
    (kk : ∀ (H1 : Heap) (locs1 : List Loc), HW lay L0 X (pR σ j (ix i) v) s H1 → va_S (fun q => X.1 ≤ q) s.heap H1 locs1 → W p l e R s m args below meth c H1 locs1 cells slots Q (F0 m (pc + 1) L rest)) : W p l e R s m args below meth c H locs cells slots Q (F0 m pc L (va_rf (rfO X v) :: .int i :: .ref (X.1 + (j - 3)) :: rest)) := by
  have he := conc_get (X := X) h3 hn
  rw [entO_arr ht (by omega), entA_q (by omega)] at he
  have hin := inb_in hi
  have hlt : i.toNatClampNeg < gN σ j := Nat.not_le.mp fun q => hin (Or.inr q)
  have h0 : ¬ i < 0 := fun q => hin (Or.inl q)
  obtain ⟨C, htt, hC⟩ : ∃ C, (tysL X)[t - 16]? = some (X.2.2.2.2 t, .object C) ∧ C = nmC (elT t) := by
    rcases h20 with rfl | rfl
    · exact ⟨RX5, rfl, rfl⟩
    · exact ⟨RX0, rfl, rfl⟩
  have hel : elT t < 13 := by rcases h20 with rfl | rfl <;> decide
  have hu : UpdAt lay X σ (pR σ j (ix i) v) j := by
    refine UpdAt_pR hH.2.2.2.1 hH.2.2.2.2.1.2 hlc (fun t' h' => ?_)
    have : elT t = t' := by
      rw [ht] at h'
      rcases h20 with rfl | rfl
      · have : (9 : Nat) = t' + 4 := h'
        show 5 = t'
        omega
      · have : (4 : Nat) = t' + 4 := h'
        show 0 = t'
        omega
    rw [← this]; exact hv
  have fin : ∀ H1 : Heap, H1[X.1 + (j - 3)]? = some ((vp_cell (X.2.2.2.2 t) (gN σ j, .inr (.inr (.inr (.inr (fun k => rfO X (gR σ j k))))))).setSlot i.toNatClampNeg (va_rf (rfO X v))) → H1.size = H.size → (∀ q, q ≠ X.1 + (j - 3) → H1[q]? = H[q]?) → W p l e R s m args below meth c H1 (locs ++ [⟨X.1 + (j - 3), i.toNatClampNeg⟩]) cells slots Q (F0 m (pc + 1) L rest) := by
    intro H1 e z oq
    obtain ⟨a1, a2⟩ := HW.store hH hS hsz h3 hn hu (at_q ht (by omega) e) z oq i.toNatClampNeg
    exact kk H1 _ a1 a2
  rcases hv with rfl | ⟨v1, v2, v3⟩
  · exact va_WaastN (C := C) hx hb (hH.1 _ _ he) ((hT.1.2 _ _ htt).1 (gN σ j) (fun k => va_rf (rfO X (gR σ j k)))) (fun h => by cases h) (by show ¬ (i < 0 ∨ (arrV _ _ _).slots.size ≤ _); rw [arrV_size]; exact hin) rfl rfl hdg fin
  · obtain ⟨T, ty0, hvw, -⟩ := cls_ok (elT t) hel
    have hev := conc_get (X := X) v1 v2
    rw [entO_obj v3 hel] at hev
    obtain ⟨r', hr', cellV, g1, g2, g3, -⟩ := hH.1 _ _ hev
    have hcls := (hT.1.1 (elT t) _ hvw).2
    obtain ⟨kA, comp, k1, k2, k3, -⟩ := (hT.1.2 _ _ htt).2
    have hcomp : comp = X.2.2.2.1.1 (elT t) := by
      rw [hC] at k3
      exact Option.some.inj (k3.symm.trans hcls.1)
    subst hcomp
    obtain ⟨kC, hkC, -⟩ := hcls.2
    have hrf : va_rf (rfO X v) = .ref (X.1 + (v - 3)) := by
      unfold rfO
      rw [if_neg (by omega)]
      rfl
    rw [hrf] at fin ⊢
    exact W.aast hx hb (hH.1 _ _ he) (fun q h => by cases h) (fun h => by cases h) k1 k2 rfl hkC ⟨h0, by show _ < (arrV _ _ _).slots.size; rw [arrV_size]; exact hlt⟩ g1 (fun q h => by rw [g3] at h; cases h) (by rw [g2]; exact hkC) (by rw [g2]; exact va_assign hcls) rfl rfl hdg fin
end HR3
end
section
/-! ===== new cells ===== -/
theorem gT_nw (σ : St) (t n a : Nat) : gT (nw σ t n) a = if a = sN σ then t else gT σ a := rfl
theorem gN_nw (σ : St) (t n a : Nat) : gN (nw σ t n) a = if a = sN σ then n else gN σ a := rfl
theorem gI_nw (σ : St) (t n a b : Nat) : gI (nw σ t n) a b = if a = sN σ then 0 else gI σ a b := rfl
theorem gL_nw (σ : St) (t n a b : Nat) : gL (nw σ t n) a b = if a = sN σ then 0 else gL σ a b := rfl
theorem gR_nw (σ : St) (t n a b : Nat) : gR (nw σ t n) a b = if a = sN σ then 0 else gR σ a b := rfl
theorem sN_nw (σ : St) (t n : Nat) : sN (nw σ t n) = sN σ + 1 := rfl
theorem sS_nw (σ : St) (t n : Nat) : sS (nw σ t n) = sS σ + n := rfl
theorem entO_nw {X : Cx} {σ : St} {t n i : Nat} (h : i < sN σ) : entO X (nw σ t n) i = entO X σ i := by
  have hne : ¬ i = sN σ := by omega
  have e0 : gT (nw σ t n) i = gT σ i := by rw [gT_nw, if_neg hne]
  have e1 : (fun b => gI (nw σ t n) i b) = fun b => gI σ i b := funext fun b => by rw [gI_nw, if_neg hne]
  have e2 : (fun b => gL (nw σ t n) i b) = fun b => gL σ i b := funext fun b => by rw [gL_nw, if_neg hne]
  have e3 : (fun b => rfO X (gR (nw σ t n) i b)) = fun b => rfO X (gR σ i b) := funext fun b => by rw [gR_nw, if_neg hne]
  have e4 : gN (nw σ t n) i = gN σ i := by rw [gN_nw, if_neg hne]
  have e5 : ∀ ty b, slV X (nw σ t n) ty i b = slV X σ ty i b := by
    intro ty b
    match ty with
    | 0 => exact congrArg Value.int (congrFun e1 b)
    | 1 => exact congrArg Value.int (congrFun e1 b)
    | 2 => exact congrArg Value.int (congrFun e1 b)
    | 3 => exact congrArg Value.long (congrFun e2 b)
    | _ + 4 => exact congrArg va_rf (congrFun e3 b)
  unfold entO entA
  rw [e0, e1, e2, e3, e4]
  simp only [e5]
theorem wt_nw {σ : St} {t n : Nat} (h3 : 3 ≤ sN σ) (hw : wt σ) (ht : t < 13 ∨ (16 ≤ t ∧ t ≤ 21)) : wt (nw σ t n) := by
  have hx : Ext σ (nw σ t n) := Ext_nw σ t n
  refine ⟨fun j h1 h2 => ?_, fun j k t' h1 h2 h4 => ?_⟩
  · rw [gT_nw]
    by_cases e : j = sN σ
    · rw [if_pos e]; exact ht
    · rw [if_neg e]; exact hw.1 j h1 (by rw [sN_nw] at h2; omega)
  · rw [gR_nw]
    by_cases e : j = sN σ
    · rw [if_pos e]; exact Or.inl rfl
    · rw [if_neg e]
      rw [gT_nw, if_neg e] at h4
      exact (hw.2 j k t' h1 (by rw [sN_nw] at h2; omega) h4).ext hx
def LZ (lay : Nat → Nat → Nat) (L0 : Nat) : Prop := ∀ j k, L0 ≤ j → lay j k = 0
section HR4
variable {p : Program} {l : Launch} {e : Env} {R : Room} {s : State} {m : MethodId} {args : Array Value} {below : List Frame} {meth : Method} {c : Code} {H : Heap} {locs : List Loc} {cells slots : Nat} {Q : State → Prop}
variable {cc : ByteArray} {pc : Nat} {L : Array Slot} {rest : List Value} {X : Cx} {lay : Nat → Nat → Nat} {L0 : Nat} {σ τ : St} {own : String}
theorem HW.push (hH : HW lay L0 X σ s H) (hz0 : LZ lay L0) (hS : va_S (fun q => X.1 ≤ q) s.heap H locs) (hsz : X.1 ≤ s.heap.size) {t n : Nat} (ht : t < 13 ∨ (16 ≤ t ∧ t ≤ 21)) {H1 : Heap} (hat : va_at X.2.2.2.1 vwCl (X.1 + (sN σ - 3), entO X (nw σ t n) (sN σ)) H1) (hz : H1.size = H.size + 1) (oq : ∀ q, q < H.size → H1[q]? = H[q]?) : HW lay L0 X (nw σ t n) s H1 ∧ va_S (fun q => X.1 ≤ q) s.heap H1 locs := by
  have hS1 : va_S (fun q => X.1 ≤ q) s.heap H1 locs := ⟨by have := hS.1; omega, fun q h1 h2 => (oq q (Nat.lt_of_lt_of_le h1 hS.1)).trans (hS.2.1 q h1 h2), hS.2.2⟩
  obtain ⟨g1, g2, g3, g4, g5, g6, g7, g8, g9⟩ := hH
  have low : ∀ q, q < X.1 → H1[q]? = H[q]? := fun q hq => oq q (by omega)
  have n1 : ¬ (1 : Nat) = sN σ := by omega
  have n2 : ¬ (2 : Nat) = sN σ := by omega
  refine ⟨⟨?_, by rw [sN_nw]; omega, by rw [sN_nw]; omega, wt_nw g3 g4 ht, ⟨by rw [sN_nw]; omega, fun j k h => ?_⟩, g6, ?_, ?_, ?_⟩, hS1⟩
  · rw [← conc_push (X := X) (σ := σ) (τ := nw σ t n) g3 rfl (fun i hi => entO_nw hi)]
    refine (g1.kept (fun k q hk => oq _ ((g1 k q hk).lt))).app (fun k q hk => ?_)
    have hz : k < 1 := (List.getElem?_eq_some_iff.mp hk).1
    rw [show k = 0 by omega] at hk
    cases hk
    exact hat
  · rw [gR_nw]
    by_cases e : j = sN σ
    · exact absurd (hz0 j k (by omega)) h
    · rw [if_neg e]; exact g5.2 j k h
  · rw [gN_nw, if_neg n1, show gI (nw σ t n) 1 = gI σ 1 from funext fun b => by rw [gI_nw, if_neg n1]]
    exact g7.kept (low _ g6.1)
  · rw [gN_nw, if_neg n2, show gI (nw σ t n) 2 = gI σ 2 from funext fun b => by rw [gI_nw, if_neg n2]]
    exact g8.kept (fun a _ ha => low a (Nat.not_le.mp ha))
  · exact g9.kept (fun a _ ha => low a (Nat.not_le.mp ha))
theorem def_slV {X : Cx} {σ : St} {t n k ty : Nat} {fy : FieldType} (h : tyMB ty (some fy) = true) : defaultValue fy = slV X (nw σ t n) ty (sN σ) k := by
  have e1 : gI (nw σ t n) (sN σ) k = 0 := by rw [gI_nw, if_pos rfl]
  have e2 : gL (nw σ t n) (sN σ) k = 0 := by rw [gL_nw, if_pos rfl]
  have e3 : gR (nw σ t n) (sN σ) k = 0 := by rw [gR_nw, if_pos rfl]
  match ty, h with
  | 0, h =>
    cases Option.some.inj (of_decide_eq_true h)
    show _ = Value.int _
    rw [e1]; rfl
  | 1, h =>
    cases Option.some.inj (of_decide_eq_true h)
    show _ = Value.int _
    rw [e1]; rfl
  | 3, h =>
    cases Option.some.inj (of_decide_eq_true h)
    show _ = Value.long _
    rw [e2]; rfl
  | t' + 4, h =>
    show _ = va_rf (rfO X _)
    rw [e3]
    match fy, h with
    | .object _, _ => rfl
    | .array _, _ => rfl
theorem h_new (hx : p.tables.exec = Jvm.exec) (hb : c.code = cc) (hT : TW X s) (hown : s.vm.findClass own = some m.cls) (hH : HW lay L0 X σ s H) (hz0 : LZ lay L0) (hS : va_S (fun q => X.1 ≤ q) s.heap H locs) (hsz : X.1 ≤ s.heap.size) {ci i q0 q1 q2 : Nat} (hci : ci < 13) (w0 : gw q0 (.classLink own i (nmC ci)) = true) (w1 : gw q1 (.instantiable (nmC ci) (nF ci)) = true) (w2 : gw q2 (.initialized (nmC ci)) = true) (hcells : cells + 1 ≤ R.cells) (hslots : slots + nF ci ≤ R.slots) (hdg : decode cc pc = .ok (.new i, 3))
    (kk : ∀ (H1 : Heap), HW lay L0 X (nw σ ci (nF ci)) s H1 → va_S (fun q => X.1 ≤ q) s.heap H1 locs → W p l e R s m args below meth c H1 locs (cells + 1) (slots + nF ci) Q (F0 m (pc + 3) L (.ref (X.1 + (sN σ - 3)) :: rest))) : W p l e R s m args below meth c H locs cells slots Q (F0 m pc L rest) := by
  obtain ⟨T, ty0, hvw, hTk, hin, hty, hnm⟩ := cls_ok ci hci
  have hts : ∀ w ∈ u_ws (nmC ci) T (nF ci), w.before args s = true := fun w hw => hT.2 w (hin w hw) (lay_wOK w hw) args
  have hKn := hT.1.1 ci _ hvw
  refine W.newcK hx hb hown (hT.2.get w0 rfl args) (hT.2.get w1 rfl args) (hT.2.get w2 rfl args) rfl hdg hcells hslots hKn.2.1 hH.2.1 fun H1 kC hkC e1 z1 o1 => ?_
  have hat : va_at X.2.2.2.1 vwCl (X.1 + (sN σ - 3), entO X (nw σ ci (nF ci)) (sN σ)) H1 := by
    rw [entO_obj (ci := ci) (by rw [gT_nw, if_pos rfl]) hci]
    refine ⟨_, hvw, (u_born ty0 hts (fun _ h => h) hKn hkC e1 hty).to (fun k hk => ?_)⟩
    have h1 := tyM_ok ci hci k hk
    rw [← hTk, hty k hk] at h1
    rw [def_slV (X := X) (σ := σ) (t := ci) (n := nF ci) (k := k) h1]
    simp [vp_V, hk]
  obtain ⟨a1, a2⟩ := HW.push hH hz0 hS hsz (Or.inl hci) hat (by rw [z1, hH.2.1]) (fun q hq => o1 q (by rw [hH.2.1] at hq; exact hq))
  exact kk H1 a1 a2
theorem h_newa (hx : p.tables.exec = Jvm.exec) (hb : c.code = cc) (hT : TW X s) (hH : HW lay L0 X σ s H) (hz0 : LZ lay L0) (hS : va_S (fun q => X.1 ≤ q) s.heap H locs) (hsz : X.1 ≤ s.heap.size) {t q0 : Nat} {at_ : ArrayType} {n : Int32} (ht : newarray.typeOf at_ = aTy t) (h16 : 16 ≤ t ∧ t ≤ 19) (w0 : gw q0 (.arrayClass (newarray.typeOf at_)) = true) (hn : 0 ≤ n.toInt ∧ n.toInt ≤ 40000) (hcells : cells + 1 ≤ R.cells) (hslots : slots + ix n ≤ R.slots) (hdg : decode cc pc = .ok (.newarray at_, 2))
    (kk : ∀ (H1 : Heap), HW lay L0 X (nw σ t (ix n)) s H1 → va_S (fun q => X.1 ≤ q) s.heap H1 locs → W p l e R s m args below meth c H1 locs (cells + 1) (slots + ix n) Q (F0 m (pc + 2) L (.ref (X.1 + (sN σ - 3)) :: rest))) : W p l e R s m args below meth c H locs cells slots Q (F0 m pc L (.int n :: rest)) := by
  have hn0 : ¬ n < 0 := by rw [Int32.lt_iff_toInt_lt]; show ¬ n.toInt < 0; omega
  have hixn : ix n ≤ 40000 := by
    show n.toInt.toNat ≤ 40000
    omega
  have hby : ix n * componentBytes (newarray.typeOf at_) ≤ 536870912 := by
    have : componentBytes (newarray.typeOf at_) ≤ 8 := by cases at_ <;> decide
    calc ix n * componentBytes (newarray.typeOf at_) ≤ 40000 * 8 := Nat.mul_le_mul hixn this
      _ ≤ 536870912 := by decide
  refine va_newaK hx hb (hT.2.get w0 rfl args) rfl hdg rfl hn0 rfl hby hcells hslots hH.2.1 fun H1 cA e1 z1 o1 hAr hNm => ?_
  have htt : (tysL X)[t - 16]? = some (X.2.2.2.2 t, aTy t) := by
    rcases (show t = 16 ∨ t = 17 ∨ t = 18 ∨ t = 19 by omega) with rfl | rfl | rfl | rfl <;> rfl
  have hcA : cA = X.2.2.2.2 t := by
    have h1 := (hT.1.2 _ _ htt).2
    rw [ht] at hNm
    rcases (show t = 16 ∨ t = 17 ∨ t = 18 ∨ t = 19 by omega) with rfl | rfl | rfl | rfl <;> exact Option.some.inj (hNm.symm.trans h1)
  have hat : va_at X.2.2.2.1 vwCl (X.1 + (sN σ - 3), entO X (nw σ t (ix n)) (sN σ)) H1 := by
    rw [entO_arr (t := t) (by rw [gT_nw, if_pos rfl]) h16.1]
    show H1[X.1 + (sN σ - 3)]? = some (vp_cell _ _)
    rw [e1, ht, hcA]
    rcases (show t = 16 ∨ t = 17 ∨ t = 18 ∨ t = 19 by omega) with rfl | rfl | rfl | rfl
    · rw [entA_i (by omega), gN_nw, if_pos rfl, show (fun k => gI (nw σ 16 (ix n)) (sN σ) k) = fun _ => 0 from funext fun k => by rw [gI_nw, if_pos rfl]]
      rfl
    · rw [entA_i (by omega), gN_nw, if_pos rfl, show (fun k => gI (nw σ 17 (ix n)) (sN σ) k) = fun _ => 0 from funext fun k => by rw [gI_nw, if_pos rfl]]
      rfl
    · rw [entA_i (by omega), gN_nw, if_pos rfl, show (fun k => gI (nw σ 18 (ix n)) (sN σ) k) = fun _ => 0 from funext fun k => by rw [gI_nw, if_pos rfl]]
      rfl
    · rw [entA_l, gN_nw, if_pos rfl, show (fun k => gL (nw σ 19 (ix n)) (sN σ) k) = fun _ => 0 from funext fun k => by rw [gL_nw, if_pos rfl]]
      rfl
  obtain ⟨a1, a2⟩ := HW.push hH hz0 hS hsz (Or.inr ⟨h16.1, by omega⟩) hat (by rw [z1, hH.2.1]) (fun q hq => o1 q (by rw [hH.2.1] at hq; exact hq))
  exact kk H1 a1 a2
theorem h_newq (hx : p.tables.exec = Jvm.exec) (hb : c.code = cc) (hT : TW X s) (hown : s.vm.findClass own = some m.cls) (hH : HW lay L0 X σ s H) (hz0 : LZ lay L0) (hS : va_S (fun q => X.1 ≤ q) s.heap H locs) (hsz : X.1 ≤ s.heap.size) {t i q0 q1 : Nat} {C : String} {n : Int32} (h20 : t = 20 ∧ C = RX5 ∨ t = 21 ∧ C = RX0) (w0 : gw q0 (.classLink own i C) = true) (w1 : gw q1 (.arrayOver (.object C)) = true) (hn : 0 ≤ n.toInt ∧ n.toInt ≤ 40000) (hcells : cells + 1 ≤ R.cells) (hslots : slots + ix n ≤ R.slots) (hdg : decode cc pc = .ok (.anewarray i, 3))
    (kk : ∀ (H1 : Heap), HW lay L0 X (nw σ t (ix n)) s H1 → va_S (fun q => X.1 ≤ q) s.heap H1 locs → W p l e R s m args below meth c H1 locs (cells + 1) (slots + ix n) Q (F0 m (pc + 3) L (.ref (X.1 + (sN σ - 3)) :: rest))) : W p l e R s m args below meth c H locs cells slots Q (F0 m pc L (.int n :: rest)) := by
  have hn0 : ¬ n < 0 := by rw [Int32.lt_iff_toInt_lt]; show ¬ n.toInt < 0; omega
  have hixn : ix n ≤ 40000 := by
    show n.toInt.toNat ≤ 40000
    omega
  have hby : ix n * 4 ≤ 536870912 := by omega
  refine W.anew hx hb hown (hT.2.get w0 rfl args) (hT.2.get w1 rfl args) rfl hdg rfl hn0 hby hcells hslots fun cA kA comp f1 f2 f3 f4 => ?_
  generalize hH1 : H.push ({ cls := cA, slots := Array.replicate n.toNatClampNeg .null, vm := .none } : Cell) = H1
  have z1 : H1.size = H.size + 1 := by rw [← hH1, Array.size_push]
  have e1 : H1[H.size]? = some (arrV cA n.toNatClampNeg (fun _ => .null)) := by rw [← hH1, Array.getElem?_push_size, ← arrV_new]
  have o1 : ∀ q : Nat, q < H.size → H1[q]? = H[q]? := fun q hq => by rw [← hH1, Array.getElem?_push, if_neg (Nat.ne_of_lt hq)]
  have htt : (tysL X)[t - 16]? = some (X.2.2.2.2 t, .object C) := by
    rcases h20 with ⟨rfl, rfl⟩ | ⟨rfl, rfl⟩ <;> rfl
  have hcA : cA = X.2.2.2.2 t := by
    obtain ⟨_, _, _, _, _, h1⟩ := (hT.1.2 _ _ htt).2
    exact Option.some.inj (f1.symm.trans h1)
  have ht20 : 20 ≤ t ∧ t ≤ 21 := by rcases h20 with ⟨rfl, -⟩ | ⟨rfl, -⟩ <;> decide
  have hat : va_at X.2.2.2.1 vwCl (X.1 + (sN σ - 3), entO X (nw σ t (ix n)) (sN σ)) H1 := by
    rw [entO_arr (t := t) (by rw [gT_nw, if_pos rfl]) (by omega), entA_q ht20.1, gN_nw, if_pos rfl, show (fun k => rfO X (gR (nw σ t (ix n)) (sN σ) k)) = fun _ => none from funext fun k => by rw [gR_nw, if_pos rfl]; rfl]
    show H1[X.1 + (sN σ - 3)]? = some (vp_cell _ _)
    rw [← hH.2.1, e1, hcA, vp_cell_q]
    rfl
  obtain ⟨a1, a2⟩ := HW.push hH hz0 hS hsz (Or.inr ⟨by omega, ht20.2⟩) hat z1 o1
  show W p l e R s m args below meth c H1 locs (cells + 1) (slots + n.toNatClampNeg) Q (F0 m (pc + 3) L (.ref H.size :: rest))
  rw [hH.2.1]
  exact kk H1 a1 a2
end HR4
end
section
/-! ===== simulation, instruction by instruction ===== -/
def FX (p : Program) (s : State) (m : MethodId) (meth : Method) (c : Code) (X : Cx) (mid : Nat) : Prop := p.tables.exec = Jvm.exec ∧ c.code = byOf mid ∧ c.maxLocals = mlOf mid ∧ s.vm.findClass (yOf mid).cls = some m.cls ∧ meth.locks = false ∧ meth.sig.returnType = retOf mid ∧ (iniOf mid = true → meth.name = "<init>") ∧ TW X s
def SM (p : Program) (l : Launch) (e : Env) (R : Room) (s : State) (m : MethodId) (args : Array Value) (below : List Frame) (meth : Method) (c : Code) (Qm : State → Prop) (lay : Nat → Nat → Nat) (L0 : Nat) (X : Cx) (mid n0 s0 : Nat) (q : S4) : Prop := n0 ≤ sN q.2.2.2 → s0 ≤ sS q.2.2.2 → ∀ (H : Heap) (locs : List Loc) (L : Array Slot), HW lay L0 X q.2.2.2 s H → va_S (fun a => X.1 ≤ a) s.heap H locs → Lc X (mlOf mid) q.2.1 L → (∀ v ∈ q.2.1, vOK q.2.2.2 v) → (∀ v ∈ q.2.2.1, vOK q.2.2.2 v) → W p l e R s m args below meth c H locs (sN q.2.2.2 - n0) (sS q.2.2.2 - s0) Qm (F0 m q.1 L (q.2.2.1.map (cvV X)))
def BS (p : Program) (l : Launch) (e : Env) (R : Room) (s : State) (m : MethodId) (args : Array Value) (below : List Frame) (meth : Method) (c : Code) (Qm : State → Prop) (lay : Nat → Nat → Nat) (L0 : Nat) (X : Cx) (mid n0 s0 NT ST : Nat) (q : S4) : Prop := (sN q.2.2.2 ≤ NT ∧ sS q.2.2.2 ≤ ST) ∧ SM p l e R s m args below meth c Qm lay L0 X mid n0 s0 q
theorem vt {P : AV → Prop} {a : AV} {l : List AV} (h : ∀ v ∈ a :: l, P v) : ∀ v ∈ l, P v := fun v hv => h v (List.mem_cons_of_mem _ hv)
theorem vh {P : AV → Prop} {a : AV} {l : List AV} (h : ∀ v ∈ a :: l, P v) : P a := h a List.mem_cons_self
theorem vc {P : AV → Prop} {a : AV} {l : List AV} (ha : P a) (h : ∀ v ∈ l, P v) : ∀ v ∈ a :: l, P v := fun v hv => (List.mem_cons.mp hv).elim (fun e => e ▸ ha) (h v)
theorem cvt_cases (X : Cx) (j : Nat) : cvt X j = .null ∨ ∃ q, cvt X j = .ref q := by
  unfold cvt
  split
  · exact Or.inl rfl
  · split
    · exact Or.inr ⟨_, rfl⟩
    · split
      · exact Or.inr ⟨_, rfl⟩
      · exact Or.inr ⟨_, rfl⟩
theorem cvt_ne (X : Cx) {j : Nat} (h : j ≠ 0) : ∃ q, cvt X j = .ref q := by
  unfold cvt
  rw [if_neg h]
  split
  · exact ⟨_, rfl⟩
  · split
    · exact ⟨_, rfl⟩
    · exact ⟨_, rfl⟩
theorem sto2_mem {P : AV → Prop} (hz : P aZ) (ls : List AV) (i : Nat) (v : AV) (hv : P v) (h : ∀ x ∈ ls, P x) : ∀ x ∈ sto2 ls i v, P x := by
  intro x hx
  rcases List.mem_or_eq_of_mem_set hx with h1 | h1
  · exact sto_mem hz ls i v hv h x h1
  · rw [h1]; exact hz
section SIM
variable {p : Program} {l : Launch} {e : Env} {R : Room} {s : State} {m : MethodId} {args : Array Value} {below : List Frame} {meth : Method} {c : Code} {Qm : State → Prop} {lay : Nat → Nat → Nat} {L0 : Nat} {X : Cx} {mid n0 s0 NT ST d rt : Nat} {Q : Option AV → St → Prop} {K : S4 → Prop} {cl : CLT}
variable {pc nx a b k dd : Nat} {w : Int32} {z : Int64} {tb : List (Int32 × Nat)} {ps : List Nat} {ls st : List AV} {σ : St} {A : Act}
theorem si_iconst (F : FX p s m meth c X mid) (hKS : ∀ q, K q → BS p l e R s m args below meth c Qm lay L0 X mid n0 s0 NT ST q) {n : Int} (hd : decode (byOf mid) pc = .ok (.iconst n, 1)) (hv : Int32.ofInt n = w) (hA : act lay rt (.iconst n, pc + 1, (a, b, k, dd), w, z, tb, ps) ls st σ = some A) (h : stepP rtOf cl Q K (pc + 1) ls σ A) : BS p l e R s m args below meth c Qm lay L0 X mid n0 s0 NT ST (pc, ls, st, σ) := by
  cases hA
  obtain ⟨hB, hS⟩ := hKS _ h
  refine ⟨hB, fun n1 n2 H locs L hH hVS hL hv1 hv2 => ?_⟩
  exact lv_iconst F.1 F.2.1 hd hv (hS n1 n2 H locs L hH hVS hL hv1 (vc trivial hv2))
theorem si_bipush (F : FX p s m meth c X mid) (hKS : ∀ q, K q → BS p l e R s m args below meth c Qm lay L0 X mid n0 s0 NT ST q) {n : Int} (hd : decode (byOf mid) pc = .ok (.bipush n, 2)) (hv : (Int8.ofInt n).toInt32 = w) (hA : act lay rt (.bipush n, pc + 2, (a, b, k, dd), w, z, tb, ps) ls st σ = some A) (h : stepP rtOf cl Q K (pc + 2) ls σ A) : BS p l e R s m args below meth c Qm lay L0 X mid n0 s0 NT ST (pc, ls, st, σ) := by
  cases hA
  obtain ⟨hB, hS⟩ := hKS _ h
  refine ⟨hB, fun n1 n2 H locs L hH hVS hL hv1 hv2 => ?_⟩
  exact lv_bipush F.1 F.2.1 hd hv (hS n1 n2 H locs L hH hVS hL hv1 (vc trivial hv2))
theorem si_sipush (F : FX p s m meth c X mid) (hKS : ∀ q, K q → BS p l e R s m args below meth c Qm lay L0 X mid n0 s0 NT ST q) {n : Int} (hd : decode (byOf mid) pc = .ok (.sipush n, 3)) (hv : (Int16.ofInt n).toInt32 = w) (hA : act lay rt (.sipush n, pc + 3, (a, b, k, dd), w, z, tb, ps) ls st σ = some A) (h : stepP rtOf cl Q K (pc + 3) ls σ A) : BS p l e R s m args below meth c Qm lay L0 X mid n0 s0 NT ST (pc, ls, st, σ) := by
  cases hA
  obtain ⟨hB, hS⟩ := hKS _ h
  refine ⟨hB, fun n1 n2 H locs L hH hVS hL hv1 hv2 => ?_⟩
  exact lv_sipush F.1 F.2.1 hd hv (hS n1 n2 H locs L hH hVS hL hv1 (vc trivial hv2))
theorem si_lconst (F : FX p s m meth c X mid) (hKS : ∀ q, K q → BS p l e R s m args below meth c Qm lay L0 X mid n0 s0 NT ST q) {n : Fin 2} (hd : decode (byOf mid) pc = .ok (.lconst n, 1)) (hv : Int64.ofNat (n : Nat) = z) (hA : act lay rt (.lconst n, pc + 1, (a, b, k, dd), w, z, tb, ps) ls st σ = some A) (h : stepP rtOf cl Q K (pc + 1) ls σ A) : BS p l e R s m args below meth c Qm lay L0 X mid n0 s0 NT ST (pc, ls, st, σ) := by
  cases hA
  obtain ⟨hB, hS⟩ := hKS _ h
  refine ⟨hB, fun n1 n2 H locs L hH hVS hL hv1 hv2 => ?_⟩
  exact lv_lconst F.1 F.2.1 hd hv (hS n1 n2 H locs L hH hVS hL hv1 (vc trivial hv2))
theorem si_ldc2 (F : FX p s m meth c X mid) (hKS : ∀ q, K q → BS p l e R s m args below meth c Qm lay L0 X mid n0 s0 NT ST q) {n : Nat} (hd : decode (byOf mid) pc = .ok (.ldc2_w n, 3)) (hg : gw (nthN ps 0) (.constantLong (yOf mid).cls n z) = true) (hA : act lay rt (.ldc2_w n, pc + 3, (a, b, k, dd), w, z, tb, ps) ls st σ = some A) (h : stepP rtOf cl Q K (pc + 3) ls σ A) : BS p l e R s m args below meth c Qm lay L0 X mid n0 s0 NT ST (pc, ls, st, σ) := by
  cases hA
  obtain ⟨hB, hS⟩ := hKS _ h
  refine ⟨hB, fun n1 n2 H locs L hH hVS hL hv1 hv2 => ?_⟩
  exact lv_ldc2 F.1 F.2.1 F.2.2.2.1 (F.2.2.2.2.2.2.2.2.get hg rfl args) hd (hS n1 n2 H locs L hH hVS hL hv1 (vc trivial hv2))
theorem si_aconst (F : FX p s m meth c X mid) (hKS : ∀ q, K q → BS p l e R s m args below meth c Qm lay L0 X mid n0 s0 NT ST q)  (hd : decode (byOf mid) pc = .ok (.aconst_null, 1)) (hA : act lay rt (.aconst_null, pc + 1, (a, b, k, dd), w, z, tb, ps) ls st σ = some A) (h : stepP rtOf cl Q K (pc + 1) ls σ A) : BS p l e R s m args below meth c Qm lay L0 X mid n0 s0 NT ST (pc, ls, st, σ) := by
  cases hA
  obtain ⟨hB, hS⟩ := hKS _ h
  refine ⟨hB, fun n1 n2 H locs L hH hVS hL hv1 hv2 => ?_⟩
  exact lv_null F.1 F.2.1 hd (hS n1 n2 H locs L hH hVS hL hv1 (vc (Or.inl rfl) hv2))
theorem si_iload_n (F : FX p s m meth c X mid) (hKS : ∀ q, K q → BS p l e R s m args below meth c Qm lay L0 X mid n0 s0 NT ST q) {n : Fin 4} (hd : decode (byOf mid) pc = .ok (.iload_n n, 1)) (hv : (n : Nat) = a) (hA : act lay rt (.iload_n n, pc + 1, (a, b, k, dd), w, z, tb, ps) ls st σ = some A) (h : stepP rtOf cl Q K (pc + 1) ls σ A) : BS p l e R s m args below meth c Qm lay L0 X mid n0 s0 NT ST (pc, ls, st, σ) := by
  obtain ⟨x, r, hx, hA⟩ := qI_some hA
  have hx : nthA ls a = aI x := (List.cons.inj hx).1
  cases hA
  obtain ⟨hB, hS⟩ := hKS _ h
  refine ⟨hB, fun n1 n2 H locs L hH hVS hL hv1 hv2 => ?_⟩
  have hl := hL.2.2.2 a (by rw [hx]; exact fun z => by cases z)
  rw [hx] at hl
  exact lv_iload_n F.1 F.2.1 hd hv hl (hS n1 n2 H locs L hH hVS hL hv1 (vc trivial hv2))
theorem si_iload (F : FX p s m meth c X mid) (hKS : ∀ q, K q → BS p l e R s m args below meth c Qm lay L0 X mid n0 s0 NT ST q) {n : Nat} (hd : decode (byOf mid) pc = .ok (.iload n, 2)) (hv : (n : Nat) = a) (hA : act lay rt (.iload n, pc + 2, (a, b, k, dd), w, z, tb, ps) ls st σ = some A) (h : stepP rtOf cl Q K (pc + 2) ls σ A) : BS p l e R s m args below meth c Qm lay L0 X mid n0 s0 NT ST (pc, ls, st, σ) := by
  obtain ⟨x, r, hx, hA⟩ := qI_some hA
  have hx : nthA ls a = aI x := (List.cons.inj hx).1
  cases hA
  obtain ⟨hB, hS⟩ := hKS _ h
  refine ⟨hB, fun n1 n2 H locs L hH hVS hL hv1 hv2 => ?_⟩
  have hl := hL.2.2.2 a (by rw [hx]; exact fun z => by cases z)
  rw [hx] at hl
  subst hv
  exact lv_iload F.1 F.2.1 hd hl (hS n1 n2 H locs L hH hVS hL hv1 (vc trivial hv2))
theorem si_lload_n (F : FX p s m meth c X mid) (hKS : ∀ q, K q → BS p l e R s m args below meth c Qm lay L0 X mid n0 s0 NT ST q) {n : Fin 4} (hd : decode (byOf mid) pc = .ok (.lload_n n, 1)) (hv : (n : Nat) = a) (hA : act lay rt (.lload_n n, pc + 1, (a, b, k, dd), w, z, tb, ps) ls st σ = some A) (h : stepP rtOf cl Q K (pc + 1) ls σ A) : BS p l e R s m args below meth c Qm lay L0 X mid n0 s0 NT ST (pc, ls, st, σ) := by
  obtain ⟨x, r, hx, hA⟩ := qJ_some hA
  have hx : nthA ls a = aJ x := (List.cons.inj hx).1
  cases hA
  obtain ⟨hB, hS⟩ := hKS _ h
  refine ⟨hB, fun n1 n2 H locs L hH hVS hL hv1 hv2 => ?_⟩
  have hl := hL.2.2.2 a (by rw [hx]; exact fun z => by cases z)
  rw [hx] at hl
  exact lv_lload_n F.1 F.2.1 hd hv hl (hS n1 n2 H locs L hH hVS hL hv1 (vc trivial hv2))
theorem si_lload (F : FX p s m meth c X mid) (hKS : ∀ q, K q → BS p l e R s m args below meth c Qm lay L0 X mid n0 s0 NT ST q) {n : Nat} (hd : decode (byOf mid) pc = .ok (.lload n, 2)) (hv : (n : Nat) = a) (hA : act lay rt (.lload n, pc + 2, (a, b, k, dd), w, z, tb, ps) ls st σ = some A) (h : stepP rtOf cl Q K (pc + 2) ls σ A) : BS p l e R s m args below meth c Qm lay L0 X mid n0 s0 NT ST (pc, ls, st, σ) := by
  obtain ⟨x, r, hx, hA⟩ := qJ_some hA
  have hx : nthA ls a = aJ x := (List.cons.inj hx).1
  cases hA
  obtain ⟨hB, hS⟩ := hKS _ h
  refine ⟨hB, fun n1 n2 H locs L hH hVS hL hv1 hv2 => ?_⟩
  have hl := hL.2.2.2 a (by rw [hx]; exact fun z => by cases z)
  rw [hx] at hl
  subst hv
  exact lv_lload F.1 F.2.1 hd hl (hS n1 n2 H locs L hH hVS hL hv1 (vc trivial hv2))
theorem si_aload_n (F : FX p s m meth c X mid) (hKS : ∀ q, K q → BS p l e R s m args below meth c Qm lay L0 X mid n0 s0 NT ST q) {n : Fin 4} (hd : decode (byOf mid) pc = .ok (.aload_n n, 1)) (hv : (n : Nat) = a) (hA : act lay rt (.aload_n n, pc + 1, (a, b, k, dd), w, z, tb, ps) ls st σ = some A) (h : stepP rtOf cl Q K (pc + 1) ls σ A) : BS p l e R s m args below meth c Qm lay L0 X mid n0 s0 NT ST (pc, ls, st, σ) := by
  obtain ⟨t, j, r, hx, hA⟩ := qR_some hA
  have hx : nthA ls a = aO t j := (List.cons.inj hx).1
  cases hA
  obtain ⟨hB, hS⟩ := hKS _ h
  refine ⟨hB, fun n1 n2 H locs L hH hVS hL hv1 hv2 => ?_⟩
  have hl := hL.2.2.2 a (by rw [hx]; exact fun z => by cases z)
  have hvo := nthA_mem (P := vOK σ) trivial hv1 a
  rw [hx] at hl hvo
  have hk := hS n1 n2 H locs L hH hVS hL hv1 (vc hvo hv2)
  have hk : W p l e R s m args below meth c H locs (sN σ - n0) (sS σ - s0) Qm (F0 m (pc + 1) L (cvt X j :: st.map (cvV X))) := hk
  have hl : L[a]? = some (.val (cvt X j)) := hl
  rcases cvt_cases X j with e | ⟨q, e⟩
  · rw [e] at hk hl; exact lv_aload_nN F.1 F.2.1 hd hv hl hk
  · rw [e] at hk hl; exact lv_aload_n F.1 F.2.1 hd hv hl hk
theorem si_aload (F : FX p s m meth c X mid) (hKS : ∀ q, K q → BS p l e R s m args below meth c Qm lay L0 X mid n0 s0 NT ST q) {n : Nat} (hd : decode (byOf mid) pc = .ok (.aload n, 2)) (hv : (n : Nat) = a) (hA : act lay rt (.aload n, pc + 2, (a, b, k, dd), w, z, tb, ps) ls st σ = some A) (h : stepP rtOf cl Q K (pc + 2) ls σ A) : BS p l e R s m args below meth c Qm lay L0 X mid n0 s0 NT ST (pc, ls, st, σ) := by
  obtain ⟨t, j, r, hx, hA⟩ := qR_some hA
  have hx : nthA ls a = aO t j := (List.cons.inj hx).1
  cases hA
  obtain ⟨hB, hS⟩ := hKS _ h
  refine ⟨hB, fun n1 n2 H locs L hH hVS hL hv1 hv2 => ?_⟩
  have hl := hL.2.2.2 a (by rw [hx]; exact fun z => by cases z)
  have hvo := nthA_mem (P := vOK σ) trivial hv1 a
  rw [hx] at hl hvo
  subst hv
  have hk := hS n1 n2 H locs L hH hVS hL hv1 (vc hvo hv2)
  have hk : W p l e R s m args below meth c H locs (sN σ - n0) (sS σ - s0) Qm (F0 m (pc + 2) L (cvt X j :: st.map (cvV X))) := hk
  have hl : L[n]? = some (.val (cvt X j)) := hl
  rcases cvt_cases X j with e | ⟨q, e⟩
  · rw [e] at hk hl; exact lv_aloadN F.1 F.2.1 hd hl hk
  · rw [e] at hk hl; exact lv_aload F.1 F.2.1 hd hl hk
theorem si_istore_n (F : FX p s m meth c X mid) (hKS : ∀ q, K q → BS p l e R s m args below meth c Qm lay L0 X mid n0 s0 NT ST q) {n : Fin 4} (hd : decode (byOf mid) pc = .ok (.istore_n n, 1)) (hv : (n : Nat) = a) (hst : a < mlOf mid) (hA : act lay rt (.istore_n n, pc + 1, (a, b, k, dd), w, z, tb, ps) ls st σ = some A) (h : stepP rtOf cl Q K (pc + 1) ls σ A) : BS p l e R s m args below meth c Qm lay L0 X mid n0 s0 NT ST (pc, ls, st, σ) := by
  obtain ⟨x, st, rfl, hA⟩ := qI_some hA
  cases hA
  obtain ⟨hB, hS⟩ := hKS _ h
  refine ⟨hB, fun n1 n2 H locs L hH hVS hL hv1 hv2 => ?_⟩
  refine lv_istore_n F.1 F.2.1 hd hv (hL.has) hst rfl (fun L' hl => ?_)
  exact hS n1 n2 H locs L' hH hVS (Lc_sto1 hL hst (fun z => by cases z) hl) (sto_mem (P := vOK σ) trivial ls a _ trivial hv1) (vt hv2)
theorem si_istore (F : FX p s m meth c X mid) (hKS : ∀ q, K q → BS p l e R s m args below meth c Qm lay L0 X mid n0 s0 NT ST q) {n : Nat} (hd : decode (byOf mid) pc = .ok (.istore n, 2)) (hv : (n : Nat) = a) (hst : a < mlOf mid) (hA : act lay rt (.istore n, pc + 2, (a, b, k, dd), w, z, tb, ps) ls st σ = some A) (h : stepP rtOf cl Q K (pc + 2) ls σ A) : BS p l e R s m args below meth c Qm lay L0 X mid n0 s0 NT ST (pc, ls, st, σ) := by
  obtain ⟨x, st, rfl, hA⟩ := qI_some hA
  cases hA
  obtain ⟨hB, hS⟩ := hKS _ h
  refine ⟨hB, fun n1 n2 H locs L hH hVS hL hv1 hv2 => ?_⟩
  subst hv
  refine lv_istore F.1 F.2.1 hd (hL.has) hst rfl (fun L' hl => ?_)
  exact hS n1 n2 H locs L' hH hVS (Lc_sto1 hL hst (fun z => by cases z) hl) (sto_mem (P := vOK σ) trivial ls n _ trivial hv1) (vt hv2)
theorem si_lstore_n (F : FX p s m meth c X mid) (hKS : ∀ q, K q → BS p l e R s m args below meth c Qm lay L0 X mid n0 s0 NT ST q) {n : Fin 4} (hd : decode (byOf mid) pc = .ok (.lstore_n n, 1)) (hv : (n : Nat) = a) (hst : a + 1 < mlOf mid) (hA : act lay rt (.lstore_n n, pc + 1, (a, b, k, dd), w, z, tb, ps) ls st σ = some A) (h : stepP rtOf cl Q K (pc + 1) ls σ A) : BS p l e R s m args below meth c Qm lay L0 X mid n0 s0 NT ST (pc, ls, st, σ) := by
  obtain ⟨x, st, rfl, hA⟩ := qJ_some hA
  cases hA
  obtain ⟨hB, hS⟩ := hKS _ h
  refine ⟨hB, fun n1 n2 H locs L hH hVS hL hv1 hv2 => ?_⟩
  refine lv_lstore_n F.1 F.2.1 hd hv (hL.has) hst rfl (fun L' hl => ?_)
  exact hS n1 n2 H locs L' hH hVS (Lc_sto2 hL hst (fun z => by cases z) hl) (sto2_mem (P := vOK σ) trivial ls a _ trivial hv1) (vt hv2)
theorem si_lstore (F : FX p s m meth c X mid) (hKS : ∀ q, K q → BS p l e R s m args below meth c Qm lay L0 X mid n0 s0 NT ST q) {n : Nat} (hd : decode (byOf mid) pc = .ok (.lstore n, 2)) (hv : (n : Nat) = a) (hst : a + 1 < mlOf mid) (hA : act lay rt (.lstore n, pc + 2, (a, b, k, dd), w, z, tb, ps) ls st σ = some A) (h : stepP rtOf cl Q K (pc + 2) ls σ A) : BS p l e R s m args below meth c Qm lay L0 X mid n0 s0 NT ST (pc, ls, st, σ) := by
  obtain ⟨x, st, rfl, hA⟩ := qJ_some hA
  cases hA
  obtain ⟨hB, hS⟩ := hKS _ h
  refine ⟨hB, fun n1 n2 H locs L hH hVS hL hv1 hv2 => ?_⟩
  subst hv
  refine lv_lstore F.1 F.2.1 hd (hL.has) hst rfl (fun L' hl => ?_)
  exact hS n1 n2 H locs L' hH hVS (Lc_sto2 hL hst (fun z => by cases z) hl) (sto2_mem (P := vOK σ) trivial ls n _ trivial hv1) (vt hv2)
theorem si_astore_n (F : FX p s m meth c X mid) (hKS : ∀ q, K q → BS p l e R s m args below meth c Qm lay L0 X mid n0 s0 NT ST q) {n : Fin 4} (hd : decode (byOf mid) pc = .ok (.astore_n n, 1)) (hv : (n : Nat) = a) (hst : a < mlOf mid) (hA : act lay rt (.astore_n n, pc + 1, (a, b, k, dd), w, z, tb, ps) ls st σ = some A) (h : stepP rtOf cl Q K (pc + 1) ls σ A) : BS p l e R s m args below meth c Qm lay L0 X mid n0 s0 NT ST (pc, ls, st, σ) := by
  obtain ⟨t, j, st, rfl, hA⟩ := qR_some hA
  cases hA
  obtain ⟨hB, hS⟩ := hKS _ h
  refine ⟨hB, fun n1 n2 H locs L hH hVS hL hv1 hv2 => ?_⟩
  have fin : ∀ L' : Array Slot, lv_has L' (mlOf mid) ((a, cvt X j) :: (lp X (mlOf mid) ls).filter (fun q => !(q.1 == a) && !(q.1 + 1 == a && q.2.category == 2))) → W p l e R s m args below meth c H locs (sN σ - n0) (sS σ - s0) Qm (F0 m (pc + 1) L' (st.map (cvV X))) := fun L' hl => hS n1 n2 H locs L' hH hVS (Lc_sto1 (v := aO t j) hL hst (fun z => by cases z) hl) (sto_mem (P := vOK σ) trivial ls a _ (vh hv2) hv1) (vt hv2)
  show W p l e R s m args below meth c H locs (sN σ - n0) (sS σ - s0) Qm (F0 m pc L (cvt X j :: st.map (cvV X)))
  rcases cvt_cases X j with e | ⟨q, e⟩
  · rw [e] at fin ⊢; exact lv_astore_nN F.1 F.2.1 hd hv (hL.has) hst rfl fin
  · rw [e] at fin ⊢; exact lv_astore_n F.1 F.2.1 hd hv (hL.has) hst rfl fin
theorem si_astore (F : FX p s m meth c X mid) (hKS : ∀ q, K q → BS p l e R s m args below meth c Qm lay L0 X mid n0 s0 NT ST q) {n : Nat} (hd : decode (byOf mid) pc = .ok (.astore n, 2)) (hv : (n : Nat) = a) (hst : a < mlOf mid) (hA : act lay rt (.astore n, pc + 2, (a, b, k, dd), w, z, tb, ps) ls st σ = some A) (h : stepP rtOf cl Q K (pc + 2) ls σ A) : BS p l e R s m args below meth c Qm lay L0 X mid n0 s0 NT ST (pc, ls, st, σ) := by
  obtain ⟨t, j, st, rfl, hA⟩ := qR_some hA
  cases hA
  obtain ⟨hB, hS⟩ := hKS _ h
  refine ⟨hB, fun n1 n2 H locs L hH hVS hL hv1 hv2 => ?_⟩
  subst hv
  have fin : ∀ L' : Array Slot, lv_has L' (mlOf mid) ((n, cvt X j) :: (lp X (mlOf mid) ls).filter (fun q => !(q.1 == n) && !(q.1 + 1 == n && q.2.category == 2))) → W p l e R s m args below meth c H locs (sN σ - n0) (sS σ - s0) Qm (F0 m (pc + 2) L' (st.map (cvV X))) := fun L' hl => hS n1 n2 H locs L' hH hVS (Lc_sto1 (v := aO t j) hL hst (fun z => by cases z) hl) (sto_mem (P := vOK σ) trivial ls n _ (vh hv2) hv1) (vt hv2)
  show W p l e R s m args below meth c H locs (sN σ - n0) (sS σ - s0) Qm (F0 m pc L (cvt X j :: st.map (cvV X)))
  rcases cvt_cases X j with e | ⟨q, e⟩
  · rw [e] at fin ⊢; exact lv_astoreN F.1 F.2.1 hd (hL.has) hst rfl fin
  · rw [e] at fin ⊢; exact lv_astore F.1 F.2.1 hd (hL.has) hst rfl fin
theorem si_iinc (F : FX p s m meth c X mid) (hKS : ∀ q, K q → BS p l e R s m args below meth c Qm lay L0 X mid n0 s0 NT ST q) {n : Nat} {n2 : Int} (hd : decode (byOf mid) pc = .ok (.iinc n n2, 3)) (hv : n = a) (hw : Int32.ofInt n2 = w) (hst : a < mlOf mid) (hA : act lay rt (.iinc n n2, pc + 3, (a, b, k, dd), w, z, tb, ps) ls st σ = some A) (h : stepP rtOf cl Q K (pc + 3) ls σ A) : BS p l e R s m args below meth c Qm lay L0 X mid n0 s0 NT ST (pc, ls, st, σ) := by
  obtain ⟨x, r, hx, hA⟩ := qI_some hA
  have hx : nthA ls a = aI x := (List.cons.inj hx).1
  cases hA
  obtain ⟨hB, hS⟩ := hKS _ h
  refine ⟨hB, fun n1 n2 H locs L hH hVS hL hv1 hv2 => ?_⟩
  have hq : (a, cvV X (aI x)) ∈ lp X (mlOf mid) ls := lp_mem.mpr ⟨hst, (by rw [hx]; exact fun z => by cases z), (by rw [hx])⟩
  obtain ⟨kk, hkk⟩ := List.getElem?_of_mem hq
  subst hv
  subst hw
  refine lv_iinc F.1 F.2.1 hd hL.has (k := kk) hkk rfl hst rfl (fun L' hl => ?_)
  exact hS n1 n2 H locs L' hH hVS (Lc_sto1 hL hst (fun z => by cases z) hl) (sto_mem (P := vOK σ) trivial ls n _ trivial hv1) hv2
theorem si_iadd (F : FX p s m meth c X mid) (hKS : ∀ q, K q → BS p l e R s m args below meth c Qm lay L0 X mid n0 s0 NT ST q)  (hd : decode (byOf mid) pc = .ok (.iadd, 1)) (hA : act lay rt (.iadd, pc + 1, (a, b, k, dd), w, z, tb, ps) ls st σ = some A) (h : stepP rtOf cl Q K (pc + 1) ls σ A) : BS p l e R s m args below meth c Qm lay L0 X mid n0 s0 NT ST (pc, ls, st, σ) := by
  obtain ⟨y, st, rfl, hA⟩ := qI_some hA
  obtain ⟨x, st, rfl, hA⟩ := qI_some hA
  cases hA
  obtain ⟨hB, hS⟩ := hKS _ h
  refine ⟨hB, fun n1 n2 H locs L hH hVS hL hv1 hv2 => ?_⟩
  exact lv_iadd F.1 F.2.1 hd (hS n1 n2 H locs L hH hVS hL hv1 (vc trivial (vt (vt hv2))))
theorem si_isub (F : FX p s m meth c X mid) (hKS : ∀ q, K q → BS p l e R s m args below meth c Qm lay L0 X mid n0 s0 NT ST q)  (hd : decode (byOf mid) pc = .ok (.isub, 1)) (hA : act lay rt (.isub, pc + 1, (a, b, k, dd), w, z, tb, ps) ls st σ = some A) (h : stepP rtOf cl Q K (pc + 1) ls σ A) : BS p l e R s m args below meth c Qm lay L0 X mid n0 s0 NT ST (pc, ls, st, σ) := by
  obtain ⟨y, st, rfl, hA⟩ := qI_some hA
  obtain ⟨x, st, rfl, hA⟩ := qI_some hA
  cases hA
  obtain ⟨hB, hS⟩ := hKS _ h
  refine ⟨hB, fun n1 n2 H locs L hH hVS hL hv1 hv2 => ?_⟩
  exact lv_isub F.1 F.2.1 hd (hS n1 n2 H locs L hH hVS hL hv1 (vc trivial (vt (vt hv2))))
theorem si_imul (F : FX p s m meth c X mid) (hKS : ∀ q, K q → BS p l e R s m args below meth c Qm lay L0 X mid n0 s0 NT ST q)  (hd : decode (byOf mid) pc = .ok (.imul, 1)) (hA : act lay rt (.imul, pc + 1, (a, b, k, dd), w, z, tb, ps) ls st σ = some A) (h : stepP rtOf cl Q K (pc + 1) ls σ A) : BS p l e R s m args below meth c Qm lay L0 X mid n0 s0 NT ST (pc, ls, st, σ) := by
  obtain ⟨y, st, rfl, hA⟩ := qI_some hA
  obtain ⟨x, st, rfl, hA⟩ := qI_some hA
  cases hA
  obtain ⟨hB, hS⟩ := hKS _ h
  refine ⟨hB, fun n1 n2 H locs L hH hVS hL hv1 hv2 => ?_⟩
  exact lv_imul F.1 F.2.1 hd (hS n1 n2 H locs L hH hVS hL hv1 (vc trivial (vt (vt hv2))))
theorem si_iand (F : FX p s m meth c X mid) (hKS : ∀ q, K q → BS p l e R s m args below meth c Qm lay L0 X mid n0 s0 NT ST q)  (hd : decode (byOf mid) pc = .ok (.iand, 1)) (hA : act lay rt (.iand, pc + 1, (a, b, k, dd), w, z, tb, ps) ls st σ = some A) (h : stepP rtOf cl Q K (pc + 1) ls σ A) : BS p l e R s m args below meth c Qm lay L0 X mid n0 s0 NT ST (pc, ls, st, σ) := by
  obtain ⟨y, st, rfl, hA⟩ := qI_some hA
  obtain ⟨x, st, rfl, hA⟩ := qI_some hA
  cases hA
  obtain ⟨hB, hS⟩ := hKS _ h
  refine ⟨hB, fun n1 n2 H locs L hH hVS hL hv1 hv2 => ?_⟩
  exact lv_iand F.1 F.2.1 hd (hS n1 n2 H locs L hH hVS hL hv1 (vc trivial (vt (vt hv2))))
theorem si_ixor (F : FX p s m meth c X mid) (hKS : ∀ q, K q → BS p l e R s m args below meth c Qm lay L0 X mid n0 s0 NT ST q)  (hd : decode (byOf mid) pc = .ok (.ixor, 1)) (hA : act lay rt (.ixor, pc + 1, (a, b, k, dd), w, z, tb, ps) ls st σ = some A) (h : stepP rtOf cl Q K (pc + 1) ls σ A) : BS p l e R s m args below meth c Qm lay L0 X mid n0 s0 NT ST (pc, ls, st, σ) := by
  obtain ⟨y, st, rfl, hA⟩ := qI_some hA
  obtain ⟨x, st, rfl, hA⟩ := qI_some hA
  cases hA
  obtain ⟨hB, hS⟩ := hKS _ h
  refine ⟨hB, fun n1 n2 H locs L hH hVS hL hv1 hv2 => ?_⟩
  exact lv_ixor F.1 F.2.1 hd (hS n1 n2 H locs L hH hVS hL hv1 (vc trivial (vt (vt hv2))))
theorem si_ladd (F : FX p s m meth c X mid) (hKS : ∀ q, K q → BS p l e R s m args below meth c Qm lay L0 X mid n0 s0 NT ST q)  (hd : decode (byOf mid) pc = .ok (.ladd, 1)) (hA : act lay rt (.ladd, pc + 1, (a, b, k, dd), w, z, tb, ps) ls st σ = some A) (h : stepP rtOf cl Q K (pc + 1) ls σ A) : BS p l e R s m args below meth c Qm lay L0 X mid n0 s0 NT ST (pc, ls, st, σ) := by
  obtain ⟨y, st, rfl, hA⟩ := qJ_some hA
  obtain ⟨x, st, rfl, hA⟩ := qJ_some hA
  cases hA
  obtain ⟨hB, hS⟩ := hKS _ h
  refine ⟨hB, fun n1 n2 H locs L hH hVS hL hv1 hv2 => ?_⟩
  exact lv_ladd F.1 F.2.1 hd (hS n1 n2 H locs L hH hVS hL hv1 (vc trivial (vt (vt hv2))))
theorem si_lsub (F : FX p s m meth c X mid) (hKS : ∀ q, K q → BS p l e R s m args below meth c Qm lay L0 X mid n0 s0 NT ST q)  (hd : decode (byOf mid) pc = .ok (.lsub, 1)) (hA : act lay rt (.lsub, pc + 1, (a, b, k, dd), w, z, tb, ps) ls st σ = some A) (h : stepP rtOf cl Q K (pc + 1) ls σ A) : BS p l e R s m args below meth c Qm lay L0 X mid n0 s0 NT ST (pc, ls, st, σ) := by
  obtain ⟨y, st, rfl, hA⟩ := qJ_some hA
  obtain ⟨x, st, rfl, hA⟩ := qJ_some hA
  cases hA
  obtain ⟨hB, hS⟩ := hKS _ h
  refine ⟨hB, fun n1 n2 H locs L hH hVS hL hv1 hv2 => ?_⟩
  exact lv_lsub F.1 F.2.1 hd (hS n1 n2 H locs L hH hVS hL hv1 (vc trivial (vt (vt hv2))))
theorem si_lmul (F : FX p s m meth c X mid) (hKS : ∀ q, K q → BS p l e R s m args below meth c Qm lay L0 X mid n0 s0 NT ST q)  (hd : decode (byOf mid) pc = .ok (.lmul, 1)) (hA : act lay rt (.lmul, pc + 1, (a, b, k, dd), w, z, tb, ps) ls st σ = some A) (h : stepP rtOf cl Q K (pc + 1) ls σ A) : BS p l e R s m args below meth c Qm lay L0 X mid n0 s0 NT ST (pc, ls, st, σ) := by
  obtain ⟨y, st, rfl, hA⟩ := qJ_some hA
  obtain ⟨x, st, rfl, hA⟩ := qJ_some hA
  cases hA
  obtain ⟨hB, hS⟩ := hKS _ h
  refine ⟨hB, fun n1 n2 H locs L hH hVS hL hv1 hv2 => ?_⟩
  exact lv_lmul F.1 F.2.1 hd (hS n1 n2 H locs L hH hVS hL hv1 (vc trivial (vt (vt hv2))))
theorem si_land (F : FX p s m meth c X mid) (hKS : ∀ q, K q → BS p l e R s m args below meth c Qm lay L0 X mid n0 s0 NT ST q)  (hd : decode (byOf mid) pc = .ok (.land, 1)) (hA : act lay rt (.land, pc + 1, (a, b, k, dd), w, z, tb, ps) ls st σ = some A) (h : stepP rtOf cl Q K (pc + 1) ls σ A) : BS p l e R s m args below meth c Qm lay L0 X mid n0 s0 NT ST (pc, ls, st, σ) := by
  obtain ⟨y, st, rfl, hA⟩ := qJ_some hA
  obtain ⟨x, st, rfl, hA⟩ := qJ_some hA
  cases hA
  obtain ⟨hB, hS⟩ := hKS _ h
  refine ⟨hB, fun n1 n2 H locs L hH hVS hL hv1 hv2 => ?_⟩
  exact lv_land F.1 F.2.1 hd (hS n1 n2 H locs L hH hVS hL hv1 (vc trivial (vt (vt hv2))))
theorem si_lor (F : FX p s m meth c X mid) (hKS : ∀ q, K q → BS p l e R s m args below meth c Qm lay L0 X mid n0 s0 NT ST q)  (hd : decode (byOf mid) pc = .ok (.lor, 1)) (hA : act lay rt (.lor, pc + 1, (a, b, k, dd), w, z, tb, ps) ls st σ = some A) (h : stepP rtOf cl Q K (pc + 1) ls σ A) : BS p l e R s m args below meth c Qm lay L0 X mid n0 s0 NT ST (pc, ls, st, σ) := by
  obtain ⟨y, st, rfl, hA⟩ := qJ_some hA
  obtain ⟨x, st, rfl, hA⟩ := qJ_some hA
  cases hA
  obtain ⟨hB, hS⟩ := hKS _ h
  refine ⟨hB, fun n1 n2 H locs L hH hVS hL hv1 hv2 => ?_⟩
  exact lv_lor F.1 F.2.1 hd (hS n1 n2 H locs L hH hVS hL hv1 (vc trivial (vt (vt hv2))))
theorem si_idiv (F : FX p s m meth c X mid) (hKS : ∀ q, K q → BS p l e R s m args below meth c Qm lay L0 X mid n0 s0 NT ST q)  (hd : decode (byOf mid) pc = .ok (.idiv, 1)) (hA : act lay rt (.idiv, pc + 1, (a, b, k, dd), w, z, tb, ps) ls st σ = some A) (h : stepP rtOf cl Q K (pc + 1) ls σ A) : BS p l e R s m args below meth c Qm lay L0 X mid n0 s0 NT ST (pc, ls, st, σ) := by
  obtain ⟨y, st, rfl, hA⟩ := qI_some hA
  obtain ⟨x, st, rfl, hA⟩ := qI_some hA
  cases hA
  have h : ¬ y = 0 ∧ K (pc + 1, ls, aI (x / y) :: st, σ) := h
  obtain ⟨hne, h⟩ := h
  obtain ⟨hB, hS⟩ := hKS _ h
  refine ⟨hB, fun n1 n2 H locs L hH hVS hL hv1 hv2 => ?_⟩
  exact lv_idiv F.1 F.2.1 hd hne (hS n1 n2 H locs L hH hVS hL hv1 (vc trivial (vt (vt hv2))))
theorem si_irem (F : FX p s m meth c X mid) (hKS : ∀ q, K q → BS p l e R s m args below meth c Qm lay L0 X mid n0 s0 NT ST q)  (hd : decode (byOf mid) pc = .ok (.irem, 1)) (hA : act lay rt (.irem, pc + 1, (a, b, k, dd), w, z, tb, ps) ls st σ = some A) (h : stepP rtOf cl Q K (pc + 1) ls σ A) : BS p l e R s m args below meth c Qm lay L0 X mid n0 s0 NT ST (pc, ls, st, σ) := by
  obtain ⟨y, st, rfl, hA⟩ := qI_some hA
  obtain ⟨x, st, rfl, hA⟩ := qI_some hA
  cases hA
  have h : ¬ y = 0 ∧ K (pc + 1, ls, aI (x - x / y * y) :: st, σ) := h
  obtain ⟨hne, h⟩ := h
  obtain ⟨hB, hS⟩ := hKS _ h
  refine ⟨hB, fun n1 n2 H locs L hH hVS hL hv1 hv2 => ?_⟩
  exact lv_irem F.1 F.2.1 hd hne (hS n1 n2 H locs L hH hVS hL hv1 (vc trivial (vt (vt hv2))))
theorem si_ldiv (F : FX p s m meth c X mid) (hKS : ∀ q, K q → BS p l e R s m args below meth c Qm lay L0 X mid n0 s0 NT ST q)  (hd : decode (byOf mid) pc = .ok (.ldiv, 1)) (hA : act lay rt (.ldiv, pc + 1, (a, b, k, dd), w, z, tb, ps) ls st σ = some A) (h : stepP rtOf cl Q K (pc + 1) ls σ A) : BS p l e R s m args below meth c Qm lay L0 X mid n0 s0 NT ST (pc, ls, st, σ) := by
  obtain ⟨y, st, rfl, hA⟩ := qJ_some hA
  obtain ⟨x, st, rfl, hA⟩ := qJ_some hA
  cases hA
  have h : ¬ y = 0 ∧ K (pc + 1, ls, aJ (x / y) :: st, σ) := h
  obtain ⟨hne, h⟩ := h
  obtain ⟨hB, hS⟩ := hKS _ h
  refine ⟨hB, fun n1 n2 H locs L hH hVS hL hv1 hv2 => ?_⟩
  exact lv_ldiv F.1 F.2.1 hd hne (hS n1 n2 H locs L hH hVS hL hv1 (vc trivial (vt (vt hv2))))
theorem si_lrem (F : FX p s m meth c X mid) (hKS : ∀ q, K q → BS p l e R s m args below meth c Qm lay L0 X mid n0 s0 NT ST q)  (hd : decode (byOf mid) pc = .ok (.lrem, 1)) (hA : act lay rt (.lrem, pc + 1, (a, b, k, dd), w, z, tb, ps) ls st σ = some A) (h : stepP rtOf cl Q K (pc + 1) ls σ A) : BS p l e R s m args below meth c Qm lay L0 X mid n0 s0 NT ST (pc, ls, st, σ) := by
  obtain ⟨y, st, rfl, hA⟩ := qJ_some hA
  obtain ⟨x, st, rfl, hA⟩ := qJ_some hA
  cases hA
  have h : ¬ y = 0 ∧ K (pc + 1, ls, aJ (x - x / y * y) :: st, σ) := h
  obtain ⟨hne, h⟩ := h
  obtain ⟨hB, hS⟩ := hKS _ h
  refine ⟨hB, fun n1 n2 H locs L hH hVS hL hv1 hv2 => ?_⟩
  exact lv_lrem F.1 F.2.1 hd hne (hS n1 n2 H locs L hH hVS hL hv1 (vc trivial (vt (vt hv2))))
theorem si_lcmp (F : FX p s m meth c X mid) (hKS : ∀ q, K q → BS p l e R s m args below meth c Qm lay L0 X mid n0 s0 NT ST q)  (hd : decode (byOf mid) pc = .ok (.lcmp, 1)) (hA : act lay rt (.lcmp, pc + 1, (a, b, k, dd), w, z, tb, ps) ls st σ = some A) (h : stepP rtOf cl Q K (pc + 1) ls σ A) : BS p l e R s m args below meth c Qm lay L0 X mid n0 s0 NT ST (pc, ls, st, σ) := by
  obtain ⟨y, st, rfl, hA⟩ := qJ_some hA
  obtain ⟨x, st, rfl, hA⟩ := qJ_some hA
  cases hA
  obtain ⟨hB, hS⟩ := hKS _ h
  refine ⟨hB, fun n1 n2 H locs L hH hVS hL hv1 hv2 => ?_⟩
  exact W.lcmp F.1 F.2.1 hd (hS n1 n2 H locs L hH hVS hL hv1 (vc trivial (vt (vt hv2))))
theorem si_lshl (F : FX p s m meth c X mid) (hKS : ∀ q, K q → BS p l e R s m args below meth c Qm lay L0 X mid n0 s0 NT ST q)  (hd : decode (byOf mid) pc = .ok (.lshl, 1)) (hA : act lay rt (.lshl, pc + 1, (a, b, k, dd), w, z, tb, ps) ls st σ = some A) (h : stepP rtOf cl Q K (pc + 1) ls σ A) : BS p l e R s m args below meth c Qm lay L0 X mid n0 s0 NT ST (pc, ls, st, σ) := by
  obtain ⟨y, st, rfl, hA⟩ := qI_some hA
  obtain ⟨x, st, rfl, hA⟩ := qJ_some hA
  cases hA
  obtain ⟨hB, hS⟩ := hKS _ h
  refine ⟨hB, fun n1 n2 H locs L hH hVS hL hv1 hv2 => ?_⟩
  exact lv_lshl F.1 F.2.1 hd rfl (hS n1 n2 H locs L hH hVS hL hv1 (vc trivial (vt (vt hv2))))
theorem si_lshr (F : FX p s m meth c X mid) (hKS : ∀ q, K q → BS p l e R s m args below meth c Qm lay L0 X mid n0 s0 NT ST q)  (hd : decode (byOf mid) pc = .ok (.lshr, 1)) (hA : act lay rt (.lshr, pc + 1, (a, b, k, dd), w, z, tb, ps) ls st σ = some A) (h : stepP rtOf cl Q K (pc + 1) ls σ A) : BS p l e R s m args below meth c Qm lay L0 X mid n0 s0 NT ST (pc, ls, st, σ) := by
  obtain ⟨y, st, rfl, hA⟩ := qI_some hA
  obtain ⟨x, st, rfl, hA⟩ := qJ_some hA
  cases hA
  obtain ⟨hB, hS⟩ := hKS _ h
  refine ⟨hB, fun n1 n2 H locs L hH hVS hL hv1 hv2 => ?_⟩
  exact lv_lshr F.1 F.2.1 hd rfl (hS n1 n2 H locs L hH hVS hL hv1 (vc trivial (vt (vt hv2))))
theorem si_lushr (F : FX p s m meth c X mid) (hKS : ∀ q, K q → BS p l e R s m args below meth c Qm lay L0 X mid n0 s0 NT ST q)  (hd : decode (byOf mid) pc = .ok (.lushr, 1)) (hA : act lay rt (.lushr, pc + 1, (a, b, k, dd), w, z, tb, ps) ls st σ = some A) (h : stepP rtOf cl Q K (pc + 1) ls σ A) : BS p l e R s m args below meth c Qm lay L0 X mid n0 s0 NT ST (pc, ls, st, σ) := by
  obtain ⟨y, st, rfl, hA⟩ := qI_some hA
  obtain ⟨x, st, rfl, hA⟩ := qJ_some hA
  cases hA
  obtain ⟨hB, hS⟩ := hKS _ h
  refine ⟨hB, fun n1 n2 H locs L hH hVS hL hv1 hv2 => ?_⟩
  exact lv_lushr F.1 F.2.1 hd rfl (hS n1 n2 H locs L hH hVS hL hv1 (vc trivial (vt (vt hv2))))
theorem si_lneg (F : FX p s m meth c X mid) (hKS : ∀ q, K q → BS p l e R s m args below meth c Qm lay L0 X mid n0 s0 NT ST q)  (hd : decode (byOf mid) pc = .ok (.lneg, 1)) (hA : act lay rt (.lneg, pc + 1, (a, b, k, dd), w, z, tb, ps) ls st σ = some A) (h : stepP rtOf cl Q K (pc + 1) ls σ A) : BS p l e R s m args below meth c Qm lay L0 X mid n0 s0 NT ST (pc, ls, st, σ) := by
  obtain ⟨x, st, rfl, hA⟩ := qJ_some hA
  cases hA
  obtain ⟨hB, hS⟩ := hKS _ h
  refine ⟨hB, fun n1 n2 H locs L hH hVS hL hv1 hv2 => ?_⟩
  exact lv_lneg F.1 F.2.1 hd (hS n1 n2 H locs L hH hVS hL hv1 (vc trivial (vt hv2)))
theorem si_i2l (F : FX p s m meth c X mid) (hKS : ∀ q, K q → BS p l e R s m args below meth c Qm lay L0 X mid n0 s0 NT ST q)  (hd : decode (byOf mid) pc = .ok (.i2l, 1)) (hA : act lay rt (.i2l, pc + 1, (a, b, k, dd), w, z, tb, ps) ls st σ = some A) (h : stepP rtOf cl Q K (pc + 1) ls σ A) : BS p l e R s m args below meth c Qm lay L0 X mid n0 s0 NT ST (pc, ls, st, σ) := by
  obtain ⟨x, st, rfl, hA⟩ := qI_some hA
  cases hA
  obtain ⟨hB, hS⟩ := hKS _ h
  refine ⟨hB, fun n1 n2 H locs L hH hVS hL hv1 hv2 => ?_⟩
  exact lv_i2l F.1 F.2.1 hd rfl (hS n1 n2 H locs L hH hVS hL hv1 (vc trivial (vt hv2)))
theorem si_l2i (F : FX p s m meth c X mid) (hKS : ∀ q, K q → BS p l e R s m args below meth c Qm lay L0 X mid n0 s0 NT ST q)  (hd : decode (byOf mid) pc = .ok (.l2i, 1)) (hA : act lay rt (.l2i, pc + 1, (a, b, k, dd), w, z, tb, ps) ls st σ = some A) (h : stepP rtOf cl Q K (pc + 1) ls σ A) : BS p l e R s m args below meth c Qm lay L0 X mid n0 s0 NT ST (pc, ls, st, σ) := by
  obtain ⟨x, st, rfl, hA⟩ := qJ_some hA
  cases hA
  obtain ⟨hB, hS⟩ := hKS _ h
  refine ⟨hB, fun n1 n2 H locs L hH hVS hL hv1 hv2 => ?_⟩
  exact lv_l2i F.1 F.2.1 hd rfl (hS n1 n2 H locs L hH hVS hL hv1 (vc trivial (vt hv2)))
theorem si_i2b (F : FX p s m meth c X mid) (hKS : ∀ q, K q → BS p l e R s m args below meth c Qm lay L0 X mid n0 s0 NT ST q)  (hd : decode (byOf mid) pc = .ok (.i2b, 1)) (hA : act lay rt (.i2b, pc + 1, (a, b, k, dd), w, z, tb, ps) ls st σ = some A) (h : stepP rtOf cl Q K (pc + 1) ls σ A) : BS p l e R s m args below meth c Qm lay L0 X mid n0 s0 NT ST (pc, ls, st, σ) := by
  obtain ⟨x, st, rfl, hA⟩ := qI_some hA
  cases hA
  obtain ⟨hB, hS⟩ := hKS _ h
  refine ⟨hB, fun n1 n2 H locs L hH hVS hL hv1 hv2 => ?_⟩
  exact lv_i2b F.1 F.2.1 hd rfl (hS n1 n2 H locs L hH hVS hL hv1 (vc trivial (vt hv2)))
theorem si_dup (F : FX p s m meth c X mid) (hKS : ∀ q, K q → BS p l e R s m args below meth c Qm lay L0 X mid n0 s0 NT ST q)  (hd : decode (byOf mid) pc = .ok (.dup, 1)) (hA : act lay rt (.dup, pc + 1, (a, b, k, dd), w, z, tb, ps) ls st σ = some A) (h : stepP rtOf cl Q K (pc + 1) ls σ A) : BS p l e R s m args below meth c Qm lay L0 X mid n0 s0 NT ST (pc, ls, st, σ) := by
  match st, hA with
  | v :: r, hA =>
    obtain ⟨hc, hA⟩ := bif_some hA
    cases hA
    obtain ⟨hB, hS⟩ := hKS _ h
    refine ⟨hB, fun n1 n2 H locs L hH hVS hL hv1 hv2 => ?_⟩
    exact lv_dup F.1 F.2.1 hd (by rw [cat_cv]; exact Nat.eq_of_beq_eq_true hc) (hS n1 n2 H locs L hH hVS hL hv1 (vc (vh hv2) hv2))
theorem si_pop (F : FX p s m meth c X mid) (hKS : ∀ q, K q → BS p l e R s m args below meth c Qm lay L0 X mid n0 s0 NT ST q)  (hd : decode (byOf mid) pc = .ok (.pop, 1)) (hA : act lay rt (.pop, pc + 1, (a, b, k, dd), w, z, tb, ps) ls st σ = some A) (h : stepP rtOf cl Q K (pc + 1) ls σ A) : BS p l e R s m args below meth c Qm lay L0 X mid n0 s0 NT ST (pc, ls, st, σ) := by
  match st, hA with
  | v :: r, hA =>
    obtain ⟨hc, hA⟩ := bif_some hA
    cases hA
    obtain ⟨hB, hS⟩ := hKS _ h
    refine ⟨hB, fun n1 n2 H locs L hH hVS hL hv1 hv2 => ?_⟩
    exact lv_pop F.1 F.2.1 hd (by rw [cat_cv]; exact Nat.eq_of_beq_eq_true hc) (hS n1 n2 H locs L hH hVS hL hv1 (vt hv2))
theorem si_goto (F : FX p s m meth c X mid) (hKS : ∀ q, K q → BS p l e R s m args below meth c Qm lay L0 X mid n0 s0 NT ST q) {o : Int} (hd : decode (byOf mid) pc = .ok (.goto o, 3)) (hj : (pc : Int) + o = (a : Int)) (hA : act lay rt (.goto o, pc + 3, (a, b, k, dd), w, z, tb, ps) ls st σ = some A) (h : stepP rtOf cl Q K (pc + 3) ls σ A) : BS p l e R s m args below meth c Qm lay L0 X mid n0 s0 NT ST (pc, ls, st, σ) := by
  cases hA
  obtain ⟨hB, hS⟩ := hKS _ h
  refine ⟨hB, fun n1 n2 H locs L hH hVS hL hv1 hv2 => ?_⟩
  exact lv_goto F.1 F.2.1 hd hj (hS n1 n2 H locs L hH hVS hL hv1 hv2)
theorem si_if_eq (F : FX p s m meth c X mid) (hKS : ∀ q, K q → BS p l e R s m args below meth c Qm lay L0 X mid n0 s0 NT ST q) {o : Int} (hd : decode (byOf mid) pc = .ok (.ifCond .eq o, 3)) (hj : (pc : Int) + o = (a : Int)) (hA : act lay rt (.ifCond .eq o, pc + 3, (a, b, k, dd), w, z, tb, ps) ls st σ = some A) (h : stepP rtOf cl Q K (pc + 3) ls σ A) : BS p l e R s m args below meth c Qm lay L0 X mid n0 s0 NT ST (pc, ls, st, σ) := by
  obtain ⟨x, st, rfl, hA⟩ := qI_some hA
  cases hA
  obtain ⟨h1, h2⟩ := h
  refine ⟨?_, fun n1 n2 H locs L hH hVS hL hv1 hv2 => ?_⟩
  · by_cases hc : x = 0
    · exact (hKS _ (h1 hc)).1
    · exact (hKS _ (h2 hc)).1
  · exact lv_if_eq F.1 F.2.1 hd hj (fun q => (hKS _ (h1 q)).2 n1 n2 H locs L hH hVS hL hv1 (vt hv2)) (fun q => (hKS _ (h2 q)).2 n1 n2 H locs L hH hVS hL hv1 (vt hv2))
theorem si_if_ne (F : FX p s m meth c X mid) (hKS : ∀ q, K q → BS p l e R s m args below meth c Qm lay L0 X mid n0 s0 NT ST q) {o : Int} (hd : decode (byOf mid) pc = .ok (.ifCond .ne o, 3)) (hj : (pc : Int) + o = (a : Int)) (hA : act lay rt (.ifCond .ne o, pc + 3, (a, b, k, dd), w, z, tb, ps) ls st σ = some A) (h : stepP rtOf cl Q K (pc + 3) ls σ A) : BS p l e R s m args below meth c Qm lay L0 X mid n0 s0 NT ST (pc, ls, st, σ) := by
  obtain ⟨x, st, rfl, hA⟩ := qI_some hA
  cases hA
  obtain ⟨h1, h2⟩ := h
  refine ⟨?_, fun n1 n2 H locs L hH hVS hL hv1 hv2 => ?_⟩
  · by_cases hc : x = 0
    · exact (hKS _ (h1 hc)).1
    · exact (hKS _ (h2 hc)).1
  · exact lv_if_ne F.1 F.2.1 hd hj (fun q => (hKS _ (h2 q)).2 n1 n2 H locs L hH hVS hL hv1 (vt hv2)) (fun q => (hKS _ (h1 q)).2 n1 n2 H locs L hH hVS hL hv1 (vt hv2))
theorem si_if_lt (F : FX p s m meth c X mid) (hKS : ∀ q, K q → BS p l e R s m args below meth c Qm lay L0 X mid n0 s0 NT ST q) {o : Int} (hd : decode (byOf mid) pc = .ok (.ifCond .lt o, 3)) (hj : (pc : Int) + o = (a : Int)) (hA : act lay rt (.ifCond .lt o, pc + 3, (a, b, k, dd), w, z, tb, ps) ls st σ = some A) (h : stepP rtOf cl Q K (pc + 3) ls σ A) : BS p l e R s m args below meth c Qm lay L0 X mid n0 s0 NT ST (pc, ls, st, σ) := by
  obtain ⟨x, st, rfl, hA⟩ := qI_some hA
  cases hA
  obtain ⟨h1, h2⟩ := h
  refine ⟨?_, fun n1 n2 H locs L hH hVS hL hv1 hv2 => ?_⟩
  · by_cases hc : x < 0
    · exact (hKS _ (h1 hc)).1
    · exact (hKS _ (h2 hc)).1
  · exact lv_if_lt F.1 F.2.1 hd hj (fun q => (hKS _ (h1 q)).2 n1 n2 H locs L hH hVS hL hv1 (vt hv2)) (fun q => (hKS _ (h2 q)).2 n1 n2 H locs L hH hVS hL hv1 (vt hv2))
theorem si_if_ge (F : FX p s m meth c X mid) (hKS : ∀ q, K q → BS p l e R s m args below meth c Qm lay L0 X mid n0 s0 NT ST q) {o : Int} (hd : decode (byOf mid) pc = .ok (.ifCond .ge o, 3)) (hj : (pc : Int) + o = (a : Int)) (hA : act lay rt (.ifCond .ge o, pc + 3, (a, b, k, dd), w, z, tb, ps) ls st σ = some A) (h : stepP rtOf cl Q K (pc + 3) ls σ A) : BS p l e R s m args below meth c Qm lay L0 X mid n0 s0 NT ST (pc, ls, st, σ) := by
  obtain ⟨x, st, rfl, hA⟩ := qI_some hA
  cases hA
  obtain ⟨h1, h2⟩ := h
  refine ⟨?_, fun n1 n2 H locs L hH hVS hL hv1 hv2 => ?_⟩
  · by_cases hc : 0 ≤ x
    · exact (hKS _ (h1 hc)).1
    · exact (hKS _ (h2 hc)).1
  · exact lv_if_ge F.1 F.2.1 hd hj (fun q => (hKS _ (h1 q)).2 n1 n2 H locs L hH hVS hL hv1 (vt hv2)) (fun q => (hKS _ (h2 q)).2 n1 n2 H locs L hH hVS hL hv1 (vt hv2))
theorem si_if_gt (F : FX p s m meth c X mid) (hKS : ∀ q, K q → BS p l e R s m args below meth c Qm lay L0 X mid n0 s0 NT ST q) {o : Int} (hd : decode (byOf mid) pc = .ok (.ifCond .gt o, 3)) (hj : (pc : Int) + o = (a : Int)) (hA : act lay rt (.ifCond .gt o, pc + 3, (a, b, k, dd), w, z, tb, ps) ls st σ = some A) (h : stepP rtOf cl Q K (pc + 3) ls σ A) : BS p l e R s m args below meth c Qm lay L0 X mid n0 s0 NT ST (pc, ls, st, σ) := by
  obtain ⟨x, st, rfl, hA⟩ := qI_some hA
  cases hA
  obtain ⟨h1, h2⟩ := h
  refine ⟨?_, fun n1 n2 H locs L hH hVS hL hv1 hv2 => ?_⟩
  · by_cases hc : 0 < x
    · exact (hKS _ (h1 hc)).1
    · exact (hKS _ (h2 hc)).1
  · exact lv_if_gt F.1 F.2.1 hd hj (fun q => (hKS _ (h1 q)).2 n1 n2 H locs L hH hVS hL hv1 (vt hv2)) (fun q => (hKS _ (h2 q)).2 n1 n2 H locs L hH hVS hL hv1 (vt hv2))
theorem si_if_le (F : FX p s m meth c X mid) (hKS : ∀ q, K q → BS p l e R s m args below meth c Qm lay L0 X mid n0 s0 NT ST q) {o : Int} (hd : decode (byOf mid) pc = .ok (.ifCond .le o, 3)) (hj : (pc : Int) + o = (a : Int)) (hA : act lay rt (.ifCond .le o, pc + 3, (a, b, k, dd), w, z, tb, ps) ls st σ = some A) (h : stepP rtOf cl Q K (pc + 3) ls σ A) : BS p l e R s m args below meth c Qm lay L0 X mid n0 s0 NT ST (pc, ls, st, σ) := by
  obtain ⟨x, st, rfl, hA⟩ := qI_some hA
  cases hA
  obtain ⟨h1, h2⟩ := h
  refine ⟨?_, fun n1 n2 H locs L hH hVS hL hv1 hv2 => ?_⟩
  · by_cases hc : x ≤ 0
    · exact (hKS _ (h1 hc)).1
    · exact (hKS _ (h2 hc)).1
  · exact lv_if_le F.1 F.2.1 hd hj (fun q => (hKS _ (h1 q)).2 n1 n2 H locs L hH hVS hL hv1 (vt hv2)) (fun q => (hKS _ (h2 q)).2 n1 n2 H locs L hH hVS hL hv1 (vt hv2))
theorem si_icmp_eq (F : FX p s m meth c X mid) (hKS : ∀ q, K q → BS p l e R s m args below meth c Qm lay L0 X mid n0 s0 NT ST q) {o : Int} (hd : decode (byOf mid) pc = .ok (.if_icmp .eq o, 3)) (hj : (pc : Int) + o = (a : Int)) (hA : act lay rt (.if_icmp .eq o, pc + 3, (a, b, k, dd), w, z, tb, ps) ls st σ = some A) (h : stepP rtOf cl Q K (pc + 3) ls σ A) : BS p l e R s m args below meth c Qm lay L0 X mid n0 s0 NT ST (pc, ls, st, σ) := by
  obtain ⟨y, st, rfl, hA⟩ := qI_some hA
  obtain ⟨x, st, rfl, hA⟩ := qI_some hA
  cases hA
  obtain ⟨h1, h2⟩ := h
  refine ⟨?_, fun n1 n2 H locs L hH hVS hL hv1 hv2 => ?_⟩
  · by_cases hc : x = y
    · exact (hKS _ (h1 hc)).1
    · exact (hKS _ (h2 hc)).1
  · exact lv_icmp_eq F.1 F.2.1 hd hj (fun q => (hKS _ (h1 q)).2 n1 n2 H locs L hH hVS hL hv1 (vt (vt hv2))) (fun q => (hKS _ (h2 q)).2 n1 n2 H locs L hH hVS hL hv1 (vt (vt hv2)))
theorem si_icmp_ne (F : FX p s m meth c X mid) (hKS : ∀ q, K q → BS p l e R s m args below meth c Qm lay L0 X mid n0 s0 NT ST q) {o : Int} (hd : decode (byOf mid) pc = .ok (.if_icmp .ne o, 3)) (hj : (pc : Int) + o = (a : Int)) (hA : act lay rt (.if_icmp .ne o, pc + 3, (a, b, k, dd), w, z, tb, ps) ls st σ = some A) (h : stepP rtOf cl Q K (pc + 3) ls σ A) : BS p l e R s m args below meth c Qm lay L0 X mid n0 s0 NT ST (pc, ls, st, σ) := by
  obtain ⟨y, st, rfl, hA⟩ := qI_some hA
  obtain ⟨x, st, rfl, hA⟩ := qI_some hA
  cases hA
  obtain ⟨h1, h2⟩ := h
  refine ⟨?_, fun n1 n2 H locs L hH hVS hL hv1 hv2 => ?_⟩
  · by_cases hc : x = y
    · exact (hKS _ (h1 hc)).1
    · exact (hKS _ (h2 hc)).1
  · exact lv_icmp_ne F.1 F.2.1 hd hj (fun q => (hKS _ (h2 q)).2 n1 n2 H locs L hH hVS hL hv1 (vt (vt hv2))) (fun q => (hKS _ (h1 q)).2 n1 n2 H locs L hH hVS hL hv1 (vt (vt hv2)))
theorem si_icmp_lt (F : FX p s m meth c X mid) (hKS : ∀ q, K q → BS p l e R s m args below meth c Qm lay L0 X mid n0 s0 NT ST q) {o : Int} (hd : decode (byOf mid) pc = .ok (.if_icmp .lt o, 3)) (hj : (pc : Int) + o = (a : Int)) (hA : act lay rt (.if_icmp .lt o, pc + 3, (a, b, k, dd), w, z, tb, ps) ls st σ = some A) (h : stepP rtOf cl Q K (pc + 3) ls σ A) : BS p l e R s m args below meth c Qm lay L0 X mid n0 s0 NT ST (pc, ls, st, σ) := by
  obtain ⟨y, st, rfl, hA⟩ := qI_some hA
  obtain ⟨x, st, rfl, hA⟩ := qI_some hA
  cases hA
  obtain ⟨h1, h2⟩ := h
  refine ⟨?_, fun n1 n2 H locs L hH hVS hL hv1 hv2 => ?_⟩
  · by_cases hc : x < y
    · exact (hKS _ (h1 hc)).1
    · exact (hKS _ (h2 hc)).1
  · exact lv_icmp_lt F.1 F.2.1 hd hj (fun q => (hKS _ (h1 q)).2 n1 n2 H locs L hH hVS hL hv1 (vt (vt hv2))) (fun q => (hKS _ (h2 q)).2 n1 n2 H locs L hH hVS hL hv1 (vt (vt hv2)))
theorem si_icmp_ge (F : FX p s m meth c X mid) (hKS : ∀ q, K q → BS p l e R s m args below meth c Qm lay L0 X mid n0 s0 NT ST q) {o : Int} (hd : decode (byOf mid) pc = .ok (.if_icmp .ge o, 3)) (hj : (pc : Int) + o = (a : Int)) (hA : act lay rt (.if_icmp .ge o, pc + 3, (a, b, k, dd), w, z, tb, ps) ls st σ = some A) (h : stepP rtOf cl Q K (pc + 3) ls σ A) : BS p l e R s m args below meth c Qm lay L0 X mid n0 s0 NT ST (pc, ls, st, σ) := by
  obtain ⟨y, st, rfl, hA⟩ := qI_some hA
  obtain ⟨x, st, rfl, hA⟩ := qI_some hA
  cases hA
  obtain ⟨h1, h2⟩ := h
  refine ⟨?_, fun n1 n2 H locs L hH hVS hL hv1 hv2 => ?_⟩
  · by_cases hc : y ≤ x
    · exact (hKS _ (h1 hc)).1
    · exact (hKS _ (h2 hc)).1
  · exact lv_icmp_ge F.1 F.2.1 hd hj (fun q => (hKS _ (h1 q)).2 n1 n2 H locs L hH hVS hL hv1 (vt (vt hv2))) (fun q => (hKS _ (h2 q)).2 n1 n2 H locs L hH hVS hL hv1 (vt (vt hv2)))
theorem si_icmp_gt (F : FX p s m meth c X mid) (hKS : ∀ q, K q → BS p l e R s m args below meth c Qm lay L0 X mid n0 s0 NT ST q) {o : Int} (hd : decode (byOf mid) pc = .ok (.if_icmp .gt o, 3)) (hj : (pc : Int) + o = (a : Int)) (hA : act lay rt (.if_icmp .gt o, pc + 3, (a, b, k, dd), w, z, tb, ps) ls st σ = some A) (h : stepP rtOf cl Q K (pc + 3) ls σ A) : BS p l e R s m args below meth c Qm lay L0 X mid n0 s0 NT ST (pc, ls, st, σ) := by
  obtain ⟨y, st, rfl, hA⟩ := qI_some hA
  obtain ⟨x, st, rfl, hA⟩ := qI_some hA
  cases hA
  obtain ⟨h1, h2⟩ := h
  refine ⟨?_, fun n1 n2 H locs L hH hVS hL hv1 hv2 => ?_⟩
  · by_cases hc : y < x
    · exact (hKS _ (h1 hc)).1
    · exact (hKS _ (h2 hc)).1
  · exact lv_icmp_gt F.1 F.2.1 hd hj (fun q => (hKS _ (h1 q)).2 n1 n2 H locs L hH hVS hL hv1 (vt (vt hv2))) (fun q => (hKS _ (h2 q)).2 n1 n2 H locs L hH hVS hL hv1 (vt (vt hv2)))
theorem si_icmp_le (F : FX p s m meth c X mid) (hKS : ∀ q, K q → BS p l e R s m args below meth c Qm lay L0 X mid n0 s0 NT ST q) {o : Int} (hd : decode (byOf mid) pc = .ok (.if_icmp .le o, 3)) (hj : (pc : Int) + o = (a : Int)) (hA : act lay rt (.if_icmp .le o, pc + 3, (a, b, k, dd), w, z, tb, ps) ls st σ = some A) (h : stepP rtOf cl Q K (pc + 3) ls σ A) : BS p l e R s m args below meth c Qm lay L0 X mid n0 s0 NT ST (pc, ls, st, σ) := by
  obtain ⟨y, st, rfl, hA⟩ := qI_some hA
  obtain ⟨x, st, rfl, hA⟩ := qI_some hA
  cases hA
  obtain ⟨h1, h2⟩ := h
  refine ⟨?_, fun n1 n2 H locs L hH hVS hL hv1 hv2 => ?_⟩
  · by_cases hc : x ≤ y
    · exact (hKS _ (h1 hc)).1
    · exact (hKS _ (h2 hc)).1
  · exact lv_icmp_le F.1 F.2.1 hd hj (fun q => (hKS _ (h1 q)).2 n1 n2 H locs L hH hVS hL hv1 (vt (vt hv2))) (fun q => (hKS _ (h2 q)).2 n1 n2 H locs L hH hVS hL hv1 (vt (vt hv2)))
theorem si_ifnull (F : FX p s m meth c X mid) (hKS : ∀ q, K q → BS p l e R s m args below meth c Qm lay L0 X mid n0 s0 NT ST q) {o : Int} (hd : decode (byOf mid) pc = .ok (.ifnull o, 3)) (hj : (pc : Int) + o = (a : Int)) (hA : act lay rt (.ifnull o, pc + 3, (a, b, k, dd), w, z, tb, ps) ls st σ = some A) (h : stepP rtOf cl Q K (pc + 3) ls σ A) : BS p l e R s m args below meth c Qm lay L0 X mid n0 s0 NT ST (pc, ls, st, σ) := by
  obtain ⟨t, j, st, rfl, hA⟩ := qR_some hA
  cases hA
  obtain ⟨h1, h2⟩ := h
  refine ⟨?_, fun n1 n2 H locs L hH hVS hL hv1 hv2 => ?_⟩
  · by_cases hc : j = 0
    · exact (hKS _ (h1 hc)).1
    · exact (hKS _ (h2 hc)).1
  · show W p l e R s m args below meth c H locs (sN σ - n0) (sS σ - s0) Qm (F0 m pc L (cvt X j :: st.map (cvV X)))
    by_cases hc : j = 0
    · have hk := (hKS _ (h1 hc)).2 n1 n2 H locs L hH hVS hL hv1 (vt hv2)
      rw [hc]
      exact lv_ifnullN F.1 F.2.1 hd hj hk
    · have hk := (hKS _ (h2 hc)).2 n1 n2 H locs L hH hVS hL hv1 (vt hv2)
      obtain ⟨q, eq⟩ := cvt_ne X hc
      rw [eq]
      exact lv_ifnull F.1 F.2.1 hd hk
theorem si_ifnonnull (F : FX p s m meth c X mid) (hKS : ∀ q, K q → BS p l e R s m args below meth c Qm lay L0 X mid n0 s0 NT ST q) {o : Int} (hd : decode (byOf mid) pc = .ok (.ifnonnull o, 3)) (hj : (pc : Int) + o = (a : Int)) (hA : act lay rt (.ifnonnull o, pc + 3, (a, b, k, dd), w, z, tb, ps) ls st σ = some A) (h : stepP rtOf cl Q K (pc + 3) ls σ A) : BS p l e R s m args below meth c Qm lay L0 X mid n0 s0 NT ST (pc, ls, st, σ) := by
  obtain ⟨t, j, st, rfl, hA⟩ := qR_some hA
  cases hA
  obtain ⟨h1, h2⟩ := h
  refine ⟨?_, fun n1 n2 H locs L hH hVS hL hv1 hv2 => ?_⟩
  · by_cases hc : j = 0
    · exact (hKS _ (h1 hc)).1
    · exact (hKS _ (h2 hc)).1
  · show W p l e R s m args below meth c H locs (sN σ - n0) (sS σ - s0) Qm (F0 m pc L (cvt X j :: st.map (cvV X)))
    by_cases hc : j = 0
    · have hk := (hKS _ (h1 hc)).2 n1 n2 H locs L hH hVS hL hv1 (vt hv2)
      rw [hc]
      exact lv_ifnonnullN F.1 F.2.1 hd hk
    · have hk := (hKS _ (h2 hc)).2 n1 n2 H locs L hH hVS hL hv1 (vt hv2)
      obtain ⟨q, eq⟩ := cvt_ne X hc
      rw [eq]
      exact lv_ifnonnull F.1 F.2.1 hd hj hk
end SIM
end
section
/-! ===== simulation: fields, arrays, new cells, switches ===== -/
theorem ldV_cv {lay : Nat → Nat → Nat} {L0 : Nat} {X : Cx} {σ : St} {s : State} {H : Heap} (hH : HW lay L0 X σ s H) {a b j : Nat} (h3 : 3 ≤ j) (hn : j < sN σ) (ht : gT σ j = a) (ha : a < 13) : cvV X (ldV lay σ (fty a b) j b) = slV X σ (fty a b) j b ∧ vOK σ (ldV lay σ (fty a b) j b) := by
  have hs : sty (gT σ j) b = fty a b := by rw [ht]; unfold sty; rw [if_pos ha]
  have hwt := hH.2.2.2.1
  have hlay := hH.2.2.2.2.1.2
  generalize fty a b = f at hs ⊢
  match f, hs with
  | 0, _ => exact ⟨rfl, trivial⟩
  | 1, _ => exact ⟨rfl, trivial⟩
  | 2, _ => exact ⟨rfl, trivial⟩
  | 3, _ => exact ⟨rfl, trivial⟩
  | t + 4, hs =>
    have hr : ldR lay σ j b = gR σ j b := by
      unfold ldR
      cases hl : lay j b with
      | zero => rfl
      | succ q =>
        have := hlay j b (by rw [hl]; exact Nat.succ_ne_zero q)
        rw [this, hl]
    have hok := hwt.2 j b t h3 hn hs
    show cvt X (ldR lay σ j b) = va_rf (rfO X (gR σ j b)) ∧ vOK σ (aO t (ldR lay σ j b))
    rw [hr]
    refine ⟨cvt_rf hok, ?_⟩
    rcases hok with h0 | ⟨h1, h2, h4⟩
    · exact Or.inl h0
    · refine Or.inr (Or.inr ⟨?_, h1, h2, h4⟩)
      have := hwt.1 _ h1 h2
      omega
theorem rOK_of {σ : St} {t v : Nat} (h : vOK σ (aO t v)) (ht : t ≠ 22) : rOK σ t v := by
  rcases h with h | ⟨h, -⟩ | ⟨-, h⟩
  · exact Or.inl h
  · exact absurd h ht
  · exact Or.inr h
theorem aO_ok {σ : St} {t r : Nat} (hwt : wt σ) (h : rOK σ t r) : vOK σ (aO t r) := by
  rcases h with h0 | ⟨h1, h2, h4⟩
  · exact Or.inl h0
  · refine Or.inr (Or.inr ⟨?_, h1, h2, h4⟩)
    have := hwt.1 _ h1 h2
    omega
section SIM2
variable {p : Program} {l : Launch} {e : Env} {R : Room} {s : State} {m : MethodId} {args : Array Value} {below : List Frame} {meth : Method} {c : Code} {Qm : State → Prop} {lay : Nat → Nat → Nat} {L0 : Nat} {X : Cx} {mid n0 s0 NT ST d rt : Nat} {Q : Option AV → St → Prop} {K : S4 → Prop} {cl : CLT}
variable {pc nx a b k dd : Nat} {w : Int32} {z : Int64} {tb : List (Int32 × Nat)} {ps : List Nat} {ls st : List AV} {σ : St} {A : Act}
theorem si_getfield (F : FX p s m meth c X mid) (hKS : ∀ q, K q → BS p l e R s m args below meth c Qm lay L0 X mid n0 s0 NT ST q) {n : Nat} (hd : decode (byOf mid) pc = .ok (.getfield n, 3)) (hg : goodI (yOf mid).cls (iniOf mid) pc (.getfield n, pc + 3, (a, b, k, dd), w, z, tb, ps) = true) (hA : act lay rt (.getfield n, pc + 3, (a, b, k, dd), w, z, tb, ps) ls st σ = some A) (h : stepP rtOf cl Q K (pc + 3) ls σ A) : BS p l e R s m args below meth c Qm lay L0 X mid n0 s0 NT ST (pc, ls, st, σ) := by
  obtain ⟨j, st, rfl, hA1⟩ := qO_some hA
  cases hA1
  have h : nn j (K (pc + 3, ls, ldV lay σ (fty a b) j b :: st, σ)) := h
  obtain ⟨hj, h⟩ := nn_to h
  obtain ⟨hB, hS⟩ := hKS _ h
  obtain ⟨g12, g3⟩ := Bool.and_eq_true_iff.mp hg
  obtain ⟨g1, g2⟩ := Bool.and_eq_true_iff.mp g12
  have hk : b < nF a := Nat.le_of_ble_eq_true g1
  have ha : a < 13 := Nat.le_of_ble_eq_true g2
  refine ⟨hB, fun n1 n2 H locs L hH hVS hL hv1 hv2 => ?_⟩
  obtain ⟨r1, r2, r3⟩ := ref_of (σ := σ) (t := a) (vh hv2) hj (by omega)
  obtain ⟨c1, c2⟩ := ldV_cv (b := b) hH r1 r2 r3 ha
  have hk2 := hS n1 n2 H locs L hH hVS hL hv1 (vc c2 (vt hv2))
  have hk2 : W p l e R s m args below meth c H locs (sN σ - n0) (sS σ - s0) Qm (F0 m (pc + 3) L (cvV X (ldV lay σ (fty a b) j b) :: st.map (cvV X))) := hk2
  rw [c1] at hk2
  show W p l e R s m args below meth c H locs (sN σ - n0) (sS σ - s0) Qm (F0 m pc L (cvt X j :: st.map (cvV X)))
  rw [cvt_ge r1]
  match k, g3 with
  | 0, g3 => exact h_get (nest := false) F.1 F.2.1 F.2.2.2.2.2.2.2 F.2.2.2.1 hH ha hk r1 r2 r3 g3 hd hk2
  | k + 1, g3 => exact h_get (nest := true) F.1 F.2.1 F.2.2.2.2.2.2.2 F.2.2.2.1 hH ha hk r1 r2 r3 g3 hd hk2
theorem si_putfield (F : FX p s m meth c X mid) (hsz : X.1 ≤ s.heap.size) (hKS : ∀ q, K q → BS p l e R s m args below meth c Qm lay L0 X mid n0 s0 NT ST q) {n : Nat} (hd : decode (byOf mid) pc = .ok (.putfield n, 3)) (hg : goodI (yOf mid).cls (iniOf mid) pc (.putfield n, pc + 3, (a, b, k, dd), w, z, tb, ps) = true) (hA : act lay rt (.putfield n, pc + 3, (a, b, k, dd), w, z, tb, ps) ls st σ = some A) (h : stepP rtOf cl Q K (pc + 3) ls σ A) : BS p l e R s m args below meth c Qm lay L0 X mid n0 s0 NT ST (pc, ls, st, σ) := by
  obtain ⟨g12, g3⟩ := Bool.and_eq_true_iff.mp hg
  obtain ⟨g1, g2⟩ := Bool.and_eq_true_iff.mp g12
  have hk : b < nF a := Nat.le_of_ble_eq_true g1
  have ha : a < 13 := Nat.le_of_ble_eq_true g2
  have hlk : putL (nthN ps 0) n a b k (yOf mid).cls (decide (meth.name = "<init>")) = true := by
    match k, g3 with
    | 0, g3 => exact g3
    | 1, g3 => exact g3
    | k + 2, g3 =>
      obtain ⟨l123, l4⟩ := Bool.and_eq_true_iff.mp g3
      obtain ⟨l12, l3⟩ := Bool.and_eq_true_iff.mp l123
      exact Bool.and_eq_true_iff.mpr ⟨Bool.and_eq_true_iff.mpr ⟨l12, decide_eq_true (F.2.2.2.2.2.2.1 l3)⟩, l4⟩
  have hty := tyM_ok a ha b hk
  have hA : (match fty a b with
    | 0 => qI st fun x st => qO a st fun j st => a1 j (pc + 3, ls, st, pI σ j b x)
    | 1 => qI st fun x st => qO a st fun j st => a2 j (x = 0 ∨ x = 1) (pc + 3, ls, st, pI σ j b x)
    | 2 => none
    | 3 => qJ st fun x st => qO a st fun j st => a1 j (pc + 3, ls, st, pL σ j b x)
    | t + 4 => qO t st fun v st => qO a st fun j st => a2 j (layC lay j b v) (pc + 3, ls, st, pR σ j b v)) = some A := hA
  cases hp : parseFieldDescriptor (tC a b).2.2.1 with
  | none =>
    rw [hp] at hty
    generalize fty a b = f at hty
    match f, hty with
    | 0, q => cases q
    | 1, q => cases q
    | 3, q => cases q
    | n + 4, q => cases q
  | some fy =>
  rw [hp] at hty
  generalize hf : fty a b = f at hty hA
  match f, hty, hA, hf with
  | 0, hty, hA, hf =>
    obtain ⟨x, st, rfl, hA1⟩ := qI_some hA
    obtain ⟨j, st, rfl, hA2⟩ := qO_some hA1
    cases hA2
    have h : nn j (K (pc + 3, ls, st, pI σ j b x)) := h
    obtain ⟨hj, h⟩ := nn_to h
    obtain ⟨hB, hS⟩ := hKS _ h
    cases Option.some.inj (of_decide_eq_true hty)
    refine ⟨hB, fun n1 n2 H locs L hH hVS hL hv1 hv2 => ?_⟩
    obtain ⟨r1, r2, r3⟩ := ref_of (σ := σ) (t := a) (vh (vt hv2)) hj (by omega)
    show W p l e R s m args below meth c H locs (sN σ - n0) (sS σ - s0) Qm (F0 m pc L (.int x :: cvt X j :: st.map (cvV X)))
    rw [cvt_ge r1]
    exact h_put F.1 F.2.1 F.2.2.2.2.2.2.2 F.2.2.2.1 hH hVS hsz ha hk r1 r2 r3 hlk hp rfl rfl (UpdAt_pI r1 hH.2.2.2.1 hH.2.2.2.2.1.2) r3 (by rw [hf]; show Value.int (gI (pI σ j b x) j b) = _; rw [gI_pI, if_pos ⟨rfl, rfl⟩]) (fun b' hb' => slV_pI _ _ _ (fun q => hb' q.2)) hd (fun H1 locs1 hH1 hS1 => hS n1 n2 H1 locs1 L hH1 hS1 hL hv1 (vt (vt hv2)))
  | 1, hty, hA, hf =>
    obtain ⟨x, st, rfl, hA1⟩ := qI_some hA
    obtain ⟨j, st, rfl, hA2⟩ := qO_some hA1
    cases hA2
    have h : nn j ((x = 0 ∨ x = 1) ∧ K (pc + 3, ls, st, pI σ j b x)) := h
    obtain ⟨hj, hx01, h⟩ := nn_to h
    obtain ⟨hB, hS⟩ := hKS _ h
    cases Option.some.inj (of_decide_eq_true hty)
    refine ⟨hB, fun n1 n2 H locs L hH hVS hL hv1 hv2 => ?_⟩
    obtain ⟨r1, r2, r3⟩ := ref_of (σ := σ) (t := a) (vh (vt hv2)) hj (by omega)
    show W p l e R s m args below meth c H locs (sN σ - n0) (sS σ - s0) Qm (F0 m pc L (.int x :: cvt X j :: st.map (cvV X)))
    rw [cvt_ge r1]
    exact h_put (ty := .boolean) (v := .int x) F.1 F.2.1 F.2.2.2.2.2.2.2 F.2.2.2.1 hH hVS hsz ha hk r1 r2 r3 hlk hp (by rcases hx01 with rfl | rfl <;> rfl) (by rcases hx01 with rfl | rfl <;> rfl) (UpdAt_pI r1 hH.2.2.2.1 hH.2.2.2.2.1.2) r3 (by rw [hf]; show Value.int (gI (pI σ j b x) j b) = _; rw [gI_pI, if_pos ⟨rfl, rfl⟩]) (fun b' hb' => slV_pI _ _ _ (fun q => hb' q.2)) hd (fun H1 locs1 hH1 hS1 => hS n1 n2 H1 locs1 L hH1 hS1 hL hv1 (vt (vt hv2)))
  | 3, hty, hA, hf =>
    obtain ⟨x, st, rfl, hA1⟩ := qJ_some hA
    obtain ⟨j, st, rfl, hA2⟩ := qO_some hA1
    cases hA2
    have h : nn j (K (pc + 3, ls, st, pL σ j b x)) := h
    obtain ⟨hj, h⟩ := nn_to h
    obtain ⟨hB, hS⟩ := hKS _ h
    cases Option.some.inj (of_decide_eq_true hty)
    refine ⟨hB, fun n1 n2 H locs L hH hVS hL hv1 hv2 => ?_⟩
    obtain ⟨r1, r2, r3⟩ := ref_of (σ := σ) (t := a) (vh (vt hv2)) hj (by omega)
    show W p l e R s m args below meth c H locs (sN σ - n0) (sS σ - s0) Qm (F0 m pc L (.long x :: cvt X j :: st.map (cvV X)))
    rw [cvt_ge r1]
    exact h_put F.1 F.2.1 F.2.2.2.2.2.2.2 F.2.2.2.1 hH hVS hsz ha hk r1 r2 r3 hlk hp rfl rfl (UpdAt_pL hH.2.2.2.1 hH.2.2.2.2.1.2) r3 (by rw [hf]; show Value.long (gL (pL σ j b x) j b) = _; rw [gL_pL, if_pos ⟨rfl, rfl⟩]) (fun b' hb' => slV_pL _ _ _ (fun q => hb' q.2)) hd (fun H1 locs1 hH1 hS1 => hS n1 n2 H1 locs1 L hH1 hS1 hL hv1 (vt (vt hv2)))
  | t + 4, hty, hA, hf =>
    obtain ⟨v, st, rfl, hA1⟩ := qO_some hA
    obtain ⟨j, st, rfl, hA2⟩ := qO_some hA1
    cases hA2
    have h : nn j (layC lay j b v ∧ K (pc + 3, ls, st, pR σ j b v)) := h
    obtain ⟨hj, hlc, h⟩ := nn_to h
    obtain ⟨hB, hS⟩ := hKS _ h
    refine ⟨hB, fun n1 n2 H locs L hH hVS hL hv1 hv2 => ?_⟩
    obtain ⟨r1, r2, r3⟩ := ref_of (σ := σ) (t := a) (vh (vt hv2)) hj (by omega)
    have ht22 : t ≠ 22 := by
      have : ∀ ci, ci < 13 → ∀ k, k < nF ci → fty ci k ≤ 25 := by decide +kernel
      have := this a ha b hk
      omega
    have hrv := rOK_of (vh hv2) ht22
    have hcv : cvV X (aO t v) = va_rf (rfO X v) := cvt_rf hrv
    show W p l e R s m args below meth c H locs (sN σ - n0) (sS σ - s0) Qm (F0 m pc L (cvV X (aO t v) :: cvt X j :: st.map (cvV X)))
    rw [cvt_ge r1, hcv]
    have hsty : sty (gT σ j) b = fty a b := by rw [r3]; unfold sty; rw [if_pos ha]
    have hn1 : narrow fy (va_rf (rfO X v)) = va_rf (rfO X v) := by
      match fy, hty with
      | .object _, _ => rfl
      | .array _, _ => rfl
    have hn2 : fits fy (va_rf (rfO X v)) = true := by
      unfold rfO
      match fy, hty with
      | .object _, _ => split <;> rfl
      | .array _, _ => split <;> rfl
    exact h_put F.1 F.2.1 F.2.2.2.2.2.2.2 F.2.2.2.1 hH hVS hsz ha hk r1 r2 r3 hlk hp hn1 hn2 (UpdAt_pR hH.2.2.2.1 hH.2.2.2.2.1.2 hlc (fun t' h' => by
      rw [hsty, hf] at h'
      have : t = t' := by omega
      rw [← this]; exact hrv)) r3 (by rw [hf]; show va_rf (rfO X (gR (pR σ j b v) j b)) = _; rw [gR_pR, if_pos ⟨rfl, rfl⟩]) (fun b' hb' => slV_pR _ _ _ (fun q => hb' q.2)) hd (fun H1 locs1 hH1 hS1 => hS n1 n2 H1 locs1 L hH1 hS1 hL hv1 (vt (vt hv2)))
theorem si_getstatic (F : FX p s m meth c X mid) (hsz : X.1 ≤ s.heap.size) (hKS : ∀ q, K q → BS p l e R s m args below meth c Qm lay L0 X mid n0 s0 NT ST q) {n : Nat} (hd : decode (byOf mid) pc = .ok (.getstatic n, 3)) (hg : goodI (yOf mid).cls (iniOf mid) pc (.getstatic n, pc + 3, (a, b, k, dd), w, z, tb, ps) = true) (hA : act lay rt (.getstatic n, pc + 3, (a, b, k, dd), w, z, tb, ps) ls st σ = some A) (h : stepP rtOf cl Q K (pc + 3) ls σ A) : BS p l e R s m args below meth c Qm lay L0 X mid n0 s0 NT ST (pc, ls, st, σ) := by
  cases hA
  obtain ⟨hB, hS⟩ := hKS _ h
  refine ⟨hB, fun n1 n2 H locs L hH hVS hL hv1 hv2 => ?_⟩
  have hk2 := hS n1 n2 H locs L hH hVS hL hv1 (vc (Or.inr (Or.inl ⟨rfl, Or.inr rfl⟩)) hv2)
  have hZ : va_Z RX11 "PRIMES" "[I" (.ref X.2.2.1) (fun q => X.1 ≤ q) s s.heap := hH.2.2.2.2.2.2.2.2.kept (fun q _ hq => (hVS.2.1 q (Nat.lt_of_lt_of_le (Nat.not_le.mp hq) hsz) hq).symm)
  match k, hg with
  | 0, hg => exact va_gets F.1 F.2.1 hZ hVS F.2.2.2.1 (F.2.2.2.2.2.2.2.2.get hg rfl args) (fun _ q => q) hd hk2
  | k + 1, hg => exact va_getsN F.1 F.2.1 hZ hVS F.2.2.2.1 (F.2.2.2.2.2.2.2.2.get hg rfl args) (fun _ q => q) hd hk2
end SIM2
end
section
/-! ===== simulation: arrays, new cells, switches ===== -/
section SIM3
variable {p : Program} {l : Launch} {e : Env} {R : Room} {s : State} {m : MethodId} {args : Array Value} {below : List Frame} {meth : Method} {c : Code} {Qm : State → Prop} {lay : Nat → Nat → Nat} {L0 : Nat} {X : Cx} {mid n0 s0 NT ST d rt : Nat} {Q : Option AV → St → Prop} {K : S4 → Prop} {cl : CLT}
variable {pc nx a b k dd : Nat} {w : Int32} {z : Int64} {tb : List (Int32 × Nat)} {ps : List Nat} {ls st : List AV} {σ : St} {A : Act}
theorem si_iaload (F : FX p s m meth c X mid) (hsz : X.1 ≤ s.heap.size) (hz0 : LZ lay L0) (hRc : NT - n0 ≤ R.cells ∧ ST - s0 ≤ R.slots) (hKS : ∀ q, K q → BS p l e R s m args below meth c Qm lay L0 X mid n0 s0 NT ST q)  (hd : decode (byOf mid) pc = .ok (.iaload, 1)) (hA : act lay rt (.iaload, pc + 1, (a, b, k, dd), w, z, tb, ps) ls st σ = some A) (h : stepP rtOf cl Q K (pc + 1) ls σ A) : BS p l e R s m args below meth c Qm lay L0 X mid n0 s0 NT ST (pc, ls, st, σ) := by
  obtain ⟨i, st, rfl, hA1⟩ := qI_some hA
  obtain ⟨t, j, st, rfl, hA2⟩ := qR_some hA1
  match t, hA2 with
  | 16, hA2 =>
    cases hA2
    have h : nn j (inb i (gN σ j) ∧ K (pc + 1, ls, aI (gI σ j (ix i)) :: st, σ)) := h
    obtain ⟨hj, hi, h⟩ := nn_to h
    obtain ⟨hB, hS⟩ := hKS _ h
    refine ⟨hB, fun n1 n2 H locs L hH hVS hL hv1 hv2 => ?_⟩
    obtain ⟨r1, r2, r3⟩ := ref_of (σ := σ) (t := 16) (vh (vt hv2)) hj (by decide)
    have hk2 := hS n1 n2 H locs L hH hVS hL hv1 (vc trivial (vt (vt hv2)))
    show W p l e R s m args below meth c H locs (sN σ - n0) (sS σ - s0) Qm (F0 m (pc) L (.int i :: cvt X j :: st.map (cvV X)))
    rw [cvt_ge r1]
    exact h_iald F.1 F.2.1 F.2.2.2.2.2.2.2 hH r1 r2 r3 hi hd hk2
  | 22, hA2 =>
    cases hA2
    have h : nn j (inb i (gN σ j) ∧ K (pc + 1, ls, aI (gI σ j (ix i)) :: st, σ)) := h
    obtain ⟨hj, hi, h⟩ := nn_to h
    obtain ⟨hB, hS⟩ := hKS _ h
    refine ⟨hB, fun n1 n2 H locs L hH hVS hL hv1 hv2 => ?_⟩
    rcases (vh (vt hv2) : vOK σ (aO 22 j)) with q | ⟨-, q | q⟩ | ⟨q, -⟩
    · exact absurd q hj
    · subst q
      exact h_xald F.1 F.2.1 hH.2.2.2.2.2.2.1 hi hd (hS n1 n2 H locs L hH hVS hL hv1 (vc trivial (vt (vt hv2))))
    · subst q
      exact h_tald F.1 F.2.1 hH.2.2.2.2.2.2.2.1 hi hd (hS n1 n2 H locs L hH hVS hL hv1 (vc trivial (vt (vt hv2))))
    · exact absurd rfl q
theorem si_baload (F : FX p s m meth c X mid) (hsz : X.1 ≤ s.heap.size) (hz0 : LZ lay L0) (hRc : NT - n0 ≤ R.cells ∧ ST - s0 ≤ R.slots) (hKS : ∀ q, K q → BS p l e R s m args below meth c Qm lay L0 X mid n0 s0 NT ST q)  (hd : decode (byOf mid) pc = .ok (.baload, 1)) (hA : act lay rt (.baload, pc + 1, (a, b, k, dd), w, z, tb, ps) ls st σ = some A) (h : stepP rtOf cl Q K (pc + 1) ls σ A) : BS p l e R s m args below meth c Qm lay L0 X mid n0 s0 NT ST (pc, ls, st, σ) := by
  obtain ⟨i, st, rfl, hA1⟩ := qI_some hA
  obtain ⟨t, j, st, rfl, hA2⟩ := qR_some hA1
  match t, hA2 with
  | 17, hA2 =>
    cases hA2
    have h : nn j (inb i (gN σ j) ∧ K (pc + 1, ls, aI (gI σ j (ix i)) :: st, σ)) := h
    obtain ⟨hj, hi, h⟩ := nn_to h
    obtain ⟨hB, hS⟩ := hKS _ h
    refine ⟨hB, fun n1 n2 H locs L hH hVS hL hv1 hv2 => ?_⟩
    obtain ⟨r1, r2, r3⟩ := ref_of (σ := σ) (t := 17) (vh (vt hv2)) hj (by decide)
    have hk2 := hS n1 n2 H locs L hH hVS hL hv1 (vc trivial (vt (vt hv2)))
    show W p l e R s m args below meth c H locs (sN σ - n0) (sS σ - s0) Qm (F0 m (pc) L (.int i :: cvt X j :: st.map (cvV X)))
    rw [cvt_ge r1]
    exact h_zald F.1 F.2.1 F.2.2.2.2.2.2.2 hH r1 r2 r3 hi hd hk2
  | 18, hA2 =>
    cases hA2
    have h : nn j (inb i (gN σ j) ∧ K (pc + 1, ls, aI (gI σ j (ix i)) :: st, σ)) := h
    obtain ⟨hj, hi, h⟩ := nn_to h
    obtain ⟨hB, hS⟩ := hKS _ h
    refine ⟨hB, fun n1 n2 H locs L hH hVS hL hv1 hv2 => ?_⟩
    obtain ⟨r1, r2, r3⟩ := ref_of (σ := σ) (t := 18) (vh (vt hv2)) hj (by decide)
    have hk2 := hS n1 n2 H locs L hH hVS hL hv1 (vc trivial (vt (vt hv2)))
    show W p l e R s m args below meth c H locs (sN σ - n0) (sS σ - s0) Qm (F0 m (pc) L (.int i :: cvt X j :: st.map (cvV X)))
    rw [cvt_ge r1]
    exact h_bald F.1 F.2.1 F.2.2.2.2.2.2.2 hH r1 r2 r3 hi hd hk2
theorem si_aaload (F : FX p s m meth c X mid) (hsz : X.1 ≤ s.heap.size) (hz0 : LZ lay L0) (hRc : NT - n0 ≤ R.cells ∧ ST - s0 ≤ R.slots) (hKS : ∀ q, K q → BS p l e R s m args below meth c Qm lay L0 X mid n0 s0 NT ST q)  (hd : decode (byOf mid) pc = .ok (.aaload, 1)) (hA : act lay rt (.aaload, pc + 1, (a, b, k, dd), w, z, tb, ps) ls st σ = some A) (h : stepP rtOf cl Q K (pc + 1) ls σ A) : BS p l e R s m args below meth c Qm lay L0 X mid n0 s0 NT ST (pc, ls, st, σ) := by
  obtain ⟨i, st, rfl, hA1⟩ := qI_some hA
  obtain ⟨t, j, st, rfl, hA2⟩ := qR_some hA1
  match t, hA2 with
  | 20, hA2 =>
    cases hA2
    have h : nn j (inb i (gN σ j) ∧ K (pc + 1, ls, aO 5 (gR σ j (ix i)) :: st, σ)) := h
    obtain ⟨hj, hi, h⟩ := nn_to h
    obtain ⟨hB, hS⟩ := hKS _ h
    refine ⟨hB, fun n1 n2 H locs L hH hVS hL hv1 hv2 => ?_⟩
    obtain ⟨r1, r2, r3⟩ := ref_of (σ := σ) (t := 20) (vh (vt hv2)) hj (by decide)
    have hok := hH.2.2.2.1.2 j (ix i) 5 r1 r2 (by rw [r3]; rfl)
    have hk2 := hS n1 n2 H locs L hH hVS hL hv1 (vc (aO_ok hH.2.2.2.1 hok) (vt (vt hv2)))
    have hk2 : W p l e R s m args below meth c H locs (sN σ - n0) (sS σ - s0) Qm (F0 m (pc + 1) L (cvt X (gR σ j (ix i)) :: st.map (cvV X))) := hk2
    rw [cvt_rf hok] at hk2
    show W p l e R s m args below meth c H locs (sN σ - n0) (sS σ - s0) Qm (F0 m (pc) L (.int i :: cvt X j :: st.map (cvV X)))
    rw [cvt_ge r1]
    exact h_aald F.1 F.2.1 F.2.2.2.2.2.2.2 hH r1 r2 r3 (by decide) hi hd hk2
  | 21, hA2 =>
    cases hA2
    have h : nn j (inb i (gN σ j) ∧ K (pc + 1, ls, aO 0 (gR σ j (ix i)) :: st, σ)) := h
    obtain ⟨hj, hi, h⟩ := nn_to h
    obtain ⟨hB, hS⟩ := hKS _ h
    refine ⟨hB, fun n1 n2 H locs L hH hVS hL hv1 hv2 => ?_⟩
    obtain ⟨r1, r2, r3⟩ := ref_of (σ := σ) (t := 21) (vh (vt hv2)) hj (by decide)
    have hok := hH.2.2.2.1.2 j (ix i) 0 r1 r2 (by rw [r3]; rfl)
    have hk2 := hS n1 n2 H locs L hH hVS hL hv1 (vc (aO_ok hH.2.2.2.1 hok) (vt (vt hv2)))
    have hk2 : W p l e R s m args below meth c H locs (sN σ - n0) (sS σ - s0) Qm (F0 m (pc + 1) L (cvt X (gR σ j (ix i)) :: st.map (cvV X))) := hk2
    rw [cvt_rf hok] at hk2
    show W p l e R s m args below meth c H locs (sN σ - n0) (sS σ - s0) Qm (F0 m (pc) L (.int i :: cvt X j :: st.map (cvV X)))
    rw [cvt_ge r1]
    exact h_aald F.1 F.2.1 F.2.2.2.2.2.2.2 hH r1 r2 r3 (by decide) hi hd hk2
theorem si_laload (F : FX p s m meth c X mid) (hsz : X.1 ≤ s.heap.size) (hz0 : LZ lay L0) (hRc : NT - n0 ≤ R.cells ∧ ST - s0 ≤ R.slots) (hKS : ∀ q, K q → BS p l e R s m args below meth c Qm lay L0 X mid n0 s0 NT ST q)  (hd : decode (byOf mid) pc = .ok (.laload, 1)) (hA : act lay rt (.laload, pc + 1, (a, b, k, dd), w, z, tb, ps) ls st σ = some A) (h : stepP rtOf cl Q K (pc + 1) ls σ A) : BS p l e R s m args below meth c Qm lay L0 X mid n0 s0 NT ST (pc, ls, st, σ) := by
  obtain ⟨i, st, rfl, hA1⟩ := qI_some hA
  obtain ⟨j, st, rfl, hA2⟩ := qO_some hA1
  cases hA2
  have h : nn j (inb i (gN σ j) ∧ K (pc + 1, ls, aJ (gL σ j (ix i)) :: st, σ)) := h
  obtain ⟨hj, hi, h⟩ := nn_to h
  obtain ⟨hB, hS⟩ := hKS _ h
  refine ⟨hB, fun n1 n2 H locs L hH hVS hL hv1 hv2 => ?_⟩
  obtain ⟨r1, r2, r3⟩ := ref_of (σ := σ) (t := 19) (vh (vt hv2)) hj (by decide)
  have hk2 := hS n1 n2 H locs L hH hVS hL hv1 (vc trivial (vt (vt hv2)))
  show W p l e R s m args below meth c H locs (sN σ - n0) (sS σ - s0) Qm (F0 m (pc) L (.int i :: cvt X j :: st.map (cvV X)))
  rw [cvt_ge r1]
  exact h_lald F.1 F.2.1 F.2.2.2.2.2.2.2 hH r1 r2 r3 hi hd hk2
theorem si_iastore (F : FX p s m meth c X mid) (hsz : X.1 ≤ s.heap.size) (hz0 : LZ lay L0) (hRc : NT - n0 ≤ R.cells ∧ ST - s0 ≤ R.slots) (hKS : ∀ q, K q → BS p l e R s m args below meth c Qm lay L0 X mid n0 s0 NT ST q)  (hd : decode (byOf mid) pc = .ok (.iastore, 1)) (hA : act lay rt (.iastore, pc + 1, (a, b, k, dd), w, z, tb, ps) ls st σ = some A) (h : stepP rtOf cl Q K (pc + 1) ls σ A) : BS p l e R s m args below meth c Qm lay L0 X mid n0 s0 NT ST (pc, ls, st, σ) := by
  obtain ⟨x, st, rfl, hA1⟩ := qI_some hA
  obtain ⟨i, st, rfl, hA2⟩ := qI_some hA1
  obtain ⟨j, st, rfl, hA3⟩ := qO_some hA2
  cases hA3
  have h : nn j (inb i (gN σ j) ∧ K (pc + 1, ls, st, pI σ j (ix i) x)) := h
  obtain ⟨hj, hi, h⟩ := nn_to h
  obtain ⟨hB, hS⟩ := hKS _ h
  refine ⟨hB, fun n1 n2 H locs L hH hVS hL hv1 hv2 => ?_⟩
  obtain ⟨r1, r2, r3⟩ := ref_of (σ := σ) (t := 16) (vh (vt (vt hv2))) hj (by decide)
  show W p l e R s m args below meth c H locs (sN σ - n0) (sS σ - s0) Qm (F0 m (pc) L (.int x :: .int i :: cvt X j :: st.map (cvV X)))
  rw [cvt_ge r1]
  exact h_iast F.1 F.2.1 F.2.2.2.2.2.2.2 hH hVS hsz r1 r2 r3 hi hd (fun H1 locs1 hH1 hS1 => hS n1 n2 H1 locs1 L hH1 hS1 hL hv1 (vt (vt (vt hv2))))
theorem si_lastore (F : FX p s m meth c X mid) (hsz : X.1 ≤ s.heap.size) (hz0 : LZ lay L0) (hRc : NT - n0 ≤ R.cells ∧ ST - s0 ≤ R.slots) (hKS : ∀ q, K q → BS p l e R s m args below meth c Qm lay L0 X mid n0 s0 NT ST q)  (hd : decode (byOf mid) pc = .ok (.lastore, 1)) (hA : act lay rt (.lastore, pc + 1, (a, b, k, dd), w, z, tb, ps) ls st σ = some A) (h : stepP rtOf cl Q K (pc + 1) ls σ A) : BS p l e R s m args below meth c Qm lay L0 X mid n0 s0 NT ST (pc, ls, st, σ) := by
  obtain ⟨x, st, rfl, hA1⟩ := qJ_some hA
  obtain ⟨i, st, rfl, hA2⟩ := qI_some hA1
  obtain ⟨j, st, rfl, hA3⟩ := qO_some hA2
  cases hA3
  have h : nn j (inb i (gN σ j) ∧ K (pc + 1, ls, st, pL σ j (ix i) x)) := h
  obtain ⟨hj, hi, h⟩ := nn_to h
  obtain ⟨hB, hS⟩ := hKS _ h
  refine ⟨hB, fun n1 n2 H locs L hH hVS hL hv1 hv2 => ?_⟩
  obtain ⟨r1, r2, r3⟩ := ref_of (σ := σ) (t := 19) (vh (vt (vt hv2))) hj (by decide)
  show W p l e R s m args below meth c H locs (sN σ - n0) (sS σ - s0) Qm (F0 m (pc) L (.long x :: .int i :: cvt X j :: st.map (cvV X)))
  rw [cvt_ge r1]
  exact h_last F.1 F.2.1 F.2.2.2.2.2.2.2 hH hVS hsz r1 r2 r3 hi hd (fun H1 locs1 hH1 hS1 => hS n1 n2 H1 locs1 L hH1 hS1 hL hv1 (vt (vt (vt hv2))))
theorem si_bastore (F : FX p s m meth c X mid) (hsz : X.1 ≤ s.heap.size) (hz0 : LZ lay L0) (hRc : NT - n0 ≤ R.cells ∧ ST - s0 ≤ R.slots) (hKS : ∀ q, K q → BS p l e R s m args below meth c Qm lay L0 X mid n0 s0 NT ST q)  (hd : decode (byOf mid) pc = .ok (.bastore, 1)) (hA : act lay rt (.bastore, pc + 1, (a, b, k, dd), w, z, tb, ps) ls st σ = some A) (h : stepP rtOf cl Q K (pc + 1) ls σ A) : BS p l e R s m args below meth c Qm lay L0 X mid n0 s0 NT ST (pc, ls, st, σ) := by
  obtain ⟨x, st, rfl, hA1⟩ := qI_some hA
  obtain ⟨i, st, rfl, hA2⟩ := qI_some hA1
  obtain ⟨t, j, st, rfl, hA3⟩ := qR_some hA2
  match t, hA3 with
  | 17, hA3 =>
    cases hA3
    have h : nn j (inb i (gN σ j) ∧ K (pc + 1, ls, st, pI σ j (ix i) (vp_nar .boolean x))) := h
    obtain ⟨hj, hi, h⟩ := nn_to h
    obtain ⟨hB, hS⟩ := hKS _ h
    refine ⟨hB, fun n1 n2 H locs L hH hVS hL hv1 hv2 => ?_⟩
    obtain ⟨r1, r2, r3⟩ := ref_of (σ := σ) (t := 17) (vh (vt (vt hv2))) hj (by decide)
    show W p l e R s m args below meth c H locs (sN σ - n0) (sS σ - s0) Qm (F0 m (pc) L (.int x :: .int i :: cvt X j :: st.map (cvV X)))
    rw [cvt_ge r1]
    exact h_zast F.1 F.2.1 F.2.2.2.2.2.2.2 hH hVS hsz r1 r2 r3 hi hd (fun H1 locs1 hH1 hS1 => hS n1 n2 H1 locs1 L hH1 hS1 hL hv1 (vt (vt (vt hv2))))
  | 18, hA3 =>
    cases hA3
    have h : nn j (inb i (gN σ j) ∧ K (pc + 1, ls, st, pI σ j (ix i) (vp_nar .byte x))) := h
    obtain ⟨hj, hi, h⟩ := nn_to h
    obtain ⟨hB, hS⟩ := hKS _ h
    refine ⟨hB, fun n1 n2 H locs L hH hVS hL hv1 hv2 => ?_⟩
    obtain ⟨r1, r2, r3⟩ := ref_of (σ := σ) (t := 18) (vh (vt (vt hv2))) hj (by decide)
    show W p l e R s m args below meth c H locs (sN σ - n0) (sS σ - s0) Qm (F0 m (pc) L (.int x :: .int i :: cvt X j :: st.map (cvV X)))
    rw [cvt_ge r1]
    exact h_bast F.1 F.2.1 F.2.2.2.2.2.2.2 hH hVS hsz r1 r2 r3 hi hd (fun H1 locs1 hH1 hS1 => hS n1 n2 H1 locs1 L hH1 hS1 hL hv1 (vt (vt (vt hv2))))
theorem si_aastore (F : FX p s m meth c X mid) (hsz : X.1 ≤ s.heap.size) (hz0 : LZ lay L0) (hRc : NT - n0 ≤ R.cells ∧ ST - s0 ≤ R.slots) (hKS : ∀ q, K q → BS p l e R s m args below meth c Qm lay L0 X mid n0 s0 NT ST q)  (hd : decode (byOf mid) pc = .ok (.aastore, 1)) (hA : act lay rt (.aastore, pc + 1, (a, b, k, dd), w, z, tb, ps) ls st σ = some A) (h : stepP rtOf cl Q K (pc + 1) ls σ A) : BS p l e R s m args below meth c Qm lay L0 X mid n0 s0 NT ST (pc, ls, st, σ) := by
  obtain ⟨tv, v, st, rfl, hA1⟩ := qR_some hA
  obtain ⟨i, st, rfl, hA2⟩ := qI_some hA1
  obtain ⟨t, j, st, rfl, hA3⟩ := qR_some hA2
  obtain ⟨hb, hA4⟩ := bif_some hA3
  obtain ⟨b12, b3⟩ := Bool.and_eq_true_iff.mp hb
  obtain ⟨b1, b2⟩ := Bool.and_eq_true_iff.mp b12
  have ht1 : 20 ≤ t := Nat.le_of_ble_eq_true b1
  have ht2 : t ≤ 21 := Nat.le_of_ble_eq_true b2
  have hel : elT t = tv := Nat.eq_of_beq_eq_true b3
  have ht : t = 20 ∨ t = 21 := by omega
  have htv : tv ≠ 22 := by
    rw [← hel]
    rcases ht with rfl | rfl <;> decide
  cases hA4
  have h : nn j ((inb i (gN σ j) ∧ layC lay j (ix i) v) ∧ K (pc + 1, ls, st, pR σ j (ix i) v)) := h
  obtain ⟨hj, ⟨hi, hlc⟩, h⟩ := nn_to h
  obtain ⟨hB, hS⟩ := hKS _ h
  refine ⟨hB, fun n1 n2 H locs L hH hVS hL hv1 hv2 => ?_⟩
  have hrv : rOK σ tv v := rOK_of (vh hv2) htv
  obtain ⟨r1, r2, r3⟩ := ref_of (σ := σ) (t := t) (vh (vt (vt hv2))) hj (by omega)
  show W p l e R s m args below meth c H locs (sN σ - n0) (sS σ - s0) Qm (F0 m (pc) L (cvt X v :: .int i :: cvt X j :: st.map (cvV X)))
  rw [cvt_ge r1, cvt_rf hrv]
  exact h_aast F.1 F.2.1 F.2.2.2.2.2.2.2 hH hVS hsz r1 r2 r3 ht (by rw [hel]; exact hrv) hlc hi hd (fun H1 locs1 hH1 hS1 => hS n1 n2 H1 locs1 L hH1 hS1 hL hv1 (vt (vt (vt hv2))))
theorem si_arraylength (F : FX p s m meth c X mid) (hsz : X.1 ≤ s.heap.size) (hz0 : LZ lay L0) (hRc : NT - n0 ≤ R.cells ∧ ST - s0 ≤ R.slots) (hKS : ∀ q, K q → BS p l e R s m args below meth c Qm lay L0 X mid n0 s0 NT ST q)  (hd : decode (byOf mid) pc = .ok (.arraylength, 1)) (hA : act lay rt (.arraylength, pc + 1, (a, b, k, dd), w, z, tb, ps) ls st σ = some A) (h : stepP rtOf cl Q K (pc + 1) ls σ A) : BS p l e R s m args below meth c Qm lay L0 X mid n0 s0 NT ST (pc, ls, st, σ) := by
  obtain ⟨t, j, st, rfl, hA1⟩ := qR_some hA
  obtain ⟨hb, hA2⟩ := bif_some hA1
  have ht1 : 16 ≤ t := Nat.le_of_ble_eq_true hb
  cases hA2
  have h : nn j (K (pc + 1, ls, aI (Int32.ofNat (gN σ j)) :: st, σ)) := h
  obtain ⟨hj, h⟩ := nn_to h
  obtain ⟨hB, hS⟩ := hKS _ h
  refine ⟨hB, fun n1 n2 H locs L hH hVS hL hv1 hv2 => ?_⟩
  have hk2 := hS n1 n2 H locs L hH hVS hL hv1 (vc trivial (vt hv2))
  show W p l e R s m args below meth c H locs (sN σ - n0) (sS σ - s0) Qm (F0 m (pc) L (cvt X j :: st.map (cvV X)))
  rcases (vh hv2 : vOK σ (aO t j)) with q | ⟨-, q | q⟩ | ⟨q, r1, r2, r3⟩
  · exact absurd q hj
  · subst q
    exact h_xlen F.1 F.2.1 hH.2.2.2.2.2.2.1 hd hk2
  · subst q
    exact h_tlen F.1 F.2.1 hH.2.2.2.2.2.2.2.1 hd hk2
  · have ht2 : gT σ j < 13 ∨ (16 ≤ gT σ j ∧ gT σ j ≤ 21) := hH.2.2.2.1.1 j r1 r2
    have r3 : gT σ j = t := r3
    rw [cvt_ge r1]
    exact h_alen F.1 F.2.1 F.2.2.2.2.2.2.2 hH r1 r2 r3 (by omega) hd hk2
theorem si_new (F : FX p s m meth c X mid) (hsz : X.1 ≤ s.heap.size) (hz0 : LZ lay L0) (hRc : NT - n0 ≤ R.cells ∧ ST - s0 ≤ R.slots) (hKS : ∀ q, K q → BS p l e R s m args below meth c Qm lay L0 X mid n0 s0 NT ST q) {n : Nat} (hd : decode (byOf mid) pc = .ok (.new n, 3)) (hg : goodI (yOf mid).cls (iniOf mid) pc (.new n, pc + 3, (a, b, k, dd), w, z, tb, ps) = true) (hA : act lay rt (.new n, pc + 3, (a, b, k, dd), w, z, tb, ps) ls st σ = some A) (h : stepP rtOf cl Q K (pc + 3) ls σ A) : BS p l e R s m args below meth c Qm lay L0 X mid n0 s0 NT ST (pc, ls, st, σ) := by
  cases hA
  have h : K (pc + 3, ls, aO a (sN σ) :: st, nw σ a (nF a)) := h
  obtain ⟨hB, hS⟩ := hKS _ h
  obtain ⟨g123, w2⟩ := Bool.and_eq_true_iff.mp hg
  obtain ⟨g12, w1⟩ := Bool.and_eq_true_iff.mp g123
  obtain ⟨g1, w0⟩ := Bool.and_eq_true_iff.mp g12
  have ha : a < 13 := Nat.le_of_ble_eq_true g1
  refine ⟨⟨Nat.le_trans (Nat.le_succ _) hB.1, Nat.le_trans (Nat.le_add_right _ _) hB.2⟩, fun n1 n2 H locs L hH hVS hL hv1 hv2 => ?_⟩
  have hc1 : sN σ - n0 + 1 ≤ R.cells := by
    have := hB.1
    have e : sN (nw σ a (nF a)) = sN σ + 1 := rfl
    have hB1 : sN (nw σ a (nF a)) ≤ NT := this
    have n1 : n0 ≤ sN σ := n1
    omega
  have hc2 : sS σ - s0 + nF a ≤ R.slots := by
    have hB2 : sS (nw σ a (nF a)) ≤ ST := hB.2
    have e : sS (nw σ a (nF a)) = sS σ + nF a := rfl
    have n2 : s0 ≤ sS σ := n2
    omega
  refine h_new F.1 F.2.1 F.2.2.2.2.2.2.2 F.2.2.2.1 hH hz0 hVS hsz ha w0 w1 w2 hc1 hc2 hd ?_
  intro H1 hH1 hS1
  have hx : Ext σ (nw σ a (nF a)) := Ext_nw _ _ _
  have n1a : n0 ≤ sN σ := n1
  have n2a : s0 ≤ sS σ := n2
  have hk2 := hS (Nat.le_trans n1a (Nat.le_succ _)) (Nat.le_trans n2a (Nat.le_add_right _ _)) H1 locs L hH1 hS1 hL (fun v hv => (hv1 v hv).ext hx) (vc (Or.inr (Or.inr ⟨by omega, hH.2.2.1, Nat.lt_succ_self _, by rw [gT_nw, if_pos rfl]⟩)) (fun v hv => (hv2 v hv).ext hx))
  have e1 : sN (nw σ a (nF a)) - n0 = sN σ - n0 + 1 := by rw [sN_nw]; omega
  have e2 : sS (nw σ a (nF a)) - s0 = sS σ - s0 + nF a := by rw [sS_nw]; omega
  have hk2 : W p l e R s m args below meth c H1 locs (sN (nw σ a (nF a)) - n0) (sS (nw σ a (nF a)) - s0) Qm (F0 m (pc + 3) L (cvt X (sN σ) :: st.map (cvV X))) := hk2
  rw [cvt_ge hH.2.2.1, e1, e2] at hk2
  exact hk2
theorem si_newarray (F : FX p s m meth c X mid) (hsz : X.1 ≤ s.heap.size) (hz0 : LZ lay L0) (hRc : NT - n0 ≤ R.cells ∧ ST - s0 ≤ R.slots) (hKS : ∀ q, K q → BS p l e R s m args below meth c Qm lay L0 X mid n0 s0 NT ST q) {n : ArrayType} (hd : decode (byOf mid) pc = .ok (.newarray n, 2)) (hg : goodI (yOf mid).cls (iniOf mid) pc (.newarray n, pc + 2, (a, b, k, dd), w, z, tb, ps) = true) (hA : act lay rt (.newarray n, pc + 2, (a, b, k, dd), w, z, tb, ps) ls st σ = some A) (h : stepP rtOf cl Q K (pc + 2) ls σ A) : BS p l e R s m args below meth c Qm lay L0 X mid n0 s0 NT ST (pc, ls, st, σ) := by
  obtain ⟨nn, st, rfl, hA1⟩ := qI_some hA
  cases hA1
  have h : (0 ≤ nn.toInt ∧ nn.toInt ≤ 40000) ∧ K (pc + 2, ls, aO a (sN σ) :: st, nw σ a (ix nn)) := h
  obtain ⟨hn, h⟩ := h
  obtain ⟨hB, hS⟩ := hKS _ h
  obtain ⟨g12, w0⟩ := Bool.and_eq_true_iff.mp hg
  obtain ⟨g1, g2⟩ := Bool.and_eq_true_iff.mp g12
  obtain ⟨g3, g4⟩ := Bool.and_eq_true_iff.mp g2
  have ha : 16 ≤ a ∧ a ≤ 19 := ⟨Nat.le_of_ble_eq_true g3, Nat.le_of_ble_eq_true g4⟩
  refine ⟨⟨Nat.le_trans (Nat.le_succ _) hB.1, Nat.le_trans (Nat.le_add_right _ _) hB.2⟩, fun n1 n2 H locs L hH hVS hL hv1 hv2 => ?_⟩
  have hc1 : sN σ - n0 + 1 ≤ R.cells := by
    have := hB.1
    have e : sN (nw σ a (ix nn)) = sN σ + 1 := rfl
    have hB1 : sN (nw σ a (ix nn)) ≤ NT := this
    have n1 : n0 ≤ sN σ := n1
    omega
  have hc2 : sS σ - s0 + ix nn ≤ R.slots := by
    have hB2 : sS (nw σ a (ix nn)) ≤ ST := hB.2
    have e : sS (nw σ a (ix nn)) = sS σ + ix nn := rfl
    have n2 : s0 ≤ sS σ := n2
    omega
  refine h_newa F.1 F.2.1 F.2.2.2.2.2.2.2 hH hz0 hVS hsz (of_decide_eq_true g1) ha w0 hn hc1 hc2 hd ?_
  intro H1 hH1 hS1
  have hx : Ext σ (nw σ a (ix nn)) := Ext_nw _ _ _
  have n1a : n0 ≤ sN σ := n1
  have n2a : s0 ≤ sS σ := n2
  have hk2 := hS (Nat.le_trans n1a (Nat.le_succ _)) (Nat.le_trans n2a (Nat.le_add_right _ _)) H1 locs L hH1 hS1 hL (fun v hv => (hv1 v hv).ext hx) (vc (Or.inr (Or.inr ⟨by omega, hH.2.2.1, Nat.lt_succ_self _, by rw [gT_nw, if_pos rfl]⟩)) (fun v hv => ((vt hv2) v hv).ext hx))
  have e1 : sN (nw σ a (ix nn)) - n0 = sN σ - n0 + 1 := by rw [sN_nw]; omega
  have e2 : sS (nw σ a (ix nn)) - s0 = sS σ - s0 + ix nn := by rw [sS_nw]; omega
  have hk2 : W p l e R s m args below meth c H1 locs (sN (nw σ a (ix nn)) - n0) (sS (nw σ a (ix nn)) - s0) Qm (F0 m (pc + 2) L (cvt X (sN σ) :: st.map (cvV X))) := hk2
  rw [cvt_ge hH.2.2.1, e1, e2] at hk2
  exact hk2
theorem si_anewarray (F : FX p s m meth c X mid) (hsz : X.1 ≤ s.heap.size) (hz0 : LZ lay L0) (hRc : NT - n0 ≤ R.cells ∧ ST - s0 ≤ R.slots) (hKS : ∀ q, K q → BS p l e R s m args below meth c Qm lay L0 X mid n0 s0 NT ST q) {n : Nat} (hd : decode (byOf mid) pc = .ok (.anewarray n, 3)) (hg : goodI (yOf mid).cls (iniOf mid) pc (.anewarray n, pc + 3, (a, b, k, dd), w, z, tb, ps) = true) (hA : act lay rt (.anewarray n, pc + 3, (a, b, k, dd), w, z, tb, ps) ls st σ = some A) (h : stepP rtOf cl Q K (pc + 3) ls σ A) : BS p l e R s m args below meth c Qm lay L0 X mid n0 s0 NT ST (pc, ls, st, σ) := by
  obtain ⟨nn, st, rfl, hA1⟩ := qI_some hA
  cases hA1
  have h : (0 ≤ nn.toInt ∧ nn.toInt ≤ 40000) ∧ K (pc + 3, ls, aO a (sN σ) :: st, nw σ a (ix nn)) := h
  obtain ⟨hn, h⟩ := h
  obtain ⟨hB, hS⟩ := hKS _ h
  obtain ⟨C, hC, w0, w1⟩ : ∃ C, (a = 20 ∧ C = RX5 ∨ a = 21 ∧ C = RX0) ∧ gw (nthN ps 0) (.classLink (yOf mid).cls n C) = true ∧ gw (nthN ps 1) (.arrayOver (.object C)) = true := by
    match a, hg with
    | 20, hg => exact ⟨RX5, Or.inl ⟨rfl, rfl⟩, (Bool.and_eq_true_iff.mp hg).1, (Bool.and_eq_true_iff.mp hg).2⟩
    | 21, hg => exact ⟨RX0, Or.inr ⟨rfl, rfl⟩, (Bool.and_eq_true_iff.mp hg).1, (Bool.and_eq_true_iff.mp hg).2⟩
  have ha : a = 20 ∨ a = 21 := hC.elim (fun q => Or.inl q.1) (fun q => Or.inr q.1)
  refine ⟨⟨Nat.le_trans (Nat.le_succ _) hB.1, Nat.le_trans (Nat.le_add_right _ _) hB.2⟩, fun n1 n2 H locs L hH hVS hL hv1 hv2 => ?_⟩
  have hc1 : sN σ - n0 + 1 ≤ R.cells := by
    have := hB.1
    have e : sN (nw σ a (ix nn)) = sN σ + 1 := rfl
    have hB1 : sN (nw σ a (ix nn)) ≤ NT := this
    have n1 : n0 ≤ sN σ := n1
    omega
  have hc2 : sS σ - s0 + ix nn ≤ R.slots := by
    have hB2 : sS (nw σ a (ix nn)) ≤ ST := hB.2
    have e : sS (nw σ a (ix nn)) = sS σ + ix nn := rfl
    have n2 : s0 ≤ sS σ := n2
    omega
  refine h_newq F.1 F.2.1 F.2.2.2.2.2.2.2 F.2.2.2.1 hH hz0 hVS hsz hC w0 w1 hn hc1 hc2 hd ?_
  intro H1 hH1 hS1
  have hx : Ext σ (nw σ a (ix nn)) := Ext_nw _ _ _
  have n1a : n0 ≤ sN σ := n1
  have n2a : s0 ≤ sS σ := n2
  have hk2 := hS (Nat.le_trans n1a (Nat.le_succ _)) (Nat.le_trans n2a (Nat.le_add_right _ _)) H1 locs L hH1 hS1 hL (fun v hv => (hv1 v hv).ext hx) (vc (Or.inr (Or.inr ⟨by omega, hH.2.2.1, Nat.lt_succ_self _, by rw [gT_nw, if_pos rfl]⟩)) (fun v hv => ((vt hv2) v hv).ext hx))
  have e1 : sN (nw σ a (ix nn)) - n0 = sN σ - n0 + 1 := by rw [sN_nw]; omega
  have e2 : sS (nw σ a (ix nn)) - s0 = sS σ - s0 + ix nn := by rw [sS_nw]; omega
  have hk2 : W p l e R s m args below meth c H1 locs (sN (nw σ a (ix nn)) - n0) (sS (nw σ a (ix nn)) - s0) Qm (F0 m (pc + 3) L (cvt X (sN σ) :: st.map (cvV X))) := hk2
  rw [cvt_ge hH.2.2.1, e1, e2] at hk2
  exact hk2
end SIM3
end
section
/-! ===== calls ===== -/
def QmC (lay : Nat → Nat → Nat) (L0 : Nat) (X : Cx) (v : Option AV) (τ : St) : Array Value → State → Outcome → State → Prop := fun _ st oc t => (oc = .returned (v.map (cvV X)) ∧ HW lay L0 X τ t t.heap ∧ ∀ w, v = some w → vOK τ w) ∧ va_F (fun q => X.1 ≤ q) st t
def PcC (lay : Nat → Nat → Nat) (L0 : Nat) (X : Cx) (σ : St) (args : List AV) : Array Value → State → Prop := va_Pc (args.map (cvV X)) (fun U => HW lay L0 X σ U U.heap ∧ TW X U)
abbrev rmD (d c s : Nat) : Room := { frames := d, cells := c, slots := s, locals := 39 * d }
abbrev wsM (mid : Nat) : List Cond := [.code (yOf mid) (byOf mid) (mlOf mid) (retOf mid)]
def CS (l : Launch) (lay : Nat → Nat → Nat) (L0 : Nat) (X : Cx) (d : Nat) : Prop := ∀ mid, mid < 172 → ∀ (args : List AV) (σ τ : St) (v : Option AV), Cl lay d mid args σ (eqQ v τ) → (∀ a ∈ args, vOK σ a) →
  Met l (yOf mid) (wsM mid) (rmD d (sN τ - sN σ) (sS τ - sS σ)) (PcC lay L0 X σ args) (QmC lay L0 X v τ) (sN τ - sN σ) (sS τ - sS σ) (fun q => X.1 ≤ q)
theorem PcC.blind {lay : Nat → Nat → Nat} {L0 : Nat} {X : Cx} {σ : St} {args : List AV} : FrameBlind (PcC lay L0 X σ args) := by
  intro a U g mk h
  obtain ⟨h1, h2, h3⟩ := h
  exact ⟨h1, HW.alike (u := U) (U := U.calling g mk a) (Vm.Alike.refl U.vm) h2, TW.warm (s := U) (U := U.calling g mk a) h3 (State.WarmedH.refl U)⟩
section CALLS
variable {p : Program} {l : Launch} {e : Env} {R : Room} {s : State} {m : MethodId} {args : Array Value} {below : List Frame} {meth : Method} {c : Code} {H : Heap} {locs : List Loc} {cells slots : Nat} {Q : State → Prop}
variable {pc : Nat} {L : Array Slot} {rest st0 : List Value} {X : Cx} {lay : Nat → Nat → Nat} {L0 : Nat} {σ τ : St} {mc ms : Nat} {a : Array Value} {v : Option AV}
theorem calG (hr : va_Run p l e R s m args below meth c H locs cells slots mc ms (F0 m pc L st0) rest (QmC lay L0 X v τ a) (fun q => X.1 ≤ q)) (hS : va_S (fun q => X.1 ≤ q) s.heap H locs)
    (kk : ∀ (H1 : Heap) (locs1 : List Loc), HW lay L0 X τ s H1 → (∀ w, v = some w → vOK τ w) → va_S (fun q => X.1 ≤ q) s.heap H1 locs1 → W p l e R s m args below meth c H1 locs1 (cells + mc) (slots + ms) Q (F0 m (pc + 3) L ((v.map (cvV X)).toList ++ rest))) : W p l e R s m args below meth c H locs cells slots Q (F0 m pc L st0) := by
  intro T hT Xs
  obtain ⟨v', st₀, t, T', Lo, h0, X', hL, e1, e2, ⟨⟨hv, hH, hvo⟩, hz, hk⟩, st⟩ := hr T hT Xs
  cases hv
  rw [h0] at hz hk
  have hal : t.vm.Alike s.vm := by rw [← e2]; exact X'.warmed.alike.symm
  obtain ⟨t2, a1, b1⟩ := kk T'.heap (locs ++ Lo) (by rw [e1]; exact hH.alike hal) hvo
    ⟨Nat.le_trans hS.1 (by rw [e1]; exact hz), fun q h1 h2 => by rw [e1, hk q (Nat.lt_of_lt_of_le h1 hS.1) h2]; exact hS.2.1 q h1 h2, fun q hq => by
      rcases List.mem_append.mp hq with h | h
      · exact hS.2.2 q h
      · exact hL q h⟩ T' rfl X'
  exact ⟨t2, st t2 a1, b1⟩
end CALLS
/-- what the tables say of a callee -/
theorem mChk_get {mid : Nat} (h : mid < 172) : ((yOf mid).cls ≠ "java/lang/invoke/MethodHandle" ∧ (yOf mid).cls ≠ "java/lang/invoke/VarHandle") ∧ (parseMethodDescriptor (yOf mid).desc).map (fun d => d.parameters.length) = some (nthN npL mid) ∧ gw (nthN ipL mid) (.initialized (yOf mid).cls) = true ∧ retOK (rtOf mid) (retOf mid) = true ∧ mlOf mid ≤ 20 := by
  have h1 := mChk_ok mid h
  unfold mChk at h1
  obtain ⟨a1, h1⟩ := Bool.and_eq_true_iff.mp h1
  obtain ⟨a2, h1⟩ := Bool.and_eq_true_iff.mp h1
  obtain ⟨a3, h1⟩ := Bool.and_eq_true_iff.mp h1
  obtain ⟨a4, a5⟩ := Bool.and_eq_true_iff.mp h1
  exact ⟨of_decide_eq_true a1, of_decide_eq_true a2, a3, a4, Nat.le_of_ble_eq_true a5⟩
theorem codeW {mid : Nat} (h : mid < 172) : (Cond.code (yOf mid) (byOf mid) (mlOf mid) (retOf mid)) ∈ lw_tbl := List.mem_of_getElem? (mc_all mid h)
theorem callB_of2 {R : Room} {s : State} {args : Array Value} {mid d mc ms : Nat} (hm : mid < 172) (hK : KW s) (hR : d + 1 ≤ R.frames ∧ 39 * (d + 1) ≤ R.locals) :
    (rmD d mc ms).cells = mc ∧ (rmD d mc ms).slots = ms ∧ (rmD d mc ms).frames + 1 ≤ R.frames ∧ 8 + (mlOf mid + 11) + (rmD d mc ms).locals ≤ R.locals ∧ (∀ w ∈ wsM mid, ∀ (a' : Array Value) (U : State), s.WarmedH U.vm → w.before a' U = true) ∧ Cond.code (yOf mid) (byOf mid) (mlOf mid) (retOf mid) ∈ wsM mid := by
  have hml := (mChk_get hm).2.2.2.2
  refine ⟨rfl, rfl, hR.1, ?_, fun w hw a' U hW => ?_, List.mem_cons_self⟩
  · show 8 + (mlOf mid + 11) + 39 * d ≤ R.locals
    have := hR.2
    omega
  · rcases List.mem_singleton.mp hw with rfl
    exact hK.warm hW _ (codeW hm) rfl a'
theorem sig_len {mid n : Nat} (hm : mid < 172) (hn : nthN npL mid = n) : ∀ sig, parseMethodDescriptor (yOf mid).desc = some sig → n = sig.parameters.length := by
  intro sig h
  have h2 := (mChk_get hm).2.1
  rw [h] at h2
  rw [← hn]
  exact (Option.some.inj h2).symm
section SIM4
variable {p : Program} {l : Launch} {e : Env} {R : Room} {s : State} {m : MethodId} {args : Array Value} {below : List Frame} {meth : Method} {c : Code} {Qm : State → Prop} {lay : Nat → Nat → Nat} {L0 : Nat} {X : Cx} {mid n0 s0 NT ST d rt : Nat} {Q : Option AV → St → Prop} {K : S4 → Prop}
variable {pc nx a b k dd : Nat} {w : Int32} {z : Int64} {tb : List (Int32 × Nat)} {ps : List Nat} {ls st : List AV} {σ : St} {A : Act}
/-- behind a call -/
theorem sim_call (F : FX p s m meth c X mid) (hRc : NT - n0 ≤ R.cells ∧ ST - s0 ≤ R.slots) (hCS : CS l lay L0 X d) (hKS : ∀ q, K q → BS p l e R s m args below meth c Qm lay L0 X mid n0 s0 NT ST q) (ha : a < 172) {as r : List AV} (hc : Cl lay d a as σ (ctn (rtOf a) (pc + 3) ls r K))
    (hrun : ∀ (τ : St) (v : Option AV) (H : Heap) (locs : List Loc) (L : Array Slot), Met l (yOf a) (wsM a) (rmD d (sN τ - sN σ) (sS τ - sS σ)) (PcC lay L0 X σ as) (QmC lay L0 X v τ) (sN τ - sN σ) (sS τ - sS σ) (fun q => X.1 ≤ q) → HW lay L0 X σ s H → Lc X (mlOf mid) ls L → (∀ v ∈ st, vOK σ v) → (sN σ - n0) + (sN τ - sN σ) ≤ R.cells ∧ (sS σ - s0) + (sS τ - sS σ) ≤ R.slots →
      va_Run p l e R s m args below meth c H locs (sN σ - n0) (sS σ - s0) (sN τ - sN σ) (sS τ - sS σ) (F0 m pc L (st.map (cvV X))) (r.map (cvV X)) (QmC lay L0 X v τ (as.map (cvV X)).toArray) (fun q => X.1 ≤ q)) (hst : ∃ x, st = x ++ r ∧ ∀ v ∈ as, v ∈ x) : BS p l e R s m args below meth c Qm lay L0 X mid n0 s0 NT ST (pc, ls, st, σ) := by
  obtain ⟨v, τ, hk, hx, hc1⟩ := Cl_det lay d _ _ _ _ hc
  obtain ⟨st', hK, -, rfl⟩ := ctn_det hk
  obtain ⟨hB, hS⟩ := hKS _ hK
  have hB1 : sN τ ≤ NT := hB.1
  have hB2 : sS τ ≤ ST := hB.2
  refine ⟨⟨Nat.le_trans hx.1 hB1, Nat.le_trans hx.2.1 hB2⟩, fun n1 n2 H locs L hH hVS hL hv1 hv2 => ?_⟩
  have n1 : n0 ≤ sN σ := n1
  have n2 : s0 ≤ sS σ := n2
  obtain ⟨x, rfl, hxa⟩ := hst
  have hv2 : ∀ v ∈ x ++ r, vOK σ v := hv2
  have hM := hCS a ha as σ τ v hc1 (fun v hv => hv2 v (List.mem_append_left _ (hxa v hv)))
  have e1 := hx.1
  have e2 := hx.2.1
  refine calG (hrun τ v H locs L hM hH hL hv2 ⟨by have := hRc.1; omega, by have := hRc.2; omega⟩) hVS (fun H1 locs1 hH1 hvo hS1 => ?_)
  have hk2 := hS (Nat.le_trans n1 hx.1) (Nat.le_trans n2 hx.2.1) H1 locs1 L hH1 hS1 hL (fun u hu => (hv1 u hu).ext hx) (fun u hu => by
    rcases List.mem_append.mp hu with q | q
    · exact hvo u (by simpa using q)
    · exact (hv2 u (List.mem_append_right _ q)).ext hx)
  have f1 : sN τ - n0 = sN σ - n0 + (sN τ - sN σ) := by omega
  have f2 : sS τ - s0 = sS σ - s0 + (sS τ - sS σ) := by omega
  have hk2 : W p l e R s m args below meth c H1 locs1 (sN τ - n0) (sS τ - s0) Qm (F0 m (pc + 3) L ((v.toList ++ r).map (cvV X))) := hk2
  rw [f1, f2, List.map_append] at hk2
  cases v with
  | none => exact hk2
  | some w => exact hk2
theorem si_invokestatic (F : FX p s m meth c X mid) (hR : d + 1 ≤ R.frames ∧ 39 * (d + 1) ≤ R.locals) (hRc : NT - n0 ≤ R.cells ∧ ST - s0 ≤ R.slots) (hCS : CS l lay L0 X d) (hKS : ∀ q, K q → BS p l e R s m args below meth c Qm lay L0 X mid n0 s0 NT ST q) (hlaw : a ≠ 172) {n : Nat} (hd : decode (byOf mid) pc = .ok (.invokestatic n, 3)) (hg : goodI (yOf mid).cls (iniOf mid) pc (.invokestatic n, pc + 3, (a, b, k, dd), w, z, tb, ps) = true) (hA : act lay rt (.invokestatic n, pc + 3, (a, b, k, dd), w, z, tb, ps) ls st σ = some A) (h : stepP rtOf (Cl lay d) Q K (pc + 3) ls σ A) : BS p l e R s m args below meth c Qm lay L0 X mid n0 s0 NT ST (pc, ls, st, σ) := by
  obtain ⟨as, r, rfl, hlen, hA1⟩ := pops_some _ _ _ hA
  obtain ⟨hcat, hA2⟩ := bif_some hA1
  cases hA2
  obtain ⟨g123, g4⟩ := Bool.and_eq_true_iff.mp hg
  obtain ⟨g12, g3⟩ := Bool.and_eq_true_iff.mp g123
  obtain ⟨g1, g2⟩ := Bool.and_eq_true_iff.mp g12
  have ha : a < 172 := by have : a + 1 ≤ 173 := Nat.le_of_ble_eq_true g1; omega
  have hnp : nthN npL a = b := Nat.eq_of_beq_eq_true g2
  have hlen : as.length = b := hlen
  have h : Cl lay d a (as.reverse ++ []) σ (ctn (rtOf a) (pc + 3) ls r K) := h
  rw [List.append_nil] at h
  have hKW := F.2.2.2.2.2.2.2.2
  refine sim_call F hRc hCS hKS ha h (fun τ v H locs L hM hH hL hv2 hf => ?_) ⟨as, rfl, fun v hv => List.mem_reverse.mp hv⟩
  obtain ⟨c1, c2, c3, c4, c5, c6⟩ := callB_of2 (args := args) (mc := sN τ - sN σ) (ms := sS τ - sS σ) ha hKW hR
  have hp : PreS s H (PcC lay L0 X σ as.reverse) (as.reverse.map (cvV X)) := ⟨PcC.blind, fun U hU hW => ⟨rfl, by rw [hU]; exact hH.alike hW.alike, F.2.2.2.2.2.2.2.warm hW⟩⟩
  have hstk : (F0 m pc L ((as ++ r).map (cvV X))).stack = (as.reverse.map (cvV X)).reverse ++ r.map (cvV X) := by simp
  have hroom : 2 * (F0 m pc L ((as ++ r).map (cvV X))).monitorRoom + ((r.map (cvV X)).map fun v => v.category).sum ≤ 8 := lv_room (by rw [catS_eq]; exact Nat.le_of_ble_eq_true hcat)
  have hn : (as.reverse.map (cvV X)).length = b := by simp [hlen]
  match k, g4 with
  | 0, g4 => exact va_runS (own := (yOf mid).cls) (nL := mlOf mid) (Ts := []) ⟨F.1, F.2.1, F.2.2.1, F.2.2.2.1, fun w hw => by cases hw⟩ hM ⟨⟨c1, c2, c3, c4, c5, c6, hKW _ (codeW ha) rfl args, hKW.get (mChk_get ha).2.2.1 rfl args, (mChk_get ha).1, sig_len ha hnp, hKW.get g4 rfl args⟩, hKW.get g3 rfl args⟩ hp rfl hn hL.1 hstk hroom hd hf
  | k + 1, g4 => exact va_runSN (own := (yOf mid).cls) (nL := mlOf mid) (Ts := []) (host := "MagnetRing") ⟨F.1, F.2.1, F.2.2.1, F.2.2.2.1, fun w hw => by cases hw⟩ hM ⟨⟨⟨c1, c2, c3, c4, c5, c6⟩, hKW _ (codeW ha) rfl args, hKW.get (mChk_get ha).2.2.1 rfl args, (mChk_get ha).1, sig_len ha hnp, hKW.get g4 rfl args⟩, hKW.get g3 rfl args, trivial⟩ hp rfl hn hL.1 hstk hroom hd hf
theorem si_invokevirtual (F : FX p s m meth c X mid) (hR : d + 1 ≤ R.frames ∧ 39 * (d + 1) ≤ R.locals) (hRc : NT - n0 ≤ R.cells ∧ ST - s0 ≤ R.slots) (hCS : CS l lay L0 X d) (hKS : ∀ q, K q → BS p l e R s m args below meth c Qm lay L0 X mid n0 s0 NT ST q) (hlaw : a ≠ 172) {n : Nat} (hd : decode (byOf mid) pc = .ok (.invokevirtual n, 3)) (hg : goodI (yOf mid).cls (iniOf mid) pc (.invokevirtual n, pc + 3, (a, b, k, dd), w, z, tb, ps) = true) (hA : act lay rt (.invokevirtual n, pc + 3, (a, b, k, dd), w, z, tb, ps) ls st σ = some A) (h : stepP rtOf (Cl lay d) Q K (pc + 3) ls σ A) : BS p l e R s m args below meth c Qm lay L0 X mid n0 s0 NT ST (pc, ls, st, σ) := by
  obtain ⟨as, r, rfl, hlen, hA1⟩ := pops_some _ _ _ hA
  rw [List.append_nil] at hA1
  obtain ⟨t, j, As, hrev, hA2⟩ : ∃ t j As, as.reverse = aO t j :: As ∧ (bif Nat.beq t dd && Nat.ble (catS r) 8 then a5 j a as.reverse r else none) = some A := by
    generalize hr : as.reverse = ar at hA1 ⊢
    match ar, hA1 with
    | .inr (.inr (.inr (t, j))) :: As, hA1 => exact ⟨t, j, As, rfl, hA1⟩
  obtain ⟨hcat, hA3⟩ := bif_some hA2
  cases hA3
  obtain ⟨htd, hcat⟩ := Bool.and_eq_true_iff.mp hcat
  have htd : t = dd := Nat.eq_of_beq_eq_true htd
  obtain ⟨g12345, g7⟩ := Bool.and_eq_true_iff.mp hg
  obtain ⟨g12345, g6⟩ := Bool.and_eq_true_iff.mp g12345
  obtain ⟨g1234, g5⟩ := Bool.and_eq_true_iff.mp g12345
  obtain ⟨g123, g4⟩ := Bool.and_eq_true_iff.mp g1234
  obtain ⟨g12, g3⟩ := Bool.and_eq_true_iff.mp g123
  obtain ⟨g1, g2⟩ := Bool.and_eq_true_iff.mp g12
  have ha : a < 172 := by have : a + 1 ≤ 173 := Nat.le_of_ble_eq_true g1; omega
  have hdd : dd < 13 := Nat.le_of_ble_eq_true g2
  have hnm : nmC dd = (yOf a).cls := of_decide_eq_true g3
  have hnp : nthN npL a + 1 = b := Nat.eq_of_beq_eq_true g4
  have hlen : as.length = b := hlen
  have h : nn j (Cl lay d a as.reverse σ (ctn (rtOf a) (pc + 3) ls r K)) := h
  obtain ⟨hj, h⟩ := nn_to h
  rw [hrev] at h
  have hKW := F.2.2.2.2.2.2.2.2
  have has : as = As.reverse ++ [aO t j] := by
    have := congrArg List.reverse hrev
    simpa using this
  refine sim_call F hRc hCS hKS ha h (fun τ v H locs L hM hH hL hv2 hf => ?_) ⟨as, rfl, fun v hv => List.mem_reverse.mp (by rw [hrev]; exact hv)⟩
  obtain ⟨r1, r2, r3⟩ := ref_of (σ := σ) (t := t) (hv2 (aO t j) (List.mem_append_left _ (by rw [has]; simp))) hj (by omega)
  obtain ⟨c1, c2, c3, c4, c5, c6⟩ := callB_of2 (args := args) (mc := sN τ - sN σ) (ms := sS τ - sS σ) ha hKW hR
  obtain ⟨T, ty, hvw, -⟩ := cls_ok dd hdd
  have he := conc_get (X := X) r1 r2
  rw [entO_obj (r3.trans htd) hdd] at he
  have hrecv := va_recv F.2.2.2.2.2.2.2.1 hH.1 hvw he
  have hmap : (aO t j :: As).map (cvV X) = .ref (X.1 + (j - 3)) :: As.map (cvV X) := by
    show cvt X j :: _ = _
    rw [cvt_ge r1]
  have hp : PreV s H (nmC dd) (X.1 + (j - 3)) (PcC lay L0 X σ (aO t j :: As)) (As.map (cvV X)) := ⟨PcC.blind, hrecv, fun U hU hW => ⟨by rw [hmap], by rw [hU]; exact hH.alike hW.alike, F.2.2.2.2.2.2.2.warm hW⟩⟩
  have hstk : (F0 m pc L ((as ++ r).map (cvV X))).stack = (As.map (cvV X)).reverse ++ .ref (X.1 + (j - 3)) :: r.map (cvV X) := by
    show (as ++ r).map (cvV X) = _
    rw [has]
    simp only [List.map_append, List.map_reverse, List.map_cons, List.map_nil, List.append_assoc, List.cons_append, List.nil_append]
    show _ ++ cvt X j :: _ = _
    rw [cvt_ge r1]
  have hroom : 2 * (F0 m pc L ((as ++ r).map (cvV X))).monitorRoom + ((r.map (cvV X)).map fun v => v.category).sum ≤ 8 := lv_room (by rw [catS_eq]; exact Nat.le_of_ble_eq_true hcat)
  have hn : (As.map (cvV X)).length = nthN npL a := by
    have h1 : as.length = As.length + 1 := by rw [has]; simp
    simp
    omega
  rw [hmap]
  match k, g7 with
  | 0, g7 => exact va_runV (own := (yOf mid).cls) (C := nmC dd) (nL := mlOf mid) (Ts := []) ⟨F.1, F.2.1, F.2.2.1, F.2.2.2.1, fun w hw => by cases hw⟩ hM ⟨⟨c1, c2, c3, c4, c5, c6, hKW _ (codeW ha) rfl args, hKW.get (mChk_get ha).2.2.1 rfl args, (mChk_get ha).1, sig_len ha rfl, hKW.get g7 rfl args⟩, hKW.get g5 rfl args, by rw [hnm]; exact hKW.get g6 rfl args⟩ hp rfl hn hL.1 hstk hroom hd hf
  | k + 1, g7 => exact va_runVN (own := (yOf mid).cls) (C := nmC dd) (nL := mlOf mid) (Ts := []) (host := "MagnetRing") ⟨F.1, F.2.1, F.2.2.1, F.2.2.2.1, fun w hw => by cases hw⟩ hM ⟨⟨⟨c1, c2, c3, c4, c5, c6⟩, hKW _ (codeW ha) rfl args, hKW.get (mChk_get ha).2.2.1 rfl args, (mChk_get ha).1, sig_len ha rfl, hKW.get g7 rfl args⟩, hKW.get g5 rfl args, by rw [hnm]; exact hKW.get g6 rfl args⟩ hp rfl hn hL.1 hstk hroom hd hf
theorem si_invokespecial (F : FX p s m meth c X mid) (hR : d + 1 ≤ R.frames ∧ 39 * (d + 1) ≤ R.locals) (hRc : NT - n0 ≤ R.cells ∧ ST - s0 ≤ R.slots) (hCS : CS l lay L0 X d) (hKS : ∀ q, K q → BS p l e R s m args below meth c Qm lay L0 X mid n0 s0 NT ST q) (hlaw : a ≠ 172) {n : Nat} (hd : decode (byOf mid) pc = .ok (.invokespecial n, 3)) (hg : goodI (yOf mid).cls (iniOf mid) pc (.invokespecial n, pc + 3, (a, b, k, dd), w, z, tb, ps) = true) (hA : act lay rt (.invokespecial n, pc + 3, (a, b, k, dd), w, z, tb, ps) ls st σ = some A) (h : stepP rtOf (Cl lay d) Q K (pc + 3) ls σ A) : BS p l e R s m args below meth c Qm lay L0 X mid n0 s0 NT ST (pc, ls, st, σ) := by
  have hKW := F.2.2.2.2.2.2.2.2
  by_cases hk6 : k = 6
  · subst hk6
    obtain ⟨t, j, r, rfl, hA1⟩ := qR_some hA
    obtain ⟨hcat, hA2⟩ := bif_some hA1
    cases hA2
    have h : nn j (K (pc + 3, ls, r, σ)) := h
    obtain ⟨hj, h⟩ := nn_to h
    obtain ⟨hB, hS⟩ := hKS _ h
    obtain ⟨g12, g3⟩ := Bool.and_eq_true_iff.mp hg
    obtain ⟨g1, g2⟩ := Bool.and_eq_true_iff.mp g12
    refine ⟨hB, fun n1 n2 H locs L hH hVS hL hv1 hv2 => ?_⟩
    have hk2 := hS n1 n2 H locs L hH hVS hL hv1 (vt hv2)
    show W p l e R s m args below meth c H locs (sN σ - n0) (sS σ - s0) Qm (F0 m pc L (cvt X j :: r.map (cvV X)))
    obtain ⟨q, hq⟩ := cvt_ne X hj
    rw [hq]
    have hcs : ((r.map (cvV X)).map fun v => v.category).sum ≤ 8 := by rw [catS_eq]; exact Nat.le_of_ble_eq_true hcat
    exact W.objInit F.1 F.2.1 F.2.2.2.1 (hKW.get g1 rfl args) (hKW.get g2 rfl args) (hKW.get g3 rfl args) rfl (by rw [F.2.2.1]; exact hL.1) rfl hd (by have := hR.1; omega) (by show 2 * 0 + _ + 12 ≤ _; have := hR.2; omega) hk2
  · have hA : (pops b [] st fun args st => (match args with
      | .inr (.inr (.inr (t, j))) :: _ => bif Nat.beq t dd && Nat.ble (catS st) 8 then a5 j a args st else none
      | _ => none)) = some A := by
      unfold act at hA
      dsimp only at hA
      split at hA
      · exact absurd rfl hk6
      · exact hA
    obtain ⟨as, r, rfl, hlen, hA1⟩ := pops_some _ _ _ hA
    rw [List.append_nil] at hA1
    obtain ⟨t, j, As, hrev, hA2⟩ : ∃ t j As, as.reverse = aO t j :: As ∧ (bif Nat.beq t dd && Nat.ble (catS r) 8 then a5 j a as.reverse r else none) = some A := by
      generalize hr : as.reverse = ar at hA1 ⊢
      match ar, hA1 with
      | .inr (.inr (.inr (t, j))) :: As, hA1 => exact ⟨t, j, As, rfl, hA1⟩
    obtain ⟨hcat, hA3⟩ := bif_some hA2
    cases hA3
    obtain ⟨htd, hcat⟩ := Bool.and_eq_true_iff.mp hcat
    obtain ⟨ga, gb, gc, gd, gf, glink⟩ : Nat.ble (a + 1) 173 = true ∧ Nat.beq (nthN npL a + 1) b = true ∧ decide ((yOf a).name = "<init>") = true ∧ gw (nthN ps 1) (.instanceMethod (yOf a)) = true ∧ Nat.beq (rtOf a) 0 = true ∧ (gw (nthN ps 0) (.methodLink (yOf mid).cls n (yOf a)) = true ∨ gw (nthN ps 0) (.methodLinkNest (yOf mid).cls n (yOf a) "MagnetRing") = true) := by
      unfold goodI at hg
      dsimp only at hg
      split at hg
      · exact absurd rfl hk6
      · obtain ⟨g12345, g6⟩ := Bool.and_eq_true_iff.mp hg
        obtain ⟨g1234, g5⟩ := Bool.and_eq_true_iff.mp g12345
        obtain ⟨g123, g4⟩ := Bool.and_eq_true_iff.mp g1234
        obtain ⟨g12, g3⟩ := Bool.and_eq_true_iff.mp g123
        obtain ⟨g1, g2⟩ := Bool.and_eq_true_iff.mp g12
        exact ⟨g1, g2, g3, g4, g6, Or.inl g5⟩
      · obtain ⟨g12345, g6⟩ := Bool.and_eq_true_iff.mp hg
        obtain ⟨g1234, g5⟩ := Bool.and_eq_true_iff.mp g12345
        obtain ⟨g123, g4⟩ := Bool.and_eq_true_iff.mp g1234
        obtain ⟨g12, g3⟩ := Bool.and_eq_true_iff.mp g123
        obtain ⟨g1, g2⟩ := Bool.and_eq_true_iff.mp g12
        exact ⟨g1, g2, g3, g4, g6, Or.inr g5⟩
    have ha : a < 172 := by have : a + 1 ≤ 173 := Nat.le_of_ble_eq_true ga; omega
    have hnp : nthN npL a + 1 = b := Nat.eq_of_beq_eq_true gb
    have hlen : as.length = b := hlen
    have h : nn j (Cl lay d a as.reverse σ (ctn (rtOf a) (pc + 3) ls r K)) := h
    obtain ⟨hj, h⟩ := nn_to h
    rw [hrev] at h
    have has : as = As.reverse ++ [aO t j] := by
      have := congrArg List.reverse hrev
      simpa using this
    have hret : retOf a = none := by
      have h1 := (mChk_get ha).2.2.2.1
      rw [Nat.eq_of_beq_eq_true gf] at h1
      exact of_decide_eq_true h1
    refine sim_call F hRc hCS hKS ha h (fun τ v H locs L hM hH hL hv2 hf => ?_) ⟨as, rfl, fun v hv => List.mem_reverse.mp (by rw [hrev]; exact hv)⟩
    obtain ⟨q, hq⟩ := cvt_ne X hj
    obtain ⟨c1, c2, c3, c4, c5, c6⟩ := callB_of2 (args := args) (mc := sN τ - sN σ) (ms := sS τ - sS σ) ha hKW hR
    have hmap : (aO t j :: As).map (cvV X) = .ref q :: As.map (cvV X) := by
      show cvt X j :: _ = _
      rw [hq]
    have hp : PreS s H (PcC lay L0 X σ (aO t j :: As)) (.ref q :: As.map (cvV X)) := ⟨PcC.blind, fun U hU hW => ⟨by rw [hmap], by rw [hU]; exact hH.alike hW.alike, F.2.2.2.2.2.2.2.warm hW⟩⟩
    have hstk : (F0 m pc L ((as ++ r).map (cvV X))).stack = (As.map (cvV X)).reverse ++ .ref q :: r.map (cvV X) := by
      show (as ++ r).map (cvV X) = _
      rw [has]
      simp only [List.map_append, List.map_reverse, List.map_cons, List.map_nil, List.append_assoc, List.cons_append, List.nil_append]
      show _ ++ cvt X j :: _ = _
      rw [hq]
    have hroom : 2 * (F0 m pc L ((as ++ r).map (cvV X))).monitorRoom + ((r.map (cvV X)).map fun v => v.category).sum ≤ 8 := lv_room (by rw [catS_eq]; exact Nat.le_of_ble_eq_true hcat)
    have hn : (As.map (cvV X)).length = nthN npL a := by
      have h1 : as.length = As.length + 1 := by rw [has]; simp
      simp
      omega
    rw [hmap]
    have hcode : (Cond.code (yOf a) (byOf a) (mlOf a) none).before args s = true := by
      have := hKW _ (codeW ha) rfl args
      rwa [hret] at this
    rw [hret] at c6
    rcases glink with g5 | g5
    · exact va_runI (own := (yOf mid).cls) (nL := mlOf mid) (Ts := []) ⟨F.1, F.2.1, F.2.2.1, F.2.2.2.1, fun w hw => by cases hw⟩ hM ⟨⟨c1, c2, c3, c4, c5, c6, hcode, hKW.get (mChk_get ha).2.2.1 rfl args, (mChk_get ha).1, sig_len ha rfl, hKW.get g5 rfl args⟩, of_decide_eq_true gc, hKW.get gd rfl args⟩ hp rfl hn hL.1 hstk hroom hd hf
    · exact va_runIN (own := (yOf mid).cls) (nL := mlOf mid) (Ts := []) (host := "MagnetRing") ⟨F.1, F.2.1, F.2.2.1, F.2.2.2.1, fun w hw => by cases hw⟩ hM ⟨⟨⟨c1, c2, c3, c4, c5, c6⟩, hcode, hKW.get (mChk_get ha).2.2.1 rfl args, (mChk_get ha).1, sig_len ha rfl, hKW.get g5 rfl args⟩, of_decide_eq_true gc, hKW.get gd rfl args⟩ hp rfl hn hL.1 hstk hroom hd hf
end SIM4
end
section
/-! ===== switches, returns, the step, the contracts of all methods ===== -/
def swF (x : Int32) (d : Nat) : List (Int32 × Nat) → Nat
  | [] => d
  | q :: r => if x = q.1 then q.2 else swF x d r
theorem swt_F {K : Nat → Prop} {x : Int32} {d : Nat} : ∀ {tb : List (Int32 × Nat)}, swt K x d tb → K (swF x d tb)
  | [], h => h
  | q :: r, h => by
    unfold swF
    by_cases e : x = q.1
    · rw [if_pos e]; exact h.1 e
    · rw [if_neg e]; exact swt_F (h.2 e)
theorem ofInt_toInt {n : Int} (h0 : 0 ≤ n) (h1 : n < 2000) : (Int32.ofInt n).toInt = n := Int32.toInt_ofInt_of_le (by omega) (by omega)
theorem swF_in {x : Int32} {d : Nat} : ∀ (tb : List (Int32 × Nat)) (lo : Int), (∀ (i : Nat) (k : Int32), (tb.map (fun q => q.1))[i]? = some k → k = Int32.ofInt (lo + i)) → 0 ≤ lo → lo + tb.length < 2000 → lo ≤ x.toInt → x.toInt < lo + tb.length → (tb.map (fun q => q.2))[(x.toInt - lo).toNat]? = some (swF x d tb)
  | [], lo, _, _, _, h1, h2 => by simp at h2; omega
  | q :: r, lo, hk, h0, hl, h1, h2 => by
    have hq : q.1 = Int32.ofInt lo := by
      have := hk 0 q.1 (by simp)
      simpa using this
    simp only [List.length_cons] at hl h2
    unfold swF
    by_cases e : x = q.1
    · rw [if_pos e]
      have : x.toInt = lo := by rw [e, hq]; exact ofInt_toInt h0 (by omega)
      rw [this, show (lo - lo).toNat = 0 by omega]
      simp
    · rw [if_neg e]
      have hne : x.toInt ≠ lo := fun z => e (by
        rw [hq]
        apply Int32.toInt_inj.mp
        rw [ofInt_toInt h0 (by omega)]
        exact z)
      have ih := swF_in (x := x) (d := d) r (lo + 1) (fun i k h => by
        have := hk (i + 1) k (by simpa using h)
        rw [this]
        congr 1
        push_cast
        omega) (by omega) (by omega) (by omega) (by omega)
      rw [show (x.toInt - lo).toNat = (x.toInt - (lo + 1)).toNat + 1 by omega]
      simpa using ih
theorem swF_out {x : Int32} {d : Nat} : ∀ (tb : List (Int32 × Nat)) (lo : Int), (∀ (i : Nat) (k : Int32), (tb.map (fun q => q.1))[i]? = some k → k = Int32.ofInt (lo + i)) → 0 ≤ lo → lo + tb.length < 2000 → (x.toInt < lo ∨ lo + tb.length ≤ x.toInt) → swF x d tb = d
  | [], _, _, _, _, _ => rfl
  | q :: r, lo, hk, h0, hl, h => by
    have hq : q.1 = Int32.ofInt lo := by
      have := hk 0 q.1 (by simp)
      simpa using this
    simp only [List.length_cons] at hl h
    unfold swF
    have hne : ¬ x = q.1 := fun z => by
      have : x.toInt = lo := by rw [z, hq]; exact ofInt_toInt h0 (by omega)
      omega
    rw [if_neg hne]
    exact swF_out r (lo + 1) (fun i k h => by
      have := hk (i + 1) k (by simpa using h)
      rw [this]
      congr 1
      push_cast
      omega) (by omega) (by omega) (by omega)
theorem endS_some {r : List AV} {x : Option Act} {A : Act} (h : endS r x = some A) : r = [] ∧ x = some A := by
  cases r
  · exact ⟨rfl, h⟩
  · cases h
def noL (e : En) : Bool := match e.1 with
  | .invokevirtual _ => decide (e.2.2.1.1 ≠ 172)
  | .invokestatic _ => decide (e.2.2.1.1 ≠ 172)
  | .invokespecial _ => decide (e.2.2.1.1 ≠ 172)
  | _ => true
theorem noLaw : (List.range 173).all (fun m => (cdOf m).all (fun q => noL q.2)) = true := by decide +kernel
section STEP
variable {p : Program} {l : Launch} {e : Env} {R : Room} {s : State} {m : MethodId} {args : Array Value} {below : List Frame} {meth : Method} {c : Code} {Qm : State → Prop} {lay : Nat → Nat → Nat} {L0 : Nat} {X : Cx} {mid n0 s0 NT ST d rt : Nat} {Q : Option AV → St → Prop} {K : S4 → Prop} {cl : CLT}
variable {pc nx a b k dd : Nat} {w : Int32} {z : Int64} {tb : List (Int32 × Nat)} {ps : List Nat} {ls st : List AV} {σ : St} {A : Act}
theorem si_tableswitch (F : FX p s m meth c X mid) (hKS : ∀ q, K q → BS p l e R s m args below meth c Qm lay L0 X mid n0 s0 NT ST q) {df lo hi : Int} {offs : Array Int} {len : Nat} (hd : decode (byOf mid) pc = .ok (.tableswitch df lo hi offs, len)) (hg : goodI (yOf mid).cls (iniOf mid) pc (.tableswitch df lo hi offs, nx, (a, b, k, dd), w, z, tb, ps) = true) (hA : act lay rt (.tableswitch df lo hi offs, nx, (a, b, k, dd), w, z, tb, ps) ls st σ = some A) (h : stepP rtOf cl Q K nx ls σ A) : BS p l e R s m args below meth c Qm lay L0 X mid n0 s0 NT ST (pc, ls, st, σ) := by
  obtain ⟨x, st, rfl, hA⟩ := qI_some hA
  cases hA
  have h : swt (fun pc => K (pc, ls, st, σ)) x a tb := h
  have h := swt_F h
  obtain ⟨hB, hS⟩ := hKS _ h
  obtain ⟨g1, g234⟩ := Bool.and_eq_true_iff.mp hg
  obtain ⟨g23, g4⟩ := Bool.and_eq_true_iff.mp g234
  obtain ⟨g2, g3⟩ := Bool.and_eq_true_iff.mp g23
  have g1 : (pc : Int) + df = (a : Int) := of_decide_eq_true g1
  have g2 : 0 ≤ lo ∧ lo ≤ hi ∧ hi < 1000 := of_decide_eq_true g2
  have g3 : tb.length = offs.size ∧ (offs.size : Int) = hi - lo + 1 := of_decide_eq_true g3
  have g4 := List.all_eq_true.mp g4
  have hkeys : ∀ (i : Nat) (k : Int32), (tb.map (fun q => q.1))[i]? = some k → k = Int32.ofInt (lo + i) := by
    intro i k hk
    have hi : i < tb.length := by
      have := (List.getElem?_eq_some_iff.mp hk).1
      simpa using this
    have := g4 i (List.mem_range.mpr (by omega))
    obtain ⟨q1, -⟩ := Bool.and_eq_true_iff.mp this
    have q1 : (tb.map (fun q => q.1))[i]? = some (Int32.ofInt (lo + i)) := of_decide_eq_true q1
    rw [hk] at q1
    exact Option.some.inj q1
  refine ⟨hB, fun n1 n2 H locs L hH hVS hL hv1 hv2 => ?_⟩
  have hk2 := hS n1 n2 H locs L hH hVS hL hv1 (vt hv2)
  by_cases hin : lo ≤ x.toInt ∧ x.toInt ≤ hi
  · have hF := swF_in (x := x) (d := a) tb lo hkeys g2.1 (by omega) hin.1 (by omega)
    have hi2 : (x.toInt - lo).toNat < offs.size := by omega
    obtain ⟨-, q2⟩ := Bool.and_eq_true_iff.mp (g4 _ (List.mem_range.mpr hi2))
    have q2 : Option.map (fun (t : Int) => t) ((tb.map (fun q => (q.2 : Int)))[(x.toInt - lo).toNat]?) = (offs[(x.toInt - lo).toNat]?).map (fun o => (pc : Int) + o) := of_decide_eq_true q2
    have hF2 : (tb.map (fun q => (q.2 : Int)))[(x.toInt - lo).toNat]? = some (swF x a tb : Int) := by
      rw [List.getElem?_map] at hF ⊢
      cases hq : tb[(x.toInt - lo).toNat]? with
      | none => rw [hq] at hF; cases hF
      | some q =>
        rw [hq] at hF
        have := Option.some.inj hF
        rw [← this]
        rfl
    rw [hF2] at q2
    cases ho : offs[(x.toInt - lo).toNat]? with
    | none => rw [ho] at q2; cases q2
    | some off =>
      rw [ho] at q2
      have q2 : (swF x a tb : Int) = (pc : Int) + off := Option.some.inj q2
      exact lv_tableIn F.1 F.2.1 hd (by omega) (by omega) ho q2.symm hk2
  · have hF : swF x a tb = a := swF_out tb lo hkeys g2.1 (by omega) (by omega)
    have hk2 : W p l e R s m args below meth c H locs (sN σ - n0) (sS σ - s0) Qm (F0 m (swF x a tb) L (st.map (cvV X))) := hk2
    rw [hF] at hk2
    exact lv_tableOut F.1 F.2.1 hd (by omega) g1 hk2
set_option maxHeartbeats 4000000 in
/-- one step of the abstract machine is sound, returns apart -/
theorem sim_step (F : FX p s m meth c X mid) (hmid : mid < 173) (hsz : X.1 ≤ s.heap.size) (hz0 : LZ lay L0) (hR : d + 1 ≤ R.frames ∧ 39 * (d + 1) ≤ R.locals) (hRc : NT - n0 ≤ R.cells ∧ ST - s0 ≤ R.slots) (hCS : CS l lay L0 X d) (hKS : ∀ q, K q → BS p l e R s m args below meth c Qm lay L0 X mid n0 s0 NT ST q)
    (hret : ∀ (ins : Instr) (pc nx a b k dd : Nat) (w : Int32) (z : Int64) (tb : List (Int32 × Nat)) (ps : List Nat) (ls st : List AV) (σ : St) (A : Act), (ins = .ireturn ∨ ins = .lreturn ∨ ins = .areturn ∨ ins = .return_) → decode (byOf mid) pc = .ok (ins, 1) → act lay (rtOf mid) (ins, nx, (a, b, k, dd), w, z, tb, ps) ls st σ = some A → stepP rtOf (Cl lay d) Q K nx ls σ A → BS p l e R s m args below meth c Qm lay L0 X mid n0 s0 NT ST (pc, ls, st, σ))
    {q : S4} (h : stepS lay rtOf (Cl lay d) (cdOf mid) (rtOf mid) Q K q) : BS p l e R s m args below meth c Qm lay L0 X mid n0 s0 NT ST q := by
  obtain ⟨pc, ls, st, σ⟩ := q
  unfold stepS at h
  dsimp only at h
  cases hlk : lk (cdOf mid) pc with
  | none => rw [hlk] at h; exact absurd h id
  | some en =>
  rw [hlk] at h
  dsimp only at h
  have hmem := lk_mem hlk
  have hg := gm_all mid hmid _ hmem
  have hso := List.all_eq_true.mp (List.all_eq_true.mp stOK_ok mid (List.mem_range.mpr hmid)) _ hmem
  cases hact : act lay (rtOf mid) en ls st σ with
  | none => rw [hact] at h; exact absurd h id
  | some A =>
  rw [hact] at h
  dsimp only at h
  obtain ⟨ins, nx, ⟨a, b, k, dd⟩, w, z, tb, ps⟩ := en
  unfold goodB at hg
  obtain ⟨hd0, hg2⟩ := Bool.and_eq_true_iff.mp hg
  obtain ⟨hnx0, hgi⟩ := Bool.and_eq_true_iff.mp hg2
  have hd : decode (byOf mid) pc = .ok (ins, lenI ins (nx - pc)) := of_decide_eq_true hd0
  have hnx : nx = pc + lenI ins (nx - pc) := of_decide_eq_true hnx0
  have hlaw : ∀ (i : Instr), (∃ n, i = .invokevirtual n ∨ i = .invokestatic n ∨ i = .invokespecial n) → ins = i → a ≠ 172 := by
    intro i hi he
    have := List.all_eq_true.mp (List.all_eq_true.mp noLaw mid (List.mem_range.mpr hmid)) _ hmem
    subst he
    obtain ⟨n, rfl | rfl | rfl⟩ := hi
    · exact of_decide_eq_true this
    · exact of_decide_eq_true this
    · exact of_decide_eq_true this
  clear hlk hmem hg hg2 hd0 hnx0
  cases ins
  case iconst n =>
    replace hnx : nx = pc + 1 := hnx
    subst hnx
    exact si_iconst F hKS hd (of_decide_eq_true hgi) hact h
  case bipush n =>
    replace hnx : nx = pc + 2 := hnx
    subst hnx
    exact si_bipush F hKS hd (of_decide_eq_true hgi) hact h
  case sipush n =>
    replace hnx : nx = pc + 3 := hnx
    subst hnx
    exact si_sipush F hKS hd (of_decide_eq_true hgi) hact h
  case lconst n =>
    replace hnx : nx = pc + 1 := hnx
    subst hnx
    exact si_lconst F hKS hd (of_decide_eq_true hgi) hact h
  case ldc2_w n =>
    replace hnx : nx = pc + 3 := hnx
    subst hnx
    exact si_ldc2 F hKS hd hgi hact h
  case aconst_null =>
    replace hnx : nx = pc + 1 := hnx
    subst hnx
    exact si_aconst F hKS hd hact h
  case iload_n n =>
    replace hnx : nx = pc + 1 := hnx
    subst hnx
    exact si_iload_n F hKS hd (of_decide_eq_true hgi) hact h
  case iload n =>
    replace hnx : nx = pc + 2 := hnx
    subst hnx
    exact si_iload F hKS hd (of_decide_eq_true hgi) hact h
  case istore_n n =>
    replace hnx : nx = pc + 1 := hnx
    subst hnx
    exact si_istore_n F hKS hd (of_decide_eq_true hgi) (Nat.le_of_ble_eq_true hso) hact h
  case istore n =>
    replace hnx : nx = pc + 2 := hnx
    subst hnx
    exact si_istore F hKS hd (of_decide_eq_true hgi) (Nat.le_of_ble_eq_true hso) hact h
  case lload_n n =>
    replace hnx : nx = pc + 1 := hnx
    subst hnx
    exact si_lload_n F hKS hd (of_decide_eq_true hgi) hact h
  case lload n =>
    replace hnx : nx = pc + 2 := hnx
    subst hnx
    exact si_lload F hKS hd (of_decide_eq_true hgi) hact h
  case lstore_n n =>
    replace hnx : nx = pc + 1 := hnx
    subst hnx
    exact si_lstore_n F hKS hd (of_decide_eq_true hgi) (Nat.le_of_ble_eq_true hso) hact h
  case lstore n =>
    replace hnx : nx = pc + 2 := hnx
    subst hnx
    exact si_lstore F hKS hd (of_decide_eq_true hgi) (Nat.le_of_ble_eq_true hso) hact h
  case aload_n n =>
    replace hnx : nx = pc + 1 := hnx
    subst hnx
    exact si_aload_n F hKS hd (of_decide_eq_true hgi) hact h
  case aload n =>
    replace hnx : nx = pc + 2 := hnx
    subst hnx
    exact si_aload F hKS hd (of_decide_eq_true hgi) hact h
  case astore_n n =>
    replace hnx : nx = pc + 1 := hnx
    subst hnx
    exact si_astore_n F hKS hd (of_decide_eq_true hgi) (Nat.le_of_ble_eq_true hso) hact h
  case astore n =>
    replace hnx : nx = pc + 2 := hnx
    subst hnx
    exact si_astore F hKS hd (of_decide_eq_true hgi) (Nat.le_of_ble_eq_true hso) hact h
  case iinc n n2 =>
    replace hnx : nx = pc + 3 := hnx
    subst hnx
    exact si_iinc F hKS hd (of_decide_eq_true (Bool.and_eq_true_iff.mp hgi).1) (of_decide_eq_true (Bool.and_eq_true_iff.mp hgi).2) (Nat.le_of_ble_eq_true hso) hact h
  case iadd =>
    replace hnx : nx = pc + 1 := hnx
    subst hnx
    exact si_iadd F hKS hd hact h
  case isub =>
    replace hnx : nx = pc + 1 := hnx
    subst hnx
    exact si_isub F hKS hd hact h
  case imul =>
    replace hnx : nx = pc + 1 := hnx
    subst hnx
    exact si_imul F hKS hd hact h
  case iand =>
    replace hnx : nx = pc + 1 := hnx
    subst hnx
    exact si_iand F hKS hd hact h
  case ixor =>
    replace hnx : nx = pc + 1 := hnx
    subst hnx
    exact si_ixor F hKS hd hact h
  case ladd =>
    replace hnx : nx = pc + 1 := hnx
    subst hnx
    exact si_ladd F hKS hd hact h
  case lsub =>
    replace hnx : nx = pc + 1 := hnx
    subst hnx
    exact si_lsub F hKS hd hact h
  case lmul =>
    replace hnx : nx = pc + 1 := hnx
    subst hnx
    exact si_lmul F hKS hd hact h
  case land =>
    replace hnx : nx = pc + 1 := hnx
    subst hnx
    exact si_land F hKS hd hact h
  case lor =>
    replace hnx : nx = pc + 1 := hnx
    subst hnx
    exact si_lor F hKS hd hact h
  case idiv =>
    replace hnx : nx = pc + 1 := hnx
    subst hnx
    exact si_idiv F hKS hd hact h
  case irem =>
    replace hnx : nx = pc + 1 := hnx
    subst hnx
    exact si_irem F hKS hd hact h
  case ldiv =>
    replace hnx : nx = pc + 1 := hnx
    subst hnx
    exact si_ldiv F hKS hd hact h
  case lrem =>
    replace hnx : nx = pc + 1 := hnx
    subst hnx
    exact si_lrem F hKS hd hact h
  case lcmp =>
    replace hnx : nx = pc + 1 := hnx
    subst hnx
    exact si_lcmp F hKS hd hact h
  case lshl =>
    replace hnx : nx = pc + 1 := hnx
    subst hnx
    exact si_lshl F hKS hd hact h
  case lshr =>
    replace hnx : nx = pc + 1 := hnx
    subst hnx
    exact si_lshr F hKS hd hact h
  case lushr =>
    replace hnx : nx = pc + 1 := hnx
    subst hnx
    exact si_lushr F hKS hd hact h
  case lneg =>
    replace hnx : nx = pc + 1 := hnx
    subst hnx
    exact si_lneg F hKS hd hact h
  case i2l =>
    replace hnx : nx = pc + 1 := hnx
    subst hnx
    exact si_i2l F hKS hd hact h
  case l2i =>
    replace hnx : nx = pc + 1 := hnx
    subst hnx
    exact si_l2i F hKS hd hact h
  case i2b =>
    replace hnx : nx = pc + 1 := hnx
    subst hnx
    exact si_i2b F hKS hd hact h
  case dup =>
    replace hnx : nx = pc + 1 := hnx
    subst hnx
    exact si_dup F hKS hd hact h
  case pop =>
    replace hnx : nx = pc + 1 := hnx
    subst hnx
    exact si_pop F hKS hd hact h
  case goto o =>
    replace hnx : nx = pc + 3 := hnx
    subst hnx
    exact si_goto F hKS hd (of_decide_eq_true hgi) hact h
  case ifCond cnd o =>
    replace hnx : nx = pc + 3 := hnx
    subst hnx
    cases cnd
    case eq => exact si_if_eq F hKS hd (of_decide_eq_true hgi) hact h
    case ne => exact si_if_ne F hKS hd (of_decide_eq_true hgi) hact h
    case lt => exact si_if_lt F hKS hd (of_decide_eq_true hgi) hact h
    case ge => exact si_if_ge F hKS hd (of_decide_eq_true hgi) hact h
    case gt => exact si_if_gt F hKS hd (of_decide_eq_true hgi) hact h
    case le => exact si_if_le F hKS hd (of_decide_eq_true hgi) hact h
  case if_icmp cnd o =>
    replace hnx : nx = pc + 3 := hnx
    subst hnx
    cases cnd
    case eq => exact si_icmp_eq F hKS hd (of_decide_eq_true hgi) hact h
    case ne => exact si_icmp_ne F hKS hd (of_decide_eq_true hgi) hact h
    case lt => exact si_icmp_lt F hKS hd (of_decide_eq_true hgi) hact h
    case ge => exact si_icmp_ge F hKS hd (of_decide_eq_true hgi) hact h
    case gt => exact si_icmp_gt F hKS hd (of_decide_eq_true hgi) hact h
    case le => exact si_icmp_le F hKS hd (of_decide_eq_true hgi) hact h
  case ifnull o =>
    replace hnx : nx = pc + 3 := hnx
    subst hnx
    exact si_ifnull F hKS hd (of_decide_eq_true hgi) hact h
  case ifnonnull o =>
    replace hnx : nx = pc + 3 := hnx
    subst hnx
    exact si_ifnonnull F hKS hd (of_decide_eq_true hgi) hact h
  case tableswitch df lo hi offs => exact si_tableswitch F hKS hd hgi hact h
  case getfield n =>
    replace hnx : nx = pc + 3 := hnx
    subst hnx
    exact si_getfield F hKS hd hgi hact h
  case putfield n =>
    replace hnx : nx = pc + 3 := hnx
    subst hnx
    exact si_putfield F hsz hKS hd hgi hact h
  case getstatic n =>
    replace hnx : nx = pc + 3 := hnx
    subst hnx
    exact si_getstatic F hsz hKS hd hgi hact h
  case iaload =>
    replace hnx : nx = pc + 1 := hnx
    subst hnx
    exact si_iaload F hsz hz0 hRc hKS hd hact h
  case laload =>
    replace hnx : nx = pc + 1 := hnx
    subst hnx
    exact si_laload F hsz hz0 hRc hKS hd hact h
  case baload =>
    replace hnx : nx = pc + 1 := hnx
    subst hnx
    exact si_baload F hsz hz0 hRc hKS hd hact h
  case aaload =>
    replace hnx : nx = pc + 1 := hnx
    subst hnx
    exact si_aaload F hsz hz0 hRc hKS hd hact h
  case iastore =>
    replace hnx : nx = pc + 1 := hnx
    subst hnx
    exact si_iastore F hsz hz0 hRc hKS hd hact h
  case lastore =>
    replace hnx : nx = pc + 1 := hnx
    subst hnx
    exact si_lastore F hsz hz0 hRc hKS hd hact h
  case bastore =>
    replace hnx : nx = pc + 1 := hnx
    subst hnx
    exact si_bastore F hsz hz0 hRc hKS hd hact h
  case aastore =>
    replace hnx : nx = pc + 1 := hnx
    subst hnx
    exact si_aastore F hsz hz0 hRc hKS hd hact h
  case arraylength =>
    replace hnx : nx = pc + 1 := hnx
    subst hnx
    exact si_arraylength F hsz hz0 hRc hKS hd hact h
  case newarray n =>
    replace hnx : nx = pc + 2 := hnx
    subst hnx
    exact si_newarray F hsz hz0 hRc hKS hd hgi hact h
  case anewarray n =>
    replace hnx : nx = pc + 3 := hnx
    subst hnx
    exact si_anewarray F hsz hz0 hRc hKS hd hgi hact h
  case new n =>
    replace hnx : nx = pc + 3 := hnx
    subst hnx
    exact si_new F hsz hz0 hRc hKS hd hgi hact h
  case invokevirtual n =>
    replace hnx : nx = pc + 3 := hnx
    subst hnx
    exact si_invokevirtual F hR hRc hCS hKS (hlaw _ ⟨n, Or.inl rfl⟩ rfl) hd hgi hact h
  case invokestatic n =>
    replace hnx : nx = pc + 3 := hnx
    subst hnx
    exact si_invokestatic F hR hRc hCS hKS (hlaw _ ⟨n, Or.inr (Or.inl rfl)⟩ rfl) hd hgi hact h
  case invokespecial n =>
    replace hnx : nx = pc + 3 := hnx
    subst hnx
    exact si_invokespecial F hR hRc hCS hKS (hlaw _ ⟨n, Or.inr (Or.inr rfl)⟩ rfl) hd hgi hact h
  case ireturn => exact hret _ pc nx a b k dd w z tb ps ls st σ A (Or.inl rfl) hd hact h
  case lreturn => exact hret _ pc nx a b k dd w z tb ps ls st σ A (Or.inr (Or.inl rfl)) hd hact h
  case areturn => exact hret _ pc nx a b k dd w z tb ps ls st σ A (Or.inr (Or.inr (Or.inl rfl))) hd hact h
  case return_ => exact hret _ pc nx a b k dd w z tb ps ls st σ A (Or.inr (Or.inr (Or.inr rfl))) hd hact h
  all_goals exact absurd (show (none : Option Act) = some A from hact) (fun q => by cases q)
end STEP
end
section
/-! ===== the contract of every method ===== -/
theorem ent0_len : ∀ (n : Nat) (args : List AV), catS args ≤ n → (ent0 n args).length = n
  | n, [], _ => by simp [ent0]
  | n, v :: vs, h => by
    unfold catS at h
    unfold ent0
    cases hc : Nat.beq (cat v) 2 with
    | true =>
      have : cat v = 2 := Nat.eq_of_beq_eq_true hc
      have ih := ent0_len (n - 2) vs (by omega)
      show (v :: aZ :: ent0 (n - 2) vs).length = n
      simp only [List.length_cons, ih]
      omega
    | false =>
      have h1 : cat v = 1 := by
        match v, hc with
        | .inl _, _ => rfl
        | .inr (.inl _), _ => rfl
        | .inr (.inr (.inl _)), hc => cases hc
        | .inr (.inr (.inr _)), _ => rfl
      have ih := ent0_len (n - 1) vs (by omega)
      show (v :: ent0 (n - 1) vs).length = n
      simp only [List.length_cons, ih]
      omega
theorem nthA_rep : ∀ (n i : Nat), nthA (List.replicate n aZ) i = aZ
  | 0, _ => rfl
  | _ + 1, 0 => rfl
  | n + 1, i + 1 => nthA_rep n i
theorem ent0_args (X : Cx) : ∀ (n off : Nat) (args : List AV) (i : Nat), nthA (ent0 n args) i ≠ aZ → (off + i, cvV X (nthA (ent0 n args) i)) ∈ lv_args off (args.map (cvV X))
  | n, off, [], i, h => absurd (nthA_rep n i) h
  | n, off, v :: vs, i, h => by
    have hcat : (cvV X v).category = cat v := cat_cv X v
    unfold ent0 at h ⊢
    cases hc : Nat.beq (cat v) 2 with
    | true =>
      have h2 : cat v = 2 := Nat.eq_of_beq_eq_true hc
      rw [hc] at h
      match i, h with
      | 0, h => exact List.mem_cons_self
      | 1, h => exact absurd rfl h
      | i + 2, h =>
        have ih := ent0_args X (n - 2) (off + 2) vs i h
        refine List.mem_cons_of_mem _ ?_
        rw [if_pos (by rw [hcat]; exact h2)]
        rw [show off + (i + 2) = off + 2 + i by omega]
        exact ih
    | false =>
      rw [hc] at h
      match i, h with
      | 0, h => exact List.mem_cons_self
      | i + 1, h =>
        have ih := ent0_args X (n - 1) (off + 1) vs i h
        refine List.mem_cons_of_mem _ ?_
        have h2 : ¬ cat v = 2 := fun z => by
          rw [z] at hc
          cases hc
        rw [if_neg (by rw [hcat]; exact h2)]
        rw [show off + (i + 1) = off + 1 + i by omega]
        exact ih
theorem lg_sl_len (X : Cx) : ∀ args : List AV, (lg_sl (args.map (cvV X))).length = catS args
  | [] => rfl
  | v :: vs => by
    have ih := lg_sl_len X vs
    have hcat : (cvV X v).category = cat v := cat_cv X v
    have hc12 : cat v = 1 ∨ cat v = 2 := by
      match v with
      | .inl _ => exact Or.inl rfl
      | .inr (.inl _) => exact Or.inl rfl
      | .inr (.inr (.inl _)) => exact Or.inr rfl
      | .inr (.inr (.inr _)) => exact Or.inl rfl
    unfold lg_sl at ih ⊢
    rw [List.map_cons, List.flatMap_cons, List.length_append, ih, hcat]
    show _ = cat v + catS vs
    rcases hc12 with h | h
    · rw [h]; rfl
    · rw [h]; rfl
theorem ent0_mem {P : AV → Prop} (hz : P aZ) : ∀ (n : Nat) (args : List AV), (∀ v ∈ args, P v) → ∀ v ∈ ent0 n args, P v
  | n, [], _, v, hv => by
    unfold ent0 at hv
    rw [List.eq_of_mem_replicate hv]
    exact hz
  | n, a :: as, h, v, hv => by
    unfold ent0 at hv
    cases hc : Nat.beq (cat a) 2 with
    | true =>
      rw [hc] at hv
      rcases List.mem_cons.mp hv with rfl | hv
      · exact h _ List.mem_cons_self
      · rcases List.mem_cons.mp hv with rfl | hv
        · exact hz
        · exact ent0_mem hz (n - 2) as (fun x hx => h x (List.mem_cons_of_mem _ hx)) v hv
    | false =>
      rw [hc] at hv
      rcases List.mem_cons.mp hv with rfl | hv
      · exact h _ List.mem_cons_self
      · exact ent0_mem hz (n - 1) as (fun x hx => h x (List.mem_cons_of_mem _ hx)) v hv
theorem Lc_entry (X : Cx) {n : Nat} {args : List AV} (h : catS args ≤ n) : Lc X n (ent0 n args) ((lg_sl (args.map (cvV X)) ++ List.replicate (n - (lg_sl (args.map (cvV X))).length) Slot.unset).toArray) := by
  have hl := lv_entry (args.map (cvV X)) (n := n) (by rw [lg_sl_len]; exact h)
  refine ⟨hl.1, hl.2.1, ent0_len n args h, fun i hi => ?_⟩
  have := hl.2.2 _ (ent0_args X n 0 args i hi)
  rwa [Nat.zero_add] at this
section METH
variable {p : Program} {l : Launch} {e : Env} {R : Room} {s : State} {m : MethodId} {args : Array Value} {below : List Frame} {meth : Method} {c : Code} {lay : Nat → Nat → Nat} {L0 : Nat} {X : Cx} {mid n0 s0 d : Nat} {K : S4 → Prop} {v : Option AV} {τ : St}
theorem ret_ok (F : FX p s m meth c X mid) (hm : mid < 172) : ∀ (ins : Instr) (pc nx a b k dd : Nat) (w : Int32) (z : Int64) (tb : List (Int32 × Nat)) (ps : List Nat) (ls st : List AV) (σ : St) (A : Act), (ins = .ireturn ∨ ins = .lreturn ∨ ins = .areturn ∨ ins = .return_) → decode (byOf mid) pc = .ok (ins, 1) → act lay (rtOf mid) (ins, nx, (a, b, k, dd), w, z, tb, ps) ls st σ = some A → stepP rtOf (Cl lay d) (eqQ v τ) K nx ls σ A → BS p l e R s m args below meth c (MQ below (QmC lay L0 X v τ) args s (sN τ - n0) (sS τ - s0) (fun q => X.1 ≤ q)) lay L0 X mid n0 s0 (sN τ) (sS τ) (pc, ls, st, σ) := by
  intro ins pc nx a b k dd w z tb ps ls st σ A hins hd hA h
  have hro := (mChk_get hm).2.2.2.1
  have hret := F.2.2.2.2.2.1
  have hlk := F.2.2.2.2.1
  rcases hins with rfl | rfl | rfl | rfl
  · obtain ⟨x, r, rfl, hA1⟩ := qI_some hA
    obtain ⟨rfl, hA2⟩ := endS_some hA1
    generalize rtOf mid = rt at hA2 hro
    match rt, hA2, hro with
    | 1, hA2, hro =>
      cases hA2
      obtain ⟨rfl, rfl⟩ : some (aI x) = v ∧ σ = τ := h
      refine ⟨⟨Nat.le_refl _, Nat.le_refl _⟩, fun n1 n2 H locs L hH hVS hL hv1 hv2 => ?_⟩
      exact W.iret (v := x) F.1 F.2.1 (by rw [hret]; exact of_decide_eq_true hro) (fun t ht hW => ⟨⟨rfl, by rw [ht]; exact hH.alike hW.alike, fun w hw => by cases hw; exact trivial⟩, hVS.F ht⟩) hVS.2.2 hd hlk
    | 2, hA2, hro =>
      cases hA2
      obtain ⟨h01, rfl, rfl⟩ : (x = 0 ∨ x = 1) ∧ some (aI x) = v ∧ σ = τ := h
      refine ⟨⟨Nat.le_refl _, Nat.le_refl _⟩, fun n1 n2 H locs L hH hVS hL hv1 hv2 => ?_⟩
      exact W.zret (v := x) (ty := .boolean) F.1 F.2.1 (by rw [hret]; exact of_decide_eq_true hro) (by rcases h01 with rfl | rfl <;> rfl) (fun t ht hW => ⟨⟨rfl, by rw [ht]; exact hH.alike hW.alike, fun w hw => by cases hw; exact trivial⟩, hVS.F ht⟩) hVS.2.2 hd hlk
  · obtain ⟨x, r, rfl, hA1⟩ := qJ_some hA
    obtain ⟨rfl, hA2⟩ := endS_some hA1
    generalize rtOf mid = rt at hA2 hro
    match rt, hA2, hro with
    | 3, hA2, hro =>
      cases hA2
      obtain ⟨rfl, rfl⟩ : some (aJ x) = v ∧ σ = τ := h
      refine ⟨⟨Nat.le_refl _, Nat.le_refl _⟩, fun n1 n2 H locs L hH hVS hL hv1 hv2 => ?_⟩
      exact W.lret (v := x) F.1 F.2.1 (by rw [hret]; exact of_decide_eq_true hro) (fun t ht hW => ⟨⟨rfl, by rw [ht]; exact hH.alike hW.alike, fun w hw => by cases hw; exact trivial⟩, hVS.F ht⟩) hVS.2.2 hd hlk
  · obtain ⟨t, j, r, rfl, hA1⟩ := qR_some hA
    obtain ⟨rfl, hA2⟩ := endS_some hA1
    generalize rtOf mid = rt at hA2 hro
    match rt, hA2, hro with
    | t' + 4, hA2, hro =>
      obtain ⟨hb, hA3⟩ := bif_some hA2
      cases hA3
      obtain ⟨rfl, rfl⟩ : some (aO t j) = v ∧ σ = τ := h
      refine ⟨⟨Nat.le_refl _, Nat.le_refl _⟩, fun n1 n2 H locs L hH hVS hL hv1 hv2 => ?_⟩
      have hvv : vOK σ (aO t j) := vh hv2
      have hq : ∀ u : State, u.heap = H → s.WarmedH u.vm → QmC lay L0 X (some (aO t j)) σ args s (.returned (some (cvt X j))) u := fun u ht hW => ⟨⟨rfl, by rw [ht]; exact hH.alike hW.alike, fun w hw => by cases hw; exact hvv⟩, hVS.F ht⟩
      have hcv : cvt X j = .null ∨ ∃ a, cvt X j = .ref a := cvt_cases X j
      generalize hrv : retOf mid = rv at hro hret
      match rv, hro, hret with
      | some (.object nme), _, hret => exact W.aret (v := cvt X j) (rt := .object nme) F.1 F.2.1 hret (Or.inl ⟨_, rfl⟩) hcv hq hVS.2.2 hd hlk
      | some (.array tt), _, hret => exact W.aret (v := cvt X j) (rt := .array tt) F.1 F.2.1 hret (Or.inr ⟨_, rfl⟩) hcv hq hVS.2.2 hd hlk
  · obtain ⟨rfl, hA2⟩ := endS_some hA
    generalize rtOf mid = rt at hA2 hro
    match rt, hA2, hro with
    | 0, hA2, hro =>
      cases hA2
      obtain ⟨rfl, rfl⟩ : (none : Option AV) = v ∧ σ = τ := h
      refine ⟨⟨Nat.le_refl _, Nat.le_refl _⟩, fun n1 n2 H locs L hH hVS hL hv1 hv2 => ?_⟩
      exact W.vret F.1 F.2.1 (by rw [hret]; exact of_decide_eq_true hro) (fun t ht hW => ⟨⟨rfl, by rw [ht]; exact hH.alike hW.alike, fun w hw => by cases hw⟩, hVS.F ht⟩) hVS.2.2 hd hlk
end METH
theorem cs_all (l : Launch) (lay : Nat → Nat → Nat) (L0 : Nat) (X : Cx) (hz0 : LZ lay L0) : ∀ d : Nat, CS l lay L0 X d
  | 0 => fun _ _ _ _ _ _ h _ => absurd h id
  | d + 1 => by
    intro mid hm as σ τ v hcl hv
    have ih := cs_all l lay L0 X hz0 d
    unfold Cl at hcl
    cases hb : Nat.ble (catS as) (mlOf mid) with
    | false => rw [hb] at hcl; exact absurd hcl id
    | true =>
    rw [hb] at hcl
    dsimp only at hcl
    have hcat : catS as ≤ mlOf mid := Nat.le_of_ble_eq_true hb
    refine va_MetF (cc := byOf mid) (maxL := mlOf mid) (ret := retOf mid) (pf_all mid hm) rfl ?_
    intro p e s m args below meth c s₁ B hml hp
    obtain ⟨rfl, hH, hT⟩ := hp
    have F : FX p s m meth c X mid := ⟨B.exec, B.bytes, hml, findClass_of_methodNamed B.named, B.notSynchronized, B.returns, fun hi => ((name_of_methodNamed B.named B.method).1).trans (of_decide_eq_true hi), hT⟩
    have hsz : X.1 ≤ s.heap.size := by rw [hH.2.1]; exact Nat.le_add_right _ _
    have key := hcl (BS p l e (rmD (d + 1) (sN τ - sN σ) (sS τ - sS σ)) s m (as.map (cvV X)).toArray below meth c (MQ below (QmC lay L0 X v τ) (as.map (cvV X)).toArray s (sN τ - sN σ) (sS τ - sS σ) (fun q => X.1 ≤ q)) lay L0 X mid (sN σ) (sS σ) (sN τ) (sS τ)) (fun q hq => sim_step (d := d) F (by omega) hsz hz0 ⟨Nat.le_refl _, Nat.le_refl _⟩ ⟨Nat.le_refl _, Nat.le_refl _⟩ ih (fun _ h => h) (ret_ok F hm) hq)
    have hw := key.2 (Nat.le_refl _) (Nat.le_refl _) s.heap [] _ hH va_S.rf (Lc_entry X hcat) (ent0_mem (P := vOK σ) trivial _ _ hv) (fun v hv => by cases hv)
    have hw : W p l e (rmD (d + 1) (sN τ - sN σ) (sS τ - sS σ)) s m (as.map (cvV X)).toArray below meth c s.heap [] (sN σ - sN σ) (sS σ - sS σ) (MQ below (QmC lay L0 X v τ) (as.map (cvV X)).toArray s (sN τ - sN σ) (sS τ - sS σ) (fun q => X.1 ≤ q)) (F0 m 0 ((lg_sl (as.map (cvV X)) ++ List.replicate (mlOf mid - (lg_sl (as.map (cvV X))).length) Slot.unset).toArray) []) := hw
    rw [Nat.sub_self, Nat.sub_self] at hw
    rw [lg_entry_eq]
    exact hw
end
section
/-! THE CLAIM OUT OF ONE WALK OF THE LAW'S BODY. Your part is whole_start (and what it stands on); all else here is the same for every law, but numbers. -/
def R_law : String := "MagnetRingLaw"
def lw_P (b : Addr) (xs : List Int32) (args : Array Value) (s : State) : Prop := args = #[.ref b] ∧ s.IntsAt b xs ∧ xs.length ≤ 2560 ∧ (Jvm.Cond.and given_1 narrow_1).before args s = true
def lw_Q (_ : Array Value) (s : State) (o : Outcome) (t : State) : Prop := o = .returned (some (.int 1)) ∧ Framed s o t [] 600000 7302250
def lw_Z (below : List Frame) (a : Array Value) (s : State) : State → Prop := fun t => ∃ o, t.status = .running ∧ Ended t below o ∧ lw_Q a s o t
/-- the law's own end, with 1 on the stack, nothing written that was there before, its room as the claim has it -/
theorem lw_ret {p : Program} {l : Launch} {e : Env} {s : State} {m : MethodId} {below : List Frame} {meth : Method} {c : Code} {b : Nat} (hx : p.tables.exec = Jvm.exec) (hb : c.code = code) (hr : meth.sig.returnType = ret) (hlocks : meth.locks = false) {pc : Nat} {H : Heap} {ls : Array Slot} (hdg : decode code pc = .ok (.ireturn, 1)) : W p l e room_1 s m #[Value.ref b] below meth c H [] 600000 7302250 (lw_Z below #[Value.ref b] s) (F0 m pc ls [.int 1]) := by
  intro T hT X
  obtain ⟨fs, hret, hrun, hended, hW, hframe⟩ := X.leave (v := some (.int 1)) (hlocks := hlocks) (fun h => by rw [hr] at h; cases h)
  have hmeth' : T.vm.method? m = some meth := X.method'
  refine ⟨T.setFrames fs, ?_, .returned (some (.int 1)), hrun, hended, rfl, ⟨_, rfl⟩, hW, hframe⟩
  jvm_step X.here [X.here.top, hx, hb, hdg, hmeth', hr, ret, narrow_b1]
  (try refine ⟨rfl, ?_⟩); (try refine ⟨rfl, ?_⟩)
  first | (intro acts; rw [hret _ acts rfl rfl rfl]) | rw [hret _ _ rfl rfl rfl]
  exact Steps.refl _
/-- what holds at the law's entry: the machine, the code, the tables' words (any of lw_tbl by 'hts w (by decide +kernel)'), the script of L ints xs at the cell b, what the Statement gives of the start (any of its parts by flat_of_before) -/
def lw_At (p : Program) (s : State) (m : MethodId) (meth : Method) (c : Code) (b L : Nat) (xs : Nat → Int32) : Prop :=
  p.tables.exec = Jvm.exec ∧ c.code = code ∧ meth.sig.returnType = ret ∧ c.maxLocals = 4 ∧ s.vm.findClass R_law = some m.cls ∧ (∀ w ∈ lw_tbl, w.before #[Value.ref b] s = true) ∧ va_X b L xs s s.heap ∧ b < s.heap.size ∧ meth.locks = false ∧ (Jvm.Cond.and given_1 narrow_1).before #[Value.ref b] s = true

/-! ===== the law's walk out of the abstract machine ===== -/
def ivL : List Nat := [191, 329, 543, 265, 243, 459, 80, 249, 183, 116, 86, 72, 866]
theorem inst_ok : ∀ ci, ci < 13 → gw (nthN ivL ci) (.instantiable (nmC ci) (nF ci)) = true := by decide +kernel
def prm (j : Nat) : Int32 := match j with
  | 0 => 3
  | 1 => 5
  | 2 => 7
  | 3 => 11
  | 4 => 13
  | 5 => 17
  | 6 => 19
  | 7 => 23
  | 8 => 29
  | _ => 31
/-- the state with which the law begins: nothing made yet -/
def st0 (L : Nat) (xs : Nat → Int32) : St := (3, 0, (fun _ => 0), (fun a => if a = 1 then L else 10), (fun a b => if a = 1 then xs b else prm b), (fun _ _ => 0), (fun _ _ => 0))
def lay0 : Nat → Nat → Nat := fun _ _ => 0
def LyOK (lay : Nat → Nat → Nat) (L1 : Nat) (σ : St) : Prop := L1 ≤ sN σ ∧ ∀ j k, lay j k ≠ 0 → gR σ j k = lay j k
/-- the law's end: true, within the room -/
def QL (v : Option AV) (σ : St) : Prop := v = some (aI 1) ∧ sN σ ≤ 600003 ∧ sS σ ≤ 7302250
theorem run_mono {lay : Nat → Nat → Nat} {rtm : Nat → Nat} {cl : CLT} (hm : Mono cl) {cd : List (Nat × En)} {rt : Nat} {Q : Option AV → St → Prop} {stops : List Nat} {P P' : S4 → Prop} (hP : ∀ s, P s → P' s) : ∀ (k : Nat) (s : S4), run lay rtm cl cd rt Q stops P k s → run lay rtm cl cd rt Q stops P' k s
  | 0, s, h => hP s h
  | k + 1, s, h => stepS_mono hm (fun _ _ q => q) (fun s' h' => by
      cases hb : mem s'.1 stops with
      | true => rw [hb] at h'; exact hP s' h'
      | false => rw [hb] at h'; exact run_mono hm hP k s' h') h
/-- the world at the law's entry -/
theorem law_world {p : Program} {s : State} {m : MethodId} {meth : Method} {c : Code} {b L : Nat} {xs : Nat → Int32} (C0 : lw_At p s m meth c b L xs) : ∃ X : Cx, X.1 = s.heap.size ∧ X.2.1 = b ∧ TW X s ∧ HW lay0 0 X (st0 L xs) s s.heap := by
  obtain ⟨hx, hb, hr, hml, hown, hts, hX, hbl, hlocks, hgv⟩ := C0
  have hKW : KW s := KW.of hts
  have hcls : ∀ ci : Nat, ∃ (cC : ClassId) (iS : Nat → Nat), ∀ q : vw_C, vwCl[ci]? = some q → u_Kn s q.1 q.2.1 q.2.2 cC iS := by
    intro ci
    by_cases h : ci < 13
    · obtain ⟨T, ty, hvw, hTk, hin, hty, hnm⟩ := cls_ok ci h
      obtain ⟨cC, iS, hK⟩ := u_known (C := nmC ci) (T := T) (N := nF ci) (n := nF ci) hts hin (hts _ (gw_mem (inst_ok ci h)))
      exact ⟨cC, iS, fun q hq => by rw [hvw] at hq; cases hq; exact hK⟩
    · exact ⟨0, fun _ => 0, fun q hq => by
        rw [List.getElem?_eq_none (by show 13 ≤ ci; omega)] at hq
        cases hq⟩
  have harr : ∀ (ty : FieldType), (Cond.arrayClass ty) ∈ lw_tbl → (∃ a, newarray.typeOf a = ty) → ∃ cA : ClassId, ArrOfT s cA ty ∧ va_RA s cA ty := by
    intro ty hw ha
    obtain ⟨cA, kA, comp, h1, h2, h3⟩ := Cond.arrayClass_spec (hts _ hw)
    obtain ⟨a, rfl⟩ := ha
    exact ⟨cA, fun n z => ⟨fun k h => (by cases h), kA, h2, comp, h3⟩, by cases a <;> exact h1⟩
  have harq : ∀ (C : String), (Cond.arrayOver (.object C)) ∈ lw_tbl → ∃ cA : ClassId, ArrOfT s cA (.object C) ∧ va_RA s cA (.object C) := by
    intro C hw
    obtain ⟨comp, cA, kA, h1, h2, h3, h4, h5⟩ := Cond.arrayOver_spec (hts _ hw)
    exact ⟨cA, fun n z => ⟨fun k h => (by cases h), kA, h3, comp, h4⟩, kA, comp, h3, h4, h1, h5⟩
  obtain ⟨c16, k16⟩ := harr .int (gw_mem (p := 181) (by decide +kernel)) ⟨.int, rfl⟩
  obtain ⟨c17, k17⟩ := harr .boolean (gw_mem (p := 364) (by decide +kernel)) ⟨.boolean, rfl⟩
  obtain ⟨c18, k18⟩ := harr .byte (gw_mem (p := 114) (by decide +kernel)) ⟨.byte, rfl⟩
  obtain ⟨c19, k19⟩ := harr .long (gw_mem (p := 1022) (by decide +kernel)) ⟨.long, rfl⟩
  obtain ⟨c20, k20⟩ := harq RX5 (gw_mem (p := 122) (by decide +kernel))
  obtain ⟨c21, k21⟩ := harq RX0 (gw_mem (p := 190) (by decide +kernel))
  have hs := flat_of_before _ hgv
  have hel : ∀ j : Nat, j < 10 → (Term.elem (.static "MagnetRing" "PRIMES" "[I") (.int (Int32.ofNat j))).eval #[Value.ref b] s none [] s = some (.int (prm j)) := by
    intro j hj
    match j, hj with
    | 0, _ => exact va_eqt (hs _ (by decide +kernel))
    | 1, _ => exact va_eqt (hs _ (by decide +kernel))
    | 2, _ => exact va_eqt (hs _ (by decide +kernel))
    | 3, _ => exact va_eqt (hs _ (by decide +kernel))
    | 4, _ => exact va_eqt (hs _ (by decide +kernel))
    | 5, _ => exact va_eqt (hs _ (by decide +kernel))
    | 6, _ => exact va_eqt (hs _ (by decide +kernel))
    | 7, _ => exact va_eqt (hs _ (by decide +kernel))
    | 8, _ => exact va_eqt (hs _ (by decide +kernel))
    | 9, _ => exact va_eqt (hs _ (by decide +kernel))
    | n + 10, h => exact absurd h (by omega)
  obtain ⟨pr, hpr, hT⟩ := va_Tof (args := #[Value.ref b]) (s := s) (tm := .static "MagnetRing" "PRIMES" "[I") (ty := .int) (N := 10) (f := fun j => .int (prm j)) (A := fun q => s.heap.size ≤ q) (by decide) (hs _ (by decide +kernel)) (va_eqt (hs _ (by decide +kernel))) hel (fun a ha => Nat.not_le.mpr ha)
  have hZ : va_Z RX11 "PRIMES" "[I" (.ref pr) (fun q => s.heap.size ≤ q) s s.heap := va_Zof (hts _ (gw_mem (p := 817) (w := .laysStatic RX11 "PRIMES" "[I") (by decide +kernel))) (hts _ (gw_mem (p := 56) (w := .initialized RX11) (by decide +kernel))) hpr (fun a ha => Nat.not_le.mpr ha)
  have hprl : pr < s.heap.size := by
    obtain ⟨cell, h1, -⟩ := hT
    exact (Array.getElem?_eq_some_iff.mp h1).1
  refine ⟨(s.heap.size, b, pr, (fun ci => (hcls ci).choose, fun ci => (hcls ci).choose_spec.choose), fun t => if t = 16 then c16 else if t = 17 then c17 else if t = 18 then c18 else if t = 19 then c19 else if t = 20 then c20 else c21), rfl, rfl, ⟨⟨fun ci q hq => (hcls ci).choose_spec.choose_spec q hq, fun k q hk => ?_⟩, hKW⟩, ?_⟩
  · match k, hk with
    | 0, hk => cases hk; exact k16
    | 1, hk => cases hk; exact k17
    | 2, hk => cases hk; exact k18
    | 3, hk => cases hk; exact k19
    | 4, hk => cases hk; exact k20
    | 5, hk => cases hk; exact k21
  · refine ⟨fun k q hk => ?_, rfl, Nat.le_refl 3, ⟨fun j h1 h2 => ?_, fun j k t h1 h2 => ?_⟩, ⟨Nat.zero_le _, fun j k h => absurd rfl h⟩, ⟨hbl, hprl⟩, hX, hT, hZ⟩
    · cases hk
    · have : j < 3 := h2
      omega
    · have : j < 3 := h2
      omega
set_option maxHeartbeats 4000000 in
/-- THE LAW OUT OF THE ABSTRACT MACHINE: constructors with no layout, then the loop with the layout -/
theorem law_sound {p : Program} {e : Env} {s : State} {m : MethodId} {below : List Frame} {meth : Method} {c : Code} (l : Launch) {b L : Nat} {xs : Nat → Int32} (C0 : lw_At p s m meth c b L xs) (lay1 : Nat → Nat → Nat) (L1 : Nat) (hz1 : LZ lay1 L1) (stops : List Nat) (k : Nat)
    (hp : run lay0 rtOf (Cl lay0 9) k_Law_law 2 QL stops (fun q => LyOK lay1 L1 q.2.2.2 ∧ Wp lay1 rtOf (Cl lay1 9) k_Law_law 2 QL q) k (0, [aO 22 1, aZ, aZ, aZ], [], st0 L xs)) :
    W p l e room_1 s m #[Value.ref b] below meth c s.heap [] 0 0 (lw_Z below #[Value.ref b] s) (entryFrame m ([Value.ref b] : List Value).toArray 4) := by
  obtain ⟨X, hX1, hX2, hT, hH⟩ := law_world C0
  obtain ⟨hx, hb, hr, hml, hown, hts, hX, hbl, hlocks, hgv⟩ := C0
  have F : FX p s m meth c X 172 := ⟨hx, hb, hml, hown, hlocks, hr, fun hi => absurd hi (by decide +kernel), hT⟩
  have hsz : X.1 ≤ s.heap.size := by rw [hX1]; exact Nat.le_refl _
  have hret : ∀ (lay : Nat → Nat → Nat) (L0 : Nat) (K : S4 → Prop) (ins : Instr) (pc nx a b' k dd : Nat) (w : Int32) (z : Int64) (tb : List (Int32 × Nat)) (ps : List Nat) (ls st : List AV) (σ : St) (A : Act), (ins = .ireturn ∨ ins = .lreturn ∨ ins = .areturn ∨ ins = .return_) → decode (byOf 172) pc = .ok (ins, 1) → act lay (rtOf 172) (ins, nx, (a, b', k, dd), w, z, tb, ps) ls st σ = some A → stepP rtOf (Cl lay 9) QL K nx ls σ A → BS p l e room_1 s m #[Value.ref b] below meth c (lw_Z below #[Value.ref b] s) lay L0 X 172 3 0 600003 7302250 (pc, ls, st, σ) := by
    intro lay L0 K ins pc nx a b' k dd w z tb ps ls st σ A hins hd hA h
    rcases hins with rfl | rfl | rfl | rfl
    · obtain ⟨x, r, rfl, hA1⟩ := qI_some hA
      obtain ⟨rfl, hA2⟩ := endS_some hA1
      have hA2 : a7 (x = 0 ∨ x = 1) (some (aI x)) = some A := hA2
      cases hA2
      obtain ⟨-, hv, h1, h2⟩ : (x = 0 ∨ x = 1) ∧ some (aI x) = some (aI 1) ∧ sN σ ≤ 600003 ∧ sS σ ≤ 7302250 := h
      cases hv
      refine ⟨⟨h1, h2⟩, fun n1 n2 H locs Lx hH hVS hL hv1 hv2 => ?_⟩
      refine va_forget (fun q hq => by have := hVS.2.2 q hq; rw [hX1] at this; exact this) ?_
      refine W.widen (k := 600000) (n := 7302250) (show sN σ - 3 ≤ 600000 by omega) (show sS σ - 0 ≤ 7302250 by omega) ?_
      exact lw_ret hx hb hr hlocks hd
    · obtain ⟨x, r, rfl, hA1⟩ := qJ_some hA
      obtain ⟨rfl, hA2⟩ := endS_some hA1
      have hA2 : (none : Option Act) = some A := hA2
      cases hA2
    · obtain ⟨t, j, r, rfl, hA1⟩ := qR_some hA
      obtain ⟨rfl, hA2⟩ := endS_some hA1
      have hA2 : (none : Option Act) = some A := hA2
      cases hA2
    · obtain ⟨rfl, hA2⟩ := endS_some hA
      have hA2 : (none : Option Act) = some A := hA2
      cases hA2
  have hR : 9 + 1 ≤ room_1.frames ∧ 39 * (9 + 1) ≤ room_1.locals := ⟨by decide, by decide⟩
  have hRc : 600003 - 3 ≤ room_1.cells ∧ 7302250 - 0 ≤ room_1.slots := ⟨by decide, by decide⟩
  have cl1 : ∀ q, Wp lay1 rtOf (Cl lay1 9) k_Law_law 2 QL q → BS p l e room_1 s m #[Value.ref b] below meth c (lw_Z below #[Value.ref b] s) lay1 L1 X 172 3 0 600003 7302250 q := fun q h => h _ (fun q hq => sim_step (mid := 172) (d := 9) F (by decide) hsz hz1 hR hRc (cs_all l lay1 L1 X hz1 9) (fun _ h => h) (hret lay1 L1 _) hq)
  have hz0 : LZ lay0 0 := fun _ _ _ => rfl
  have cl0 : ∀ q, stepS lay0 rtOf (Cl lay0 9) k_Law_law 2 QL (BS p l e room_1 s m #[Value.ref b] below meth c (lw_Z below #[Value.ref b] s) lay0 0 X 172 3 0 600003 7302250) q → BS p l e room_1 s m #[Value.ref b] below meth c (lw_Z below #[Value.ref b] s) lay0 0 X 172 3 0 600003 7302250 q := fun q hq => sim_step (mid := 172) (d := 9) F (by decide) hsz hz0 hR hRc (cs_all l lay0 0 X hz0 9) (fun _ h => h) (hret lay0 0 _) hq
  have key := run_to (Cl_mono lay0 9) cl0 k _ (run_mono (Cl_mono lay0 9) (P' := BS p l e room_1 s m #[Value.ref b] below meth c (lw_Z below #[Value.ref b] s) lay0 0 X 172 3 0 600003 7302250) (fun q h => by
    obtain ⟨hly, hw⟩ := h
    obtain ⟨h1, h2⟩ := cl1 q hw
    refine ⟨h1, fun n1 n2 H locs Lx hH hVS hL hv1 hv2 => h2 n1 n2 H locs Lx ?_ hVS hL hv1 hv2⟩
    obtain ⟨g1, g2, g3, g4, g5, g6⟩ := hH
    exact ⟨g1, g2, g3, g4, hly, g6⟩) k _ hp)
  have hcv : ([aO 22 1] : List AV).map (cvV X) = [Value.ref b] := by
    show [cvt X 1] = _
    unfold cvt
    rw [if_neg (by decide), if_pos rfl, hX2]
  have hL := Lc_entry X (n := 4) (args := [aO 22 1]) (by decide)
  rw [hcv] at hL
  have hw := key.2 (Nat.le_refl 3) (Nat.le_refl 0) s.heap [] _ hH va_S.rf hL (fun v hv => by
    rcases List.mem_cons.mp hv with rfl | hv
    · exact Or.inr (Or.inl ⟨rfl, Or.inl rfl⟩)
    · rcases List.mem_cons.mp hv with rfl | hv
      · trivial
      · rcases List.mem_cons.mp hv with rfl | hv
        · trivial
        · rcases List.mem_cons.mp hv with rfl | hv
          · trivial
          · cases hv) (fun v hv => by cases hv)
  rw [lg_entry_eq]
  exact hw
end
section
/-! ===== the layout of what the two constructors make ===== -/
def layL : List (Nat × Nat × Nat) := [(3, 0, 4), (3, 1, 11), (3, 2, 29), (3, 3, 68), (4, 0, 5), (4, 1, 7), (4, 2, 9), (4, 3, 10), (5, 0, 6), (7, 0, 8), (11, 2, 13), (11, 3, 26), (11, 4, 27), (11, 5, 28), (29, 0, 30), (29, 1, 32), (29, 2, 35), (29, 3, 38), (29, 4, 41), (29, 5, 44), (29, 6, 45), (29, 7, 46), (29, 8, 47), (29, 9, 48), (29, 10, 49), (29, 11, 50), (29, 12, 51), (30, 1, 31), (32, 0, 33), (32, 1, 34), (35, 0, 36), (35, 1, 37), (38, 0, 39), (38, 1, 40), (41, 0, 42), (41, 1, 43), (68, 1, 69), (68, 2, 70), (71, 0, 72), (71, 9, 73), (71, 10, 74), (71, 11, 75), (71, 13, 76), (71, 14, 77), (71, 15, 78), (71, 20, 79), (71, 21, 80), (71, 22, 81), (71, 24, 82), (71, 25, 83), (71, 26, 84), (71, 32, 85), (71, 33, 86), (71, 34, 87), (71, 35, 88), (71, 36, 89), (71, 40, 90), (71, 41, 91), (71, 43, 92), (71, 48, 93), (71, 49, 94)]
def lkl : List (Nat × Nat × Nat) → Nat → Nat → Nat
  | [], _, _ => 0
  | q :: r, j, k => bif Nat.beq q.1 j && Nat.beq q.2.1 k then q.2.2 else lkl r j k
def lay1 (j k : Nat) : Nat := lkl layL j k
set_option maxRecDepth 50000 in
theorem bk0_Fr_init_0 {d : Nat} {σ : St} {Q : Option AV → St → Prop} (x0 : Nat)
    (h : Wp lay0 rtOf (Cl lay0 d) k_Fr_init 0 Q (9, [aO 0 (x0 + 1)], [], (pL σ (x0 + 1) 1 (1 : Int64)))) : Cl lay0 (d + 1) M_Fr_init [aO 0 (x0 + 1)] σ Q :=
  run_intro (Cl_mono lay0 d) [9] 600 h
set_option maxRecDepth 50000 in
theorem bk0_Fr_init_9 {d : Nat} {σ : St} {Q : Option AV → St → Prop} (u0 : AV)
    (h : Q none σ) : Wp lay0 rtOf (Cl lay0 d) k_Fr_init 0 Q (9, [u0], [], σ) :=
  run_intro (Cl_mono lay0 d) [9] 600 h
set_option maxRecDepth 50000 in
theorem bk0_La_init_0 {d : Nat} {σ : St} {Q : Option AV → St → Prop} (x0 : Nat)
    (h : Wp lay0 rtOf (Cl lay0 d) k_La_init 0 Q (9, [aO 1 (x0 + 1)], [], (pI σ (x0 + 1) 0 (3 : Int32)))) : Cl lay0 (d + 1) M_La_init [aO 1 (x0 + 1)] σ Q :=
  run_intro (Cl_mono lay0 d) [9, 17, 26] 600 h
set_option maxRecDepth 50000 in
theorem bk0_La_init_9 {d : Nat} {σ : St} {Q : Option AV → St → Prop} (x0 : Nat)
    (h : (0 ≤ (80 : Int32).toInt ∧ (80 : Int32).toInt ≤ 40000) ∧ (layC lay0 (x0 + 1) 1 (sN σ) ∧ (Wp lay0 rtOf (Cl lay0 d) k_La_init 0 Q (17, [aO 1 (x0 + 1)], [], (pR (nw σ 16 (ix (80 : Int32))) (x0 + 1) 1 (sN σ)))))) : Wp lay0 rtOf (Cl lay0 d) k_La_init 0 Q (9, [aO 1 (x0 + 1)], [], σ) :=
  run_intro (Cl_mono lay0 d) [9, 17, 26] 600 h
set_option maxRecDepth 50000 in
theorem bk0_La_init_17 {d : Nat} {σ : St} {Q : Option AV → St → Prop} (x0 : Nat)
    (h : (0 ≤ (961 : Int32).toInt ∧ (961 : Int32).toInt ≤ 40000) ∧ (layC lay0 (x0 + 1) 2 (sN σ) ∧ (Wp lay0 rtOf (Cl lay0 d) k_La_init 0 Q (26, [aO 1 (x0 + 1)], [], (pR (nw σ 17 (ix (961 : Int32))) (x0 + 1) 2 (sN σ)))))) : Wp lay0 rtOf (Cl lay0 d) k_La_init 0 Q (17, [aO 1 (x0 + 1)], [], σ) :=
  run_intro (Cl_mono lay0 d) [9, 17, 26] 600 h
set_option maxRecDepth 50000 in
theorem bk0_La_init_26 {d : Nat} {σ : St} {Q : Option AV → St → Prop} (u0 : AV)
    (h : Q none σ) : Wp lay0 rtOf (Cl lay0 d) k_La_init 0 Q (26, [u0], [], σ) :=
  run_intro (Cl_mono lay0 d) [9, 17, 26] 600 h
set_option maxRecDepth 50000 in
theorem bk0_Mo_init_0 {d : Nat} {σ : St} {Q : Option AV → St → Prop} (x0 : Nat)
    (h : nn (sN σ) (Cl lay0 d M_Fr_init [aO 0 (sN σ)] (nw σ 0 (nF 0)) (rV fun σ1 => layC lay0 (x0 + 1) 0 (sN σ) ∧ (Wp lay0 rtOf (Cl lay0 d) k_Mo_init 0 Q (15, [aO 3 (x0 + 1)], [], (pR σ1 (x0 + 1) 0 (sN σ))))))) : Cl lay0 (d + 1) M_Mo_init [aO 3 (x0 + 1)] σ Q :=
  run_intro (Cl_mono lay0 d) [15, 26] 600 h
set_option maxRecDepth 50000 in
theorem bk0_Mo_init_15 {d : Nat} {σ : St} {Q : Option AV → St → Prop} (x0 : Nat)
    (h : nn (sN σ) (Cl lay0 d M_Fr_init [aO 0 (sN σ)] (nw σ 0 (nF 0)) (rV fun σ1 => layC lay0 (x0 + 1) 1 (sN σ) ∧ (Wp lay0 rtOf (Cl lay0 d) k_Mo_init 0 Q (26, [aO 3 (x0 + 1)], [], (pR σ1 (x0 + 1) 1 (sN σ))))))) : Wp lay0 rtOf (Cl lay0 d) k_Mo_init 0 Q (15, [aO 3 (x0 + 1)], [], σ) :=
  run_intro (Cl_mono lay0 d) [15, 26] 600 h
set_option maxRecDepth 50000 in
theorem bk0_Mo_init_26 {d : Nat} {σ : St} {Q : Option AV → St → Prop} (u0 : AV)
    (h : Q none σ) : Wp lay0 rtOf (Cl lay0 d) k_Mo_init 0 Q (26, [u0], [], σ) :=
  run_intro (Cl_mono lay0 d) [15, 26] 600 h
set_option maxRecDepth 50000 in
theorem bk0_Op_init_0 {d : Nat} {σ : St} {Q : Option AV → St → Prop} (x0 : Nat)
    (h : nn (sN σ) (Cl lay0 d M_Rk_init [aO 7 (sN σ)] (nw σ 7 (nF 7)) (rV fun σ1 => layC lay0 (x0 + 1) 0 (sN σ) ∧ (Wp lay0 rtOf (Cl lay0 d) k_Op_init 0 Q (15, [aO 4 (x0 + 1), aZ], [], (pR σ1 (x0 + 1) 0 (sN σ))))))) : Cl lay0 (d + 1) M_Op_init [aO 4 (x0 + 1)] σ Q :=
  run_intro (Cl_mono lay0 d) [15, 26, 37, 48, 59, 70, 81, 92, 103, 114, 125, 134, 142, 144, 163, 171, 189] 600 h
set_option maxRecDepth 50000 in
theorem bk0_Op_init_15 {d : Nat} {σ : St} {Q : Option AV → St → Prop} (x0 : Nat) (u1 : AV)
    (h : nn (sN σ) (Cl lay0 d M_Mo_init [aO 3 (sN σ)] (nw σ 3 (nF 3)) (rV fun σ1 => layC lay0 (x0 + 1) 1 (sN σ) ∧ (Wp lay0 rtOf (Cl lay0 d) k_Op_init 0 Q (26, [aO 4 (x0 + 1), u1], [], (pR σ1 (x0 + 1) 1 (sN σ))))))) : Wp lay0 rtOf (Cl lay0 d) k_Op_init 0 Q (15, [aO 4 (x0 + 1), u1], [], σ) :=
  run_intro (Cl_mono lay0 d) [15, 26, 37, 48, 59, 70, 81, 92, 103, 114, 125, 134, 142, 144, 163, 171, 189] 600 h
set_option maxRecDepth 50000 in
theorem bk0_Op_init_26 {d : Nat} {σ : St} {Q : Option AV → St → Prop} (x0 : Nat) (u1 : AV)
    (h : nn (sN σ) (Cl lay0 d M_Mo_init [aO 3 (sN σ)] (nw σ 3 (nF 3)) (rV fun σ1 => layC lay0 (x0 + 1) 2 (sN σ) ∧ (Wp lay0 rtOf (Cl lay0 d) k_Op_init 0 Q (37, [aO 4 (x0 + 1), u1], [], (pR σ1 (x0 + 1) 2 (sN σ))))))) : Wp lay0 rtOf (Cl lay0 d) k_Op_init 0 Q (26, [aO 4 (x0 + 1), u1], [], σ) :=
  run_intro (Cl_mono lay0 d) [15, 26, 37, 48, 59, 70, 81, 92, 103, 114, 125, 134, 142, 144, 163, 171, 189] 600 h
set_option maxRecDepth 50000 in
theorem bk0_Op_init_37 {d : Nat} {σ : St} {Q : Option AV → St → Prop} (x0 : Nat) (u1 : AV)
    (h : nn (sN σ) (Cl lay0 d M_Mo_init [aO 3 (sN σ)] (nw σ 3 (nF 3)) (rV fun σ1 => layC lay0 (x0 + 1) 3 (sN σ) ∧ (Wp lay0 rtOf (Cl lay0 d) k_Op_init 0 Q (48, [aO 4 (x0 + 1), u1], [], (pR σ1 (x0 + 1) 3 (sN σ))))))) : Wp lay0 rtOf (Cl lay0 d) k_Op_init 0 Q (37, [aO 4 (x0 + 1), u1], [], σ) :=
  run_intro (Cl_mono lay0 d) [15, 26, 37, 48, 59, 70, 81, 92, 103, 114, 125, 134, 142, 144, 163, 171, 189] 600 h
set_option maxRecDepth 50000 in
theorem bk0_Op_init_48 {d : Nat} {σ : St} {Q : Option AV → St → Prop} (x0 : Nat) (u1 : AV)
    (h : nn (sN σ) (Cl lay0 d M_Mo_init [aO 3 (sN σ)] (nw σ 3 (nF 3)) (rV fun σ1 => layC lay0 (x0 + 1) 4 (sN σ) ∧ (Wp lay0 rtOf (Cl lay0 d) k_Op_init 0 Q (59, [aO 4 (x0 + 1), u1], [], (pR σ1 (x0 + 1) 4 (sN σ))))))) : Wp lay0 rtOf (Cl lay0 d) k_Op_init 0 Q (48, [aO 4 (x0 + 1), u1], [], σ) :=
  run_intro (Cl_mono lay0 d) [15, 26, 37, 48, 59, 70, 81, 92, 103, 114, 125, 134, 142, 144, 163, 171, 189] 600 h
set_option maxRecDepth 50000 in
theorem bk0_Op_init_59 {d : Nat} {σ : St} {Q : Option AV → St → Prop} (x0 : Nat) (u1 : AV)
    (h : nn (sN σ) (Cl lay0 d M_Fr_init [aO 0 (sN σ)] (nw σ 0 (nF 0)) (rV fun σ1 => layC lay0 (x0 + 1) 5 (sN σ) ∧ (Wp lay0 rtOf (Cl lay0 d) k_Op_init 0 Q (70, [aO 4 (x0 + 1), u1], [], (pR σ1 (x0 + 1) 5 (sN σ))))))) : Wp lay0 rtOf (Cl lay0 d) k_Op_init 0 Q (59, [aO 4 (x0 + 1), u1], [], σ) :=
  run_intro (Cl_mono lay0 d) [15, 26, 37, 48, 59, 70, 81, 92, 103, 114, 125, 134, 142, 144, 163, 171, 189] 600 h
set_option maxRecDepth 50000 in
theorem bk0_Op_init_70 {d : Nat} {σ : St} {Q : Option AV → St → Prop} (x0 : Nat) (u1 : AV)
    (h : nn (sN σ) (Cl lay0 d M_Fr_init [aO 0 (sN σ)] (nw σ 0 (nF 0)) (rV fun σ1 => layC lay0 (x0 + 1) 6 (sN σ) ∧ (Wp lay0 rtOf (Cl lay0 d) k_Op_init 0 Q (81, [aO 4 (x0 + 1), u1], [], (pR σ1 (x0 + 1) 6 (sN σ))))))) : Wp lay0 rtOf (Cl lay0 d) k_Op_init 0 Q (70, [aO 4 (x0 + 1), u1], [], σ) :=
  run_intro (Cl_mono lay0 d) [15, 26, 37, 48, 59, 70, 81, 92, 103, 114, 125, 134, 142, 144, 163, 171, 189] 600 h
set_option maxRecDepth 50000 in
theorem bk0_Op_init_81 {d : Nat} {σ : St} {Q : Option AV → St → Prop} (x0 : Nat) (u1 : AV)
    (h : nn (sN σ) (Cl lay0 d M_Fr_init [aO 0 (sN σ)] (nw σ 0 (nF 0)) (rV fun σ1 => layC lay0 (x0 + 1) 7 (sN σ) ∧ (Wp lay0 rtOf (Cl lay0 d) k_Op_init 0 Q (92, [aO 4 (x0 + 1), u1], [], (pR σ1 (x0 + 1) 7 (sN σ))))))) : Wp lay0 rtOf (Cl lay0 d) k_Op_init 0 Q (81, [aO 4 (x0 + 1), u1], [], σ) :=
  run_intro (Cl_mono lay0 d) [15, 26, 37, 48, 59, 70, 81, 92, 103, 114, 125, 134, 142, 144, 163, 171, 189] 600 h
set_option maxRecDepth 50000 in
theorem bk0_Op_init_92 {d : Nat} {σ : St} {Q : Option AV → St → Prop} (x0 : Nat) (u1 : AV)
    (h : nn (sN σ) (Cl lay0 d M_Fr_init [aO 0 (sN σ)] (nw σ 0 (nF 0)) (rV fun σ1 => layC lay0 (x0 + 1) 8 (sN σ) ∧ (Wp lay0 rtOf (Cl lay0 d) k_Op_init 0 Q (103, [aO 4 (x0 + 1), u1], [], (pR σ1 (x0 + 1) 8 (sN σ))))))) : Wp lay0 rtOf (Cl lay0 d) k_Op_init 0 Q (92, [aO 4 (x0 + 1), u1], [], σ) :=
  run_intro (Cl_mono lay0 d) [15, 26, 37, 48, 59, 70, 81, 92, 103, 114, 125, 134, 142, 144, 163, 171, 189] 600 h
set_option maxRecDepth 50000 in
theorem bk0_Op_init_103 {d : Nat} {σ : St} {Q : Option AV → St → Prop} (x0 : Nat) (u1 : AV)
    (h : nn (sN σ) (Cl lay0 d M_Fr_init [aO 0 (sN σ)] (nw σ 0 (nF 0)) (rV fun σ1 => layC lay0 (x0 + 1) 9 (sN σ) ∧ (Wp lay0 rtOf (Cl lay0 d) k_Op_init 0 Q (114, [aO 4 (x0 + 1), u1], [], (pR σ1 (x0 + 1) 9 (sN σ))))))) : Wp lay0 rtOf (Cl lay0 d) k_Op_init 0 Q (103, [aO 4 (x0 + 1), u1], [], σ) :=
  run_intro (Cl_mono lay0 d) [15, 26, 37, 48, 59, 70, 81, 92, 103, 114, 125, 134, 142, 144, 163, 171, 189] 600 h
set_option maxRecDepth 50000 in
theorem bk0_Op_init_114 {d : Nat} {σ : St} {Q : Option AV → St → Prop} (x0 : Nat) (u1 : AV)
    (h : nn (sN σ) (Cl lay0 d M_Fr_init [aO 0 (sN σ)] (nw σ 0 (nF 0)) (rV fun σ1 => layC lay0 (x0 + 1) 10 (sN σ) ∧ (Wp lay0 rtOf (Cl lay0 d) k_Op_init 0 Q (125, [aO 4 (x0 + 1), u1], [], (pR σ1 (x0 + 1) 10 (sN σ))))))) : Wp lay0 rtOf (Cl lay0 d) k_Op_init 0 Q (114, [aO 4 (x0 + 1), u1], [], σ) :=
  run_intro (Cl_mono lay0 d) [15, 26, 37, 48, 59, 70, 81, 92, 103, 114, 125, 134, 142, 144, 163, 171, 189] 600 h
set_option maxRecDepth 50000 in
theorem bk0_Op_init_125 {d : Nat} {σ : St} {Q : Option AV → St → Prop} (x0 : Nat) (u1 : AV)
    (h : (0 ≤ (12 : Int32).toInt ∧ (12 : Int32).toInt ≤ 40000) ∧ (layC lay0 (x0 + 1) 11 (sN σ) ∧ (Wp lay0 rtOf (Cl lay0 d) k_Op_init 0 Q (134, [aO 4 (x0 + 1), u1], [], (pR (nw σ 21 (ix (12 : Int32))) (x0 + 1) 11 (sN σ)))))) : Wp lay0 rtOf (Cl lay0 d) k_Op_init 0 Q (125, [aO 4 (x0 + 1), u1], [], σ) :=
  run_intro (Cl_mono lay0 d) [15, 26, 37, 48, 59, 70, 81, 92, 103, 114, 125, 134, 142, 144, 163, 171, 189] 600 h
set_option maxRecDepth 50000 in
theorem bk0_Op_init_134 {d : Nat} {σ : St} {Q : Option AV → St → Prop} (x0 : Nat) (u1 : AV)
    (h : (0 ≤ (4 : Int32).toInt ∧ (4 : Int32).toInt ≤ 40000) ∧ (layC lay0 (x0 + 1) 12 (sN σ) ∧ (Wp lay0 rtOf (Cl lay0 d) k_Op_init 0 Q (142, [aO 4 (x0 + 1), u1], [], (pR (nw σ 21 (ix (4 : Int32))) (x0 + 1) 12 (sN σ)))))) : Wp lay0 rtOf (Cl lay0 d) k_Op_init 0 Q (134, [aO 4 (x0 + 1), u1], [], σ) :=
  run_intro (Cl_mono lay0 d) [15, 26, 37, 48, 59, 70, 81, 92, 103, 114, 125, 134, 142, 144, 163, 171, 189] 600 h
set_option maxRecDepth 50000 in
theorem bk0_Op_init_142 {d : Nat} {σ : St} {Q : Option AV → St → Prop} (x0 : Nat) (u1 : AV)
    (h : Wp lay0 rtOf (Cl lay0 d) k_Op_init 0 Q (144, [aO 4 (x0 + 1), aI (0 : Int32)], [], σ)) : Wp lay0 rtOf (Cl lay0 d) k_Op_init 0 Q (142, [aO 4 (x0 + 1), u1], [], σ) :=
  run_intro (Cl_mono lay0 d) [15, 26, 37, 48, 59, 70, 81, 92, 103, 114, 125, 134, 142, 144, 163, 171, 189] 600 h
set_option maxRecDepth 50000 in
theorem bk0_Op_init_144 {d : Nat} {σ : St} {Q : Option AV → St → Prop} (x0 : Nat) (x1 : Int32)
    (h : ((12 : Int32) ≤ x1 → Wp lay0 rtOf (Cl lay0 d) k_Op_init 0 Q (171, [aO 4 (x0 + 1), aI (0 : Int32)], [], σ)) ∧ (¬ (12 : Int32) ≤ x1 → nn (sN σ) (Cl lay0 d M_Fr_init [aO 0 (sN σ)] (nw σ 0 (nF 0)) (rV fun σ1 => nn (gR σ (x0 + 1) 11) ((inb x1 (gN σ1 (gR σ (x0 + 1) 11)) ∧ layC lay0 (gR σ (x0 + 1) 11) (ix x1) (sN σ)) ∧ (Wp lay0 rtOf (Cl lay0 d) k_Op_init 0 Q (163, [aO 4 (x0 + 1), aI x1], [], (pR σ1 (gR σ (x0 + 1) 11) (ix x1) (sN σ))))))))) : Wp lay0 rtOf (Cl lay0 d) k_Op_init 0 Q (144, [aO 4 (x0 + 1), aI x1], [], σ) :=
  run_intro (Cl_mono lay0 d) [15, 26, 37, 48, 59, 70, 81, 92, 103, 114, 125, 134, 142, 144, 163, 171, 189] 600 h
set_option maxRecDepth 50000 in
theorem bk0_Op_init_163 {d : Nat} {σ : St} {Q : Option AV → St → Prop} (x0 : Nat) (x1 : Int32)
    (h : Wp lay0 rtOf (Cl lay0 d) k_Op_init 0 Q (144, [aO 4 (x0 + 1), aI (x1 + (1 : Int32))], [], σ)) : Wp lay0 rtOf (Cl lay0 d) k_Op_init 0 Q (163, [aO 4 (x0 + 1), aI x1], [], σ) :=
  run_intro (Cl_mono lay0 d) [15, 26, 37, 48, 59, 70, 81, 92, 103, 114, 125, 134, 142, 144, 163, 171, 189] 600 h
set_option maxRecDepth 50000 in
theorem bk0_Op_init_171 {d : Nat} {σ : St} {Q : Option AV → St → Prop} (x0 : Nat) (x1 : Int32)
    (h : ((4 : Int32) ≤ x1 → Q none σ) ∧ (¬ (4 : Int32) ≤ x1 → nn (sN σ) (Cl lay0 d M_Fr_init [aO 0 (sN σ)] (nw σ 0 (nF 0)) (rV fun σ1 => nn (gR σ (x0 + 1) 12) ((inb x1 (gN σ1 (gR σ (x0 + 1) 12)) ∧ layC lay0 (gR σ (x0 + 1) 12) (ix x1) (sN σ)) ∧ (Wp lay0 rtOf (Cl lay0 d) k_Op_init 0 Q (189, [aO 4 (x0 + 1), aI x1], [], (pR σ1 (gR σ (x0 + 1) 12) (ix x1) (sN σ))))))))) : Wp lay0 rtOf (Cl lay0 d) k_Op_init 0 Q (171, [aO 4 (x0 + 1), aI x1], [], σ) :=
  run_intro (Cl_mono lay0 d) [15, 26, 37, 48, 59, 70, 81, 92, 103, 114, 125, 134, 142, 144, 163, 171, 189] 600 h
set_option maxRecDepth 50000 in
theorem bk0_Op_init_189 {d : Nat} {σ : St} {Q : Option AV → St → Prop} (x0 : Nat) (x1 : Int32)
    (h : Wp lay0 rtOf (Cl lay0 d) k_Op_init 0 Q (171, [aO 4 (x0 + 1), aI (x1 + (1 : Int32))], [], σ)) : Wp lay0 rtOf (Cl lay0 d) k_Op_init 0 Q (189, [aO 4 (x0 + 1), aI x1], [], σ) :=
  run_intro (Cl_mono lay0 d) [15, 26, 37, 48, 59, 70, 81, 92, 103, 114, 125, 134, 142, 144, 163, 171, 189] 600 h
set_option maxRecDepth 50000 in
theorem bk0_Re_init_0 {d : Nat} {σ : St} {Q : Option AV → St → Prop} (x0 : Nat)
    (h : nn (sN σ) (Cl lay0 d M_Te_init [aO 10 (sN σ)] (nw σ 10 (nF 10)) (rV fun σ1 => layC lay0 (x0 + 1) 0 (sN σ) ∧ (Wp lay0 rtOf (Cl lay0 d) k_Re_init 0 Q (15, [aO 6 (x0 + 1)], [], (pR σ1 (x0 + 1) 0 (sN σ))))))) : Cl lay0 (d + 1) M_Re_init [aO 6 (x0 + 1)] σ Q :=
  run_intro (Cl_mono lay0 d) [15, 26, 34, 42] 600 h
set_option maxRecDepth 50000 in
theorem bk0_Re_init_15 {d : Nat} {σ : St} {Q : Option AV → St → Prop} (x0 : Nat)
    (h : nn (sN σ) (Cl lay0 d M_Ro_init [aO 9 (sN σ)] (nw σ 9 (nF 9)) (rV fun σ1 => layC lay0 (x0 + 1) 1 (sN σ) ∧ (Wp lay0 rtOf (Cl lay0 d) k_Re_init 0 Q (26, [aO 6 (x0 + 1)], [], (pR σ1 (x0 + 1) 1 (sN σ))))))) : Wp lay0 rtOf (Cl lay0 d) k_Re_init 0 Q (15, [aO 6 (x0 + 1)], [], σ) :=
  run_intro (Cl_mono lay0 d) [15, 26, 34, 42] 600 h
set_option maxRecDepth 50000 in
theorem bk0_Re_init_26 {d : Nat} {σ : St} {Q : Option AV → St → Prop} (x0 : Nat)
    (h : (0 ≤ (6 : Int32).toInt ∧ (6 : Int32).toInt ≤ 40000) ∧ (layC lay0 (x0 + 1) 2 (sN σ) ∧ (Wp lay0 rtOf (Cl lay0 d) k_Re_init 0 Q (34, [aO 6 (x0 + 1)], [], (pR (nw σ 16 (ix (6 : Int32))) (x0 + 1) 2 (sN σ)))))) : Wp lay0 rtOf (Cl lay0 d) k_Re_init 0 Q (26, [aO 6 (x0 + 1)], [], σ) :=
  run_intro (Cl_mono lay0 d) [15, 26, 34, 42] 600 h
set_option maxRecDepth 50000 in
theorem bk0_Re_init_34 {d : Nat} {σ : St} {Q : Option AV → St → Prop} (x0 : Nat)
    (h : (0 ≤ (6 : Int32).toInt ∧ (6 : Int32).toInt ≤ 40000) ∧ (layC lay0 (x0 + 1) 3 (sN σ) ∧ (Wp lay0 rtOf (Cl lay0 d) k_Re_init 0 Q (42, [aO 6 (x0 + 1)], [], (pR (nw σ 16 (ix (6 : Int32))) (x0 + 1) 3 (sN σ)))))) : Wp lay0 rtOf (Cl lay0 d) k_Re_init 0 Q (34, [aO 6 (x0 + 1)], [], σ) :=
  run_intro (Cl_mono lay0 d) [15, 26, 34, 42] 600 h
set_option maxRecDepth 50000 in
theorem bk0_Re_init_42 {d : Nat} {σ : St} {Q : Option AV → St → Prop} (u0 : AV)
    (h : Q none σ) : Wp lay0 rtOf (Cl lay0 d) k_Re_init 0 Q (42, [u0], [], σ) :=
  run_intro (Cl_mono lay0 d) [15, 26, 34, 42] 600 h
set_option maxRecDepth 50000 in
theorem bk0_Rk_init_0 {d : Nat} {σ : St} {Q : Option AV → St → Prop} (x0 : Nat)
    (h : nn (sN σ) (Cl lay0 d M_Fr_init [aO 0 (sN σ)] (nw σ 0 (nF 0)) (rV fun σ1 => layC lay0 (x0 + 1) 1 (sN σ) ∧ (Wp lay0 rtOf (Cl lay0 d) k_Rk_init 0 Q (15, [aO 7 (x0 + 1)], [], (pR σ1 (x0 + 1) 1 (sN σ))))))) : Cl lay0 (d + 1) M_Rk_init [aO 7 (x0 + 1)] σ Q :=
  run_intro (Cl_mono lay0 d) [15] 600 h
set_option maxRecDepth 50000 in
theorem bk0_Rk_init_15 {d : Nat} {σ : St} {Q : Option AV → St → Prop} (u0 : AV)
    (h : Q none σ) : Wp lay0 rtOf (Cl lay0 d) k_Rk_init 0 Q (15, [u0], [], σ) :=
  run_intro (Cl_mono lay0 d) [15] 600 h
set_option maxRecDepth 50000 in
theorem bk0_Ri_init_0 {d : Nat} {σ : St} {Q : Option AV → St → Prop} (x0 : Nat)
    (h : (0 ≤ (0 : Int32).toInt ∧ (0 : Int32).toInt ≤ 40000) ∧ (layC lay0 (x0 + 1) 0 (sN σ) ∧ (Wp lay0 rtOf (Cl lay0 d) k_Ri_init 0 Q (12, [aO 8 (x0 + 1), aZ], [], (pR (nw σ 20 (ix (0 : Int32))) (x0 + 1) 0 (sN σ)))))) : Cl lay0 (d + 1) M_Ri_init [aO 8 (x0 + 1)] σ Q :=
  run_intro (Cl_mono lay0 d) [12, 21, 23, 42, 56, 64, 72] 600 h
set_option maxRecDepth 50000 in
theorem bk0_Ri_init_12 {d : Nat} {σ : St} {Q : Option AV → St → Prop} (x0 : Nat) (u1 : AV)
    (h : (0 ≤ (12 : Int32).toInt ∧ (12 : Int32).toInt ≤ 40000) ∧ (layC lay0 (x0 + 1) 2 (sN σ) ∧ (Wp lay0 rtOf (Cl lay0 d) k_Ri_init 0 Q (21, [aO 8 (x0 + 1), u1], [], (pR (nw σ 21 (ix (12 : Int32))) (x0 + 1) 2 (sN σ)))))) : Wp lay0 rtOf (Cl lay0 d) k_Ri_init 0 Q (12, [aO 8 (x0 + 1), u1], [], σ) :=
  run_intro (Cl_mono lay0 d) [12, 21, 23, 42, 56, 64, 72] 600 h
set_option maxRecDepth 50000 in
theorem bk0_Ri_init_21 {d : Nat} {σ : St} {Q : Option AV → St → Prop} (x0 : Nat) (u1 : AV)
    (h : Wp lay0 rtOf (Cl lay0 d) k_Ri_init 0 Q (23, [aO 8 (x0 + 1), aI (0 : Int32)], [], σ)) : Wp lay0 rtOf (Cl lay0 d) k_Ri_init 0 Q (21, [aO 8 (x0 + 1), u1], [], σ) :=
  run_intro (Cl_mono lay0 d) [12, 21, 23, 42, 56, 64, 72] 600 h
set_option maxRecDepth 50000 in
theorem bk0_Ri_init_23 {d : Nat} {σ : St} {Q : Option AV → St → Prop} (x0 : Nat) (x1 : Int32)
    (h : ((12 : Int32) ≤ x1 → (0 ≤ (12 : Int32).toInt ∧ (12 : Int32).toInt ≤ 40000) ∧ (layC lay0 (x0 + 1) 3 (sN σ) ∧ (Wp lay0 rtOf (Cl lay0 d) k_Ri_init 0 Q (56, [aO 8 (x0 + 1), aI x1], [], (pR (nw σ 16 (ix (12 : Int32))) (x0 + 1) 3 (sN σ)))))) ∧ (¬ (12 : Int32) ≤ x1 → nn (sN σ) (Cl lay0 d M_Fr_init [aO 0 (sN σ)] (nw σ 0 (nF 0)) (rV fun σ1 => nn (gR σ (x0 + 1) 2) ((inb x1 (gN σ1 (gR σ (x0 + 1) 2)) ∧ layC lay0 (gR σ (x0 + 1) 2) (ix x1) (sN σ)) ∧ (Wp lay0 rtOf (Cl lay0 d) k_Ri_init 0 Q (42, [aO 8 (x0 + 1), aI x1], [], (pR σ1 (gR σ (x0 + 1) 2) (ix x1) (sN σ))))))))) : Wp lay0 rtOf (Cl lay0 d) k_Ri_init 0 Q (23, [aO 8 (x0 + 1), aI x1], [], σ) :=
  run_intro (Cl_mono lay0 d) [12, 21, 23, 42, 56, 64, 72] 600 h
set_option maxRecDepth 50000 in
theorem bk0_Ri_init_42 {d : Nat} {σ : St} {Q : Option AV → St → Prop} (x0 : Nat) (x1 : Int32)
    (h : Wp lay0 rtOf (Cl lay0 d) k_Ri_init 0 Q (23, [aO 8 (x0 + 1), aI (x1 + (1 : Int32))], [], σ)) : Wp lay0 rtOf (Cl lay0 d) k_Ri_init 0 Q (42, [aO 8 (x0 + 1), aI x1], [], σ) :=
  run_intro (Cl_mono lay0 d) [12, 21, 23, 42, 56, 64, 72] 600 h
set_option maxRecDepth 50000 in
theorem bk0_Ri_init_56 {d : Nat} {σ : St} {Q : Option AV → St → Prop} (x0 : Nat) (u1 : AV)
    (h : (0 ≤ (12 : Int32).toInt ∧ (12 : Int32).toInt ≤ 40000) ∧ (layC lay0 (x0 + 1) 4 (sN σ) ∧ (Wp lay0 rtOf (Cl lay0 d) k_Ri_init 0 Q (64, [aO 8 (x0 + 1), u1], [], (pR (nw σ 16 (ix (12 : Int32))) (x0 + 1) 4 (sN σ)))))) : Wp lay0 rtOf (Cl lay0 d) k_Ri_init 0 Q (56, [aO 8 (x0 + 1), u1], [], σ) :=
  run_intro (Cl_mono lay0 d) [12, 21, 23, 42, 56, 64, 72] 600 h
set_option maxRecDepth 50000 in
theorem bk0_Ri_init_64 {d : Nat} {σ : St} {Q : Option AV → St → Prop} (x0 : Nat) (u1 : AV)
    (h : (0 ≤ (80 : Int32).toInt ∧ (80 : Int32).toInt ≤ 40000) ∧ (layC lay0 (x0 + 1) 5 (sN σ) ∧ (Wp lay0 rtOf (Cl lay0 d) k_Ri_init 0 Q (72, [aO 8 (x0 + 1), u1], [], (pR (nw σ 16 (ix (80 : Int32))) (x0 + 1) 5 (sN σ)))))) : Wp lay0 rtOf (Cl lay0 d) k_Ri_init 0 Q (64, [aO 8 (x0 + 1), u1], [], σ) :=
  run_intro (Cl_mono lay0 d) [12, 21, 23, 42, 56, 64, 72] 600 h
set_option maxRecDepth 50000 in
theorem bk0_Ri_init_72 {d : Nat} {σ : St} {Q : Option AV → St → Prop} (u0 : AV) (u1 : AV)
    (h : Q none σ) : Wp lay0 rtOf (Cl lay0 d) k_Ri_init 0 Q (72, [u0, u1], [], σ) :=
  run_intro (Cl_mono lay0 d) [12, 21, 23, 42, 56, 64, 72] 600 h
set_option maxRecDepth 50000 in
theorem bk0_Ro_init_0 {d : Nat} {σ : St} {Q : Option AV → St → Prop} (x0 : Nat)
    (h : (0 ≤ (80 : Int32).toInt ∧ (80 : Int32).toInt ≤ 40000) ∧ (layC lay0 (x0 + 1) 0 (sN σ) ∧ (Wp lay0 rtOf (Cl lay0 d) k_Ro_init 0 Q (13, [aO 9 (x0 + 1)], [], (pR (nw σ 20 (ix (80 : Int32))) (x0 + 1) 0 (sN σ)))))) : Cl lay0 (d + 1) M_Ro_init [aO 9 (x0 + 1)] σ Q :=
  run_intro (Cl_mono lay0 d) [13] 600 h
set_option maxRecDepth 50000 in
theorem bk0_Ro_init_13 {d : Nat} {σ : St} {Q : Option AV → St → Prop} (u0 : AV)
    (h : Q none σ) : Wp lay0 rtOf (Cl lay0 d) k_Ro_init 0 Q (13, [u0], [], σ) :=
  run_intro (Cl_mono lay0 d) [13] 600 h
set_option maxRecDepth 50000 in
theorem bk0_Te_init_0 {d : Nat} {σ : St} {Q : Option AV → St → Prop} (x0 : Nat)
    (h : (0 ≤ (1500 : Int32).toInt ∧ (1500 : Int32).toInt ≤ 40000) ∧ (layC lay0 (x0 + 1) 0 (sN σ) ∧ (Wp lay0 rtOf (Cl lay0 d) k_Te_init 0 Q (13, [aO 10 (x0 + 1)], [], (pR (nw σ 18 (ix (1500 : Int32))) (x0 + 1) 0 (sN σ)))))) : Cl lay0 (d + 1) M_Te_init [aO 10 (x0 + 1)] σ Q :=
  run_intro (Cl_mono lay0 d) [13] 600 h
set_option maxRecDepth 50000 in
theorem bk0_Te_init_13 {d : Nat} {σ : St} {Q : Option AV → St → Prop} (u0 : AV)
    (h : Q none σ) : Wp lay0 rtOf (Cl lay0 d) k_Te_init 0 Q (13, [u0], [], σ) :=
  run_intro (Cl_mono lay0 d) [13] 600 h
set_option maxRecDepth 50000 in
theorem bk0_C_init_0 {d : Nat} {σ : St} {Q : Option AV → St → Prop} (x0 : Nat)
    (h : nn (sN σ) (Cl lay0 d M_Re_init [aO 6 (sN σ)] (nw σ 6 (nF 6)) (rV fun σ1 => layC lay0 (x0 + 1) 0 (sN σ) ∧ (Wp lay0 rtOf (Cl lay0 d) k_C_init 0 Q (15, [aO 11 (x0 + 1)], [], (pR σ1 (x0 + 1) 0 (sN σ))))))) : Cl lay0 (d + 1) M_C_init [aO 11 (x0 + 1)] σ Q :=
  run_intro (Cl_mono lay0 d) [15, 26, 37, 48, 54] 600 h
set_option maxRecDepth 50000 in
theorem bk0_C_init_15 {d : Nat} {σ : St} {Q : Option AV → St → Prop} (x0 : Nat)
    (h : nn (sN σ) (Cl lay0 d M_Ri_init [aO 8 (sN σ)] (nw σ 8 (nF 8)) (rV fun σ1 => layC lay0 (x0 + 1) 1 (sN σ) ∧ (Wp lay0 rtOf (Cl lay0 d) k_C_init 0 Q (26, [aO 11 (x0 + 1)], [], (pR σ1 (x0 + 1) 1 (sN σ))))))) : Wp lay0 rtOf (Cl lay0 d) k_C_init 0 Q (15, [aO 11 (x0 + 1)], [], σ) :=
  run_intro (Cl_mono lay0 d) [15, 26, 37, 48, 54] 600 h
set_option maxRecDepth 50000 in
theorem bk0_C_init_26 {d : Nat} {σ : St} {Q : Option AV → St → Prop} (x0 : Nat)
    (h : nn (sN σ) (Cl lay0 d M_Op_init [aO 4 (sN σ)] (nw σ 4 (nF 4)) (rV fun σ1 => layC lay0 (x0 + 1) 2 (sN σ) ∧ (Wp lay0 rtOf (Cl lay0 d) k_C_init 0 Q (37, [aO 11 (x0 + 1)], [], (pR σ1 (x0 + 1) 2 (sN σ))))))) : Wp lay0 rtOf (Cl lay0 d) k_C_init 0 Q (26, [aO 11 (x0 + 1)], [], σ) :=
  run_intro (Cl_mono lay0 d) [15, 26, 37, 48, 54] 600 h
set_option maxRecDepth 50000 in
theorem bk0_C_init_37 {d : Nat} {σ : St} {Q : Option AV → St → Prop} (x0 : Nat)
    (h : nn (sN σ) (Cl lay0 d M_La_init [aO 1 (sN σ)] (nw σ 1 (nF 1)) (rV fun σ1 => layC lay0 (x0 + 1) 3 (sN σ) ∧ (Wp lay0 rtOf (Cl lay0 d) k_C_init 0 Q (48, [aO 11 (x0 + 1)], [], (pR σ1 (x0 + 1) 3 (sN σ))))))) : Wp lay0 rtOf (Cl lay0 d) k_C_init 0 Q (37, [aO 11 (x0 + 1)], [], σ) :=
  run_intro (Cl_mono lay0 d) [15, 26, 37, 48, 54] 600 h
set_option maxRecDepth 50000 in
theorem bk0_C_init_48 {d : Nat} {σ : St} {Q : Option AV → St → Prop} (x0 : Nat)
    (h : Wp lay0 rtOf (Cl lay0 d) k_C_init 0 Q (54, [aO 11 (x0 + 1)], [], (pI σ (x0 + 1) 4 (-4 : Int32)))) : Wp lay0 rtOf (Cl lay0 d) k_C_init 0 Q (48, [aO 11 (x0 + 1)], [], σ) :=
  run_intro (Cl_mono lay0 d) [15, 26, 37, 48, 54] 600 h
set_option maxRecDepth 50000 in
theorem bk0_C_init_54 {d : Nat} {σ : St} {Q : Option AV → St → Prop} (u0 : AV)
    (h : Q none σ) : Wp lay0 rtOf (Cl lay0 d) k_C_init 0 Q (54, [u0], [], σ) :=
  run_intro (Cl_mono lay0 d) [15, 26, 37, 48, 54] 600 h
set_option maxRecDepth 50000 in
theorem bk0_R_init_0 {d : Nat} {σ : St} {Q : Option AV → St → Prop} (x0 : Nat)
    (h : (0 ≤ (1500 : Int32).toInt ∧ (1500 : Int32).toInt ≤ 40000) ∧ (layC lay0 (x0 + 1) 0 (sN σ) ∧ (Wp lay0 rtOf (Cl lay0 d) k_R_init 0 Q (13, [aO 12 (x0 + 1)], [], (pR (nw σ 16 (ix (1500 : Int32))) (x0 + 1) 0 (sN σ)))))) : Cl lay0 (d + 1) M_R_init [aO 12 (x0 + 1)] σ Q :=
  run_intro (Cl_mono lay0 d) [13, 22, 31, 40, 49, 58, 67, 75, 83, 91, 99, 107, 115, 123, 131, 139, 147, 155, 163, 171, 179, 187, 196, 202] 600 h
set_option maxRecDepth 50000 in
theorem bk0_R_init_13 {d : Nat} {σ : St} {Q : Option AV → St → Prop} (x0 : Nat)
    (h : (0 ≤ (400 : Int32).toInt ∧ (400 : Int32).toInt ≤ 40000) ∧ (layC lay0 (x0 + 1) 9 (sN σ) ∧ (Wp lay0 rtOf (Cl lay0 d) k_R_init 0 Q (22, [aO 12 (x0 + 1)], [], (pR (nw σ 19 (ix (400 : Int32))) (x0 + 1) 9 (sN σ)))))) : Wp lay0 rtOf (Cl lay0 d) k_R_init 0 Q (13, [aO 12 (x0 + 1)], [], σ) :=
  run_intro (Cl_mono lay0 d) [13, 22, 31, 40, 49, 58, 67, 75, 83, 91, 99, 107, 115, 123, 131, 139, 147, 155, 163, 171, 179, 187, 196, 202] 600 h
set_option maxRecDepth 50000 in
theorem bk0_R_init_22 {d : Nat} {σ : St} {Q : Option AV → St → Prop} (x0 : Nat)
    (h : (0 ≤ (400 : Int32).toInt ∧ (400 : Int32).toInt ≤ 40000) ∧ (layC lay0 (x0 + 1) 10 (sN σ) ∧ (Wp lay0 rtOf (Cl lay0 d) k_R_init 0 Q (31, [aO 12 (x0 + 1)], [], (pR (nw σ 16 (ix (400 : Int32))) (x0 + 1) 10 (sN σ)))))) : Wp lay0 rtOf (Cl lay0 d) k_R_init 0 Q (22, [aO 12 (x0 + 1)], [], σ) :=
  run_intro (Cl_mono lay0 d) [13, 22, 31, 40, 49, 58, 67, 75, 83, 91, 99, 107, 115, 123, 131, 139, 147, 155, 163, 171, 179, 187, 196, 202] 600 h
set_option maxRecDepth 50000 in
theorem bk0_R_init_31 {d : Nat} {σ : St} {Q : Option AV → St → Prop} (x0 : Nat)
    (h : (0 ≤ (400 : Int32).toInt ∧ (400 : Int32).toInt ≤ 40000) ∧ (layC lay0 (x0 + 1) 11 (sN σ) ∧ (Wp lay0 rtOf (Cl lay0 d) k_R_init 0 Q (40, [aO 12 (x0 + 1)], [], (pR (nw σ 16 (ix (400 : Int32))) (x0 + 1) 11 (sN σ)))))) : Wp lay0 rtOf (Cl lay0 d) k_R_init 0 Q (31, [aO 12 (x0 + 1)], [], σ) :=
  run_intro (Cl_mono lay0 d) [13, 22, 31, 40, 49, 58, 67, 75, 83, 91, 99, 107, 115, 123, 131, 139, 147, 155, 163, 171, 179, 187, 196, 202] 600 h
set_option maxRecDepth 50000 in
theorem bk0_R_init_40 {d : Nat} {σ : St} {Q : Option AV → St → Prop} (x0 : Nat)
    (h : (0 ≤ (32000 : Int32).toInt ∧ (32000 : Int32).toInt ≤ 40000) ∧ (layC lay0 (x0 + 1) 13 (sN σ) ∧ (Wp lay0 rtOf (Cl lay0 d) k_R_init 0 Q (49, [aO 12 (x0 + 1)], [], (pR (nw σ 16 (ix (32000 : Int32))) (x0 + 1) 13 (sN σ)))))) : Wp lay0 rtOf (Cl lay0 d) k_R_init 0 Q (40, [aO 12 (x0 + 1)], [], σ) :=
  run_intro (Cl_mono lay0 d) [13, 22, 31, 40, 49, 58, 67, 75, 83, 91, 99, 107, 115, 123, 131, 139, 147, 155, 163, 171, 179, 187, 196, 202] 600 h
set_option maxRecDepth 50000 in
theorem bk0_R_init_49 {d : Nat} {σ : St} {Q : Option AV → St → Prop} (x0 : Nat)
    (h : (0 ≤ (32000 : Int32).toInt ∧ (32000 : Int32).toInt ≤ 40000) ∧ (layC lay0 (x0 + 1) 14 (sN σ) ∧ (Wp lay0 rtOf (Cl lay0 d) k_R_init 0 Q (58, [aO 12 (x0 + 1)], [], (pR (nw σ 19 (ix (32000 : Int32))) (x0 + 1) 14 (sN σ)))))) : Wp lay0 rtOf (Cl lay0 d) k_R_init 0 Q (49, [aO 12 (x0 + 1)], [], σ) :=
  run_intro (Cl_mono lay0 d) [13, 22, 31, 40, 49, 58, 67, 75, 83, 91, 99, 107, 115, 123, 131, 139, 147, 155, 163, 171, 179, 187, 196, 202] 600 h
set_option maxRecDepth 50000 in
theorem bk0_R_init_58 {d : Nat} {σ : St} {Q : Option AV → St → Prop} (x0 : Nat)
    (h : (0 ≤ (32000 : Int32).toInt ∧ (32000 : Int32).toInt ≤ 40000) ∧ (layC lay0 (x0 + 1) 15 (sN σ) ∧ (Wp lay0 rtOf (Cl lay0 d) k_R_init 0 Q (67, [aO 12 (x0 + 1)], [], (pR (nw σ 19 (ix (32000 : Int32))) (x0 + 1) 15 (sN σ)))))) : Wp lay0 rtOf (Cl lay0 d) k_R_init 0 Q (58, [aO 12 (x0 + 1)], [], σ) :=
  run_intro (Cl_mono lay0 d) [13, 22, 31, 40, 49, 58, 67, 75, 83, 91, 99, 107, 115, 123, 131, 139, 147, 155, 163, 171, 179, 187, 196, 202] 600 h
set_option maxRecDepth 50000 in
theorem bk0_R_init_67 {d : Nat} {σ : St} {Q : Option AV → St → Prop} (x0 : Nat)
    (h : (0 ≤ (82 : Int32).toInt ∧ (82 : Int32).toInt ≤ 40000) ∧ (layC lay0 (x0 + 1) 20 (sN σ) ∧ (Wp lay0 rtOf (Cl lay0 d) k_R_init 0 Q (75, [aO 12 (x0 + 1)], [], (pR (nw σ 16 (ix (82 : Int32))) (x0 + 1) 20 (sN σ)))))) : Wp lay0 rtOf (Cl lay0 d) k_R_init 0 Q (67, [aO 12 (x0 + 1)], [], σ) :=
  run_intro (Cl_mono lay0 d) [13, 22, 31, 40, 49, 58, 67, 75, 83, 91, 99, 107, 115, 123, 131, 139, 147, 155, 163, 171, 179, 187, 196, 202] 600 h
set_option maxRecDepth 50000 in
theorem bk0_R_init_75 {d : Nat} {σ : St} {Q : Option AV → St → Prop} (x0 : Nat)
    (h : (0 ≤ (82 : Int32).toInt ∧ (82 : Int32).toInt ≤ 40000) ∧ (layC lay0 (x0 + 1) 21 (sN σ) ∧ (Wp lay0 rtOf (Cl lay0 d) k_R_init 0 Q (83, [aO 12 (x0 + 1)], [], (pR (nw σ 19 (ix (82 : Int32))) (x0 + 1) 21 (sN σ)))))) : Wp lay0 rtOf (Cl lay0 d) k_R_init 0 Q (75, [aO 12 (x0 + 1)], [], σ) :=
  run_intro (Cl_mono lay0 d) [13, 22, 31, 40, 49, 58, 67, 75, 83, 91, 99, 107, 115, 123, 131, 139, 147, 155, 163, 171, 179, 187, 196, 202] 600 h
set_option maxRecDepth 50000 in
theorem bk0_R_init_83 {d : Nat} {σ : St} {Q : Option AV → St → Prop} (x0 : Nat)
    (h : (0 ≤ (82 : Int32).toInt ∧ (82 : Int32).toInt ≤ 40000) ∧ (layC lay0 (x0 + 1) 22 (sN σ) ∧ (Wp lay0 rtOf (Cl lay0 d) k_R_init 0 Q (91, [aO 12 (x0 + 1)], [], (pR (nw σ 19 (ix (82 : Int32))) (x0 + 1) 22 (sN σ)))))) : Wp lay0 rtOf (Cl lay0 d) k_R_init 0 Q (83, [aO 12 (x0 + 1)], [], σ) :=
  run_intro (Cl_mono lay0 d) [13, 22, 31, 40, 49, 58, 67, 75, 83, 91, 99, 107, 115, 123, 131, 139, 147, 155, 163, 171, 179, 187, 196, 202] 600 h
set_option maxRecDepth 50000 in
theorem bk0_R_init_91 {d : Nat} {σ : St} {Q : Option AV → St → Prop} (x0 : Nat)
    (h : (0 ≤ (8 : Int32).toInt ∧ (8 : Int32).toInt ≤ 40000) ∧ (layC lay0 (x0 + 1) 24 (sN σ) ∧ (Wp lay0 rtOf (Cl lay0 d) k_R_init 0 Q (99, [aO 12 (x0 + 1)], [], (pR (nw σ 16 (ix (8 : Int32))) (x0 + 1) 24 (sN σ)))))) : Wp lay0 rtOf (Cl lay0 d) k_R_init 0 Q (91, [aO 12 (x0 + 1)], [], σ) :=
  run_intro (Cl_mono lay0 d) [13, 22, 31, 40, 49, 58, 67, 75, 83, 91, 99, 107, 115, 123, 131, 139, 147, 155, 163, 171, 179, 187, 196, 202] 600 h
set_option maxRecDepth 50000 in
theorem bk0_R_init_99 {d : Nat} {σ : St} {Q : Option AV → St → Prop} (x0 : Nat)
    (h : (0 ≤ (8 : Int32).toInt ∧ (8 : Int32).toInt ≤ 40000) ∧ (layC lay0 (x0 + 1) 25 (sN σ) ∧ (Wp lay0 rtOf (Cl lay0 d) k_R_init 0 Q (107, [aO 12 (x0 + 1)], [], (pR (nw σ 16 (ix (8 : Int32))) (x0 + 1) 25 (sN σ)))))) : Wp lay0 rtOf (Cl lay0 d) k_R_init 0 Q (99, [aO 12 (x0 + 1)], [], σ) :=
  run_intro (Cl_mono lay0 d) [13, 22, 31, 40, 49, 58, 67, 75, 83, 91, 99, 107, 115, 123, 131, 139, 147, 155, 163, 171, 179, 187, 196, 202] 600 h
set_option maxRecDepth 50000 in
theorem bk0_R_init_107 {d : Nat} {σ : St} {Q : Option AV → St → Prop} (x0 : Nat)
    (h : (0 ≤ (8 : Int32).toInt ∧ (8 : Int32).toInt ≤ 40000) ∧ (layC lay0 (x0 + 1) 26 (sN σ) ∧ (Wp lay0 rtOf (Cl lay0 d) k_R_init 0 Q (115, [aO 12 (x0 + 1)], [], (pR (nw σ 17 (ix (8 : Int32))) (x0 + 1) 26 (sN σ)))))) : Wp lay0 rtOf (Cl lay0 d) k_R_init 0 Q (107, [aO 12 (x0 + 1)], [], σ) :=
  run_intro (Cl_mono lay0 d) [13, 22, 31, 40, 49, 58, 67, 75, 83, 91, 99, 107, 115, 123, 131, 139, 147, 155, 163, 171, 179, 187, 196, 202] 600 h
set_option maxRecDepth 50000 in
theorem bk0_R_init_115 {d : Nat} {σ : St} {Q : Option AV → St → Prop} (x0 : Nat)
    (h : (0 ≤ (80 : Int32).toInt ∧ (80 : Int32).toInt ≤ 40000) ∧ (layC lay0 (x0 + 1) 32 (sN σ) ∧ (Wp lay0 rtOf (Cl lay0 d) k_R_init 0 Q (123, [aO 12 (x0 + 1)], [], (pR (nw σ 16 (ix (80 : Int32))) (x0 + 1) 32 (sN σ)))))) : Wp lay0 rtOf (Cl lay0 d) k_R_init 0 Q (115, [aO 12 (x0 + 1)], [], σ) :=
  run_intro (Cl_mono lay0 d) [13, 22, 31, 40, 49, 58, 67, 75, 83, 91, 99, 107, 115, 123, 131, 139, 147, 155, 163, 171, 179, 187, 196, 202] 600 h
set_option maxRecDepth 50000 in
theorem bk0_R_init_123 {d : Nat} {σ : St} {Q : Option AV → St → Prop} (x0 : Nat)
    (h : (0 ≤ (80 : Int32).toInt ∧ (80 : Int32).toInt ≤ 40000) ∧ (layC lay0 (x0 + 1) 33 (sN σ) ∧ (Wp lay0 rtOf (Cl lay0 d) k_R_init 0 Q (131, [aO 12 (x0 + 1)], [], (pR (nw σ 19 (ix (80 : Int32))) (x0 + 1) 33 (sN σ)))))) : Wp lay0 rtOf (Cl lay0 d) k_R_init 0 Q (123, [aO 12 (x0 + 1)], [], σ) :=
  run_intro (Cl_mono lay0 d) [13, 22, 31, 40, 49, 58, 67, 75, 83, 91, 99, 107, 115, 123, 131, 139, 147, 155, 163, 171, 179, 187, 196, 202] 600 h
set_option maxRecDepth 50000 in
theorem bk0_R_init_131 {d : Nat} {σ : St} {Q : Option AV → St → Prop} (x0 : Nat)
    (h : (0 ≤ (80 : Int32).toInt ∧ (80 : Int32).toInt ≤ 40000) ∧ (layC lay0 (x0 + 1) 34 (sN σ) ∧ (Wp lay0 rtOf (Cl lay0 d) k_R_init 0 Q (139, [aO 12 (x0 + 1)], [], (pR (nw σ 19 (ix (80 : Int32))) (x0 + 1) 34 (sN σ)))))) : Wp lay0 rtOf (Cl lay0 d) k_R_init 0 Q (131, [aO 12 (x0 + 1)], [], σ) :=
  run_intro (Cl_mono lay0 d) [13, 22, 31, 40, 49, 58, 67, 75, 83, 91, 99, 107, 115, 123, 131, 139, 147, 155, 163, 171, 179, 187, 196, 202] 600 h
set_option maxRecDepth 50000 in
theorem bk0_R_init_139 {d : Nat} {σ : St} {Q : Option AV → St → Prop} (x0 : Nat)
    (h : (0 ≤ (12 : Int32).toInt ∧ (12 : Int32).toInt ≤ 40000) ∧ (layC lay0 (x0 + 1) 35 (sN σ) ∧ (Wp lay0 rtOf (Cl lay0 d) k_R_init 0 Q (147, [aO 12 (x0 + 1)], [], (pR (nw σ 19 (ix (12 : Int32))) (x0 + 1) 35 (sN σ)))))) : Wp lay0 rtOf (Cl lay0 d) k_R_init 0 Q (139, [aO 12 (x0 + 1)], [], σ) :=
  run_intro (Cl_mono lay0 d) [13, 22, 31, 40, 49, 58, 67, 75, 83, 91, 99, 107, 115, 123, 131, 139, 147, 155, 163, 171, 179, 187, 196, 202] 600 h
set_option maxRecDepth 50000 in
theorem bk0_R_init_147 {d : Nat} {σ : St} {Q : Option AV → St → Prop} (x0 : Nat)
    (h : (0 ≤ (12 : Int32).toInt ∧ (12 : Int32).toInt ≤ 40000) ∧ (layC lay0 (x0 + 1) 36 (sN σ) ∧ (Wp lay0 rtOf (Cl lay0 d) k_R_init 0 Q (155, [aO 12 (x0 + 1)], [], (pR (nw σ 19 (ix (12 : Int32))) (x0 + 1) 36 (sN σ)))))) : Wp lay0 rtOf (Cl lay0 d) k_R_init 0 Q (147, [aO 12 (x0 + 1)], [], σ) :=
  run_intro (Cl_mono lay0 d) [13, 22, 31, 40, 49, 58, 67, 75, 83, 91, 99, 107, 115, 123, 131, 139, 147, 155, 163, 171, 179, 187, 196, 202] 600 h
set_option maxRecDepth 50000 in
theorem bk0_R_init_155 {d : Nat} {σ : St} {Q : Option AV → St → Prop} (x0 : Nat)
    (h : (0 ≤ (8 : Int32).toInt ∧ (8 : Int32).toInt ≤ 40000) ∧ (layC lay0 (x0 + 1) 40 (sN σ) ∧ (Wp lay0 rtOf (Cl lay0 d) k_R_init 0 Q (163, [aO 12 (x0 + 1)], [], (pR (nw σ 19 (ix (8 : Int32))) (x0 + 1) 40 (sN σ)))))) : Wp lay0 rtOf (Cl lay0 d) k_R_init 0 Q (155, [aO 12 (x0 + 1)], [], σ) :=
  run_intro (Cl_mono lay0 d) [13, 22, 31, 40, 49, 58, 67, 75, 83, 91, 99, 107, 115, 123, 131, 139, 147, 155, 163, 171, 179, 187, 196, 202] 600 h
set_option maxRecDepth 50000 in
theorem bk0_R_init_163 {d : Nat} {σ : St} {Q : Option AV → St → Prop} (x0 : Nat)
    (h : (0 ≤ (8 : Int32).toInt ∧ (8 : Int32).toInt ≤ 40000) ∧ (layC lay0 (x0 + 1) 41 (sN σ) ∧ (Wp lay0 rtOf (Cl lay0 d) k_R_init 0 Q (171, [aO 12 (x0 + 1)], [], (pR (nw σ 19 (ix (8 : Int32))) (x0 + 1) 41 (sN σ)))))) : Wp lay0 rtOf (Cl lay0 d) k_R_init 0 Q (163, [aO 12 (x0 + 1)], [], σ) :=
  run_intro (Cl_mono lay0 d) [13, 22, 31, 40, 49, 58, 67, 75, 83, 91, 99, 107, 115, 123, 131, 139, 147, 155, 163, 171, 179, 187, 196, 202] 600 h
set_option maxRecDepth 50000 in
theorem bk0_R_init_171 {d : Nat} {σ : St} {Q : Option AV → St → Prop} (x0 : Nat)
    (h : (0 ≤ (8 : Int32).toInt ∧ (8 : Int32).toInt ≤ 40000) ∧ (layC lay0 (x0 + 1) 43 (sN σ) ∧ (Wp lay0 rtOf (Cl lay0 d) k_R_init 0 Q (179, [aO 12 (x0 + 1)], [], (pR (nw σ 19 (ix (8 : Int32))) (x0 + 1) 43 (sN σ)))))) : Wp lay0 rtOf (Cl lay0 d) k_R_init 0 Q (171, [aO 12 (x0 + 1)], [], σ) :=
  run_intro (Cl_mono lay0 d) [13, 22, 31, 40, 49, 58, 67, 75, 83, 91, 99, 107, 115, 123, 131, 139, 147, 155, 163, 171, 179, 187, 196, 202] 600 h
set_option maxRecDepth 50000 in
theorem bk0_R_init_179 {d : Nat} {σ : St} {Q : Option AV → St → Prop} (x0 : Nat)
    (h : (0 ≤ (80 : Int32).toInt ∧ (80 : Int32).toInt ≤ 40000) ∧ (layC lay0 (x0 + 1) 48 (sN σ) ∧ (Wp lay0 rtOf (Cl lay0 d) k_R_init 0 Q (187, [aO 12 (x0 + 1)], [], (pR (nw σ 16 (ix (80 : Int32))) (x0 + 1) 48 (sN σ)))))) : Wp lay0 rtOf (Cl lay0 d) k_R_init 0 Q (179, [aO 12 (x0 + 1)], [], σ) :=
  run_intro (Cl_mono lay0 d) [13, 22, 31, 40, 49, 58, 67, 75, 83, 91, 99, 107, 115, 123, 131, 139, 147, 155, 163, 171, 179, 187, 196, 202] 600 h
set_option maxRecDepth 50000 in
theorem bk0_R_init_187 {d : Nat} {σ : St} {Q : Option AV → St → Prop} (x0 : Nat)
    (h : (0 ≤ (961 : Int32).toInt ∧ (961 : Int32).toInt ≤ 40000) ∧ (layC lay0 (x0 + 1) 49 (sN σ) ∧ (Wp lay0 rtOf (Cl lay0 d) k_R_init 0 Q (196, [aO 12 (x0 + 1)], [], (pR (nw σ 17 (ix (961 : Int32))) (x0 + 1) 49 (sN σ)))))) : Wp lay0 rtOf (Cl lay0 d) k_R_init 0 Q (187, [aO 12 (x0 + 1)], [], σ) :=
  run_intro (Cl_mono lay0 d) [13, 22, 31, 40, 49, 58, 67, 75, 83, 91, 99, 107, 115, 123, 131, 139, 147, 155, 163, 171, 179, 187, 196, 202] 600 h
set_option maxRecDepth 50000 in
theorem bk0_R_init_196 {d : Nat} {σ : St} {Q : Option AV → St → Prop} (x0 : Nat)
    (h : Wp lay0 rtOf (Cl lay0 d) k_R_init 0 Q (202, [aO 12 (x0 + 1)], [], (pI σ (x0 + 1) 7 (-4 : Int32)))) : Wp lay0 rtOf (Cl lay0 d) k_R_init 0 Q (196, [aO 12 (x0 + 1)], [], σ) :=
  run_intro (Cl_mono lay0 d) [13, 22, 31, 40, 49, 58, 67, 75, 83, 91, 99, 107, 115, 123, 131, 139, 147, 155, 163, 171, 179, 187, 196, 202] 600 h
set_option maxRecDepth 50000 in
theorem bk0_R_init_202 {d : Nat} {σ : St} {Q : Option AV → St → Prop} (u0 : AV)
    (h : Q none σ) : Wp lay0 rtOf (Cl lay0 d) k_R_init 0 Q (202, [u0], [], σ) :=
  run_intro (Cl_mono lay0 d) [13, 22, 31, 40, 49, 58, 67, 75, 83, 91, 99, 107, 115, 123, 131, 139, 147, 155, 163, 171, 179, 187, 196, 202] 600 h
set_option maxRecDepth 50000 in
theorem bk0_Law_law_0 {d : Nat} {σ : St} {Q : Option AV → St → Prop} 
    (h : nn (sN σ) (Cl lay0 d M_C_init [aO 11 (sN σ)] (nw σ 11 (nF 11)) (rV fun σ1 => nn (sN σ1) (Cl lay0 d M_R_init [aO 12 (sN σ1)] (nw σ1 12 (nF 12)) (rV fun σ2 => Wp lay0 rtOf (Cl lay0 d) k_Law_law 2 Q (18, [aO 22 1, aO 11 (sN σ), aO 12 (sN σ1), aI (0 : Int32)], [], σ2)))))) : Wp lay0 rtOf (Cl lay0 d) k_Law_law 2 Q (0, [aO 22 1, aZ, aZ, aZ], [], σ) :=
  run_intro (Cl_mono lay0 d) [18, 627] 600 h
end
section
set_option maxRecDepth 50000 in
theorem bk_Fr_put_0 {d : Nat} {σ : St} {Q : Option AV → St → Prop} (x0 : Nat) (x1 : Int64) (x3 : Int64)
    (h : Cl lay1 d M_Jm_abs [aJ x1] σ (rJ fun r2 σ1 => Cl lay1 d M_C_commonDivisor [aJ r2, aJ x3] σ1 (rJ fun r4 σ3 => ((lg_cmp r4 (0 : Int64)) ≤ 0 → Q none σ3) ∧ (¬ (lg_cmp r4 (0 : Int64)) ≤ 0 → ¬ r4 = 0 ∧ (¬ r4 = 0 ∧ (Q none (pL (pL σ3 (x0 + 1) 0 (x1 / r4)) (x0 + 1) 1 (x3 / r4)))))))) : Cl lay1 (d + 1) M_Fr_put [aO 0 (x0 + 1), aJ x1, aJ x3] σ Q :=
  run_intro (Cl_mono lay1 d) [] 600 h
set_option maxRecDepth 50000 in
theorem bk_Fr_copy_0 {d : Nat} {σ : St} {Q : Option AV → St → Prop} (x0 : Nat) (x1 : Nat)
    (h : Q none (pL (pL σ (x0 + 1) 0 (gL σ (x1 + 1) 0)) (x0 + 1) 1 (gL (pL σ (x0 + 1) 0 (gL σ (x1 + 1) 0)) (x1 + 1) 1))) : Cl lay1 (d + 1) M_Fr_copy [aO 0 (x0 + 1), aO 0 (x1 + 1)] σ Q :=
  run_intro (Cl_mono lay1 d) [] 600 h
set_option maxRecDepth 50000 in
theorem bk_Fr_negate_0 {d : Nat} {σ : St} {Q : Option AV → St → Prop} (x0 : Nat)
    (h : Q none (pL σ (x0 + 1) 0 (-(gL σ (x0 + 1) 0)))) : Cl lay1 (d + 1) M_Fr_negate [aO 0 (x0 + 1)] σ Q :=
  run_intro (Cl_mono lay1 d) [] 600 h
set_option maxRecDepth 50000 in
theorem bk_Fr_isZero_0 {d : Nat} {σ : St} {Q : Option AV → St → Prop} (x0 : Nat)
    (h : ((lg_cmp (gL σ (x0 + 1) 0) (0 : Int64)) = 0 → ((1 : Int32) = 0 ∨ (1 : Int32) = 1) ∧ Q (some (aI (1 : Int32))) σ) ∧ (¬ (lg_cmp (gL σ (x0 + 1) 0) (0 : Int64)) = 0 → ((0 : Int32) = 0 ∨ (0 : Int32) = 1) ∧ Q (some (aI (0 : Int32))) σ)) : Cl lay1 (d + 1) M_Fr_isZero [aO 0 (x0 + 1)] σ Q :=
  run_intro (Cl_mono lay1 d) [] 600 h
set_option maxRecDepth 50000 in
theorem bk_Fr_compareToWhole_0 {d : Nat} {σ : St} {Q : Option AV → St → Prop} (x0 : Nat) (x1 : Int64)
    (h : Cl lay1 d M_Jl_compare [aJ (gL σ (x0 + 1) 0), aJ (x1 * (gL σ (x0 + 1) 1))] σ (rI fun r2 σ1 => Q (some (aI r2)) σ1)) : Cl lay1 (d + 1) M_Fr_compareToWhole [aO 0 (x0 + 1), aJ x1] σ Q :=
  run_intro (Cl_mono lay1 d) [] 600 h
set_option maxRecDepth 50000 in
theorem bk_Fr_side_0 {d : Nat} {σ : St} {Q : Option AV → St → Prop} (x0 : Nat) (x1 : Int32)
    (h : (x1 = 0 → Q (some (aI (gL σ (x0 + 1) 0).toInt32)) σ) ∧ (¬ x1 = 0 → Q (some (aI (gL σ (x0 + 1) 1).toInt32)) σ)) : Cl lay1 (d + 1) M_Fr_side [aO 0 (x0 + 1), aI x1] σ Q :=
  run_intro (Cl_mono lay1 d) [] 600 h
set_option maxRecDepth 50000 in
theorem bk_Li_init_0 {d : Nat} {σ : St} {Q : Option AV → St → Prop} (x0 : Nat) (x1 : Int64) (x4 : Nat)
    (h : nn x0 (nn x0 (nn x0 (layC lay1 x0 2 x4 ∧ ((0 ≤ (gI (pR (pL σ x0 0 x1) x0 2 x4) 7 1).toInt ∧ (gI (pR (pL σ x0 0 x1) x0 2 x4) 7 1).toInt ≤ 40000) ∧ (nn x0 (layC lay1 x0 1 (sN (pR (pL σ x0 0 x1) x0 2 x4)) ∧ (Wp lay1 rtOf (Cl lay1 d) k_Li_init 0 Q (29, [aO 2 x0, aJ x1, aZ, aO 9 7, aO 2 x4, aI (0 : Int32)], [], (pR (nw (pR (pL σ x0 0 x1) x0 2 x4) 20 (ix (gI (pR (pL σ x0 0 x1) x0 2 x4) 7 1))) x0 1 (sN (pR (pL σ x0 0 x1) x0 2 x4)))))))))))) : Cl lay1 (d + 1) M_Li_init [aO 2 x0, aJ x1, aO 9 7, aO 2 x4] σ Q :=
  run_intro (Cl_mono lay1 d) [29] 600 h
set_option maxRecDepth 50000 in
theorem bk_Li_init_29 {d : Nat} {σ : St} {Q : Option AV → St → Prop} (x0 : Nat) (u1 : AV) (u2 : AV) (u4 : AV) (x5 : Int32)
    (h : ((gI σ 7 1) ≤ x5 → Q none σ) ∧ (¬ (gI σ 7 1) ≤ x5 → nn x0 (inb x5 (gN σ 8) ∧ (nn (ldR lay1 σ x0 1) ((inb x5 (gN σ (ldR lay1 σ x0 1)) ∧ layC lay1 (ldR lay1 σ x0 1) (ix x5) (gR σ 8 (ix x5))) ∧ (Wp lay1 rtOf (Cl lay1 d) k_Li_init 0 Q (29, [aO 2 x0, u1, u2, aO 9 7, (unJ u4), aI (x5 + (1 : Int32))], [], (pR σ (ldR lay1 σ x0 1) (ix x5) (gR σ 8 (ix x5)))))))))) : Wp lay1 rtOf (Cl lay1 d) k_Li_init 0 Q (29, [aO 2 x0, u1, u2, aO 9 7, u4, aI x5], [], σ) :=
  run_intro (Cl_mono lay1 d) [29] 600 h
set_option maxRecDepth 50000 in
theorem bk_Mo_put_0 {d : Nat} {σ : St} {Q : Option AV → St → Prop} (x0 : Nat) (x1 : Int64) (x3 : Int64)
    (h : nn (ldR lay1 σ (x0 + 1) 0) (Cl lay1 d M_Fr_put [aO 0 (ldR lay1 σ (x0 + 1) 0), aJ x1, aJ (1 : Int64)] σ (rV fun σ1 => nn (ldR lay1 σ1 (x0 + 1) 1) (Cl lay1 d M_Fr_put [aO 0 (ldR lay1 σ1 (x0 + 1) 1), aJ x3, aJ (1 : Int64)] σ1 (rV fun σ2 => Q none σ2))))) : Cl lay1 (d + 1) M_Mo_put [aO 3 (x0 + 1), aJ x1, aJ x3] σ Q :=
  run_intro (Cl_mono lay1 d) [] 600 h
set_option maxRecDepth 50000 in
theorem bk_Pa_init_0 {d : Nat} {σ : St} {Q : Option AV → St → Prop} (x0 : Nat) (x1 : Int32) (x2 : Nat)
    (h : layC lay1 (x0 + 1) 1 (x2 + 1) ∧ (Q none (pR (pI σ (x0 + 1) 0 x1) (x0 + 1) 1 (x2 + 1)))) : Cl lay1 (d + 1) M_Pa_init [aO 5 (x0 + 1), aI x1, aO 0 (x2 + 1)] σ Q :=
  run_intro (Cl_mono lay1 d) [] 600 h
set_option maxRecDepth 50000 in
theorem bk_Rk_begin_0 {d : Nat} {σ : St} {Q : Option AV → St → Prop} 
    (h : ((0 : Int32) = 0 ∨ (0 : Int32) = 1) ∧ (Q none (pI σ 30 0 (0 : Int32)))) : Cl lay1 (d + 1) M_Rk_begin [aO 7 30] σ Q :=
  run_intro (Cl_mono lay1 d) [] 600 h
set_option maxRecDepth 50000 in
theorem bk_Rk_plus_0 {d : Nat} {σ : St} {Q : Option AV → St → Prop} (x1 : Nat) (x2 : Nat)
    (h : Cl lay1 d M_Rk_settle [aO 7 30, aO 0 (x1 + 1), aJ (((gL σ (x1 + 1) 0) * (gL σ (x2 + 1) 1)) + ((gL σ (x2 + 1) 0) * (gL σ (x1 + 1) 1))), aJ ((gL σ (x1 + 1) 1) * (gL σ (x2 + 1) 1))] σ (rV fun σ1 => Q none σ1)) : Cl lay1 (d + 1) M_Rk_plus [aO 7 30, aO 0 (x1 + 1), aO 0 (x2 + 1)] σ Q :=
  run_intro (Cl_mono lay1 d) [] 600 h
set_option maxRecDepth 50000 in
theorem bk_Rk_minus_0 {d : Nat} {σ : St} {Q : Option AV → St → Prop} (x1 : Nat) (x2 : Nat)
    (h : Cl lay1 d M_Rk_settle [aO 7 30, aO 0 (x1 + 1), aJ (((gL σ (x1 + 1) 0) * (gL σ (x2 + 1) 1)) - ((gL σ (x2 + 1) 0) * (gL σ (x1 + 1) 1))), aJ ((gL σ (x1 + 1) 1) * (gL σ (x2 + 1) 1))] σ (rV fun σ1 => Q none σ1)) : Cl lay1 (d + 1) M_Rk_minus [aO 7 30, aO 0 (x1 + 1), aO 0 (x2 + 1)] σ Q :=
  run_intro (Cl_mono lay1 d) [] 600 h
set_option maxRecDepth 50000 in
theorem bk_Rk_times_0 {d : Nat} {σ : St} {Q : Option AV → St → Prop} (x1 : Nat) (x2 : Nat)
    (h : Cl lay1 d M_Rk_settle [aO 7 30, aO 0 (x1 + 1), aJ ((gL σ (x1 + 1) 0) * (gL σ (x2 + 1) 0)), aJ ((gL σ (x1 + 1) 1) * (gL σ (x2 + 1) 1))] σ (rV fun σ1 => Q none σ1)) : Cl lay1 (d + 1) M_Rk_times [aO 7 30, aO 0 (x1 + 1), aO 0 (x2 + 1)] σ Q :=
  run_intro (Cl_mono lay1 d) [] 600 h
set_option maxRecDepth 50000 in
theorem bk_Rk_over_0 {d : Nat} {σ : St} {Q : Option AV → St → Prop} (x1 : Nat) (x2 : Nat)
    (h : ((lg_cmp (gL σ (x2 + 1) 0) (0 : Int64)) ≤ 0 → (0 ≤ (lg_cmp (gL σ (x2 + 1) 0) (0 : Int64)) → Q none σ) ∧ (¬ 0 ≤ (lg_cmp (gL σ (x2 + 1) 0) (0 : Int64)) → Cl lay1 d M_Rk_settle [aO 7 30, aO 0 (x1 + 1), aJ ((-(gL σ (x1 + 1) 0)) * (gL σ (x2 + 1) 1)), aJ ((-(gL σ (x1 + 1) 1)) * (gL σ (x2 + 1) 0))] σ (rV fun σ1 => Q none σ1))) ∧ (¬ (lg_cmp (gL σ (x2 + 1) 0) (0 : Int64)) ≤ 0 → Cl lay1 d M_Rk_settle [aO 7 30, aO 0 (x1 + 1), aJ ((gL σ (x1 + 1) 0) * (gL σ (x2 + 1) 1)), aJ ((gL σ (x1 + 1) 1) * (gL σ (x2 + 1) 0))] σ (rV fun σ2 => Q none σ2))) : Cl lay1 (d + 1) M_Rk_over [aO 7 30, aO 0 (x1 + 1), aO 0 (x2 + 1)] σ Q :=
  run_intro (Cl_mono lay1 d) [] 600 h
set_option maxRecDepth 50000 in
theorem bk_Rk_plusProduct_0 {d : Nat} {σ : St} {Q : Option AV → St → Prop} (x1 : Nat) (x2 : Nat) (x3 : Nat)
    (h : Cl lay1 d M_Fr_copy [aO 0 31, aO 0 (x2 + 1)] σ (rV fun σ1 => Cl lay1 d M_Rk_times [aO 7 30, aO 0 31, aO 0 (x3 + 1)] σ1 (rV fun σ2 => Cl lay1 d M_Rk_plus [aO 7 30, aO 0 (x1 + 1), aO 0 31] σ2 (rV fun σ3 => Q none σ3)))) : Cl lay1 (d + 1) M_Rk_plusProduct [aO 7 30, aO 0 (x1 + 1), aO 0 (x2 + 1), aO 0 (x3 + 1)] σ Q :=
  run_intro (Cl_mono lay1 d) [] 600 h
set_option maxRecDepth 50000 in
theorem bk_Rk_minusProduct_0 {d : Nat} {σ : St} {Q : Option AV → St → Prop} (x1 : Nat) (x2 : Nat) (x3 : Nat)
    (h : Cl lay1 d M_Fr_copy [aO 0 31, aO 0 (x2 + 1)] σ (rV fun σ1 => Cl lay1 d M_Rk_times [aO 7 30, aO 0 31, aO 0 (x3 + 1)] σ1 (rV fun σ2 => Cl lay1 d M_Rk_minus [aO 7 30, aO 0 (x1 + 1), aO 0 31] σ2 (rV fun σ3 => Q none σ3)))) : Cl lay1 (d + 1) M_Rk_minusProduct [aO 7 30, aO 0 (x1 + 1), aO 0 (x2 + 1), aO 0 (x3 + 1)] σ Q :=
  run_intro (Cl_mono lay1 d) [] 600 h
set_option maxRecDepth 50000 in
theorem bk_Rk_settle_0 {d : Nat} {σ : St} {Q : Option AV → St → Prop} (x1 : Nat) (x2 : Int64) (x4 : Int64)
    (h : Cl lay1 d M_Jm_abs [aJ x2] σ (rJ fun r2 σ1 => Cl lay1 d M_C_commonDivisor [aJ r2, aJ x4] σ1 (rJ fun r4 σ3 => (0 < (lg_cmp r4 (0 : Int64)) → ¬ r4 = 0 ∧ (Cl lay1 d M_Jm_abs [aJ (x2 / r4)] σ3 (rJ fun r6 σ5 => (0 < (lg_cmp r6 (1000000000 : Int64)) → ((1 : Int32) = 0 ∨ (1 : Int32) = 1) ∧ (Q none (pI σ5 30 0 (1 : Int32)))) ∧ (¬ 0 < (lg_cmp r6 (1000000000 : Int64)) → ¬ r4 = 0 ∧ (((lg_cmp (x4 / r4) (1000000000 : Int64)) ≤ 0 → ¬ r4 = 0 ∧ (¬ r4 = 0 ∧ (Q none (pL (pL σ5 (x1 + 1) 0 (x2 / r4)) (x1 + 1) 1 (x4 / r4))))) ∧ (¬ (lg_cmp (x4 / r4) (1000000000 : Int64)) ≤ 0 → ((1 : Int32) = 0 ∨ (1 : Int32) = 1) ∧ (Q none (pI σ5 30 0 (1 : Int32))))))))) ∧ (¬ 0 < (lg_cmp r4 (0 : Int64)) → Q none σ3)))) : Cl lay1 (d + 1) M_Rk_settle [aO 7 30, aO 0 (x1 + 1), aJ x2, aJ x4] σ Q :=
  run_intro (Cl_mono lay1 d) [] 600 h
set_option maxRecDepth 50000 in
theorem bk_Ro_clear_0 {d : Nat} {σ : St} {Q : Option AV → St → Prop} 
    (h : ((0 : Int32) = 0 ∨ (0 : Int32) = 1) ∧ (Q none (pI (pI (pI (pI σ 7 1 (0 : Int32)) 7 2 (0 : Int32)) 7 3 (0 : Int32)) 7 4 (0 : Int32)))) : Cl lay1 (d + 1) M_Ro_clear [aO 9 7] σ Q :=
  run_intro (Cl_mono lay1 d) [] 600 h
set_option maxRecDepth 50000 in
theorem bk_Ro_add_0 {d : Nat} {σ : St} {Q : Option AV → St → Prop} (x1 : Nat)
    (h : ((gI σ 7 4) = 0 → ((gI σ (x1 + 1) 0) = (3 : Int32) → ((gI (pI σ 7 2 ((gI σ 7 2) + (1 : Int32))) (x1 + 1) 0) = (4 : Int32) → ((80 : Int32) ≤ (gI (pI (pI σ 7 2 ((gI σ 7 2) + (1 : Int32))) 7 3 ((gI (pI σ 7 2 ((gI σ 7 2) + (1 : Int32))) 7 3) + (1 : Int32))) 7 1) → ((1 : Int32) = 0 ∨ (1 : Int32) = 1) ∧ (Q none (pI (pI (pI σ 7 2 ((gI σ 7 2) + (1 : Int32))) 7 3 ((gI (pI σ 7 2 ((gI σ 7 2) + (1 : Int32))) 7 3) + (1 : Int32))) 7 4 (1 : Int32)))) ∧ (¬ (80 : Int32) ≤ (gI (pI (pI σ 7 2 ((gI σ 7 2) + (1 : Int32))) 7 3 ((gI (pI σ 7 2 ((gI σ 7 2) + (1 : Int32))) 7 3) + (1 : Int32))) 7 1) → ((12 : Int32) < (gI (pI (pI σ 7 2 ((gI σ 7 2) + (1 : Int32))) 7 3 ((gI (pI σ 7 2 ((gI σ 7 2) + (1 : Int32))) 7 3) + (1 : Int32))) 7 2) → ((1 : Int32) = 0 ∨ (1 : Int32) = 1) ∧ (Q none (pI (pI (pI σ 7 2 ((gI σ 7 2) + (1 : Int32))) 7 3 ((gI (pI σ 7 2 ((gI σ 7 2) + (1 : Int32))) 7 3) + (1 : Int32))) 7 4 (1 : Int32)))) ∧ (¬ (12 : Int32) < (gI (pI (pI σ 7 2 ((gI σ 7 2) + (1 : Int32))) 7 3 ((gI (pI σ 7 2 ((gI σ 7 2) + (1 : Int32))) 7 3) + (1 : Int32))) 7 2) → ((gI (pI (pI σ 7 2 ((gI σ 7 2) + (1 : Int32))) 7 3 ((gI (pI σ 7 2 ((gI σ 7 2) + (1 : Int32))) 7 3) + (1 : Int32))) 7 3) ≤ (12 : Int32) → (inb (gI (pI (pI σ 7 2 ((gI σ 7 2) + (1 : Int32))) 7 3 ((gI (pI σ 7 2 ((gI σ 7 2) + (1 : Int32))) 7 3) + (1 : Int32))) 7 1) (gN (pI (pI σ 7 2 ((gI σ 7 2) + (1 : Int32))) 7 3 ((gI (pI σ 7 2 ((gI σ 7 2) + (1 : Int32))) 7 3) + (1 : Int32))) 8) ∧ layC lay1 8 (ix (gI (pI (pI σ 7 2 ((gI σ 7 2) + (1 : Int32))) 7 3 ((gI (pI σ 7 2 ((gI σ 7 2) + (1 : Int32))) 7 3) + (1 : Int32))) 7 1)) (x1 + 1)) ∧ (Q none (pI (pR (pI (pI σ 7 2 ((gI σ 7 2) + (1 : Int32))) 7 3 ((gI (pI σ 7 2 ((gI σ 7 2) + (1 : Int32))) 7 3) + (1 : Int32))) 8 (ix (gI (pI (pI σ 7 2 ((gI σ 7 2) + (1 : Int32))) 7 3 ((gI (pI σ 7 2 ((gI σ 7 2) + (1 : Int32))) 7 3) + (1 : Int32))) 7 1)) (x1 + 1)) 7 1 ((gI (pR (pI (pI σ 7 2 ((gI σ 7 2) + (1 : Int32))) 7 3 ((gI (pI σ 7 2 ((gI σ 7 2) + (1 : Int32))) 7 3) + (1 : Int32))) 8 (ix (gI (pI (pI σ 7 2 ((gI σ 7 2) + (1 : Int32))) 7 3 ((gI (pI σ 7 2 ((gI σ 7 2) + (1 : Int32))) 7 3) + (1 : Int32))) 7 1)) (x1 + 1)) 7 1) + (1 : Int32))))) ∧ (¬ (gI (pI (pI σ 7 2 ((gI σ 7 2) + (1 : Int32))) 7 3 ((gI (pI σ 7 2 ((gI σ 7 2) + (1 : Int32))) 7 3) + (1 : Int32))) 7 3) ≤ (12 : Int32) → ((1 : Int32) = 0 ∨ (1 : Int32) = 1) ∧ (Q none (pI (pI (pI σ 7 2 ((gI σ 7 2) + (1 : Int32))) 7 3 ((gI (pI σ 7 2 ((gI σ 7 2) + (1 : Int32))) 7 3) + (1 : Int32))) 7 4 (1 : Int32))))))) ∧ (¬ (gI (pI σ 7 2 ((gI σ 7 2) + (1 : Int32))) (x1 + 1) 0) = (4 : Int32) → ((80 : Int32) ≤ (gI (pI σ 7 2 ((gI σ 7 2) + (1 : Int32))) 7 1) → ((1 : Int32) = 0 ∨ (1 : Int32) = 1) ∧ (Q none (pI (pI σ 7 2 ((gI σ 7 2) + (1 : Int32))) 7 4 (1 : Int32)))) ∧ (¬ (80 : Int32) ≤ (gI (pI σ 7 2 ((gI σ 7 2) + (1 : Int32))) 7 1) → ((12 : Int32) < (gI (pI σ 7 2 ((gI σ 7 2) + (1 : Int32))) 7 2) → ((1 : Int32) = 0 ∨ (1 : Int32) = 1) ∧ (Q none (pI (pI σ 7 2 ((gI σ 7 2) + (1 : Int32))) 7 4 (1 : Int32)))) ∧ (¬ (12 : Int32) < (gI (pI σ 7 2 ((gI σ 7 2) + (1 : Int32))) 7 2) → ((gI (pI σ 7 2 ((gI σ 7 2) + (1 : Int32))) 7 3) ≤ (12 : Int32) → (inb (gI (pI σ 7 2 ((gI σ 7 2) + (1 : Int32))) 7 1) (gN (pI σ 7 2 ((gI σ 7 2) + (1 : Int32))) 8) ∧ layC lay1 8 (ix (gI (pI σ 7 2 ((gI σ 7 2) + (1 : Int32))) 7 1)) (x1 + 1)) ∧ (Q none (pI (pR (pI σ 7 2 ((gI σ 7 2) + (1 : Int32))) 8 (ix (gI (pI σ 7 2 ((gI σ 7 2) + (1 : Int32))) 7 1)) (x1 + 1)) 7 1 ((gI (pR (pI σ 7 2 ((gI σ 7 2) + (1 : Int32))) 8 (ix (gI (pI σ 7 2 ((gI σ 7 2) + (1 : Int32))) 7 1)) (x1 + 1)) 7 1) + (1 : Int32))))) ∧ (¬ (gI (pI σ 7 2 ((gI σ 7 2) + (1 : Int32))) 7 3) ≤ (12 : Int32) → ((1 : Int32) = 0 ∨ (1 : Int32) = 1) ∧ (Q none (pI (pI σ 7 2 ((gI σ 7 2) + (1 : Int32))) 7 4 (1 : Int32)))))))) ∧ (¬ (gI σ (x1 + 1) 0) = (3 : Int32) → ((gI σ (x1 + 1) 0) = (4 : Int32) → ((80 : Int32) ≤ (gI (pI σ 7 3 ((gI σ 7 3) + (1 : Int32))) 7 1) → ((1 : Int32) = 0 ∨ (1 : Int32) = 1) ∧ (Q none (pI (pI σ 7 3 ((gI σ 7 3) + (1 : Int32))) 7 4 (1 : Int32)))) ∧ (¬ (80 : Int32) ≤ (gI (pI σ 7 3 ((gI σ 7 3) + (1 : Int32))) 7 1) → ((12 : Int32) < (gI (pI σ 7 3 ((gI σ 7 3) + (1 : Int32))) 7 2) → ((1 : Int32) = 0 ∨ (1 : Int32) = 1) ∧ (Q none (pI (pI σ 7 3 ((gI σ 7 3) + (1 : Int32))) 7 4 (1 : Int32)))) ∧ (¬ (12 : Int32) < (gI (pI σ 7 3 ((gI σ 7 3) + (1 : Int32))) 7 2) → ((gI (pI σ 7 3 ((gI σ 7 3) + (1 : Int32))) 7 3) ≤ (12 : Int32) → (inb (gI (pI σ 7 3 ((gI σ 7 3) + (1 : Int32))) 7 1) (gN (pI σ 7 3 ((gI σ 7 3) + (1 : Int32))) 8) ∧ layC lay1 8 (ix (gI (pI σ 7 3 ((gI σ 7 3) + (1 : Int32))) 7 1)) (x1 + 1)) ∧ (Q none (pI (pR (pI σ 7 3 ((gI σ 7 3) + (1 : Int32))) 8 (ix (gI (pI σ 7 3 ((gI σ 7 3) + (1 : Int32))) 7 1)) (x1 + 1)) 7 1 ((gI (pR (pI σ 7 3 ((gI σ 7 3) + (1 : Int32))) 8 (ix (gI (pI σ 7 3 ((gI σ 7 3) + (1 : Int32))) 7 1)) (x1 + 1)) 7 1) + (1 : Int32))))) ∧ (¬ (gI (pI σ 7 3 ((gI σ 7 3) + (1 : Int32))) 7 3) ≤ (12 : Int32) → ((1 : Int32) = 0 ∨ (1 : Int32) = 1) ∧ (Q none (pI (pI σ 7 3 ((gI σ 7 3) + (1 : Int32))) 7 4 (1 : Int32))))))) ∧ (¬ (gI σ (x1 + 1) 0) = (4 : Int32) → ((80 : Int32) ≤ (gI σ 7 1) → ((1 : Int32) = 0 ∨ (1 : Int32) = 1) ∧ (Q none (pI σ 7 4 (1 : Int32)))) ∧ (¬ (80 : Int32) ≤ (gI σ 7 1) → ((12 : Int32) < (gI σ 7 2) → ((1 : Int32) = 0 ∨ (1 : Int32) = 1) ∧ (Q none (pI σ 7 4 (1 : Int32)))) ∧ (¬ (12 : Int32) < (gI σ 7 2) → ((gI σ 7 3) ≤ (12 : Int32) → (inb (gI σ 7 1) (gN σ 8) ∧ layC lay1 8 (ix (gI σ 7 1)) (x1 + 1)) ∧ (Q none (pI (pR σ 8 (ix (gI σ 7 1)) (x1 + 1)) 7 1 ((gI (pR σ 8 (ix (gI σ 7 1)) (x1 + 1)) 7 1) + (1 : Int32))))) ∧ (¬ (gI σ 7 3) ≤ (12 : Int32) → ((1 : Int32) = 0 ∨ (1 : Int32) = 1) ∧ (Q none (pI σ 7 4 (1 : Int32))))))))) ∧ (¬ (gI σ 7 4) = 0 → Q none σ)) : Cl lay1 (d + 1) M_Ro_add [aO 9 7, aO 5 (x1 + 1)] σ Q :=
  run_intro (Cl_mono lay1 d) [] 600 h
set_option maxRecDepth 50000 in
theorem bk_Ro_addLine_0 {d : Nat} {σ : St} {Q : Option AV → St → Prop} (x1 : Nat)
    (h : Wp lay1 rtOf (Cl lay1 d) k_Ro_addLine 0 Q (2, [aO 9 7, aO 2 x1, aI (0 : Int32)], [], σ)) : Cl lay1 (d + 1) M_Ro_addLine [aO 9 7, aO 2 x1] σ Q :=
  run_intro (Cl_mono lay1 d) [2] 600 h
set_option maxRecDepth 50000 in
theorem bk_Ro_addLine_2 {d : Nat} {σ : St} {Q : Option AV → St → Prop} (x1 : Nat) (x2 : Int32)
    (h : nn x1 (nn (ldR lay1 σ x1 1) (((Int32.ofNat (gN σ (ldR lay1 σ x1 1))) ≤ x2 → Q none σ) ∧ (¬ (Int32.ofNat (gN σ (ldR lay1 σ x1 1))) ≤ x2 → nn x1 (nn (ldR lay1 σ x1 1) (inb x2 (gN σ (ldR lay1 σ x1 1)) ∧ (Cl lay1 d M_Ro_add [aO 9 7, aO 5 (gR σ (ldR lay1 σ x1 1) (ix x2))] σ (rV fun σ1 => Wp lay1 rtOf (Cl lay1 d) k_Ro_addLine 0 Q (2, [aO 9 7, aO 2 x1, aI (x2 + (1 : Int32))], [], σ1))))))))) : Wp lay1 rtOf (Cl lay1 d) k_Ro_addLine 0 Q (2, [aO 9 7, aO 2 x1, aI x2], [], σ) :=
  run_intro (Cl_mono lay1 d) [2] 600 h
set_option maxRecDepth 50000 in
theorem bk_Ro_repeat_0 {d : Nat} {σ : St} {Q : Option AV → St → Prop} (x1 : Int32) (x2 : Int32)
    (h : Wp lay1 rtOf (Cl lay1 d) k_Ro_repeat 0 Q (8, [aO 9 7, aI x1, aI x2, aI (gI σ 7 1), aI (1 : Int32), aZ], [], σ)) : Cl lay1 (d + 1) M_Ro_repeat [aO 9 7, aI x1, aI x2] σ Q :=
  run_intro (Cl_mono lay1 d) [8, 24] 600 h
set_option maxRecDepth 50000 in
theorem bk_Ro_repeat_8 {d : Nat} {σ : St} {Q : Option AV → St → Prop} (x1 : Int32) (x2 : Int32) (x3 : Int32) (x4 : Int32) (u5 : AV)
    (h : (x2 ≤ x4 → Q none σ) ∧ (¬ x2 ≤ x4 → ((gI σ 7 4) = 0 → Wp lay1 rtOf (Cl lay1 d) k_Ro_repeat 0 Q (24, [aO 9 7, aI x1, aI x2, aI x3, aI x4, aI x1], [], σ)) ∧ (¬ (gI σ 7 4) = 0 → Q none σ))) : Wp lay1 rtOf (Cl lay1 d) k_Ro_repeat 0 Q (8, [aO 9 7, aI x1, aI x2, aI x3, aI x4, u5], [], σ) :=
  run_intro (Cl_mono lay1 d) [8, 24] 600 h
set_option maxRecDepth 50000 in
theorem bk_Ro_repeat_24 {d : Nat} {σ : St} {Q : Option AV → St → Prop} (x1 : Int32) (x2 : Int32) (x3 : Int32) (x4 : Int32) (x5 : Int32)
    (h : (x3 ≤ x5 → Wp lay1 rtOf (Cl lay1 d) k_Ro_repeat 0 Q (8, [aO 9 7, aI x1, aI x2, aI x3, aI (x4 + (1 : Int32)), aI x5], [], σ)) ∧ (¬ x3 ≤ x5 → inb x5 (gN σ 8) ∧ (Cl lay1 d M_Ro_add [aO 9 7, aO 5 (gR σ 8 (ix x5))] σ (rV fun σ1 => Wp lay1 rtOf (Cl lay1 d) k_Ro_repeat 0 Q (24, [aO 9 7, aI x1, aI x2, aI x3, aI x4, aI (x5 + (1 : Int32))], [], σ1))))) : Wp lay1 rtOf (Cl lay1 d) k_Ro_repeat 0 Q (24, [aO 9 7, aI x1, aI x2, aI x3, aI x4, aI x5], [], σ) :=
  run_intro (Cl_mono lay1 d) [8, 24] 600 h
set_option maxRecDepth 50000 in
theorem bk_Te_append_0 {d : Nat} {σ : St} {Q : Option AV → St → Prop} (x1 : Int32)
    (h : ((1500 : Int32) ≤ (gI σ 5 1) → Q none σ) ∧ (¬ (1500 : Int32) ≤ (gI σ 5 1) → inb (gI σ 5 1) (gN σ 6) ∧ (Q none (pI (pI σ 6 (ix (gI σ 5 1)) (vp_nar .byte x1.toInt8.toInt32)) 5 1 ((gI (pI σ 6 (ix (gI σ 5 1)) (vp_nar .byte x1.toInt8.toInt32)) 5 1) + (1 : Int32)))))) : Cl lay1 (d + 1) M_Te_append [aO 10 5, aI x1] σ Q :=
  run_intro (Cl_mono lay1 d) [] 600 h
set_option maxRecDepth 50000 in
theorem bk_Te_empty_0 {d : Nat} {σ : St} {Q : Option AV → St → Prop} 
    (h : Q none (pI σ 5 1 (0 : Int32))) : Cl lay1 (d + 1) M_Te_empty [aO 10 5] σ Q :=
  run_intro (Cl_mono lay1 d) [] 600 h
set_option maxRecDepth 50000 in
theorem bk_Te_rewind_0 {d : Nat} {σ : St} {Q : Option AV → St → Prop} 
    (h : Q none (pI σ 5 4 (0 : Int32))) : Cl lay1 (d + 1) M_Te_rewind [aO 10 5] σ Q :=
  run_intro (Cl_mono lay1 d) [] 600 h
set_option maxRecDepth 50000 in
theorem bk_Te_advance_0 {d : Nat} {σ : St} {Q : Option AV → St → Prop} 
    (h : Cl lay1 d M_Te_skipBlanks [aO 10 5] σ (rV fun σ1 => Cl lay1 d M_Te_signAt [aO 10 5, aI (gI (pI σ1 5 3 (gI σ1 5 4)) 5 4)] (pI σ1 5 3 (gI σ1 5 4)) (rI fun r3 σ2 => (r3 = (-1 : Int32) → Q none (pI σ2 5 2 (-1 : Int32))) ∧ (¬ r3 = (-1 : Int32) → Cl lay1 d M_Te_isLetter [aI r3] σ2 (rI fun r5 σ4 => (r5 = 0 → Cl lay1 d M_Te_isFigure [aI r3] σ4 (rI fun r7 σ6 => (r7 = 0 → Cl lay1 d M_Te_standsAlone [aI r3] σ6 (rI fun r9 σ8 => (r9 = 0 → Q none (pI (pI σ8 5 2 (-2 : Int32)) 5 4 ((gI (pI σ8 5 2 (-2 : Int32)) 5 4) + (1 : Int32)))) ∧ (¬ r9 = 0 → Q none (pI (pI σ8 5 2 r3) 5 4 ((gI (pI σ8 5 2 r3) 5 4) + (1 : Int32)))))) ∧ (¬ r7 = 0 → Cl lay1 d M_Te_takeNumber [aO 10 5] σ6 (rV fun σ10 => Q none σ10)))) ∧ (¬ r5 = 0 → Cl lay1 d M_Te_takeName [aO 10 5] σ4 (rV fun σ11 => Q none σ11))))))) : Cl lay1 (d + 1) M_Te_advance [aO 10 5] σ Q :=
  run_intro (Cl_mono lay1 d) [] 600 h
set_option maxRecDepth 50000 in
theorem bk_Te_signAt_0 {d : Nat} {σ : St} {Q : Option AV → St → Prop} (x1 : Int32)
    (h : (x1 < 0 → Q (some (aI (-1 : Int32))) σ) ∧ (¬ x1 < 0 → ((gI σ 5 1) ≤ x1 → Q (some (aI (-1 : Int32))) σ) ∧ (¬ (gI σ 5 1) ≤ x1 → (x1 < (1500 : Int32) → inb x1 (gN σ 6) ∧ (Q (some (aI ((gI σ 6 (ix x1)) &&& (255 : Int32)))) σ)) ∧ (¬ x1 < (1500 : Int32) → Q (some (aI (-1 : Int32))) σ)))) : Cl lay1 (d + 1) M_Te_signAt [aO 10 5, aI x1] σ Q :=
  run_intro (Cl_mono lay1 d) [] 600 h
set_option maxRecDepth 50000 in
theorem bk_Te_skipBlanks_0 {d : Nat} {σ : St} {Q : Option AV → St → Prop} 
    (h : ((gI σ 5 1) ≤ (gI σ 5 4) → Q none σ) ∧ (¬ (gI σ 5 1) ≤ (gI σ 5 4) → Cl lay1 d M_Te_signAt [aO 10 5, aI (gI σ 5 4)] σ (rI fun r2 σ1 => Cl lay1 d M_Te_isBlank [aI r2] σ1 (rI fun r4 σ3 => (r4 = 0 → Q none σ3) ∧ (¬ r4 = 0 → Wp lay1 rtOf (Cl lay1 d) k_Te_skipBlanks 0 Q (0, [aO 10 5], [], (pI σ3 5 4 ((gI σ3 5 4) + (1 : Int32))))))))) : Wp lay1 rtOf (Cl lay1 d) k_Te_skipBlanks 0 Q (0, [aO 10 5], [], σ) :=
  run_intro (Cl_mono lay1 d) [0] 600 h
set_option maxRecDepth 50000 in
theorem bk_Te_takeName_0 {d : Nat} {σ : St} {Q : Option AV → St → Prop} 
    (h : Wp lay1 rtOf (Cl lay1 d) k_Te_takeName 0 Q (5, [aO 10 5], [], (pL σ 5 5 (0 : Int64)))) : Cl lay1 (d + 1) M_Te_takeName [aO 10 5] σ Q :=
  run_intro (Cl_mono lay1 d) [5] 600 h
set_option maxRecDepth 50000 in
theorem bk_Te_takeName_5 {d : Nat} {σ : St} {Q : Option AV → St → Prop} 
    (h : ((gI σ 5 1) ≤ (gI σ 5 4) → ((8 : Int32) < ((gI σ 5 4) - (gI σ 5 3)) → Q none (pI σ 5 2 (-2 : Int32))) ∧ (¬ (8 : Int32) < ((gI σ 5 4) - (gI σ 5 3)) → Q none (pI σ 5 2 (-3 : Int32)))) ∧ (¬ (gI σ 5 1) ≤ (gI σ 5 4) → Cl lay1 d M_Te_signAt [aO 10 5, aI (gI σ 5 4)] σ (rI fun r2 σ1 => Cl lay1 d M_Te_isLetter [aI r2] σ1 (rI fun r4 σ3 => (r4 = 0 → ((8 : Int32) < ((gI σ3 5 4) - (gI σ3 5 3)) → Q none (pI σ3 5 2 (-2 : Int32))) ∧ (¬ (8 : Int32) < ((gI σ3 5 4) - (gI σ3 5 3)) → Q none (pI σ3 5 2 (-3 : Int32)))) ∧ (¬ r4 = 0 → Cl lay1 d M_Te_signAt [aO 10 5, aI (gI σ3 5 4)] σ3 (rI fun r6 σ5 => Cl lay1 d M_Te_letterWorth [aI r6] σ5 (rI fun r8 σ7 => Wp lay1 rtOf (Cl lay1 d) k_Te_takeName 0 Q (5, [aO 10 5], [], (pI (pL σ7 5 5 (((gL σ3 5 5) * (32 : Int64)) + r8.toInt64)) 5 4 ((gI (pL σ7 5 5 (((gL σ3 5 5) * (32 : Int64)) + r8.toInt64)) 5 4) + (1 : Int32))))))))))) : Wp lay1 rtOf (Cl lay1 d) k_Te_takeName 0 Q (5, [aO 10 5], [], σ) :=
  run_intro (Cl_mono lay1 d) [5] 600 h
set_option maxRecDepth 50000 in
theorem bk_Te_takeNumber_0 {d : Nat} {σ : St} {Q : Option AV → St → Prop} 
    (h : Wp lay1 rtOf (Cl lay1 d) k_Te_takeNumber 0 Q (5, [aO 10 5], [], (pL σ 5 5 (0 : Int64)))) : Cl lay1 (d + 1) M_Te_takeNumber [aO 10 5] σ Q :=
  run_intro (Cl_mono lay1 d) [5] 600 h
set_option maxRecDepth 50000 in
theorem bk_Te_takeNumber_5 {d : Nat} {σ : St} {Q : Option AV → St → Prop} 
    (h : ((gI σ 5 1) ≤ (gI σ 5 4) → ((4 : Int32) < ((gI σ 5 4) - (gI σ 5 3)) → Q none (pI σ 5 2 (-2 : Int32))) ∧ (¬ (4 : Int32) < ((gI σ 5 4) - (gI σ 5 3)) → Q none (pI σ 5 2 (-4 : Int32)))) ∧ (¬ (gI σ 5 1) ≤ (gI σ 5 4) → Cl lay1 d M_Te_signAt [aO 10 5, aI (gI σ 5 4)] σ (rI fun r2 σ1 => Cl lay1 d M_Te_isFigure [aI r2] σ1 (rI fun r4 σ3 => (r4 = 0 → ((4 : Int32) < ((gI σ3 5 4) - (gI σ3 5 3)) → Q none (pI σ3 5 2 (-2 : Int32))) ∧ (¬ (4 : Int32) < ((gI σ3 5 4) - (gI σ3 5 3)) → Q none (pI σ3 5 2 (-4 : Int32)))) ∧ (¬ r4 = 0 → Cl lay1 d M_Te_signAt [aO 10 5, aI (gI σ3 5 4)] σ3 (rI fun r6 σ5 => Wp lay1 rtOf (Cl lay1 d) k_Te_takeNumber 0 Q (5, [aO 10 5], [], (pI (pL σ5 5 5 (((gL σ3 5 5) * (10 : Int64)) + (r6 - (48 : Int32)).toInt64)) 5 4 ((gI (pL σ5 5 5 (((gL σ3 5 5) * (10 : Int64)) + (r6 - (48 : Int32)).toInt64)) 5 4) + (1 : Int32)))))))))) : Wp lay1 rtOf (Cl lay1 d) k_Te_takeNumber 0 Q (5, [aO 10 5], [], σ) :=
  run_intro (Cl_mono lay1 d) [5] 600 h
set_option maxRecDepth 50000 in
theorem bk_Te_isName_0 {d : Nat} {σ : St} {Q : Option AV → St → Prop} (x1 : Int32)
    (h : ((gI σ 5 2) = (-3 : Int32) → Cl lay1 d M_Te_letterWorth [aI x1] σ (rI fun r2 σ1 => ((lg_cmp (gL σ 5 5) r2.toInt64) = 0 → ((1 : Int32) = 0 ∨ (1 : Int32) = 1) ∧ Q (some (aI (1 : Int32))) σ1) ∧ (¬ (lg_cmp (gL σ 5 5) r2.toInt64) = 0 → ((0 : Int32) = 0 ∨ (0 : Int32) = 1) ∧ Q (some (aI (0 : Int32))) σ1))) ∧ (¬ (gI σ 5 2) = (-3 : Int32) → ((0 : Int32) = 0 ∨ (0 : Int32) = 1) ∧ Q (some (aI (0 : Int32))) σ)) : Cl lay1 (d + 1) M_Te_isName [aO 10 5, aI x1] σ Q :=
  run_intro (Cl_mono lay1 d) [] 600 h
set_option maxRecDepth 50000 in
theorem bk_Te_isKindLetter_0 {d : Nat} {σ : St} {Q : Option AV → St → Prop} 
    (h : Cl lay1 d M_Te_isName [aO 10 5, aI (100 : Int32)] σ (rI fun r2 σ1 => (r2 = 0 → Cl lay1 d M_Te_isName [aO 10 5, aI (113 : Int32)] σ1 (rI fun r4 σ3 => (r4 = 0 → Cl lay1 d M_Te_isName [aO 10 5, aI (115 : Int32)] σ3 (rI fun r6 σ5 => (r6 = 0 → Cl lay1 d M_Te_isName [aO 10 5, aI (107 : Int32)] σ5 (rI fun r8 σ7 => (r8 = 0 → Cl lay1 d M_Te_isName [aO 10 5, aI (109 : Int32)] σ7 (rI fun r10 σ9 => (r10 = 0 → ((0 : Int32) = 0 ∨ (0 : Int32) = 1) ∧ Q (some (aI (0 : Int32))) σ9) ∧ (¬ r10 = 0 → ((1 : Int32) = 0 ∨ (1 : Int32) = 1) ∧ Q (some (aI (1 : Int32))) σ9))) ∧ (¬ r8 = 0 → ((1 : Int32) = 0 ∨ (1 : Int32) = 1) ∧ Q (some (aI (1 : Int32))) σ7))) ∧ (¬ r6 = 0 → ((1 : Int32) = 0 ∨ (1 : Int32) = 1) ∧ Q (some (aI (1 : Int32))) σ5))) ∧ (¬ r4 = 0 → ((1 : Int32) = 0 ∨ (1 : Int32) = 1) ∧ Q (some (aI (1 : Int32))) σ3))) ∧ (¬ r2 = 0 → ((1 : Int32) = 0 ∨ (1 : Int32) = 1) ∧ Q (some (aI (1 : Int32))) σ1))) : Cl lay1 (d + 1) M_Te_isKindLetter [aO 10 5] σ Q :=
  run_intro (Cl_mono lay1 d) [] 600 h
set_option maxRecDepth 50000 in
theorem bk_Te_letterWorth_0 {d : Nat} {σ : St} {Q : Option AV → St → Prop} (x0 : Int32)
    (h : Q (some (aI ((x0 - (97 : Int32)) + (1 : Int32)))) σ) : Cl lay1 (d + 1) M_Te_letterWorth [aI x0] σ Q :=
  run_intro (Cl_mono lay1 d) [] 600 h
set_option maxRecDepth 50000 in
theorem bk_Te_isBlank_0 {d : Nat} {σ : St} {Q : Option AV → St → Prop} (x0 : Int32)
    (h : (x0 = (32 : Int32) → ((1 : Int32) = 0 ∨ (1 : Int32) = 1) ∧ Q (some (aI (1 : Int32))) σ) ∧ (¬ x0 = (32 : Int32) → (x0 = (10 : Int32) → ((1 : Int32) = 0 ∨ (1 : Int32) = 1) ∧ Q (some (aI (1 : Int32))) σ) ∧ (¬ x0 = (10 : Int32) → ((0 : Int32) = 0 ∨ (0 : Int32) = 1) ∧ Q (some (aI (0 : Int32))) σ))) : Cl lay1 (d + 1) M_Te_isBlank [aI x0] σ Q :=
  run_intro (Cl_mono lay1 d) [] 600 h
set_option maxRecDepth 50000 in
theorem bk_Te_isLetter_0 {d : Nat} {σ : St} {Q : Option AV → St → Prop} (x0 : Int32)
    (h : (x0 < (97 : Int32) → ((0 : Int32) = 0 ∨ (0 : Int32) = 1) ∧ Q (some (aI (0 : Int32))) σ) ∧ (¬ x0 < (97 : Int32) → ((122 : Int32) < x0 → ((0 : Int32) = 0 ∨ (0 : Int32) = 1) ∧ Q (some (aI (0 : Int32))) σ) ∧ (¬ (122 : Int32) < x0 → ((1 : Int32) = 0 ∨ (1 : Int32) = 1) ∧ Q (some (aI (1 : Int32))) σ))) : Cl lay1 (d + 1) M_Te_isLetter [aI x0] σ Q :=
  run_intro (Cl_mono lay1 d) [] 600 h
set_option maxRecDepth 50000 in
theorem bk_Te_isFigure_0 {d : Nat} {σ : St} {Q : Option AV → St → Prop} (x0 : Int32)
    (h : (x0 < (48 : Int32) → ((0 : Int32) = 0 ∨ (0 : Int32) = 1) ∧ Q (some (aI (0 : Int32))) σ) ∧ (¬ x0 < (48 : Int32) → ((57 : Int32) < x0 → ((0 : Int32) = 0 ∨ (0 : Int32) = 1) ∧ Q (some (aI (0 : Int32))) σ) ∧ (¬ (57 : Int32) < x0 → ((1 : Int32) = 0 ∨ (1 : Int32) = 1) ∧ Q (some (aI (1 : Int32))) σ))) : Cl lay1 (d + 1) M_Te_isFigure [aI x0] σ Q :=
  run_intro (Cl_mono lay1 d) [] 600 h
set_option maxRecDepth 50000 in
theorem bk_Te_standsAlone_0 {d : Nat} {σ : St} {Q : Option AV → St → Prop} (x0 : Int32)
    (h : (x0 = (40 : Int32) → ((1 : Int32) = 0 ∨ (1 : Int32) = 1) ∧ Q (some (aI (1 : Int32))) σ) ∧ (¬ x0 = (40 : Int32) → (x0 = (41 : Int32) → ((1 : Int32) = 0 ∨ (1 : Int32) = 1) ∧ Q (some (aI (1 : Int32))) σ) ∧ (¬ x0 = (41 : Int32) → (x0 = (42 : Int32) → ((1 : Int32) = 0 ∨ (1 : Int32) = 1) ∧ Q (some (aI (1 : Int32))) σ) ∧ (¬ x0 = (42 : Int32) → (x0 = (43 : Int32) → ((0 : Int32) = 0 ∨ (0 : Int32) = 1) ∧ Q (some (aI (0 : Int32))) σ) ∧ (¬ x0 = (43 : Int32) → (x0 = (44 : Int32) → ((0 : Int32) = 0 ∨ (0 : Int32) = 1) ∧ Q (some (aI (0 : Int32))) σ) ∧ (¬ x0 = (44 : Int32) → (x0 = (45 : Int32) → ((1 : Int32) = 0 ∨ (1 : Int32) = 1) ∧ Q (some (aI (1 : Int32))) σ) ∧ (¬ x0 = (45 : Int32) → (x0 = (46 : Int32) → ((0 : Int32) = 0 ∨ (0 : Int32) = 1) ∧ Q (some (aI (0 : Int32))) σ) ∧ (¬ x0 = (46 : Int32) → (x0 = (47 : Int32) → ((1 : Int32) = 0 ∨ (1 : Int32) = 1) ∧ Q (some (aI (1 : Int32))) σ) ∧ (¬ x0 = (47 : Int32) → (x0 = (48 : Int32) → ((0 : Int32) = 0 ∨ (0 : Int32) = 1) ∧ Q (some (aI (0 : Int32))) σ) ∧ (¬ x0 = (48 : Int32) → (x0 = (49 : Int32) → ((0 : Int32) = 0 ∨ (0 : Int32) = 1) ∧ Q (some (aI (0 : Int32))) σ) ∧ (¬ x0 = (49 : Int32) → (x0 = (50 : Int32) → ((0 : Int32) = 0 ∨ (0 : Int32) = 1) ∧ Q (some (aI (0 : Int32))) σ) ∧ (¬ x0 = (50 : Int32) → (x0 = (51 : Int32) → ((0 : Int32) = 0 ∨ (0 : Int32) = 1) ∧ Q (some (aI (0 : Int32))) σ) ∧ (¬ x0 = (51 : Int32) → (x0 = (52 : Int32) → ((0 : Int32) = 0 ∨ (0 : Int32) = 1) ∧ Q (some (aI (0 : Int32))) σ) ∧ (¬ x0 = (52 : Int32) → (x0 = (53 : Int32) → ((0 : Int32) = 0 ∨ (0 : Int32) = 1) ∧ Q (some (aI (0 : Int32))) σ) ∧ (¬ x0 = (53 : Int32) → (x0 = (54 : Int32) → ((0 : Int32) = 0 ∨ (0 : Int32) = 1) ∧ Q (some (aI (0 : Int32))) σ) ∧ (¬ x0 = (54 : Int32) → (x0 = (55 : Int32) → ((0 : Int32) = 0 ∨ (0 : Int32) = 1) ∧ Q (some (aI (0 : Int32))) σ) ∧ (¬ x0 = (55 : Int32) → (x0 = (56 : Int32) → ((0 : Int32) = 0 ∨ (0 : Int32) = 1) ∧ Q (some (aI (0 : Int32))) σ) ∧ (¬ x0 = (56 : Int32) → (x0 = (57 : Int32) → ((0 : Int32) = 0 ∨ (0 : Int32) = 1) ∧ Q (some (aI (0 : Int32))) σ) ∧ (¬ x0 = (57 : Int32) → (x0 = (58 : Int32) → ((0 : Int32) = 0 ∨ (0 : Int32) = 1) ∧ Q (some (aI (0 : Int32))) σ) ∧ (¬ x0 = (58 : Int32) → (x0 = (59 : Int32) → ((1 : Int32) = 0 ∨ (1 : Int32) = 1) ∧ Q (some (aI (1 : Int32))) σ) ∧ (¬ x0 = (59 : Int32) → (x0 = (60 : Int32) → ((0 : Int32) = 0 ∨ (0 : Int32) = 1) ∧ Q (some (aI (0 : Int32))) σ) ∧ (¬ x0 = (60 : Int32) → (x0 = (61 : Int32) → ((1 : Int32) = 0 ∨ (1 : Int32) = 1) ∧ Q (some (aI (1 : Int32))) σ) ∧ (¬ x0 = (61 : Int32) → ((0 : Int32) = 0 ∨ (0 : Int32) = 1) ∧ Q (some (aI (0 : Int32))) σ))))))))))))))))))))))) : Cl lay1 (d + 1) M_Te_standsAlone [aI x0] σ Q :=
  run_intro (Cl_mono lay1 d) [] 600 h
set_option maxRecDepth 50000 in
theorem bk_Jl_compare_0 {d : Nat} {σ : St} {Q : Option AV → St → Prop} (x0 : Int64) (x2 : Int64)
    (h : (0 ≤ (lg_cmp x0 x2) → ((lg_cmp x0 x2) = 0 → Q (some (aI (0 : Int32))) σ) ∧ (¬ (lg_cmp x0 x2) = 0 → Q (some (aI (1 : Int32))) σ)) ∧ (¬ 0 ≤ (lg_cmp x0 x2) → Q (some (aI (-1 : Int32))) σ)) : Cl lay1 (d + 1) M_Jl_compare [aJ x0, aJ x2] σ Q :=
  run_intro (Cl_mono lay1 d) [] 600 h
set_option maxRecDepth 50000 in
theorem bk_Jm_floorMod_0 {d : Nat} {σ : St} {Q : Option AV → St → Prop} (x0 : Int32) (x1 : Int32)
    (h : ¬ x1 = 0 ∧ ((0 ≤ (x0 ^^^ x1) → Q (some (aI (x0 - x0 / x1 * x1))) σ) ∧ (¬ 0 ≤ (x0 ^^^ x1) → ((x0 - x0 / x1 * x1) = 0 → Q (some (aI (x0 - x0 / x1 * x1))) σ) ∧ (¬ (x0 - x0 / x1 * x1) = 0 → Q (some (aI ((x0 - x0 / x1 * x1) + x1))) σ)))) : Cl lay1 (d + 1) M_Jm_floorMod [aI x0, aI x1] σ Q :=
  run_intro (Cl_mono lay1 d) [] 600 h
set_option maxRecDepth 50000 in
theorem bk_Jm_abs_0 {d : Nat} {σ : St} {Q : Option AV → St → Prop} (x0 : Int64)
    (h : (0 ≤ (lg_cmp x0 (0 : Int64)) → Q (some (aJ x0)) σ) ∧ (¬ 0 ≤ (lg_cmp x0 (0 : Int64)) → Q (some (aJ (-x0))) σ)) : Cl lay1 (d + 1) M_Jm_abs [aJ x0] σ Q :=
  run_intro (Cl_mono lay1 d) [] 600 h
set_option maxRecDepth 50000 in
theorem bk_Jm_min_0 {d : Nat} {σ : St} {Q : Option AV → St → Prop} (x0 : Int32) (x1 : Int32)
    (h : (x1 < x0 → Q (some (aI x1)) σ) ∧ (¬ x1 < x0 → Q (some (aI x0)) σ)) : Cl lay1 (d + 1) M_Jm_min [aI x0, aI x1] σ Q :=
  run_intro (Cl_mono lay1 d) [] 600 h
end
section
set_option maxRecDepth 50000 in
theorem bk_La_forget_0 {d : Nat} {σ : St} {Q : Option AV → St → Prop} 
    (h : ((0 : Int32) = 0 ∨ (0 : Int32) = 1) ∧ (Q none (pI σ 68 3 (0 : Int32)))) : Cl lay1 (d + 1) M_La_forget [aO 1 68] σ Q :=
  run_intro (Cl_mono lay1 d) [] 600 h
set_option maxRecDepth 50000 in
theorem bk_La_prepare_0 {d : Nat} {σ : St} {Q : Option AV → St → Prop} (x2 : Int32)
    (h : ((2 : Int32) ≤ x2 → Wp lay1 rtOf (Cl lay1 d) k_La_prepare 2 Q (14, [aO 1 68, aO 8 11, aI x2, aI (0 : Int32), aZ, aZ], [], (pI σ 68 0 x2))) ∧ (¬ (2 : Int32) ≤ x2 → ((0 : Int32) = 0 ∨ (0 : Int32) = 1) ∧ Q (some (aI (0 : Int32))) σ)) : Cl lay1 (d + 1) M_La_prepare [aO 1 68, aO 8 11, aI x2] σ Q :=
  run_intro (Cl_mono lay1 d) [14] 600 h
set_option maxRecDepth 50000 in
theorem bk_La_prepare_14 {d : Nat} {σ : St} {Q : Option AV → St → Prop} (x2 : Int32) (x3 : Int32) (u4 : AV) (u5 : AV)
    (h : ((gI σ 11 1) ≤ x3 → ((1 : Int32) = 0 ∨ (1 : Int32) = 1) ∧ Q (some (aI (1 : Int32))) σ) ∧ (¬ (gI σ 11 1) ≤ x3 → nn (gR σ 11 0) (inb x3 (gN σ (gR σ 11 0)) ∧ (nn (gR σ (gR σ 11 0) (ix x3)) (nn (ldR lay1 σ (gR σ (gR σ 11 0) (ix x3)) 1) (Cl lay1 d M_Fr_side [aO 0 (ldR lay1 σ (gR σ (gR σ 11 0) (ix x3)) 1), aI (1 : Int32)] σ (rI fun r2 σ1 => ¬ x2 = 0 ∧ (Cl lay1 d M_La_inverse [aI (r2 - r2 / x2 * x2), aI x2] σ1 (rI fun r4 σ3 => (r4 = 0 → ((0 : Int32) = 0 ∨ (0 : Int32) = 1) ∧ Q (some (aI (0 : Int32))) σ3) ∧ (¬ r4 = 0 → nn (ldR lay1 σ (gR σ (gR σ 11 0) (ix x3)) 1) (Cl lay1 d M_Fr_side [aO 0 (ldR lay1 σ (gR σ (gR σ 11 0) (ix x3)) 1), aI (0 : Int32)] σ3 (rI fun r6 σ5 => Cl lay1 d M_Jm_floorMod [aI r6, aI x2] σ5 (rI fun r8 σ7 => ¬ x2 = 0 ∧ (inb x3 (gN σ7 69) ∧ (Wp lay1 rtOf (Cl lay1 d) k_La_prepare 2 Q (14, [aO 1 68, aO 8 11, aI x2, aI (x3 + (1 : Int32)), aO 0 (ldR lay1 σ (gR σ (gR σ 11 0) (ix x3)) 1), aI r4], [], (pI σ7 69 (ix x3) ((r8 * r4) - (r8 * r4) / x2 * x2)))))))))))))))))) : Wp lay1 rtOf (Cl lay1 d) k_La_prepare 2 Q (14, [aO 1 68, aO 8 11, aI x2, aI x3, u4, u5], [], σ) :=
  run_intro (Cl_mono lay1 d) [14] 600 h
set_option maxRecDepth 50000 in
theorem bk_La_inverse_0 {d : Nat} {σ : St} {Q : Option AV → St → Prop} (x0 : Int32) (x1 : Int32)
    (h : Wp lay1 rtOf (Cl lay1 d) k_La_inverse 1 Q (2, [aI x0, aI x1, aI (1 : Int32)], [], σ)) : Cl lay1 (d + 1) M_La_inverse [aI x0, aI x1] σ Q :=
  run_intro (Cl_mono lay1 d) [2] 600 h
set_option maxRecDepth 50000 in
theorem bk_La_inverse_2 {d : Nat} {σ : St} {Q : Option AV → St → Prop} (x0 : Int32) (x1 : Int32) (x2 : Int32)
    (h : (x1 ≤ x2 → Q (some (aI (0 : Int32))) σ) ∧ (¬ x1 ≤ x2 → ¬ x1 = 0 ∧ ((((x0 * x2) - (x0 * x2) / x1 * x1) = (1 : Int32) → Q (some (aI x2)) σ) ∧ (¬ ((x0 * x2) - (x0 * x2) / x1 * x1) = (1 : Int32) → Wp lay1 rtOf (Cl lay1 d) k_La_inverse 1 Q (2, [aI x0, aI x1, aI (x2 + (1 : Int32))], [], σ))))) : Wp lay1 rtOf (Cl lay1 d) k_La_inverse 1 Q (2, [aI x0, aI x1, aI x2], [], σ) :=
  run_intro (Cl_mono lay1 d) [2] 600 h
set_option maxRecDepth 50000 in
theorem bk_La_next_0 {d : Nat} {σ : St} {Q : Option AV → St → Prop} (x2 : Int32)
    (h : ¬ (gI σ 68 0) = 0 ∧ (¬ (gI σ 68 0) = 0 ∧ (Wp lay1 rtOf (Cl lay1 d) k_La_next 1 Q (18, [aO 1 68, aO 8 11, aI x2, aI (x2 / (gI σ 68 0)), aI (x2 - x2 / (gI σ 68 0) * (gI σ 68 0)), aI (0 : Int32)], [], σ)))) : Cl lay1 (d + 1) M_La_next [aO 1 68, aO 8 11, aI x2] σ Q :=
  run_intro (Cl_mono lay1 d) [18] 600 h
set_option maxRecDepth 50000 in
theorem bk_La_next_18 {d : Nat} {σ : St} {Q : Option AV → St → Prop} (u2 : AV) (x3 : Int32) (x4 : Int32) (x5 : Int32)
    (h : ((gI σ 11 1) ≤ x5 → Q (some (aI ((x3 * (gI σ 68 0)) + x4))) σ) ∧ (¬ (gI σ 11 1) ≤ x5 → nn (gR σ 11 0) (inb x5 (gN σ (gR σ 11 0)) ∧ (nn (gR σ (gR σ 11 0) (ix x5)) (((gI σ (gR σ (gR σ 11 0) (ix x5)) 0) = (0 : Int32) → inb x5 (gN σ 69) ∧ (¬ (gI σ 68 0) = 0 ∧ (Wp lay1 rtOf (Cl lay1 d) k_La_next 1 Q (18, [aO 1 68, aO 8 11, (unJ u2), aI ((x3 + ((gI σ 69 (ix x5)) * x4)) - (x3 + ((gI σ 69 (ix x5)) * x4)) / (gI σ 68 0) * (gI σ 68 0)), aI x4, aI (x5 + (1 : Int32))], [], σ)))) ∧ (¬ (gI σ (gR σ (gR σ 11 0) (ix x5)) 0) = (0 : Int32) → ((gI σ (gR σ (gR σ 11 0) (ix x5)) 0) = (1 : Int32) → inb x5 (gN σ 69) ∧ (Cl lay1 d M_Jm_floorMod [aI (x4 - ((gI σ 69 (ix x5)) * x3)), aI (gI σ 68 0)] σ (rI fun r4 σ3 => Wp lay1 rtOf (Cl lay1 d) k_La_next 1 Q (18, [aO 1 68, aO 8 11, u2, aI x3, aI r4, aI (x5 + (1 : Int32))], [], σ3)))) ∧ (¬ (gI σ (gR σ (gR σ 11 0) (ix x5)) 0) = (1 : Int32) → ((gI σ (gR σ (gR σ 11 0) (ix x5)) 0) = (2 : Int32) → inb x5 (gN σ 69) ∧ (Cl lay1 d M_Jm_floorMod [aI (x4 - (((gI σ 69 (ix x5)) * x3) * x3)), aI (gI σ 68 0)] σ (rI fun r2 σ1 => Wp lay1 rtOf (Cl lay1 d) k_La_next 1 Q (18, [aO 1 68, aO 8 11, u2, aI x3, aI r2, aI (x5 + (1 : Int32))], [], σ1)))) ∧ (¬ (gI σ (gR σ (gR σ 11 0) (ix x5)) 0) = (2 : Int32) → Wp lay1 rtOf (Cl lay1 d) k_La_next 1 Q (18, [aO 1 68, aO 8 11, u2, aI x3, aI x4, aI (x5 + (1 : Int32))], [], σ))))))))) : Wp lay1 rtOf (Cl lay1 d) k_La_next 1 Q (18, [aO 1 68, aO 8 11, u2, aI x3, aI x4, aI x5], [], σ) :=
  run_intro (Cl_mono lay1 d) [18] 600 h
set_option maxRecDepth 50000 in
theorem bk_La_followAll_0 {d : Nat} {σ : St} {Q : Option AV → St → Prop} 
    (h : Cl lay1 d M_Jm_min [aI ((gI σ 68 0) * (gI σ 68 0)), aI (961 : Int32)] σ (rI fun r2 σ1 => Wp lay1 rtOf (Cl lay1 d) k_La_followAll 0 Q (18, [aO 1 68, aO 8 11, aI r2, aI (0 : Int32)], [], σ1))) : Cl lay1 (d + 1) M_La_followAll [aO 1 68, aO 8 11] σ Q :=
  run_intro (Cl_mono lay1 d) [18, 71] 600 h
set_option maxRecDepth 50000 in
theorem bk_La_followAll_18 {d : Nat} {σ : St} {Q : Option AV → St → Prop} (x2 : Int32) (x3 : Int32)
    (h : (x2 ≤ x3 → ((1 : Int32) = 0 ∨ (1 : Int32) = 1) ∧ (Wp lay1 rtOf (Cl lay1 d) k_La_followAll 0 Q (71, [aO 1 68, aO 8 11, aI x2, aI (0 : Int32)], [], (pI (pI (pI (pI (pI (pI σ 68 3 (1 : Int32)) 68 4 (gI (pI σ 68 3 (1 : Int32)) 68 0)) 68 5 (0 : Int32)) 68 6 (0 : Int32)) 68 7 (0 : Int32)) 68 8 (0 : Int32))))) ∧ (¬ x2 ≤ x3 → inb x3 (gN σ 70) ∧ (Wp lay1 rtOf (Cl lay1 d) k_La_followAll 0 Q (18, [aO 1 68, aO 8 11, aI x2, aI (x3 + (1 : Int32))], [], (pI σ 70 (ix x3) (vp_nar .boolean (0 : Int32))))))) : Wp lay1 rtOf (Cl lay1 d) k_La_followAll 0 Q (18, [aO 1 68, aO 8 11, aI x2, aI x3], [], σ) :=
  run_intro (Cl_mono lay1 d) [18, 71] 600 h
set_option maxRecDepth 50000 in
theorem bk_La_followAll_71 {d : Nat} {σ : St} {Q : Option AV → St → Prop} (x2 : Int32) (x3 : Int32)
    (h : (x2 ≤ x3 → Q none σ) ∧ (¬ x2 ≤ x3 → inb x3 (gN σ 70) ∧ (((gI σ 70 (ix x3)) = 0 → Cl lay1 d M_La_follow [aO 1 68, aO 8 11, aI x3, aI x2] σ (rI fun r2 σ1 => Cl lay1 d M_La_noteCycle [aO 1 68, aI x3, aI r2] σ1 (rV fun σ3 => Wp lay1 rtOf (Cl lay1 d) k_La_followAll 0 Q (71, [aO 1 68, aO 8 11, aI x2, aI (x3 + (1 : Int32))], [], σ3)))) ∧ (¬ (gI σ 70 (ix x3)) = 0 → Wp lay1 rtOf (Cl lay1 d) k_La_followAll 0 Q (71, [aO 1 68, aO 8 11, aI x2, aI (x3 + (1 : Int32))], [], σ))))) : Wp lay1 rtOf (Cl lay1 d) k_La_followAll 0 Q (71, [aO 1 68, aO 8 11, aI x2, aI x3], [], σ) :=
  run_intro (Cl_mono lay1 d) [18, 71] 600 h
set_option maxRecDepth 50000 in
theorem bk_La_follow_0 {d : Nat} {σ : St} {Q : Option AV → St → Prop} (x2 : Int32) (x3 : Int32)
    (h : Wp lay1 rtOf (Cl lay1 d) k_La_follow 1 Q (6, [aO 1 68, aO 8 11, aI x2, aI x3, aI (0 : Int32), aI x2], [], σ)) : Cl lay1 (d + 1) M_La_follow [aO 1 68, aO 8 11, aI x2, aI x3] σ Q :=
  run_intro (Cl_mono lay1 d) [6] 600 h
set_option maxRecDepth 50000 in
theorem bk_La_follow_6 {d : Nat} {σ : St} {Q : Option AV → St → Prop} (u2 : AV) (x3 : Int32) (x4 : Int32) (x5 : Int32)
    (h : (x3 ≤ x4 → Q (some (aI x4)) σ) ∧ (¬ x3 ≤ x4 → inb x5 (gN σ 70) ∧ (((gI σ 70 (ix x5)) = 0 → inb x5 (gN σ 70) ∧ (Cl lay1 d M_La_next [aO 1 68, aO 8 11, aI x5] (pI σ 70 (ix x5) (vp_nar .boolean (1 : Int32))) (rI fun r2 σ1 => Wp lay1 rtOf (Cl lay1 d) k_La_follow 1 Q (6, [aO 1 68, aO 8 11, u2, aI x3, aI (x4 + (1 : Int32)), aI r2], [], σ1)))) ∧ (¬ (gI σ 70 (ix x5)) = 0 → Q (some (aI x4)) σ)))) : Wp lay1 rtOf (Cl lay1 d) k_La_follow 1 Q (6, [aO 1 68, aO 8 11, u2, aI x3, aI x4, aI x5], [], σ) :=
  run_intro (Cl_mono lay1 d) [6] 600 h
set_option maxRecDepth 50000 in
theorem bk_La_noteCycle_0 {d : Nat} {σ : St} {Q : Option AV → St → Prop} (x1 : Int32) (x2 : Int32)
    (h : (x2 = (1 : Int32) → (x2 ≤ (gI (pI (pI σ 68 6 ((gI σ 68 6) + (1 : Int32))) 68 5 ((gI (pI σ 68 6 ((gI σ 68 6) + (1 : Int32))) 68 5) + (1 : Int32))) 68 7) → Q none (pI (pI σ 68 6 ((gI σ 68 6) + (1 : Int32))) 68 5 ((gI (pI σ 68 6 ((gI σ 68 6) + (1 : Int32))) 68 5) + (1 : Int32)))) ∧ (¬ x2 ≤ (gI (pI (pI σ 68 6 ((gI σ 68 6) + (1 : Int32))) 68 5 ((gI (pI σ 68 6 ((gI σ 68 6) + (1 : Int32))) 68 5) + (1 : Int32))) 68 7) → Q none (pI (pI (pI (pI σ 68 6 ((gI σ 68 6) + (1 : Int32))) 68 5 ((gI (pI σ 68 6 ((gI σ 68 6) + (1 : Int32))) 68 5) + (1 : Int32))) 68 7 x2) 68 8 x1))) ∧ (¬ x2 = (1 : Int32) → (x2 ≤ (gI (pI σ 68 6 ((gI σ 68 6) + (1 : Int32))) 68 7) → Q none (pI σ 68 6 ((gI σ 68 6) + (1 : Int32)))) ∧ (¬ x2 ≤ (gI (pI σ 68 6 ((gI σ 68 6) + (1 : Int32))) 68 7) → Q none (pI (pI (pI σ 68 6 ((gI σ 68 6) + (1 : Int32))) 68 7 x2) 68 8 x1)))) : Cl lay1 (d + 1) M_La_noteCycle [aO 1 68, aI x1, aI x2] σ Q :=
  run_intro (Cl_mono lay1 d) [] 600 h
set_option maxRecDepth 50000 in
theorem bk_La_fact_0 {d : Nat} {σ : St} {Q : Option AV → St → Prop} (x1 : Int32)
    (h : (x1 = (0 : Int32) → Q (some (aI (gI σ 68 4))) σ) ∧ (¬ x1 = (0 : Int32) → (x1 = (1 : Int32) → Q (some (aI (gI σ 68 6))) σ) ∧ (¬ x1 = (1 : Int32) → (x1 = (2 : Int32) → Q (some (aI (gI σ 68 7))) σ) ∧ (¬ x1 = (2 : Int32) → Q (some (aI (gI σ 68 8))) σ)))) : Cl lay1 (d + 1) M_La_fact [aO 1 68, aI x1] σ Q :=
  run_intro (Cl_mono lay1 d) [] 600 h
set_option maxRecDepth 50000 in
theorem bk_Op_isBig_0 {d : Nat} {σ : St} {Q : Option AV → St → Prop} 
    (h : ((gI σ 30 0) = 0 ∨ (gI σ 30 0) = 1) ∧ Q (some (aI (gI σ 30 0))) σ) : Cl lay1 (d + 1) M_Op_isBig [aO 4 29] σ Q :=
  run_intro (Cl_mono lay1 d) [] 600 h
set_option maxRecDepth 50000 in
theorem bk_Op_onlyKick_0 {d : Nat} {σ : St} {Q : Option AV → St → Prop} (x1 : Int32)
    (h : Wp lay1 rtOf (Cl lay1 d) k_Op_onlyKick 25 Q (2, [aO 4 29, aI x1, aI (0 : Int32)], [], σ)) : Cl lay1 (d + 1) M_Op_onlyKick [aO 4 29, aI x1] σ Q :=
  run_intro (Cl_mono lay1 d) [2] 600 h
set_option maxRecDepth 50000 in
theorem bk_Op_onlyKick_2 {d : Nat} {σ : St} {Q : Option AV → St → Prop} (x1 : Int32) (x2 : Int32)
    (h : ((12 : Int32) ≤ x2 → Q (some (aO 21 50)) σ) ∧ (¬ (12 : Int32) ≤ x2 → inb x2 (gN σ 50) ∧ ((x2 = x1 → nn (gR σ 50 (ix x2)) (Cl lay1 d M_Fr_put [aO 0 (gR σ 50 (ix x2)), aJ (1 : Int64), aJ (1 : Int64)] σ (rV fun σ1 => Wp lay1 rtOf (Cl lay1 d) k_Op_onlyKick 25 Q (2, [aO 4 29, aI x1, aI (x2 + (1 : Int32))], [], σ1)))) ∧ (¬ x2 = x1 → nn (gR σ 50 (ix x2)) (Cl lay1 d M_Fr_put [aO 0 (gR σ 50 (ix x2)), aJ (0 : Int64), aJ (1 : Int64)] σ (rV fun σ2 => Wp lay1 rtOf (Cl lay1 d) k_Op_onlyKick 25 Q (2, [aO 4 29, aI x1, aI (x2 + (1 : Int32))], [], σ2))))))) : Wp lay1 rtOf (Cl lay1 d) k_Op_onlyKick 25 Q (2, [aO 4 29, aI x1, aI x2], [], σ) :=
  run_intro (Cl_mono lay1 d) [2] 600 h
set_option maxRecDepth 50000 in
theorem bk_Op_lead_0 {d : Nat} {σ : St} {Q : Option AV → St → Prop} (x1 : Nat) (x2 : Nat)
    (h : ((gI σ (x2 + 1) 0) = 0 → Cl lay1 d M_Rk_plusProduct [aO 7 30, aO 0 (ldR lay1 σ (x1 + 1) 0), aO 0 (ldR lay1 σ (x2 + 1) 1), aO 0 (ldR lay1 σ (x1 + 1) 1)] σ (rV fun σ1 => Q none σ1)) ∧ (¬ (gI σ (x2 + 1) 0) = 0 → ((gI σ (x2 + 1) 0) = (1 : Int32) → Cl lay1 d M_Rk_minusProduct [aO 7 30, aO 0 (ldR lay1 σ (x1 + 1) 1), aO 0 (ldR lay1 σ (x2 + 1) 1), aO 0 (ldR lay1 σ (x1 + 1) 0)] σ (rV fun σ2 => Q none σ2)) ∧ (¬ (gI σ (x2 + 1) 0) = (1 : Int32) → Q none σ))) : Cl lay1 (d + 1) M_Op_lead [aO 4 29, aO 3 (x1 + 1), aO 5 (x2 + 1)] σ Q :=
  run_intro (Cl_mono lay1 d) [] 600 h
set_option maxRecDepth 50000 in
theorem bk_Op_giveKick_0 {d : Nat} {σ : St} {Q : Option AV → St → Prop} (x1 : Nat) (x3 : Int32) (x4 : Nat)
    (h : nn (gR σ 11 0) (inb x3 (gN σ (gR σ 11 0)) ∧ (nn (gR σ (gR σ 11 0) (ix x3)) (((gI σ (gR σ (gR σ 11 0) (ix x3)) 0) = (3 : Int32) → inb x3 (gN σ 28) ∧ (inb (gI σ 28 (ix x3)) (gN σ (x4 + 1)) ∧ (Cl lay1 d M_Rk_plus [aO 7 30, aO 0 (ldR lay1 σ (x1 + 1) 1), aO 0 (gR σ (x4 + 1) (ix (gI σ 28 (ix x3))))] σ (rV fun σ1 => Q none σ1)))) ∧ (¬ (gI σ (gR σ (gR σ 11 0) (ix x3)) 0) = (3 : Int32) → Q none σ))))) : Cl lay1 (d + 1) M_Op_giveKick [aO 4 29, aO 3 (x1 + 1), aO 8 11, aI x3, aO 21 (x4 + 1)] σ Q :=
  run_intro (Cl_mono lay1 d) [] 600 h
set_option maxRecDepth 50000 in
theorem bk_Op_beginTable_0 {d : Nat} {σ : St} {Q : Option AV → St → Prop} 
    (h : Cl lay1 d M_Rk_begin [aO 7 30] σ (rV fun σ1 => Cl lay1 d M_Mo_put [aO 3 32, aJ (1 : Int64), aJ (0 : Int64)] σ1 (rV fun σ2 => Cl lay1 d M_Mo_put [aO 3 35, aJ (0 : Int64), aJ (1 : Int64)] σ2 (rV fun σ3 => Q none σ3)))) : Cl lay1 (d + 1) M_Op_beginTable [aO 4 29] σ Q :=
  run_intro (Cl_mono lay1 d) [] 600 h
set_option maxRecDepth 50000 in
theorem bk_Op_reckonTable_0 {d : Nat} {σ : St} {Q : Option AV → St → Prop} (x2 : Int32) (x3 : Int32)
    (h : Cl lay1 d M_Op_beginTable [aO 4 29] σ (rV fun σ1 => Wp lay1 rtOf (Cl lay1 d) k_Op_reckonTable 0 Q (10, [aO 4 29, aO 8 11, aI x2, aI x3, aI x2, aI (0 : Int32)], [], σ1))) : Cl lay1 (d + 1) M_Op_reckonTable [aO 4 29, aO 8 11, aI x2, aI x3] σ Q :=
  run_intro (Cl_mono lay1 d) [10] 600 h
set_option maxRecDepth 50000 in
theorem bk_Op_reckonTable_10 {d : Nat} {σ : St} {Q : Option AV → St → Prop} (u2 : AV) (x3 : Int32) (x4 : Int32) (x5 : Int32)
    (h : (x3 ≤ x5 → Q none σ) ∧ (¬ x3 ≤ x5 → ((gI σ 30 0) = 0 → nn (gR σ 11 0) (inb x4 (gN σ (gR σ 11 0)) ∧ (Cl lay1 d M_Op_lead [aO 4 29, aO 3 32, aO 5 (gR σ (gR σ 11 0) (ix x4))] σ (rV fun σ1 => nn (gR σ1 11 0) (inb x4 (gN σ1 (gR σ1 11 0)) ∧ (Cl lay1 d M_Op_lead [aO 4 29, aO 3 35, aO 5 (gR σ1 (gR σ1 11 0) (ix x4))] σ1 (rV fun σ2 => ((gI σ2 11 1) ≤ (x4 + (1 : Int32)) → Wp lay1 rtOf (Cl lay1 d) k_Op_reckonTable 0 Q (10, [aO 4 29, aO 8 11, u2, aI x3, aI (0 : Int32), aI (x5 + (1 : Int32))], [], σ2)) ∧ (¬ (gI σ2 11 1) ≤ (x4 + (1 : Int32)) → Wp lay1 rtOf (Cl lay1 d) k_Op_reckonTable 0 Q (10, [aO 4 29, aO 8 11, u2, aI x3, aI (x4 + (1 : Int32)), aI (x5 + (1 : Int32))], [], σ2))))))))) ∧ (¬ (gI σ 30 0) = 0 → Q none σ))) : Wp lay1 rtOf (Cl lay1 d) k_Op_reckonTable 0 Q (10, [aO 4 29, aO 8 11, u2, aI x3, aI x4, aI x5], [], σ) :=
  run_intro (Cl_mono lay1 d) [10] 600 h
set_option maxRecDepth 50000 in
theorem bk_Op_stability_0 {d : Nat} {σ : St} {Q : Option AV → St → Prop} 
    (h : Cl lay1 d M_Fr_copy [aO 0 44, aO 0 33] σ (rV fun σ1 => Cl lay1 d M_Rk_plus [aO 7 30, aO 0 44, aO 0 37] σ1 (rV fun σ2 => ((gI σ2 30 0) = 0 → Cl lay1 d M_Fr_compareToWhole [aO 0 44, aJ (-2 : Int64)] σ2 (rI fun r4 σ3 => Cl lay1 d M_Fr_compareToWhole [aO 0 44, aJ (2 : Int64)] σ3 (rI fun r6 σ5 => (r4 = 0 → Q (some (aI (1 : Int32))) σ5) ∧ (¬ r4 = 0 → (r6 = 0 → Q (some (aI (1 : Int32))) σ5) ∧ (¬ r6 = 0 → (r4 ≤ 0 → Q (some (aI (0 : Int32))) σ5) ∧ (¬ r4 ≤ 0 → (0 ≤ r6 → Q (some (aI (0 : Int32))) σ5) ∧ (¬ 0 ≤ r6 → Q (some (aI (2 : Int32))) σ5))))))) ∧ (¬ (gI σ2 30 0) = 0 → Q (some (aI (-5 : Int32))) σ2)))) : Cl lay1 (d + 1) M_Op_stability [aO 4 29] σ Q :=
  run_intro (Cl_mono lay1 d) [] 600 h
set_option maxRecDepth 50000 in
theorem bk_Op_roundsUntilBack_0 {d : Nat} {σ : St} {Q : Option AV → St → Prop} 
    (h : Cl lay1 d M_Fr_compareToWhole [aO 0 44, aJ (-1 : Int64)] σ (rI fun r2 σ1 => (r2 = 0 → Q (some (aI (3 : Int32))) σ1) ∧ (¬ r2 = 0 → Cl lay1 d M_Fr_compareToWhole [aO 0 44, aJ (0 : Int64)] σ1 (rI fun r4 σ3 => (r4 = 0 → Q (some (aI (4 : Int32))) σ3) ∧ (¬ r4 = 0 → Cl lay1 d M_Fr_compareToWhole [aO 0 44, aJ (1 : Int64)] σ3 (rI fun r6 σ5 => (r6 = 0 → Q (some (aI (6 : Int32))) σ5) ∧ (¬ r6 = 0 → Q (some (aI (0 : Int32))) σ5))))))) : Cl lay1 (d + 1) M_Op_roundsUntilBack [aO 4 29] σ Q :=
  run_intro (Cl_mono lay1 d) [] 600 h
set_option maxRecDepth 50000 in
theorem bk_Op_reckonMiddleWidth_0 {d : Nat} {σ : St} {Q : Option AV → St → Prop} 
    (h : Cl lay1 d M_Fr_copy [aO 0 47, aO 0 33] σ (rV fun σ1 => Cl lay1 d M_Rk_minus [aO 7 30, aO 0 47, aO 0 37] σ1 (rV fun σ2 => Cl lay1 d M_Fr_put [aO 0 46, aJ (1 : Int64), aJ (2 : Int64)] σ2 (rV fun σ3 => Cl lay1 d M_Rk_times [aO 7 30, aO 0 47, aO 0 46] σ3 (rV fun σ4 => Q none σ4))))) : Cl lay1 (d + 1) M_Op_reckonMiddleWidth [aO 4 29] σ Q :=
  run_intro (Cl_mono lay1 d) [] 600 h
set_option maxRecDepth 50000 in
theorem bk_Op_closeWay_0 {d : Nat} {σ : St} {Q : Option AV → St → Prop} (x2 : Nat) (x3 : Int32)
    (h : Cl lay1 d M_Op_beginTable [aO 4 29] σ (rV fun σ1 => Cl lay1 d M_Mo_put [aO 3 38, aJ (0 : Int64), aJ (0 : Int64)] σ1 (rV fun σ2 => Wp lay1 rtOf (Cl lay1 d) k_Op_closeWay 1 Q (16, [aO 4 29, aO 8 11, aO 21 (x2 + 1), aI x3, aI (0 : Int32)], [], σ2)))) : Cl lay1 (d + 1) M_Op_closeWay [aO 4 29, aO 8 11, aO 21 (x2 + 1), aI x3] σ Q :=
  run_intro (Cl_mono lay1 d) [16, 178] 600 h
set_option maxRecDepth 50000 in
theorem bk_Op_closeWay_16 {d : Nat} {σ : St} {Q : Option AV → St → Prop} (x2 : Nat) (x3 : Int32) (x4 : Int32)
    (h : ((gI σ 11 1) ≤ x4 → Cl lay1 d M_Fr_put [aO 0 45, aJ (2 : Int64), aJ (1 : Int64)] σ (rV fun σ1 => Cl lay1 d M_Rk_minus [aO 7 30, aO 0 45, aO 0 33] σ1 (rV fun σ2 => Cl lay1 d M_Rk_minus [aO 7 30, aO 0 45, aO 0 37] σ2 (rV fun σ3 => ((gI σ3 30 0) = 0 → Cl lay1 d M_Fr_isZero [aO 0 45] σ3 (rI fun r5 σ4 => (r5 = 0 → Cl lay1 d M_Op_solveClosed [aO 4 29] σ4 (rV fun σ6 => Wp lay1 rtOf (Cl lay1 d) k_Op_closeWay 1 Q (178, [aO 4 29, aO 8 11, aO 21 (x2 + 1), aI x3, aI (0 : Int32)], [], σ6))) ∧ (¬ r5 = 0 → Q (some (aI (-2 : Int32))) σ4))) ∧ (¬ (gI σ3 30 0) = 0 → Q (some (aI (-5 : Int32))) σ3))))) ∧ (¬ (gI σ 11 1) ≤ x4 → ((gI σ 30 0) = 0 → nn (gR σ 11 0) (inb x4 (gN σ (gR σ 11 0)) ∧ (Cl lay1 d M_Op_lead [aO 4 29, aO 3 32, aO 5 (gR σ (gR σ 11 0) (ix x4))] σ (rV fun σ7 => nn (gR σ7 11 0) (inb x4 (gN σ7 (gR σ7 11 0)) ∧ (Cl lay1 d M_Op_lead [aO 4 29, aO 3 35, aO 5 (gR σ7 (gR σ7 11 0) (ix x4))] σ7 (rV fun σ8 => nn (gR σ8 11 0) (inb x4 (gN σ8 (gR σ8 11 0)) ∧ (Cl lay1 d M_Op_lead [aO 4 29, aO 3 38, aO 5 (gR σ8 (gR σ8 11 0) (ix x4))] σ8 (rV fun σ9 => Cl lay1 d M_Op_giveKick [aO 4 29, aO 3 38, aO 8 11, aI x4, aO 21 (x2 + 1)] σ9 (rV fun σ10 => Wp lay1 rtOf (Cl lay1 d) k_Op_closeWay 1 Q (16, [aO 4 29, aO 8 11, aO 21 (x2 + 1), aI x3, aI (x4 + (1 : Int32))], [], σ10)))))))))))) ∧ (¬ (gI σ 30 0) = 0 → Cl lay1 d M_Fr_put [aO 0 45, aJ (2 : Int64), aJ (1 : Int64)] σ (rV fun σ11 => Cl lay1 d M_Rk_minus [aO 7 30, aO 0 45, aO 0 33] σ11 (rV fun σ12 => Cl lay1 d M_Rk_minus [aO 7 30, aO 0 45, aO 0 37] σ12 (rV fun σ13 => ((gI σ13 30 0) = 0 → Cl lay1 d M_Fr_isZero [aO 0 45] σ13 (rI fun r15 σ14 => (r15 = 0 → Cl lay1 d M_Op_solveClosed [aO 4 29] σ14 (rV fun σ16 => Wp lay1 rtOf (Cl lay1 d) k_Op_closeWay 1 Q (178, [aO 4 29, aO 8 11, aO 21 (x2 + 1), aI x3, aI (0 : Int32)], [], σ16))) ∧ (¬ r15 = 0 → Q (some (aI (-2 : Int32))) σ14))) ∧ (¬ (gI σ13 30 0) = 0 → Q (some (aI (-5 : Int32))) σ13))))))) : Wp lay1 rtOf (Cl lay1 d) k_Op_closeWay 1 Q (16, [aO 4 29, aO 8 11, aO 21 (x2 + 1), aI x3, aI x4], [], σ) :=
  run_intro (Cl_mono lay1 d) [16, 178] 600 h
set_option maxRecDepth 50000 in
theorem bk_Op_closeWay_178 {d : Nat} {σ : St} {Q : Option AV → St → Prop} (x2 : Nat) (x3 : Int32) (x4 : Int32)
    (h : (x3 ≤ x4 → ((gI σ 30 0) = 0 → Q (some (aI (0 : Int32))) σ) ∧ (¬ (gI σ 30 0) = 0 → Q (some (aI (-5 : Int32))) σ)) ∧ (¬ x3 ≤ x4 → ((gI σ 11 1) ≤ x4 → ((gI σ 30 0) = 0 → Q (some (aI (0 : Int32))) σ) ∧ (¬ (gI σ 30 0) = 0 → Q (some (aI (-5 : Int32))) σ)) ∧ (¬ (gI σ 11 1) ≤ x4 → ((gI σ 30 0) = 0 → nn (gR σ 11 0) (inb x4 (gN σ (gR σ 11 0)) ∧ (Cl lay1 d M_Op_lead [aO 4 29, aO 3 41, aO 5 (gR σ (gR σ 11 0) (ix x4))] σ (rV fun σ1 => Cl lay1 d M_Op_giveKick [aO 4 29, aO 3 41, aO 8 11, aI x4, aO 21 (x2 + 1)] σ1 (rV fun σ2 => Wp lay1 rtOf (Cl lay1 d) k_Op_closeWay 1 Q (178, [aO 4 29, aO 8 11, aO 21 (x2 + 1), aI x3, aI (x4 + (1 : Int32))], [], σ2)))))) ∧ (¬ (gI σ 30 0) = 0 → ((gI σ 30 0) = 0 → Q (some (aI (0 : Int32))) σ) ∧ (¬ (gI σ 30 0) = 0 → Q (some (aI (-5 : Int32))) σ))))) : Wp lay1 rtOf (Cl lay1 d) k_Op_closeWay 1 Q (178, [aO 4 29, aO 8 11, aO 21 (x2 + 1), aI x3, aI x4], [], σ) :=
  run_intro (Cl_mono lay1 d) [16, 178] 600 h
set_option maxRecDepth 50000 in
theorem bk_Op_solveClosed_0 {d : Nat} {σ : St} {Q : Option AV → St → Prop} 
    (h : Cl lay1 d M_Fr_put [aO 0 42, aJ (1 : Int64), aJ (1 : Int64)] σ (rV fun σ1 => Cl lay1 d M_Rk_minus [aO 7 30, aO 0 42, aO 0 37] σ1 (rV fun σ2 => Cl lay1 d M_Rk_times [aO 7 30, aO 0 42, aO 0 39] σ2 (rV fun σ3 => Cl lay1 d M_Rk_plusProduct [aO 7 30, aO 0 42, aO 0 36, aO 0 40] σ3 (rV fun σ4 => Cl lay1 d M_Rk_over [aO 7 30, aO 0 42, aO 0 45] σ4 (rV fun σ5 => Cl lay1 d M_Fr_put [aO 0 46, aJ (1 : Int64), aJ (1 : Int64)] σ5 (rV fun σ6 => Cl lay1 d M_Rk_minus [aO 7 30, aO 0 46, aO 0 33] σ6 (rV fun σ7 => Cl lay1 d M_Fr_copy [aO 0 43, aO 0 34] σ7 (rV fun σ8 => Cl lay1 d M_Rk_times [aO 7 30, aO 0 43, aO 0 39] σ8 (rV fun σ9 => Cl lay1 d M_Rk_plusProduct [aO 7 30, aO 0 43, aO 0 46, aO 0 40] σ9 (rV fun σ10 => Cl lay1 d M_Rk_over [aO 7 30, aO 0 43, aO 0 45] σ10 (rV fun σ11 => Q none σ11)))))))))))) : Cl lay1 (d + 1) M_Op_solveClosed [aO 4 29] σ Q :=
  run_intro (Cl_mono lay1 d) [] 600 h
set_option maxRecDepth 50000 in
theorem bk_Op_closeBump_0 {d : Nat} {σ : St} {Q : Option AV → St → Prop} (x2 : Int32) (x3 : Int32) (x4 : Int32)
    (h : Cl lay1 d M_Op_reckonTable [aO 4 29, aO 8 11, aI x2, aI (x4 - x2)] σ (rV fun σ1 => ((gI σ1 30 0) = 0 → Cl lay1 d M_Fr_copy [aO 0 48, aO 0 36] σ1 (rV fun σ2 => Cl lay1 d M_Fr_copy [aO 0 49, aO 0 37] σ2 (rV fun σ3 => Cl lay1 d M_Op_reckonTable [aO 4 29, aO 8 11, aI x3, aI (x4 - x3)] σ3 (rV fun σ4 => ((gI σ4 30 0) = 0 → Cl lay1 d M_Fr_isZero [aO 0 36] σ4 (rI fun r6 σ5 => (r6 = 0 → Cl lay1 d M_Fr_negate [aO 0 48] σ5 (rV fun σ7 => Cl lay1 d M_Rk_over [aO 7 30, aO 0 48, aO 0 36] σ7 (rV fun σ8 => Cl lay1 d M_Fr_negate [aO 0 49] σ8 (rV fun σ9 => Cl lay1 d M_Rk_minusProduct [aO 7 30, aO 0 49, aO 0 48, aO 0 37] σ9 (rV fun σ10 => ((gI σ10 30 0) = 0 → Q (some (aI (0 : Int32))) σ10) ∧ (¬ (gI σ10 30 0) = 0 → Q (some (aI (-5 : Int32))) σ10)))))) ∧ (¬ r6 = 0 → Q (some (aI (-2 : Int32))) σ5))) ∧ (¬ (gI σ4 30 0) = 0 → Q (some (aI (-5 : Int32))) σ4))))) ∧ (¬ (gI σ1 30 0) = 0 → Q (some (aI (-5 : Int32))) σ1))) : Cl lay1 (d + 1) M_Op_closeBump [aO 4 29, aO 8 11, aI x2, aI x3, aI x4] σ Q :=
  run_intro (Cl_mono lay1 d) [] 600 h
set_option maxRecDepth 50000 in
theorem bk_Op_hasTold_0 {d : Nat} {σ : St} {Q : Option AV → St → Prop} (x1 : Int32)
    (h : (x1 < 0 → ((0 : Int32) = 0 ∨ (0 : Int32) = 1) ∧ Q (some (aI (0 : Int32))) σ) ∧ (¬ x1 < 0 → ((gI σ 29 13) ≤ x1 → ((0 : Int32) = 0 ∨ (0 : Int32) = 1) ∧ Q (some (aI (0 : Int32))) σ) ∧ (¬ (gI σ 29 13) ≤ x1 → ((1 : Int32) = 0 ∨ (1 : Int32) = 1) ∧ Q (some (aI (1 : Int32))) σ))) : Cl lay1 (d + 1) M_Op_hasTold [aO 4 29, aI x1] σ Q :=
  run_intro (Cl_mono lay1 d) [] 600 h
set_option maxRecDepth 50000 in
theorem bk_Op_tell_0 {d : Nat} {σ : St} {Q : Option AV → St → Prop} (x1 : Nat)
    (h : ((4 : Int32) ≤ (gI σ 29 13) → Q none σ) ∧ (¬ (4 : Int32) ≤ (gI σ 29 13) → inb (gI σ 29 13) (gN σ 51) ∧ (nn (gR σ 51 (ix (gI σ 29 13))) (Cl lay1 d M_Fr_copy [aO 0 (gR σ 51 (ix (gI σ 29 13))), aO 0 (x1 + 1)] σ (rV fun σ1 => Q none (pI σ1 29 13 ((gI σ1 29 13) + (1 : Int32)))))))) : Cl lay1 (d + 1) M_Op_tell [aO 4 29, aO 0 (x1 + 1)] σ Q :=
  run_intro (Cl_mono lay1 d) [] 600 h
set_option maxRecDepth 50000 in
theorem bk_Op_tellTable_0 {d : Nat} {σ : St} {Q : Option AV → St → Prop} 
    (h : Cl lay1 d M_Op_tell [aO 4 29, aO 0 33] (pI σ 29 13 (0 : Int32)) (rV fun σ1 => Cl lay1 d M_Op_tell [aO 4 29, aO 0 36] σ1 (rV fun σ2 => Cl lay1 d M_Op_tell [aO 4 29, aO 0 34] σ2 (rV fun σ3 => Cl lay1 d M_Op_tell [aO 4 29, aO 0 37] σ3 (rV fun σ4 => Q (some (aI (gI σ4 29 13))) σ4))))) : Cl lay1 (d + 1) M_Op_tellTable [aO 4 29] σ Q :=
  run_intro (Cl_mono lay1 d) [] 600 h
set_option maxRecDepth 50000 in
theorem bk_Op_tellWidths_0 {d : Nat} {σ : St} {Q : Option AV → St → Prop} 
    (h : Cl lay1 d M_Fr_negate [aO 0 34] σ (rV fun σ1 => Cl lay1 d M_Op_tell [aO 4 29, aO 0 36] (pI σ1 29 13 (0 : Int32)) (rV fun σ2 => Cl lay1 d M_Op_tell [aO 4 29, aO 0 47] σ2 (rV fun σ3 => Cl lay1 d M_Op_tell [aO 4 29, aO 0 34] σ3 (rV fun σ4 => Q (some (aI (gI σ4 29 13))) σ4))))) : Cl lay1 (d + 1) M_Op_tellWidths [aO 4 29] σ Q :=
  run_intro (Cl_mono lay1 d) [] 600 h
set_option maxRecDepth 50000 in
theorem bk_Op_tellWay_0 {d : Nat} {σ : St} {Q : Option AV → St → Prop} 
    (h : Cl lay1 d M_Op_tell [aO 4 29, aO 0 42] (pI σ 29 13 (0 : Int32)) (rV fun σ1 => Cl lay1 d M_Op_tell [aO 4 29, aO 0 43] σ1 (rV fun σ2 => Q (some (aI (gI σ2 29 13))) σ2))) : Cl lay1 (d + 1) M_Op_tellWay [aO 4 29] σ Q :=
  run_intro (Cl_mono lay1 d) [] 600 h
set_option maxRecDepth 50000 in
theorem bk_Op_tellWayX_0 {d : Nat} {σ : St} {Q : Option AV → St → Prop} 
    (h : Cl lay1 d M_Op_tell [aO 4 29, aO 0 42] (pI σ 29 13 (0 : Int32)) (rV fun σ1 => Q (some (aI (gI σ1 29 13))) σ1)) : Cl lay1 (d + 1) M_Op_tellWayX [aO 4 29] σ Q :=
  run_intro (Cl_mono lay1 d) [] 600 h
set_option maxRecDepth 50000 in
theorem bk_Op_tellBump_0 {d : Nat} {σ : St} {Q : Option AV → St → Prop} 
    (h : Cl lay1 d M_Op_tell [aO 4 29, aO 0 48] (pI σ 29 13 (0 : Int32)) (rV fun σ1 => Cl lay1 d M_Op_tell [aO 4 29, aO 0 49] σ1 (rV fun σ2 => Q (some (aI (gI σ2 29 13))) σ2))) : Cl lay1 (d + 1) M_Op_tellBump [aO 4 29] σ Q :=
  run_intro (Cl_mono lay1 d) [] 600 h
set_option maxRecDepth 50000 in
theorem bk_Re_findFault_0 {d : Nat} {σ : St} {Q : Option AV → St → Prop} 
    (h : Cl lay1 d M_Te_rewind [aO 10 5] σ (rV fun σ1 => layC lay1 4 5 0 ∧ (Wp lay1 rtOf (Cl lay1 d) k_Re_findFault 1 Q (19, [aO 6 4, aI (0 : Int32), aZ], [], (pI (pR σ1 4 5 0) 4 6 (0 : Int32)))))) : Cl lay1 (d + 1) M_Re_findFault [aO 6 4] σ Q :=
  run_intro (Cl_mono lay1 d) [19] 600 h
set_option maxRecDepth 50000 in
theorem bk_Re_findFault_19 {d : Nat} {σ : St} {Q : Option AV → St → Prop} (x1 : Int32) (u2 : AV)
    (h : ((1500 : Int32) < x1 → Q (some (aI (2 : Int32))) σ) ∧ (¬ (1500 : Int32) < x1 → Cl lay1 d M_Te_advance [aO 10 5] σ (rV fun σ1 => Cl lay1 d M_Re_take [aO 6 4] σ1 (rI fun r3 σ2 => (r3 = 0 → ((gI σ2 5 2) = (-1 : Int32) → Q (some (aI r3)) σ2) ∧ (¬ (gI σ2 5 2) = (-1 : Int32) → Wp lay1 rtOf (Cl lay1 d) k_Re_findFault 1 Q (19, [aO 6 4, aI (x1 + (1 : Int32)), aI r3], [], σ2))) ∧ (¬ r3 = 0 → Q (some (aI r3)) σ2))))) : Wp lay1 rtOf (Cl lay1 d) k_Re_findFault 1 Q (19, [aO 6 4, aI x1, u2], [], σ) :=
  run_intro (Cl_mono lay1 d) [19] 600 h
set_option maxRecDepth 50000 in
theorem bk_Re_faultPlace_0 {d : Nat} {σ : St} {Q : Option AV → St → Prop} 
    (h : Q (some (aI (gI σ 5 3))) σ) : Cl lay1 (d + 1) M_Re_faultPlace [aO 6 4] σ Q :=
  run_intro (Cl_mono lay1 d) [] 600 h
set_option maxRecDepth 50000 in
theorem bk_Re_lastLine_0 {d : Nat} {σ : St} {Q : Option AV → St → Prop} 
    (h : Q (some (aO 2 (gR σ 4 5))) σ) : Cl lay1 (d + 1) M_Re_lastLine [aO 6 4] σ Q :=
  run_intro (Cl_mono lay1 d) [] 600 h
set_option maxRecDepth 50000 in
theorem bk_Re_take_0 {d : Nat} {σ : St} {Q : Option AV → St → Prop} 
    (h : ((gI σ 5 2) = (-2 : Int32) → Q (some (aI (1 : Int32))) σ) ∧ (¬ (gI σ 5 2) = (-2 : Int32) → ((gI σ 4 6) = (6 : Int32) → ((gI σ 5 2) = (47 : Int32) → ((gI σ 4 6) = (0 : Int32) → Cl lay1 d M_Re_takeLineName [aO 6 4] σ (rI fun r24 σ23 => Q (some (aI r24)) σ23)) ∧ (¬ (gI σ 4 6) = (0 : Int32) → ((gI σ 4 6) = (1 : Int32) → Cl lay1 d M_Re_takeAlone [aO 6 4, aI (61 : Int32), aI (2 : Int32)] σ (rI fun r22 σ21 => Q (some (aI r22)) σ21)) ∧ (¬ (gI σ 4 6) = (1 : Int32) → ((gI σ 4 6) = (2 : Int32) → Cl lay1 d M_Re_takeItem [aO 6 4] σ (rI fun r20 σ19 => Q (some (aI r20)) σ19)) ∧ (¬ (gI σ 4 6) = (2 : Int32) → ((gI σ 4 6) = (3 : Int32) → Cl lay1 d M_Re_closes [aO 6 4] σ (rI fun r14 σ13 => (r14 = 0 → Cl lay1 d M_Re_takeItem [aO 6 4] σ13 (rI fun r16 σ15 => Q (some (aI r16)) σ15)) ∧ (¬ r14 = 0 → Cl lay1 d M_Re_takeClose [aO 6 4] σ13 (rI fun r18 σ17 => Q (some (aI r18)) σ17)))) ∧ (¬ (gI σ 4 6) = (3 : Int32) → ((gI σ 4 6) = (4 : Int32) → Cl lay1 d M_Re_takeMinusOrNumber [aO 6 4] σ (rI fun r12 σ11 => Q (some (aI r12)) σ11)) ∧ (¬ (gI σ 4 6) = (4 : Int32) → ((gI σ 4 6) = (5 : Int32) → Cl lay1 d M_Re_takeAbove [aO 6 4] σ (rI fun r10 σ9 => Q (some (aI r10)) σ9)) ∧ (¬ (gI σ 4 6) = (5 : Int32) → ((gI σ 4 6) = (6 : Int32) → Cl lay1 d M_Re_takeAlone [aO 6 4, aI (47 : Int32), aI (7 : Int32)] σ (rI fun r8 σ7 => Q (some (aI r8)) σ7)) ∧ (¬ (gI σ 4 6) = (6 : Int32) → ((gI σ 4 6) = (7 : Int32) → Cl lay1 d M_Re_takeBelow [aO 6 4] σ (rI fun r6 σ5 => Q (some (aI r6)) σ5)) ∧ (¬ (gI σ 4 6) = (7 : Int32) → ((gI σ 4 6) = (8 : Int32) → Cl lay1 d M_Re_takeAlone [aO 6 4, aI (42 : Int32), aI (9 : Int32)] σ (rI fun r4 σ3 => Q (some (aI r4)) σ3)) ∧ (¬ (gI σ 4 6) = (8 : Int32) → Cl lay1 d M_Re_takeOpen [aO 6 4] σ (rI fun r2 σ1 => Q (some (aI r2)) σ1))))))))))) ∧ (¬ (gI σ 5 2) = (47 : Int32) → Cl lay1 d M_Re_endPart [aO 6 4, aI (gI σ 4 8), aI (gI σ 4 10), aI (1 : Int32)] σ (rI fun r26 σ25 => ((gI σ25 4 6) = (0 : Int32) → Cl lay1 d M_Re_takeLineName [aO 6 4] σ25 (rI fun r50 σ49 => Q (some (aI r50)) σ49)) ∧ (¬ (gI σ25 4 6) = (0 : Int32) → ((gI σ25 4 6) = (1 : Int32) → Cl lay1 d M_Re_takeAlone [aO 6 4, aI (61 : Int32), aI (2 : Int32)] σ25 (rI fun r48 σ47 => Q (some (aI r48)) σ47)) ∧ (¬ (gI σ25 4 6) = (1 : Int32) → ((gI σ25 4 6) = (2 : Int32) → Cl lay1 d M_Re_takeItem [aO 6 4] σ25 (rI fun r46 σ45 => Q (some (aI r46)) σ45)) ∧ (¬ (gI σ25 4 6) = (2 : Int32) → ((gI σ25 4 6) = (3 : Int32) → Cl lay1 d M_Re_closes [aO 6 4] σ25 (rI fun r40 σ39 => (r40 = 0 → Cl lay1 d M_Re_takeItem [aO 6 4] σ39 (rI fun r42 σ41 => Q (some (aI r42)) σ41)) ∧ (¬ r40 = 0 → Cl lay1 d M_Re_takeClose [aO 6 4] σ39 (rI fun r44 σ43 => Q (some (aI r44)) σ43)))) ∧ (¬ (gI σ25 4 6) = (3 : Int32) → ((gI σ25 4 6) = (4 : Int32) → Cl lay1 d M_Re_takeMinusOrNumber [aO 6 4] σ25 (rI fun r38 σ37 => Q (some (aI r38)) σ37)) ∧ (¬ (gI σ25 4 6) = (4 : Int32) → ((gI σ25 4 6) = (5 : Int32) → Cl lay1 d M_Re_takeAbove [aO 6 4] σ25 (rI fun r36 σ35 => Q (some (aI r36)) σ35)) ∧ (¬ (gI σ25 4 6) = (5 : Int32) → ((gI σ25 4 6) = (6 : Int32) → Cl lay1 d M_Re_takeAlone [aO 6 4, aI (47 : Int32), aI (7 : Int32)] σ25 (rI fun r34 σ33 => Q (some (aI r34)) σ33)) ∧ (¬ (gI σ25 4 6) = (6 : Int32) → ((gI σ25 4 6) = (7 : Int32) → Cl lay1 d M_Re_takeBelow [aO 6 4] σ25 (rI fun r32 σ31 => Q (some (aI r32)) σ31)) ∧ (¬ (gI σ25 4 6) = (7 : Int32) → ((gI σ25 4 6) = (8 : Int32) → Cl lay1 d M_Re_takeAlone [aO 6 4, aI (42 : Int32), aI (9 : Int32)] σ25 (rI fun r30 σ29 => Q (some (aI r30)) σ29)) ∧ (¬ (gI σ25 4 6) = (8 : Int32) → Cl lay1 d M_Re_takeOpen [aO 6 4] σ25 (rI fun r28 σ27 => Q (some (aI r28)) σ27))))))))))))) ∧ (¬ (gI σ 4 6) = (6 : Int32) → ((gI σ 4 6) = (0 : Int32) → Cl lay1 d M_Re_takeLineName [aO 6 4] σ (rI fun r74 σ73 => Q (some (aI r74)) σ73)) ∧ (¬ (gI σ 4 6) = (0 : Int32) → ((gI σ 4 6) = (1 : Int32) → Cl lay1 d M_Re_takeAlone [aO 6 4, aI (61 : Int32), aI (2 : Int32)] σ (rI fun r72 σ71 => Q (some (aI r72)) σ71)) ∧ (¬ (gI σ 4 6) = (1 : Int32) → ((gI σ 4 6) = (2 : Int32) → Cl lay1 d M_Re_takeItem [aO 6 4] σ (rI fun r70 σ69 => Q (some (aI r70)) σ69)) ∧ (¬ (gI σ 4 6) = (2 : Int32) → ((gI σ 4 6) = (3 : Int32) → Cl lay1 d M_Re_closes [aO 6 4] σ (rI fun r64 σ63 => (r64 = 0 → Cl lay1 d M_Re_takeItem [aO 6 4] σ63 (rI fun r66 σ65 => Q (some (aI r66)) σ65)) ∧ (¬ r64 = 0 → Cl lay1 d M_Re_takeClose [aO 6 4] σ63 (rI fun r68 σ67 => Q (some (aI r68)) σ67)))) ∧ (¬ (gI σ 4 6) = (3 : Int32) → ((gI σ 4 6) = (4 : Int32) → Cl lay1 d M_Re_takeMinusOrNumber [aO 6 4] σ (rI fun r62 σ61 => Q (some (aI r62)) σ61)) ∧ (¬ (gI σ 4 6) = (4 : Int32) → ((gI σ 4 6) = (5 : Int32) → Cl lay1 d M_Re_takeAbove [aO 6 4] σ (rI fun r60 σ59 => Q (some (aI r60)) σ59)) ∧ (¬ (gI σ 4 6) = (5 : Int32) → ((gI σ 4 6) = (6 : Int32) → Cl lay1 d M_Re_takeAlone [aO 6 4, aI (47 : Int32), aI (7 : Int32)] σ (rI fun r58 σ57 => Q (some (aI r58)) σ57)) ∧ (¬ (gI σ 4 6) = (6 : Int32) → ((gI σ 4 6) = (7 : Int32) → Cl lay1 d M_Re_takeBelow [aO 6 4] σ (rI fun r56 σ55 => Q (some (aI r56)) σ55)) ∧ (¬ (gI σ 4 6) = (7 : Int32) → ((gI σ 4 6) = (8 : Int32) → Cl lay1 d M_Re_takeAlone [aO 6 4, aI (42 : Int32), aI (9 : Int32)] σ (rI fun r54 σ53 => Q (some (aI r54)) σ53)) ∧ (¬ (gI σ 4 6) = (8 : Int32) → Cl lay1 d M_Re_takeOpen [aO 6 4] σ (rI fun r52 σ51 => Q (some (aI r52)) σ51))))))))))))) : Cl lay1 (d + 1) M_Re_take [aO 6 4] σ Q :=
  run_intro (Cl_mono lay1 d) [] 600 h
set_option maxRecDepth 50000 in
theorem bk_Re_takeAlone_0 {d : Nat} {σ : St} {Q : Option AV → St → Prop} (x1 : Int32) (x2 : Int32)
    (h : ((gI σ 5 2) = x1 → Q (some (aI (0 : Int32))) (pI σ 4 6 x2)) ∧ (¬ (gI σ 5 2) = x1 → Q (some (aI (2 : Int32))) σ)) : Cl lay1 (d + 1) M_Re_takeAlone [aO 6 4, aI x1, aI x2] σ Q :=
  run_intro (Cl_mono lay1 d) [] 600 h
set_option maxRecDepth 50000 in
theorem bk_Re_takeLineName_0 {d : Nat} {σ : St} {Q : Option AV → St → Prop} 
    (h : ((gI σ 5 2) = (-1 : Int32) → ((gR σ 4 5) = 0 → Q (some (aI (2 : Int32))) σ) ∧ (¬ (gR σ 4 5) = 0 → Q (some (aI (0 : Int32))) σ)) ∧ (¬ (gI σ 5 2) = (-1 : Int32) → ((gI σ 5 2) = (-3 : Int32) → Cl lay1 d M_Te_isKindLetter [aO 10 5] σ (rI fun r2 σ1 => (r2 = 0 → Cl lay1 d M_Re_lineOf [aO 6 4, aJ (gL σ1 5 5)] σ1 (rO 2 fun j4 σ3 => (j4 = 0 → Cl lay1 d M_Ro_clear [aO 9 7] (pL σ3 4 7 (gL σ3 5 5)) (rV fun σ5 => Q (some (aI (0 : Int32))) (pI (pI σ5 4 4 (0 : Int32)) 4 6 (1 : Int32)))) ∧ (¬ j4 = 0 → Q (some (aI (2 : Int32))) σ3))) ∧ (¬ r2 = 0 → Q (some (aI (2 : Int32))) σ1))) ∧ (¬ (gI σ 5 2) = (-3 : Int32) → Q (some (aI (2 : Int32))) σ))) : Cl lay1 (d + 1) M_Re_takeLineName [aO 6 4] σ Q :=
  run_intro (Cl_mono lay1 d) [] 600 h
set_option maxRecDepth 50000 in
theorem bk_Re_lineOf_0 {d : Nat} {σ : St} {Q : Option AV → St → Prop} (x1 : Int64)
    (h : Wp lay1 rtOf (Cl lay1 d) k_Re_lineOf 6 Q (5, [aO 6 4, aJ x1, aZ, aO 2 (gR σ 4 5)], [], σ)) : Cl lay1 (d + 1) M_Re_lineOf [aO 6 4, aJ x1] σ Q :=
  run_intro (Cl_mono lay1 d) [5] 600 h
set_option maxRecDepth 50000 in
theorem bk_Re_lineOf_5 {d : Nat} {σ : St} {Q : Option AV → St → Prop} (u0 : AV) (x1 : Int64) (x3 : Nat)
    (h : (x3 = 0 → Q (some (aO 2 0)) σ) ∧ (¬ x3 = 0 → nn x3 (((lg_cmp (gL σ x3 0) x1) = 0 → Q (some (aO 2 x3)) σ) ∧ (¬ (lg_cmp (gL σ x3 0) x1) = 0 → nn x3 (Wp lay1 rtOf (Cl lay1 d) k_Re_lineOf 6 Q (5, [u0, aJ x1, aZ, aO 2 (ldR lay1 σ x3 2)], [], σ)))))) : Wp lay1 rtOf (Cl lay1 d) k_Re_lineOf 6 Q (5, [u0, aJ x1, aZ, aO 2 x3], [], σ) :=
  run_intro (Cl_mono lay1 d) [5] 600 h
set_option maxRecDepth 50000 in
theorem bk_Re_takeItem_0 {d : Nat} {σ : St} {Q : Option AV → St → Prop} 
    (h : ((gI σ 5 2) = (-4 : Int32) → Cl lay1 d M_Re_takeTimes [aO 6 4] σ (rI fun r2 σ1 => Q (some (aI r2)) σ1)) ∧ (¬ (gI σ 5 2) = (-4 : Int32) → ((gI σ 5 2) = (-3 : Int32) → Cl lay1 d M_Te_isName [aO 10 5, aI (100 : Int32)] σ (rI fun r4 σ3 => (r4 = 0 → Cl lay1 d M_Te_isName [aO 10 5, aI (113 : Int32)] σ3 (rI fun r6 σ5 => (r6 = 0 → Cl lay1 d M_Te_isName [aO 10 5, aI (115 : Int32)] σ5 (rI fun r8 σ7 => (r8 = 0 → Cl lay1 d M_Te_isName [aO 10 5, aI (107 : Int32)] σ7 (rI fun r10 σ9 => (r10 = 0 → Cl lay1 d M_Te_isName [aO 10 5, aI (109 : Int32)] σ9 (rI fun r12 σ11 => (r12 = 0 → Cl lay1 d M_Re_takeToldName [aO 6 4] σ11 (rI fun r14 σ13 => Q (some (aI r14)) σ13)) ∧ (¬ r12 = 0 → Cl lay1 d M_Re_endPart [aO 6 4, aI (4 : Int32), aI (0 : Int32), aI (1 : Int32)] σ11 (rI fun r16 σ15 => Q (some (aI r16)) σ15)))) ∧ (¬ r10 = 0 → Cl lay1 d M_Re_endPart [aO 6 4, aI (3 : Int32), aI (0 : Int32), aI (1 : Int32)] σ9 (rI fun r18 σ17 => Q (some (aI r18)) σ17)))) ∧ (¬ r8 = 0 → Cl lay1 d M_Re_beginPart [aO 6 4, aI (2 : Int32)] σ7 (rI fun r20 σ19 => Q (some (aI r20)) σ19)))) ∧ (¬ r6 = 0 → Cl lay1 d M_Re_beginPart [aO 6 4, aI (1 : Int32)] σ5 (rI fun r22 σ21 => Q (some (aI r22)) σ21)))) ∧ (¬ r4 = 0 → Cl lay1 d M_Re_beginPart [aO 6 4, aI (0 : Int32)] σ3 (rI fun r24 σ23 => Q (some (aI r24)) σ23)))) ∧ (¬ (gI σ 5 2) = (-3 : Int32) → Q (some (aI (2 : Int32))) σ))) : Cl lay1 (d + 1) M_Re_takeItem [aO 6 4] σ Q :=
  run_intro (Cl_mono lay1 d) [] 600 h
set_option maxRecDepth 50000 in
theorem bk_Re_takeTimes_0 {d : Nat} {σ : St} {Q : Option AV → St → Prop} 
    (h : ((lg_cmp (gL σ 5 5) (1 : Int64)) < 0 → Q (some (aI (2 : Int32))) σ) ∧ (¬ (lg_cmp (gL σ 5 5) (1 : Int64)) < 0 → ((lg_cmp (gL σ 5 5) (40 : Int64)) ≤ 0 → Q (some (aI (0 : Int32))) (pI (pI σ 4 11 (gL σ 5 5).toInt32) 4 6 (8 : Int32))) ∧ (¬ (lg_cmp (gL σ 5 5) (40 : Int64)) ≤ 0 → Q (some (aI (2 : Int32))) σ))) : Cl lay1 (d + 1) M_Re_takeTimes [aO 6 4] σ Q :=
  run_intro (Cl_mono lay1 d) [] 600 h
set_option maxRecDepth 50000 in
theorem bk_Re_takeToldName_0 {d : Nat} {σ : St} {Q : Option AV → St → Prop} 
    (h : Cl lay1 d M_Re_lineOf [aO 6 4, aJ (gL σ 5 5)] σ (rO 2 fun j2 σ1 => (j2 = 0 → Q (some (aI (2 : Int32))) σ1) ∧ (¬ j2 = 0 → Cl lay1 d M_Ro_addLine [aO 9 7, aO 2 j2] σ1 (rV fun σ3 => Q (some (aI (0 : Int32))) (pI σ3 4 6 (3 : Int32)))))) : Cl lay1 (d + 1) M_Re_takeToldName [aO 6 4] σ Q :=
  run_intro (Cl_mono lay1 d) [] 600 h
set_option maxRecDepth 50000 in
theorem bk_Re_beginPart_0 {d : Nat} {σ : St} {Q : Option AV → St → Prop} (x1 : Int32)
    (h : Q (some (aI (0 : Int32))) (pI (pI (pI σ 4 8 x1) 4 9 (1 : Int32)) 4 6 (4 : Int32))) : Cl lay1 (d + 1) M_Re_beginPart [aO 6 4, aI x1] σ Q :=
  run_intro (Cl_mono lay1 d) [] 600 h
set_option maxRecDepth 50000 in
theorem bk_Re_endPart_0 {d : Nat} {σ : St} {Q : Option AV → St → Prop} (x1 : Int32) (x2 : Int32) (x3 : Int32)
    (h : nn (sN σ) (Cl lay1 d M_Fr_init [aO 0 (sN σ)] (nw σ 0 (nF 0)) (rV fun σ1 => nn (sN σ) (Cl lay1 d M_Fr_put [aO 0 (sN σ), aJ x2.toInt64, aJ x3.toInt64] σ1 (rV fun σ2 => nn (sN σ2) (Cl lay1 d M_Pa_init [aO 5 (sN σ2), aI x1, aO 0 (sN σ)] (nw σ2 5 (nF 5)) (rV fun σ3 => Cl lay1 d M_Ro_add [aO 9 7, aO 5 (sN σ2)] σ3 (rV fun σ4 => Q (some (aI (0 : Int32))) (pI σ4 4 6 (3 : Int32)))))))))) : Cl lay1 (d + 1) M_Re_endPart [aO 6 4, aI x1, aI x2, aI x3] σ Q :=
  run_intro (Cl_mono lay1 d) [] 600 h
set_option maxRecDepth 50000 in
theorem bk_Re_takeMinusOrNumber_0 {d : Nat} {σ : St} {Q : Option AV → St → Prop} 
    (h : ((gI σ 5 2) = (45 : Int32) → Q (some (aI (0 : Int32))) (pI (pI σ 4 9 (-1 : Int32)) 4 6 (5 : Int32))) ∧ (¬ (gI σ 5 2) = (45 : Int32) → Cl lay1 d M_Re_takeAbove [aO 6 4] σ (rI fun r2 σ1 => Q (some (aI r2)) σ1))) : Cl lay1 (d + 1) M_Re_takeMinusOrNumber [aO 6 4] σ Q :=
  run_intro (Cl_mono lay1 d) [] 600 h
set_option maxRecDepth 50000 in
theorem bk_Re_takeAbove_0 {d : Nat} {σ : St} {Q : Option AV → St → Prop} 
    (h : ((gI σ 5 2) = (-4 : Int32) → ((gI (pI σ 4 10 ((gI σ 4 9) * (gL σ 5 5).toInt32)) 4 8) = (2 : Int32) → Cl lay1 d M_Re_endPart [aO 6 4, aI (2 : Int32), aI (gI (pI σ 4 10 ((gI σ 4 9) * (gL σ 5 5).toInt32)) 4 10), aI (1 : Int32)] (pI σ 4 10 ((gI σ 4 9) * (gL σ 5 5).toInt32)) (rI fun r2 σ1 => Q (some (aI r2)) σ1)) ∧ (¬ (gI (pI σ 4 10 ((gI σ 4 9) * (gL σ 5 5).toInt32)) 4 8) = (2 : Int32) → Q (some (aI (0 : Int32))) (pI (pI σ 4 10 ((gI σ 4 9) * (gL σ 5 5).toInt32)) 4 6 (6 : Int32)))) ∧ (¬ (gI σ 5 2) = (-4 : Int32) → Q (some (aI (2 : Int32))) σ)) : Cl lay1 (d + 1) M_Re_takeAbove [aO 6 4] σ Q :=
  run_intro (Cl_mono lay1 d) [] 600 h
set_option maxRecDepth 50000 in
theorem bk_Re_takeBelow_0 {d : Nat} {σ : St} {Q : Option AV → St → Prop} 
    (h : ((gI σ 5 2) = (-4 : Int32) → ((lg_cmp (gL σ 5 5) (0 : Int64)) = 0 → Q (some (aI (2 : Int32))) σ) ∧ (¬ (lg_cmp (gL σ 5 5) (0 : Int64)) = 0 → Cl lay1 d M_Re_endPart [aO 6 4, aI (gI σ 4 8), aI (gI σ 4 10), aI (gL σ 5 5).toInt32] σ (rI fun r2 σ1 => Q (some (aI r2)) σ1))) ∧ (¬ (gI σ 5 2) = (-4 : Int32) → Q (some (aI (2 : Int32))) σ)) : Cl lay1 (d + 1) M_Re_takeBelow [aO 6 4] σ Q :=
  run_intro (Cl_mono lay1 d) [] 600 h
set_option maxRecDepth 50000 in
theorem bk_Re_takeOpen_0 {d : Nat} {σ : St} {Q : Option AV → St → Prop} 
    (h : ((gI σ 5 2) = (40 : Int32) → ((gI σ 4 4) < (6 : Int32) → inb (gI σ 4 4) (gN σ 9) ∧ (inb (gI (pI σ 9 (ix (gI σ 4 4)) (gI σ 7 1)) 4 4) (gN (pI σ 9 (ix (gI σ 4 4)) (gI σ 7 1)) 10) ∧ (Q (some (aI (0 : Int32))) (pI (pI (pI (pI σ 9 (ix (gI σ 4 4)) (gI σ 7 1)) 10 (ix (gI (pI σ 9 (ix (gI σ 4 4)) (gI σ 7 1)) 4 4)) (gI (pI σ 9 (ix (gI σ 4 4)) (gI σ 7 1)) 4 11)) 4 4 ((gI (pI (pI σ 9 (ix (gI σ 4 4)) (gI σ 7 1)) 10 (ix (gI (pI σ 9 (ix (gI σ 4 4)) (gI σ 7 1)) 4 4)) (gI (pI σ 9 (ix (gI σ 4 4)) (gI σ 7 1)) 4 11)) 4 4) + (1 : Int32))) 4 6 (2 : Int32))))) ∧ (¬ (gI σ 4 4) < (6 : Int32) → Q (some (aI (3 : Int32))) σ)) ∧ (¬ (gI σ 5 2) = (40 : Int32) → Q (some (aI (2 : Int32))) σ)) : Cl lay1 (d + 1) M_Re_takeOpen [aO 6 4] σ Q :=
  run_intro (Cl_mono lay1 d) [] 600 h
set_option maxRecDepth 50000 in
theorem bk_Re_closes_0 {d : Nat} {σ : St} {Q : Option AV → St → Prop} 
    (h : ((gI σ 4 4) ≤ 0 → ((gI σ 5 2) = (59 : Int32) → ((1 : Int32) = 0 ∨ (1 : Int32) = 1) ∧ Q (some (aI (1 : Int32))) σ) ∧ (¬ (gI σ 5 2) = (59 : Int32) → ((0 : Int32) = 0 ∨ (0 : Int32) = 1) ∧ Q (some (aI (0 : Int32))) σ)) ∧ (¬ (gI σ 4 4) ≤ 0 → ((gI σ 5 2) = (41 : Int32) → ((1 : Int32) = 0 ∨ (1 : Int32) = 1) ∧ Q (some (aI (1 : Int32))) σ) ∧ (¬ (gI σ 5 2) = (41 : Int32) → ((0 : Int32) = 0 ∨ (0 : Int32) = 1) ∧ Q (some (aI (0 : Int32))) σ))) : Cl lay1 (d + 1) M_Re_closes [aO 6 4] σ Q :=
  run_intro (Cl_mono lay1 d) [] 600 h
set_option maxRecDepth 50000 in
theorem bk_Re_takeClose_0 {d : Nat} {σ : St} {Q : Option AV → St → Prop} 
    (h : ((gI σ 4 4) ≤ 0 → ((gI σ 7 4) = 0 → nn (sN σ) (Cl lay1 d M_Li_init [aO 2 (sN σ), aJ (gL (nw σ 2 (nF 2)) 4 7), aO 9 7, aO 2 (gR (nw σ 2 (nF 2)) 4 5)] (nw σ 2 (nF 2)) (rV fun σ1 => layC lay1 4 5 (sN σ) ∧ (Q (some (aI (0 : Int32))) (pI (pR σ1 4 5 (sN σ)) 4 6 (0 : Int32)))))) ∧ (¬ (gI σ 7 4) = 0 → Q (some (aI (4 : Int32))) σ)) ∧ (¬ (gI σ 4 4) ≤ 0 → inb (gI (pI σ 4 4 ((gI σ 4 4) - (1 : Int32))) 4 4) (gN (pI σ 4 4 ((gI σ 4 4) - (1 : Int32))) 9) ∧ (inb (gI (pI σ 4 4 ((gI σ 4 4) - (1 : Int32))) 4 4) (gN (pI σ 4 4 ((gI σ 4 4) - (1 : Int32))) 10) ∧ (Cl lay1 d M_Ro_repeat [aO 9 7, aI (gI (pI σ 4 4 ((gI σ 4 4) - (1 : Int32))) 9 (ix (gI (pI σ 4 4 ((gI σ 4 4) - (1 : Int32))) 4 4))), aI (gI (pI σ 4 4 ((gI σ 4 4) - (1 : Int32))) 10 (ix (gI (pI σ 4 4 ((gI σ 4 4) - (1 : Int32))) 4 4)))] (pI σ 4 4 ((gI σ 4 4) - (1 : Int32))) (rV fun σ2 => Q (some (aI (0 : Int32))) σ2))))) : Cl lay1 (d + 1) M_Re_takeClose [aO 6 4] σ Q :=
  run_intro (Cl_mono lay1 d) [] 600 h
set_option maxRecDepth 50000 in
theorem bk_Ri_hasPart_0 {d : Nat} {σ : St} {Q : Option AV → St → Prop} (x1 : Int32)
    (h : (x1 < 0 → ((0 : Int32) = 0 ∨ (0 : Int32) = 1) ∧ Q (some (aI (0 : Int32))) σ) ∧ (¬ x1 < 0 → ((gI σ 11 1) ≤ x1 → ((0 : Int32) = 0 ∨ (0 : Int32) = 1) ∧ Q (some (aI (0 : Int32))) σ) ∧ (¬ (gI σ 11 1) ≤ x1 → ((1 : Int32) = 0 ∨ (1 : Int32) = 1) ∧ Q (some (aI (1 : Int32))) σ))) : Cl lay1 (d + 1) M_Ri_hasPart [aO 8 11, aI x1] σ Q :=
  run_intro (Cl_mono lay1 d) [] 600 h
set_option maxRecDepth 50000 in
theorem bk_Ri_hasKick_0 {d : Nat} {σ : St} {Q : Option AV → St → Prop} (x1 : Int32)
    (h : (x1 < 0 → ((0 : Int32) = 0 ∨ (0 : Int32) = 1) ∧ Q (some (aI (0 : Int32))) σ) ∧ (¬ x1 < 0 → ((gI σ 11 6) ≤ x1 → ((0 : Int32) = 0 ∨ (0 : Int32) = 1) ∧ Q (some (aI (0 : Int32))) σ) ∧ (¬ (gI σ 11 6) ≤ x1 → ((1 : Int32) = 0 ∨ (1 : Int32) = 1) ∧ Q (some (aI (1 : Int32))) σ))) : Cl lay1 (d + 1) M_Ri_hasKick [aO 8 11, aI x1] σ Q :=
  run_intro (Cl_mono lay1 d) [] 600 h
set_option maxRecDepth 50000 in
theorem bk_Ri_hasLook_0 {d : Nat} {σ : St} {Q : Option AV → St → Prop} (x1 : Int32)
    (h : (x1 < 0 → ((0 : Int32) = 0 ∨ (0 : Int32) = 1) ∧ Q (some (aI (0 : Int32))) σ) ∧ (¬ x1 < 0 → ((gI σ 11 7) ≤ x1 → ((0 : Int32) = 0 ∨ (0 : Int32) = 1) ∧ Q (some (aI (0 : Int32))) σ) ∧ (¬ (gI σ 11 7) ≤ x1 → ((1 : Int32) = 0 ∨ (1 : Int32) = 1) ∧ Q (some (aI (1 : Int32))) σ))) : Cl lay1 (d + 1) M_Ri_hasLook [aO 8 11, aI x1] σ Q :=
  run_intro (Cl_mono lay1 d) [] 600 h
set_option maxRecDepth 50000 in
theorem bk_Ri_strengthAt_0 {d : Nat} {σ : St} {Q : Option AV → St → Prop} (x1 : Int32)
    (h : nn (gR σ 11 0) (inb x1 (gN σ (gR σ 11 0)) ∧ (nn (gR σ (gR σ 11 0) (ix x1)) (((gI σ (gR σ (gR σ 11 0) (ix x1)) 0) = (3 : Int32) → inb x1 (gN σ 28) ∧ (inb (gI σ 28 (ix x1)) (gN σ 13) ∧ (Q (some (aO 0 (gR σ 13 (ix (gI σ 28 (ix x1)))))) σ))) ∧ (¬ (gI σ (gR σ (gR σ 11 0) (ix x1)) 0) = (3 : Int32) → nn (gR σ 11 0) (inb x1 (gN σ (gR σ 11 0)) ∧ (nn (gR σ (gR σ 11 0) (ix x1)) (Q (some (aO 0 (ldR lay1 σ (gR σ (gR σ 11 0) (ix x1)) 1))) σ)))))))) : Cl lay1 (d + 1) M_Ri_strengthAt [aO 8 11, aI x1] σ Q :=
  run_intro (Cl_mono lay1 d) [] 600 h
set_option maxRecDepth 50000 in
theorem bk_Ri_become_0 {d : Nat} {σ : St} {Q : Option AV → St → Prop} (x1 : Nat)
    (h : (x1 = 0 → Q none σ) ∧ (¬ x1 = 0 → nn x1 (layC lay1 11 0 (ldR lay1 σ x1 1) ∧ (nn x1 (nn (ldR lay1 (pR σ 11 0 (ldR lay1 σ x1 1)) x1 1) (Wp lay1 rtOf (Cl lay1 d) k_Ri_become 0 Q (34, [aO 8 11, aO 2 x1, aI (0 : Int32)], [], (pI (pI (pI (pR σ 11 0 (ldR lay1 σ x1 1)) 11 1 (Int32.ofNat (gN (pR σ 11 0 (ldR lay1 σ x1 1)) (ldR lay1 (pR σ 11 0 (ldR lay1 σ x1 1)) x1 1)))) 11 6 (0 : Int32)) 11 7 (0 : Int32))))))))) : Cl lay1 (d + 1) M_Ri_become [aO 8 11, aO 2 x1] σ Q :=
  run_intro (Cl_mono lay1 d) [34] 600 h
set_option maxRecDepth 50000 in
theorem bk_Ri_become_34 {d : Nat} {σ : St} {Q : Option AV → St → Prop} (u1 : AV) (x2 : Int32)
    (h : ((gI σ 11 1) ≤ x2 → Q none σ) ∧ (¬ (gI σ 11 1) ≤ x2 → nn (gR σ 11 0) (inb x2 (gN σ (gR σ 11 0)) ∧ (nn (gR σ (gR σ 11 0) (ix x2)) (((gI σ (gR σ (gR σ 11 0) (ix x2)) 0) = (3 : Int32) → ((12 : Int32) ≤ (gI σ 11 6) → nn (gR σ 11 0) (inb x2 (gN σ (gR σ 11 0)) ∧ (nn (gR σ (gR σ 11 0) (ix x2)) (((gI σ (gR σ (gR σ 11 0) (ix x2)) 0) = (4 : Int32) → ((12 : Int32) ≤ (gI σ 11 7) → Wp lay1 rtOf (Cl lay1 d) k_Ri_become 0 Q (34, [aO 8 11, (unJ u1), aI (x2 + (1 : Int32))], [], σ)) ∧ (¬ (12 : Int32) ≤ (gI σ 11 7) → inb (gI σ 11 7) (gN σ 27) ∧ (Wp lay1 rtOf (Cl lay1 d) k_Ri_become 0 Q (34, [aO 8 11, (unJ u1), aI (x2 + (1 : Int32))], [], (pI (pI σ 27 (ix (gI σ 11 7)) x2) 11 7 ((gI (pI σ 27 (ix (gI σ 11 7)) x2) 11 7) + (1 : Int32))))))) ∧ (¬ (gI σ (gR σ (gR σ 11 0) (ix x2)) 0) = (4 : Int32) → Wp lay1 rtOf (Cl lay1 d) k_Ri_become 0 Q (34, [aO 8 11, (unJ u1), aI (x2 + (1 : Int32))], [], σ)))))) ∧ (¬ (12 : Int32) ≤ (gI σ 11 6) → inb x2 (gN σ 28) ∧ (inb (gI (pI σ 28 (ix x2) (gI σ 11 6)) 11 6) (gN (pI σ 28 (ix x2) (gI σ 11 6)) 26) ∧ (inb (gI (pI (pI σ 28 (ix x2) (gI σ 11 6)) 26 (ix (gI (pI σ 28 (ix x2) (gI σ 11 6)) 11 6)) x2) 11 6) (gN (pI (pI σ 28 (ix x2) (gI σ 11 6)) 26 (ix (gI (pI σ 28 (ix x2) (gI σ 11 6)) 11 6)) x2) 13) ∧ (nn (gR (pI (pI σ 28 (ix x2) (gI σ 11 6)) 26 (ix (gI (pI σ 28 (ix x2) (gI σ 11 6)) 11 6)) x2) 13 (ix (gI (pI (pI σ 28 (ix x2) (gI σ 11 6)) 26 (ix (gI (pI σ 28 (ix x2) (gI σ 11 6)) 11 6)) x2) 11 6))) (Cl lay1 d M_Fr_put [aO 0 (gR (pI (pI σ 28 (ix x2) (gI σ 11 6)) 26 (ix (gI (pI σ 28 (ix x2) (gI σ 11 6)) 11 6)) x2) 13 (ix (gI (pI (pI σ 28 (ix x2) (gI σ 11 6)) 26 (ix (gI (pI σ 28 (ix x2) (gI σ 11 6)) 11 6)) x2) 11 6))), aJ (0 : Int64), aJ (1 : Int64)] (pI (pI σ 28 (ix x2) (gI σ 11 6)) 26 (ix (gI (pI σ 28 (ix x2) (gI σ 11 6)) 11 6)) x2) (rV fun σ1 => nn (gR (pI σ1 11 6 ((gI σ1 11 6) + (1 : Int32))) 11 0) (inb x2 (gN (pI σ1 11 6 ((gI σ1 11 6) + (1 : Int32))) (gR (pI σ1 11 6 ((gI σ1 11 6) + (1 : Int32))) 11 0)) ∧ (nn (gR (pI σ1 11 6 ((gI σ1 11 6) + (1 : Int32))) (gR (pI σ1 11 6 ((gI σ1 11 6) + (1 : Int32))) 11 0) (ix x2)) (((gI (pI σ1 11 6 ((gI σ1 11 6) + (1 : Int32))) (gR (pI σ1 11 6 ((gI σ1 11 6) + (1 : Int32))) (gR (pI σ1 11 6 ((gI σ1 11 6) + (1 : Int32))) 11 0) (ix x2)) 0) = (4 : Int32) → ((12 : Int32) ≤ (gI (pI σ1 11 6 ((gI σ1 11 6) + (1 : Int32))) 11 7) → Wp lay1 rtOf (Cl lay1 d) k_Ri_become 0 Q (34, [aO 8 11, (unJ u1), aI (x2 + (1 : Int32))], [], (pI σ1 11 6 ((gI σ1 11 6) + (1 : Int32))))) ∧ (¬ (12 : Int32) ≤ (gI (pI σ1 11 6 ((gI σ1 11 6) + (1 : Int32))) 11 7) → inb (gI (pI σ1 11 6 ((gI σ1 11 6) + (1 : Int32))) 11 7) (gN (pI σ1 11 6 ((gI σ1 11 6) + (1 : Int32))) 27) ∧ (Wp lay1 rtOf (Cl lay1 d) k_Ri_become 0 Q (34, [aO 8 11, (unJ u1), aI (x2 + (1 : Int32))], [], (pI (pI (pI σ1 11 6 ((gI σ1 11 6) + (1 : Int32))) 27 (ix (gI (pI σ1 11 6 ((gI σ1 11 6) + (1 : Int32))) 11 7)) x2) 11 7 ((gI (pI (pI σ1 11 6 ((gI σ1 11 6) + (1 : Int32))) 27 (ix (gI (pI σ1 11 6 ((gI σ1 11 6) + (1 : Int32))) 11 7)) x2) 11 7) + (1 : Int32))))))) ∧ (¬ (gI (pI σ1 11 6 ((gI σ1 11 6) + (1 : Int32))) (gR (pI σ1 11 6 ((gI σ1 11 6) + (1 : Int32))) (gR (pI σ1 11 6 ((gI σ1 11 6) + (1 : Int32))) 11 0) (ix x2)) 0) = (4 : Int32) → Wp lay1 rtOf (Cl lay1 d) k_Ri_become 0 Q (34, [aO 8 11, (unJ u1), aI (x2 + (1 : Int32))], [], (pI σ1 11 6 ((gI σ1 11 6) + (1 : Int32))))))))))))))) ∧ (¬ (gI σ (gR σ (gR σ 11 0) (ix x2)) 0) = (3 : Int32) → nn (gR σ 11 0) (inb x2 (gN σ (gR σ 11 0)) ∧ (nn (gR σ (gR σ 11 0) (ix x2)) (((gI σ (gR σ (gR σ 11 0) (ix x2)) 0) = (4 : Int32) → ((12 : Int32) ≤ (gI σ 11 7) → Wp lay1 rtOf (Cl lay1 d) k_Ri_become 0 Q (34, [aO 8 11, (unJ u1), aI (x2 + (1 : Int32))], [], σ)) ∧ (¬ (12 : Int32) ≤ (gI σ 11 7) → inb (gI σ 11 7) (gN σ 27) ∧ (Wp lay1 rtOf (Cl lay1 d) k_Ri_become 0 Q (34, [aO 8 11, (unJ u1), aI (x2 + (1 : Int32))], [], (pI (pI σ 27 (ix (gI σ 11 7)) x2) 11 7 ((gI (pI σ 27 (ix (gI σ 11 7)) x2) 11 7) + (1 : Int32))))))) ∧ (¬ (gI σ (gR σ (gR σ 11 0) (ix x2)) 0) = (4 : Int32) → Wp lay1 rtOf (Cl lay1 d) k_Ri_become 0 Q (34, [aO 8 11, (unJ u1), aI (x2 + (1 : Int32))], [], σ))))))))))) : Wp lay1 rtOf (Cl lay1 d) k_Ri_become 0 Q (34, [aO 8 11, u1, aI x2], [], σ) :=
  run_intro (Cl_mono lay1 d) [34] 600 h
set_option maxRecDepth 50000 in
theorem bk_C_feed_0 {d : Nat} {σ : St} {Q : Option AV → St → Prop} (x1 : Int32) (x2 : Int64)
    (h : (x1 < (1 : Int32) → Q (some (aI (-1 : Int32))) σ) ∧ (¬ x1 < (1 : Int32) → (x1 ≤ (8 : Int32) → (x1 ≤ ((1500 : Int32) - (gI σ 5 1)) → Wp lay1 rtOf (Cl lay1 d) k_C_feed 1 Q (39, [aO 11 3, aI x1, aJ x2, aZ, aI (x1 - (1 : Int32))], [], σ)) ∧ (¬ x1 ≤ ((1500 : Int32) - (gI σ 5 1)) → Q (some (aI (-3 : Int32))) σ)) ∧ (¬ x1 ≤ (8 : Int32) → Q (some (aI (-1 : Int32))) σ))) : Cl lay1 (d + 1) M_C_feed [aO 11 3, aI x1, aJ x2] σ Q :=
  run_intro (Cl_mono lay1 d) [39] 600 h
set_option maxRecDepth 50000 in
theorem bk_C_feed_39 {d : Nat} {σ : St} {Q : Option AV → St → Prop} (u1 : AV) (x2 : Int64) (x4 : Int32)
    (h : (x4 < 0 → Q (some (aI (gI σ 5 1))) σ) ∧ (¬ x4 < 0 → Cl lay1 d M_Te_append [aO 10 5, aI (((x2.toUInt64 >>> (((8 : Int32) * x4).toInt64.toUInt64 &&& Int64.toUInt64 63)).toInt64).toInt32 &&& (255 : Int32))] σ (rV fun σ1 => Wp lay1 rtOf (Cl lay1 d) k_C_feed 1 Q (39, [aO 11 3, u1, aJ x2, aZ, aI (x4 + (-1 : Int32))], [], σ1)))) : Wp lay1 rtOf (Cl lay1 d) k_C_feed 1 Q (39, [aO 11 3, u1, aJ x2, aZ, aI x4], [], σ) :=
  run_intro (Cl_mono lay1 d) [39] 600 h
set_option maxRecDepth 50000 in
theorem bk_C_read_0 {d : Nat} {σ : St} {Q : Option AV → St → Prop} 
    (h : Cl lay1 d M_Re_findFault [aO 6 4] σ (rI fun r2 σ1 => Cl lay1 d M_Te_empty [aO 10 5] σ1 (rV fun σ3 => (r2 = 0 → Cl lay1 d M_Re_lastLine [aO 6 4] (pI σ3 3 4 (-4 : Int32)) (rO 2 fun j5 σ4 => Cl lay1 d M_Ri_become [aO 8 11, aO 2 j5] σ4 (rV fun σ6 => Cl lay1 d M_La_forget [aO 1 68] σ6 (rV fun σ7 => Q (some (aI (gI σ7 11 1))) σ7)))) ∧ (¬ r2 = 0 → Cl lay1 d M_Re_faultPlace [aO 6 4] σ3 (rI fun r9 σ8 => Q (some (aI ((-10 : Int32) - r2))) (pI σ8 3 4 r9)))))) : Cl lay1 (d + 1) M_C_read [aO 11 3] σ Q :=
  run_intro (Cl_mono lay1 d) [] 600 h
set_option maxRecDepth 50000 in
theorem bk_C_place_0 {d : Nat} {σ : St} {Q : Option AV → St → Prop} 
    (h : Q (some (aI (gI σ 3 4))) σ) : Cl lay1 (d + 1) M_C_place [aO 11 3] σ Q :=
  run_intro (Cl_mono lay1 d) [] 600 h
set_option maxRecDepth 50000 in
theorem bk_C_part_0 {d : Nat} {σ : St} {Q : Option AV → St → Prop} (x1 : Int32) (x2 : Int32)
    (h : Cl lay1 d M_Ri_hasPart [aO 8 11, aI x1] σ (rI fun r2 σ1 => (r2 = 0 → Q (some (aI (-1 : Int32))) σ1) ∧ (¬ r2 = 0 → (x2 < 0 → Q (some (aI (-1 : Int32))) σ1) ∧ (¬ x2 < 0 → (x2 ≤ (2 : Int32) → (x2 = 0 → nn (gR σ1 11 0) (inb x1 (gN σ1 (gR σ1 11 0)) ∧ (nn (gR σ1 (gR σ1 11 0) (ix x1)) (Q (some (aI (gI σ1 (gR σ1 (gR σ1 11 0) (ix x1)) 0))) σ1)))) ∧ (¬ x2 = 0 → Cl lay1 d M_Ri_strengthAt [aO 8 11, aI x1] σ1 (rO 0 fun j4 σ3 => nn j4 (Cl lay1 d M_Fr_side [aO 0 j4, aI (x2 - (1 : Int32))] σ3 (rI fun r6 σ5 => Q (some (aI r6)) σ5))))) ∧ (¬ x2 ≤ (2 : Int32) → Q (some (aI (-1 : Int32))) σ1))))) : Cl lay1 (d + 1) M_C_part [aO 11 3, aI x1, aI x2] σ Q :=
  run_intro (Cl_mono lay1 d) [] 600 h
set_option maxRecDepth 50000 in
theorem bk_C_kick_0 {d : Nat} {σ : St} {Q : Option AV → St → Prop} (x1 : Int32) (x2 : Int32) (x3 : Int32)
    (h : Cl lay1 d M_Ri_hasKick [aO 8 11, aI x1] σ (rI fun r2 σ1 => (r2 = 0 → Q (some (aI (-1 : Int32))) σ1) ∧ (¬ r2 = 0 → (x2 < (-10000 : Int32) → Q (some (aI (-1 : Int32))) σ1) ∧ (¬ x2 < (-10000 : Int32) → ((10000 : Int32) < x2 → Q (some (aI (-1 : Int32))) σ1) ∧ (¬ (10000 : Int32) < x2 → (x3 < (1 : Int32) → Q (some (aI (-1 : Int32))) σ1) ∧ (¬ x3 < (1 : Int32) → (x3 ≤ (10000 : Int32) → inb x1 (gN σ1 13) ∧ (nn (gR σ1 13 (ix x1)) (Cl lay1 d M_Fr_put [aO 0 (gR σ1 13 (ix x1)), aJ x2.toInt64, aJ x3.toInt64] σ1 (rV fun σ3 => Q (some (aI (0 : Int32))) σ3)))) ∧ (¬ x3 ≤ (10000 : Int32) → Q (some (aI (-1 : Int32))) σ1))))))) : Cl lay1 (d + 1) M_C_kick [aO 11 3, aI x1, aI x2, aI x3] σ Q :=
  run_intro (Cl_mono lay1 d) [] 600 h
set_option maxRecDepth 50000 in
theorem bk_C_table_0 {d : Nat} {σ : St} {Q : Option AV → St → Prop} (x1 : Int32) (x2 : Int32)
    (h : Cl lay1 d M_Ri_hasPart [aO 8 11, aI x1] σ (rI fun r2 σ1 => (r2 = 0 → Q (some (aI (-1 : Int32))) σ1) ∧ (¬ r2 = 0 → (x2 < 0 → Q (some (aI (-1 : Int32))) σ1) ∧ (¬ x2 < 0 → (x2 ≤ (200 : Int32) → Cl lay1 d M_Op_reckonTable [aO 4 29, aO 8 11, aI x1, aI x2] σ1 (rV fun σ3 => Cl lay1 d M_Op_isBig [aO 4 29] σ3 (rI fun r5 σ4 => (r5 = 0 → Cl lay1 d M_Op_tellTable [aO 4 29] σ4 (rI fun r7 σ6 => Q (some (aI r7)) σ6)) ∧ (¬ r5 = 0 → Q (some (aI (-5 : Int32))) σ4)))) ∧ (¬ x2 ≤ (200 : Int32) → Q (some (aI (-1 : Int32))) σ1))))) : Cl lay1 (d + 1) M_C_table [aO 11 3, aI x1, aI x2] σ Q :=
  run_intro (Cl_mono lay1 d) [] 600 h
set_option maxRecDepth 50000 in
theorem bk_C_round_0 {d : Nat} {σ : St} {Q : Option AV → St → Prop} (x1 : Int32)
    (h : Cl lay1 d M_Ri_hasPart [aO 8 11, aI x1] σ (rI fun r2 σ1 => (r2 = 0 → Q (some (aI (-1 : Int32))) σ1) ∧ (¬ r2 = 0 → Cl lay1 d M_Op_reckonTable [aO 4 29, aO 8 11, aI x1, aI (gI σ1 11 1)] σ1 (rV fun σ3 => Cl lay1 d M_Op_stability [aO 4 29] σ3 (rI fun r5 σ4 => (r5 = (-5 : Int32) → Q (some (aI r5)) σ4) ∧ (¬ r5 = (-5 : Int32) → Cl lay1 d M_Op_tellTable [aO 4 29] σ4 (rI fun r7 σ6 => Q (some (aI r5)) σ6))))))) : Cl lay1 (d + 1) M_C_round [aO 11 3, aI x1] σ Q :=
  run_intro (Cl_mono lay1 d) [] 600 h
set_option maxRecDepth 50000 in
theorem bk_C_widths_0 {d : Nat} {σ : St} {Q : Option AV → St → Prop} (x1 : Int32)
    (h : Cl lay1 d M_Ri_hasPart [aO 8 11, aI x1] σ (rI fun r2 σ1 => (r2 = 0 → Q (some (aI (-1 : Int32))) σ1) ∧ (¬ r2 = 0 → Cl lay1 d M_Op_reckonTable [aO 4 29, aO 8 11, aI x1, aI (gI σ1 11 1)] σ1 (rV fun σ3 => Cl lay1 d M_Op_stability [aO 4 29] σ3 (rI fun r5 σ4 => (r5 = (-5 : Int32) → Q (some (aI (-5 : Int32))) σ4) ∧ (¬ r5 = (-5 : Int32) → (r5 = (2 : Int32) → Cl lay1 d M_Op_reckonMiddleWidth [aO 4 29] σ4 (rV fun σ6 => Cl lay1 d M_Op_isBig [aO 4 29] σ6 (rI fun r8 σ7 => (r8 = 0 → Cl lay1 d M_Op_tellWidths [aO 4 29] σ7 (rI fun r10 σ9 => Q (some (aI r10)) σ9)) ∧ (¬ r8 = 0 → Q (some (aI (-5 : Int32))) σ7)))) ∧ (¬ r5 = (2 : Int32) → Q (some (aI (-2 : Int32))) σ4))))))) : Cl lay1 (d + 1) M_C_widths [aO 11 3, aI x1] σ Q :=
  run_intro (Cl_mono lay1 d) [] 600 h
set_option maxRecDepth 50000 in
theorem bk_C_turns_0 {d : Nat} {σ : St} {Q : Option AV → St → Prop} 
    (h : Cl lay1 d M_Ri_hasPart [aO 8 11, aI (0 : Int32)] σ (rI fun r2 σ1 => (r2 = 0 → Q (some (aI (-1 : Int32))) σ1) ∧ (¬ r2 = 0 → Cl lay1 d M_Op_reckonTable [aO 4 29, aO 8 11, aI (0 : Int32), aI (gI σ1 11 1)] σ1 (rV fun σ3 => Cl lay1 d M_Op_stability [aO 4 29] σ3 (rI fun r5 σ4 => (r5 = (-5 : Int32) → Q (some (aI (-5 : Int32))) σ4) ∧ (¬ r5 = (-5 : Int32) → (r5 = (2 : Int32) → Cl lay1 d M_Op_roundsUntilBack [aO 4 29] σ4 (rI fun r7 σ6 => Q (some (aI r7)) σ6)) ∧ (¬ r5 = (2 : Int32) → Q (some (aI (-2 : Int32))) σ4))))))) : Cl lay1 (d + 1) M_C_turns [aO 11 3] σ Q :=
  run_intro (Cl_mono lay1 d) [] 600 h
set_option maxRecDepth 50000 in
theorem bk_C_way_0 {d : Nat} {σ : St} {Q : Option AV → St → Prop} (x1 : Int32)
    (h : Cl lay1 d M_Ri_hasPart [aO 8 11, aI x1] σ (rI fun r2 σ1 => (r2 = 0 → Q (some (aI (-1 : Int32))) σ1) ∧ (¬ r2 = 0 → Cl lay1 d M_Op_closeWay [aO 4 29, aO 8 11, aO 21 13, aI x1] σ1 (rI fun r4 σ3 => (r4 = 0 → Cl lay1 d M_Op_tellWay [aO 4 29] σ3 (rI fun r6 σ5 => Q (some (aI r6)) σ5)) ∧ (¬ r4 = 0 → Q (some (aI r4)) σ3))))) : Cl lay1 (d + 1) M_C_way [aO 11 3, aI x1] σ Q :=
  run_intro (Cl_mono lay1 d) [] 600 h
set_option maxRecDepth 50000 in
theorem bk_C_answer_0 {d : Nat} {σ : St} {Q : Option AV → St → Prop} (x1 : Int32) (x2 : Int32)
    (h : Cl lay1 d M_Ri_hasLook [aO 8 11, aI x1] σ (rI fun r2 σ1 => (r2 = 0 → Q (some (aI (-1 : Int32))) σ1) ∧ (¬ r2 = 0 → Cl lay1 d M_Ri_hasKick [aO 8 11, aI x2] σ1 (rI fun r4 σ3 => (r4 = 0 → Q (some (aI (-1 : Int32))) σ3) ∧ (¬ r4 = 0 → Cl lay1 d M_Op_onlyKick [aO 4 29, aI x2] σ3 (rO 21 fun j6 σ5 => inb x1 (gN σ5 27) ∧ (Cl lay1 d M_Op_closeWay [aO 4 29, aO 8 11, aO 21 j6, aI (gI σ5 27 (ix x1))] σ5 (rI fun r8 σ7 => (r8 = 0 → Cl lay1 d M_Op_tellWayX [aO 4 29] σ7 (rI fun r10 σ9 => Q (some (aI r10)) σ9)) ∧ (¬ r8 = 0 → Q (some (aI r8)) σ7))))))))) : Cl lay1 (d + 1) M_C_answer [aO 11 3, aI x1, aI x2] σ Q :=
  run_intro (Cl_mono lay1 d) [] 600 h
set_option maxRecDepth 50000 in
theorem bk_C_bump_0 {d : Nat} {σ : St} {Q : Option AV → St → Prop} (x1 : Int32) (x2 : Int32) (x3 : Int32)
    (h : Cl lay1 d M_Ri_hasKick [aO 8 11, aI x1] σ (rI fun r2 σ1 => (r2 = 0 → Q (some (aI (-1 : Int32))) σ1) ∧ (¬ r2 = 0 → Cl lay1 d M_Ri_hasKick [aO 8 11, aI x3] σ1 (rI fun r4 σ3 => (r4 = 0 → Q (some (aI (-1 : Int32))) σ3) ∧ (¬ r4 = 0 → (x2 ≤ x1 → Q (some (aI (-1 : Int32))) σ3) ∧ (¬ x2 ≤ x1 → (x2 < x3 → inb x1 (gN σ3 26) ∧ (inb x2 (gN σ3 26) ∧ (inb x3 (gN σ3 26) ∧ (Cl lay1 d M_Op_closeBump [aO 4 29, aO 8 11, aI (gI σ3 26 (ix x1)), aI (gI σ3 26 (ix x2)), aI (gI σ3 26 (ix x3))] σ3 (rI fun r6 σ5 => (r6 = 0 → Cl lay1 d M_Op_tellBump [aO 4 29] σ5 (rI fun r8 σ7 => Q (some (aI r8)) σ7)) ∧ (¬ r6 = 0 → Q (some (aI r6)) σ5)))))) ∧ (¬ x2 < x3 → Q (some (aI (-1 : Int32))) σ3))))))) : Cl lay1 (d + 1) M_C_bump [aO 11 3, aI x1, aI x2, aI x3] σ Q :=
  run_intro (Cl_mono lay1 d) [] 600 h
set_option maxRecDepth 50000 in
theorem bk_C_number_0 {d : Nat} {σ : St} {Q : Option AV → St → Prop} (x1 : Int32) (x2 : Int32)
    (h : (x1 < 0 → Q (some (aI (-1 : Int32))) σ) ∧ (¬ x1 < 0 → (x2 < 0 → Q (some (aI (-1 : Int32))) σ) ∧ (¬ x2 < 0 → (x2 ≤ (1 : Int32) → Cl lay1 d M_Op_hasTold [aO 4 29, aI x1] σ (rI fun r2 σ1 => (r2 = 0 → Q (some (aI (-4 : Int32))) σ1) ∧ (¬ r2 = 0 → inb x1 (gN σ1 51) ∧ (nn (gR σ1 51 (ix x1)) (Cl lay1 d M_Fr_side [aO 0 (gR σ1 51 (ix x1)), aI x2] σ1 (rI fun r4 σ3 => Q (some (aI r4)) σ3)))))) ∧ (¬ x2 ≤ (1 : Int32) → Q (some (aI (-1 : Int32))) σ)))) : Cl lay1 (d + 1) M_C_number [aO 11 3, aI x1, aI x2] σ Q :=
  run_intro (Cl_mono lay1 d) [] 600 h
set_option maxRecDepth 50000 in
theorem bk_C_grid_0 {d : Nat} {σ : St} {Q : Option AV → St → Prop} (x1 : Int32)
    (h : Cl lay1 d M_C_isPrime [aI x1] σ (rI fun r2 σ1 => (r2 = 0 → Q (some (aI (-1 : Int32))) σ1) ∧ (¬ r2 = 0 → Cl lay1 d M_Ri_hasPart [aO 8 11, aI (0 : Int32)] σ1 (rI fun r4 σ3 => (r4 = 0 → Q (some (aI (-1 : Int32))) σ3) ∧ (¬ r4 = 0 → Cl lay1 d M_La_prepare [aO 1 68, aO 8 11, aI x1] σ3 (rI fun r6 σ5 => (r6 = 0 → Q (some (aI (-2 : Int32))) σ5) ∧ (¬ r6 = 0 → Cl lay1 d M_La_followAll [aO 1 68, aO 8 11] σ5 (rV fun σ7 => Q (some (aI (gI σ7 68 5))) σ7)))))))) : Cl lay1 (d + 1) M_C_grid [aO 11 3, aI x1] σ Q :=
  run_intro (Cl_mono lay1 d) [] 600 h
set_option maxRecDepth 50000 in
theorem bk_C_rows_0 {d : Nat} {σ : St} {Q : Option AV → St → Prop} (x1 : Int32)
    (h : (x1 < 0 → Q (some (aI (-1 : Int32))) σ) ∧ (¬ x1 < 0 → (x1 ≤ (3 : Int32) → ((gI σ 68 3) = 0 → Q (some (aI (-4 : Int32))) σ) ∧ (¬ (gI σ 68 3) = 0 → Cl lay1 d M_La_fact [aO 1 68, aI x1] σ (rI fun r2 σ1 => Q (some (aI r2)) σ1))) ∧ (¬ x1 ≤ (3 : Int32) → Q (some (aI (-1 : Int32))) σ))) : Cl lay1 (d + 1) M_C_rows [aO 11 3, aI x1] σ Q :=
  run_intro (Cl_mono lay1 d) [] 600 h
set_option maxRecDepth 50000 in
theorem bk_C_after_0 {d : Nat} {σ : St} {Q : Option AV → St → Prop} (x1 : Int32) (x2 : Int32) (x3 : Int32) (x4 : Int32)
    (h : Cl lay1 d M_C_isPrime [aI x1] σ (rI fun r2 σ1 => (r2 = 0 → Q (some (aI (-1 : Int32))) σ1) ∧ (¬ r2 = 0 → Cl lay1 d M_Ri_hasPart [aO 8 11, aI (0 : Int32)] σ1 (rI fun r4 σ3 => (r4 = 0 → Q (some (aI (-1 : Int32))) σ3) ∧ (¬ r4 = 0 → (x2 < 0 → Q (some (aI (-1 : Int32))) σ3) ∧ (¬ x2 < 0 → (x1 ≤ x2 → Q (some (aI (-1 : Int32))) σ3) ∧ (¬ x1 ≤ x2 → (x3 < 0 → Q (some (aI (-1 : Int32))) σ3) ∧ (¬ x3 < 0 → (x1 ≤ x3 → Q (some (aI (-1 : Int32))) σ3) ∧ (¬ x1 ≤ x3 → (x4 < 0 → Q (some (aI (-1 : Int32))) σ3) ∧ (¬ x4 < 0 → (x4 ≤ (1000 : Int32) → Cl lay1 d M_La_prepare [aO 1 68, aO 8 11, aI x1] σ3 (rI fun r6 σ5 => (r6 = 0 → Q (some (aI (-2 : Int32))) σ5) ∧ (¬ r6 = 0 → Wp lay1 rtOf (Cl lay1 d) k_C_after 1 Q (81, [aO 11 3, aI x1, aI x2, aI x3, aI x4, aI ((x2 * x1) + x3), aI (0 : Int32)], [], σ5)))) ∧ (¬ x4 ≤ (1000 : Int32) → Q (some (aI (-1 : Int32))) σ3))))))))))) : Cl lay1 (d + 1) M_C_after [aO 11 3, aI x1, aI x2, aI x3, aI x4] σ Q :=
  run_intro (Cl_mono lay1 d) [81] 600 h
set_option maxRecDepth 50000 in
theorem bk_C_after_81 {d : Nat} {σ : St} {Q : Option AV → St → Prop} (u1 : AV) (u2 : AV) (u3 : AV) (x4 : Int32) (x5 : Int32) (x6 : Int32)
    (h : (x4 ≤ x6 → Q (some (aI x5)) σ) ∧ (¬ x4 ≤ x6 → Cl lay1 d M_La_next [aO 1 68, aO 8 11, aI x5] σ (rI fun r2 σ1 => Wp lay1 rtOf (Cl lay1 d) k_C_after 1 Q (81, [aO 11 3, u1, u2, u3, aI x4, aI r2, aI (x6 + (1 : Int32))], [], σ1)))) : Wp lay1 rtOf (Cl lay1 d) k_C_after 1 Q (81, [aO 11 3, u1, u2, u3, aI x4, aI x5, aI x6], [], σ) :=
  run_intro (Cl_mono lay1 d) [81] 600 h
set_option maxRecDepth 50000 in
theorem bk_C_count_0 {d : Nat} {σ : St} {Q : Option AV → St → Prop} (x1 : Int32)
    (h : (x1 = (0 : Int32) → Q (some (aI (gI σ 5 1))) σ) ∧ (¬ x1 = (0 : Int32) → (x1 = (1 : Int32) → Q (some (aI (gI σ 11 1))) σ) ∧ (¬ x1 = (1 : Int32) → (x1 = (2 : Int32) → Q (some (aI (gI σ 11 6))) σ) ∧ (¬ x1 = (2 : Int32) → (x1 = (3 : Int32) → Q (some (aI (gI σ 11 7))) σ) ∧ (¬ x1 = (3 : Int32) → (x1 = (4 : Int32) → Q (some (aI (gI σ 29 13))) σ) ∧ (¬ x1 = (4 : Int32) → Q (some (aI (-1 : Int32))) σ)))))) : Cl lay1 (d + 1) M_C_count [aO 11 3, aI x1] σ Q :=
  run_intro (Cl_mono lay1 d) [] 600 h
set_option maxRecDepth 50000 in
theorem bk_C_isPrime_0 {d : Nat} {σ : St} {Q : Option AV → St → Prop} (x0 : Int32)
    (h : Wp lay1 rtOf (Cl lay1 d) k_C_isPrime 2 Q (2, [aI x0, aI (0 : Int32)], [], σ)) : Cl lay1 (d + 1) M_C_isPrime [aI x0] σ Q :=
  run_intro (Cl_mono lay1 d) [2] 600 h
set_option maxRecDepth 50000 in
theorem bk_C_isPrime_2 {d : Nat} {σ : St} {Q : Option AV → St → Prop} (x0 : Int32) (x1 : Int32)
    (h : ((Int32.ofNat (gN σ 2)) ≤ x1 → ((0 : Int32) = 0 ∨ (0 : Int32) = 1) ∧ Q (some (aI (0 : Int32))) σ) ∧ (¬ (Int32.ofNat (gN σ 2)) ≤ x1 → inb x1 (gN σ 2) ∧ (((gI σ 2 (ix x1)) = x0 → ((1 : Int32) = 0 ∨ (1 : Int32) = 1) ∧ Q (some (aI (1 : Int32))) σ) ∧ (¬ (gI σ 2 (ix x1)) = x0 → Wp lay1 rtOf (Cl lay1 d) k_C_isPrime 2 Q (2, [aI x0, aI (x1 + (1 : Int32))], [], σ))))) : Wp lay1 rtOf (Cl lay1 d) k_C_isPrime 2 Q (2, [aI x0, aI x1], [], σ) :=
  run_intro (Cl_mono lay1 d) [2] 600 h
set_option maxRecDepth 50000 in
theorem bk_C_commonDivisor_0 {d : Nat} {σ : St} {Q : Option AV → St → Prop} (x0 : Int64) (x2 : Int64)
    (h : Wp lay1 rtOf (Cl lay1 d) k_C_commonDivisor 3 Q (9, [aJ x0, aZ, aJ x2, aZ, aJ x0, aZ, aJ x2, aZ, aI (0 : Int32), aZ, aZ], [], σ)) : Cl lay1 (d + 1) M_C_commonDivisor [aJ x0, aJ x2] σ Q :=
  run_intro (Cl_mono lay1 d) [9] 600 h
set_option maxRecDepth 50000 in
theorem bk_C_commonDivisor_9 {d : Nat} {σ : St} {Q : Option AV → St → Prop} (u0 : AV) (u1 : AV) (u2 : AV) (u3 : AV) (x4 : Int64) (x6 : Int64) (x8 : Int32) (u9 : AV) (u10 : AV)
    (h : ((200 : Int32) ≤ x8 → Q (some (aJ x4)) σ) ∧ (¬ (200 : Int32) ≤ x8 → ((lg_cmp x6 (0 : Int64)) = 0 → Q (some (aJ x4)) σ) ∧ (¬ (lg_cmp x6 (0 : Int64)) = 0 → ¬ x6 = 0 ∧ (Wp lay1 rtOf (Cl lay1 d) k_C_commonDivisor 3 Q (9, [u0, u1, u2, (unJ u3), aJ x6, aZ, aJ (x4 - x4 / x6 * x6), aZ, aI (x8 + (1 : Int32)), aJ (x4 - x4 / x6 * x6), aZ], [], σ))))) : Wp lay1 rtOf (Cl lay1 d) k_C_commonDivisor 3 Q (9, [u0, u1, u2, u3, aJ x4, aZ, aJ x6, aZ, aI x8, u9, u10], [], σ) :=
  run_intro (Cl_mono lay1 d) [9] 600 h
end
section
set_option maxRecDepth 50000 in
theorem bk_R_in_0 {d : Nat} {σ : St} {Q : Option AV → St → Prop} (x0 : Int64) (x2 : Int64) (x4 : Int64)
    (h : ((lg_cmp x0 x2) < 0 → ((0 : Int32) = 0 ∨ (0 : Int32) = 1) ∧ Q (some (aI (0 : Int32))) σ) ∧ (¬ (lg_cmp x0 x2) < 0 → (0 < (lg_cmp x0 x4) → ((0 : Int32) = 0 ∨ (0 : Int32) = 1) ∧ Q (some (aI (0 : Int32))) σ) ∧ (¬ 0 < (lg_cmp x0 x4) → ((1 : Int32) = 0 ∨ (1 : Int32) = 1) ∧ Q (some (aI (1 : Int32))) σ))) : Cl lay1 (d + 1) M_R_in [aJ x0, aJ x2, aJ x4] σ Q :=
  run_intro (Cl_mono lay1 d) [] 600 h
set_option maxRecDepth 50000 in
theorem bk_R_feed_0 {d : Nat} {σ : St} {Q : Option AV → St → Prop} (x1 : Int32) (x2 : Int64)
    (h : Cl lay1 d M_R_in [aJ x1.toInt64, aJ (1 : Int64), aJ (8 : Int64)] σ (rI fun r2 σ1 => (r2 = 0 → Q (some (aI (-1 : Int32))) σ1) ∧ (¬ r2 = 0 → (((gI σ1 71 1) + x1) ≤ (1500 : Int32) → Wp lay1 rtOf (Cl lay1 d) k_R_feed 1 Q (34, [aO 12 71, aI x1, aJ x2, aZ, aI (x1 - (1 : Int32))], [], σ1)) ∧ (¬ ((gI σ1 71 1) + x1) ≤ (1500 : Int32) → Q (some (aI (-3 : Int32))) σ1)))) : Cl lay1 (d + 1) M_R_feed [aO 12 71, aI x1, aJ x2] σ Q :=
  run_intro (Cl_mono lay1 d) [34] 600 h
set_option maxRecDepth 50000 in
theorem bk_R_feed_34 {d : Nat} {σ : St} {Q : Option AV → St → Prop} (u1 : AV) (x2 : Int64) (x4 : Int32)
    (h : (x4 < 0 → Q (some (aI (gI σ 71 1))) σ) ∧ (¬ x4 < 0 → inb (gI σ 71 1) (gN σ 72) ∧ (Wp lay1 rtOf (Cl lay1 d) k_R_feed 1 Q (34, [aO 12 71, u1, aJ x2, aZ, aI (x4 + (-1 : Int32))], [], (pI (pI σ 72 (ix (gI σ 71 1)) ((x2 >>> (((8 : Int32) * x4).toInt64 &&& 63)) &&& (255 : Int64)).toInt32) 71 1 ((gI (pI σ 72 (ix (gI σ 71 1)) ((x2 >>> (((8 : Int32) * x4).toInt64 &&& 63)) &&& (255 : Int64)).toInt32) 71 1) + (1 : Int32))))))) : Wp lay1 rtOf (Cl lay1 d) k_R_feed 1 Q (34, [aO 12 71, u1, aJ x2, aZ, aI x4], [], σ) :=
  run_intro (Cl_mono lay1 d) [34] 600 h
set_option maxRecDepth 50000 in
theorem bk_R_isLetter_0 {d : Nat} {σ : St} {Q : Option AV → St → Prop} (x0 : Int32)
    (h : (x0 < (97 : Int32) → ((0 : Int32) = 0 ∨ (0 : Int32) = 1) ∧ Q (some (aI (0 : Int32))) σ) ∧ (¬ x0 < (97 : Int32) → ((122 : Int32) < x0 → ((0 : Int32) = 0 ∨ (0 : Int32) = 1) ∧ Q (some (aI (0 : Int32))) σ) ∧ (¬ (122 : Int32) < x0 → ((1 : Int32) = 0 ∨ (1 : Int32) = 1) ∧ Q (some (aI (1 : Int32))) σ))) : Cl lay1 (d + 1) M_R_isLetter [aI x0] σ Q :=
  run_intro (Cl_mono lay1 d) [] 600 h
set_option maxRecDepth 50000 in
theorem bk_R_isFigure_0 {d : Nat} {σ : St} {Q : Option AV → St → Prop} (x0 : Int32)
    (h : (x0 < (48 : Int32) → ((0 : Int32) = 0 ∨ (0 : Int32) = 1) ∧ Q (some (aI (0 : Int32))) σ) ∧ (¬ x0 < (48 : Int32) → ((57 : Int32) < x0 → ((0 : Int32) = 0 ∨ (0 : Int32) = 1) ∧ Q (some (aI (0 : Int32))) σ) ∧ (¬ (57 : Int32) < x0 → ((1 : Int32) = 0 ∨ (1 : Int32) = 1) ∧ Q (some (aI (1 : Int32))) σ))) : Cl lay1 (d + 1) M_R_isFigure [aI x0] σ Q :=
  run_intro (Cl_mono lay1 d) [] 600 h
set_option maxRecDepth 50000 in
theorem bk_R_next_0 {d : Nat} {σ : St} {Q : Option AV → St → Prop} (u1 : AV) (u2 : AV)
    (h : ((gI σ 71 1) ≤ (gI σ 71 2) → Wp lay1 rtOf (Cl lay1 d) k_R_next 0 Q (52, [aO 12 71, u1, u2], [], σ)) ∧ (¬ (gI σ 71 1) ≤ (gI σ 71 2) → inb (gI σ 71 2) (gN σ 72) ∧ (((gI σ 72 (ix (gI σ 71 2))) = (32 : Int32) → Wp lay1 rtOf (Cl lay1 d) k_R_next 0 Q (39, [aO 12 71, u1, u2], [], σ)) ∧ (¬ (gI σ 72 (ix (gI σ 71 2))) = (32 : Int32) → inb (gI σ 71 2) (gN σ 72) ∧ (((gI σ 72 (ix (gI σ 71 2))) = (10 : Int32) → Wp lay1 rtOf (Cl lay1 d) k_R_next 0 Q (39, [aO 12 71, u1, u2], [], σ)) ∧ (¬ (gI σ 72 (ix (gI σ 71 2))) = (10 : Int32) → Wp lay1 rtOf (Cl lay1 d) k_R_next 0 Q (52, [aO 12 71, u1, u2], [], σ))))))) : Wp lay1 rtOf (Cl lay1 d) k_R_next 0 Q (0, [aO 12 71, u1, u2], [], σ) :=
  run_intro (Cl_mono lay1 d) [0, 39, 52, 99, 170, 219, 289] 600 h
set_option maxRecDepth 50000 in
theorem bk_R_next_39 {d : Nat} {σ : St} {Q : Option AV → St → Prop} (u1 : AV) (u2 : AV)
    (h : Wp lay1 rtOf (Cl lay1 d) k_R_next 0 Q (0, [aO 12 71, u1, u2], [], (pI σ 71 2 ((gI σ 71 2) + (1 : Int32))))) : Wp lay1 rtOf (Cl lay1 d) k_R_next 0 Q (39, [aO 12 71, u1, u2], [], σ) :=
  run_intro (Cl_mono lay1 d) [0, 39, 52, 99, 170, 219, 289] 600 h
set_option maxRecDepth 50000 in
theorem bk_R_next_52 {d : Nat} {σ : St} {Q : Option AV → St → Prop} (u1 : AV) (u2 : AV)
    (h : ((gI (pL (pI σ 71 3 (gI σ 71 2)) 71 5 (0 : Int64)) 71 2) = (gI (pL (pI σ 71 3 (gI σ 71 2)) 71 5 (0 : Int64)) 71 1) → Q none (pI (pL (pI σ 71 3 (gI σ 71 2)) 71 5 (0 : Int64)) 71 4 (0 : Int32))) ∧ (¬ (gI (pL (pI σ 71 3 (gI σ 71 2)) 71 5 (0 : Int64)) 71 2) = (gI (pL (pI σ 71 3 (gI σ 71 2)) 71 5 (0 : Int64)) 71 1) → inb (gI (pL (pI σ 71 3 (gI σ 71 2)) 71 5 (0 : Int64)) 71 2) (gN (pL (pI σ 71 3 (gI σ 71 2)) 71 5 (0 : Int64)) 72) ∧ (Cl lay1 d M_R_isLetter [aI (gI (pL (pI σ 71 3 (gI σ 71 2)) 71 5 (0 : Int64)) 72 (ix (gI (pL (pI σ 71 3 (gI σ 71 2)) 71 5 (0 : Int64)) 71 2)))] (pL (pI σ 71 3 (gI σ 71 2)) 71 5 (0 : Int64)) (rI fun r2 σ1 => (r2 = 0 → Cl lay1 d M_R_isFigure [aI (gI (pL (pI σ 71 3 (gI σ 71 2)) 71 5 (0 : Int64)) 72 (ix (gI (pL (pI σ 71 3 (gI σ 71 2)) 71 5 (0 : Int64)) 71 2)))] σ1 (rI fun r4 σ3 => (r4 = 0 → ((gI (pL (pI σ 71 3 (gI σ 71 2)) 71 5 (0 : Int64)) 72 (ix (gI (pL (pI σ 71 3 (gI σ 71 2)) 71 5 (0 : Int64)) 71 2))) = (61 : Int32) → ((1 : Int32) = 0 → Q none (pI (pL (pI σ3 71 2 ((gI σ3 71 2) + (1 : Int32))) 71 5 (gI (pL (pI σ 71 3 (gI σ 71 2)) 71 5 (0 : Int64)) 72 (ix (gI (pL (pI σ 71 3 (gI σ 71 2)) 71 5 (0 : Int64)) 71 2))).toInt64) 71 4 (4 : Int32))) ∧ (¬ (1 : Int32) = 0 → Q none (pI (pL (pI σ3 71 2 ((gI σ3 71 2) + (1 : Int32))) 71 5 (gI (pL (pI σ 71 3 (gI σ 71 2)) 71 5 (0 : Int64)) 72 (ix (gI (pL (pI σ 71 3 (gI σ 71 2)) 71 5 (0 : Int64)) 71 2))).toInt64) 71 4 (3 : Int32)))) ∧ (¬ (gI (pL (pI σ 71 3 (gI σ 71 2)) 71 5 (0 : Int64)) 72 (ix (gI (pL (pI σ 71 3 (gI σ 71 2)) 71 5 (0 : Int64)) 71 2))) = (61 : Int32) → ((gI (pL (pI σ 71 3 (gI σ 71 2)) 71 5 (0 : Int64)) 72 (ix (gI (pL (pI σ 71 3 (gI σ 71 2)) 71 5 (0 : Int64)) 71 2))) = (59 : Int32) → ((1 : Int32) = 0 → Q none (pI (pL (pI σ3 71 2 ((gI σ3 71 2) + (1 : Int32))) 71 5 (gI (pL (pI σ 71 3 (gI σ 71 2)) 71 5 (0 : Int64)) 72 (ix (gI (pL (pI σ 71 3 (gI σ 71 2)) 71 5 (0 : Int64)) 71 2))).toInt64) 71 4 (4 : Int32))) ∧ (¬ (1 : Int32) = 0 → Q none (pI (pL (pI σ3 71 2 ((gI σ3 71 2) + (1 : Int32))) 71 5 (gI (pL (pI σ 71 3 (gI σ 71 2)) 71 5 (0 : Int64)) 72 (ix (gI (pL (pI σ 71 3 (gI σ 71 2)) 71 5 (0 : Int64)) 71 2))).toInt64) 71 4 (3 : Int32)))) ∧ (¬ (gI (pL (pI σ 71 3 (gI σ 71 2)) 71 5 (0 : Int64)) 72 (ix (gI (pL (pI σ 71 3 (gI σ 71 2)) 71 5 (0 : Int64)) 71 2))) = (59 : Int32) → ((gI (pL (pI σ 71 3 (gI σ 71 2)) 71 5 (0 : Int64)) 72 (ix (gI (pL (pI σ 71 3 (gI σ 71 2)) 71 5 (0 : Int64)) 71 2))) = (40 : Int32) → ((1 : Int32) = 0 → Q none (pI (pL (pI σ3 71 2 ((gI σ3 71 2) + (1 : Int32))) 71 5 (gI (pL (pI σ 71 3 (gI σ 71 2)) 71 5 (0 : Int64)) 72 (ix (gI (pL (pI σ 71 3 (gI σ 71 2)) 71 5 (0 : Int64)) 71 2))).toInt64) 71 4 (4 : Int32))) ∧ (¬ (1 : Int32) = 0 → Q none (pI (pL (pI σ3 71 2 ((gI σ3 71 2) + (1 : Int32))) 71 5 (gI (pL (pI σ 71 3 (gI σ 71 2)) 71 5 (0 : Int64)) 72 (ix (gI (pL (pI σ 71 3 (gI σ 71 2)) 71 5 (0 : Int64)) 71 2))).toInt64) 71 4 (3 : Int32)))) ∧ (¬ (gI (pL (pI σ 71 3 (gI σ 71 2)) 71 5 (0 : Int64)) 72 (ix (gI (pL (pI σ 71 3 (gI σ 71 2)) 71 5 (0 : Int64)) 71 2))) = (40 : Int32) → ((gI (pL (pI σ 71 3 (gI σ 71 2)) 71 5 (0 : Int64)) 72 (ix (gI (pL (pI σ 71 3 (gI σ 71 2)) 71 5 (0 : Int64)) 71 2))) = (41 : Int32) → ((1 : Int32) = 0 → Q none (pI (pL (pI σ3 71 2 ((gI σ3 71 2) + (1 : Int32))) 71 5 (gI (pL (pI σ 71 3 (gI σ 71 2)) 71 5 (0 : Int64)) 72 (ix (gI (pL (pI σ 71 3 (gI σ 71 2)) 71 5 (0 : Int64)) 71 2))).toInt64) 71 4 (4 : Int32))) ∧ (¬ (1 : Int32) = 0 → Q none (pI (pL (pI σ3 71 2 ((gI σ3 71 2) + (1 : Int32))) 71 5 (gI (pL (pI σ 71 3 (gI σ 71 2)) 71 5 (0 : Int64)) 72 (ix (gI (pL (pI σ 71 3 (gI σ 71 2)) 71 5 (0 : Int64)) 71 2))).toInt64) 71 4 (3 : Int32)))) ∧ (¬ (gI (pL (pI σ 71 3 (gI σ 71 2)) 71 5 (0 : Int64)) 72 (ix (gI (pL (pI σ 71 3 (gI σ 71 2)) 71 5 (0 : Int64)) 71 2))) = (41 : Int32) → ((gI (pL (pI σ 71 3 (gI σ 71 2)) 71 5 (0 : Int64)) 72 (ix (gI (pL (pI σ 71 3 (gI σ 71 2)) 71 5 (0 : Int64)) 71 2))) = (42 : Int32) → ((1 : Int32) = 0 → Q none (pI (pL (pI σ3 71 2 ((gI σ3 71 2) + (1 : Int32))) 71 5 (gI (pL (pI σ 71 3 (gI σ 71 2)) 71 5 (0 : Int64)) 72 (ix (gI (pL (pI σ 71 3 (gI σ 71 2)) 71 5 (0 : Int64)) 71 2))).toInt64) 71 4 (4 : Int32))) ∧ (¬ (1 : Int32) = 0 → Q none (pI (pL (pI σ3 71 2 ((gI σ3 71 2) + (1 : Int32))) 71 5 (gI (pL (pI σ 71 3 (gI σ 71 2)) 71 5 (0 : Int64)) 72 (ix (gI (pL (pI σ 71 3 (gI σ 71 2)) 71 5 (0 : Int64)) 71 2))).toInt64) 71 4 (3 : Int32)))) ∧ (¬ (gI (pL (pI σ 71 3 (gI σ 71 2)) 71 5 (0 : Int64)) 72 (ix (gI (pL (pI σ 71 3 (gI σ 71 2)) 71 5 (0 : Int64)) 71 2))) = (42 : Int32) → ((gI (pL (pI σ 71 3 (gI σ 71 2)) 71 5 (0 : Int64)) 72 (ix (gI (pL (pI σ 71 3 (gI σ 71 2)) 71 5 (0 : Int64)) 71 2))) = (47 : Int32) → ((1 : Int32) = 0 → Q none (pI (pL (pI σ3 71 2 ((gI σ3 71 2) + (1 : Int32))) 71 5 (gI (pL (pI σ 71 3 (gI σ 71 2)) 71 5 (0 : Int64)) 72 (ix (gI (pL (pI σ 71 3 (gI σ 71 2)) 71 5 (0 : Int64)) 71 2))).toInt64) 71 4 (4 : Int32))) ∧ (¬ (1 : Int32) = 0 → Q none (pI (pL (pI σ3 71 2 ((gI σ3 71 2) + (1 : Int32))) 71 5 (gI (pL (pI σ 71 3 (gI σ 71 2)) 71 5 (0 : Int64)) 72 (ix (gI (pL (pI σ 71 3 (gI σ 71 2)) 71 5 (0 : Int64)) 71 2))).toInt64) 71 4 (3 : Int32)))) ∧ (¬ (gI (pL (pI σ 71 3 (gI σ 71 2)) 71 5 (0 : Int64)) 72 (ix (gI (pL (pI σ 71 3 (gI σ 71 2)) 71 5 (0 : Int64)) 71 2))) = (47 : Int32) → ((gI (pL (pI σ 71 3 (gI σ 71 2)) 71 5 (0 : Int64)) 72 (ix (gI (pL (pI σ 71 3 (gI σ 71 2)) 71 5 (0 : Int64)) 71 2))) = (45 : Int32) → ((1 : Int32) = 0 → Q none (pI (pL (pI σ3 71 2 ((gI σ3 71 2) + (1 : Int32))) 71 5 (gI (pL (pI σ 71 3 (gI σ 71 2)) 71 5 (0 : Int64)) 72 (ix (gI (pL (pI σ 71 3 (gI σ 71 2)) 71 5 (0 : Int64)) 71 2))).toInt64) 71 4 (4 : Int32))) ∧ (¬ (1 : Int32) = 0 → Q none (pI (pL (pI σ3 71 2 ((gI σ3 71 2) + (1 : Int32))) 71 5 (gI (pL (pI σ 71 3 (gI σ 71 2)) 71 5 (0 : Int64)) 72 (ix (gI (pL (pI σ 71 3 (gI σ 71 2)) 71 5 (0 : Int64)) 71 2))).toInt64) 71 4 (3 : Int32)))) ∧ (¬ (gI (pL (pI σ 71 3 (gI σ 71 2)) 71 5 (0 : Int64)) 72 (ix (gI (pL (pI σ 71 3 (gI σ 71 2)) 71 5 (0 : Int64)) 71 2))) = (45 : Int32) → ((0 : Int32) = 0 → Q none (pI (pL (pI σ3 71 2 ((gI σ3 71 2) + (1 : Int32))) 71 5 (gI (pL (pI σ 71 3 (gI σ 71 2)) 71 5 (0 : Int64)) 72 (ix (gI (pL (pI σ 71 3 (gI σ 71 2)) 71 5 (0 : Int64)) 71 2))).toInt64) 71 4 (4 : Int32))) ∧ (¬ (0 : Int32) = 0 → Q none (pI (pL (pI σ3 71 2 ((gI σ3 71 2) + (1 : Int32))) 71 5 (gI (pL (pI σ 71 3 (gI σ 71 2)) 71 5 (0 : Int64)) 72 (ix (gI (pL (pI σ 71 3 (gI σ 71 2)) 71 5 (0 : Int64)) 71 2))).toInt64) 71 4 (3 : Int32))))))))))) ∧ (¬ r4 = 0 → Wp lay1 rtOf (Cl lay1 d) k_R_next 0 Q (219, [aO 12 71, aI (gI (pL (pI σ 71 3 (gI σ 71 2)) 71 5 (0 : Int64)) 72 (ix (gI (pL (pI σ 71 3 (gI σ 71 2)) 71 5 (0 : Int64)) 71 2))), u2], [], σ3)))) ∧ (¬ r2 = 0 → Wp lay1 rtOf (Cl lay1 d) k_R_next 0 Q (99, [aO 12 71, aI (gI (pL (pI σ 71 3 (gI σ 71 2)) 71 5 (0 : Int64)) 72 (ix (gI (pL (pI σ 71 3 (gI σ 71 2)) 71 5 (0 : Int64)) 71 2))), u2], [], σ1)))))) : Wp lay1 rtOf (Cl lay1 d) k_R_next 0 Q (52, [aO 12 71, u1, u2], [], σ) :=
  run_intro (Cl_mono lay1 d) [0, 39, 52, 99, 170, 219, 289] 600 h
set_option maxRecDepth 50000 in
theorem bk_R_next_99 {d : Nat} {σ : St} {Q : Option AV → St → Prop} (u1 : AV) (u2 : AV)
    (h : ((gI σ 71 1) ≤ (gI σ 71 2) → (((gI σ 71 2) - (gI σ 71 3)) ≤ (8 : Int32) → Q none (pI σ 71 4 (1 : Int32))) ∧ (¬ ((gI σ 71 2) - (gI σ 71 3)) ≤ (8 : Int32) → Q none (pI σ 71 4 (4 : Int32)))) ∧ (¬ (gI σ 71 1) ≤ (gI σ 71 2) → inb (gI σ 71 2) (gN σ 72) ∧ (Cl lay1 d M_R_isLetter [aI (gI σ 72 (ix (gI σ 71 2)))] σ (rI fun r2 σ1 => (r2 = 0 → (((gI σ1 71 2) - (gI σ1 71 3)) ≤ (8 : Int32) → Q none (pI σ1 71 4 (1 : Int32))) ∧ (¬ ((gI σ1 71 2) - (gI σ1 71 3)) ≤ (8 : Int32) → Q none (pI σ1 71 4 (4 : Int32)))) ∧ (¬ r2 = 0 → (((gI σ1 71 2) - (gI σ1 71 3)) ≤ (8 : Int32) → inb (gI σ1 71 2) (gN σ1 72) ∧ (Wp lay1 rtOf (Cl lay1 d) k_R_next 0 Q (170, [aO 12 71, u1, u2], [aJ ((((gL σ1 71 5) * (27 : Int64)) + (gI σ1 72 (ix (gI σ1 71 2))).toInt64) - (96 : Int64)), aO 12 71], σ1))) ∧ (¬ ((gI σ1 71 2) - (gI σ1 71 3)) ≤ (8 : Int32) → Wp lay1 rtOf (Cl lay1 d) k_R_next 0 Q (170, [aO 12 71, u1, u2], [aJ (gL σ1 71 5), aO 12 71], σ1))))))) : Wp lay1 rtOf (Cl lay1 d) k_R_next 0 Q (99, [aO 12 71, u1, u2], [], σ) :=
  run_intro (Cl_mono lay1 d) [0, 39, 52, 99, 170, 219, 289] 600 h
set_option maxRecDepth 50000 in
theorem bk_R_next_170 {d : Nat} {σ : St} {Q : Option AV → St → Prop} (u1 : AV) (u2 : AV) (x50 : Int64)
    (h : Wp lay1 rtOf (Cl lay1 d) k_R_next 0 Q (99, [aO 12 71, u1, u2], [], (pI (pL σ 71 5 x50) 71 2 ((gI (pL σ 71 5 x50) 71 2) + (1 : Int32))))) : Wp lay1 rtOf (Cl lay1 d) k_R_next 0 Q (170, [aO 12 71, u1, u2], [aJ x50, aO 12 71], σ) :=
  run_intro (Cl_mono lay1 d) [0, 39, 52, 99, 170, 219, 289] 600 h
set_option maxRecDepth 50000 in
theorem bk_R_next_219 {d : Nat} {σ : St} {Q : Option AV → St → Prop} (u1 : AV) (u2 : AV)
    (h : ((gI σ 71 1) ≤ (gI σ 71 2) → (((gI σ 71 2) - (gI σ 71 3)) ≤ (4 : Int32) → Q none (pI σ 71 4 (2 : Int32))) ∧ (¬ ((gI σ 71 2) - (gI σ 71 3)) ≤ (4 : Int32) → Q none (pI σ 71 4 (4 : Int32)))) ∧ (¬ (gI σ 71 1) ≤ (gI σ 71 2) → inb (gI σ 71 2) (gN σ 72) ∧ (Cl lay1 d M_R_isFigure [aI (gI σ 72 (ix (gI σ 71 2)))] σ (rI fun r2 σ1 => (r2 = 0 → (((gI σ1 71 2) - (gI σ1 71 3)) ≤ (4 : Int32) → Q none (pI σ1 71 4 (2 : Int32))) ∧ (¬ ((gI σ1 71 2) - (gI σ1 71 3)) ≤ (4 : Int32) → Q none (pI σ1 71 4 (4 : Int32)))) ∧ (¬ r2 = 0 → (((gI σ1 71 2) - (gI σ1 71 3)) ≤ (4 : Int32) → inb (gI σ1 71 2) (gN σ1 72) ∧ (Wp lay1 rtOf (Cl lay1 d) k_R_next 0 Q (289, [aO 12 71, u1, u2], [aJ ((((gL σ1 71 5) * (10 : Int64)) + (gI σ1 72 (ix (gI σ1 71 2))).toInt64) - (48 : Int64)), aO 12 71], σ1))) ∧ (¬ ((gI σ1 71 2) - (gI σ1 71 3)) ≤ (4 : Int32) → Wp lay1 rtOf (Cl lay1 d) k_R_next 0 Q (289, [aO 12 71, u1, u2], [aJ (gL σ1 71 5), aO 12 71], σ1))))))) : Wp lay1 rtOf (Cl lay1 d) k_R_next 0 Q (219, [aO 12 71, u1, u2], [], σ) :=
  run_intro (Cl_mono lay1 d) [0, 39, 52, 99, 170, 219, 289] 600 h
set_option maxRecDepth 50000 in
theorem bk_R_next_289 {d : Nat} {σ : St} {Q : Option AV → St → Prop} (u1 : AV) (u2 : AV) (x50 : Int64)
    (h : Wp lay1 rtOf (Cl lay1 d) k_R_next 0 Q (219, [aO 12 71, u1, u2], [], (pI (pL σ 71 5 x50) 71 2 ((gI (pL σ 71 5 x50) 71 2) + (1 : Int32))))) : Wp lay1 rtOf (Cl lay1 d) k_R_next 0 Q (289, [aO 12 71, u1, u2], [aJ x50, aO 12 71], σ) :=
  run_intro (Cl_mono lay1 d) [0, 39, 52, 99, 170, 219, 289] 600 h
set_option maxRecDepth 50000 in
theorem bk_R_isSign_0 {d : Nat} {σ : St} {Q : Option AV → St → Prop} (x1 : Int32)
    (h : ((gI σ 71 4) = (3 : Int32) → ((lg_cmp (gL σ 71 5) x1.toInt64) = 0 → ((1 : Int32) = 0 ∨ (1 : Int32) = 1) ∧ Q (some (aI (1 : Int32))) σ) ∧ (¬ (lg_cmp (gL σ 71 5) x1.toInt64) = 0 → ((0 : Int32) = 0 ∨ (0 : Int32) = 1) ∧ Q (some (aI (0 : Int32))) σ)) ∧ (¬ (gI σ 71 4) = (3 : Int32) → ((0 : Int32) = 0 ∨ (0 : Int32) = 1) ∧ Q (some (aI (0 : Int32))) σ)) : Cl lay1 (d + 1) M_R_isSign [aO 12 71, aI x1] σ Q :=
  run_intro (Cl_mono lay1 d) [] 600 h
set_option maxRecDepth 50000 in
theorem bk_R_fails_0 {d : Nat} {σ : St} {Q : Option AV → St → Prop} (x1 : Int32)
    (h : ((gI σ 71 6) = 0 → ((gI σ 71 4) = (4 : Int32) → ((0 : Int32) = 0 ∨ (0 : Int32) = 1) ∧ Q (some (aI (0 : Int32))) (pI (pI σ 71 6 (1 : Int32)) 71 7 (gI (pI σ 71 6 (1 : Int32)) 71 3))) ∧ (¬ (gI σ 71 4) = (4 : Int32) → ((0 : Int32) = 0 ∨ (0 : Int32) = 1) ∧ Q (some (aI (0 : Int32))) (pI (pI σ 71 6 x1) 71 7 (gI (pI σ 71 6 x1) 71 3)))) ∧ (¬ (gI σ 71 6) = 0 → ((0 : Int32) = 0 ∨ (0 : Int32) = 1) ∧ Q (some (aI (0 : Int32))) σ)) : Cl lay1 (d + 1) M_R_fails [aO 12 71, aI x1] σ Q :=
  run_intro (Cl_mono lay1 d) [] 600 h
set_option maxRecDepth 50000 in
theorem bk_R_adds_0 {d : Nat} {σ : St} {Q : Option AV → St → Prop} (x1 : Int32) (x2 : Int64) (x4 : Int64)
    (h : ((gI σ 71 17) = (80 : Int32) → Wp lay1 rtOf (Cl lay1 d) k_R_adds 0 Q (37, [aO 12 71, aI x1, aJ x2, aZ, aJ x4, aZ, aZ, aZ], [], σ)) ∧ (¬ (gI σ 71 17) = (80 : Int32) → (x1 = (3 : Int32) → ((gI σ 71 18) = (12 : Int32) → Wp lay1 rtOf (Cl lay1 d) k_R_adds 0 Q (37, [aO 12 71, aI x1, aJ x2, aZ, aJ x4, aZ, aZ, aZ], [], σ)) ∧ (¬ (gI σ 71 18) = (12 : Int32) → Wp lay1 rtOf (Cl lay1 d) k_R_adds 0 Q (23, [aO 12 71, aI x1, aJ x2, aZ, aJ x4, aZ, aZ, aZ], [], σ))) ∧ (¬ x1 = (3 : Int32) → Wp lay1 rtOf (Cl lay1 d) k_R_adds 0 Q (23, [aO 12 71, aI x1, aJ x2, aZ, aJ x4, aZ, aZ, aZ], [], σ)))) : Cl lay1 (d + 1) M_R_adds [aO 12 71, aI x1, aJ x2, aJ x4] σ Q :=
  run_intro (Cl_mono lay1 d) [23, 37, 42, 120] 600 h
set_option maxRecDepth 50000 in
theorem bk_R_adds_23 {d : Nat} {σ : St} {Q : Option AV → St → Prop} (x1 : Int32) (x2 : Int64) (x4 : Int64) (u6 : AV) (u7 : AV)
    (h : (x1 = (4 : Int32) → ((gI σ 71 19) = (12 : Int32) → Wp lay1 rtOf (Cl lay1 d) k_R_adds 0 Q (37, [aO 12 71, aI x1, aJ x2, aZ, aJ x4, aZ, u6, u7], [], σ)) ∧ (¬ (gI σ 71 19) = (12 : Int32) → Wp lay1 rtOf (Cl lay1 d) k_R_adds 0 Q (42, [aO 12 71, aI x1, aJ x2, aZ, aJ x4, aZ, u6, u7], [], σ))) ∧ (¬ x1 = (4 : Int32) → Wp lay1 rtOf (Cl lay1 d) k_R_adds 0 Q (42, [aO 12 71, aI x1, aJ x2, aZ, aJ x4, aZ, u6, u7], [], σ))) : Wp lay1 rtOf (Cl lay1 d) k_R_adds 0 Q (23, [aO 12 71, aI x1, aJ x2, aZ, aJ x4, aZ, u6, u7], [], σ) :=
  run_intro (Cl_mono lay1 d) [23, 37, 42, 120] 600 h
set_option maxRecDepth 50000 in
theorem bk_R_adds_37 {d : Nat} {σ : St} {Q : Option AV → St → Prop} (x1 : Int32) (x2 : Int64) (x4 : Int64) (u6 : AV) (u7 : AV)
    (h : ((1 : Int32) = 0 ∨ (1 : Int32) = 1) ∧ (Wp lay1 rtOf (Cl lay1 d) k_R_adds 0 Q (42, [aO 12 71, aI x1, aJ x2, aZ, aJ x4, aZ, u6, u7], [], (pI σ 71 16 (1 : Int32))))) : Wp lay1 rtOf (Cl lay1 d) k_R_adds 0 Q (37, [aO 12 71, aI x1, aJ x2, aZ, aJ x4, aZ, u6, u7], [], σ) :=
  run_intro (Cl_mono lay1 d) [23, 37, 42, 120] 600 h
set_option maxRecDepth 50000 in
theorem bk_R_adds_42 {d : Nat} {σ : St} {Q : Option AV → St → Prop} (x1 : Int32) (x2 : Int64) (x4 : Int64) (u6 : AV) (u7 : AV)
    (h : ((gI σ 71 16) = 0 → Cl lay1 d M_R_common [aJ x2, aJ x4] σ (rJ fun r2 σ1 => inb (gI σ1 71 17) (gN σ1 79) ∧ (¬ r2 = 0 ∧ (inb (gI (pI σ1 79 (ix (gI σ1 71 17)) x1) 71 17) (gN (pI σ1 79 (ix (gI σ1 71 17)) x1) 80) ∧ (¬ r2 = 0 ∧ (inb (gI (pL (pI σ1 79 (ix (gI σ1 71 17)) x1) 80 (ix (gI (pI σ1 79 (ix (gI σ1 71 17)) x1) 71 17)) (x2 / r2)) 71 17) (gN (pL (pI σ1 79 (ix (gI σ1 71 17)) x1) 80 (ix (gI (pI σ1 79 (ix (gI σ1 71 17)) x1) 71 17)) (x2 / r2)) 81) ∧ ((x1 = (3 : Int32) → Wp lay1 rtOf (Cl lay1 d) k_R_adds 0 Q (120, [aO 12 71, aI x1, aJ x2, aZ, aJ x4, aZ, aJ r2, aZ], [aI (1 : Int32), aI (gI (pI (pL (pL (pI σ1 79 (ix (gI σ1 71 17)) x1) 80 (ix (gI (pI σ1 79 (ix (gI σ1 71 17)) x1) 71 17)) (x2 / r2)) 81 (ix (gI (pL (pI σ1 79 (ix (gI σ1 71 17)) x1) 80 (ix (gI (pI σ1 79 (ix (gI σ1 71 17)) x1) 71 17)) (x2 / r2)) 71 17)) (x4 / r2)) 71 17 ((gI (pL (pL (pI σ1 79 (ix (gI σ1 71 17)) x1) 80 (ix (gI (pI σ1 79 (ix (gI σ1 71 17)) x1) 71 17)) (x2 / r2)) 81 (ix (gI (pL (pI σ1 79 (ix (gI σ1 71 17)) x1) 80 (ix (gI (pI σ1 79 (ix (gI σ1 71 17)) x1) 71 17)) (x2 / r2)) 71 17)) (x4 / r2)) 71 17) + (1 : Int32))) 71 18), aO 12 71], (pI (pL (pL (pI σ1 79 (ix (gI σ1 71 17)) x1) 80 (ix (gI (pI σ1 79 (ix (gI σ1 71 17)) x1) 71 17)) (x2 / r2)) 81 (ix (gI (pL (pI σ1 79 (ix (gI σ1 71 17)) x1) 80 (ix (gI (pI σ1 79 (ix (gI σ1 71 17)) x1) 71 17)) (x2 / r2)) 71 17)) (x4 / r2)) 71 17 ((gI (pL (pL (pI σ1 79 (ix (gI σ1 71 17)) x1) 80 (ix (gI (pI σ1 79 (ix (gI σ1 71 17)) x1) 71 17)) (x2 / r2)) 81 (ix (gI (pL (pI σ1 79 (ix (gI σ1 71 17)) x1) 80 (ix (gI (pI σ1 79 (ix (gI σ1 71 17)) x1) 71 17)) (x2 / r2)) 71 17)) (x4 / r2)) 71 17) + (1 : Int32))))) ∧ (¬ x1 = (3 : Int32) → Wp lay1 rtOf (Cl lay1 d) k_R_adds 0 Q (120, [aO 12 71, aI x1, aJ x2, aZ, aJ x4, aZ, aJ r2, aZ], [aI (0 : Int32), aI (gI (pI (pL (pL (pI σ1 79 (ix (gI σ1 71 17)) x1) 80 (ix (gI (pI σ1 79 (ix (gI σ1 71 17)) x1) 71 17)) (x2 / r2)) 81 (ix (gI (pL (pI σ1 79 (ix (gI σ1 71 17)) x1) 80 (ix (gI (pI σ1 79 (ix (gI σ1 71 17)) x1) 71 17)) (x2 / r2)) 71 17)) (x4 / r2)) 71 17 ((gI (pL (pL (pI σ1 79 (ix (gI σ1 71 17)) x1) 80 (ix (gI (pI σ1 79 (ix (gI σ1 71 17)) x1) 71 17)) (x2 / r2)) 81 (ix (gI (pL (pI σ1 79 (ix (gI σ1 71 17)) x1) 80 (ix (gI (pI σ1 79 (ix (gI σ1 71 17)) x1) 71 17)) (x2 / r2)) 71 17)) (x4 / r2)) 71 17) + (1 : Int32))) 71 18), aO 12 71], (pI (pL (pL (pI σ1 79 (ix (gI σ1 71 17)) x1) 80 (ix (gI (pI σ1 79 (ix (gI σ1 71 17)) x1) 71 17)) (x2 / r2)) 81 (ix (gI (pL (pI σ1 79 (ix (gI σ1 71 17)) x1) 80 (ix (gI (pI σ1 79 (ix (gI σ1 71 17)) x1) 71 17)) (x2 / r2)) 71 17)) (x4 / r2)) 71 17 ((gI (pL (pL (pI σ1 79 (ix (gI σ1 71 17)) x1) 80 (ix (gI (pI σ1 79 (ix (gI σ1 71 17)) x1) 71 17)) (x2 / r2)) 81 (ix (gI (pL (pI σ1 79 (ix (gI σ1 71 17)) x1) 80 (ix (gI (pI σ1 79 (ix (gI σ1 71 17)) x1) 71 17)) (x2 / r2)) 71 17)) (x4 / r2)) 71 17) + (1 : Int32)))))))))))) ∧ (¬ (gI σ 71 16) = 0 → Q none σ)) : Wp lay1 rtOf (Cl lay1 d) k_R_adds 0 Q (42, [aO 12 71, aI x1, aJ x2, aZ, aJ x4, aZ, u6, u7], [], σ) :=
  run_intro (Cl_mono lay1 d) [23, 37, 42, 120] 600 h
set_option maxRecDepth 50000 in
theorem bk_R_adds_120 {d : Nat} {σ : St} {Q : Option AV → St → Prop} (x1 : Int32) (u2 : AV) (u3 : AV) (u4 : AV) (u5 : AV) (u6 : AV) (u7 : AV) (x50 : Int32) (x51 : Int32)
    (h : (x1 = (4 : Int32) → Q none (pI (pI σ 71 18 (x51 + x50)) 71 19 ((gI (pI σ 71 18 (x51 + x50)) 71 19) + (1 : Int32)))) ∧ (¬ x1 = (4 : Int32) → Q none (pI (pI σ 71 18 (x51 + x50)) 71 19 ((gI (pI σ 71 18 (x51 + x50)) 71 19) + (0 : Int32))))) : Wp lay1 rtOf (Cl lay1 d) k_R_adds 0 Q (120, [aO 12 71, aI x1, u2, u3, u4, u5, u6, u7], [aI x50, aI x51, aO 12 71], σ) :=
  run_intro (Cl_mono lay1 d) [23, 37, 42, 120] 600 h
set_option maxRecDepth 50000 in
theorem bk_R_named_0 {d : Nat} {σ : St} {Q : Option AV → St → Prop} (x1 : Int64)
    (h : Wp lay1 rtOf (Cl lay1 d) k_R_named 1 Q (2, [aO 12 71, aJ x1, aZ, aI (0 : Int32)], [], σ)) : Cl lay1 (d + 1) M_R_named [aO 12 71, aJ x1] σ Q :=
  run_intro (Cl_mono lay1 d) [2] 600 h
set_option maxRecDepth 50000 in
theorem bk_R_named_2 {d : Nat} {σ : St} {Q : Option AV → St → Prop} (x1 : Int64) (x3 : Int32)
    (h : ((gI σ 71 8) ≤ x3 → Q (some (aI (-1 : Int32))) σ) ∧ (¬ (gI σ 71 8) ≤ x3 → inb x3 (gN σ 73) ∧ (((lg_cmp (gL σ 73 (ix x3)) x1) = 0 → Q (some (aI x3)) σ) ∧ (¬ (lg_cmp (gL σ 73 (ix x3)) x1) = 0 → Wp lay1 rtOf (Cl lay1 d) k_R_named 1 Q (2, [aO 12 71, aJ x1, aZ, aI (x3 + (1 : Int32))], [], σ))))) : Wp lay1 rtOf (Cl lay1 d) k_R_named 1 Q (2, [aO 12 71, aJ x1, aZ, aI x3], [], σ) :=
  run_intro (Cl_mono lay1 d) [2] 600 h
set_option maxRecDepth 50000 in
theorem bk_R_isOwn_0 {d : Nat} {σ : St} {Q : Option AV → St → Prop} (x0 : Int64)
    (h : ((lg_cmp x0 (4 : Int64)) = 0 → ((1 : Int32) = 0 ∨ (1 : Int32) = 1) ∧ Q (some (aI (1 : Int32))) σ) ∧ (¬ (lg_cmp x0 (4 : Int64)) = 0 → ((lg_cmp x0 (17 : Int64)) = 0 → ((1 : Int32) = 0 ∨ (1 : Int32) = 1) ∧ Q (some (aI (1 : Int32))) σ) ∧ (¬ (lg_cmp x0 (17 : Int64)) = 0 → ((lg_cmp x0 (19 : Int64)) = 0 → ((1 : Int32) = 0 ∨ (1 : Int32) = 1) ∧ Q (some (aI (1 : Int32))) σ) ∧ (¬ (lg_cmp x0 (19 : Int64)) = 0 → ((lg_cmp x0 (11 : Int64)) = 0 → ((1 : Int32) = 0 ∨ (1 : Int32) = 1) ∧ Q (some (aI (1 : Int32))) σ) ∧ (¬ (lg_cmp x0 (11 : Int64)) = 0 → ((lg_cmp x0 (13 : Int64)) = 0 → ((1 : Int32) = 0 ∨ (1 : Int32) = 1) ∧ Q (some (aI (1 : Int32))) σ) ∧ (¬ (lg_cmp x0 (13 : Int64)) = 0 → ((0 : Int32) = 0 ∨ (0 : Int32) = 1) ∧ Q (some (aI (0 : Int32))) σ)))))) : Cl lay1 (d + 1) M_R_isOwn [aJ x0] σ Q :=
  run_intro (Cl_mono lay1 d) [] 600 h
set_option maxRecDepth 50000 in
theorem bk_R_figure_0 {d : Nat} {σ : St} {Q : Option AV → St → Prop} (x1 : Int32)
    (h : Cl lay1 d M_R_next [aO 12 71] σ (rV fun σ1 => Cl lay1 d M_R_isSign [aO 12 71, aI (45 : Int32)] σ1 (rI fun r3 σ2 => (r3 = 0 → ((gI σ2 71 4) = (2 : Int32) → Cl lay1 d M_R_next [aO 12 71] (pL (pL σ2 71 27 ((1 : Int64) * (gL σ2 71 5))) 71 28 (1 : Int64)) (rV fun σ4 => (x1 = 0 → ((1 : Int32) = 0 ∨ (1 : Int32) = 1) ∧ Q (some (aI (1 : Int32))) σ4) ∧ (¬ x1 = 0 → Cl lay1 d M_R_isSign [aO 12 71, aI (47 : Int32)] σ4 (rI fun r6 σ5 => (r6 = 0 → ((1 : Int32) = 0 ∨ (1 : Int32) = 1) ∧ Q (some (aI (1 : Int32))) σ5) ∧ (¬ r6 = 0 → Cl lay1 d M_R_next [aO 12 71] σ5 (rV fun σ7 => ((gI σ7 71 4) = (2 : Int32) → ((lg_cmp (gL σ7 71 5) (0 : Int64)) = 0 → Cl lay1 d M_R_fails [aO 12 71, aI (2 : Int32)] σ7 (rI fun r9 σ8 => (r9 = 0 ∨ r9 = 1) ∧ Q (some (aI r9)) σ8)) ∧ (¬ (lg_cmp (gL σ7 71 5) (0 : Int64)) = 0 → Cl lay1 d M_R_next [aO 12 71] (pL σ7 71 28 (gL σ7 71 5)) (rV fun σ10 => ((1 : Int32) = 0 ∨ (1 : Int32) = 1) ∧ Q (some (aI (1 : Int32))) σ10))) ∧ (¬ (gI σ7 71 4) = (2 : Int32) → Cl lay1 d M_R_fails [aO 12 71, aI (2 : Int32)] σ7 (rI fun r12 σ11 => (r12 = 0 ∨ r12 = 1) ∧ Q (some (aI r12)) σ11)))))))) ∧ (¬ (gI σ2 71 4) = (2 : Int32) → Cl lay1 d M_R_fails [aO 12 71, aI (2 : Int32)] σ2 (rI fun r14 σ13 => (r14 = 0 ∨ r14 = 1) ∧ Q (some (aI r14)) σ13))) ∧ (¬ r3 = 0 → Cl lay1 d M_R_next [aO 12 71] σ2 (rV fun σ15 => ((gI σ15 71 4) = (2 : Int32) → Cl lay1 d M_R_next [aO 12 71] (pL (pL σ15 71 27 ((-1 : Int64) * (gL σ15 71 5))) 71 28 (1 : Int64)) (rV fun σ16 => (x1 = 0 → ((1 : Int32) = 0 ∨ (1 : Int32) = 1) ∧ Q (some (aI (1 : Int32))) σ16) ∧ (¬ x1 = 0 → Cl lay1 d M_R_isSign [aO 12 71, aI (47 : Int32)] σ16 (rI fun r18 σ17 => (r18 = 0 → ((1 : Int32) = 0 ∨ (1 : Int32) = 1) ∧ Q (some (aI (1 : Int32))) σ17) ∧ (¬ r18 = 0 → Cl lay1 d M_R_next [aO 12 71] σ17 (rV fun σ19 => ((gI σ19 71 4) = (2 : Int32) → ((lg_cmp (gL σ19 71 5) (0 : Int64)) = 0 → Cl lay1 d M_R_fails [aO 12 71, aI (2 : Int32)] σ19 (rI fun r21 σ20 => (r21 = 0 ∨ r21 = 1) ∧ Q (some (aI r21)) σ20)) ∧ (¬ (lg_cmp (gL σ19 71 5) (0 : Int64)) = 0 → Cl lay1 d M_R_next [aO 12 71] (pL σ19 71 28 (gL σ19 71 5)) (rV fun σ22 => ((1 : Int32) = 0 ∨ (1 : Int32) = 1) ∧ Q (some (aI (1 : Int32))) σ22))) ∧ (¬ (gI σ19 71 4) = (2 : Int32) → Cl lay1 d M_R_fails [aO 12 71, aI (2 : Int32)] σ19 (rI fun r24 σ23 => (r24 = 0 ∨ r24 = 1) ∧ Q (some (aI r24)) σ23)))))))) ∧ (¬ (gI σ15 71 4) = (2 : Int32) → Cl lay1 d M_R_fails [aO 12 71, aI (2 : Int32)] σ15 (rI fun r26 σ25 => (r26 = 0 ∨ r26 = 1) ∧ Q (some (aI r26)) σ25))))))) : Cl lay1 (d + 1) M_R_figure [aO 12 71, aI x1] σ Q :=
  run_intro (Cl_mono lay1 d) [] 600 h
set_option maxRecDepth 50000 in
theorem bk_R_item_0 {d : Nat} {σ : St} {Q : Option AV → St → Prop} 
    (h : ((gI σ 71 4) = (2 : Int32) → Cl lay1 d M_R_in [aJ (gL σ 71 5), aJ (1 : Int64), aJ (40 : Int64)] σ (rI fun r2 σ1 => (r2 = 0 → Cl lay1 d M_R_fails [aO 12 71, aI (2 : Int32)] σ1 (rI fun r4 σ3 => (r4 = 0 ∨ r4 = 1) ∧ Q (some (aI r4)) σ3)) ∧ (¬ r2 = 0 → Cl lay1 d M_R_next [aO 12 71] σ1 (rV fun σ5 => Cl lay1 d M_R_isSign [aO 12 71, aI (42 : Int32)] σ5 (rI fun r7 σ6 => (r7 = 0 → Cl lay1 d M_R_fails [aO 12 71, aI (2 : Int32)] σ6 (rI fun r9 σ8 => (r9 = 0 ∨ r9 = 1) ∧ Q (some (aI r9)) σ8)) ∧ (¬ r7 = 0 → Cl lay1 d M_R_next [aO 12 71] σ6 (rV fun σ10 => Cl lay1 d M_R_isSign [aO 12 71, aI (40 : Int32)] σ10 (rI fun r12 σ11 => (r12 = 0 → Cl lay1 d M_R_fails [aO 12 71, aI (2 : Int32)] σ11 (rI fun r14 σ13 => (r14 = 0 ∨ r14 = 1) ∧ Q (some (aI r14)) σ13)) ∧ (¬ r12 = 0 → ((gI σ11 71 23) = (6 : Int32) → Cl lay1 d M_R_fails [aO 12 71, aI (3 : Int32)] σ11 (rI fun r16 σ15 => (r16 = 0 ∨ r16 = 1) ∧ Q (some (aI r16)) σ15)) ∧ (¬ (gI σ11 71 23) = (6 : Int32) → inb (gI (pI σ11 71 23 ((gI σ11 71 23) + (1 : Int32))) 71 23) (gN (pI σ11 71 23 ((gI σ11 71 23) + (1 : Int32))) 82) ∧ (inb (gI (pI (pI σ11 71 23 ((gI σ11 71 23) + (1 : Int32))) 82 (ix (gI (pI σ11 71 23 ((gI σ11 71 23) + (1 : Int32))) 71 23)) (gL σ 71 5).toInt32) 71 23) (gN (pI (pI σ11 71 23 ((gI σ11 71 23) + (1 : Int32))) 82 (ix (gI (pI σ11 71 23 ((gI σ11 71 23) + (1 : Int32))) 71 23)) (gL σ 71 5).toInt32) 83) ∧ (inb (gI (pI (pI (pI σ11 71 23 ((gI σ11 71 23) + (1 : Int32))) 82 (ix (gI (pI σ11 71 23 ((gI σ11 71 23) + (1 : Int32))) 71 23)) (gL σ 71 5).toInt32) 83 (ix (gI (pI (pI σ11 71 23 ((gI σ11 71 23) + (1 : Int32))) 82 (ix (gI (pI σ11 71 23 ((gI σ11 71 23) + (1 : Int32))) 71 23)) (gL σ 71 5).toInt32) 71 23)) (gI (pI (pI σ11 71 23 ((gI σ11 71 23) + (1 : Int32))) 82 (ix (gI (pI σ11 71 23 ((gI σ11 71 23) + (1 : Int32))) 71 23)) (gL σ 71 5).toInt32) 71 17)) 71 23) (gN (pI (pI (pI σ11 71 23 ((gI σ11 71 23) + (1 : Int32))) 82 (ix (gI (pI σ11 71 23 ((gI σ11 71 23) + (1 : Int32))) 71 23)) (gL σ 71 5).toInt32) 83 (ix (gI (pI (pI σ11 71 23 ((gI σ11 71 23) + (1 : Int32))) 82 (ix (gI (pI σ11 71 23 ((gI σ11 71 23) + (1 : Int32))) 71 23)) (gL σ 71 5).toInt32) 71 23)) (gI (pI (pI σ11 71 23 ((gI σ11 71 23) + (1 : Int32))) 82 (ix (gI (pI σ11 71 23 ((gI σ11 71 23) + (1 : Int32))) 71 23)) (gL σ 71 5).toInt32) 71 17)) 84) ∧ (Cl lay1 d M_R_next [aO 12 71] (pI (pI (pI (pI σ11 71 23 ((gI σ11 71 23) + (1 : Int32))) 82 (ix (gI (pI σ11 71 23 ((gI σ11 71 23) + (1 : Int32))) 71 23)) (gL σ 71 5).toInt32) 83 (ix (gI (pI (pI σ11 71 23 ((gI σ11 71 23) + (1 : Int32))) 82 (ix (gI (pI σ11 71 23 ((gI σ11 71 23) + (1 : Int32))) 71 23)) (gL σ 71 5).toInt32) 71 23)) (gI (pI (pI σ11 71 23 ((gI σ11 71 23) + (1 : Int32))) 82 (ix (gI (pI σ11 71 23 ((gI σ11 71 23) + (1 : Int32))) 71 23)) (gL σ 71 5).toInt32) 71 17)) 84 (ix (gI (pI (pI (pI σ11 71 23 ((gI σ11 71 23) + (1 : Int32))) 82 (ix (gI (pI σ11 71 23 ((gI σ11 71 23) + (1 : Int32))) 71 23)) (gL σ 71 5).toInt32) 83 (ix (gI (pI (pI σ11 71 23 ((gI σ11 71 23) + (1 : Int32))) 82 (ix (gI (pI σ11 71 23 ((gI σ11 71 23) + (1 : Int32))) 71 23)) (gL σ 71 5).toInt32) 71 23)) (gI (pI (pI σ11 71 23 ((gI σ11 71 23) + (1 : Int32))) 82 (ix (gI (pI σ11 71 23 ((gI σ11 71 23) + (1 : Int32))) 71 23)) (gL σ 71 5).toInt32) 71 17)) 71 23)) (vp_nar .boolean (0 : Int32))) (rV fun σ17 => ((1 : Int32) = 0 ∨ (1 : Int32) = 1) ∧ Q (some (aI (1 : Int32))) σ17)))))))))))))) ∧ (¬ (gI σ 71 4) = (2 : Int32) → ((gI σ 71 4) = (1 : Int32) → inb (gI σ 71 23) (gN σ 84) ∧ (((lg_cmp (gL (pI σ 84 (ix (gI σ 71 23)) (vp_nar .boolean (1 : Int32))) 71 5) (4 : Int64)) = 0 → Wp lay1 rtOf (Cl lay1 d) k_R_item 2 Q (179, [aO 12 71, aZ, aZ], [], (pI σ 84 (ix (gI σ 71 23)) (vp_nar .boolean (1 : Int32))))) ∧ (¬ (lg_cmp (gL (pI σ 84 (ix (gI σ 71 23)) (vp_nar .boolean (1 : Int32))) 71 5) (4 : Int64)) = 0 → ((lg_cmp (gL (pI σ 84 (ix (gI σ 71 23)) (vp_nar .boolean (1 : Int32))) 71 5) (17 : Int64)) = 0 → Wp lay1 rtOf (Cl lay1 d) k_R_item 2 Q (179, [aO 12 71, aZ, aZ], [], (pI σ 84 (ix (gI σ 71 23)) (vp_nar .boolean (1 : Int32))))) ∧ (¬ (lg_cmp (gL (pI σ 84 (ix (gI σ 71 23)) (vp_nar .boolean (1 : Int32))) 71 5) (17 : Int64)) = 0 → ((lg_cmp (gL (pI σ 84 (ix (gI σ 71 23)) (vp_nar .boolean (1 : Int32))) 71 5) (19 : Int64)) = 0 → Cl lay1 d M_R_figure [aO 12 71, aI (0 : Int32)] (pI σ 84 (ix (gI σ 71 23)) (vp_nar .boolean (1 : Int32))) (rI fun r19 σ18 => (r19 = 0 → (r19 = 0 ∨ r19 = 1) ∧ Q (some (aI r19)) σ18) ∧ (¬ r19 = 0 → Cl lay1 d M_R_adds [aO 12 71, aI (2 : Int32), aJ (gL σ18 71 27), aJ (1 : Int64)] σ18 (rV fun σ20 => (r19 = 0 ∨ r19 = 1) ∧ Q (some (aI r19)) σ20)))) ∧ (¬ (lg_cmp (gL (pI σ 84 (ix (gI σ 71 23)) (vp_nar .boolean (1 : Int32))) 71 5) (19 : Int64)) = 0 → ((lg_cmp (gL (pI σ 84 (ix (gI σ 71 23)) (vp_nar .boolean (1 : Int32))) 71 5) (11 : Int64)) = 0 → Wp lay1 rtOf (Cl lay1 d) k_R_item 2 Q (276, [aO 12 71, aZ, aZ], [], (pI σ 84 (ix (gI σ 71 23)) (vp_nar .boolean (1 : Int32))))) ∧ (¬ (lg_cmp (gL (pI σ 84 (ix (gI σ 71 23)) (vp_nar .boolean (1 : Int32))) 71 5) (11 : Int64)) = 0 → ((lg_cmp (gL (pI σ 84 (ix (gI σ 71 23)) (vp_nar .boolean (1 : Int32))) 71 5) (13 : Int64)) = 0 → Wp lay1 rtOf (Cl lay1 d) k_R_item 2 Q (276, [aO 12 71, aZ, aZ], [], (pI σ 84 (ix (gI σ 71 23)) (vp_nar .boolean (1 : Int32))))) ∧ (¬ (lg_cmp (gL (pI σ 84 (ix (gI σ 71 23)) (vp_nar .boolean (1 : Int32))) 71 5) (13 : Int64)) = 0 → Cl lay1 d M_R_named [aO 12 71, aJ (gL (pI σ 84 (ix (gI σ 71 23)) (vp_nar .boolean (1 : Int32))) 71 5)] (pI σ 84 (ix (gI σ 71 23)) (vp_nar .boolean (1 : Int32))) (rI fun r22 σ21 => (0 ≤ r22 → Wp lay1 rtOf (Cl lay1 d) k_R_item 2 Q (322, [aO 12 71, aI r22, aI (0 : Int32)], [], σ21)) ∧ (¬ 0 ≤ r22 → Cl lay1 d M_R_fails [aO 12 71, aI (2 : Int32)] σ21 (rI fun r24 σ23 => (r24 = 0 ∨ r24 = 1) ∧ Q (some (aI r24)) σ23)))))))))) ∧ (¬ (gI σ 71 4) = (1 : Int32) → Cl lay1 d M_R_fails [aO 12 71, aI (2 : Int32)] σ (rI fun r26 σ25 => (r26 = 0 ∨ r26 = 1) ∧ Q (some (aI r26)) σ25)))) : Cl lay1 (d + 1) M_R_item [aO 12 71] σ Q :=
  run_intro (Cl_mono lay1 d) [179, 195, 276, 298, 322, 385] 600 h
set_option maxRecDepth 50000 in
theorem bk_R_item_179 {d : Nat} {σ : St} {Q : Option AV → St → Prop} (u1 : AV) (u2 : AV)
    (h : ((lg_cmp (gL σ 71 5) (4 : Int64)) = 0 → Wp lay1 rtOf (Cl lay1 d) k_R_item 2 Q (195, [aO 12 71, u1, u2], [aI (0 : Int32)], σ)) ∧ (¬ (lg_cmp (gL σ 71 5) (4 : Int64)) = 0 → Wp lay1 rtOf (Cl lay1 d) k_R_item 2 Q (195, [aO 12 71, u1, u2], [aI (1 : Int32)], σ))) : Wp lay1 rtOf (Cl lay1 d) k_R_item 2 Q (179, [aO 12 71, u1, u2], [], σ) :=
  run_intro (Cl_mono lay1 d) [179, 195, 276, 298, 322, 385] 600 h
set_option maxRecDepth 50000 in
theorem bk_R_item_195 {d : Nat} {σ : St} {Q : Option AV → St → Prop} (u1 : AV) (u2 : AV) (x50 : Int32)
    (h : Cl lay1 d M_R_figure [aO 12 71, aI (1 : Int32)] σ (rI fun r2 σ1 => (r2 = 0 → (r2 = 0 ∨ r2 = 1) ∧ Q (some (aI r2)) σ1) ∧ (¬ r2 = 0 → Cl lay1 d M_R_adds [aO 12 71, aI x50, aJ (gL σ1 71 27), aJ (gL σ1 71 28)] σ1 (rV fun σ3 => (r2 = 0 ∨ r2 = 1) ∧ Q (some (aI r2)) σ3)))) : Wp lay1 rtOf (Cl lay1 d) k_R_item 2 Q (195, [aO 12 71, u1, u2], [aI x50], σ) :=
  run_intro (Cl_mono lay1 d) [179, 195, 276, 298, 322, 385] 600 h
set_option maxRecDepth 50000 in
theorem bk_R_item_276 {d : Nat} {σ : St} {Q : Option AV → St → Prop} (u1 : AV) (u2 : AV)
    (h : ((lg_cmp (gL σ 71 5) (11 : Int64)) = 0 → Cl lay1 d M_R_adds [aO 12 71, aI (3 : Int32), aJ (0 : Int64), aJ (1 : Int64)] σ (rV fun σ1 => Wp lay1 rtOf (Cl lay1 d) k_R_item 2 Q (298, [aO 12 71, u1, u2], [], σ1))) ∧ (¬ (lg_cmp (gL σ 71 5) (11 : Int64)) = 0 → Cl lay1 d M_R_adds [aO 12 71, aI (4 : Int32), aJ (0 : Int64), aJ (1 : Int64)] σ (rV fun σ2 => Wp lay1 rtOf (Cl lay1 d) k_R_item 2 Q (298, [aO 12 71, u1, u2], [], σ2)))) : Wp lay1 rtOf (Cl lay1 d) k_R_item 2 Q (276, [aO 12 71, u1, u2], [], σ) :=
  run_intro (Cl_mono lay1 d) [179, 195, 276, 298, 322, 385] 600 h
set_option maxRecDepth 50000 in
theorem bk_R_item_298 {d : Nat} {σ : St} {Q : Option AV → St → Prop} (u1 : AV) (u2 : AV)
    (h : Cl lay1 d M_R_next [aO 12 71] σ (rV fun σ1 => Wp lay1 rtOf (Cl lay1 d) k_R_item 2 Q (385, [aO 12 71, u1, u2], [], σ1))) : Wp lay1 rtOf (Cl lay1 d) k_R_item 2 Q (298, [aO 12 71, u1, u2], [], σ) :=
  run_intro (Cl_mono lay1 d) [179, 195, 276, 298, 322, 385] 600 h
set_option maxRecDepth 50000 in
theorem bk_R_item_322 {d : Nat} {σ : St} {Q : Option AV → St → Prop} (x1 : Int32) (x2 : Int32)
    (h : inb x1 (gN σ 75) ∧ (((gI σ 75 (ix x1)) ≤ x2 → Cl lay1 d M_R_next [aO 12 71] σ (rV fun σ1 => Wp lay1 rtOf (Cl lay1 d) k_R_item 2 Q (385, [aO 12 71, aI x1, aI x2], [], σ1))) ∧ (¬ (gI σ 75 (ix x1)) ≤ x2 → inb x1 (gN σ 74) ∧ (inb ((gI σ 74 (ix x1)) + x2) (gN σ 76) ∧ (inb x1 (gN σ 74) ∧ (inb ((gI σ 74 (ix x1)) + x2) (gN σ 77) ∧ (inb x1 (gN σ 74) ∧ (inb ((gI σ 74 (ix x1)) + x2) (gN σ 78) ∧ (Cl lay1 d M_R_adds [aO 12 71, aI (gI σ 76 (ix ((gI σ 74 (ix x1)) + x2))), aJ (gL σ 77 (ix ((gI σ 74 (ix x1)) + x2))), aJ (gL σ 78 (ix ((gI σ 74 (ix x1)) + x2)))] σ (rV fun σ2 => Wp lay1 rtOf (Cl lay1 d) k_R_item 2 Q (322, [aO 12 71, aI x1, aI (x2 + (1 : Int32))], [], σ2))))))))))) : Wp lay1 rtOf (Cl lay1 d) k_R_item 2 Q (322, [aO 12 71, aI x1, aI x2], [], σ) :=
  run_intro (Cl_mono lay1 d) [179, 195, 276, 298, 322, 385] 600 h
set_option maxRecDepth 50000 in
theorem bk_R_item_385 {d : Nat} {σ : St} {Q : Option AV → St → Prop} (u0 : AV) (u1 : AV) (u2 : AV)
    (h : ((1 : Int32) = 0 ∨ (1 : Int32) = 1) ∧ Q (some (aI (1 : Int32))) σ) : Wp lay1 rtOf (Cl lay1 d) k_R_item 2 Q (385, [u0, u1, u2], [], σ) :=
  run_intro (Cl_mono lay1 d) [179, 195, 276, 298, 322, 385] 600 h
set_option maxRecDepth 50000 in
theorem bk_R_closes_0 {d : Nat} {σ : St} {Q : Option AV → St → Prop} 
    (h : ((gI σ 71 23) = 0 → Cl lay1 d M_R_fails [aO 12 71, aI (2 : Int32)] σ (rI fun r2 σ1 => (r2 = 0 ∨ r2 = 1) ∧ Q (some (aI r2)) σ1)) ∧ (¬ (gI σ 71 23) = 0 → inb (gI σ 71 23) (gN σ 84) ∧ (((gI σ 84 (ix (gI σ 71 23))) = 0 → Cl lay1 d M_R_fails [aO 12 71, aI (2 : Int32)] σ (rI fun r4 σ3 => (r4 = 0 ∨ r4 = 1) ∧ Q (some (aI r4)) σ3)) ∧ (¬ (gI σ 84 (ix (gI σ 71 23))) = 0 → inb (gI σ 71 23) (gN σ 83) ∧ (Wp lay1 rtOf (Cl lay1 d) k_R_closes 2 Q (42, [aO 12 71, aI (gI σ 83 (ix (gI σ 71 23))), aI (gI σ 71 17), aI (1 : Int32), aZ], [], σ)))))) : Cl lay1 (d + 1) M_R_closes [aO 12 71] σ Q :=
  run_intro (Cl_mono lay1 d) [42, 58] 600 h
set_option maxRecDepth 50000 in
theorem bk_R_closes_42 {d : Nat} {σ : St} {Q : Option AV → St → Prop} (x1 : Int32) (x2 : Int32) (x3 : Int32) (u4 : AV)
    (h : inb (gI σ 71 23) (gN σ 82) ∧ (((gI σ 82 (ix (gI σ 71 23))) ≤ x3 → inb (gI (pI σ 71 23 ((gI σ 71 23) - (1 : Int32))) 71 23) (gN (pI σ 71 23 ((gI σ 71 23) - (1 : Int32))) 84) ∧ (Cl lay1 d M_R_next [aO 12 71] (pI (pI σ 71 23 ((gI σ 71 23) - (1 : Int32))) 84 (ix (gI (pI σ 71 23 ((gI σ 71 23) - (1 : Int32))) 71 23)) (vp_nar .boolean (1 : Int32))) (rV fun σ1 => ((1 : Int32) = 0 ∨ (1 : Int32) = 1) ∧ Q (some (aI (1 : Int32))) σ1))) ∧ (¬ (gI σ 82 (ix (gI σ 71 23))) ≤ x3 → Wp lay1 rtOf (Cl lay1 d) k_R_closes 2 Q (58, [aO 12 71, aI x1, aI x2, aI x3, aI x1], [], σ)))) : Wp lay1 rtOf (Cl lay1 d) k_R_closes 2 Q (42, [aO 12 71, aI x1, aI x2, aI x3, u4], [], σ) :=
  run_intro (Cl_mono lay1 d) [42, 58] 600 h
set_option maxRecDepth 50000 in
theorem bk_R_closes_58 {d : Nat} {σ : St} {Q : Option AV → St → Prop} (x1 : Int32) (x2 : Int32) (x3 : Int32) (x4 : Int32)
    (h : (x2 ≤ x4 → Wp lay1 rtOf (Cl lay1 d) k_R_closes 2 Q (42, [aO 12 71, aI x1, aI x2, aI (x3 + (1 : Int32)), aI x4], [], σ)) ∧ (¬ x2 ≤ x4 → ((gI σ 71 16) = 0 → inb x4 (gN σ 79) ∧ (inb x4 (gN σ 80) ∧ (inb x4 (gN σ 81) ∧ (Cl lay1 d M_R_adds [aO 12 71, aI (gI σ 79 (ix x4)), aJ (gL σ 80 (ix x4)), aJ (gL σ 81 (ix x4))] σ (rV fun σ1 => Wp lay1 rtOf (Cl lay1 d) k_R_closes 2 Q (58, [aO 12 71, aI x1, aI x2, aI x3, aI (x4 + (1 : Int32))], [], σ1)))))) ∧ (¬ (gI σ 71 16) = 0 → Wp lay1 rtOf (Cl lay1 d) k_R_closes 2 Q (42, [aO 12 71, aI x1, aI x2, aI (x3 + (1 : Int32)), aI x4], [], σ)))) : Wp lay1 rtOf (Cl lay1 d) k_R_closes 2 Q (58, [aO 12 71, aI x1, aI x2, aI x3, aI x4], [], σ) :=
  run_intro (Cl_mono lay1 d) [42, 58] 600 h
set_option maxRecDepth 50000 in
theorem bk_R_line_0 {d : Nat} {σ : St} {Q : Option AV → St → Prop} 
    (h : ((gI σ 71 4) = (1 : Int32) → Cl lay1 d M_R_isOwn [aJ (gL σ 71 5)] σ (rI fun r2 σ1 => (r2 = 0 → Cl lay1 d M_R_named [aO 12 71, aJ (gL σ1 71 5)] σ1 (rI fun r4 σ3 => (r4 < 0 → Cl lay1 d M_R_next [aO 12 71] σ3 (rV fun σ5 => Wp lay1 rtOf (Cl lay1 d) k_R_line 2 Q (44, [aO 12 71, aJ (gL σ3 71 5), aZ, aZ, aZ], [], σ5))) ∧ (¬ r4 < 0 → Cl lay1 d M_R_fails [aO 12 71, aI (2 : Int32)] σ3 (rI fun r7 σ6 => (r7 = 0 ∨ r7 = 1) ∧ Q (some (aI r7)) σ6)))) ∧ (¬ r2 = 0 → Cl lay1 d M_R_fails [aO 12 71, aI (2 : Int32)] σ1 (rI fun r9 σ8 => (r9 = 0 ∨ r9 = 1) ∧ Q (some (aI r9)) σ8)))) ∧ (¬ (gI σ 71 4) = (1 : Int32) → Cl lay1 d M_R_fails [aO 12 71, aI (2 : Int32)] σ (rI fun r11 σ10 => (r11 = 0 ∨ r11 = 1) ∧ Q (some (aI r11)) σ10))) : Cl lay1 (d + 1) M_R_line [aO 12 71] σ Q :=
  run_intro (Cl_mono lay1 d) [44, 97, 208] 600 h
set_option maxRecDepth 50000 in
theorem bk_R_line_44 {d : Nat} {σ : St} {Q : Option AV → St → Prop} (x1 : Int64) (u3 : AV) (u4 : AV)
    (h : Cl lay1 d M_R_isSign [aO 12 71, aI (61 : Int32)] σ (rI fun r2 σ1 => (r2 = 0 → Cl lay1 d M_R_fails [aO 12 71, aI (2 : Int32)] σ1 (rI fun r4 σ3 => (r4 = 0 ∨ r4 = 1) ∧ Q (some (aI r4)) σ3)) ∧ (¬ r2 = 0 → ((0 : Int32) = 0 ∨ (0 : Int32) = 1) ∧ (inb (0 : Int32) (gN (pI (pI (pI (pI (pI σ1 71 16 (0 : Int32)) 71 17 (0 : Int32)) 71 18 (0 : Int32)) 71 19 (0 : Int32)) 71 23 (0 : Int32)) 84) ∧ (Cl lay1 d M_R_next [aO 12 71] (pI (pI (pI (pI (pI (pI σ1 71 16 (0 : Int32)) 71 17 (0 : Int32)) 71 18 (0 : Int32)) 71 19 (0 : Int32)) 71 23 (0 : Int32)) 84 (ix (0 : Int32)) (vp_nar .boolean (0 : Int32))) (rV fun σ5 => Wp lay1 rtOf (Cl lay1 d) k_R_line 2 Q (97, [aO 12 71, aJ x1, aZ, aI (1 : Int32), u4], [], σ5))))))) : Wp lay1 rtOf (Cl lay1 d) k_R_line 2 Q (44, [aO 12 71, aJ x1, aZ, u3, u4], [], σ) :=
  run_intro (Cl_mono lay1 d) [44, 97, 208] 600 h
set_option maxRecDepth 50000 in
theorem bk_R_line_97 {d : Nat} {σ : St} {Q : Option AV → St → Prop} (x1 : Int64) (x3 : Int32) (u4 : AV)
    (h : (x3 = 0 → (x3 = 0 → ((0 : Int32) = 0 ∨ (0 : Int32) = 1) ∧ Q (some (aI (0 : Int32))) σ) ∧ (¬ x3 = 0 → ((gI σ 71 16) = 0 → inb (gI σ 71 8) (gN σ 73) ∧ (inb (gI (pL σ 73 (ix (gI σ 71 8)) x1) 71 8) (gN (pL σ 73 (ix (gI σ 71 8)) x1) 74) ∧ (inb (gI (pI (pL σ 73 (ix (gI σ 71 8)) x1) 74 (ix (gI (pL σ 73 (ix (gI σ 71 8)) x1) 71 8)) (gI (pL σ 73 (ix (gI σ 71 8)) x1) 71 12)) 71 8) (gN (pI (pL σ 73 (ix (gI σ 71 8)) x1) 74 (ix (gI (pL σ 73 (ix (gI σ 71 8)) x1) 71 8)) (gI (pL σ 73 (ix (gI σ 71 8)) x1) 71 12)) 75) ∧ (Wp lay1 rtOf (Cl lay1 d) k_R_line 2 Q (208, [aO 12 71, aJ x1, aZ, aI x3, aI (0 : Int32)], [], (pI (pI (pL σ 73 (ix (gI σ 71 8)) x1) 74 (ix (gI (pL σ 73 (ix (gI σ 71 8)) x1) 71 8)) (gI (pL σ 73 (ix (gI σ 71 8)) x1) 71 12)) 75 (ix (gI (pI (pL σ 73 (ix (gI σ 71 8)) x1) 74 (ix (gI (pL σ 73 (ix (gI σ 71 8)) x1) 71 8)) (gI (pL σ 73 (ix (gI σ 71 8)) x1) 71 12)) 71 8)) (gI (pI (pL σ 73 (ix (gI σ 71 8)) x1) 74 (ix (gI (pL σ 73 (ix (gI σ 71 8)) x1) 71 8)) (gI (pL σ 73 (ix (gI σ 71 8)) x1) 71 12)) 71 17))))))) ∧ (¬ (gI σ 71 16) = 0 → Cl lay1 d M_R_fails [aO 12 71, aI (4 : Int32)] σ (rI fun r2 σ1 => (r2 = 0 ∨ r2 = 1) ∧ Q (some (aI r2)) σ1)))) ∧ (¬ x3 = 0 → Cl lay1 d M_R_isSign [aO 12 71, aI (59 : Int32)] σ (rI fun r4 σ3 => (r4 = 0 → Cl lay1 d M_R_isSign [aO 12 71, aI (41 : Int32)] σ3 (rI fun r6 σ5 => (r6 = 0 → Cl lay1 d M_R_item [aO 12 71] σ5 (rI fun r8 σ7 => Wp lay1 rtOf (Cl lay1 d) k_R_line 2 Q (97, [aO 12 71, aJ x1, aZ, aI r8, u4], [], σ7))) ∧ (¬ r6 = 0 → Cl lay1 d M_R_closes [aO 12 71] σ5 (rI fun r10 σ9 => Wp lay1 rtOf (Cl lay1 d) k_R_line 2 Q (97, [aO 12 71, aJ x1, aZ, aI r10, u4], [], σ9))))) ∧ (¬ r4 = 0 → ((gI σ3 71 23) = 0 → inb (0 : Int32) (gN σ3 84) ∧ (((gI σ3 84 (ix (0 : Int32))) = 0 → Cl lay1 d M_R_isSign [aO 12 71, aI (41 : Int32)] σ3 (rI fun r12 σ11 => (r12 = 0 → Cl lay1 d M_R_item [aO 12 71] σ11 (rI fun r14 σ13 => Wp lay1 rtOf (Cl lay1 d) k_R_line 2 Q (97, [aO 12 71, aJ x1, aZ, aI r14, u4], [], σ13))) ∧ (¬ r12 = 0 → Cl lay1 d M_R_closes [aO 12 71] σ11 (rI fun r16 σ15 => Wp lay1 rtOf (Cl lay1 d) k_R_line 2 Q (97, [aO 12 71, aJ x1, aZ, aI r16, u4], [], σ15))))) ∧ (¬ (gI σ3 84 (ix (0 : Int32))) = 0 → (x3 = 0 → ((0 : Int32) = 0 ∨ (0 : Int32) = 1) ∧ Q (some (aI (0 : Int32))) σ3) ∧ (¬ x3 = 0 → ((gI σ3 71 16) = 0 → inb (gI σ3 71 8) (gN σ3 73) ∧ (inb (gI (pL σ3 73 (ix (gI σ3 71 8)) x1) 71 8) (gN (pL σ3 73 (ix (gI σ3 71 8)) x1) 74) ∧ (inb (gI (pI (pL σ3 73 (ix (gI σ3 71 8)) x1) 74 (ix (gI (pL σ3 73 (ix (gI σ3 71 8)) x1) 71 8)) (gI (pL σ3 73 (ix (gI σ3 71 8)) x1) 71 12)) 71 8) (gN (pI (pL σ3 73 (ix (gI σ3 71 8)) x1) 74 (ix (gI (pL σ3 73 (ix (gI σ3 71 8)) x1) 71 8)) (gI (pL σ3 73 (ix (gI σ3 71 8)) x1) 71 12)) 75) ∧ (Wp lay1 rtOf (Cl lay1 d) k_R_line 2 Q (208, [aO 12 71, aJ x1, aZ, aI x3, aI (0 : Int32)], [], (pI (pI (pL σ3 73 (ix (gI σ3 71 8)) x1) 74 (ix (gI (pL σ3 73 (ix (gI σ3 71 8)) x1) 71 8)) (gI (pL σ3 73 (ix (gI σ3 71 8)) x1) 71 12)) 75 (ix (gI (pI (pL σ3 73 (ix (gI σ3 71 8)) x1) 74 (ix (gI (pL σ3 73 (ix (gI σ3 71 8)) x1) 71 8)) (gI (pL σ3 73 (ix (gI σ3 71 8)) x1) 71 12)) 71 8)) (gI (pI (pL σ3 73 (ix (gI σ3 71 8)) x1) 74 (ix (gI (pL σ3 73 (ix (gI σ3 71 8)) x1) 71 8)) (gI (pL σ3 73 (ix (gI σ3 71 8)) x1) 71 12)) 71 17))))))) ∧ (¬ (gI σ3 71 16) = 0 → Cl lay1 d M_R_fails [aO 12 71, aI (4 : Int32)] σ3 (rI fun r18 σ17 => (r18 = 0 ∨ r18 = 1) ∧ Q (some (aI r18)) σ17)))))) ∧ (¬ (gI σ3 71 23) = 0 → Cl lay1 d M_R_isSign [aO 12 71, aI (41 : Int32)] σ3 (rI fun r20 σ19 => (r20 = 0 → Cl lay1 d M_R_item [aO 12 71] σ19 (rI fun r22 σ21 => Wp lay1 rtOf (Cl lay1 d) k_R_line 2 Q (97, [aO 12 71, aJ x1, aZ, aI r22, u4], [], σ21))) ∧ (¬ r20 = 0 → Cl lay1 d M_R_closes [aO 12 71] σ19 (rI fun r24 σ23 => Wp lay1 rtOf (Cl lay1 d) k_R_line 2 Q (97, [aO 12 71, aJ x1, aZ, aI r24, u4], [], σ23))))))))) : Wp lay1 rtOf (Cl lay1 d) k_R_line 2 Q (97, [aO 12 71, aJ x1, aZ, aI x3, u4], [], σ) :=
  run_intro (Cl_mono lay1 d) [44, 97, 208] 600 h
set_option maxRecDepth 50000 in
theorem bk_R_line_208 {d : Nat} {σ : St} {Q : Option AV → St → Prop} (u1 : AV) (u2 : AV) (u3 : AV) (x4 : Int32)
    (h : ((gI σ 71 17) ≤ x4 → Cl lay1 d M_R_next [aO 12 71] (pI σ 71 8 ((gI σ 71 8) + (1 : Int32))) (rV fun σ1 => ((1 : Int32) = 0 ∨ (1 : Int32) = 1) ∧ Q (some (aI (1 : Int32))) σ1)) ∧ (¬ (gI σ 71 17) ≤ x4 → inb x4 (gN σ 79) ∧ (inb (gI σ 71 12) (gN σ 76) ∧ (inb x4 (gN (pI σ 76 (ix (gI σ 71 12)) (gI σ 79 (ix x4))) 80) ∧ (inb (gI (pI σ 76 (ix (gI σ 71 12)) (gI σ 79 (ix x4))) 71 12) (gN (pI σ 76 (ix (gI σ 71 12)) (gI σ 79 (ix x4))) 77) ∧ (inb x4 (gN (pL (pI σ 76 (ix (gI σ 71 12)) (gI σ 79 (ix x4))) 77 (ix (gI (pI σ 76 (ix (gI σ 71 12)) (gI σ 79 (ix x4))) 71 12)) (gL (pI σ 76 (ix (gI σ 71 12)) (gI σ 79 (ix x4))) 80 (ix x4))) 81) ∧ (inb (gI (pL (pI σ 76 (ix (gI σ 71 12)) (gI σ 79 (ix x4))) 77 (ix (gI (pI σ 76 (ix (gI σ 71 12)) (gI σ 79 (ix x4))) 71 12)) (gL (pI σ 76 (ix (gI σ 71 12)) (gI σ 79 (ix x4))) 80 (ix x4))) 71 12) (gN (pL (pI σ 76 (ix (gI σ 71 12)) (gI σ 79 (ix x4))) 77 (ix (gI (pI σ 76 (ix (gI σ 71 12)) (gI σ 79 (ix x4))) 71 12)) (gL (pI σ 76 (ix (gI σ 71 12)) (gI σ 79 (ix x4))) 80 (ix x4))) 78) ∧ (Wp lay1 rtOf (Cl lay1 d) k_R_line 2 Q (208, [aO 12 71, u1, u2, (unJ u3), aI (x4 + (1 : Int32))], [], (pI (pL (pL (pI σ 76 (ix (gI σ 71 12)) (gI σ 79 (ix x4))) 77 (ix (gI (pI σ 76 (ix (gI σ 71 12)) (gI σ 79 (ix x4))) 71 12)) (gL (pI σ 76 (ix (gI σ 71 12)) (gI σ 79 (ix x4))) 80 (ix x4))) 78 (ix (gI (pL (pI σ 76 (ix (gI σ 71 12)) (gI σ 79 (ix x4))) 77 (ix (gI (pI σ 76 (ix (gI σ 71 12)) (gI σ 79 (ix x4))) 71 12)) (gL (pI σ 76 (ix (gI σ 71 12)) (gI σ 79 (ix x4))) 80 (ix x4))) 71 12)) (gL (pL (pI σ 76 (ix (gI σ 71 12)) (gI σ 79 (ix x4))) 77 (ix (gI (pI σ 76 (ix (gI σ 71 12)) (gI σ 79 (ix x4))) 71 12)) (gL (pI σ 76 (ix (gI σ 71 12)) (gI σ 79 (ix x4))) 80 (ix x4))) 81 (ix x4))) 71 12 ((gI (pL (pL (pI σ 76 (ix (gI σ 71 12)) (gI σ 79 (ix x4))) 77 (ix (gI (pI σ 76 (ix (gI σ 71 12)) (gI σ 79 (ix x4))) 71 12)) (gL (pI σ 76 (ix (gI σ 71 12)) (gI σ 79 (ix x4))) 80 (ix x4))) 78 (ix (gI (pL (pI σ 76 (ix (gI σ 71 12)) (gI σ 79 (ix x4))) 77 (ix (gI (pI σ 76 (ix (gI σ 71 12)) (gI σ 79 (ix x4))) 71 12)) (gL (pI σ 76 (ix (gI σ 71 12)) (gI σ 79 (ix x4))) 80 (ix x4))) 71 12)) (gL (pL (pI σ 76 (ix (gI σ 71 12)) (gI σ 79 (ix x4))) 77 (ix (gI (pI σ 76 (ix (gI σ 71 12)) (gI σ 79 (ix x4))) 71 12)) (gL (pI σ 76 (ix (gI σ 71 12)) (gI σ 79 (ix x4))) 80 (ix x4))) 81 (ix x4))) 71 12) + (1 : Int32)))))))))))) : Wp lay1 rtOf (Cl lay1 d) k_R_line 2 Q (208, [aO 12 71, u1, u2, u3, aI x4], [], σ) :=
  run_intro (Cl_mono lay1 d) [44, 97, 208] 600 h
set_option maxRecDepth 50000 in
theorem bk_R_read_0 {d : Nat} {σ : St} {Q : Option AV → St → Prop} 
    (h : Cl lay1 d M_R_next [aO 12 71] (pI (pI (pI (pI (pI σ 71 2 (0 : Int32)) 71 6 (0 : Int32)) 71 7 (-4 : Int32)) 71 8 (0 : Int32)) 71 12 (0 : Int32)) (rV fun σ1 => ((gI σ1 71 4) = 0 → Cl lay1 d M_R_fails [aO 12 71, aI (2 : Int32)] σ1 (rI fun r3 σ2 => Wp lay1 rtOf (Cl lay1 d) k_R_read 1 Q (43, [aO 12 71, aI r3], [], σ2))) ∧ (¬ (gI σ1 71 4) = 0 → Wp lay1 rtOf (Cl lay1 d) k_R_read 1 Q (43, [aO 12 71, aZ], [], σ1)))) : Cl lay1 (d + 1) M_R_read [aO 12 71] σ Q :=
  run_intro (Cl_mono lay1 d) [43, 111, 163] 600 h
set_option maxRecDepth 50000 in
theorem bk_R_read_43 {d : Nat} {σ : St} {Q : Option AV → St → Prop} (u1 : AV)
    (h : ((gI σ 71 6) = 0 → ((gI σ 71 4) = 0 → ((gI (pI σ 71 1 (0 : Int32)) 71 6) ≤ 0 → Wp lay1 rtOf (Cl lay1 d) k_R_read 1 Q (111, [aO 12 71, aI (0 : Int32)], [], (pI (pI (pI (pI σ 71 1 (0 : Int32)) 71 29 (gI (pI σ 71 1 (0 : Int32)) 71 17)) 71 30 (gI (pI (pI σ 71 1 (0 : Int32)) 71 29 (gI (pI σ 71 1 (0 : Int32)) 71 17)) 71 18)) 71 31 (gI (pI (pI (pI σ 71 1 (0 : Int32)) 71 29 (gI (pI σ 71 1 (0 : Int32)) 71 17)) 71 30 (gI (pI (pI σ 71 1 (0 : Int32)) 71 29 (gI (pI σ 71 1 (0 : Int32)) 71 17)) 71 18)) 71 19)))) ∧ (¬ (gI (pI σ 71 1 (0 : Int32)) 71 6) ≤ 0 → Q (some (aI ((-10 : Int32) - (gI (pI σ 71 1 (0 : Int32)) 71 6)))) (pI σ 71 1 (0 : Int32)))) ∧ (¬ (gI σ 71 4) = 0 → Cl lay1 d M_R_line [aO 12 71] σ (rI fun r2 σ1 => Wp lay1 rtOf (Cl lay1 d) k_R_read 1 Q (43, [aO 12 71, aI r2], [], σ1)))) ∧ (¬ (gI σ 71 6) = 0 → ((gI (pI σ 71 1 (0 : Int32)) 71 6) ≤ 0 → Wp lay1 rtOf (Cl lay1 d) k_R_read 1 Q (111, [aO 12 71, aI (0 : Int32)], [], (pI (pI (pI (pI σ 71 1 (0 : Int32)) 71 29 (gI (pI σ 71 1 (0 : Int32)) 71 17)) 71 30 (gI (pI (pI σ 71 1 (0 : Int32)) 71 29 (gI (pI σ 71 1 (0 : Int32)) 71 17)) 71 18)) 71 31 (gI (pI (pI (pI σ 71 1 (0 : Int32)) 71 29 (gI (pI σ 71 1 (0 : Int32)) 71 17)) 71 30 (gI (pI (pI σ 71 1 (0 : Int32)) 71 29 (gI (pI σ 71 1 (0 : Int32)) 71 17)) 71 18)) 71 19)))) ∧ (¬ (gI (pI σ 71 1 (0 : Int32)) 71 6) ≤ 0 → Q (some (aI ((-10 : Int32) - (gI (pI σ 71 1 (0 : Int32)) 71 6)))) (pI σ 71 1 (0 : Int32))))) : Wp lay1 rtOf (Cl lay1 d) k_R_read 1 Q (43, [aO 12 71, u1], [], σ) :=
  run_intro (Cl_mono lay1 d) [43, 111, 163] 600 h
set_option maxRecDepth 50000 in
theorem bk_R_read_111 {d : Nat} {σ : St} {Q : Option AV → St → Prop} (x1 : Int32)
    (h : ((gI σ 71 17) ≤ x1 → Wp lay1 rtOf (Cl lay1 d) k_R_read 1 Q (163, [aO 12 71, aI (0 : Int32)], [], σ)) ∧ (¬ (gI σ 71 17) ≤ x1 → inb x1 (gN σ 79) ∧ (inb x1 (gN σ 85) ∧ (inb x1 (gN (pI σ 85 (ix x1) (gI σ 79 (ix x1))) 80) ∧ (inb x1 (gN (pI σ 85 (ix x1) (gI σ 79 (ix x1))) 86) ∧ (inb x1 (gN (pL (pI σ 85 (ix x1) (gI σ 79 (ix x1))) 86 (ix x1) (gL (pI σ 85 (ix x1) (gI σ 79 (ix x1))) 80 (ix x1))) 81) ∧ (inb x1 (gN (pL (pI σ 85 (ix x1) (gI σ 79 (ix x1))) 86 (ix x1) (gL (pI σ 85 (ix x1) (gI σ 79 (ix x1))) 80 (ix x1))) 87) ∧ (Wp lay1 rtOf (Cl lay1 d) k_R_read 1 Q (111, [aO 12 71, aI (x1 + (1 : Int32))], [], (pL (pL (pI σ 85 (ix x1) (gI σ 79 (ix x1))) 86 (ix x1) (gL (pI σ 85 (ix x1) (gI σ 79 (ix x1))) 80 (ix x1))) 87 (ix x1) (gL (pL (pI σ 85 (ix x1) (gI σ 79 (ix x1))) 86 (ix x1) (gL (pI σ 85 (ix x1) (gI σ 79 (ix x1))) 80 (ix x1))) 81 (ix x1)))))))))))) : Wp lay1 rtOf (Cl lay1 d) k_R_read 1 Q (111, [aO 12 71, aI x1], [], σ) :=
  run_intro (Cl_mono lay1 d) [43, 111, 163] 600 h
set_option maxRecDepth 50000 in
theorem bk_R_read_163 {d : Nat} {σ : St} {Q : Option AV → St → Prop} (x1 : Int32)
    (h : ((12 : Int32) ≤ x1 → Q (some (aI (gI (pI σ 71 44 (0 : Int32)) 71 29))) (pI σ 71 44 (0 : Int32))) ∧ (¬ (12 : Int32) ≤ x1 → inb x1 (gN σ 88) ∧ (inb x1 (gN (pL σ 88 (ix x1) (0 : Int64)) 89) ∧ (Wp lay1 rtOf (Cl lay1 d) k_R_read 1 Q (163, [aO 12 71, aI (x1 + (1 : Int32))], [], (pL (pL σ 88 (ix x1) (0 : Int64)) 89 (ix x1) (1 : Int64))))))) : Wp lay1 rtOf (Cl lay1 d) k_R_read 1 Q (163, [aO 12 71, aI x1], [], σ) :=
  run_intro (Cl_mono lay1 d) [43, 111, 163] 600 h
set_option maxRecDepth 50000 in
theorem bk_R_place_0 {d : Nat} {σ : St} {Q : Option AV → St → Prop} 
    (h : Q (some (aI (gI σ 71 7))) σ) : Cl lay1 (d + 1) M_R_place [aO 12 71] σ Q :=
  run_intro (Cl_mono lay1 d) [] 600 h
set_option maxRecDepth 50000 in
theorem bk_R_isPart_0 {d : Nat} {σ : St} {Q : Option AV → St → Prop} (x1 : Int32)
    (h : Cl lay1 d M_R_in [aJ x1.toInt64, aJ (0 : Int64), aJ ((gI σ 71 29) - (1 : Int32)).toInt64] σ (rI fun r2 σ1 => (r2 = 0 ∨ r2 = 1) ∧ Q (some (aI r2)) σ1)) : Cl lay1 (d + 1) M_R_isPart [aO 12 71, aI x1] σ Q :=
  run_intro (Cl_mono lay1 d) [] 600 h
set_option maxRecDepth 50000 in
theorem bk_R_ahead_0 {d : Nat} {σ : St} {Q : Option AV → St → Prop} (x1 : Int32) (x2 : Int32)
    (h : Wp lay1 rtOf (Cl lay1 d) k_R_ahead 1 Q (5, [aO 12 71, aI x1, aI x2, aI (0 : Int32), aI (0 : Int32)], [], σ)) : Cl lay1 (d + 1) M_R_ahead [aO 12 71, aI x1, aI x2] σ Q :=
  run_intro (Cl_mono lay1 d) [5] 600 h
set_option maxRecDepth 50000 in
theorem bk_R_ahead_5 {d : Nat} {σ : St} {Q : Option AV → St → Prop} (x1 : Int32) (x2 : Int32) (x3 : Int32) (x4 : Int32)
    (h : (x2 ≤ x4 → Q (some (aI x3)) σ) ∧ (¬ x2 ≤ x4 → inb x4 (gN σ 85) ∧ (((gI σ 85 (ix x4)) = x1 → Wp lay1 rtOf (Cl lay1 d) k_R_ahead 1 Q (5, [aO 12 71, aI x1, aI x2, aI (x3 + (1 : Int32)), aI (x4 + (1 : Int32))], [], σ)) ∧ (¬ (gI σ 85 (ix x4)) = x1 → Wp lay1 rtOf (Cl lay1 d) k_R_ahead 1 Q (5, [aO 12 71, aI x1, aI x2, aI (x3 + (0 : Int32)), aI (x4 + (1 : Int32))], [], σ))))) : Wp lay1 rtOf (Cl lay1 d) k_R_ahead 1 Q (5, [aO 12 71, aI x1, aI x2, aI x3, aI x4], [], σ) :=
  run_intro (Cl_mono lay1 d) [5] 600 h
set_option maxRecDepth 50000 in
theorem bk_R_partOf_0 {d : Nat} {σ : St} {Q : Option AV → St → Prop} (x1 : Int32) (x2 : Int32)
    (h : Wp lay1 rtOf (Cl lay1 d) k_R_partOf 1 Q (5, [aO 12 71, aI x1, aI x2, aI (0 : Int32), aI x2], [], σ)) : Cl lay1 (d + 1) M_R_partOf [aO 12 71, aI x1, aI x2] σ Q :=
  run_intro (Cl_mono lay1 d) [5] 600 h
set_option maxRecDepth 50000 in
theorem bk_R_partOf_5 {d : Nat} {σ : St} {Q : Option AV → St → Prop} (x1 : Int32) (u2 : AV) (x3 : Int32) (x4 : Int32)
    (h : inb x3 (gN σ 85) ∧ (((gI σ 85 (ix x3)) = x1 → (x4 ≤ 0 → Q (some (aI x3)) σ) ∧ (¬ x4 ≤ 0 → inb x3 (gN σ 85) ∧ (((gI σ 85 (ix x3)) = x1 → Wp lay1 rtOf (Cl lay1 d) k_R_partOf 1 Q (5, [aO 12 71, aI x1, (unJ u2), aI (x3 + (1 : Int32)), aI (x4 - (1 : Int32))], [], σ)) ∧ (¬ (gI σ 85 (ix x3)) = x1 → Wp lay1 rtOf (Cl lay1 d) k_R_partOf 1 Q (5, [aO 12 71, aI x1, (unJ u2), aI (x3 + (1 : Int32)), aI (x4 - (0 : Int32))], [], σ))))) ∧ (¬ (gI σ 85 (ix x3)) = x1 → inb x3 (gN σ 85) ∧ (((gI σ 85 (ix x3)) = x1 → Wp lay1 rtOf (Cl lay1 d) k_R_partOf 1 Q (5, [aO 12 71, aI x1, (unJ u2), aI (x3 + (1 : Int32)), aI (x4 - (1 : Int32))], [], σ)) ∧ (¬ (gI σ 85 (ix x3)) = x1 → Wp lay1 rtOf (Cl lay1 d) k_R_partOf 1 Q (5, [aO 12 71, aI x1, (unJ u2), aI (x3 + (1 : Int32)), aI (x4 - (0 : Int32))], [], σ)))))) : Wp lay1 rtOf (Cl lay1 d) k_R_partOf 1 Q (5, [aO 12 71, aI x1, u2, aI x3, aI x4], [], σ) :=
  run_intro (Cl_mono lay1 d) [5] 600 h
set_option maxRecDepth 50000 in
theorem bk_R_part_0 {d : Nat} {σ : St} {Q : Option AV → St → Prop} (x1 : Int32) (x2 : Int32)
    (h : Cl lay1 d M_R_isPart [aO 12 71, aI x1] σ (rI fun r2 σ1 => (r2 = 0 → Q (some (aI (-1 : Int32))) σ1) ∧ (¬ r2 = 0 → Cl lay1 d M_R_in [aJ x2.toInt64, aJ (0 : Int64), aJ (2 : Int64)] σ1 (rI fun r4 σ3 => (r4 = 0 → Q (some (aI (-1 : Int32))) σ3) ∧ (¬ r4 = 0 → (x2 = 0 → inb x1 (gN σ3 85) ∧ (Q (some (aI (gI σ3 85 (ix x1)))) σ3)) ∧ (¬ x2 = 0 → inb x1 (gN σ3 85) ∧ (((gI σ3 85 (ix x1)) = (3 : Int32) → (x2 = (1 : Int32) → Cl lay1 d M_R_ahead [aO 12 71, aI (3 : Int32), aI x1] σ3 (rI fun r6 σ5 => inb r6 (gN σ5 88) ∧ (Q (some (aI (gL σ5 88 (ix r6)).toInt32)) σ5))) ∧ (¬ x2 = (1 : Int32) → Cl lay1 d M_R_ahead [aO 12 71, aI (3 : Int32), aI x1] σ3 (rI fun r8 σ7 => inb r8 (gN σ7 89) ∧ (Q (some (aI (gL σ7 89 (ix r8)).toInt32)) σ7)))) ∧ (¬ (gI σ3 85 (ix x1)) = (3 : Int32) → (x2 = (1 : Int32) → inb x1 (gN σ3 86) ∧ (Q (some (aI (gL σ3 86 (ix x1)).toInt32)) σ3)) ∧ (¬ x2 = (1 : Int32) → inb x1 (gN σ3 87) ∧ (Q (some (aI (gL σ3 87 (ix x1)).toInt32)) σ3)))))))))) : Cl lay1 (d + 1) M_R_part [aO 12 71, aI x1, aI x2] σ Q :=
  run_intro (Cl_mono lay1 d) [] 600 h
set_option maxRecDepth 50000 in
theorem bk_R_kick_0 {d : Nat} {σ : St} {Q : Option AV → St → Prop} (x1 : Int32) (x2 : Int32) (x3 : Int32)
    (h : Cl lay1 d M_R_in [aJ x1.toInt64, aJ (0 : Int64), aJ ((gI σ 71 30) - (1 : Int32)).toInt64] σ (rI fun r2 σ1 => (r2 = 0 → Q (some (aI (-1 : Int32))) σ1) ∧ (¬ r2 = 0 → Cl lay1 d M_R_in [aJ x2.toInt64, aJ (-10000 : Int64), aJ (10000 : Int64)] σ1 (rI fun r4 σ3 => (r4 = 0 → Q (some (aI (-1 : Int32))) σ3) ∧ (¬ r4 = 0 → Cl lay1 d M_R_in [aJ x3.toInt64, aJ (1 : Int64), aJ (10000 : Int64)] σ3 (rI fun r6 σ5 => (r6 = 0 → Q (some (aI (-1 : Int32))) σ5) ∧ (¬ r6 = 0 → Cl lay1 d M_R_common [aJ x2.toInt64, aJ x3.toInt64] σ5 (rJ fun r8 σ7 => ¬ r8 = 0 ∧ (inb x1 (gN σ7 88) ∧ (¬ r8 = 0 ∧ (inb x1 (gN (pL σ7 88 (ix x1) (x2.toInt64 / r8)) 89) ∧ (Q (some (aI (0 : Int32))) (pL (pL σ7 88 (ix x1) (x2.toInt64 / r8)) 89 (ix x1) (x3.toInt64 / r8)))))))))))))) : Cl lay1 (d + 1) M_R_kick [aO 12 71, aI x1, aI x2, aI x3] σ Q :=
  run_intro (Cl_mono lay1 d) [] 600 h
set_option maxRecDepth 50000 in
theorem bk_R_common_0 {d : Nat} {σ : St} {Q : Option AV → St → Prop} (x0 : Int64) (x2 : Int64)
    (h : (0 ≤ (lg_cmp x0 (0 : Int64)) → Wp lay1 rtOf (Cl lay1 d) k_R_common 3 Q (17, [aJ x0, aZ, aJ x2, aZ, aJ x0, aZ, aJ x2, aZ, aZ, aZ], [], σ)) ∧ (¬ 0 ≤ (lg_cmp x0 (0 : Int64)) → Wp lay1 rtOf (Cl lay1 d) k_R_common 3 Q (17, [aJ x0, aZ, aJ x2, aZ, aJ (-x0), aZ, aJ x2, aZ, aZ, aZ], [], σ))) : Cl lay1 (d + 1) M_R_common [aJ x0, aJ x2] σ Q :=
  run_intro (Cl_mono lay1 d) [17] 600 h
set_option maxRecDepth 50000 in
theorem bk_R_common_17 {d : Nat} {σ : St} {Q : Option AV → St → Prop} (u0 : AV) (u1 : AV) (u2 : AV) (u3 : AV) (x4 : Int64) (x6 : Int64) (u8 : AV) (u9 : AV)
    (h : ((lg_cmp x6 (0 : Int64)) = 0 → Q (some (aJ x4)) σ) ∧ (¬ (lg_cmp x6 (0 : Int64)) = 0 → ¬ x6 = 0 ∧ (Wp lay1 rtOf (Cl lay1 d) k_R_common 3 Q (17, [u0, u1, u2, (unJ u3), aJ x6, aZ, aJ (x4 - x4 / x6 * x6), aZ, aJ (x4 - x4 / x6 * x6), aZ], [], σ)))) : Wp lay1 rtOf (Cl lay1 d) k_R_common 3 Q (17, [u0, u1, u2, u3, aJ x4, aZ, aJ x6, aZ, u8, u9], [], σ) :=
  run_intro (Cl_mono lay1 d) [17] 600 h
set_option maxRecDepth 50000 in
theorem bk_R_holds_0 {d : Nat} {σ : St} {Q : Option AV → St → Prop} (x1 : Int64) (x3 : Int64)
    (h : Cl lay1 d M_R_common [aJ x1, aJ x3] σ (rJ fun r2 σ1 => ¬ r2 = 0 ∧ (¬ r2 = 0 ∧ (Cl lay1 d M_R_in [aJ (gL (pL (pL σ1 71 37 (x1 / r2)) 71 38 (x3 / r2)) 71 37), aJ (-1000000000 : Int64), aJ (1000000000 : Int64)] (pL (pL σ1 71 37 (x1 / r2)) 71 38 (x3 / r2)) (rI fun r4 σ3 => (r4 = 0 → ((1 : Int32) = 0 ∨ (1 : Int32) = 1) ∧ (Q none (pL (pL (pI σ3 71 39 (1 : Int32)) 71 37 (0 : Int64)) 71 38 (1 : Int64)))) ∧ (¬ r4 = 0 → ((lg_cmp (gL σ3 71 38) (1000000000 : Int64)) ≤ 0 → Q none σ3) ∧ (¬ (lg_cmp (gL σ3 71 38) (1000000000 : Int64)) ≤ 0 → ((1 : Int32) = 0 ∨ (1 : Int32) = 1) ∧ (Q none (pL (pL (pI σ3 71 39 (1 : Int32)) 71 37 (0 : Int64)) 71 38 (1 : Int64)))))))))) : Cl lay1 (d + 1) M_R_holds [aO 12 71, aJ x1, aJ x3] σ Q :=
  run_intro (Cl_mono lay1 d) [] 600 h
set_option maxRecDepth 50000 in
theorem bk_R_product_0 {d : Nat} {σ : St} {Q : Option AV → St → Prop} (x1 : Int64) (x3 : Int64) (x5 : Int64) (x7 : Int64)
    (h : Cl lay1 d M_R_holds [aO 12 71, aJ (x1 * x5), aJ (x3 * x7)] σ (rV fun σ1 => Q none σ1)) : Cl lay1 (d + 1) M_R_product [aO 12 71, aJ x1, aJ x3, aJ x5, aJ x7] σ Q :=
  run_intro (Cl_mono lay1 d) [] 600 h
set_option maxRecDepth 50000 in
theorem bk_R_sum_0 {d : Nat} {σ : St} {Q : Option AV → St → Prop} (x1 : Int64) (x3 : Int64) (x5 : Int64) (x7 : Int64)
    (h : Cl lay1 d M_R_holds [aO 12 71, aJ ((x1 * x7) + (x5 * x3)), aJ (x3 * x7)] σ (rV fun σ1 => Q none σ1)) : Cl lay1 (d + 1) M_R_sum [aO 12 71, aJ x1, aJ x3, aJ x5, aJ x7] σ Q :=
  run_intro (Cl_mono lay1 d) [] 600 h
set_option maxRecDepth 50000 in
theorem bk_R_divided_0 {d : Nat} {σ : St} {Q : Option AV → St → Prop} (x1 : Int64) (x3 : Int64) (x5 : Int64) (x7 : Int64)
    (h : (0 ≤ (lg_cmp x5 (0 : Int64)) → Cl lay1 d M_R_product [aO 12 71, aJ x1, aJ x3, aJ x7, aJ x5] σ (rV fun σ1 => Q none σ1)) ∧ (¬ 0 ≤ (lg_cmp x5 (0 : Int64)) → Cl lay1 d M_R_product [aO 12 71, aJ x1, aJ x3, aJ (-x7), aJ (-x5)] σ (rV fun σ2 => Q none σ2))) : Cl lay1 (d + 1) M_R_divided [aO 12 71, aJ x1, aJ x3, aJ x5, aJ x7] σ Q :=
  run_intro (Cl_mono lay1 d) [] 600 h
set_option maxRecDepth 50000 in
theorem bk_R_lays_0 {d : Nat} {σ : St} {Q : Option AV → St → Prop} (x1 : Int32) (x2 : Int64) (x4 : Int64)
    (h : inb x1 (gN σ 90) ∧ (inb x1 (gN (pL σ 90 (ix x1) x2) 91) ∧ (Q none (pL (pL σ 90 (ix x1) x2) 91 (ix x1) x4)))) : Cl lay1 (d + 1) M_R_lays [aO 12 71, aI x1, aJ x2, aJ x4] σ Q :=
  run_intro (Cl_mono lay1 d) [] 600 h
set_option maxRecDepth 50000 in
theorem bk_R_leads_0 {d : Nat} {σ : St} {Q : Option AV → St → Prop} (x1 : Int32) (x2 : Int64) (x4 : Int64) (x6 : Int32)
    (h : inb x6 (gN σ 90) ∧ (inb x6 (gN σ 91) ∧ (Cl lay1 d M_R_product [aO 12 71, aJ x2, aJ x4, aJ (gL σ 90 (ix x6)), aJ (gL σ 91 (ix x6))] σ (rV fun σ1 => inb x1 (gN σ1 90) ∧ (inb x1 (gN σ1 91) ∧ (Cl lay1 d M_R_sum [aO 12 71, aJ (gL σ1 90 (ix x1)), aJ (gL σ1 91 (ix x1)), aJ (gL σ1 71 37), aJ (gL σ1 71 38)] σ1 (rV fun σ2 => Cl lay1 d M_R_lays [aO 12 71, aI x1, aJ (gL σ2 71 37), aJ (gL σ2 71 38)] σ2 (rV fun σ3 => Q none σ3)))))))) : Cl lay1 (d + 1) M_R_leads [aO 12 71, aI x1, aJ x2, aJ x4, aI x6] σ Q :=
  run_intro (Cl_mono lay1 d) [] 600 h
set_option maxRecDepth 50000 in
theorem bk_R_leadsTable_0 {d : Nat} {σ : St} {Q : Option AV → St → Prop} (x1 : Int32)
    (h : inb x1 (gN σ 85) ∧ (((gI σ 85 (ix x1)) = 0 → inb x1 (gN σ 86) ∧ (inb x1 (gN σ 87) ∧ (Cl lay1 d M_R_leads [aO 12 71, aI (0 : Int32), aJ (gL σ 86 (ix x1)), aJ (gL σ 87 (ix x1)), aI (2 : Int32)] σ (rV fun σ1 => inb x1 (gN σ1 86) ∧ (inb x1 (gN σ1 87) ∧ (Cl lay1 d M_R_leads [aO 12 71, aI (1 : Int32), aJ (gL σ1 86 (ix x1)), aJ (gL σ1 87 (ix x1)), aI (3 : Int32)] σ1 (rV fun σ2 => Q none σ2))))))) ∧ (¬ (gI σ 85 (ix x1)) = 0 → inb x1 (gN σ 85) ∧ (((gI σ 85 (ix x1)) = (1 : Int32) → inb x1 (gN σ 86) ∧ (inb x1 (gN σ 87) ∧ (Cl lay1 d M_R_leads [aO 12 71, aI (2 : Int32), aJ (-(gL σ 86 (ix x1))), aJ (gL σ 87 (ix x1)), aI (0 : Int32)] σ (rV fun σ3 => inb x1 (gN σ3 86) ∧ (inb x1 (gN σ3 87) ∧ (Cl lay1 d M_R_leads [aO 12 71, aI (3 : Int32), aJ (-(gL σ3 86 (ix x1))), aJ (gL σ3 87 (ix x1)), aI (1 : Int32)] σ3 (rV fun σ4 => Q none σ4))))))) ∧ (¬ (gI σ 85 (ix x1)) = (1 : Int32) → Q none σ))))) : Cl lay1 (d + 1) M_R_leadsTable [aO 12 71, aI x1] σ Q :=
  run_intro (Cl_mono lay1 d) [] 600 h
set_option maxRecDepth 50000 in
theorem bk_R_leadsMote_0 {d : Nat} {σ : St} {Q : Option AV → St → Prop} (x1 : Int32) (x2 : Int32) (x3 : Int32)
    (h : inb x1 (gN σ 85) ∧ (((gI σ 85 (ix x1)) = 0 → inb x1 (gN σ 86) ∧ (inb x1 (gN σ 87) ∧ (Cl lay1 d M_R_leads [aO 12 71, aI x2, aJ (gL σ 86 (ix x1)), aJ (gL σ 87 (ix x1)), aI (x2 + (1 : Int32))] σ (rV fun σ1 => Q none σ1)))) ∧ (¬ (gI σ 85 (ix x1)) = 0 → inb x1 (gN σ 85) ∧ (((gI σ 85 (ix x1)) = (1 : Int32) → inb x1 (gN σ 86) ∧ (inb x1 (gN σ 87) ∧ (Cl lay1 d M_R_leads [aO 12 71, aI (x2 + (1 : Int32)), aJ (-(gL σ 86 (ix x1))), aJ (gL σ 87 (ix x1)), aI x2] σ (rV fun σ2 => Q none σ2)))) ∧ (¬ (gI σ 85 (ix x1)) = (1 : Int32) → inb x1 (gN σ 85) ∧ (((gI σ 85 (ix x1)) = (3 : Int32) → Cl lay1 d M_R_ahead [aO 12 71, aI (3 : Int32), aI x1] σ (rI fun r4 σ3 => (0 ≤ x3 → (x3 = r4 → (0 ≤ x3 → inb (x2 + (1 : Int32)) (gN σ3 90) ∧ (inb (x2 + (1 : Int32)) (gN σ3 91) ∧ (Cl lay1 d M_R_sum [aO 12 71, aJ (gL σ3 90 (ix (x2 + (1 : Int32)))), aJ (gL σ3 91 (ix (x2 + (1 : Int32)))), aJ (1 : Int64), aJ (1 : Int64)] σ3 (rV fun σ5 => Cl lay1 d M_R_lays [aO 12 71, aI (x2 + (1 : Int32)), aJ (gL σ5 71 37), aJ (gL σ5 71 38)] σ5 (rV fun σ6 => Q none σ6))))) ∧ (¬ 0 ≤ x3 → inb r4 (gN σ3 89) ∧ (inb (x2 + (1 : Int32)) (gN σ3 90) ∧ (inb (x2 + (1 : Int32)) (gN σ3 91) ∧ (Cl lay1 d M_R_sum [aO 12 71, aJ (gL σ3 90 (ix (x2 + (1 : Int32)))), aJ (gL σ3 91 (ix (x2 + (1 : Int32)))), aJ (1 : Int64), aJ (gL σ3 89 (ix r4))] σ3 (rV fun σ7 => Cl lay1 d M_R_lays [aO 12 71, aI (x2 + (1 : Int32)), aJ (gL σ7 71 37), aJ (gL σ7 71 38)] σ7 (rV fun σ8 => Q none σ8))))))) ∧ (¬ x3 = r4 → (0 ≤ x3 → inb (x2 + (1 : Int32)) (gN σ3 90) ∧ (inb (x2 + (1 : Int32)) (gN σ3 91) ∧ (Cl lay1 d M_R_sum [aO 12 71, aJ (gL σ3 90 (ix (x2 + (1 : Int32)))), aJ (gL σ3 91 (ix (x2 + (1 : Int32)))), aJ (0 : Int64), aJ (1 : Int64)] σ3 (rV fun σ9 => Cl lay1 d M_R_lays [aO 12 71, aI (x2 + (1 : Int32)), aJ (gL σ9 71 37), aJ (gL σ9 71 38)] σ9 (rV fun σ10 => Q none σ10))))) ∧ (¬ 0 ≤ x3 → inb r4 (gN σ3 89) ∧ (inb (x2 + (1 : Int32)) (gN σ3 90) ∧ (inb (x2 + (1 : Int32)) (gN σ3 91) ∧ (Cl lay1 d M_R_sum [aO 12 71, aJ (gL σ3 90 (ix (x2 + (1 : Int32)))), aJ (gL σ3 91 (ix (x2 + (1 : Int32)))), aJ (0 : Int64), aJ (gL σ3 89 (ix r4))] σ3 (rV fun σ11 => Cl lay1 d M_R_lays [aO 12 71, aI (x2 + (1 : Int32)), aJ (gL σ11 71 37), aJ (gL σ11 71 38)] σ11 (rV fun σ12 => Q none σ12)))))))) ∧ (¬ 0 ≤ x3 → inb r4 (gN σ3 88) ∧ ((0 ≤ x3 → inb (x2 + (1 : Int32)) (gN σ3 90) ∧ (inb (x2 + (1 : Int32)) (gN σ3 91) ∧ (Cl lay1 d M_R_sum [aO 12 71, aJ (gL σ3 90 (ix (x2 + (1 : Int32)))), aJ (gL σ3 91 (ix (x2 + (1 : Int32)))), aJ (gL σ3 88 (ix r4)), aJ (1 : Int64)] σ3 (rV fun σ13 => Cl lay1 d M_R_lays [aO 12 71, aI (x2 + (1 : Int32)), aJ (gL σ13 71 37), aJ (gL σ13 71 38)] σ13 (rV fun σ14 => Q none σ14))))) ∧ (¬ 0 ≤ x3 → inb r4 (gN σ3 89) ∧ (inb (x2 + (1 : Int32)) (gN σ3 90) ∧ (inb (x2 + (1 : Int32)) (gN σ3 91) ∧ (Cl lay1 d M_R_sum [aO 12 71, aJ (gL σ3 90 (ix (x2 + (1 : Int32)))), aJ (gL σ3 91 (ix (x2 + (1 : Int32)))), aJ (gL σ3 88 (ix r4)), aJ (gL σ3 89 (ix r4))] σ3 (rV fun σ15 => Cl lay1 d M_R_lays [aO 12 71, aI (x2 + (1 : Int32)), aJ (gL σ15 71 37), aJ (gL σ15 71 38)] σ15 (rV fun σ16 => Q none σ16)))))))))) ∧ (¬ (gI σ 85 (ix x1)) = (3 : Int32) → Q none σ))))))) : Cl lay1 (d + 1) M_R_leadsMote [aO 12 71, aI x1, aI x2, aI x3] σ Q :=
  run_intro (Cl_mono lay1 d) [] 600 h
set_option maxRecDepth 50000 in
theorem bk_R_starts_0 {d : Nat} {σ : St} {Q : Option AV → St → Prop} 
    (h : ((0 : Int32) = 0 ∨ (0 : Int32) = 1) ∧ (Wp lay1 rtOf (Cl lay1 d) k_R_starts 0 Q (7, [aO 12 71, aI (0 : Int32)], [], (pI σ 71 39 (0 : Int32))))) : Cl lay1 (d + 1) M_R_starts [aO 12 71] σ Q :=
  run_intro (Cl_mono lay1 d) [7] 600 h
set_option maxRecDepth 50000 in
theorem bk_R_starts_7 {d : Nat} {σ : St} {Q : Option AV → St → Prop} (x1 : Int32)
    (h : ((8 : Int32) ≤ x1 → Q none σ) ∧ (¬ (8 : Int32) ≤ x1 → (x1 = 0 → Cl lay1 d M_R_lays [aO 12 71, aI x1, aJ (1 : Int64), aJ (1 : Int64)] σ (rV fun σ1 => Wp lay1 rtOf (Cl lay1 d) k_R_starts 0 Q (7, [aO 12 71, aI (x1 + (1 : Int32))], [], σ1))) ∧ (¬ x1 = 0 → (x1 = (3 : Int32) → Cl lay1 d M_R_lays [aO 12 71, aI x1, aJ (1 : Int64), aJ (1 : Int64)] σ (rV fun σ2 => Wp lay1 rtOf (Cl lay1 d) k_R_starts 0 Q (7, [aO 12 71, aI (x1 + (1 : Int32))], [], σ2))) ∧ (¬ x1 = (3 : Int32) → Cl lay1 d M_R_lays [aO 12 71, aI x1, aJ (0 : Int64), aJ (1 : Int64)] σ (rV fun σ3 => Wp lay1 rtOf (Cl lay1 d) k_R_starts 0 Q (7, [aO 12 71, aI (x1 + (1 : Int32))], [], σ3)))))) : Wp lay1 rtOf (Cl lay1 d) k_R_starts 0 Q (7, [aO 12 71, aI x1], [], σ) :=
  run_intro (Cl_mono lay1 d) [7] 600 h
set_option maxRecDepth 50000 in
theorem bk_R_goes_0 {d : Nat} {σ : St} {Q : Option AV → St → Prop} (x1 : Int32) (x2 : Int32)
    (h : Cl lay1 d M_R_starts [aO 12 71] σ (rV fun σ1 => Wp lay1 rtOf (Cl lay1 d) k_R_goes 0 Q (6, [aO 12 71, aI x1, aI x2, aI (0 : Int32)], [], σ1))) : Cl lay1 (d + 1) M_R_goes [aO 12 71, aI x1, aI x2] σ Q :=
  run_intro (Cl_mono lay1 d) [6] 600 h
set_option maxRecDepth 50000 in
theorem bk_R_goes_6 {d : Nat} {σ : St} {Q : Option AV → St → Prop} (x1 : Int32) (x2 : Int32) (x3 : Int32)
    (h : (x2 ≤ x3 → Q none σ) ∧ (¬ x2 ≤ x3 → ((gI σ 71 39) = 0 → ¬ (gI σ 71 29) = 0 ∧ (Cl lay1 d M_R_leadsTable [aO 12 71, aI ((x1 + x3) - (x1 + x3) / (gI σ 71 29) * (gI σ 71 29))] σ (rV fun σ1 => Wp lay1 rtOf (Cl lay1 d) k_R_goes 0 Q (6, [aO 12 71, aI x1, aI x2, aI (x3 + (1 : Int32))], [], σ1)))) ∧ (¬ (gI σ 71 39) = 0 → Q none σ))) : Wp lay1 rtOf (Cl lay1 d) k_R_goes 0 Q (6, [aO 12 71, aI x1, aI x2, aI x3], [], σ) :=
  run_intro (Cl_mono lay1 d) [6] 600 h
set_option maxRecDepth 50000 in
theorem bk_R_tells_0 {d : Nat} {σ : St} {Q : Option AV → St → Prop} (x1 : Int32) (x2 : Int64) (x4 : Int64)
    (h : inb ((2 : Int32) * x1) (gN σ 92) ∧ (inb (((2 : Int32) * x1) + (1 : Int32)) (gN (pL σ 92 (ix ((2 : Int32) * x1)) x2) 92) ∧ (Q none (pL (pL σ 92 (ix ((2 : Int32) * x1)) x2) 92 (ix (((2 : Int32) * x1) + (1 : Int32))) x4)))) : Cl lay1 (d + 1) M_R_tells [aO 12 71, aI x1, aJ x2, aJ x4] σ Q :=
  run_intro (Cl_mono lay1 d) [] 600 h
set_option maxRecDepth 50000 in
theorem bk_R_table_0 {d : Nat} {σ : St} {Q : Option AV → St → Prop} (x1 : Int32) (x2 : Int32)
    (h : Cl lay1 d M_R_isPart [aO 12 71, aI x1] σ (rI fun r2 σ1 => (r2 = 0 → Q (some (aI (-1 : Int32))) σ1) ∧ (¬ r2 = 0 → Cl lay1 d M_R_in [aJ x2.toInt64, aJ (0 : Int64), aJ (200 : Int64)] σ1 (rI fun r4 σ3 => (r4 = 0 → Q (some (aI (-1 : Int32))) σ3) ∧ (¬ r4 = 0 → Cl lay1 d M_R_goes [aO 12 71, aI x1, aI x2] σ3 (rV fun σ5 => ((gI σ5 71 39) = 0 → Cl lay1 d M_R_tables [aO 12 71] σ5 (rI fun r7 σ6 => Q (some (aI r7)) σ6)) ∧ (¬ (gI σ5 71 39) = 0 → Q (some (aI (-5 : Int32))) σ5))))))) : Cl lay1 (d + 1) M_R_table [aO 12 71, aI x1, aI x2] σ Q :=
  run_intro (Cl_mono lay1 d) [] 600 h
set_option maxRecDepth 50000 in
theorem bk_R_tables_0 {d : Nat} {σ : St} {Q : Option AV → St → Prop} 
    (h : Wp lay1 rtOf (Cl lay1 d) k_R_tables 1 Q (2, [aO 12 71, aI (0 : Int32)], [], σ)) : Cl lay1 (d + 1) M_R_tables [aO 12 71] σ Q :=
  run_intro (Cl_mono lay1 d) [2] 600 h
set_option maxRecDepth 50000 in
theorem bk_R_tables_2 {d : Nat} {σ : St} {Q : Option AV → St → Prop} (x1 : Int32)
    (h : ((4 : Int32) ≤ x1 → Q (some (aI (4 : Int32))) (pI σ 71 42 (4 : Int32))) ∧ (¬ (4 : Int32) ≤ x1 → inb x1 (gN σ 90) ∧ (inb x1 (gN σ 91) ∧ (Cl lay1 d M_R_tells [aO 12 71, aI x1, aJ (gL σ 90 (ix x1)), aJ (gL σ 91 (ix x1))] σ (rV fun σ1 => Wp lay1 rtOf (Cl lay1 d) k_R_tables 1 Q (2, [aO 12 71, aI (x1 + (1 : Int32))], [], σ1)))))) : Wp lay1 rtOf (Cl lay1 d) k_R_tables 1 Q (2, [aO 12 71, aI x1], [], σ) :=
  run_intro (Cl_mono lay1 d) [2] 600 h
set_option maxRecDepth 50000 in
theorem bk_R_kept_0 {d : Nat} {σ : St} {Q : Option AV → St → Prop} 
    (h : (0 ≤ (lg_cmp (gL σ 71 37) (0 : Int64)) → (0 ≤ (lg_cmp (gL σ 71 37) ((2 : Int64) * (gL σ 71 38))) → ((lg_cmp (gL σ 71 37) ((2 : Int64) * (gL σ 71 38))) = 0 → Q (some (aI (1 : Int32))) σ) ∧ (¬ (lg_cmp (gL σ 71 37) ((2 : Int64) * (gL σ 71 38))) = 0 → Q (some (aI (0 : Int32))) σ)) ∧ (¬ 0 ≤ (lg_cmp (gL σ 71 37) ((2 : Int64) * (gL σ 71 38))) → Q (some (aI (2 : Int32))) σ)) ∧ (¬ 0 ≤ (lg_cmp (gL σ 71 37) (0 : Int64)) → (0 ≤ (lg_cmp (-(gL σ 71 37)) ((2 : Int64) * (gL σ 71 38))) → ((lg_cmp (-(gL σ 71 37)) ((2 : Int64) * (gL σ 71 38))) = 0 → Q (some (aI (1 : Int32))) σ) ∧ (¬ (lg_cmp (-(gL σ 71 37)) ((2 : Int64) * (gL σ 71 38))) = 0 → Q (some (aI (0 : Int32))) σ)) ∧ (¬ 0 ≤ (lg_cmp (-(gL σ 71 37)) ((2 : Int64) * (gL σ 71 38))) → Q (some (aI (2 : Int32))) σ))) : Cl lay1 (d + 1) M_R_kept [aO 12 71] σ Q :=
  run_intro (Cl_mono lay1 d) [] 600 h
set_option maxRecDepth 50000 in
theorem bk_R_round_0 {d : Nat} {σ : St} {Q : Option AV → St → Prop} (x1 : Int32)
    (h : Cl lay1 d M_R_isPart [aO 12 71, aI x1] σ (rI fun r2 σ1 => (r2 = 0 → Q (some (aI (-1 : Int32))) σ1) ∧ (¬ r2 = 0 → Cl lay1 d M_R_goes [aO 12 71, aI x1, aI (gI σ1 71 29)] σ1 (rV fun σ3 => ((gI σ3 71 39) = 0 → inb (0 : Int32) (gN σ3 90) ∧ (inb (0 : Int32) (gN σ3 91) ∧ (inb (3 : Int32) (gN σ3 90) ∧ (inb (3 : Int32) (gN σ3 91) ∧ (Cl lay1 d M_R_sum [aO 12 71, aJ (gL σ3 90 (ix (0 : Int32))), aJ (gL σ3 91 (ix (0 : Int32))), aJ (gL σ3 90 (ix (3 : Int32))), aJ (gL σ3 91 (ix (3 : Int32)))] σ3 (rV fun σ4 => ((gI σ4 71 39) = 0 → Cl lay1 d M_R_kept [aO 12 71] σ4 (rI fun r6 σ5 => Cl lay1 d M_R_tables [aO 12 71] σ5 (rI fun r8 σ7 => Q (some (aI r6)) σ7))) ∧ (¬ (gI σ4 71 39) = 0 → Q (some (aI (-5 : Int32))) σ4))))))) ∧ (¬ (gI σ3 71 39) = 0 → ((gI σ3 71 39) = 0 → Cl lay1 d M_R_kept [aO 12 71] σ3 (rI fun r10 σ9 => Cl lay1 d M_R_tables [aO 12 71] σ9 (rI fun r12 σ11 => Q (some (aI r10)) σ11))) ∧ (¬ (gI σ3 71 39) = 0 → Q (some (aI (-5 : Int32))) σ3)))))) : Cl lay1 (d + 1) M_R_round [aO 12 71, aI x1] σ Q :=
  run_intro (Cl_mono lay1 d) [] 600 h
set_option maxRecDepth 50000 in
theorem bk_R_widths_0 {d : Nat} {σ : St} {Q : Option AV → St → Prop} (x1 : Int32)
    (h : Cl lay1 d M_R_isPart [aO 12 71, aI x1] σ (rI fun r2 σ1 => (r2 = 0 → Q (some (aI (-1 : Int32))) σ1) ∧ (¬ r2 = 0 → Cl lay1 d M_R_goes [aO 12 71, aI x1, aI (gI σ1 71 29)] σ1 (rV fun σ3 => ((gI σ3 71 39) = 0 → inb (0 : Int32) (gN σ3 90) ∧ (inb (0 : Int32) (gN σ3 91) ∧ (inb (3 : Int32) (gN σ3 90) ∧ (inb (3 : Int32) (gN σ3 91) ∧ (Cl lay1 d M_R_sum [aO 12 71, aJ (gL σ3 90 (ix (0 : Int32))), aJ (gL σ3 91 (ix (0 : Int32))), aJ (gL σ3 90 (ix (3 : Int32))), aJ (gL σ3 91 (ix (3 : Int32)))] σ3 (rV fun σ4 => ((gI σ4 71 39) = 0 → Cl lay1 d M_R_kept [aO 12 71] σ4 (rI fun r6 σ5 => ((2 : Int32) ≤ r6 → inb (0 : Int32) (gN σ5 90) ∧ (inb (0 : Int32) (gN σ5 91) ∧ (inb (3 : Int32) (gN σ5 90) ∧ (inb (3 : Int32) (gN σ5 91) ∧ (Cl lay1 d M_R_sum [aO 12 71, aJ (gL σ5 90 (ix (0 : Int32))), aJ (gL σ5 91 (ix (0 : Int32))), aJ (-(gL σ5 90 (ix (3 : Int32)))), aJ (gL σ5 91 (ix (3 : Int32)))] σ5 (rV fun σ7 => Cl lay1 d M_R_product [aO 12 71, aJ (gL σ7 71 37), aJ (gL σ7 71 38), aJ (1 : Int64), aJ (2 : Int64)] σ7 (rV fun σ8 => ((gI σ8 71 39) = 0 → inb (1 : Int32) (gN σ8 90) ∧ (inb (1 : Int32) (gN σ8 91) ∧ (Cl lay1 d M_R_tells [aO 12 71, aI (0 : Int32), aJ (gL σ8 90 (ix (1 : Int32))), aJ (gL σ8 91 (ix (1 : Int32)))] σ8 (rV fun σ9 => Cl lay1 d M_R_tells [aO 12 71, aI (1 : Int32), aJ (gL σ9 71 37), aJ (gL σ9 71 38)] σ9 (rV fun σ10 => inb (2 : Int32) (gN σ10 90) ∧ (inb (2 : Int32) (gN σ10 91) ∧ (Cl lay1 d M_R_tells [aO 12 71, aI (2 : Int32), aJ (-(gL σ10 90 (ix (2 : Int32)))), aJ (gL σ10 91 (ix (2 : Int32)))] σ10 (rV fun σ11 => Q (some (aI (3 : Int32))) (pI σ11 71 42 (3 : Int32)))))))))) ∧ (¬ (gI σ8 71 39) = 0 → Q (some (aI (-5 : Int32))) σ8)))))))) ∧ (¬ (2 : Int32) ≤ r6 → Q (some (aI (-2 : Int32))) σ5))) ∧ (¬ (gI σ4 71 39) = 0 → Q (some (aI (-5 : Int32))) σ4))))))) ∧ (¬ (gI σ3 71 39) = 0 → ((gI σ3 71 39) = 0 → Cl lay1 d M_R_kept [aO 12 71] σ3 (rI fun r13 σ12 => ((2 : Int32) ≤ r13 → inb (0 : Int32) (gN σ12 90) ∧ (inb (0 : Int32) (gN σ12 91) ∧ (inb (3 : Int32) (gN σ12 90) ∧ (inb (3 : Int32) (gN σ12 91) ∧ (Cl lay1 d M_R_sum [aO 12 71, aJ (gL σ12 90 (ix (0 : Int32))), aJ (gL σ12 91 (ix (0 : Int32))), aJ (-(gL σ12 90 (ix (3 : Int32)))), aJ (gL σ12 91 (ix (3 : Int32)))] σ12 (rV fun σ14 => Cl lay1 d M_R_product [aO 12 71, aJ (gL σ14 71 37), aJ (gL σ14 71 38), aJ (1 : Int64), aJ (2 : Int64)] σ14 (rV fun σ15 => ((gI σ15 71 39) = 0 → inb (1 : Int32) (gN σ15 90) ∧ (inb (1 : Int32) (gN σ15 91) ∧ (Cl lay1 d M_R_tells [aO 12 71, aI (0 : Int32), aJ (gL σ15 90 (ix (1 : Int32))), aJ (gL σ15 91 (ix (1 : Int32)))] σ15 (rV fun σ16 => Cl lay1 d M_R_tells [aO 12 71, aI (1 : Int32), aJ (gL σ16 71 37), aJ (gL σ16 71 38)] σ16 (rV fun σ17 => inb (2 : Int32) (gN σ17 90) ∧ (inb (2 : Int32) (gN σ17 91) ∧ (Cl lay1 d M_R_tells [aO 12 71, aI (2 : Int32), aJ (-(gL σ17 90 (ix (2 : Int32)))), aJ (gL σ17 91 (ix (2 : Int32)))] σ17 (rV fun σ18 => Q (some (aI (3 : Int32))) (pI σ18 71 42 (3 : Int32)))))))))) ∧ (¬ (gI σ15 71 39) = 0 → Q (some (aI (-5 : Int32))) σ15)))))))) ∧ (¬ (2 : Int32) ≤ r13 → Q (some (aI (-2 : Int32))) σ12))) ∧ (¬ (gI σ3 71 39) = 0 → Q (some (aI (-5 : Int32))) σ3)))))) : Cl lay1 (d + 1) M_R_widths [aO 12 71, aI x1] σ Q :=
  run_intro (Cl_mono lay1 d) [] 600 h
set_option maxRecDepth 50000 in
theorem bk_R_turns_0 {d : Nat} {σ : St} {Q : Option AV → St → Prop} 
    (h : ((gI σ 71 29) = 0 → Q (some (aI (-1 : Int32))) σ) ∧ (¬ (gI σ 71 29) = 0 → Cl lay1 d M_R_goes [aO 12 71, aI (0 : Int32), aI (gI σ 71 29)] σ (rV fun σ1 => ((gI σ1 71 39) = 0 → inb (0 : Int32) (gN σ1 90) ∧ (inb (0 : Int32) (gN σ1 91) ∧ (inb (3 : Int32) (gN σ1 90) ∧ (inb (3 : Int32) (gN σ1 91) ∧ (Cl lay1 d M_R_sum [aO 12 71, aJ (gL σ1 90 (ix (0 : Int32))), aJ (gL σ1 91 (ix (0 : Int32))), aJ (gL σ1 90 (ix (3 : Int32))), aJ (gL σ1 91 (ix (3 : Int32)))] σ1 (rV fun σ2 => ((gI σ2 71 39) = 0 → Cl lay1 d M_R_kept [aO 12 71] σ2 (rI fun r4 σ3 => ((2 : Int32) ≤ r4 → ((lg_cmp (gL σ3 71 38) (1 : Int64)) ≤ 0 → ((lg_cmp (gL σ3 71 37) (-1 : Int64)) = 0 → Q (some (aI (3 : Int32))) σ3) ∧ (¬ (lg_cmp (gL σ3 71 37) (-1 : Int64)) = 0 → ((lg_cmp (gL σ3 71 37) (0 : Int64)) = 0 → Q (some (aI (4 : Int32))) σ3) ∧ (¬ (lg_cmp (gL σ3 71 37) (0 : Int64)) = 0 → Q (some (aI (6 : Int32))) σ3))) ∧ (¬ (lg_cmp (gL σ3 71 38) (1 : Int64)) ≤ 0 → Q (some (aI (0 : Int32))) σ3)) ∧ (¬ (2 : Int32) ≤ r4 → Q (some (aI (-2 : Int32))) σ3))) ∧ (¬ (gI σ2 71 39) = 0 → Q (some (aI (-5 : Int32))) σ2))))))) ∧ (¬ (gI σ1 71 39) = 0 → ((gI σ1 71 39) = 0 → Cl lay1 d M_R_kept [aO 12 71] σ1 (rI fun r6 σ5 => ((2 : Int32) ≤ r6 → ((lg_cmp (gL σ5 71 38) (1 : Int64)) ≤ 0 → ((lg_cmp (gL σ5 71 37) (-1 : Int64)) = 0 → Q (some (aI (3 : Int32))) σ5) ∧ (¬ (lg_cmp (gL σ5 71 37) (-1 : Int64)) = 0 → ((lg_cmp (gL σ5 71 37) (0 : Int64)) = 0 → Q (some (aI (4 : Int32))) σ5) ∧ (¬ (lg_cmp (gL σ5 71 37) (0 : Int64)) = 0 → Q (some (aI (6 : Int32))) σ5))) ∧ (¬ (lg_cmp (gL σ5 71 38) (1 : Int64)) ≤ 0 → Q (some (aI (0 : Int32))) σ5)) ∧ (¬ (2 : Int32) ≤ r6 → Q (some (aI (-2 : Int32))) σ5))) ∧ (¬ (gI σ1 71 39) = 0 → Q (some (aI (-5 : Int32))) σ1))))) : Cl lay1 (d + 1) M_R_turns [aO 12 71] σ Q :=
  run_intro (Cl_mono lay1 d) [] 600 h
set_option maxRecDepth 50000 in
theorem bk_R_closed_0 {d : Nat} {σ : St} {Q : Option AV → St → Prop} (x1 : Int32) (x2 : Int32)
    (h : Cl lay1 d M_R_starts [aO 12 71] σ (rV fun σ1 => Wp lay1 rtOf (Cl lay1 d) k_R_closed 1 Q (6, [aO 12 71, aI x1, aI x2, aI (0 : Int32), aZ, aZ, aZ, aZ, aZ, aZ, aZ, aZ], [], σ1))) : Cl lay1 (d + 1) M_R_closed [aO 12 71, aI x1, aI x2] σ Q :=
  run_intro (Cl_mono lay1 d) [6, 70, 211, 284, 370, 387] 600 h
set_option maxRecDepth 50000 in
theorem bk_R_closed_6 {d : Nat} {σ : St} {Q : Option AV → St → Prop} (x1 : Int32) (x2 : Int32) (x3 : Int32) (u4 : AV) (u5 : AV) (u6 : AV) (u7 : AV) (u8 : AV) (u9 : AV) (u10 : AV) (u11 : AV)
    (h : ((gI σ 71 29) ≤ x3 → ((gI σ 71 39) = 0 → inb (0 : Int32) (gN σ 90) ∧ (inb (0 : Int32) (gN σ 91) ∧ (Cl lay1 d M_R_sum [aO 12 71, aJ (2 : Int64), aJ (1 : Int64), aJ (-(gL σ 90 (ix (0 : Int32)))), aJ (gL σ 91 (ix (0 : Int32)))] σ (rV fun σ1 => Wp lay1 rtOf (Cl lay1 d) k_R_closed 1 Q (70, [aO 12 71, aI x1, aI x2, aI x3, u4, u5, u6, u7, u8, u9, u10, u11], [], σ1))))) ∧ (¬ (gI σ 71 39) = 0 → Q (some (aI (-5 : Int32))) σ)) ∧ (¬ (gI σ 71 29) ≤ x3 → ((gI σ 71 39) = 0 → Cl lay1 d M_R_leadsTable [aO 12 71, aI x3] σ (rV fun σ2 => Cl lay1 d M_R_leadsMote [aO 12 71, aI x3, aI (4 : Int32), aI x2] σ2 (rV fun σ3 => Wp lay1 rtOf (Cl lay1 d) k_R_closed 1 Q (6, [aO 12 71, aI x1, aI x2, aI (x3 + (1 : Int32)), u4, u5, u6, u7, u8, u9, u10, u11], [], σ3)))) ∧ (¬ (gI σ 71 39) = 0 → ((gI σ 71 39) = 0 → inb (0 : Int32) (gN σ 90) ∧ (inb (0 : Int32) (gN σ 91) ∧ (Cl lay1 d M_R_sum [aO 12 71, aJ (2 : Int64), aJ (1 : Int64), aJ (-(gL σ 90 (ix (0 : Int32)))), aJ (gL σ 91 (ix (0 : Int32)))] σ (rV fun σ4 => Wp lay1 rtOf (Cl lay1 d) k_R_closed 1 Q (70, [aO 12 71, aI x1, aI x2, aI x3, u4, u5, u6, u7, u8, u9, u10, u11], [], σ4))))) ∧ (¬ (gI σ 71 39) = 0 → Q (some (aI (-5 : Int32))) σ)))) : Wp lay1 rtOf (Cl lay1 d) k_R_closed 1 Q (6, [aO 12 71, aI x1, aI x2, aI x3, u4, u5, u6, u7, u8, u9, u10, u11], [], σ) :=
  run_intro (Cl_mono lay1 d) [6, 70, 211, 284, 370, 387] 600 h
set_option maxRecDepth 50000 in
theorem bk_R_closed_70 {d : Nat} {σ : St} {Q : Option AV → St → Prop} (x1 : Int32) (x2 : Int32) (u3 : AV) (u4 : AV) (u5 : AV) (u6 : AV) (u7 : AV) (u8 : AV) (u9 : AV) (u10 : AV) (u11 : AV)
    (h : inb (3 : Int32) (gN σ 90) ∧ (inb (3 : Int32) (gN σ 91) ∧ (Cl lay1 d M_R_sum [aO 12 71, aJ (gL σ 71 37), aJ (gL σ 71 38), aJ (-(gL σ 90 (ix (3 : Int32)))), aJ (gL σ 91 (ix (3 : Int32)))] σ (rV fun σ1 => ((gI σ1 71 39) = 0 → ((lg_cmp (gL σ1 71 37) (0 : Int64)) = 0 → Q (some (aI (-2 : Int32))) σ1) ∧ (¬ (lg_cmp (gL σ1 71 37) (0 : Int64)) = 0 → inb (3 : Int32) (gN σ1 90) ∧ (inb (3 : Int32) (gN σ1 91) ∧ (Cl lay1 d M_R_sum [aO 12 71, aJ (1 : Int64), aJ (1 : Int64), aJ (-(gL σ1 90 (ix (3 : Int32)))), aJ (gL σ1 91 (ix (3 : Int32)))] σ1 (rV fun σ2 => inb (4 : Int32) (gN σ2 90) ∧ (inb (4 : Int32) (gN σ2 91) ∧ (Cl lay1 d M_R_product [aO 12 71, aJ (gL σ2 71 37), aJ (gL σ2 71 38), aJ (gL σ2 90 (ix (4 : Int32))), aJ (gL σ2 91 (ix (4 : Int32)))] σ2 (rV fun σ3 => inb (1 : Int32) (gN σ3 90) ∧ (inb (1 : Int32) (gN σ3 91) ∧ (inb (5 : Int32) (gN σ3 90) ∧ (inb (5 : Int32) (gN σ3 91) ∧ (Cl lay1 d M_R_product [aO 12 71, aJ (gL σ3 90 (ix (1 : Int32))), aJ (gL σ3 91 (ix (1 : Int32))), aJ (gL σ3 90 (ix (5 : Int32))), aJ (gL σ3 91 (ix (5 : Int32)))] σ3 (rV fun σ4 => Wp lay1 rtOf (Cl lay1 d) k_R_closed 1 Q (211, [aO 12 71, aI x1, aI x2, aJ (gL σ1 71 37), aZ, aJ (gL σ1 71 38), aZ, aJ (gL σ3 71 37), aZ, aJ (gL σ3 71 38), aZ, u11], [], σ4)))))))))))))) ∧ (¬ (gI σ1 71 39) = 0 → Q (some (aI (-5 : Int32))) σ1))))) : Wp lay1 rtOf (Cl lay1 d) k_R_closed 1 Q (70, [aO 12 71, aI x1, aI x2, u3, u4, u5, u6, u7, u8, u9, u10, u11], [], σ) :=
  run_intro (Cl_mono lay1 d) [6, 70, 211, 284, 370, 387] 600 h
set_option maxRecDepth 50000 in
theorem bk_R_closed_211 {d : Nat} {σ : St} {Q : Option AV → St → Prop} (x1 : Int32) (x2 : Int32) (x3 : Int64) (x5 : Int64) (x7 : Int64) (x9 : Int64) (u11 : AV)
    (h : Cl lay1 d M_R_sum [aO 12 71, aJ x7, aJ x9, aJ (gL σ 71 37), aJ (gL σ 71 38)] σ (rV fun σ1 => Cl lay1 d M_R_divided [aO 12 71, aJ (gL σ1 71 37), aJ (gL σ1 71 38), aJ x3, aJ x5] σ1 (rV fun σ2 => Cl lay1 d M_R_lays [aO 12 71, aI (6 : Int32), aJ (gL σ2 71 37), aJ (gL σ2 71 38)] σ2 (rV fun σ3 => inb (2 : Int32) (gN σ3 90) ∧ (inb (2 : Int32) (gN σ3 91) ∧ (inb (4 : Int32) (gN σ3 90) ∧ (inb (4 : Int32) (gN σ3 91) ∧ (Cl lay1 d M_R_product [aO 12 71, aJ (gL σ3 90 (ix (2 : Int32))), aJ (gL σ3 91 (ix (2 : Int32))), aJ (gL σ3 90 (ix (4 : Int32))), aJ (gL σ3 91 (ix (4 : Int32)))] σ3 (rV fun σ4 => Wp lay1 rtOf (Cl lay1 d) k_R_closed 1 Q (284, [aO 12 71, aI x1, aI x2, aJ x3, aZ, aJ x5, aZ, aJ x7, aZ, aJ x9, aZ, u11], [], σ4)))))))))) : Wp lay1 rtOf (Cl lay1 d) k_R_closed 1 Q (211, [aO 12 71, aI x1, aI x2, aJ x3, aZ, aJ x5, aZ, aJ x7, aZ, aJ x9, aZ, u11], [], σ) :=
  run_intro (Cl_mono lay1 d) [6, 70, 211, 284, 370, 387] 600 h
set_option maxRecDepth 50000 in
theorem bk_R_closed_284 {d : Nat} {σ : St} {Q : Option AV → St → Prop} (x1 : Int32) (x2 : Int32) (x3 : Int64) (x5 : Int64) (u7 : AV) (u8 : AV) (u9 : AV) (u10 : AV) (u11 : AV)
    (h : inb (0 : Int32) (gN σ 90) ∧ (inb (0 : Int32) (gN σ 91) ∧ (Cl lay1 d M_R_sum [aO 12 71, aJ (1 : Int64), aJ (1 : Int64), aJ (-(gL σ 90 (ix (0 : Int32)))), aJ (gL σ 91 (ix (0 : Int32)))] σ (rV fun σ1 => inb (5 : Int32) (gN σ1 90) ∧ (inb (5 : Int32) (gN σ1 91) ∧ (Cl lay1 d M_R_product [aO 12 71, aJ (gL σ1 71 37), aJ (gL σ1 71 38), aJ (gL σ1 90 (ix (5 : Int32))), aJ (gL σ1 91 (ix (5 : Int32)))] σ1 (rV fun σ2 => Cl lay1 d M_R_sum [aO 12 71, aJ (gL σ 71 37), aJ (gL σ 71 38), aJ (gL σ2 71 37), aJ (gL σ2 71 38)] σ2 (rV fun σ3 => Cl lay1 d M_R_divided [aO 12 71, aJ (gL σ3 71 37), aJ (gL σ3 71 38), aJ x3, aJ x5] σ3 (rV fun σ4 => Wp lay1 rtOf (Cl lay1 d) k_R_closed 1 Q (370, [aO 12 71, aI x1, aI x2, aJ x3, aZ, aJ x5, aZ, aJ (gL σ 71 37), aZ, aJ (gL σ 71 38), aZ, u11], [], σ4)))))))))) : Wp lay1 rtOf (Cl lay1 d) k_R_closed 1 Q (284, [aO 12 71, aI x1, aI x2, aJ x3, aZ, aJ x5, aZ, u7, u8, u9, u10, u11], [], σ) :=
  run_intro (Cl_mono lay1 d) [6, 70, 211, 284, 370, 387] 600 h
set_option maxRecDepth 50000 in
theorem bk_R_closed_370 {d : Nat} {σ : St} {Q : Option AV → St → Prop} (x1 : Int32) (x2 : Int32) (u3 : AV) (u4 : AV) (u5 : AV) (u6 : AV) (u7 : AV) (u8 : AV) (u9 : AV) (u10 : AV) (u11 : AV)
    (h : Cl lay1 d M_R_lays [aO 12 71, aI (7 : Int32), aJ (gL σ 71 37), aJ (gL σ 71 38)] σ (rV fun σ1 => Wp lay1 rtOf (Cl lay1 d) k_R_closed 1 Q (387, [aO 12 71, aI x1, aI x2, u3, u4, u5, u6, u7, u8, u9, (unJ u10), aI (0 : Int32)], [], σ1))) : Wp lay1 rtOf (Cl lay1 d) k_R_closed 1 Q (370, [aO 12 71, aI x1, aI x2, u3, u4, u5, u6, u7, u8, u9, u10, u11], [], σ) :=
  run_intro (Cl_mono lay1 d) [6, 70, 211, 284, 370, 387] 600 h
set_option maxRecDepth 50000 in
theorem bk_R_closed_387 {d : Nat} {σ : St} {Q : Option AV → St → Prop} (x1 : Int32) (x2 : Int32) (u3 : AV) (u4 : AV) (u5 : AV) (u6 : AV) (u7 : AV) (u8 : AV) (u9 : AV) (u10 : AV) (x11 : Int32)
    (h : (x1 ≤ x11 → ((gI σ 71 39) = 0 → Q (some (aI (0 : Int32))) σ) ∧ (¬ (gI σ 71 39) = 0 → Q (some (aI (-5 : Int32))) σ)) ∧ (¬ x1 ≤ x11 → ((gI σ 71 39) = 0 → Cl lay1 d M_R_leadsMote [aO 12 71, aI x11, aI (6 : Int32), aI x2] σ (rV fun σ1 => Wp lay1 rtOf (Cl lay1 d) k_R_closed 1 Q (387, [aO 12 71, aI x1, aI x2, u3, u4, u5, u6, u7, u8, u9, (unJ u10), aI (x11 + (1 : Int32))], [], σ1))) ∧ (¬ (gI σ 71 39) = 0 → ((gI σ 71 39) = 0 → Q (some (aI (0 : Int32))) σ) ∧ (¬ (gI σ 71 39) = 0 → Q (some (aI (-5 : Int32))) σ)))) : Wp lay1 rtOf (Cl lay1 d) k_R_closed 1 Q (387, [aO 12 71, aI x1, aI x2, u3, u4, u5, u6, u7, u8, u9, u10, aI x11], [], σ) :=
  run_intro (Cl_mono lay1 d) [6, 70, 211, 284, 370, 387] 600 h
set_option maxRecDepth 50000 in
theorem bk_R_way_0 {d : Nat} {σ : St} {Q : Option AV → St → Prop} (x1 : Int32)
    (h : Cl lay1 d M_R_isPart [aO 12 71, aI x1] σ (rI fun r2 σ1 => (r2 = 0 → Q (some (aI (-1 : Int32))) σ1) ∧ (¬ r2 = 0 → Cl lay1 d M_R_closed [aO 12 71, aI x1, aI (-1 : Int32)] σ1 (rI fun r4 σ3 => (0 ≤ r4 → inb (6 : Int32) (gN σ3 90) ∧ (inb (6 : Int32) (gN σ3 91) ∧ (Cl lay1 d M_R_tells [aO 12 71, aI (0 : Int32), aJ (gL σ3 90 (ix (6 : Int32))), aJ (gL σ3 91 (ix (6 : Int32)))] σ3 (rV fun σ5 => inb (7 : Int32) (gN σ5 90) ∧ (inb (7 : Int32) (gN σ5 91) ∧ (Cl lay1 d M_R_tells [aO 12 71, aI (1 : Int32), aJ (gL σ5 90 (ix (7 : Int32))), aJ (gL σ5 91 (ix (7 : Int32)))] σ5 (rV fun σ6 => Q (some (aI (2 : Int32))) (pI σ6 71 42 (2 : Int32))))))))) ∧ (¬ 0 ≤ r4 → Q (some (aI r4)) σ3))))) : Cl lay1 (d + 1) M_R_way [aO 12 71, aI x1] σ Q :=
  run_intro (Cl_mono lay1 d) [] 600 h
set_option maxRecDepth 50000 in
theorem bk_R_answer_0 {d : Nat} {σ : St} {Q : Option AV → St → Prop} (x1 : Int32) (x2 : Int32)
    (h : Cl lay1 d M_R_in [aJ x1.toInt64, aJ (0 : Int64), aJ ((gI σ 71 31) - (1 : Int32)).toInt64] σ (rI fun r2 σ1 => (r2 = 0 → Q (some (aI (-1 : Int32))) σ1) ∧ (¬ r2 = 0 → Cl lay1 d M_R_in [aJ x2.toInt64, aJ (0 : Int64), aJ ((gI σ1 71 30) - (1 : Int32)).toInt64] σ1 (rI fun r4 σ3 => (r4 = 0 → Q (some (aI (-1 : Int32))) σ3) ∧ (¬ r4 = 0 → Cl lay1 d M_R_partOf [aO 12 71, aI (4 : Int32), aI x1] σ3 (rI fun r6 σ5 => Cl lay1 d M_R_closed [aO 12 71, aI r6, aI x2] σ5 (rI fun r8 σ7 => (0 ≤ r8 → inb (6 : Int32) (gN σ7 90) ∧ (inb (6 : Int32) (gN σ7 91) ∧ (Cl lay1 d M_R_tells [aO 12 71, aI (0 : Int32), aJ (gL σ7 90 (ix (6 : Int32))), aJ (gL σ7 91 (ix (6 : Int32)))] σ7 (rV fun σ9 => Q (some (aI (1 : Int32))) (pI σ9 71 42 (1 : Int32)))))) ∧ (¬ 0 ≤ r8 → Q (some (aI r8)) σ7)))))))) : Cl lay1 (d + 1) M_R_answer [aO 12 71, aI x1, aI x2] σ Q :=
  run_intro (Cl_mono lay1 d) [] 600 h
set_option maxRecDepth 50000 in
theorem bk_R_bump_0 {d : Nat} {σ : St} {Q : Option AV → St → Prop} (x1 : Int32) (x2 : Int32) (x3 : Int32)
    (h : Cl lay1 d M_R_in [aJ x1.toInt64, aJ (0 : Int64), aJ ((gI σ 71 30) - (1 : Int32)).toInt64] σ (rI fun r2 σ1 => (r2 = 0 → Q (some (aI (-1 : Int32))) σ1) ∧ (¬ r2 = 0 → Cl lay1 d M_R_in [aJ x2.toInt64, aJ (x1 + (1 : Int32)).toInt64, aJ ((gI σ1 71 30) - (1 : Int32)).toInt64] σ1 (rI fun r4 σ3 => (r4 = 0 → Q (some (aI (-1 : Int32))) σ3) ∧ (¬ r4 = 0 → Wp lay1 rtOf (Cl lay1 d) k_R_bump 1 Q (35, [aO 12 71, aI x1, aI x2, aI x3, aZ, aZ, aZ, aZ, aZ, aZ, aZ, aZ, aZ, aZ, aZ, aZ, aZ], [], σ3)))))) : Cl lay1 (d + 1) M_R_bump [aO 12 71, aI x1, aI x2, aI x3] σ Q :=
  run_intro (Cl_mono lay1 d) [35, 64, 101, 144, 189, 221, 258] 600 h
set_option maxRecDepth 50000 in
theorem bk_R_bump_35 {d : Nat} {σ : St} {Q : Option AV → St → Prop} (x1 : Int32) (x2 : Int32) (x3 : Int32) (u4 : AV) (u5 : AV) (u6 : AV) (u7 : AV) (u8 : AV) (u9 : AV) (u10 : AV) (u11 : AV) (u12 : AV) (u13 : AV) (u14 : AV) (u15 : AV) (u16 : AV)
    (h : Cl lay1 d M_R_in [aJ x3.toInt64, aJ (x2 + (1 : Int32)).toInt64, aJ ((gI σ 71 30) - (1 : Int32)).toInt64] σ (rI fun r2 σ1 => (r2 = 0 → Q (some (aI (-1 : Int32))) σ1) ∧ (¬ r2 = 0 → Cl lay1 d M_R_partOf [aO 12 71, aI (3 : Int32), aI x3] σ1 (rI fun r4 σ3 => Wp lay1 rtOf (Cl lay1 d) k_R_bump 1 Q (64, [aO 12 71, aI x1, aI x2, aI x3, aI r4, u5, u6, u7, u8, u9, u10, u11, u12, u13, u14, u15, u16], [], σ3))))) : Wp lay1 rtOf (Cl lay1 d) k_R_bump 1 Q (35, [aO 12 71, aI x1, aI x2, aI x3, u4, u5, u6, u7, u8, u9, u10, u11, u12, u13, u14, u15, u16], [], σ) :=
  run_intro (Cl_mono lay1 d) [35, 64, 101, 144, 189, 221, 258] 600 h
set_option maxRecDepth 50000 in
theorem bk_R_bump_64 {d : Nat} {σ : St} {Q : Option AV → St → Prop} (x1 : Int32) (x2 : Int32) (u3 : AV) (x4 : Int32) (u5 : AV) (u6 : AV) (u7 : AV) (u8 : AV) (u9 : AV) (u10 : AV) (u11 : AV) (u12 : AV) (u13 : AV) (u14 : AV) (u15 : AV) (u16 : AV)
    (h : Cl lay1 d M_R_partOf [aO 12 71, aI (3 : Int32), aI x1] σ (rI fun r2 σ1 => Cl lay1 d M_R_partOf [aO 12 71, aI (3 : Int32), aI x1] σ1 (rI fun r4 σ3 => Cl lay1 d M_R_goes [aO 12 71, aI r2, aI (x4 - r4)] σ3 (rV fun σ5 => ((gI σ5 71 39) = 0 → inb (1 : Int32) (gN σ5 90) ∧ (Wp lay1 rtOf (Cl lay1 d) k_R_bump 1 Q (101, [aO 12 71, aI x1, aI x2, u3, aI x4, aJ (gL σ5 90 (ix (1 : Int32))), aZ, u7, u8, u9, u10, u11, u12, u13, u14, u15, u16], [], σ5))) ∧ (¬ (gI σ5 71 39) = 0 → Q (some (aI (-5 : Int32))) σ5))))) : Wp lay1 rtOf (Cl lay1 d) k_R_bump 1 Q (64, [aO 12 71, aI x1, aI x2, u3, aI x4, u5, u6, u7, u8, u9, u10, u11, u12, u13, u14, u15, u16], [], σ) :=
  run_intro (Cl_mono lay1 d) [35, 64, 101, 144, 189, 221, 258] 600 h
set_option maxRecDepth 50000 in
theorem bk_R_bump_101 {d : Nat} {σ : St} {Q : Option AV → St → Prop} (u1 : AV) (x2 : Int32) (u3 : AV) (x4 : Int32) (x5 : Int64) (u7 : AV) (u8 : AV) (u9 : AV) (u10 : AV) (u11 : AV) (u12 : AV) (u13 : AV) (u14 : AV) (u15 : AV) (u16 : AV)
    (h : inb (1 : Int32) (gN σ 91) ∧ (inb (3 : Int32) (gN σ 90) ∧ (inb (3 : Int32) (gN σ 91) ∧ (Cl lay1 d M_R_partOf [aO 12 71, aI (3 : Int32), aI x2] σ (rI fun r2 σ1 => Cl lay1 d M_R_partOf [aO 12 71, aI (3 : Int32), aI x2] σ1 (rI fun r4 σ3 => Cl lay1 d M_R_goes [aO 12 71, aI r2, aI (x4 - r4)] σ3 (rV fun σ5 => Wp lay1 rtOf (Cl lay1 d) k_R_bump 1 Q (144, [aO 12 71, u1, aI x2, u3, aI x4, aJ x5, aZ, aJ (gL σ 91 (ix (1 : Int32))), aZ, aJ (gL σ 90 (ix (3 : Int32))), aZ, aJ (gL σ 91 (ix (3 : Int32))), aZ, u13, u14, u15, u16], [], σ5)))))))) : Wp lay1 rtOf (Cl lay1 d) k_R_bump 1 Q (101, [aO 12 71, u1, aI x2, u3, aI x4, aJ x5, aZ, u7, u8, u9, u10, u11, u12, u13, u14, u15, u16], [], σ) :=
  run_intro (Cl_mono lay1 d) [35, 64, 101, 144, 189, 221, 258] 600 h
set_option maxRecDepth 50000 in
theorem bk_R_bump_144 {d : Nat} {σ : St} {Q : Option AV → St → Prop} (u1 : AV) (u2 : AV) (u3 : AV) (u4 : AV) (x5 : Int64) (x7 : Int64) (x9 : Int64) (x11 : Int64) (u13 : AV) (u14 : AV) (u15 : AV) (u16 : AV)
    (h : ((gI σ 71 39) = 0 → inb (1 : Int32) (gN σ 90) ∧ (((lg_cmp (gL σ 90 (ix (1 : Int32))) (0 : Int64)) = 0 → Q (some (aI (-2 : Int32))) σ) ∧ (¬ (lg_cmp (gL σ 90 (ix (1 : Int32))) (0 : Int64)) = 0 → inb (1 : Int32) (gN σ 90) ∧ (inb (1 : Int32) (gN σ 91) ∧ (Cl lay1 d M_R_divided [aO 12 71, aJ (-x5), aJ x7, aJ (gL σ 90 (ix (1 : Int32))), aJ (gL σ 91 (ix (1 : Int32)))] σ (rV fun σ1 => Wp lay1 rtOf (Cl lay1 d) k_R_bump 1 Q (189, [aO 12 71, u1, u2, u3, u4, aJ x5, aZ, aJ x7, aZ, aJ x9, aZ, aJ x11, aZ, u13, u14, u15, u16], [], σ1))))))) ∧ (¬ (gI σ 71 39) = 0 → Q (some (aI (-5 : Int32))) σ)) : Wp lay1 rtOf (Cl lay1 d) k_R_bump 1 Q (144, [aO 12 71, u1, u2, u3, u4, aJ x5, aZ, aJ x7, aZ, aJ x9, aZ, aJ x11, aZ, u13, u14, u15, u16], [], σ) :=
  run_intro (Cl_mono lay1 d) [35, 64, 101, 144, 189, 221, 258] 600 h
set_option maxRecDepth 50000 in
theorem bk_R_bump_189 {d : Nat} {σ : St} {Q : Option AV → St → Prop} (u1 : AV) (u2 : AV) (u3 : AV) (u4 : AV) (u5 : AV) (u6 : AV) (u7 : AV) (u8 : AV) (x9 : Int64) (x11 : Int64) (u13 : AV) (u14 : AV) (u15 : AV) (u16 : AV)
    (h : inb (3 : Int32) (gN σ 90) ∧ (inb (3 : Int32) (gN σ 91) ∧ (Cl lay1 d M_R_product [aO 12 71, aJ (gL σ 71 37), aJ (gL σ 71 38), aJ (gL σ 90 (ix (3 : Int32))), aJ (gL σ 91 (ix (3 : Int32)))] σ (rV fun σ1 => Wp lay1 rtOf (Cl lay1 d) k_R_bump 1 Q (221, [aO 12 71, u1, u2, u3, u4, u5, u6, u7, u8, aJ x9, aZ, aJ x11, aZ, aJ (gL σ 71 37), aZ, aJ (gL σ 71 38), aZ], [], σ1))))) : Wp lay1 rtOf (Cl lay1 d) k_R_bump 1 Q (189, [aO 12 71, u1, u2, u3, u4, u5, u6, u7, u8, aJ x9, aZ, aJ x11, aZ, u13, u14, u15, u16], [], σ) :=
  run_intro (Cl_mono lay1 d) [35, 64, 101, 144, 189, 221, 258] 600 h
set_option maxRecDepth 50000 in
theorem bk_R_bump_221 {d : Nat} {σ : St} {Q : Option AV → St → Prop} (u1 : AV) (u2 : AV) (u3 : AV) (u4 : AV) (u5 : AV) (u6 : AV) (u7 : AV) (u8 : AV) (x9 : Int64) (x11 : Int64) (x13 : Int64) (x15 : Int64)
    (h : Cl lay1 d M_R_sum [aO 12 71, aJ (-x9), aJ x11, aJ (-(gL σ 71 37)), aJ (gL σ 71 38)] σ (rV fun σ1 => ((gI σ1 71 39) = 0 → Cl lay1 d M_R_tells [aO 12 71, aI (0 : Int32), aJ x13, aJ x15] σ1 (rV fun σ2 => Wp lay1 rtOf (Cl lay1 d) k_R_bump 1 Q (258, [aO 12 71, u1, u2, u3, u4, u5, u6, u7, u8, aJ x9, aZ, aJ x11, aZ, aJ x13, aZ, aJ x15, aZ], [], σ2))) ∧ (¬ (gI σ1 71 39) = 0 → Q (some (aI (-5 : Int32))) σ1))) : Wp lay1 rtOf (Cl lay1 d) k_R_bump 1 Q (221, [aO 12 71, u1, u2, u3, u4, u5, u6, u7, u8, aJ x9, aZ, aJ x11, aZ, aJ x13, aZ, aJ x15, aZ], [], σ) :=
  run_intro (Cl_mono lay1 d) [35, 64, 101, 144, 189, 221, 258] 600 h
set_option maxRecDepth 50000 in
theorem bk_R_bump_258 {d : Nat} {σ : St} {Q : Option AV → St → Prop} (u1 : AV) (u2 : AV) (u3 : AV) (u4 : AV) (u5 : AV) (u6 : AV) (u7 : AV) (u8 : AV) (u9 : AV) (u10 : AV) (u11 : AV) (u12 : AV) (u13 : AV) (u14 : AV) (u15 : AV) (u16 : AV)
    (h : Cl lay1 d M_R_tells [aO 12 71, aI (1 : Int32), aJ (gL σ 71 37), aJ (gL σ 71 38)] σ (rV fun σ1 => Q (some (aI (2 : Int32))) (pI σ1 71 42 (2 : Int32)))) : Wp lay1 rtOf (Cl lay1 d) k_R_bump 1 Q (258, [aO 12 71, u1, u2, u3, u4, u5, u6, u7, u8, u9, u10, u11, u12, u13, u14, u15, u16], [], σ) :=
  run_intro (Cl_mono lay1 d) [35, 64, 101, 144, 189, 221, 258] 600 h
set_option maxRecDepth 50000 in
theorem bk_R_number_0 {d : Nat} {σ : St} {Q : Option AV → St → Prop} (x1 : Int32) (x2 : Int32)
    (h : (x1 < 0 → Q (some (aI (-1 : Int32))) σ) ∧ (¬ x1 < 0 → Cl lay1 d M_R_in [aJ x2.toInt64, aJ (0 : Int64), aJ (1 : Int64)] σ (rI fun r2 σ1 => (r2 = 0 → Q (some (aI (-1 : Int32))) σ1) ∧ (¬ r2 = 0 → ((gI σ1 71 42) ≤ x1 → Q (some (aI (-4 : Int32))) σ1) ∧ (¬ (gI σ1 71 42) ≤ x1 → inb (((2 : Int32) * x1) + x2) (gN σ1 92) ∧ (Q (some (aI (gL σ1 92 (ix (((2 : Int32) * x1) + x2))).toInt32)) σ1)))))) : Cl lay1 (d + 1) M_R_number [aO 12 71, aI x1, aI x2] σ Q :=
  run_intro (Cl_mono lay1 d) [] 600 h
set_option maxRecDepth 50000 in
theorem bk_R_isPrime_0 {d : Nat} {σ : St} {Q : Option AV → St → Prop} (x0 : Int32)
    (h : Cl lay1 d M_R_in [aJ x0.toInt64, aJ (3 : Int64), aJ (31 : Int64)] σ (rI fun r2 σ1 => Wp lay1 rtOf (Cl lay1 d) k_R_isPrime 2 Q (14, [aI x0, aI r2, aI (2 : Int32)], [], σ1))) : Cl lay1 (d + 1) M_R_isPrime [aI x0] σ Q :=
  run_intro (Cl_mono lay1 d) [14] 600 h
set_option maxRecDepth 50000 in
theorem bk_R_isPrime_14 {d : Nat} {σ : St} {Q : Option AV → St → Prop} (x0 : Int32) (x1 : Int32) (x2 : Int32)
    (h : (x1 = 0 → (x1 = 0 ∨ x1 = 1) ∧ Q (some (aI x1)) σ) ∧ (¬ x1 = 0 → (x0 < (x2 * x2) → (x1 = 0 ∨ x1 = 1) ∧ Q (some (aI x1)) σ) ∧ (¬ x0 < (x2 * x2) → ¬ x2 = 0 ∧ (((x0 - x0 / x2 * x2) = 0 → Wp lay1 rtOf (Cl lay1 d) k_R_isPrime 2 Q (14, [aI x0, aI (0 : Int32), aI (x2 + (1 : Int32))], [], σ)) ∧ (¬ (x0 - x0 / x2 * x2) = 0 → Wp lay1 rtOf (Cl lay1 d) k_R_isPrime 2 Q (14, [aI x0, aI (1 : Int32), aI (x2 + (1 : Int32))], [], σ)))))) : Wp lay1 rtOf (Cl lay1 d) k_R_isPrime 2 Q (14, [aI x0, aI x1, aI x2], [], σ) :=
  run_intro (Cl_mono lay1 d) [14] 600 h
set_option maxRecDepth 50000 in
theorem bk_R_by_0 {d : Nat} {σ : St} {Q : Option AV → St → Prop} (x0 : Int64) (x2 : Int32)
    (h : ¬ x2.toInt64 = 0 ∧ ((0 ≤ (lg_cmp (x0 - x0 / x2.toInt64 * x2.toInt64) (0 : Int64)) → ¬ x2.toInt64 = 0 ∧ (Q (some (aI (x0 - x0 / x2.toInt64 * x2.toInt64).toInt32)) σ)) ∧ (¬ 0 ≤ (lg_cmp (x0 - x0 / x2.toInt64 * x2.toInt64) (0 : Int64)) → ¬ x2.toInt64 = 0 ∧ (Q (some (aI ((x0 - x0 / x2.toInt64 * x2.toInt64) + x2.toInt64).toInt32)) σ)))) : Cl lay1 (d + 1) M_R_by [aJ x0, aI x2] σ Q :=
  run_intro (Cl_mono lay1 d) [] 600 h
set_option maxRecDepth 50000 in
theorem bk_R_weighs_0 {d : Nat} {σ : St} {Q : Option AV → St → Prop} (x1 : Int32)
    (h : Wp lay1 rtOf (Cl lay1 d) k_R_weighs 2 Q (2, [aO 12 71, aI x1, aI (0 : Int32), aZ, aZ], [], σ)) : Cl lay1 (d + 1) M_R_weighs [aO 12 71, aI x1] σ Q :=
  run_intro (Cl_mono lay1 d) [2, 30] 600 h
set_option maxRecDepth 50000 in
theorem bk_R_weighs_2 {d : Nat} {σ : St} {Q : Option AV → St → Prop} (x1 : Int32) (x2 : Int32) (u3 : AV) (u4 : AV)
    (h : ((gI σ 71 29) ≤ x2 → ((1 : Int32) = 0 ∨ (1 : Int32) = 1) ∧ Q (some (aI (1 : Int32))) σ) ∧ (¬ (gI σ 71 29) ≤ x2 → inb x2 (gN σ 87) ∧ (Cl lay1 d M_R_by [aJ (gL σ 87 (ix x2)), aI x1] σ (rI fun r2 σ1 => (r2 = 0 → ((0 : Int32) = 0 ∨ (0 : Int32) = 1) ∧ Q (some (aI (0 : Int32))) σ1) ∧ (¬ r2 = 0 → Wp lay1 rtOf (Cl lay1 d) k_R_weighs 2 Q (30, [aO 12 71, aI x1, aI x2, aI r2, aI (1 : Int32)], [], σ1)))))) : Wp lay1 rtOf (Cl lay1 d) k_R_weighs 2 Q (2, [aO 12 71, aI x1, aI x2, u3, u4], [], σ) :=
  run_intro (Cl_mono lay1 d) [2, 30] 600 h
set_option maxRecDepth 50000 in
theorem bk_R_weighs_30 {d : Nat} {σ : St} {Q : Option AV → St → Prop} (x1 : Int32) (x2 : Int32) (x3 : Int32) (x4 : Int32)
    (h : ¬ x1 = 0 ∧ ((((x4 * x3) - (x4 * x3) / x1 * x1) = (1 : Int32) → inb x2 (gN σ 86) ∧ (Cl lay1 d M_R_by [aJ (gL σ 86 (ix x2)), aI x1] σ (rI fun r2 σ1 => ¬ x1 = 0 ∧ (inb x2 (gN σ1 93) ∧ (Wp lay1 rtOf (Cl lay1 d) k_R_weighs 2 Q (2, [aO 12 71, aI x1, aI (x2 + (1 : Int32)), aI x3, aI x4], [], (pI σ1 93 (ix x2) ((r2 * x4) - (r2 * x4) / x1 * x1)))))))) ∧ (¬ ((x4 * x3) - (x4 * x3) / x1 * x1) = (1 : Int32) → Wp lay1 rtOf (Cl lay1 d) k_R_weighs 2 Q (30, [aO 12 71, aI x1, aI x2, aI x3, aI (x4 + (1 : Int32))], [], σ)))) : Wp lay1 rtOf (Cl lay1 d) k_R_weighs 2 Q (30, [aO 12 71, aI x1, aI x2, aI x3, aI x4], [], σ) :=
  run_intro (Cl_mono lay1 d) [2, 30] 600 h
set_option maxRecDepth 50000 in
theorem bk_R_rounds_0 {d : Nat} {σ : St} {Q : Option AV → St → Prop} (x1 : Int32) (x2 : Int32)
    (h : ¬ x1 = 0 ∧ (¬ x1 = 0 ∧ (Wp lay1 rtOf (Cl lay1 d) k_R_rounds 1 Q (12, [aO 12 71, aI x1, aI x2, aI (x2 / x1), aI (x2 - x2 / x1 * x1), aI (0 : Int32)], [], σ)))) : Cl lay1 (d + 1) M_R_rounds [aO 12 71, aI x1, aI x2] σ Q :=
  run_intro (Cl_mono lay1 d) [12] 600 h
set_option maxRecDepth 50000 in
theorem bk_R_rounds_12 {d : Nat} {σ : St} {Q : Option AV → St → Prop} (x1 : Int32) (u2 : AV) (x3 : Int32) (x4 : Int32) (x5 : Int32)
    (h : ((gI σ 71 29) ≤ x5 → Q (some (aI ((x3 * x1) + x4))) σ) ∧ (¬ (gI σ 71 29) ≤ x5 → inb x5 (gN σ 85) ∧ (((gI σ 85 (ix x5)) = 0 → inb x5 (gN σ 93) ∧ (¬ x1 = 0 ∧ (Wp lay1 rtOf (Cl lay1 d) k_R_rounds 1 Q (12, [aO 12 71, aI x1, (unJ u2), aI ((x3 + ((gI σ 93 (ix x5)) * x4)) - (x3 + ((gI σ 93 (ix x5)) * x4)) / x1 * x1), aI x4, aI (x5 + (1 : Int32))], [], σ)))) ∧ (¬ (gI σ 85 (ix x5)) = 0 → inb x5 (gN σ 85) ∧ (((gI σ 85 (ix x5)) = (1 : Int32) → inb x5 (gN σ 93) ∧ (Cl lay1 d M_R_by [aJ (x4 - ((gI σ 93 (ix x5)) * x3)).toInt64, aI x1] σ (rI fun r2 σ1 => Wp lay1 rtOf (Cl lay1 d) k_R_rounds 1 Q (12, [aO 12 71, aI x1, u2, aI x3, aI r2, aI (x5 + (1 : Int32))], [], σ1)))) ∧ (¬ (gI σ 85 (ix x5)) = (1 : Int32) → inb x5 (gN σ 85) ∧ (((gI σ 85 (ix x5)) = (2 : Int32) → inb x5 (gN σ 93) ∧ (¬ x1 = 0 ∧ (Cl lay1 d M_R_by [aJ (x4 - ((gI σ 93 (ix x5)) * ((x3 * x3) - (x3 * x3) / x1 * x1))).toInt64, aI x1] σ (rI fun r4 σ3 => Wp lay1 rtOf (Cl lay1 d) k_R_rounds 1 Q (12, [aO 12 71, aI x1, u2, aI x3, aI r4, aI (x5 + (1 : Int32))], [], σ3))))) ∧ (¬ (gI σ 85 (ix x5)) = (2 : Int32) → Wp lay1 rtOf (Cl lay1 d) k_R_rounds 1 Q (12, [aO 12 71, aI x1, u2, aI x3, aI x4, aI (x5 + (1 : Int32))], [], σ))))))))) : Wp lay1 rtOf (Cl lay1 d) k_R_rounds 1 Q (12, [aO 12 71, aI x1, u2, aI x3, aI x4, aI x5], [], σ) :=
  run_intro (Cl_mono lay1 d) [12] 600 h
set_option maxRecDepth 50000 in
theorem bk_R_grid_0 {d : Nat} {σ : St} {Q : Option AV → St → Prop} (x1 : Int32)
    (h : Cl lay1 d M_R_isPrime [aI x1] σ (rI fun r2 σ1 => (r2 = 0 → Q (some (aI (-1 : Int32))) σ1) ∧ (¬ r2 = 0 → ((gI σ1 71 29) = 0 → Q (some (aI (-1 : Int32))) σ1) ∧ (¬ (gI σ1 71 29) = 0 → Cl lay1 d M_R_weighs [aO 12 71, aI x1] σ1 (rI fun r4 σ3 => (r4 = 0 → Q (some (aI (-2 : Int32))) σ3) ∧ (¬ r4 = 0 → Wp lay1 rtOf (Cl lay1 d) k_R_grid 1 Q (44, [aO 12 71, aI x1, aI (0 : Int32), aZ, aZ, aZ], [], (pI (pI (pI σ3 71 44 x1) 71 45 (0 : Int32)) 71 46 (0 : Int32))))))))) : Cl lay1 (d + 1) M_R_grid [aO 12 71, aI x1] σ Q :=
  run_intro (Cl_mono lay1 d) [44, 68, 90] 600 h
set_option maxRecDepth 50000 in
theorem bk_R_grid_44 {d : Nat} {σ : St} {Q : Option AV → St → Prop} (x1 : Int32) (x2 : Int32) (u3 : AV) (u4 : AV) (u5 : AV)
    (h : ((x1 * x1) ≤ x2 → Wp lay1 rtOf (Cl lay1 d) k_R_grid 1 Q (68, [aO 12 71, aI x1, aI (0 : Int32), aI (0 : Int32), u4, u5], [], σ)) ∧ (¬ (x1 * x1) ≤ x2 → inb x2 (gN σ 94) ∧ (Wp lay1 rtOf (Cl lay1 d) k_R_grid 1 Q (44, [aO 12 71, aI x1, aI (x2 + (1 : Int32)), u3, u4, u5], [], (pI σ 94 (ix x2) (vp_nar .boolean (0 : Int32))))))) : Wp lay1 rtOf (Cl lay1 d) k_R_grid 1 Q (44, [aO 12 71, aI x1, aI x2, u3, u4, u5], [], σ) :=
  run_intro (Cl_mono lay1 d) [44, 68, 90] 600 h
set_option maxRecDepth 50000 in
theorem bk_R_grid_68 {d : Nat} {σ : St} {Q : Option AV → St → Prop} (x1 : Int32) (x2 : Int32) (x3 : Int32) (u4 : AV) (u5 : AV)
    (h : ((x1 * x1) ≤ x3 → Q (some (aI x2)) σ) ∧ (¬ (x1 * x1) ≤ x3 → inb x3 (gN σ 94) ∧ (((gI σ 94 (ix x3)) = 0 → Wp lay1 rtOf (Cl lay1 d) k_R_grid 1 Q (90, [aO 12 71, aI x1, aI x2, aI x3, aI (0 : Int32), aI x3], [], σ)) ∧ (¬ (gI σ 94 (ix x3)) = 0 → Wp lay1 rtOf (Cl lay1 d) k_R_grid 1 Q (68, [aO 12 71, aI x1, aI x2, aI (x3 + (1 : Int32)), u4, u5], [], σ))))) : Wp lay1 rtOf (Cl lay1 d) k_R_grid 1 Q (68, [aO 12 71, aI x1, aI x2, aI x3, u4, u5], [], σ) :=
  run_intro (Cl_mono lay1 d) [44, 68, 90] 600 h
set_option maxRecDepth 50000 in
theorem bk_R_grid_90 {d : Nat} {σ : St} {Q : Option AV → St → Prop} (x1 : Int32) (x2 : Int32) (x3 : Int32) (x4 : Int32) (x5 : Int32)
    (h : inb x5 (gN σ 94) ∧ (((gI σ 94 (ix x5)) = 0 → inb x5 (gN σ 94) ∧ (Cl lay1 d M_R_rounds [aO 12 71, aI x1, aI x5] (pI σ 94 (ix x5) (vp_nar .boolean (1 : Int32))) (rI fun r2 σ1 => Wp lay1 rtOf (Cl lay1 d) k_R_grid 1 Q (90, [aO 12 71, aI x1, aI x2, aI x3, aI (x4 + (1 : Int32)), aI r2], [], σ1)))) ∧ (¬ (gI σ 94 (ix x5)) = 0 → (x4 = (1 : Int32) → (x4 ≤ (gI (pI σ 71 45 ((gI σ 71 45) + (1 : Int32))) 71 46) → Wp lay1 rtOf (Cl lay1 d) k_R_grid 1 Q (68, [aO 12 71, aI x1, aI (x2 + (1 : Int32)), aI (x3 + (1 : Int32)), aI x4, aI x5], [], (pI σ 71 45 ((gI σ 71 45) + (1 : Int32))))) ∧ (¬ x4 ≤ (gI (pI σ 71 45 ((gI σ 71 45) + (1 : Int32))) 71 46) → Wp lay1 rtOf (Cl lay1 d) k_R_grid 1 Q (68, [aO 12 71, aI x1, aI (x2 + (1 : Int32)), aI (x3 + (1 : Int32)), aI x4, aI x5], [], (pI (pI (pI σ 71 45 ((gI σ 71 45) + (1 : Int32))) 71 46 x4) 71 47 x3)))) ∧ (¬ x4 = (1 : Int32) → (x4 ≤ (gI (pI σ 71 45 ((gI σ 71 45) + (1 : Int32))) 71 46) → Wp lay1 rtOf (Cl lay1 d) k_R_grid 1 Q (68, [aO 12 71, aI x1, aI (x2 + (0 : Int32)), aI (x3 + (1 : Int32)), aI x4, aI x5], [], (pI σ 71 45 ((gI σ 71 45) + (1 : Int32))))) ∧ (¬ x4 ≤ (gI (pI σ 71 45 ((gI σ 71 45) + (1 : Int32))) 71 46) → Wp lay1 rtOf (Cl lay1 d) k_R_grid 1 Q (68, [aO 12 71, aI x1, aI (x2 + (0 : Int32)), aI (x3 + (1 : Int32)), aI x4, aI x5], [], (pI (pI (pI σ 71 45 ((gI σ 71 45) + (1 : Int32))) 71 46 x4) 71 47 x3))))))) : Wp lay1 rtOf (Cl lay1 d) k_R_grid 1 Q (90, [aO 12 71, aI x1, aI x2, aI x3, aI x4, aI x5], [], σ) :=
  run_intro (Cl_mono lay1 d) [44, 68, 90] 600 h
set_option maxRecDepth 50000 in
theorem bk_R_rows_0 {d : Nat} {σ : St} {Q : Option AV → St → Prop} (x1 : Int32)
    (h : Cl lay1 d M_R_in [aJ x1.toInt64, aJ (0 : Int64), aJ (3 : Int64)] σ (rI fun r2 σ1 => (r2 = 0 → Q (some (aI (-1 : Int32))) σ1) ∧ (¬ r2 = 0 → ((gI σ1 71 44) = 0 → Q (some (aI (-4 : Int32))) σ1) ∧ (¬ (gI σ1 71 44) = 0 → (x1 = 0 → Q (some (aI (gI σ1 71 44))) σ1) ∧ (¬ x1 = 0 → (x1 = (1 : Int32) → Q (some (aI (gI σ1 71 45))) σ1) ∧ (¬ x1 = (1 : Int32) → (x1 = (2 : Int32) → Q (some (aI (gI σ1 71 46))) σ1) ∧ (¬ x1 = (2 : Int32) → Q (some (aI (gI σ1 71 47))) σ1))))))) : Cl lay1 (d + 1) M_R_rows [aO 12 71, aI x1] σ Q :=
  run_intro (Cl_mono lay1 d) [] 600 h
set_option maxRecDepth 50000 in
theorem bk_R_after_0 {d : Nat} {σ : St} {Q : Option AV → St → Prop} (x1 : Int32) (x2 : Int32) (x3 : Int32) (x4 : Int32)
    (h : Cl lay1 d M_R_isPrime [aI x1] σ (rI fun r2 σ1 => (r2 = 0 → Q (some (aI (-1 : Int32))) σ1) ∧ (¬ r2 = 0 → ((gI σ1 71 29) = 0 → Q (some (aI (-1 : Int32))) σ1) ∧ (¬ (gI σ1 71 29) = 0 → Cl lay1 d M_R_in [aJ x2.toInt64, aJ (0 : Int64), aJ (x1 - (1 : Int32)).toInt64] σ1 (rI fun r4 σ3 => (r4 = 0 → Q (some (aI (-1 : Int32))) σ3) ∧ (¬ r4 = 0 → Cl lay1 d M_R_in [aJ x3.toInt64, aJ (0 : Int64), aJ (x1 - (1 : Int32)).toInt64] σ3 (rI fun r6 σ5 => (r6 = 0 → Q (some (aI (-1 : Int32))) σ5) ∧ (¬ r6 = 0 → Cl lay1 d M_R_in [aJ x4.toInt64, aJ (0 : Int64), aJ (1000 : Int64)] σ5 (rI fun r8 σ7 => (r8 = 0 → Q (some (aI (-1 : Int32))) σ7) ∧ (¬ r8 = 0 → Cl lay1 d M_R_weighs [aO 12 71, aI x1] σ7 (rI fun r10 σ9 => (r10 = 0 → Q (some (aI (-2 : Int32))) σ9) ∧ (¬ r10 = 0 → Wp lay1 rtOf (Cl lay1 d) k_R_after 1 Q (76, [aO 12 71, aI x1, aI x2, aI x3, aI x4, aI ((x2 * x1) + x3), aI (0 : Int32)], [], σ9))))))))))))) : Cl lay1 (d + 1) M_R_after [aO 12 71, aI x1, aI x2, aI x3, aI x4] σ Q :=
  run_intro (Cl_mono lay1 d) [76] 600 h
set_option maxRecDepth 50000 in
theorem bk_R_after_76 {d : Nat} {σ : St} {Q : Option AV → St → Prop} (x1 : Int32) (u2 : AV) (u3 : AV) (x4 : Int32) (x5 : Int32) (x6 : Int32)
    (h : (x4 ≤ x6 → Q (some (aI x5)) σ) ∧ (¬ x4 ≤ x6 → Cl lay1 d M_R_rounds [aO 12 71, aI x1, aI x5] σ (rI fun r2 σ1 => Wp lay1 rtOf (Cl lay1 d) k_R_after 1 Q (76, [aO 12 71, aI x1, u2, u3, aI x4, aI r2, aI (x6 + (1 : Int32))], [], σ1)))) : Wp lay1 rtOf (Cl lay1 d) k_R_after 1 Q (76, [aO 12 71, aI x1, u2, u3, aI x4, aI x5, aI x6], [], σ) :=
  run_intro (Cl_mono lay1 d) [76] 600 h
set_option maxRecDepth 50000 in
theorem bk_R_count_0 {d : Nat} {σ : St} {Q : Option AV → St → Prop} (x1 : Int32)
    (h : (x1 = (0 : Int32) → Q (some (aI (gI σ 71 1))) σ) ∧ (¬ x1 = (0 : Int32) → (x1 = (1 : Int32) → Q (some (aI (gI σ 71 29))) σ) ∧ (¬ x1 = (1 : Int32) → (x1 = (2 : Int32) → Q (some (aI (gI σ 71 30))) σ) ∧ (¬ x1 = (2 : Int32) → (x1 = (3 : Int32) → Q (some (aI (gI σ 71 31))) σ) ∧ (¬ x1 = (3 : Int32) → (x1 = (4 : Int32) → Q (some (aI (gI σ 71 42))) σ) ∧ (¬ x1 = (4 : Int32) → Q (some (aI (-1 : Int32))) σ)))))) : Cl lay1 (d + 1) M_R_count [aO 12 71, aI x1] σ Q :=
  run_intro (Cl_mono lay1 d) [] 600 h
end
section
set_option maxRecDepth 50000 in
theorem bk_Law_law_0 {d : Nat} {σ : St} {Q : Option AV → St → Prop} 
    (h : nn (sN σ) (Cl lay1 d M_C_init [aO 11 (sN σ)] (nw σ 11 (nF 11)) (rV fun σ1 => nn (sN σ1) (Cl lay1 d M_R_init [aO 12 (sN σ1)] (nw σ1 12 (nF 12)) (rV fun σ2 => Wp lay1 rtOf (Cl lay1 d) k_Law_law 2 Q (18, [aO 22 1, aO 11 (sN σ), aO 12 (sN σ1), aI (0 : Int32)], [], σ2)))))) : Wp lay1 rtOf (Cl lay1 d) k_Law_law 2 Q (0, [aO 22 1, aZ, aZ, aZ], [], σ) :=
  run_intro (Cl_mono lay1 d) [18, 627] 600 h
set_option maxRecDepth 50000 in
theorem bk_Law_law_18 {d : Nat} {σ : St} {Q : Option AV → St → Prop} (x3 : Int32)
    (h : (((Int32.ofNat (gN σ 1)) - (5 : Int32)) < x3 → ((1 : Int32) = 0 ∨ (1 : Int32) = 1) ∧ Q (some (aI (1 : Int32))) σ) ∧ (¬ ((Int32.ofNat (gN σ 1)) - (5 : Int32)) < x3 → inb x3 (gN σ 1) ∧ ((((gI σ 1 (ix x3)) &&& (31 : Int32)) = (0 : Int32) → inb (x3 + (1 : Int32)) (gN σ 1) ∧ (inb (x3 + (2 : Int32)) (gN σ 1) ∧ (inb (x3 + (3 : Int32)) (gN σ 1) ∧ (Cl lay1 d M_C_feed [aO 11 3, aI (gI σ 1 (ix (x3 + (1 : Int32)))), aJ (((gI σ 1 (ix (x3 + (2 : Int32)))).toInt64 <<< ((32 : Int32).toInt64 &&& 63)) ||| ((gI σ 1 (ix (x3 + (3 : Int32)))).toInt64 &&& (4294967295 : Int64)))] σ (rI fun r66 σ65 => inb (x3 + (1 : Int32)) (gN σ65 1) ∧ (inb (x3 + (2 : Int32)) (gN σ65 1) ∧ (inb (x3 + (3 : Int32)) (gN σ65 1) ∧ (Cl lay1 d M_R_feed [aO 12 71, aI (gI σ65 1 (ix (x3 + (1 : Int32)))), aJ (((gI σ65 1 (ix (x3 + (2 : Int32)))).toInt64 <<< ((32 : Int32).toInt64 &&& 63)) ||| ((gI σ65 1 (ix (x3 + (3 : Int32)))).toInt64 &&& (4294967295 : Int64)))] σ65 (rI fun r68 σ67 => (r66 = r68 → Wp lay1 rtOf (Cl lay1 d) k_Law_law 2 Q (627, [aO 22 1, aO 11 3, aO 12 71, aI x3], [], σ67)) ∧ (¬ r66 = r68 → ((0 : Int32) = 0 ∨ (0 : Int32) = 1) ∧ Q (some (aI (0 : Int32))) σ67)))))))))) ∧ (¬ ((gI σ 1 (ix x3)) &&& (31 : Int32)) = (0 : Int32) → (((gI σ 1 (ix x3)) &&& (31 : Int32)) = (1 : Int32) → Cl lay1 d M_C_read [aO 11 3] σ (rI fun r62 σ61 => Cl lay1 d M_R_read [aO 12 71] σ61 (rI fun r64 σ63 => (r62 = r64 → Wp lay1 rtOf (Cl lay1 d) k_Law_law 2 Q (627, [aO 22 1, aO 11 3, aO 12 71, aI x3], [], σ63)) ∧ (¬ r62 = r64 → ((0 : Int32) = 0 ∨ (0 : Int32) = 1) ∧ Q (some (aI (0 : Int32))) σ63)))) ∧ (¬ ((gI σ 1 (ix x3)) &&& (31 : Int32)) = (1 : Int32) → (((gI σ 1 (ix x3)) &&& (31 : Int32)) = (2 : Int32) → Cl lay1 d M_C_place [aO 11 3] σ (rI fun r58 σ57 => Cl lay1 d M_R_place [aO 12 71] σ57 (rI fun r60 σ59 => (r58 = r60 → Wp lay1 rtOf (Cl lay1 d) k_Law_law 2 Q (627, [aO 22 1, aO 11 3, aO 12 71, aI x3], [], σ59)) ∧ (¬ r58 = r60 → ((0 : Int32) = 0 ∨ (0 : Int32) = 1) ∧ Q (some (aI (0 : Int32))) σ59)))) ∧ (¬ ((gI σ 1 (ix x3)) &&& (31 : Int32)) = (2 : Int32) → (((gI σ 1 (ix x3)) &&& (31 : Int32)) = (3 : Int32) → inb (x3 + (1 : Int32)) (gN σ 1) ∧ (inb (x3 + (2 : Int32)) (gN σ 1) ∧ (Cl lay1 d M_C_part [aO 11 3, aI (gI σ 1 (ix (x3 + (1 : Int32)))), aI (gI σ 1 (ix (x3 + (2 : Int32))))] σ (rI fun r54 σ53 => inb (x3 + (1 : Int32)) (gN σ53 1) ∧ (inb (x3 + (2 : Int32)) (gN σ53 1) ∧ (Cl lay1 d M_R_part [aO 12 71, aI (gI σ53 1 (ix (x3 + (1 : Int32)))), aI (gI σ53 1 (ix (x3 + (2 : Int32))))] σ53 (rI fun r56 σ55 => (r54 = r56 → Wp lay1 rtOf (Cl lay1 d) k_Law_law 2 Q (627, [aO 22 1, aO 11 3, aO 12 71, aI x3], [], σ55)) ∧ (¬ r54 = r56 → ((0 : Int32) = 0 ∨ (0 : Int32) = 1) ∧ Q (some (aI (0 : Int32))) σ55)))))))) ∧ (¬ ((gI σ 1 (ix x3)) &&& (31 : Int32)) = (3 : Int32) → (((gI σ 1 (ix x3)) &&& (31 : Int32)) = (4 : Int32) → inb (x3 + (1 : Int32)) (gN σ 1) ∧ (inb (x3 + (2 : Int32)) (gN σ 1) ∧ (inb (x3 + (3 : Int32)) (gN σ 1) ∧ (Cl lay1 d M_C_kick [aO 11 3, aI (gI σ 1 (ix (x3 + (1 : Int32)))), aI (gI σ 1 (ix (x3 + (2 : Int32)))), aI (gI σ 1 (ix (x3 + (3 : Int32))))] σ (rI fun r50 σ49 => inb (x3 + (1 : Int32)) (gN σ49 1) ∧ (inb (x3 + (2 : Int32)) (gN σ49 1) ∧ (inb (x3 + (3 : Int32)) (gN σ49 1) ∧ (Cl lay1 d M_R_kick [aO 12 71, aI (gI σ49 1 (ix (x3 + (1 : Int32)))), aI (gI σ49 1 (ix (x3 + (2 : Int32)))), aI (gI σ49 1 (ix (x3 + (3 : Int32))))] σ49 (rI fun r52 σ51 => (r50 = r52 → Wp lay1 rtOf (Cl lay1 d) k_Law_law 2 Q (627, [aO 22 1, aO 11 3, aO 12 71, aI x3], [], σ51)) ∧ (¬ r50 = r52 → ((0 : Int32) = 0 ∨ (0 : Int32) = 1) ∧ Q (some (aI (0 : Int32))) σ51)))))))))) ∧ (¬ ((gI σ 1 (ix x3)) &&& (31 : Int32)) = (4 : Int32) → (((gI σ 1 (ix x3)) &&& (31 : Int32)) = (5 : Int32) → inb (x3 + (1 : Int32)) (gN σ 1) ∧ (inb (x3 + (2 : Int32)) (gN σ 1) ∧ (Cl lay1 d M_C_table [aO 11 3, aI (gI σ 1 (ix (x3 + (1 : Int32)))), aI (gI σ 1 (ix (x3 + (2 : Int32))))] σ (rI fun r46 σ45 => inb (x3 + (1 : Int32)) (gN σ45 1) ∧ (inb (x3 + (2 : Int32)) (gN σ45 1) ∧ (Cl lay1 d M_R_table [aO 12 71, aI (gI σ45 1 (ix (x3 + (1 : Int32)))), aI (gI σ45 1 (ix (x3 + (2 : Int32))))] σ45 (rI fun r48 σ47 => (r46 = r48 → Wp lay1 rtOf (Cl lay1 d) k_Law_law 2 Q (627, [aO 22 1, aO 11 3, aO 12 71, aI x3], [], σ47)) ∧ (¬ r46 = r48 → ((0 : Int32) = 0 ∨ (0 : Int32) = 1) ∧ Q (some (aI (0 : Int32))) σ47)))))))) ∧ (¬ ((gI σ 1 (ix x3)) &&& (31 : Int32)) = (5 : Int32) → (((gI σ 1 (ix x3)) &&& (31 : Int32)) = (6 : Int32) → inb (x3 + (1 : Int32)) (gN σ 1) ∧ (Cl lay1 d M_C_round [aO 11 3, aI (gI σ 1 (ix (x3 + (1 : Int32))))] σ (rI fun r42 σ41 => inb (x3 + (1 : Int32)) (gN σ41 1) ∧ (Cl lay1 d M_R_round [aO 12 71, aI (gI σ41 1 (ix (x3 + (1 : Int32))))] σ41 (rI fun r44 σ43 => (r42 = r44 → Wp lay1 rtOf (Cl lay1 d) k_Law_law 2 Q (627, [aO 22 1, aO 11 3, aO 12 71, aI x3], [], σ43)) ∧ (¬ r42 = r44 → ((0 : Int32) = 0 ∨ (0 : Int32) = 1) ∧ Q (some (aI (0 : Int32))) σ43)))))) ∧ (¬ ((gI σ 1 (ix x3)) &&& (31 : Int32)) = (6 : Int32) → (((gI σ 1 (ix x3)) &&& (31 : Int32)) = (7 : Int32) → inb (x3 + (1 : Int32)) (gN σ 1) ∧ (Cl lay1 d M_C_widths [aO 11 3, aI (gI σ 1 (ix (x3 + (1 : Int32))))] σ (rI fun r38 σ37 => inb (x3 + (1 : Int32)) (gN σ37 1) ∧ (Cl lay1 d M_R_widths [aO 12 71, aI (gI σ37 1 (ix (x3 + (1 : Int32))))] σ37 (rI fun r40 σ39 => (r38 = r40 → Wp lay1 rtOf (Cl lay1 d) k_Law_law 2 Q (627, [aO 22 1, aO 11 3, aO 12 71, aI x3], [], σ39)) ∧ (¬ r38 = r40 → ((0 : Int32) = 0 ∨ (0 : Int32) = 1) ∧ Q (some (aI (0 : Int32))) σ39)))))) ∧ (¬ ((gI σ 1 (ix x3)) &&& (31 : Int32)) = (7 : Int32) → (((gI σ 1 (ix x3)) &&& (31 : Int32)) = (8 : Int32) → Cl lay1 d M_C_turns [aO 11 3] σ (rI fun r34 σ33 => Cl lay1 d M_R_turns [aO 12 71] σ33 (rI fun r36 σ35 => (r34 = r36 → Wp lay1 rtOf (Cl lay1 d) k_Law_law 2 Q (627, [aO 22 1, aO 11 3, aO 12 71, aI x3], [], σ35)) ∧ (¬ r34 = r36 → ((0 : Int32) = 0 ∨ (0 : Int32) = 1) ∧ Q (some (aI (0 : Int32))) σ35)))) ∧ (¬ ((gI σ 1 (ix x3)) &&& (31 : Int32)) = (8 : Int32) → (((gI σ 1 (ix x3)) &&& (31 : Int32)) = (9 : Int32) → inb (x3 + (1 : Int32)) (gN σ 1) ∧ (Cl lay1 d M_C_way [aO 11 3, aI (gI σ 1 (ix (x3 + (1 : Int32))))] σ (rI fun r30 σ29 => inb (x3 + (1 : Int32)) (gN σ29 1) ∧ (Cl lay1 d M_R_way [aO 12 71, aI (gI σ29 1 (ix (x3 + (1 : Int32))))] σ29 (rI fun r32 σ31 => (r30 = r32 → Wp lay1 rtOf (Cl lay1 d) k_Law_law 2 Q (627, [aO 22 1, aO 11 3, aO 12 71, aI x3], [], σ31)) ∧ (¬ r30 = r32 → ((0 : Int32) = 0 ∨ (0 : Int32) = 1) ∧ Q (some (aI (0 : Int32))) σ31)))))) ∧ (¬ ((gI σ 1 (ix x3)) &&& (31 : Int32)) = (9 : Int32) → (((gI σ 1 (ix x3)) &&& (31 : Int32)) = (10 : Int32) → inb (x3 + (1 : Int32)) (gN σ 1) ∧ (inb (x3 + (2 : Int32)) (gN σ 1) ∧ (Cl lay1 d M_C_answer [aO 11 3, aI (gI σ 1 (ix (x3 + (1 : Int32)))), aI (gI σ 1 (ix (x3 + (2 : Int32))))] σ (rI fun r26 σ25 => inb (x3 + (1 : Int32)) (gN σ25 1) ∧ (inb (x3 + (2 : Int32)) (gN σ25 1) ∧ (Cl lay1 d M_R_answer [aO 12 71, aI (gI σ25 1 (ix (x3 + (1 : Int32)))), aI (gI σ25 1 (ix (x3 + (2 : Int32))))] σ25 (rI fun r28 σ27 => (r26 = r28 → Wp lay1 rtOf (Cl lay1 d) k_Law_law 2 Q (627, [aO 22 1, aO 11 3, aO 12 71, aI x3], [], σ27)) ∧ (¬ r26 = r28 → ((0 : Int32) = 0 ∨ (0 : Int32) = 1) ∧ Q (some (aI (0 : Int32))) σ27)))))))) ∧ (¬ ((gI σ 1 (ix x3)) &&& (31 : Int32)) = (10 : Int32) → (((gI σ 1 (ix x3)) &&& (31 : Int32)) = (11 : Int32) → inb (x3 + (1 : Int32)) (gN σ 1) ∧ (inb (x3 + (2 : Int32)) (gN σ 1) ∧ (inb (x3 + (3 : Int32)) (gN σ 1) ∧ (Cl lay1 d M_C_bump [aO 11 3, aI (gI σ 1 (ix (x3 + (1 : Int32)))), aI (gI σ 1 (ix (x3 + (2 : Int32)))), aI (gI σ 1 (ix (x3 + (3 : Int32))))] σ (rI fun r22 σ21 => inb (x3 + (1 : Int32)) (gN σ21 1) ∧ (inb (x3 + (2 : Int32)) (gN σ21 1) ∧ (inb (x3 + (3 : Int32)) (gN σ21 1) ∧ (Cl lay1 d M_R_bump [aO 12 71, aI (gI σ21 1 (ix (x3 + (1 : Int32)))), aI (gI σ21 1 (ix (x3 + (2 : Int32)))), aI (gI σ21 1 (ix (x3 + (3 : Int32))))] σ21 (rI fun r24 σ23 => (r22 = r24 → Wp lay1 rtOf (Cl lay1 d) k_Law_law 2 Q (627, [aO 22 1, aO 11 3, aO 12 71, aI x3], [], σ23)) ∧ (¬ r22 = r24 → ((0 : Int32) = 0 ∨ (0 : Int32) = 1) ∧ Q (some (aI (0 : Int32))) σ23)))))))))) ∧ (¬ ((gI σ 1 (ix x3)) &&& (31 : Int32)) = (11 : Int32) → (((gI σ 1 (ix x3)) &&& (31 : Int32)) = (12 : Int32) → inb (x3 + (1 : Int32)) (gN σ 1) ∧ (inb (x3 + (2 : Int32)) (gN σ 1) ∧ (Cl lay1 d M_C_number [aO 11 3, aI (gI σ 1 (ix (x3 + (1 : Int32)))), aI (gI σ 1 (ix (x3 + (2 : Int32))))] σ (rI fun r18 σ17 => inb (x3 + (1 : Int32)) (gN σ17 1) ∧ (inb (x3 + (2 : Int32)) (gN σ17 1) ∧ (Cl lay1 d M_R_number [aO 12 71, aI (gI σ17 1 (ix (x3 + (1 : Int32)))), aI (gI σ17 1 (ix (x3 + (2 : Int32))))] σ17 (rI fun r20 σ19 => (r18 = r20 → Wp lay1 rtOf (Cl lay1 d) k_Law_law 2 Q (627, [aO 22 1, aO 11 3, aO 12 71, aI x3], [], σ19)) ∧ (¬ r18 = r20 → ((0 : Int32) = 0 ∨ (0 : Int32) = 1) ∧ Q (some (aI (0 : Int32))) σ19)))))))) ∧ (¬ ((gI σ 1 (ix x3)) &&& (31 : Int32)) = (12 : Int32) → (((gI σ 1 (ix x3)) &&& (31 : Int32)) = (13 : Int32) → inb (x3 + (1 : Int32)) (gN σ 1) ∧ (Cl lay1 d M_C_grid [aO 11 3, aI (gI σ 1 (ix (x3 + (1 : Int32))))] σ (rI fun r14 σ13 => inb (x3 + (1 : Int32)) (gN σ13 1) ∧ (Cl lay1 d M_R_grid [aO 12 71, aI (gI σ13 1 (ix (x3 + (1 : Int32))))] σ13 (rI fun r16 σ15 => (r14 = r16 → Wp lay1 rtOf (Cl lay1 d) k_Law_law 2 Q (627, [aO 22 1, aO 11 3, aO 12 71, aI x3], [], σ15)) ∧ (¬ r14 = r16 → ((0 : Int32) = 0 ∨ (0 : Int32) = 1) ∧ Q (some (aI (0 : Int32))) σ15)))))) ∧ (¬ ((gI σ 1 (ix x3)) &&& (31 : Int32)) = (13 : Int32) → (((gI σ 1 (ix x3)) &&& (31 : Int32)) = (14 : Int32) → inb (x3 + (1 : Int32)) (gN σ 1) ∧ (Cl lay1 d M_C_rows [aO 11 3, aI (gI σ 1 (ix (x3 + (1 : Int32))))] σ (rI fun r10 σ9 => inb (x3 + (1 : Int32)) (gN σ9 1) ∧ (Cl lay1 d M_R_rows [aO 12 71, aI (gI σ9 1 (ix (x3 + (1 : Int32))))] σ9 (rI fun r12 σ11 => (r10 = r12 → Wp lay1 rtOf (Cl lay1 d) k_Law_law 2 Q (627, [aO 22 1, aO 11 3, aO 12 71, aI x3], [], σ11)) ∧ (¬ r10 = r12 → ((0 : Int32) = 0 ∨ (0 : Int32) = 1) ∧ Q (some (aI (0 : Int32))) σ11)))))) ∧ (¬ ((gI σ 1 (ix x3)) &&& (31 : Int32)) = (14 : Int32) → (((gI σ 1 (ix x3)) &&& (31 : Int32)) = (15 : Int32) → inb (x3 + (1 : Int32)) (gN σ 1) ∧ (inb (x3 + (2 : Int32)) (gN σ 1) ∧ (inb (x3 + (3 : Int32)) (gN σ 1) ∧ (inb (x3 + (4 : Int32)) (gN σ 1) ∧ (Cl lay1 d M_C_after [aO 11 3, aI (gI σ 1 (ix (x3 + (1 : Int32)))), aI (gI σ 1 (ix (x3 + (2 : Int32)))), aI (gI σ 1 (ix (x3 + (3 : Int32)))), aI (gI σ 1 (ix (x3 + (4 : Int32))))] σ (rI fun r6 σ5 => inb (x3 + (1 : Int32)) (gN σ5 1) ∧ (inb (x3 + (2 : Int32)) (gN σ5 1) ∧ (inb (x3 + (3 : Int32)) (gN σ5 1) ∧ (inb (x3 + (4 : Int32)) (gN σ5 1) ∧ (Cl lay1 d M_R_after [aO 12 71, aI (gI σ5 1 (ix (x3 + (1 : Int32)))), aI (gI σ5 1 (ix (x3 + (2 : Int32)))), aI (gI σ5 1 (ix (x3 + (3 : Int32)))), aI (gI σ5 1 (ix (x3 + (4 : Int32))))] σ5 (rI fun r8 σ7 => (r6 = r8 → Wp lay1 rtOf (Cl lay1 d) k_Law_law 2 Q (627, [aO 22 1, aO 11 3, aO 12 71, aI x3], [], σ7)) ∧ (¬ r6 = r8 → ((0 : Int32) = 0 ∨ (0 : Int32) = 1) ∧ Q (some (aI (0 : Int32))) σ7)))))))))))) ∧ (¬ ((gI σ 1 (ix x3)) &&& (31 : Int32)) = (15 : Int32) → (((gI σ 1 (ix x3)) &&& (31 : Int32)) = (16 : Int32) → inb (x3 + (1 : Int32)) (gN σ 1) ∧ (Cl lay1 d M_C_count [aO 11 3, aI (gI σ 1 (ix (x3 + (1 : Int32))))] σ (rI fun r2 σ1 => inb (x3 + (1 : Int32)) (gN σ1 1) ∧ (Cl lay1 d M_R_count [aO 12 71, aI (gI σ1 1 (ix (x3 + (1 : Int32))))] σ1 (rI fun r4 σ3 => (r2 = r4 → Wp lay1 rtOf (Cl lay1 d) k_Law_law 2 Q (627, [aO 22 1, aO 11 3, aO 12 71, aI x3], [], σ3)) ∧ (¬ r2 = r4 → ((0 : Int32) = 0 ∨ (0 : Int32) = 1) ∧ Q (some (aI (0 : Int32))) σ3)))))) ∧ (¬ ((gI σ 1 (ix x3)) &&& (31 : Int32)) = (16 : Int32) → Wp lay1 rtOf (Cl lay1 d) k_Law_law 2 Q (627, [aO 22 1, aO 11 3, aO 12 71, aI x3], [], σ))))))))))))))))))))) : Wp lay1 rtOf (Cl lay1 d) k_Law_law 2 Q (18, [aO 22 1, aO 11 3, aO 12 71, aI x3], [], σ) :=
  run_intro (Cl_mono lay1 d) [18, 627] 600 h
set_option maxRecDepth 50000 in
theorem bk_Law_law_627 {d : Nat} {σ : St} {Q : Option AV → St → Prop} (x3 : Int32)
    (h : Wp lay1 rtOf (Cl lay1 d) k_Law_law 2 Q (18, [aO 22 1, aO 11 3, aO 12 71, aI (x3 + (5 : Int32))], [], σ)) : Wp lay1 rtOf (Cl lay1 d) k_Law_law 2 Q (627, [aO 22 1, aO 11 3, aO 12 71, aI x3], [], σ) :=
  run_intro (Cl_mono lay1 d) [18, 627] 600 h
end
section
/-! ===== LAYER 3, A: numbers ===== -/
def L64 (v : Int) : Int64 := Int64.ofInt v
theorem L64_i {v : Int} (h : -9223372036854775808 ≤ v) (h2 : v < 9223372036854775808) : (L64 v).toInt = v := Int64.toInt_ofInt_of_le h h2
theorem L64_mul (a b : Int) : L64 a * L64 b = L64 (a * b) := (Int64.ofInt_mul a b).symm
theorem L64_add (a b : Int) : L64 a + L64 b = L64 (a + b) := (Int64.ofInt_add a b).symm
theorem L64_sub (a b : Int) : L64 a - L64 b = L64 (a - b) := (Int64.ofInt_sub a b).symm
theorem L64_neg (a : Int) : - L64 a = L64 (-a) := (Int64.ofInt_neg a).symm
theorem L64_of (x : Int64) : L64 x.toInt = x := Int64.ofInt_toInt x
theorem L64_inj {a b : Int} (h1 : -9223372036854775808 ≤ a) (h2 : a < 9223372036854775808) (h3 : -9223372036854775808 ≤ b) (h4 : b < 9223372036854775808) : L64 a = L64 b ↔ a = b := by
  rw [← Int64.toInt_inj, L64_i h1 h2, L64_i h3 h4]
theorem L64_0 : (0 : Int64) = L64 0 := rfl
theorem L64_1 : (1 : Int64) = L64 1 := rfl
theorem L64_ne0 {a : Int} (h1 : -9223372036854775808 ≤ a) (h2 : a < 9223372036854775808) (h : a ≠ 0) : ¬ L64 a = 0 := by
  rw [L64_0, L64_inj h1 h2 (by omega) (by omega)]
  exact h
theorem L64_div {a g : Int} (h1 : -9223372036854775808 < a) (h2 : a < 9223372036854775808) (h3 : 0 < g) (h4 : g < 9223372036854775808) : L64 a / L64 g = L64 (a.tdiv g) := by
  apply Int64.toInt_inj.mp
  have hg : L64 g ≠ -1 := fun z => by
    have := congrArg Int64.toInt z
    rw [L64_i (by omega) h4] at this
    have e : (-1 : Int64).toInt = -1 := by decide
    omega
  have hb : (a.tdiv g).natAbs ≤ a.natAbs := Int.natAbs_tdiv_le_natAbs a g
  rw [Int64.toInt_div_of_ne_right _ _ hg, L64_i (by omega) h2, L64_i (by omega) h4, L64_i (by omega) (by omega)]
/-- a remainder as the machine makes it -/
theorem L64_rem {m n : Nat} (hm : m < 9223372036854775808) (hn : n < 9223372036854775808) (h : 0 < n) : L64 m - L64 m / L64 n * L64 n = L64 (m % n : Nat) := by
  rw [L64_div (by omega) (by omega) (by omega) (by omega), L64_mul, L64_sub]
  congr 1
  rw [Int.tdiv_eq_ediv_of_nonneg (by omega)]
  have := Int.emod_add_mul_ediv (m : Int) n
  rw [Int.mul_comm] at this
  push_cast
  omega
theorem cmpL_eq {a b : Int} (h1 : -9223372036854775808 ≤ a) (h2 : a < 9223372036854775808) (h3 : -9223372036854775808 ≤ b) (h4 : b < 9223372036854775808) : lg_cmp (L64 a) (L64 b) = 0 ↔ a = b := by rw [lg_cmp_eq, L64_inj h1 h2 h3 h4]
theorem cmpL_le {a b : Int} (h1 : -9223372036854775808 ≤ a) (h2 : a < 9223372036854775808) (h3 : -9223372036854775808 ≤ b) (h4 : b < 9223372036854775808) : lg_cmp (L64 a) (L64 b) ≤ 0 ↔ a ≤ b := by rw [lg_cmp_le, Int64.le_iff_toInt_le, L64_i h1 h2, L64_i h3 h4]
theorem cmpL_ge {a b : Int} (h1 : -9223372036854775808 ≤ a) (h2 : a < 9223372036854775808) (h3 : -9223372036854775808 ≤ b) (h4 : b < 9223372036854775808) : 0 ≤ lg_cmp (L64 a) (L64 b) ↔ b ≤ a := by rw [lg_cmp_ge, Int64.le_iff_toInt_le, L64_i h1 h2, L64_i h3 h4]
theorem cmpL_lt {a b : Int} (h1 : -9223372036854775808 ≤ a) (h2 : a < 9223372036854775808) (h3 : -9223372036854775808 ≤ b) (h4 : b < 9223372036854775808) : lg_cmp (L64 a) (L64 b) < 0 ↔ a < b := by rw [lg_cmp_lt, Int64.lt_iff_toInt_lt, L64_i h1 h2, L64_i h3 h4]
theorem cmpL_gt {a b : Int} (h1 : -9223372036854775808 ≤ a) (h2 : a < 9223372036854775808) (h3 : -9223372036854775808 ≤ b) (h4 : b < 9223372036854775808) : 0 < lg_cmp (L64 a) (L64 b) ↔ b < a := by rw [lg_cmp_gt, Int64.lt_iff_toInt_lt, L64_i h1 h2, L64_i h3 h4]
theorem b01 : ((0 : Int32) = 0 ∨ (0 : Int32) = 1) := Or.inl rfl
theorem b11 : ((1 : Int32) = 0 ∨ (1 : Int32) = 1) := Or.inr rfl
section NUM
variable {d : Nat} {σ : St} {Q : Option AV → St → Prop}
theorem sp_abs {a : Int} (h1 : -9223372036854775808 < a) (h2 : a < 9223372036854775808) (h : Q (some (aJ (L64 a.natAbs))) σ) : Cl lay1 (d + 1) M_Jm_abs [aJ (L64 a)] σ Q := by
  refine bk_Jm_abs_0 _ ⟨fun c => ?_, fun c => ?_⟩
  · rw [L64_0, cmpL_ge (by omega) (by omega) (by omega) (by omega)] at c
    rw [show (a.natAbs : Int) = a by omega] at h
    exact h
  · rw [L64_0, cmpL_ge (by omega) (by omega) (by omega) (by omega)] at c
    rw [show (a.natAbs : Int) = -a by omega] at h
    rw [L64_neg]
    exact h
/-- the reference's Euclid -/
theorem sp_common_loop : ∀ (n m : Nat) (u0 u1 u2 u3 u8 u9 : AV), m < 9223372036854775808 → n < 9223372036854775808 → Q (some (aJ (L64 (Nat.gcd m n)))) σ → Wp lay1 rtOf (Cl lay1 d) k_R_common 3 Q (17, [u0, u1, u2, u3, aJ (L64 m), aZ, aJ (L64 n), aZ, u8, u9], [], σ) := by
  intro n
  induction n using Nat.strongRecOn with
  | ind n ih =>
    intro m u0 u1 u2 u3 u8 u9 hm hn h
    refine bk_R_common_17 u0 u1 u2 u3 _ _ u8 u9 ⟨fun c => ?_, fun c => ?_⟩
    · rw [L64_0, cmpL_eq (by omega) (by omega) (by omega) (by omega)] at c
      have : n = 0 := by omega
      subst this
      rw [Nat.gcd_zero_right] at h
      exact h
    · rw [L64_0, cmpL_eq (by omega) (by omega) (by omega) (by omega)] at c
      have hn0 : 0 < n := by omega
      have hlt := Nat.mod_lt m hn0
      refine ⟨L64_ne0 (by omega) (by omega) (by omega), ?_⟩
      rw [L64_rem hm hn hn0]
      refine ih (m % n) hlt n _ _ _ _ _ _ hn (by omega) ?_
      rw [Nat.gcd_comm n (m % n), ← Nat.gcd_rec, Nat.gcd_comm n m]
      exact h
theorem sp_common {a : Int} {b : Nat} (h1 : -9223372036854775808 < a) (h2 : a < 9223372036854775808) (h3 : b < 9223372036854775808) (h : Q (some (aJ (L64 (Nat.gcd a.natAbs b)))) σ) : Cl lay1 (d + 1) M_R_common [aJ (L64 a), aJ (L64 b)] σ Q := by
  refine bk_R_common_0 _ _ ⟨fun c => ?_, fun c => ?_⟩
  · rw [L64_0, cmpL_ge (by omega) (by omega) (by omega) (by omega)] at c
    have e : L64 a = L64 (a.natAbs : Nat) := by rw [show (a.natAbs : Int) = a by omega]
    rw [e]
    exact sp_common_loop b a.natAbs _ _ _ _ _ _ (by omega) h3 h
  · rw [L64_0, cmpL_ge (by omega) (by omega) (by omega) (by omega)] at c
    have e : - L64 a = L64 (a.natAbs : Nat) := by rw [L64_neg, show (a.natAbs : Int) = -a by omega]
    rw [e]
    exact sp_common_loop b a.natAbs _ _ _ _ _ _ (by omega) h3 h
theorem mod_half {n r : Nat} (h0 : 0 < r) (h : r < n) : 2 * (n % r) < n := by
  have h1 := Nat.mod_lt n h0
  have h2 := Nat.mod_add_div n r
  have h3 : 1 ≤ n / r := (Nat.le_div_iff_mul_le h0).mpr (by omega)
  have h4 : r * 1 ≤ r * (n / r) := Nat.mul_le_mul_left r h3
  omega
theorem nI_lt200 {k : Nat} (h : k < 200) : ¬ (200 : Int32) ≤ nI k := by
  rw [Int32.le_iff_toInt_le, nI_toInt (by omega)]
  have : (200 : Int32).toInt = 200 := by decide
  omega
/-- the component's Euclid: two steps halve, so 200 steps are enough -/
theorem sp_cd_loop : ∀ (k n m s : Nat) (u0 u1 u2 u3 u9 u10 : AV), n < 2 ^ k → k ≤ 63 → s + 2 * k < 200 → m < 9223372036854775808 → Q (some (aJ (L64 (Nat.gcd m n)))) σ → Wp lay1 rtOf (Cl lay1 d) k_C_commonDivisor 3 Q (9, [u0, u1, u2, u3, aJ (L64 m), aZ, aJ (L64 n), aZ, aI (nI s), u9, u10], [], σ) := by
  intro k
  induction k with
  | zero =>
    intro n m s u0 u1 u2 u3 u9 u10 hn hk hs hm h
    have : n = 0 := by simpa using hn
    subst this
    rw [Nat.gcd_zero_right] at h
    refine bk_C_commonDivisor_9 u0 u1 u2 u3 _ _ _ u9 u10 ⟨fun c => absurd c (nI_lt200 (by omega)), fun _ => ⟨fun _ => h, fun c => absurd ?_ c⟩⟩
    rw [L64_0]
    exact (cmpL_eq (by omega) (by omega) (by omega) (by omega)).mpr rfl
  | succ k ih =>
    intro n m s u0 u1 u2 u3 u9 u10 hn hk hs hm h
    have h63 : 2 ^ (k + 1) ≤ 2 ^ 63 := Nat.pow_le_pow_right (by decide) hk
    have hn63 : n < 9223372036854775808 := Nat.lt_of_lt_of_le hn h63
    refine bk_C_commonDivisor_9 u0 u1 u2 u3 _ _ _ u9 u10 ⟨fun c => absurd c (nI_lt200 (by omega)), fun _ => ⟨fun c => ?_, fun c => ?_⟩⟩
    · rw [L64_0, cmpL_eq (by omega) (by omega) (by omega) (by omega)] at c
      have : n = 0 := by omega
      subst this
      rw [Nat.gcd_zero_right] at h
      exact h
    · rw [L64_0, cmpL_eq (by omega) (by omega) (by omega) (by omega)] at c
      have hn0 : 0 < n := by omega
      have hlt := Nat.mod_lt m hn0
      refine ⟨L64_ne0 (by omega) (by omega) (by omega), ?_⟩
      rw [L64_rem hm hn63 hn0, nI_1]
      have h' : Q (some (aJ (L64 (Nat.gcd n (m % n))))) σ := by
        rw [Nat.gcd_comm n (m % n), ← Nat.gcd_rec, Nat.gcd_comm n m]
        exact h
      refine bk_C_commonDivisor_9 _ _ _ _ _ _ _ _ _ ⟨fun c => absurd c (nI_lt200 (by omega)), fun _ => ⟨fun c2 => ?_, fun c2 => ?_⟩⟩
      · rw [L64_0, cmpL_eq (by omega) (by omega) (by omega) (by omega)] at c2
        have e : m % n = 0 := by omega
        rw [e, Nat.gcd_zero_right] at h'
        exact h'
      · rw [L64_0, cmpL_eq (by omega) (by omega) (by omega) (by omega)] at c2
        have hr0 : 0 < m % n := by omega
        refine ⟨L64_ne0 (by omega) (by omega) (by omega), ?_⟩
        rw [L64_rem hn63 (by omega) hr0, nI_1]
        have hh := mod_half hr0 hlt
        refine ih (n % (m % n)) (m % n) (s + 1 + 1) _ _ _ _ _ _ (by rw [Nat.pow_succ] at hn; omega) (by omega) (by omega) (by omega) ?_
        rw [Nat.gcd_comm (m % n) (n % (m % n)), ← Nat.gcd_rec, Nat.gcd_comm (m % n) n]
        exact h'
theorem sp_cd {m n : Nat} (hm : m < 9223372036854775808) (hn : n < 9223372036854775808) (h : Q (some (aJ (L64 (Nat.gcd m n)))) σ) : Cl lay1 (d + 1) M_C_commonDivisor [aJ (L64 m), aJ (L64 n)] σ Q :=
  bk_C_commonDivisor_0 _ _ (sp_cd_loop 63 n m 0 _ _ _ _ _ _ hn (by omega) (by omega) hm h)
end NUM
end
section
/-! ===== LAYER 3, B: fractions ===== -/
/-- lowest terms; nothing where it is BIG -/
def fnm (a : Int) (b : Nat) : Option (Int × Nat) := if (a.tdiv (Nat.gcd a.natAbs b : Nat)).natAbs ≤ 1000000000 ∧ b / Nat.gcd a.natAbs b ≤ 1000000000 then some (a.tdiv (Nat.gcd a.natAbs b : Nat), b / Nat.gcd a.natAbs b) else none
theorem L64_B : (1000000000 : Int64) = L64 1000000000 := by decide +kernel
theorem L64_mB : (-1000000000 : Int64) = L64 (-1000000000) := by decide +kernel
def fOK (f : Int × Nat) : Prop := f.1.natAbs ≤ 1000000000 ∧ 0 < f.2 ∧ f.2 ≤ 1000000000
def fadd (x y : Int × Nat) : Option (Int × Nat) := fnm (x.1 * y.2 + y.1 * x.2) (x.2 * y.2)
def fsub (x y : Int × Nat) : Option (Int × Nat) := fnm (x.1 * y.2 - y.1 * x.2) (x.2 * y.2)
def fmul (x y : Int × Nat) : Option (Int × Nat) := fnm (x.1 * y.1) (x.2 * y.2)
def fdiv (x y : Int × Nat) : Option (Int × Nat) := if 0 < y.1 then fnm (x.1 * y.2) (x.2 * y.1.natAbs) else fnm (-x.1 * y.2) (x.2 * y.1.natAbs)
theorem fnm_ok {a : Int} {b : Nat} {f : Int × Nat} (hb : 0 < b) (h : fnm a b = some f) : fOK f := by
  unfold fnm at h
  split at h
  · next hc =>
    cases h
    refine ⟨hc.1, ?_, hc.2⟩
    have hg : 0 < Nat.gcd a.natAbs b := Nat.gcd_pos_of_pos_right _ hb
    exact Nat.div_pos (Nat.le_of_dvd hb (Nat.gcd_dvd_right _ _)) hg
  · cases h
theorem fOK_mul {a b : Int} (ha : a.natAbs ≤ 1000000000) (hb : b.natAbs ≤ 1000000000) : (a * b).natAbs ≤ 1000000000000000000 := by
  rw [Int.natAbs_mul]
  calc a.natAbs * b.natAbs ≤ 1000000000 * 1000000000 := Nat.mul_le_mul ha hb
    _ = 1000000000000000000 := by decide
theorem fOK_mulN {a b : Nat} (ha : a ≤ 1000000000) (hb : b ≤ 1000000000) : a * b ≤ 1000000000000000000 := by
  calc a * b ≤ 1000000000 * 1000000000 := Nat.mul_le_mul ha hb
    _ = 1000000000000000000 := by decide
def isF (σ : St) (j : Nat) (f : Int × Nat) : Prop := gL σ j 0 = L64 f.1 ∧ gL σ j 1 = L64 f.2
/-- what the component's arithmetic may change: fractions in S, the flag -/
def ar (S : List Nat) (σ τ : St) : Prop := sN τ = sN σ ∧ sS τ = sS σ ∧ gN τ = gN σ ∧ gR τ = gR σ ∧ (∀ j k, ¬ (j = 30 ∧ k = 0) → gI τ j k = gI σ j k) ∧ ∀ j, j ∉ S → ∀ k, gL τ j k = gL σ j k
theorem ar.rf (S : List Nat) (σ : St) : ar S σ σ := ⟨rfl, rfl, rfl, rfl, fun _ _ _ => rfl, fun _ _ _ => rfl⟩
theorem ar.trans {S : List Nat} {σ τ υ : St} (h : ar S σ τ) (g : ar S τ υ) : ar S σ υ :=
  ⟨g.1.trans h.1, g.2.1.trans h.2.1, g.2.2.1.trans h.2.2.1, g.2.2.2.1.trans h.2.2.2.1, fun j k q => (g.2.2.2.2.1 j k q).trans (h.2.2.2.2.1 j k q), fun j q k => (g.2.2.2.2.2 j q k).trans (h.2.2.2.2.2 j q k)⟩
theorem ar.mono {S T : List Nat} {σ τ : St} (h : ar S σ τ) (hs : ∀ j ∈ S, j ∈ T) : ar T σ τ :=
  ⟨h.1, h.2.1, h.2.2.1, h.2.2.2.1, h.2.2.2.2.1, fun j q k => h.2.2.2.2.2 j (fun z => q (hs j z)) k⟩
theorem ar.F {S : List Nat} {σ τ : St} (h : ar S σ τ) {j : Nat} {f : Int × Nat} (hj : j ∉ S) (hf : isF σ j f) : isF τ j f := ⟨(h.2.2.2.2.2 j hj 0).trans hf.1, (h.2.2.2.2.2 j hj 1).trans hf.2⟩
def stF (σ : St) (j : Nat) (f : Int × Nat) : St := pL (pL σ j 0 (L64 f.1)) j 1 (L64 f.2)
theorem stF_is (σ : St) (j : Nat) (f : Int × Nat) : isF (stF σ j f) j f := by
  unfold stF
  refine ⟨?_, ?_⟩
  · rw [gL_pL, if_neg (by omega), gL_pL, if_pos ⟨rfl, rfl⟩]
  · rw [gL_pL, if_pos ⟨rfl, rfl⟩]
theorem stF_ar (σ : St) (j : Nat) (f : Int × Nat) : ar [j] σ (stF σ j f) := by
  refine ⟨rfl, rfl, rfl, rfl, fun _ _ _ => rfl, fun i hi k => ?_⟩
  have : ¬ i = j := fun z => hi (by rw [z]; exact List.mem_singleton.mpr rfl)
  unfold stF
  rw [gL_pL, if_neg (fun z => this z.1), gL_pL, if_neg (fun z => this z.1)]
theorem flag_ar (S : List Nat) (σ : St) : ar S σ (pI σ 30 0 1) := ⟨rfl, rfl, rfl, rfl, fun j k h => by rw [gI_pI, if_neg h], fun _ _ _ => rfl⟩
/-- behind an operation on fraction t: r is told, or BIG is -/
def opP (S : List Nat) (σ : St) (t : Nat) (r : Option (Int × Nat)) (τ : St) : Prop := ar S σ τ ∧ (∃ f, isF τ t f ∧ fOK f) ∧ match r with
  | some f => isF τ t f ∧ gI τ 30 0 = gI σ 30 0
  | none => gI τ 30 0 = 1
section FRAC
variable {d : Nat} {σ : St} {Q : Option AV → St → Prop}
theorem gcd_facts {a : Int} {b : Nat} (hb : 0 < b) : 0 < Nat.gcd a.natAbs b ∧ Nat.gcd a.natAbs b ≤ b ∧ (a.tdiv (Nat.gcd a.natAbs b : Nat)).natAbs ≤ a.natAbs := ⟨Nat.gcd_pos_of_pos_right _ hb, Nat.le_of_dvd hb (Nat.gcd_dvd_right _ _), Int.natAbs_tdiv_le_natAbs _ _⟩
theorem tdivN (b g : Nat) : (b : Int).tdiv (g : Int) = ((b / g : Nat) : Int) := by
  rw [Int.tdiv_eq_ediv_of_nonneg (by omega)]
  rfl
theorem sp_settle {t : Nat} {a : Int} {b : Nat} (ha : a.natAbs ≤ 4000000000000000000) (hb0 : 0 < b) (hb : b ≤ 4000000000000000000) {x : Int × Nat} (hx : isF σ (t + 1) x) (hxo : fOK x) (h : ∀ τ, opP [t + 1] σ (t + 1) (fnm a b) τ → Q none τ) : Cl lay1 (d + 2) M_Rk_settle [aO 7 30, aO 0 (t + 1), aJ (L64 a), aJ (L64 b)] σ Q := by
  obtain ⟨g1, g2, g3⟩ := gcd_facts (a := a) hb0
  have big : ∀ τ, τ = pI σ 30 0 1 → fnm a b = none → Q none τ := by
    intro τ hτ hn
    refine h τ ?_
    rw [hn, hτ]
    exact ⟨flag_ar _ _, ⟨x, hx, hxo⟩, by show gI (pI σ 30 0 1) 30 0 = 1; rw [gI_pI, if_pos ⟨rfl, rfl⟩]⟩
  refine bk_Rk_settle_0 _ _ _ ?_
  refine sp_abs (by omega) (by omega) ?_
  refine sp_cd (by omega) (by omega) ?_
  refine ⟨fun _ => ⟨L64_ne0 (by omega) (by omega) (by omega), ?_⟩, fun c => absurd ?_ c⟩
  · rw [L64_div (by omega) (by omega) (by omega) (by omega)]
    refine sp_abs (by omega) (by omega) ?_
    refine ⟨fun c => ⟨b11, ?_⟩, fun c => ⟨L64_ne0 (by omega) (by omega) (by omega), ?_⟩⟩
    · rw [L64_B, cmpL_gt (by omega) (by omega) (by omega) (by omega)] at c
      exact big _ rfl (by unfold fnm; rw [if_neg (by omega)])
    · rw [L64_B, cmpL_gt (by omega) (by omega) (by omega) (by omega)] at c
      rw [L64_div (by omega) (by omega) (by omega) (by omega), tdivN]
      have hbd : b / Nat.gcd a.natAbs b ≤ b := Nat.div_le_self _ _
      have hq0 : (0 : Int) ≤ ((b / Nat.gcd a.natAbs b : Nat) : Int) := Int.natCast_nonneg _
      refine ⟨fun c2 => ⟨L64_ne0 (by omega) (by omega) (by omega), L64_ne0 (by omega) (by omega) (by omega), ?_⟩, fun c2 => ⟨b11, ?_⟩⟩
      · rw [L64_B, cmpL_le (by omega) (by omega) (by omega) (by omega)] at c2
        have hf : fnm a b = some (a.tdiv (Nat.gcd a.natAbs b : Nat), b / Nat.gcd a.natAbs b) := by unfold fnm; rw [if_pos ⟨by omega, by omega⟩]
        refine h _ ?_
        rw [hf]
        have hs := stF_is σ (t + 1) (a.tdiv (Nat.gcd a.natAbs b : Nat), b / Nat.gcd a.natAbs b)
        exact ⟨stF_ar σ (t + 1) (a.tdiv (Nat.gcd a.natAbs b : Nat), b / Nat.gcd a.natAbs b), ⟨_, hs, fnm_ok hb0 hf⟩, hs, rfl⟩
      · rw [L64_B, cmpL_le (by omega) (by omega) (by omega) (by omega)] at c2
        exact big _ rfl (by unfold fnm; rw [if_neg (by omega)])
  · rw [L64_0]
    exact (cmpL_gt (by omega) (by omega) (by omega) (by omega)).mpr (by omega)
theorem sp_plus {t u : Nat} {x y : Int × Nat} (hx : isF σ (t + 1) x) (hxo : fOK x) (hy : isF σ (u + 1) y) (hyo : fOK y) (h : ∀ τ, opP [t + 1] σ (t + 1) (fadd x y) τ → Q none τ) : Cl lay1 (d + 3) M_Rk_plus [aO 7 30, aO 0 (t + 1), aO 0 (u + 1)] σ Q := by
  refine bk_Rk_plus_0 _ _ ?_
  rw [hx.1, hx.2, hy.1, hy.2, L64_mul, L64_mul, L64_mul, L64_add, ← Int.natCast_mul]
  have h1 := fOK_mul hxo.1 (show (y.2 : Int).natAbs ≤ 1000000000 from hyo.2.2)
  have h2 := fOK_mul hyo.1 (show (x.2 : Int).natAbs ≤ 1000000000 from hxo.2.2)
  have h3 := fOK_mulN hxo.2.2 hyo.2.2
  exact sp_settle (by omega) (Nat.mul_pos hxo.2.1 hyo.2.1) (by omega) hx hxo h
theorem sp_minus {t u : Nat} {x y : Int × Nat} (hx : isF σ (t + 1) x) (hxo : fOK x) (hy : isF σ (u + 1) y) (hyo : fOK y) (h : ∀ τ, opP [t + 1] σ (t + 1) (fsub x y) τ → Q none τ) : Cl lay1 (d + 3) M_Rk_minus [aO 7 30, aO 0 (t + 1), aO 0 (u + 1)] σ Q := by
  refine bk_Rk_minus_0 _ _ ?_
  rw [hx.1, hx.2, hy.1, hy.2, L64_mul, L64_mul, L64_mul, L64_sub, ← Int.natCast_mul]
  have h1 := fOK_mul hxo.1 (show (y.2 : Int).natAbs ≤ 1000000000 from hyo.2.2)
  have h2 := fOK_mul hyo.1 (show (x.2 : Int).natAbs ≤ 1000000000 from hxo.2.2)
  have h3 := fOK_mulN hxo.2.2 hyo.2.2
  exact sp_settle (by omega) (Nat.mul_pos hxo.2.1 hyo.2.1) (by omega) hx hxo h
theorem sp_times {t u : Nat} {x y : Int × Nat} (hx : isF σ (t + 1) x) (hxo : fOK x) (hy : isF σ (u + 1) y) (hyo : fOK y) (h : ∀ τ, opP [t + 1] σ (t + 1) (fmul x y) τ → Q none τ) : Cl lay1 (d + 3) M_Rk_times [aO 7 30, aO 0 (t + 1), aO 0 (u + 1)] σ Q := by
  refine bk_Rk_times_0 _ _ ?_
  rw [hx.1, hx.2, hy.1, hy.2, L64_mul, L64_mul, ← Int.natCast_mul]
  have h1 := fOK_mul hxo.1 hyo.1
  have h3 := fOK_mulN hxo.2.2 hyo.2.2
  exact sp_settle (by omega) (Nat.mul_pos hxo.2.1 hyo.2.1) (by omega) hx hxo h
theorem sp_over {t u : Nat} {x y : Int × Nat} (hx : isF σ (t + 1) x) (hxo : fOK x) (hy : isF σ (u + 1) y) (hyo : fOK y) (hy0 : y.1 ≠ 0) (h : ∀ τ, opP [t + 1] σ (t + 1) (fdiv x y) τ → Q none τ) : Cl lay1 (d + 3) M_Rk_over [aO 7 30, aO 0 (t + 1), aO 0 (u + 1)] σ Q := by
  have hy1 := hyo.1
  have h1 := fOK_mul hxo.1 (show (y.2 : Int).natAbs ≤ 1000000000 from hyo.2.2)
  have h3 := fOK_mulN hxo.2.2 hyo.1
  refine bk_Rk_over_0 _ _ ⟨fun c => ?_, fun c => ?_⟩
  · rw [hy.1, L64_0, cmpL_le (by omega) (by omega) (by omega) (by omega)] at c
    refine ⟨fun c2 => ?_, fun _ => ?_⟩
    · rw [hy.1, L64_0, cmpL_ge (by omega) (by omega) (by omega) (by omega)] at c2
      exact absurd (by omega) hy0
    · have e : -(x.2 : Int) * y.1 = ((x.2 * y.1.natAbs : Nat) : Int) := by
        rw [Int.natCast_mul, show (y.1.natAbs : Int) = -y.1 by omega, Int.mul_neg, Int.neg_mul]
      rw [hx.1, hx.2, hy.1, hy.2, L64_neg, L64_neg, L64_mul, L64_mul, e]
      have h1' : (-x.1 * (y.2 : Int)).natAbs ≤ 1000000000000000000 := by rw [Int.neg_mul, Int.natAbs_neg]; exact h1
      refine sp_settle (by omega) (Nat.mul_pos hxo.2.1 (by omega)) (by omega) hx hxo (fun τ hτ => h τ ?_)
      unfold fdiv
      rw [if_neg (by omega)]
      exact hτ
  · rw [hy.1, L64_0, cmpL_le (by omega) (by omega) (by omega) (by omega)] at c
    have e : (x.2 : Int) * y.1 = ((x.2 * y.1.natAbs : Nat) : Int) := by
      rw [Int.natCast_mul, show (y.1.natAbs : Int) = y.1 by omega]
    rw [hx.1, hx.2, hy.1, hy.2, L64_mul, L64_mul, e]
    refine sp_settle (by omega) (Nat.mul_pos hxo.2.1 (by omega)) (by omega) hx hxo (fun τ hτ => h τ ?_)
    unfold fdiv
    rw [if_pos (by omega)]
    exact hτ
theorem sp_copy {t u : Nat} {y : Int × Nat} (hy : isF σ (u + 1) y) (h : ∀ τ, ar [t + 1] σ τ → isF τ (t + 1) y → gI τ 30 0 = gI σ 30 0 → Q none τ) : Cl lay1 (d + 1) M_Fr_copy [aO 0 (t + 1), aO 0 (u + 1)] σ Q := by
  refine bk_Fr_copy_0 _ _ ?_
  have e : pL (pL σ (t + 1) 0 (gL σ (u + 1) 0)) (t + 1) 1 (gL (pL σ (t + 1) 0 (gL σ (u + 1) 0)) (u + 1) 1) = stF σ (t + 1) y := by
    unfold stF
    rw [gL_pL, if_neg (by omega), hy.1, hy.2]
  rw [e]
  exact h _ (stF_ar _ _ _) (stF_is _ _ _) rfl
theorem sp_plusProduct {t u w : Nat} {x y z : Int × Nat} (hx : isF σ (t + 1) x) (hxo : fOK x) (hy : isF σ (u + 1) y) (hyo : fOK y) (hz : isF σ (w + 1) z) (hzo : fOK z) (ht : t ≠ 30) (hw : w ≠ 30) (h : ∀ τ, opP [t + 1, 31] σ (t + 1) ((fmul y z).bind (fadd x)) τ → Q none τ) : Cl lay1 (d + 4) M_Rk_plusProduct [aO 7 30, aO 0 (t + 1), aO 0 (u + 1), aO 0 (w + 1)] σ Q := by
  refine bk_Rk_plusProduct_0 _ _ _ ?_
  refine sp_copy (t := 30) hy (fun τ1 a1 f1 b1 => ?_)
  refine sp_times (t := 30) f1 hyo (a1.F (by simpa using hw) hz) hzo (fun τ2 p2 => ?_)
  obtain ⟨a2, ⟨g, hg, hgo⟩, r2⟩ := p2
  have hx2 : isF τ2 (t + 1) x := a2.F (by simpa using ht) (a1.F (by simpa using ht) hx)
  have a12 : ar [t + 1, 31] σ τ2 := (a1.trans a2).mono (by simp)
  cases hm : fmul y z with
  | none =>
    rw [hm] at r2
    refine sp_plus (u := 30) hx2 hxo hg hgo (fun τ3 p3 => h τ3 ?_)
    obtain ⟨a3, e3, r3⟩ := p3
    refine ⟨a12.trans (a3.mono (by simp)), e3, ?_⟩
    rw [hm]
    show gI τ3 30 0 = 1
    cases hf : fadd x g with
    | none => rw [hf] at r3; exact r3
    | some f => rw [hf] at r3; exact r3.2.trans r2
  | some g' =>
    rw [hm] at r2
    have hgo' : fOK g' := fnm_ok (Nat.mul_pos hyo.2.1 hzo.2.1) hm
    refine sp_plus (u := 30) hx2 hxo r2.1 hgo' (fun τ3 p3 => h τ3 ?_)
    obtain ⟨a3, e3, r3⟩ := p3
    refine ⟨a12.trans (a3.mono (by simp)), e3, ?_⟩
    rw [hm]
    show (match fadd x g' with
      | some f => isF τ3 (t + 1) f ∧ gI τ3 30 0 = gI σ 30 0
      | none => gI τ3 30 0 = 1)
    cases hf : fadd x g' with
    | none => rw [hf] at r3; exact r3
    | some f => rw [hf] at r3; exact ⟨r3.1, r3.2.trans (r2.2.trans b1)⟩
theorem sp_minusProduct {t u w : Nat} {x y z : Int × Nat} (hx : isF σ (t + 1) x) (hxo : fOK x) (hy : isF σ (u + 1) y) (hyo : fOK y) (hz : isF σ (w + 1) z) (hzo : fOK z) (ht : t ≠ 30) (hw : w ≠ 30) (h : ∀ τ, opP [t + 1, 31] σ (t + 1) ((fmul y z).bind (fsub x)) τ → Q none τ) : Cl lay1 (d + 4) M_Rk_minusProduct [aO 7 30, aO 0 (t + 1), aO 0 (u + 1), aO 0 (w + 1)] σ Q := by
  refine bk_Rk_minusProduct_0 _ _ _ ?_
  refine sp_copy (t := 30) hy (fun τ1 a1 f1 b1 => ?_)
  refine sp_times (t := 30) f1 hyo (a1.F (by simpa using hw) hz) hzo (fun τ2 p2 => ?_)
  obtain ⟨a2, ⟨g, hg, hgo⟩, r2⟩ := p2
  have hx2 : isF τ2 (t + 1) x := a2.F (by simpa using ht) (a1.F (by simpa using ht) hx)
  have a12 : ar [t + 1, 31] σ τ2 := (a1.trans a2).mono (by simp)
  cases hm : fmul y z with
  | none =>
    rw [hm] at r2
    refine sp_minus (u := 30) hx2 hxo hg hgo (fun τ3 p3 => h τ3 ?_)
    obtain ⟨a3, e3, r3⟩ := p3
    refine ⟨a12.trans (a3.mono (by simp)), e3, ?_⟩
    rw [hm]
    show gI τ3 30 0 = 1
    cases hf : fsub x g with
    | none => rw [hf] at r3; exact r3
    | some f => rw [hf] at r3; exact r3.2.trans r2
  | some g' =>
    rw [hm] at r2
    have hgo' : fOK g' := fnm_ok (Nat.mul_pos hyo.2.1 hzo.2.1) hm
    refine sp_minus (u := 30) hx2 hxo r2.1 hgo' (fun τ3 p3 => h τ3 ?_)
    obtain ⟨a3, e3, r3⟩ := p3
    refine ⟨a12.trans (a3.mono (by simp)), e3, ?_⟩
    rw [hm]
    show (match fsub x g' with
      | some f => isF τ3 (t + 1) f ∧ gI τ3 30 0 = gI σ 30 0
      | none => gI τ3 30 0 = 1)
    cases hf : fsub x g' with
    | none => rw [hf] at r3; exact r3
    | some f => rw [hf] at r3; exact ⟨r3.1, r3.2.trans (r2.2.trans b1)⟩
/-- a whole pair is put, in lowest terms -/
theorem sp_put {t : Nat} {a : Int} {b : Nat} (ha : a.natAbs ≤ 4000000000000000000) (hb0 : 0 < b) (hb : b ≤ 4000000000000000000) (h : Q none (stF σ (t + 1) (a.tdiv (Nat.gcd a.natAbs b : Nat), b / Nat.gcd a.natAbs b))) : Cl lay1 (d + 2) M_Fr_put [aO 0 (t + 1), aJ (L64 a), aJ (L64 b)] σ Q := by
  obtain ⟨g1, g2, g3⟩ := gcd_facts (a := a) hb0
  refine bk_Fr_put_0 _ _ _ ?_
  refine sp_abs (by omega) (by omega) ?_
  refine sp_cd (by omega) (by omega) ?_
  refine ⟨fun c => ?_, fun _ => ⟨L64_ne0 (by omega) (by omega) (by omega), L64_ne0 (by omega) (by omega) (by omega), ?_⟩⟩
  · rw [L64_0, cmpL_le (by omega) (by omega) (by omega) (by omega)] at c
    omega
  · rw [L64_div (by omega) (by omega) (by omega) (by omega), L64_div (by omega) (by omega) (by omega) (by omega), tdivN]
    exact h
end FRAC
end
section
/-! ===== LAYER 3, B: the reference's fractions ===== -/
def atF (σ : St) (f : Int × Nat) : Prop := gL σ 71 37 = L64 f.1 ∧ gL σ 71 38 = L64 f.2
/-- what the reference's arithmetic may change: its register, its flag -/
def hR (σ τ : St) : Prop := sN τ = sN σ ∧ sS τ = sS σ ∧ gN τ = gN σ ∧ gR τ = gR σ ∧ (∀ j k, ¬ (j = 71 ∧ k = 39) → gI τ j k = gI σ j k) ∧ ∀ j k, ¬ (j = 71 ∧ (k = 37 ∨ k = 38)) → gL τ j k = gL σ j k
theorem hR.rf (σ : St) : hR σ σ := ⟨rfl, rfl, rfl, rfl, fun _ _ _ => rfl, fun _ _ _ => rfl⟩
theorem hR.trans {σ τ υ : St} (h : hR σ τ) (g : hR τ υ) : hR σ υ :=
  ⟨g.1.trans h.1, g.2.1.trans h.2.1, g.2.2.1.trans h.2.2.1, g.2.2.2.1.trans h.2.2.2.1, fun j k q => (g.2.2.2.2.1 j k q).trans (h.2.2.2.2.1 j k q), fun j k q => (g.2.2.2.2.2 j k q).trans (h.2.2.2.2.2 j k q)⟩
def stA (σ : St) (f : Int × Nat) : St := pL (pL σ 71 37 (L64 f.1)) 71 38 (L64 f.2)
theorem stA_is (σ : St) (f : Int × Nat) : atF (stA σ f) f := by
  unfold stA
  refine ⟨?_, ?_⟩
  · rw [gL_pL, if_neg (by omega), gL_pL, if_pos ⟨rfl, rfl⟩]
  · rw [gL_pL, if_pos ⟨rfl, rfl⟩]
theorem stA_hR (σ : St) (f : Int × Nat) : hR σ (stA σ f) := by
  refine ⟨rfl, rfl, rfl, rfl, fun _ _ _ => rfl, fun j k h => ?_⟩
  unfold stA
  rw [gL_pL, if_neg (fun z => h ⟨z.1, Or.inr z.2⟩), gL_pL, if_neg (fun z => h ⟨z.1, Or.inl z.2⟩)]
theorem rflag_hR (σ : St) : hR σ (pI σ 71 39 1) := ⟨rfl, rfl, rfl, rfl, fun j k h => by rw [gI_pI, if_neg h], fun _ _ _ => rfl⟩
def hP (σ : St) (r : Option (Int × Nat)) (τ : St) : Prop := hR σ τ ∧ (∃ f, atF τ f ∧ fOK f) ∧ match r with
  | some f => atF τ f ∧ gI τ 71 39 = gI σ 71 39
  | none => gI τ 71 39 = 1
section RFRAC
variable {d : Nat} {σ : St} {Q : Option AV → St → Prop}
theorem sp_in {v lo hi : Int} (h1 : -9223372036854775808 ≤ v) (h2 : v < 9223372036854775808) (h3 : -9223372036854775808 ≤ lo) (h4 : lo < 9223372036854775808) (h5 : -9223372036854775808 ≤ hi) (h6 : hi < 9223372036854775808) (hy : lo ≤ v ∧ v ≤ hi → Q (some (aI 1)) σ) (hn : ¬ (lo ≤ v ∧ v ≤ hi) → Q (some (aI 0)) σ) : Cl lay1 (d + 1) M_R_in [aJ (L64 v), aJ (L64 lo), aJ (L64 hi)] σ Q := by
  refine bk_R_in_0 _ _ _ ⟨fun c => ⟨b01, ?_⟩, fun c => ⟨fun c2 => ⟨b01, ?_⟩, fun c2 => ⟨b11, ?_⟩⟩⟩
  · rw [cmpL_lt h1 h2 h3 h4] at c
    exact hn (by omega)
  · rw [cmpL_gt h1 h2 h5 h6] at c2
    exact hn (by omega)
  · rw [cmpL_lt h1 h2 h3 h4] at c
    rw [cmpL_gt h1 h2 h5 h6] at c2
    exact hy (by omega)
theorem sp_holds {a : Int} {b : Nat} (ha : a.natAbs ≤ 4000000000000000000) (hb0 : 0 < b) (hb : b ≤ 4000000000000000000) (h : ∀ τ, hP σ (fnm a b) τ → Q none τ) : Cl lay1 (d + 2) M_R_holds [aO 12 71, aJ (L64 a), aJ (L64 b)] σ Q := by
  obtain ⟨g1, g2, g3⟩ := gcd_facts (a := a) hb0
  refine bk_R_holds_0 _ _ ?_
  refine sp_common (by omega) (by omega) (by omega) ?_
  refine ⟨L64_ne0 (by omega) (by omega) (by omega), L64_ne0 (by omega) (by omega) (by omega), ?_⟩
  have hbd : b / Nat.gcd a.natAbs b ≤ b := Nat.div_le_self _ _
  have hq0 : (0 : Int) ≤ ((b / Nat.gcd a.natAbs b : Nat) : Int) := Int.natCast_nonneg _
  rw [L64_div (by omega) (by omega) (by omega) (by omega), L64_div (by omega) (by omega) (by omega) (by omega), tdivN]
  have hA := stA_is σ (a.tdiv (Nat.gcd a.natAbs b : Nat), b / Nat.gcd a.natAbs b)
  have hAR := stA_hR σ (a.tdiv (Nat.gcd a.natAbs b : Nat), b / Nat.gcd a.natAbs b)
  have hflag : gI (stA σ (a.tdiv (Nat.gcd a.natAbs b : Nat), b / Nat.gcd a.natAbs b)) 71 39 = gI σ 71 39 := rfl
  show Cl lay1 (d + 1) M_R_in [aJ (gL (stA σ (a.tdiv (Nat.gcd a.natAbs b : Nat), b / Nat.gcd a.natAbs b)) 71 37), aJ (-1000000000 : Int64), aJ (1000000000 : Int64)] (stA σ (a.tdiv (Nat.gcd a.natAbs b : Nat), b / Nat.gcd a.natAbs b)) _
  generalize stA σ (a.tdiv (Nat.gcd a.natAbs b : Nat), b / Nat.gcd a.natAbs b) = σ1 at hA hAR hflag ⊢
  have big : fnm a b = none → Q none (pL (pL (pI σ1 71 39 1) 71 37 0) 71 38 1) := by
    intro hn
    refine h _ ?_
    rw [hn]
    have e : pL (pL (pI σ1 71 39 1) 71 37 0) 71 38 1 = stA (pI σ1 71 39 1) (0, 1) := rfl
    rw [e]
    refine ⟨(hAR.trans (rflag_hR σ1)).trans (stA_hR _ _), ⟨(0, 1), stA_is _ _, by decide, by decide, by decide⟩, ?_⟩
    show gI (pI σ1 71 39 1) 71 39 = 1
    rw [gI_pI, if_pos ⟨rfl, rfl⟩]
  have h37 : gL σ1 71 37 = L64 (a.tdiv (Nat.gcd a.natAbs b : Nat)) := hA.1
  have h38 : gL σ1 71 38 = L64 (b / Nat.gcd a.natAbs b : Nat) := hA.2
  rw [h37, L64_mB, L64_B]
  refine sp_in (by omega) (by omega) (by omega) (by omega) (by omega) (by omega) (fun c => ?_) (fun c => ?_)
  · refine ⟨fun z => absurd z (by decide), fun _ => ⟨fun c2 => ?_, fun c2 => ⟨b11, ?_⟩⟩⟩
    · rw [h38, cmpL_le (by omega) (by omega) (by omega) (by omega)] at c2
      have hf : fnm a b = some (a.tdiv (Nat.gcd a.natAbs b : Nat), b / Nat.gcd a.natAbs b) := by unfold fnm; rw [if_pos ⟨by omega, by omega⟩]
      refine h _ ?_
      rw [hf]
      exact ⟨hAR, ⟨_, hA, fnm_ok hb0 hf⟩, hA, hflag⟩
    · rw [h38, cmpL_le (by omega) (by omega) (by omega) (by omega)] at c2
      exact big (by unfold fnm; rw [if_neg (by omega)])
  · refine ⟨fun _ => ⟨b11, ?_⟩, fun z => absurd rfl z⟩
    exact big (by unfold fnm; rw [if_neg (by omega)])
/-- the operations, their arguments as pairs in lowest terms, the first above turned where it is asked for -/
theorem sp_product {x y : Int × Nat} (hxo : fOK x) (hyo : fOK y) (h : ∀ τ, hP σ (fmul x y) τ → Q none τ) : Cl lay1 (d + 3) M_R_product [aO 12 71, aJ (L64 x.1), aJ (L64 x.2), aJ (L64 y.1), aJ (L64 y.2)] σ Q := by
  refine bk_R_product_0 _ _ _ _ ?_
  rw [L64_mul, L64_mul, ← Int.natCast_mul]
  have h1 := fOK_mul hxo.1 hyo.1
  have h3 := fOK_mulN hxo.2.2 hyo.2.2
  exact sp_holds (by omega) (Nat.mul_pos hxo.2.1 hyo.2.1) (by omega) h
theorem sp_sum {x y : Int × Nat} (hxo : fOK x) (hyo : fOK y) (h : ∀ τ, hP σ (fadd x y) τ → Q none τ) : Cl lay1 (d + 3) M_R_sum [aO 12 71, aJ (L64 x.1), aJ (L64 x.2), aJ (L64 y.1), aJ (L64 y.2)] σ Q := by
  refine bk_R_sum_0 _ _ _ _ ?_
  rw [L64_mul, L64_mul, L64_mul, L64_add, ← Int.natCast_mul]
  have h1 := fOK_mul hxo.1 (show (y.2 : Int).natAbs ≤ 1000000000 from hyo.2.2)
  have h2 := fOK_mul hyo.1 (show (x.2 : Int).natAbs ≤ 1000000000 from hxo.2.2)
  have h3 := fOK_mulN hxo.2.2 hyo.2.2
  exact sp_holds (by omega) (Nat.mul_pos hxo.2.1 hyo.2.1) (by omega) h
theorem fneg_ok {x : Int × Nat} (h : fOK x) : fOK (-x.1, x.2) := ⟨by show (-x.1).natAbs ≤ _; rw [Int.natAbs_neg]; exact h.1, h.2.1, h.2.2⟩
theorem fadd_neg (x y : Int × Nat) : fadd x (-y.1, y.2) = fsub x y := by
  unfold fadd fsub
  show fnm (x.1 * y.2 + -y.1 * x.2) _ = _
  rw [Int.neg_mul, ← Int.sub_eq_add_neg]
theorem fnm_neg (a : Int) (b : Nat) : fnm (-a) b = (fnm a b).map (fun f => (-f.1, f.2)) := by
  unfold fnm
  rw [Int.natAbs_neg, Int.neg_tdiv, Int.natAbs_neg]
  split
  · rfl
  · rfl
theorem fmul_neg (x y : Int × Nat) : fmul (-x.1, x.2) y = (fmul x y).map (fun f => (-f.1, f.2)) := by
  unfold fmul
  show fnm (-x.1 * y.1) _ = _
  rw [Int.neg_mul]
  exact fnm_neg _ _
theorem sp_divided {x y : Int × Nat} (hxo : fOK x) (hyo : fOK y) (hy0 : y.1 ≠ 0) (h : ∀ τ, hP σ (fdiv x y) τ → Q none τ) : Cl lay1 (d + 4) M_R_divided [aO 12 71, aJ (L64 x.1), aJ (L64 x.2), aJ (L64 y.1), aJ (L64 y.2)] σ Q := by
  have hy1 := hyo.1
  refine bk_R_divided_0 _ _ _ _ ⟨fun c => ?_, fun c => ?_⟩
  · rw [L64_0, cmpL_ge (by omega) (by omega) (by omega) (by omega)] at c
    have e : L64 y.1 = L64 (y.1.natAbs : Nat) := by rw [show (y.1.natAbs : Int) = y.1 by omega]
    rw [e]
    refine sp_product (y := ((y.2 : Int), y.1.natAbs)) hxo ⟨by show (y.2 : Int).natAbs ≤ _; exact hyo.2.2, by show 0 < y.1.natAbs; omega, hyo.1⟩ (fun τ hτ => h τ ?_)
    unfold fdiv
    rw [if_pos (by omega)]
    exact hτ
  · rw [L64_0, cmpL_ge (by omega) (by omega) (by omega) (by omega)] at c
    have e : -L64 y.1 = L64 (y.1.natAbs : Nat) := by rw [L64_neg, show (y.1.natAbs : Int) = -y.1 by omega]
    rw [e, L64_neg]
    refine sp_product (y := (-(y.2 : Int), y.1.natAbs)) hxo ⟨by show (-(y.2 : Int)).natAbs ≤ _; rw [Int.natAbs_neg]; exact hyo.2.2, by show 0 < y.1.natAbs; omega, hyo.1⟩ (fun τ hτ => h τ ?_)
    unfold fdiv
    rw [if_neg (by omega)]
    have e2 : fmul x (-(y.2 : Int), y.1.natAbs) = fnm (-x.1 * y.2) (x.2 * y.1.natAbs) := by
      unfold fmul
      show fnm (x.1 * -(y.2 : Int)) _ = _
      rw [Int.mul_neg, Int.neg_mul]
    rw [← e2]
    exact hτ
end RFRAC
end
section
/-! ===== LAYER 3, C: tables, the reference ===== -/
/-- the lengths of the fixed rows -/
def lnL : List (Nat × Nat) := [(6, 1500), (8, 80), (9, 6), (10, 6), (13, 12), (26, 12), (27, 12), (28, 80), (50, 12), (51, 4), (69, 80), (70, 961), (72, 1500), (73, 400), (74, 400), (75, 400), (76, 32000), (77, 32000), (78, 32000), (79, 82), (80, 82), (81, 82), (82, 8), (83, 8), (84, 8), (85, 80), (86, 80), (87, 80), (88, 12), (89, 12), (90, 8), (91, 8), (92, 8), (93, 80), (94, 961), (2, 10)]
def LN (σ : St) : Prop := ∀ q ∈ lnL, gN σ q.1 = q.2
theorem LN.at {σ : St} (h : LN σ) (j n : Nat) (hm : (j, n) ∈ lnL) : gN σ j = n := h (j, n) hm
theorem LN.of {σ τ : St} (h : LN σ) (e : gN τ = gN σ) : LN τ := fun q hq => by rw [e]; exact h q hq
theorem ix_nI {n : Nat} (h : n < 2147483648) : ix (nI n) = n := nI_clamp (by omega)
theorem inb_nI {n N : Nat} (h : n < N) (hN : N < 2147483648) : inb (nI n) N := by
  unfold inb
  rw [nI_toInt (by omega)]
  omega
/-- a ring: how many PARTS, their kinds, their FRACTIONS -/
abbrev Rg : Type := Nat × (Nat → Nat) × (Nat → Int × Nat)
def rgOK (r : Rg) : Prop := r.1 ≤ 80 ∧ ∀ i, i < r.1 → r.2.1 i ≤ 4 ∧ fOK (r.2.2 i)
/-- a mote through a PART -/
def mstep (k : Nat) (f : Int × Nat) (m : (Int × Nat) × (Int × Nat)) : Option ((Int × Nat) × (Int × Nat)) := if k = 0 then ((fmul f m.2).bind (fadd m.1)).map (fun x => (x, m.2)) else if k = 1 then ((fmul f m.1).bind (fsub m.2)).map (fun y => (m.1, y)) else some m
def mOK (m : (Int × Nat) × (Int × Nat)) : Prop := fOK m.1 ∧ fOK m.2
theorem fadd_ok {x y f : Int × Nat} (hx : fOK x) (hy : fOK y) (h : fadd x y = some f) : fOK f := fnm_ok (Nat.mul_pos hx.2.1 hy.2.1) h
theorem fsub_ok {x y f : Int × Nat} (hx : fOK x) (hy : fOK y) (h : fsub x y = some f) : fOK f := fnm_ok (Nat.mul_pos hx.2.1 hy.2.1) h
theorem fmul_ok {x y f : Int × Nat} (hx : fOK x) (hy : fOK y) (h : fmul x y = some f) : fOK f := fnm_ok (Nat.mul_pos hx.2.1 hy.2.1) h
def RR (σ : St) (r : Rg) : Prop := gI σ 71 29 = nI r.1 ∧ ∀ i, i < r.1 → gI σ 85 i = nI (r.2.1 i) ∧ gL σ 86 i = L64 (r.2.2 i).1 ∧ gL σ 87 i = L64 (r.2.2 i).2
def tF (σ : St) (k : Nat) (f : Int × Nat) : Prop := gL σ 90 k = L64 f.1 ∧ gL σ 91 k = L64 f.2
/-- what the reference's tables may change: register, flag, places S of its rows -/
def tR (S : List Nat) (σ τ : St) : Prop := sN τ = sN σ ∧ sS τ = sS σ ∧ gN τ = gN σ ∧ gR τ = gR σ ∧ (∀ j k, ¬ (j = 71 ∧ k = 39) → gI τ j k = gI σ j k) ∧ ∀ j k, ¬ (j = 71 ∧ (k = 37 ∨ k = 38)) → ¬ ((j = 90 ∨ j = 91) ∧ k ∈ S) → gL τ j k = gL σ j k
theorem tR.rf (S : List Nat) (σ : St) : tR S σ σ := ⟨rfl, rfl, rfl, rfl, fun _ _ _ => rfl, fun _ _ _ _ => rfl⟩
theorem tR.trans {S : List Nat} {σ τ υ : St} (h : tR S σ τ) (g : tR S τ υ) : tR S σ υ :=
  ⟨g.1.trans h.1, g.2.1.trans h.2.1, g.2.2.1.trans h.2.2.1, g.2.2.2.1.trans h.2.2.2.1, fun j k q => (g.2.2.2.2.1 j k q).trans (h.2.2.2.2.1 j k q), fun j k q q2 => (g.2.2.2.2.2 j k q q2).trans (h.2.2.2.2.2 j k q q2)⟩
theorem tR.mono {S T : List Nat} {σ τ : St} (h : tR S σ τ) (hs : ∀ j ∈ S, j ∈ T) : tR T σ τ :=
  ⟨h.1, h.2.1, h.2.2.1, h.2.2.2.1, h.2.2.2.2.1, fun j k q q2 => h.2.2.2.2.2 j k q (fun z => q2 ⟨z.1, hs k z.2⟩)⟩
theorem hR.t {σ τ : St} (h : hR σ τ) (S : List Nat) : tR S σ τ := ⟨h.1, h.2.1, h.2.2.1, h.2.2.2.1, h.2.2.2.2.1, fun j k q _ => h.2.2.2.2.2 j k q⟩
theorem tR.F {S : List Nat} {σ τ : St} (h : tR S σ τ) {k : Nat} {f : Int × Nat} (hk : k ∉ S) (hf : tF σ k f) : tF τ k f := ⟨(h.2.2.2.2.2 90 k (by omega) (fun z => hk z.2)).trans hf.1, (h.2.2.2.2.2 91 k (by omega) (fun z => hk z.2)).trans hf.2⟩
theorem tR.R {S : List Nat} {σ τ : St} (h : tR S σ τ) {r : Rg} (hr : RR σ r) : RR τ r := ⟨(h.2.2.2.2.1 71 29 (by omega)).trans hr.1, fun i hi => ⟨(h.2.2.2.2.1 85 i (by omega)).trans (hr.2 i hi).1, (h.2.2.2.2.2 86 i (by omega) (by omega)).trans (hr.2 i hi).2.1, (h.2.2.2.2.2 87 i (by omega) (by omega)).trans (hr.2 i hi).2.2⟩⟩
def tP (S : List Nat) (σ : St) (o : Nat) (r : Option (Int × Nat)) (τ : St) : Prop := tR S σ τ ∧ (∃ f, tF τ o f ∧ fOK f) ∧ match r with
  | some f => tF τ o f ∧ gI τ 71 39 = gI σ 71 39
  | none => gI τ 71 39 = 1
section RTAB
variable {d : Nat} {σ : St} {Q : Option AV → St → Prop}
theorem sp_lays {o : Nat} {f : Int × Nat} (hln : LN σ) (ho : o < 8) (h : ∀ τ, tR [o] σ τ → tF τ o f → gI τ 71 39 = gI σ 71 39 → Q none τ) : Cl lay1 (d + 1) M_R_lays [aO 12 71, aI (nI o), aJ (L64 f.1), aJ (L64 f.2)] σ Q := by
  have e90 := hln.at 90 8 (by decide)
  have e91 := hln.at 91 8 (by decide)
  refine bk_R_lays_0 _ _ _ ⟨by rw [e90]; exact inb_nI ho (by omega), ?_, ?_⟩
  · show inb (nI o) (gN σ 91)
    rw [e91]
    exact inb_nI ho (by omega)
  · rw [ix_nI (by omega)]
    refine h _ ⟨rfl, rfl, rfl, rfl, fun _ _ _ => rfl, fun j k _ q => ?_⟩ ⟨?_, ?_⟩ rfl
    · rw [gL_pL, if_neg (fun z => q ⟨Or.inr z.1, by rw [z.2]; exact List.mem_singleton.mpr rfl⟩), gL_pL, if_neg (fun z => q ⟨Or.inl z.1, by rw [z.2]; exact List.mem_singleton.mpr rfl⟩)]
    · rw [gL_pL, if_neg (by omega), gL_pL, if_pos ⟨rfl, rfl⟩]
    · rw [gL_pL, if_pos ⟨rfl, rfl⟩]
/-- one place: it and f times another -/
theorem sp_leads {o u : Nat} {f x y : Int × Nat} (hln : LN σ) (ho : o < 8) (hu : u < 8) (hf : fOK f) (hx : tF σ o x) (hxo : fOK x) (hy : tF σ u y) (hyo : fOK y) (h : ∀ τ, tP [o] σ o ((fmul f y).bind (fadd x)) τ → Q none τ) : Cl lay1 (d + 4) M_R_leads [aO 12 71, aI (nI o), aJ (L64 f.1), aJ (L64 f.2), aI (nI u)] σ Q := by
  have e90 := hln.at 90 8 (by decide)
  have e91 := hln.at 91 8 (by decide)
  refine bk_R_leads_0 _ _ _ _ ⟨by rw [e90]; exact inb_nI hu (by omega), by rw [e91]; exact inb_nI hu (by omega), ?_⟩
  rw [ix_nI (by omega), hy.1, hy.2]
  refine sp_product hf hyo (fun τ1 p1 => ?_)
  obtain ⟨a1, ⟨g, hg, hgo⟩, r1⟩ := p1
  have hln1 : LN τ1 := hln.of a1.2.2.1
  have hx1 : tF τ1 o x := (a1.t [o + 1]).F (by simp) hx
  refine ⟨by rw [hln1.at 90 8 (by decide)]; exact inb_nI ho (by omega), by rw [hln1.at 91 8 (by decide)]; exact inb_nI ho (by omega), ?_⟩
  rw [ix_nI (by omega), hx1.1, hx1.2]
  have fin : ∀ (τ2 : St) (r : Option (Int × Nat)) (z : Int × Nat), atF τ1 z → hP τ1 (fadd x z) τ2 → (∀ τ3 f3, fOK f3 → tR [o] τ2 τ3 → tF τ3 o f3 → gI τ3 71 39 = gI τ2 71 39 → (∀ q, fadd x z = some q → f3 = q) → tP [o] σ o r τ3) → Cl lay1 (d + 3) M_R_lays [aO 12 71, aI (nI o), aJ (gL τ2 71 37), aJ (gL τ2 71 38)] τ2 (rV fun σ3 => Q none σ3) → True := fun _ _ _ _ _ _ _ => trivial
  cases hm : fmul f y with
  | none =>
    rw [hm] at r1
    rw [hg.1, hg.2]
    refine sp_sum hxo hgo (fun τ2 p2 => ?_)
    obtain ⟨a2, ⟨g2, hg2, hg2o⟩, r2⟩ := p2
    show Cl lay1 (d + 3) M_R_lays [aO 12 71, aI (nI o), aJ (gL τ2 71 37), aJ (gL τ2 71 38)] τ2 (rV fun σ3 => Q none σ3)
    rw [hg2.1, hg2.2]
    refine sp_lays (hln1.of a2.2.2.1) ho (fun τ3 a3 f3 b3 => h τ3 ?_)
    refine ⟨((a1.t [o]).trans (a2.t [o])).trans a3, ⟨g2, f3, hg2o⟩, ?_⟩
    rw [hm]
    show gI τ3 71 39 = 1
    rw [b3]
    cases hq : fadd x g with
    | none => rw [hq] at r2; exact r2
    | some q => rw [hq] at r2; exact r2.2.trans r1
  | some p =>
    rw [hm] at r1
    have hpo : fOK p := fmul_ok hf hyo hm
    rw [r1.1.1, r1.1.2]
    refine sp_sum hxo hpo (fun τ2 p2 => ?_)
    obtain ⟨a2, ⟨g2, hg2, hg2o⟩, r2⟩ := p2
    show Cl lay1 (d + 3) M_R_lays [aO 12 71, aI (nI o), aJ (gL τ2 71 37), aJ (gL τ2 71 38)] τ2 (rV fun σ3 => Q none σ3)
    cases hq : fadd x p with
    | none =>
      rw [hq] at r2
      rw [hg2.1, hg2.2]
      refine sp_lays (hln1.of a2.2.2.1) ho (fun τ3 a3 f3 b3 => h τ3 ?_)
      refine ⟨((a1.t [o]).trans (a2.t [o])).trans a3, ⟨g2, f3, hg2o⟩, ?_⟩
      rw [hm]
      show (match fadd x p with
        | some f => tF τ3 o f ∧ gI τ3 71 39 = gI σ 71 39
        | none => gI τ3 71 39 = 1)
      rw [hq]
      exact b3.trans r2
    | some q =>
      rw [hq] at r2
      rw [r2.1.1, r2.1.2]
      refine sp_lays (hln1.of a2.2.2.1) ho (fun τ3 a3 f3 b3 => h τ3 ?_)
      refine ⟨((a1.t [o]).trans (a2.t [o])).trans a3, ⟨q, f3, fadd_ok hxo hpo hq⟩, ?_⟩
      rw [hm]
      show (match fadd x p with
        | some f => tF τ3 o f ∧ gI τ3 71 39 = gI σ 71 39
        | none => gI τ3 71 39 = 1)
      rw [hq]
      exact ⟨f3, b3.trans (r2.2.trans r1.2)⟩
end RTAB
end
section
/-! ===== LAYER 3, C: tables, the reference: leadsTable, starts, goes ===== -/
abbrev Tb : Type := ((Int × Nat) × (Int × Nat)) × ((Int × Nat) × (Int × Nat))
def tOK (t : Tb) : Prop := mOK t.1 ∧ mOK t.2
/-- the table behind one more PART: the motes (a, c) and (b, d) -/
def tstep (k : Nat) (f : Int × Nat) (t : Tb) : Option Tb := (mstep k f t.1).bind fun m1 => (mstep k f t.2).map fun m2 => (m1, m2)
def tab (σ : St) (t : Tb) : Prop := tF σ 0 t.1.1 ∧ tF σ 1 t.2.1 ∧ tF σ 2 t.1.2 ∧ tF σ 3 t.2.2
theorem mstep_ok {k : Nat} {f : Int × Nat} {m m' : (Int × Nat) × (Int × Nat)} (hf : fOK f) (hm : mOK m) (h : mstep k f m = some m') : mOK m' := by
  unfold mstep at h
  split at h
  · cases h1 : fmul f m.2 with
    | none => rw [h1] at h; cases h
    | some p =>
      rw [h1] at h
      cases h2 : fadd m.1 p with
      | none => rw [show (some p).bind (fadd m.1) = fadd m.1 p from rfl, h2] at h; cases h
      | some q =>
        rw [show (some p).bind (fadd m.1) = fadd m.1 p from rfl, h2] at h
        cases h
        exact ⟨fadd_ok hm.1 (fmul_ok hf hm.2 h1) h2, hm.2⟩
  · split at h
    · cases h1 : fmul f m.1 with
      | none => rw [h1] at h; cases h
      | some p =>
        rw [h1] at h
        cases h2 : fsub m.2 p with
        | none => rw [show (some p).bind (fsub m.2) = fsub m.2 p from rfl, h2] at h; cases h
        | some q =>
          rw [show (some p).bind (fsub m.2) = fsub m.2 p from rfl, h2] at h
          cases h
          exact ⟨hm.1, fsub_ok hm.2 (fmul_ok hf hm.1 h1) h2⟩
    · cases h
      exact hm
theorem lens_eq (x y f : Int × Nat) : (fmul (-f.1, f.2) y).bind (fadd x) = (fmul f y).bind (fsub x) := by
  rw [fmul_neg]
  cases fmul f y with
  | none => rfl
  | some p => exact fadd_neg x p
theorem lead_ok {x y f g : Int × Nat} (hf : fOK f) (hx : fOK x) (hy : fOK y) (h : (fmul f y).bind (fadd x) = some g) : fOK g := by
  cases h1 : fmul f y with
  | none => rw [h1] at h; cases h
  | some p => rw [h1] at h; exact fadd_ok hx (fmul_ok hf hy h1) h
/-- one place told or BIG -/
def tQ (S : List Nat) (σ : St) (o : Nat) (r : Option (Int × Nat)) (τ : St) : Prop := tR S σ τ ∧ ∃ f, tF τ o f ∧ fOK f ∧ (r = some f ∧ gI τ 71 39 = gI σ 71 39 ∨ r = none ∧ gI τ 71 39 = 1)
theorem tP.q {S : List Nat} {σ τ : St} {o : Nat} {r : Option (Int × Nat)} (h : tP S σ o r τ) (hr : ∀ f, r = some f → fOK f) : tQ S σ o r τ := by
  obtain ⟨h1, ⟨f, h2, h3⟩, h4⟩ := h
  cases r with
  | none => exact ⟨h1, f, h2, h3, Or.inr ⟨rfl, h4⟩⟩
  | some g => exact ⟨h1, g, h4.1, hr g rfl, Or.inl ⟨rfl, h4.2⟩⟩
def tabP (σ : St) (r : Option Tb) (τ : St) : Prop := tR [0, 1, 2, 3] σ τ ∧ ∃ t, tab τ t ∧ tOK t ∧ (r = some t ∧ gI τ 71 39 = gI σ 71 39 ∨ r = none ∧ gI τ 71 39 = 1)
section RTAB2
variable {d : Nat} {σ : St} {Q : Option AV → St → Prop}
theorem nIk {k : Nat} (h : k ≤ 4) : (nI k = 0 ↔ k = 0) ∧ (nI k = (1 : Int32) ↔ k = 1) ∧ (nI k = (3 : Int32) ↔ k = 3) ∧ (nI k = (2 : Int32) ↔ k = 2) ∧ (nI k = (4 : Int32) ↔ k = 4) := by
  rcases (show k = 0 ∨ k = 1 ∨ k = 2 ∨ k = 3 ∨ k = 4 by omega) with rfl | rfl | rfl | rfl | rfl <;> decide
theorem sp_leadsTable {i : Nat} {r : Rg} {t : Tb} (hln : LN σ) (hr : RR σ r) (hro : rgOK r) (hi : i < r.1) (ht : tab σ t) (hto : tOK t) (h : ∀ τ, tabP σ (tstep (r.2.1 i) (r.2.2 i) t) τ → Q none τ) : Cl lay1 (d + 5) M_R_leadsTable [aO 12 71, aI (nI i)] σ Q := by
  have e85 := hln.at 85 80 (by decide)
  have e86 := hln.at 86 80 (by decide)
  have e87 := hln.at 87 80 (by decide)
  have h80 := hro.1
  obtain ⟨hk4, hfo⟩ := hro.2 i hi
  obtain ⟨k1, k2, k3⟩ := hr.2 i hi
  obtain ⟨q0, q1, -⟩ := nIk hk4
  have hin : inb (nI i) 80 := inb_nI (by omega) (by omega)
  obtain ⟨t0, t1, t2, t3⟩ := ht
  obtain ⟨⟨oa, oc⟩, ⟨ob, od⟩⟩ := hto
  refine bk_R_leadsTable_0 _ ⟨by rw [e85]; exact hin, fun c => ?_, fun c => ⟨by rw [e85]; exact hin, fun c2 => ?_, fun c2 => ?_⟩⟩
  · rw [ix_nI (by omega), k1, q0] at c
    refine ⟨by rw [e86]; exact hin, by rw [e87]; exact hin, ?_⟩
    rw [ix_nI (by omega), k2, k3]
    refine sp_leads (o := 0) (u := 2) hln (by omega) (by omega) hfo t0 oa t2 oc (fun τ1 p1 => ?_)
    obtain ⟨a1, f1, g1, o1, r1⟩ := p1.q (fun f hf => lead_ok hfo oa oc hf)
    have hln1 := hln.of a1.2.2.1
    have hr1 := a1.R hr
    obtain ⟨k1', k2', k3'⟩ := hr1.2 i hi
    refine ⟨by rw [hln1.at 86 80 (by decide)]; exact hin, by rw [hln1.at 87 80 (by decide)]; exact hin, ?_⟩
    rw [k2', k3']
    refine sp_leads (o := 1) (u := 3) hln1 (by omega) (by omega) hfo (a1.F (by decide) t1) ob (a1.F (by decide) t3) od (fun τ2 p2 => h τ2 ?_)
    obtain ⟨a2, f2, g2, o2, r2⟩ := p2.q (fun f hf => lead_ok hfo ob od hf)
    have e1 : mstep (r.2.1 i) (r.2.2 i) t.1 = ((fmul (r.2.2 i) t.1.2).bind (fadd t.1.1)).map (fun x => (x, t.1.2)) := by unfold mstep; rw [if_pos c]
    have e2 : mstep (r.2.1 i) (r.2.2 i) t.2 = ((fmul (r.2.2 i) t.2.2).bind (fadd t.2.1)).map (fun x => (x, t.2.2)) := by unfold mstep; rw [if_pos c]
    refine ⟨(a1.mono (by simp)).trans (a2.mono (by simp)), ((f1, t.1.2), (f2, t.2.2)), ⟨a2.F (by decide) g1, g2, a2.F (by decide) (a1.F (by decide) t2), a2.F (by decide) (a1.F (by decide) t3)⟩, ⟨⟨o1, oc⟩, ⟨o2, od⟩⟩, ?_⟩
    unfold tstep
    rw [e1, e2]
    rcases r1 with ⟨r1, b1⟩ | ⟨r1, b1⟩ <;> rcases r2 with ⟨r2, b2⟩ | ⟨r2, b2⟩
    · rw [r1, r2]; exact Or.inl ⟨rfl, b2.trans b1⟩
    · rw [r1, r2]; exact Or.inr ⟨rfl, b2⟩
    · rw [r1]; exact Or.inr ⟨rfl, b2.trans b1⟩
    · rw [r1]; exact Or.inr ⟨rfl, b2⟩
  · rw [ix_nI (by omega), k1, q1] at c2
    refine ⟨by rw [e86]; exact hin, by rw [e87]; exact hin, ?_⟩
    rw [ix_nI (by omega), k2, k3, L64_neg]
    refine sp_leads (o := 2) (u := 0) (f := (-(r.2.2 i).1, (r.2.2 i).2)) hln (by omega) (by omega) (fneg_ok hfo) t2 oc t0 oa (fun τ1 p1 => ?_)
    obtain ⟨a1, f1, g1, o1, r1⟩ := p1.q (fun f hf => lead_ok (fneg_ok hfo) oc oa hf)
    rw [lens_eq] at r1
    have hln1 := hln.of a1.2.2.1
    have hr1 := a1.R hr
    obtain ⟨k1', k2', k3'⟩ := hr1.2 i hi
    refine ⟨by rw [hln1.at 86 80 (by decide)]; exact hin, by rw [hln1.at 87 80 (by decide)]; exact hin, ?_⟩
    rw [k2', k3', L64_neg]
    refine sp_leads (o := 3) (u := 1) (f := (-(r.2.2 i).1, (r.2.2 i).2)) hln1 (by omega) (by omega) (fneg_ok hfo) (a1.F (by decide) t3) od (a1.F (by decide) t1) ob (fun τ2 p2 => h τ2 ?_)
    obtain ⟨a2, f2, g2, o2, r2⟩ := p2.q (fun f hf => lead_ok (fneg_ok hfo) od ob hf)
    rw [lens_eq] at r2
    have e1 : mstep (r.2.1 i) (r.2.2 i) t.1 = ((fmul (r.2.2 i) t.1.1).bind (fsub t.1.2)).map (fun x => (t.1.1, x)) := by unfold mstep; rw [if_neg (by omega), if_pos c2]
    have e2 : mstep (r.2.1 i) (r.2.2 i) t.2 = ((fmul (r.2.2 i) t.2.1).bind (fsub t.2.2)).map (fun x => (t.2.1, x)) := by unfold mstep; rw [if_neg (by omega), if_pos c2]
    refine ⟨(a1.mono (by simp)).trans (a2.mono (by simp)), ((t.1.1, f1), (t.2.1, f2)), ⟨a2.F (by decide) (a1.F (by decide) t0), a2.F (by decide) (a1.F (by decide) t1), a2.F (by decide) g1, g2⟩, ⟨⟨oa, o1⟩, ⟨ob, o2⟩⟩, ?_⟩
    unfold tstep
    rw [e1, e2]
    rcases r1 with ⟨r1, b1⟩ | ⟨r1, b1⟩ <;> rcases r2 with ⟨r2, b2⟩ | ⟨r2, b2⟩
    · rw [r1, r2]; exact Or.inl ⟨rfl, b2.trans b1⟩
    · rw [r1, r2]; exact Or.inr ⟨rfl, b2⟩
    · rw [r1]; exact Or.inr ⟨rfl, b2.trans b1⟩
    · rw [r1]; exact Or.inr ⟨rfl, b2⟩
  · rw [ix_nI (by omega), k1, q0] at c
    rw [ix_nI (by omega), k1, q1] at c2
    have e : ∀ m, mstep (r.2.1 i) (r.2.2 i) m = some m := fun m => by unfold mstep; rw [if_neg c, if_neg c2]
    refine h σ ⟨tR.rf _ _, t, ⟨t0, t1, t2, t3⟩, ⟨⟨oa, oc⟩, ⟨ob, od⟩⟩, Or.inl ⟨?_, rfl⟩⟩
    unfold tstep
    rw [e, e]
    rfl
/-- n PARTS from PART i on, round and round -/
def tgo (r : Rg) (i : Nat) : Nat → Option Tb
  | 0 => some (((1, 1), (0, 1)), ((0, 1), (1, 1)))
  | n + 1 => (tgo r i n).bind (tstep (r.2.1 ((i + n) % r.1)) (r.2.2 ((i + n) % r.1)))
theorem tgo_none {r : Rg} {i k : Nat} (h : tgo r i k = none) : ∀ n, k ≤ n → tgo r i n = none := by
  intro n
  induction n with
  | zero => intro hk; rw [show k = 0 by omega] at h; exact h
  | succ n ih =>
    intro hk
    by_cases e : k = n + 1
    · rw [← e]; exact h
    · show (tgo r i n).bind _ = none
      rw [ih (by omega)]
      rfl
def goP (r : Rg) (i n : Nat) (σ τ : St) : Prop := tR [0, 1, 2, 3, 4, 5, 6, 7] σ τ ∧ ∃ t, tab τ t ∧ tOK t ∧ (tgo r i n = some t ∧ gI τ 71 39 = 0 ∨ tgo r i n = none ∧ gI τ 71 39 = 1)
theorem sp_goes_loop {r : Rg} {i n : Nat} (hro : rgOK r) (hi : i < 100) (hn : n ≤ 200) (h0 : 0 < r.1) : ∀ (m k : Nat) (σ : St) (Q : Option AV → St → Prop), k + m = n → LN σ → RR σ r → ∀ t, tab σ t → tOK t → (tgo r i k = some t ∧ gI σ 71 39 = 0 ∨ tgo r i k = none ∧ gI σ 71 39 = 1) → (∀ τ, goP r i n σ τ → Q none τ) → Wp lay1 rtOf (Cl lay1 (d + 5)) k_R_goes 0 Q (6, [aO 12 71, aI (nI i), aI (nI n), aI (nI k)], [], σ) := by
  have h80 := hro.1
  intro m
  induction m with
  | zero =>
    intro k σ Q hk hln hr t ht hto hs h
    refine bk_R_goes_6 _ _ _ ⟨fun _ => h σ ⟨tR.rf _ _, t, ht, hto, ?_⟩, fun c => absurd ((nI_leI (by omega) (by omega)).mpr (by omega)) c⟩
    rw [show n = k by omega]
    exact hs
  | succ m ih =>
    intro k σ Q hk hln hr t ht hto hs h
    refine bk_R_goes_6 _ _ _ ⟨fun c => absurd ((nI_leI (by omega) (by omega)).mp c) (by omega), fun _ => ⟨fun c => ?_, fun c => ?_⟩⟩
    · have hs : tgo r i k = some t := by
        rcases hs with ⟨q, -⟩ | ⟨-, q⟩
        · exact q
        · rw [q] at c; exact absurd c (by decide)
      refine ⟨by rw [hr.1]; exact nI_ne0 h0 (by omega), ?_⟩
      rw [hr.1, nI_add, pk_rem (by omega) h0 (by omega)]
      refine sp_leadsTable hln hr hro (Nat.mod_lt _ h0) ht hto (fun τ p => ?_)
      obtain ⟨a, t', ht', hto', rr⟩ := p
      rw [c] at rr
      have a' : tR [0, 1, 2, 3, 4, 5, 6, 7] σ τ := a.mono (by simp)
      show Wp lay1 rtOf (Cl lay1 (d + 5)) k_R_goes 0 Q (6, [aO 12 71, aI (nI i), aI (nI n), aI (nI k + 1)], [], τ)
      rw [nI_1]
      refine ih (k + 1) τ Q (by omega) (hln.of a.2.2.1) (a.R hr) t' ht' hto' ?_ (fun υ hυ => h υ ?_)
      · show ((tgo r i k).bind _ = _ ∧ _) ∨ ((tgo r i k).bind _ = _ ∧ _)
        rw [hs]
        exact rr
      · obtain ⟨b1, b2⟩ := hυ
        exact ⟨a'.trans b1, b2⟩
    · refine h σ ⟨tR.rf _ _, t, ht, hto, ?_⟩
      rcases hs with ⟨-, q⟩ | ⟨q, q2⟩
      · exact absurd q c
      · exact Or.inr ⟨tgo_none q n (by omega), q2⟩
end RTAB2
end
section
/-! ===== LAYER 3, C: the reference: starts, goes ===== -/
def ini (k : Nat) : Int × Nat := if k = 0 ∨ k = 3 then (1, 1) else (0, 1)
theorem ini_ok (k : Nat) : fOK (ini k) := by
  unfold ini
  split <;> exact ⟨by decide, by decide, by decide⟩
section RGO
variable {d : Nat}
theorem sp_starts_loop : ∀ (m k : Nat) (σ : St) (Q : Option AV → St → Prop), k + m = 8 → LN σ → (∀ i, i < k → tF σ i (ini i)) → (∀ τ, tR [0, 1, 2, 3, 4, 5, 6, 7] σ τ → (∀ i, i < 8 → tF τ i (ini i)) → gI τ 71 39 = gI σ 71 39 → Q none τ) → Wp lay1 rtOf (Cl lay1 (d + 1)) k_R_starts 0 Q (7, [aO 12 71, aI (nI k)], [], σ) := by
  intro m
  induction m with
  | zero =>
    intro k σ Q hk hln hs h
    refine bk_R_starts_7 _ ⟨fun _ => h σ (tR.rf _ _) (fun i hi => hs i (by omega)) rfl, fun c => absurd ?_ c⟩
    rw [show k = 8 by omega]
    decide
  | succ m ih =>
    intro k σ Q hk hln hs h
    have hk8 : k < 8 := by omega
    have key : Cl lay1 (d + 1) M_R_lays [aO 12 71, aI (nI k), aJ (L64 (ini k).1), aJ (L64 (ini k).2)] σ (rV fun σ1 => Wp lay1 rtOf (Cl lay1 (d + 1)) k_R_starts 0 Q (7, [aO 12 71, aI (nI k + (1 : Int32))], [], σ1)) := by
      refine sp_lays hln hk8 (fun τ a f b => ?_)
      show Wp lay1 rtOf (Cl lay1 (d + 1)) k_R_starts 0 Q (7, [aO 12 71, aI (nI k + 1)], [], τ)
      rw [nI_1]
      have a' : tR [0, 1, 2, 3, 4, 5, 6, 7] σ τ := a.mono (by
        intro j hj
        rw [List.mem_singleton.mp hj]
        rcases (show k = 0 ∨ k = 1 ∨ k = 2 ∨ k = 3 ∨ k = 4 ∨ k = 5 ∨ k = 6 ∨ k = 7 by omega) with rfl | rfl | rfl | rfl | rfl | rfl | rfl | rfl <;> decide)
      refine ih (k + 1) τ Q (by omega) (hln.of a.2.2.1) (fun i hi => ?_) (fun υ b1 b2 b3 => h υ (a'.trans b1) b2 (b3.trans b))
      by_cases e : i = k
      · rw [e]; exact f
      · exact a.F (by simpa using e) (hs i (by omega))
    refine bk_R_starts_7 _ ⟨fun c => absurd c ?_, fun _ => ⟨fun c => ?_, fun c => ⟨fun c2 => ?_, fun c2 => ?_⟩⟩⟩
    · rw [show (8 : Int32) = nI 8 from rfl, nI_leI (by omega) (by omega)]
      omega
    · rw [show (0 : Int32) = nI 0 from rfl, nI_eq (by omega) (by omega)] at c
      subst c
      exact key
    · rw [show (3 : Int32) = nI 3 from rfl, nI_eq (by omega) (by omega)] at c2
      subst c2
      exact key
    · rw [show (0 : Int32) = nI 0 from rfl, nI_eq (by omega) (by omega)] at c
      rw [show (3 : Int32) = nI 3 from rfl, nI_eq (by omega) (by omega)] at c2
      have e : ini k = (0, 1) := by unfold ini; rw [if_neg (by omega)]
      rw [e] at key
      exact key
/-- all that starts lays -/
theorem sp_starts {σ : St} {Q : Option AV → St → Prop} (hln : LN σ) (h : ∀ τ, tR [0, 1, 2, 3, 4, 5, 6, 7] σ τ → (∀ i, i < 8 → tF τ i (ini i)) → gI τ 71 39 = 0 → Q none τ) : Cl lay1 (d + 2) M_R_starts [aO 12 71] σ Q := by
  refine bk_R_starts_0 ⟨b01, ?_⟩
  refine sp_starts_loop 8 0 (pI σ 71 39 0) Q (by omega) hln (fun i hi => absurd hi (by omega)) (fun τ a f b => h τ ?_ f ?_)
  · refine tR.trans (τ := pI σ 71 39 0) ⟨rfl, rfl, rfl, rfl, fun j k q => by rw [gI_pI, if_neg q], fun _ _ _ _ => rfl⟩ a
  · rw [b, gI_pI, if_pos ⟨rfl, rfl⟩]
theorem sp_goes {σ : St} {Q : Option AV → St → Prop} {r : Rg} {i n : Nat} (hln : LN σ) (hr : RR σ r) (hro : rgOK r) (hi : i < 100) (hn : n ≤ 200) (h0 : 0 < r.1) (h : ∀ τ, goP r i n σ τ → Q none τ) : Cl lay1 (d + 6) M_R_goes [aO 12 71, aI (nI i), aI (nI n)] σ Q := by
  refine bk_R_goes_0 _ _ ?_
  refine sp_starts hln (fun τ a f b => ?_)
  refine sp_goes_loop hro hi hn h0 n 0 τ Q (by omega) (hln.of a.2.2.1) (a.R hr) (((1, 1), (0, 1)), ((0, 1), (1, 1))) ⟨f 0 (by omega), f 1 (by omega), f 2 (by omega), f 3 (by omega)⟩ ⟨⟨ini_ok 0, ini_ok 2⟩, ⟨ini_ok 1, ini_ok 3⟩⟩ (Or.inl ⟨rfl, b⟩) (fun υ hυ => h υ ?_)
  obtain ⟨b1, b2⟩ := hυ
  exact ⟨a.trans b1, b2⟩
end RGO
end
