-- ===== PART A: goes FIRST, ahead of the names: the tables' words, and 'selects' of the private methods out of them =====
/-- a private method of a class that the tables say can be made, by its rows of tables_1 -/
def lw_okq (q : MethodName × Nat) : Prop := (q.1.cls ≠ "java/lang/invoke/MethodHandle" ∧ q.1.cls ≠ "java/lang/invoke/VarHandle") ∧ Cond.instantiable q.1.cls q.2 ∈ tables_1 ∧ Cond.privateMethod q.1 ∈ tables_1 ∧ Cond.instanceMethod q.1 ∈ tables_1
theorem lw_p0 : lw_okq (⟨"FiveLands$Pact", "clear", "()V"⟩, 7) := ⟨⟨by decide +kernel, by decide +kernel⟩, List.mem_of_getElem? (i := 413) (by decide +kernel), List.mem_of_getElem? (i := 419) (by decide +kernel), List.mem_of_getElem? (i := 420) (by decide +kernel)⟩
theorem lw_p1 : lw_okq (⟨"FiveLands", "putBytes", "(I)V"⟩, 14) := ⟨⟨by decide +kernel, by decide +kernel⟩, List.mem_of_getElem? (i := 21) (by decide +kernel), List.mem_of_getElem? (i := 566) (by decide +kernel), List.mem_of_getElem? (i := 567) (by decide +kernel)⟩
theorem lw_p2 : lw_okq (⟨"FiveLands$Reader", "scan", "([II)V"⟩, 15) := ⟨⟨by decide +kernel, by decide +kernel⟩, List.mem_of_getElem? (i := 251) (by decide +kernel), List.mem_of_getElem? (i := 590) (by decide +kernel), List.mem_of_getElem? (i := 591) (by decide +kernel)⟩
theorem lw_p3 : lw_okq (⟨"FiveLands$Reader", "keyword", "([III)I"⟩, 15) := ⟨⟨by decide +kernel, by decide +kernel⟩, List.mem_of_getElem? (i := 251) (by decide +kernel), List.mem_of_getElem? (i := 601) (by decide +kernel), List.mem_of_getElem? (i := 602) (by decide +kernel)⟩
theorem lw_p4 : lw_okq (⟨"FiveLands$Reader", "addToken", "(III)V"⟩, 15) := ⟨⟨by decide +kernel, by decide +kernel⟩, List.mem_of_getElem? (i := 251) (by decide +kernel), List.mem_of_getElem? (i := 605) (by decide +kernel), List.mem_of_getElem? (i := 606) (by decide +kernel)⟩
theorem lw_p5 : lw_okq (⟨"FiveLands$Reader", "sign", "()I"⟩, 15) := ⟨⟨by decide +kernel, by decide +kernel⟩, List.mem_of_getElem? (i := 251) (by decide +kernel), List.mem_of_getElem? (i := 618) (by decide +kernel), List.mem_of_getElem? (i := 619) (by decide +kernel)⟩
theorem lw_p6 : lw_okq (⟨"FiveLands$Reader", "lawLine", "(I)Z"⟩, 15) := ⟨⟨by decide +kernel, by decide +kernel⟩, List.mem_of_getElem? (i := 251) (by decide +kernel), List.mem_of_getElem? (i := 622) (by decide +kernel), List.mem_of_getElem? (i := 623) (by decide +kernel)⟩
theorem lw_p7 : lw_okq (⟨"FiveLands$Reader", "wrong", "(I)Z"⟩, 15) := ⟨⟨by decide +kernel, by decide +kernel⟩, List.mem_of_getElem? (i := 251) (by decide +kernel), List.mem_of_getElem? (i := 626) (by decide +kernel), List.mem_of_getElem? (i := 627) (by decide +kernel)⟩
theorem lw_p8 : lw_okq (⟨"FiveLands$Reader", "mineLine", "()Z"⟩, 15) := ⟨⟨by decide +kernel, by decide +kernel⟩, List.mem_of_getElem? (i := 251) (by decide +kernel), List.mem_of_getElem? (i := 630) (by decide +kernel), List.mem_of_getElem? (i := 631) (by decide +kernel)⟩
theorem lw_p9 : lw_okq (⟨"FiveLands$Reader", "condition", "()Z"⟩, 15) := ⟨⟨by decide +kernel, by decide +kernel⟩, List.mem_of_getElem? (i := 251) (by decide +kernel), List.mem_of_getElem? (i := 634) (by decide +kernel), List.mem_of_getElem? (i := 635) (by decide +kernel)⟩
theorem lw_p10 : lw_okq (⟨"FiveLands$Reader", "expression", "()Z"⟩, 15) := ⟨⟨by decide +kernel, by decide +kernel⟩, List.mem_of_getElem? (i := 251) (by decide +kernel), List.mem_of_getElem? (i := 638) (by decide +kernel), List.mem_of_getElem? (i := 639) (by decide +kernel)⟩
theorem lw_p11 : lw_okq (⟨"FiveLands$Reader", "unit", "()Z"⟩, 15) := ⟨⟨by decide +kernel, by decide +kernel⟩, List.mem_of_getElem? (i := 251) (by decide +kernel), List.mem_of_getElem? (i := 642) (by decide +kernel), List.mem_of_getElem? (i := 643) (by decide +kernel)⟩
theorem lw_p12 : lw_okq (⟨"FiveLands$Reader", "emitPending", "(I)V"⟩, 15) := ⟨⟨by decide +kernel, by decide +kernel⟩, List.mem_of_getElem? (i := 251) (by decide +kernel), List.mem_of_getElem? (i := 650) (by decide +kernel), List.mem_of_getElem? (i := 651) (by decide +kernel)⟩
theorem lw_p13 : lw_okq (⟨"FiveLands$Reader", "isDivisor", "()Z"⟩, 15) := ⟨⟨by decide +kernel, by decide +kernel⟩, List.mem_of_getElem? (i := 251) (by decide +kernel), List.mem_of_getElem? (i := 654) (by decide +kernel), List.mem_of_getElem? (i := 655) (by decide +kernel)⟩
theorem lw_p14 : lw_okq (⟨"FiveLands$Reader", "closeClauses", "()V"⟩, 15) := ⟨⟨by decide +kernel, by decide +kernel⟩, List.mem_of_getElem? (i := 251) (by decide +kernel), List.mem_of_getElem? (i := 661) (by decide +kernel), List.mem_of_getElem? (i := 662) (by decide +kernel)⟩
theorem lw_p15 : lw_okq (⟨"FiveLands$Reader", "top", "()I"⟩, 15) := ⟨⟨by decide +kernel, by decide +kernel⟩, List.mem_of_getElem? (i := 251) (by decide +kernel), List.mem_of_getElem? (i := 665) (by decide +kernel), List.mem_of_getElem? (i := 666) (by decide +kernel)⟩
def lw_privs_1 : List (MethodName × Nat) := [(⟨"FiveLands$Pact", "clear", "()V"⟩, 7), (⟨"FiveLands", "putBytes", "(I)V"⟩, 14), (⟨"FiveLands$Reader", "scan", "([II)V"⟩, 15), (⟨"FiveLands$Reader", "keyword", "([III)I"⟩, 15), (⟨"FiveLands$Reader", "addToken", "(III)V"⟩, 15), (⟨"FiveLands$Reader", "sign", "()I"⟩, 15), (⟨"FiveLands$Reader", "lawLine", "(I)Z"⟩, 15), (⟨"FiveLands$Reader", "wrong", "(I)Z"⟩, 15), (⟨"FiveLands$Reader", "mineLine", "()Z"⟩, 15), (⟨"FiveLands$Reader", "condition", "()Z"⟩, 15), (⟨"FiveLands$Reader", "expression", "()Z"⟩, 15), (⟨"FiveLands$Reader", "unit", "()Z"⟩, 15), (⟨"FiveLands$Reader", "emitPending", "(I)V"⟩, 15), (⟨"FiveLands$Reader", "isDivisor", "()Z"⟩, 15), (⟨"FiveLands$Reader", "closeClauses", "()V"⟩, 15), (⟨"FiveLands$Reader", "top", "()I"⟩, 15)]
theorem lw_r1 : ∀ q ∈ lw_privs_1, lw_okq q := List.forall_mem_cons.mpr ⟨lw_p0, List.forall_mem_cons.mpr ⟨lw_p1, List.forall_mem_cons.mpr ⟨lw_p2, List.forall_mem_cons.mpr ⟨lw_p3, List.forall_mem_cons.mpr ⟨lw_p4, List.forall_mem_cons.mpr ⟨lw_p5, List.forall_mem_cons.mpr ⟨lw_p6, List.forall_mem_cons.mpr ⟨lw_p7, List.forall_mem_cons.mpr ⟨lw_p8, List.forall_mem_cons.mpr ⟨lw_p9, List.forall_mem_cons.mpr ⟨lw_p10, List.forall_mem_cons.mpr ⟨lw_p11, List.forall_mem_cons.mpr ⟨lw_p12, List.forall_mem_cons.mpr ⟨lw_p13, List.forall_mem_cons.mpr ⟨lw_p14, List.forall_mem_cons.mpr ⟨lw_p15, fun _ h => absurd h List.not_mem_nil⟩⟩⟩⟩⟩⟩⟩⟩⟩⟩⟩⟩⟩⟩⟩⟩
theorem lw_p16 : lw_okq (⟨"FiveLands$Reader", "emitJoins", "(Z)V"⟩, 15) := ⟨⟨by decide +kernel, by decide +kernel⟩, List.mem_of_getElem? (i := 251) (by decide +kernel), List.mem_of_getElem? (i := 669) (by decide +kernel), List.mem_of_getElem? (i := 670) (by decide +kernel)⟩
theorem lw_p17 : lw_okq (⟨"FiveLands$Reader", "endCondition", "()Z"⟩, 15) := ⟨⟨by decide +kernel, by decide +kernel⟩, List.mem_of_getElem? (i := 251) (by decide +kernel), List.mem_of_getElem? (i := 673) (by decide +kernel), List.mem_of_getElem? (i := 674) (by decide +kernel)⟩
theorem lw_p18 : lw_okq (⟨"FiveLands$Reader", "await", "(I)V"⟩, 15) := ⟨⟨by decide +kernel, by decide +kernel⟩, List.mem_of_getElem? (i := 251) (by decide +kernel), List.mem_of_getElem? (i := 677) (by decide +kernel), List.mem_of_getElem? (i := 678) (by decide +kernel)⟩
theorem lw_p19 : lw_okq (⟨"FiveLands$Reader", "takeLine", "()Z"⟩, 15) := ⟨⟨by decide +kernel, by decide +kernel⟩, List.mem_of_getElem? (i := 251) (by decide +kernel), List.mem_of_getElem? (i := 685) (by decide +kernel), List.mem_of_getElem? (i := 686) (by decide +kernel)⟩
theorem lw_p20 : lw_okq (⟨"FiveLands$Reader", "isKind", "()Z"⟩, 15) := ⟨⟨by decide +kernel, by decide +kernel⟩, List.mem_of_getElem? (i := 251) (by decide +kernel), List.mem_of_getElem? (i := 689) (by decide +kernel), List.mem_of_getElem? (i := 690) (by decide +kernel)⟩
theorem lw_p21 : lw_okq (⟨"FiveLands$Reader", "freeLine", "()Z"⟩, 15) := ⟨⟨by decide +kernel, by decide +kernel⟩, List.mem_of_getElem? (i := 251) (by decide +kernel), List.mem_of_getElem? (i := 693) (by decide +kernel), List.mem_of_getElem? (i := 694) (by decide +kernel)⟩
theorem lw_p22 : lw_okq (⟨"FiveLands$Reader", "stepLine", "()Z"⟩, 15) := ⟨⟨by decide +kernel, by decide +kernel⟩, List.mem_of_getElem? (i := 251) (by decide +kernel), List.mem_of_getElem? (i := 697) (by decide +kernel), List.mem_of_getElem? (i := 698) (by decide +kernel)⟩
theorem lw_p23 : lw_okq (⟨"FiveLands$Reader", "isPart", "()Z"⟩, 15) := ⟨⟨by decide +kernel, by decide +kernel⟩, List.mem_of_getElem? (i := 251) (by decide +kernel), List.mem_of_getElem? (i := 701) (by decide +kernel), List.mem_of_getElem? (i := 702) (by decide +kernel)⟩
theorem lw_p24 : lw_okq (⟨"FiveLands$Reader", "reliefLine", "()Z"⟩, 15) := ⟨⟨by decide +kernel, by decide +kernel⟩, List.mem_of_getElem? (i := 251) (by decide +kernel), List.mem_of_getElem? (i := 709) (by decide +kernel), List.mem_of_getElem? (i := 710) (by decide +kernel)⟩
theorem lw_p25 : lw_okq (⟨"FiveLands$Reader", "pass", "(I)Z"⟩, 15) := ⟨⟨by decide +kernel, by decide +kernel⟩, List.mem_of_getElem? (i := 251) (by decide +kernel), List.mem_of_getElem? (i := 716) (by decide +kernel), List.mem_of_getElem? (i := 717) (by decide +kernel)⟩
theorem lw_p26 : lw_okq (⟨"FiveLands$Reader", "pactLine", "(I)Z"⟩, 15) := ⟨⟨by decide +kernel, by decide +kernel⟩, List.mem_of_getElem? (i := 251) (by decide +kernel), List.mem_of_getElem? (i := 725) (by decide +kernel), List.mem_of_getElem? (i := 726) (by decide +kernel)⟩
theorem lw_p27 : lw_okq (⟨"FiveLands$Reader", "testLine", "()Z"⟩, 15) := ⟨⟨by decide +kernel, by decide +kernel⟩, List.mem_of_getElem? (i := 251) (by decide +kernel), List.mem_of_getElem? (i := 729) (by decide +kernel), List.mem_of_getElem? (i := 730) (by decide +kernel)⟩
theorem lw_p28 : lw_okq (⟨"FiveLands$Reader", "onlyLine", "()Z"⟩, 15) := ⟨⟨by decide +kernel, by decide +kernel⟩, List.mem_of_getElem? (i := 251) (by decide +kernel), List.mem_of_getElem? (i := 737) (by decide +kernel), List.mem_of_getElem? (i := 738) (by decide +kernel)⟩
theorem lw_p29 : lw_okq (⟨"FiveLands$Reader", "isNewKind", "(I)Z"⟩, 15) := ⟨⟨by decide +kernel, by decide +kernel⟩, List.mem_of_getElem? (i := 251) (by decide +kernel), List.mem_of_getElem? (i := 741) (by decide +kernel), List.mem_of_getElem? (i := 742) (by decide +kernel)⟩
theorem lw_p30 : lw_okq (⟨"FiveLands$Reader", "topLine", "()Z"⟩, 15) := ⟨⟨by decide +kernel, by decide +kernel⟩, List.mem_of_getElem? (i := 251) (by decide +kernel), List.mem_of_getElem? (i := 748) (by decide +kernel), List.mem_of_getElem? (i := 749) (by decide +kernel)⟩
theorem lw_p31 : lw_okq (⟨"FiveLands$Reader", "pactRelief", "()Z"⟩, 15) := ⟨⟨by decide +kernel, by decide +kernel⟩, List.mem_of_getElem? (i := 251) (by decide +kernel), List.mem_of_getElem? (i := 752) (by decide +kernel), List.mem_of_getElem? (i := 753) (by decide +kernel)⟩
def lw_privs_2 : List (MethodName × Nat) := [(⟨"FiveLands$Reader", "emitJoins", "(Z)V"⟩, 15), (⟨"FiveLands$Reader", "endCondition", "()Z"⟩, 15), (⟨"FiveLands$Reader", "await", "(I)V"⟩, 15), (⟨"FiveLands$Reader", "takeLine", "()Z"⟩, 15), (⟨"FiveLands$Reader", "isKind", "()Z"⟩, 15), (⟨"FiveLands$Reader", "freeLine", "()Z"⟩, 15), (⟨"FiveLands$Reader", "stepLine", "()Z"⟩, 15), (⟨"FiveLands$Reader", "isPart", "()Z"⟩, 15), (⟨"FiveLands$Reader", "reliefLine", "()Z"⟩, 15), (⟨"FiveLands$Reader", "pass", "(I)Z"⟩, 15), (⟨"FiveLands$Reader", "pactLine", "(I)Z"⟩, 15), (⟨"FiveLands$Reader", "testLine", "()Z"⟩, 15), (⟨"FiveLands$Reader", "onlyLine", "()Z"⟩, 15), (⟨"FiveLands$Reader", "isNewKind", "(I)Z"⟩, 15), (⟨"FiveLands$Reader", "topLine", "()Z"⟩, 15), (⟨"FiveLands$Reader", "pactRelief", "()Z"⟩, 15)]
theorem lw_r2 : ∀ q ∈ lw_privs_2, lw_okq q := List.forall_mem_cons.mpr ⟨lw_p16, List.forall_mem_cons.mpr ⟨lw_p17, List.forall_mem_cons.mpr ⟨lw_p18, List.forall_mem_cons.mpr ⟨lw_p19, List.forall_mem_cons.mpr ⟨lw_p20, List.forall_mem_cons.mpr ⟨lw_p21, List.forall_mem_cons.mpr ⟨lw_p22, List.forall_mem_cons.mpr ⟨lw_p23, List.forall_mem_cons.mpr ⟨lw_p24, List.forall_mem_cons.mpr ⟨lw_p25, List.forall_mem_cons.mpr ⟨lw_p26, List.forall_mem_cons.mpr ⟨lw_p27, List.forall_mem_cons.mpr ⟨lw_p28, List.forall_mem_cons.mpr ⟨lw_p29, List.forall_mem_cons.mpr ⟨lw_p30, List.forall_mem_cons.mpr ⟨lw_p31, fun _ h => absurd h List.not_mem_nil⟩⟩⟩⟩⟩⟩⟩⟩⟩⟩⟩⟩⟩⟩⟩⟩
theorem lw_p32 : lw_okq (⟨"FiveLands", "hear", "(I)V"⟩, 14) := ⟨⟨by decide +kernel, by decide +kernel⟩, List.mem_of_getElem? (i := 21) (by decide +kernel), List.mem_of_getElem? (i := 769) (by decide +kernel), List.mem_of_getElem? (i := 770) (by decide +kernel)⟩
theorem lw_p33 : lw_okq (⟨"FiveLands$Stay", "mostBut", "(I)I"⟩, 5) := ⟨⟨by decide +kernel, by decide +kernel⟩, List.mem_of_getElem? (i := 355) (by decide +kernel), List.mem_of_getElem? (i := 790) (by decide +kernel), List.mem_of_getElem? (i := 791) (by decide +kernel)⟩
theorem lw_p34 : lw_okq (⟨"FiveLands$Law", "run", "(II[I[I)I"⟩, 12) := ⟨⟨by decide +kernel, by decide +kernel⟩, List.mem_of_getElem? (i := 63) (by decide +kernel), List.mem_of_getElem? (i := 799) (by decide +kernel), List.mem_of_getElem? (i := 800) (by decide +kernel)⟩
theorem lw_p35 : lw_okq (⟨"FiveLands$Levy", "giveWay", "(LFiveLands$Pact;II)V"⟩, 18) := ⟨⟨by decide +kernel, by decide +kernel⟩, List.mem_of_getElem? (i := 31) (by decide +kernel), List.mem_of_getElem? (i := 807) (by decide +kernel), List.mem_of_getElem? (i := 808) (by decide +kernel)⟩
theorem lw_p36 : lw_okq (⟨"FiveLands$Levy", "meet", "(IILFiveLands$Pact;)V"⟩, 18) := ⟨⟨by decide +kernel, by decide +kernel⟩, List.mem_of_getElem? (i := 31) (by decide +kernel), List.mem_of_getElem? (i := 830) (by decide +kernel), List.mem_of_getElem? (i := 831) (by decide +kernel)⟩
theorem lw_p37 : lw_okq (⟨"FiveLands$Levy", "ownAhead", "(LFiveLands$Sum;I)J"⟩, 18) := ⟨⟨by decide +kernel, by decide +kernel⟩, List.mem_of_getElem? (i := 31) (by decide +kernel), List.mem_of_getElem? (i := 870) (by decide +kernel), List.mem_of_getElem? (i := 871) (by decide +kernel)⟩
theorem lw_p38 : lw_okq (⟨"FiveLands$Levy", "atSource", "(LFiveLands$Sum;I)I"⟩, 18) := ⟨⟨by decide +kernel, by decide +kernel⟩, List.mem_of_getElem? (i := 31) (by decide +kernel), List.mem_of_getElem? (i := 875) (by decide +kernel), List.mem_of_getElem? (i := 876) (by decide +kernel)⟩
theorem lw_p39 : lw_okq (⟨"FiveLands$Levy", "takenOf", "(I)J"⟩, 18) := ⟨⟨by decide +kernel, by decide +kernel⟩, List.mem_of_getElem? (i := 31) (by decide +kernel), List.mem_of_getElem? (i := 892) (by decide +kernel), List.mem_of_getElem? (i := 893) (by decide +kernel)⟩
theorem lw_p40 : lw_okq (⟨"FiveLands$Levy", "chooseAnswer", "(I)V"⟩, 18) := ⟨⟨by decide +kernel, by decide +kernel⟩, List.mem_of_getElem? (i := 31) (by decide +kernel), List.mem_of_getElem? (i := 896) (by decide +kernel), List.mem_of_getElem? (i := 897) (by decide +kernel)⟩
theorem lw_p41 : lw_okq (⟨"FiveLands$Ring", "fill", "(I[I[J)I"⟩, 4) := ⟨⟨by decide +kernel, by decide +kernel⟩, List.mem_of_getElem? (i := 41) (by decide +kernel), List.mem_of_getElem? (i := 907) (by decide +kernel), List.mem_of_getElem? (i := 908) (by decide +kernel)⟩
theorem lw_p42 : lw_okq (⟨"FiveLands$Ring", "eliminate", "(I)Z"⟩, 4) := ⟨⟨by decide +kernel, by decide +kernel⟩, List.mem_of_getElem? (i := 41) (by decide +kernel), List.mem_of_getElem? (i := 912) (by decide +kernel), List.mem_of_getElem? (i := 913) (by decide +kernel)⟩
theorem lw_p43 : lw_okq (⟨"FiveLands$Ring", "bringPivot", "(II)Z"⟩, 4) := ⟨⟨by decide +kernel, by decide +kernel⟩, List.mem_of_getElem? (i := 41) (by decide +kernel), List.mem_of_getElem? (i := 916) (by decide +kernel), List.mem_of_getElem? (i := 917) (by decide +kernel)⟩
theorem lw_p44 : lw_okq (⟨"FiveLands$Ring", "othersTakeNothing", "(II[I[J)Z"⟩, 4) := ⟨⟨by decide +kernel, by decide +kernel⟩, List.mem_of_getElem? (i := 41) (by decide +kernel), List.mem_of_getElem? (i := 921) (by decide +kernel), List.mem_of_getElem? (i := 922) (by decide +kernel)⟩
theorem lw_p45 : lw_okq (⟨"FiveLands$Levy", "takeAnswer", "(I)V"⟩, 18) := ⟨⟨by decide +kernel, by decide +kernel⟩, List.mem_of_getElem? (i := 31) (by decide +kernel), List.mem_of_getElem? (i := 925) (by decide +kernel), List.mem_of_getElem? (i := 926) (by decide +kernel)⟩
theorem lw_p46 : lw_okq (⟨"FiveLands", "takenBy", "(LFiveLands$Year;II)I"⟩, 14) := ⟨⟨by decide +kernel, by decide +kernel⟩, List.mem_of_getElem? (i := 21) (by decide +kernel), List.mem_of_getElem? (i := 942) (by decide +kernel), List.mem_of_getElem? (i := 943) (by decide +kernel)⟩
theorem lw_p47 : lw_okq (⟨"FiveLands", "edgeNights", "(III)I"⟩, 14) := ⟨⟨by decide +kernel, by decide +kernel⟩, List.mem_of_getElem? (i := 21) (by decide +kernel), List.mem_of_getElem? (i := 954) (by decide +kernel), List.mem_of_getElem? (i := 955) (by decide +kernel)⟩
def lw_privs_3 : List (MethodName × Nat) := [(⟨"FiveLands", "hear", "(I)V"⟩, 14), (⟨"FiveLands$Stay", "mostBut", "(I)I"⟩, 5), (⟨"FiveLands$Law", "run", "(II[I[I)I"⟩, 12), (⟨"FiveLands$Levy", "giveWay", "(LFiveLands$Pact;II)V"⟩, 18), (⟨"FiveLands$Levy", "meet", "(IILFiveLands$Pact;)V"⟩, 18), (⟨"FiveLands$Levy", "ownAhead", "(LFiveLands$Sum;I)J"⟩, 18), (⟨"FiveLands$Levy", "atSource", "(LFiveLands$Sum;I)I"⟩, 18), (⟨"FiveLands$Levy", "takenOf", "(I)J"⟩, 18), (⟨"FiveLands$Levy", "chooseAnswer", "(I)V"⟩, 18), (⟨"FiveLands$Ring", "fill", "(I[I[J)I"⟩, 4), (⟨"FiveLands$Ring", "eliminate", "(I)Z"⟩, 4), (⟨"FiveLands$Ring", "bringPivot", "(II)Z"⟩, 4), (⟨"FiveLands$Ring", "othersTakeNothing", "(II[I[J)Z"⟩, 4), (⟨"FiveLands$Levy", "takeAnswer", "(I)V"⟩, 18), (⟨"FiveLands", "takenBy", "(LFiveLands$Year;II)I"⟩, 14), (⟨"FiveLands", "edgeNights", "(III)I"⟩, 14)]
theorem lw_r3 : ∀ q ∈ lw_privs_3, lw_okq q := List.forall_mem_cons.mpr ⟨lw_p32, List.forall_mem_cons.mpr ⟨lw_p33, List.forall_mem_cons.mpr ⟨lw_p34, List.forall_mem_cons.mpr ⟨lw_p35, List.forall_mem_cons.mpr ⟨lw_p36, List.forall_mem_cons.mpr ⟨lw_p37, List.forall_mem_cons.mpr ⟨lw_p38, List.forall_mem_cons.mpr ⟨lw_p39, List.forall_mem_cons.mpr ⟨lw_p40, List.forall_mem_cons.mpr ⟨lw_p41, List.forall_mem_cons.mpr ⟨lw_p42, List.forall_mem_cons.mpr ⟨lw_p43, List.forall_mem_cons.mpr ⟨lw_p44, List.forall_mem_cons.mpr ⟨lw_p45, List.forall_mem_cons.mpr ⟨lw_p46, List.forall_mem_cons.mpr ⟨lw_p47, fun _ h => absurd h List.not_mem_nil⟩⟩⟩⟩⟩⟩⟩⟩⟩⟩⟩⟩⟩⟩⟩⟩
theorem lw_p48 : lw_okq (⟨"FiveLands", "saysAfter", "(LFiveLands$Stay;III)Z"⟩, 14) := ⟨⟨by decide +kernel, by decide +kernel⟩, List.mem_of_getElem? (i := 21) (by decide +kernel), List.mem_of_getElem? (i := 959) (by decide +kernel), List.mem_of_getElem? (i := 960) (by decide +kernel)⟩
theorem lw_p49 : lw_okq (⟨"FiveLands", "saysIfTold", "(LFiveLands$Stay;III)Z"⟩, 14) := ⟨⟨by decide +kernel, by decide +kernel⟩, List.mem_of_getElem? (i := 21) (by decide +kernel), List.mem_of_getElem? (i := 980) (by decide +kernel), List.mem_of_getElem? (i := 981) (by decide +kernel)⟩
theorem lw_p50 : lw_okq (⟨"FiveLands", "owesMoved", "(LFiveLands$Year;I)J"⟩, 14) := ⟨⟨by decide +kernel, by decide +kernel⟩, List.mem_of_getElem? (i := 21) (by decide +kernel), List.mem_of_getElem? (i := 992) (by decide +kernel), List.mem_of_getElem? (i := 993) (by decide +kernel)⟩
theorem lw_p51 : lw_okq (⟨"FiveLands", "turn", "(I)LFiveLands$Sum;"⟩, 14) := ⟨⟨by decide +kernel, by decide +kernel⟩, List.mem_of_getElem? (i := 21) (by decide +kernel), List.mem_of_getElem? (i := 1009) (by decide +kernel), List.mem_of_getElem? (i := 1010) (by decide +kernel)⟩
theorem lw_p52 : lw_okq (⟨"FiveLands", "closes", "(I)Z"⟩, 14) := ⟨⟨by decide +kernel, by decide +kernel⟩, List.mem_of_getElem? (i := 21) (by decide +kernel), List.mem_of_getElem? (i := 1032) (by decide +kernel), List.mem_of_getElem? (i := 1033) (by decide +kernel)⟩
theorem lw_p53 : lw_okq (⟨"FiveLands", "amend", "(I)V"⟩, 14) := ⟨⟨by decide +kernel, by decide +kernel⟩, List.mem_of_getElem? (i := 21) (by decide +kernel), List.mem_of_getElem? (i := 1036) (by decide +kernel), List.mem_of_getElem? (i := 1037) (by decide +kernel)⟩
theorem lw_p54 : lw_okq (⟨"FiveLands", "owesUnder", "(I)J"⟩, 14) := ⟨⟨by decide +kernel, by decide +kernel⟩, List.mem_of_getElem? (i := 21) (by decide +kernel), List.mem_of_getElem? (i := 1050) (by decide +kernel), List.mem_of_getElem? (i := 1051) (by decide +kernel)⟩
theorem lw_p55 : lw_okq (⟨"FiveLands", "leg", "(III)I"⟩, 14) := ⟨⟨by decide +kernel, by decide +kernel⟩, List.mem_of_getElem? (i := 21) (by decide +kernel), List.mem_of_getElem? (i := 1058) (by decide +kernel), List.mem_of_getElem? (i := 1059) (by decide +kernel)⟩
theorem lw_p56 : lw_okq (⟨"FiveLands", "truth", "(I)J"⟩, 14) := ⟨⟨by decide +kernel, by decide +kernel⟩, List.mem_of_getElem? (i := 21) (by decide +kernel), List.mem_of_getElem? (i := 1075) (by decide +kernel), List.mem_of_getElem? (i := 1076) (by decide +kernel)⟩
theorem lw_p57 : lw_okq (⟨"FiveLandsModel", "clearsPact", "(I)V"⟩, 89) := ⟨⟨by decide +kernel, by decide +kernel⟩, List.mem_of_getElem? (i := 1083) (by decide +kernel), List.mem_of_getElem? (i := 1089) (by decide +kernel), List.mem_of_getElem? (i := 1090) (by decide +kernel)⟩
theorem lw_p58 : lw_okq (⟨"FiveLandsModel", "empties", "()V"⟩, 89) := ⟨⟨by decide +kernel, by decide +kernel⟩, List.mem_of_getElem? (i := 1083) (by decide +kernel), List.mem_of_getElem? (i := 1400) (by decide +kernel), List.mem_of_getElem? (i := 1401) (by decide +kernel)⟩
theorem lw_p59 : lw_okq (⟨"FiveLandsModel", "next0", "()V"⟩, 89) := ⟨⟨by decide +kernel, by decide +kernel⟩, List.mem_of_getElem? (i := 1083) (by decide +kernel), List.mem_of_getElem? (i := 1404) (by decide +kernel), List.mem_of_getElem? (i := 1405) (by decide +kernel)⟩
theorem lw_p60 : lw_okq (⟨"FiveLandsModel", "see", "(I)I"⟩, 89) := ⟨⟨by decide +kernel, by decide +kernel⟩, List.mem_of_getElem? (i := 1083) (by decide +kernel), List.mem_of_getElem? (i := 1408) (by decide +kernel), List.mem_of_getElem? (i := 1409) (by decide +kernel)⟩
theorem lw_p61 : lw_okq (⟨"FiveLandsModel", "word", "()I"⟩, 89) := ⟨⟨by decide +kernel, by decide +kernel⟩, List.mem_of_getElem? (i := 1083) (by decide +kernel), List.mem_of_getElem? (i := 1415) (by decide +kernel), List.mem_of_getElem? (i := 1416) (by decide +kernel)⟩
theorem lw_p62 : lw_okq (⟨"FiveLandsModel", "is", "(Ljava/lang/String;)Z"⟩, 89) := ⟨⟨by decide +kernel, by decide +kernel⟩, List.mem_of_getElem? (i := 1083) (by decide +kernel), List.mem_of_getElem? (i := 1420) (by decide +kernel), List.mem_of_getElem? (i := 1421) (by decide +kernel)⟩
theorem lw_p63 : lw_okq (⟨"FiveLandsModel", "kindWord", "()I"⟩, 89) := ⟨⟨by decide +kernel, by decide +kernel⟩, List.mem_of_getElem? (i := 1083) (by decide +kernel), List.mem_of_getElem? (i := 1440) (by decide +kernel), List.mem_of_getElem? (i := 1441) (by decide +kernel)⟩
def lw_privs_4 : List (MethodName × Nat) := [(⟨"FiveLands", "saysAfter", "(LFiveLands$Stay;III)Z"⟩, 14), (⟨"FiveLands", "saysIfTold", "(LFiveLands$Stay;III)Z"⟩, 14), (⟨"FiveLands", "owesMoved", "(LFiveLands$Year;I)J"⟩, 14), (⟨"FiveLands", "turn", "(I)LFiveLands$Sum;"⟩, 14), (⟨"FiveLands", "closes", "(I)Z"⟩, 14), (⟨"FiveLands", "amend", "(I)V"⟩, 14), (⟨"FiveLands", "owesUnder", "(I)J"⟩, 14), (⟨"FiveLands", "leg", "(III)I"⟩, 14), (⟨"FiveLands", "truth", "(I)J"⟩, 14), (⟨"FiveLandsModel", "clearsPact", "(I)V"⟩, 89), (⟨"FiveLandsModel", "empties", "()V"⟩, 89), (⟨"FiveLandsModel", "next0", "()V"⟩, 89), (⟨"FiveLandsModel", "see", "(I)I"⟩, 89), (⟨"FiveLandsModel", "word", "()I"⟩, 89), (⟨"FiveLandsModel", "is", "(Ljava/lang/String;)Z"⟩, 89), (⟨"FiveLandsModel", "kindWord", "()I"⟩, 89)]
theorem lw_r4 : ∀ q ∈ lw_privs_4, lw_okq q := List.forall_mem_cons.mpr ⟨lw_p48, List.forall_mem_cons.mpr ⟨lw_p49, List.forall_mem_cons.mpr ⟨lw_p50, List.forall_mem_cons.mpr ⟨lw_p51, List.forall_mem_cons.mpr ⟨lw_p52, List.forall_mem_cons.mpr ⟨lw_p53, List.forall_mem_cons.mpr ⟨lw_p54, List.forall_mem_cons.mpr ⟨lw_p55, List.forall_mem_cons.mpr ⟨lw_p56, List.forall_mem_cons.mpr ⟨lw_p57, List.forall_mem_cons.mpr ⟨lw_p58, List.forall_mem_cons.mpr ⟨lw_p59, List.forall_mem_cons.mpr ⟨lw_p60, List.forall_mem_cons.mpr ⟨lw_p61, List.forall_mem_cons.mpr ⟨lw_p62, List.forall_mem_cons.mpr ⟨lw_p63, fun _ h => absurd h List.not_mem_nil⟩⟩⟩⟩⟩⟩⟩⟩⟩⟩⟩⟩⟩⟩⟩⟩
theorem lw_p64 : lw_okq (⟨"FiveLandsModel", "pactLine", "()Z"⟩, 89) := ⟨⟨by decide +kernel, by decide +kernel⟩, List.mem_of_getElem? (i := 1083) (by decide +kernel), List.mem_of_getElem? (i := 1461) (by decide +kernel), List.mem_of_getElem? (i := 1462) (by decide +kernel)⟩
theorem lw_p65 : lw_okq (⟨"FiveLandsModel", "bad", "(I)Z"⟩, 89) := ⟨⟨by decide +kernel, by decide +kernel⟩, List.mem_of_getElem? (i := 1083) (by decide +kernel), List.mem_of_getElem? (i := 1465) (by decide +kernel), List.mem_of_getElem? (i := 1466) (by decide +kernel)⟩
theorem lw_p66 : lw_okq (⟨"FiveLandsModel", "ofKind", "(I)Z"⟩, 89) := ⟨⟨by decide +kernel, by decide +kernel⟩, List.mem_of_getElem? (i := 1083) (by decide +kernel), List.mem_of_getElem? (i := 1469) (by decide +kernel), List.mem_of_getElem? (i := 1470) (by decide +kernel)⟩
theorem lw_p67 : lw_okq (⟨"FiveLandsModel", "aKind", "()Z"⟩, 89) := ⟨⟨by decide +kernel, by decide +kernel⟩, List.mem_of_getElem? (i := 1083) (by decide +kernel), List.mem_of_getElem? (i := 1473) (by decide +kernel), List.mem_of_getElem? (i := 1474) (by decide +kernel)⟩
theorem lw_p68 : lw_okq (⟨"FiveLandsModel", "number", "(II)Z"⟩, 89) := ⟨⟨by decide +kernel, by decide +kernel⟩, List.mem_of_getElem? (i := 1083) (by decide +kernel), List.mem_of_getElem? (i := 1477) (by decide +kernel), List.mem_of_getElem? (i := 1478) (by decide +kernel)⟩
theorem lw_p69 : lw_okq (⟨"FiveLandsModel", "relief", "()I"⟩, 89) := ⟨⟨by decide +kernel, by decide +kernel⟩, List.mem_of_getElem? (i := 1083) (by decide +kernel), List.mem_of_getElem? (i := 1481) (by decide +kernel), List.mem_of_getElem? (i := 1482) (by decide +kernel)⟩
theorem lw_p70 : lw_okq (⟨"FiveLandsModel", "need", "(I)Z"⟩, 89) := ⟨⟨by decide +kernel, by decide +kernel⟩, List.mem_of_getElem? (i := 1083) (by decide +kernel), List.mem_of_getElem? (i := 1485) (by decide +kernel), List.mem_of_getElem? (i := 1486) (by decide +kernel)⟩
theorem lw_p71 : lw_okq (⟨"FiveLandsModel", "lawLine", "()Z"⟩, 89) := ⟨⟨by decide +kernel, by decide +kernel⟩, List.mem_of_getElem? (i := 1083) (by decide +kernel), List.mem_of_getElem? (i := 1489) (by decide +kernel), List.mem_of_getElem? (i := 1490) (by decide +kernel)⟩
theorem lw_p72 : lw_okq (⟨"FiveLandsModel", "aRule", "(I)Z"⟩, 89) := ⟨⟨by decide +kernel, by decide +kernel⟩, List.mem_of_getElem? (i := 1083) (by decide +kernel), List.mem_of_getElem? (i := 1493) (by decide +kernel), List.mem_of_getElem? (i := 1494) (by decide +kernel)⟩
theorem lw_p73 : lw_okq (⟨"FiveLandsModel", "sumUp", "()Z"⟩, 89) := ⟨⟨by decide +kernel, by decide +kernel⟩, List.mem_of_getElem? (i := 1083) (by decide +kernel), List.mem_of_getElem? (i := 1497) (by decide +kernel), List.mem_of_getElem? (i := 1498) (by decide +kernel)⟩
theorem lw_p74 : lw_okq (⟨"FiveLandsModel", "product", "()Z"⟩, 89) := ⟨⟨by decide +kernel, by decide +kernel⟩, List.mem_of_getElem? (i := 1083) (by decide +kernel), List.mem_of_getElem? (i := 1501) (by decide +kernel), List.mem_of_getElem? (i := 1502) (by decide +kernel)⟩
theorem lw_p75 : lw_okq (⟨"FiveLandsModel", "unit", "()Z"⟩, 89) := ⟨⟨by decide +kernel, by decide +kernel⟩, List.mem_of_getElem? (i := 1083) (by decide +kernel), List.mem_of_getElem? (i := 1505) (by decide +kernel), List.mem_of_getElem? (i := 1506) (by decide +kernel)⟩
theorem lw_p76 : lw_okq (⟨"FiveLandsModel", "lay", "(II)V"⟩, 89) := ⟨⟨by decide +kernel, by decide +kernel⟩, List.mem_of_getElem? (i := 1083) (by decide +kernel), List.mem_of_getElem? (i := 1509) (by decide +kernel), List.mem_of_getElem? (i := 1510) (by decide +kernel)⟩
theorem lw_p77 : lw_okq (⟨"FiveLandsModel", "any", "()Z"⟩, 89) := ⟨⟨by decide +kernel, by decide +kernel⟩, List.mem_of_getElem? (i := 1083) (by decide +kernel), List.mem_of_getElem? (i := 1513) (by decide +kernel), List.mem_of_getElem? (i := 1514) (by decide +kernel)⟩
theorem lw_p78 : lw_okq (⟨"FiveLandsModel", "every", "()Z"⟩, 89) := ⟨⟨by decide +kernel, by decide +kernel⟩, List.mem_of_getElem? (i := 1083) (by decide +kernel), List.mem_of_getElem? (i := 1517) (by decide +kernel), List.mem_of_getElem? (i := 1518) (by decide +kernel)⟩
theorem lw_p79 : lw_okq (⟨"FiveLandsModel", "one", "()Z"⟩, 89) := ⟨⟨by decide +kernel, by decide +kernel⟩, List.mem_of_getElem? (i := 1083) (by decide +kernel), List.mem_of_getElem? (i := 1521) (by decide +kernel), List.mem_of_getElem? (i := 1522) (by decide +kernel)⟩
def lw_privs_5 : List (MethodName × Nat) := [(⟨"FiveLandsModel", "pactLine", "()Z"⟩, 89), (⟨"FiveLandsModel", "bad", "(I)Z"⟩, 89), (⟨"FiveLandsModel", "ofKind", "(I)Z"⟩, 89), (⟨"FiveLandsModel", "aKind", "()Z"⟩, 89), (⟨"FiveLandsModel", "number", "(II)Z"⟩, 89), (⟨"FiveLandsModel", "relief", "()I"⟩, 89), (⟨"FiveLandsModel", "need", "(I)Z"⟩, 89), (⟨"FiveLandsModel", "lawLine", "()Z"⟩, 89), (⟨"FiveLandsModel", "aRule", "(I)Z"⟩, 89), (⟨"FiveLandsModel", "sumUp", "()Z"⟩, 89), (⟨"FiveLandsModel", "product", "()Z"⟩, 89), (⟨"FiveLandsModel", "unit", "()Z"⟩, 89), (⟨"FiveLandsModel", "lay", "(II)V"⟩, 89), (⟨"FiveLandsModel", "any", "()Z"⟩, 89), (⟨"FiveLandsModel", "every", "()Z"⟩, 89), (⟨"FiveLandsModel", "one", "()Z"⟩, 89)]
theorem lw_r5 : ∀ q ∈ lw_privs_5, lw_okq q := List.forall_mem_cons.mpr ⟨lw_p64, List.forall_mem_cons.mpr ⟨lw_p65, List.forall_mem_cons.mpr ⟨lw_p66, List.forall_mem_cons.mpr ⟨lw_p67, List.forall_mem_cons.mpr ⟨lw_p68, List.forall_mem_cons.mpr ⟨lw_p69, List.forall_mem_cons.mpr ⟨lw_p70, List.forall_mem_cons.mpr ⟨lw_p71, List.forall_mem_cons.mpr ⟨lw_p72, List.forall_mem_cons.mpr ⟨lw_p73, List.forall_mem_cons.mpr ⟨lw_p74, List.forall_mem_cons.mpr ⟨lw_p75, List.forall_mem_cons.mpr ⟨lw_p76, List.forall_mem_cons.mpr ⟨lw_p77, List.forall_mem_cons.mpr ⟨lw_p78, List.forall_mem_cons.mpr ⟨lw_p79, fun _ h => absurd h List.not_mem_nil⟩⟩⟩⟩⟩⟩⟩⟩⟩⟩⟩⟩⟩⟩⟩⟩
theorem lw_p80 : lw_okq (⟨"FiveLandsModel", "opens", "()Z"⟩, 89) := ⟨⟨by decide +kernel, by decide +kernel⟩, List.mem_of_getElem? (i := 1083) (by decide +kernel), List.mem_of_getElem? (i := 1525) (by decide +kernel), List.mem_of_getElem? (i := 1526) (by decide +kernel)⟩
theorem lw_p81 : lw_okq (⟨"FiveLandsModel", "aStep", "()Z"⟩, 89) := ⟨⟨by decide +kernel, by decide +kernel⟩, List.mem_of_getElem? (i := 1083) (by decide +kernel), List.mem_of_getElem? (i := 1529) (by decide +kernel), List.mem_of_getElem? (i := 1530) (by decide +kernel)⟩
theorem lw_p82 : lw_okq (⟨"FiveLandsModel", "keepsPact", "(I)V"⟩, 89) := ⟨⟨by decide +kernel, by decide +kernel⟩, List.mem_of_getElem? (i := 1083) (by decide +kernel), List.mem_of_getElem? (i := 1533) (by decide +kernel), List.mem_of_getElem? (i := 1534) (by decide +kernel)⟩
theorem lw_p83 : lw_okq (⟨"FiveLandsModel", "keepsLaw", "(I)V"⟩, 89) := ⟨⟨by decide +kernel, by decide +kernel⟩, List.mem_of_getElem? (i := 1083) (by decide +kernel), List.mem_of_getElem? (i := 1537) (by decide +kernel), List.mem_of_getElem? (i := 1538) (by decide +kernel)⟩
theorem lw_p84 : lw_okq (⟨"FiveLandsModel", "lays", "(I)V"⟩, 89) := ⟨⟨by decide +kernel, by decide +kernel⟩, List.mem_of_getElem? (i := 1083) (by decide +kernel), List.mem_of_getElem? (i := 1549) (by decide +kernel), List.mem_of_getElem? (i := 1550) (by decide +kernel)⟩
theorem lw_p85 : lw_okq (⟨"FiveLandsModel", "laysNights", "(I)V"⟩, 89) := ⟨⟨by decide +kernel, by decide +kernel⟩, List.mem_of_getElem? (i := 1083) (by decide +kernel), List.mem_of_getElem? (i := 1553) (by decide +kernel), List.mem_of_getElem? (i := 1554) (by decide +kernel)⟩
theorem lw_p86 : lw_okq (⟨"FiveLandsModel", "laysPacts", "(I)V"⟩, 89) := ⟨⟨by decide +kernel, by decide +kernel⟩, List.mem_of_getElem? (i := 1083) (by decide +kernel), List.mem_of_getElem? (i := 1557) (by decide +kernel), List.mem_of_getElem? (i := 1558) (by decide +kernel)⟩
theorem lw_p87 : lw_okq (⟨"FiveLandsModel", "findsHis", "()V"⟩, 89) := ⟨⟨by decide +kernel, by decide +kernel⟩, List.mem_of_getElem? (i := 1083) (by decide +kernel), List.mem_of_getElem? (i := 1561) (by decide +kernel), List.mem_of_getElem? (i := 1562) (by decide +kernel)⟩
theorem lw_p88 : lw_okq (⟨"FiveLandsModel", "says", "(I)Z"⟩, 89) := ⟨⟨by decide +kernel, by decide +kernel⟩, List.mem_of_getElem? (i := 1083) (by decide +kernel), List.mem_of_getElem? (i := 1565) (by decide +kernel), List.mem_of_getElem? (i := 1566) (by decide +kernel)⟩
theorem lw_p89 : lw_okq (⟨"FiveLandsModel", "gathers", "(I)V"⟩, 89) := ⟨⟨by decide +kernel, by decide +kernel⟩, List.mem_of_getElem? (i := 1083) (by decide +kernel), List.mem_of_getElem? (i := 1569) (by decide +kernel), List.mem_of_getElem? (i := 1570) (by decide +kernel)⟩
theorem lw_p90 : lw_okq (⟨"FiveLandsModel", "most", "(I)I"⟩, 89) := ⟨⟨by decide +kernel, by decide +kernel⟩, List.mem_of_getElem? (i := 1083) (by decide +kernel), List.mem_of_getElem? (i := 1573) (by decide +kernel), List.mem_of_getElem? (i := 1574) (by decide +kernel)⟩
theorem lw_p91 : lw_okq (⟨"FiveLandsModel", "comesTo", "(III)I"⟩, 89) := ⟨⟨by decide +kernel, by decide +kernel⟩, List.mem_of_getElem? (i := 1083) (by decide +kernel), List.mem_of_getElem? (i := 1577) (by decide +kernel), List.mem_of_getElem? (i := 1578) (by decide +kernel)⟩
theorem lw_p92 : lw_okq (⟨"FiveLandsModel", "firstAhead", "(I)I"⟩, 89) := ⟨⟨by decide +kernel, by decide +kernel⟩, List.mem_of_getElem? (i := 1083) (by decide +kernel), List.mem_of_getElem? (i := 1584) (by decide +kernel), List.mem_of_getElem? (i := 1585) (by decide +kernel)⟩
theorem lw_p93 : lw_okq (⟨"FiveLandsModel", "givesWay", "(II)Z"⟩, 89) := ⟨⟨by decide +kernel, by decide +kernel⟩, List.mem_of_getElem? (i := 1083) (by decide +kernel), List.mem_of_getElem? (i := 1588) (by decide +kernel), List.mem_of_getElem? (i := 1589) (by decide +kernel)⟩
theorem lw_p94 : lw_okq (⟨"FiveLandsModel", "decider", "(II)I"⟩, 89) := ⟨⟨by decide +kernel, by decide +kernel⟩, List.mem_of_getElem? (i := 1083) (by decide +kernel), List.mem_of_getElem? (i := 1592) (by decide +kernel), List.mem_of_getElem? (i := 1593) (by decide +kernel)⟩
theorem lw_p95 : lw_okq (⟨"FiveLandsModel", "ofTest", "(II)I"⟩, 89) := ⟨⟨by decide +kernel, by decide +kernel⟩, List.mem_of_getElem? (i := 1083) (by decide +kernel), List.mem_of_getElem? (i := 1599) (by decide +kernel), List.mem_of_getElem? (i := 1600) (by decide +kernel)⟩
def lw_privs_6 : List (MethodName × Nat) := [(⟨"FiveLandsModel", "opens", "()Z"⟩, 89), (⟨"FiveLandsModel", "aStep", "()Z"⟩, 89), (⟨"FiveLandsModel", "keepsPact", "(I)V"⟩, 89), (⟨"FiveLandsModel", "keepsLaw", "(I)V"⟩, 89), (⟨"FiveLandsModel", "lays", "(I)V"⟩, 89), (⟨"FiveLandsModel", "laysNights", "(I)V"⟩, 89), (⟨"FiveLandsModel", "laysPacts", "(I)V"⟩, 89), (⟨"FiveLandsModel", "findsHis", "()V"⟩, 89), (⟨"FiveLandsModel", "says", "(I)Z"⟩, 89), (⟨"FiveLandsModel", "gathers", "(I)V"⟩, 89), (⟨"FiveLandsModel", "most", "(I)I"⟩, 89), (⟨"FiveLandsModel", "comesTo", "(III)I"⟩, 89), (⟨"FiveLandsModel", "firstAhead", "(I)I"⟩, 89), (⟨"FiveLandsModel", "givesWay", "(II)Z"⟩, 89), (⟨"FiveLandsModel", "decider", "(II)I"⟩, 89), (⟨"FiveLandsModel", "ofTest", "(II)I"⟩, 89)]
theorem lw_r6 : ∀ q ∈ lw_privs_6, lw_okq q := List.forall_mem_cons.mpr ⟨lw_p80, List.forall_mem_cons.mpr ⟨lw_p81, List.forall_mem_cons.mpr ⟨lw_p82, List.forall_mem_cons.mpr ⟨lw_p83, List.forall_mem_cons.mpr ⟨lw_p84, List.forall_mem_cons.mpr ⟨lw_p85, List.forall_mem_cons.mpr ⟨lw_p86, List.forall_mem_cons.mpr ⟨lw_p87, List.forall_mem_cons.mpr ⟨lw_p88, List.forall_mem_cons.mpr ⟨lw_p89, List.forall_mem_cons.mpr ⟨lw_p90, List.forall_mem_cons.mpr ⟨lw_p91, List.forall_mem_cons.mpr ⟨lw_p92, List.forall_mem_cons.mpr ⟨lw_p93, List.forall_mem_cons.mpr ⟨lw_p94, List.forall_mem_cons.mpr ⟨lw_p95, fun _ h => absurd h List.not_mem_nil⟩⟩⟩⟩⟩⟩⟩⟩⟩⟩⟩⟩⟩⟩⟩⟩
theorem lw_p96 : lw_okq (⟨"FiveLandsModel", "taxOf", "(II)J"⟩, 89) := ⟨⟨by decide +kernel, by decide +kernel⟩, List.mem_of_getElem? (i := 1083) (by decide +kernel), List.mem_of_getElem? (i := 1612) (by decide +kernel), List.mem_of_getElem? (i := 1613) (by decide +kernel)⟩
theorem lw_p97 : lw_okq (⟨"FiveLandsModel", "findsTaken", "(I)I"⟩, 89) := ⟨⟨by decide +kernel, by decide +kernel⟩, List.mem_of_getElem? (i := 1083) (by decide +kernel), List.mem_of_getElem? (i := 1621) (by decide +kernel), List.mem_of_getElem? (i := 1622) (by decide +kernel)⟩
theorem lw_p98 : lw_okq (⟨"FiveLandsModel", "ahead", "(II)J"⟩, 89) := ⟨⟨by decide +kernel, by decide +kernel⟩, List.mem_of_getElem? (i := 1083) (by decide +kernel), List.mem_of_getElem? (i := 1625) (by decide +kernel), List.mem_of_getElem? (i := 1626) (by decide +kernel)⟩
theorem lw_p99 : lw_okq (⟨"FiveLandsModel", "isFreed", "(II)Z"⟩, 89) := ⟨⟨by decide +kernel, by decide +kernel⟩, List.mem_of_getElem? (i := 1083) (by decide +kernel), List.mem_of_getElem? (i := 1629) (by decide +kernel), List.mem_of_getElem? (i := 1630) (by decide +kernel)⟩
theorem lw_p100 : lw_okq (⟨"FiveLandsModel", "reliefWith", "(II)I"⟩, 89) := ⟨⟨by decide +kernel, by decide +kernel⟩, List.mem_of_getElem? (i := 1083) (by decide +kernel), List.mem_of_getElem? (i := 1633) (by decide +kernel), List.mem_of_getElem? (i := 1634) (by decide +kernel)⟩
theorem lw_p101 : lw_okq (⟨"FiveLandsModel", "seenAs", "(II)I"⟩, 89) := ⟨⟨by decide +kernel, by decide +kernel⟩, List.mem_of_getElem? (i := 1083) (by decide +kernel), List.mem_of_getElem? (i := 1637) (by decide +kernel), List.mem_of_getElem? (i := 1638) (by decide +kernel)⟩
theorem lw_p102 : lw_okq (⟨"FiveLandsModel", "rate", "(II)I"⟩, 89) := ⟨⟨by decide +kernel, by decide +kernel⟩, List.mem_of_getElem? (i := 1083) (by decide +kernel), List.mem_of_getElem? (i := 1641) (by decide +kernel), List.mem_of_getElem? (i := 1642) (by decide +kernel)⟩
theorem lw_p103 : lw_okq (⟨"FiveLandsModel", "bounded", "(III)I"⟩, 89) := ⟨⟨by decide +kernel, by decide +kernel⟩, List.mem_of_getElem? (i := 1083) (by decide +kernel), List.mem_of_getElem? (i := 1645) (by decide +kernel), List.mem_of_getElem? (i := 1646) (by decide +kernel)⟩
theorem lw_p104 : lw_okq (⟨"FiveLandsModel", "isAnswer", "(I)Z"⟩, 89) := ⟨⟨by decide +kernel, by decide +kernel⟩, List.mem_of_getElem? (i := 1083) (by decide +kernel), List.mem_of_getElem? (i := 1649) (by decide +kernel), List.mem_of_getElem? (i := 1650) (by decide +kernel)⟩
theorem lw_p105 : lw_okq (⟨"FiveLandsModel", "isOff", "(II)Z"⟩, 89) := ⟨⟨by decide +kernel, by decide +kernel⟩, List.mem_of_getElem? (i := 1083) (by decide +kernel), List.mem_of_getElem? (i := 1653) (by decide +kernel), List.mem_of_getElem? (i := 1654) (by decide +kernel)⟩
theorem lw_p106 : lw_okq (⟨"FiveLandsModel", "lessOthers", "(I)J"⟩, 89) := ⟨⟨by decide +kernel, by decide +kernel⟩, List.mem_of_getElem? (i := 1083) (by decide +kernel), List.mem_of_getElem? (i := 1657) (by decide +kernel), List.mem_of_getElem? (i := 1658) (by decide +kernel)⟩
theorem lw_p107 : lw_okq (⟨"FiveLandsModel", "solves", "(I)Z"⟩, 89) := ⟨⟨by decide +kernel, by decide +kernel⟩, List.mem_of_getElem? (i := 1083) (by decide +kernel), List.mem_of_getElem? (i := 1661) (by decide +kernel), List.mem_of_getElem? (i := 1662) (by decide +kernel)⟩
theorem lw_p108 : lw_okq (⟨"FiveLandsModel", "swapsRows", "(III)V"⟩, 89) := ⟨⟨by decide +kernel, by decide +kernel⟩, List.mem_of_getElem? (i := 1083) (by decide +kernel), List.mem_of_getElem? (i := 1665) (by decide +kernel), List.mem_of_getElem? (i := 1666) (by decide +kernel)⟩
theorem lw_p109 : lw_okq (⟨"FiveLandsModel", "owesNow", "()J"⟩, 89) := ⟨⟨by decide +kernel, by decide +kernel⟩, List.mem_of_getElem? (i := 1083) (by decide +kernel), List.mem_of_getElem? (i := 1673) (by decide +kernel), List.mem_of_getElem? (i := 1674) (by decide +kernel)⟩
theorem lw_p110 : lw_okq (⟨"FiveLandsModel", "owesByMove", "(II)J"⟩, 89) := ⟨⟨by decide +kernel, by decide +kernel⟩, List.mem_of_getElem? (i := 1083) (by decide +kernel), List.mem_of_getElem? (i := 1694) (by decide +kernel), List.mem_of_getElem? (i := 1695) (by decide +kernel)⟩
theorem lw_p111 : lw_okq (⟨"FiveLandsModel", "owesTurned", "(II)J"⟩, 89) := ⟨⟨by decide +kernel, by decide +kernel⟩, List.mem_of_getElem? (i := 1083) (by decide +kernel), List.mem_of_getElem? (i := 1706) (by decide +kernel), List.mem_of_getElem? (i := 1707) (by decide +kernel)⟩
def lw_privs_7 : List (MethodName × Nat) := [(⟨"FiveLandsModel", "taxOf", "(II)J"⟩, 89), (⟨"FiveLandsModel", "findsTaken", "(I)I"⟩, 89), (⟨"FiveLandsModel", "ahead", "(II)J"⟩, 89), (⟨"FiveLandsModel", "isFreed", "(II)Z"⟩, 89), (⟨"FiveLandsModel", "reliefWith", "(II)I"⟩, 89), (⟨"FiveLandsModel", "seenAs", "(II)I"⟩, 89), (⟨"FiveLandsModel", "rate", "(II)I"⟩, 89), (⟨"FiveLandsModel", "bounded", "(III)I"⟩, 89), (⟨"FiveLandsModel", "isAnswer", "(I)Z"⟩, 89), (⟨"FiveLandsModel", "isOff", "(II)Z"⟩, 89), (⟨"FiveLandsModel", "lessOthers", "(I)J"⟩, 89), (⟨"FiveLandsModel", "solves", "(I)Z"⟩, 89), (⟨"FiveLandsModel", "swapsRows", "(III)V"⟩, 89), (⟨"FiveLandsModel", "owesNow", "()J"⟩, 89), (⟨"FiveLandsModel", "owesByMove", "(II)J"⟩, 89), (⟨"FiveLandsModel", "owesTurned", "(II)J"⟩, 89)]
theorem lw_r7 : ∀ q ∈ lw_privs_7, lw_okq q := List.forall_mem_cons.mpr ⟨lw_p96, List.forall_mem_cons.mpr ⟨lw_p97, List.forall_mem_cons.mpr ⟨lw_p98, List.forall_mem_cons.mpr ⟨lw_p99, List.forall_mem_cons.mpr ⟨lw_p100, List.forall_mem_cons.mpr ⟨lw_p101, List.forall_mem_cons.mpr ⟨lw_p102, List.forall_mem_cons.mpr ⟨lw_p103, List.forall_mem_cons.mpr ⟨lw_p104, List.forall_mem_cons.mpr ⟨lw_p105, List.forall_mem_cons.mpr ⟨lw_p106, List.forall_mem_cons.mpr ⟨lw_p107, List.forall_mem_cons.mpr ⟨lw_p108, List.forall_mem_cons.mpr ⟨lw_p109, List.forall_mem_cons.mpr ⟨lw_p110, List.forall_mem_cons.mpr ⟨lw_p111, fun _ h => absurd h List.not_mem_nil⟩⟩⟩⟩⟩⟩⟩⟩⟩⟩⟩⟩⟩⟩⟩⟩
theorem lw_p112 : lw_okq (⟨"FiveLandsModel", "canTurn", "(I)Z"⟩, 89) := ⟨⟨by decide +kernel, by decide +kernel⟩, List.mem_of_getElem? (i := 1083) (by decide +kernel), List.mem_of_getElem? (i := 1711) (by decide +kernel), List.mem_of_getElem? (i := 1712) (by decide +kernel)⟩
theorem lw_p113 : lw_okq (⟨"FiveLandsModel", "closes", "(I)Z"⟩, 89) := ⟨⟨by decide +kernel, by decide +kernel⟩, List.mem_of_getElem? (i := 1083) (by decide +kernel), List.mem_of_getElem? (i := 1726) (by decide +kernel), List.mem_of_getElem? (i := 1727) (by decide +kernel)⟩
theorem lw_p114 : lw_okq (⟨"FiveLandsModel", "legTakes", "(III)I"⟩, 89) := ⟨⟨by decide +kernel, by decide +kernel⟩, List.mem_of_getElem? (i := 1083) (by decide +kernel), List.mem_of_getElem? (i := 1734) (by decide +kernel), List.mem_of_getElem? (i := 1735) (by decide +kernel)⟩
def lw_privs_8 : List (MethodName × Nat) := [(⟨"FiveLandsModel", "canTurn", "(I)Z"⟩, 89), (⟨"FiveLandsModel", "closes", "(I)Z"⟩, 89), (⟨"FiveLandsModel", "legTakes", "(III)I"⟩, 89)]
theorem lw_r8 : ∀ q ∈ lw_privs_8, lw_okq q := List.forall_mem_cons.mpr ⟨lw_p112, List.forall_mem_cons.mpr ⟨lw_p113, List.forall_mem_cons.mpr ⟨lw_p114, fun _ h => absurd h List.not_mem_nil⟩⟩⟩
def lw_privs : List (MethodName × Nat) := lw_privs_1 ++ (lw_privs_2 ++ (lw_privs_3 ++ (lw_privs_4 ++ (lw_privs_5 ++ (lw_privs_6 ++ (lw_privs_7 ++ (lw_privs_8)))))))
def lw_tbl : List Cond := k2_sels lw_privs ++ tables_1
theorem lw_privs_ok : ∀ q ∈ lw_privs, lw_okq q := by
  show ∀ q ∈ lw_privs_1 ++ (lw_privs_2 ++ (lw_privs_3 ++ (lw_privs_4 ++ (lw_privs_5 ++ (lw_privs_6 ++ (lw_privs_7 ++ (lw_privs_8))))))), lw_okq q
  exact List.forall_mem_append.mpr ⟨lw_r1, List.forall_mem_append.mpr ⟨lw_r2, List.forall_mem_append.mpr ⟨lw_r3, List.forall_mem_append.mpr ⟨lw_r4, List.forall_mem_append.mpr ⟨lw_r5, List.forall_mem_append.mpr ⟨lw_r6, List.forall_mem_append.mpr ⟨lw_r7, lw_r8⟩⟩⟩⟩⟩⟩⟩

def RX0 : String := "FiveLands$Claims"
def TX0 : u_T := fun k => match k with
  | 0 => ("FiveLands$Claims", "sort", "[I", true)
  | 1 => ("FiveLands$Claims", "land", "[I", true)
  | 2 => ("FiveLands$Claims", "sum", "[I", true)
  | 3 => ("FiveLands$Claims", "value", "[J", true)
  | _ => ("FiveLands$Claims", "count", "I", false)
def tyX0 : Nat → FieldType := fun k => match k with
  | 0 => .array .int
  | 1 => .array .int
  | 2 => .array .int
  | 3 => .array .long
  | _ => .int
abbrev wsX00 : List Cond := u_ws RX0 TX0 5
theorem nmX0 : ∀ a, a < 5 → ∀ b, b < 5 → a ≠ b → (TX0 a).2.1 ≠ (TX0 b).2.1 := by decide +kernel
theorem tyX0_ok : ∀ k, k < 5 → parseFieldDescriptor (TX0 k).2.2.1 = some (tyX0 k) := by decide +kernel
abbrev cX0_init : ByteArray := prog_2_method_1_code
def yX0_init : MethodName := ⟨RX0, "<init>", "()V"⟩
def RX1 : String := "FiveLands$Law"
def TX1 : u_T := fun k => match k with
  | 0 => ("FiveLands$Law", "code", "[I", true)
  | 1 => ("FiveLands$Law", "ruleSort", "[I", true)
  | 2 => ("FiveLands$Law", "ruleStart", "[I", true)
  | 3 => ("FiveLands$Law", "ruleWhen", "[I", true)
  | 4 => ("FiveLands$Law", "ruleEnd", "[I", true)
  | 5 => ("FiveLands$Law", "stepFrom", "[I", true)
  | 6 => ("FiveLands$Law", "stepPart", "[I", true)
  | 7 => ("FiveLands$Law", "used", "I", false)
  | 8 => ("FiveLands$Law", "rules", "I", false)
  | 9 => ("FiveLands$Law", "steps", "I", false)
  | 10 => ("FiveLands$Law", "free", "I", false)
  | _ => ("FiveLands$Law", "relief", "I", false)
def tyX1 : Nat → FieldType := fun k => match k with
  | 0 => .array .int
  | 1 => .array .int
  | 2 => .array .int
  | 3 => .array .int
  | 4 => .array .int
  | 5 => .array .int
  | 6 => .array .int
  | 7 => .int
  | 8 => .int
  | 9 => .int
  | 10 => .int
  | _ => .int
abbrev wsX10 : List Cond := u_ws RX1 TX1 12
theorem nmX1 : ∀ a, a < 12 → ∀ b, b < 12 → a ≠ b → (TX1 a).2.1 ≠ (TX1 b).2.1 := by decide +kernel
theorem tyX1_ok : ∀ k, k < 12 → parseFieldDescriptor (TX1 k).2.2.1 = some (tyX1 k) := by decide +kernel
abbrev cX1_init : ByteArray := prog_3_method_1_code
def yX1_init : MethodName := ⟨RX1, "<init>", "()V"⟩
abbrev cX1_clear : ByteArray := prog_3_method_2_code
def yX1_clear : MethodName := ⟨RX1, "clear", "()V"⟩
abbrev cX1_emit : ByteArray := prog_3_method_3_code
def yX1_emit : MethodName := ⟨RX1, "emit", "(I)V"⟩
abbrev cX1_addRule : ByteArray := prog_3_method_4_code
def yX1_addRule : MethodName := ⟨RX1, "addRule", "(III)V"⟩
abbrev cX1_addStep : ByteArray := prog_3_method_5_code
def yX1_addStep : MethodName := ⟨RX1, "addStep", "(II)V"⟩
abbrev cX1_saysMine : ByteArray := prog_3_method_6_code
def yX1_saysMine : MethodName := ⟨RX1, "saysMine", "([I[I)Z"⟩
abbrev cX1_part : ByteArray := prog_3_method_7_code
def yX1_part : MethodName := ⟨RX1, "part", "(I[I[I)I"⟩
abbrev cX1_bySteps : ByteArray := prog_3_method_8_code
def yX1_bySteps : MethodName := ⟨RX1, "bySteps", "(J)J"⟩
abbrev cX1_run : ByteArray := prog_3_method_9_code
def yX1_run : MethodName := ⟨RX1, "run", "(II[I[I)I"⟩
abbrev cX1_join : ByteArray := prog_3_method_10_code
def yX1_join : MethodName := ⟨RX1, "join", "(III)I"⟩
def RX2 : String := "FiveLands$Levy"
def TX2 : u_T := fun k => match k with
  | 0 => ("FiveLands$Levy", "laws", "[LFiveLands$Law;", true)
  | 1 => ("FiveLands$Levy", "facts", "[[I", true)
  | 2 => ("FiveLands$Levy", "legFacts", "[I", true)
  | 3 => ("FiveLands$Levy", "pile", "[I", true)
  | 4 => ("FiveLands$Levy", "above", "[I", true)
  | 5 => ("FiveLands$Levy", "reliefOff", "[I", true)
  | 6 => ("FiveLands$Levy", "reliefFree", "[I", true)
  | 7 => ("FiveLands$Levy", "whole", "[J", true)
  | 8 => ("FiveLands$Levy", "ahead", "[J", true)
  | 9 => ("FiveLands$Levy", "taken", "[J", true)
  | 10 => ("FiveLands$Levy", "due", "[J", true)
  | 11 => ("FiveLands$Levy", "ring", "LFiveLands$Ring;", true)
  | 12 => ("FiveLands$Levy", "pacts", "[LFiveLands$Pact;", false)
  | 13 => ("FiveLands$Levy", "base", "J", false)
  | 14 => ("FiveLands$Levy", "says", "I", false)
  | 15 => ("FiveLands$Levy", "his", "I", false)
  | 16 => ("FiveLands$Levy", "seeing", "I", false)
  | _ => ("FiveLands$Levy", "answers", "I", false)
def tyX2 : Nat → FieldType := fun k => match k with
  | 0 => .array (.object "FiveLands$Law")
  | 1 => .array (.array .int)
  | 2 => .array .int
  | 3 => .array .int
  | 4 => .array .int
  | 5 => .array .int
  | 6 => .array .int
  | 7 => .array .long
  | 8 => .array .long
  | 9 => .array .long
  | 10 => .array .long
  | 11 => .object "FiveLands$Ring"
  | 12 => .array (.object "FiveLands$Pact")
  | 13 => .long
  | 14 => .int
  | 15 => .int
  | 16 => .int
  | _ => .int
abbrev wsX20 : List Cond := u_ws RX2 TX2 18
theorem nmX2 : ∀ a, a < 18 → ∀ b, b < 18 → a ≠ b → (TX2 a).2.1 ≠ (TX2 b).2.1 := by decide +kernel
theorem tyX2_ok : ∀ k, k < 18 → parseFieldDescriptor (TX2 k).2.2.1 = some (tyX2 k) := by decide +kernel
abbrev cX2_init : ByteArray := prog_4_method_1_code
def yX2_init : MethodName := ⟨RX2, "<init>", "()V"⟩
abbrev cX2_saysSo : ByteArray := prog_4_method_2_code
def yX2_saysSo : MethodName := ⟨RX2, "saysSo", "(LFiveLands$Stay;I)Z"⟩
abbrev cX2_hear : ByteArray := prog_4_method_3_code
def yX2_hear : MethodName := ⟨RX2, "hear", "(LFiveLands$Stay;[LFiveLands$Pact;J)V"⟩
abbrev cX2_giveWay : ByteArray := prog_4_method_4_code
def yX2_giveWay : MethodName := ⟨RX2, "giveWay", "(LFiveLands$Pact;II)V"⟩
abbrev cX2_deciding : ByteArray := prog_4_method_5_code
def yX2_deciding : MethodName := ⟨RX2, "deciding", "(LFiveLands$Pact;II)I"⟩
abbrev cX2_under : ByteArray := prog_4_method_6_code
def yX2_under : MethodName := ⟨RX2, "under", "([LFiveLands$Pact;)V"⟩
abbrev cX2_meet : ByteArray := prog_4_method_7_code
def yX2_meet : MethodName := ⟨RX2, "meet", "(IILFiveLands$Pact;)V"⟩
abbrev cX2_seen : ByteArray := prog_4_method_8_code
def yX2_seen : MethodName := ⟨RX2, "seen", "(LFiveLands$Sum;I)I"⟩
abbrev cX2_freed : ByteArray := prog_4_method_9_code
def yX2_freed : MethodName := ⟨RX2, "freed", "(LFiveLands$Sum;I)Z"⟩
abbrev cX2_settleAll : ByteArray := prog_4_method_10_code
def yX2_settleAll : MethodName := ⟨RX2, "settleAll", "(LFiveLands$Year;)J"⟩
abbrev cX2_settle : ByteArray := prog_4_method_11_code
def yX2_settle : MethodName := ⟨RX2, "settle", "(LFiveLands$Sum;)J"⟩
abbrev cX2_ownAhead : ByteArray := prog_4_method_12_code
def yX2_ownAhead : MethodName := ⟨RX2, "ownAhead", "(LFiveLands$Sum;I)J"⟩
abbrev cX2_atSource : ByteArray := prog_4_method_13_code
def yX2_atSource : MethodName := ⟨RX2, "atSource", "(LFiveLands$Sum;I)I"⟩
abbrev cX2_takenOf : ByteArray := prog_4_method_14_code
def yX2_takenOf : MethodName := ⟨RX2, "takenOf", "(I)J"⟩
abbrev cX2_chooseAnswer : ByteArray := prog_4_method_15_code
def yX2_chooseAnswer : MethodName := ⟨RX2, "chooseAnswer", "(I)V"⟩
abbrev cX2_takeAnswer : ByteArray := prog_4_method_16_code
def yX2_takeAnswer : MethodName := ⟨RX2, "takeAnswer", "(I)V"⟩
abbrev cX2_takers : ByteArray := prog_4_method_17_code
def yX2_takers : MethodName := ⟨RX2, "takers", "()I"⟩
abbrev cX2_share : ByteArray := prog_4_method_18_code
def yX2_share : MethodName := ⟨RX2, "share", "(II)I"⟩
def RX3 : String := "FiveLands$Pact"
def TX3 : u_T := fun k => match k with
  | 0 => ("FiveLands$Pact", "tests", "[I", true)
  | 1 => ("FiveLands$Pact", "tops", "[I", true)
  | 2 => ("FiveLands$Pact", "testCount", "I", false)
  | 3 => ("FiveLands$Pact", "only", "I", false)
  | 4 => ("FiveLands$Pact", "topped", "I", false)
  | 5 => ("FiveLands$Pact", "relief", "I", false)
  | _ => ("FiveLands$Pact", "looks", "Z", false)
def tyX3 : Nat → FieldType := fun k => match k with
  | 0 => .array .int
  | 1 => .array .int
  | 2 => .int
  | 3 => .int
  | 4 => .int
  | 5 => .int
  | _ => .boolean
abbrev wsX30 : List Cond := u_ws RX3 TX3 7
theorem nmX3 : ∀ a, a < 7 → ∀ b, b < 7 → a ≠ b → (TX3 a).2.1 ≠ (TX3 b).2.1 := by decide +kernel
theorem tyX3_ok : ∀ k, k < 7 → parseFieldDescriptor (TX3 k).2.2.1 = some (tyX3 k) := by decide +kernel
abbrev cX3_init : ByteArray := prog_5_method_1_code
def yX3_init : MethodName := ⟨RX3, "<init>", "()V"⟩
abbrev cX3_clear : ByteArray := prog_5_method_2_code
def yX3_clear : MethodName := ⟨RX3, "clear", "()V"⟩
abbrev cX3_copyTerms : ByteArray := prog_5_method_3_code
def yX3_copyTerms : MethodName := ⟨RX3, "copyTerms", "(LFiveLands$Pact;)V"⟩
abbrev cX3_addTest : ByteArray := prog_5_method_4_code
def yX3_addTest : MethodName := ⟨RX3, "addTest", "(I)V"⟩
abbrev cX3_tell : ByteArray := prog_5_method_5_code
def yX3_tell : MethodName := ⟨RX3, "tell", "(II)V"⟩
abbrev cX3_limit : ByteArray := prog_5_method_6_code
def yX3_limit : MethodName := ⟨RX3, "limit", "(I)I"⟩
def RX4 : String := "FiveLands$Plans"
def TX4 : u_T := fun k => match k with
  | 0 => ("FiveLands$Plans", "moveNight", "[I", true)
  | 1 => ("FiveLands$Plans", "moveLand", "[I", true)
  | 2 => ("FiveLands$Plans", "turnSum", "[I", true)
  | 3 => ("FiveLands$Plans", "turnLand", "[I", true)
  | 4 => ("FiveLands$Plans", "turnPrice", "[I", true)
  | 5 => ("FiveLands$Plans", "wordPair", "[I", true)
  | 6 => ("FiveLands$Plans", "wordSort", "[I", true)
  | 7 => ("FiveLands$Plans", "wordKind", "[I", true)
  | 8 => ("FiveLands$Plans", "moves", "I", false)
  | 9 => ("FiveLands$Plans", "turnings", "I", false)
  | _ => ("FiveLands$Plans", "words", "I", false)
def tyX4 : Nat → FieldType := fun k => match k with
  | 0 => .array .int
  | 1 => .array .int
  | 2 => .array .int
  | 3 => .array .int
  | 4 => .array .int
  | 5 => .array .int
  | 6 => .array .int
  | 7 => .array .int
  | 8 => .int
  | 9 => .int
  | _ => .int
abbrev wsX40 : List Cond := u_ws RX4 TX4 11
theorem nmX4 : ∀ a, a < 11 → ∀ b, b < 11 → a ≠ b → (TX4 a).2.1 ≠ (TX4 b).2.1 := by decide +kernel
theorem tyX4_ok : ∀ k, k < 11 → parseFieldDescriptor (TX4 k).2.2.1 = some (tyX4 k) := by decide +kernel
abbrev cX4_init : ByteArray := prog_6_method_1_code
def yX4_init : MethodName := ⟨RX4, "<init>", "()V"⟩
abbrev cX4_price : ByteArray := prog_6_method_2_code
def yX4_price : MethodName := ⟨RX4, "price", "(I)J"⟩
def RX5 : String := "FiveLands$Reader"
def TX5 : u_T := fun k => match k with
  | 0 => ("FiveLands$Reader", "keys", "[J", true)
  | 1 => ("FiveLands$Reader", "signs", "[I", true)
  | 2 => ("FiveLands$Reader", "values", "[I", true)
  | 3 => ("FiveLands$Reader", "places", "[I", true)
  | 4 => ("FiveLands$Reader", "waiting", "[I", true)
  | 5 => ("FiveLands$Reader", "law", "LFiveLands$Law;", false)
  | 6 => ("FiveLands$Reader", "pact", "LFiveLands$Pact;", false)
  | 7 => ("FiveLands$Reader", "count", "I", false)
  | 8 => ("FiveLands$Reader", "at", "I", false)
  | 9 => ("FiveLands$Reader", "height", "I", false)
  | 10 => ("FiveLands$Reader", "open", "I", false)
  | 11 => ("FiveLands$Reader", "fault", "I", false)
  | 12 => ("FiveLands$Reader", "place", "I", false)
  | 13 => ("FiveLands$Reader", "freeTold", "Z", false)
  | _ => ("FiveLands$Reader", "reliefTold", "Z", false)
def tyX5 : Nat → FieldType := fun k => match k with
  | 0 => .array .long
  | 1 => .array .int
  | 2 => .array .int
  | 3 => .array .int
  | 4 => .array .int
  | 5 => .object "FiveLands$Law"
  | 6 => .object "FiveLands$Pact"
  | 7 => .int
  | 8 => .int
  | 9 => .int
  | 10 => .int
  | 11 => .int
  | 12 => .int
  | 13 => .boolean
  | _ => .boolean
abbrev wsX50 : List Cond := u_ws RX5 TX5 15
theorem nmX5 : ∀ a, a < 15 → ∀ b, b < 15 → a ≠ b → (TX5 a).2.1 ≠ (TX5 b).2.1 := by decide +kernel
theorem tyX5_ok : ∀ k, k < 15 → parseFieldDescriptor (TX5 k).2.2.1 = some (tyX5 k) := by decide +kernel
abbrev cX5_init : ByteArray := prog_7_method_1_code
def yX5_init : MethodName := ⟨RX5, "<init>", "()V"⟩
abbrev cX5_forget : ByteArray := prog_7_method_2_code
def yX5_forget : MethodName := ⟨RX5, "forget", "()V"⟩
abbrev cX5_readLaw : ByteArray := prog_7_method_3_code
def yX5_readLaw : MethodName := ⟨RX5, "readLaw", "([IILFiveLands$Law;)I"⟩
abbrev cX5_readPact : ByteArray := prog_7_method_4_code
def yX5_readPact : MethodName := ⟨RX5, "readPact", "([IILFiveLands$Pact;)I"⟩
abbrev cX5_lawLine : ByteArray := prog_7_method_5_code
def yX5_lawLine : MethodName := ⟨RX5, "lawLine", "(I)Z"⟩
abbrev cX5_mineLine : ByteArray := prog_7_method_6_code
def yX5_mineLine : MethodName := ⟨RX5, "mineLine", "()Z"⟩
abbrev cX5_takeLine : ByteArray := prog_7_method_7_code
def yX5_takeLine : MethodName := ⟨RX5, "takeLine", "()Z"⟩
abbrev cX5_freeLine : ByteArray := prog_7_method_8_code
def yX5_freeLine : MethodName := ⟨RX5, "freeLine", "()Z"⟩
abbrev cX5_stepLine : ByteArray := prog_7_method_9_code
def yX5_stepLine : MethodName := ⟨RX5, "stepLine", "()Z"⟩
abbrev cX5_reliefLine : ByteArray := prog_7_method_10_code
def yX5_reliefLine : MethodName := ⟨RX5, "reliefLine", "()Z"⟩
abbrev cX5_reliefOf : ByteArray := prog_7_method_11_code
def yX5_reliefOf : MethodName := ⟨RX5, "reliefOf", "(I)I"⟩
abbrev cX5_pactLine : ByteArray := prog_7_method_12_code
def yX5_pactLine : MethodName := ⟨RX5, "pactLine", "(I)Z"⟩
abbrev cX5_testLine : ByteArray := prog_7_method_13_code
def yX5_testLine : MethodName := ⟨RX5, "testLine", "()Z"⟩
abbrev cX5_onlyLine : ByteArray := prog_7_method_14_code
def yX5_onlyLine : MethodName := ⟨RX5, "onlyLine", "()Z"⟩
abbrev cX5_topLine : ByteArray := prog_7_method_15_code
def yX5_topLine : MethodName := ⟨RX5, "topLine", "()Z"⟩
abbrev cX5_pactRelief : ByteArray := prog_7_method_16_code
def yX5_pactRelief : MethodName := ⟨RX5, "pactRelief", "()Z"⟩
abbrev cX5_condition : ByteArray := prog_7_method_17_code
def yX5_condition : MethodName := ⟨RX5, "condition", "()Z"⟩
abbrev cX5_await : ByteArray := prog_7_method_18_code
def yX5_await : MethodName := ⟨RX5, "await", "(I)V"⟩
abbrev cX5_top : ByteArray := prog_7_method_19_code
def yX5_top : MethodName := ⟨RX5, "top", "()I"⟩
abbrev cX5_closeClauses : ByteArray := prog_7_method_20_code
def yX5_closeClauses : MethodName := ⟨RX5, "closeClauses", "()V"⟩
abbrev cX5_emitJoins : ByteArray := prog_7_method_21_code
def yX5_emitJoins : MethodName := ⟨RX5, "emitJoins", "(Z)V"⟩
abbrev cX5_endCondition : ByteArray := prog_7_method_22_code
def yX5_endCondition : MethodName := ⟨RX5, "endCondition", "()Z"⟩
abbrev cX5_comparing : ByteArray := prog_7_method_23_code
def yX5_comparing : MethodName := ⟨RX5, "comparing", "(I)I"⟩
abbrev cX5_expression : ByteArray := prog_7_method_24_code
def yX5_expression : MethodName := ⟨RX5, "expression", "()Z"⟩
abbrev cX5_emitPending : ByteArray := prog_7_method_25_code
def yX5_emitPending : MethodName := ⟨RX5, "emitPending", "(I)V"⟩
abbrev cX5_unit : ByteArray := prog_7_method_26_code
def yX5_unit : MethodName := ⟨RX5, "unit", "()Z"⟩
abbrev cX5_isDivisor : ByteArray := prog_7_method_27_code
def yX5_isDivisor : MethodName := ⟨RX5, "isDivisor", "()Z"⟩
abbrev cX5_isPart : ByteArray := prog_7_method_28_code
def yX5_isPart : MethodName := ⟨RX5, "isPart", "()Z"⟩
abbrev cX5_isKind : ByteArray := prog_7_method_29_code
def yX5_isKind : MethodName := ⟨RX5, "isKind", "()Z"⟩
abbrev cX5_isNewKind : ByteArray := prog_7_method_30_code
def yX5_isNewKind : MethodName := ⟨RX5, "isNewKind", "(I)Z"⟩
abbrev cX5_pass : ByteArray := prog_7_method_31_code
def yX5_pass : MethodName := ⟨RX5, "pass", "(I)Z"⟩
abbrev cX5_sign : ByteArray := prog_7_method_32_code
def yX5_sign : MethodName := ⟨RX5, "sign", "()I"⟩
abbrev cX5_wrong : ByteArray := prog_7_method_33_code
def yX5_wrong : MethodName := ⟨RX5, "wrong", "(I)Z"⟩
abbrev cX5_scan : ByteArray := prog_7_method_34_code
def yX5_scan : MethodName := ⟨RX5, "scan", "([II)V"⟩
abbrev cX5_addToken : ByteArray := prog_7_method_35_code
def yX5_addToken : MethodName := ⟨RX5, "addToken", "(III)V"⟩
abbrev cX5_isLetter : ByteArray := prog_7_method_36_code
def yX5_isLetter : MethodName := ⟨RX5, "isLetter", "(I)Z"⟩
abbrev cX5_isDigit : ByteArray := prog_7_method_37_code
def yX5_isDigit : MethodName := ⟨RX5, "isDigit", "(I)Z"⟩
abbrev cX5_isSign : ByteArray := prog_7_method_38_code
def yX5_isSign : MethodName := ⟨RX5, "isSign", "(I)Z"⟩
abbrev cX5_number : ByteArray := prog_7_method_39_code
def yX5_number : MethodName := ⟨RX5, "number", "([III)I"⟩
abbrev cX5_keyword : ByteArray := prog_7_method_40_code
def yX5_keyword : MethodName := ⟨RX5, "keyword", "([III)I"⟩
def RX6 : String := "FiveLands$Ring"
def TX6 : u_T := fun k => match k with
  | 0 => ("FiveLands$Ring", "rows", "[[J", true)
  | 1 => ("FiveLands$Ring", "members", "[I", true)
  | 2 => ("FiveLands$Ring", "parts", "[J", true)
  | _ => ("FiveLands$Ring", "divisor", "J", false)
def tyX6 : Nat → FieldType := fun k => match k with
  | 0 => .array (.array .long)
  | 1 => .array .int
  | 2 => .array .long
  | _ => .long
abbrev wsX60 : List Cond := u_ws RX6 TX6 4
theorem nmX6 : ∀ a, a < 4 → ∀ b, b < 4 → a ≠ b → (TX6 a).2.1 ≠ (TX6 b).2.1 := by decide +kernel
theorem tyX6_ok : ∀ k, k < 4 → parseFieldDescriptor (TX6 k).2.2.1 = some (tyX6 k) := by decide +kernel
abbrev cX6_init : ByteArray := prog_8_method_1_code
def yX6_init : MethodName := ⟨RX6, "<init>", "()V"⟩
abbrev cX6_answers : ByteArray := prog_8_method_2_code
def yX6_answers : MethodName := ⟨RX6, "answers", "(II[I[J)Z"⟩
abbrev cX6_fill : ByteArray := prog_8_method_3_code
def yX6_fill : MethodName := ⟨RX6, "fill", "(I[I[J)I"⟩
abbrev cX6_eliminate : ByteArray := prog_8_method_4_code
def yX6_eliminate : MethodName := ⟨RX6, "eliminate", "(I)Z"⟩
abbrev cX6_bringPivot : ByteArray := prog_8_method_5_code
def yX6_bringPivot : MethodName := ⟨RX6, "bringPivot", "(II)Z"⟩
abbrev cX6_othersTakeNothing : ByteArray := prog_8_method_6_code
def yX6_othersTakeNothing : MethodName := ⟨RX6, "othersTakeNothing", "(II[I[J)Z"⟩
abbrev cX6_told : ByteArray := prog_8_method_7_code
def yX6_told : MethodName := ⟨RX6, "told", "(I)J"⟩
def RX7 : String := "FiveLands$Stay"
def TX7 : u_T := fun k => match k with
  | 0 => ("FiveLands$Stay", "nights", "[I", true)
  | 1 => ("FiveLands$Stay", "rubbed", "I", false)
  | 2 => ("FiveLands$Stay", "homes", "I", false)
  | 3 => ("FiveLands$Stay", "bond", "I", false)
  | _ => ("FiveLands$Stay", "birth", "I", false)
def tyX7 : Nat → FieldType := fun k => match k with
  | 0 => .array .int
  | 1 => .int
  | 2 => .int
  | 3 => .int
  | _ => .int
abbrev wsX70 : List Cond := u_ws RX7 TX7 5
theorem nmX7 : ∀ a, a < 5 → ∀ b, b < 5 → a ≠ b → (TX7 a).2.1 ≠ (TX7 b).2.1 := by decide +kernel
theorem tyX7_ok : ∀ k, k < 5 → parseFieldDescriptor (TX7 k).2.2.1 = some (tyX7 k) := by decide +kernel
abbrev cX7_init : ByteArray := prog_9_method_1_code
def yX7_init : MethodName := ⟨RX7, "<init>", "()V"⟩
abbrev cX7_become : ByteArray := prog_9_method_2_code
def yX7_become : MethodName := ⟨RX7, "become", "(LFiveLands$Stay;)V"⟩
abbrev cX7_shift : ByteArray := prog_9_method_3_code
def yX7_shift : MethodName := ⟨RX7, "shift", "(III)V"⟩
abbrev cX7_add : ByteArray := prog_9_method_4_code
def yX7_add : MethodName := ⟨RX7, "add", "(II)V"⟩
abbrev cX7_fill : ByteArray := prog_9_method_5_code
def yX7_fill : MethodName := ⟨RX7, "fill", "(I[I)V"⟩
abbrev cX7_mostBut : ByteArray := prog_9_method_6_code
def yX7_mostBut : MethodName := ⟨RX7, "mostBut", "(I)I"⟩
def RX8 : String := "FiveLands$Sum"
def TX8 : u_T := fun k => match k with
  | 0 => ("FiveLands$Sum", "kind", "I", false)
  | 1 => ("FiveLands$Sum", "real", "I", false)
  | 2 => ("FiveLands$Sum", "amount", "I", false)
  | 3 => ("FiveLands$Sum", "source", "I", false)
  | _ => ("FiveLands$Sum", "payer", "I", false)
def tyX8 : Nat → FieldType := fun k => match k with
  | 0 => .int
  | 1 => .int
  | 2 => .int
  | 3 => .int
  | _ => .int
abbrev wsX80 : List Cond := u_ws RX8 TX8 5
theorem nmX8 : ∀ a, a < 5 → ∀ b, b < 5 → a ≠ b → (TX8 a).2.1 ≠ (TX8 b).2.1 := by decide +kernel
theorem tyX8_ok : ∀ k, k < 5 → parseFieldDescriptor (TX8 k).2.2.1 = some (tyX8 k) := by decide +kernel
abbrev cX8_init : ByteArray := prog_10_method_1_code
def yX8_init : MethodName := ⟨RX8, "<init>", "()V"⟩
def RX9 : String := "FiveLands$Year"
def TX9 : u_T := fun k => match k with
  | 0 => ("FiveLands$Year", "where", "[I", true)
  | 1 => ("FiveLands$Year", "stay", "LFiveLands$Stay;", true)
  | 2 => ("FiveLands$Year", "sums", "[LFiveLands$Sum;", true)
  | _ => ("FiveLands$Year", "count", "I", false)
def tyX9 : Nat → FieldType := fun k => match k with
  | 0 => .array .int
  | 1 => .object "FiveLands$Stay"
  | 2 => .array (.object "FiveLands$Sum")
  | _ => .int
abbrev wsX90 : List Cond := u_ws RX9 TX9 4
theorem nmX9 : ∀ a, a < 4 → ∀ b, b < 4 → a ≠ b → (TX9 a).2.1 ≠ (TX9 b).2.1 := by decide +kernel
theorem tyX9_ok : ∀ k, k < 4 → parseFieldDescriptor (TX9 k).2.2.1 = some (tyX9 k) := by decide +kernel
abbrev cX9_init : ByteArray := prog_11_method_1_code
def yX9_init : MethodName := ⟨RX9, "<init>", "()V"⟩
abbrev cX9_tells : ByteArray := prog_11_method_2_code
def yX9_tells : MethodName := ⟨RX9, "tells", "(I)Z"⟩
abbrev cX9_spend : ByteArray := prog_11_method_3_code
def yX9_spend : MethodName := ⟨RX9, "spend", "(III)V"⟩
abbrev cX9_moved : ByteArray := prog_11_method_4_code
def yX9_moved : MethodName := ⟨RX9, "moved", "(IILFiveLands$Stay;)V"⟩
abbrev cX9_base : ByteArray := prog_11_method_5_code
def yX9_base : MethodName := ⟨RX9, "base", "()J"⟩
def RX10 : String := "FiveLands"
def TX10 : u_T := fun k => match k with
  | 0 => ("FiveLands", "years", "[LFiveLands$Year;", true)
  | 1 => ("FiveLands", "laws", "[LFiveLands$Law;", true)
  | 2 => ("FiveLands", "pacts", "[LFiveLands$Pact;", true)
  | 3 => ("FiveLands", "amended", "[LFiveLands$Pact;", true)
  | 4 => ("FiveLands", "plans", "LFiveLands$Plans;", true)
  | 5 => ("FiveLands", "claims", "LFiveLands$Claims;", true)
  | 6 => ("FiveLands", "tape", "[I", true)
  | 7 => ("FiveLands", "reader", "LFiveLands$Reader;", true)
  | 8 => ("FiveLands", "levy", "LFiveLands$Levy;", true)
  | 9 => ("FiveLands", "trial", "LFiveLands$Stay;", true)
  | 10 => ("FiveLands", "turned", "LFiveLands$Sum;", true)
  | 11 => ("FiveLands", "spareLaw", "LFiveLands$Law;", false)
  | 12 => ("FiveLands", "sparePact", "LFiveLands$Pact;", false)
  | _ => ("FiveLands", "taped", "I", false)
def tyX10 : Nat → FieldType := fun k => match k with
  | 0 => .array (.object "FiveLands$Year")
  | 1 => .array (.object "FiveLands$Law")
  | 2 => .array (.object "FiveLands$Pact")
  | 3 => .array (.object "FiveLands$Pact")
  | 4 => .object "FiveLands$Plans"
  | 5 => .object "FiveLands$Claims"
  | 6 => .array .int
  | 7 => .object "FiveLands$Reader"
  | 8 => .object "FiveLands$Levy"
  | 9 => .object "FiveLands$Stay"
  | 10 => .object "FiveLands$Sum"
  | 11 => .object "FiveLands$Law"
  | 12 => .object "FiveLands$Pact"
  | _ => .int
abbrev wsX100 : List Cond := u_ws RX10 TX10 14
theorem nmX10 : ∀ a, a < 14 → ∀ b, b < 14 → a ≠ b → (TX10 a).2.1 ≠ (TX10 b).2.1 := by decide +kernel
theorem tyX10_ok : ∀ k, k < 14 → parseFieldDescriptor (TX10 k).2.2.1 = some (tyX10 k) := by decide +kernel
abbrev cX10_init : ByteArray := prog_1_method_1_code
def yX10_init : MethodName := ⟨RX10, "<init>", "()V"⟩
abbrev cX10_night : ByteArray := prog_1_method_2_code
def yX10_night : MethodName := ⟨RX10, "night", "(IIII)Z"⟩
abbrev cX10_home : ByteArray := prog_1_method_3_code
def yX10_home : MethodName := ⟨RX10, "home", "(IIZ)Z"⟩
abbrev cX10_tie : ByteArray := prog_1_method_4_code
def yX10_tie : MethodName := ⟨RX10, "tie", "(III)Z"⟩
abbrev cX10_sum : ByteArray := prog_1_method_5_code
def yX10_sum : MethodName := ⟨RX10, "sum", "(IIIIII)I"⟩
abbrev cX10_feed : ByteArray := prog_1_method_6_code
def yX10_feed : MethodName := ⟨RX10, "feed", "(IIIII)I"⟩
abbrev cX10_putBytes : ByteArray := prog_1_method_7_code
def yX10_putBytes : MethodName := ⟨RX10, "putBytes", "(I)V"⟩
abbrev cX10_end : ByteArray := prog_1_method_8_code
def yX10_end : MethodName := ⟨RX10, "end", "(I)Z"⟩
abbrev cX10_text : ByteArray := prog_1_method_9_code
def yX10_text : MethodName := ⟨RX10, "text", "(II)I"⟩
abbrev cX10_fault : ByteArray := prog_1_method_10_code
def yX10_fault : MethodName := ⟨RX10, "fault", "(I)I"⟩
abbrev cX10_of : ByteArray := prog_1_method_11_code
def yX10_of : MethodName := ⟨RX10, "of", "(III)I"⟩
abbrev cX10_least : ByteArray := prog_1_method_12_code
def yX10_least : MethodName := ⟨RX10, "least", "(I)I"⟩
abbrev cX10_decides : ByteArray := prog_1_method_13_code
def yX10_decides : MethodName := ⟨RX10, "decides", "(III)I"⟩
abbrev cX10_tax : ByteArray := prog_1_method_14_code
def yX10_tax : MethodName := ⟨RX10, "tax", "(II)J"⟩
abbrev cX10_takes : ByteArray := prog_1_method_15_code
def yX10_takes : MethodName := ⟨RX10, "takes", "(IIII)J"⟩
abbrev cX10_owes : ByteArray := prog_1_method_16_code
def yX10_owes : MethodName := ⟨RX10, "owes", "(II)J"⟩
abbrev cX10_takenBy : ByteArray := prog_1_method_17_code
def yX10_takenBy : MethodName := ⟨RX10, "takenBy", "(LFiveLands$Year;II)I"⟩
abbrev cX10_edge : ByteArray := prog_1_method_18_code
def yX10_edge : MethodName := ⟨RX10, "edge", "(IIII)J"⟩
abbrev cX10_edgeNights : ByteArray := prog_1_method_19_code
def yX10_edgeNights : MethodName := ⟨RX10, "edgeNights", "(III)I"⟩
abbrev cX10_saysAfter : ByteArray := prog_1_method_20_code
def yX10_saysAfter : MethodName := ⟨RX10, "saysAfter", "(LFiveLands$Stay;III)Z"⟩
abbrev cX10_hangs : ByteArray := prog_1_method_21_code
def yX10_hangs : MethodName := ⟨RX10, "hangs", "(II)I"⟩
abbrev cX10_saysIfTold : ByteArray := prog_1_method_22_code
def yX10_saysIfTold : MethodName := ⟨RX10, "saysIfTold", "(LFiveLands$Stay;III)Z"⟩
abbrev cX10_move : ByteArray := prog_1_method_23_code
def yX10_move : MethodName := ⟨RX10, "move", "(II)I"⟩
abbrev cX10_best : ByteArray := prog_1_method_24_code
def yX10_best : MethodName := ⟨RX10, "best", "(II)J"⟩
abbrev cX10_owesMoved : ByteArray := prog_1_method_25_code
def yX10_owesMoved : MethodName := ⟨RX10, "owesMoved", "(LFiveLands$Year;I)J"⟩
abbrev cX10_turning : ByteArray := prog_1_method_26_code
def yX10_turning : MethodName := ⟨RX10, "turning", "(III)I"⟩
abbrev cX10_sly : ByteArray := prog_1_method_27_code
def yX10_sly : MethodName := ⟨RX10, "sly", "(I)J"⟩
abbrev cX10_turn : ByteArray := prog_1_method_28_code
def yX10_turn : MethodName := ⟨RX10, "turn", "(I)LFiveLands$Sum;"⟩
abbrev cX10_word : ByteArray := prog_1_method_29_code
def yX10_word : MethodName := ⟨RX10, "word", "(IIII)I"⟩
abbrev cX10_mend : ByteArray := prog_1_method_30_code
def yX10_mend : MethodName := ⟨RX10, "mend", "()I"⟩
abbrev cX10_closes : ByteArray := prog_1_method_31_code
def yX10_closes : MethodName := ⟨RX10, "closes", "(I)Z"⟩
abbrev cX10_owesUnder : ByteArray := prog_1_method_32_code
def yX10_owesUnder : MethodName := ⟨RX10, "owesUnder", "(I)J"⟩
abbrev cX10_amend : ByteArray := prog_1_method_33_code
def yX10_amend : MethodName := ⟨RX10, "amend", "(I)V"⟩
abbrev cX10_round : ByteArray := prog_1_method_34_code
def yX10_round : MethodName := ⟨RX10, "round", "(IIII)I"⟩
abbrev cX10_leg : ByteArray := prog_1_method_35_code
def yX10_leg : MethodName := ⟨RX10, "leg", "(III)I"⟩
abbrev cX10_answer : ByteArray := prog_1_method_36_code
def yX10_answer : MethodName := ⟨RX10, "answer", "(IIIJ)I"⟩
abbrev cX10_judged : ByteArray := prog_1_method_37_code
def yX10_judged : MethodName := ⟨RX10, "judged", "()I"⟩
abbrev cX10_truth : ByteArray := prog_1_method_38_code
def yX10_truth : MethodName := ⟨RX10, "truth", "(I)J"⟩
abbrev cX10_look : ByteArray := prog_1_method_39_code
def yX10_look : MethodName := ⟨RX10, "look", "(I)I"⟩
abbrev cX10_hear : ByteArray := prog_1_method_40_code
def yX10_hear : MethodName := ⟨RX10, "hear", "(I)V"⟩
abbrev cX10_isYear : ByteArray := prog_1_method_41_code
def yX10_isYear : MethodName := ⟨RX10, "isYear", "(I)Z"⟩
abbrev cX10_isLand : ByteArray := prog_1_method_42_code
def yX10_isLand : MethodName := ⟨RX10, "isLand", "(I)Z"⟩
abbrev cX10_isLandOrNone : ByteArray := prog_1_method_43_code
def yX10_isLandOrNone : MethodName := ⟨RX10, "isLandOrNone", "(I)Z"⟩
abbrev cX10_has : ByteArray := prog_1_method_44_code
def yX10_has : MethodName := ⟨RX10, "has", "(JI)Z"⟩
abbrev cX10_pair : ByteArray := prog_1_method_45_code
def yX10_pair : MethodName := ⟨RX10, "pair", "(II)I"⟩
def RX11 : String := "FiveLandsModel"
def TX11 : u_T := fun k => match k with
  | 0 => ("FiveLandsModel", "nightAt", "[I", true)
  | 1 => ("FiveLandsModel", "homesOf", "[I", true)
  | 2 => ("FiveLandsModel", "ties", "[I", true)
  | 3 => ("FiveLandsModel", "sumMany", "[I", true)
  | 4 => ("FiveLandsModel", "toldKind", "[I", true)
  | 5 => ("FiveLandsModel", "toldReal", "[I", true)
  | 6 => ("FiveLandsModel", "toldAmount", "[I", true)
  | 7 => ("FiveLandsModel", "toldSource", "[I", true)
  | 8 => ("FiveLandsModel", "toldPayer", "[I", true)
  | 9 => ("FiveLandsModel", "lineMany", "[I", true)
  | 10 => ("FiveLandsModel", "lineSort", "[I", true)
  | 11 => ("FiveLandsModel", "lineKind", "[I", true)
  | 12 => ("FiveLandsModel", "numberFrom", "[I", true)
  | 13 => ("FiveLandsModel", "numberTo", "[I", true)
  | 14 => ("FiveLandsModel", "whenTo", "[I", true)
  | 15 => ("FiveLandsModel", "step", "[I", true)
  | 16 => ("FiveLandsModel", "freeOf", "[I", true)
  | 17 => ("FiveLandsModel", "stepMany", "[I", true)
  | 18 => ("FiveLandsModel", "stepAt", "[I", true)
  | 19 => ("FiveLandsModel", "stepPart", "[I", true)
  | 20 => ("FiveLandsModel", "lawRelief", "[I", true)
  | 21 => ("FiveLandsModel", "hasFree", "[Z", true)
  | 22 => ("FiveLandsModel", "hasRelief", "[Z", true)
  | 23 => ("FiveLandsModel", "pactLines", "[I", true)
  | 24 => ("FiveLandsModel", "testMany", "[I", true)
  | 25 => ("FiveLandsModel", "testOf", "[I", true)
  | 26 => ("FiveLandsModel", "onlySet", "[I", true)
  | 27 => ("FiveLandsModel", "topOf", "[I", true)
  | 28 => ("FiveLandsModel", "pactRelief", "[I", true)
  | 29 => ("FiveLandsModel", "looks", "[Z", true)
  | 30 => ("FiveLandsModel", "tape", "[I", true)
  | 31 => ("FiveLandsModel", "pile", "[I", true)
  | 32 => ("FiveLandsModel", "facts", "[I", true)
  | 33 => ("FiveLandsModel", "steps", "I", false)
  | 34 => ("FiveLandsModel", "lines", "I", false)
  | 35 => ("FiveLandsModel", "taped", "I", false)
  | 36 => ("FiveLandsModel", "at", "I", false)
  | 37 => ("FiveLandsModel", "token", "I", false)
  | 38 => ("FiveLandsModel", "tokenAt", "I", false)
  | 39 => ("FiveLandsModel", "value", "I", false)
  | 40 => ("FiveLandsModel", "wrong", "I", false)
  | 41 => ("FiveLandsModel", "wrongAt", "I", false)
  | 42 => ("FiveLandsModel", "faultKind", "I", false)
  | 43 => ("FiveLandsModel", "depth", "I", false)
  | 44 => ("FiveLandsModel", "faultPlace", "I", false)
  | 45 => ("FiveLandsModel", "isPact", "Z", false)
  | 46 => ("FiveLandsModel", "nights", "[I", true)
  | 47 => ("FiveLandsModel", "kind", "[I", true)
  | 48 => ("FiveLandsModel", "real", "[I", true)
  | 49 => ("FiveLandsModel", "amount", "[I", true)
  | 50 => ("FiveLandsModel", "source", "[I", true)
  | 51 => ("FiveLandsModel", "payer", "[I", true)
  | 52 => ("FiveLandsModel", "homes", "I", false)
  | 53 => ("FiveLandsModel", "bond", "I", false)
  | 54 => ("FiveLandsModel", "birth", "I", false)
  | 55 => ("FiveLandsModel", "sums", "I", false)
  | 56 => ("FiveLandsModel", "rubbed", "I", false)
  | 57 => ("FiveLandsModel", "base", "I", false)
  | 58 => ("FiveLandsModel", "only", "[I", true)
  | 59 => ("FiveLandsModel", "top", "[I", true)
  | 60 => ("FiveLandsModel", "relief", "[I", true)
  | 61 => ("FiveLandsModel", "look", "[Z", true)
  | 62 => ("FiveLandsModel", "sayers", "I", false)
  | 63 => ("FiveLandsModel", "his", "I", false)
  | 64 => ("FiveLandsModel", "takenAhead", "[J", true)
  | 65 => ("FiveLandsModel", "taken", "[J", true)
  | 66 => ("FiveLandsModel", "held", "[J", true)
  | 67 => ("FiveLandsModel", "above", "[J", true)
  | 68 => ("FiveLandsModel", "row", "[J", true)
  | 69 => ("FiveLandsModel", "member", "[I", true)
  | 70 => ("FiveLandsModel", "below", "J", false)
  | 71 => ("FiveLandsModel", "nobodys", "I", false)
  | 72 => ("FiveLandsModel", "twice", "I", false)
  | 73 => ("FiveLandsModel", "moves", "I", false)
  | 74 => ("FiveLandsModel", "moveNight", "[I", true)
  | 75 => ("FiveLandsModel", "moveLand", "[I", true)
  | 76 => ("FiveLandsModel", "turnings", "I", false)
  | 77 => ("FiveLandsModel", "words", "I", false)
  | 78 => ("FiveLandsModel", "turnedSum", "[I", true)
  | 79 => ("FiveLandsModel", "turnedPayer", "[I", true)
  | 80 => ("FiveLandsModel", "turnedPrice", "[I", true)
  | 81 => ("FiveLandsModel", "wordPact", "[I", true)
  | 82 => ("FiveLandsModel", "wordSort", "[I", true)
  | 83 => ("FiveLandsModel", "wordKind", "[I", true)
  | 84 => ("FiveLandsModel", "answers", "I", false)
  | 85 => ("FiveLandsModel", "answerSort", "[I", true)
  | 86 => ("FiveLandsModel", "answerLand", "[I", true)
  | 87 => ("FiveLandsModel", "answerSum", "[I", true)
  | _ => ("FiveLandsModel", "answerTold", "[J", true)
def tyX11 : Nat → FieldType := fun k => match k with
  | 0 => .array .int
  | 1 => .array .int
  | 2 => .array .int
  | 3 => .array .int
  | 4 => .array .int
  | 5 => .array .int
  | 6 => .array .int
  | 7 => .array .int
  | 8 => .array .int
  | 9 => .array .int
  | 10 => .array .int
  | 11 => .array .int
  | 12 => .array .int
  | 13 => .array .int
  | 14 => .array .int
  | 15 => .array .int
  | 16 => .array .int
  | 17 => .array .int
  | 18 => .array .int
  | 19 => .array .int
  | 20 => .array .int
  | 21 => .array .boolean
  | 22 => .array .boolean
  | 23 => .array .int
  | 24 => .array .int
  | 25 => .array .int
  | 26 => .array .int
  | 27 => .array .int
  | 28 => .array .int
  | 29 => .array .boolean
  | 30 => .array .int
  | 31 => .array .int
  | 32 => .array .int
  | 33 => .int
  | 34 => .int
  | 35 => .int
  | 36 => .int
  | 37 => .int
  | 38 => .int
  | 39 => .int
  | 40 => .int
  | 41 => .int
  | 42 => .int
  | 43 => .int
  | 44 => .int
  | 45 => .boolean
  | 46 => .array .int
  | 47 => .array .int
  | 48 => .array .int
  | 49 => .array .int
  | 50 => .array .int
  | 51 => .array .int
  | 52 => .int
  | 53 => .int
  | 54 => .int
  | 55 => .int
  | 56 => .int
  | 57 => .int
  | 58 => .array .int
  | 59 => .array .int
  | 60 => .array .int
  | 61 => .array .boolean
  | 62 => .int
  | 63 => .int
  | 64 => .array .long
  | 65 => .array .long
  | 66 => .array .long
  | 67 => .array .long
  | 68 => .array .long
  | 69 => .array .int
  | 70 => .long
  | 71 => .int
  | 72 => .int
  | 73 => .int
  | 74 => .array .int
  | 75 => .array .int
  | 76 => .int
  | 77 => .int
  | 78 => .array .int
  | 79 => .array .int
  | 80 => .array .int
  | 81 => .array .int
  | 82 => .array .int
  | 83 => .array .int
  | 84 => .int
  | 85 => .array .int
  | 86 => .array .int
  | 87 => .array .int
  | _ => .array .long
abbrev wsX110 : List Cond := u_ws RX11 TX11 89
theorem nmX11 : ∀ a, a < 89 → ∀ b, b < 89 → a ≠ b → (TX11 a).2.1 ≠ (TX11 b).2.1 := by decide +kernel
theorem tyX11_ok : ∀ k, k < 89 → parseFieldDescriptor (TX11 k).2.2.1 = some (tyX11 k) := by decide +kernel
abbrev cX11_isIn : ByteArray := prog_13_method_1_code
def yX11_isIn : MethodName := ⟨RX11, "isIn", "(III)Z"⟩
abbrev cX11_isYear : ByteArray := prog_13_method_2_code
def yX11_isYear : MethodName := ⟨RX11, "isYear", "(I)Z"⟩
abbrev cX11_isLand : ByteArray := prog_13_method_3_code
def yX11_isLand : MethodName := ⟨RX11, "isLand", "(I)Z"⟩
abbrev cX11_count : ByteArray := prog_13_method_4_code
def yX11_count : MethodName := ⟨RX11, "count", "(I)I"⟩
abbrev cX11_init : ByteArray := prog_13_method_5_code
def yX11_init : MethodName := ⟨RX11, "<init>", "()V"⟩
abbrev cX11_night : ByteArray := prog_13_method_6_code
def yX11_night : MethodName := ⟨RX11, "night", "(IIII)Z"⟩
abbrev cX11_home : ByteArray := prog_13_method_7_code
def yX11_home : MethodName := ⟨RX11, "home", "(IIZ)Z"⟩
abbrev cX11_tie : ByteArray := prog_13_method_8_code
def yX11_tie : MethodName := ⟨RX11, "tie", "(III)Z"⟩
abbrev cX11_sum : ByteArray := prog_13_method_9_code
def yX11_sum : MethodName := ⟨RX11, "sum", "(IIIIII)I"⟩
abbrev cX11_feed : ByteArray := prog_13_method_10_code
def yX11_feed : MethodName := ⟨RX11, "feed", "(IIIII)I"⟩
abbrev cX11_end : ByteArray := prog_13_method_11_code
def yX11_end : MethodName := ⟨RX11, "end", "(I)Z"⟩
abbrev cX11_see : ByteArray := prog_13_method_12_code
def yX11_see : MethodName := ⟨RX11, "see", "(I)I"⟩
abbrev cX11_isLetter : ByteArray := prog_13_method_13_code
def yX11_isLetter : MethodName := ⟨RX11, "isLetter", "(I)Z"⟩
abbrev cX11_isDigit : ByteArray := prog_13_method_14_code
def yX11_isDigit : MethodName := ⟨RX11, "isDigit", "(I)Z"⟩
abbrev cX11_is : ByteArray := prog_13_method_15_code
def yX11_is : MethodName := ⟨RX11, "is", "(Ljava/lang/String;)Z"⟩
abbrev cX11_kindWord : ByteArray := prog_13_method_16_code
def yX11_kindWord : MethodName := ⟨RX11, "kindWord", "()I"⟩
abbrev cX11_word : ByteArray := prog_13_method_17_code
def yX11_word : MethodName := ⟨RX11, "word", "()I"⟩
abbrev cX11_next0 : ByteArray := prog_13_method_18_code
def yX11_next0 : MethodName := ⟨RX11, "next0", "()V"⟩
abbrev cX11_bad : ByteArray := prog_13_method_19_code
def yX11_bad : MethodName := ⟨RX11, "bad", "(I)Z"⟩
abbrev cX11_need : ByteArray := prog_13_method_20_code
def yX11_need : MethodName := ⟨RX11, "need", "(I)Z"⟩
abbrev cX11_number : ByteArray := prog_13_method_21_code
def yX11_number : MethodName := ⟨RX11, "number", "(II)Z"⟩
abbrev cX11_lay : ByteArray := prog_13_method_22_code
def yX11_lay : MethodName := ⟨RX11, "lay", "(II)V"⟩
abbrev cX11_opens : ByteArray := prog_13_method_23_code
def yX11_opens : MethodName := ⟨RX11, "opens", "()Z"⟩
abbrev cX11_sumUp : ByteArray := prog_13_method_24_code
def yX11_sumUp : MethodName := ⟨RX11, "sumUp", "()Z"⟩
abbrev cX11_product : ByteArray := prog_13_method_25_code
def yX11_product : MethodName := ⟨RX11, "product", "()Z"⟩
abbrev cX11_unit : ByteArray := prog_13_method_26_code
def yX11_unit : MethodName := ⟨RX11, "unit", "()Z"⟩
abbrev cX11_any : ByteArray := prog_13_method_27_code
def yX11_any : MethodName := ⟨RX11, "any", "()Z"⟩
abbrev cX11_every : ByteArray := prog_13_method_28_code
def yX11_every : MethodName := ⟨RX11, "every", "()Z"⟩
abbrev cX11_one : ByteArray := prog_13_method_29_code
def yX11_one : MethodName := ⟨RX11, "one", "()Z"⟩
abbrev cX11_aKind : ByteArray := prog_13_method_30_code
def yX11_aKind : MethodName := ⟨RX11, "aKind", "()Z"⟩
abbrev cX11_aRule : ByteArray := prog_13_method_31_code
def yX11_aRule : MethodName := ⟨RX11, "aRule", "(I)Z"⟩
abbrev cX11_aStep : ByteArray := prog_13_method_32_code
def yX11_aStep : MethodName := ⟨RX11, "aStep", "()Z"⟩
abbrev cX11_relief : ByteArray := prog_13_method_33_code
def yX11_relief : MethodName := ⟨RX11, "relief", "()I"⟩
abbrev cX11_lawLine : ByteArray := prog_13_method_34_code
def yX11_lawLine : MethodName := ⟨RX11, "lawLine", "()Z"⟩
abbrev cX11_ofKind : ByteArray := prog_13_method_35_code
def yX11_ofKind : MethodName := ⟨RX11, "ofKind", "(I)Z"⟩
abbrev cX11_pactLine : ByteArray := prog_13_method_36_code
def yX11_pactLine : MethodName := ⟨RX11, "pactLine", "()Z"⟩
abbrev cX11_empties : ByteArray := prog_13_method_37_code
def yX11_empties : MethodName := ⟨RX11, "empties", "()V"⟩
abbrev cX11_clearsPact : ByteArray := prog_13_method_38_code
def yX11_clearsPact : MethodName := ⟨RX11, "clearsPact", "(I)V"⟩
abbrev cX11_keepsLaw : ByteArray := prog_13_method_39_code
def yX11_keepsLaw : MethodName := ⟨RX11, "keepsLaw", "(I)V"⟩
abbrev cX11_keepsPact : ByteArray := prog_13_method_40_code
def yX11_keepsPact : MethodName := ⟨RX11, "keepsPact", "(I)V"⟩
abbrev cX11_text : ByteArray := prog_13_method_41_code
def yX11_text : MethodName := ⟨RX11, "text", "(II)I"⟩
abbrev cX11_fault : ByteArray := prog_13_method_42_code
def yX11_fault : MethodName := ⟨RX11, "fault", "(I)I"⟩
abbrev cX11_both : ByteArray := prog_13_method_43_code
def yX11_both : MethodName := ⟨RX11, "both", "(III)I"⟩
abbrev cX11_comesTo : ByteArray := prog_13_method_44_code
def yX11_comesTo : MethodName := ⟨RX11, "comesTo", "(III)I"⟩
abbrev cX11_pact : ByteArray := prog_13_method_45_code
def yX11_pact : MethodName := ⟨RX11, "pact", "(II)I"⟩
abbrev cX11_laysPacts : ByteArray := prog_13_method_46_code
def yX11_laysPacts : MethodName := ⟨RX11, "laysPacts", "(I)V"⟩
abbrev cX11_laysNights : ByteArray := prog_13_method_47_code
def yX11_laysNights : MethodName := ⟨RX11, "laysNights", "(I)V"⟩
abbrev cX11_lays : ByteArray := prog_13_method_48_code
def yX11_lays : MethodName := ⟨RX11, "lays", "(I)V"⟩
abbrev cX11_most : ByteArray := prog_13_method_49_code
def yX11_most : MethodName := ⟨RX11, "most", "(I)I"⟩
abbrev cX11_gathers : ByteArray := prog_13_method_50_code
def yX11_gathers : MethodName := ⟨RX11, "gathers", "(I)V"⟩
abbrev cX11_says : ByteArray := prog_13_method_51_code
def yX11_says : MethodName := ⟨RX11, "says", "(I)Z"⟩
abbrev cX11_ofTest : ByteArray := prog_13_method_52_code
def yX11_ofTest : MethodName := ⟨RX11, "ofTest", "(II)I"⟩
abbrev cX11_decider : ByteArray := prog_13_method_53_code
def yX11_decider : MethodName := ⟨RX11, "decider", "(II)I"⟩
abbrev cX11_givesWay : ByteArray := prog_13_method_54_code
def yX11_givesWay : MethodName := ⟨RX11, "givesWay", "(II)Z"⟩
abbrev cX11_firstAhead : ByteArray := prog_13_method_55_code
def yX11_firstAhead : MethodName := ⟨RX11, "firstAhead", "(I)I"⟩
abbrev cX11_findsHis : ByteArray := prog_13_method_56_code
def yX11_findsHis : MethodName := ⟨RX11, "findsHis", "()V"⟩
abbrev cX11_of : ByteArray := prog_13_method_57_code
def yX11_of : MethodName := ⟨RX11, "of", "(III)I"⟩
abbrev cX11_decides : ByteArray := prog_13_method_58_code
def yX11_decides : MethodName := ⟨RX11, "decides", "(III)I"⟩
abbrev cX11_taxOf : ByteArray := prog_13_method_59_code
def yX11_taxOf : MethodName := ⟨RX11, "taxOf", "(II)J"⟩
abbrev cX11_tax : ByteArray := prog_13_method_60_code
def yX11_tax : MethodName := ⟨RX11, "tax", "(II)J"⟩
abbrev cX11_reliefWith : ByteArray := prog_13_method_61_code
def yX11_reliefWith : MethodName := ⟨RX11, "reliefWith", "(II)I"⟩
abbrev cX11_seenAs : ByteArray := prog_13_method_62_code
def yX11_seenAs : MethodName := ⟨RX11, "seenAs", "(II)I"⟩
abbrev cX11_isFreed : ByteArray := prog_13_method_63_code
def yX11_isFreed : MethodName := ⟨RX11, "isFreed", "(II)Z"⟩
abbrev cX11_rate : ByteArray := prog_13_method_64_code
def yX11_rate : MethodName := ⟨RX11, "rate", "(II)I"⟩
abbrev cX11_bounded : ByteArray := prog_13_method_65_code
def yX11_bounded : MethodName := ⟨RX11, "bounded", "(III)I"⟩
abbrev cX11_ahead : ByteArray := prog_13_method_66_code
def yX11_ahead : MethodName := ⟨RX11, "ahead", "(II)J"⟩
abbrev cX11_isOff : ByteArray := prog_13_method_67_code
def yX11_isOff : MethodName := ⟨RX11, "isOff", "(II)Z"⟩
abbrev cX11_lessOthers : ByteArray := prog_13_method_68_code
def yX11_lessOthers : MethodName := ⟨RX11, "lessOthers", "(I)J"⟩
abbrev cX11_swapsRows : ByteArray := prog_13_method_69_code
def yX11_swapsRows : MethodName := ⟨RX11, "swapsRows", "(III)V"⟩
abbrev cX11_solves : ByteArray := prog_13_method_70_code
def yX11_solves : MethodName := ⟨RX11, "solves", "(I)Z"⟩
abbrev cX11_isAnswer : ByteArray := prog_13_method_71_code
def yX11_isAnswer : MethodName := ⟨RX11, "isAnswer", "(I)Z"⟩
abbrev cX11_findsTaken : ByteArray := prog_13_method_72_code
def yX11_findsTaken : MethodName := ⟨RX11, "findsTaken", "(I)I"⟩
abbrev cX11_takes : ByteArray := prog_13_method_73_code
def yX11_takes : MethodName := ⟨RX11, "takes", "(IIII)J"⟩
abbrev cX11_owesNow : ByteArray := prog_13_method_74_code
def yX11_owesNow : MethodName := ⟨RX11, "owesNow", "()J"⟩
abbrev cX11_owes : ByteArray := prog_13_method_75_code
def yX11_owes : MethodName := ⟨RX11, "owes", "(II)J"⟩
abbrev cX11_edge : ByteArray := prog_13_method_76_code
def yX11_edge : MethodName := ⟨RX11, "edge", "(IIII)J"⟩
abbrev cX11_hangs : ByteArray := prog_13_method_77_code
def yX11_hangs : MethodName := ⟨RX11, "hangs", "(II)I"⟩
abbrev cX11_move : ByteArray := prog_13_method_78_code
def yX11_move : MethodName := ⟨RX11, "move", "(II)I"⟩
abbrev cX11_owesByMove : ByteArray := prog_13_method_79_code
def yX11_owesByMove : MethodName := ⟨RX11, "owesByMove", "(II)J"⟩
abbrev cX11_best : ByteArray := prog_13_method_80_code
def yX11_best : MethodName := ⟨RX11, "best", "(II)J"⟩
abbrev cX11_turning : ByteArray := prog_13_method_81_code
def yX11_turning : MethodName := ⟨RX11, "turning", "(III)I"⟩
abbrev cX11_canTurn : ByteArray := prog_13_method_82_code
def yX11_canTurn : MethodName := ⟨RX11, "canTurn", "(I)Z"⟩
abbrev cX11_owesTurned : ByteArray := prog_13_method_83_code
def yX11_owesTurned : MethodName := ⟨RX11, "owesTurned", "(II)J"⟩
abbrev cX11_sly : ByteArray := prog_13_method_84_code
def yX11_sly : MethodName := ⟨RX11, "sly", "(I)J"⟩
abbrev cX11_word_ : ByteArray := prog_13_method_85_code
def yX11_word_ : MethodName := ⟨RX11, "word", "(IIII)I"⟩
abbrev cX11_closes : ByteArray := prog_13_method_86_code
def yX11_closes : MethodName := ⟨RX11, "closes", "(I)Z"⟩
abbrev cX11_mend : ByteArray := prog_13_method_87_code
def yX11_mend : MethodName := ⟨RX11, "mend", "()I"⟩
abbrev cX11_legTakes : ByteArray := prog_13_method_88_code
def yX11_legTakes : MethodName := ⟨RX11, "legTakes", "(III)I"⟩
abbrev cX11_round : ByteArray := prog_13_method_89_code
def yX11_round : MethodName := ⟨RX11, "round", "(IIII)I"⟩
abbrev cX11_answer : ByteArray := prog_13_method_90_code
def yX11_answer : MethodName := ⟨RX11, "answer", "(IIIJ)I"⟩
abbrev cX11_judged : ByteArray := prog_13_method_91_code
def yX11_judged : MethodName := ⟨RX11, "judged", "()I"⟩
abbrev cX11_look : ByteArray := prog_13_method_92_code
def yX11_look : MethodName := ⟨RX11, "look", "(I)I"⟩
def RJ6 : String := "java/lang/Integer"
abbrev cJ6_bitCount_0f7a4 : ByteArray := prog_14_method_49_code
def yJ6_bitCount_0f7a4 : MethodName := ⟨RJ6, "bitCount", "(I)I"⟩
def RJ9 : String := "java/lang/Math"
abbrev cJ9_abs_0f7a4 : ByteArray := prog_15_method_59_code
def yJ9_abs_0f7a4 : MethodName := ⟨RJ9, "abs", "(I)I"⟩
abbrev cJ9_max_7cf53 : ByteArray := prog_15_method_65_code
def yJ9_max_7cf53 : MethodName := ⟨RJ9, "max", "(II)I"⟩
abbrev cJ9_max_f86c9 : ByteArray := prog_15_method_66_code
def yJ9_max_f86c9 : MethodName := ⟨RJ9, "max", "(JJ)J"⟩
abbrev cJ9_min_7cf53 : ByteArray := prog_15_method_69_code
def yJ9_min_7cf53 : MethodName := ⟨RJ9, "min", "(II)I"⟩
abbrev cJ9_min_f86c9 : ByteArray := prog_15_method_70_code
def yJ9_min_f86c9 : MethodName := ⟨RJ9, "min", "(JJ)J"⟩
def RJ0 : String := "java/lang/String"
abbrev cJ0_length_8abf5 : ByteArray := prog_16_method_54_code
def yJ0_length_8abf5 : MethodName := ⟨RJ0, "length", "()I"⟩
abbrev cJ0_charAt_5068e : ByteArray := prog_16_method_56_code
def yJ0_charAt_5068e : MethodName := ⟨RJ0, "charAt", "(I)C"⟩
abbrev cJ0_coder_7d493 : ByteArray := prog_16_method_152_code
def yJ0_coder_7d493 : MethodName := ⟨RJ0, "coder", "()B"⟩
abbrev cJ0_isLatin1_aae02 : ByteArray := prog_16_method_154_code
def yJ0_isLatin1_aae02 : MethodName := ⟨RJ0, "isLatin1", "()Z"⟩
abbrev cJ0_checkIndex_df160 : ByteArray := prog_16_method_155_code
def yJ0_checkIndex_df160 : MethodName := ⟨RJ0, "checkIndex", "(II)V"⟩
def RJ1 : String := "java/lang/StringLatin1"
abbrev cJ1_charAt_3b067 : ByteArray := prog_17_method_2_code
def yJ1_charAt_3b067 : MethodName := ⟨RJ1, "charAt", "([BI)C"⟩
def RJ2 : String := "java/lang/StringUTF16"
abbrev cJ2_getChar_3b067 : ByteArray := prog_18_method_5_code
def yJ2_getChar_3b067 : MethodName := ⟨RJ2, "getChar", "([BI)C"⟩
abbrev cJ2_length_9d52b : ByteArray := prog_18_method_6_code
def yJ2_length_9d52b : MethodName := ⟨RJ2, "length", "([B)I"⟩
abbrev cJ2_charAt_3b067 : ByteArray := prog_18_method_83_code
def yJ2_charAt_3b067 : MethodName := ⟨RJ2, "charAt", "([BI)C"⟩
abbrev cJ2_checkIndex_2214a : ByteArray := prog_18_method_91_code
def yJ2_checkIndex_2214a : MethodName := ⟨RJ2, "checkIndex", "(I[B)V"⟩
def RJ10 : String := "java/lang/System"
def RJ3 : String := "jdk/internal/util/Preconditions"
abbrev cJ3_checkIndex_8e157 : ByteArray := prog_20_method_11_code
def yJ3_checkIndex_8e157 : MethodName := ⟨RJ3, "checkIndex", "(IILjava/util/function/BiFunction;)I"⟩
def RL : String := "FiveLandsLaw"
abbrev cL_law : ByteArray := code
def yL_law : MethodName := ⟨RL, "law", "([I)Z"⟩
abbrev vwCl : List vw_C := [(RX0, TX0, 5), (RX1, TX1, 12), (RX2, TX2, 18), (RX3, TX3, 7), (RX4, TX4, 11), (RX5, TX5, 15), (RX6, TX6, 4), (RX7, TX7, 5), (RX8, TX8, 5), (RX9, TX9, 4), (RX10, TX10, 14), (RX11, TX11, 89)]
