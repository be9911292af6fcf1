section
-- ===== PART A: goes FIRST, ahead of the names: the tables' words, and 'selects' of the private methods out of them =====
/-- a private method of a class that the tables say can be made, by its rows of tables_1 -/
def lw_okq (q : MethodName × Nat) : Prop := (q.1.cls ≠ "java/lang/invoke/MethodHandle" ∧ q.1.cls ≠ "java/lang/invoke/VarHandle") ∧ Cond.instantiable q.1.cls q.2 ∈ tables_1 ∧ Cond.privateMethod q.1 ∈ tables_1 ∧ Cond.instanceMethod q.1 ∈ tables_1
theorem lw_p0 : lw_okq (⟨"MomentDesk$Big", "trim", "()V"⟩, 3) := ⟨⟨by decide +kernel, by decide +kernel⟩, List.mem_of_getElem? (i := 34) (by decide +kernel), List.mem_of_getElem? (i := 126) (by decide +kernel), List.mem_of_getElem? (i := 127) (by decide +kernel)⟩
theorem lw_p1 : lw_okq (⟨"MomentDesk", "addMomentTimes", "(IJ)V"⟩, 10) := ⟨⟨by decide +kernel, by decide +kernel⟩, List.mem_of_getElem? (i := 13) (by decide +kernel), List.mem_of_getElem? (i := 255) (by decide +kernel), List.mem_of_getElem? (i := 256) (by decide +kernel)⟩
theorem lw_p2 : lw_okq (⟨"MomentDesk$Big", "makeRoom", "(I)V"⟩, 3) := ⟨⟨by decide +kernel, by decide +kernel⟩, List.mem_of_getElem? (i := 34) (by decide +kernel), List.mem_of_getElem? (i := 267) (by decide +kernel), List.mem_of_getElem? (i := 268) (by decide +kernel)⟩
theorem lw_p3 : lw_okq (⟨"MomentDesk$Big", "addSize", "(LMomentDesk$Big;)V"⟩, 3) := ⟨⟨by decide +kernel, by decide +kernel⟩, List.mem_of_getElem? (i := 34) (by decide +kernel), List.mem_of_getElem? (i := 303) (by decide +kernel), List.mem_of_getElem? (i := 304) (by decide +kernel)⟩
theorem lw_p4 : lw_okq (⟨"MomentDesk$Big", "takeSizeFrom", "(LMomentDesk$Big;)V"⟩, 3) := ⟨⟨by decide +kernel, by decide +kernel⟩, List.mem_of_getElem? (i := 34) (by decide +kernel), List.mem_of_getElem? (i := 318) (by decide +kernel), List.mem_of_getElem? (i := 319) (by decide +kernel)⟩
theorem lw_p5 : lw_okq (⟨"MomentDesk", "takesSumAsMoment", "(I)Z"⟩, 10) := ⟨⟨by decide +kernel, by decide +kernel⟩, List.mem_of_getElem? (i := 13) (by decide +kernel), List.mem_of_getElem? (i := 322) (by decide +kernel), List.mem_of_getElem? (i := 323) (by decide +kernel)⟩
theorem lw_p6 : lw_okq (⟨"MomentDesk$Polys", "setMinor", "(I)V"⟩, 6) := ⟨⟨by decide +kernel, by decide +kernel⟩, List.mem_of_getElem? (i := 27) (by decide +kernel), List.mem_of_getElem? (i := 377) (by decide +kernel), List.mem_of_getElem? (i := 378) (by decide +kernel)⟩
theorem lw_p7 : lw_okq (⟨"MomentDesk", "layRuleA", "(LMomentDesk$Polys;I)I"⟩, 10) := ⟨⟨by decide +kernel, by decide +kernel⟩, List.mem_of_getElem? (i := 13) (by decide +kernel), List.mem_of_getElem? (i := 423) (by decide +kernel), List.mem_of_getElem? (i := 424) (by decide +kernel)⟩
theorem lw_p8 : lw_okq (⟨"MomentDesk", "layRuleB", "(LMomentDesk$Polys;I)I"⟩, 10) := ⟨⟨by decide +kernel, by decide +kernel⟩, List.mem_of_getElem? (i := 13) (by decide +kernel), List.mem_of_getElem? (i := 432) (by decide +kernel), List.mem_of_getElem? (i := 433) (by decide +kernel)⟩
theorem lw_p9 : lw_okq (⟨"MomentDesk", "setQuotient", "(LMomentDesk$Polys;II)V"⟩, 10) := ⟨⟨by decide +kernel, by decide +kernel⟩, List.mem_of_getElem? (i := 13) (by decide +kernel), List.mem_of_getElem? (i := 509) (by decide +kernel), List.mem_of_getElem? (i := 510) (by decide +kernel)⟩
theorem lw_p10 : lw_okq (⟨"MomentDesk$Hand", "bringToLowest", "()V"⟩, 5) := ⟨⟨by decide +kernel, by decide +kernel⟩, List.mem_of_getElem? (i := 114) (by decide +kernel), List.mem_of_getElem? (i := 528) (by decide +kernel), List.mem_of_getElem? (i := 529) (by decide +kernel)⟩
theorem lw_p11 : lw_okq (⟨"MomentDesk", "rootsBelow", "(LMomentDesk$Polys;III)I"⟩, 10) := ⟨⟨by decide +kernel, by decide +kernel⟩, List.mem_of_getElem? (i := 13) (by decide +kernel), List.mem_of_getElem? (i := 570) (by decide +kernel), List.mem_of_getElem? (i := 571) (by decide +kernel)⟩
theorem lw_p12 : lw_okq (⟨"MomentDesk", "isKeptAt", "(I)Z"⟩, 10) := ⟨⟨by decide +kernel, by decide +kernel⟩, List.mem_of_getElem? (i := 13) (by decide +kernel), List.mem_of_getElem? (i := 606) (by decide +kernel), List.mem_of_getElem? (i := 607) (by decide +kernel)⟩
theorem lw_p13 : lw_okq (⟨"MomentDesk", "isSamePoly", "(LMomentDesk$Polys;LMomentDesk$Polys;I)Z"⟩, 10) := ⟨⟨by decide +kernel, by decide +kernel⟩, List.mem_of_getElem? (i := 13) (by decide +kernel), List.mem_of_getElem? (i := 614) (by decide +kernel), List.mem_of_getElem? (i := 615) (by decide +kernel)⟩
theorem lw_p14 : lw_okq (⟨"MomentDeskModel", "set", "(IJ)V"⟩, 17) := ⟨⟨by decide +kernel, by decide +kernel⟩, List.mem_of_getElem? (i := 618) (by decide +kernel), List.mem_of_getElem? (i := 624) (by decide +kernel), List.mem_of_getElem? (i := 625) (by decide +kernel)⟩
theorem lw_p15 : lw_okq (⟨"MomentDeskModel", "begin", "(I)V"⟩, 17) := ⟨⟨by decide +kernel, by decide +kernel⟩, List.mem_of_getElem? (i := 618) (by decide +kernel), List.mem_of_getElem? (i := 685) (by decide +kernel), List.mem_of_getElem? (i := 686) (by decide +kernel)⟩
def lw_privs_1 : List (MethodName × Nat) := [(⟨"MomentDesk$Big", "trim", "()V"⟩, 3), (⟨"MomentDesk", "addMomentTimes", "(IJ)V"⟩, 10), (⟨"MomentDesk$Big", "makeRoom", "(I)V"⟩, 3), (⟨"MomentDesk$Big", "addSize", "(LMomentDesk$Big;)V"⟩, 3), (⟨"MomentDesk$Big", "takeSizeFrom", "(LMomentDesk$Big;)V"⟩, 3), (⟨"MomentDesk", "takesSumAsMoment", "(I)Z"⟩, 10), (⟨"MomentDesk$Polys", "setMinor", "(I)V"⟩, 6), (⟨"MomentDesk", "layRuleA", "(LMomentDesk$Polys;I)I"⟩, 10), (⟨"MomentDesk", "layRuleB", "(LMomentDesk$Polys;I)I"⟩, 10), (⟨"MomentDesk", "setQuotient", "(LMomentDesk$Polys;II)V"⟩, 10), (⟨"MomentDesk$Hand", "bringToLowest", "()V"⟩, 5), (⟨"MomentDesk", "rootsBelow", "(LMomentDesk$Polys;III)I"⟩, 10), (⟨"MomentDesk", "isKeptAt", "(I)Z"⟩, 10), (⟨"MomentDesk", "isSamePoly", "(LMomentDesk$Polys;LMomentDesk$Polys;I)Z"⟩, 10), (⟨"MomentDeskModel", "set", "(IJ)V"⟩, 17), (⟨"MomentDeskModel", "begin", "(I)V"⟩, 17)]
theorem lw_r1 : ∀ q ∈ lw_privs_1, lw_okq q := List.forall_mem_cons.mpr ⟨lw_p0, List.forall_mem_cons.mpr ⟨lw_p1, List.forall_mem_cons.mpr ⟨lw_p2, List.forall_mem_cons.mpr ⟨lw_p3, List.forall_mem_cons.mpr ⟨lw_p4, List.forall_mem_cons.mpr ⟨lw_p5, List.forall_mem_cons.mpr ⟨lw_p6, List.forall_mem_cons.mpr ⟨lw_p7, List.forall_mem_cons.mpr ⟨lw_p8, List.forall_mem_cons.mpr ⟨lw_p9, List.forall_mem_cons.mpr ⟨lw_p10, List.forall_mem_cons.mpr ⟨lw_p11, List.forall_mem_cons.mpr ⟨lw_p12, List.forall_mem_cons.mpr ⟨lw_p13, List.forall_mem_cons.mpr ⟨lw_p14, List.forall_mem_cons.mpr ⟨lw_p15, fun _ h => absurd h List.not_mem_nil⟩⟩⟩⟩⟩⟩⟩⟩⟩⟩⟩⟩⟩⟩⟩⟩
theorem lw_p16 : lw_okq (⟨"MomentDeskModel", "addWeight", "(IJ)V"⟩, 17) := ⟨⟨by decide +kernel, by decide +kernel⟩, List.mem_of_getElem? (i := 618) (by decide +kernel), List.mem_of_getElem? (i := 700) (by decide +kernel), List.mem_of_getElem? (i := 701) (by decide +kernel)⟩
theorem lw_p17 : lw_okq (⟨"MomentDeskModel", "times", "(IJ)V"⟩, 17) := ⟨⟨by decide +kernel, by decide +kernel⟩, List.mem_of_getElem? (i := 618) (by decide +kernel), List.mem_of_getElem? (i := 732) (by decide +kernel), List.mem_of_getElem? (i := 733) (by decide +kernel)⟩
theorem lw_p18 : lw_okq (⟨"MomentDeskModel", "multiply", "(III)V"⟩, 17) := ⟨⟨by decide +kernel, by decide +kernel⟩, List.mem_of_getElem? (i := 618) (by decide +kernel), List.mem_of_getElem? (i := 736) (by decide +kernel), List.mem_of_getElem? (i := 737) (by decide +kernel)⟩
theorem lw_p19 : lw_okq (⟨"MomentDeskModel", "cut", "(I)V"⟩, 17) := ⟨⟨by decide +kernel, by decide +kernel⟩, List.mem_of_getElem? (i := 618) (by decide +kernel), List.mem_of_getElem? (i := 740) (by decide +kernel), List.mem_of_getElem? (i := 741) (by decide +kernel)⟩
theorem lw_p20 : lw_okq (⟨"MomentDeskModel", "copy", "(II)V"⟩, 17) := ⟨⟨by decide +kernel, by decide +kernel⟩, List.mem_of_getElem? (i := 618) (by decide +kernel), List.mem_of_getElem? (i := 744) (by decide +kernel), List.mem_of_getElem? (i := 745) (by decide +kernel)⟩
theorem lw_p21 : lw_okq (⟨"MomentDeskModel", "add", "(IIII)V"⟩, 17) := ⟨⟨by decide +kernel, by decide +kernel⟩, List.mem_of_getElem? (i := 618) (by decide +kernel), List.mem_of_getElem? (i := 748) (by decide +kernel), List.mem_of_getElem? (i := 749) (by decide +kernel)⟩
theorem lw_p22 : lw_okq (⟨"MomentDeskModel", "join", "(III)V"⟩, 17) := ⟨⟨by decide +kernel, by decide +kernel⟩, List.mem_of_getElem? (i := 618) (by decide +kernel), List.mem_of_getElem? (i := 752) (by decide +kernel), List.mem_of_getElem? (i := 753) (by decide +kernel)⟩
theorem lw_p23 : lw_okq (⟨"MomentDeskModel", "limb", "(II)I"⟩, 17) := ⟨⟨by decide +kernel, by decide +kernel⟩, List.mem_of_getElem? (i := 618) (by decide +kernel), List.mem_of_getElem? (i := 756) (by decide +kernel), List.mem_of_getElem? (i := 757) (by decide +kernel)⟩
theorem lw_p24 : lw_okq (⟨"MomentDeskModel", "compare", "(II)I"⟩, 17) := ⟨⟨by decide +kernel, by decide +kernel⟩, List.mem_of_getElem? (i := 618) (by decide +kernel), List.mem_of_getElem? (i := 761) (by decide +kernel), List.mem_of_getElem? (i := 762) (by decide +kernel)⟩
theorem lw_p25 : lw_okq (⟨"MomentDeskModel", "less", "(III)V"⟩, 17) := ⟨⟨by decide +kernel, by decide +kernel⟩, List.mem_of_getElem? (i := 618) (by decide +kernel), List.mem_of_getElem? (i := 765) (by decide +kernel), List.mem_of_getElem? (i := 766) (by decide +kernel)⟩
theorem lw_p26 : lw_okq (⟨"MomentDeskModel", "isMoment", "(II)Z"⟩, 17) := ⟨⟨by decide +kernel, by decide +kernel⟩, List.mem_of_getElem? (i := 618) (by decide +kernel), List.mem_of_getElem? (i := 770) (by decide +kernel), List.mem_of_getElem? (i := 771) (by decide +kernel)⟩
theorem lw_p27 : lw_okq (⟨"MomentDeskModel", "bitsOf", "(I)I"⟩, 17) := ⟨⟨by decide +kernel, by decide +kernel⟩, List.mem_of_getElem? (i := 618) (by decide +kernel), List.mem_of_getElem? (i := 774) (by decide +kernel), List.mem_of_getElem? (i := 775) (by decide +kernel)⟩
theorem lw_p28 : lw_okq (⟨"MomentDeskModel", "changeTo", "(I)V"⟩, 17) := ⟨⟨by decide +kernel, by decide +kernel⟩, List.mem_of_getElem? (i := 618) (by decide +kernel), List.mem_of_getElem? (i := 778) (by decide +kernel), List.mem_of_getElem? (i := 779) (by decide +kernel)⟩
theorem lw_p29 : lw_okq (⟨"MomentDeskModel", "lay", "(II)I"⟩, 17) := ⟨⟨by decide +kernel, by decide +kernel⟩, List.mem_of_getElem? (i := 618) (by decide +kernel), List.mem_of_getElem? (i := 790) (by decide +kernel), List.mem_of_getElem? (i := 791) (by decide +kernel)⟩
theorem lw_p30 : lw_okq (⟨"MomentDeskModel", "shorten", "(II)V"⟩, 17) := ⟨⟨by decide +kernel, by decide +kernel⟩, List.mem_of_getElem? (i := 618) (by decide +kernel), List.mem_of_getElem? (i := 794) (by decide +kernel), List.mem_of_getElem? (i := 795) (by decide +kernel)⟩
theorem lw_p31 : lw_okq (⟨"MomentDeskModel", "findCommon", "(II)V"⟩, 17) := ⟨⟨by decide +kernel, by decide +kernel⟩, List.mem_of_getElem? (i := 618) (by decide +kernel), List.mem_of_getElem? (i := 798) (by decide +kernel), List.mem_of_getElem? (i := 799) (by decide +kernel)⟩
def lw_privs_2 : List (MethodName × Nat) := [(⟨"MomentDeskModel", "addWeight", "(IJ)V"⟩, 17), (⟨"MomentDeskModel", "times", "(IJ)V"⟩, 17), (⟨"MomentDeskModel", "multiply", "(III)V"⟩, 17), (⟨"MomentDeskModel", "cut", "(I)V"⟩, 17), (⟨"MomentDeskModel", "copy", "(II)V"⟩, 17), (⟨"MomentDeskModel", "add", "(IIII)V"⟩, 17), (⟨"MomentDeskModel", "join", "(III)V"⟩, 17), (⟨"MomentDeskModel", "limb", "(II)I"⟩, 17), (⟨"MomentDeskModel", "compare", "(II)I"⟩, 17), (⟨"MomentDeskModel", "less", "(III)V"⟩, 17), (⟨"MomentDeskModel", "isMoment", "(II)Z"⟩, 17), (⟨"MomentDeskModel", "bitsOf", "(I)I"⟩, 17), (⟨"MomentDeskModel", "changeTo", "(I)V"⟩, 17), (⟨"MomentDeskModel", "lay", "(II)I"⟩, 17), (⟨"MomentDeskModel", "shorten", "(II)V"⟩, 17), (⟨"MomentDeskModel", "findCommon", "(II)V"⟩, 17)]
theorem lw_r2 : ∀ q ∈ lw_privs_2, lw_okq q := List.forall_mem_cons.mpr ⟨lw_p16, List.forall_mem_cons.mpr ⟨lw_p17, List.forall_mem_cons.mpr ⟨lw_p18, List.forall_mem_cons.mpr ⟨lw_p19, List.forall_mem_cons.mpr ⟨lw_p20, List.forall_mem_cons.mpr ⟨lw_p21, List.forall_mem_cons.mpr ⟨lw_p22, List.forall_mem_cons.mpr ⟨lw_p23, List.forall_mem_cons.mpr ⟨lw_p24, List.forall_mem_cons.mpr ⟨lw_p25, List.forall_mem_cons.mpr ⟨lw_p26, List.forall_mem_cons.mpr ⟨lw_p27, List.forall_mem_cons.mpr ⟨lw_p28, List.forall_mem_cons.mpr ⟨lw_p29, List.forall_mem_cons.mpr ⟨lw_p30, List.forall_mem_cons.mpr ⟨lw_p31, fun _ h => absurd h List.not_mem_nil⟩⟩⟩⟩⟩⟩⟩⟩⟩⟩⟩⟩⟩⟩⟩⟩
theorem lw_p32 : lw_okq (⟨"MomentDeskModel", "isEven", "(I)Z"⟩, 17) := ⟨⟨by decide +kernel, by decide +kernel⟩, List.mem_of_getElem? (i := 618) (by decide +kernel), List.mem_of_getElem? (i := 802) (by decide +kernel), List.mem_of_getElem? (i := 803) (by decide +kernel)⟩
theorem lw_p33 : lw_okq (⟨"MomentDeskModel", "halve", "(I)V"⟩, 17) := ⟨⟨by decide +kernel, by decide +kernel⟩, List.mem_of_getElem? (i := 618) (by decide +kernel), List.mem_of_getElem? (i := 806) (by decide +kernel), List.mem_of_getElem? (i := 807) (by decide +kernel)⟩
theorem lw_p34 : lw_okq (⟨"MomentDeskModel", "twice", "(II)V"⟩, 17) := ⟨⟨by decide +kernel, by decide +kernel⟩, List.mem_of_getElem? (i := 618) (by decide +kernel), List.mem_of_getElem? (i := 810) (by decide +kernel), List.mem_of_getElem? (i := 811) (by decide +kernel)⟩
theorem lw_p35 : lw_okq (⟨"MomentDeskModel", "divide", "(I)V"⟩, 17) := ⟨⟨by decide +kernel, by decide +kernel⟩, List.mem_of_getElem? (i := 618) (by decide +kernel), List.mem_of_getElem? (i := 814) (by decide +kernel), List.mem_of_getElem? (i := 815) (by decide +kernel)⟩
theorem lw_p36 : lw_okq (⟨"MomentDeskModel", "hasWorth", "(I)Z"⟩, 17) := ⟨⟨by decide +kernel, by decide +kernel⟩, List.mem_of_getElem? (i := 618) (by decide +kernel), List.mem_of_getElem? (i := 826) (by decide +kernel), List.mem_of_getElem? (i := 827) (by decide +kernel)⟩
theorem lw_p37 : lw_okq (⟨"MomentDeskModel", "hasPolynomial", "(I)Z"⟩, 17) := ⟨⟨by decide +kernel, by decide +kernel⟩, List.mem_of_getElem? (i := 618) (by decide +kernel), List.mem_of_getElem? (i := 830) (by decide +kernel), List.mem_of_getElem? (i := 831) (by decide +kernel)⟩
theorem lw_p38 : lw_okq (⟨"MomentDeskModel", "top", "()I"⟩, 17) := ⟨⟨by decide +kernel, by decide +kernel⟩, List.mem_of_getElem? (i := 618) (by decide +kernel), List.mem_of_getElem? (i := 835) (by decide +kernel), List.mem_of_getElem? (i := 836) (by decide +kernel)⟩
theorem lw_p39 : lw_okq (⟨"MomentDeskModel", "worthOf", "(II)V"⟩, 17) := ⟨⟨by decide +kernel, by decide +kernel⟩, List.mem_of_getElem? (i := 618) (by decide +kernel), List.mem_of_getElem? (i := 839) (by decide +kernel), List.mem_of_getElem? (i := 840) (by decide +kernel)⟩
theorem lw_p40 : lw_okq (⟨"MomentDeskModel", "determinant", "(III)V"⟩, 17) := ⟨⟨by decide +kernel, by decide +kernel⟩, List.mem_of_getElem? (i := 618) (by decide +kernel), List.mem_of_getElem? (i := 843) (by decide +kernel), List.mem_of_getElem? (i := 844) (by decide +kernel)⟩
theorem lw_p41 : lw_okq (⟨"MomentDeskModel", "parity", "(I)I"⟩, 17) := ⟨⟨by decide +kernel, by decide +kernel⟩, List.mem_of_getElem? (i := 618) (by decide +kernel), List.mem_of_getElem? (i := 847) (by decide +kernel), List.mem_of_getElem? (i := 848) (by decide +kernel)⟩
theorem lw_p42 : lw_okq (⟨"MomentDeskModel", "nextOrder", "(I)Z"⟩, 17) := ⟨⟨by decide +kernel, by decide +kernel⟩, List.mem_of_getElem? (i := 618) (by decide +kernel), List.mem_of_getElem? (i := 851) (by decide +kernel), List.mem_of_getElem? (i := 852) (by decide +kernel)⟩
theorem lw_p43 : lw_okq (⟨"MomentDeskModel", "swap", "(II)V"⟩, 17) := ⟨⟨by decide +kernel, by decide +kernel⟩, List.mem_of_getElem? (i := 618) (by decide +kernel), List.mem_of_getElem? (i := 855) (by decide +kernel), List.mem_of_getElem? (i := 856) (by decide +kernel)⟩
theorem lw_p44 : lw_okq (⟨"MomentDeskModel", "number", "(III)V"⟩, 17) := ⟨⟨by decide +kernel, by decide +kernel⟩, List.mem_of_getElem? (i := 618) (by decide +kernel), List.mem_of_getElem? (i := 867) (by decide +kernel), List.mem_of_getElem? (i := 868) (by decide +kernel)⟩
theorem lw_p45 : lw_okq (⟨"MomentDeskModel", "value", "(IJJI)V"⟩, 17) := ⟨⟨by decide +kernel, by decide +kernel⟩, List.mem_of_getElem? (i := 618) (by decide +kernel), List.mem_of_getElem? (i := 882) (by decide +kernel), List.mem_of_getElem? (i := 883) (by decide +kernel)⟩
theorem lw_p46 : lw_okq (⟨"MomentDeskModel", "of", "(III)V"⟩, 17) := ⟨⟨by decide +kernel, by decide +kernel⟩, List.mem_of_getElem? (i := 618) (by decide +kernel), List.mem_of_getElem? (i := 890) (by decide +kernel), List.mem_of_getElem? (i := 891) (by decide +kernel)⟩
theorem lw_p47 : lw_okq (⟨"MomentDeskModel", "worthSign", "(I)I"⟩, 17) := ⟨⟨by decide +kernel, by decide +kernel⟩, List.mem_of_getElem? (i := 618) (by decide +kernel), List.mem_of_getElem? (i := 898) (by decide +kernel), List.mem_of_getElem? (i := 899) (by decide +kernel)⟩
def lw_privs_3 : List (MethodName × Nat) := [(⟨"MomentDeskModel", "isEven", "(I)Z"⟩, 17), (⟨"MomentDeskModel", "halve", "(I)V"⟩, 17), (⟨"MomentDeskModel", "twice", "(II)V"⟩, 17), (⟨"MomentDeskModel", "divide", "(I)V"⟩, 17), (⟨"MomentDeskModel", "hasWorth", "(I)Z"⟩, 17), (⟨"MomentDeskModel", "hasPolynomial", "(I)Z"⟩, 17), (⟨"MomentDeskModel", "top", "()I"⟩, 17), (⟨"MomentDeskModel", "worthOf", "(II)V"⟩, 17), (⟨"MomentDeskModel", "determinant", "(III)V"⟩, 17), (⟨"MomentDeskModel", "parity", "(I)I"⟩, 17), (⟨"MomentDeskModel", "nextOrder", "(I)Z"⟩, 17), (⟨"MomentDeskModel", "swap", "(II)V"⟩, 17), (⟨"MomentDeskModel", "number", "(III)V"⟩, 17), (⟨"MomentDeskModel", "value", "(IJJI)V"⟩, 17), (⟨"MomentDeskModel", "of", "(III)V"⟩, 17), (⟨"MomentDeskModel", "worthSign", "(I)I"⟩, 17)]
theorem lw_r3 : ∀ q ∈ lw_privs_3, lw_okq q := List.forall_mem_cons.mpr ⟨lw_p32, List.forall_mem_cons.mpr ⟨lw_p33, List.forall_mem_cons.mpr ⟨lw_p34, List.forall_mem_cons.mpr ⟨lw_p35, List.forall_mem_cons.mpr ⟨lw_p36, List.forall_mem_cons.mpr ⟨lw_p37, List.forall_mem_cons.mpr ⟨lw_p38, List.forall_mem_cons.mpr ⟨lw_p39, List.forall_mem_cons.mpr ⟨lw_p40, List.forall_mem_cons.mpr ⟨lw_p41, List.forall_mem_cons.mpr ⟨lw_p42, List.forall_mem_cons.mpr ⟨lw_p43, List.forall_mem_cons.mpr ⟨lw_p44, List.forall_mem_cons.mpr ⟨lw_p45, List.forall_mem_cons.mpr ⟨lw_p46, List.forall_mem_cons.mpr ⟨lw_p47, fun _ h => absurd h List.not_mem_nil⟩⟩⟩⟩⟩⟩⟩⟩⟩⟩⟩⟩⟩⟩⟩⟩
theorem lw_p48 : lw_okq (⟨"MomentDeskModel", "leftOnce", "(I)V"⟩, 17) := ⟨⟨by decide +kernel, by decide +kernel⟩, List.mem_of_getElem? (i := 618) (by decide +kernel), List.mem_of_getElem? (i := 912) (by decide +kernel), List.mem_of_getElem? (i := 913) (by decide +kernel)⟩
theorem lw_p49 : lw_okq (⟨"MomentDeskModel", "areAbove", "(I)Z"⟩, 17) := ⟨⟨by decide +kernel, by decide +kernel⟩, List.mem_of_getElem? (i := 618) (by decide +kernel), List.mem_of_getElem? (i := 935) (by decide +kernel), List.mem_of_getElem? (i := 936) (by decide +kernel)⟩
theorem lw_p50 : lw_okq (⟨"MomentDeskModel", "rootsBelow", "(IJJ)I"⟩, 17) := ⟨⟨by decide +kernel, by decide +kernel⟩, List.mem_of_getElem? (i := 618) (by decide +kernel), List.mem_of_getElem? (i := 939) (by decide +kernel), List.mem_of_getElem? (i := 940) (by decide +kernel)⟩
theorem lw_p51 : lw_okq (⟨"MomentDeskModel", "isKept", "(I)Z"⟩, 17) := ⟨⟨by decide +kernel, by decide +kernel⟩, List.mem_of_getElem? (i := 618) (by decide +kernel), List.mem_of_getElem? (i := 975) (by decide +kernel), List.mem_of_getElem? (i := 976) (by decide +kernel)⟩
theorem lw_p52 : lw_okq (⟨"MomentDeskModel", "take", "(I)V"⟩, 17) := ⟨⟨by decide +kernel, by decide +kernel⟩, List.mem_of_getElem? (i := 618) (by decide +kernel), List.mem_of_getElem? (i := 979) (by decide +kernel), List.mem_of_getElem? (i := 980) (by decide +kernel)⟩
theorem lw_p53 : lw_okq (⟨"MomentDeskModel", "isOther", "(II)Z"⟩, 17) := ⟨⟨by decide +kernel, by decide +kernel⟩, List.mem_of_getElem? (i := 618) (by decide +kernel), List.mem_of_getElem? (i := 987) (by decide +kernel), List.mem_of_getElem? (i := 988) (by decide +kernel)⟩
def lw_privs_4 : List (MethodName × Nat) := [(⟨"MomentDeskModel", "leftOnce", "(I)V"⟩, 17), (⟨"MomentDeskModel", "areAbove", "(I)Z"⟩, 17), (⟨"MomentDeskModel", "rootsBelow", "(IJJ)I"⟩, 17), (⟨"MomentDeskModel", "isKept", "(I)Z"⟩, 17), (⟨"MomentDeskModel", "take", "(I)V"⟩, 17), (⟨"MomentDeskModel", "isOther", "(II)Z"⟩, 17)]
theorem lw_r4 : ∀ q ∈ lw_privs_4, lw_okq q := List.forall_mem_cons.mpr ⟨lw_p48, List.forall_mem_cons.mpr ⟨lw_p49, List.forall_mem_cons.mpr ⟨lw_p50, List.forall_mem_cons.mpr ⟨lw_p51, List.forall_mem_cons.mpr ⟨lw_p52, List.forall_mem_cons.mpr ⟨lw_p53, fun _ h => absurd h List.not_mem_nil⟩⟩⟩⟩⟩⟩
def lw_privs : List (MethodName × Nat) := lw_privs_1 ++ (lw_privs_2 ++ (lw_privs_3 ++ (lw_privs_4)))
def lw_tbl : List Cond := k2_sels lw_privs ++ tables_1
theorem lw_privs_ok : ∀ q ∈ lw_privs, lw_okq q := by
  show ∀ q ∈ lw_privs_1 ++ (lw_privs_2 ++ (lw_privs_3 ++ (lw_privs_4))), lw_okq q
  exact List.forall_mem_append.mpr ⟨lw_r1, List.forall_mem_append.mpr ⟨lw_r2, List.forall_mem_append.mpr ⟨lw_r3, lw_r4⟩⟩⟩
end
section
def RX0 : String := "MomentDesk$Big"
def TX0 : u_T := fun k => match k with
  | 0 => ("MomentDesk$Big", "parts", "[I", false)
  | 1 => ("MomentDesk$Big", "size", "I", false)
  | _ => ("MomentDesk$Big", "negative", "Z", false)
def tyX0 : Nat → FieldType := fun k => match k with
  | 0 => .array .int
  | 1 => .int
  | _ => .boolean
abbrev wsX00 : List Cond := u_ws RX0 TX0 3
theorem nmX0 : ∀ a, a < 3 → ∀ b, b < 3 → a ≠ b → (TX0 a).2.1 ≠ (TX0 b).2.1 := by decide +kernel
theorem tyX0_ok : ∀ k, k < 3 → parseFieldDescriptor (TX0 k).2.2.1 = some (tyX0 k) := by decide +kernel
abbrev cX0_init : ByteArray := prog_2_method_1_code
def yX0_init : MethodName := ⟨RX0, "<init>", "(I)V"⟩
abbrev cX0_setLong : ByteArray := prog_2_method_2_code
def yX0_setLong : MethodName := ⟨RX0, "setLong", "(J)V"⟩
abbrev cX0_setBig : ByteArray := prog_2_method_3_code
def yX0_setBig : MethodName := ⟨RX0, "setBig", "(LMomentDesk$Big;)V"⟩
abbrev cX0_toLong : ByteArray := prog_2_method_4_code
def yX0_toLong : MethodName := ⟨RX0, "toLong", "()J"⟩
abbrev cX0_signum : ByteArray := prog_2_method_5_code
def yX0_signum : MethodName := ⟨RX0, "signum", "()I"⟩
abbrev cX0_negate : ByteArray := prog_2_method_6_code
def yX0_negate : MethodName := ⟨RX0, "negate", "()V"⟩
abbrev cX0_dropSign : ByteArray := prog_2_method_7_code
def yX0_dropSign : MethodName := ⟨RX0, "dropSign", "()V"⟩
abbrev cX0_bitLength : ByteArray := prog_2_method_8_code
def yX0_bitLength : MethodName := ⟨RX0, "bitLength", "()I"⟩
abbrev cX0_sixteenBits : ByteArray := prog_2_method_9_code
def yX0_sixteenBits : MethodName := ⟨RX0, "sixteenBits", "(I)I"⟩
abbrev cX0_twos : ByteArray := prog_2_method_10_code
def yX0_twos : MethodName := ⟨RX0, "twos", "()I"⟩
abbrev cX0_compareSize : ByteArray := prog_2_method_11_code
def yX0_compareSize : MethodName := ⟨RX0, "compareSize", "(LMomentDesk$Big;)I"⟩
abbrev cX0_take : ByteArray := prog_2_method_12_code
def yX0_take : MethodName := ⟨RX0, "take", "(LMomentDesk$Big;)V"⟩
abbrev cX0_addProduct : ByteArray := prog_2_method_13_code
def yX0_addProduct : MethodName := ⟨RX0, "addProduct", "(LMomentDesk$Big;LMomentDesk$Big;LMomentDesk$Big;)V"⟩
abbrev cX0_addSigned : ByteArray := prog_2_method_14_code
def yX0_addSigned : MethodName := ⟨RX0, "addSigned", "(LMomentDesk$Big;Z)V"⟩
abbrev cX0_addSize : ByteArray := prog_2_method_15_code
def yX0_addSize : MethodName := ⟨RX0, "addSize", "(LMomentDesk$Big;)V"⟩
abbrev cX0_takeSize : ByteArray := prog_2_method_16_code
def yX0_takeSize : MethodName := ⟨RX0, "takeSize", "(LMomentDesk$Big;)V"⟩
abbrev cX0_takeSizeFrom : ByteArray := prog_2_method_17_code
def yX0_takeSizeFrom : MethodName := ⟨RX0, "takeSizeFrom", "(LMomentDesk$Big;)V"⟩
abbrev cX0_setProduct : ByteArray := prog_2_method_18_code
def yX0_setProduct : MethodName := ⟨RX0, "setProduct", "(LMomentDesk$Big;LMomentDesk$Big;)V"⟩
abbrev cX0_times : ByteArray := prog_2_method_19_code
def yX0_times : MethodName := ⟨RX0, "times", "(LMomentDesk$Big;LMomentDesk$Big;)V"⟩
abbrev cX0_timesInt : ByteArray := prog_2_method_20_code
def yX0_timesInt : MethodName := ⟨RX0, "timesInt", "(I)V"⟩
abbrev cX0_shiftRight : ByteArray := prog_2_method_21_code
def yX0_shiftRight : MethodName := ⟨RX0, "shiftRight", "(I)V"⟩
abbrev cX0_divideWhole : ByteArray := prog_2_method_22_code
def yX0_divideWhole : MethodName := ⟨RX0, "divideWhole", "(LMomentDesk$Big;LMomentDesk$Big;)V"⟩
abbrev cX0_divideByOdd : ByteArray := prog_2_method_23_code
def yX0_divideByOdd : MethodName := ⟨RX0, "divideByOdd", "(LMomentDesk$Big;)V"⟩
abbrev cX0_inverseOf : ByteArray := prog_2_method_24_code
def yX0_inverseOf : MethodName := ⟨RX0, "inverseOf", "(I)I"⟩
abbrev cX0_trim : ByteArray := prog_2_method_25_code
def yX0_trim : MethodName := ⟨RX0, "trim", "()V"⟩
abbrev cX0_makeRoom : ByteArray := prog_2_method_26_code
def yX0_makeRoom : MethodName := ⟨RX0, "makeRoom", "(I)V"⟩
def RX1 : String := "MomentDesk$Hand"
def TX1 : u_T := fun k => match k with
  | 0 => ("MomentDesk$Hand", "upper", "LMomentDesk$Big;", true)
  | 1 => ("MomentDesk$Hand", "lower", "LMomentDesk$Big;", true)
  | 2 => ("MomentDesk$Hand", "left", "LMomentDesk$Big;", true)
  | 3 => ("MomentDesk$Hand", "right", "LMomentDesk$Big;", true)
  | _ => ("MomentDesk$Hand", "isLowest", "Z", false)
def tyX1 : Nat → FieldType := fun k => match k with
  | 0 => .object "MomentDesk$Big"
  | 1 => .object "MomentDesk$Big"
  | 2 => .object "MomentDesk$Big"
  | 3 => .object "MomentDesk$Big"
  | _ => .boolean
abbrev wsX10 : List Cond := u_ws RX1 TX1 5
theorem nmX1 : ∀ a, a < 5 → ∀ b, b < 5 → a ≠ b → (TX1 a).2.1 ≠ (TX1 b).2.1 := by decide +kernel
theorem tyX1_ok : ∀ k, k < 5 → parseFieldDescriptor (TX1 k).2.2.1 = some (tyX1 k) := by decide +kernel
abbrev cX1_init : ByteArray := prog_3_method_1_code
def yX1_init : MethodName := ⟨RX1, "<init>", "()V"⟩
abbrev cX1_layWhole : ByteArray := prog_3_method_2_code
def yX1_layWhole : MethodName := ⟨RX1, "layWhole", "(J)I"⟩
abbrev cX1_lay : ByteArray := prog_3_method_3_code
def yX1_lay : MethodName := ⟨RX1, "lay", "(LMomentDesk$Big;LMomentDesk$Big;)I"⟩
abbrev cX1_signAnswer : ByteArray := prog_3_method_4_code
def yX1_signAnswer : MethodName := ⟨RX1, "signAnswer", "()I"⟩
abbrev cX1_lowestPart : ByteArray := prog_3_method_5_code
def yX1_lowestPart : MethodName := ⟨RX1, "lowestPart", "(I)LMomentDesk$Big;"⟩
abbrev cX1_bringToLowest : ByteArray := prog_3_method_6_code
def yX1_bringToLowest : MethodName := ⟨RX1, "bringToLowest", "()V"⟩
abbrev cX1_greatestOfOdd : ByteArray := prog_3_method_7_code
def yX1_greatestOfOdd : MethodName := ⟨RX1, "greatestOfOdd", "(LMomentDesk$Big;LMomentDesk$Big;)LMomentDesk$Big;"⟩
def RX2 : String := "MomentDesk$Polys"
def TX2 : u_T := fun k => match k with
  | 0 => ("MomentDesk$Polys", "minors", "[LMomentDesk$Big;", true)
  | 1 => ("MomentDesk$Polys", "moments", "[LMomentDesk$Big;", true)
  | 2 => ("MomentDesk$Polys", "spare", "LMomentDesk$Big;", true)
  | 3 => ("MomentDesk$Polys", "part", "LMomentDesk$Big;", true)
  | 4 => ("MomentDesk$Polys", "last", "I", false)
  | _ => ("MomentDesk$Polys", "top", "I", false)
def tyX2 : Nat → FieldType := fun k => match k with
  | 0 => .array (.object "MomentDesk$Big")
  | 1 => .array (.object "MomentDesk$Big")
  | 2 => .object "MomentDesk$Big"
  | 3 => .object "MomentDesk$Big"
  | 4 => .int
  | _ => .int
abbrev wsX20 : List Cond := u_ws RX2 TX2 6
theorem nmX2 : ∀ a, a < 6 → ∀ b, b < 6 → a ≠ b → (TX2 a).2.1 ≠ (TX2 b).2.1 := by decide +kernel
theorem tyX2_ok : ∀ k, k < 6 → parseFieldDescriptor (TX2 k).2.2.1 = some (tyX2 k) := by decide +kernel
abbrev cX2_init : ByteArray := prog_4_method_1_code
def yX2_init : MethodName := ⟨RX2, "<init>", "()V"⟩
abbrev cX2_take : ByteArray := prog_4_method_2_code
def yX2_take : MethodName := ⟨RX2, "take", "([JI)V"⟩
abbrev cX2_setMinor : ByteArray := prog_4_method_3_code
def yX2_setMinor : MethodName := ⟨RX2, "setMinor", "(I)V"⟩
abbrev cX2_has : ByteArray := prog_4_method_4_code
def yX2_has : MethodName := ⟨RX2, "has", "(I)Z"⟩
abbrev cX2_hasWorth : ByteArray := prog_4_method_5_code
def yX2_hasWorth : MethodName := ⟨RX2, "hasWorth", "(I)Z"⟩
abbrev cX2_determinant : ByteArray := prog_4_method_6_code
def yX2_determinant : MethodName := ⟨RX2, "determinant", "(I)LMomentDesk$Big;"⟩
abbrev cX2_number : ByteArray := prog_4_method_7_code
def yX2_number : MethodName := ⟨RX2, "number", "(II)LMomentDesk$Big;"⟩
abbrev cX2_worthSign : ByteArray := prog_4_method_8_code
def yX2_worthSign : MethodName := ⟨RX2, "worthSign", "(I)I"⟩
abbrev cX2_goodWorths : ByteArray := prog_4_method_9_code
def yX2_goodWorths : MethodName := ⟨RX2, "goodWorths", "()I"⟩
abbrev cX2_setOf : ByteArray := prog_4_method_10_code
def yX2_setOf : MethodName := ⟨RX2, "setOf", "(LMomentDesk$Big;II)V"⟩
abbrev cX2_evaluate : ByteArray := prog_4_method_11_code
def yX2_evaluate : MethodName := ⟨RX2, "evaluate", "(LMomentDesk$Big;III)V"⟩
def RX3 : String := "MomentDesk$Weights"
def TX3 : u_T := fun k => match k with
  | 0 => ("MomentDesk$Weights", "kind", "I", false)
  | 1 => ("MomentDesk$Weights", "last", "I", false)
  | 2 => ("MomentDesk$Weights", "points", "I", false)
  | 3 => ("MomentDesk$Weights", "changed", "Z", false)
  | 4 => ("MomentDesk$Weights", "weightAt", "[I", true)
  | 5 => ("MomentDesk$Weights", "moments", "[J", true)
  | 6 => ("MomentDesk$Weights", "polys", "LMomentDesk$Polys;", true)
  | _ => ("MomentDesk$Weights", "polysAreOld", "Z", false)
def tyX3 : Nat → FieldType := fun k => match k with
  | 0 => .int
  | 1 => .int
  | 2 => .int
  | 3 => .boolean
  | 4 => .array .int
  | 5 => .array .long
  | 6 => .object "MomentDesk$Polys"
  | _ => .boolean
abbrev wsX30 : List Cond := u_ws RX3 TX3 8
theorem nmX3 : ∀ a, a < 8 → ∀ b, b < 8 → a ≠ b → (TX3 a).2.1 ≠ (TX3 b).2.1 := by decide +kernel
theorem tyX3_ok : ∀ k, k < 8 → parseFieldDescriptor (TX3 k).2.2.1 = some (tyX3 k) := by decide +kernel
abbrev cX3_init : ByteArray := prog_5_method_1_code
def yX3_init : MethodName := ⟨RX3, "<init>", "()V"⟩
abbrev cX3_begin : ByteArray := prog_5_method_2_code
def yX3_begin : MethodName := ⟨RX3, "begin", "(I)V"⟩
abbrev cX3_addPoint : ByteArray := prog_5_method_3_code
def yX3_addPoint : MethodName := ⟨RX3, "addPoint", "(II)V"⟩
abbrev cX3_addToMoments : ByteArray := prog_5_method_4_code
def yX3_addToMoments : MethodName := ⟨RX3, "addToMoments", "(IJ)V"⟩
abbrev cX3_tellMoment : ByteArray := prog_5_method_5_code
def yX3_tellMoment : MethodName := ⟨RX3, "tellMoment", "(II)V"⟩
abbrev cX3_momentsNotZero : ByteArray := prog_5_method_6_code
def yX3_momentsNotZero : MethodName := ⟨RX3, "momentsNotZero", "()I"⟩
abbrev cX3_spread : ByteArray := prog_5_method_7_code
def yX3_spread : MethodName := ⟨RX3, "spread", "(II)V"⟩
abbrev cX3_change : ByteArray := prog_5_method_8_code
def yX3_change : MethodName := ⟨RX3, "change", "([JI)V"⟩
abbrev cX3_copyFrom : ByteArray := prog_5_method_9_code
def yX3_copyFrom : MethodName := ⟨RX3, "copyFrom", "(LMomentDesk$Weights;)V"⟩
abbrev cX3_polys : ByteArray := prog_5_method_10_code
def yX3_polys : MethodName := ⟨RX3, "polys", "()LMomentDesk$Polys;"⟩
def RX4 : String := "MomentDesk"
def TX4 : u_T := fun k => match k with
  | 0 => ("MomentDesk", "weights", "LMomentDesk$Weights;", true)
  | 1 => ("MomentDesk", "kept", "[LMomentDesk$Weights;", true)
  | 2 => ("MomentDesk", "isKept", "[Z", true)
  | 3 => ("MomentDesk", "hand", "LMomentDesk$Hand;", true)
  | 4 => ("MomentDesk", "changedMoments", "[J", true)
  | 5 => ("MomentDesk", "quotient", "[LMomentDesk$Big;", true)
  | 6 => ("MomentDesk", "sum", "LMomentDesk$Big;", true)
  | 7 => ("MomentDesk", "one", "LMomentDesk$Big;", true)
  | 8 => ("MomentDesk", "other", "LMomentDesk$Big;", true)
  | _ => ("MomentDesk", "spare", "LMomentDesk$Big;", true)
def tyX4 : Nat → FieldType := fun k => match k with
  | 0 => .object "MomentDesk$Weights"
  | 1 => .array (.object "MomentDesk$Weights")
  | 2 => .array .boolean
  | 3 => .object "MomentDesk$Hand"
  | 4 => .array .long
  | 5 => .array (.object "MomentDesk$Big")
  | 6 => .object "MomentDesk$Big"
  | 7 => .object "MomentDesk$Big"
  | 8 => .object "MomentDesk$Big"
  | _ => .object "MomentDesk$Big"
abbrev wsX40 : List Cond := u_ws RX4 TX4 10
theorem nmX4 : ∀ a, a < 10 → ∀ b, b < 10 → a ≠ b → (TX4 a).2.1 ≠ (TX4 b).2.1 := by decide +kernel
theorem tyX4_ok : ∀ k, k < 10 → parseFieldDescriptor (TX4 k).2.2.1 = some (tyX4 k) := by decide +kernel
abbrev cX4_init : ByteArray := prog_1_method_1_code
def yX4_init : MethodName := ⟨RX4, "<init>", "()V"⟩
abbrev cX4_clear : ByteArray := prog_1_method_2_code
def yX4_clear : MethodName := ⟨RX4, "clear", "()I"⟩
abbrev cX4_point : ByteArray := prog_1_method_3_code
def yX4_point : MethodName := ⟨RX4, "point", "(II)I"⟩
abbrev cX4_moment : ByteArray := prog_1_method_4_code
def yX4_moment : MethodName := ⟨RX4, "moment", "(II)I"⟩
abbrev cX4_span : ByteArray := prog_1_method_5_code
def yX4_span : MethodName := ⟨RX4, "span", "(II)I"⟩
abbrev cX4_counted : ByteArray := prog_1_method_6_code
def yX4_counted : MethodName := ⟨RX4, "counted", "(IIII)I"⟩
abbrev cX4_by : ByteArray := prog_1_method_7_code
def yX4_by : MethodName := ⟨RX4, "by", "(I)I"⟩
abbrev cX4_mirror : ByteArray := prog_1_method_8_code
def yX4_mirror : MethodName := ⟨RX4, "mirror", "(I)I"⟩
abbrev cX4_layMoment : ByteArray := prog_1_method_9_code
def yX4_layMoment : MethodName := ⟨RX4, "layMoment", "(I)I"⟩
abbrev cX4_layWorth : ByteArray := prog_1_method_10_code
def yX4_layWorth : MethodName := ⟨RX4, "layWorth", "(I)I"⟩
abbrev cX4_layDeterminant : ByteArray := prog_1_method_11_code
def yX4_layDeterminant : MethodName := ⟨RX4, "layDeterminant", "(I)I"⟩
abbrev cX4_layNumber : ByteArray := prog_1_method_12_code
def yX4_layNumber : MethodName := ⟨RX4, "layNumber", "(II)I"⟩
abbrev cX4_layRule : ByteArray := prog_1_method_13_code
def yX4_layRule : MethodName := ⟨RX4, "layRule", "(II)I"⟩
abbrev cX4_layValue : ByteArray := prog_1_method_14_code
def yX4_layValue : MethodName := ⟨RX4, "layValue", "(III)I"⟩
abbrev cX4_layProduct : ByteArray := prog_1_method_15_code
def yX4_layProduct : MethodName := ⟨RX4, "layProduct", "(II)I"⟩
abbrev cX4_layShare : ByteArray := prog_1_method_16_code
def yX4_layShare : MethodName := ⟨RX4, "layShare", "(II)I"⟩
abbrev cX4_layKernel : ByteArray := prog_1_method_17_code
def yX4_layKernel : MethodName := ⟨RX4, "layKernel", "(III)I"⟩
abbrev cX4_layLeft : ByteArray := prog_1_method_18_code
def yX4_layLeft : MethodName := ⟨RX4, "layLeft", "(II)I"⟩
abbrev cX4_sign : ByteArray := prog_1_method_19_code
def yX4_sign : MethodName := ⟨RX4, "sign", "()I"⟩
abbrev cX4_bits : ByteArray := prog_1_method_20_code
def yX4_bits : MethodName := ⟨RX4, "bits", "(I)I"⟩
abbrev cX4_word : ByteArray := prog_1_method_21_code
def yX4_word : MethodName := ⟨RX4, "word", "(II)I"⟩
abbrev cX4_against : ByteArray := prog_1_method_22_code
def yX4_against : MethodName := ⟨RX4, "against", "(II)I"⟩
abbrev cX4_below : ByteArray := prog_1_method_23_code
def yX4_below : MethodName := ⟨RX4, "below", "(III)I"⟩
abbrev cX4_shut : ByteArray := prog_1_method_24_code
def yX4_shut : MethodName := ⟨RX4, "shut", "(III)I"⟩
abbrev cX4_good : ByteArray := prog_1_method_25_code
def yX4_good : MethodName := ⟨RX4, "good", "()I"⟩
abbrev cX4_few : ByteArray := prog_1_method_26_code
def yX4_few : MethodName := ⟨RX4, "few", "()I"⟩
abbrev cX4_told : ByteArray := prog_1_method_27_code
def yX4_told : MethodName := ⟨RX4, "told", "(I)I"⟩
abbrev cX4_keep : ByteArray := prog_1_method_28_code
def yX4_keep : MethodName := ⟨RX4, "keep", "(I)I"⟩
abbrev cX4_back : ByteArray := prog_1_method_29_code
def yX4_back : MethodName := ⟨RX4, "back", "(I)I"⟩
abbrev cX4_differs : ByteArray := prog_1_method_30_code
def yX4_differs : MethodName := ⟨RX4, "differs", "(I)I"⟩
abbrev cX4_isWithin : ByteArray := prog_1_method_31_code
def yX4_isWithin : MethodName := ⟨RX4, "isWithin", "(II)Z"⟩
abbrev cX4_isFraction : ByteArray := prog_1_method_32_code
def yX4_isFraction : MethodName := ⟨RX4, "isFraction", "(II)Z"⟩
abbrev cX4_isKeptAt : ByteArray := prog_1_method_33_code
def yX4_isKeptAt : MethodName := ⟨RX4, "isKeptAt", "(I)Z"⟩
abbrev cX4_isCountable : ByteArray := prog_1_method_34_code
def yX4_isCountable : MethodName := ⟨RX4, "isCountable", "(IIII)Z"⟩
abbrev cX4_countedWeight : ByteArray := prog_1_method_35_code
def yX4_countedWeight : MethodName := ⟨RX4, "countedWeight", "(IIIII)J"⟩
abbrev cX4_ways : ByteArray := prog_1_method_36_code
def yX4_ways : MethodName := ⟨RX4, "ways", "(II)J"⟩
abbrev cX4_power : ByteArray := prog_1_method_37_code
def yX4_power : MethodName := ⟨RX4, "power", "(II)J"⟩
abbrev cX4_addMomentTimes : ByteArray := prog_1_method_38_code
def yX4_addMomentTimes : MethodName := ⟨RX4, "addMomentTimes", "(IJ)V"⟩
abbrev cX4_takesSumAsMoment : ByteArray := prog_1_method_39_code
def yX4_takesSumAsMoment : MethodName := ⟨RX4, "takesSumAsMoment", "(I)Z"⟩
abbrev cX4_layRuleA : ByteArray := prog_1_method_40_code
def yX4_layRuleA : MethodName := ⟨RX4, "layRuleA", "(LMomentDesk$Polys;I)I"⟩
abbrev cX4_layRuleB : ByteArray := prog_1_method_41_code
def yX4_layRuleB : MethodName := ⟨RX4, "layRuleB", "(LMomentDesk$Polys;I)I"⟩
abbrev cX4_setQuotient : ByteArray := prog_1_method_42_code
def yX4_setQuotient : MethodName := ⟨RX4, "setQuotient", "(LMomentDesk$Polys;II)V"⟩
abbrev cX4_rootsBelow : ByteArray := prog_1_method_43_code
def yX4_rootsBelow : MethodName := ⟨RX4, "rootsBelow", "(LMomentDesk$Polys;III)I"⟩
abbrev cX4_isSamePoly : ByteArray := prog_1_method_44_code
def yX4_isSamePoly : MethodName := ⟨RX4, "isSamePoly", "(LMomentDesk$Polys;LMomentDesk$Polys;I)Z"⟩
def RX5 : String := "MomentDeskModel"
def TX5 : u_T := fun k => match k with
  | 0 => ("MomentDeskModel", "z", "[I", true)
  | 1 => ("MomentDeskModel", "long0", "[I", true)
  | 2 => ("MomentDeskModel", "sign", "[I", true)
  | 3 => ("MomentDeskModel", "moments", "[J", true)
  | 4 => ("MomentDeskModel", "kind", "I", false)
  | 5 => ("MomentDeskModel", "last", "I", false)
  | 6 => ("MomentDeskModel", "isChanged", "Z", false)
  | 7 => ("MomentDeskModel", "points", "I", false)
  | 8 => ("MomentDeskModel", "place", "[I", true)
  | 9 => ("MomentDeskModel", "weight", "[I", true)
  | 10 => ("MomentDeskModel", "fresh", "[J", true)
  | 11 => ("MomentDeskModel", "order", "[I", true)
  | 12 => ("MomentDeskModel", "keptMoments", "[J", true)
  | 13 => ("MomentDeskModel", "keptPlace", "[I", true)
  | 14 => ("MomentDeskModel", "keptWeight", "[I", true)
  | 15 => ("MomentDeskModel", "keptRest", "[I", true)
  | _ => ("MomentDeskModel", "heldMoments", "[J", true)
def tyX5 : Nat → FieldType := fun k => match k with
  | 0 => .array .int
  | 1 => .array .int
  | 2 => .array .int
  | 3 => .array .long
  | 4 => .int
  | 5 => .int
  | 6 => .boolean
  | 7 => .int
  | 8 => .array .int
  | 9 => .array .int
  | 10 => .array .long
  | 11 => .array .int
  | 12 => .array .long
  | 13 => .array .int
  | 14 => .array .int
  | 15 => .array .int
  | _ => .array .long
abbrev wsX50 : List Cond := u_ws RX5 TX5 17
theorem nmX5 : ∀ a, a < 17 → ∀ b, b < 17 → a ≠ b → (TX5 a).2.1 ≠ (TX5 b).2.1 := by decide +kernel
theorem tyX5_ok : ∀ k, k < 17 → parseFieldDescriptor (TX5 k).2.2.1 = some (tyX5 k) := by decide +kernel
abbrev cX5_init : ByteArray := prog_7_method_1_code
def yX5_init : MethodName := ⟨RX5, "<init>", "()V"⟩
abbrev cX5_in : ByteArray := prog_7_method_3_code
def yX5_in : MethodName := ⟨RX5, "in", "(JJJ)Z"⟩
abbrev cX5_set : ByteArray := prog_7_method_4_code
def yX5_set : MethodName := ⟨RX5, "set", "(IJ)V"⟩
abbrev cX5_copy : ByteArray := prog_7_method_5_code
def yX5_copy : MethodName := ⟨RX5, "copy", "(II)V"⟩
abbrev cX5_cut : ByteArray := prog_7_method_6_code
def yX5_cut : MethodName := ⟨RX5, "cut", "(I)V"⟩
abbrev cX5_compare : ByteArray := prog_7_method_7_code
def yX5_compare : MethodName := ⟨RX5, "compare", "(II)I"⟩
abbrev cX5_limb : ByteArray := prog_7_method_8_code
def yX5_limb : MethodName := ⟨RX5, "limb", "(II)I"⟩
abbrev cX5_join : ByteArray := prog_7_method_9_code
def yX5_join : MethodName := ⟨RX5, "join", "(III)V"⟩
abbrev cX5_less : ByteArray := prog_7_method_10_code
def yX5_less : MethodName := ⟨RX5, "less", "(III)V"⟩
abbrev cX5_add : ByteArray := prog_7_method_11_code
def yX5_add : MethodName := ⟨RX5, "add", "(IIII)V"⟩
abbrev cX5_multiply : ByteArray := prog_7_method_12_code
def yX5_multiply : MethodName := ⟨RX5, "multiply", "(III)V"⟩
abbrev cX5_times : ByteArray := prog_7_method_13_code
def yX5_times : MethodName := ⟨RX5, "times", "(IJ)V"⟩
abbrev cX5_bitsOf : ByteArray := prog_7_method_14_code
def yX5_bitsOf : MethodName := ⟨RX5, "bitsOf", "(I)I"⟩
abbrev cX5_halve : ByteArray := prog_7_method_15_code
def yX5_halve : MethodName := ⟨RX5, "halve", "(I)V"⟩
abbrev cX5_twice : ByteArray := prog_7_method_16_code
def yX5_twice : MethodName := ⟨RX5, "twice", "(II)V"⟩
abbrev cX5_isEven : ByteArray := prog_7_method_17_code
def yX5_isEven : MethodName := ⟨RX5, "isEven", "(I)Z"⟩
abbrev cX5_findCommon : ByteArray := prog_7_method_18_code
def yX5_findCommon : MethodName := ⟨RX5, "findCommon", "(II)V"⟩
abbrev cX5_divide : ByteArray := prog_7_method_19_code
def yX5_divide : MethodName := ⟨RX5, "divide", "(I)V"⟩
abbrev cX5_shorten : ByteArray := prog_7_method_20_code
def yX5_shorten : MethodName := ⟨RX5, "shorten", "(II)V"⟩
abbrev cX5_lay : ByteArray := prog_7_method_21_code
def yX5_lay : MethodName := ⟨RX5, "lay", "(II)I"⟩
abbrev cX5_power : ByteArray := prog_7_method_22_code
def yX5_power : MethodName := ⟨RX5, "power", "(JI)J"⟩
abbrev cX5_begin : ByteArray := prog_7_method_23_code
def yX5_begin : MethodName := ⟨RX5, "begin", "(I)V"⟩
abbrev cX5_addWeight : ByteArray := prog_7_method_24_code
def yX5_addWeight : MethodName := ⟨RX5, "addWeight", "(IJ)V"⟩
abbrev cX5_clear : ByteArray := prog_7_method_25_code
def yX5_clear : MethodName := ⟨RX5, "clear", "()I"⟩
abbrev cX5_point : ByteArray := prog_7_method_26_code
def yX5_point : MethodName := ⟨RX5, "point", "(II)I"⟩
abbrev cX5_moment : ByteArray := prog_7_method_27_code
def yX5_moment : MethodName := ⟨RX5, "moment", "(II)I"⟩
abbrev cX5_span : ByteArray := prog_7_method_28_code
def yX5_span : MethodName := ⟨RX5, "span", "(II)I"⟩
abbrev cX5_over : ByteArray := prog_7_method_29_code
def yX5_over : MethodName := ⟨RX5, "over", "(II)J"⟩
abbrev cX5_counted : ByteArray := prog_7_method_30_code
def yX5_counted : MethodName := ⟨RX5, "counted", "(IIII)I"⟩
abbrev cX5_isMoment : ByteArray := prog_7_method_31_code
def yX5_isMoment : MethodName := ⟨RX5, "isMoment", "(II)Z"⟩
abbrev cX5_changeTo : ByteArray := prog_7_method_32_code
def yX5_changeTo : MethodName := ⟨RX5, "changeTo", "(I)V"⟩
abbrev cX5_by : ByteArray := prog_7_method_33_code
def yX5_by : MethodName := ⟨RX5, "by", "(I)I"⟩
abbrev cX5_mirror : ByteArray := prog_7_method_34_code
def yX5_mirror : MethodName := ⟨RX5, "mirror", "(I)I"⟩
abbrev cX5_nextOrder : ByteArray := prog_7_method_35_code
def yX5_nextOrder : MethodName := ⟨RX5, "nextOrder", "(I)Z"⟩
abbrev cX5_swap : ByteArray := prog_7_method_36_code
def yX5_swap : MethodName := ⟨RX5, "swap", "(II)V"⟩
abbrev cX5_parity : ByteArray := prog_7_method_37_code
def yX5_parity : MethodName := ⟨RX5, "parity", "(I)I"⟩
abbrev cX5_determinant : ByteArray := prog_7_method_38_code
def yX5_determinant : MethodName := ⟨RX5, "determinant", "(III)V"⟩
abbrev cX5_worthOf : ByteArray := prog_7_method_39_code
def yX5_worthOf : MethodName := ⟨RX5, "worthOf", "(II)V"⟩
abbrev cX5_number : ByteArray := prog_7_method_40_code
def yX5_number : MethodName := ⟨RX5, "number", "(III)V"⟩
abbrev cX5_top : ByteArray := prog_7_method_41_code
def yX5_top : MethodName := ⟨RX5, "top", "()I"⟩
abbrev cX5_hasPolynomial : ByteArray := prog_7_method_42_code
def yX5_hasPolynomial : MethodName := ⟨RX5, "hasPolynomial", "(I)Z"⟩
abbrev cX5_hasWorth : ByteArray := prog_7_method_43_code
def yX5_hasWorth : MethodName := ⟨RX5, "hasWorth", "(I)Z"⟩
abbrev cX5_worthSign : ByteArray := prog_7_method_44_code
def yX5_worthSign : MethodName := ⟨RX5, "worthSign", "(I)I"⟩
abbrev cX5_layMoment : ByteArray := prog_7_method_45_code
def yX5_layMoment : MethodName := ⟨RX5, "layMoment", "(I)I"⟩
abbrev cX5_layWorth : ByteArray := prog_7_method_46_code
def yX5_layWorth : MethodName := ⟨RX5, "layWorth", "(I)I"⟩
abbrev cX5_layDeterminant : ByteArray := prog_7_method_47_code
def yX5_layDeterminant : MethodName := ⟨RX5, "layDeterminant", "(I)I"⟩
abbrev cX5_layNumber : ByteArray := prog_7_method_48_code
def yX5_layNumber : MethodName := ⟨RX5, "layNumber", "(II)I"⟩
abbrev cX5_layRule : ByteArray := prog_7_method_49_code
def yX5_layRule : MethodName := ⟨RX5, "layRule", "(II)I"⟩
abbrev cX5_isFraction : ByteArray := prog_7_method_50_code
def yX5_isFraction : MethodName := ⟨RX5, "isFraction", "(II)Z"⟩
abbrev cX5_value : ByteArray := prog_7_method_51_code
def yX5_value : MethodName := ⟨RX5, "value", "(IJJI)V"⟩
abbrev cX5_layValue : ByteArray := prog_7_method_52_code
def yX5_layValue : MethodName := ⟨RX5, "layValue", "(III)I"⟩
abbrev cX5_of : ByteArray := prog_7_method_53_code
def yX5_of : MethodName := ⟨RX5, "of", "(III)V"⟩
abbrev cX5_layProduct : ByteArray := prog_7_method_54_code
def yX5_layProduct : MethodName := ⟨RX5, "layProduct", "(II)I"⟩
abbrev cX5_layShare : ByteArray := prog_7_method_55_code
def yX5_layShare : MethodName := ⟨RX5, "layShare", "(II)I"⟩
abbrev cX5_layKernel : ByteArray := prog_7_method_56_code
def yX5_layKernel : MethodName := ⟨RX5, "layKernel", "(III)I"⟩
abbrev cX5_layLeft : ByteArray := prog_7_method_57_code
def yX5_layLeft : MethodName := ⟨RX5, "layLeft", "(II)I"⟩
abbrev cX5_leftOnce : ByteArray := prog_7_method_58_code
def yX5_leftOnce : MethodName := ⟨RX5, "leftOnce", "(I)V"⟩
abbrev cX5_sign : ByteArray := prog_7_method_59_code
def yX5_sign : MethodName := ⟨RX5, "sign", "()I"⟩
abbrev cX5_bits : ByteArray := prog_7_method_60_code
def yX5_bits : MethodName := ⟨RX5, "bits", "(I)I"⟩
abbrev cX5_word : ByteArray := prog_7_method_61_code
def yX5_word : MethodName := ⟨RX5, "word", "(II)I"⟩
abbrev cX5_against : ByteArray := prog_7_method_62_code
def yX5_against : MethodName := ⟨RX5, "against", "(II)I"⟩
abbrev cX5_areAbove : ByteArray := prog_7_method_63_code
def yX5_areAbove : MethodName := ⟨RX5, "areAbove", "(I)Z"⟩
abbrev cX5_rootsBelow : ByteArray := prog_7_method_64_code
def yX5_rootsBelow : MethodName := ⟨RX5, "rootsBelow", "(IJJ)I"⟩
abbrev cX5_below : ByteArray := prog_7_method_65_code
def yX5_below : MethodName := ⟨RX5, "below", "(III)I"⟩
abbrev cX5_shut : ByteArray := prog_7_method_66_code
def yX5_shut : MethodName := ⟨RX5, "shut", "(III)I"⟩
abbrev cX5_good : ByteArray := prog_7_method_67_code
def yX5_good : MethodName := ⟨RX5, "good", "()I"⟩
abbrev cX5_few : ByteArray := prog_7_method_68_code
def yX5_few : MethodName := ⟨RX5, "few", "()I"⟩
abbrev cX5_told : ByteArray := prog_7_method_69_code
def yX5_told : MethodName := ⟨RX5, "told", "(I)I"⟩
abbrev cX5_keep : ByteArray := prog_7_method_70_code
def yX5_keep : MethodName := ⟨RX5, "keep", "(I)I"⟩
abbrev cX5_isKept : ByteArray := prog_7_method_71_code
def yX5_isKept : MethodName := ⟨RX5, "isKept", "(I)Z"⟩
abbrev cX5_take : ByteArray := prog_7_method_72_code
def yX5_take : MethodName := ⟨RX5, "take", "(I)V"⟩
abbrev cX5_back : ByteArray := prog_7_method_73_code
def yX5_back : MethodName := ⟨RX5, "back", "(I)I"⟩
abbrev cX5_differs : ByteArray := prog_7_method_74_code
def yX5_differs : MethodName := ⟨RX5, "differs", "(I)I"⟩
abbrev cX5_isOther : ByteArray := prog_7_method_75_code
def yX5_isOther : MethodName := ⟨RX5, "isOther", "(II)Z"⟩
def RJx8e188 : String := "java/lang/Cloneable"
def TJx8e188 : u_T := fun k => match k with
  | _ => ("", "", "", false)
def tyJx8e188 : Nat → FieldType := fun k => match k with
  | _ => .int
abbrev wsJx8e1880 : List Cond := u_ws RJx8e188 TJx8e188 0
theorem nmJx8e188 : ∀ a, a < 0 → ∀ b, b < 0 → a ≠ b → (TJx8e188 a).2.1 ≠ (TJx8e188 b).2.1 := by decide +kernel
theorem tyJx8e188_ok : ∀ k, k < 0 → parseFieldDescriptor (TJx8e188 k).2.2.1 = some (tyJx8e188 k) := by decide +kernel
def RJ6 : String := "java/lang/Integer"
def TJ6 : u_T := fun k => match k with
  | _ => ("", "", "", false)
def tyJ6 : Nat → FieldType := fun k => match k with
  | _ => .int
abbrev wsJ60 : List Cond := u_ws RJ6 TJ6 0
theorem nmJ6 : ∀ a, a < 0 → ∀ b, b < 0 → a ≠ b → (TJ6 a).2.1 ≠ (TJ6 b).2.1 := by decide +kernel
theorem tyJ6_ok : ∀ k, k < 0 → parseFieldDescriptor (TJ6 k).2.2.1 = some (tyJ6 k) := by decide +kernel
abbrev cJ6_numberOfLeadingZeros_0f7a4 : ByteArray := prog_9_method_47_code
def yJ6_numberOfLeadingZeros_0f7a4 : MethodName := ⟨RJ6, "numberOfLeadingZeros", "(I)I"⟩
abbrev cJ6_numberOfTrailingZeros_0f7a4 : ByteArray := prog_9_method_48_code
def yJ6_numberOfTrailingZeros_0f7a4 : MethodName := ⟨RJ6, "numberOfTrailingZeros", "(I)I"⟩
abbrev cJ6_bitCount_0f7a4 : ByteArray := prog_9_method_49_code
def yJ6_bitCount_0f7a4 : MethodName := ⟨RJ6, "bitCount", "(I)I"⟩
def RJ13 : String := "java/lang/Long"
def TJ13 : u_T := fun k => match k with
  | _ => ("", "", "", false)
def tyJ13 : Nat → FieldType := fun k => match k with
  | _ => .int
abbrev wsJ130 : List Cond := u_ws RJ13 TJ13 0
theorem nmJ13 : ∀ a, a < 0 → ∀ b, b < 0 → a ≠ b → (TJ13 a).2.1 ≠ (TJ13 b).2.1 := by decide +kernel
theorem tyJ13_ok : ∀ k, k < 0 → parseFieldDescriptor (TJ13 k).2.2.1 = some (tyJ13 k) := by decide +kernel
abbrev cJ13_compare_74951 : ByteArray := prog_10_method_42_code
def yJ13_compare_74951 : MethodName := ⟨RJ13, "compare", "(JJ)I"⟩
def RJ9 : String := "java/lang/Math"
def TJ9 : u_T := fun k => match k with
  | _ => ("", "", "", false)
def tyJ9 : Nat → FieldType := fun k => match k with
  | _ => .int
abbrev wsJ90 : List Cond := u_ws RJ9 TJ9 0
theorem nmJ9 : ∀ a, a < 0 → ∀ b, b < 0 → a ≠ b → (TJ9 a).2.1 ≠ (TJ9 b).2.1 := by decide +kernel
theorem tyJ9_ok : ∀ k, k < 0 → parseFieldDescriptor (TJ9 k).2.2.1 = some (tyJ9 k) := by decide +kernel
abbrev cJ9_abs_067f4 : ByteArray := prog_11_method_61_code
def yJ9_abs_067f4 : MethodName := ⟨RJ9, "abs", "(J)J"⟩
abbrev cJ9_max_7cf53 : ByteArray := prog_11_method_65_code
def yJ9_max_7cf53 : MethodName := ⟨RJ9, "max", "(II)I"⟩
abbrev cJ9_min_7cf53 : ByteArray := prog_11_method_69_code
def yJ9_min_7cf53 : MethodName := ⟨RJ9, "min", "(II)I"⟩
def RJ10 : String := "java/lang/System"
def TJ10 : u_T := fun k => match k with
  | _ => ("", "", "", false)
def tyJ10 : Nat → FieldType := fun k => match k with
  | _ => .int
abbrev wsJ100 : List Cond := u_ws RJ10 TJ10 0
theorem nmJ10 : ∀ a, a < 0 → ∀ b, b < 0 → a ≠ b → (TJ10 a).2.1 ≠ (TJ10 b).2.1 := by decide +kernel
theorem tyJ10_ok : ∀ k, k < 0 → parseFieldDescriptor (TJ10 k).2.2.1 = some (tyJ10 k) := by decide +kernel
def RJ7 : String := "java/util/Arrays"
def TJ7 : u_T := fun k => match k with
  | _ => ("", "", "", false)
def tyJ7 : Nat → FieldType := fun k => match k with
  | _ => .int
abbrev wsJ70 : List Cond := u_ws RJ7 TJ7 0
theorem nmJ7 : ∀ a, a < 0 → ∀ b, b < 0 → a ≠ b → (TJ7 a).2.1 ≠ (TJ7 b).2.1 := by decide +kernel
theorem tyJ7_ok : ∀ k, k < 0 → parseFieldDescriptor (TJ7 k).2.2.1 = some (tyJ7 k) := by decide +kernel
abbrev cJ7_rangeCheck_23922 : ByteArray := prog_13_method_30_code
def yJ7_rangeCheck_23922 : MethodName := ⟨RJ7, "rangeCheck", "(III)V"⟩
abbrev cJ7_fill_d0a16 : ByteArray := prog_13_method_101_code
def yJ7_fill_d0a16 : MethodName := ⟨RJ7, "fill", "([JJ)V"⟩
abbrev cJ7_fill_53178 : ByteArray := prog_13_method_103_code
def yJ7_fill_53178 : MethodName := ⟨RJ7, "fill", "([II)V"⟩
abbrev cJ7_fill_fda19 : ByteArray := prog_13_method_104_code
def yJ7_fill_fda19 : MethodName := ⟨RJ7, "fill", "([IIII)V"⟩
abbrev cJ7_copyOf_59c91 : ByteArray := prog_13_method_123_code
def yJ7_copyOf_59c91 : MethodName := ⟨RJ7, "copyOf", "([II)[I"⟩
def RL : String := "MomentDeskLaw"
abbrev cL_law : ByteArray := code
def yL_law : MethodName := ⟨RL, "law", "([I)Z"⟩
end
section
/-! ===== a pure machine over NAMED worlds: a world is N cells, named 0 .. N-1; name i lies at address ad i; what a cell is is told by sh (shape) and rf (references, fixed), its numbers by I (ints, booleans) and J (longs) ===== -/
abbrev mPV : Type := Int32 ⊕ (Int64 ⊕ Nat)
abbrev mPI : Type := Nat → Nat → Int32
abbrev mPJ : Type := Nat → Nat → Int64
abbrev mSH : Type := Nat → (Nat ⊕ (Nat × Nat))
abbrev mRF : Type := Nat → Nat → Nat
abbrev mLV : Type := List (Nat × mPV)
abbrev mKT : Type := Option mPV → mPI → mPJ → Prop
abbrev mPT : Type := List mPV → mPI → mPJ → mKT → Prop
/-- an instruction of a method's list: pc, instruction, length, jump targets, its constant -/
abbrev mIN : Type := Nat × Instr × Nat × List Nat × Int32
def m_ev (ad : Nat → Nat) : mPV → Value
  | .inl x => .int x
  | .inr (.inl x) => .long x
  | .inr (.inr i) => .ref (ad i)
def m_cat : mPV → Nat
  | .inr (.inl _) => 2
  | _ => 1
theorem m_cat_ev (ad : Nat → Nat) (v : mPV) : (m_ev ad v).category = m_cat v := by
  rcases v with x | x | x <;> rfl
def m_ft : Nat → List Nat
  | 0 => [2, 0, 1]
  | 1 => [2, 2, 2, 2, 1]
  | 2 => [2, 2, 2, 2, 0, 0]
  | 3 => [0, 0, 0, 1, 2, 2, 2, 1]
  | 4 => [2, 2, 2, 2, 2, 2, 2, 2, 2, 2]
  | 5 => [2, 2, 2, 2, 0, 0, 1, 0, 2, 2, 2, 2, 2, 2, 2, 2, 2]
  | _ => []
def m_fv (ad : Nat → Nat) (rf : mRF) (I : mPI) (i kd k : Nat) : Value := if kd = 2 then .ref (ad (rf i k)) else .int (I i k)
def m_fs (ad : Nat → Nat) (rf : mRF) (I : mPI) (i : Nat) : List Nat → Nat → List Value
  | [], _ => []
  | kd :: l, k => m_fv ad rf I i kd k :: m_fs ad rf I i l (k + 1)
theorem m_fs_get (ad : Nat → Nat) (rf : mRF) (I : mPI) (i : Nat) : ∀ (l : List Nat) (k0 j kd : Nat), l[j]? = some kd → (m_fs ad rf I i l k0)[j]? = some (m_fv ad rf I i kd (k0 + j))
  | [], _, j, kd, h => by simp at h
  | a :: l, k0, 0, kd, h => by
    have : a = kd := by simpa using h
    subst this
    rfl
  | a :: l, k0, j + 1, kd, h => by
    have h' : l[j]? = some kd := by simpa using h
    have := m_fs_get ad rf I i l (k0 + 1) j kd h'
    rw [show k0 + 1 + j = k0 + (j + 1) by omega] at this
    simpa [m_fs] using this
theorem m_fs_len (ad : Nat → Nat) (rf : mRF) (I : mPI) (i : Nat) : ∀ (l : List Nat) (k0 : Nat), (m_fs ad rf I i l k0).length = l.length
  | [], _ => rfl
  | _ :: l, k0 => by simp [m_fs, m_fs_len ad rf I i l (k0 + 1)]
def m_uI (I : mPI) (i k : Nat) (v : Int32) : mPI := fun a b => if a = i ∧ b = k then v else I a b
def m_uJ (J : mPJ) (i k : Nat) (v : Int64) : mPJ := fun a b => if a = i ∧ b = k then v else J a b
theorem m_fs_out (ad : Nat → Nat) (rf : mRF) (I : mPI) (i k : Nat) (v : Int32) : ∀ (l : List Nat) (k0 : Nat), k < k0 → m_fs ad rf (m_uI I i k v) i l k0 = m_fs ad rf I i l k0
  | [], _, _ => rfl
  | kd :: l, k0, h => by
    have h1 := m_fs_out ad rf I i k v l (k0 + 1) (by omega)
    have h2 : m_fv ad rf (m_uI I i k v) i kd k0 = m_fv ad rf I i kd k0 := by
      unfold m_fv m_uI
      rw [if_neg (show ¬ (i = i ∧ k0 = k) by omega)]
    simp only [m_fs, h1, h2]
theorem m_fs_set (ad : Nat → Nat) (rf : mRF) (I : mPI) (i : Nat) (v : Int32) : ∀ (l : List Nat) (k0 j kd : Nat), l[j]? = some kd → kd ≠ 2 → (m_fs ad rf I i l k0).set j (.int v) = m_fs ad rf (m_uI I i (k0 + j) v) i l k0
  | [], _, j, kd, h, _ => by simp at h
  | a :: l, k0, 0, kd, h, h2 => by
    have : a = kd := by simpa using h
    subst this
    have h1 := m_fs_out ad rf I i k0 v l (k0 + 1) (by omega)
    simp only [m_fs, List.set_cons_zero, Nat.add_zero, h1]
    congr 1
    unfold m_fv m_uI
    rw [if_neg h2, if_pos (show i = i ∧ k0 = k0 from ⟨rfl, rfl⟩)]
  | a :: l, k0, j + 1, kd, h, h2 => by
    have h' : l[j]? = some kd := by simpa using h
    have h3 := m_fs_set ad rf I i v l (k0 + 1) j kd h' h2
    rw [show k0 + 1 + j = k0 + (j + 1) by omega] at h3
    simp only [m_fs, List.set_cons_succ, h3]
    congr 1
    unfold m_fv m_uI
    rw [if_neg (show ¬ (i = i ∧ k0 = k0 + (j + 1)) by omega)]
def m_ar (ad : Nat → Nat) (rf : mRF) (I : mPI) (J : mPJ) (i t n : Nat) : vp_A := (n, if t = 1 then .inr (.inl (J i)) else if t < 3 then .inl (I i) else .inr (.inr (.inr (.inr (fun k => some (ad (rf i k)))))))
def m_ce (cs : Nat → ClassId) (ad : Nat → Nat) (sh : mSH) (rf : mRF) (I : mPI) (J : mPJ) (i : Nat) : va_E := match sh i with
  | .inl ci => .inr (ci, m_fs ad rf I i (m_ft ci) 0)
  | .inr (t, n) => .inl (cs t, m_ar ad rf I J i t n)
def m_wl (cs : Nat → ClassId) (ad : Nat → Nat) (sh : mSH) (rf : mRF) (N : Nat) (I : mPI) (J : mPJ) : va_W := (List.range N).map (fun i => (ad i, m_ce cs ad sh rf I J i))
def m_cl : List vw_C := [(RX0, TX0, 3), (RX1, TX1, 5), (RX2, TX2, 6), (RX3, TX3, 8), (RX4, TX4, 10), (RX5, TX5, 17)]
def m_tyf : Nat → Nat → FieldType
  | 0 => tyX0 | 1 => tyX1 | 2 => tyX2 | 3 => tyX3 | 4 => tyX4 | _ => tyX5
def m_ty (cs : Nat → ClassId) : List (ClassId × FieldType) := [(cs 0, .int), (cs 1, .long), (cs 2, .boolean), (cs 3, .object "MomentDesk$Big"), (cs 4, .object "MomentDesk$Weights")]
def m_A (ad : Nat → Nat) (N : Nat) : Nat → Prop := fun q => ∃ i, i < N ∧ q = ad i
theorem m_wl_at (cs : Nat → ClassId) (ad : Nat → Nat) (sh : mSH) (rf : mRF) (N : Nat) (I : mPI) (J : mPJ) {i : Nat} (h : i < N) : (m_wl cs ad sh rf N I J)[i]? = some (ad i, m_ce cs ad sh rf I J i) := by
  simp [m_wl, h]
theorem m_wl_len (cs : Nat → ClassId) (ad : Nat → Nat) (sh : mSH) (rf : mRF) (N : Nat) (I : mPI) (J : mPJ) : (m_wl cs ad sh rf N I J).length = N := by simp [m_wl]
theorem m_wl_set {cs : Nat → ClassId} {ad : Nat → Nat} {sh : mSH} {rf : mRF} {N : Nat} {I I' : mPI} {J J' : mPJ} {i : Nat} {e : va_E} (he : m_ce cs ad sh rf I' J' i = e) (ho : ∀ j, j ≠ i → m_ce cs ad sh rf I' J' j = m_ce cs ad sh rf I J j) :
    (m_wl cs ad sh rf N I J).set i (ad i, e) = m_wl cs ad sh rf N I' J' := by
  apply List.ext_getElem?
  intro k
  by_cases hk : k < N
  · rw [m_wl_at _ _ _ _ _ _ _ hk]
    by_cases hki : k = i
    · subst hki
      rw [List.getElem?_set_self (by rw [m_wl_len]; exact hk), he]
    · rw [List.getElem?_set_ne (Ne.symm hki), m_wl_at _ _ _ _ _ _ _ hk, ho k hki]
  · rw [List.getElem?_eq_none (by rw [List.length_set, m_wl_len]; omega), List.getElem?_eq_none (by rw [m_wl_len]; omega)]
theorem m_wl_D {ad : Nat → Nat} {N : Nat} (hi : ∀ i j, i < N → j < N → ad i = ad j → i = j) (cs : Nat → ClassId) (sh : mSH) (rf : mRF) (I : mPI) (J : mPJ) : va_D (m_A ad N) (m_wl cs ad sh rf N I J) := by
  have key : ∀ (k : Nat) (q : Nat × va_E), (m_wl cs ad sh rf N I J)[k]? = some q → k < N ∧ q.1 = ad k := by
    intro k q h
    have hk : k < N := by
      have := (List.getElem?_eq_some_iff.mp h).1
      rwa [m_wl_len] at this
    rw [m_wl_at _ _ _ _ _ _ _ hk] at h
    exact ⟨hk, by rw [← Option.some.inj h]⟩
  refine ⟨fun i j x y h1 h2 h3 => ?_, fun k q h => ?_⟩
  · obtain ⟨a1, a2⟩ := key i x h1
    obtain ⟨b1, b2⟩ := key j y h2
    exact hi i j a1 b1 (by rw [← a2, ← b2]; exact h3)
  · obtain ⟨a1, a2⟩ := key k q h
    exact ⟨k, a1, a2⟩
theorem m_ce_I {cs : Nat → ClassId} {ad : Nat → Nat} {sh : mSH} {rf : mRF} {I I' : mPI} {J J' : mPJ} {j : Nat} (h1 : ∀ b, I' j b = I j b) (h2 : ∀ b, J' j b = J j b) : m_ce cs ad sh rf I' J' j = m_ce cs ad sh rf I J j := by
  have e1 : I' j = I j := funext h1
  have e2 : J' j = J j := funext h2
  have e3 : ∀ l k, m_fs ad rf I' j l k = m_fs ad rf I j l k := by
    intro l
    induction l with
    | nil => intro k; rfl
    | cons a l ih => intro k; simp only [m_fs, m_fv, ih, e1]
  unfold m_ce m_ar
  simp only [e1, e2, e3]
theorem m_hty (ci : Nat) (q : vw_C) (h : m_cl[ci]? = some q) : ∀ k, k < q.2.2 → parseFieldDescriptor (q.2.1 k).2.2.1 = some (m_tyf ci k) := by
  match ci, h with
  | 0, h => cases h; exact tyX0_ok
  | 1, h => cases h; exact tyX1_ok
  | 2, h => cases h; exact tyX2_ok
  | 3, h => cases h; exact tyX3_ok
  | 4, h => cases h; exact tyX4_ok
  | 5, h => cases h; exact tyX5_ok
  | k + 6, h => simp [m_cl] at h
theorem m_hnm (ci : Nat) (q : vw_C) (h : m_cl[ci]? = some q) : ∀ a, a < q.2.2 → ∀ b, b < q.2.2 → a ≠ b → (q.2.1 a).2.1 ≠ (q.2.1 b).2.1 := by
  match ci, h with
  | 0, h => cases h; exact nmX0
  | 1, h => cases h; exact nmX1
  | 2, h => cases h; exact nmX2
  | 3, h => cases h; exact nmX3
  | 4, h => cases h; exact nmX4
  | 5, h => cases h; exact nmX5
  | k + 6, h => simp [m_cl] at h
/-! locals -/
def m_lk : mLV → Nat → Option mPV
  | [], _ => none
  | q :: l, k => match Nat.beq q.1 k with
    | true => some q.2
    | false => m_lk l k
def m_s1 (lv : mLV) (i : Nat) (v : mPV) : mLV := (i, v) :: lv.filter (fun q => !(q.1 == i) && !(q.1 + 1 == i && m_cat q.2 == 2))
def m_s2 (lv : mLV) (i : Nat) (v : mPV) : mLV := (i, v) :: lv.filter (fun q => !(q.1 == i) && (!(q.1 == i + 1) && !(q.1 + 1 == i && m_cat q.2 == 2)))
def m_el (ad : Nat → Nat) (lv : mLV) : List (Nat × Value) := lv.map (fun q => (q.1, m_ev ad q.2))
theorem m_lk_get : ∀ {lv : mLV} {k : Nat} {v : mPV}, m_lk lv k = some v → ∃ j : Nat, lv[j]? = some (k, v)
  | [], _, _, h => by simp [m_lk] at h
  | q :: l, k, v, h => by
    unfold m_lk at h
    split at h
    · rename_i hb
      have hk := Nat.eq_of_beq_eq_true hb
      exact ⟨0, by simp at h; simp [← h, ← hk]⟩
    · obtain ⟨j, hj⟩ := m_lk_get h
      exact ⟨j + 1, by simpa using hj⟩
theorem m_el_get {ad : Nat → Nat} {lv : mLV} {j k : Nat} {v : mPV} (h : lv[j]? = some (k, v)) : (m_el ad lv)[j]? = some (k, m_ev ad v) := by
  simp [m_el, h]
theorem m_at {ad : Nat → Nat} {ls : Array Slot} {nL : Nat} {lv : mLV} {k : Nat} {v : mPV} (hl : lv_has ls nL (m_el ad lv)) (h : m_lk lv k = some v) : ls[k]? = some (.val (m_ev ad v)) := by
  obtain ⟨j, hj⟩ := m_lk_get h
  exact lv_at hl j (m_el_get hj)
theorem m_el_s1 {ad : Nat → Nat} {lv : mLV} {i : Nat} {v : mPV} : (i, m_ev ad v) :: (m_el ad lv).filter (fun q => !(q.1 == i) && !(q.1 + 1 == i && q.2.category == 2)) = m_el ad (m_s1 lv i v) := by
  simp only [m_el, m_s1, List.map_cons, List.filter_map]
  congr 2
  apply List.filter_congr
  intro q _
  simp only [Function.comp, m_cat_ev]
theorem m_el_s2 {ad : Nat → Nat} {lv : mLV} {i : Nat} {v : mPV} : (i, m_ev ad v) :: (m_el ad lv).filter (fun q => !(q.1 == i) && (!(q.1 == i + 1) && !(q.1 + 1 == i && q.2.category == 2))) = m_el ad (m_s2 lv i v) := by
  simp only [m_el, m_s2, List.map_cons, List.filter_map]
  congr 2
  apply List.filter_congr
  intro q _
  simp only [Function.comp, m_cat_ev]
/-- the words that methods carry; the two of nest mates go with the world -/
def m_tb : List Cond := lw_tbl.filter goodWord
def m_nws : List Cond := [Cond.fieldLinkNest RX2 68 "MomentDesk$Big" "negative" "Z" "MomentDesk", Cond.methodLinkNest RX3 56 yX4_power "MomentDesk"]
def m_tw : List Cond := m_nws ++ m_tb
theorem m_tb_pos {w : Cond} {pos : Nat} (h : lw_tbl[pos]? = some w) (h2 : goodWord w = true) : w ∈ m_tb := List.mem_filter.mpr ⟨List.mem_of_getElem? h, h2⟩
theorem m_tb_w {w : Cond} (h : w ∈ m_tb) : w ∈ m_tw := List.mem_append_right _ h
/-! a row of tables: fields (index, class, place, kind, nest, place of its word), constants -/
abbrev mFL : Type := Nat × Nat × Nat × Nat × Nat × Nat
def m_lf : List mFL → Nat → Option (Nat × Nat × Nat)
  | [], _ => none
  | q :: l, k => match Nat.beq q.1 k with
    | true => some (q.2.1, q.2.2.1, q.2.2.2.1)
    | false => m_lf l k
def m_lc {α : Type} : List (Nat × α × Nat) → Nat → Option α
  | [], _ => none
  | q :: l, k => match Nat.beq q.1 k with
    | true => some q.2.1
    | false => m_lc l k
theorem m_in (ci : Nat) (q : vw_C) (h : m_cl[ci]? = some q) : ∀ w ∈ u_ws q.1 q.2.1 q.2.2, w ∈ m_tw := by
  intro w hw
  refine m_tb_w (List.mem_filter.mpr ?_)
  have key : ∀ w ∈ u_ws q.1 q.2.1 q.2.2, w ∈ lw_tbl ∧ goodWord w = true := by
    match ci, h with
    | 0, h => cases h; decide +kernel
    | 1, h => cases h; decide +kernel
    | 2, h => cases h; decide +kernel
    | 3, h => cases h; decide +kernel
    | 4, h => cases h; decide +kernel
    | 5, h => cases h; decide +kernel
    | k + 6, h => simp [m_cl] at h
  exact key w hw
def m_fck (own : String) (q : mFL) : Bool := match m_cl[q.2.1]? with
  | some r => Nat.blt q.2.2.1 r.2.2 && decide ((m_ft q.2.1)[q.2.2.1]? = some q.2.2.2.1) && (Nat.beq q.2.2.2.1 2 || !(r.2.1 q.2.2.1).2.2.2) && decide (m_tyf q.2.1 q.2.2.1 = (if q.2.2.2.1 = 0 then .int else if q.2.2.2.1 = 1 then .boolean else m_tyf q.2.1 q.2.2.1)) && (match q.2.2.2.2.1 with
    | 0 => decide (lw_tbl[q.2.2.2.2.2]? = some (Cond.fieldLink own q.1 (r.2.1 q.2.2.1).1 (r.2.1 q.2.2.1).2.1 (r.2.1 q.2.2.1).2.2.1)) && goodWord (Cond.fieldLink own q.1 (r.2.1 q.2.2.1).1 (r.2.1 q.2.2.1).2.1 (r.2.1 q.2.2.1).2.2.1)
    | _ => decide (Cond.fieldLinkNest own q.1 (r.2.1 q.2.2.1).1 (r.2.1 q.2.2.1).2.1 (r.2.1 q.2.2.1).2.2.1 "MomentDesk" ∈ m_nws))
  | none => false
def m_kck (own : String) (q : Nat × Int32 × Nat) : Bool := decide (lw_tbl[q.2.2]? = some (Cond.constant own q.1 q.2.1)) && goodWord (Cond.constant own q.1 q.2.1)
def m_kckL (own : String) (q : Nat × Int64 × Nat) : Bool := decide (lw_tbl[q.2.2]? = some (Cond.constantLong own q.1 q.2.1)) && goodWord (Cond.constantLong own q.1 q.2.1)
theorem m_lf_mem : ∀ {l : List mFL} {k : Nat} {r : Nat × Nat × Nat}, m_lf l k = some r → ∃ h pos, (k, r.1, r.2.1, r.2.2, h, pos) ∈ l
  | [], _, _, h => by simp [m_lf] at h
  | q :: l, k, r, h => by
    unfold m_lf at h
    split at h
    · rename_i hb
      have hk := Nat.eq_of_beq_eq_true hb
      have hr := Option.some.inj h
      refine ⟨q.2.2.2.2.1, q.2.2.2.2.2, ?_⟩
      rw [← hr, ← hk]
      exact List.mem_cons_self
    · obtain ⟨a, b, hj⟩ := m_lf_mem h
      exact ⟨a, b, List.mem_cons_of_mem _ hj⟩
theorem m_lc_mem {α : Type} : ∀ {l : List (Nat × α × Nat)} {k : Nat} {r : α}, m_lc l k = some r → ∃ pos, (k, r, pos) ∈ l
  | [], _, _, h => by simp [m_lc] at h
  | q :: l, k, r, h => by
    unfold m_lc at h
    split at h
    · rename_i hb
      have hk := Nat.eq_of_beq_eq_true hb
      have hr := Option.some.inj h
      refine ⟨q.2.2, ?_⟩
      rw [← hr, ← hk]
      exact List.mem_cons_self
    · obtain ⟨a, hj⟩ := m_lc_mem h
      exact ⟨a, List.mem_cons_of_mem _ hj⟩
/-! what an instruction asks -/
def m_inb (sh : mSH) (i t : Nat) (j : Int32) : Prop := match sh i with
  | .inr (t', n) => t' = t ∧ vp_in j n
  | _ => False
def m_inr (sh : mSH) (i : Nat) (j : Int32) : Prop := match sh i with
  | .inr (t', n) => (t' = 3 ∨ t' = 4) ∧ vp_in j n
  | _ => False
def m_isa (sh : mSH) (i : Nat) : Prop := match sh i with
  | .inr (t', _) => t' < 5
  | _ => False
def m_len (sh : mSH) (i : Nat) : Int32 := match sh i with
  | .inr (_, n) => Int32.ofNat n
  | _ => 0
def m_gv (rf : mRF) (I : mPI) (i f kd : Nat) : mPV := match kd with
  | 2 => .inr (.inr (rf i f))
  | _ => .inl (I i f)
def m_ol : Option mPV → List mPV
  | none => []
  | some v => [v]
def m_ilen : Instr → Nat
  | .bipush _ | .iload _ | .istore _ | .lload _ | .lstore _ | .aload _ | .astore _ | .ldc _ => 2
  | .sipush _ | .iinc _ _ | .ldc_w _ | .ldc2_w _ | .getfield _ | .putfield _ | .invokevirtual _ | .invokestatic _ | .goto _ | .ifCond _ _ | .if_icmp _ _ => 3
  | _ => 1
def m_isw : Instr → Bool
  | .tableswitch _ _ _ _ | .lookupswitch _ _ => true
  | _ => false
def m_jck (pc : Nat) (ts : List Nat) : Instr → Bool
  | .goto off => match ts with | [t] => decide ((pc : Int) + off = (t : Int)) | _ => false
  | .ifCond _ off => match ts with | [t] => decide ((pc : Int) + off = (t : Int)) | _ => false
  | .if_icmp _ off => match ts with | [t] => decide ((pc : Int) + off = (t : Int)) | _ => false
  | .tableswitch dflt lo hi offs => match ts with
    | t :: l => decide ((pc : Int) + dflt = (t : Int)) && decide (l.length = offs.size) && decide (lo = 0) && decide (hi + 1 = (offs.size : Int)) && (List.range offs.size).all (fun j => decide (((pc : Int) + (offs.getD j 0)) = ((l.getD j 0 : Nat) : Int)))
    | _ => false
  | _ => true
def m_vck (v : Int32) : Instr → Bool
  | .iconst n => decide (Int32.ofInt n = v)
  | .bipush n => decide ((Int8.ofInt n).toInt32 = v)
  | .sipush n => decide ((Int16.ofInt n).toInt32 = v)
  | .iinc _ n => decide (Int32.ofInt n = v)
  | _ => true
def m_ick (cc : ByteArray) (q : mIN) : Bool := decide (decode cc q.1 = .ok (q.2.1, q.2.2.1)) && (Nat.beq (m_ilen q.2.1) q.2.2.1 || m_isw q.2.1) && m_jck q.1 q.2.2.2.1 q.2.1 && m_vck q.2.2.2.2 q.2.1

/-- one instruction: ft goes on behind it, jp at a target -/
def m_sp (nL : Nat) (fl : List mFL) (kI : List (Nat × Int32 × Nat)) (kJ : List (Nat × Int64 × Nat)) (ct : Nat → Option (Nat × Bool × mPT)) (sh : mSH) (rf : mRF) (rk : Nat) (Q : mKT) (ft : mLV → List mPV → mPI → mPJ → Prop) (jp : Nat → mLV → List mPV → mPI → mPJ → Prop) (ins : Instr) (ts : List Nat) (v : Int32) (lv : mLV) (st : List mPV) (I : mPI) (J : mPJ) : Prop :=
  match ins with
  | .iload_n k => match m_lk lv k.val with
    | some (.inl x) => ft lv (.inl x :: st) I J
    | _ => False
  | .iload k => match m_lk lv k with
    | some (.inl x) => ft lv (.inl x :: st) I J
    | _ => False
  | .lload_n k => match m_lk lv k.val with
    | some (.inr (.inl x)) => ft lv (.inr (.inl x) :: st) I J
    | _ => False
  | .lload k => match m_lk lv k with
    | some (.inr (.inl x)) => ft lv (.inr (.inl x) :: st) I J
    | _ => False
  | .aload_n k => match m_lk lv k.val with
    | some (.inr (.inr x)) => ft lv (.inr (.inr x) :: st) I J
    | _ => False
  | .aload k => match m_lk lv k with
    | some (.inr (.inr x)) => ft lv (.inr (.inr x) :: st) I J
    | _ => False
  | .istore_n k => match st with
    | .inl x :: r => match Nat.blt k.val nL with
      | true => ft (m_s1 lv k.val (.inl x)) r I J
      | false => False
    | _ => False
  | .istore k => match st with
    | .inl x :: r => match Nat.blt k nL with
      | true => ft (m_s1 lv k (.inl x)) r I J
      | false => False
    | _ => False
  | .lstore_n k => match st with
    | .inr (.inl x) :: r => match Nat.blt (k.val + 1) nL with
      | true => ft (m_s2 lv k.val (.inr (.inl x))) r I J
      | false => False
    | _ => False
  | .lstore k => match st with
    | .inr (.inl x) :: r => match Nat.blt (k + 1) nL with
      | true => ft (m_s2 lv k (.inr (.inl x))) r I J
      | false => False
    | _ => False
  | .astore_n k => match st with
    | .inr (.inr x) :: r => match Nat.blt k.val nL with
      | true => ft (m_s1 lv k.val (.inr (.inr x))) r I J
      | false => False
    | _ => False
  | .astore k => match st with
    | .inr (.inr x) :: r => match Nat.blt k nL with
      | true => ft (m_s1 lv k (.inr (.inr x))) r I J
      | false => False
    | _ => False
  | .iconst _ => ft lv (.inl v :: st) I J
  | .bipush _ => ft lv (.inl v :: st) I J
  | .sipush _ => ft lv (.inl v :: st) I J
  | .lconst n => ft lv (.inr (.inl (match n.val with | 0 => 0 | _ => 1)) :: st) I J
  | .ldc k => match m_lc kI k with
    | some x => ft lv (.inl x :: st) I J
    | none => False
  | .ldc_w k => match m_lc kI k with
    | some x => ft lv (.inl x :: st) I J
    | none => False
  | .ldc2_w k => match m_lc kJ k with
    | some x => ft lv (.inr (.inl x) :: st) I J
    | none => False
  | .iinc k _ => match m_lk lv k with
    | some (.inl x) => match Nat.blt k nL with
      | true => ft (m_s1 lv k (.inl (x + v))) st I J
      | false => False
    | _ => False
  | .iadd => match st with
    | .inl y :: .inl x :: r => ft lv (.inl (x + y) :: r) I J
    | _ => False
  | .isub => match st with
    | .inl y :: .inl x :: r => ft lv (.inl (x - y) :: r) I J
    | _ => False
  | .imul => match st with
    | .inl y :: .inl x :: r => ft lv (.inl (x * y) :: r) I J
    | _ => False
  | .iand => match st with
    | .inl y :: .inl x :: r => ft lv (.inl (x &&& y) :: r) I J
    | _ => False
  | .ior => match st with
    | .inl y :: .inl x :: r => ft lv (.inl (x ||| y) :: r) I J
    | _ => False
  | .ixor => match st with
    | .inl y :: .inl x :: r => ft lv (.inl (x ^^^ y) :: r) I J
    | _ => False
  | .ishl => match st with
    | .inl y :: .inl x :: r => ft lv (.inl (x <<< (y &&& 31)) :: r) I J
    | _ => False
  | .ishr => match st with
    | .inl y :: .inl x :: r => ft lv (.inl (x >>> (y &&& 31)) :: r) I J
    | _ => False
  | .iushr => match st with
    | .inl y :: .inl x :: r => ft lv (.inl ((x.toUInt32 >>> (y.toUInt32 &&& Int32.toUInt32 31)).toInt32) :: r) I J
    | _ => False
  | .ladd => match st with
    | .inr (.inl y) :: .inr (.inl x) :: r => ft lv (.inr (.inl (x + y)) :: r) I J
    | _ => False
  | .lsub => match st with
    | .inr (.inl y) :: .inr (.inl x) :: r => ft lv (.inr (.inl (x - y)) :: r) I J
    | _ => False
  | .lmul => match st with
    | .inr (.inl y) :: .inr (.inl x) :: r => ft lv (.inr (.inl (x * y)) :: r) I J
    | _ => False
  | .land => match st with
    | .inr (.inl y) :: .inr (.inl x) :: r => ft lv (.inr (.inl (x &&& y)) :: r) I J
    | _ => False
  | .lor => match st with
    | .inr (.inl y) :: .inr (.inl x) :: r => ft lv (.inr (.inl (x ||| y)) :: r) I J
    | _ => False
  | .lshl => match st with
    | .inl y :: .inr (.inl x) :: r => ft lv (.inr (.inl (x <<< (y.toInt64 &&& 63))) :: r) I J
    | _ => False
  | .lshr => match st with
    | .inl y :: .inr (.inl x) :: r => ft lv (.inr (.inl (x >>> (y.toInt64 &&& 63))) :: r) I J
    | _ => False
  | .lushr => match st with
    | .inl y :: .inr (.inl x) :: r => ft lv (.inr (.inl ((x.toUInt64 >>> (y.toInt64.toUInt64 &&& Int64.toUInt64 63)).toInt64)) :: r) I J
    | _ => False
  | .idiv => match st with
    | .inl y :: .inl x :: r => ¬ y = 0 ∧ ft lv (.inl (x / y) :: r) I J
    | _ => False
  | .irem => match st with
    | .inl y :: .inl x :: r => ¬ y = 0 ∧ ft lv (.inl (x - x / y * y) :: r) I J
    | _ => False
  | .ldiv => match st with
    | .inr (.inl y) :: .inr (.inl x) :: r => ¬ y = 0 ∧ ft lv (.inr (.inl (x / y)) :: r) I J
    | _ => False
  | .lrem => match st with
    | .inr (.inl y) :: .inr (.inl x) :: r => ¬ y = 0 ∧ ft lv (.inr (.inl (x - x / y * y)) :: r) I J
    | _ => False
  | .i2l => match st with
    | .inl x :: r => ft lv (.inr (.inl x.toInt64) :: r) I J
    | _ => False
  | .l2i => match st with
    | .inr (.inl x) :: r => ft lv (.inl x.toInt32 :: r) I J
    | _ => False
  | .lcmp => match st with
    | .inr (.inl y) :: .inr (.inl x) :: r => ft lv (.inl (lg_cmp x y) :: r) I J
    | _ => False
  | .ineg => match st with
    | .inl x :: r => ft lv (.inl (-x) :: r) I J
    | _ => False
  | .lneg => match st with
    | .inr (.inl x) :: r => ft lv (.inr (.inl (-x)) :: r) I J
    | _ => False
  | .dup => match st with
    | .inl x :: r => ft lv (.inl x :: .inl x :: r) I J
    | .inr (.inr x) :: r => ft lv (.inr (.inr x) :: .inr (.inr x) :: r) I J
    | _ => False
  | .dup2 => match st with
    | .inl y :: .inr (.inr x) :: r => ft lv (.inl y :: .inr (.inr x) :: .inl y :: .inr (.inr x) :: r) I J
    | _ => False
  | .goto _ => match ts with
    | [t] => jp t lv st I J
    | _ => False
  | .ifCond .eq _ => match ts, st with
    | [t], .inl x :: r => (x = 0 → jp t lv r I J) ∧ (¬ x = 0 → ft lv r I J)
    | _, _ => False
  | .ifCond .ne _ => match ts, st with
    | [t], .inl x :: r => (¬ x = 0 → jp t lv r I J) ∧ (x = 0 → ft lv r I J)
    | _, _ => False
  | .ifCond .lt _ => match ts, st with
    | [t], .inl x :: r => (x < 0 → jp t lv r I J) ∧ (¬ x < 0 → ft lv r I J)
    | _, _ => False
  | .ifCond .ge _ => match ts, st with
    | [t], .inl x :: r => (0 ≤ x → jp t lv r I J) ∧ (¬ 0 ≤ x → ft lv r I J)
    | _, _ => False
  | .ifCond .gt _ => match ts, st with
    | [t], .inl x :: r => (0 < x → jp t lv r I J) ∧ (¬ 0 < x → ft lv r I J)
    | _, _ => False
  | .ifCond .le _ => match ts, st with
    | [t], .inl x :: r => (x ≤ 0 → jp t lv r I J) ∧ (¬ x ≤ 0 → ft lv r I J)
    | _, _ => False
  | .if_icmp .eq _ => match ts, st with
    | [t], .inl y :: .inl x :: r => (x = y → jp t lv r I J) ∧ (¬ x = y → ft lv r I J)
    | _, _ => False
  | .if_icmp .ne _ => match ts, st with
    | [t], .inl y :: .inl x :: r => (¬ x = y → jp t lv r I J) ∧ (x = y → ft lv r I J)
    | _, _ => False
  | .if_icmp .lt _ => match ts, st with
    | [t], .inl y :: .inl x :: r => (x < y → jp t lv r I J) ∧ (¬ x < y → ft lv r I J)
    | _, _ => False
  | .if_icmp .ge _ => match ts, st with
    | [t], .inl y :: .inl x :: r => (y ≤ x → jp t lv r I J) ∧ (¬ y ≤ x → ft lv r I J)
    | _, _ => False
  | .if_icmp .gt _ => match ts, st with
    | [t], .inl y :: .inl x :: r => (y < x → jp t lv r I J) ∧ (¬ y < x → ft lv r I J)
    | _, _ => False
  | .if_icmp .le _ => match ts, st with
    | [t], .inl y :: .inl x :: r => (x ≤ y → jp t lv r I J) ∧ (¬ x ≤ y → ft lv r I J)
    | _, _ => False
  | .tableswitch _ _ hi _ => match ts, st with
    | t :: l, .inl x :: r => (∀ j, j < l.length → x = Int32.ofNat j → jp (l.getD j 0) lv r I J) ∧ ((x < 0 ∨ Int32.ofNat l.length ≤ x) → jp t lv r I J)
    | _, _ => False
  | .getfield k => match m_lf fl k, st with
    | some (ci, f, kd), .inr (.inr i) :: r => sh i = .inl ci ∧ ft lv (m_gv rf I i f kd :: r) I J
    | _, _ => False
  | .putfield k => match m_lf fl k, st with
    | some (ci, f, 0), .inl x :: .inr (.inr i) :: r => sh i = .inl ci ∧ ft lv r (m_uI I i f x) J
    | some (ci, f, 1), .inl x :: .inr (.inr i) :: r => sh i = .inl ci ∧ (x = 0 ∨ x = 1) ∧ ft lv r (m_uI I i f x) J
    | _, _ => False
  | .iaload => match st with
    | .inl j :: .inr (.inr i) :: r => m_inb sh i 0 j ∧ ft lv (.inl (I i j.toNatClampNeg) :: r) I J
    | _ => False
  | .laload => match st with
    | .inl j :: .inr (.inr i) :: r => m_inb sh i 1 j ∧ ft lv (.inr (.inl (J i j.toNatClampNeg)) :: r) I J
    | _ => False
  | .baload => match st with
    | .inl j :: .inr (.inr i) :: r => m_inb sh i 2 j ∧ ft lv (.inl (I i j.toNatClampNeg) :: r) I J
    | _ => False
  | .aaload => match st with
    | .inl j :: .inr (.inr i) :: r => m_inr sh i j ∧ ft lv (.inr (.inr (rf i j.toNatClampNeg)) :: r) I J
    | _ => False
  | .arraylength => match st with
    | .inr (.inr i) :: r => m_isa sh i ∧ ft lv (.inl (m_len sh i) :: r) I J
    | _ => False
  | .iastore => match st with
    | .inl x :: .inl j :: .inr (.inr i) :: r => m_inb sh i 0 j ∧ ft lv r (m_uI I i j.toNatClampNeg x) J
    | _ => False
  | .bastore => match st with
    | .inl x :: .inl j :: .inr (.inr i) :: r => m_inb sh i 2 j ∧ (x = 0 ∨ x = 1) ∧ ft lv r (m_uI I i j.toNatClampNeg x) J
    | _ => False
  | .lastore => match st with
    | .inr (.inl x) :: .inl j :: .inr (.inr i) :: r => m_inb sh i 1 j ∧ ft lv r I (m_uJ J i j.toNatClampNeg x)
    | _ => False
  | .invokevirtual k => match ct k with
    | some (n, true, pt) => match Nat.ble n st.length && Nat.ble ((st.drop n).map m_cat).sum 8 with
      | true => pt (st.take n).reverse I J (fun r I1 J1 => ft lv (m_ol r ++ st.drop n) I1 J1)
      | false => False
    | _ => False
  | .invokestatic k => match ct k with
    | some (n, false, pt) => match Nat.ble n st.length && Nat.ble ((st.drop n).map m_cat).sum 8 with
      | true => pt (st.take n).reverse I J (fun r I1 J1 => ft lv (m_ol r ++ st.drop n) I1 J1)
      | false => False
    | _ => False
  | .ireturn => match rk, st with
    | 1, [.inl x] => Q (some (.inl x)) I J
    | 3, [.inl x] => (x = 0 ∨ x = 1) ∧ Q (some (.inl x)) I J
    | _, _ => False
  | .lreturn => match rk, st with
    | 2, [.inr (.inl x)] => Q (some (.inr (.inl x))) I J
    | _, _ => False
  | .areturn => match rk, st with
    | 4, [.inr (.inr x)] => Q (some (.inr (.inr x))) I J
    | _, _ => False
  | .return_ => match rk, st with
    | 0, [] => Q none I J
    | _, _ => False
  | _ => False
end
section
/-! ===== soundness of the pure machine ===== -/
theorem m_blt {a b : Nat} (h : Nat.blt a b = true) : a < b := Nat.le_of_ble_eq_true h
theorem m_ble2 {a b c d : Nat} (h : (Nat.ble a b && Nat.ble c d) = true) : a ≤ b ∧ c ≤ d := by
  rw [Bool.and_eq_true] at h
  exact ⟨Nat.le_of_ble_eq_true h.1, Nat.le_of_ble_eq_true h.2⟩
theorem m_inb_e {sh : mSH} {i t : Nat} {j : Int32} (h : m_inb sh i t j) : ∃ n, sh i = .inr (t, n) ∧ vp_in j n := by
  unfold m_inb at h
  split at h
  · rename_i t' n e
    obtain ⟨rfl, h2⟩ := h
    exact ⟨n, e, h2⟩
  · exact h.elim
theorem m_inr_e {sh : mSH} {i : Nat} {j : Int32} (h : m_inr sh i j) : ∃ t n, sh i = .inr (t, n) ∧ (t = 3 ∨ t = 4) ∧ vp_in j n := by
  unfold m_inr at h
  split at h
  · rename_i t' n e
    exact ⟨t', n, e, h.1, h.2⟩
  · exact h.elim
theorem m_isa_e {sh : mSH} {i : Nat} (h : m_isa sh i) : ∃ t n, sh i = .inr (t, n) ∧ t < 5 := by
  unfold m_isa at h
  split at h
  · rename_i t' n e
    exact ⟨t', n, e, h⟩
  · exact h.elim
theorem m_inb_i {sh : mSH} {i t n : Nat} {j : Int32} (h1 : sh i = .inr (t, n)) (h2 : vp_in j n) : m_inb sh i t j := by
  unfold m_inb
  rw [h1]
  exact ⟨rfl, h2⟩
theorem m_inr_i {sh : mSH} {i t n : Nat} {j : Int32} (h1 : sh i = .inr (t, n)) (h3 : t = 3 ∨ t = 4) (h2 : vp_in j n) : m_inr sh i j := by
  unfold m_inr
  rw [h1]
  exact ⟨h3, h2⟩
theorem m_isa_i {sh : mSH} {i t n : Nat} (h1 : sh i = .inr (t, n)) (h2 : t < 5) : m_isa sh i := by
  unfold m_isa
  rw [h1]
  exact h2
theorem m_len_i {sh : mSH} {i t n : Nat} (h1 : sh i = .inr (t, n)) : m_len sh i = nI n := by
  unfold m_len
  rw [h1]
  rfl
theorem m_ty_at (cs : Nat → ClassId) {t : Nat} (h : t < 5) : ∃ ty, (m_ty cs)[t]? = some (cs t, ty) := by
  match t, h with
  | 0, _ => exact ⟨_, rfl⟩
  | 1, _ => exact ⟨_, rfl⟩
  | 2, _ => exact ⟨_, rfl⟩
  | 3, _ => exact ⟨_, rfl⟩
  | 4, _ => exact ⟨_, rfl⟩
section MW
variable {cs : Nat → ClassId} {ad : Nat → Nat} {sh : mSH} {rf : mRF} {N : Nat} {I : mPI} {J : mPJ}
theorem m_wA {i t n : Nat} (h : sh i = .inr (t, n)) (hi : i < N) : (m_wl cs ad sh rf N I J)[i]? = some (ad i, .inl (cs t, m_ar ad rf I J i t n)) := by
  rw [m_wl_at _ _ _ _ _ _ _ hi]
  unfold m_ce
  rw [h]
theorem m_w0 {i n : Nat} (h : sh i = .inr (0, n)) (hi : i < N) : (m_wl cs ad sh rf N I J)[i]? = some (ad i, .inl (cs 0, n, .inl (I i))) := m_wA h hi
theorem m_w1 {i n : Nat} (h : sh i = .inr (1, n)) (hi : i < N) : (m_wl cs ad sh rf N I J)[i]? = some (ad i, .inl (cs 1, n, .inr (.inl (J i)))) := m_wA h hi
theorem m_w2 {i n : Nat} (h : sh i = .inr (2, n)) (hi : i < N) : (m_wl cs ad sh rf N I J)[i]? = some (ad i, .inl (cs 2, n, .inl (I i))) := m_wA h hi
theorem m_w3 {i t n : Nat} (h : sh i = .inr (t, n)) (h1 : ¬ t = 1) (h2 : ¬ t < 3) (hi : i < N) : (m_wl cs ad sh rf N I J)[i]? = some (ad i, .inl (cs t, n, .inr (.inr (.inr (.inr (fun k => some (ad (rf i k)))))))) := by
  rw [m_wA h hi]
  unfold m_ar
  rw [if_neg h1, if_neg h2]
theorem m_wO {i ci : Nat} (h : sh i = .inl ci) (hi : i < N) : (m_wl cs ad sh rf N I J)[i]? = some (ad i, .inr (ci, m_fs ad rf I i (m_ft ci) 0)) := by
  rw [m_wl_at _ _ _ _ _ _ _ hi]
  unfold m_ce
  rw [h]
theorem m_uI_o (I : mPI) {i k a : Nat} (v : Int32) (h : a ≠ i) (b : Nat) : m_uI I i k v a b = I a b := by
  unfold m_uI
  rw [if_neg (fun q => h q.1)]
theorem m_uJ_o (J : mPJ) {i k a : Nat} (v : Int64) (h : a ≠ i) (b : Nat) : m_uJ J i k v a b = J a b := by
  unfold m_uJ
  rw [if_neg (fun q => h q.1)]
theorem m_uI_f (I : mPI) (i k : Nat) (v : Int32) : m_uI I i k v i = upd (I i) k v := by
  funext b
  unfold m_uI upd
  by_cases hb : b = k
  · rw [if_pos ⟨rfl, hb⟩, if_pos hb]
  · rw [if_neg (fun q => hb q.2), if_neg hb]
theorem m_uJ_f (J : mPJ) (i k : Nat) (v : Int64) : m_uJ J i k v i = vp_updL (J i) k v := by
  funext b
  unfold m_uJ vp_updL
  by_cases hb : b = k
  · rw [if_pos ⟨rfl, hb⟩, if_pos hb]
  · rw [if_neg (fun q => hb q.2), if_neg hb]
theorem m_set0 {i n k : Nat} {x : Int32} (h : sh i = .inr (0, n)) : (m_wl cs ad sh rf N I J).set i (ad i, .inl (cs 0, n, .inl (upd (I i) k x))) = m_wl cs ad sh rf N (m_uI I i k x) J := by
  refine m_wl_set ?_ (fun j hj => m_ce_I (fun b => m_uI_o I x hj b) (fun _ => rfl))
  unfold m_ce m_ar
  rw [h, m_uI_f]
  rfl
theorem m_set2 {i n k : Nat} {x : Int32} (h : sh i = .inr (2, n)) : (m_wl cs ad sh rf N I J).set i (ad i, .inl (cs 2, n, .inl (upd (I i) k x))) = m_wl cs ad sh rf N (m_uI I i k x) J := by
  refine m_wl_set ?_ (fun j hj => m_ce_I (fun b => m_uI_o I x hj b) (fun _ => rfl))
  unfold m_ce m_ar
  rw [h, m_uI_f]
  rfl
theorem m_set1 {i n k : Nat} {x : Int64} (h : sh i = .inr (1, n)) : (m_wl cs ad sh rf N I J).set i (ad i, .inl (cs 1, n, .inr (.inl (vp_updL (J i) k x)))) = m_wl cs ad sh rf N I (m_uJ J i k x) := by
  refine m_wl_set ?_ (fun j hj => m_ce_I (fun _ => rfl) (fun b => m_uJ_o J x hj b))
  unfold m_ce m_ar
  rw [h, m_uJ_f]
  rfl
theorem m_setO {i ci k kd : Nat} {x : Int32} (h : sh i = .inl ci) (hk : (m_ft ci)[k]? = some kd) (h2 : kd ≠ 2) : (m_wl cs ad sh rf N I J).set i (ad i, .inr (ci, (m_fs ad rf I i (m_ft ci) 0).set k (.int x))) = m_wl cs ad sh rf N (m_uI I i k x) J := by
  refine m_wl_set ?_ (fun j hj => m_ce_I (fun b => m_uI_o I x hj b) (fun _ => rfl))
  unfold m_ce
  rw [h, m_fs_set ad rf I i x (m_ft ci) 0 k kd hk h2, Nat.zero_add]
end MW
section MS
variable {p : Program} {l : Launch} {e : Env} {R : Room} {s : State} {m : MethodId} {args : Array Value} {below : List Frame} {meth : Method} {c : Code} {Q : State → Prop} {cc : ByteArray} {own : String}
variable {D : va_G} {cs : Nat → ClassId} {ad : Nat → Nat} {sh : mSH} {rf : mRF} {N : Nat} {nL : Nat}
theorem m_cgW {H : Heap} {locs : List Loc} {cells slots : Nat} {g g2 : JFrame} (h : g = g2) (k : W p l e R s m args below meth c H locs cells slots Q g2) : W p l e R s m args below meth c H locs cells slots Q g := h ▸ k
/-- from here the machine comes to Q, whatever heap holds the named world -/
def m_G (p : Program) (l : Launch) (e : Env) (R : Room) (s : State) (m : MethodId) (args : Array Value) (below : List Frame) (meth : Method) (c : Code) (Q : State → Prop) (D : va_G) (cs : Nat → ClassId) (ad : Nat → Nat) (sh : mSH) (rf : mRF) (N nL pc : Nat) (lv : mLV) (st : List mPV) (I : mPI) (J : mPJ) : Prop :=
  ∀ (H : Heap) (locs : List Loc) (ls : Array Slot), va_P D m_cl (m_wl cs ad sh rf N I J) H → va_S (m_A ad N) s.heap H locs → lv_has ls nL (m_el ad lv) → W p l e R s m args below meth c H locs 0 0 Q (F0 m pc ls (st.map (m_ev ad)))
theorem m_kI_ok (hts : ∀ w ∈ m_tw, w.before args s = true) {kI : List (Nat × Int32 × Nat)} (hk : kI.all (m_kck own) = true) {k : Nat} {x : Int32} (h : m_lc kI k = some x) : (Cond.constant own k x).before args s = true := by
  obtain ⟨pos, hm⟩ := m_lc_mem h
  have h1 := List.all_eq_true.mp hk _ hm
  simp only [m_kck, m_kckL, Bool.and_eq_true, decide_eq_true_eq] at h1
  exact hts _ (m_tb_w (m_tb_pos h1.1 h1.2))
theorem m_kJ_ok (hts : ∀ w ∈ m_tw, w.before args s = true) {kJ : List (Nat × Int64 × Nat)} (hk : kJ.all (m_kckL own) = true) {k : Nat} {x : Int64} (h : m_lc kJ k = some x) : (Cond.constantLong own k x).before args s = true := by
  obtain ⟨pos, hm⟩ := m_lc_mem h
  have h1 := List.all_eq_true.mp hk _ hm
  simp only [m_kck, m_kckL, Bool.and_eq_true, decide_eq_true_eq] at h1
  exact hts _ (m_tb_w (m_tb_pos h1.1 h1.2))
theorem m_fck_e {q : mFL} (h : m_fck own q = true) : ∃ r : vw_C, m_cl[q.2.1]? = some r ∧ q.2.2.1 < r.2.2 ∧ (m_ft q.2.1)[q.2.2.1]? = some q.2.2.2.1 ∧ (q.2.2.2.1 ≠ 2 → (r.2.1 q.2.2.1).2.2.2 = false) ∧ (q.2.2.2.1 = 0 → m_tyf q.2.1 q.2.2.1 = .int) ∧ (q.2.2.2.1 = 1 → m_tyf q.2.1 q.2.2.1 = .boolean) ∧
    (Cond.fieldLink own q.1 (r.2.1 q.2.2.1).1 (r.2.1 q.2.2.1).2.1 (r.2.1 q.2.2.1).2.2.1 ∈ m_tw ∨ Cond.fieldLinkNest own q.1 (r.2.1 q.2.2.1).1 (r.2.1 q.2.2.1).2.1 (r.2.1 q.2.2.1).2.2.1 "MomentDesk" ∈ m_tw) := by
  unfold m_fck at h
  split at h
  · rename_i r hr
    simp only [Bool.and_eq_true, decide_eq_true_eq, Bool.or_eq_true, Bool.not_eq_true'] at h
    obtain ⟨⟨⟨⟨h1, h2⟩, h3⟩, h4⟩, h5⟩ := h
    refine ⟨r, hr, m_blt h1, h2, fun hne => ?_, fun h0 => ?_, fun h0 => ?_, ?_⟩
    · rcases h3 with h3 | h3
      · exact absurd (Nat.eq_of_beq_eq_true h3) hne
      · exact h3
    · rw [h4, if_pos h0]
    · rw [h4, if_neg (by omega), if_pos h0]
    · split at h5
      · simp only [Bool.and_eq_true, decide_eq_true_eq] at h5
        exact Or.inl (m_tb_w (m_tb_pos h5.1 h5.2))
      · exact Or.inr (List.mem_append_left _ (of_decide_eq_true h5))
  · cases h
theorem m_getf (hx : p.tables.exec = Jvm.exec) (hb : c.code = cc) (hown : s.vm.findClass own = some m.cls) (hts : ∀ w ∈ m_tw, w.before args s = true) (hK : va_K D m_cl (m_ty cs) s) (hN : ∀ i, sh i ≠ .inr (9, 0) → i < N) {fl : List mFL} (hfl : fl.all (m_fck own) = true) {k ci f kd i pc : Nat} (hf : m_lf fl k = some (ci, f, kd)) (hd : decode cc pc = .ok (.getfield k, 3))
    {H : Heap} {locs : List Loc} {I : mPI} {J : mPJ} {ls : Array Slot} {r : List mPV} (hP : va_P D m_cl (m_wl cs ad sh rf N I J) H) (hsh : sh i = .inl ci)
    (kk : W p l e R s m args below meth c H locs 0 0 Q (F0 m (pc + 3) ls (List.map (m_ev ad) ((m_gv rf I i f kd) :: r)))) : W p l e R s m args below meth c H locs 0 0 Q (F0 m pc ls (.ref (ad i) :: List.map (m_ev ad) r)) := by
  obtain ⟨h9, pos, hm⟩ := m_lf_mem hf
  obtain ⟨q, e1, e2, e3, -, -, -, e4⟩ := m_fck_e (own := own) (List.all_eq_true.mp hfl _ hm)
  have hiN : i < N := hN i (by rw [hsh]; simp)
  have hv : (m_fs ad rf I i (m_ft ci) 0)[f]? = some (m_ev ad (m_gv rf I i f kd)) := by
    have := m_fs_get ad rf I i (m_ft ci) 0 f kd e3
    rw [this, Nat.zero_add]
    unfold m_fv m_gv
    split
    · rename_i h2; subst h2; rfl
    · rename_i h2
      split
      · exact absurd rfl h2
      · rfl
  obtain ⟨C, T, n⟩ := q
  rcases e4 with e4 | e4
  · exact va_get hx hb hts (m_in ci _ e1) hown hK hP i (m_wO hsh hiN) e1 f e2 (hts _ e4) (fun _ h => h) hv hd kk
  · exact va_getN hx hb hts (m_in ci _ e1) hown hK hP i (m_wO hsh hiN) e1 f e2 (hts _ e4) (fun _ h => h) hv hd kk
theorem m_putf (hx : p.tables.exec = Jvm.exec) (hb : c.code = cc) (hown : s.vm.findClass own = some m.cls) (hts : ∀ w ∈ m_tw, w.before args s = true) (hK : va_K D m_cl (m_ty cs) s) (hi : ∀ i j, i < N → j < N → ad i = ad j → i = j) (hN : ∀ i, sh i ≠ .inr (9, 0) → i < N) {fl : List mFL} (hfl : fl.all (m_fck own) = true) {k ci f kd i pc : Nat} (hf : m_lf fl k = some (ci, f, kd)) (hd : decode cc pc = .ok (.putfield k, 3))
    {H : Heap} {locs : List Loc} {I : mPI} {J : mPJ} {ls : Array Slot} {r : List mPV} {x : Int32} (hP : va_P D m_cl (m_wl cs ad sh rf N I J) H) (hS : va_S (m_A ad N) s.heap H locs) (hsh : sh i = .inl ci) (hkd : kd = 0 ∨ (kd = 1 ∧ (x = 0 ∨ x = 1)))
    (kk : ∀ (H1 : Heap) (locs1 : List Loc), va_P D m_cl (m_wl cs ad sh rf N (m_uI I i f x) J) H1 → va_S (m_A ad N) s.heap H1 locs1 → W p l e R s m args below meth c H1 locs1 0 0 Q (F0 m (pc + 3) ls (List.map (m_ev ad) r))) : W p l e R s m args below meth c H locs 0 0 Q (F0 m pc ls (.int x :: .ref (ad i) :: List.map (m_ev ad) r)) := by
  obtain ⟨h9, pos, hm⟩ := m_lf_mem hf
  obtain ⟨q, e1, e2, e3, e5, e6, e7, e4⟩ := m_fck_e (own := own) (List.all_eq_true.mp hfl _ hm)
  have hiN : i < N := hN i (by rw [hsh]; simp)
  have hne : kd ≠ 2 := by omega
  have hty := m_hty ci q e1 f e2
  have hlt : f < (m_fs ad rf I i (m_ft ci) 0).length := by rw [m_fs_len]; exact (List.getElem?_eq_some_iff.mp e3).1
  have hnar : narrow (m_tyf ci f) (.int x) = .int x := by
    rcases hkd with h | ⟨h, h2⟩
    · rw [show m_tyf ci f = .int from e6 h]; rfl
    · rw [show m_tyf ci f = .boolean from e7 h]; rcases h2 with rfl | rfl <;> decide +kernel
  have hfit : fits (m_tyf ci f) (.int x) = true := by
    rcases hkd with h | ⟨h, h2⟩
    · rw [show m_tyf ci f = .int from e6 h]; rfl
    · rw [show m_tyf ci f = .boolean from e7 h]; rcases h2 with rfl | rfl <;> decide +kernel
  obtain ⟨C, T, n⟩ := q
  have kk' : ∀ (H1 : Heap) (locs1 : List Loc), va_P D m_cl ((m_wl cs ad sh rf N I J).set i (ad i, .inr (ci, (m_fs ad rf I i (m_ft ci) 0).set f (.int x)))) H1 → va_D (m_A ad N) ((m_wl cs ad sh rf N I J).set i (ad i, .inr (ci, (m_fs ad rf I i (m_ft ci) 0).set f (.int x)))) → va_S (m_A ad N) s.heap H1 locs1 → W p l e R s m args below meth c H1 locs1 0 0 Q (F0 m (pc + 3) ls (List.map (m_ev ad) r)) := by
    intro H1 locs1 hP1 _ hS1
    rw [m_setO hsh e3 hne] at hP1
    exact kk H1 locs1 hP1 hS1
  rcases e4 with e4 | e4
  · exact va_put hx hb hts (m_in ci _ e1) (m_tyf ci) (m_hty ci _ e1) (m_hnm ci _ e1) hown hK hP (m_wl_D hi cs sh rf I J) hS i (m_wO hsh hiN) e1 f e2 (hts _ e4) (fun _ h => h) (e5 hne) hty hnar hfit hlt hd kk'
  · exact va_putN hx hb hts (m_in ci _ e1) (m_tyf ci) (m_hty ci _ e1) (m_hnm ci _ e1) hown hK hP (m_wl_D hi cs sh rf I J) hS i (m_wO hsh hiN) e1 f e2 (hts _ e4) (fun _ h => h) (e5 hne) hty hnar hfit hlt hd kk'
/-- a call of what stands at index k: from pt's words it goes on -/
def m_CG (p : Program) (l : Launch) (e : Env) (R : Room) (s : State) (m : MethodId) (args : Array Value) (below : List Frame) (meth : Method) (c : Code) (Q : State → Prop) (D : va_G) (cs : Nat → ClassId) (ad : Nat → Nat) (sh : mSH) (rf : mRF) (N nL : Nat) (cc : ByteArray) (k n : Nat) (vf : Bool) (pt : mPT) : Prop :=
  ∀ (pc : Nat), decode cc pc = .ok ((match vf with | true => Instr.invokevirtual k | false => Instr.invokestatic k), 3) → ∀ (As rest : List mPV) (lv : mLV) (I : mPI) (J : mPJ) (K : mKT), As.length = n → (rest.map m_cat).sum ≤ 8 → pt As I J K →
    (∀ r I1 J1, K r I1 J1 → m_G p l e R s m args below meth c Q D cs ad sh rf N nL (pc + 3) lv (m_ol r ++ rest) I1 J1) → m_G p l e R s m args below meth c Q D cs ad sh rf N nL pc lv (As.reverse ++ rest) I J
/-- the ends of a method -/
def m_E (p : Program) (l : Launch) (e : Env) (R : Room) (s : State) (m : MethodId) (args : Array Value) (below : List Frame) (meth : Method) (c : Code) (Q : State → Prop) (D : va_G) (cs : Nat → ClassId) (ad : Nat → Nat) (sh : mSH) (rf : mRF) (N nL : Nat) (cc : ByteArray) (rk : Nat) (QP : mKT) : Prop :=
  ∀ (pc : Nat) (lv : mLV) (I : mPI) (J : mPJ),
    (∀ x : Int32, decode cc pc = .ok (.ireturn, 1) → (rk = 1 ∨ (rk = 3 ∧ (x = 0 ∨ x = 1))) → QP (some (.inl x)) I J → m_G p l e R s m args below meth c Q D cs ad sh rf N nL pc lv [.inl x] I J) ∧
    (∀ x : Int64, decode cc pc = .ok (.lreturn, 1) → rk = 2 → QP (some (.inr (.inl x))) I J → m_G p l e R s m args below meth c Q D cs ad sh rf N nL pc lv [.inr (.inl x)] I J) ∧
    (∀ x : Nat, decode cc pc = .ok (.areturn, 1) → rk = 4 → QP (some (.inr (.inr x))) I J → m_G p l e R s m args below meth c Q D cs ad sh rf N nL pc lv [.inr (.inr x)] I J) ∧
    (decode cc pc = .ok (.return_, 1) → rk = 0 → QP none I J → m_G p l e R s m args below meth c Q D cs ad sh rf N nL pc lv [] I J)
set_option maxHeartbeats 4000000 in
set_option maxRecDepth 100000 in
theorem m_sp_ok (hx : p.tables.exec = Jvm.exec) (hb : c.code = cc) (hown : s.vm.findClass own = some m.cls) (hts : ∀ w ∈ m_tw, w.before args s = true) (hK : va_K D m_cl (m_ty cs) s) (hi : ∀ i j, i < N → j < N → ad i = ad j → i = j) (hN : ∀ i, sh i ≠ .inr (9, 0) → i < N)
    {fl : List mFL} (hfl : fl.all (m_fck own) = true) {kI : List (Nat × Int32 × Nat)} (hkI : kI.all (m_kck own) = true) {kJ : List (Nat × Int64 × Nat)} (hkJ : kJ.all (m_kckL own) = true) {ct : Nat → Option (Nat × Bool × mPT)} (hct : ∀ k n vf pt, ct k = some (n, vf, pt) → m_CG p l e R s m args below meth c Q D cs ad sh rf N nL cc k n vf pt)
    {rk : Nat} {QP : mKT} (hE : m_E p l e R s m args below meth c Q D cs ad sh rf N nL cc rk QP) {pc len : Nat} {ins : Instr} {ts : List Nat} {v : Int32} (hq : m_ick cc (pc, ins, len, ts, v) = true)
    {ft : mLV → List mPV → mPI → mPJ → Prop} {jp : Nat → mLV → List mPV → mPI → mPJ → Prop} (hft : ∀ lv st I J, ft lv st I J → m_G p l e R s m args below meth c Q D cs ad sh rf N nL (pc + len) lv st I J) (hjp : ∀ t lv st I J, jp t lv st I J → m_G p l e R s m args below meth c Q D cs ad sh rf N nL t lv st I J)
    {lv : mLV} {st : List mPV} {I : mPI} {J : mPJ} (h : m_sp nL fl kI kJ ct sh rf rk QP ft jp ins ts v lv st I J) : m_G p l e R s m args below meth c Q D cs ad sh rf N nL pc lv st I J := by
  unfold m_ick at hq
  simp only [Bool.and_eq_true, decide_eq_true_eq, Bool.or_eq_true] at hq
  obtain ⟨⟨⟨hd, hlen⟩, hj⟩, hv⟩ := hq
  unfold m_sp at h
  split at h
  · rename_i k
    have hlen := Nat.eq_of_beq_eq_true (hlen.resolve_right (by simp [m_isw]))
    simp only [m_ilen] at hlen
    subst hlen
    split at h
    · rename_i x hx9
      intro H locs ls hP hS hl
      exact lv_iload_n hx hb hd rfl (m_at hl hx9) (hft _ _ _ _ h H locs ls hP hS hl)
    · exact h.elim
  · rename_i k
    have hlen := Nat.eq_of_beq_eq_true (hlen.resolve_right (by simp [m_isw]))
    simp only [m_ilen] at hlen
    subst hlen
    split at h
    · rename_i x hx9
      intro H locs ls hP hS hl
      exact lv_iload hx hb hd (m_at hl hx9) (hft _ _ _ _ h H locs ls hP hS hl)
    · exact h.elim
  · rename_i k
    have hlen := Nat.eq_of_beq_eq_true (hlen.resolve_right (by simp [m_isw]))
    simp only [m_ilen] at hlen
    subst hlen
    split at h
    · rename_i x hx9
      intro H locs ls hP hS hl
      exact lv_lload_n hx hb hd rfl (m_at hl hx9) (hft _ _ _ _ h H locs ls hP hS hl)
    · exact h.elim
  · rename_i k
    have hlen := Nat.eq_of_beq_eq_true (hlen.resolve_right (by simp [m_isw]))
    simp only [m_ilen] at hlen
    subst hlen
    split at h
    · rename_i x hx9
      intro H locs ls hP hS hl
      exact lv_lload hx hb hd (m_at hl hx9) (hft _ _ _ _ h H locs ls hP hS hl)
    · exact h.elim
  · rename_i k
    have hlen := Nat.eq_of_beq_eq_true (hlen.resolve_right (by simp [m_isw]))
    simp only [m_ilen] at hlen
    subst hlen
    split at h
    · rename_i x hx9
      intro H locs ls hP hS hl
      exact lv_aload_n hx hb hd rfl (m_at hl hx9) (hft _ _ _ _ h H locs ls hP hS hl)
    · exact h.elim
  · rename_i k
    have hlen := Nat.eq_of_beq_eq_true (hlen.resolve_right (by simp [m_isw]))
    simp only [m_ilen] at hlen
    subst hlen
    split at h
    · rename_i x hx9
      intro H locs ls hP hS hl
      exact lv_aload hx hb hd (m_at hl hx9) (hft _ _ _ _ h H locs ls hP hS hl)
    · exact h.elim
  · rename_i k
    have hlen := Nat.eq_of_beq_eq_true (hlen.resolve_right (by simp [m_isw]))
    simp only [m_ilen] at hlen
    subst hlen
    split at h
    · rename_i x r
      split at h
      · rename_i hb9
        intro H locs ls hP hS hl
        exact lv_istore_n hx hb hd rfl hl (m_blt hb9) (m_el_s1 (v := .inl x)) (fun ls' hl' => hft _ _ _ _ h H locs ls' hP hS hl')
      · exact h.elim
    · exact h.elim
  · rename_i k
    have hlen := Nat.eq_of_beq_eq_true (hlen.resolve_right (by simp [m_isw]))
    simp only [m_ilen] at hlen
    subst hlen
    split at h
    · rename_i x r
      split at h
      · rename_i hb9
        intro H locs ls hP hS hl
        exact lv_istore hx hb hd hl (m_blt hb9) (m_el_s1 (v := .inl x)) (fun ls' hl' => hft _ _ _ _ h H locs ls' hP hS hl')
      · exact h.elim
    · exact h.elim
  · rename_i k
    have hlen := Nat.eq_of_beq_eq_true (hlen.resolve_right (by simp [m_isw]))
    simp only [m_ilen] at hlen
    subst hlen
    split at h
    · rename_i x r
      split at h
      · rename_i hb9
        intro H locs ls hP hS hl
        exact lv_lstore_n hx hb hd rfl hl (m_blt hb9) (m_el_s2 (v := .inr (.inl x))) (fun ls' hl' => hft _ _ _ _ h H locs ls' hP hS hl')
      · exact h.elim
    · exact h.elim
  · rename_i k
    have hlen := Nat.eq_of_beq_eq_true (hlen.resolve_right (by simp [m_isw]))
    simp only [m_ilen] at hlen
    subst hlen
    split at h
    · rename_i x r
      split at h
      · rename_i hb9
        intro H locs ls hP hS hl
        exact lv_lstore hx hb hd hl (m_blt hb9) (m_el_s2 (v := .inr (.inl x))) (fun ls' hl' => hft _ _ _ _ h H locs ls' hP hS hl')
      · exact h.elim
    · exact h.elim
  · rename_i k
    have hlen := Nat.eq_of_beq_eq_true (hlen.resolve_right (by simp [m_isw]))
    simp only [m_ilen] at hlen
    subst hlen
    split at h
    · rename_i x r
      split at h
      · rename_i hb9
        intro H locs ls hP hS hl
        exact lv_astore_n hx hb hd rfl hl (m_blt hb9) (m_el_s1 (v := .inr (.inr x))) (fun ls' hl' => hft _ _ _ _ h H locs ls' hP hS hl')
      · exact h.elim
    · exact h.elim
  · rename_i k
    have hlen := Nat.eq_of_beq_eq_true (hlen.resolve_right (by simp [m_isw]))
    simp only [m_ilen] at hlen
    subst hlen
    split at h
    · rename_i x r
      split at h
      · rename_i hb9
        intro H locs ls hP hS hl
        exact lv_astore hx hb hd hl (m_blt hb9) (m_el_s1 (v := .inr (.inr x))) (fun ls' hl' => hft _ _ _ _ h H locs ls' hP hS hl')
      · exact h.elim
    · exact h.elim
  · rename_i z9
    have hlen := Nat.eq_of_beq_eq_true (hlen.resolve_right (by simp [m_isw]))
    simp only [m_ilen] at hlen
    subst hlen
    simp only [m_vck] at hv
    intro H locs ls hP hS hl
    exact lv_iconst hx hb hd (of_decide_eq_true hv) (hft _ _ _ _ h H locs ls hP hS hl)
  · rename_i z9
    have hlen := Nat.eq_of_beq_eq_true (hlen.resolve_right (by simp [m_isw]))
    simp only [m_ilen] at hlen
    subst hlen
    simp only [m_vck] at hv
    intro H locs ls hP hS hl
    exact lv_bipush hx hb hd (of_decide_eq_true hv) (hft _ _ _ _ h H locs ls hP hS hl)
  · rename_i z9
    have hlen := Nat.eq_of_beq_eq_true (hlen.resolve_right (by simp [m_isw]))
    simp only [m_ilen] at hlen
    subst hlen
    simp only [m_vck] at hv
    intro H locs ls hP hS hl
    exact lv_sipush hx hb hd (of_decide_eq_true hv) (hft _ _ _ _ h H locs ls hP hS hl)
  · rename_i n
    have hlen := Nat.eq_of_beq_eq_true (hlen.resolve_right (by simp [m_isw]))
    simp only [m_ilen] at hlen
    subst hlen
    intro H locs ls hP hS hl
    refine lv_lconst hx hb hd ?_ (hft _ _ _ _ h H locs ls hP hS hl)
    match n with
    | 0 => rfl
    | 1 => rfl
  · rename_i k
    have hlen := Nat.eq_of_beq_eq_true (hlen.resolve_right (by simp [m_isw]))
    simp only [m_ilen] at hlen
    subst hlen
    split at h
    · rename_i x hx9
      intro H locs ls hP hS hl
      exact lv_ldc hx hb hown (m_kI_ok hts hkI hx9) hd (hft _ _ _ _ h H locs ls hP hS hl)
    · exact h.elim
  · rename_i k
    have hlen := Nat.eq_of_beq_eq_true (hlen.resolve_right (by simp [m_isw]))
    simp only [m_ilen] at hlen
    subst hlen
    split at h
    · rename_i x hx9
      intro H locs ls hP hS hl
      exact lv_ldcw hx hb hown (m_kI_ok hts hkI hx9) hd (hft _ _ _ _ h H locs ls hP hS hl)
    · exact h.elim
  · rename_i k
    have hlen := Nat.eq_of_beq_eq_true (hlen.resolve_right (by simp [m_isw]))
    simp only [m_ilen] at hlen
    subst hlen
    split at h
    · rename_i x hx9
      intro H locs ls hP hS hl
      exact lv_ldc2 hx hb hown (m_kJ_ok hts hkJ hx9) hd (hft _ _ _ _ h H locs ls hP hS hl)
    · exact h.elim
  · rename_i k z9
    have hlen := Nat.eq_of_beq_eq_true (hlen.resolve_right (by simp [m_isw]))
    simp only [m_ilen] at hlen
    subst hlen
    simp only [m_vck] at hv
    split at h
    · rename_i x hx9
      split at h
      · rename_i hb9
        intro H locs ls hP hS hl
        obtain ⟨j, hj⟩ := m_lk_get hx9
        exact lv_iinc hx hb hd hl (m_el_get hj) (by rw [of_decide_eq_true hv]) (m_blt hb9) (m_el_s1 (v := .inl (x + v))) (fun ls' hl' => hft _ _ _ _ h H locs ls' hP hS hl')
      · exact h.elim
    · exact h.elim
  · have hlen := Nat.eq_of_beq_eq_true (hlen.resolve_right (by simp [m_isw]))
    simp only [m_ilen] at hlen
    subst hlen
    split at h
    · rename_i y x r
      intro H locs ls hP hS hl
      exact lv_iadd hx hb hd (hft _ _ _ _ h H locs ls hP hS hl)
    · exact h.elim
  · have hlen := Nat.eq_of_beq_eq_true (hlen.resolve_right (by simp [m_isw]))
    simp only [m_ilen] at hlen
    subst hlen
    split at h
    · rename_i y x r
      intro H locs ls hP hS hl
      exact lv_isub hx hb hd (hft _ _ _ _ h H locs ls hP hS hl)
    · exact h.elim
  · have hlen := Nat.eq_of_beq_eq_true (hlen.resolve_right (by simp [m_isw]))
    simp only [m_ilen] at hlen
    subst hlen
    split at h
    · rename_i y x r
      intro H locs ls hP hS hl
      exact lv_imul hx hb hd (hft _ _ _ _ h H locs ls hP hS hl)
    · exact h.elim
  · have hlen := Nat.eq_of_beq_eq_true (hlen.resolve_right (by simp [m_isw]))
    simp only [m_ilen] at hlen
    subst hlen
    split at h
    · rename_i y x r
      intro H locs ls hP hS hl
      exact lv_iand hx hb hd (hft _ _ _ _ h H locs ls hP hS hl)
    · exact h.elim
  · have hlen := Nat.eq_of_beq_eq_true (hlen.resolve_right (by simp [m_isw]))
    simp only [m_ilen] at hlen
    subst hlen
    split at h
    · rename_i y x r
      intro H locs ls hP hS hl
      exact lv_ior hx hb hd (hft _ _ _ _ h H locs ls hP hS hl)
    · exact h.elim
  · have hlen := Nat.eq_of_beq_eq_true (hlen.resolve_right (by simp [m_isw]))
    simp only [m_ilen] at hlen
    subst hlen
    split at h
    · rename_i y x r
      intro H locs ls hP hS hl
      exact lv_ixor hx hb hd (hft _ _ _ _ h H locs ls hP hS hl)
    · exact h.elim
  · have hlen := Nat.eq_of_beq_eq_true (hlen.resolve_right (by simp [m_isw]))
    simp only [m_ilen] at hlen
    subst hlen
    split at h
    · rename_i y x r
      intro H locs ls hP hS hl
      exact lv_ishl hx hb hd (hft _ _ _ _ h H locs ls hP hS hl)
    · exact h.elim
  · have hlen := Nat.eq_of_beq_eq_true (hlen.resolve_right (by simp [m_isw]))
    simp only [m_ilen] at hlen
    subst hlen
    split at h
    · rename_i y x r
      intro H locs ls hP hS hl
      exact lv_ishr hx hb hd (hft _ _ _ _ h H locs ls hP hS hl)
    · exact h.elim
  · have hlen := Nat.eq_of_beq_eq_true (hlen.resolve_right (by simp [m_isw]))
    simp only [m_ilen] at hlen
    subst hlen
    split at h
    · rename_i y x r
      intro H locs ls hP hS hl
      exact lv_iushr hx hb hd rfl (hft _ _ _ _ h H locs ls hP hS hl)
    · exact h.elim
  · have hlen := Nat.eq_of_beq_eq_true (hlen.resolve_right (by simp [m_isw]))
    simp only [m_ilen] at hlen
    subst hlen
    split at h
    · rename_i y x r
      intro H locs ls hP hS hl
      exact lv_ladd hx hb hd (hft _ _ _ _ h H locs ls hP hS hl)
    · exact h.elim
  · have hlen := Nat.eq_of_beq_eq_true (hlen.resolve_right (by simp [m_isw]))
    simp only [m_ilen] at hlen
    subst hlen
    split at h
    · rename_i y x r
      intro H locs ls hP hS hl
      exact lv_lsub hx hb hd (hft _ _ _ _ h H locs ls hP hS hl)
    · exact h.elim
  · have hlen := Nat.eq_of_beq_eq_true (hlen.resolve_right (by simp [m_isw]))
    simp only [m_ilen] at hlen
    subst hlen
    split at h
    · rename_i y x r
      intro H locs ls hP hS hl
      exact lv_lmul hx hb hd (hft _ _ _ _ h H locs ls hP hS hl)
    · exact h.elim
  · have hlen := Nat.eq_of_beq_eq_true (hlen.resolve_right (by simp [m_isw]))
    simp only [m_ilen] at hlen
    subst hlen
    split at h
    · rename_i y x r
      intro H locs ls hP hS hl
      exact lv_land hx hb hd (hft _ _ _ _ h H locs ls hP hS hl)
    · exact h.elim
  · have hlen := Nat.eq_of_beq_eq_true (hlen.resolve_right (by simp [m_isw]))
    simp only [m_ilen] at hlen
    subst hlen
    split at h
    · rename_i y x r
      intro H locs ls hP hS hl
      exact lv_lor hx hb hd (hft _ _ _ _ h H locs ls hP hS hl)
    · exact h.elim
  · have hlen := Nat.eq_of_beq_eq_true (hlen.resolve_right (by simp [m_isw]))
    simp only [m_ilen] at hlen
    subst hlen
    split at h
    · rename_i y x r
      intro H locs ls hP hS hl
      exact lv_lshl hx hb hd rfl (hft _ _ _ _ h H locs ls hP hS hl)
    · exact h.elim
  · have hlen := Nat.eq_of_beq_eq_true (hlen.resolve_right (by simp [m_isw]))
    simp only [m_ilen] at hlen
    subst hlen
    split at h
    · rename_i y x r
      intro H locs ls hP hS hl
      exact lv_lshr hx hb hd rfl (hft _ _ _ _ h H locs ls hP hS hl)
    · exact h.elim
  · have hlen := Nat.eq_of_beq_eq_true (hlen.resolve_right (by simp [m_isw]))
    simp only [m_ilen] at hlen
    subst hlen
    split at h
    · rename_i y x r
      intro H locs ls hP hS hl
      exact lv_lushr hx hb hd rfl (hft _ _ _ _ h H locs ls hP hS hl)
    · exact h.elim
  · have hlen := Nat.eq_of_beq_eq_true (hlen.resolve_right (by simp [m_isw]))
    simp only [m_ilen] at hlen
    subst hlen
    split at h
    · rename_i y x r
      intro H locs ls hP hS hl
      exact lv_idiv hx hb hd h.1 (hft _ _ _ _ h.2 H locs ls hP hS hl)
    · exact h.elim
  · have hlen := Nat.eq_of_beq_eq_true (hlen.resolve_right (by simp [m_isw]))
    simp only [m_ilen] at hlen
    subst hlen
    split at h
    · rename_i y x r
      intro H locs ls hP hS hl
      exact lv_irem hx hb hd h.1 (hft _ _ _ _ h.2 H locs ls hP hS hl)
    · exact h.elim
  · have hlen := Nat.eq_of_beq_eq_true (hlen.resolve_right (by simp [m_isw]))
    simp only [m_ilen] at hlen
    subst hlen
    split at h
    · rename_i y x r
      intro H locs ls hP hS hl
      exact lv_ldiv hx hb hd h.1 (hft _ _ _ _ h.2 H locs ls hP hS hl)
    · exact h.elim
  · have hlen := Nat.eq_of_beq_eq_true (hlen.resolve_right (by simp [m_isw]))
    simp only [m_ilen] at hlen
    subst hlen
    split at h
    · rename_i y x r
      intro H locs ls hP hS hl
      exact lv_lrem hx hb hd h.1 (hft _ _ _ _ h.2 H locs ls hP hS hl)
    · exact h.elim
  · have hlen := Nat.eq_of_beq_eq_true (hlen.resolve_right (by simp [m_isw]))
    simp only [m_ilen] at hlen
    subst hlen
    split at h
    · rename_i x r
      intro H locs ls hP hS hl
      exact lv_i2l hx hb hd rfl (hft _ _ _ _ h H locs ls hP hS hl)
    · exact h.elim
  · have hlen := Nat.eq_of_beq_eq_true (hlen.resolve_right (by simp [m_isw]))
    simp only [m_ilen] at hlen
    subst hlen
    split at h
    · rename_i x r
      intro H locs ls hP hS hl
      exact lv_l2i hx hb hd rfl (hft _ _ _ _ h H locs ls hP hS hl)
    · exact h.elim
  · have hlen := Nat.eq_of_beq_eq_true (hlen.resolve_right (by simp [m_isw]))
    simp only [m_ilen] at hlen
    subst hlen
    split at h
    · rename_i y x r
      intro H locs ls hP hS hl
      exact W.lcmp hx hb hd (hft _ _ _ _ h H locs ls hP hS hl)
    · exact h.elim
  · have hlen := Nat.eq_of_beq_eq_true (hlen.resolve_right (by simp [m_isw]))
    simp only [m_ilen] at hlen
    subst hlen
    split at h
    · rename_i x r
      intro H locs ls hP hS hl
      exact lv_ineg hx hb hd (hft _ _ _ _ h H locs ls hP hS hl)
    · exact h.elim
  · have hlen := Nat.eq_of_beq_eq_true (hlen.resolve_right (by simp [m_isw]))
    simp only [m_ilen] at hlen
    subst hlen
    split at h
    · rename_i x r
      intro H locs ls hP hS hl
      exact lv_lneg hx hb hd (hft _ _ _ _ h H locs ls hP hS hl)
    · exact h.elim
  · have hlen := Nat.eq_of_beq_eq_true (hlen.resolve_right (by simp [m_isw]))
    simp only [m_ilen] at hlen
    subst hlen
    split at h
    · rename_i x r
      intro H locs ls hP hS hl
      exact lv_dup hx hb hd rfl (hft _ _ _ _ h H locs ls hP hS hl)
    · rename_i x r
      intro H locs ls hP hS hl
      exact lv_dup hx hb hd rfl (hft _ _ _ _ h H locs ls hP hS hl)
    · exact h.elim
  · have hlen := Nat.eq_of_beq_eq_true (hlen.resolve_right (by simp [m_isw]))
    simp only [m_ilen] at hlen
    subst hlen
    split at h
    · rename_i y x r
      intro H locs ls hP hS hl
      exact lv_dup2_11 hx hb hd rfl rfl (hft _ _ _ _ h H locs ls hP hS hl)
    · exact h.elim
  · rename_i z9
    have hlen := Nat.eq_of_beq_eq_true (hlen.resolve_right (by simp [m_isw]))
    simp only [m_ilen] at hlen
    subst hlen
    simp only [m_jck] at hj
    split at h
    · rename_i t
      intro H locs ls hP hS hl
      exact lv_goto hx hb hd (of_decide_eq_true hj) (hjp _ _ _ _ _ h H locs ls hP hS hl)
    · exact h.elim
  · rename_i z9
    have hlen := Nat.eq_of_beq_eq_true (hlen.resolve_right (by simp [m_isw]))
    simp only [m_ilen] at hlen
    subst hlen
    simp only [m_jck] at hj
    split at h
    · rename_i t x r
      intro H locs ls hP hS hl
      exact lv_if_eq hx hb hd (of_decide_eq_true hj) (fun c9 => hjp _ _ _ _ _ (h.1 c9) H locs ls hP hS hl) (fun c9 => hft _ _ _ _ (h.2 c9) H locs ls hP hS hl)
    · exact h.elim
  · rename_i z9
    have hlen := Nat.eq_of_beq_eq_true (hlen.resolve_right (by simp [m_isw]))
    simp only [m_ilen] at hlen
    subst hlen
    simp only [m_jck] at hj
    split at h
    · rename_i t x r
      intro H locs ls hP hS hl
      exact lv_if_ne hx hb hd (of_decide_eq_true hj) (fun c9 => hjp _ _ _ _ _ (h.1 c9) H locs ls hP hS hl) (fun c9 => hft _ _ _ _ (h.2 c9) H locs ls hP hS hl)
    · exact h.elim
  · rename_i z9
    have hlen := Nat.eq_of_beq_eq_true (hlen.resolve_right (by simp [m_isw]))
    simp only [m_ilen] at hlen
    subst hlen
    simp only [m_jck] at hj
    split at h
    · rename_i t x r
      intro H locs ls hP hS hl
      exact lv_if_lt hx hb hd (of_decide_eq_true hj) (fun c9 => hjp _ _ _ _ _ (h.1 c9) H locs ls hP hS hl) (fun c9 => hft _ _ _ _ (h.2 c9) H locs ls hP hS hl)
    · exact h.elim
  · rename_i z9
    have hlen := Nat.eq_of_beq_eq_true (hlen.resolve_right (by simp [m_isw]))
    simp only [m_ilen] at hlen
    subst hlen
    simp only [m_jck] at hj
    split at h
    · rename_i t x r
      intro H locs ls hP hS hl
      exact lv_if_ge hx hb hd (of_decide_eq_true hj) (fun c9 => hjp _ _ _ _ _ (h.1 c9) H locs ls hP hS hl) (fun c9 => hft _ _ _ _ (h.2 c9) H locs ls hP hS hl)
    · exact h.elim
  · rename_i z9
    have hlen := Nat.eq_of_beq_eq_true (hlen.resolve_right (by simp [m_isw]))
    simp only [m_ilen] at hlen
    subst hlen
    simp only [m_jck] at hj
    split at h
    · rename_i t x r
      intro H locs ls hP hS hl
      exact lv_if_gt hx hb hd (of_decide_eq_true hj) (fun c9 => hjp _ _ _ _ _ (h.1 c9) H locs ls hP hS hl) (fun c9 => hft _ _ _ _ (h.2 c9) H locs ls hP hS hl)
    · exact h.elim
  · rename_i z9
    have hlen := Nat.eq_of_beq_eq_true (hlen.resolve_right (by simp [m_isw]))
    simp only [m_ilen] at hlen
    subst hlen
    simp only [m_jck] at hj
    split at h
    · rename_i t x r
      intro H locs ls hP hS hl
      exact lv_if_le hx hb hd (of_decide_eq_true hj) (fun c9 => hjp _ _ _ _ _ (h.1 c9) H locs ls hP hS hl) (fun c9 => hft _ _ _ _ (h.2 c9) H locs ls hP hS hl)
    · exact h.elim
  · rename_i z9
    have hlen := Nat.eq_of_beq_eq_true (hlen.resolve_right (by simp [m_isw]))
    simp only [m_ilen] at hlen
    subst hlen
    simp only [m_jck] at hj
    split at h
    · rename_i t y x r
      intro H locs ls hP hS hl
      exact lv_icmp_eq hx hb hd (of_decide_eq_true hj) (fun c9 => hjp _ _ _ _ _ (h.1 c9) H locs ls hP hS hl) (fun c9 => hft _ _ _ _ (h.2 c9) H locs ls hP hS hl)
    · exact h.elim
  · rename_i z9
    have hlen := Nat.eq_of_beq_eq_true (hlen.resolve_right (by simp [m_isw]))
    simp only [m_ilen] at hlen
    subst hlen
    simp only [m_jck] at hj
    split at h
    · rename_i t y x r
      intro H locs ls hP hS hl
      exact lv_icmp_ne hx hb hd (of_decide_eq_true hj) (fun c9 => hjp _ _ _ _ _ (h.1 c9) H locs ls hP hS hl) (fun c9 => hft _ _ _ _ (h.2 c9) H locs ls hP hS hl)
    · exact h.elim
  · rename_i z9
    have hlen := Nat.eq_of_beq_eq_true (hlen.resolve_right (by simp [m_isw]))
    simp only [m_ilen] at hlen
    subst hlen
    simp only [m_jck] at hj
    split at h
    · rename_i t y x r
      intro H locs ls hP hS hl
      exact lv_icmp_lt hx hb hd (of_decide_eq_true hj) (fun c9 => hjp _ _ _ _ _ (h.1 c9) H locs ls hP hS hl) (fun c9 => hft _ _ _ _ (h.2 c9) H locs ls hP hS hl)
    · exact h.elim
  · rename_i z9
    have hlen := Nat.eq_of_beq_eq_true (hlen.resolve_right (by simp [m_isw]))
    simp only [m_ilen] at hlen
    subst hlen
    simp only [m_jck] at hj
    split at h
    · rename_i t y x r
      intro H locs ls hP hS hl
      exact lv_icmp_ge hx hb hd (of_decide_eq_true hj) (fun c9 => hjp _ _ _ _ _ (h.1 c9) H locs ls hP hS hl) (fun c9 => hft _ _ _ _ (h.2 c9) H locs ls hP hS hl)
    · exact h.elim
  · rename_i z9
    have hlen := Nat.eq_of_beq_eq_true (hlen.resolve_right (by simp [m_isw]))
    simp only [m_ilen] at hlen
    subst hlen
    simp only [m_jck] at hj
    split at h
    · rename_i t y x r
      intro H locs ls hP hS hl
      exact lv_icmp_gt hx hb hd (of_decide_eq_true hj) (fun c9 => hjp _ _ _ _ _ (h.1 c9) H locs ls hP hS hl) (fun c9 => hft _ _ _ _ (h.2 c9) H locs ls hP hS hl)
    · exact h.elim
  · rename_i z9
    have hlen := Nat.eq_of_beq_eq_true (hlen.resolve_right (by simp [m_isw]))
    simp only [m_ilen] at hlen
    subst hlen
    simp only [m_jck] at hj
    split at h
    · rename_i t y x r
      intro H locs ls hP hS hl
      exact lv_icmp_le hx hb hd (of_decide_eq_true hj) (fun c9 => hjp _ _ _ _ _ (h.1 c9) H locs ls hP hS hl) (fun c9 => hft _ _ _ _ (h.2 c9) H locs ls hP hS hl)
    · exact h.elim
  · rename_i dflt lo hi offs
    simp only [m_jck] at hj
    split at h
    · rename_i t l x r
      simp only [Bool.and_eq_true, decide_eq_true_eq] at hj
      obtain ⟨⟨⟨⟨j1, j2⟩, j3⟩, j4⟩, j5⟩ := hj
      intro H locs ls hP hS hl
      subst j3
      by_cases hr : 0 ≤ x.toInt ∧ x.toInt ≤ hi
      · have hk : x.toInt.toNat < offs.size := by omega
        have h5 := List.all_eq_true.mp j5 x.toInt.toNat (List.mem_range.mpr hk)
        have h5 := of_decide_eq_true h5
        have hxe : x = Int32.ofNat x.toInt.toNat := by
          apply Int32.toInt_inj.mp
          rw [Int32.toInt_ofNat_of_lt (by have := x.toInt_lt; omega)]
          omega
        refine lv_tableIn (off := offs.getD x.toInt.toNat 0) (tgt := l.getD x.toInt.toNat 0) hx hb hd (by omega) (by omega) ?_ h5 (hjp _ _ _ _ _ (h.1 x.toInt.toNat (by rw [j2]; exact hk) hxe) H locs ls hP hS hl)
        rw [show (x.toInt - 0).toNat = x.toInt.toNat by omega, Array.getElem?_eq_getElem hk, Array.getD_eq_getD_getElem?, Array.getElem?_eq_getElem hk]
        rfl
      · refine lv_tableOut hx hb hd (by omega) j1 (hjp _ _ _ _ _ (h.2 ?_) H locs ls hP hS hl)
        rcases Int.lt_or_le x.toInt 0 with h0 | h0
        · exact Or.inl (by rw [Int32.lt_iff_toInt_lt]; simpa using h0)
        · refine Or.inr ?_
          rw [Int32.le_iff_toInt_le, Int32.toInt_ofNat_of_lt (by have := x.toInt_lt; omega)]
          omega
    · exact h.elim
  · rename_i k
    have hlen := Nat.eq_of_beq_eq_true (hlen.resolve_right (by simp [m_isw]))
    simp only [m_ilen] at hlen
    subst hlen
    split at h
    · rename_i ci f kd i r hx9
      intro H locs ls hP hS hl
      exact m_getf hx hb hown hts hK hN hfl hx9 hd hP h.1 (hft _ _ _ _ h.2 H locs ls hP hS hl)
    · exact h.elim
  · rename_i k
    have hlen := Nat.eq_of_beq_eq_true (hlen.resolve_right (by simp [m_isw]))
    simp only [m_ilen] at hlen
    subst hlen
    split at h
    · rename_i ci f x i r hx9
      intro H locs ls hP hS hl
      exact m_putf hx hb hown hts hK hi hN hfl hx9 hd hP hS h.1 (Or.inl rfl) (fun H1 locs1 hP1 hS1 => hft _ _ _ _ h.2 H1 locs1 ls hP1 hS1 hl)
    · rename_i ci f x i r hx9
      intro H locs ls hP hS hl
      exact m_putf hx hb hown hts hK hi hN hfl hx9 hd hP hS h.1 (Or.inr ⟨rfl, h.2.1⟩) (fun H1 locs1 hP1 hS1 => hft _ _ _ _ h.2.2 H1 locs1 ls hP1 hS1 hl)
    · exact h.elim
  · have hlen := Nat.eq_of_beq_eq_true (hlen.resolve_right (by simp [m_isw]))
    simp only [m_ilen] at hlen
    subst hlen
    split at h
    · rename_i j i r
      intro H locs ls hP hS hl
      obtain ⟨n, e1, e2⟩ := m_inb_e h.1
      have hiN : i < N := hN i (by rw [e1]; simp)
      exact va_iald hx hb hK hP i 0 (m_w0 e1 hiN) rfl e2 hd (hft _ _ _ _ h.2 H locs ls hP hS hl)
    · exact h.elim
  · have hlen := Nat.eq_of_beq_eq_true (hlen.resolve_right (by simp [m_isw]))
    simp only [m_ilen] at hlen
    subst hlen
    split at h
    · rename_i j i r
      intro H locs ls hP hS hl
      obtain ⟨n, e1, e2⟩ := m_inb_e h.1
      have hiN : i < N := hN i (by rw [e1]; simp)
      exact va_lald hx hb hK hP i 1 (m_w1 e1 hiN) rfl e2 hd (hft _ _ _ _ h.2 H locs ls hP hS hl)
    · exact h.elim
  · have hlen := Nat.eq_of_beq_eq_true (hlen.resolve_right (by simp [m_isw]))
    simp only [m_ilen] at hlen
    subst hlen
    split at h
    · rename_i j i r
      intro H locs ls hP hS hl
      obtain ⟨n, e1, e2⟩ := m_inb_e h.1
      have hiN : i < N := hN i (by rw [e1]; simp)
      exact va_zald hx hb hK hP i 2 (m_w2 e1 hiN) rfl e2 hd (hft _ _ _ _ h.2 H locs ls hP hS hl)
    · exact h.elim
  · have hlen := Nat.eq_of_beq_eq_true (hlen.resolve_right (by simp [m_isw]))
    simp only [m_ilen] at hlen
    subst hlen
    split at h
    · rename_i j i r
      intro H locs ls hP hS hl
      obtain ⟨t, n, e1, e3, e2⟩ := m_inr_e h.1
      have hiN : i < N := hN i (by rw [e1]; rcases e3 with rfl | rfl <;> simp)
      rcases e3 with rfl | rfl
      · exact va_aldq hx hb hK hP i 3 (m_w3 e1 (by decide) (by decide) hiN) rfl e2 hd (hft _ _ _ _ h.2 H locs ls hP hS hl)
      · exact va_aldq hx hb hK hP i 4 (m_w3 e1 (by decide) (by decide) hiN) rfl e2 hd (hft _ _ _ _ h.2 H locs ls hP hS hl)
    · exact h.elim
  · have hlen := Nat.eq_of_beq_eq_true (hlen.resolve_right (by simp [m_isw]))
    simp only [m_ilen] at hlen
    subst hlen
    split at h
    · rename_i i r
      intro H locs ls hP hS hl
      obtain ⟨t, n, e1, e2⟩ := m_isa_e h.1
      have hiN : i < N := hN i (by rw [e1]; intro q; cases q; omega)
      obtain ⟨ty, e3⟩ := m_ty_at cs e2
      exact va_alen hx hb hK hP i t (m_wA e1 hiN) e3 (by unfold m_len; rw [e1]; rfl) hd (hft _ _ _ _ h.2 H locs ls hP hS hl)
    · exact h.elim
  · have hlen := Nat.eq_of_beq_eq_true (hlen.resolve_right (by simp [m_isw]))
    simp only [m_ilen] at hlen
    subst hlen
    split at h
    · rename_i x j i r
      intro H locs ls hP hS hl
      obtain ⟨n, e1, e2⟩ := m_inb_e h.1
      have hiN : i < N := hN i (by rw [e1]; simp)
      refine va_iast hx hb hK hP (m_wl_D hi cs sh rf I J) hS i 0 (m_w0 e1 hiN) rfl e2 hd (fun H1 locs1 hP1 _ hS1 => hft _ _ _ _ h.2 H1 locs1 ls ?_ hS1 hl)
      rw [m_set0 e1] at hP1
      exact hP1
    · exact h.elim
  · have hlen := Nat.eq_of_beq_eq_true (hlen.resolve_right (by simp [m_isw]))
    simp only [m_ilen] at hlen
    subst hlen
    split at h
    · rename_i x j i r
      intro H locs ls hP hS hl
      obtain ⟨n, e1, e2⟩ := m_inb_e h.1
      have hiN : i < N := hN i (by rw [e1]; simp)
      refine va_zast hx hb hK hP (m_wl_D hi cs sh rf I J) hS i 2 (m_w2 e1 hiN) rfl e2 hd (fun H1 locs1 hP1 _ hS1 => hft _ _ _ _ h.2.2 H1 locs1 ls ?_ hS1 hl)
      have hx2 : vp_nar .boolean x = x := by rcases h.2.1 with rfl | rfl <;> decide +kernel
      rw [hx2, m_set2 e1] at hP1
      exact hP1
    · exact h.elim
  · have hlen := Nat.eq_of_beq_eq_true (hlen.resolve_right (by simp [m_isw]))
    simp only [m_ilen] at hlen
    subst hlen
    split at h
    · rename_i x j i r
      intro H locs ls hP hS hl
      obtain ⟨n, e1, e2⟩ := m_inb_e h.1
      have hiN : i < N := hN i (by rw [e1]; simp)
      refine va_last hx hb hK hP (m_wl_D hi cs sh rf I J) hS i 1 (m_w1 e1 hiN) rfl e2 hd (fun H1 locs1 hP1 _ hS1 => hft _ _ _ _ h.2 H1 locs1 ls ?_ hS1 hl)
      rw [m_set1 e1] at hP1
      exact hP1
    · exact h.elim
  · rename_i k
    have hlen := Nat.eq_of_beq_eq_true (hlen.resolve_right (by simp [m_isw]))
    simp only [m_ilen] at hlen
    subst hlen
    split at h
    · rename_i n pt hx9
      split at h
      · rename_i hb9
        obtain ⟨h1, h2⟩ := m_ble2 hb9
        have h3 := hct k n true pt hx9 pc hd (st.take n).reverse (st.drop n) lv I J _ (by rw [List.length_reverse, List.length_take]; omega) h2 h (fun r I1 J1 h4 => hft _ _ _ _ h4)
        rw [List.reverse_reverse, List.take_append_drop] at h3
        exact h3
      · exact h.elim
    · exact h.elim
  · rename_i k
    have hlen := Nat.eq_of_beq_eq_true (hlen.resolve_right (by simp [m_isw]))
    simp only [m_ilen] at hlen
    subst hlen
    split at h
    · rename_i n pt hx9
      split at h
      · rename_i hb9
        obtain ⟨h1, h2⟩ := m_ble2 hb9
        have h3 := hct k n false pt hx9 pc hd (st.take n).reverse (st.drop n) lv I J _ (by rw [List.length_reverse, List.length_take]; omega) h2 h (fun r I1 J1 h4 => hft _ _ _ _ h4)
        rw [List.reverse_reverse, List.take_append_drop] at h3
        exact h3
      · exact h.elim
    · exact h.elim
  · have hlen := Nat.eq_of_beq_eq_true (hlen.resolve_right (by simp [m_isw]))
    simp only [m_ilen] at hlen
    subst hlen
    split at h
    · rename_i x
      exact (hE pc lv I J).1 x hd (Or.inl rfl) h
    · rename_i x
      exact (hE pc lv I J).1 x hd (Or.inr ⟨rfl, h.1⟩) h.2
    · exact h.elim
  · have hlen := Nat.eq_of_beq_eq_true (hlen.resolve_right (by simp [m_isw]))
    simp only [m_ilen] at hlen
    subst hlen
    split at h
    · rename_i x
      exact (hE pc lv I J).2.1 x hd rfl h
    · exact h.elim
  · have hlen := Nat.eq_of_beq_eq_true (hlen.resolve_right (by simp [m_isw]))
    simp only [m_ilen] at hlen
    subst hlen
    split at h
    · rename_i x
      exact (hE pc lv I J).2.2.1 x hd rfl h
    · exact h.elim
  · have hlen := Nat.eq_of_beq_eq_true (hlen.resolve_right (by simp [m_isw]))
    simp only [m_ilen] at hlen
    subst hlen
    split at h
    · exact (hE pc lv I J).2.2.2 hd rfl h
    · exact h.elim
  · exact h.elim
end MS
end
section
/-! ===== walks of a whole method: at a cut its invariant ===== -/
def m_jmp (cd : List mIN) (t : Nat) : List mIN := cd.dropWhile (fun q => !(Nat.beq q.1 t))
def m_lks (lv : mLV) : List Nat → Option (List mPV)
  | [] => some []
  | k :: ks => match m_lk lv k, m_lks lv ks with
    | some v, some vs => some (v :: vs)
    | _, _ => none
def m_cu : List (Nat × List Nat) → Nat → Option (List Nat)
  | [], _ => none
  | q :: l, k => match Nat.beq q.1 k with
    | true => some q.2
    | false => m_cu l k
abbrev mCV : Type := Nat → List mPV → List mPV → mPI → mPJ → Prop
def m_go (cut : List (Nat × List Nat)) (Cv : mCV) (w : List mIN → mLV → List mPV → mPI → mPJ → Prop) (cs : List mIN) (lv : mLV) (st : List mPV) (I : mPI) (J : mPJ) : Prop :=
  match cs with
  | [] => False
  | q :: tl => match m_cu cut q.1 with
    | some ks => match m_lks lv ks with
      | some vs => Cv q.1 vs st I J
      | none => False
    | none => w (q :: tl) lv st I J
def m_wp (nL : Nat) (fl : List mFL) (kI : List (Nat × Int32 × Nat)) (kJ : List (Nat × Int64 × Nat)) (ct : Nat → Option (Nat × Bool × mPT)) (sh : mSH) (rf : mRF) (rk : Nat) (QP : mKT) (cd : List mIN) (cut : List (Nat × List Nat)) (Cv : mCV) : Nat → List mIN → mLV → List mPV → mPI → mPJ → Prop
  | 0, _, _, _, _, _ => False
  | n + 1, cs, lv, st, I, J => match cs with
    | [] => False
    | (_, ins, _, ts, v) :: tl => m_sp nL fl kI kJ ct sh rf rk QP (m_go cut Cv (m_wp nL fl kI kJ ct sh rf rk QP cd cut Cv n) tl) (fun t => m_go cut Cv (m_wp nL fl kI kJ ct sh rf rk QP cd cut Cv n) (m_jmp cd t)) ins ts v lv st I J
def m_ch : List mIN → Bool
  | a :: b :: l => Nat.beq b.1 (a.1 + a.2.2.1) && m_ch (b :: l)
  | _ => true
theorem m_ch_tl {a : mIN} {l : List mIN} (h : m_ch (a :: l) = true) : m_ch l = true := by
  cases l with
  | nil => rfl
  | cons b l =>
    unfold m_ch at h
    rw [Bool.and_eq_true] at h
    exact h.2
theorem m_ch_suf {cd : List mIN} : ∀ (t : List mIN) {cs : List mIN}, t ++ cs = cd → m_ch cd = true → m_ch cs = true := by
  intro t
  induction t generalizing cd with
  | nil => intro cs h hc; rw [← h] at hc; exact hc
  | cons a t ih => intro cs h hc; rw [← h] at hc; exact ih rfl (m_ch_tl hc)
theorem m_jmp_suf (cd : List mIN) (t : Nat) : ∃ u, u ++ m_jmp cd t = cd := by
  unfold m_jmp
  exact ⟨cd.takeWhile (fun q => !(Nat.beq q.1 t)), List.takeWhile_append_dropWhile⟩
theorem m_jmp_hd : ∀ (cd : List mIN) (t : Nat) {q : mIN} {tl : List mIN}, m_jmp cd t = q :: tl → q.1 = t
  | [], t, q, tl, h => by simp [m_jmp] at h
  | a :: l, t, q, tl, h => by
    unfold m_jmp at h
    rw [List.dropWhile_cons] at h
    split at h
    · exact m_jmp_hd l t h
    · rename_i hb
      have e := List.cons.inj h
      rw [← e.1]
      cases hb2 : Nat.beq a.1 t
      · rw [hb2] at hb; exact absurd rfl hb
      · exact Nat.eq_of_beq_eq_true hb2
theorem m_lks_mem {lv : mLV} : ∀ {ks : List Nat} {vs : List mPV}, m_lks lv ks = some vs → ∀ q ∈ ks.zip vs, m_lk lv q.1 = some q.2
  | [], vs, h, q, hq => by simp at hq
  | k :: ks, vs, h, q, hq => by
    unfold m_lks at h
    split at h
    · rename_i v vs' h1 h2
      cases h
      rw [List.zip_cons_cons] at hq
      rcases List.mem_cons.mp hq with rfl | hq
      · exact h1
      · exact m_lks_mem h2 q hq
    · cases h
theorem m_weak {ad : Nat → Nat} {ls : Array Slot} {nL : Nat} {lv : mLV} {ks : List Nat} {vs : List mPV} (hl : lv_has ls nL (m_el ad lv)) (h : m_lks lv ks = some vs) : lv_has ls nL (m_el ad (ks.zip vs)) := by
  refine ⟨hl.1, hl.2.1, fun q hq => ?_⟩
  obtain ⟨r, hr, rfl⟩ := List.mem_map.mp hq
  exact m_at hl (m_lks_mem h r hr)
section MS
variable {p : Program} {l : Launch} {e : Env} {R : Room} {s : State} {m : MethodId} {args : Array Value} {below : List Frame} {meth : Method} {c : Code} {Q : State → Prop} {cc : ByteArray} {own : String}
variable {D : va_G} {cs : Nat → ClassId} {ad : Nat → Nat} {sh : mSH} {rf : mRF} {N : Nat} {nL : Nat}
set_option maxHeartbeats 1000000 in
theorem m_wp_ok (hx : p.tables.exec = Jvm.exec) (hb : c.code = cc) (hown : s.vm.findClass own = some m.cls) (hts : ∀ w ∈ m_tw, w.before args s = true) (hK : va_K D m_cl (m_ty cs) s) (hi : ∀ i j, i < N → j < N → ad i = ad j → i = j) (hN : ∀ i, sh i ≠ .inr (9, 0) → i < N)
    {fl : List mFL} (hfl : fl.all (m_fck own) = true) {kI : List (Nat × Int32 × Nat)} (hkI : kI.all (m_kck own) = true) {kJ : List (Nat × Int64 × Nat)} (hkJ : kJ.all (m_kckL own) = true) {ct : Nat → Option (Nat × Bool × mPT)} (hct : ∀ k n vf pt, ct k = some (n, vf, pt) → m_CG p l e R s m args below meth c Q D cs ad sh rf N nL cc k n vf pt)
    {rk : Nat} {QP : mKT} (hE : m_E p l e R s m args below meth c Q D cs ad sh rf N nL cc rk QP) {cd : List mIN} (hcd : cd.all (m_ick cc) = true) (hch : m_ch cd = true) {cut : List (Nat × List Nat)} {Cv : mCV}
    (hcut : ∀ pc ks vs st I J, m_cu cut pc = some ks → Cv pc vs st I J → m_G p l e R s m args below meth c Q D cs ad sh rf N nL pc (ks.zip vs) st I J) :
    ∀ (n : Nat) (q : mIN) (tl : List mIN) (lv : mLV) (st : List mPV) (I : mPI) (J : mPJ), (∃ u, u ++ (q :: tl) = cd) → m_wp nL fl kI kJ ct sh rf rk QP cd cut Cv n (q :: tl) lv st I J → m_G p l e R s m args below meth c Q D cs ad sh rf N nL q.1 lv st I J := by
  intro n
  induction n with
  | zero => intro q tl lv st I J _ h; exact h.elim
  | succ n ih =>
    intro q tl lv st I J hsuf h
    obtain ⟨pc, ins, len, ts, v⟩ := q
    have hmem : (pc, ins, len, ts, v) ∈ cd := by
      obtain ⟨u, hu⟩ := hsuf
      rw [← hu]
      exact List.mem_append_right _ List.mem_cons_self
    have hgo : ∀ (cs1 : List mIN), (∃ u, u ++ cs1 = cd) → ∀ (q1 : mIN) (tl1 : List mIN), cs1 = q1 :: tl1 → ∀ lv st I J, m_go cut Cv (m_wp nL fl kI kJ ct sh rf rk QP cd cut Cv n) cs1 lv st I J → m_G p l e R s m args below meth c Q D cs ad sh rf N nL q1.1 lv st I J := by
      intro cs1 hs1 q1 tl1 e1 lv st I J h1
      subst e1
      unfold m_go at h1
      simp only at h1
      split at h1
      · rename_i ks hks
        split at h1
        · rename_i vs hvs
          have h2 := hcut q1.1 ks vs st I J hks h1
          exact fun H locs ls hP hS hl => h2 H locs ls hP hS (m_weak hl hvs)
        · exact h1.elim
      · exact ih q1 tl1 lv st I J hs1 h1
    refine m_sp_ok hx hb hown hts hK hi hN hfl hkI hkJ hct hE (List.all_eq_true.mp hcd _ hmem) (fun lv st I J h1 => ?_) (fun t lv st I J h1 => ?_) h
    · cases tl with
      | nil => exact h1.elim
      | cons q1 tl1 =>
        obtain ⟨u, hu⟩ := hsuf
        have hc := m_ch_suf u hu hch
        unfold m_ch at hc
        rw [Bool.and_eq_true] at hc
        have e2 : q1.1 = pc + len := Nat.eq_of_beq_eq_true hc.1
        rw [← e2]
        exact hgo (q1 :: tl1) ⟨u ++ [(pc, ins, len, ts, v)], by rw [← hu]; simp⟩ q1 tl1 rfl lv st I J h1
    · have h2 := m_jmp_suf cd t
      cases hj : m_jmp cd t with
      | nil => rw [hj] at h1; exact h1.elim
      | cons q1 tl1 =>
        rw [← m_jmp_hd cd t hj]
        exact hgo (m_jmp cd t) h2 q1 tl1 hj lv st I J h1
/-- with invariants that fall in (a, b) -/
theorem m_wp_inv (hx : p.tables.exec = Jvm.exec) (hb : c.code = cc) (hown : s.vm.findClass own = some m.cls) (hts : ∀ w ∈ m_tw, w.before args s = true) (hK : va_K D m_cl (m_ty cs) s) (hi : ∀ i j, i < N → j < N → ad i = ad j → i = j) (hN : ∀ i, sh i ≠ .inr (9, 0) → i < N)
    {fl : List mFL} (hfl : fl.all (m_fck own) = true) {kI : List (Nat × Int32 × Nat)} (hkI : kI.all (m_kck own) = true) {kJ : List (Nat × Int64 × Nat)} (hkJ : kJ.all (m_kckL own) = true) {ct : Nat → Option (Nat × Bool × mPT)} (hct : ∀ k n vf pt, ct k = some (n, vf, pt) → m_CG p l e R s m args below meth c Q D cs ad sh rf N nL cc k n vf pt)
    {rk : Nat} {QP : mKT} (hE : m_E p l e R s m args below meth c Q D cs ad sh rf N nL cc rk QP) {cd : List mIN} (hcd : cd.all (m_ick cc) = true) (hch : m_ch cd = true) {cut : List (Nat × List Nat)} {Inv : Nat → Nat → mCV} {fu : Nat}
    (hstep : ∀ pc ks a b vs st I J, m_cu cut pc = some ks → Inv a b pc vs st I J → m_wp nL fl kI kJ ct sh rf rk QP cd cut (fun pc1 vs1 st1 I1 J1 => ∃ a1 b1, (a1 < a ∨ (a1 = a ∧ b1 < b)) ∧ Inv a1 b1 pc1 vs1 st1 I1 J1) fu (m_jmp cd pc) (ks.zip vs) st I J) :
    ∀ (a b pc : Nat) (ks : List Nat) (vs st : List mPV) (I : mPI) (J : mPJ), m_cu cut pc = some ks → Inv a b pc vs st I J → m_G p l e R s m args below meth c Q D cs ad sh rf N nL pc (ks.zip vs) st I J := by
  intro a
  induction a using Nat.strongRecOn with
  | ind a iha =>
    intro b
    induction b using Nat.strongRecOn with
    | ind b ihb =>
      intro pc ks vs st I J hks hI
      have h1 := hstep pc ks a b vs st I J hks hI
      cases hj : m_jmp cd pc with
      | nil =>
        rw [hj] at h1
        cases fu <;> exact h1.elim
      | cons q1 tl1 =>
        rw [hj] at h1
        rw [← m_jmp_hd cd pc hj]
        refine m_wp_ok hx hb hown hts hK hi hN hfl hkI hkJ hct hE hcd hch ?_ fu q1 tl1 _ st I J (by rw [← hj]; exact m_jmp_suf cd pc) h1
        rintro pc1 ks1 vs1 st1 I1 J1 hks1 ⟨a1, b1, hlt, hI1⟩
        rcases hlt with hlt | ⟨rfl, hlt⟩
        · exact iha a1 hlt b1 pc1 ks1 vs1 st1 I1 J1 hks1 hI1
        · exact ihb b1 hlt pc1 ks1 vs1 st1 I1 J1 hks1 hI1
end MS
/-! ===== a method's contract over named worlds ===== -/
def m_nw (U : State) : Prop := va_Nw (Cond.fieldLinkNest RX2 68 "MomentDesk$Big" "negative" "Z" "MomentDesk") U ∧ va_Nw (Cond.methodLinkNest RX3 56 yX4_power "MomentDesk") U
theorem m_nw.warm {s U : State} (hW : s.WarmedH U.vm) (h : m_nw s) : m_nw U := ⟨h.1.warmF hW, h.2.warmM hW⟩
theorem m_nw.of {s : State} {args : Array Value} (hts : ∀ w ∈ m_tw, w.before args s = true) : m_nw s := ⟨va_Nw.of rfl (hts _ (List.mem_append_left _ List.mem_cons_self)), va_Nw.of rfl (hts _ (List.mem_append_left _ (List.mem_cons_of_mem _ List.mem_cons_self)))⟩
def m_W (D : va_G) (cs : Nat → ClassId) (ad : Nat → Nat) (sh : mSH) (rf : mRF) (N : Nat) (I : mPI) (J : mPJ) (U : State) : Prop := va_P D m_cl (m_wl cs ad sh rf N I J) U.heap ∧ va_K D m_cl (m_ty cs) U ∧ m_nw U
def m_Q (D : va_G) (cs : Nat → ClassId) (ad : Nat → Nat) (sh : mSH) (rf : mRF) (N : Nat) (K : mKT) : Array Value → State → Outcome → State → Prop := fun _ st oc t => (∃ r I1 J1, oc = .returned (Option.map (m_ev ad) r) ∧ K r I1 J1 ∧ m_W D cs ad sh rf N I1 J1 t) ∧ va_F (m_A ad N) st t
def m_rm (fr lc : Nat) : Room := { frames := fr, cells := 0, slots := 0, locals := lc }
def m_ws (y : MethodName) (bytes : ByteArray) (maxL : Nat) (ret : Option FieldType) : List Cond := Cond.code y bytes maxL ret :: m_tb
def m_Mt (y : MethodName) (bytes : ByteArray) (maxL : Nat) (ret : Option FieldType) (fr lc : Nat) (PT : mSH → mRF → mPT) : Prop :=
  ∀ (l : Launch) (D : va_G) (cs : Nat → ClassId) (ad : Nat → Nat) (sh : mSH) (rf : mRF) (N : Nat) (As : List mPV) (I : mPI) (J : mPJ) (K : mKT), (∀ i j, i < N → j < N → ad i = ad j → i = j) → (∀ i, sh i ≠ .inr (9, 0) → i < N) → PT sh rf As I J K →
    Met l y (m_ws y bytes maxL ret) (m_rm fr lc) (va_Pc (As.map (m_ev ad)) (m_W D cs ad sh rf N I J)) (m_Q D cs ad sh rf N K) 0 0 (m_A ad N)
def m_rkok (rk : Nat) (ret : Option FieldType) : Prop := match rk with
  | 0 => ret = none
  | 1 => ret = some .int
  | 2 => ret = some .long
  | 3 => ret = some .boolean
  | 4 => ∃ rt, ret = some rt ∧ ((∃ n, rt = .object n) ∨ ∃ t, rt = .array t)
  | _ => False
theorem m_goodIn {ws : List Cond} (h : ∀ w ∈ ws, w ∈ m_tb) : GoodIn m_tw ws := fun w hw => ⟨m_tb_w (h w hw), good_of_word (List.mem_filter.mp (h w hw)).2⟩
section MC
variable {p : Program} {l : Launch} {e : Env} {R : Room} {s : State} {m : MethodId} {args : Array Value} {below : List Frame} {meth : Method} {c : Code} {Q : State → Prop} {cc : ByteArray} {own : String}
variable {D : va_G} {cs : Nat → ClassId} {ad : Nat → Nat} {sh : mSH} {rf : mRF} {N : Nat} {nL : Nat}
theorem m_call {H : Heap} {locs : List Loc} {pc : Nat} {ls : Array Slot} {st0 rest : List Value} {K : mKT} {a : Array Value} (hr : va_Run p l e R s m args below meth c H locs 0 0 0 0 (F0 m pc ls st0) rest (m_Q D cs ad sh rf N K a) (m_A ad N)) (hS : va_S (m_A ad N) s.heap H locs)
    (kk : ∀ r I1 J1 (H1 : Heap) (locs1 : List Loc), K r I1 J1 → va_P D m_cl (m_wl cs ad sh rf N I1 J1) H1 → va_S (m_A ad N) s.heap H1 locs1 → W p l e R s m args below meth c H1 locs1 0 0 Q (F0 m (pc + 3) ls ((m_ol r).map (m_ev ad) ++ rest))) : W p l e R s m args below meth c H locs 0 0 Q (F0 m pc ls st0) := by
  intro T hT X
  obtain ⟨v, st₀, t, T', L, h0, X', hL, e1, e2, ⟨⟨r, I1, J1, hv, hp, hw⟩, hz, hk⟩, st⟩ := hr T hT X
  cases hv
  rw [h0] at hz hk
  obtain ⟨t2, a1, b1⟩ := kk r I1 J1 T'.heap (locs ++ L) hp (by rw [e1]; exact hw.1)
    ⟨Nat.le_trans hS.1 (by rw [e1]; exact hz), fun q h1 h2 => by rw [e1, hk q (Nat.lt_of_lt_of_le h1 hS.1) h2]; exact hS.2.1 q h1 h2, fun q hq => by
      rcases List.mem_append.mp hq with h | h
      · exact hS.2.2 q h
      · exact hL q h⟩ T' rfl X'
  refine ⟨t2, st t2 ?_, b1⟩
  cases r <;> exact a1
theorem m_blind {As : List mPV} {I : mPI} {J : mPJ} : FrameBlind (va_Pc (As.map (m_ev ad)) (m_W D cs ad sh rf N I J)) := fun a U g mk q => by
  obtain ⟨q0, qP, qK, qN⟩ := q
  exact ⟨q0, qP, va_K.moved (u := U) (U := U.calling g mk a) (Vm.Alike.refl U.vm) qK, qN.1.same rfl rfl, qN.2.same rfl rfl⟩
theorem m_CG_V {y : MethodName} {bytes : ByteArray} {maxL : Nat} {ret : Option FieldType} {fr lc : Nat} {PT : mSH → mRF → mPT} (hM : m_Mt y bytes maxL ret fr lc PT) (hx : p.tables.exec = Jvm.exec) (hb : c.code = cc) (hml : c.maxLocals = nL) (hown : s.vm.findClass own = some m.cls) (hts : ∀ w ∈ m_tw, w.before args s = true) (hK : va_K D m_cl (m_ty cs) s) (hi : ∀ i j, i < N → j < N → ad i = ad j → i = j) (hN : ∀ i, sh i ≠ .inr (9, 0) → i < N)
    {k n ci : Nat} {q : vw_C} (hrec : ∀ As I J K, PT sh rf As I J K → ∃ i As1, As = Sum.inr (.inr i) :: As1 ∧ sh i = .inl ci) (hcl : m_cl[ci]? = some q) (hq : q.1 = y.cls)
    (hw : ∀ w ∈ [Cond.methodLink own k y, Cond.instanceMethod y, Cond.selects y.cls y y, Cond.initialized y.cls, Cond.code y bytes maxL ret], w ∈ m_tb)
    (hd : y.cls = y.cls ∧ y.cls ≠ "java/lang/invoke/MethodHandle" ∧ y.cls ≠ "java/lang/invoke/VarHandle" ∧ (parseMethodDescriptor y.desc).map (fun d => d.parameters.length) = some n) (hR : fr + 1 ≤ R.frames ∧ 8 + (maxL + 11) + lc ≤ R.locals) :
    m_CG p l e R s m args below meth c Q D cs ad sh rf N nL cc k (n + 1) true (PT sh rf) := by
  intro pc hdec As rest lv I J K hlen hcat hpt hk H locs ls hP hS hl
  obtain ⟨i, As1, rfl, hsh⟩ := hrec As I J K hpt
  have hiN : i < N := hN i (by rw [hsh]; simp)
  have hg : GoodIn m_tw (wsV own k y.cls y (m_ws y bytes maxL ret)) := m_goodIn (fun w hw1 => by
    rcases List.mem_append.mp hw1 with h | h
    · exact hw w (by simp at h ⊢; rcases h with h | h | h | h <;> simp [h])
    · rcases List.mem_cons.mp h with h | h
      · exact hw w (by simp [h])
      · exact h)
  have hrv : ∃ cell : Cell, H[ad i]? = some cell ∧ cell.vm.isStatics = false ∧ s.vm.findClass y.cls = some cell.cls := by
    rw [← hq]
    exact va_recv hK hP hcl (m_wO hsh hiN)
  have hrun := va_runV (b := ad i) (As := As1.map (m_ev ad)) (rest := rest.map (m_ev ad)) (g := F0 m pc ls (List.map (m_ev ad) ((Sum.inr (Sum.inr i) :: As1).reverse ++ rest))) (locs := locs) (cells := 0) (slots := 0) (below := below) (meth := meth) (e := e) ⟨hx, hb, hml, hown, hts⟩ (hM l D cs ad sh rf N _ I J K hi hN hpt) (cwV n hts hg rfl rfl rfl hd hR) ⟨m_blind, hrv, fun U hU hW => ⟨rfl, by rw [hU]; exact hP, va_K.moved hW.alike hK, (m_nw.of hts).warm hW⟩⟩ rfl (by simp at hlen ⊢; exact hlen) hl.1 (by simp [m_ev]) (lv_room (by
      rw [List.map_map]
      rw [show ((fun v : Value => v.category) ∘ m_ev ad) = m_cat from funext (fun v => m_cat_ev ad v)]
      exact hcat)) hdec ⟨Nat.zero_le _, Nat.zero_le _⟩
  refine m_call hrun hS (fun r I1 J1 H1 locs1 h1 hP1 hS1 => ?_)
  have h2 := hk r I1 J1 h1 H1 locs1 ls hP1 hS1 hl
  rw [List.map_append] at h2
  exact h2
theorem m_CG_S {y : MethodName} {bytes : ByteArray} {maxL : Nat} {ret : Option FieldType} {fr lc : Nat} {PT : mSH → mRF → mPT} (hM : m_Mt y bytes maxL ret fr lc PT) (hx : p.tables.exec = Jvm.exec) (hb : c.code = cc) (hml : c.maxLocals = nL) (hown : s.vm.findClass own = some m.cls) (hts : ∀ w ∈ m_tw, w.before args s = true) (hK : va_K D m_cl (m_ty cs) s) (hi : ∀ i j, i < N → j < N → ad i = ad j → i = j) (hN : ∀ i, sh i ≠ .inr (9, 0) → i < N)
    {k n : Nat} (hw : ∀ w ∈ [Cond.methodLink own k y, Cond.static y, Cond.initialized y.cls, Cond.code y bytes maxL ret], w ∈ m_tb)
    (hd : y.cls ≠ "java/lang/invoke/MethodHandle" ∧ y.cls ≠ "java/lang/invoke/VarHandle" ∧ (parseMethodDescriptor y.desc).map (fun d => d.parameters.length) = some n) (hR : fr + 1 ≤ R.frames ∧ 8 + (maxL + 11) + lc ≤ R.locals) :
    m_CG p l e R s m args below meth c Q D cs ad sh rf N nL cc k n false (PT sh rf) := by
  intro pc hdec As rest lv I J K hlen hcat hpt hk H locs ls hP hS hl
  have hg : GoodIn m_tw (m_ws y bytes maxL ret) := m_goodIn (fun w h => by
    rcases List.mem_cons.mp h with h | h
    · exact hw w (by simp [h])
    · exact h)
  have hB : CallB R s args own k y bytes maxL ret (m_ws y bytes maxL ret) (m_rm fr lc) 0 0 n := callB_of n hts hg rfl rfl rfl (hts _ (m_tb_w (hw _ (by simp)))) (hts _ (m_tb_w (hw _ (by simp)))) hd hR
  have hrun := va_runS (As := As.map (m_ev ad)) (rest := rest.map (m_ev ad)) (g := F0 m pc ls (List.map (m_ev ad) (As.reverse ++ rest))) (locs := locs) (cells := 0) (slots := 0) (below := below) (meth := meth) (e := e) (H := H) ⟨hx, hb, hml, hown, hts⟩ (hM l D cs ad sh rf N _ I J K hi hN hpt) ⟨hB, hts _ (m_tb_w (hw _ (by simp)))⟩ ⟨m_blind, fun U hU hW => ⟨rfl, by rw [hU]; exact hP, va_K.moved hW.alike hK, (m_nw.of hts).warm hW⟩⟩ rfl (by simp; exact hlen) hl.1 (by simp) (lv_room (by
      rw [List.map_map]
      rw [show ((fun v : Value => v.category) ∘ m_ev ad) = m_cat from funext (fun v => m_cat_ev ad v)]
      exact hcat)) hdec ⟨Nat.zero_le _, Nat.zero_le _⟩
  refine m_call hrun hS (fun r I1 J1 H1 locs1 h1 hP1 hS1 => ?_)
  have h2 := hk r I1 J1 h1 H1 locs1 ls hP1 hS1 hl
  rw [List.map_append] at h2
  exact h2
theorem m_CG_SN {y : MethodName} {bytes : ByteArray} {maxL : Nat} {ret : Option FieldType} {fr lc : Nat} {PT : mSH → mRF → mPT} {host : String} (hM : m_Mt y bytes maxL ret fr lc PT) (hx : p.tables.exec = Jvm.exec) (hb : c.code = cc) (hml : c.maxLocals = nL) (hown : s.vm.findClass own = some m.cls) (hts : ∀ w ∈ m_tw, w.before args s = true) (hK : va_K D m_cl (m_ty cs) s) (hi : ∀ i j, i < N → j < N → ad i = ad j → i = j) (hN : ∀ i, sh i ≠ .inr (9, 0) → i < N)
    {k n : Nat} (hw0 : Cond.methodLinkNest own k y host ∈ m_nws) (hw : ∀ w ∈ [Cond.static y, Cond.initialized y.cls, Cond.code y bytes maxL ret], w ∈ m_tb)
    (hd : y.cls ≠ "java/lang/invoke/MethodHandle" ∧ y.cls ≠ "java/lang/invoke/VarHandle" ∧ (parseMethodDescriptor y.desc).map (fun d => d.parameters.length) = some n) (hR : fr + 1 ≤ R.frames ∧ 8 + (maxL + 11) + lc ≤ R.locals) :
    m_CG p l e R s m args below meth c Q D cs ad sh rf N nL cc k n false (PT sh rf) := by
  intro pc hdec As rest lv I J K hlen hcat hpt hk H locs ls hP hS hl
  have hg : GoodIn m_tw (m_ws y bytes maxL ret) := m_goodIn (fun w h => by
    rcases List.mem_cons.mp h with h | h
    · exact hw w (by simp [h])
    · exact h)
  have hB : va_CN R s args own k y host bytes maxL ret (m_ws y bytes maxL ret) (m_rm fr lc) 0 0 n := va_cnB n hts hg rfl rfl rfl (va_Nw.of rfl (hts (Cond.methodLinkNest own k y host) (List.mem_append_left _ hw0))) (hts _ (m_tb_w (hw _ (by simp)))) hd hR
  have hrun := va_runSN (As := As.map (m_ev ad)) (rest := rest.map (m_ev ad)) (g := F0 m pc ls (List.map (m_ev ad) (As.reverse ++ rest))) (locs := locs) (cells := 0) (slots := 0) (below := below) (meth := meth) (e := e) (H := H) ⟨hx, hb, hml, hown, hts⟩ (hM l D cs ad sh rf N _ I J K hi hN hpt) ⟨hB, hts _ (m_tb_w (hw _ (by simp))), trivial⟩ ⟨m_blind, fun U hU hW => ⟨rfl, by rw [hU]; exact hP, va_K.moved hW.alike hK, (m_nw.of hts).warm hW⟩⟩ rfl (by simp; exact hlen) hl.1 (by simp) (lv_room (by
      rw [List.map_map]
      rw [show ((fun v : Value => v.category) ∘ m_ev ad) = m_cat from funext (fun v => m_cat_ev ad v)]
      exact hcat)) hdec ⟨Nat.zero_le _, Nat.zero_le _⟩
  refine m_call hrun hS (fun r I1 J1 H1 locs1 h1 hP1 hS1 => ?_)
  have h2 := hk r I1 J1 h1 H1 locs1 ls hP1 hS1 hl
  rw [List.map_append] at h2
  exact h2
theorem m_E_of (hx : p.tables.exec = Jvm.exec) (hb : c.code = cc) {ret : Option FieldType} (hr : meth.sig.returnType = ret) (hlocks : meth.locks = false) (hK : va_K D m_cl (m_ty cs) s) (hnw : m_nw s) {rk : Nat} (hrk : m_rkok rk ret) (K : mKT) : m_E p l e R s m args below meth c (MQ below (m_Q D cs ad sh rf N K) args s 0 0 (m_A ad N)) D cs ad sh rf N nL cc rk K := by
  intro pc lv I J
  refine ⟨fun x hd hk hq H locs ls hP hS hl => ?_, fun x hd hk hq H locs ls hP hS hl => ?_, fun x hd hk hq H locs ls hP hS hl => ?_, fun hd hk hq H locs ls hP hS hl => ?_⟩
  · rcases hk with rfl | ⟨rfl, hz⟩
    · exact W.iret hx hb (hr.trans hrk) (fun t ht hW => ⟨⟨some (.inl x), I, J, rfl, hq, by rw [ht]; exact hP, va_K.moved hW.alike hK, hnw.warm hW⟩, hS.F ht⟩) hS.2.2 hd
    · exact W.zret (ty := .boolean) hx hb (hr.trans hrk) (by rcases hz with rfl | rfl <;> decide +kernel) (fun t ht hW => ⟨⟨some (.inl x), I, J, rfl, hq, by rw [ht]; exact hP, va_K.moved hW.alike hK, hnw.warm hW⟩, hS.F ht⟩) hS.2.2 hd
  · subst hk
    exact W.lret hx hb (hr.trans hrk) (fun t ht hW => ⟨⟨some (.inr (.inl x)), I, J, rfl, hq, by rw [ht]; exact hP, va_K.moved hW.alike hK, hnw.warm hW⟩, hS.F ht⟩) hS.2.2 hd
  · subst hk
    obtain ⟨rt, h1, h2⟩ := hrk
    exact W.aret hx hb (hr.trans h1) h2 (Or.inr ⟨ad x, rfl⟩) (fun t ht hW => ⟨⟨some (.inr (.inr x)), I, J, rfl, hq, by rw [ht]; exact hP, va_K.moved hW.alike hK, hnw.warm hW⟩, hS.F ht⟩) hS.2.2 hd
  · subst hk
    exact W.vret hx hb (hr.trans hrk) (fun t ht hW => ⟨⟨none, I, J, rfl, hq, by rw [ht]; exact hP, va_K.moved hW.alike hK, hnw.warm hW⟩, hS.F ht⟩) hS.2.2 hd
end MC
def m_args : Nat → List mPV → mLV
  | _, [] => []
  | i, v :: vs => (i, v) :: m_args (match m_cat v with | 2 => i + 2 | _ => i + 1) vs
theorem m_args_el (ad : Nat → Nat) : ∀ (vs : List mPV) (i : Nat), lv_args i (vs.map (m_ev ad)) = m_el ad (m_args i vs)
  | [], _ => rfl
  | v :: vs, i => by
    simp only [List.map_cons, lv_args, m_args, m_el, m_cat_ev]
    congr 1
    rcases v with x | x | x
    · exact m_args_el ad vs (i + 1)
    · exact m_args_el ad vs (i + 2)
    · exact m_args_el ad vs (i + 1)
theorem m_args_len (ad : Nat → Nat) : ∀ (vs : List mPV), (lg_sl (vs.map (m_ev ad))).length = (vs.map m_cat).sum
  | [] => rfl
  | v :: vs => by
    have := m_args_len ad vs
    unfold lg_sl at this ⊢
    simp only [List.map_cons, List.flatMap_cons, List.length_append, List.sum_cons, this]
    rcases v with x | x | x <;> rfl
/-- the environment of a method's calls, as a caller has it -/
def m_CE (own : String) (fr lc : Nat) (cc : ByteArray) (nL : Nat) (ct : mSH → mRF → Nat → Option (Nat × Bool × mPT)) : Prop :=
  ∀ (p : Program) (l : Launch) (e : Env) (s : State) (m : MethodId) (args : Array Value) (below : List Frame) (meth : Method) (c : Code) (Q : State → Prop) (D : va_G) (cs : Nat → ClassId) (ad : Nat → Nat) (sh : mSH) (rf : mRF) (N : Nat),
    p.tables.exec = Jvm.exec → c.code = cc → c.maxLocals = nL → s.vm.findClass own = some m.cls → (∀ w ∈ m_tw, w.before args s = true) → va_K D m_cl (m_ty cs) s → (∀ i j, i < N → j < N → ad i = ad j → i = j) → (∀ i, sh i ≠ .inr (9, 0) → i < N) →
    ∀ k n vf pt, ct sh rf k = some (n, vf, pt) → m_CG p l e (m_rm fr lc) s m args below meth c Q D cs ad sh rf N nL cc k n vf pt
/-- THE METHOD RULE: entry and every cut -/
theorem m_method {y : MethodName} {bytes : ByteArray} {maxL : Nat} {ret : Option FieldType} {fr lc rk fu : Nat} {PT : mSH → mRF → mPT} {fl : List mFL} {kI : List (Nat × Int32 × Nat)} {kJ : List (Nat × Int64 × Nat)} {ct : mSH → mRF → Nat → Option (Nat × Bool × mPT)} {cd : List mIN} {cut : List (Nat × List Nat)}
    (hy : plainName y.cls = true) (hfl : fl.all (m_fck y.cls) = true) (hkI : kI.all (m_kck y.cls) = true) (hkJ : kJ.all (m_kckL y.cls) = true) (hct : m_CE y.cls fr lc bytes maxL ct) (hrk : m_rkok rk ret) (hcd : cd.all (m_ick bytes) = true) (hch : m_ch cd = true) (hcd0 : ∃ q tl, cd = q :: tl ∧ q.1 = 0)
    (hvc : ∀ sh rf As I J K, PT sh rf As I J K → (As.map m_cat).sum ≤ maxL ∧ ∃ Inv : Nat → Nat → mCV,
      m_wp maxL fl kI kJ (ct sh rf) sh rf rk K cd cut (fun pc1 vs1 st1 I1 J1 => ∃ a1 b1, Inv a1 b1 pc1 vs1 st1 I1 J1) fu cd (m_args 0 As) [] I J ∧
      ∀ pc ks a b vs st I J, m_cu cut pc = some ks → Inv a b pc vs st I J → m_wp maxL fl kI kJ (ct sh rf) sh rf rk K cd cut (fun pc1 vs1 st1 I1 J1 => ∃ a1 b1, (a1 < a ∨ (a1 = a ∧ b1 < b)) ∧ Inv a1 b1 pc1 vs1 st1 I1 J1) fu (m_jmp cd pc) (ks.zip vs) st I J) :
    m_Mt y bytes maxL ret fr lc PT := by
  intro l D cs ad sh rf N As I J K hi hN hpt
  obtain ⟨hsz, Inv, h0, hstep⟩ := hvc sh rf As I J K hpt
  refine Met.ofW (cc := bytes) (maxL := maxL) (ret := ret) hy rfl ?_
  intro p e s m args below meth c s₁ B hml hv
  obtain ⟨rfl, hP, hK, hnw⟩ := hv
  have hx := B.exec
  have hb := B.bytes
  have hr := B.returns
  have hts : ∀ w ∈ m_tw, w.before (As.map (m_ev ad)).toArray s = true := fun w hw => by
    rcases List.mem_append.mp hw with h | h
    · rcases List.mem_cons.mp h with rfl | h
      · exact hnw.1.use rfl
      · rcases List.mem_cons.mp h with rfl | h
        · exact hnw.2.use rfl
        · cases h
    · exact atoms_spec (ws := m_ws y bytes maxL ret) B.pre w (List.mem_cons_of_mem _ h)
  have hown : s.vm.findClass y.cls = some m.cls := findClass_of_methodNamed B.named
  have hlocks := B.notSynchronized
  have hl := lv_entry (As.map (m_ev ad)) (n := maxL) (by rw [m_args_len]; exact hsz)
  rw [lg_entry_eq]
  rw [m_args_el] at hl
  have hE := m_E_of (p := p) (l := l) (e := e) (R := m_rm fr lc) (below := below) (args := (As.map (m_ev ad)).toArray) (m := m) (nL := maxL) (ad := ad) (sh := sh) (rf := rf) (N := N) hx hb hr hlocks hK hnw hrk K
  have hc := hct p l e s m (As.map (m_ev ad)).toArray below meth c (MQ below (m_Q D cs ad sh rf N K) (As.map (m_ev ad)).toArray s 0 0 (m_A ad N)) D cs ad sh rf N hx hb hml hown hts hK hi hN
  obtain ⟨q, tl, rfl, hq0⟩ := hcd0
  have hG := m_wp_ok hx hb hown hts hK hi hN hfl hkI hkJ hc hE hcd hch (cut := cut) (Cv := fun pc1 vs1 st1 I1 J1 => ∃ a1 b1, Inv a1 b1 pc1 vs1 st1 I1 J1) (fun pc ks vs st I1 J1 hks hex => by
    obtain ⟨a1, b1, h1⟩ := hex
    exact m_wp_inv hx hb hown hts hK hi hN hfl hkI hkJ hc hE hcd hch hstep a1 b1 pc ks vs st I1 J1 hks h1) fu q tl (m_args 0 As) [] I J ⟨[], rfl⟩ h0
  rw [hq0] at hG
  exact hG s.heap [] _ hP va_S.rf hl
end
