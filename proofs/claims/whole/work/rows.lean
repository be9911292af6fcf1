section
-- ===== PART A: goes FIRST, ahead of the names: the tables' words, and 'selects' of the private methods out of them =====
/-- a private method of a class that the tables say can be made, by its rows of tables_1 -/
def lw_okq (q : MethodName × Nat) : Prop := (q.1.cls ≠ "java/lang/invoke/MethodHandle" ∧ q.1.cls ≠ "java/lang/invoke/VarHandle") ∧ Cond.instantiable q.1.cls q.2 ∈ tables_1 ∧ Cond.privateMethod q.1 ∈ tables_1 ∧ Cond.instanceMethod q.1 ∈ tables_1
theorem lw_p0 : lw_okq (⟨"MomentDesk$Big", "trim", "()V"⟩, 3) := ⟨⟨by decide +kernel, by decide +kernel⟩, List.mem_of_getElem? (i := 34) (by decide +kernel), List.mem_of_getElem? (i := 126) (by decide +kernel), List.mem_of_getElem? (i := 127) (by decide +kernel)⟩
theorem lw_p1 : lw_okq (⟨"MomentDesk", "addMomentTimes", "(IJ)V"⟩, 10) := ⟨⟨by decide +kernel, by decide +kernel⟩, List.mem_of_getElem? (i := 13) (by decide +kernel), List.mem_of_getElem? (i := 255) (by decide +kernel), List.mem_of_getElem? (i := 256) (by decide +kernel)⟩
theorem lw_p2 : lw_okq (⟨"MomentDesk$Big", "makeRoom", "(I)V"⟩, 3) := ⟨⟨by decide +kernel, by decide +kernel⟩, List.mem_of_getElem? (i := 34) (by decide +kernel), List.mem_of_getElem? (i := 267) (by decide +kernel), List.mem_of_getElem? (i := 268) (by decide +kernel)⟩
theorem lw_p3 : lw_okq (⟨"MomentDesk$Big", "addSize", "(LMomentDesk$Big;)V"⟩, 3) := ⟨⟨by decide +kernel, by decide +kernel⟩, List.mem_of_getElem? (i := 34) (by decide +kernel), List.mem_of_getElem? (i := 303) (by decide +kernel), List.mem_of_getElem? (i := 304) (by decide +kernel)⟩
theorem lw_p4 : lw_okq (⟨"MomentDesk$Big", "takeSizeFrom", "(LMomentDesk$Big;)V"⟩, 3) := ⟨⟨by decide +kernel, by decide +kernel⟩, List.mem_of_getElem? (i := 34) (by decide +kernel), List.mem_of_getElem? (i := 318) (by decide +kernel), List.mem_of_getElem? (i := 319) (by decide +kernel)⟩
theorem lw_p5 : lw_okq (⟨"MomentDesk", "takesSumAsMoment", "(I)Z"⟩, 10) := ⟨⟨by decide +kernel, by decide +kernel⟩, List.mem_of_getElem? (i := 13) (by decide +kernel), List.mem_of_getElem? (i := 322) (by decide +kernel), List.mem_of_getElem? (i := 323) (by decide +kernel)⟩
theorem lw_p6 : lw_okq (⟨"MomentDesk$Polys", "setMinor", "(I)V"⟩, 6) := ⟨⟨by decide +kernel, by decide +kernel⟩, List.mem_of_getElem? (i := 27) (by decide +kernel), List.mem_of_getElem? (i := 377) (by decide +kernel), List.mem_of_getElem? (i := 378) (by decide +kernel)⟩
theorem lw_p7 : lw_okq (⟨"MomentDesk", "layRuleA", "(LMomentDesk$Polys;I)I"⟩, 10) := ⟨⟨by decide +kernel, by decide +kernel⟩, List.mem_of_getElem? (i := 13) (by decide +kernel), List.mem_of_getElem? (i := 423) (by decide +kernel), List.mem_of_getElem? (i := 424) (by decide +kernel)⟩
theorem lw_p8 : lw_okq (⟨"MomentDesk", "layRuleB", "(LMomentDesk$Polys;I)I"⟩, 10) := ⟨⟨by decide +kernel, by decide +kernel⟩, List.mem_of_getElem? (i := 13) (by decide +kernel), List.mem_of_getElem? (i := 432) (by decide +kernel), List.mem_of_getElem? (i := 433) (by decide +kernel)⟩
theorem lw_p9 : lw_okq (⟨"MomentDesk", "setQuotient", "(LMomentDesk$Polys;II)V"⟩, 10) := ⟨⟨by decide +kernel, by decide +kernel⟩, List.mem_of_getElem? (i := 13) (by decide +kernel), List.mem_of_getElem? (i := 509) (by decide +kernel), List.mem_of_getElem? (i := 510) (by decide +kernel)⟩
theorem lw_p10 : lw_okq (⟨"MomentDesk$Hand", "bringToLowest", "()V"⟩, 5) := ⟨⟨by decide +kernel, by decide +kernel⟩, List.mem_of_getElem? (i := 114) (by decide +kernel), List.mem_of_getElem? (i := 528) (by decide +kernel), List.mem_of_getElem? (i := 529) (by decide +kernel)⟩
theorem lw_p11 : lw_okq (⟨"MomentDesk", "rootsBelow", "(LMomentDesk$Polys;III)I"⟩, 10) := ⟨⟨by decide +kernel, by decide +kernel⟩, List.mem_of_getElem? (i := 13) (by decide +kernel), List.mem_of_getElem? (i := 570) (by decide +kernel), List.mem_of_getElem? (i := 571) (by decide +kernel)⟩
theorem lw_p12 : lw_okq (⟨"MomentDesk", "isKeptAt", "(I)Z"⟩, 10) := ⟨⟨by decide +kernel, by decide +kernel⟩, List.mem_of_getElem? (i := 13) (by decide +kernel), List.mem_of_getElem? (i := 606) (by decide +kernel), List.mem_of_getElem? (i := 607) (by decide +kernel)⟩
theorem lw_p13 : lw_okq (⟨"MomentDesk", "isSamePoly", "(LMomentDesk$Polys;LMomentDesk$Polys;I)Z"⟩, 10) := ⟨⟨by decide +kernel, by decide +kernel⟩, List.mem_of_getElem? (i := 13) (by decide +kernel), List.mem_of_getElem? (i := 614) (by decide +kernel), List.mem_of_getElem? (i := 615) (by decide +kernel)⟩
theorem lw_p14 : lw_okq (⟨"MomentDeskModel", "set", "(IJ)V"⟩, 17) := ⟨⟨by decide +kernel, by decide +kernel⟩, List.mem_of_getElem? (i := 618) (by decide +kernel), List.mem_of_getElem? (i := 624) (by decide +kernel), List.mem_of_getElem? (i := 625) (by decide +kernel)⟩
theorem lw_p15 : lw_okq (⟨"MomentDeskModel", "begin", "(I)V"⟩, 17) := ⟨⟨by decide +kernel, by decide +kernel⟩, List.mem_of_getElem? (i := 618) (by decide +kernel), List.mem_of_getElem? (i := 685) (by decide +kernel), List.mem_of_getElem? (i := 686) (by decide +kernel)⟩
def lw_privs_1 : List (MethodName × Nat) := [(⟨"MomentDesk$Big", "trim", "()V"⟩, 3), (⟨"MomentDesk", "addMomentTimes", "(IJ)V"⟩, 10), (⟨"MomentDesk$Big", "makeRoom", "(I)V"⟩, 3), (⟨"MomentDesk$Big", "addSize", "(LMomentDesk$Big;)V"⟩, 3), (⟨"MomentDesk$Big", "takeSizeFrom", "(LMomentDesk$Big;)V"⟩, 3), (⟨"MomentDesk", "takesSumAsMoment", "(I)Z"⟩, 10), (⟨"MomentDesk$Polys", "setMinor", "(I)V"⟩, 6), (⟨"MomentDesk", "layRuleA", "(LMomentDesk$Polys;I)I"⟩, 10), (⟨"MomentDesk", "layRuleB", "(LMomentDesk$Polys;I)I"⟩, 10), (⟨"MomentDesk", "setQuotient", "(LMomentDesk$Polys;II)V"⟩, 10), (⟨"MomentDesk$Hand", "bringToLowest", "()V"⟩, 5), (⟨"MomentDesk", "rootsBelow", "(LMomentDesk$Polys;III)I"⟩, 10), (⟨"MomentDesk", "isKeptAt", "(I)Z"⟩, 10), (⟨"MomentDesk", "isSamePoly", "(LMomentDesk$Polys;LMomentDesk$Polys;I)Z"⟩, 10), (⟨"MomentDeskModel", "set", "(IJ)V"⟩, 17), (⟨"MomentDeskModel", "begin", "(I)V"⟩, 17)]
theorem lw_r1 : ∀ q ∈ lw_privs_1, lw_okq q := List.forall_mem_cons.mpr ⟨lw_p0, List.forall_mem_cons.mpr ⟨lw_p1, List.forall_mem_cons.mpr ⟨lw_p2, List.forall_mem_cons.mpr ⟨lw_p3, List.forall_mem_cons.mpr ⟨lw_p4, List.forall_mem_cons.mpr ⟨lw_p5, List.forall_mem_cons.mpr ⟨lw_p6, List.forall_mem_cons.mpr ⟨lw_p7, List.forall_mem_cons.mpr ⟨lw_p8, List.forall_mem_cons.mpr ⟨lw_p9, List.forall_mem_cons.mpr ⟨lw_p10, List.forall_mem_cons.mpr ⟨lw_p11, List.forall_mem_cons.mpr ⟨lw_p12, List.forall_mem_cons.mpr ⟨lw_p13, List.forall_mem_cons.mpr ⟨lw_p14, List.forall_mem_cons.mpr ⟨lw_p15, fun _ h => absurd h List.not_mem_nil⟩⟩⟩⟩⟩⟩⟩⟩⟩⟩⟩⟩⟩⟩⟩⟩
theorem lw_p16 : lw_okq (⟨"MomentDeskModel", "addWeight", "(IJ)V"⟩, 17) := ⟨⟨by decide +kernel, by decide +kernel⟩, List.mem_of_getElem? (i := 618) (by decide +kernel), List.mem_of_getElem? (i := 700) (by decide +kernel), List.mem_of_getElem? (i := 701) (by decide +kernel)⟩
theorem lw_p17 : lw_okq (⟨"MomentDeskModel", "times", "(IJ)V"⟩, 17) := ⟨⟨by decide +kernel, by decide +kernel⟩, List.mem_of_getElem? (i := 618) (by decide +kernel), List.mem_of_getElem? (i := 732) (by decide +kernel), List.mem_of_getElem? (i := 733) (by decide +kernel)⟩
theorem lw_p18 : lw_okq (⟨"MomentDeskModel", "multiply", "(III)V"⟩, 17) := ⟨⟨by decide +kernel, by decide +kernel⟩, List.mem_of_getElem? (i := 618) (by decide +kernel), List.mem_of_getElem? (i := 736) (by decide +kernel), List.mem_of_getElem? (i := 737) (by decide +kernel)⟩
theorem lw_p19 : lw_okq (⟨"MomentDeskModel", "cut", "(I)V"⟩, 17) := ⟨⟨by decide +kernel, by decide +kernel⟩, List.mem_of_getElem? (i := 618) (by decide +kernel), List.mem_of_getElem? (i := 740) (by decide +kernel), List.mem_of_getElem? (i := 741) (by decide +kernel)⟩
theorem lw_p20 : lw_okq (⟨"MomentDeskModel", "copy", "(II)V"⟩, 17) := ⟨⟨by decide +kernel, by decide +kernel⟩, List.mem_of_getElem? (i := 618) (by decide +kernel), List.mem_of_getElem? (i := 744) (by decide +kernel), List.mem_of_getElem? (i := 745) (by decide +kernel)⟩
theorem lw_p21 : lw_okq (⟨"MomentDeskModel", "add", "(IIII)V"⟩, 17) := ⟨⟨by decide +kernel, by decide +kernel⟩, List.mem_of_getElem? (i := 618) (by decide +kernel), List.mem_of_getElem? (i := 748) (by decide +kernel), List.mem_of_getElem? (i := 749) (by decide +kernel)⟩
theorem lw_p22 : lw_okq (⟨"MomentDeskModel", "join", "(III)V"⟩, 17) := ⟨⟨by decide +kernel, by decide +kernel⟩, List.mem_of_getElem? (i := 618) (by decide +kernel), List.mem_of_getElem? (i := 752) (by decide +kernel), List.mem_of_getElem? (i := 753) (by decide +kernel)⟩
theorem lw_p23 : lw_okq (⟨"MomentDeskModel", "limb", "(II)I"⟩, 17) := ⟨⟨by decide +kernel, by decide +kernel⟩, List.mem_of_getElem? (i := 618) (by decide +kernel), List.mem_of_getElem? (i := 756) (by decide +kernel), List.mem_of_getElem? (i := 757) (by decide +kernel)⟩
theorem lw_p24 : lw_okq (⟨"MomentDeskModel", "compare", "(II)I"⟩, 17) := ⟨⟨by decide +kernel, by decide +kernel⟩, List.mem_of_getElem? (i := 618) (by decide +kernel), List.mem_of_getElem? (i := 761) (by decide +kernel), List.mem_of_getElem? (i := 762) (by decide +kernel)⟩
theorem lw_p25 : lw_okq (⟨"MomentDeskModel", "less", "(III)V"⟩, 17) := ⟨⟨by decide +kernel, by decide +kernel⟩, List.mem_of_getElem? (i := 618) (by decide +kernel), List.mem_of_getElem? (i := 765) (by decide +kernel), List.mem_of_getElem? (i := 766) (by decide +kernel)⟩
theorem lw_p26 : lw_okq (⟨"MomentDeskModel", "isMoment", "(II)Z"⟩, 17) := ⟨⟨by decide +kernel, by decide +kernel⟩, List.mem_of_getElem? (i := 618) (by decide +kernel), List.mem_of_getElem? (i := 770) (by decide +kernel), List.mem_of_getElem? (i := 771) (by decide +kernel)⟩
theorem lw_p27 : lw_okq (⟨"MomentDeskModel", "bitsOf", "(I)I"⟩, 17) := ⟨⟨by decide +kernel, by decide +kernel⟩, List.mem_of_getElem? (i := 618) (by decide +kernel), List.mem_of_getElem? (i := 774) (by decide +kernel), List.mem_of_getElem? (i := 775) (by decide +kernel)⟩
theorem lw_p28 : lw_okq (⟨"MomentDeskModel", "changeTo", "(I)V"⟩, 17) := ⟨⟨by decide +kernel, by decide +kernel⟩, List.mem_of_getElem? (i := 618) (by decide +kernel), List.mem_of_getElem? (i := 778) (by decide +kernel), List.mem_of_getElem? (i := 779) (by decide +kernel)⟩
theorem lw_p29 : lw_okq (⟨"MomentDeskModel", "lay", "(II)I"⟩, 17) := ⟨⟨by decide +kernel, by decide +kernel⟩, List.mem_of_getElem? (i := 618) (by decide +kernel), List.mem_of_getElem? (i := 790) (by decide +kernel), List.mem_of_getElem? (i := 791) (by decide +kernel)⟩
theorem lw_p30 : lw_okq (⟨"MomentDeskModel", "shorten", "(II)V"⟩, 17) := ⟨⟨by decide +kernel, by decide +kernel⟩, List.mem_of_getElem? (i := 618) (by decide +kernel), List.mem_of_getElem? (i := 794) (by decide +kernel), List.mem_of_getElem? (i := 795) (by decide +kernel)⟩
theorem lw_p31 : lw_okq (⟨"MomentDeskModel", "findCommon", "(II)V"⟩, 17) := ⟨⟨by decide +kernel, by decide +kernel⟩, List.mem_of_getElem? (i := 618) (by decide +kernel), List.mem_of_getElem? (i := 798) (by decide +kernel), List.mem_of_getElem? (i := 799) (by decide +kernel)⟩
def lw_privs_2 : List (MethodName × Nat) := [(⟨"MomentDeskModel", "addWeight", "(IJ)V"⟩, 17), (⟨"MomentDeskModel", "times", "(IJ)V"⟩, 17), (⟨"MomentDeskModel", "multiply", "(III)V"⟩, 17), (⟨"MomentDeskModel", "cut", "(I)V"⟩, 17), (⟨"MomentDeskModel", "copy", "(II)V"⟩, 17), (⟨"MomentDeskModel", "add", "(IIII)V"⟩, 17), (⟨"MomentDeskModel", "join", "(III)V"⟩, 17), (⟨"MomentDeskModel", "limb", "(II)I"⟩, 17), (⟨"MomentDeskModel", "compare", "(II)I"⟩, 17), (⟨"MomentDeskModel", "less", "(III)V"⟩, 17), (⟨"MomentDeskModel", "isMoment", "(II)Z"⟩, 17), (⟨"MomentDeskModel", "bitsOf", "(I)I"⟩, 17), (⟨"MomentDeskModel", "changeTo", "(I)V"⟩, 17), (⟨"MomentDeskModel", "lay", "(II)I"⟩, 17), (⟨"MomentDeskModel", "shorten", "(II)V"⟩, 17), (⟨"MomentDeskModel", "findCommon", "(II)V"⟩, 17)]
theorem lw_r2 : ∀ q ∈ lw_privs_2, lw_okq q := List.forall_mem_cons.mpr ⟨lw_p16, List.forall_mem_cons.mpr ⟨lw_p17, List.forall_mem_cons.mpr ⟨lw_p18, List.forall_mem_cons.mpr ⟨lw_p19, List.forall_mem_cons.mpr ⟨lw_p20, List.forall_mem_cons.mpr ⟨lw_p21, List.forall_mem_cons.mpr ⟨lw_p22, List.forall_mem_cons.mpr ⟨lw_p23, List.forall_mem_cons.mpr ⟨lw_p24, List.forall_mem_cons.mpr ⟨lw_p25, List.forall_mem_cons.mpr ⟨lw_p26, List.forall_mem_cons.mpr ⟨lw_p27, List.forall_mem_cons.mpr ⟨lw_p28, List.forall_mem_cons.mpr ⟨lw_p29, List.forall_mem_cons.mpr ⟨lw_p30, List.forall_mem_cons.mpr ⟨lw_p31, fun _ h => absurd h List.not_mem_nil⟩⟩⟩⟩⟩⟩⟩⟩⟩⟩⟩⟩⟩⟩⟩⟩
theorem lw_p32 : lw_okq (⟨"MomentDeskModel", "isEven", "(I)Z"⟩, 17) := ⟨⟨by decide +kernel, by decide +kernel⟩, List.mem_of_getElem? (i := 618) (by decide +kernel), List.mem_of_getElem? (i := 802) (by decide +kernel), List.mem_of_getElem? (i := 803) (by decide +kernel)⟩
theorem lw_p33 : lw_okq (⟨"MomentDeskModel", "halve", "(I)V"⟩, 17) := ⟨⟨by decide +kernel, by decide +kernel⟩, List.mem_of_getElem? (i := 618) (by decide +kernel), List.mem_of_getElem? (i := 806) (by decide +kernel), List.mem_of_getElem? (i := 807) (by decide +kernel)⟩
theorem lw_p34 : lw_okq (⟨"MomentDeskModel", "twice", "(II)V"⟩, 17) := ⟨⟨by decide +kernel, by decide +kernel⟩, List.mem_of_getElem? (i := 618) (by decide +kernel), List.mem_of_getElem? (i := 810) (by decide +kernel), List.mem_of_getElem? (i := 811) (by decide +kernel)⟩
theorem lw_p35 : lw_okq (⟨"MomentDeskModel", "divide", "(I)V"⟩, 17) := ⟨⟨by decide +kernel, by decide +kernel⟩, List.mem_of_getElem? (i := 618) (by decide +kernel), List.mem_of_getElem? (i := 814) (by decide +kernel), List.mem_of_getElem? (i := 815) (by decide +kernel)⟩
theorem lw_p36 : lw_okq (⟨"MomentDeskModel", "hasWorth", "(I)Z"⟩, 17) := ⟨⟨by decide +kernel, by decide +kernel⟩, List.mem_of_getElem? (i := 618) (by decide +kernel), List.mem_of_getElem? (i := 826) (by decide +kernel), List.mem_of_getElem? (i := 827) (by decide +kernel)⟩
theorem lw_p37 : lw_okq (⟨"MomentDeskModel", "hasPolynomial", "(I)Z"⟩, 17) := ⟨⟨by decide +kernel, by decide +kernel⟩, List.mem_of_getElem? (i := 618) (by decide +kernel), List.mem_of_getElem? (i := 830) (by decide +kernel), List.mem_of_getElem? (i := 831) (by decide +kernel)⟩
theorem lw_p38 : lw_okq (⟨"MomentDeskModel", "top", "()I"⟩, 17) := ⟨⟨by decide +kernel, by decide +kernel⟩, List.mem_of_getElem? (i := 618) (by decide +kernel), List.mem_of_getElem? (i := 835) (by decide +kernel), List.mem_of_getElem? (i := 836) (by decide +kernel)⟩
theorem lw_p39 : lw_okq (⟨"MomentDeskModel", "worthOf", "(II)V"⟩, 17) := ⟨⟨by decide +kernel, by decide +kernel⟩, List.mem_of_getElem? (i := 618) (by decide +kernel), List.mem_of_getElem? (i := 839) (by decide +kernel), List.mem_of_getElem? (i := 840) (by decide +kernel)⟩
theorem lw_p40 : lw_okq (⟨"MomentDeskModel", "determinant", "(III)V"⟩, 17) := ⟨⟨by decide +kernel, by decide +kernel⟩, List.mem_of_getElem? (i := 618) (by decide +kernel), List.mem_of_getElem? (i := 843) (by decide +kernel), List.mem_of_getElem? (i := 844) (by decide +kernel)⟩
theorem lw_p41 : lw_okq (⟨"MomentDeskModel", "parity", "(I)I"⟩, 17) := ⟨⟨by decide +kernel, by decide +kernel⟩, List.mem_of_getElem? (i := 618) (by decide +kernel), List.mem_of_getElem? (i := 847) (by decide +kernel), List.mem_of_getElem? (i := 848) (by decide +kernel)⟩
theorem lw_p42 : lw_okq (⟨"MomentDeskModel", "nextOrder", "(I)Z"⟩, 17) := ⟨⟨by decide +kernel, by decide +kernel⟩, List.mem_of_getElem? (i := 618) (by decide +kernel), List.mem_of_getElem? (i := 851) (by decide +kernel), List.mem_of_getElem? (i := 852) (by decide +kernel)⟩
theorem lw_p43 : lw_okq (⟨"MomentDeskModel", "swap", "(II)V"⟩, 17) := ⟨⟨by decide +kernel, by decide +kernel⟩, List.mem_of_getElem? (i := 618) (by decide +kernel), List.mem_of_getElem? (i := 855) (by decide +kernel), List.mem_of_getElem? (i := 856) (by decide +kernel)⟩
theorem lw_p44 : lw_okq (⟨"MomentDeskModel", "number", "(III)V"⟩, 17) := ⟨⟨by decide +kernel, by decide +kernel⟩, List.mem_of_getElem? (i := 618) (by decide +kernel), List.mem_of_getElem? (i := 867) (by decide +kernel), List.mem_of_getElem? (i := 868) (by decide +kernel)⟩
theorem lw_p45 : lw_okq (⟨"MomentDeskModel", "value", "(IJJI)V"⟩, 17) := ⟨⟨by decide +kernel, by decide +kernel⟩, List.mem_of_getElem? (i := 618) (by decide +kernel), List.mem_of_getElem? (i := 882) (by decide +kernel), List.mem_of_getElem? (i := 883) (by decide +kernel)⟩
theorem lw_p46 : lw_okq (⟨"MomentDeskModel", "of", "(III)V"⟩, 17) := ⟨⟨by decide +kernel, by decide +kernel⟩, List.mem_of_getElem? (i := 618) (by decide +kernel), List.mem_of_getElem? (i := 890) (by decide +kernel), List.mem_of_getElem? (i := 891) (by decide +kernel)⟩
theorem lw_p47 : lw_okq (⟨"MomentDeskModel", "worthSign", "(I)I"⟩, 17) := ⟨⟨by decide +kernel, by decide +kernel⟩, List.mem_of_getElem? (i := 618) (by decide +kernel), List.mem_of_getElem? (i := 898) (by decide +kernel), List.mem_of_getElem? (i := 899) (by decide +kernel)⟩
def lw_privs_3 : List (MethodName × Nat) := [(⟨"MomentDeskModel", "isEven", "(I)Z"⟩, 17), (⟨"MomentDeskModel", "halve", "(I)V"⟩, 17), (⟨"MomentDeskModel", "twice", "(II)V"⟩, 17), (⟨"MomentDeskModel", "divide", "(I)V"⟩, 17), (⟨"MomentDeskModel", "hasWorth", "(I)Z"⟩, 17), (⟨"MomentDeskModel", "hasPolynomial", "(I)Z"⟩, 17), (⟨"MomentDeskModel", "top", "()I"⟩, 17), (⟨"MomentDeskModel", "worthOf", "(II)V"⟩, 17), (⟨"MomentDeskModel", "determinant", "(III)V"⟩, 17), (⟨"MomentDeskModel", "parity", "(I)I"⟩, 17), (⟨"MomentDeskModel", "nextOrder", "(I)Z"⟩, 17), (⟨"MomentDeskModel", "swap", "(II)V"⟩, 17), (⟨"MomentDeskModel", "number", "(III)V"⟩, 17), (⟨"MomentDeskModel", "value", "(IJJI)V"⟩, 17), (⟨"MomentDeskModel", "of", "(III)V"⟩, 17), (⟨"MomentDeskModel", "worthSign", "(I)I"⟩, 17)]
theorem lw_r3 : ∀ q ∈ lw_privs_3, lw_okq q := List.forall_mem_cons.mpr ⟨lw_p32, List.forall_mem_cons.mpr ⟨lw_p33, List.forall_mem_cons.mpr ⟨lw_p34, List.forall_mem_cons.mpr ⟨lw_p35, List.forall_mem_cons.mpr ⟨lw_p36, List.forall_mem_cons.mpr ⟨lw_p37, List.forall_mem_cons.mpr ⟨lw_p38, List.forall_mem_cons.mpr ⟨lw_p39, List.forall_mem_cons.mpr ⟨lw_p40, List.forall_mem_cons.mpr ⟨lw_p41, List.forall_mem_cons.mpr ⟨lw_p42, List.forall_mem_cons.mpr ⟨lw_p43, List.forall_mem_cons.mpr ⟨lw_p44, List.forall_mem_cons.mpr ⟨lw_p45, List.forall_mem_cons.mpr ⟨lw_p46, List.forall_mem_cons.mpr ⟨lw_p47, fun _ h => absurd h List.not_mem_nil⟩⟩⟩⟩⟩⟩⟩⟩⟩⟩⟩⟩⟩⟩⟩⟩
theorem lw_p48 : lw_okq (⟨"MomentDeskModel", "leftOnce", "(I)V"⟩, 17) := ⟨⟨by decide +kernel, by decide +kernel⟩, List.mem_of_getElem? (i := 618) (by decide +kernel), List.mem_of_getElem? (i := 912) (by decide +kernel), List.mem_of_getElem? (i := 913) (by decide +kernel)⟩
theorem lw_p49 : lw_okq (⟨"MomentDeskModel", "areAbove", "(I)Z"⟩, 17) := ⟨⟨by decide +kernel, by decide +kernel⟩, List.mem_of_getElem? (i := 618) (by decide +kernel), List.mem_of_getElem? (i := 935) (by decide +kernel), List.mem_of_getElem? (i := 936) (by decide +kernel)⟩
theorem lw_p50 : lw_okq (⟨"MomentDeskModel", "rootsBelow", "(IJJ)I"⟩, 17) := ⟨⟨by decide +kernel, by decide +kernel⟩, List.mem_of_getElem? (i := 618) (by decide +kernel), List.mem_of_getElem? (i := 939) (by decide +kernel), List.mem_of_getElem? (i := 940) (by decide +kernel)⟩
theorem lw_p51 : lw_okq (⟨"MomentDeskModel", "isKept", "(I)Z"⟩, 17) := ⟨⟨by decide +kernel, by decide +kernel⟩, List.mem_of_getElem? (i := 618) (by decide +kernel), List.mem_of_getElem? (i := 975) (by decide +kernel), List.mem_of_getElem? (i := 976) (by decide +kernel)⟩
theorem lw_p52 : lw_okq (⟨"MomentDeskModel", "take", "(I)V"⟩, 17) := ⟨⟨by decide +kernel, by decide +kernel⟩, List.mem_of_getElem? (i := 618) (by decide +kernel), List.mem_of_getElem? (i := 979) (by decide +kernel), List.mem_of_getElem? (i := 980) (by decide +kernel)⟩
theorem lw_p53 : lw_okq (⟨"MomentDeskModel", "isOther", "(II)Z"⟩, 17) := ⟨⟨by decide +kernel, by decide +kernel⟩, List.mem_of_getElem? (i := 618) (by decide +kernel), List.mem_of_getElem? (i := 987) (by decide +kernel), List.mem_of_getElem? (i := 988) (by decide +kernel)⟩
def lw_privs_4 : List (MethodName × Nat) := [(⟨"MomentDeskModel", "leftOnce", "(I)V"⟩, 17), (⟨"MomentDeskModel", "areAbove", "(I)Z"⟩, 17), (⟨"MomentDeskModel", "rootsBelow", "(IJJ)I"⟩, 17), (⟨"MomentDeskModel", "isKept", "(I)Z"⟩, 17), (⟨"MomentDeskModel", "take", "(I)V"⟩, 17), (⟨"MomentDeskModel", "isOther", "(II)Z"⟩, 17)]
theorem lw_r4 : ∀ q ∈ lw_privs_4, lw_okq q := List.forall_mem_cons.mpr ⟨lw_p48, List.forall_mem_cons.mpr ⟨lw_p49, List.forall_mem_cons.mpr ⟨lw_p50, List.forall_mem_cons.mpr ⟨lw_p51, List.forall_mem_cons.mpr ⟨lw_p52, List.forall_mem_cons.mpr ⟨lw_p53, fun _ h => absurd h List.not_mem_nil⟩⟩⟩⟩⟩⟩
def lw_privs : List (MethodName × Nat) := lw_privs_1 ++ (lw_privs_2 ++ (lw_privs_3 ++ (lw_privs_4)))
def lw_tbl : List Cond := k2_sels lw_privs ++ tables_1
theorem lw_privs_ok : ∀ q ∈ lw_privs, lw_okq q := by
  show ∀ q ∈ lw_privs_1 ++ (lw_privs_2 ++ (lw_privs_3 ++ (lw_privs_4))), lw_okq q
  exact List.forall_mem_append.mpr ⟨lw_r1, List.forall_mem_append.mpr ⟨lw_r2, List.forall_mem_append.mpr ⟨lw_r3, lw_r4⟩⟩⟩
end
section
def RX0 : String := "MomentDesk$Big"
def TX0 : u_T := fun k => match k with
  | 0 => ("MomentDesk$Big", "parts", "[I", false)
  | 1 => ("MomentDesk$Big", "size", "I", false)
  | _ => ("MomentDesk$Big", "negative", "Z", false)
def tyX0 : Nat → FieldType := fun k => match k with
  | 0 => .array .int
  | 1 => .int
  | _ => .boolean
abbrev wsX00 : List Cond := u_ws RX0 TX0 3
theorem nmX0 : ∀ a, a < 3 → ∀ b, b < 3 → a ≠ b → (TX0 a).2.1 ≠ (TX0 b).2.1 := by decide +kernel
theorem tyX0_ok : ∀ k, k < 3 → parseFieldDescriptor (TX0 k).2.2.1 = some (tyX0 k) := by decide +kernel
abbrev cX0_init : ByteArray := prog_2_method_1_code
def yX0_init : MethodName := ⟨RX0, "<init>", "(I)V"⟩
abbrev cX0_setLong : ByteArray := prog_2_method_2_code
def yX0_setLong : MethodName := ⟨RX0, "setLong", "(J)V"⟩
abbrev cX0_setBig : ByteArray := prog_2_method_3_code
def yX0_setBig : MethodName := ⟨RX0, "setBig", "(LMomentDesk$Big;)V"⟩
abbrev cX0_toLong : ByteArray := prog_2_method_4_code
def yX0_toLong : MethodName := ⟨RX0, "toLong", "()J"⟩
abbrev cX0_signum : ByteArray := prog_2_method_5_code
def yX0_signum : MethodName := ⟨RX0, "signum", "()I"⟩
abbrev cX0_negate : ByteArray := prog_2_method_6_code
def yX0_negate : MethodName := ⟨RX0, "negate", "()V"⟩
abbrev cX0_dropSign : ByteArray := prog_2_method_7_code
def yX0_dropSign : MethodName := ⟨RX0, "dropSign", "()V"⟩
abbrev cX0_bitLength : ByteArray := prog_2_method_8_code
def yX0_bitLength : MethodName := ⟨RX0, "bitLength", "()I"⟩
abbrev cX0_sixteenBits : ByteArray := prog_2_method_9_code
def yX0_sixteenBits : MethodName := ⟨RX0, "sixteenBits", "(I)I"⟩
abbrev cX0_twos : ByteArray := prog_2_method_10_code
def yX0_twos : MethodName := ⟨RX0, "twos", "()I"⟩
abbrev cX0_compareSize : ByteArray := prog_2_method_11_code
def yX0_compareSize : MethodName := ⟨RX0, "compareSize", "(LMomentDesk$Big;)I"⟩
abbrev cX0_take : ByteArray := prog_2_method_12_code
def yX0_take : MethodName := ⟨RX0, "take", "(LMomentDesk$Big;)V"⟩
abbrev cX0_addProduct : ByteArray := prog_2_method_13_code
def yX0_addProduct : MethodName := ⟨RX0, "addProduct", "(LMomentDesk$Big;LMomentDesk$Big;LMomentDesk$Big;)V"⟩
abbrev cX0_addSigned : ByteArray := prog_2_method_14_code
def yX0_addSigned : MethodName := ⟨RX0, "addSigned", "(LMomentDesk$Big;Z)V"⟩
abbrev cX0_addSize : ByteArray := prog_2_method_15_code
def yX0_addSize : MethodName := ⟨RX0, "addSize", "(LMomentDesk$Big;)V"⟩
abbrev cX0_takeSize : ByteArray := prog_2_method_16_code
def yX0_takeSize : MethodName := ⟨RX0, "takeSize", "(LMomentDesk$Big;)V"⟩
abbrev cX0_takeSizeFrom : ByteArray := prog_2_method_17_code
def yX0_takeSizeFrom : MethodName := ⟨RX0, "takeSizeFrom", "(LMomentDesk$Big;)V"⟩
abbrev cX0_setProduct : ByteArray := prog_2_method_18_code
def yX0_setProduct : MethodName := ⟨RX0, "setProduct", "(LMomentDesk$Big;LMomentDesk$Big;)V"⟩
abbrev cX0_times : ByteArray := prog_2_method_19_code
def yX0_times : MethodName := ⟨RX0, "times", "(LMomentDesk$Big;LMomentDesk$Big;)V"⟩
abbrev cX0_timesInt : ByteArray := prog_2_method_20_code
def yX0_timesInt : MethodName := ⟨RX0, "timesInt", "(I)V"⟩
abbrev cX0_shiftRight : ByteArray := prog_2_method_21_code
def yX0_shiftRight : MethodName := ⟨RX0, "shiftRight", "(I)V"⟩
abbrev cX0_divideWhole : ByteArray := prog_2_method_22_code
def yX0_divideWhole : MethodName := ⟨RX0, "divideWhole", "(LMomentDesk$Big;LMomentDesk$Big;)V"⟩
abbrev cX0_divideByOdd : ByteArray := prog_2_method_23_code
def yX0_divideByOdd : MethodName := ⟨RX0, "divideByOdd", "(LMomentDesk$Big;)V"⟩
abbrev cX0_inverseOf : ByteArray := prog_2_method_24_code
def yX0_inverseOf : MethodName := ⟨RX0, "inverseOf", "(I)I"⟩
abbrev cX0_trim : ByteArray := prog_2_method_25_code
def yX0_trim : MethodName := ⟨RX0, "trim", "()V"⟩
abbrev cX0_makeRoom : ByteArray := prog_2_method_26_code
def yX0_makeRoom : MethodName := ⟨RX0, "makeRoom", "(I)V"⟩
def RX1 : String := "MomentDesk$Hand"
def TX1 : u_T := fun k => match k with
  | 0 => ("MomentDesk$Hand", "upper", "LMomentDesk$Big;", true)
  | 1 => ("MomentDesk$Hand", "lower", "LMomentDesk$Big;", true)
  | 2 => ("MomentDesk$Hand", "left", "LMomentDesk$Big;", true)
  | 3 => ("MomentDesk$Hand", "right", "LMomentDesk$Big;", true)
  | _ => ("MomentDesk$Hand", "isLowest", "Z", false)
def tyX1 : Nat → FieldType := fun k => match k with
  | 0 => .object "MomentDesk$Big"
  | 1 => .object "MomentDesk$Big"
  | 2 => .object "MomentDesk$Big"
  | 3 => .object "MomentDesk$Big"
  | _ => .boolean
abbrev wsX10 : List Cond := u_ws RX1 TX1 5
theorem nmX1 : ∀ a, a < 5 → ∀ b, b < 5 → a ≠ b → (TX1 a).2.1 ≠ (TX1 b).2.1 := by decide +kernel
theorem tyX1_ok : ∀ k, k < 5 → parseFieldDescriptor (TX1 k).2.2.1 = some (tyX1 k) := by decide +kernel
abbrev cX1_init : ByteArray := prog_3_method_1_code
def yX1_init : MethodName := ⟨RX1, "<init>", "()V"⟩
abbrev cX1_layWhole : ByteArray := prog_3_method_2_code
def yX1_layWhole : MethodName := ⟨RX1, "layWhole", "(J)I"⟩
abbrev cX1_lay : ByteArray := prog_3_method_3_code
def yX1_lay : MethodName := ⟨RX1, "lay", "(LMomentDesk$Big;LMomentDesk$Big;)I"⟩
abbrev cX1_signAnswer : ByteArray := prog_3_method_4_code
def yX1_signAnswer : MethodName := ⟨RX1, "signAnswer", "()I"⟩
abbrev cX1_lowestPart : ByteArray := prog_3_method_5_code
def yX1_lowestPart : MethodName := ⟨RX1, "lowestPart", "(I)LMomentDesk$Big;"⟩
abbrev cX1_bringToLowest : ByteArray := prog_3_method_6_code
def yX1_bringToLowest : MethodName := ⟨RX1, "bringToLowest", "()V"⟩
abbrev cX1_greatestOfOdd : ByteArray := prog_3_method_7_code
def yX1_greatestOfOdd : MethodName := ⟨RX1, "greatestOfOdd", "(LMomentDesk$Big;LMomentDesk$Big;)LMomentDesk$Big;"⟩
def RX2 : String := "MomentDesk$Polys"
def TX2 : u_T := fun k => match k with
  | 0 => ("MomentDesk$Polys", "minors", "[LMomentDesk$Big;", true)
  | 1 => ("MomentDesk$Polys", "moments", "[LMomentDesk$Big;", true)
  | 2 => ("MomentDesk$Polys", "spare", "LMomentDesk$Big;", true)
  | 3 => ("MomentDesk$Polys", "part", "LMomentDesk$Big;", true)
  | 4 => ("MomentDesk$Polys", "last", "I", false)
  | _ => ("MomentDesk$Polys", "top", "I", false)
def tyX2 : Nat → FieldType := fun k => match k with
  | 0 => .array (.object "MomentDesk$Big")
  | 1 => .array (.object "MomentDesk$Big")
  | 2 => .object "MomentDesk$Big"
  | 3 => .object "MomentDesk$Big"
  | 4 => .int
  | _ => .int
abbrev wsX20 : List Cond := u_ws RX2 TX2 6
theorem nmX2 : ∀ a, a < 6 → ∀ b, b < 6 → a ≠ b → (TX2 a).2.1 ≠ (TX2 b).2.1 := by decide +kernel
theorem tyX2_ok : ∀ k, k < 6 → parseFieldDescriptor (TX2 k).2.2.1 = some (tyX2 k) := by decide +kernel
abbrev cX2_init : ByteArray := prog_4_method_1_code
def yX2_init : MethodName := ⟨RX2, "<init>", "()V"⟩
abbrev cX2_take : ByteArray := prog_4_method_2_code
def yX2_take : MethodName := ⟨RX2, "take", "([JI)V"⟩
abbrev cX2_setMinor : ByteArray := prog_4_method_3_code
def yX2_setMinor : MethodName := ⟨RX2, "setMinor", "(I)V"⟩
abbrev cX2_has : ByteArray := prog_4_method_4_code
def yX2_has : MethodName := ⟨RX2, "has", "(I)Z"⟩
abbrev cX2_hasWorth : ByteArray := prog_4_method_5_code
def yX2_hasWorth : MethodName := ⟨RX2, "hasWorth", "(I)Z"⟩
abbrev cX2_determinant : ByteArray := prog_4_method_6_code
def yX2_determinant : MethodName := ⟨RX2, "determinant", "(I)LMomentDesk$Big;"⟩
abbrev cX2_number : ByteArray := prog_4_method_7_code
def yX2_number : MethodName := ⟨RX2, "number", "(II)LMomentDesk$Big;"⟩
abbrev cX2_worthSign : ByteArray := prog_4_method_8_code
def yX2_worthSign : MethodName := ⟨RX2, "worthSign", "(I)I"⟩
abbrev cX2_goodWorths : ByteArray := prog_4_method_9_code
def yX2_goodWorths : MethodName := ⟨RX2, "goodWorths", "()I"⟩
abbrev cX2_setOf : ByteArray := prog_4_method_10_code
def yX2_setOf : MethodName := ⟨RX2, "setOf", "(LMomentDesk$Big;II)V"⟩
abbrev cX2_evaluate : ByteArray := prog_4_method_11_code
def yX2_evaluate : MethodName := ⟨RX2, "evaluate", "(LMomentDesk$Big;III)V"⟩
def RX3 : String := "MomentDesk$Weights"
def TX3 : u_T := fun k => match k with
  | 0 => ("MomentDesk$Weights", "kind", "I", false)
  | 1 => ("MomentDesk$Weights", "last", "I", false)
  | 2 => ("MomentDesk$Weights", "points", "I", false)
  | 3 => ("MomentDesk$Weights", "changed", "Z", false)
  | 4 => ("MomentDesk$Weights", "weightAt", "[I", true)
  | 5 => ("MomentDesk$Weights", "moments", "[J", true)
  | 6 => ("MomentDesk$Weights", "polys", "LMomentDesk$Polys;", true)
  | _ => ("MomentDesk$Weights", "polysAreOld", "Z", false)
def tyX3 : Nat → FieldType := fun k => match k with
  | 0 => .int
  | 1 => .int
  | 2 => .int
  | 3 => .boolean
  | 4 => .array .int
  | 5 => .array .long
  | 6 => .object "MomentDesk$Polys"
  | _ => .boolean
abbrev wsX30 : List Cond := u_ws RX3 TX3 8
theorem nmX3 : ∀ a, a < 8 → ∀ b, b < 8 → a ≠ b → (TX3 a).2.1 ≠ (TX3 b).2.1 := by decide +kernel
theorem tyX3_ok : ∀ k, k < 8 → parseFieldDescriptor (TX3 k).2.2.1 = some (tyX3 k) := by decide +kernel
abbrev cX3_init : ByteArray := prog_5_method_1_code
def yX3_init : MethodName := ⟨RX3, "<init>", "()V"⟩
abbrev cX3_begin : ByteArray := prog_5_method_2_code
def yX3_begin : MethodName := ⟨RX3, "begin", "(I)V"⟩
abbrev cX3_addPoint : ByteArray := prog_5_method_3_code
def yX3_addPoint : MethodName := ⟨RX3, "addPoint", "(II)V"⟩
abbrev cX3_addToMoments : ByteArray := prog_5_method_4_code
def yX3_addToMoments : MethodName := ⟨RX3, "addToMoments", "(IJ)V"⟩
abbrev cX3_tellMoment : ByteArray := prog_5_method_5_code
def yX3_tellMoment : MethodName := ⟨RX3, "tellMoment", "(II)V"⟩
abbrev cX3_momentsNotZero : ByteArray := prog_5_method_6_code
def yX3_momentsNotZero : MethodName := ⟨RX3, "momentsNotZero", "()I"⟩
abbrev cX3_spread : ByteArray := prog_5_method_7_code
def yX3_spread : MethodName := ⟨RX3, "spread", "(II)V"⟩
abbrev cX3_change : ByteArray := prog_5_method_8_code
def yX3_change : MethodName := ⟨RX3, "change", "([JI)V"⟩
abbrev cX3_copyFrom : ByteArray := prog_5_method_9_code
def yX3_copyFrom : MethodName := ⟨RX3, "copyFrom", "(LMomentDesk$Weights;)V"⟩
abbrev cX3_polys : ByteArray := prog_5_method_10_code
def yX3_polys : MethodName := ⟨RX3, "polys", "()LMomentDesk$Polys;"⟩
def RX4 : String := "MomentDesk"
def TX4 : u_T := fun k => match k with
  | 0 => ("MomentDesk", "weights", "LMomentDesk$Weights;", true)
  | 1 => ("MomentDesk", "kept", "[LMomentDesk$Weights;", true)
  | 2 => ("MomentDesk", "isKept", "[Z", true)
  | 3 => ("MomentDesk", "hand", "LMomentDesk$Hand;", true)
  | 4 => ("MomentDesk", "changedMoments", "[J", true)
  | 5 => ("MomentDesk", "quotient", "[LMomentDesk$Big;", true)
  | 6 => ("MomentDesk", "sum", "LMomentDesk$Big;", true)
  | 7 => ("MomentDesk", "one", "LMomentDesk$Big;", true)
  | 8 => ("MomentDesk", "other", "LMomentDesk$Big;", true)
  | _ => ("MomentDesk", "spare", "LMomentDesk$Big;", true)
def tyX4 : Nat → FieldType := fun k => match k with
  | 0 => .object "MomentDesk$Weights"
  | 1 => .array (.object "MomentDesk$Weights")
  | 2 => .array .boolean
  | 3 => .object "MomentDesk$Hand"
  | 4 => .array .long
  | 5 => .array (.object "MomentDesk$Big")
  | 6 => .object "MomentDesk$Big"
  | 7 => .object "MomentDesk$Big"
  | 8 => .object "MomentDesk$Big"
  | _ => .object "MomentDesk$Big"
abbrev wsX40 : List Cond := u_ws RX4 TX4 10
theorem nmX4 : ∀ a, a < 10 → ∀ b, b < 10 → a ≠ b → (TX4 a).2.1 ≠ (TX4 b).2.1 := by decide +kernel
theorem tyX4_ok : ∀ k, k < 10 → parseFieldDescriptor (TX4 k).2.2.1 = some (tyX4 k) := by decide +kernel
abbrev cX4_init : ByteArray := prog_1_method_1_code
def yX4_init : MethodName := ⟨RX4, "<init>", "()V"⟩
abbrev cX4_clear : ByteArray := prog_1_method_2_code
def yX4_clear : MethodName := ⟨RX4, "clear", "()I"⟩
abbrev cX4_point : ByteArray := prog_1_method_3_code
def yX4_point : MethodName := ⟨RX4, "point", "(II)I"⟩
abbrev cX4_moment : ByteArray := prog_1_method_4_code
def yX4_moment : MethodName := ⟨RX4, "moment", "(II)I"⟩
abbrev cX4_span : ByteArray := prog_1_method_5_code
def yX4_span : MethodName := ⟨RX4, "span", "(II)I"⟩
abbrev cX4_counted : ByteArray := prog_1_method_6_code
def yX4_counted : MethodName := ⟨RX4, "counted", "(IIII)I"⟩
abbrev cX4_by : ByteArray := prog_1_method_7_code
def yX4_by : MethodName := ⟨RX4, "by", "(I)I"⟩
abbrev cX4_mirror : ByteArray := prog_1_method_8_code
def yX4_mirror : MethodName := ⟨RX4, "mirror", "(I)I"⟩
abbrev cX4_layMoment : ByteArray := prog_1_method_9_code
def yX4_layMoment : MethodName := ⟨RX4, "layMoment", "(I)I"⟩
abbrev cX4_layWorth : ByteArray := prog_1_method_10_code
def yX4_layWorth : MethodName := ⟨RX4, "layWorth", "(I)I"⟩
abbrev cX4_layDeterminant : ByteArray := prog_1_method_11_code
def yX4_layDeterminant : MethodName := ⟨RX4, "layDeterminant", "(I)I"⟩
abbrev cX4_layNumber : ByteArray := prog_1_method_12_code
def yX4_layNumber : MethodName := ⟨RX4, "layNumber", "(II)I"⟩
abbrev cX4_layRule : ByteArray := prog_1_method_13_code
def yX4_layRule : MethodName := ⟨RX4, "layRule", "(II)I"⟩
abbrev cX4_layValue : ByteArray := prog_1_method_14_code
def yX4_layValue : MethodName := ⟨RX4, "layValue", "(III)I"⟩
abbrev cX4_layProduct : ByteArray := prog_1_method_15_code
def yX4_layProduct : MethodName := ⟨RX4, "layProduct", "(II)I"⟩
abbrev cX4_layShare : ByteArray := prog_1_method_16_code
def yX4_layShare : MethodName := ⟨RX4, "layShare", "(II)I"⟩
abbrev cX4_layKernel : ByteArray := prog_1_method_17_code
def yX4_layKernel : MethodName := ⟨RX4, "layKernel", "(III)I"⟩
abbrev cX4_layLeft : ByteArray := prog_1_method_18_code
def yX4_layLeft : MethodName := ⟨RX4, "layLeft", "(II)I"⟩
abbrev cX4_sign : ByteArray := prog_1_method_19_code
def yX4_sign : MethodName := ⟨RX4, "sign", "()I"⟩
abbrev cX4_bits : ByteArray := prog_1_method_20_code
def yX4_bits : MethodName := ⟨RX4, "bits", "(I)I"⟩
abbrev cX4_word : ByteArray := prog_1_method_21_code
def yX4_word : MethodName := ⟨RX4, "word", "(II)I"⟩
abbrev cX4_against : ByteArray := prog_1_method_22_code
def yX4_against : MethodName := ⟨RX4, "against", "(II)I"⟩
abbrev cX4_below : ByteArray := prog_1_method_23_code
def yX4_below : MethodName := ⟨RX4, "below", "(III)I"⟩
abbrev cX4_shut : ByteArray := prog_1_method_24_code
def yX4_shut : MethodName := ⟨RX4, "shut", "(III)I"⟩
abbrev cX4_good : ByteArray := prog_1_method_25_code
def yX4_good : MethodName := ⟨RX4, "good", "()I"⟩
abbrev cX4_few : ByteArray := prog_1_method_26_code
def yX4_few : MethodName := ⟨RX4, "few", "()I"⟩
abbrev cX4_told : ByteArray := prog_1_method_27_code
def yX4_told : MethodName := ⟨RX4, "told", "(I)I"⟩
abbrev cX4_keep : ByteArray := prog_1_method_28_code
def yX4_keep : MethodName := ⟨RX4, "keep", "(I)I"⟩
abbrev cX4_back : ByteArray := prog_1_method_29_code
def yX4_back : MethodName := ⟨RX4, "back", "(I)I"⟩
abbrev cX4_differs : ByteArray := prog_1_method_30_code
def yX4_differs : MethodName := ⟨RX4, "differs", "(I)I"⟩
abbrev cX4_isWithin : ByteArray := prog_1_method_31_code
def yX4_isWithin : MethodName := ⟨RX4, "isWithin", "(II)Z"⟩
abbrev cX4_isFraction : ByteArray := prog_1_method_32_code
def yX4_isFraction : MethodName := ⟨RX4, "isFraction", "(II)Z"⟩
abbrev cX4_isKeptAt : ByteArray := prog_1_method_33_code
def yX4_isKeptAt : MethodName := ⟨RX4, "isKeptAt", "(I)Z"⟩
abbrev cX4_isCountable : ByteArray := prog_1_method_34_code
def yX4_isCountable : MethodName := ⟨RX4, "isCountable", "(IIII)Z"⟩
abbrev cX4_countedWeight : ByteArray := prog_1_method_35_code
def yX4_countedWeight : MethodName := ⟨RX4, "countedWeight", "(IIIII)J"⟩
abbrev cX4_ways : ByteArray := prog_1_method_36_code
def yX4_ways : MethodName := ⟨RX4, "ways", "(II)J"⟩
abbrev cX4_power : ByteArray := prog_1_method_37_code
def yX4_power : MethodName := ⟨RX4, "power", "(II)J"⟩
abbrev cX4_addMomentTimes : ByteArray := prog_1_method_38_code
def yX4_addMomentTimes : MethodName := ⟨RX4, "addMomentTimes", "(IJ)V"⟩
abbrev cX4_takesSumAsMoment : ByteArray := prog_1_method_39_code
def yX4_takesSumAsMoment : MethodName := ⟨RX4, "takesSumAsMoment", "(I)Z"⟩
abbrev cX4_layRuleA : ByteArray := prog_1_method_40_code
def yX4_layRuleA : MethodName := ⟨RX4, "layRuleA", "(LMomentDesk$Polys;I)I"⟩
abbrev cX4_layRuleB : ByteArray := prog_1_method_41_code
def yX4_layRuleB : MethodName := ⟨RX4, "layRuleB", "(LMomentDesk$Polys;I)I"⟩
abbrev cX4_setQuotient : ByteArray := prog_1_method_42_code
def yX4_setQuotient : MethodName := ⟨RX4, "setQuotient", "(LMomentDesk$Polys;II)V"⟩
abbrev cX4_rootsBelow : ByteArray := prog_1_method_43_code
def yX4_rootsBelow : MethodName := ⟨RX4, "rootsBelow", "(LMomentDesk$Polys;III)I"⟩
abbrev cX4_isSamePoly : ByteArray := prog_1_method_44_code
def yX4_isSamePoly : MethodName := ⟨RX4, "isSamePoly", "(LMomentDesk$Polys;LMomentDesk$Polys;I)Z"⟩
def RX5 : String := "MomentDeskModel"
def TX5 : u_T := fun k => match k with
  | 0 => ("MomentDeskModel", "z", "[I", true)
  | 1 => ("MomentDeskModel", "long0", "[I", true)
  | 2 => ("MomentDeskModel", "sign", "[I", true)
  | 3 => ("MomentDeskModel", "moments", "[J", true)
  | 4 => ("MomentDeskModel", "kind", "I", false)
  | 5 => ("MomentDeskModel", "last", "I", false)
  | 6 => ("MomentDeskModel", "isChanged", "Z", false)
  | 7 => ("MomentDeskModel", "points", "I", false)
  | 8 => ("MomentDeskModel", "place", "[I", true)
  | 9 => ("MomentDeskModel", "weight", "[I", true)
  | 10 => ("MomentDeskModel", "fresh", "[J", true)
  | 11 => ("MomentDeskModel", "order", "[I", true)
  | 12 => ("MomentDeskModel", "keptMoments", "[J", true)
  | 13 => ("MomentDeskModel", "keptPlace", "[I", true)
  | 14 => ("MomentDeskModel", "keptWeight", "[I", true)
  | 15 => ("MomentDeskModel", "keptRest", "[I", true)
  | _ => ("MomentDeskModel", "heldMoments", "[J", true)
def tyX5 : Nat → FieldType := fun k => match k with
  | 0 => .array .int
  | 1 => .array .int
  | 2 => .array .int
  | 3 => .array .long
  | 4 => .int
  | 5 => .int
  | 6 => .boolean
  | 7 => .int
  | 8 => .array .int
  | 9 => .array .int
  | 10 => .array .long
  | 11 => .array .int
  | 12 => .array .long
  | 13 => .array .int
  | 14 => .array .int
  | 15 => .array .int
  | _ => .array .long
abbrev wsX50 : List Cond := u_ws RX5 TX5 17
theorem nmX5 : ∀ a, a < 17 → ∀ b, b < 17 → a ≠ b → (TX5 a).2.1 ≠ (TX5 b).2.1 := by decide +kernel
theorem tyX5_ok : ∀ k, k < 17 → parseFieldDescriptor (TX5 k).2.2.1 = some (tyX5 k) := by decide +kernel
abbrev cX5_init : ByteArray := prog_7_method_1_code
def yX5_init : MethodName := ⟨RX5, "<init>", "()V"⟩
abbrev cX5_in : ByteArray := prog_7_method_3_code
def yX5_in : MethodName := ⟨RX5, "in", "(JJJ)Z"⟩
abbrev cX5_set : ByteArray := prog_7_method_4_code
def yX5_set : MethodName := ⟨RX5, "set", "(IJ)V"⟩
abbrev cX5_copy : ByteArray := prog_7_method_5_code
def yX5_copy : MethodName := ⟨RX5, "copy", "(II)V"⟩
abbrev cX5_cut : ByteArray := prog_7_method_6_code
def yX5_cut : MethodName := ⟨RX5, "cut", "(I)V"⟩
abbrev cX5_compare : ByteArray := prog_7_method_7_code
def yX5_compare : MethodName := ⟨RX5, "compare", "(II)I"⟩
abbrev cX5_limb : ByteArray := prog_7_method_8_code
def yX5_limb : MethodName := ⟨RX5, "limb", "(II)I"⟩
abbrev cX5_join : ByteArray := prog_7_method_9_code
def yX5_join : MethodName := ⟨RX5, "join", "(III)V"⟩
abbrev cX5_less : ByteArray := prog_7_method_10_code
def yX5_less : MethodName := ⟨RX5, "less", "(III)V"⟩
abbrev cX5_add : ByteArray := prog_7_method_11_code
def yX5_add : MethodName := ⟨RX5, "add", "(IIII)V"⟩
abbrev cX5_multiply : ByteArray := prog_7_method_12_code
def yX5_multiply : MethodName := ⟨RX5, "multiply", "(III)V"⟩
abbrev cX5_times : ByteArray := prog_7_method_13_code
def yX5_times : MethodName := ⟨RX5, "times", "(IJ)V"⟩
abbrev cX5_bitsOf : ByteArray := prog_7_method_14_code
def yX5_bitsOf : MethodName := ⟨RX5, "bitsOf", "(I)I"⟩
abbrev cX5_halve : ByteArray := prog_7_method_15_code
def yX5_halve : MethodName := ⟨RX5, "halve", "(I)V"⟩
abbrev cX5_twice : ByteArray := prog_7_method_16_code
def yX5_twice : MethodName := ⟨RX5, "twice", "(II)V"⟩
abbrev cX5_isEven : ByteArray := prog_7_method_17_code
def yX5_isEven : MethodName := ⟨RX5, "isEven", "(I)Z"⟩
abbrev cX5_findCommon : ByteArray := prog_7_method_18_code
def yX5_findCommon : MethodName := ⟨RX5, "findCommon", "(II)V"⟩
abbrev cX5_divide : ByteArray := prog_7_method_19_code
def yX5_divide : MethodName := ⟨RX5, "divide", "(I)V"⟩
abbrev cX5_shorten : ByteArray := prog_7_method_20_code
def yX5_shorten : MethodName := ⟨RX5, "shorten", "(II)V"⟩
abbrev cX5_lay : ByteArray := prog_7_method_21_code
def yX5_lay : MethodName := ⟨RX5, "lay", "(II)I"⟩
abbrev cX5_power : ByteArray := prog_7_method_22_code
def yX5_power : MethodName := ⟨RX5, "power", "(JI)J"⟩
abbrev cX5_begin : ByteArray := prog_7_method_23_code
def yX5_begin : MethodName := ⟨RX5, "begin", "(I)V"⟩
abbrev cX5_addWeight : ByteArray := prog_7_method_24_code
def yX5_addWeight : MethodName := ⟨RX5, "addWeight", "(IJ)V"⟩
abbrev cX5_clear : ByteArray := prog_7_method_25_code
def yX5_clear : MethodName := ⟨RX5, "clear", "()I"⟩
abbrev cX5_point : ByteArray := prog_7_method_26_code
def yX5_point : MethodName := ⟨RX5, "point", "(II)I"⟩
abbrev cX5_moment : ByteArray := prog_7_method_27_code
def yX5_moment : MethodName := ⟨RX5, "moment", "(II)I"⟩
abbrev cX5_span : ByteArray := prog_7_method_28_code
def yX5_span : MethodName := ⟨RX5, "span", "(II)I"⟩
abbrev cX5_over : ByteArray := prog_7_method_29_code
def yX5_over : MethodName := ⟨RX5, "over", "(II)J"⟩
abbrev cX5_counted : ByteArray := prog_7_method_30_code
def yX5_counted : MethodName := ⟨RX5, "counted", "(IIII)I"⟩
abbrev cX5_isMoment : ByteArray := prog_7_method_31_code
def yX5_isMoment : MethodName := ⟨RX5, "isMoment", "(II)Z"⟩
abbrev cX5_changeTo : ByteArray := prog_7_method_32_code
def yX5_changeTo : MethodName := ⟨RX5, "changeTo", "(I)V"⟩
abbrev cX5_by : ByteArray := prog_7_method_33_code
def yX5_by : MethodName := ⟨RX5, "by", "(I)I"⟩
abbrev cX5_mirror : ByteArray := prog_7_method_34_code
def yX5_mirror : MethodName := ⟨RX5, "mirror", "(I)I"⟩
abbrev cX5_nextOrder : ByteArray := prog_7_method_35_code
def yX5_nextOrder : MethodName := ⟨RX5, "nextOrder", "(I)Z"⟩
abbrev cX5_swap : ByteArray := prog_7_method_36_code
def yX5_swap : MethodName := ⟨RX5, "swap", "(II)V"⟩
abbrev cX5_parity : ByteArray := prog_7_method_37_code
def yX5_parity : MethodName := ⟨RX5, "parity", "(I)I"⟩
abbrev cX5_determinant : ByteArray := prog_7_method_38_code
def yX5_determinant : MethodName := ⟨RX5, "determinant", "(III)V"⟩
abbrev cX5_worthOf : ByteArray := prog_7_method_39_code
def yX5_worthOf : MethodName := ⟨RX5, "worthOf", "(II)V"⟩
abbrev cX5_number : ByteArray := prog_7_method_40_code
def yX5_number : MethodName := ⟨RX5, "number", "(III)V"⟩
abbrev cX5_top : ByteArray := prog_7_method_41_code
def yX5_top : MethodName := ⟨RX5, "top", "()I"⟩
abbrev cX5_hasPolynomial : ByteArray := prog_7_method_42_code
def yX5_hasPolynomial : MethodName := ⟨RX5, "hasPolynomial", "(I)Z"⟩
abbrev cX5_hasWorth : ByteArray := prog_7_method_43_code
def yX5_hasWorth : MethodName := ⟨RX5, "hasWorth", "(I)Z"⟩
abbrev cX5_worthSign : ByteArray := prog_7_method_44_code
def yX5_worthSign : MethodName := ⟨RX5, "worthSign", "(I)I"⟩
abbrev cX5_layMoment : ByteArray := prog_7_method_45_code
def yX5_layMoment : MethodName := ⟨RX5, "layMoment", "(I)I"⟩
abbrev cX5_layWorth : ByteArray := prog_7_method_46_code
def yX5_layWorth : MethodName := ⟨RX5, "layWorth", "(I)I"⟩
abbrev cX5_layDeterminant : ByteArray := prog_7_method_47_code
def yX5_layDeterminant : MethodName := ⟨RX5, "layDeterminant", "(I)I"⟩
abbrev cX5_layNumber : ByteArray := prog_7_method_48_code
def yX5_layNumber : MethodName := ⟨RX5, "layNumber", "(II)I"⟩
abbrev cX5_layRule : ByteArray := prog_7_method_49_code
def yX5_layRule : MethodName := ⟨RX5, "layRule", "(II)I"⟩
abbrev cX5_isFraction : ByteArray := prog_7_method_50_code
def yX5_isFraction : MethodName := ⟨RX5, "isFraction", "(II)Z"⟩
abbrev cX5_value : ByteArray := prog_7_method_51_code
def yX5_value : MethodName := ⟨RX5, "value", "(IJJI)V"⟩
abbrev cX5_layValue : ByteArray := prog_7_method_52_code
def yX5_layValue : MethodName := ⟨RX5, "layValue", "(III)I"⟩
abbrev cX5_of : ByteArray := prog_7_method_53_code
def yX5_of : MethodName := ⟨RX5, "of", "(III)V"⟩
abbrev cX5_layProduct : ByteArray := prog_7_method_54_code
def yX5_layProduct : MethodName := ⟨RX5, "layProduct", "(II)I"⟩
abbrev cX5_layShare : ByteArray := prog_7_method_55_code
def yX5_layShare : MethodName := ⟨RX5, "layShare", "(II)I"⟩
abbrev cX5_layKernel : ByteArray := prog_7_method_56_code
def yX5_layKernel : MethodName := ⟨RX5, "layKernel", "(III)I"⟩
abbrev cX5_layLeft : ByteArray := prog_7_method_57_code
def yX5_layLeft : MethodName := ⟨RX5, "layLeft", "(II)I"⟩
abbrev cX5_leftOnce : ByteArray := prog_7_method_58_code
def yX5_leftOnce : MethodName := ⟨RX5, "leftOnce", "(I)V"⟩
abbrev cX5_sign : ByteArray := prog_7_method_59_code
def yX5_sign : MethodName := ⟨RX5, "sign", "()I"⟩
abbrev cX5_bits : ByteArray := prog_7_method_60_code
def yX5_bits : MethodName := ⟨RX5, "bits", "(I)I"⟩
abbrev cX5_word : ByteArray := prog_7_method_61_code
def yX5_word : MethodName := ⟨RX5, "word", "(II)I"⟩
abbrev cX5_against : ByteArray := prog_7_method_62_code
def yX5_against : MethodName := ⟨RX5, "against", "(II)I"⟩
abbrev cX5_areAbove : ByteArray := prog_7_method_63_code
def yX5_areAbove : MethodName := ⟨RX5, "areAbove", "(I)Z"⟩
abbrev cX5_rootsBelow : ByteArray := prog_7_method_64_code
def yX5_rootsBelow : MethodName := ⟨RX5, "rootsBelow", "(IJJ)I"⟩
abbrev cX5_below : ByteArray := prog_7_method_65_code
def yX5_below : MethodName := ⟨RX5, "below", "(III)I"⟩
abbrev cX5_shut : ByteArray := prog_7_method_66_code
def yX5_shut : MethodName := ⟨RX5, "shut", "(III)I"⟩
abbrev cX5_good : ByteArray := prog_7_method_67_code
def yX5_good : MethodName := ⟨RX5, "good", "()I"⟩
abbrev cX5_few : ByteArray := prog_7_method_68_code
def yX5_few : MethodName := ⟨RX5, "few", "()I"⟩
abbrev cX5_told : ByteArray := prog_7_method_69_code
def yX5_told : MethodName := ⟨RX5, "told", "(I)I"⟩
abbrev cX5_keep : ByteArray := prog_7_method_70_code
def yX5_keep : MethodName := ⟨RX5, "keep", "(I)I"⟩
abbrev cX5_isKept : ByteArray := prog_7_method_71_code
def yX5_isKept : MethodName := ⟨RX5, "isKept", "(I)Z"⟩
abbrev cX5_take : ByteArray := prog_7_method_72_code
def yX5_take : MethodName := ⟨RX5, "take", "(I)V"⟩
abbrev cX5_back : ByteArray := prog_7_method_73_code
def yX5_back : MethodName := ⟨RX5, "back", "(I)I"⟩
abbrev cX5_differs : ByteArray := prog_7_method_74_code
def yX5_differs : MethodName := ⟨RX5, "differs", "(I)I"⟩
abbrev cX5_isOther : ByteArray := prog_7_method_75_code
def yX5_isOther : MethodName := ⟨RX5, "isOther", "(II)Z"⟩
def RJx8e188 : String := "java/lang/Cloneable"
def TJx8e188 : u_T := fun k => match k with
  | _ => ("", "", "", false)
def tyJx8e188 : Nat → FieldType := fun k => match k with
  | _ => .int
abbrev wsJx8e1880 : List Cond := u_ws RJx8e188 TJx8e188 0
theorem nmJx8e188 : ∀ a, a < 0 → ∀ b, b < 0 → a ≠ b → (TJx8e188 a).2.1 ≠ (TJx8e188 b).2.1 := by decide +kernel
theorem tyJx8e188_ok : ∀ k, k < 0 → parseFieldDescriptor (TJx8e188 k).2.2.1 = some (tyJx8e188 k) := by decide +kernel
def RJ6 : String := "java/lang/Integer"
def TJ6 : u_T := fun k => match k with
  | _ => ("", "", "", false)
def tyJ6 : Nat → FieldType := fun k => match k with
  | _ => .int
abbrev wsJ60 : List Cond := u_ws RJ6 TJ6 0
theorem nmJ6 : ∀ a, a < 0 → ∀ b, b < 0 → a ≠ b → (TJ6 a).2.1 ≠ (TJ6 b).2.1 := by decide +kernel
theorem tyJ6_ok : ∀ k, k < 0 → parseFieldDescriptor (TJ6 k).2.2.1 = some (tyJ6 k) := by decide +kernel
abbrev cJ6_numberOfLeadingZeros_0f7a4 : ByteArray := prog_9_method_47_code
def yJ6_numberOfLeadingZeros_0f7a4 : MethodName := ⟨RJ6, "numberOfLeadingZeros", "(I)I"⟩
abbrev cJ6_numberOfTrailingZeros_0f7a4 : ByteArray := prog_9_method_48_code
def yJ6_numberOfTrailingZeros_0f7a4 : MethodName := ⟨RJ6, "numberOfTrailingZeros", "(I)I"⟩
abbrev cJ6_bitCount_0f7a4 : ByteArray := prog_9_method_49_code
def yJ6_bitCount_0f7a4 : MethodName := ⟨RJ6, "bitCount", "(I)I"⟩
def RJ13 : String := "java/lang/Long"
def TJ13 : u_T := fun k => match k with
  | _ => ("", "", "", false)
def tyJ13 : Nat → FieldType := fun k => match k with
  | _ => .int
abbrev wsJ130 : List Cond := u_ws RJ13 TJ13 0
theorem nmJ13 : ∀ a, a < 0 → ∀ b, b < 0 → a ≠ b → (TJ13 a).2.1 ≠ (TJ13 b).2.1 := by decide +kernel
theorem tyJ13_ok : ∀ k, k < 0 → parseFieldDescriptor (TJ13 k).2.2.1 = some (tyJ13 k) := by decide +kernel
abbrev cJ13_compare_74951 : ByteArray := prog_10_method_42_code
def yJ13_compare_74951 : MethodName := ⟨RJ13, "compare", "(JJ)I"⟩
def RJ9 : String := "java/lang/Math"
def TJ9 : u_T := fun k => match k with
  | _ => ("", "", "", false)
def tyJ9 : Nat → FieldType := fun k => match k with
  | _ => .int
abbrev wsJ90 : List Cond := u_ws RJ9 TJ9 0
theorem nmJ9 : ∀ a, a < 0 → ∀ b, b < 0 → a ≠ b → (TJ9 a).2.1 ≠ (TJ9 b).2.1 := by decide +kernel
theorem tyJ9_ok : ∀ k, k < 0 → parseFieldDescriptor (TJ9 k).2.2.1 = some (tyJ9 k) := by decide +kernel
abbrev cJ9_abs_067f4 : ByteArray := prog_11_method_61_code
def yJ9_abs_067f4 : MethodName := ⟨RJ9, "abs", "(J)J"⟩
abbrev cJ9_max_7cf53 : ByteArray := prog_11_method_65_code
def yJ9_max_7cf53 : MethodName := ⟨RJ9, "max", "(II)I"⟩
abbrev cJ9_min_7cf53 : ByteArray := prog_11_method_69_code
def yJ9_min_7cf53 : MethodName := ⟨RJ9, "min", "(II)I"⟩
def RJ10 : String := "java/lang/System"
def TJ10 : u_T := fun k => match k with
  | _ => ("", "", "", false)
def tyJ10 : Nat → FieldType := fun k => match k with
  | _ => .int
abbrev wsJ100 : List Cond := u_ws RJ10 TJ10 0
theorem nmJ10 : ∀ a, a < 0 → ∀ b, b < 0 → a ≠ b → (TJ10 a).2.1 ≠ (TJ10 b).2.1 := by decide +kernel
theorem tyJ10_ok : ∀ k, k < 0 → parseFieldDescriptor (TJ10 k).2.2.1 = some (tyJ10 k) := by decide +kernel
def RJ7 : String := "java/util/Arrays"
def TJ7 : u_T := fun k => match k with
  | _ => ("", "", "", false)
def tyJ7 : Nat → FieldType := fun k => match k with
  | _ => .int
abbrev wsJ70 : List Cond := u_ws RJ7 TJ7 0
theorem nmJ7 : ∀ a, a < 0 → ∀ b, b < 0 → a ≠ b → (TJ7 a).2.1 ≠ (TJ7 b).2.1 := by decide +kernel
theorem tyJ7_ok : ∀ k, k < 0 → parseFieldDescriptor (TJ7 k).2.2.1 = some (tyJ7 k) := by decide +kernel
abbrev cJ7_rangeCheck_23922 : ByteArray := prog_13_method_30_code
def yJ7_rangeCheck_23922 : MethodName := ⟨RJ7, "rangeCheck", "(III)V"⟩
abbrev cJ7_fill_d0a16 : ByteArray := prog_13_method_101_code
def yJ7_fill_d0a16 : MethodName := ⟨RJ7, "fill", "([JJ)V"⟩
abbrev cJ7_fill_53178 : ByteArray := prog_13_method_103_code
def yJ7_fill_53178 : MethodName := ⟨RJ7, "fill", "([II)V"⟩
abbrev cJ7_fill_fda19 : ByteArray := prog_13_method_104_code
def yJ7_fill_fda19 : MethodName := ⟨RJ7, "fill", "([IIII)V"⟩
abbrev cJ7_copyOf_59c91 : ByteArray := prog_13_method_123_code
def yJ7_copyOf_59c91 : MethodName := ⟨RJ7, "copyOf", "([II)[I"⟩
def RL : String := "MomentDeskLaw"
abbrev cL_law : ByteArray := code
def yL_law : MethodName := ⟨RL, "law", "([I)Z"⟩
end
section
/-! ===== digits ===== -/
def u32 (x : Int32) : Nat := x.toBitVec.toNat
theorem u32_lt (x : Int32) : u32 x < 2 ^ 32 := x.toBitVec.isLt
theorem u32_inj {x y : Int32} (h : u32 x = u32 y) : x = y := by
  have : x.toBitVec = y.toBitVec := BitVec.eq_of_toNat_eq h
  exact Int32.toBitVec_inj.mp this
theorem u32_nI (n : Nat) : u32 (nI n) = n % 2 ^ 32 := by
  unfold u32 nI
  simp [Int32.toBitVec_ofNat]
theorem u32_0 {x : Int32} : u32 x = 0 ↔ x = 0 := by
  constructor
  · intro h
    exact u32_inj (by rw [h]; rfl)
  · intro h
    rw [h]; rfl
def u64 (x : Int64) : Nat := x.toBitVec.toNat
theorem u64_lN (n : Nat) : u64 (lN n) = n % 2 ^ 64 := by
  unfold u64 lN
  simp [Int64.toBitVec_ofNat]
theorem u64_inj {x y : Int64} (h : u64 x = u64 y) : x = y := by
  have : x.toBitVec = y.toBitVec := BitVec.eq_of_toNat_eq h
  exact Int64.toBitVec_inj.mp this
theorem lN_of (x : Int64) : x = lN (u64 x) := u64_inj (by
  rw [u64_lN, Nat.mod_eq_of_lt]
  exact x.toBitVec.isLt)
theorem nI_of32 (x : Int32) : x = nI (u32 x) := u32_inj (by
  rw [u32_nI, Nat.mod_eq_of_lt (u32_lt x)])
/-- parts[i] & PART -/
theorem l_mask (x : Int32) : x.toInt64 &&& 4294967295 = lN (u32 x) := by
  apply u64_inj
  rw [u64_lN, Nat.mod_eq_of_lt (by have := u32_lt x; omega)]
  unfold u64 u32
  rw [Int64.toBitVec_and, show (4294967295 : Int64).toBitVec = BitVec.ofNat 64 (2 ^ 32 - 1) by decide, BitVec.toNat_and, BitVec.toNat_ofNat, Nat.mod_eq_of_lt (by decide), Nat.and_two_pow_sub_one_eq_mod, Int32.toBitVec_toInt64, BitVec.toNat_signExtend]
  have h := x.toBitVec.isLt
  simp only [BitVec.toNat_setWidth]
  split <;> omega
theorem l_shr32 {c : Nat} (h : c < 2 ^ 64) : ((lN c).toUInt64 >>> ((32 : Int32).toInt64.toUInt64 &&& Int64.toUInt64 63)).toInt64 = lN (c / 2 ^ 32) := by
  apply u64_inj
  rw [u64_lN, Nat.mod_eq_of_lt (by omega)]
  unfold u64
  rw [show ((32 : Int32).toInt64.toUInt64 &&& Int64.toUInt64 63) = 32 by decide]
  simp [lN, Int64.toBitVec_ofNat, Nat.mod_eq_of_lt h, Nat.shiftRight_eq_div_pow]
/-- value of n digits in base B -/
def dv (B : Nat) (g : Nat → Nat) : Nat → Nat
  | 0 => 0
  | n + 1 => dv B g n + g n * B ^ n
theorem dv_congr {B : Nat} {g h : Nat → Nat} : ∀ {n : Nat}, (∀ i, i < n → g i = h i) → dv B g n = dv B h n
  | 0, _ => rfl
  | n + 1, e => by rw [dv, dv, dv_congr (fun i hi => e i (by omega)), e n (by omega)]
theorem dv_lt {B : Nat} {g : Nat → Nat} : ∀ {n : Nat}, (∀ i, i < n → g i < B) → dv B g n < B ^ n
  | 0, _ => by simp [dv]
  | n + 1, e => by
    have h1 := dv_lt (B := B) (g := g) (n := n) (fun i hi => e i (by omega))
    have h2 := e n (by omega)
    have h3 : (g n + 1) * B ^ n ≤ B * B ^ n := Nat.mul_le_mul_right _ h2
    rw [dv, Nat.pow_succ, Nat.mul_comm (B ^ n) B]
    rw [Nat.add_mul, Nat.one_mul] at h3
    omega
theorem dv_ext {B : Nat} {g : Nat → Nat} {n : Nat} : ∀ {m : Nat}, n ≤ m → (∀ i, n ≤ i → i < m → g i = 0) → dv B g m = dv B g n
  | 0, h, _ => by rw [Nat.le_zero.mp h]
  | m + 1, h, e => by
    rcases Nat.lt_or_ge m n with q | q
    · rw [show n = m + 1 by omega]
    · rw [dv, dv_ext q (fun i h1 h2 => e i h1 (by omega)), e m q (by omega), Nat.zero_mul, Nat.add_zero]
theorem dv_top {B : Nat} {g : Nat → Nat} {n : Nat} (h : g n ≠ 0) : B ^ n ≤ dv B g (n + 1) := by
  rw [dv]
  have : 1 * B ^ n ≤ g n * B ^ n := Nat.mul_le_mul_right _ (by omega)
  omega
theorem dv_cmp {B : Nat} {g h : Nat → Nat} {k : Nat} (hg : ∀ i, i < k → g i < B) (hlt : g k < h k) : ∀ {n : Nat}, k < n → (∀ i, k < i → i < n → g i = h i) → dv B g n < dv B h n
  | 0, h1, _ => absurd h1 (Nat.not_lt_zero k)
  | n + 1, h1, e => by
    rcases Nat.lt_or_ge k n with q | q
    · rw [dv, dv, e n q (by omega)]
      have := dv_cmp hg hlt q (fun i a b => e i a (by omega))
      omega
    · have hk : n = k := by omega
      subst hk
      rw [dv, dv]
      have h2 := dv_lt (B := B) (g := g) (n := n) hg
      have h3 : (g n + 1) * B ^ n ≤ h n * B ^ n := Nat.mul_le_mul_right _ hlt
      rw [Nat.add_mul, Nat.one_mul] at h3
      omega
theorem t_ring (a b c d : Int) : (a + b) * (c - d) = a * c - a * d + b * c - b * d := by grind
theorem t_ring2 (a b c d e f g h i : Int) : a*(e*i-f*h) - b*(d*i-f*g) + c*(d*h-e*g) = -(d*(b*i-c*h) - e*(a*i-c*g) + f*(a*h-b*g)) := by grind
end
